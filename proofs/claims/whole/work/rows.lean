section
-- ===== PART A: goes FIRST, ahead of the names: the tables' words, and 'selects' of the private methods out of them =====
/-- a private method of a class that the tables say can be made, by its rows of tables_1 -/
def lw_okq (q : MethodName × Nat) : Prop := (q.1.cls ≠ "java/lang/invoke/MethodHandle" ∧ q.1.cls ≠ "java/lang/invoke/VarHandle") ∧ Cond.instantiable q.1.cls q.2 ∈ tables_1 ∧ Cond.privateMethod q.1 ∈ tables_1 ∧ Cond.instanceMethod q.1 ∈ tables_1
theorem lw_p0 : lw_okq (⟨"StructureRows$Trail", "passElement", "(I)I"⟩, 5) := ⟨⟨by decide +kernel, by decide +kernel⟩, List.mem_of_getElem? (i := 76) (by decide +kernel), List.mem_of_getElem? (i := 256) (by decide +kernel), List.mem_of_getElem? (i := 257) (by decide +kernel)⟩
theorem lw_p1 : lw_okq (⟨"StructureRows$Trail", "passPart", "(I)I"⟩, 5) := ⟨⟨by decide +kernel, by decide +kernel⟩, List.mem_of_getElem? (i := 76) (by decide +kernel), List.mem_of_getElem? (i := 284) (by decide +kernel), List.mem_of_getElem? (i := 285) (by decide +kernel)⟩
theorem lw_p2 : lw_okq (⟨"StructureRows", "findElementsWithoutStandard", "()V"⟩, 17) := ⟨⟨by decide +kernel, by decide +kernel⟩, List.mem_of_getElem? (i := 20) (by decide +kernel), List.mem_of_getElem? (i := 295) (by decide +kernel), List.mem_of_getElem? (i := 296) (by decide +kernel)⟩
theorem lw_p3 : lw_okq (⟨"StructureRows", "findHeadingsWithoutLevel", "()V"⟩, 17) := ⟨⟨by decide +kernel, by decide +kernel⟩, List.mem_of_getElem? (i := 20) (by decide +kernel), List.mem_of_getElem? (i := 304) (by decide +kernel), List.mem_of_getElem? (i := 305) (by decide +kernel)⟩
theorem lw_p4 : lw_okq (⟨"StructureRows", "findSkippedLevels", "()V"⟩, 17) := ⟨⟨by decide +kernel, by decide +kernel⟩, List.mem_of_getElem? (i := 20) (by decide +kernel), List.mem_of_getElem? (i := 308) (by decide +kernel), List.mem_of_getElem? (i := 309) (by decide +kernel)⟩
theorem lw_p5 : lw_okq (⟨"StructureRows", "gatherHeadings", "()V"⟩, 17) := ⟨⟨by decide +kernel, by decide +kernel⟩, List.mem_of_getElem? (i := 20) (by decide +kernel), List.mem_of_getElem? (i := 312) (by decide +kernel), List.mem_of_getElem? (i := 313) (by decide +kernel)⟩
theorem lw_p6 : lw_okq (⟨"StructureRows$Headings", "depthBehind", "(I)I"⟩, 4) := ⟨⟨by decide +kernel, by decide +kernel⟩, List.mem_of_getElem? (i := 119) (by decide +kernel), List.mem_of_getElem? (i := 320) (by decide +kernel), List.mem_of_getElem? (i := 321) (by decide +kernel)⟩
theorem lw_p7 : lw_okq (⟨"StructureRows", "findMisplaced", "()V"⟩, 17) := ⟨⟨by decide +kernel, by decide +kernel⟩, List.mem_of_getElem? (i := 20) (by decide +kernel), List.mem_of_getElem? (i := 324) (by decide +kernel), List.mem_of_getElem? (i := 325) (by decide +kernel)⟩
theorem lw_p8 : lw_okq (⟨"StructureRows", "findUnevenTables", "()V"⟩, 17) := ⟨⟨by decide +kernel, by decide +kernel⟩, List.mem_of_getElem? (i := 20) (by decide +kernel), List.mem_of_getElem? (i := 341) (by decide +kernel), List.mem_of_getElem? (i := 342) (by decide +kernel)⟩
theorem lw_p9 : lw_okq (⟨"StructureRows", "isUneven", "(I)Z"⟩, 17) := ⟨⟨by decide +kernel, by decide +kernel⟩, List.mem_of_getElem? (i := 20) (by decide +kernel), List.mem_of_getElem? (i := 345) (by decide +kernel), List.mem_of_getElem? (i := 346) (by decide +kernel)⟩
theorem lw_p10 : lw_okq (⟨"StructureRows", "layCells", "(I)V"⟩, 17) := ⟨⟨by decide +kernel, by decide +kernel⟩, List.mem_of_getElem? (i := 20) (by decide +kernel), List.mem_of_getElem? (i := 358) (by decide +kernel), List.mem_of_getElem? (i := 359) (by decide +kernel)⟩
theorem lw_p11 : lw_okq (⟨"StructureRows", "findFiguresWithoutWords", "()V"⟩, 17) := ⟨⟨by decide +kernel, by decide +kernel⟩, List.mem_of_getElem? (i := 20) (by decide +kernel), List.mem_of_getElem? (i := 373) (by decide +kernel), List.mem_of_getElem? (i := 374) (by decide +kernel)⟩
theorem lw_p12 : lw_okq (⟨"StructureRows", "findElementsWithoutKids", "()V"⟩, 17) := ⟨⟨by decide +kernel, by decide +kernel⟩, List.mem_of_getElem? (i := 20) (by decide +kernel), List.mem_of_getElem? (i := 377) (by decide +kernel), List.mem_of_getElem? (i := 378) (by decide +kernel)⟩
theorem lw_p13 : lw_okq (⟨"StructureRows", "findRepeats", "()V"⟩, 17) := ⟨⟨by decide +kernel, by decide +kernel⟩, List.mem_of_getElem? (i := 20) (by decide +kernel), List.mem_of_getElem? (i := 382) (by decide +kernel), List.mem_of_getElem? (i := 383) (by decide +kernel)⟩
theorem lw_p14 : lw_okq (⟨"StructureRows", "findUntagged", "()V"⟩, 17) := ⟨⟨by decide +kernel, by decide +kernel⟩, List.mem_of_getElem? (i := 20) (by decide +kernel), List.mem_of_getElem? (i := 386) (by decide +kernel), List.mem_of_getElem? (i := 387) (by decide +kernel)⟩
theorem lw_p15 : lw_okq (⟨"StructureRows", "gatherLoose", "()V"⟩, 17) := ⟨⟨by decide +kernel, by decide +kernel⟩, List.mem_of_getElem? (i := 20) (by decide +kernel), List.mem_of_getElem? (i := 390) (by decide +kernel), List.mem_of_getElem? (i := 391) (by decide +kernel)⟩
def lw_privs_1 : List (MethodName × Nat) := [(⟨"StructureRows$Trail", "passElement", "(I)I"⟩, 5), (⟨"StructureRows$Trail", "passPart", "(I)I"⟩, 5), (⟨"StructureRows", "findElementsWithoutStandard", "()V"⟩, 17), (⟨"StructureRows", "findHeadingsWithoutLevel", "()V"⟩, 17), (⟨"StructureRows", "findSkippedLevels", "()V"⟩, 17), (⟨"StructureRows", "gatherHeadings", "()V"⟩, 17), (⟨"StructureRows$Headings", "depthBehind", "(I)I"⟩, 4), (⟨"StructureRows", "findMisplaced", "()V"⟩, 17), (⟨"StructureRows", "findUnevenTables", "()V"⟩, 17), (⟨"StructureRows", "isUneven", "(I)Z"⟩, 17), (⟨"StructureRows", "layCells", "(I)V"⟩, 17), (⟨"StructureRows", "findFiguresWithoutWords", "()V"⟩, 17), (⟨"StructureRows", "findElementsWithoutKids", "()V"⟩, 17), (⟨"StructureRows", "findRepeats", "()V"⟩, 17), (⟨"StructureRows", "findUntagged", "()V"⟩, 17), (⟨"StructureRows", "gatherLoose", "()V"⟩, 17)]
theorem lw_r1 : ∀ q ∈ lw_privs_1, lw_okq q := List.forall_mem_cons.mpr ⟨lw_p0, List.forall_mem_cons.mpr ⟨lw_p1, List.forall_mem_cons.mpr ⟨lw_p2, List.forall_mem_cons.mpr ⟨lw_p3, List.forall_mem_cons.mpr ⟨lw_p4, List.forall_mem_cons.mpr ⟨lw_p5, List.forall_mem_cons.mpr ⟨lw_p6, List.forall_mem_cons.mpr ⟨lw_p7, List.forall_mem_cons.mpr ⟨lw_p8, List.forall_mem_cons.mpr ⟨lw_p9, List.forall_mem_cons.mpr ⟨lw_p10, List.forall_mem_cons.mpr ⟨lw_p11, List.forall_mem_cons.mpr ⟨lw_p12, List.forall_mem_cons.mpr ⟨lw_p13, List.forall_mem_cons.mpr ⟨lw_p14, List.forall_mem_cons.mpr ⟨lw_p15, fun _ h => absurd h List.not_mem_nil⟩⟩⟩⟩⟩⟩⟩⟩⟩⟩⟩⟩⟩⟩⟩⟩
theorem lw_p16 : lw_okq (⟨"StructureRows", "findOutOfOrder", "()V"⟩, 17) := ⟨⟨by decide +kernel, by decide +kernel⟩, List.mem_of_getElem? (i := 20) (by decide +kernel), List.mem_of_getElem? (i := 406) (by decide +kernel), List.mem_of_getElem? (i := 407) (by decide +kernel)⟩
theorem lw_p17 : lw_okq (⟨"StructureRows", "needElement", "(I)V"⟩, 17) := ⟨⟨by decide +kernel, by decide +kernel⟩, List.mem_of_getElem? (i := 20) (by decide +kernel), List.mem_of_getElem? (i := 424) (by decide +kernel), List.mem_of_getElem? (i := 425) (by decide +kernel)⟩
theorem lw_p18 : lw_okq (⟨"java/lang/Throwable", "fillInStackTrace", "(I)Ljava/lang/Throwable;"⟩, 6) := ⟨⟨by decide +kernel, by decide +kernel⟩, List.mem_of_getElem? (i := 467) (by decide +kernel), List.mem_of_getElem? (i := 465) (by decide +kernel), List.mem_of_getElem? (i := 466) (by decide +kernel)⟩
theorem lw_p19 : lw_okq (⟨"StructureRows$Tree", "addKid", "(II)V"⟩, 8) := ⟨⟨by decide +kernel, by decide +kernel⟩, List.mem_of_getElem? (i := 42) (by decide +kernel), List.mem_of_getElem? (i := 536) (by decide +kernel), List.mem_of_getElem? (i := 537) (by decide +kernel)⟩
theorem lw_p20 : lw_okq (⟨"StructureRows", "keepRepeat", "(II)V"⟩, 17) := ⟨⟨by decide +kernel, by decide +kernel⟩, List.mem_of_getElem? (i := 20) (by decide +kernel), List.mem_of_getElem? (i := 568) (by decide +kernel), List.mem_of_getElem? (i := 569) (by decide +kernel)⟩
theorem lw_p21 : lw_okq (⟨"StructureRowsModel", "isElement", "(I)Z"⟩, 30) := ⟨⟨by decide +kernel, by decide +kernel⟩, List.mem_of_getElem? (i := 670) (by decide +kernel), List.mem_of_getElem? (i := 775) (by decide +kernel), List.mem_of_getElem? (i := 776) (by decide +kernel)⟩
theorem lw_p22 : lw_okq (⟨"StructureRowsModel", "leadsTo", "(II)Z"⟩, 30) := ⟨⟨by decide +kernel, by decide +kernel⟩, List.mem_of_getElem? (i := 670) (by decide +kernel), List.mem_of_getElem? (i := 786) (by decide +kernel), List.mem_of_getElem? (i := 787) (by decide +kernel)⟩
theorem lw_p23 : lw_okq (⟨"StructureRowsModel", "ownerOf", "(I)I"⟩, 30) := ⟨⟨by decide +kernel, by decide +kernel⟩, List.mem_of_getElem? (i := 670) (by decide +kernel), List.mem_of_getElem? (i := 797) (by decide +kernel), List.mem_of_getElem? (i := 798) (by decide +kernel)⟩
theorem lw_p24 : lw_okq (⟨"StructureRowsModel", "placeOf", "(I)I"⟩, 30) := ⟨⟨by decide +kernel, by decide +kernel⟩, List.mem_of_getElem? (i := 670) (by decide +kernel), List.mem_of_getElem? (i := 805) (by decide +kernel), List.mem_of_getElem? (i := 806) (by decide +kernel)⟩
theorem lw_p25 : lw_okq (⟨"StructureRowsModel", "go", "()V"⟩, 30) := ⟨⟨by decide +kernel, by decide +kernel⟩, List.mem_of_getElem? (i := 670) (by decide +kernel), List.mem_of_getElem? (i := 813) (by decide +kernel), List.mem_of_getElem? (i := 814) (by decide +kernel)⟩
theorem lw_p26 : lw_okq (⟨"StructureRowsModel", "meet", "(II)V"⟩, 30) := ⟨⟨by decide +kernel, by decide +kernel⟩, List.mem_of_getElem? (i := 670) (by decide +kernel), List.mem_of_getElem? (i := 817) (by decide +kernel), List.mem_of_getElem? (i := 818) (by decide +kernel)⟩
theorem lw_p27 : lw_okq (⟨"StructureRowsModel", "nextKid", "(II)I"⟩, 30) := ⟨⟨by decide +kernel, by decide +kernel⟩, List.mem_of_getElem? (i := 670) (by decide +kernel), List.mem_of_getElem? (i := 821) (by decide +kernel), List.mem_of_getElem? (i := 822) (by decide +kernel)⟩
theorem lw_p28 : lw_okq (⟨"StructureRowsModel", "is", "(II)Z"⟩, 30) := ⟨⟨by decide +kernel, by decide +kernel⟩, List.mem_of_getElem? (i := 670) (by decide +kernel), List.mem_of_getElem? (i := 825) (by decide +kernel), List.mem_of_getElem? (i := 826) (by decide +kernel)⟩
theorem lw_p29 : lw_okq (⟨"StructureRowsModel", "standardOf", "(I)I"⟩, 30) := ⟨⟨by decide +kernel, by decide +kernel⟩, List.mem_of_getElem? (i := 670) (by decide +kernel), List.mem_of_getElem? (i := 829) (by decide +kernel), List.mem_of_getElem? (i := 830) (by decide +kernel)⟩
theorem lw_p30 : lw_okq (⟨"StructureRowsModel", "partAt", "(I)I"⟩, 30) := ⟨⟨by decide +kernel, by decide +kernel⟩, List.mem_of_getElem? (i := 670) (by decide +kernel), List.mem_of_getElem? (i := 833) (by decide +kernel), List.mem_of_getElem? (i := 834) (by decide +kernel)⟩
theorem lw_p31 : lw_okq (⟨"StructureRowsModel", "addJumps", "()V"⟩, 30) := ⟨⟨by decide +kernel, by decide +kernel⟩, List.mem_of_getElem? (i := 670) (by decide +kernel), List.mem_of_getElem? (i := 849) (by decide +kernel), List.mem_of_getElem? (i := 850) (by decide +kernel)⟩
def lw_privs_2 : List (MethodName × Nat) := [(⟨"StructureRows", "findOutOfOrder", "()V"⟩, 17), (⟨"StructureRows", "needElement", "(I)V"⟩, 17), (⟨"java/lang/Throwable", "fillInStackTrace", "(I)Ljava/lang/Throwable;"⟩, 6), (⟨"StructureRows$Tree", "addKid", "(II)V"⟩, 8), (⟨"StructureRows", "keepRepeat", "(II)V"⟩, 17), (⟨"StructureRowsModel", "isElement", "(I)Z"⟩, 30), (⟨"StructureRowsModel", "leadsTo", "(II)Z"⟩, 30), (⟨"StructureRowsModel", "ownerOf", "(I)I"⟩, 30), (⟨"StructureRowsModel", "placeOf", "(I)I"⟩, 30), (⟨"StructureRowsModel", "go", "()V"⟩, 30), (⟨"StructureRowsModel", "meet", "(II)V"⟩, 30), (⟨"StructureRowsModel", "nextKid", "(II)I"⟩, 30), (⟨"StructureRowsModel", "is", "(II)Z"⟩, 30), (⟨"StructureRowsModel", "standardOf", "(I)I"⟩, 30), (⟨"StructureRowsModel", "partAt", "(I)I"⟩, 30), (⟨"StructureRowsModel", "addJumps", "()V"⟩, 30)]
theorem lw_r2 : ∀ q ∈ lw_privs_2, lw_okq q := List.forall_mem_cons.mpr ⟨lw_p16, List.forall_mem_cons.mpr ⟨lw_p17, List.forall_mem_cons.mpr ⟨lw_p18, List.forall_mem_cons.mpr ⟨lw_p19, List.forall_mem_cons.mpr ⟨lw_p20, List.forall_mem_cons.mpr ⟨lw_p21, List.forall_mem_cons.mpr ⟨lw_p22, List.forall_mem_cons.mpr ⟨lw_p23, List.forall_mem_cons.mpr ⟨lw_p24, List.forall_mem_cons.mpr ⟨lw_p25, List.forall_mem_cons.mpr ⟨lw_p26, List.forall_mem_cons.mpr ⟨lw_p27, List.forall_mem_cons.mpr ⟨lw_p28, List.forall_mem_cons.mpr ⟨lw_p29, List.forall_mem_cons.mpr ⟨lw_p30, List.forall_mem_cons.mpr ⟨lw_p31, fun _ h => absurd h List.not_mem_nil⟩⟩⟩⟩⟩⟩⟩⟩⟩⟩⟩⟩⟩⟩⟩⟩
theorem lw_p32 : lw_okq (⟨"StructureRowsModel", "add", "(III)V"⟩, 30) := ⟨⟨by decide +kernel, by decide +kernel⟩, List.mem_of_getElem? (i := 670) (by decide +kernel), List.mem_of_getElem? (i := 853) (by decide +kernel), List.mem_of_getElem? (i := 854) (by decide +kernel)⟩
theorem lw_p33 : lw_okq (⟨"StructureRowsModel", "hasFault", "(II)Z"⟩, 30) := ⟨⟨by decide +kernel, by decide +kernel⟩, List.mem_of_getElem? (i := 670) (by decide +kernel), List.mem_of_getElem? (i := 857) (by decide +kernel), List.mem_of_getElem? (i := 858) (by decide +kernel)⟩
theorem lw_p34 : lw_okq (⟨"StructureRowsModel", "isPlaced", "(I)Z"⟩, 30) := ⟨⟨by decide +kernel, by decide +kernel⟩, List.mem_of_getElem? (i := 670) (by decide +kernel), List.mem_of_getElem? (i := 861) (by decide +kernel), List.mem_of_getElem? (i := 862) (by decide +kernel)⟩
theorem lw_p35 : lw_okq (⟨"StructureRowsModel", "parentOf", "(I)I"⟩, 30) := ⟨⟨by decide +kernel, by decide +kernel⟩, List.mem_of_getElem? (i := 670) (by decide +kernel), List.mem_of_getElem? (i := 865) (by decide +kernel), List.mem_of_getElem? (i := 866) (by decide +kernel)⟩
theorem lw_p36 : lw_okq (⟨"StructureRowsModel", "isCell", "(I)Z"⟩, 30) := ⟨⟨by decide +kernel, by decide +kernel⟩, List.mem_of_getElem? (i := 670) (by decide +kernel), List.mem_of_getElem? (i := 872) (by decide +kernel), List.mem_of_getElem? (i := 873) (by decide +kernel)⟩
theorem lw_p37 : lw_okq (⟨"StructureRowsModel", "isUneven", "(I)Z"⟩, 30) := ⟨⟨by decide +kernel, by decide +kernel⟩, List.mem_of_getElem? (i := 670) (by decide +kernel), List.mem_of_getElem? (i := 876) (by decide +kernel), List.mem_of_getElem? (i := 877) (by decide +kernel)⟩
theorem lw_p38 : lw_okq (⟨"StructureRowsModel", "lay", "(II)Z"⟩, 30) := ⟨⟨by decide +kernel, by decide +kernel⟩, List.mem_of_getElem? (i := 670) (by decide +kernel), List.mem_of_getElem? (i := 880) (by decide +kernel), List.mem_of_getElem? (i := 881) (by decide +kernel)⟩
theorem lw_p39 : lw_okq (⟨"StructureRowsModel", "countUntagged", "()I"⟩, 30) := ⟨⟨by decide +kernel, by decide +kernel⟩, List.mem_of_getElem? (i := 670) (by decide +kernel), List.mem_of_getElem? (i := 884) (by decide +kernel), List.mem_of_getElem? (i := 885) (by decide +kernel)⟩
theorem lw_p40 : lw_okq (⟨"StructureRowsModel", "untaggedAt", "(I)I"⟩, 30) := ⟨⟨by decide +kernel, by decide +kernel⟩, List.mem_of_getElem? (i := 670) (by decide +kernel), List.mem_of_getElem? (i := 888) (by decide +kernel), List.mem_of_getElem? (i := 889) (by decide +kernel)⟩
theorem lw_p41 : lw_okq (⟨"StructureRowsModel", "addOrder", "()V"⟩, 30) := ⟨⟨by decide +kernel, by decide +kernel⟩, List.mem_of_getElem? (i := 670) (by decide +kernel), List.mem_of_getElem? (i := 892) (by decide +kernel), List.mem_of_getElem? (i := 893) (by decide +kernel)⟩
def lw_privs_3 : List (MethodName × Nat) := [(⟨"StructureRowsModel", "add", "(III)V"⟩, 30), (⟨"StructureRowsModel", "hasFault", "(II)Z"⟩, 30), (⟨"StructureRowsModel", "isPlaced", "(I)Z"⟩, 30), (⟨"StructureRowsModel", "parentOf", "(I)I"⟩, 30), (⟨"StructureRowsModel", "isCell", "(I)Z"⟩, 30), (⟨"StructureRowsModel", "isUneven", "(I)Z"⟩, 30), (⟨"StructureRowsModel", "lay", "(II)Z"⟩, 30), (⟨"StructureRowsModel", "countUntagged", "()I"⟩, 30), (⟨"StructureRowsModel", "untaggedAt", "(I)I"⟩, 30), (⟨"StructureRowsModel", "addOrder", "()V"⟩, 30)]
theorem lw_r3 : ∀ q ∈ lw_privs_3, lw_okq q := List.forall_mem_cons.mpr ⟨lw_p32, List.forall_mem_cons.mpr ⟨lw_p33, List.forall_mem_cons.mpr ⟨lw_p34, List.forall_mem_cons.mpr ⟨lw_p35, List.forall_mem_cons.mpr ⟨lw_p36, List.forall_mem_cons.mpr ⟨lw_p37, List.forall_mem_cons.mpr ⟨lw_p38, List.forall_mem_cons.mpr ⟨lw_p39, List.forall_mem_cons.mpr ⟨lw_p40, List.forall_mem_cons.mpr ⟨lw_p41, fun _ h => absurd h List.not_mem_nil⟩⟩⟩⟩⟩⟩⟩⟩⟩⟩
def lw_privs : List (MethodName × Nat) := lw_privs_1 ++ (lw_privs_2 ++ (lw_privs_3))
def lw_tbl : List Cond := k2_sels lw_privs ++ tables_1
theorem lw_privs_ok : ∀ q ∈ lw_privs, lw_okq q := by
  show ∀ q ∈ lw_privs_1 ++ (lw_privs_2 ++ (lw_privs_3)), lw_okq q
  exact List.forall_mem_append.mpr ⟨lw_r1, List.forall_mem_append.mpr ⟨lw_r2, lw_r3⟩⟩
end
section
/-! A thrown object meets this method's table: rows that don't take it are passed (their classes get resolved on the way), the first that takes it has it. -/
def vy_Off (pl : Platform) (s₀ : State) (d : ClassId) (pc : Nat) (thrown : ClassId) (y : ExceptionTableEntry) : Prop :=
  covers y pc = false ∨ (y.catchType ≠ 0 ∧ ∃ c, s₀.vm.ClassLinks pl d y.catchType c ∧ s₀.vm.assignable thrown c = false)
/-- one row that covers the place and names a class, cold or warm -/
theorem vy_row {Q : Handler → Pre} {E : CtlPost} {e : Env} {d : Bool} {acts : List Action} {s : State} {f : JFrame} {a : Addr} {x : ExceptionTableEntry} {t : List ExceptionTableEntry} {c : ClassId} {cell : Cell} (hx : covers x f.pc = true) (h0 : x.catchType ≠ 0)
    (hl : s.vm.ClassLinks e.platform f.method.cls x.catchType c) (hcell : s.heap[a]? = some cell) (hobj : ∀ k, cell.vm ≠ .statics k) (hk : ∃ k, s.vm.classes[cell.cls]? = some k) (hc : ∃ k, s.vm.classes[c]? = some k) (b : Bool) (hb : s.vm.assignable cell.cls c = b) :
    wp (findHandler.go f a (x :: t)) Q E e d acts s ↔ (if b = true then Q (.found x.handlerPc) d acts (s.setVm (s.vm.noted f.method.cls x.catchType (.cls c))) else wp (findHandler.go f a t) Q E e d acts (s.setVm (s.vm.noted f.method.cls x.catchType (.cls c)))) := by
  obtain ⟨g1, g2⟩ := (resolveClass_links e.toSetting hl).op (op := VmOp.resolveClass f.method.cls x.catchType) rfl
  have al : s.vm.Alike (s.vm.noted f.method.cls x.catchType (.cls c)) := (Vm.Alike.refl s.vm).noted _ _ _
  obtain ⟨_, hk⟩ := hk
  obtain ⟨_, hc⟩ := hc
  obtain ⟨_, hk', -⟩ := al.2.2 _ _ hk
  obtain ⟨_, hc', -⟩ := al.2.2 _ _ hc
  have hb' : (s.vm.noted f.method.cls x.catchType (.cls c)).assignable cell.cls c = b := by rw [al.assignable]; exact hb
  simp only [covers] at hx
  cases b <;> simp [findHandler.go, hx, h0, g1, g2, hcell, hobj, hk', hc', hb', VmOp.dirties, VmOp.acts]
theorem vy_search {e : Env} {s₀ : State} {f : JFrame} {a : Addr} {cell : Cell} {c : ClassId} (hobj : ∀ k, cell.vm ≠ .statics k) {k0 : Class} (hk0 : s₀.vm.classes[cell.cls]? = some k0) (x : ExceptionTableEntry) (rest : List ExceptionTableEntry) (hx : covers x f.pc = true)
    (h0 : x.catchType ≠ 0) (hl : s₀.vm.ClassLinks e.platform f.method.cls x.catchType c) (hfit : s₀.vm.assignable cell.cls c = true) (pre : List ExceptionTableEntry) :
    ∀ S : State, s₀.WarmedH S.vm → S.heap[a]? = some cell → (∀ y ∈ pre, vy_Off e.platform s₀ f.method.cls f.pc cell.cls y) →
      ∃ vm', s₀.WarmedH vm' ∧ ∀ (Q : Handler → Pre) (E : CtlPost) (d : Bool) (acts : List Action), wp (findHandler.go f a (pre ++ x :: rest)) Q E e d acts S ↔ Q (.found x.handlerPc) d acts (S.setVm vm') := by
  induction pre with
  | nil =>
    intro S hW hcell _
    obtain ⟨k1, hk1, -⟩ := hW.alike.2.2 _ _ hk0
    obtain ⟨dk, _, _, kt, hd, _, _, _, _, hkt, _, hopen⟩ := hl.here
    obtain ⟨k2, hk2, -⟩ := hW.alike.2.2 _ _ hkt
    refine ⟨_, hW.noted hd hopen (State.rightAt_cls hl), fun Q E d acts => ?_⟩
    exact (vy_row hx h0 (hW.classLinks hl) hcell hobj ⟨k1, hk1⟩ ⟨k2, hk2⟩ true (by rw [hW.alike.assignable]; exact hfit)).trans (by simp)
  | cons y ys ih =>
    intro S hW hcell hoff
    have hys : ∀ z ∈ ys, vy_Off e.platform s₀ f.method.cls f.pc cell.cls z := fun z hz => hoff z (List.mem_cons_of_mem _ hz)
    cases hcov : covers y f.pc with
    | false =>
      obtain ⟨vm', hW', hq⟩ := ih S hW hcell hys
      exact ⟨vm', hW', fun Q E d acts => (Jvm.W.findHandler_go_skip hcov).trans (hq Q E d acts)⟩
    | true =>
      rcases hoff y List.mem_cons_self with h | ⟨hy0, c2, hl2, hno⟩
      · rw [h] at hcov; cases hcov
      · obtain ⟨k1, hk1, -⟩ := hW.alike.2.2 _ _ hk0
        obtain ⟨dk, _, _, kt, hd, _, _, _, _, hkt, _, hopen⟩ := hl2.here
        obtain ⟨k2, hk2, -⟩ := hW.alike.2.2 _ _ hkt
        obtain ⟨vm', hW', hq⟩ := ih (S.setVm (S.vm.noted f.method.cls y.catchType (.cls c2))) (hW.noted hd hopen (State.rightAt_cls hl2)) hcell hys
        exact ⟨vm', hW', fun Q E d acts => (vy_row hcov hy0 (hW.classLinks hl2) hcell hobj ⟨k1, hk1⟩ ⟨k2, hk2⟩ false (by rw [hW.alike.assignable]; exact hno)).trans ((by simp : (if (false : Bool) = true then _ else _) ↔ _).trans (hq Q E d acts))⟩
/-- over the frame g lies the thrown a: it is caught, the walk goes on at the handler -/
theorem vy_caught {p : Program} {l : Launch} {e : Env} {R : Room} {s : State} {m : MethodId} {args : Array Value} {below : List Frame} {meth : Method} {c : Code} {T : State} {locs : List Loc} {cells slots : Nat}
    (X : Stand p l e R s m args below meth c T locs cells slots) (a : Addr) {g : JFrame} (hg : g.method = m) {cell : Cell} (hcell : T.heap[a]? = some cell) (hobj : cell.vm.isStatics = false) (hk0 : ∃ k, s.vm.classes[cell.cls]? = some k)
    (pre : List ExceptionTableEntry) (x : ExceptionTableEntry) (rest : List ExceptionTableEntry) (hsplit : c.exceptionTable.toList = pre ++ x :: rest) (hoff : ∀ y ∈ pre, vy_Off e.platform s m.cls g.pc cell.cls y) (hx : covers x g.pc = true)
    (h0 : x.catchType ≠ 0) {cT : ClassId} (hl : s.vm.ClassLinks e.platform m.cls x.catchType cT) (hfit : s.vm.assignable cell.cls cT = true) :
    ∃ vm', Stand p l e R s m args below meth c (T.setVm vm') locs cells slots ∧ Steps p.tables e below ((T.setTop g).pushFrame (.throwing a)) ((T.setVm vm').setTop { g with pc := x.handlerPc, stack := [.ref a] }) := by
  subst hg
  obtain ⟨k0, hk0⟩ := hk0
  obtain ⟨vm', hW', hq⟩ := vy_search (e := e) (s₀ := s) (f := g) (a := a) (fun k h => by rw [h] at hobj; cases hobj) hk0 x rest hx h0 hl hfit pre ((T.setTop g).pushFrame (.throwing a)) X.warmed hcell hoff
  have hfind : ∀ (Q : Handler → Pre) (E : CtlPost) (d : Bool) (acts : List Action), wp (findHandler g a) Q E e d acts ((T.setTop g).pushFrame (.throwing a)) ↔ Q (.found x.handlerPc) d acts (((T.setTop g).pushFrame (.throwing a)).setVm vm') := by
    intro Q E d acts
    rw [Jvm.W.findHandler_eq (show ((T.setTop g).pushFrame (.throwing a)).vm.method? g.method = some meth from X.method') X.code, hsplit]
    exact hq Q E d acts
  refine ⟨vm', X.noted hW', ?_⟩
  obtain ⟨hgo, hw⟩ := X.here.throwing (g := g) a
  refine Steps.head hgo hw ?_
  have hst : (stepThrowing e ((T.setTop g).pushFrame (.throwing a)) a (.java g :: T.frames.tail)).1 = ((((T.setTop g).pushFrame (.throwing a)).setVm vm').setFrames (.java { g with pc := x.handlerPc, stack := [.ref a] } :: T.frames.tail)) := by
    simp only [stepThrowing, searchFrame, vmDo]
    generalize hr : Sem.go _ e false [] ((T.setTop g).pushFrame (.throwing a)) = res
    obtain ⟨as, rfl, -⟩ := Sem.eq_ok_of hr (a := Handler.found x.handlerPc) (s' := ((T.setTop g).pushFrame (.throwing a)).setVm vm') (acts' := []) (by simp [hfind _ _ _ _])
    rfl
  rw [stepThread_throwing (frames_entered X.here.top _), hst]
  obtain ⟨g₀, hfr⟩ := X.frames_eq
  have hfr' : (T.setVm vm').frames = .java g₀ :: below := hfr
  rw [State.setTop_of_frames _ hfr', X.tail, State.pushFrame, State.setTop_of_frames _ hfr]
  have e1 : ∀ (F G : List Frame), ((T.setFrames F).setVm vm').setFrames G = (T.setVm vm').setFrames G := fun F G => by
    rw [show (T.setFrames F).setVm vm' = (T.setVm vm').setFrames F from rfl, State.setFrames_setFrames]
  rw [State.setFrames_setFrames, e1]
  exact Steps.refl _

/-! ===== BEGIN words of one list among another's, by their places ===== -/
theorem goodIn_r {big : List Cond} (ws : List Cond) (ps : List Nat) (hp : ws = ps.filterMap (fun i => big[i]?)) (h : ws.all goodWord = true) : GoodIn big ws := by
  intro w hw
  have h1 := List.all_eq_true.mp h w hw
  rw [hp] at hw
  obtain ⟨i, -, hi⟩ := List.mem_filterMap.mp hw
  have hm : w ∈ big := by first | exact List.mem_of_getElem? hi | exact List.getElem?_mem hi
  exact ⟨hm, good_of_word h1⟩
theorem goodIn_app {big a b : List Cond} (ha : GoodIn big a) (hb : GoodIn big b) : GoodIn big (a ++ b) := fun w h => (List.mem_append.mp h).elim (ha w) (hb w)
theorem goodIn_ca {big a b : List Cond} {c : Cond} (ha : GoodIn big (c :: a)) (hb : GoodIn big b) : GoodIn big (c :: (a ++ b)) := fun w h => (List.mem_cons.mp h).elim (fun e => ha w (List.mem_cons.mpr (Or.inl e))) (fun h => (List.mem_append.mp h).elim (fun h => ha w (List.mem_cons.mpr (Or.inr h))) (hb w))
theorem goodIn_sub {big ws : List Cond} (hm : ∀ w ∈ ws, w ∈ big) (h : ws.all goodWord = true) : GoodIn big ws := fun w hw => ⟨hm w hw, good_of_word (List.all_eq_true.mp h w hw)⟩
/-! ===== END ===== -/

/-! ===== BEGIN exceptions that leave a method, and their catching by the caller (launches without stack traces) ===== -/
section VXA
/-! The laws vx_back, vx_callV, vx_callS, vx_callSW, vx_throw0, vx_throwS follow proofs of the library, with one case more: JvmDerived/Free/Laws.lean (Back.of_free), Shelf42/LK1.lean (callV, callS), Shelf/KitTraced.lean (throwNew0V, throwNewS). -/
/-- where a method has thrown q: the class by its name, the cell, what was written, the world -/
def vx_T (XC : String → State → State → Prop) (st : State) (q : Addr) (t : State) (mc ms : Nat) (free : Addr → Prop) : Prop :=
  ∃ (E : String) (ce : Cell) (L : List Loc), XC E st t ∧ t.heap[q]? = some ce ∧ ce.vm = .none ∧ st.vm.findClass E = some ce.cls ∧ st.WarmedH t.vm ∧ st.sameButNew ({ t with vm := st.vm } : State) L mc ms ∧ ∀ z ∈ L, free z.base
def vx_Q (Qc : Array Value → State → Outcome → State → Prop) (XC : String → State → State → Prop) (mc ms : Nat) (free : Addr → Prop) : Array Value → State → Outcome → State → Prop := fun a st o t =>
  (Qc a st o t ∧ ∃ L, FrameEnd st o t L mc ms ∧ ∀ q ∈ L, free q.base) ∨ ∃ q, o = .threw q ∧ vx_T XC st q t mc ms free
/-- a callee that returns or throws -/
def vx_Met (l : Launch) (y : MethodName) (ws : List Cond) (rm : Room) (Pc : Array Value → State → Prop) (Qc : Array Value → State → Outcome → State → Prop) (XC : String → State → State → Prop) (mc ms : Nat) (free : Addr → Prop) : Prop :=
  MetFree l y (headSpec ws rm) Pc (fun _ _ _ _ _ => True) (vx_Q Qc XC mc ms free)
def vx_Post (XC : String → State → State → Prop) (mc ms : Nat) (free : Addr → Prop) : Pt → Array Value → Addr → Pt → Prop := fun A a q B =>
  ∃ (g : JFrame) (mk : MethodId) (t : State) (L : List Loc) (E : String) (ce : Cell), B.U.heap = t.heap ∧ B.U.vm = t.vm ∧ XC E (A.U.calling g mk a) t ∧ t.heap[q]? = some ce ∧ ce.vm = .none ∧ A.U.vm.findClass E = some ce.cls ∧ B.locs = A.locs ++ L ∧ (∀ z ∈ L, free z.base) ∧ B.cells = A.cells + mc ∧ B.slots = A.slots + ms
def vx_Back (l : Launch) (R : Room) (p : Program) (e : Env) (below : List Frame) (s : State) (sargs : Array Value) (y : MethodName) (len W9 : Nat)
    (Pre : Pt → Array Value → Prop) (Post : Pt → Array Value → Option Value → Pt → Prop) (PostX : Pt → Array Value → Addr → Pt → Prop) : Prop :=
  ∀ (m : MethodId) (meth : Method) (c : Code) (A : Pt) (g : JFrame) (ig : Instr) (mk : MethodId) (a : Array Value),
    Stand p l e R s m sargs below meth c A.U A.locs A.cells A.slots → g.method = m → g.locals.size = c.maxLocals → decode c.code g.pc = .ok (ig, len) →
    2 * g.monitorRoom + (g.stack.map fun v => v.category).sum ≤ W9 → A.U.methodNamed? y = some mk → Pre A a →
    (∃ (v : Option Value) (B : Pt), Stand p l e R s m sargs below meth c B.U B.locs B.cells B.slots ∧ Post A a v B ∧
      Steps p.tables e below (doInvoke e (A.U.setTop g) [] mk a).1 (B.U.setTop { g with pc := g.pc + len, stack := v.toList ++ g.stack })) ∨
    (∃ (q : Addr) (B : Pt), Stand p l e R s m sargs below meth c B.U B.locs B.cells B.slots ∧ PostX A a q B ∧
      Steps p.tables e below (doInvoke e (A.U.setTop g) [] mk a).1 ((B.U.setTop g).pushFrame (.throwing q)))
section Payer
variable {l : Launch} {R : Room} {p : Program} {e : Env} {below : List Frame} {s : State} {sargs : Array Value} {y : MethodName} {len W9 : Nat}
theorem vx_back {ws : List Cond} {rm : Room} {Pc : Array Value → State → Prop} {Qc : Array Value → State → Outcome → State → Prop} {XC : String → State → State → Prop} {mc ms : Nat} {free : Addr → Prop} {bytes : ByteArray} {maxL : Nat} {ret : Option FieldType}
    (hM : vx_Met l y ws rm Pc Qc XC mc ms free) (hblind : FrameBlind Pc) (hrc : rm.cells = mc) (hrs : rm.slots = ms)
    (hframes : rm.frames + 1 ≤ R.frames) (hlocals : W9 + (maxL + 11) + rm.locals ≤ R.locals)
    (hws : ∀ w ∈ ws, ∀ a' U, s.WarmedH U.vm → w.before a' U = true) (hcode : Cond.code y bytes maxL ret ∈ ws) (hinit : ∀ a' U, s.WarmedH U.vm → (Cond.initialized y.cls).before a' U = true) :
    vx_Back l R p e below s sargs y len W9 (PreOf R mc ms Pc) (PostOf Qc mc ms free) (vx_Post XC mc ms free) := by
  intro m meth c A g ig mk a X hg hsize hdg hW hn hp
  have h1 : (headSpec ws rm).pre.before a A.U = true := atoms_intro fun w hw => hws w hw _ _ X.warmed
  have h2 : (Cond.code y bytes maxL ret).before a A.U = true := hws _ hcode _ _ X.warmed
  have h3 : (Cond.initialized y.cls).before a A.U = true := hinit _ _ X.warmed
  have h4 : A.cells + (headSpec ws rm).room.cells ≤ R.cells := by rw [show (headSpec ws rm).room.cells = mc from hrc]; exact hp.1
  have h5 : A.slots + (headSpec ws rm).room.slots ≤ R.slots := by rw [show (headSpec ws rm).room.slots = ms from hrs]; exact hp.2.1
  have hPc : Pc a (A.U.calling g mk a) := hblind _ _ _ _ hp.2.2
  obtain ⟨U, Ls, c0, s0⟩ := A
  dsimp only [Pt.U, Pt.locs, Pt.cells, Pt.slots] at h1 h2 h3 h4 h5 X hn hPc ⊢
  obtain ⟨methY, cY, hmY, hcY, -, hlY, -, -, -, -⟩ := Cond.code_spec hn h2
  obtain ⟨kY, hkY, -⟩ := className_of_methodNamed hn
  have hinitY : kY.init = .initialized := Cond.initialized_spec (findClass_of_methodNamed hn) hkY h3
  have h : At U g.method c below := by rw [hg]; exact X.here
  have hlocals9 : W9 + (maxL + 11) + (headSpec ws rm).room.locals ≤ R.locals := hlocals
  have happ : (headSpec ws rm).appliesLoose y e.platform (U.calling g mk a) = true :=
    Spec.appliesLoose_calling (g := g) h hdg hn hkY hinitY
      (X.room_calling (g := g) (R' := (headSpec ws rm).room) hsize hmY hcY hframes (by rw [hlY]; omega) h4 h5) h1
  obtain ⟨mid, hmid⟩ := h.above
  have hfr : (U.setTop g).frames = (.java g :: mid) ++ below := by rw [State.frames_setTop' g h.top, hmid]; rfl
  obtain ⟨o, s₂, hsteps, -, hend, hq⟩ := Steps.callFree hM p X.admits X.cas X.clock (acts := []) hfr happ hPc trivial
  have hq' : vx_Q Qc XC mc ms free a (U.calling g mk a) o s₂ := hq
  rw [State.frames_setTop' g h.top] at hend
  obtain ⟨g₀, hg0⟩ := Option.isSome_iff_exists.mp h.top
  obtain ⟨r, hr⟩ := State.topJava?_eq_some.mp hg0
  have hr' : (({ U with heap := s₂.heap, slotsUsed := s₂.slotsUsed } : State).setVm s₂.vm).frames = .java g₀ :: r := hr
  rcases hq' with ⟨hqc, L, hfe, hL⟩ | ⟨q, rfl, E, ce, L, hx, hce, hcv, hcl, hW₂, hsm, hL⟩
  · obtain ⟨⟨v, rfl⟩, hW₂, e2, q2, q3, q4, q5, q6⟩ := id hfe
    have e3 : s₂ = ({ (U.calling g mk a).setFrames s₂.frames with heap := s₂.heap, slotsUsed := s₂.slotsUsed } : State).setVm s₂.vm := by
      have : s₂ = ({ s₂ with vm := (U.calling g mk a).vm } : State).setVm s₂.vm := rfl
      rw [e2] at this
      exact this
    obtain ⟨c₂, i₂, len₂, hc₂, hd₂, hf₂⟩ := hend
    have hW' : U.WarmedH s₂.vm := hW₂
    have hcc : c₂ = c := by
      have h1 : s₂.code? g.method = U.code? g.method := by
        rw [State.code?_eq, State.code?_eq, hW'.alike.method?]
      exact Option.some.inj (hc₂.symm.trans (h1.trans h.code))
    subst hcc
    have hlen : len₂ = len := by rw [hdg] at hd₂; cases hd₂; rfl
    subst hlen
    have hs₂ : s₂ = (({ U with heap := s₂.heap, slotsUsed := s₂.slotsUsed } : State).setVm s₂.vm).setTop { g with pc := g.pc + len₂, stack := v.toList ++ g.stack } := by
      refine e3.trans ?_
      rw [hf₂, State.calling_eq h.top, State.setFrames_setFrames, State.setTop_of_frames _ hr', hr]
      rfl
    have hsame : U.sameButNew ({ U with heap := s₂.heap, slotsUsed := s₂.slotsUsed } : State) L mc ms := by
      refine ⟨?_, q2, q3, q4, q5, q6⟩
      obtain ⟨t, ht, -⟩ := State.frames_cons hr
      show ({ U with heap := s₂.heap, slotsUsed := s₂.slotsUsed } : State) = { U.setFrames U.frames with heap := s₂.heap, slotsUsed := s₂.slotsUsed }
      rw [State.setFrames_self ht]
    subst hg
    refine Or.inl ⟨v, ⟨(({ U with heap := s₂.heap, slotsUsed := s₂.slotsUsed } : State).setVm s₂.vm), Ls ++ L, c0 + mc, s0 + ms⟩,
      ⟨X.admits, X.cas, X.clock, X.frames, X.room, X.hears, X.method, X.code, (X.here.setHeapUsed s₂.heap s₂.slotsUsed).setVm hW'.alike, X.tail, State.WarmedH.trans X.warmed hW', X.limits, X.bytes, X.same.trans (hsame.setVm s.vm)⟩,
      ⟨g, mk, s₂, L, rfl, rfl, hqc, rfl, hL, rfl, rfl⟩, ?_⟩
    show Steps p.tables e below _ ((({ U with heap := s₂.heap, slotsUsed := s₂.slotsUsed } : State).setVm s₂.vm).setTop { g with pc := g.pc + len₂, stack := v.toList ++ g.stack })
    rw [← hs₂]
    exact hsteps
  · obtain ⟨e2, q2, q3, q4, q5, q6⟩ := id hsm
    have e3 : s₂ = ({ (U.calling g mk a).setFrames s₂.frames with heap := s₂.heap, slotsUsed := s₂.slotsUsed } : State).setVm s₂.vm := by
      have : s₂ = ({ s₂ with vm := (U.calling g mk a).vm } : State).setVm s₂.vm := rfl
      rw [e2] at this
      exact this
    have hf₂ : s₂.frames = .throwing q :: .java g :: U.frames.tail := hend
    have hW' : U.WarmedH s₂.vm := hW₂
    have hs₂ : s₂ = ((({ U with heap := s₂.heap, slotsUsed := s₂.slotsUsed } : State).setVm s₂.vm).setTop g).pushFrame (.throwing q) := by
      refine e3.trans ?_
      rw [hf₂, State.calling_eq h.top, State.setFrames_setFrames, State.pushFrame, State.frames_setTop _ hr', State.setTop_of_frames _ hr', State.setFrames_setFrames, hr]
      rfl
    have hsame : U.sameButNew ({ U with heap := s₂.heap, slotsUsed := s₂.slotsUsed } : State) L mc ms := by
      refine ⟨?_, q2, q3, q4, q5, q6⟩
      obtain ⟨t, ht, -⟩ := State.frames_cons hr
      show ({ U with heap := s₂.heap, slotsUsed := s₂.slotsUsed } : State) = { U.setFrames U.frames with heap := s₂.heap, slotsUsed := s₂.slotsUsed }
      rw [State.setFrames_self ht]
    subst hg
    refine Or.inr ⟨q, ⟨(({ U with heap := s₂.heap, slotsUsed := s₂.slotsUsed } : State).setVm s₂.vm), Ls ++ L, c0 + mc, s0 + ms⟩,
      ⟨X.admits, X.cas, X.clock, X.frames, X.room, X.hears, X.method, X.code, (X.here.setHeapUsed s₂.heap s₂.slotsUsed).setVm hW'.alike, X.tail, State.WarmedH.trans X.warmed hW', X.limits, X.bytes, X.same.trans (hsame.setVm s.vm)⟩,
      ⟨g, mk, s₂, L, E, ce, rfl, rfl, hx, hce, hcv, hcl, rfl, hL, rfl, rfl⟩, ?_⟩
    show Steps p.tables e below _ (((({ U with heap := s₂.heap, slotsUsed := s₂.slotsUsed } : State).setVm s₂.vm).setTop g).pushFrame (.throwing q))
    rw [← hs₂]
    exact hsteps
end Payer
section Calls
variable {p : Program} {l : Launch} {e : Env} {R : Room} {s : State} {m : MethodId} {args : Array Value} {below : List Frame} {meth : Method} {c : Code} {T : State} {locs : List Loc} {cells slots : Nat}
theorem vx_callV (X : Stand p l e R s m args below meth c T locs cells slots) (hexec : p.tables.exec = Jvm.exec) {own C : String} {index : Nat} {y : MethodName} {bytes : ByteArray} {maxL : Nat} {ret : Option FieldType}
    (hown : s.vm.findClass own = some m.cls) (hlink : (Cond.methodLink own index y).before args s = true) (hinst : (Cond.instanceMethod y).before args s = true) (hsel : (Cond.selects C y y).before args s = true)
    (hcode : (Cond.code y bytes maxL ret).before args s = true) (hy : y.cls ≠ "java/lang/invoke/MethodHandle" ∧ y.cls ≠ "java/lang/invoke/VarHandle")
    {W9 : Nat} {Pre : Pt → Array Value → Prop} {Post : Pt → Array Value → Option Value → Pt → Prop} {PostX : Pt → Array Value → Addr → Pt → Prop} (hK : vx_Back l R p e below s args y 3 W9 Pre Post PostX)
    {b : Addr} {cellB : Cell} (hcell : T.heap[b]? = some cellB) (hobj : cellB.vm.isStatics = false) (hcls : s.vm.findClass C = some cellB.cls)
    {g : JFrame} (hg : g.method = m) (hsize : g.locals.size = c.maxLocals) {argsL rest : List Value} (hlen : ∀ sig, parseMethodDescriptor y.desc = some sig → argsL.length = sig.parameters.length)
    (hstack : g.stack = argsL.reverse ++ .ref b :: rest) (hW : 2 * g.monitorRoom + (rest.map fun v => v.category).sum ≤ W9) (hdg : decode c.code g.pc = .ok (.invokevirtual index, 3))
    (hpre : ∀ vm₁, s.WarmedH vm₁ → Pre ⟨T.setVm vm₁, locs, cells, slots⟩ (Value.ref b :: argsL).toArray) :
    (∃ (v : Option Value) (vm₁ : Vm) (B : Pt), s.WarmedH vm₁ ∧ Stand p l e R s m args below meth c B.U B.locs B.cells B.slots ∧ Post ⟨T.setVm vm₁, locs, cells, slots⟩ (Value.ref b :: argsL).toArray v B ∧
      ∀ target, Steps p.tables e below (B.U.setTop { g with pc := g.pc + 3, stack := v.toList ++ rest }) target → Steps p.tables e below (T.setTop g) target) ∨
    (∃ (q : Addr) (vm₁ : Vm) (B : Pt), s.WarmedH vm₁ ∧ Stand p l e R s m args below meth c B.U B.locs B.cells B.slots ∧ PostX ⟨T.setVm vm₁, locs, cells, slots⟩ (Value.ref b :: argsL).toArray q B ∧
      Steps p.tables e below (T.setTop g) ((B.U.setTop { g with stack := rest }).pushFrame (.throwing q))) := by
  obtain ⟨mk, methM, hnamed, hmethM, hstM, habM⟩ := Cond.instanceMethod_spec hinst
  obtain ⟨methM', cM, hmethM', -, -, -, -, -, -, hsigM⟩ := Cond.code_spec hnamed hcode
  cases hmethM.symm.trans hmethM'
  obtain ⟨c2, r2, m2, q1, q2, q3, q4, kP, hkP, hkPi⟩ := Cond.selects_spec hsel
  cases hcls.symm.trans q1
  cases (State.methodFound?_of_named hnamed hy).symm.trans q2
  cases hnamed.symm.trans q3
  have hselP : selectMethod e.platform s.vm cellB.cls mk = .method mk := by rw [Launch.admits_selectMethod X.admits]; exact q4
  obtain ⟨vm₁, X₁, hstep₁⟩ := X.invokevirtual hexec hown hlink hnamed hmethM hstM hkP hkPi hy (a := b) (cell := cellB) hcell
    (fun z h => by rw [h] at hobj; cases hobj) hselP hmethM habM hkP hkPi (g := g) hg (argsL := argsL) (rest := rest) (hlen _ hsigM) hstack hdg
  rcases hK m meth c ⟨T.setVm vm₁, locs, cells, slots⟩ { g with stack := rest } (.invokevirtual index) mk (Value.ref b :: argsL).toArray X₁ hg hsize hdg hW (X₁.named hnamed) (hpre vm₁ X₁.warmed) with ⟨v, B, X', hpost, hsteps⟩ | ⟨q, B, X', hpost, hsteps⟩
  · exact Or.inl ⟨v, vm₁, B, X₁.warmed, X', hpost, fun target h => hstep₁ _ fun acts => by rw [doInvoke_state]; exact hsteps.trans h⟩
  · exact Or.inr ⟨q, vm₁, B, X₁.warmed, X', hpost, hstep₁ _ fun acts => by rw [doInvoke_state]; exact hsteps⟩
theorem vx_callS (X : Stand p l e R s m args below meth c T locs cells slots) (hexec : p.tables.exec = Jvm.exec) {own : String} {index : Nat} {y : MethodName} {bytes : ByteArray} {maxL : Nat} {ret : Option FieldType}
    (hown : s.vm.findClass own = some m.cls) (hlink : (Cond.methodLink own index y).before args s = true) (hstat : (Cond.static y).before args s = true) (hinit : (Cond.initialized y.cls).before args s = true)
    (hcode : (Cond.code y bytes maxL ret).before args s = true) (hy : y.cls ≠ "java/lang/invoke/MethodHandle" ∧ y.cls ≠ "java/lang/invoke/VarHandle")
    {W9 : Nat} {Pre : Pt → Array Value → Prop} {Post : Pt → Array Value → Option Value → Pt → Prop} {PostX : Pt → Array Value → Addr → Pt → Prop} (hK : vx_Back l R p e below s args y 3 W9 Pre Post PostX)
    {g : JFrame} (hg : g.method = m) (hsize : g.locals.size = c.maxLocals) {argsL rest : List Value} (hlen : ∀ sig, parseMethodDescriptor y.desc = some sig → argsL.length = sig.parameters.length)
    (hstack : g.stack = argsL.reverse ++ rest) (hW : 2 * g.monitorRoom + (rest.map fun v => v.category).sum ≤ W9) (hdg : decode c.code g.pc = .ok (.invokestatic index, 3))
    (hpre : ∀ vm₁, s.WarmedH vm₁ → Pre ⟨T.setVm vm₁, locs, cells, slots⟩ argsL.toArray) :
    (∃ (v : Option Value) (vm₁ : Vm) (B : Pt), s.WarmedH vm₁ ∧ Stand p l e R s m args below meth c B.U B.locs B.cells B.slots ∧ Post ⟨T.setVm vm₁, locs, cells, slots⟩ argsL.toArray v B ∧
      ∀ target, Steps p.tables e below (B.U.setTop { g with pc := g.pc + 3, stack := v.toList ++ rest }) target → Steps p.tables e below (T.setTop g) target) ∨
    (∃ (q : Addr) (vm₁ : Vm) (B : Pt), s.WarmedH vm₁ ∧ Stand p l e R s m args below meth c B.U B.locs B.cells B.slots ∧ PostX ⟨T.setVm vm₁, locs, cells, slots⟩ argsL.toArray q B ∧
      Steps p.tables e below (T.setTop g) ((B.U.setTop { g with stack := rest }).pushFrame (.throwing q))) := by
  obtain ⟨mk, hnamed⟩ := Cond.code_named hcode
  obtain ⟨methM, cM, hmethM, -, -, -, -, -, -, hsigM⟩ := Cond.code_spec hnamed hcode
  have hstatic : methM.isStatic = true := Cond.static_spec hnamed hmethM hstat
  obtain ⟨kP, hkP, -⟩ := className_of_methodNamed hnamed
  have hinitP : kP.init = .initialized := Cond.initialized_spec (findClass_of_methodNamed hnamed) hkP hinit
  obtain ⟨vm₁, X₁, hstep₁⟩ := X.invokestatic hexec hown hlink hnamed hmethM hstatic hkP hinitP hy (g := g) hg (argsL := argsL) (rest := rest) (hlen _ hsigM) hstack hdg
  rcases hK m meth c ⟨T.setVm vm₁, locs, cells, slots⟩ { g with stack := rest } (.invokestatic index) mk argsL.toArray X₁ hg hsize hdg hW (X₁.named hnamed) (hpre vm₁ X₁.warmed) with ⟨v, B, X', hpost, hsteps⟩ | ⟨q, B, X', hpost, hsteps⟩
  · exact Or.inl ⟨v, vm₁, B, X₁.warmed, X', hpost, fun target h => hstep₁ _ fun acts => by rw [doInvoke_state]; exact hsteps.trans h⟩
  · exact Or.inr ⟨q, vm₁, B, X₁.warmed, X', hpost, hstep₁ _ fun acts => by rw [doInvoke_state]; exact hsteps⟩
end Calls
theorem vx_cls {s : State} {T : State} {vm₁ : Vm} {E : String} {k : ClassId} (hW : s.WarmedH vm₁) (h : (T.setVm vm₁).vm.findClass E = some k) : s.vm.findClass E = some k := by
  have h1 : vm₁.findClass E = some k := h
  rw [hW.alike.findClass] at h1
  exact h1
/-- the method's frame g, with q thrown over it -/
def vx_W (p : Program) (l : Launch) (e : Env) (R : Room) (s : State) (m : MethodId) (args : Array Value) (below : List Frame) (meth : Method) (c : Code) (H : Heap) (locs : List Loc) (cells slots : Nat) (Q : State → Prop) (g : JFrame) (q : Addr) : Prop :=
  ∀ T : State, T.heap = H → Stand p l e R s m args below meth c T locs cells slots → ∃ t, Steps p.tables e below ((T.setTop g).pushFrame (.throwing q)) t ∧ Q t
def vx_Run (p : Program) (l : Launch) (e : Env) (R : Room) (s : State) (m : MethodId) (args : Array Value) (below : List Frame) (meth : Method) (c : Code) (H : Heap) (locs : List Loc) (cells slots mc ms : Nat) (g : JFrame) (rest : List Value) (Qa : State → Outcome → State → Prop) (XC : String → State → State → Prop) (free : Addr → Prop) : Prop :=
  ∀ T : State, T.heap = H → Stand p l e R s m args below meth c T locs cells slots →
    (∃ (v : Option Value) (st₀ t T' : State) (L : List Loc), st₀.heap = H ∧ Stand p l e R s m args below meth c T' (locs ++ L) (cells + mc) (slots + ms) ∧ (∀ q ∈ L, free q.base) ∧ T'.heap = t.heap ∧ T'.vm = t.vm ∧ Qa st₀ (.returned v) t ∧
      Goes p e below T g T' { g with pc := g.pc + 3, stack := v.toList ++ rest }) ∨
    (∃ (q : Addr) (st₀ t T' : State) (L : List Loc) (E : String) (ce : Cell), st₀.heap = H ∧ Stand p l e R s m args below meth c T' (locs ++ L) (cells + mc) (slots + ms) ∧ (∀ z ∈ L, free z.base) ∧ T'.heap = t.heap ∧ T'.vm = t.vm ∧ XC E st₀ t ∧ t.heap[q]? = some ce ∧ ce.vm = .none ∧ s.vm.findClass E = some ce.cls ∧
      Steps p.tables e below (T.setTop g) ((T'.setTop { g with stack := rest }).pushFrame (.throwing q)))
def vx_X {S : Type} (px : S → Prop) (B : String → S → State → Prop) (A : Nat → Prop) : String → State → State → Prop := fun E st t => ∃ u : S, px u ∧ B E u t ∧ va_F A st t
section Runs
variable {p : Program} {l : Launch} {e : Env} {R : Room} {s : State} {m : MethodId} {args : Array Value} {below : List Frame} {meth : Method} {c : Code} {H : Heap} {locs : List Loc} {cells slots : Nat}
variable {y : MethodName} {bytes cc : ByteArray} {maxL nL mc ms n index : Nat} {ret : Option FieldType} {ws : List Cond} {rm : Room} {Pc : Array Value → State → Prop} {Qc : Array Value → State → Outcome → State → Prop} {XC : String → State → State → Prop} {free : Addr → Prop} {Ts : List Cond} {own C : String} {b : Addr} {As rest : List Value} {g : JFrame}
theorem vx_callBack (cb : CallB R s args own index y bytes maxL ret ws rm mc ms n) (hM : vx_Met l y ws rm Pc Qc XC mc ms free) (hbl : FrameBlind Pc) : vx_Back l R p e below s args y 3 8 (PreOf R mc ms Pc) (PostOf Qc mc ms free) (vx_Post XC mc ms free) := by
  obtain ⟨hrc, hrs, hfr, hlo, hws, hcw, -, hini, -⟩ := cb
  exact vx_back (bytes := bytes) (maxL := maxL) (ret := ret) hM hbl hrc hrs hfr hlo hws hcw (fun a' U hW => word_at hW (Or.inl (by first | rfl | simp [Cond.onTables, Cond.keeps, Cond.steady])) hini)
theorem vx_runV (S : CallFix p m c cc nL s args Ts own) (hM : vx_Met l y ws rm Pc Qc XC mc ms free) (cw : CallW R s args own C index y bytes maxL ret ws rm mc ms n) (hp : PreV s H C b Pc As)
    (hg : g.method = m) (hn : As.length = n) (hsize : g.locals.size = nL) (hstack : g.stack = As.reverse ++ .ref b :: rest) (hW : 2 * g.monitorRoom + (rest.map fun v => v.category).sum ≤ 8) (hdg : decode cc g.pc = .ok (.invokevirtual index, 3)) (hf : cells + mc ≤ R.cells ∧ slots + ms ≤ R.slots) :
    vx_Run p l e R s m args below meth c H locs cells slots mc ms g rest (Qc (Value.ref b :: As).toArray) XC free := by
  have hK : vx_Back l R p e below s args y 3 8 (PreOf R mc ms Pc) (PostOf Qc mc ms free) (vx_Post XC mc ms free) := vx_callBack cw.1 hM hp.1
  obtain ⟨⟨-, -, -, -, -, -, hcode, -, hy, hlen, hl⟩, hin, hse⟩ := cw
  obtain ⟨hx, hb, hml, ho, -⟩ := S
  obtain ⟨-, ⟨cellB, hcB, hoB, hclB⟩, hPc⟩ := hp
  intro T hT X
  rcases vx_callV X hx (C := C) (bytes := bytes) (maxL := maxL) (ret := ret) ho hl hin hse hcode hy hK (by rw [hT]; exact hcB) hoB hclB hg (hsize.trans hml.symm) (argsL := As) (rest := rest) (fun sig h => hn.trans (hlen sig h)) hstack hW (by rw [hb]; exact hdg)
    (fun vm₁ hW₁ => ⟨hf.1, hf.2, hPc (T.setVm vm₁) hT hW₁⟩) with ⟨v, vm₁, ⟨U', l2, c2, s2⟩, hW₁, X', ⟨g', mk, t, L, e1, e2, hq, h1, hL, h2, h3⟩, st⟩ | ⟨q, vm₁, ⟨U', l2, c2, s2⟩, hW₁, X', ⟨g', mk, t, L, E, ce, e1, e2, hq, hce, hcv, hcl, h1, hL, h2, h3⟩, st⟩
  · dsimp only [Pt.U, Pt.locs, Pt.cells, Pt.slots] at X' e1 e2 h1 h2 h3 st
    subst h1; subst h2; subst h3
    exact Or.inl ⟨v, (T.setVm vm₁).calling g' mk (Value.ref b :: As).toArray, t, U', L, hT, X', hL, e1, e2, hq, st⟩
  · dsimp only [Pt.U, Pt.locs, Pt.cells, Pt.slots] at X' e1 e2 h1 h2 h3 st hcl
    subst h1; subst h2; subst h3
    exact Or.inr ⟨q, (T.setVm vm₁).calling g' mk (Value.ref b :: As).toArray, t, U', L, E, ce, hT, X', hL, e1, e2, hq, hce, hcv, vx_cls hW₁ hcl, st⟩
theorem vx_runS (S : CallFix p m c cc nL s args Ts own) (hM : vx_Met l y ws rm Pc Qc XC mc ms free) (cw : CallB R s args own index y bytes maxL ret ws rm mc ms n ∧ (Cond.static y).before args s = true) (hp : PreS s H Pc As)
    (hg : g.method = m) (hn : As.length = n) (hsize : g.locals.size = nL) (hstack : g.stack = As.reverse ++ rest) (hW : 2 * g.monitorRoom + (rest.map fun v => v.category).sum ≤ 8) (hdg : decode cc g.pc = .ok (.invokestatic index, 3)) (hf : cells + mc ≤ R.cells ∧ slots + ms ≤ R.slots) :
    vx_Run p l e R s m args below meth c H locs cells slots mc ms g rest (Qc As.toArray) XC free := by
  have hK : vx_Back l R p e below s args y 3 8 (PreOf R mc ms Pc) (PostOf Qc mc ms free) (vx_Post XC mc ms free) := vx_callBack cw.1 hM hp.1
  obtain ⟨⟨-, -, -, -, -, -, hcode, hini, hy, hlen, hl⟩, hstt⟩ := cw
  obtain ⟨hx, hb, hml, ho, -⟩ := S
  intro T hT X
  rcases vx_callS X hx (bytes := bytes) (maxL := maxL) (ret := ret) ho hl hstt hini hcode hy hK hg (hsize.trans hml.symm) (argsL := As) (rest := rest) (fun sig h => hn.trans (hlen sig h)) hstack hW (by rw [hb]; exact hdg)
    (fun vm₁ hW₁ => ⟨hf.1, hf.2, hp.2 (T.setVm vm₁) hT hW₁⟩) with ⟨v, vm₁, ⟨U', l2, c2, s2⟩, hW₁, X', ⟨g', mk, t, L, e1, e2, hq, h1, hL, h2, h3⟩, st⟩ | ⟨q, vm₁, ⟨U', l2, c2, s2⟩, hW₁, X', ⟨g', mk, t, L, E, ce, e1, e2, hq, hce, hcv, hcl, h1, hL, h2, h3⟩, st⟩
  · dsimp only [Pt.U, Pt.locs, Pt.cells, Pt.slots] at X' e1 e2 h1 h2 h3 st
    subst h1; subst h2; subst h3
    exact Or.inl ⟨v, (T.setVm vm₁).calling g' mk As.toArray, t, U', L, hT, X', hL, e1, e2, hq, st⟩
  · dsimp only [Pt.U, Pt.locs, Pt.cells, Pt.slots] at X' e1 e2 h1 h2 h3 st hcl
    subst h1; subst h2; subst h3
    exact Or.inr ⟨q, (T.setVm vm₁).calling g' mk As.toArray, t, U', L, E, ce, hT, X', hL, e1, e2, hq, hce, hcv, vx_cls hW₁ hcl, st⟩
end Runs
section Rows
variable {p : Program} {l : Launch} {e : Env} {R : Room} {s : State} {m : MethodId} {args : Array Value} {below : List Frame} {meth : Method} {c : Code} {H : Heap} {locs : List Loc} {cells slots : Nat} {Q : State → Prop}
variable {mc ms : Nat} {free : Addr → Prop} {A0 A1 : Nat → Prop} {H0 : Heap} {a : Array Value} {pc : Nat} {ls : Array Slot} {st0 rest : List Value}
theorem vx_keep {st₀ t T' : State} {L : List Loc} (h0 : st₀.heap = H) (e1 : T'.heap = t.heap) (hS : va_S A0 H0 H locs) (hA : ∀ q, q < H.size → A1 q → A0 q) (hf : ∀ q, free q → A0 q) (hL : ∀ q ∈ L, free q.base) (hF : va_F A1 st₀ t) :
    H.size ≤ T'.heap.size ∧ (∀ q : Nat, q < H.size → ¬ A1 q → T'.heap[q]? = H[q]?) ∧ va_S A0 H0 T'.heap (locs ++ L) := by
  obtain ⟨hz, hk⟩ := hF
  rw [h0] at hz hk
  exact ⟨by rw [e1]; exact hz, fun q h1 h2 => by rw [e1]; exact hk q h1 h2,
    ⟨Nat.le_trans hS.1 (by rw [e1]; exact hz), fun q h1 h2 => by rw [e1, hk q (Nat.lt_of_lt_of_le h1 hS.1) (fun z => h2 (hA q (Nat.lt_of_lt_of_le h1 hS.1) z))]; exact hS.2.1 q h1 h2, fun q hq => by
      rcases List.mem_append.mp hq with h | h
      · exact hS.2.2 q h
      · exact hf _ (hL q h)⟩⟩
theorem vx_calli {S SX : Type} {post : Int32 → S → Prop} {px : SX → Prop} {B : S → State → Prop} {BX : String → SX → State → Prop} {AX : Nat → Prop} (hr : vx_Run p l e R s m args below meth c H locs cells slots mc ms (F0 m pc ls st0) rest (va_Qi post B A1 a) (vx_X px BX AX) free) (hS : va_S A0 H0 H locs) (hA : ∀ q, q < H.size → A1 q → A0 q) (hf : ∀ q, free q → A0 q) (hAX : ∀ q, q < H.size → AX q → A0 q)
    (kx : ∀ (E : String) (ce : Cell) (q9 : Addr) (u : SX) (t : State) (H1 : Heap) (locs1 : List Loc), t.heap = H1 → s.vm.Alike t.vm → px u → BX E u t → H.size ≤ H1.size → (∀ q : Nat, q < H.size → ¬ AX q → H1[q]? = H[q]?) → va_S A0 H0 H1 locs1 → H1[q9]? = some ce → ce.vm = .none → s.vm.findClass E = some ce.cls → vx_W p l e R s m args below meth c H1 locs1 (cells + mc) (slots + ms) Q (F0 m pc ls rest) q9)
    (kk : ∀ (r : Int32) (u : S) (t : State) (H1 : Heap) (locs1 : List Loc), t.heap = H1 → s.vm.Alike t.vm → post r u → B u t → H.size ≤ H1.size → (∀ q : Nat, q < H.size → ¬ A1 q → H1[q]? = H[q]?) → va_S A0 H0 H1 locs1 → W p l e R s m args below meth c H1 locs1 (cells + mc) (slots + ms) Q (F0 m (pc + 3) ls (.int r :: rest))) : W p l e R s m args below meth c H locs cells slots Q (F0 m pc ls st0) := by
  intro T hT X
  rcases hr T hT X with ⟨v, st₀, t, T', L, h0, X', hL, e1, e2, ⟨⟨r, u, hv, hp, hb⟩, hF⟩, st⟩ | ⟨q, st₀, t, T', L, E, ce, h0, X', hL, e1, e2, ⟨u, hp, hb, hF⟩, hce, hcv, hcl, st⟩
  · cases hv
    obtain ⟨k1, k2, k3⟩ := vx_keep h0 e1 hS hA hf hL hF
    obtain ⟨t2, a1, b1⟩ := kk r u t T'.heap (locs ++ L) e1.symm (by rw [← e2]; exact X'.warmed.alike) hp hb k1 k2 k3 T' rfl X'
    exact ⟨t2, st t2 a1, b1⟩
  · obtain ⟨k1, k2, k3⟩ := vx_keep h0 e1 hS hAX hf hL hF
    obtain ⟨t2, a1, b1⟩ := kx E ce q u t T'.heap (locs ++ L) e1.symm (by rw [← e2]; exact X'.warmed.alike) hp hb k1 k2 k3 (by rw [e1]; exact hce) hcv hcl T' rfl X'
    exact ⟨t2, st.trans a1, b1⟩
theorem vx_calll {S SX : Type} {post : Int64 → S → Prop} {px : SX → Prop} {B : S → State → Prop} {BX : String → SX → State → Prop} {AX : Nat → Prop} (hr : vx_Run p l e R s m args below meth c H locs cells slots mc ms (F0 m pc ls st0) rest (va_Ql post B A1 a) (vx_X px BX AX) free) (hS : va_S A0 H0 H locs) (hA : ∀ q, q < H.size → A1 q → A0 q) (hf : ∀ q, free q → A0 q) (hAX : ∀ q, q < H.size → AX q → A0 q)
    (kx : ∀ (E : String) (ce : Cell) (q9 : Addr) (u : SX) (t : State) (H1 : Heap) (locs1 : List Loc), t.heap = H1 → s.vm.Alike t.vm → px u → BX E u t → H.size ≤ H1.size → (∀ q : Nat, q < H.size → ¬ AX q → H1[q]? = H[q]?) → va_S A0 H0 H1 locs1 → H1[q9]? = some ce → ce.vm = .none → s.vm.findClass E = some ce.cls → vx_W p l e R s m args below meth c H1 locs1 (cells + mc) (slots + ms) Q (F0 m pc ls rest) q9)
    (kk : ∀ (r : Int64) (u : S) (t : State) (H1 : Heap) (locs1 : List Loc), t.heap = H1 → s.vm.Alike t.vm → post r u → B u t → H.size ≤ H1.size → (∀ q : Nat, q < H.size → ¬ A1 q → H1[q]? = H[q]?) → va_S A0 H0 H1 locs1 → W p l e R s m args below meth c H1 locs1 (cells + mc) (slots + ms) Q (F0 m (pc + 3) ls (.long r :: rest))) : W p l e R s m args below meth c H locs cells slots Q (F0 m pc ls st0) := by
  intro T hT X
  rcases hr T hT X with ⟨v, st₀, t, T', L, h0, X', hL, e1, e2, ⟨⟨r, u, hv, hp, hb⟩, hF⟩, st⟩ | ⟨q, st₀, t, T', L, E, ce, h0, X', hL, e1, e2, ⟨u, hp, hb, hF⟩, hce, hcv, hcl, st⟩
  · cases hv
    obtain ⟨k1, k2, k3⟩ := vx_keep h0 e1 hS hA hf hL hF
    obtain ⟨t2, a1, b1⟩ := kk r u t T'.heap (locs ++ L) e1.symm (by rw [← e2]; exact X'.warmed.alike) hp hb k1 k2 k3 T' rfl X'
    exact ⟨t2, st t2 a1, b1⟩
  · obtain ⟨k1, k2, k3⟩ := vx_keep h0 e1 hS hAX hf hL hF
    obtain ⟨t2, a1, b1⟩ := kx E ce q u t T'.heap (locs ++ L) e1.symm (by rw [← e2]; exact X'.warmed.alike) hp hb k1 k2 k3 (by rw [e1]; exact hce) hcv hcl T' rfl X'
    exact ⟨t2, st.trans a1, b1⟩
theorem vx_callf {S SX : Type} {post : UInt32 → S → Prop} {px : SX → Prop} {B : S → State → Prop} {BX : String → SX → State → Prop} {AX : Nat → Prop} (hr : vx_Run p l e R s m args below meth c H locs cells slots mc ms (F0 m pc ls st0) rest (va_Qf post B A1 a) (vx_X px BX AX) free) (hS : va_S A0 H0 H locs) (hA : ∀ q, q < H.size → A1 q → A0 q) (hf : ∀ q, free q → A0 q) (hAX : ∀ q, q < H.size → AX q → A0 q)
    (kx : ∀ (E : String) (ce : Cell) (q9 : Addr) (u : SX) (t : State) (H1 : Heap) (locs1 : List Loc), t.heap = H1 → s.vm.Alike t.vm → px u → BX E u t → H.size ≤ H1.size → (∀ q : Nat, q < H.size → ¬ AX q → H1[q]? = H[q]?) → va_S A0 H0 H1 locs1 → H1[q9]? = some ce → ce.vm = .none → s.vm.findClass E = some ce.cls → vx_W p l e R s m args below meth c H1 locs1 (cells + mc) (slots + ms) Q (F0 m pc ls rest) q9)
    (kk : ∀ (r : UInt32) (u : S) (t : State) (H1 : Heap) (locs1 : List Loc), t.heap = H1 → s.vm.Alike t.vm → post r u → B u t → H.size ≤ H1.size → (∀ q : Nat, q < H.size → ¬ A1 q → H1[q]? = H[q]?) → va_S A0 H0 H1 locs1 → W p l e R s m args below meth c H1 locs1 (cells + mc) (slots + ms) Q (F0 m (pc + 3) ls (.float r :: rest))) : W p l e R s m args below meth c H locs cells slots Q (F0 m pc ls st0) := by
  intro T hT X
  rcases hr T hT X with ⟨v, st₀, t, T', L, h0, X', hL, e1, e2, ⟨⟨r, u, hv, hp, hb⟩, hF⟩, st⟩ | ⟨q, st₀, t, T', L, E, ce, h0, X', hL, e1, e2, ⟨u, hp, hb, hF⟩, hce, hcv, hcl, st⟩
  · cases hv
    obtain ⟨k1, k2, k3⟩ := vx_keep h0 e1 hS hA hf hL hF
    obtain ⟨t2, a1, b1⟩ := kk r u t T'.heap (locs ++ L) e1.symm (by rw [← e2]; exact X'.warmed.alike) hp hb k1 k2 k3 T' rfl X'
    exact ⟨t2, st t2 a1, b1⟩
  · obtain ⟨k1, k2, k3⟩ := vx_keep h0 e1 hS hAX hf hL hF
    obtain ⟨t2, a1, b1⟩ := kx E ce q u t T'.heap (locs ++ L) e1.symm (by rw [← e2]; exact X'.warmed.alike) hp hb k1 k2 k3 (by rw [e1]; exact hce) hcv hcl T' rfl X'
    exact ⟨t2, st.trans a1, b1⟩
theorem vx_calld {S SX : Type} {post : UInt64 → S → Prop} {px : SX → Prop} {B : S → State → Prop} {BX : String → SX → State → Prop} {AX : Nat → Prop} (hr : vx_Run p l e R s m args below meth c H locs cells slots mc ms (F0 m pc ls st0) rest (va_Qd post B A1 a) (vx_X px BX AX) free) (hS : va_S A0 H0 H locs) (hA : ∀ q, q < H.size → A1 q → A0 q) (hf : ∀ q, free q → A0 q) (hAX : ∀ q, q < H.size → AX q → A0 q)
    (kx : ∀ (E : String) (ce : Cell) (q9 : Addr) (u : SX) (t : State) (H1 : Heap) (locs1 : List Loc), t.heap = H1 → s.vm.Alike t.vm → px u → BX E u t → H.size ≤ H1.size → (∀ q : Nat, q < H.size → ¬ AX q → H1[q]? = H[q]?) → va_S A0 H0 H1 locs1 → H1[q9]? = some ce → ce.vm = .none → s.vm.findClass E = some ce.cls → vx_W p l e R s m args below meth c H1 locs1 (cells + mc) (slots + ms) Q (F0 m pc ls rest) q9)
    (kk : ∀ (r : UInt64) (u : S) (t : State) (H1 : Heap) (locs1 : List Loc), t.heap = H1 → s.vm.Alike t.vm → post r u → B u t → H.size ≤ H1.size → (∀ q : Nat, q < H.size → ¬ A1 q → H1[q]? = H[q]?) → va_S A0 H0 H1 locs1 → W p l e R s m args below meth c H1 locs1 (cells + mc) (slots + ms) Q (F0 m (pc + 3) ls (.double r :: rest))) : W p l e R s m args below meth c H locs cells slots Q (F0 m pc ls st0) := by
  intro T hT X
  rcases hr T hT X with ⟨v, st₀, t, T', L, h0, X', hL, e1, e2, ⟨⟨r, u, hv, hp, hb⟩, hF⟩, st⟩ | ⟨q, st₀, t, T', L, E, ce, h0, X', hL, e1, e2, ⟨u, hp, hb, hF⟩, hce, hcv, hcl, st⟩
  · cases hv
    obtain ⟨k1, k2, k3⟩ := vx_keep h0 e1 hS hA hf hL hF
    obtain ⟨t2, a1, b1⟩ := kk r u t T'.heap (locs ++ L) e1.symm (by rw [← e2]; exact X'.warmed.alike) hp hb k1 k2 k3 T' rfl X'
    exact ⟨t2, st t2 a1, b1⟩
  · obtain ⟨k1, k2, k3⟩ := vx_keep h0 e1 hS hAX hf hL hF
    obtain ⟨t2, a1, b1⟩ := kx E ce q u t T'.heap (locs ++ L) e1.symm (by rw [← e2]; exact X'.warmed.alike) hp hb k1 k2 k3 (by rw [e1]; exact hce) hcv hcl T' rfl X'
    exact ⟨t2, st.trans a1, b1⟩
theorem vx_callv {S SX : Type} {post : S → Prop} {px : SX → Prop} {B : S → State → Prop} {BX : String → SX → State → Prop} {AX : Nat → Prop} (hr : vx_Run p l e R s m args below meth c H locs cells slots mc ms (F0 m pc ls st0) rest (va_Qv post B A1 a) (vx_X px BX AX) free) (hS : va_S A0 H0 H locs) (hA : ∀ q, q < H.size → A1 q → A0 q) (hf : ∀ q, free q → A0 q) (hAX : ∀ q, q < H.size → AX q → A0 q)
    (kx : ∀ (E : String) (ce : Cell) (q9 : Addr) (u : SX) (t : State) (H1 : Heap) (locs1 : List Loc), t.heap = H1 → s.vm.Alike t.vm → px u → BX E u t → H.size ≤ H1.size → (∀ q : Nat, q < H.size → ¬ AX q → H1[q]? = H[q]?) → va_S A0 H0 H1 locs1 → H1[q9]? = some ce → ce.vm = .none → s.vm.findClass E = some ce.cls → vx_W p l e R s m args below meth c H1 locs1 (cells + mc) (slots + ms) Q (F0 m pc ls rest) q9)
    (kk : ∀ (u : S) (t : State) (H1 : Heap) (locs1 : List Loc), t.heap = H1 → s.vm.Alike t.vm → post u → B u t → H.size ≤ H1.size → (∀ q : Nat, q < H.size → ¬ A1 q → H1[q]? = H[q]?) → va_S A0 H0 H1 locs1 → W p l e R s m args below meth c H1 locs1 (cells + mc) (slots + ms) Q (F0 m (pc + 3) ls (rest))) : W p l e R s m args below meth c H locs cells slots Q (F0 m pc ls st0) := by
  intro T hT X
  rcases hr T hT X with ⟨v, st₀, t, T', L, h0, X', hL, e1, e2, ⟨⟨u, hv, hp, hb⟩, hF⟩, st⟩ | ⟨q, st₀, t, T', L, E, ce, h0, X', hL, e1, e2, ⟨u, hp, hb, hF⟩, hce, hcv, hcl, st⟩
  · cases hv
    obtain ⟨k1, k2, k3⟩ := vx_keep h0 e1 hS hA hf hL hF
    obtain ⟨t2, a1, b1⟩ := kk u t T'.heap (locs ++ L) e1.symm (by rw [← e2]; exact X'.warmed.alike) hp hb k1 k2 k3 T' rfl X'
    exact ⟨t2, st t2 a1, b1⟩
  · obtain ⟨k1, k2, k3⟩ := vx_keep h0 e1 hS hAX hf hL hF
    obtain ⟨t2, a1, b1⟩ := kx E ce q u t T'.heap (locs ++ L) e1.symm (by rw [← e2]; exact X'.warmed.alike) hp hb k1 k2 k3 (by rw [e1]; exact hce) hcv hcl T' rfl X'
    exact ⟨t2, st.trans a1, b1⟩
/-- caught by the row x of this method's table; the rows ahead don't take it -/
theorem vx_catch {own name : String} {E : String} {ce : Cell} {q : Addr} (hown : s.vm.findClass own = some m.cls) (pre : List ExceptionTableEntry) (x : ExceptionTableEntry) (suf : List ExceptionTableEntry) (hsplit : c.exceptionTable.toList = pre ++ x :: suf)
    (hpass : ∀ z ∈ pre, covers z pc = false ∨ (z.catchType ≠ 0 ∧ ∃ nm : String, (Cond.classLink own z.catchType nm).before args s = true ∧ va_Nc E nm s)) (hx : covers x pc = true) (h0 : x.catchType ≠ 0)
    (hlink : (Cond.classLink own x.catchType name).before args s = true) (hcast : (Cond.castable E name).before args s = true) (hcell : H[q]? = some ce) (hv : ce.vm = .none) (hcl : s.vm.findClass E = some ce.cls)
    (kk : W p l e R s m args below meth c H locs cells slots Q (F0 m x.handlerPc ls [.ref q])) : vx_W p l e R s m args below meth c H locs cells slots Q (F0 m pc ls rest) q := by
  intro T hT X
  have hpl : e.platform.magicAccessors = ({} : Platform).magicAccessors := by rw [X.admits.platform]
  obtain ⟨c3, c4, hc3, hc4, hasg⟩ := Cond.castable_spec hcast
  cases Option.some.inj (hc3.symm.trans hcl)
  obtain ⟨c5, hc5, hcl5⟩ := Cond.classLink_spec hown hlink e.platform hpl
  cases Option.some.inj (hc4.symm.trans hc5)
  obtain ⟨vm', X', st⟩ := vy_caught X q (g := F0 m pc ls rest) rfl (by rw [hT]; exact hcell) (by rw [hv]; rfl) (by obtain ⟨k9, h9, -⟩ := Vm.findClass_spec hcl; exact ⟨k9, h9⟩) pre x suf hsplit
    (fun z hz => by
      rcases hpass z hz with h | ⟨hz0, nm, hl1, hn1⟩
      · exact Or.inl h
      · obtain ⟨c6, hc6, hcl6⟩ := Cond.classLink_spec hown hl1 e.platform hpl
        obtain ⟨a8, b8, h1, h2, h3⟩ := hn1
        cases Option.some.inj (h1.symm.trans hcl)
        cases Option.some.inj (h2.symm.trans hc6)
        exact Or.inr ⟨hz0, _, hcl6, h3⟩) hx h0 hcl5 hasg
  obtain ⟨t, a1, b1⟩ := kk (T.setVm vm') hT X'
  exact ⟨t, st.trans a1, b1⟩
end Rows
section Ends
variable {p : Program} {l : Launch} {e : Env} {R : Room} {s : State} {m : MethodId} {args : Array Value} {below : List Frame} {meth : Method} {c : Code} {H : Heap} {locs : List Loc} {cells slots : Nat} {Q : State → Prop}
variable {mc ms : Nat} {free : Addr → Prop} {A0 A1 : Nat → Prop} {H0 : Heap} {a : Array Value} {ls : Array Slot} {st0 rest : List Value}
variable {Qc : Array Value → State → Outcome → State → Prop} {XC : String → State → State → Prop}
/-- what a body that may throw owes at its end -/
def vx_MQ (below : List Frame) (Qc : Array Value → State → Outcome → State → Prop) (XC : String → State → State → Prop) (a : Array Value) (s : State) (mc ms : Nat) (free : Addr → Prop) : State → Prop := fun t =>
  ∃ o, t.status = .running ∧ Ended t below o ∧ vx_Q Qc XC mc ms free a s o t
theorem vx_ret {g : JFrame} {mc ms : Nat} (k : W p l e R s m args below meth c H locs cells slots (MQ below Qc args s mc ms free) g) : W p l e R s m args below meth c H locs cells slots (vx_MQ below Qc XC args s mc ms free) g := by
  intro T hT X
  obtain ⟨t, a1, o, b1, b2, b3, b4⟩ := k T hT X
  exact ⟨t, a1, o, b1, b2, Or.inl ⟨b3, b4⟩⟩
/-- not caught here: it goes on to the caller -/
theorem vx_widen {g : JFrame} {q : Addr} {k n : Nat} (h1 : cells ≤ k) (h2 : slots ≤ n) (kk : vx_W p l e R s m args below meth c H locs k n Q g q) : vx_W p l e R s m args below meth c H locs cells slots Q g q := fun T hT X => kk T hT (stand_widen X h1 h2)
theorem vx_out {pc : Nat} {E : String} {ce : Cell} {q : Addr} {mc ms : Nat} (hout : ∀ x ∈ c.exceptionTable.toList, covers x pc = false) (hlocks : meth.locks = false) (hcell : H[q]? = some ce) (hv : ce.vm = .none) (hcl : s.vm.findClass E = some ce.cls)
    (hx : ∀ t : State, t.heap = H → s.vm.Alike t.vm → XC E s t) (hf : ∀ z ∈ locs, free z.base) (hc : cells ≤ mc) (hs : slots ≤ ms) :
    vx_W p l e R s m args below meth c H locs cells slots (vx_MQ below Qc XC args s mc ms free) (F0 m pc ls rest) q := by
  intro T hT X
  obtain ⟨st1, hrun, hend, hW, hsm⟩ := X.leaveThrown q (g := F0 m pc ls rest) rfl rfl rfl hout hlocks
  have hcell9 : (T.setFrames (.throwing q :: below)).heap[q]? = some ce := by
    show T.heap[q]? = some ce
    rw [hT]; exact hcell
  exact ⟨_, st1, .threw q, hrun, hend, Or.inr ⟨q, rfl, E, ce, locs, hx _ hT hW.alike, hcell9, hv, hcl, hW, hsm.mono hc hs, hf⟩⟩
theorem vx_frame {U : State} {k n : Nat} (h : s.sameButNew ({ U with vm := s.vm } : State) locs k n) : s.heap.size ≤ U.heap.size ∧ ∀ q : Nat, q < s.heap.size → (∀ z ∈ locs, z.base ≠ q) → U.heap[q]? = s.heap[q]? := by
  obtain ⟨-, h2, -, -, -, h6⟩ := h
  refine ⟨h2, fun q hq hz => ?_⟩
  obtain ⟨c9, e1, e2, e3, e4⟩ := h6 q _ (Array.getElem?_eq_getElem hq)
  have hs : c9.slots = (s.heap[q]).slots := Array.ext_getElem? fun i => e4 i fun hm => hz _ hm rfl
  have h9 : c9 = s.heap[q] := by
    rw [hs] at e2
    exact e2
  have e5 : U.heap[q]? = some c9 := e1
  rw [e5, h9, Array.getElem?_eq_getElem hq]
/-- the words of a throw but the four that speak of the heap -/
def vx_no (w : Cond) : Bool := decide (w ≠ .isRef (.static Bundle.tN "UNASSIGNED_STACK" Bundle.steD)) && decide (w ≠ .isRef (.static Bundle.tN "SUPPRESSED_SENTINEL" Bundle.listD)) && decide (w ≠ .laysStatic Bundle.tN "UNASSIGNED_STACK" Bundle.steD) && decide (w ≠ .laysStatic Bundle.tN "SUPPRESSED_SENTINEL" Bundle.listD)
def vx_at0 (own : String) (ic : Nat) (X : String) (names : List String) : List Cond := (Bundle.ownAtoms0 own ic X names).filter vx_no
def vx_atS (own : String) (ic : Nat) (X : String) (names : List String) : List Cond := (Bundle.ownAtoms own ic X names).filter vx_no
/-- a word that the tables alone decide, or a good one -/
def vx_ot (w : Cond) : Bool := w.onTables || goodWord w
theorem vx_ot_at {args a' : Array Value} {s U : State} {w : Cond} (hW : s.WarmedH U.vm) (hvm : s.vm = U.vm) (hg : vx_ot w = true) (h : w.before args s = true) : w.before a' U = true := by
  simp only [vx_ot, Bool.or_eq_true] at hg
  rcases hg with hg | hg
  · exact va_tabs hg hvm h
  · exact word_at hW (good_of_word hg) h
/-- a list's words: the good ones out of the method's own list, the others by premises of their own -/
theorem vx_hat {args : Array Value} {s : State} {L B : List Cond} (h1 : ∀ w ∈ L.filter goodWord, w.before args s = true) (h2 : ∀ w ∈ L.filter (fun w => !goodWord w), w ∈ B) (h3 : ∀ w ∈ B, w.before args s = true) : ∀ w ∈ L, w.before args s = true := by
  intro w hw
  by_cases g : goodWord w = true
  · exact h1 w (List.mem_filter.mpr ⟨hw, g⟩)
  · refine h3 w (h2 w (List.mem_filter.mpr ⟨hw, ?_⟩))
    show (!goodWord w) = true
    cases hgw : goodWord w
    · rfl
    · exact absurd hgw g
theorem vx_c {args : Array Value} {s : State} {w : Cond} {B : List Cond} (h : w.before args s = true) (t : ∀ w ∈ B, w.before args s = true) : ∀ w' ∈ w :: B, w'.before args s = true := fun w' h' => (List.mem_cons.mp h').elim (fun e => by rw [e]; exact h) (t w')
theorem vx_n {args : Array Value} {s : State} : ∀ w ∈ ([] : List Cond), w.before args s = true := fun _ h => nomatch h
theorem vx_own {args : Array Value} {s : State} {L : List Cond} (h1 : ∀ w ∈ L.filter vx_no, w.before args s = true)
    (hU : (Cond.isRef (.static Bundle.tN "UNASSIGNED_STACK" Bundle.steD)).before args s = true) (hN : (Cond.isRef (.static Bundle.tN "SUPPRESSED_SENTINEL" Bundle.listD)).before args s = true)
    (lU : (Cond.laysStatic Bundle.tN "UNASSIGNED_STACK" Bundle.steD).before args s = true) (lN : (Cond.laysStatic Bundle.tN "SUPPRESSED_SENTINEL" Bundle.listD).before args s = true) : ∀ w ∈ L, w.before args s = true := by
  intro w hw
  by_cases e1 : w = .isRef (.static Bundle.tN "UNASSIGNED_STACK" Bundle.steD)
  · rw [e1]; exact hU
  · by_cases e2 : w = .isRef (.static Bundle.tN "SUPPRESSED_SENTINEL" Bundle.listD)
    · rw [e2]; exact hN
    · by_cases e3 : w = .laysStatic Bundle.tN "UNASSIGNED_STACK" Bundle.steD
      · rw [e3]; exact lU
      · by_cases e4 : w = .laysStatic Bundle.tN "SUPPRESSED_SENTINEL" Bundle.listD
        · rw [e4]; exact lN
        · exact h1 w (List.mem_filter.mpr ⟨hw, by unfold vx_no; rw [decide_eq_true e1, decide_eq_true e2, decide_eq_true e3, decide_eq_true e4]; rfl⟩)
/-- where a static field lies, its class's statics cell in H -/
def vx_L (C n d : String) (A : Nat → Prop) (U : State) (H : Heap) : Prop := ∃ (c : ClassId) (k : Class) (i : Nat) (f : Field) (a : Nat) (cell : Cell), U.vm.findClass C = some c ∧ U.fieldFound? C n d = some (c, k, i, f) ∧ f.isStatic = true ∧ k.statics = some a ∧ H[a]? = some cell ∧ cell.vm.isStatics = true ∧ cell.cls = c ∧ f.slot < cell.slots.size ∧ k.staticTypes[f.slot]? = some f.type ∧ ¬ A a
theorem vx_L.moved {C n d : String} {A : Nat → Prop} {u U : State} {H : Heap} (hvm : u.vm.Alike U.vm) (h : vx_L C n d A u H) : vx_L C n d A U H := by
  obtain ⟨c, k, i, f, a, cell, h1, h2, h3, h4, h5, h6, h7, h8, h9, h10⟩ := h
  obtain ⟨k', hi', he⟩ := State.fieldFound?_setVm hvm h2
  exact ⟨c, k', i, f, a, cell, by rw [hvm.findClass]; exact h1, hi', h3, by rw [he]; exact h4, h5, h6, h7, h8, by rw [he]; exact h9, h10⟩
theorem vx_L.kept {C n d : String} {A : Nat → Prop} {U : State} {H H1 : Heap} (h : vx_L C n d A U H) (hq : ∀ a : Nat, a < H.size → ¬ A a → H1[a]? = H[a]?) : vx_L C n d A U H1 := by
  obtain ⟨c, k, i, f, a, cell, h1, h2, h3, h4, h5, h6, h7, h8, h9, h10⟩ := h
  exact ⟨c, k, i, f, a, cell, h1, h2, h3, h4, by rw [hq a (Array.getElem?_eq_some_iff.mp h5).1 h10]; exact h5, h6, h7, h8, h9, h10⟩
theorem vx_L.narrow {C n d : String} {A B : Nat → Prop} {U : State} {H : Heap} (h : vx_L C n d A U H) (hAB : ∀ q, B q → A q) : vx_L C n d B U H := by
  obtain ⟨c, k, i, f, a, cell, h1, h2, h3, h4, h5, h6, h7, h8, h9, h10⟩ := h
  exact ⟨c, k, i, f, a, cell, h1, h2, h3, h4, h5, h6, h7, h8, h9, fun z => h10 (hAB _ z)⟩
theorem vx_L.word {C n d : String} {A : Nat → Prop} {s : State} {args : Array Value} (h : vx_L C n d A s s.heap) : (Cond.laysStatic C n d).before args s = true := by
  obtain ⟨c, k, i, f, a, cell, h1, h2, h3, h4, h5, h6, h7, h8, h9, -⟩ := h
  show (Cond.laysStatic C n d).holds args s none s [] = true
  exact Cond.laysStatic_of h1 h2 h3 h4 h5 h6 h7 h8 h9
/-- .. and what it holds: null or some reference -/
def vx_Zq (C n d : String) (A : Nat → Prop) (U : State) (H : Heap) : Prop := va_Zq C n d A U H ∧ vx_L C n d A U H
theorem vx_Zq.moved {C n d : String} {A : Nat → Prop} {u U : State} {H : Heap} (hvm : u.vm.Alike U.vm) (h : vx_Zq C n d A u H) : vx_Zq C n d A U H := ⟨va_Zq.moved hvm h.1, vx_L.moved hvm h.2⟩
theorem vx_Zq.kept {C n d : String} {A : Nat → Prop} {U : State} {H H1 : Heap} (h : vx_Zq C n d A U H) (hq : ∀ a : Nat, a < H.size → ¬ A a → H1[a]? = H[a]?) : vx_Zq C n d A U H1 := ⟨va_Zq.kept h.1 hq, vx_L.kept h.2 hq⟩
theorem vx_Zq.narrow {C n d : String} {A B : Nat → Prop} {U : State} {H : Heap} (h : vx_Zq C n d A U H) (hAB : ∀ q, B q → A q) : vx_Zq C n d B U H := ⟨va_Zq.narrow h.1 hAB, vx_L.narrow h.2 hAB⟩
theorem vx_Zqof {args : Array Value} {s : State} {C n d : String} {A : Nat → Prop} (hl : (Cond.laysStatic C n d).before args s = true) (hini : (Cond.initialized C).before args s = true) (h : (Cond.isRef (.static C n d)).before args s = true) (hA : ∀ a : Nat, a < s.heap.size → ¬ A a) : vx_Zq C n d A s s.heap := by
  refine ⟨va_Zqof hl hini h hA, ?_⟩
  obtain ⟨c, k, i, f, a, cell, h1, h2, h3, h4, h5, h6, h7, h8, h9⟩ := Cond.laysStatic_spec hl
  exact ⟨c, k, i, f, a, cell, h1, h2, h3, h4, h5, h6, h7, h8, h9, hA a (Array.getElem?_eq_some_iff.mp h5).1⟩
theorem vx_isRef {C n d : String} {v : Value} {A : Nat → Prop} {s : State} {args : Array Value} (h : va_Z C n d v A s s.heap) (hv : v.isRef = true) : (Cond.isRef (.static C n d)).before args s = true := by
  obtain ⟨cf, kf, fi, f, a, cell, h1, h2, h3, h4, h5, h6, h7, -⟩ := h
  have he : (Term.static C n d).eval args s none [] s = some v := by
    simp [Term.eval, State.fieldNamed?, h1, h2, h4, h5, h6, h7]
  simp only [Cond.before, Cond.holds, Cond.value, he]
  cases v <;> simp_all [Value.isRef]
theorem vx_isRefq {C n d : String} {A : Nat → Prop} {s : State} {args : Array Value} (h : va_Zq C n d A s s.heap) : (Cond.isRef (.static C n d)).before args s = true := by
  rcases h with h | ⟨t, h⟩
  · exact vx_isRef h rfl
  · exact vx_isRef h rfl
/-- the same frame, seen from here: as if the method were called anew in this heap -/
theorem vx_rebase {T : State} (X : Stand p l e R s m args below meth c T locs cells slots) {R' : Room} (hf : R'.frames ≤ R.frames) (hl : R'.locals ≤ R.locals) (hc : cells + R'.cells ≤ R.cells) (hs : slots + R'.slots ≤ R.slots) :
    Stand p l e R' ((T.setVm s.vm).setFrames (.invoking m args :: below)) m args below meth c T [] 0 0 := by
  have htop : (T.setVm s.vm).topJava?.isSome := X.here.top
  have hF : ((T.setVm s.vm).setFrames (.invoking m args :: below)).frames = .invoking m args :: below := State.frames_setFrames _ (State.cur_lt_of_top htop)
  obtain ⟨g₀, hg0⟩ := Option.isSome_iff_exists.mp htop
  obtain ⟨r, hr⟩ := State.topJava?_eq_some.mp hg0
  have hl9 : e.platform.stackLimits (T.setVm s.vm).me = e.platform.stackLimits s.me := X.limits
  have hb9 : (T.setVm s.vm).me.stackBytes = s.me.stackBytes := X.bytes
  refine ⟨X.admits, X.cas, X.clock, hF, ?_, X.hears, X.method, X.code, X.here, X.tail, X.warmed, ?_, ?_, ?_⟩
  · have h := X.room
    have hU : ((T.setVm s.vm).setFrames (.invoking m args :: below)).localsInUse = s.localsInUse := by
      rw [State.localsInUse_invoking hF (meth := meth) (c := c) X.method X.code, State.localsInUse_invoking X.frames X.method X.code]
    simp only [State.hasRoom, Bool.and_eq_true, decide_eq_true_eq] at h ⊢
    obtain ⟨⟨⟨⟨h1, h2, h3, h4, h5, h6⟩, h7⟩, h8⟩, h9⟩ := h
    rw [X.frames, List.length_cons] at h2 h3
    have q1 := X.heapSize
    have q2 := X.used
    simp only [hF, hU, List.length_cons, State.stackLimits_setFrames, State.stackBytes_setFrames, hl9, hb9]
    refine ⟨⟨⟨⟨by omega, by omega, by omega, by omega, by omega, h6⟩, ?_⟩, ?_⟩, X.book⟩
    · show T.heap.size + R'.cells ≤ e.platform.maxCells
      omega
    · show T.slotsUsed + R'.slots ≤ e.platform.maxSlots
      omega
  · rw [State.stackLimits_setFrames]; rfl
  · rw [State.stackBytes_setFrames]; rfl
  · refine ⟨?_, Nat.le_refl _, Nat.le_refl _, ?_, ?_, fun a c9 h9 => ⟨c9, h9, rfl, rfl, fun _ _ => rfl⟩⟩
    · obtain ⟨t, ht, -⟩ := State.frames_cons hr
      show T.setVm s.vm = { ((T.setVm s.vm).setFrames (.invoking m args :: below)).setFrames (T.setVm s.vm).frames with heap := T.heap, slotsUsed := T.slotsUsed }
      rw [State.setFrames_setFrames, State.setFrames_self ht]
      rfl
    · show T.slotsUsed = T.slotsUsed + ((T.heap.toList.drop T.heap.size).map (·.slots.size)).sum
      rw [List.drop_eq_nil_of_le (Nat.le_of_eq Array.length_toList)]
      rfl
    · show ((T.heap.toList.drop T.heap.size).map (·.slots.size)).sum ≤ 0
      rw [List.drop_eq_nil_of_le (Nat.le_of_eq Array.length_toList)]
      exact Nat.le_refl _
/-- 'throw new E()': new; dup; invokespecial; athrow -/
theorem vx_throw0 {cc : ByteArray} {pc : Nat} (hexec : p.tables.exec = Jvm.exec) (hb : c.code = cc) (hl : l.stackTraces = false) {own cls : String} {names : List String} {ik ic mc ms : Nat} {A : Nat → Prop}
    (hown : s.vm.findClass own = some m.cls) (hcls : Bundle.fit cls = true) (hnames : ∀ n ∈ names, Bundle.fit n = true)
    (hk : (Cond.classLink own ik cls).before args s = true) (hini : (Cond.initialized cls).before args s = true) (hat : ∀ w ∈ vx_at0 own ic cls names, w.before args s = true)
    (hgood : ∀ w ∈ Cond.classLink own ik cls :: Cond.initialized cls :: vx_at0 own ic cls names, vx_ot w = true)
    (hU : vx_Zq Bundle.tN "UNASSIGNED_STACK" Bundle.steD A s s.heap) (hN : vx_Zq Bundle.tN "SUPPRESSED_SENTINEL" Bundle.listD A s s.heap) (hS : va_S A s.heap H locs) (hsize : ls.size = c.maxLocals)
    (d0 : decode cc pc = .ok (.new ik, 3)) (d3 : decode cc (pc + 3) = .ok (.dup, 1)) (d4 : decode cc (pc + 4) = .ok (.invokespecial ic, 3)) (d7 : decode cc (pc + 7) = .ok (.athrow, 1))
    (hout : ∀ x ∈ c.exceptionTable.toList, covers x (pc + 7) = false)
    (hRframes : names.length + 3 < R.frames) (hRlocals : (rest.map fun v => v.category).sum + (13 * (names.length + 1) + 42) ≤ R.locals) (hRcells : cells + 1 ≤ R.cells) (hRslots : slots + 6 ≤ R.slots) (hlocks : meth.locks = false)
    (hx : ∀ t : State, s.vm.Alike t.vm → H.size ≤ t.heap.size → (∀ q : Nat, q < H.size → t.heap[q]? = H[q]?) → XC cls s t)
    (hf : ∀ z ∈ locs, free z.base) (hc : cells + 1 ≤ mc) (hs : slots + 6 ≤ ms) :
    W p l e R s m args below meth c H locs cells slots (vx_MQ below Qc XC args s mc ms free) (F0 m pc ls rest) := by
  intro T hT X
  have htr : e.platform.stackTraces = false := (show e.platform.stackTraces = l.stackTraces by rw [X.admits.platform]).trans hl
  have Y := vx_rebase X (R' := { frames := R.frames, locals := R.locals, cells := 1, slots := 6 }) (Nat.le_refl _) (Nat.le_refl _) hRcells hRslots
  obtain ⟨s', hA⟩ : ∃ z, z = (T.setVm s.vm).setFrames (.invoking m args :: below) := ⟨_, rfl⟩
  rw [← hA] at Y
  have hvm : s'.vm = s.vm := by rw [hA]; rfl
  have hhp : s'.heap = H := by rw [hA]; exact hT
  have hW0 : s.WarmedH s'.vm := by rw [hvm]; exact State.WarmedH.refl s
  have hat' : ∀ w ∈ vx_at0 own ic cls names, w.before args s' = true := fun w hw => vx_ot_at hW0 hvm.symm (hgood w (List.mem_cons_of_mem _ (List.mem_cons_of_mem _ hw))) (hat w hw)
  have hk' : (Cond.classLink own ik cls).before args s' = true := vx_ot_at hW0 hvm.symm (hgood _ List.mem_cons_self) hk
  have hini' : (Cond.initialized cls).before args s' = true := vx_ot_at hW0 hvm.symm (hgood _ (List.mem_cons_of_mem _ List.mem_cons_self)) hini
  have hU' : vx_Zq Bundle.tN "UNASSIGNED_STACK" Bundle.steD A s' s'.heap := by rw [hhp]; exact vx_Zq.moved hW0.alike (hU.kept hS.2.1)
  have hN' : vx_Zq Bundle.tN "SUPPRESSED_SENTINEL" Bundle.listD A s' s'.heap := by rw [hhp]; exact vx_Zq.moved hW0.alike (hN.kept hS.2.1)
  have h : ∀ w ∈ Bundle.ownAtoms0 own ic cls names, w.before args s' = true := vx_own hat' (vx_isRefq hU'.1) (vx_isRefq hN'.1) hU'.2.word hN'.2.word
  have hown' : s'.vm.findClass own = some m.cls := by rw [hvm]; exact hown
  have hins : (Cond.instantiable cls 6).before args s' = true := h _ (by simp [Bundle.ownAtoms0])
  obtain ⟨vm₁, cX, kX, hfX, hkX, -, -, X₁, st1⟩ := Y.newCold hexec (own := own) (C := cls) (index := ik) (n := 6) hown' hk' hins hini'
    (g := F0 m pc ls rest) rfl (by rw [hb]; exact d0) (Nat.le_refl _) (Nat.le_refl _)
  generalize hT1 : (T.setVm vm₁).pushCell { cls := cX, slots := kX.instanceTypes.map defaultValue, vm := .none } = T1 at X₁ st1
  have hcat : (Value.ref T.heap.size).category = 1 := rfl
  have hcellA : T1.heap[T.heap.size]? = some (freshCell cX kX) := by rw [← hT1]; exact State.heap_pushCell_size _ _
  have d3' : decode c.code (pc + 3) = .ok (.dup, 1) := by rw [hb]; exact d3
  obtain ⟨U, hsteps, hrun, hend, hW, hsame, ce, hce, hO⟩ := X₁.ctorThrow0 hexec htr (own := own) (cls := cls) (names := names) (ic := ic) hown' hcls hnames h (fun x hx => nomatch hx) hfX hkX hcellA (by rw [hhp, hT]; exact Nat.le_refl _)
    (g := { method := m, pc := pc + 4, locals := ls, stack := .ref T.heap.size :: .ref T.heap.size :: rest, locked := none }) rfl hsize rfl rfl (rest := rest) rfl
    (by rw [hb]; exact d4) (by rw [hb]; exact d7) hout hRframes (by simp only [List.map_cons, List.sum_cons, hcat]; omega) hlocks
  obtain ⟨f1, f2⟩ := vx_frame hsame
  rw [hhp] at f1 f2
  have hWs : s.WarmedH U.vm := State.WarmedH.trans hW0 hW
  have hcl : s.vm.findClass cls = some ce.cls := by
    have h9 := hO.cls
    rw [hvm] at h9
    exact h9
  have hall : s.sameButNew ({ U with vm := s.vm } : State) locs mc ms := by
    subst hA
    obtain ⟨e1, e2⟩ := hsame
    rw [State.setFrames_setFrames] at e1
    have h2 : (T.setVm s.vm).sameButNew ({ U with vm := s.vm } : State) [] (0 + 1) (0 + 6) := ⟨e1, e2⟩
    have h3 := X.same.trans h2
    rw [List.append_nil] at h3
    exact h3.mono hc hs
  refine ⟨U, ?_, .threw T.heap.size, hrun, hend, Or.inr ⟨T.heap.size, rfl, cls, ce, locs, hx U hWs.alike f1 (fun q hq => f2 q hq (fun z hz => nomatch hz)), hce, hO.vm, hcl, hWs, hall, hf⟩⟩
  refine st1 _ ?_
  show Steps p.tables e below (T1.setTop { method := m, pc := pc + 3, locals := ls, stack := .ref T.heap.size :: rest, locked := none }) _
  jvm_step X₁.here [X₁.here.top, hexec, d3', Value.category]
  exact hsteps
/-- 'throw new E("text")': new; dup; ldc; invokespecial; athrow -/
theorem vx_throwS {cc : ByteArray} {pc : Nat} (hexec : p.tables.exec = Jvm.exec) (hb : c.code = cc) (hl : l.stackTraces = false) {own cls text : String} {names : List String} {ik is ic mc ms sa : Nat} {A : Nat → Prop}
    (hown : s.vm.findClass own = some m.cls) (hcls : Bundle.fit cls = true) (hnames : ∀ n ∈ names, Bundle.fit n = true)
    (hk : (Cond.classLink own ik cls).before args s = true) (hini : (Cond.initialized cls).before args s = true) (hstr : vk_R own is text sa s) (hat : ∀ w ∈ vx_atS own ic cls names, w.before args s = true)
    (hgood : ∀ w ∈ Cond.classLink own ik cls :: Cond.initialized cls :: vx_atS own ic cls names, vx_ot w = true)
    (hU : vx_Zq Bundle.tN "UNASSIGNED_STACK" Bundle.steD A s s.heap) (hN : vx_Zq Bundle.tN "SUPPRESSED_SENTINEL" Bundle.listD A s s.heap) (hS : va_S A s.heap H locs) (hsize : ls.size = c.maxLocals)
    (d0 : decode cc pc = .ok (.new ik, 3)) (d3 : decode cc (pc + 3) = .ok (.dup, 1)) (d4 : decode cc (pc + 4) = .ok (.ldc is, 2)) (d6 : decode cc (pc + 6) = .ok (.invokespecial ic, 3)) (d9 : decode cc (pc + 9) = .ok (.athrow, 1))
    (hout : ∀ x ∈ c.exceptionTable.toList, covers x (pc + 9) = false)
    (hRframes : names.length + 3 < R.frames) (hRlocals : (rest.map fun v => v.category).sum + (13 * (names.length + 1) + 43) ≤ R.locals) (hRcells : cells + 1 ≤ R.cells) (hRslots : slots + 6 ≤ R.slots) (hlocks : meth.locks = false)
    (hx : ∀ t : State, s.vm.Alike t.vm → H.size ≤ t.heap.size → (∀ q : Nat, q < H.size → t.heap[q]? = H[q]?) → XC cls s t)
    (hf : ∀ z ∈ locs, free z.base) (hc : cells + 1 ≤ mc) (hs : slots + 6 ≤ ms) :
    W p l e R s m args below meth c H locs cells slots (vx_MQ below Qc XC args s mc ms free) (F0 m pc ls rest) := by
  intro T hT X
  have htr : e.platform.stackTraces = false := (show e.platform.stackTraces = l.stackTraces by rw [X.admits.platform]).trans hl
  have Y := vx_rebase X (R' := { frames := R.frames, locals := R.locals, cells := 1, slots := 6 }) (Nat.le_refl _) (Nat.le_refl _) hRcells hRslots
  obtain ⟨s', hA⟩ : ∃ z, z = (T.setVm s.vm).setFrames (.invoking m args :: below) := ⟨_, rfl⟩
  rw [← hA] at Y
  have hvm : s'.vm = s.vm := by rw [hA]; rfl
  have hhp : s'.heap = H := by rw [hA]; exact hT
  have hW0 : s.WarmedH s'.vm := by rw [hvm]; exact State.WarmedH.refl s
  have hat' : ∀ w ∈ vx_atS own ic cls names, w.before args s' = true := fun w hw => vx_ot_at hW0 hvm.symm (hgood w (List.mem_cons_of_mem _ (List.mem_cons_of_mem _ hw))) (hat w hw)
  have hk' : (Cond.classLink own ik cls).before args s' = true := vx_ot_at hW0 hvm.symm (hgood _ List.mem_cons_self) hk
  have hini' : (Cond.initialized cls).before args s' = true := vx_ot_at hW0 hvm.symm (hgood _ (List.mem_cons_of_mem _ List.mem_cons_self)) hini
  have hU' : vx_Zq Bundle.tN "UNASSIGNED_STACK" Bundle.steD A s' s'.heap := by rw [hhp]; exact vx_Zq.moved hW0.alike (hU.kept hS.2.1)
  have hN' : vx_Zq Bundle.tN "SUPPRESSED_SENTINEL" Bundle.listD A s' s'.heap := by rw [hhp]; exact vx_Zq.moved hW0.alike (hN.kept hS.2.1)
  have h : ∀ w ∈ Bundle.ownAtoms own ic cls names, w.before args s' = true := vx_own hat' (vx_isRefq hU'.1) (vx_isRefq hN'.1) hU'.2.word hN'.2.word
  have hown' : s'.vm.findClass own = some m.cls := by rw [hvm]; exact hown
  have hins : (Cond.instantiable cls 6).before args s' = true := h _ (by simp [Bundle.ownAtoms])
  obtain ⟨vm₁, cX, kX, hfX, hkX, -, -, X₁, st1⟩ := Y.newCold hexec (own := own) (C := cls) (index := ik) (n := 6) hown' hk' hins hini'
    (g := F0 m pc ls rest) rfl (by rw [hb]; exact d0) (Nat.le_refl _) (Nat.le_refl _)
  generalize hT1 : (T.setVm vm₁).pushCell { cls := cX, slots := kX.instanceTypes.map defaultValue, vm := .none } = T1 at X₁ st1
  have hcat : (Value.ref T.heap.size).category = 1 := rfl
  have hcellA : T1.heap[T.heap.size]? = some (freshCell cX kX) := by rw [← hT1]; exact State.heap_pushCell_size _ _
  have d3' : decode c.code (pc + 3) = .ok (.dup, 1) := by rw [hb]; exact d3
  have d4' : decode c.code (pc + 4) = .ok (.ldc is, 2) := by rw [hb]; exact d4
  have hstr' : vk_R own is text sa s' := vk_R.warm hW0 hstr
  obtain ⟨U, hsteps, hrun, hend, hW, hsame, ce, hce, hO⟩ := X₁.ctorThrowS hexec htr (own := own) (cls := cls) (names := names) (ic := ic) hown' hcls hnames h (fun x hx => nomatch hx) hfX hkX hcellA (by rw [hhp, hT]; exact Nat.le_refl _) (msg := .ref sa) rfl
    (g := { method := m, pc := pc + 6, locals := ls, stack := .ref sa :: .ref T.heap.size :: .ref T.heap.size :: rest, locked := none }) rfl hsize rfl rfl (rest := rest) rfl
    (by rw [hb]; exact d6) (by rw [hb]; exact d9) hout hRframes (by simp only [List.map_cons, List.sum_cons, hcat]; omega) hlocks
  obtain ⟨f1, f2⟩ := vx_frame hsame
  rw [hhp] at f1 f2
  have hWs : s.WarmedH U.vm := State.WarmedH.trans hW0 hW
  have hcl : s.vm.findClass cls = some ce.cls := by
    have h9 := hO.cls
    rw [hvm] at h9
    exact h9
  have hall : s.sameButNew ({ U with vm := s.vm } : State) locs mc ms := by
    subst hA
    obtain ⟨e1, e2⟩ := hsame
    rw [State.setFrames_setFrames] at e1
    have h2 : (T.setVm s.vm).sameButNew ({ U with vm := s.vm } : State) [] (0 + 1) (0 + 6) := ⟨e1, e2⟩
    have h3 := X.same.trans h2
    rw [List.append_nil] at h3
    exact h3.mono hc hs
  refine ⟨U, ?_, .threw T.heap.size, hrun, hend, Or.inr ⟨T.heap.size, rfl, cls, ce, locs, hx U hWs.alike f1 (fun q hq => f2 q hq (fun z hz => nomatch hz)), hce, hO.vm, hcl, hWs, hall, hf⟩⟩
  refine st1 _ ?_
  show Steps p.tables e below (T1.setTop { method := m, pc := pc + 3, locals := ls, stack := .ref T.heap.size :: rest, locked := none }) _
  jvm_step X₁.here [X₁.here.top, hexec, d3', Value.category]
  exact X₁.ldcString hexec (own := own) (text := text) (index := is) (a := sa) hown' hstr'.1 hstr'.2
    (g := { method := m, pc := pc + 4, locals := ls, stack := .ref T.heap.size :: .ref T.heap.size :: rest, locked := none }) rfl d4' _ hsteps
/-- 'throw new E("text")', the text by a wide index -/
theorem vx_throwSW {cc : ByteArray} {pc : Nat} (hexec : p.tables.exec = Jvm.exec) (hb : c.code = cc) (hl : l.stackTraces = false) {own cls text : String} {names : List String} {ik is ic mc ms sa : Nat} {A : Nat → Prop}
    (hown : s.vm.findClass own = some m.cls) (hcls : Bundle.fit cls = true) (hnames : ∀ n ∈ names, Bundle.fit n = true)
    (hk : (Cond.classLink own ik cls).before args s = true) (hini : (Cond.initialized cls).before args s = true) (hstr : vk_R own is text sa s) (hat : ∀ w ∈ vx_atS own ic cls names, w.before args s = true)
    (hgood : ∀ w ∈ Cond.classLink own ik cls :: Cond.initialized cls :: vx_atS own ic cls names, vx_ot w = true)
    (hU : vx_Zq Bundle.tN "UNASSIGNED_STACK" Bundle.steD A s s.heap) (hN : vx_Zq Bundle.tN "SUPPRESSED_SENTINEL" Bundle.listD A s s.heap) (hS : va_S A s.heap H locs) (hsize : ls.size = c.maxLocals)
    (d0 : decode cc pc = .ok (.new ik, 3)) (d3 : decode cc (pc + 3) = .ok (.dup, 1)) (d4 : decode cc (pc + 4) = .ok (.ldc_w is, 3)) (d7 : decode cc (pc + 7) = .ok (.invokespecial ic, 3)) (d10 : decode cc (pc + 10) = .ok (.athrow, 1))
    (hout : ∀ x ∈ c.exceptionTable.toList, covers x (pc + 10) = false)
    (hRframes : names.length + 3 < R.frames) (hRlocals : (rest.map fun v => v.category).sum + (13 * (names.length + 1) + 43) ≤ R.locals) (hRcells : cells + 1 ≤ R.cells) (hRslots : slots + 6 ≤ R.slots) (hlocks : meth.locks = false)
    (hx : ∀ t : State, s.vm.Alike t.vm → H.size ≤ t.heap.size → (∀ q : Nat, q < H.size → t.heap[q]? = H[q]?) → XC cls s t)
    (hf : ∀ z ∈ locs, free z.base) (hc : cells + 1 ≤ mc) (hs : slots + 6 ≤ ms) :
    W p l e R s m args below meth c H locs cells slots (vx_MQ below Qc XC args s mc ms free) (F0 m pc ls rest) := by
  intro T hT X
  have htr : e.platform.stackTraces = false := (show e.platform.stackTraces = l.stackTraces by rw [X.admits.platform]).trans hl
  have Y := vx_rebase X (R' := { frames := R.frames, locals := R.locals, cells := 1, slots := 6 }) (Nat.le_refl _) (Nat.le_refl _) hRcells hRslots
  obtain ⟨s', hA⟩ : ∃ z, z = (T.setVm s.vm).setFrames (.invoking m args :: below) := ⟨_, rfl⟩
  rw [← hA] at Y
  have hvm : s'.vm = s.vm := by rw [hA]; rfl
  have hhp : s'.heap = H := by rw [hA]; exact hT
  have hW0 : s.WarmedH s'.vm := by rw [hvm]; exact State.WarmedH.refl s
  have hat' : ∀ w ∈ vx_atS own ic cls names, w.before args s' = true := fun w hw => vx_ot_at hW0 hvm.symm (hgood w (List.mem_cons_of_mem _ (List.mem_cons_of_mem _ hw))) (hat w hw)
  have hk' : (Cond.classLink own ik cls).before args s' = true := vx_ot_at hW0 hvm.symm (hgood _ List.mem_cons_self) hk
  have hini' : (Cond.initialized cls).before args s' = true := vx_ot_at hW0 hvm.symm (hgood _ (List.mem_cons_of_mem _ List.mem_cons_self)) hini
  have hU' : vx_Zq Bundle.tN "UNASSIGNED_STACK" Bundle.steD A s' s'.heap := by rw [hhp]; exact vx_Zq.moved hW0.alike (hU.kept hS.2.1)
  have hN' : vx_Zq Bundle.tN "SUPPRESSED_SENTINEL" Bundle.listD A s' s'.heap := by rw [hhp]; exact vx_Zq.moved hW0.alike (hN.kept hS.2.1)
  have h : ∀ w ∈ Bundle.ownAtoms own ic cls names, w.before args s' = true := vx_own hat' (vx_isRefq hU'.1) (vx_isRefq hN'.1) hU'.2.word hN'.2.word
  have hown' : s'.vm.findClass own = some m.cls := by rw [hvm]; exact hown
  have hins : (Cond.instantiable cls 6).before args s' = true := h _ (by simp [Bundle.ownAtoms])
  obtain ⟨vm₁, cX, kX, hfX, hkX, -, -, X₁, st1⟩ := Y.newCold hexec (own := own) (C := cls) (index := ik) (n := 6) hown' hk' hins hini'
    (g := F0 m pc ls rest) rfl (by rw [hb]; exact d0) (Nat.le_refl _) (Nat.le_refl _)
  generalize hT1 : (T.setVm vm₁).pushCell { cls := cX, slots := kX.instanceTypes.map defaultValue, vm := .none } = T1 at X₁ st1
  have hcat : (Value.ref T.heap.size).category = 1 := rfl
  have hcellA : T1.heap[T.heap.size]? = some (freshCell cX kX) := by rw [← hT1]; exact State.heap_pushCell_size _ _
  have d3' : decode c.code (pc + 3) = .ok (.dup, 1) := by rw [hb]; exact d3
  have d4' : decode c.code (pc + 4) = .ok (.ldc_w is, 3) := by rw [hb]; exact d4
  have hstr' : vk_R own is text sa s' := vk_R.warm hW0 hstr
  obtain ⟨U, hsteps, hrun, hend, hW, hsame, ce, hce, hO⟩ := X₁.ctorThrowS hexec htr (own := own) (cls := cls) (names := names) (ic := ic) hown' hcls hnames h (fun x hx => nomatch hx) hfX hkX hcellA (by rw [hhp, hT]; exact Nat.le_refl _) (msg := .ref sa) rfl
    (g := { method := m, pc := pc + 7, locals := ls, stack := .ref sa :: .ref T.heap.size :: .ref T.heap.size :: rest, locked := none }) rfl hsize rfl rfl (rest := rest) rfl
    (by rw [hb]; exact d7) (by rw [hb]; exact d10) hout hRframes (by simp only [List.map_cons, List.sum_cons, hcat]; omega) hlocks
  obtain ⟨f1, f2⟩ := vx_frame hsame
  rw [hhp] at f1 f2
  have hWs : s.WarmedH U.vm := State.WarmedH.trans hW0 hW
  have hcl : s.vm.findClass cls = some ce.cls := by
    have h9 := hO.cls
    rw [hvm] at h9
    exact h9
  have hall : s.sameButNew ({ U with vm := s.vm } : State) locs mc ms := by
    subst hA
    obtain ⟨e1, e2⟩ := hsame
    rw [State.setFrames_setFrames] at e1
    have h2 : (T.setVm s.vm).sameButNew ({ U with vm := s.vm } : State) [] (0 + 1) (0 + 6) := ⟨e1, e2⟩
    have h3 := X.same.trans h2
    rw [List.append_nil] at h3
    exact h3.mono hc hs
  refine ⟨U, ?_, .threw T.heap.size, hrun, hend, Or.inr ⟨T.heap.size, rfl, cls, ce, locs, hx U hWs.alike f1 (fun q hq => f2 q hq (fun z hz => nomatch hz)), hce, hO.vm, hcl, hWs, hall, hf⟩⟩
  refine st1 _ ?_
  show Steps p.tables e below (T1.setTop { method := m, pc := pc + 3, locals := ls, stack := .ref T.heap.size :: rest, locked := none }) _
  jvm_step X₁.here [X₁.here.top, hexec, d3', Value.category]
  exact X₁.ldcStringW hexec (own := own) (text := text) (index := is) (a := sa) hown' hstr'.1 hstr'.2
    (g := { method := m, pc := pc + 4, locals := ls, stack := .ref T.heap.size :: .ref T.heap.size :: rest, locked := none }) rfl d4' _ hsteps
end Ends
section Bodies
variable {l : Launch}
theorem vx_ofW {y : MethodName} {ws ws' : List Cond} {rm : Room} {Pc : Array Value → State → Prop} {Qc : Array Value → State → Outcome → State → Prop} {XC : String → State → State → Prop} {mc ms : Nat} {free : Addr → Prop} {cc : ByteArray} {maxL : Nat} {ret : Option FieldType}
    (hy : plainName y.cls = true) (hw : ws = Cond.code y cc maxL ret :: ws')
    (body : ∀ p e s m args below meth c s₁, BodyLoose p l y (headSpec ws rm) cc maxL ret e s m args below meth c s₁ → c.maxLocals = maxL → (∀ x ∈ c.exceptionTable.toList, False) → Pc args s →
      W p l e (headSpec ws rm).room s m args below meth c s.heap [] 0 0 (vx_MQ below Qc XC args s mc ms free) (entryFrame m args maxL)) : vx_Met l y ws rm Pc Qc XC mc ms free := by
  refine MetFree.of_bodyS (code := cc) (maxLocals := maxL) (ret := ret) hy ?_ ?_
  · intro args s m h hn
    obtain ⟨meth, c, h1, h2, h3, h4, h5, h6, -, -⟩ := Cond.code_spec hn (atoms_spec (ws := ws) h _ (by rw [hw]; exact List.mem_cons_self))
    exact ⟨meth, c, h1, h2, h3, h4, h5, h6⟩
  · intro p e s m args below meth c s₁ B hml hP _
    have hh0 : s₁.heap = s.heap := by rw [B.state]; rfl
    have ht : ∀ x ∈ c.exceptionTable.toList, False := by
      obtain ⟨meth9, c9, h1, h2, -, -, -, -, h7, -⟩ := Cond.code_spec B.named (atoms_spec (ws := ws) B.pre _ (by rw [hw]; exact List.mem_cons_self))
      cases Option.some.inj (h1.symm.trans B.method)
      cases Option.some.inj (h2.symm.trans (Stand.of_body B).code)
      intro x hx
      rw [Array.isEmpty_iff.mp h7] at hx
      cases hx
    obtain ⟨t, a1, o, b1, b2, b3⟩ := body p e s m args below meth c s₁ B hml ht hP s₁ hh0 (Stand.of_body B)
    exact ⟨t, o, a1, b1, b2, b3⟩
/-- the table of a body with handlers -/
theorem vx_table {p : Program} {x y : MethodName} {S : Spec} {cc bytes : ByteArray} {maxL maxL' : Nat} {ret ret' : Option FieldType} {e : Env} {s s₁ : State} {m : MethodId} {args : Array Value} {below : List Frame} {meth : Method} {c : Code} {hh : List (Nat × Nat × Nat × Nat)}
    (B : BodyLoose p l y S cc maxL ret e s m args below meth c s₁) (h : (Cond.codeWith y bytes maxL' ret' hh).before args s = true) : c.exceptionTable.toList = tableOf hh := by
  obtain ⟨m9, meth9, c9, hn9, h1, h2, -, -, h6, -⟩ := Cond.codeWith_spec h
  cases Option.some.inj (hn9.symm.trans B.named)
  cases Option.some.inj (h1.symm.trans B.method)
  cases Option.some.inj (h2.symm.trans (Stand.of_body B).code)
  rw [← h6, table_eq]
end Bodies
end VXA
/-! ===== END ===== -/
/-! ===== BEGIN a static call of a method with an exception table ===== -/
section VXS
variable {p : Program} {l : Launch} {e : Env} {R : Room} {s : State} {m : MethodId} {args : Array Value} {below : List Frame} {meth : Method} {c : Code} {T : State} {H : Heap} {locs : List Loc} {cells slots : Nat}
abbrev vx_CSW (R : Room) (s : State) (args : Array Value) (own : String) (index : Nat) (y : MethodName) (bytes : ByteArray) (maxL : Nat) (ret : Option FieldType) (hh : List (Nat × Nat × Nat × Nat)) (ws : List Cond) (rm : Room) (mc ms n : Nat) : Prop :=
  (rm.cells = mc ∧ rm.slots = ms ∧ rm.frames + 1 ≤ R.frames ∧ 8 + (maxL + 11) + rm.locals ≤ R.locals ∧ (∀ w ∈ ws, ∀ (a' : Array Value) (U : State), s.WarmedH U.vm → w.before a' U = true) ∧ Cond.codeWith y bytes maxL ret hh ∈ ws) ∧
  (Cond.codeWith y bytes maxL ret hh).before args s = true ∧ (Cond.initialized y.cls).before args s = true ∧ (y.cls ≠ "java/lang/invoke/MethodHandle" ∧ y.cls ≠ "java/lang/invoke/VarHandle") ∧
  (∀ sig, parseMethodDescriptor y.desc = some sig → n = sig.parameters.length) ∧ (Cond.methodLink own index y).before args s = true ∧ (Cond.static y).before args s = true
theorem vx_cwSW {own : String} {index maxL mc ms : Nat} {y : MethodName} {bytes : ByteArray} {ret : Option FieldType} {hh : List (Nat × Nat × Nat × Nat)} {Ts ws ws' : List Cond} {rm : Room} (n : Nat) (ht : ∀ w ∈ Ts, w.before args s = true) (hT : GoodIn Ts (va_wsS own index y ws)) (hw : ws = Cond.codeWith y bytes maxL ret hh :: ws') (hrc : rm.cells = mc) (hrs : rm.slots = ms)
    (hd : y.cls ≠ "java/lang/invoke/MethodHandle" ∧ y.cls ≠ "java/lang/invoke/VarHandle" ∧ (parseMethodDescriptor y.desc).map (fun d => d.parameters.length) = some n) (hR : rm.frames + 1 ≤ R.frames ∧ 8 + (maxL + 11) + rm.locals ≤ R.locals) :
    vx_CSW R s args own index y bytes maxL ret hh ws rm mc ms n := by
  have ok : ∀ w ∈ va_wsS own index y ws, w.before args s = true := fun w h => ht w (hT w h).1
  have hG : GoodIn Ts ws := fun w h => hT w (by unfold va_wsS; exact List.mem_append_right _ h)
  have hc : Cond.codeWith y bytes maxL ret hh ∈ ws := by rw [hw]; exact List.mem_cons_self
  refine ⟨⟨hrc, hrs, hR.1, hR.2, pay_in ht hG, hc⟩, ht _ (hG _ hc).1, ok _ (by simp [va_wsS]), ⟨hd.1, hd.2.1⟩, fun sig h => ?_, ok _ (by simp [va_wsS]), ok _ (by simp [va_wsS])⟩
  have h2 := hd.2.2
  rw [h] at h2
  exact (Option.some.inj h2).symm
theorem vx_callSW (X : Stand p l e R s m args below meth c T locs cells slots) (hexec : p.tables.exec = Jvm.exec) {own : String} {index : Nat} {y : MethodName} {bytes : ByteArray} {maxL : Nat} {ret : Option FieldType} {hh : List (Nat × Nat × Nat × Nat)}
    (hown : s.vm.findClass own = some m.cls) (hlink : (Cond.methodLink own index y).before args s = true) (hstat : (Cond.static y).before args s = true) (hinit : (Cond.initialized y.cls).before args s = true)
    (hcode : (Cond.codeWith y bytes maxL ret hh).before args s = true) (hy : y.cls ≠ "java/lang/invoke/MethodHandle" ∧ y.cls ≠ "java/lang/invoke/VarHandle")
    {W9 : Nat} {Pre : Pt → Array Value → Prop} {Post : Pt → Array Value → Option Value → Pt → Prop} (hK : Back l R p e below s args y 3 W9 Pre Post)
    {g : JFrame} (hg : g.method = m) (hsize : g.locals.size = c.maxLocals) {argsL rest : List Value} (hlen : ∀ sig, parseMethodDescriptor y.desc = some sig → argsL.length = sig.parameters.length)
    (hstack : g.stack = argsL.reverse ++ rest) (hW : 2 * g.monitorRoom + (rest.map fun v => v.category).sum ≤ W9) (hdg : decode c.code g.pc = .ok (.invokestatic index, 3))
    (hpre : ∀ vm₁, s.WarmedH vm₁ → Pre ⟨T.setVm vm₁, locs, cells, slots⟩ argsL.toArray) :
    ∃ (v : Option Value) (vm₁ : Vm) (B : Pt), s.WarmedH vm₁ ∧ Stand p l e R s m args below meth c B.U B.locs B.cells B.slots ∧ Post ⟨T.setVm vm₁, locs, cells, slots⟩ argsL.toArray v B ∧
      ∀ target, Steps p.tables e below (B.U.setTop { g with pc := g.pc + 3, stack := v.toList ++ rest }) target → Steps p.tables e below (T.setTop g) target := by
  obtain ⟨mk, methM, cM, hnamed, hmethM, -, -, -, -, -, -, hsigM⟩ := Cond.codeWith_spec hcode
  have hstatic : methM.isStatic = true := Cond.static_spec hnamed hmethM hstat
  obtain ⟨kP, hkP, -⟩ := className_of_methodNamed hnamed
  have hinitP : kP.init = .initialized := Cond.initialized_spec (findClass_of_methodNamed hnamed) hkP hinit
  obtain ⟨vm₁, X₁, hstep₁⟩ := X.invokestatic hexec hown hlink hnamed hmethM hstatic hkP hinitP hy (g := g) hg (argsL := argsL) (rest := rest) (hlen _ hsigM) hstack hdg
  obtain ⟨v, B, X', hpost, hsteps⟩ := hK m meth c ⟨T.setVm vm₁, locs, cells, slots⟩ { g with stack := rest } (.invokestatic index) mk argsL.toArray X₁ hg hsize hdg hW (X₁.named hnamed) (hpre vm₁ X₁.warmed)
  exact ⟨v, vm₁, B, X₁.warmed, X', hpost, fun target h => hstep₁ _ fun acts => by rw [doInvoke_state]; exact hsteps.trans h⟩
theorem vx_runSW {y : MethodName} {bytes cc : ByteArray} {maxL nL mc ms n index : Nat} {ret : Option FieldType} {hh : List (Nat × Nat × Nat × Nat)} {ws : List Cond} {rm : Room} {Pc : Array Value → State → Prop} {Qc : Array Value → State → Outcome → State → Prop} {free : Addr → Prop} {Ts : List Cond} {own : String} {As rest : List Value} {g : JFrame}
    (S : CallFix p m c cc nL s args Ts own) (hM : Met l y ws rm Pc Qc mc ms free) (cw : vx_CSW R s args own index y bytes maxL ret hh ws rm mc ms n) (hp : PreS s H Pc As)
    (hg : g.method = m) (hn : As.length = n) (hsize : g.locals.size = nL) (hstack : g.stack = As.reverse ++ rest) (hW : 2 * g.monitorRoom + (rest.map fun v => v.category).sum ≤ 8) (hdg : decode cc g.pc = .ok (.invokestatic index, 3)) (hf : cells + mc ≤ R.cells ∧ slots + ms ≤ R.slots) :
    va_Run p l e R s m args below meth c H locs cells slots mc ms g rest (Qc As.toArray) (free) := by
  obtain ⟨⟨hrc, hrs, hfr, hlo, hws, hcw⟩, hcode, hini, hy, hlen, hl, hstt⟩ := cw
  have hK : Back l R p e below s args y 3 8 (PreOf R mc ms Pc) (PostOf Qc mc ms free) := va_backW (hh := hh) (bytes := bytes) (maxL := maxL) (ret := ret) hM hp.1 hrc hrs hfr hlo hws hcw (fun a' U hW => word_at hW (Or.inl (by first | rfl | simp [Cond.onTables, Cond.keeps, Cond.steady])) hini)
  obtain ⟨hx, hb, hml, ho, -⟩ := S
  intro T hT X
  obtain ⟨v, vm₁, ⟨U', l2, c2, s2⟩, hW₁, X', ⟨g', mk, t, L, e1, e2, hq, h1, hL, h2, h3⟩, st⟩ := vx_callSW X hx (hh := hh) (bytes := bytes) (maxL := maxL) (ret := ret) ho hl hstt hini hcode hy hK hg (hsize.trans hml.symm) (argsL := As) (rest := rest) (fun sig h => hn.trans (hlen sig h)) hstack hW (by rw [hb]; exact hdg)
    (fun vm₁ hW₁ => ⟨hf.1, hf.2, hp.2 (T.setVm vm₁) hT hW₁⟩)
  dsimp only [Pt.U, Pt.locs, Pt.cells, Pt.slots] at X' e1 e2 h1 h2 h3 st
  subst h1; subst h2; subst h3
  exact ⟨v, (T.setVm vm₁).calling g' mk As.toArray, t, U', L, hT, X', hL, e1, e2, hq, st⟩
/-- a thing of a world lies in the heap -/
theorem vx_lt {D : va_G} {cl : List vw_C} {ws : va_W} {H1 : Heap} (h : va_P D cl ws H1) {k : Nat} {q : Nat × va_E} (hk : ws[k]? = some q) : q.1 < H1.size := (h k q hk).lt
end VXS
/-! ===== END ===== -/
/-! ===== BEGIN methods with a table of their own: called by a name, returning or throwing ===== -/
section VXH
/-! vx_backW, vx_callVX, vx_callSX, vx_callVW, vx_runVW, vx_runVX, vx_runSX, vx_ofWH follow the same proofs as their sisters above (Free/Laws.lean, Shelf42/LK1.lean); vx_outP calls Shelf42/NT130.lean (outThrough). -/
section
variable {l : Launch} {R : Room} {p : Program} {e : Env} {below : List Frame} {s : State} {sargs : Array Value} {y : MethodName} {len W9 : Nat}
theorem vx_backW {ws : List Cond} {rm : Room} {Pc : Array Value → State → Prop} {Qc : Array Value → State → Outcome → State → Prop} {XC : String → State → State → Prop} {mc ms : Nat} {free : Addr → Prop} {bytes : ByteArray} {maxL : Nat} {ret : Option FieldType} {hh : List (Nat × Nat × Nat × Nat)}
    (hM : vx_Met l y ws rm Pc Qc XC mc ms free) (hblind : FrameBlind Pc) (hrc : rm.cells = mc) (hrs : rm.slots = ms)
    (hframes : rm.frames + 1 ≤ R.frames) (hlocals : W9 + (maxL + 11) + rm.locals ≤ R.locals)
    (hws : ∀ w ∈ ws, ∀ a' U, s.WarmedH U.vm → w.before a' U = true) (hcode : Cond.codeWith y bytes maxL ret hh ∈ ws) (hinit : ∀ a' U, s.WarmedH U.vm → (Cond.initialized y.cls).before a' U = true) :
    vx_Back l R p e below s sargs y len W9 (PreOf R mc ms Pc) (PostOf Qc mc ms free) (vx_Post XC mc ms free) := by
  intro m meth c A g ig mk a X hg hsize hdg hW hn hp
  have h1 : (headSpec ws rm).pre.before a A.U = true := atoms_intro fun w hw => hws w hw _ _ X.warmed
  have h2 : (Cond.codeWith y bytes maxL ret hh).before a A.U = true := hws _ hcode _ _ X.warmed
  have h3 : (Cond.initialized y.cls).before a A.U = true := hinit _ _ X.warmed
  have h4 : A.cells + (headSpec ws rm).room.cells ≤ R.cells := by rw [show (headSpec ws rm).room.cells = mc from hrc]; exact hp.1
  have h5 : A.slots + (headSpec ws rm).room.slots ≤ R.slots := by rw [show (headSpec ws rm).room.slots = ms from hrs]; exact hp.2.1
  have hPc : Pc a (A.U.calling g mk a) := hblind _ _ _ _ hp.2.2
  obtain ⟨U, Ls, c0, s0⟩ := A
  dsimp only [Pt.U, Pt.locs, Pt.cells, Pt.slots] at h1 h2 h3 h4 h5 X hn hPc ⊢
  obtain ⟨m9, methY, cY, hn9, hmY, hcY, -, hlY, -⟩ := Cond.codeWith_spec h2
  cases Option.some.inj (hn9.symm.trans hn)
  obtain ⟨kY, hkY, -⟩ := className_of_methodNamed hn
  have hinitY : kY.init = .initialized := Cond.initialized_spec (findClass_of_methodNamed hn) hkY h3
  have h : At U g.method c below := by rw [hg]; exact X.here
  have hlocals9 : W9 + (maxL + 11) + (headSpec ws rm).room.locals ≤ R.locals := hlocals
  have happ : (headSpec ws rm).appliesLoose y e.platform (U.calling g mk a) = true :=
    Spec.appliesLoose_calling (g := g) h hdg hn hkY hinitY
      (X.room_calling (g := g) (R' := (headSpec ws rm).room) hsize hmY hcY hframes (by rw [hlY]; omega) h4 h5) h1
  obtain ⟨mid, hmid⟩ := h.above
  have hfr : (U.setTop g).frames = (.java g :: mid) ++ below := by rw [State.frames_setTop' g h.top, hmid]; rfl
  obtain ⟨o, s₂, hsteps, -, hend, hq⟩ := Steps.callFree hM p X.admits X.cas X.clock (acts := []) hfr happ hPc trivial
  have hq' : vx_Q Qc XC mc ms free a (U.calling g mk a) o s₂ := hq
  rw [State.frames_setTop' g h.top] at hend
  obtain ⟨g₀, hg0⟩ := Option.isSome_iff_exists.mp h.top
  obtain ⟨r, hr⟩ := State.topJava?_eq_some.mp hg0
  have hr' : (({ U with heap := s₂.heap, slotsUsed := s₂.slotsUsed } : State).setVm s₂.vm).frames = .java g₀ :: r := hr
  rcases hq' with ⟨hqc, L, hfe, hL⟩ | ⟨q, rfl, E, ce, L, hx, hce, hcv, hcl, hW₂, hsm, hL⟩
  · obtain ⟨⟨v, rfl⟩, hW₂, e2, q2, q3, q4, q5, q6⟩ := id hfe
    have e3 : s₂ = ({ (U.calling g mk a).setFrames s₂.frames with heap := s₂.heap, slotsUsed := s₂.slotsUsed } : State).setVm s₂.vm := by
      have : s₂ = ({ s₂ with vm := (U.calling g mk a).vm } : State).setVm s₂.vm := rfl
      rw [e2] at this
      exact this
    obtain ⟨c₂, i₂, len₂, hc₂, hd₂, hf₂⟩ := hend
    have hW' : U.WarmedH s₂.vm := hW₂
    have hcc : c₂ = c := by
      have h1 : s₂.code? g.method = U.code? g.method := by
        rw [State.code?_eq, State.code?_eq, hW'.alike.method?]
      exact Option.some.inj (hc₂.symm.trans (h1.trans h.code))
    subst hcc
    have hlen : len₂ = len := by rw [hdg] at hd₂; cases hd₂; rfl
    subst hlen
    have hs₂ : s₂ = (({ U with heap := s₂.heap, slotsUsed := s₂.slotsUsed } : State).setVm s₂.vm).setTop { g with pc := g.pc + len₂, stack := v.toList ++ g.stack } := by
      refine e3.trans ?_
      rw [hf₂, State.calling_eq h.top, State.setFrames_setFrames, State.setTop_of_frames _ hr', hr]
      rfl
    have hsame : U.sameButNew ({ U with heap := s₂.heap, slotsUsed := s₂.slotsUsed } : State) L mc ms := by
      refine ⟨?_, q2, q3, q4, q5, q6⟩
      obtain ⟨t, ht, -⟩ := State.frames_cons hr
      show ({ U with heap := s₂.heap, slotsUsed := s₂.slotsUsed } : State) = { U.setFrames U.frames with heap := s₂.heap, slotsUsed := s₂.slotsUsed }
      rw [State.setFrames_self ht]
    subst hg
    refine Or.inl ⟨v, ⟨(({ U with heap := s₂.heap, slotsUsed := s₂.slotsUsed } : State).setVm s₂.vm), Ls ++ L, c0 + mc, s0 + ms⟩,
      ⟨X.admits, X.cas, X.clock, X.frames, X.room, X.hears, X.method, X.code, (X.here.setHeapUsed s₂.heap s₂.slotsUsed).setVm hW'.alike, X.tail, State.WarmedH.trans X.warmed hW', X.limits, X.bytes, X.same.trans (hsame.setVm s.vm)⟩,
      ⟨g, mk, s₂, L, rfl, rfl, hqc, rfl, hL, rfl, rfl⟩, ?_⟩
    show Steps p.tables e below _ ((({ U with heap := s₂.heap, slotsUsed := s₂.slotsUsed } : State).setVm s₂.vm).setTop { g with pc := g.pc + len₂, stack := v.toList ++ g.stack })
    rw [← hs₂]
    exact hsteps
  · obtain ⟨e2, q2, q3, q4, q5, q6⟩ := id hsm
    have e3 : s₂ = ({ (U.calling g mk a).setFrames s₂.frames with heap := s₂.heap, slotsUsed := s₂.slotsUsed } : State).setVm s₂.vm := by
      have : s₂ = ({ s₂ with vm := (U.calling g mk a).vm } : State).setVm s₂.vm := rfl
      rw [e2] at this
      exact this
    have hf₂ : s₂.frames = .throwing q :: .java g :: U.frames.tail := hend
    have hW' : U.WarmedH s₂.vm := hW₂
    have hs₂ : s₂ = ((({ U with heap := s₂.heap, slotsUsed := s₂.slotsUsed } : State).setVm s₂.vm).setTop g).pushFrame (.throwing q) := by
      refine e3.trans ?_
      rw [hf₂, State.calling_eq h.top, State.setFrames_setFrames, State.pushFrame, State.frames_setTop _ hr', State.setTop_of_frames _ hr', State.setFrames_setFrames, hr]
      rfl
    have hsame : U.sameButNew ({ U with heap := s₂.heap, slotsUsed := s₂.slotsUsed } : State) L mc ms := by
      refine ⟨?_, q2, q3, q4, q5, q6⟩
      obtain ⟨t, ht, -⟩ := State.frames_cons hr
      show ({ U with heap := s₂.heap, slotsUsed := s₂.slotsUsed } : State) = { U.setFrames U.frames with heap := s₂.heap, slotsUsed := s₂.slotsUsed }
      rw [State.setFrames_self ht]
    subst hg
    refine Or.inr ⟨q, ⟨(({ U with heap := s₂.heap, slotsUsed := s₂.slotsUsed } : State).setVm s₂.vm), Ls ++ L, c0 + mc, s0 + ms⟩,
      ⟨X.admits, X.cas, X.clock, X.frames, X.room, X.hears, X.method, X.code, (X.here.setHeapUsed s₂.heap s₂.slotsUsed).setVm hW'.alike, X.tail, State.WarmedH.trans X.warmed hW', X.limits, X.bytes, X.same.trans (hsame.setVm s.vm)⟩,
      ⟨g, mk, s₂, L, E, ce, rfl, rfl, hx, hce, hcv, hcl, rfl, hL, rfl, rfl⟩, ?_⟩
    show Steps p.tables e below _ (((({ U with heap := s₂.heap, slotsUsed := s₂.slotsUsed } : State).setVm s₂.vm).setTop g).pushFrame (.throwing q))
    rw [← hs₂]
    exact hsteps
end
variable {p : Program} {l : Launch} {e : Env} {R : Room} {s : State} {m : MethodId} {args : Array Value} {below : List Frame} {meth : Method} {c : Code} {T : State} {H : Heap} {locs : List Loc} {cells slots : Nat}
theorem vx_callVX (X : Stand p l e R s m args below meth c T locs cells slots) (hexec : p.tables.exec = Jvm.exec) {own C : String} {index : Nat} {y : MethodName} {bytes : ByteArray} {maxL : Nat} {ret : Option FieldType} {hh : List (Nat × Nat × Nat × Nat)}
    (hown : s.vm.findClass own = some m.cls) (hlink : (Cond.methodLink own index y).before args s = true) (hinst : (Cond.instanceMethod y).before args s = true) (hsel : (Cond.selects C y y).before args s = true)
    (hcode : (Cond.codeWith y bytes maxL ret hh).before args s = true) (hy : y.cls ≠ "java/lang/invoke/MethodHandle" ∧ y.cls ≠ "java/lang/invoke/VarHandle")
    {W9 : Nat} {Pre : Pt → Array Value → Prop} {Post : Pt → Array Value → Option Value → Pt → Prop} {PostX : Pt → Array Value → Addr → Pt → Prop} (hK : vx_Back l R p e below s args y 3 W9 Pre Post PostX)
    {b : Addr} {cellB : Cell} (hcell : T.heap[b]? = some cellB) (hobj : cellB.vm.isStatics = false) (hcls : s.vm.findClass C = some cellB.cls)
    {g : JFrame} (hg : g.method = m) (hsize : g.locals.size = c.maxLocals) {argsL rest : List Value} (hlen : ∀ sig, parseMethodDescriptor y.desc = some sig → argsL.length = sig.parameters.length)
    (hstack : g.stack = argsL.reverse ++ .ref b :: rest) (hW : 2 * g.monitorRoom + (rest.map fun v => v.category).sum ≤ W9) (hdg : decode c.code g.pc = .ok (.invokevirtual index, 3))
    (hpre : ∀ vm₁, s.WarmedH vm₁ → Pre ⟨T.setVm vm₁, locs, cells, slots⟩ (Value.ref b :: argsL).toArray) :
    (∃ (v : Option Value) (vm₁ : Vm) (B : Pt), s.WarmedH vm₁ ∧ Stand p l e R s m args below meth c B.U B.locs B.cells B.slots ∧ Post ⟨T.setVm vm₁, locs, cells, slots⟩ (Value.ref b :: argsL).toArray v B ∧
      ∀ target, Steps p.tables e below (B.U.setTop { g with pc := g.pc + 3, stack := v.toList ++ rest }) target → Steps p.tables e below (T.setTop g) target) ∨
    (∃ (q : Addr) (vm₁ : Vm) (B : Pt), s.WarmedH vm₁ ∧ Stand p l e R s m args below meth c B.U B.locs B.cells B.slots ∧ PostX ⟨T.setVm vm₁, locs, cells, slots⟩ (Value.ref b :: argsL).toArray q B ∧
      Steps p.tables e below (T.setTop g) ((B.U.setTop { g with stack := rest }).pushFrame (.throwing q))) := by
  obtain ⟨mk, methM, hnamed, hmethM, hstM, habM⟩ := Cond.instanceMethod_spec hinst
  obtain ⟨m8, methM', cM, hn8, hmethM', -, -, -, -, -, -, hsigM⟩ := Cond.codeWith_spec hcode
  cases Option.some.inj (hn8.symm.trans hnamed)
  cases hmethM.symm.trans hmethM'
  obtain ⟨c2, r2, m2, q1, q2, q3, q4, kP, hkP, hkPi⟩ := Cond.selects_spec hsel
  cases hcls.symm.trans q1
  cases (State.methodFound?_of_named hnamed hy).symm.trans q2
  cases hnamed.symm.trans q3
  have hselP : selectMethod e.platform s.vm cellB.cls mk = .method mk := by rw [Launch.admits_selectMethod X.admits]; exact q4
  obtain ⟨vm₁, X₁, hstep₁⟩ := X.invokevirtual hexec hown hlink hnamed hmethM hstM hkP hkPi hy (a := b) (cell := cellB) hcell
    (fun z h => by rw [h] at hobj; cases hobj) hselP hmethM habM hkP hkPi (g := g) hg (argsL := argsL) (rest := rest) (hlen _ hsigM) hstack hdg
  rcases hK m meth c ⟨T.setVm vm₁, locs, cells, slots⟩ { g with stack := rest } (.invokevirtual index) mk (Value.ref b :: argsL).toArray X₁ hg hsize hdg hW (X₁.named hnamed) (hpre vm₁ X₁.warmed) with ⟨v, B, X', hpost, hsteps⟩ | ⟨q, B, X', hpost, hsteps⟩
  · exact Or.inl ⟨v, vm₁, B, X₁.warmed, X', hpost, fun target h => hstep₁ _ fun acts => by rw [doInvoke_state]; exact hsteps.trans h⟩
  · exact Or.inr ⟨q, vm₁, B, X₁.warmed, X', hpost, hstep₁ _ fun acts => by rw [doInvoke_state]; exact hsteps⟩
theorem vx_callSX (X : Stand p l e R s m args below meth c T locs cells slots) (hexec : p.tables.exec = Jvm.exec) {own : String} {index : Nat} {y : MethodName} {bytes : ByteArray} {maxL : Nat} {ret : Option FieldType} {hh : List (Nat × Nat × Nat × Nat)}
    (hown : s.vm.findClass own = some m.cls) (hlink : (Cond.methodLink own index y).before args s = true) (hstat : (Cond.static y).before args s = true) (hinit : (Cond.initialized y.cls).before args s = true)
    (hcode : (Cond.codeWith y bytes maxL ret hh).before args s = true) (hy : y.cls ≠ "java/lang/invoke/MethodHandle" ∧ y.cls ≠ "java/lang/invoke/VarHandle")
    {W9 : Nat} {Pre : Pt → Array Value → Prop} {Post : Pt → Array Value → Option Value → Pt → Prop} {PostX : Pt → Array Value → Addr → Pt → Prop} (hK : vx_Back l R p e below s args y 3 W9 Pre Post PostX)
    {g : JFrame} (hg : g.method = m) (hsize : g.locals.size = c.maxLocals) {argsL rest : List Value} (hlen : ∀ sig, parseMethodDescriptor y.desc = some sig → argsL.length = sig.parameters.length)
    (hstack : g.stack = argsL.reverse ++ rest) (hW : 2 * g.monitorRoom + (rest.map fun v => v.category).sum ≤ W9) (hdg : decode c.code g.pc = .ok (.invokestatic index, 3))
    (hpre : ∀ vm₁, s.WarmedH vm₁ → Pre ⟨T.setVm vm₁, locs, cells, slots⟩ argsL.toArray) :
    (∃ (v : Option Value) (vm₁ : Vm) (B : Pt), s.WarmedH vm₁ ∧ Stand p l e R s m args below meth c B.U B.locs B.cells B.slots ∧ Post ⟨T.setVm vm₁, locs, cells, slots⟩ argsL.toArray v B ∧
      ∀ target, Steps p.tables e below (B.U.setTop { g with pc := g.pc + 3, stack := v.toList ++ rest }) target → Steps p.tables e below (T.setTop g) target) ∨
    (∃ (q : Addr) (vm₁ : Vm) (B : Pt), s.WarmedH vm₁ ∧ Stand p l e R s m args below meth c B.U B.locs B.cells B.slots ∧ PostX ⟨T.setVm vm₁, locs, cells, slots⟩ argsL.toArray q B ∧
      Steps p.tables e below (T.setTop g) ((B.U.setTop { g with stack := rest }).pushFrame (.throwing q))) := by
  obtain ⟨mk, methM, cM, hnamed, hmethM, -, -, -, -, -, -, hsigM⟩ := Cond.codeWith_spec hcode
  have hstatic : methM.isStatic = true := Cond.static_spec hnamed hmethM hstat
  obtain ⟨kP, hkP, -⟩ := className_of_methodNamed hnamed
  have hinitP : kP.init = .initialized := Cond.initialized_spec (findClass_of_methodNamed hnamed) hkP hinit
  obtain ⟨vm₁, X₁, hstep₁⟩ := X.invokestatic hexec hown hlink hnamed hmethM hstatic hkP hinitP hy (g := g) hg (argsL := argsL) (rest := rest) (hlen _ hsigM) hstack hdg
  rcases hK m meth c ⟨T.setVm vm₁, locs, cells, slots⟩ { g with stack := rest } (.invokestatic index) mk argsL.toArray X₁ hg hsize hdg hW (X₁.named hnamed) (hpre vm₁ X₁.warmed) with ⟨v, B, X', hpost, hsteps⟩ | ⟨q, B, X', hpost, hsteps⟩
  · exact Or.inl ⟨v, vm₁, B, X₁.warmed, X', hpost, fun target h => hstep₁ _ fun acts => by rw [doInvoke_state]; exact hsteps.trans h⟩
  · exact Or.inr ⟨q, vm₁, B, X₁.warmed, X', hpost, hstep₁ _ fun acts => by rw [doInvoke_state]; exact hsteps⟩
theorem vx_callVW (X : Stand p l e R s m args below meth c T locs cells slots) (hexec : p.tables.exec = Jvm.exec) {own C : String} {index : Nat} {y : MethodName} {bytes : ByteArray} {maxL : Nat} {ret : Option FieldType} {hh : List (Nat × Nat × Nat × Nat)}
    (hown : s.vm.findClass own = some m.cls) (hlink : (Cond.methodLink own index y).before args s = true) (hinst : (Cond.instanceMethod y).before args s = true) (hsel : (Cond.selects C y y).before args s = true)
    (hcode : (Cond.codeWith y bytes maxL ret hh).before args s = true) (hy : y.cls ≠ "java/lang/invoke/MethodHandle" ∧ y.cls ≠ "java/lang/invoke/VarHandle")
    {W9 : Nat} {Pre : Pt → Array Value → Prop} {Post : Pt → Array Value → Option Value → Pt → Prop} (hK : Back l R p e below s args y 3 W9 Pre Post)
    {b : Addr} {cellB : Cell} (hcell : T.heap[b]? = some cellB) (hobj : cellB.vm.isStatics = false) (hcls : s.vm.findClass C = some cellB.cls)
    {g : JFrame} (hg : g.method = m) (hsize : g.locals.size = c.maxLocals) {argsL rest : List Value} (hlen : ∀ sig, parseMethodDescriptor y.desc = some sig → argsL.length = sig.parameters.length)
    (hstack : g.stack = argsL.reverse ++ .ref b :: rest) (hW : 2 * g.monitorRoom + (rest.map fun v => v.category).sum ≤ W9) (hdg : decode c.code g.pc = .ok (.invokevirtual index, 3))
    (hpre : ∀ vm₁, s.WarmedH vm₁ → Pre ⟨T.setVm vm₁, locs, cells, slots⟩ (Value.ref b :: argsL).toArray) :
    ∃ (v : Option Value) (vm₁ : Vm) (B : Pt), s.WarmedH vm₁ ∧ Stand p l e R s m args below meth c B.U B.locs B.cells B.slots ∧ Post ⟨T.setVm vm₁, locs, cells, slots⟩ (Value.ref b :: argsL).toArray v B ∧
      ∀ target, Steps p.tables e below (B.U.setTop { g with pc := g.pc + 3, stack := v.toList ++ rest }) target → Steps p.tables e below (T.setTop g) target := by
  obtain ⟨mk, methM, hnamed, hmethM, hstM, habM⟩ := Cond.instanceMethod_spec hinst
  obtain ⟨m8, methM', cM, hn8, hmethM', -, -, -, -, -, -, hsigM⟩ := Cond.codeWith_spec hcode
  cases Option.some.inj (hn8.symm.trans hnamed)
  cases hmethM.symm.trans hmethM'
  obtain ⟨c2, r2, m2, q1, q2, q3, q4, kP, hkP, hkPi⟩ := Cond.selects_spec hsel
  cases hcls.symm.trans q1
  cases (State.methodFound?_of_named hnamed hy).symm.trans q2
  cases hnamed.symm.trans q3
  have hselP : selectMethod e.platform s.vm cellB.cls mk = .method mk := by rw [Launch.admits_selectMethod X.admits]; exact q4
  obtain ⟨vm₁, X₁, hstep₁⟩ := X.invokevirtual hexec hown hlink hnamed hmethM hstM hkP hkPi hy (a := b) (cell := cellB) hcell
    (fun z h => by rw [h] at hobj; cases hobj) hselP hmethM habM hkP hkPi (g := g) hg (argsL := argsL) (rest := rest) (hlen _ hsigM) hstack hdg
  obtain ⟨v, B, X', hpost, hsteps⟩ := hK m meth c ⟨T.setVm vm₁, locs, cells, slots⟩ { g with stack := rest } (.invokevirtual index) mk (Value.ref b :: argsL).toArray X₁ hg hsize hdg hW (X₁.named hnamed) (hpre vm₁ X₁.warmed)
  exact ⟨v, vm₁, B, X₁.warmed, X', hpost, fun target h => hstep₁ _ fun acts => by rw [doInvoke_state]; exact hsteps.trans h⟩
abbrev vx_CVW (R : Room) (s : State) (args : Array Value) (own C : String) (index : Nat) (y : MethodName) (bytes : ByteArray) (maxL : Nat) (ret : Option FieldType) (hh : List (Nat × Nat × Nat × Nat)) (ws : List Cond) (rm : Room) (mc ms n : Nat) : Prop :=
  (rm.cells = mc ∧ rm.slots = ms ∧ rm.frames + 1 ≤ R.frames ∧ 8 + (maxL + 11) + rm.locals ≤ R.locals ∧ (∀ w ∈ ws, ∀ (a' : Array Value) (U : State), s.WarmedH U.vm → w.before a' U = true) ∧ Cond.codeWith y bytes maxL ret hh ∈ ws) ∧
  (Cond.codeWith y bytes maxL ret hh).before args s = true ∧ (Cond.initialized y.cls).before args s = true ∧ (y.cls ≠ "java/lang/invoke/MethodHandle" ∧ y.cls ≠ "java/lang/invoke/VarHandle") ∧
  (∀ sig, parseMethodDescriptor y.desc = some sig → n = sig.parameters.length) ∧ (Cond.methodLink own index y).before args s = true ∧ (Cond.instanceMethod y).before args s = true ∧ (Cond.selects C y y).before args s = true
theorem vx_cwVW {own C : String} {index maxL mc ms : Nat} {y : MethodName} {bytes : ByteArray} {ret : Option FieldType} {hh : List (Nat × Nat × Nat × Nat)} {Ts ws ws' : List Cond} {rm : Room} (n : Nat) (ht : ∀ w ∈ Ts, w.before args s = true) (hT : GoodIn Ts (wsV own index C y ws)) (hw : ws = Cond.codeWith y bytes maxL ret hh :: ws') (hrc : rm.cells = mc) (hrs : rm.slots = ms)
    (hd : y.cls = C ∧ y.cls ≠ "java/lang/invoke/MethodHandle" ∧ y.cls ≠ "java/lang/invoke/VarHandle" ∧ (parseMethodDescriptor y.desc).map (fun d => d.parameters.length) = some n) (hR : rm.frames + 1 ≤ R.frames ∧ 8 + (maxL + 11) + rm.locals ≤ R.locals) :
    vx_CVW R s args own C index y bytes maxL ret hh ws rm mc ms n := by
  obtain ⟨hC, hd⟩ := hd
  subst hC
  have ok : ∀ w ∈ wsV own index y.cls y ws, w.before args s = true := fun w h => ht w (hT w h).1
  have hG : GoodIn Ts ws := fun w h => hT w (by unfold wsV; exact List.mem_append_right _ h)
  have hc : Cond.codeWith y bytes maxL ret hh ∈ ws := by rw [hw]; exact List.mem_cons_self
  refine ⟨⟨hrc, hrs, hR.1, hR.2, pay_in ht hG, hc⟩, ht _ (hG _ hc).1, ok _ (by simp [wsV]), ⟨hd.1, hd.2.1⟩, fun sig h => ?_, ok _ (by simp [wsV]), ok _ (by simp [wsV]), ok _ (by simp [wsV])⟩
  have h2 := hd.2.2
  rw [h] at h2
  exact (Option.some.inj h2).symm
theorem vx_runVW {y : MethodName} {bytes cc : ByteArray} {maxL nL mc ms n index : Nat} {ret : Option FieldType} {hh : List (Nat × Nat × Nat × Nat)} {ws : List Cond} {rm : Room} {Pc : Array Value → State → Prop} {Qc : Array Value → State → Outcome → State → Prop} {free : Addr → Prop} {Ts : List Cond} {own C : String} {b : Addr} {As rest : List Value} {g : JFrame}
    (S : CallFix p m c cc nL s args Ts own) (hM : Met l y ws rm Pc Qc mc ms free) (cw : vx_CVW R s args own C index y bytes maxL ret hh ws rm mc ms n) (hp : PreV s H C b Pc As)
    (hg : g.method = m) (hn : As.length = n) (hsize : g.locals.size = nL) (hstack : g.stack = As.reverse ++ .ref b :: rest) (hW : 2 * g.monitorRoom + (rest.map fun v => v.category).sum ≤ 8) (hdg : decode cc g.pc = .ok (.invokevirtual index, 3)) (hf : cells + mc ≤ R.cells ∧ slots + ms ≤ R.slots) :
    va_Run p l e R s m args below meth c H locs cells slots mc ms g rest (Qc (Value.ref b :: As).toArray) free := by
  obtain ⟨⟨hrc, hrs, hfr, hlo, hws, hcw⟩, hcode, hini, hy, hlen, hl, hin, hse⟩ := cw
  have hK : Back l R p e below s args y 3 8 (PreOf R mc ms Pc) (PostOf Qc mc ms free) := va_backW (hh := hh) (bytes := bytes) (maxL := maxL) (ret := ret) hM hp.1 hrc hrs hfr hlo hws hcw (fun a' U hW => word_at hW (Or.inl (by first | rfl | simp [Cond.onTables, Cond.keeps, Cond.steady])) hini)
  obtain ⟨hx, hb, hml, ho, -⟩ := S
  obtain ⟨-, ⟨cellB, hcB, hoB, hclB⟩, hPc⟩ := hp
  intro T hT X
  obtain ⟨v, vm₁, ⟨U', l2, c2, s2⟩, hW₁, X', ⟨g', mk, t, L, e1, e2, hq, h1, hL, h2, h3⟩, st⟩ := vx_callVW X hx (C := C) (hh := hh) (bytes := bytes) (maxL := maxL) (ret := ret) ho hl hin hse hcode hy hK (by rw [hT]; exact hcB) hoB hclB hg (hsize.trans hml.symm) (argsL := As) (rest := rest) (fun sig h => hn.trans (hlen sig h)) hstack hW (by rw [hb]; exact hdg)
    (fun vm₁ hW₁ => ⟨hf.1, hf.2, hPc (T.setVm vm₁) hT hW₁⟩)
  dsimp only [Pt.U, Pt.locs, Pt.cells, Pt.slots] at X' e1 e2 h1 h2 h3 st
  subst h1; subst h2; subst h3
  exact ⟨v, (T.setVm vm₁).calling g' mk (Value.ref b :: As).toArray, t, U', L, hT, X', hL, e1, e2, hq, st⟩
section
variable {y : MethodName} {bytes cc : ByteArray} {maxL nL mc ms n index : Nat} {ret : Option FieldType} {ws : List Cond} {rm : Room} {Pc : Array Value → State → Prop} {Qc : Array Value → State → Outcome → State → Prop} {XC : String → State → State → Prop} {free : Addr → Prop} {Ts : List Cond} {own C : String} {b : Addr} {As rest : List Value} {g : JFrame}
theorem vx_runVX {hh : List (Nat × Nat × Nat × Nat)} (S : CallFix p m c cc nL s args Ts own) (hM : vx_Met l y ws rm Pc Qc XC mc ms free) (cw : vx_CVW R s args own C index y bytes maxL ret hh ws rm mc ms n) (hp : PreV s H C b Pc As)
    (hg : g.method = m) (hn : As.length = n) (hsize : g.locals.size = nL) (hstack : g.stack = As.reverse ++ .ref b :: rest) (hW : 2 * g.monitorRoom + (rest.map fun v => v.category).sum ≤ 8) (hdg : decode cc g.pc = .ok (.invokevirtual index, 3)) (hf : cells + mc ≤ R.cells ∧ slots + ms ≤ R.slots) :
    vx_Run p l e R s m args below meth c H locs cells slots mc ms g rest (Qc (Value.ref b :: As).toArray) XC free := by
  obtain ⟨⟨hrc, hrs, hfr, hlo, hws, hcw⟩, hcode, hini, hy, hlen, hl, hin, hse⟩ := cw
  have hK : vx_Back l R p e below s args y 3 8 (PreOf R mc ms Pc) (PostOf Qc mc ms free) (vx_Post XC mc ms free) := vx_backW (hh := hh) (bytes := bytes) (maxL := maxL) (ret := ret) hM hp.1 hrc hrs hfr hlo hws hcw (fun a' U hW => word_at hW (Or.inl (by first | rfl | simp [Cond.onTables, Cond.keeps, Cond.steady])) hini)
  obtain ⟨hx, hb, hml, ho, -⟩ := S
  obtain ⟨-, ⟨cellB, hcB, hoB, hclB⟩, hPc⟩ := hp
  intro T hT X
  rcases vx_callVX X hx (C := C) (hh := hh) (bytes := bytes) (maxL := maxL) (ret := ret) ho hl hin hse hcode hy hK (by rw [hT]; exact hcB) hoB hclB hg (hsize.trans hml.symm) (argsL := As) (rest := rest) (fun sig h => hn.trans (hlen sig h)) hstack hW (by rw [hb]; exact hdg)
    (fun vm₁ hW₁ => ⟨hf.1, hf.2, hPc (T.setVm vm₁) hT hW₁⟩) with ⟨v, vm₁, ⟨U', l2, c2, s2⟩, hW₁, X', ⟨g', mk, t, L, e1, e2, hq, h1, hL, h2, h3⟩, st⟩ | ⟨q, vm₁, ⟨U', l2, c2, s2⟩, hW₁, X', ⟨g', mk, t, L, E, ce, e1, e2, hq, hce, hcv, hcl, h1, hL, h2, h3⟩, st⟩
  · dsimp only [Pt.U, Pt.locs, Pt.cells, Pt.slots] at X' e1 e2 h1 h2 h3 st
    subst h1; subst h2; subst h3
    exact Or.inl ⟨v, (T.setVm vm₁).calling g' mk (Value.ref b :: As).toArray, t, U', L, hT, X', hL, e1, e2, hq, st⟩
  · dsimp only [Pt.U, Pt.locs, Pt.cells, Pt.slots] at X' e1 e2 h1 h2 h3 st hcl
    subst h1; subst h2; subst h3
    exact Or.inr ⟨q, (T.setVm vm₁).calling g' mk (Value.ref b :: As).toArray, t, U', L, E, ce, hT, X', hL, e1, e2, hq, hce, hcv, vx_cls hW₁ hcl, st⟩
theorem vx_runSX {hh : List (Nat × Nat × Nat × Nat)} (S : CallFix p m c cc nL s args Ts own) (hM : vx_Met l y ws rm Pc Qc XC mc ms free) (cw : vx_CSW R s args own index y bytes maxL ret hh ws rm mc ms n) (hp : PreS s H Pc As)
    (hg : g.method = m) (hn : As.length = n) (hsize : g.locals.size = nL) (hstack : g.stack = As.reverse ++ rest) (hW : 2 * g.monitorRoom + (rest.map fun v => v.category).sum ≤ 8) (hdg : decode cc g.pc = .ok (.invokestatic index, 3)) (hf : cells + mc ≤ R.cells ∧ slots + ms ≤ R.slots) :
    vx_Run p l e R s m args below meth c H locs cells slots mc ms g rest (Qc As.toArray) XC free := by
  obtain ⟨⟨hrc, hrs, hfr, hlo, hws, hcw⟩, hcode, hini, hy, hlen, hl, hstt⟩ := cw
  have hK : vx_Back l R p e below s args y 3 8 (PreOf R mc ms Pc) (PostOf Qc mc ms free) (vx_Post XC mc ms free) := vx_backW (hh := hh) (bytes := bytes) (maxL := maxL) (ret := ret) hM hp.1 hrc hrs hfr hlo hws hcw (fun a' U hW => word_at hW (Or.inl (by first | rfl | simp [Cond.onTables, Cond.keeps, Cond.steady])) hini)
  obtain ⟨hx, hb, hml, ho, -⟩ := S
  intro T hT X
  rcases vx_callSX X hx (hh := hh) (bytes := bytes) (maxL := maxL) (ret := ret) ho hl hstt hini hcode hy hK hg (hsize.trans hml.symm) (argsL := As) (rest := rest) (fun sig h => hn.trans (hlen sig h)) hstack hW (by rw [hb]; exact hdg)
    (fun vm₁ hW₁ => ⟨hf.1, hf.2, hp.2 (T.setVm vm₁) hT hW₁⟩) with ⟨v, vm₁, ⟨U', l2, c2, s2⟩, hW₁, X', ⟨g', mk, t, L, e1, e2, hq, h1, hL, h2, h3⟩, st⟩ | ⟨q, vm₁, ⟨U', l2, c2, s2⟩, hW₁, X', ⟨g', mk, t, L, E, ce, e1, e2, hq, hce, hcv, hcl, h1, hL, h2, h3⟩, st⟩
  · dsimp only [Pt.U, Pt.locs, Pt.cells, Pt.slots] at X' e1 e2 h1 h2 h3 st
    subst h1; subst h2; subst h3
    exact Or.inl ⟨v, (T.setVm vm₁).calling g' mk As.toArray, t, U', L, hT, X', hL, e1, e2, hq, st⟩
  · dsimp only [Pt.U, Pt.locs, Pt.cells, Pt.slots] at X' e1 e2 h1 h2 h3 st hcl
    subst h1; subst h2; subst h3
    exact Or.inr ⟨q, (T.setVm vm₁).calling g' mk As.toArray, t, U', L, E, ce, hT, X', hL, e1, e2, hq, hce, hcv, vx_cls hW₁ hcl, st⟩
end
end VXH
theorem vx_ofWH {l : Launch} {y : MethodName} {ws ws' : List Cond} {rm : Room} {Pc : Array Value → State → Prop} {Qc : Array Value → State → Outcome → State → Prop} {XC : String → State → State → Prop} {mc ms : Nat} {free : Addr → Prop} {cc : ByteArray} {maxL : Nat} {ret : Option FieldType} {hh : List (Nat × Nat × Nat × Nat)}
    (hy : plainName y.cls = true) (hw : ws = Cond.codeWith y cc maxL ret hh :: ws')
    (body : ∀ p e s m args below meth c s₁, BodyLoose p l y (headSpec ws rm) cc maxL ret e s m args below meth c s₁ → c.maxLocals = maxL → Pc args s →
      W p l e (headSpec ws rm).room s m args below meth c s.heap [] 0 0 (vx_MQ below Qc XC args s mc ms free) (entryFrame m args maxL)) : vx_Met l y ws rm Pc Qc XC mc ms free := by
  refine MetFree.of_bodyS (code := cc) (maxLocals := maxL) (ret := ret) hy ?_ ?_
  · intro args s m h hn
    obtain ⟨m9, meth, c, hn9, h1, h2, h3, h4, -, h5, h6, -⟩ := Cond.codeWith_spec (atoms_spec (ws := ws) h _ (by rw [hw]; exact List.mem_cons_self))
    cases hn.symm.trans hn9
    exact ⟨meth, c, h1, h2, h3, h4, h5, h6⟩
  · intro p e s m args below meth c s₁ B hml hP _
    have hh0 : s₁.heap = s.heap := by rw [B.state]; rfl
    obtain ⟨t, a1, o, b1, b2, b3⟩ := body p e s m args below meth c s₁ B hml hP s₁ hh0 (Stand.of_body B)
    exact ⟨t, o, a1, b1, b2, b3⟩
/-! ===== END ===== -/

/-! ===== BEGIN printed: names, fields, word lists, decode rows ===== -/
end
section
def RX0 : String := "StructureRows$Faults"
def TX0 : u_T := fun k => match k with
  | 0 => ("StructureRows$Faults", "kinds", "[I", true)
  | 1 => ("StructureRows$Faults", "elements", "[I", true)
  | 2 => ("StructureRows$Faults", "numbers", "[I", true)
  | _ => ("StructureRows$Faults", "count", "I", false)
def tyX0 : Nat → FieldType := fun k => match k with
  | 0 => .array .int
  | 1 => .array .int
  | 2 => .array .int
  | _ => .int
abbrev wsX00 : List Cond := u_ws RX0 TX0 4
theorem nmX0 : ∀ a, a < 4 → ∀ b, b < 4 → a ≠ b → (TX0 a).2.1 ≠ (TX0 b).2.1 := by decide +kernel
theorem tyX0_ok : ∀ k, k < 4 → parseFieldDescriptor (TX0 k).2.2.1 = some (tyX0 k) := by decide +kernel
abbrev cX0_init : ByteArray := prog_2_method_1_code
def yX0_init : MethodName := ⟨RX0, "<init>", "()V"⟩
abbrev cX0_append : ByteArray := prog_2_method_2_code
def yX0_append : MethodName := ⟨RX0, "append", "(III)V"⟩
def RX1 : String := "StructureRows$Grid"
def TX1 : u_T := fun k => match k with
  | 0 => ("StructureRows$Grid", "freeFrom", "[I", true)
  | 1 => ("StructureRows$Grid", "used", "I", false)
  | 2 => ("StructureRows$Grid", "row", "I", false)
  | 3 => ("StructureRows$Grid", "place", "I", false)
  | 4 => ("StructureRows$Grid", "width", "I", false)
  | _ => ("StructureRows$Grid", "uneven", "Z", false)
def tyX1 : Nat → FieldType := fun k => match k with
  | 0 => .array .int
  | 1 => .int
  | 2 => .int
  | 3 => .int
  | 4 => .int
  | _ => .boolean
abbrev wsX10 : List Cond := u_ws RX1 TX1 6
theorem nmX1 : ∀ a, a < 6 → ∀ b, b < 6 → a ≠ b → (TX1 a).2.1 ≠ (TX1 b).2.1 := by decide +kernel
theorem tyX1_ok : ∀ k, k < 6 → parseFieldDescriptor (TX1 k).2.2.1 = some (tyX1 k) := by decide +kernel
abbrev cX1_init : ByteArray := prog_3_method_1_code
def yX1_init : MethodName := ⟨RX1, "<init>", "()V"⟩
abbrev cX1_clear : ByteArray := prog_3_method_2_code
def yX1_clear : MethodName := ⟨RX1, "clear", "()V"⟩
abbrev cX1_beginRow : ByteArray := prog_3_method_3_code
def yX1_beginRow : MethodName := ⟨RX1, "beginRow", "()V"⟩
abbrev cX1_lay : ByteArray := prog_3_method_4_code
def yX1_lay : MethodName := ⟨RX1, "lay", "(II)V"⟩
abbrev cX1_endRow : ByteArray := prog_3_method_5_code
def yX1_endRow : MethodName := ⟨RX1, "endRow", "()V"⟩
def RX2 : String := "StructureRows$Headings"
def TX2 : u_T := fun k => match k with
  | 0 => ("StructureRows$Headings", "elements", "[I", true)
  | 1 => ("StructureRows$Headings", "levels", "[I", true)
  | 2 => ("StructureRows$Headings", "depths", "[I", true)
  | _ => ("StructureRows$Headings", "count", "I", false)
def tyX2 : Nat → FieldType := fun k => match k with
  | 0 => .array .int
  | 1 => .array .int
  | 2 => .array .int
  | _ => .int
abbrev wsX20 : List Cond := u_ws RX2 TX2 4
theorem nmX2 : ∀ a, a < 4 → ∀ b, b < 4 → a ≠ b → (TX2 a).2.1 ≠ (TX2 b).2.1 := by decide +kernel
theorem tyX2_ok : ∀ k, k < 4 → parseFieldDescriptor (TX2 k).2.2.1 = some (tyX2 k) := by decide +kernel
abbrev cX2_init : ByteArray := prog_4_method_1_code
def yX2_init : MethodName := ⟨RX2, "<init>", "()V"⟩
abbrev cX2_append : ByteArray := prog_4_method_2_code
def yX2_append : MethodName := ⟨RX2, "append", "(II)V"⟩
abbrev cX2_depthBehind : ByteArray := prog_4_method_3_code
def yX2_depthBehind : MethodName := ⟨RX2, "depthBehind", "(I)I"⟩
def RX3 : String := "StructureRows$Pages"
def TX3 : u_T := fun k => match k with
  | 0 => ("StructureRows$Pages", "codes", "[I", true)
  | 1 => ("StructureRows$Pages", "places", "[I", true)
  | _ => ("StructureRows$Pages", "counts", "[I", true)
def tyX3 : Nat → FieldType := fun k => match k with
  | 0 => .array .int
  | 1 => .array .int
  | _ => .array .int
abbrev wsX30 : List Cond := u_ws RX3 TX3 3
theorem nmX3 : ∀ a, a < 3 → ∀ b, b < 3 → a ≠ b → (TX3 a).2.1 ≠ (TX3 b).2.1 := by decide +kernel
theorem tyX3_ok : ∀ k, k < 3 → parseFieldDescriptor (TX3 k).2.2.1 = some (tyX3 k) := by decide +kernel
abbrev cX3_init : ByteArray := prog_5_method_1_code
def yX3_init : MethodName := ⟨RX3, "<init>", "()V"⟩
abbrev cX3_show : ByteArray := prog_5_method_2_code
def yX3_show : MethodName := ⟨RX3, "show", "(II)I"⟩
abbrev cX3_shownBy : ByteArray := prog_5_method_3_code
def yX3_shownBy : MethodName := ⟨RX3, "shownBy", "(I)I"⟩
abbrev cX3_codeAt : ByteArray := prog_5_method_4_code
def yX3_codeAt : MethodName := ⟨RX3, "codeAt", "(II)I"⟩
abbrev cX3_placeOf : ByteArray := prog_5_method_5_code
def yX3_placeOf : MethodName := ⟨RX3, "placeOf", "(I)I"⟩
def RX4 : String := "StructureRows$Roles"
def TX4 : u_T := fun k => match k with
  | _ => ("StructureRows$Roles", "targets", "[I", true)
def tyX4 : Nat → FieldType := fun k => match k with
  | _ => .array .int
abbrev wsX40 : List Cond := u_ws RX4 TX4 1
theorem nmX4 : ∀ a, a < 1 → ∀ b, b < 1 → a ≠ b → (TX4 a).2.1 ≠ (TX4 b).2.1 := by decide +kernel
theorem tyX4_ok : ∀ k, k < 1 → parseFieldDescriptor (TX4 k).2.2.1 = some (tyX4 k) := by decide +kernel
abbrev cX4_init : ByteArray := prog_6_method_1_code
def yX4_init : MethodName := ⟨RX4, "<init>", "()V"⟩
abbrev cX4_isOwn : ByteArray := prog_6_method_2_code
def yX4_isOwn : MethodName := ⟨RX4, "isOwn", "(I)Z"⟩
abbrev cX4_isRole : ByteArray := prog_6_method_3_code
def yX4_isRole : MethodName := ⟨RX4, "isRole", "(I)Z"⟩
abbrev cX4_lead : ByteArray := prog_6_method_4_code
def yX4_lead : MethodName := ⟨RX4, "lead", "(II)V"⟩
abbrev cX4_leads : ByteArray := prog_6_method_5_code
def yX4_leads : MethodName := ⟨RX4, "leads", "(II)Z"⟩
abbrev cX4_standardOf : ByteArray := prog_6_method_6_code
def yX4_standardOf : MethodName := ⟨RX4, "standardOf", "(I)I"⟩
def RX5 : String := "StructureRows$Trail"
def TX5 : u_T := fun k => match k with
  | 0 => ("StructureRows$Trail", "tree", "LStructureRows$Tree;", true)
  | 1 => ("StructureRows$Trail", "elementNumbers", "[I", true)
  | 2 => ("StructureRows$Trail", "partCodes", "[I", true)
  | 3 => ("StructureRows$Trail", "elements", "I", false)
  | _ => ("StructureRows$Trail", "parts", "I", false)
def tyX5 : Nat → FieldType := fun k => match k with
  | 0 => .object "StructureRows$Tree"
  | 1 => .array .int
  | 2 => .array .int
  | 3 => .int
  | _ => .int
abbrev wsX50 : List Cond := u_ws RX5 TX5 5
theorem nmX5 : ∀ a, a < 5 → ∀ b, b < 5 → a ≠ b → (TX5 a).2.1 ≠ (TX5 b).2.1 := by decide +kernel
theorem tyX5_ok : ∀ k, k < 5 → parseFieldDescriptor (TX5 k).2.2.1 = some (tyX5 k) := by decide +kernel
abbrev cX5_init : ByteArray := prog_7_method_1_code
def yX5_init : MethodName := ⟨RX5, "<init>", "(LStructureRows$Tree;)V"⟩
abbrev cX5_follow : ByteArray := prog_7_method_2_code
def yX5_follow : MethodName := ⟨RX5, "follow", "()V"⟩
abbrev cX5_passElement : ByteArray := prog_7_method_3_code
def yX5_passElement : MethodName := ⟨RX5, "passElement", "(I)I"⟩
abbrev cX5_passPart : ByteArray := prog_7_method_4_code
def yX5_passPart : MethodName := ⟨RX5, "passPart", "(I)I"⟩
def RX6 : String := "StructureRows$Tree"
def TX6 : u_T := fun k => match k with
  | 0 => ("StructureRows$Tree", "roles", "LStructureRows$Roles;", true)
  | 1 => ("StructureRows$Tree", "elementRoles", "[I", true)
  | 2 => ("StructureRows$Tree", "firstKids", "[I", true)
  | 3 => ("StructureRows$Tree", "lastKids", "[I", true)
  | 4 => ("StructureRows$Tree", "parents", "[I", true)
  | 5 => ("StructureRows$Tree", "nextKids", "[I", true)
  | 6 => ("StructureRows$Tree", "elements", "I", false)
  | _ => ("StructureRows$Tree", "parts", "I", false)
def tyX6 : Nat → FieldType := fun k => match k with
  | 0 => .object "StructureRows$Roles"
  | 1 => .array .int
  | 2 => .array .int
  | 3 => .array .int
  | 4 => .array .int
  | 5 => .array .int
  | 6 => .int
  | _ => .int
abbrev wsX60 : List Cond := u_ws RX6 TX6 8
theorem nmX6 : ∀ a, a < 8 → ∀ b, b < 8 → a ≠ b → (TX6 a).2.1 ≠ (TX6 b).2.1 := by decide +kernel
theorem tyX6_ok : ∀ k, k < 8 → parseFieldDescriptor (TX6 k).2.2.1 = some (tyX6 k) := by decide +kernel
abbrev cX6_init : ByteArray := prog_8_method_1_code
def yX6_init : MethodName := ⟨RX6, "<init>", "(LStructureRows$Roles;)V"⟩
abbrev cX6_addElement : ByteArray := prog_8_method_2_code
def yX6_addElement : MethodName := ⟨RX6, "addElement", "(II)I"⟩
abbrev cX6_addPart : ByteArray := prog_8_method_3_code
def yX6_addPart : MethodName := ⟨RX6, "addPart", "(II)V"⟩
abbrev cX6_addKid : ByteArray := prog_8_method_4_code
def yX6_addKid : MethodName := ⟨RX6, "addKid", "(II)V"⟩
abbrev cX6_parentOf : ByteArray := prog_8_method_5_code
def yX6_parentOf : MethodName := ⟨RX6, "parentOf", "(I)I"⟩
abbrev cX6_holderOf : ByteArray := prog_8_method_6_code
def yX6_holderOf : MethodName := ⟨RX6, "holderOf", "(I)I"⟩
abbrev cX6_hasKids : ByteArray := prog_8_method_7_code
def yX6_hasKids : MethodName := ⟨RX6, "hasKids", "(I)Z"⟩
abbrev cX6_standardOf : ByteArray := prog_8_method_8_code
def yX6_standardOf : MethodName := ⟨RX6, "standardOf", "(I)I"⟩
abbrev cX6_isElement : ByteArray := prog_8_method_9_code
def yX6_isElement : MethodName := ⟨RX6, "isElement", "(I)Z"⟩
abbrev cX6_codeOf : ByteArray := prog_8_method_10_code
def yX6_codeOf : MethodName := ⟨RX6, "codeOf", "(I)I"⟩
abbrev cX6_firstIn : ByteArray := prog_8_method_11_code
def yX6_firstIn : MethodName := ⟨RX6, "firstIn", "(I)I"⟩
abbrev cX6_firstBehind : ByteArray := prog_8_method_12_code
def yX6_firstBehind : MethodName := ⟨RX6, "firstBehind", "(I)I"⟩
def RX7 : String := "StructureRows"
def TX7 : u_T := fun k => match k with
  | 0 => ("StructureRows", "roles", "LStructureRows$Roles;", true)
  | 1 => ("StructureRows", "tree", "LStructureRows$Tree;", true)
  | 2 => ("StructureRows", "trail", "LStructureRows$Trail;", true)
  | 3 => ("StructureRows", "pages", "LStructureRows$Pages;", true)
  | 4 => ("StructureRows", "headings", "LStructureRows$Headings;", true)
  | 5 => ("StructureRows", "grid", "LStructureRows$Grid;", true)
  | 6 => ("StructureRows", "faults", "LStructureRows$Faults;", true)
  | 7 => ("StructureRows", "levels", "[I", true)
  | 8 => ("StructureRows", "worded", "[Z", true)
  | 9 => ("StructureRows", "spanRows", "[I", true)
  | 10 => ("StructureRows", "spanColumns", "[I", true)
  | 11 => ("StructureRows", "repeatElements", "[I", true)
  | 12 => ("StructureRows", "repeatCodes", "[I", true)
  | 13 => ("StructureRows", "repeats", "I", false)
  | 14 => ("StructureRows", "looseCodes", "[I", true)
  | 15 => ("StructureRows", "loose", "I", false)
  | _ => ("StructureRows", "latestPlaces", "[I", true)
def tyX7 : Nat → FieldType := fun k => match k with
  | 0 => .object "StructureRows$Roles"
  | 1 => .object "StructureRows$Tree"
  | 2 => .object "StructureRows$Trail"
  | 3 => .object "StructureRows$Pages"
  | 4 => .object "StructureRows$Headings"
  | 5 => .object "StructureRows$Grid"
  | 6 => .object "StructureRows$Faults"
  | 7 => .array .int
  | 8 => .array .boolean
  | 9 => .array .int
  | 10 => .array .int
  | 11 => .array .int
  | 12 => .array .int
  | 13 => .int
  | 14 => .array .int
  | 15 => .int
  | _ => .array .int
abbrev wsX70 : List Cond := u_ws RX7 TX7 17
theorem nmX7 : ∀ a, a < 17 → ∀ b, b < 17 → a ≠ b → (TX7 a).2.1 ≠ (TX7 b).2.1 := by decide +kernel
theorem tyX7_ok : ∀ k, k < 17 → parseFieldDescriptor (TX7 k).2.2.1 = some (tyX7 k) := by decide +kernel
abbrev cX7_init : ByteArray := prog_1_method_1_code
def yX7_init : MethodName := ⟨RX7, "<init>", "()V"⟩
abbrev cX7_element : ByteArray := prog_1_method_2_code
def yX7_element : MethodName := ⟨RX7, "element", "(II)I"⟩
abbrev cX7_map : ByteArray := prog_1_method_3_code
def yX7_map : MethodName := ⟨RX7, "map", "(II)I"⟩
abbrev cX7_content : ByteArray := prog_1_method_4_code
def yX7_content : MethodName := ⟨RX7, "content", "(III)I"⟩
abbrev cX7_shows : ByteArray := prog_1_method_5_code
def yX7_shows : MethodName := ⟨RX7, "shows", "(II)I"⟩
abbrev cX7_walk : ByteArray := prog_1_method_6_code
def yX7_walk : MethodName := ⟨RX7, "walk", "()I"⟩
abbrev cX7_at : ByteArray := prog_1_method_7_code
def yX7_at : MethodName := ⟨RX7, "at", "(II)I"⟩
abbrev cX7_parent : ByteArray := prog_1_method_8_code
def yX7_parent : MethodName := ⟨RX7, "parent", "(II)I"⟩
abbrev cX7_check : ByteArray := prog_1_method_9_code
def yX7_check : MethodName := ⟨RX7, "check", "()I"⟩
abbrev cX7_fault : ByteArray := prog_1_method_10_code
def yX7_fault : MethodName := ⟨RX7, "fault", "(II)I"⟩
abbrev cX7_heading : ByteArray := prog_1_method_11_code
def yX7_heading : MethodName := ⟨RX7, "heading", "(II)I"⟩
abbrev cX7_words : ByteArray := prog_1_method_12_code
def yX7_words : MethodName := ⟨RX7, "words", "(IZ)I"⟩
abbrev cX7_span : ByteArray := prog_1_method_13_code
def yX7_span : MethodName := ⟨RX7, "span", "(III)I"⟩
abbrev cX7_outline : ByteArray := prog_1_method_14_code
def yX7_outline : MethodName := ⟨RX7, "outline", "(II)I"⟩
abbrev cX7_untagged : ByteArray := prog_1_method_15_code
def yX7_untagged : MethodName := ⟨RX7, "untagged", "(I)I"⟩
abbrev cX7_needElement : ByteArray := prog_1_method_16_code
def yX7_needElement : MethodName := ⟨RX7, "needElement", "(I)V"⟩
abbrev cX7_needCode : ByteArray := prog_1_method_17_code
def yX7_needCode : MethodName := ⟨RX7, "needCode", "(II)I"⟩
abbrev cX7_needWhat : ByteArray := prog_1_method_18_code
def yX7_needWhat : MethodName := ⟨RX7, "needWhat", "(I)V"⟩
abbrev cX7_keepRepeat : ByteArray := prog_1_method_19_code
def yX7_keepRepeat : MethodName := ⟨RX7, "keepRepeat", "(II)V"⟩
abbrev cX7_gatherHeadings : ByteArray := prog_1_method_20_code
def yX7_gatherHeadings : MethodName := ⟨RX7, "gatherHeadings", "()V"⟩
abbrev cX7_gatherLoose : ByteArray := prog_1_method_21_code
def yX7_gatherLoose : MethodName := ⟨RX7, "gatherLoose", "()V"⟩
abbrev cX7_findElementsWithoutStandard : ByteArray := prog_1_method_22_code
def yX7_findElementsWithoutStandard : MethodName := ⟨RX7, "findElementsWithoutStandard", "()V"⟩
abbrev cX7_findHeadingsWithoutLevel : ByteArray := prog_1_method_23_code
def yX7_findHeadingsWithoutLevel : MethodName := ⟨RX7, "findHeadingsWithoutLevel", "()V"⟩
abbrev cX7_findSkippedLevels : ByteArray := prog_1_method_24_code
def yX7_findSkippedLevels : MethodName := ⟨RX7, "findSkippedLevels", "()V"⟩
abbrev cX7_findMisplaced : ByteArray := prog_1_method_25_code
def yX7_findMisplaced : MethodName := ⟨RX7, "findMisplaced", "()V"⟩
abbrev cX7_isMisplaced : ByteArray := prog_1_method_26_code
def yX7_isMisplaced : MethodName := ⟨RX7, "isMisplaced", "(II)Z"⟩
abbrev cX7_neededParent : ByteArray := prog_1_method_27_code
def yX7_neededParent : MethodName := ⟨RX7, "neededParent", "(I)I"⟩
abbrev cX7_isCell : ByteArray := prog_1_method_28_code
def yX7_isCell : MethodName := ⟨RX7, "isCell", "(I)Z"⟩
abbrev cX7_findUnevenTables : ByteArray := prog_1_method_29_code
def yX7_findUnevenTables : MethodName := ⟨RX7, "findUnevenTables", "()V"⟩
abbrev cX7_isUneven : ByteArray := prog_1_method_30_code
def yX7_isUneven : MethodName := ⟨RX7, "isUneven", "(I)Z"⟩
abbrev cX7_layCells : ByteArray := prog_1_method_31_code
def yX7_layCells : MethodName := ⟨RX7, "layCells", "(I)V"⟩
abbrev cX7_findFiguresWithoutWords : ByteArray := prog_1_method_32_code
def yX7_findFiguresWithoutWords : MethodName := ⟨RX7, "findFiguresWithoutWords", "()V"⟩
abbrev cX7_findElementsWithoutKids : ByteArray := prog_1_method_33_code
def yX7_findElementsWithoutKids : MethodName := ⟨RX7, "findElementsWithoutKids", "()V"⟩
abbrev cX7_findRepeats : ByteArray := prog_1_method_34_code
def yX7_findRepeats : MethodName := ⟨RX7, "findRepeats", "()V"⟩
abbrev cX7_findUntagged : ByteArray := prog_1_method_35_code
def yX7_findUntagged : MethodName := ⟨RX7, "findUntagged", "()V"⟩
abbrev cX7_findOutOfOrder : ByteArray := prog_1_method_36_code
def yX7_findOutOfOrder : MethodName := ⟨RX7, "findOutOfOrder", "()V"⟩
def RX8 : String := "StructureRowsModel"
def TX8 : u_T := fun k => match k with
  | 0 => ("StructureRowsModel", "thrown", "I", false)
  | 1 => ("StructureRowsModel", "elements", "I", false)
  | 2 => ("StructureRowsModel", "role", "[I", true)
  | 3 => ("StructureRowsModel", "level", "[I", true)
  | 4 => ("StructureRowsModel", "hasWords", "[Z", true)
  | 5 => ("StructureRowsModel", "rows", "[I", true)
  | 6 => ("StructureRowsModel", "columns", "[I", true)
  | 7 => ("StructureRowsModel", "maps", "[I", true)
  | 8 => ("StructureRowsModel", "kids", "I", false)
  | 9 => ("StructureRowsModel", "kidOf", "[I", true)
  | 10 => ("StructureRowsModel", "kid", "[I", true)
  | 11 => ("StructureRowsModel", "parts", "I", false)
  | 12 => ("StructureRowsModel", "twice", "I", false)
  | 13 => ("StructureRowsModel", "again", "[I", true)
  | 14 => ("StructureRowsModel", "againIn", "[I", true)
  | 15 => ("StructureRowsModel", "shows", "I", false)
  | 16 => ("StructureRowsModel", "shown", "[I", true)
  | 17 => ("StructureRowsModel", "met", "I", false)
  | 18 => ("StructureRowsModel", "meets", "[I", true)
  | 19 => ("StructureRowsModel", "meetsIn", "[I", true)
  | 20 => ("StructureRowsModel", "wayElement", "[I", true)
  | 21 => ("StructureRowsModel", "wayKid", "[I", true)
  | 22 => ("StructureRowsModel", "headings", "I", false)
  | 23 => ("StructureRowsModel", "headingOf", "[I", true)
  | 24 => ("StructureRowsModel", "depthOf", "[I", true)
  | 25 => ("StructureRowsModel", "faults", "I", false)
  | 26 => ("StructureRowsModel", "faultKind", "[I", true)
  | 27 => ("StructureRowsModel", "faultElement", "[I", true)
  | 28 => ("StructureRowsModel", "faultNumber", "[I", true)
  | _ => ("StructureRowsModel", "takenTo", "[I", true)
def tyX8 : Nat → FieldType := fun k => match k with
  | 0 => .int
  | 1 => .int
  | 2 => .array .int
  | 3 => .array .int
  | 4 => .array .boolean
  | 5 => .array .int
  | 6 => .array .int
  | 7 => .array .int
  | 8 => .int
  | 9 => .array .int
  | 10 => .array .int
  | 11 => .int
  | 12 => .int
  | 13 => .array .int
  | 14 => .array .int
  | 15 => .int
  | 16 => .array .int
  | 17 => .int
  | 18 => .array .int
  | 19 => .array .int
  | 20 => .array .int
  | 21 => .array .int
  | 22 => .int
  | 23 => .array .int
  | 24 => .array .int
  | 25 => .int
  | 26 => .array .int
  | 27 => .array .int
  | 28 => .array .int
  | _ => .array .int
abbrev wsX80 : List Cond := u_ws RX8 TX8 30
theorem nmX8 : ∀ a, a < 30 → ∀ b, b < 30 → a ≠ b → (TX8 a).2.1 ≠ (TX8 b).2.1 := by decide +kernel
theorem tyX8_ok : ∀ k, k < 30 → parseFieldDescriptor (TX8 k).2.2.1 = some (tyX8 k) := by decide +kernel
abbrev cX8_init : ByteArray := prog_10_method_1_code
def yX8_init : MethodName := ⟨RX8, "<init>", "()V"⟩
abbrev cX8_thrown : ByteArray := prog_10_method_2_code
def yX8_thrown : MethodName := ⟨RX8, "thrown", "()I"⟩
abbrev cX8_in : ByteArray := prog_10_method_3_code
def yX8_in : MethodName := ⟨RX8, "in", "(III)Z"⟩
abbrev cX8_isElement : ByteArray := prog_10_method_4_code
def yX8_isElement : MethodName := ⟨RX8, "isElement", "(I)Z"⟩
abbrev cX8_element : ByteArray := prog_10_method_5_code
def yX8_element : MethodName := ⟨RX8, "element", "(II)I"⟩
abbrev cX8_standardOf : ByteArray := prog_10_method_6_code
def yX8_standardOf : MethodName := ⟨RX8, "standardOf", "(I)I"⟩
abbrev cX8_leadsTo : ByteArray := prog_10_method_7_code
def yX8_leadsTo : MethodName := ⟨RX8, "leadsTo", "(II)Z"⟩
abbrev cX8_map : ByteArray := prog_10_method_8_code
def yX8_map : MethodName := ⟨RX8, "map", "(II)I"⟩
abbrev cX8_ownerOf : ByteArray := prog_10_method_9_code
def yX8_ownerOf : MethodName := ⟨RX8, "ownerOf", "(I)I"⟩
abbrev cX8_isPart : ByteArray := prog_10_method_10_code
def yX8_isPart : MethodName := ⟨RX8, "isPart", "(II)Z"⟩
abbrev cX8_content : ByteArray := prog_10_method_11_code
def yX8_content : MethodName := ⟨RX8, "content", "(III)I"⟩
abbrev cX8_placeOf : ByteArray := prog_10_method_12_code
def yX8_placeOf : MethodName := ⟨RX8, "placeOf", "(I)I"⟩
abbrev cX8_shows : ByteArray := prog_10_method_13_code
def yX8_shows : MethodName := ⟨RX8, "shows", "(II)I"⟩
abbrev cX8_is : ByteArray := prog_10_method_14_code
def yX8_is : MethodName := ⟨RX8, "is", "(II)Z"⟩
abbrev cX8_nextKid : ByteArray := prog_10_method_15_code
def yX8_nextKid : MethodName := ⟨RX8, "nextKid", "(II)I"⟩
abbrev cX8_meet : ByteArray := prog_10_method_16_code
def yX8_meet : MethodName := ⟨RX8, "meet", "(II)V"⟩
abbrev cX8_go : ByteArray := prog_10_method_17_code
def yX8_go : MethodName := ⟨RX8, "go", "()V"⟩
abbrev cX8_partAt : ByteArray := prog_10_method_18_code
def yX8_partAt : MethodName := ⟨RX8, "partAt", "(I)I"⟩
abbrev cX8_walk : ByteArray := prog_10_method_19_code
def yX8_walk : MethodName := ⟨RX8, "walk", "()I"⟩
abbrev cX8_at : ByteArray := prog_10_method_20_code
def yX8_at : MethodName := ⟨RX8, "at", "(II)I"⟩
abbrev cX8_parent : ByteArray := prog_10_method_21_code
def yX8_parent : MethodName := ⟨RX8, "parent", "(II)I"⟩
abbrev cX8_add : ByteArray := prog_10_method_22_code
def yX8_add : MethodName := ⟨RX8, "add", "(III)V"⟩
abbrev cX8_parentOf : ByteArray := prog_10_method_23_code
def yX8_parentOf : MethodName := ⟨RX8, "parentOf", "(I)I"⟩
abbrev cX8_isCell : ByteArray := prog_10_method_24_code
def yX8_isCell : MethodName := ⟨RX8, "isCell", "(I)Z"⟩
abbrev cX8_suits : ByteArray := prog_10_method_25_code
def yX8_suits : MethodName := ⟨RX8, "suits", "(ZZZ)Z"⟩
abbrev cX8_isPlaced : ByteArray := prog_10_method_26_code
def yX8_isPlaced : MethodName := ⟨RX8, "isPlaced", "(I)Z"⟩
abbrev cX8_lay : ByteArray := prog_10_method_27_code
def yX8_lay : MethodName := ⟨RX8, "lay", "(II)Z"⟩
abbrev cX8_isUneven : ByteArray := prog_10_method_28_code
def yX8_isUneven : MethodName := ⟨RX8, "isUneven", "(I)Z"⟩
abbrev cX8_hasFault : ByteArray := prog_10_method_29_code
def yX8_hasFault : MethodName := ⟨RX8, "hasFault", "(II)Z"⟩
abbrev cX8_addJumps : ByteArray := prog_10_method_30_code
def yX8_addJumps : MethodName := ⟨RX8, "addJumps", "()V"⟩
abbrev cX8_addOrder : ByteArray := prog_10_method_31_code
def yX8_addOrder : MethodName := ⟨RX8, "addOrder", "()V"⟩
abbrev cX8_check : ByteArray := prog_10_method_32_code
def yX8_check : MethodName := ⟨RX8, "check", "()I"⟩
abbrev cX8_fault : ByteArray := prog_10_method_33_code
def yX8_fault : MethodName := ⟨RX8, "fault", "(II)I"⟩
abbrev cX8_heading : ByteArray := prog_10_method_34_code
def yX8_heading : MethodName := ⟨RX8, "heading", "(II)I"⟩
abbrev cX8_words : ByteArray := prog_10_method_35_code
def yX8_words : MethodName := ⟨RX8, "words", "(IZ)I"⟩
abbrev cX8_span : ByteArray := prog_10_method_36_code
def yX8_span : MethodName := ⟨RX8, "span", "(III)I"⟩
abbrev cX8_outline : ByteArray := prog_10_method_37_code
def yX8_outline : MethodName := ⟨RX8, "outline", "(II)I"⟩
abbrev cX8_countUntagged : ByteArray := prog_10_method_38_code
def yX8_countUntagged : MethodName := ⟨RX8, "countUntagged", "()I"⟩
abbrev cX8_untaggedAt : ByteArray := prog_10_method_39_code
def yX8_untaggedAt : MethodName := ⟨RX8, "untaggedAt", "(I)I"⟩
abbrev cX8_untagged : ByteArray := prog_10_method_40_code
def yX8_untagged : MethodName := ⟨RX8, "untagged", "(I)I"⟩
def RJx145de : String := "java/io/Serializable"
def TJx145de : u_T := fun k => match k with
  | _ => ("", "", "", false)
def tyJx145de : Nat → FieldType := fun k => match k with
  | _ => .int
abbrev wsJx145de0 : List Cond := u_ws RJx145de TJx145de 0
theorem nmJx145de : ∀ a, a < 0 → ∀ b, b < 0 → a ≠ b → (TJx145de a).2.1 ≠ (TJx145de b).2.1 := by decide +kernel
theorem tyJx145de_ok : ∀ k, k < 0 → parseFieldDescriptor (TJx145de k).2.2.1 = some (tyJx145de k) := by decide +kernel
def RJ9 : String := "java/lang/Math"
def TJ9 : u_T := fun k => match k with
  | _ => ("", "", "", false)
def tyJ9 : Nat → FieldType := fun k => match k with
  | _ => .int
abbrev wsJ90 : List Cond := u_ws RJ9 TJ9 0
theorem nmJ9 : ∀ a, a < 0 → ∀ b, b < 0 → a ≠ b → (TJ9 a).2.1 ≠ (TJ9 b).2.1 := by decide +kernel
theorem tyJ9_ok : ∀ k, k < 0 → parseFieldDescriptor (TJ9 k).2.2.1 = some (tyJ9 k) := by decide +kernel
abbrev cJ9_max_7cf53 : ByteArray := prog_15_method_65_code
def yJ9_max_7cf53 : MethodName := ⟨RJ9, "max", "(II)I"⟩
def RJ0 : String := "java/lang/String"
def TJ0 : u_T := fun k => match k with
  | _ => ("", "", "", false)
def tyJ0 : Nat → FieldType := fun k => match k with
  | _ => .int
abbrev wsJ00 : List Cond := u_ws RJ0 TJ0 0
theorem nmJ0 : ∀ a, a < 0 → ∀ b, b < 0 → a ≠ b → (TJ0 a).2.1 ≠ (TJ0 b).2.1 := by decide +kernel
theorem tyJ0_ok : ∀ k, k < 0 → parseFieldDescriptor (TJ0 k).2.2.1 = some (tyJ0 k) := by decide +kernel
def RJ7 : String := "java/util/Arrays"
def TJ7 : u_T := fun k => match k with
  | _ => ("", "", "", false)
def tyJ7 : Nat → FieldType := fun k => match k with
  | _ => .int
abbrev wsJ70 : List Cond := u_ws RJ7 TJ7 0
theorem nmJ7 : ∀ a, a < 0 → ∀ b, b < 0 → a ≠ b → (TJ7 a).2.1 ≠ (TJ7 b).2.1 := by decide +kernel
theorem tyJ7_ok : ∀ k, k < 0 → parseFieldDescriptor (TJ7 k).2.2.1 = some (tyJ7 k) := by decide +kernel
abbrev cJ7_fill_53178 : ByteArray := prog_20_method_103_code
def yJ7_fill_53178 : MethodName := ⟨RJ7, "fill", "([II)V"⟩
def RL : String := "StructureRowsLaw"
abbrev cL_element : ByteArray := method_3_code
def yL_element : MethodName := ⟨RL, "element", "(LStructureRows;II[J)I"⟩
abbrev cL_map : ByteArray := method_4_code
def yL_map : MethodName := ⟨RL, "map", "(LStructureRows;II[J)I"⟩
abbrev cL_content : ByteArray := method_5_code
def yL_content : MethodName := ⟨RL, "content", "(LStructureRows;III[J)I"⟩
abbrev cL_shows : ByteArray := method_6_code
def yL_shows : MethodName := ⟨RL, "shows", "(LStructureRows;II[J)I"⟩
abbrev cL_at : ByteArray := method_7_code
def yL_at : MethodName := ⟨RL, "at", "(LStructureRows;II[J)I"⟩
abbrev cL_parent : ByteArray := method_8_code
def yL_parent : MethodName := ⟨RL, "parent", "(LStructureRows;II[J)I"⟩
abbrev cL_fault : ByteArray := method_9_code
def yL_fault : MethodName := ⟨RL, "fault", "(LStructureRows;II[J)I"⟩
abbrev cL_heading : ByteArray := method_10_code
def yL_heading : MethodName := ⟨RL, "heading", "(LStructureRows;II[J)I"⟩
abbrev cL_words : ByteArray := method_11_code
def yL_words : MethodName := ⟨RL, "words", "(LStructureRows;IZ[J)I"⟩
abbrev cL_span : ByteArray := method_12_code
def yL_span : MethodName := ⟨RL, "span", "(LStructureRows;III[J)I"⟩
abbrev cL_outline : ByteArray := method_13_code
def yL_outline : MethodName := ⟨RL, "outline", "(LStructureRows;II[J)I"⟩
abbrev cL_untagged : ByteArray := method_14_code
def yL_untagged : MethodName := ⟨RL, "untagged", "(LStructureRows;I[J)I"⟩
abbrev cL_law : ByteArray := code
def yL_law : MethodName := ⟨RL, "law", "([I)Z"⟩
abbrev vwCl : List vw_C := [(RX0, TX0, 4), (RX1, TX1, 6), (RX2, TX2, 4), (RX3, TX3, 3), (RX4, TX4, 1), (RX5, TX5, 5), (RX6, TX6, 8), (RX7, TX7, 17), (RX8, TX8, 30)]
end
section
theorem dX0_init_0 : decode cX0_init 0 = .ok (.aload_n 0, 1) := by decide +kernel
theorem dX0_init_1 : decode cX0_init 1 = .ok (.invokespecial 3, 3) := by decide +kernel
theorem dX0_init_4 : decode cX0_init 4 = .ok (.aload_n 0, 1) := by decide +kernel
theorem dX0_init_5 : decode cX0_init 5 = .ok (.sipush 760, 3) := by decide +kernel
theorem dX0_init_8 : decode cX0_init 8 = .ok (.newarray .int, 2) := by decide +kernel
theorem dX0_init_10 : decode cX0_init 10 = .ok (.putfield 11, 3) := by decide +kernel
theorem dX0_init_13 : decode cX0_init 13 = .ok (.aload_n 0, 1) := by decide +kernel
theorem dX0_init_14 : decode cX0_init 14 = .ok (.sipush 760, 3) := by decide +kernel
theorem dX0_init_17 : decode cX0_init 17 = .ok (.newarray .int, 2) := by decide +kernel
theorem dX0_init_19 : decode cX0_init 19 = .ok (.putfield 15, 3) := by decide +kernel
theorem dX0_init_22 : decode cX0_init 22 = .ok (.aload_n 0, 1) := by decide +kernel
theorem dX0_init_23 : decode cX0_init 23 = .ok (.sipush 760, 3) := by decide +kernel
theorem dX0_init_26 : decode cX0_init 26 = .ok (.newarray .int, 2) := by decide +kernel
theorem dX0_init_28 : decode cX0_init 28 = .ok (.putfield 18, 3) := by decide +kernel
theorem dX0_init_31 : decode cX0_init 31 = .ok (.aload_n 0, 1) := by decide +kernel
theorem dX0_init_32 : decode cX0_init 32 = .ok (.iconst 0, 1) := by decide +kernel
theorem dX0_init_33 : decode cX0_init 33 = .ok (.putfield 21, 3) := by decide +kernel
theorem dX0_init_36 : decode cX0_init 36 = .ok (.return_, 1) := by decide +kernel
theorem dX0_append_0 : decode cX0_append 0 = .ok (.aload_n 0, 1) := by decide +kernel
theorem dX0_append_1 : decode cX0_append 1 = .ok (.getfield 21, 3) := by decide +kernel
theorem dX0_append_4 : decode cX0_append 4 = .ok (.sipush 760, 3) := by decide +kernel
theorem dX0_append_7 : decode cX0_append 7 = .ok (.if_icmp .ge 43, 3) := by decide +kernel
theorem dX0_append_10 : decode cX0_append 10 = .ok (.aload_n 0, 1) := by decide +kernel
theorem dX0_append_11 : decode cX0_append 11 = .ok (.getfield 11, 3) := by decide +kernel
theorem dX0_append_14 : decode cX0_append 14 = .ok (.aload_n 0, 1) := by decide +kernel
theorem dX0_append_15 : decode cX0_append 15 = .ok (.getfield 21, 3) := by decide +kernel
theorem dX0_append_18 : decode cX0_append 18 = .ok (.iload_n 1, 1) := by decide +kernel
theorem dX0_append_19 : decode cX0_append 19 = .ok (.iastore, 1) := by decide +kernel
theorem dX0_append_20 : decode cX0_append 20 = .ok (.aload_n 0, 1) := by decide +kernel
theorem dX0_append_21 : decode cX0_append 21 = .ok (.getfield 15, 3) := by decide +kernel
theorem dX0_append_24 : decode cX0_append 24 = .ok (.aload_n 0, 1) := by decide +kernel
theorem dX0_append_25 : decode cX0_append 25 = .ok (.getfield 21, 3) := by decide +kernel
theorem dX0_append_28 : decode cX0_append 28 = .ok (.iload_n 2, 1) := by decide +kernel
theorem dX0_append_29 : decode cX0_append 29 = .ok (.iastore, 1) := by decide +kernel
theorem dX0_append_30 : decode cX0_append 30 = .ok (.aload_n 0, 1) := by decide +kernel
theorem dX0_append_31 : decode cX0_append 31 = .ok (.getfield 18, 3) := by decide +kernel
theorem dX0_append_34 : decode cX0_append 34 = .ok (.aload_n 0, 1) := by decide +kernel
theorem dX0_append_35 : decode cX0_append 35 = .ok (.getfield 21, 3) := by decide +kernel
theorem dX0_append_38 : decode cX0_append 38 = .ok (.iload_n 3, 1) := by decide +kernel
theorem dX0_append_39 : decode cX0_append 39 = .ok (.iastore, 1) := by decide +kernel
theorem dX0_append_40 : decode cX0_append 40 = .ok (.aload_n 0, 1) := by decide +kernel
theorem dX0_append_41 : decode cX0_append 41 = .ok (.dup, 1) := by decide +kernel
theorem dX0_append_42 : decode cX0_append 42 = .ok (.getfield 21, 3) := by decide +kernel
theorem dX0_append_45 : decode cX0_append 45 = .ok (.iconst 1, 1) := by decide +kernel
theorem dX0_append_46 : decode cX0_append 46 = .ok (.iadd, 1) := by decide +kernel
theorem dX0_append_47 : decode cX0_append 47 = .ok (.putfield 21, 3) := by decide +kernel
theorem dX0_append_50 : decode cX0_append 50 = .ok (.return_, 1) := by decide +kernel
theorem dX1_init_0 : decode cX1_init 0 = .ok (.aload_n 0, 1) := by decide +kernel
theorem dX1_init_1 : decode cX1_init 1 = .ok (.invokespecial 3, 3) := by decide +kernel
theorem dX1_init_4 : decode cX1_init 4 = .ok (.aload_n 0, 1) := by decide +kernel
theorem dX1_init_5 : decode cX1_init 5 = .ok (.sipush 480, 3) := by decide +kernel
theorem dX1_init_8 : decode cX1_init 8 = .ok (.newarray .int, 2) := by decide +kernel
theorem dX1_init_10 : decode cX1_init 10 = .ok (.putfield 11, 3) := by decide +kernel
theorem dX1_init_13 : decode cX1_init 13 = .ok (.aload_n 0, 1) := by decide +kernel
theorem dX1_init_14 : decode cX1_init 14 = .ok (.iconst 0, 1) := by decide +kernel
theorem dX1_init_15 : decode cX1_init 15 = .ok (.putfield 15, 3) := by decide +kernel
theorem dX1_init_18 : decode cX1_init 18 = .ok (.aload_n 0, 1) := by decide +kernel
theorem dX1_init_19 : decode cX1_init 19 = .ok (.iconst 0, 1) := by decide +kernel
theorem dX1_init_20 : decode cX1_init 20 = .ok (.putfield 19, 3) := by decide +kernel
theorem dX1_init_23 : decode cX1_init 23 = .ok (.aload_n 0, 1) := by decide +kernel
theorem dX1_init_24 : decode cX1_init 24 = .ok (.iconst 0, 1) := by decide +kernel
theorem dX1_init_25 : decode cX1_init 25 = .ok (.putfield 22, 3) := by decide +kernel
theorem dX1_init_28 : decode cX1_init 28 = .ok (.aload_n 0, 1) := by decide +kernel
theorem dX1_init_29 : decode cX1_init 29 = .ok (.iconst (-1), 1) := by decide +kernel
theorem dX1_init_30 : decode cX1_init 30 = .ok (.putfield 25, 3) := by decide +kernel
theorem dX1_init_33 : decode cX1_init 33 = .ok (.aload_n 0, 1) := by decide +kernel
theorem dX1_init_34 : decode cX1_init 34 = .ok (.iconst 0, 1) := by decide +kernel
theorem dX1_init_35 : decode cX1_init 35 = .ok (.putfield 28, 3) := by decide +kernel
theorem dX1_init_38 : decode cX1_init 38 = .ok (.return_, 1) := by decide +kernel
theorem dX1_clear_0 : decode cX1_clear 0 = .ok (.aload_n 0, 1) := by decide +kernel
theorem dX1_clear_1 : decode cX1_clear 1 = .ok (.getfield 11, 3) := by decide +kernel
theorem dX1_clear_4 : decode cX1_clear 4 = .ok (.iconst 0, 1) := by decide +kernel
theorem dX1_clear_5 : decode cX1_clear 5 = .ok (.invokestatic 32, 3) := by decide +kernel
theorem dX1_clear_8 : decode cX1_clear 8 = .ok (.aload_n 0, 1) := by decide +kernel
theorem dX1_clear_9 : decode cX1_clear 9 = .ok (.iconst 0, 1) := by decide +kernel
theorem dX1_clear_10 : decode cX1_clear 10 = .ok (.putfield 15, 3) := by decide +kernel
theorem dX1_clear_13 : decode cX1_clear 13 = .ok (.aload_n 0, 1) := by decide +kernel
theorem dX1_clear_14 : decode cX1_clear 14 = .ok (.iconst 0, 1) := by decide +kernel
theorem dX1_clear_15 : decode cX1_clear 15 = .ok (.putfield 19, 3) := by decide +kernel
theorem dX1_clear_18 : decode cX1_clear 18 = .ok (.aload_n 0, 1) := by decide +kernel
theorem dX1_clear_19 : decode cX1_clear 19 = .ok (.iconst (-1), 1) := by decide +kernel
theorem dX1_clear_20 : decode cX1_clear 20 = .ok (.putfield 25, 3) := by decide +kernel
theorem dX1_clear_23 : decode cX1_clear 23 = .ok (.aload_n 0, 1) := by decide +kernel
theorem dX1_clear_24 : decode cX1_clear 24 = .ok (.iconst 0, 1) := by decide +kernel
theorem dX1_clear_25 : decode cX1_clear 25 = .ok (.putfield 28, 3) := by decide +kernel
theorem dX1_clear_28 : decode cX1_clear 28 = .ok (.return_, 1) := by decide +kernel
theorem dX1_beginRow_0 : decode cX1_beginRow 0 = .ok (.aload_n 0, 1) := by decide +kernel
theorem dX1_beginRow_1 : decode cX1_beginRow 1 = .ok (.iconst 0, 1) := by decide +kernel
theorem dX1_beginRow_2 : decode cX1_beginRow 2 = .ok (.putfield 22, 3) := by decide +kernel
theorem dX1_beginRow_5 : decode cX1_beginRow 5 = .ok (.return_, 1) := by decide +kernel
theorem dX1_lay_0 : decode cX1_lay 0 = .ok (.aload_n 0, 1) := by decide +kernel
theorem dX1_lay_1 : decode cX1_lay 1 = .ok (.getfield 22, 3) := by decide +kernel
theorem dX1_lay_4 : decode cX1_lay 4 = .ok (.sipush 480, 3) := by decide +kernel
theorem dX1_lay_7 : decode cX1_lay 7 = .ok (.if_icmp .ge 32, 3) := by decide +kernel
theorem dX1_lay_10 : decode cX1_lay 10 = .ok (.aload_n 0, 1) := by decide +kernel
theorem dX1_lay_11 : decode cX1_lay 11 = .ok (.getfield 11, 3) := by decide +kernel
theorem dX1_lay_14 : decode cX1_lay 14 = .ok (.aload_n 0, 1) := by decide +kernel
theorem dX1_lay_15 : decode cX1_lay 15 = .ok (.getfield 22, 3) := by decide +kernel
theorem dX1_lay_18 : decode cX1_lay 18 = .ok (.iaload, 1) := by decide +kernel
theorem dX1_lay_19 : decode cX1_lay 19 = .ok (.aload_n 0, 1) := by decide +kernel
theorem dX1_lay_20 : decode cX1_lay 20 = .ok (.getfield 19, 3) := by decide +kernel
theorem dX1_lay_23 : decode cX1_lay 23 = .ok (.if_icmp .le 16, 3) := by decide +kernel
theorem dX1_lay_26 : decode cX1_lay 26 = .ok (.aload_n 0, 1) := by decide +kernel
theorem dX1_lay_27 : decode cX1_lay 27 = .ok (.dup, 1) := by decide +kernel
theorem dX1_lay_28 : decode cX1_lay 28 = .ok (.getfield 22, 3) := by decide +kernel
theorem dX1_lay_31 : decode cX1_lay 31 = .ok (.iconst 1, 1) := by decide +kernel
theorem dX1_lay_32 : decode cX1_lay 32 = .ok (.iadd, 1) := by decide +kernel
theorem dX1_lay_33 : decode cX1_lay 33 = .ok (.putfield 22, 3) := by decide +kernel
theorem dX1_lay_36 : decode cX1_lay 36 = .ok (.goto (-36), 3) := by decide +kernel
theorem dX1_lay_39 : decode cX1_lay 39 = .ok (.iconst 0, 1) := by decide +kernel
theorem dX1_lay_40 : decode cX1_lay 40 = .ok (.istore_n 3, 1) := by decide +kernel
theorem dX1_lay_41 : decode cX1_lay 41 = .ok (.iload_n 3, 1) := by decide +kernel
theorem dX1_lay_42 : decode cX1_lay 42 = .ok (.iload_n 2, 1) := by decide +kernel
theorem dX1_lay_43 : decode cX1_lay 43 = .ok (.if_icmp .ge 88, 3) := by decide +kernel
theorem dX1_lay_46 : decode cX1_lay 46 = .ok (.aload_n 0, 1) := by decide +kernel
theorem dX1_lay_47 : decode cX1_lay 47 = .ok (.getfield 22, 3) := by decide +kernel
theorem dX1_lay_50 : decode cX1_lay 50 = .ok (.sipush 480, 3) := by decide +kernel
theorem dX1_lay_53 : decode cX1_lay 53 = .ok (.if_icmp .ge 78, 3) := by decide +kernel
theorem dX1_lay_56 : decode cX1_lay 56 = .ok (.aload_n 0, 1) := by decide +kernel
theorem dX1_lay_57 : decode cX1_lay 57 = .ok (.aload_n 0, 1) := by decide +kernel
theorem dX1_lay_58 : decode cX1_lay 58 = .ok (.getfield 28, 3) := by decide +kernel
theorem dX1_lay_61 : decode cX1_lay 61 = .ok (.ifCond .ne 19, 3) := by decide +kernel
theorem dX1_lay_64 : decode cX1_lay 64 = .ok (.aload_n 0, 1) := by decide +kernel
theorem dX1_lay_65 : decode cX1_lay 65 = .ok (.getfield 11, 3) := by decide +kernel
theorem dX1_lay_68 : decode cX1_lay 68 = .ok (.aload_n 0, 1) := by decide +kernel
theorem dX1_lay_69 : decode cX1_lay 69 = .ok (.getfield 22, 3) := by decide +kernel
theorem dX1_lay_72 : decode cX1_lay 72 = .ok (.iaload, 1) := by decide +kernel
theorem dX1_lay_73 : decode cX1_lay 73 = .ok (.aload_n 0, 1) := by decide +kernel
theorem dX1_lay_74 : decode cX1_lay 74 = .ok (.getfield 19, 3) := by decide +kernel
theorem dX1_lay_77 : decode cX1_lay 77 = .ok (.if_icmp .le 7, 3) := by decide +kernel
theorem dX1_lay_80 : decode cX1_lay 80 = .ok (.iconst 1, 1) := by decide +kernel
theorem dX1_lay_81 : decode cX1_lay 81 = .ok (.goto 4, 3) := by decide +kernel
theorem dX1_lay_84 : decode cX1_lay 84 = .ok (.iconst 0, 1) := by decide +kernel
theorem dX1_lay_85 : decode cX1_lay 85 = .ok (.putfield 28, 3) := by decide +kernel
theorem dX1_lay_88 : decode cX1_lay 88 = .ok (.aload_n 0, 1) := by decide +kernel
theorem dX1_lay_89 : decode cX1_lay 89 = .ok (.getfield 11, 3) := by decide +kernel
theorem dX1_lay_92 : decode cX1_lay 92 = .ok (.aload_n 0, 1) := by decide +kernel
theorem dX1_lay_93 : decode cX1_lay 93 = .ok (.getfield 22, 3) := by decide +kernel
theorem dX1_lay_96 : decode cX1_lay 96 = .ok (.aload_n 0, 1) := by decide +kernel
theorem dX1_lay_97 : decode cX1_lay 97 = .ok (.getfield 11, 3) := by decide +kernel
theorem dX1_lay_100 : decode cX1_lay 100 = .ok (.aload_n 0, 1) := by decide +kernel
theorem dX1_lay_101 : decode cX1_lay 101 = .ok (.getfield 22, 3) := by decide +kernel
theorem dX1_lay_104 : decode cX1_lay 104 = .ok (.iaload, 1) := by decide +kernel
theorem dX1_lay_105 : decode cX1_lay 105 = .ok (.aload_n 0, 1) := by decide +kernel
theorem dX1_lay_106 : decode cX1_lay 106 = .ok (.getfield 19, 3) := by decide +kernel
theorem dX1_lay_109 : decode cX1_lay 109 = .ok (.iload_n 1, 1) := by decide +kernel
theorem dX1_lay_110 : decode cX1_lay 110 = .ok (.iadd, 1) := by decide +kernel
theorem dX1_lay_111 : decode cX1_lay 111 = .ok (.invokestatic 38, 3) := by decide +kernel
theorem dX1_lay_114 : decode cX1_lay 114 = .ok (.iastore, 1) := by decide +kernel
theorem dX1_lay_115 : decode cX1_lay 115 = .ok (.aload_n 0, 1) := by decide +kernel
theorem dX1_lay_116 : decode cX1_lay 116 = .ok (.dup, 1) := by decide +kernel
theorem dX1_lay_117 : decode cX1_lay 117 = .ok (.getfield 22, 3) := by decide +kernel
theorem dX1_lay_120 : decode cX1_lay 120 = .ok (.iconst 1, 1) := by decide +kernel
theorem dX1_lay_121 : decode cX1_lay 121 = .ok (.iadd, 1) := by decide +kernel
theorem dX1_lay_122 : decode cX1_lay 122 = .ok (.putfield 22, 3) := by decide +kernel
theorem dX1_lay_125 : decode cX1_lay 125 = .ok (.iinc 3 1, 3) := by decide +kernel
theorem dX1_lay_128 : decode cX1_lay 128 = .ok (.goto (-87), 3) := by decide +kernel
theorem dX1_lay_131 : decode cX1_lay 131 = .ok (.aload_n 0, 1) := by decide +kernel
theorem dX1_lay_132 : decode cX1_lay 132 = .ok (.aload_n 0, 1) := by decide +kernel
theorem dX1_lay_133 : decode cX1_lay 133 = .ok (.getfield 15, 3) := by decide +kernel
theorem dX1_lay_136 : decode cX1_lay 136 = .ok (.aload_n 0, 1) := by decide +kernel
theorem dX1_lay_137 : decode cX1_lay 137 = .ok (.getfield 22, 3) := by decide +kernel
theorem dX1_lay_140 : decode cX1_lay 140 = .ok (.invokestatic 38, 3) := by decide +kernel
theorem dX1_lay_143 : decode cX1_lay 143 = .ok (.putfield 15, 3) := by decide +kernel
theorem dX1_lay_146 : decode cX1_lay 146 = .ok (.return_, 1) := by decide +kernel
theorem dX1_endRow_0 : decode cX1_endRow 0 = .ok (.aload_n 0, 1) := by decide +kernel
theorem dX1_endRow_1 : decode cX1_endRow 1 = .ok (.getfield 15, 3) := by decide +kernel
theorem dX1_endRow_4 : decode cX1_endRow 4 = .ok (.istore_n 1, 1) := by decide +kernel
theorem dX1_endRow_5 : decode cX1_endRow 5 = .ok (.iload_n 1, 1) := by decide +kernel
theorem dX1_endRow_6 : decode cX1_endRow 6 = .ok (.ifCond .le 24, 3) := by decide +kernel
theorem dX1_endRow_9 : decode cX1_endRow 9 = .ok (.aload_n 0, 1) := by decide +kernel
theorem dX1_endRow_10 : decode cX1_endRow 10 = .ok (.getfield 11, 3) := by decide +kernel
theorem dX1_endRow_13 : decode cX1_endRow 13 = .ok (.iload_n 1, 1) := by decide +kernel
theorem dX1_endRow_14 : decode cX1_endRow 14 = .ok (.iconst 1, 1) := by decide +kernel
theorem dX1_endRow_15 : decode cX1_endRow 15 = .ok (.isub, 1) := by decide +kernel
theorem dX1_endRow_16 : decode cX1_endRow 16 = .ok (.iaload, 1) := by decide +kernel
theorem dX1_endRow_17 : decode cX1_endRow 17 = .ok (.aload_n 0, 1) := by decide +kernel
theorem dX1_endRow_18 : decode cX1_endRow 18 = .ok (.getfield 19, 3) := by decide +kernel
theorem dX1_endRow_21 : decode cX1_endRow 21 = .ok (.if_icmp .gt 9, 3) := by decide +kernel
theorem dX1_endRow_24 : decode cX1_endRow 24 = .ok (.iinc 1 (-1), 3) := by decide +kernel
theorem dX1_endRow_27 : decode cX1_endRow 27 = .ok (.goto (-22), 3) := by decide +kernel
theorem dX1_endRow_30 : decode cX1_endRow 30 = .ok (.aload_n 0, 1) := by decide +kernel
theorem dX1_endRow_31 : decode cX1_endRow 31 = .ok (.aload_n 0, 1) := by decide +kernel
theorem dX1_endRow_32 : decode cX1_endRow 32 = .ok (.getfield 28, 3) := by decide +kernel
theorem dX1_endRow_35 : decode cX1_endRow 35 = .ok (.ifCond .ne 19, 3) := by decide +kernel
theorem dX1_endRow_38 : decode cX1_endRow 38 = .ok (.aload_n 0, 1) := by decide +kernel
theorem dX1_endRow_39 : decode cX1_endRow 39 = .ok (.getfield 25, 3) := by decide +kernel
theorem dX1_endRow_42 : decode cX1_endRow 42 = .ok (.iconst (-1), 1) := by decide +kernel
theorem dX1_endRow_43 : decode cX1_endRow 43 = .ok (.if_icmp .eq 15, 3) := by decide +kernel
theorem dX1_endRow_46 : decode cX1_endRow 46 = .ok (.aload_n 0, 1) := by decide +kernel
theorem dX1_endRow_47 : decode cX1_endRow 47 = .ok (.getfield 25, 3) := by decide +kernel
theorem dX1_endRow_50 : decode cX1_endRow 50 = .ok (.iload_n 1, 1) := by decide +kernel
theorem dX1_endRow_51 : decode cX1_endRow 51 = .ok (.if_icmp .eq 7, 3) := by decide +kernel
theorem dX1_endRow_54 : decode cX1_endRow 54 = .ok (.iconst 1, 1) := by decide +kernel
theorem dX1_endRow_55 : decode cX1_endRow 55 = .ok (.goto 4, 3) := by decide +kernel
theorem dX1_endRow_58 : decode cX1_endRow 58 = .ok (.iconst 0, 1) := by decide +kernel
theorem dX1_endRow_59 : decode cX1_endRow 59 = .ok (.putfield 28, 3) := by decide +kernel
theorem dX1_endRow_62 : decode cX1_endRow 62 = .ok (.aload_n 0, 1) := by decide +kernel
theorem dX1_endRow_63 : decode cX1_endRow 63 = .ok (.iload_n 1, 1) := by decide +kernel
theorem dX1_endRow_64 : decode cX1_endRow 64 = .ok (.putfield 25, 3) := by decide +kernel
theorem dX1_endRow_67 : decode cX1_endRow 67 = .ok (.aload_n 0, 1) := by decide +kernel
theorem dX1_endRow_68 : decode cX1_endRow 68 = .ok (.dup, 1) := by decide +kernel
theorem dX1_endRow_69 : decode cX1_endRow 69 = .ok (.getfield 19, 3) := by decide +kernel
theorem dX1_endRow_72 : decode cX1_endRow 72 = .ok (.iconst 1, 1) := by decide +kernel
theorem dX1_endRow_73 : decode cX1_endRow 73 = .ok (.iadd, 1) := by decide +kernel
theorem dX1_endRow_74 : decode cX1_endRow 74 = .ok (.putfield 19, 3) := by decide +kernel
theorem dX1_endRow_77 : decode cX1_endRow 77 = .ok (.return_, 1) := by decide +kernel
theorem dX2_init_0 : decode cX2_init 0 = .ok (.aload_n 0, 1) := by decide +kernel
theorem dX2_init_1 : decode cX2_init 1 = .ok (.invokespecial 3, 3) := by decide +kernel
theorem dX2_init_4 : decode cX2_init 4 = .ok (.aload_n 0, 1) := by decide +kernel
theorem dX2_init_5 : decode cX2_init 5 = .ok (.bipush 60, 2) := by decide +kernel
theorem dX2_init_7 : decode cX2_init 7 = .ok (.newarray .int, 2) := by decide +kernel
theorem dX2_init_9 : decode cX2_init 9 = .ok (.putfield 9, 3) := by decide +kernel
theorem dX2_init_12 : decode cX2_init 12 = .ok (.aload_n 0, 1) := by decide +kernel
theorem dX2_init_13 : decode cX2_init 13 = .ok (.bipush 60, 2) := by decide +kernel
theorem dX2_init_15 : decode cX2_init 15 = .ok (.newarray .int, 2) := by decide +kernel
theorem dX2_init_17 : decode cX2_init 17 = .ok (.putfield 15, 3) := by decide +kernel
theorem dX2_init_20 : decode cX2_init 20 = .ok (.aload_n 0, 1) := by decide +kernel
theorem dX2_init_21 : decode cX2_init 21 = .ok (.bipush 60, 2) := by decide +kernel
theorem dX2_init_23 : decode cX2_init 23 = .ok (.newarray .int, 2) := by decide +kernel
theorem dX2_init_25 : decode cX2_init 25 = .ok (.putfield 18, 3) := by decide +kernel
theorem dX2_init_28 : decode cX2_init 28 = .ok (.aload_n 0, 1) := by decide +kernel
theorem dX2_init_29 : decode cX2_init 29 = .ok (.iconst 0, 1) := by decide +kernel
theorem dX2_init_30 : decode cX2_init 30 = .ok (.putfield 21, 3) := by decide +kernel
theorem dX2_init_33 : decode cX2_init 33 = .ok (.return_, 1) := by decide +kernel
theorem dX2_append_0 : decode cX2_append 0 = .ok (.aload_n 0, 1) := by decide +kernel
theorem dX2_append_1 : decode cX2_append 1 = .ok (.getfield 21, 3) := by decide +kernel
theorem dX2_append_4 : decode cX2_append 4 = .ok (.bipush 60, 2) := by decide +kernel
theorem dX2_append_6 : decode cX2_append 6 = .ok (.if_icmp .ge 47, 3) := by decide +kernel
theorem dX2_append_9 : decode cX2_append 9 = .ok (.aload_n 0, 1) := by decide +kernel
theorem dX2_append_10 : decode cX2_append 10 = .ok (.getfield 9, 3) := by decide +kernel
theorem dX2_append_13 : decode cX2_append 13 = .ok (.aload_n 0, 1) := by decide +kernel
theorem dX2_append_14 : decode cX2_append 14 = .ok (.getfield 21, 3) := by decide +kernel
theorem dX2_append_17 : decode cX2_append 17 = .ok (.iload_n 1, 1) := by decide +kernel
theorem dX2_append_18 : decode cX2_append 18 = .ok (.iastore, 1) := by decide +kernel
theorem dX2_append_19 : decode cX2_append 19 = .ok (.aload_n 0, 1) := by decide +kernel
theorem dX2_append_20 : decode cX2_append 20 = .ok (.getfield 15, 3) := by decide +kernel
theorem dX2_append_23 : decode cX2_append 23 = .ok (.aload_n 0, 1) := by decide +kernel
theorem dX2_append_24 : decode cX2_append 24 = .ok (.getfield 21, 3) := by decide +kernel
theorem dX2_append_27 : decode cX2_append 27 = .ok (.iload_n 2, 1) := by decide +kernel
theorem dX2_append_28 : decode cX2_append 28 = .ok (.iastore, 1) := by decide +kernel
theorem dX2_append_29 : decode cX2_append 29 = .ok (.aload_n 0, 1) := by decide +kernel
theorem dX2_append_30 : decode cX2_append 30 = .ok (.getfield 18, 3) := by decide +kernel
theorem dX2_append_33 : decode cX2_append 33 = .ok (.aload_n 0, 1) := by decide +kernel
theorem dX2_append_34 : decode cX2_append 34 = .ok (.getfield 21, 3) := by decide +kernel
theorem dX2_append_37 : decode cX2_append 37 = .ok (.aload_n 0, 1) := by decide +kernel
theorem dX2_append_38 : decode cX2_append 38 = .ok (.iload_n 2, 1) := by decide +kernel
theorem dX2_append_39 : decode cX2_append 39 = .ok (.invokevirtual 25, 3) := by decide +kernel
theorem dX2_append_42 : decode cX2_append 42 = .ok (.iastore, 1) := by decide +kernel
theorem dX2_append_43 : decode cX2_append 43 = .ok (.aload_n 0, 1) := by decide +kernel
theorem dX2_append_44 : decode cX2_append 44 = .ok (.dup, 1) := by decide +kernel
theorem dX2_append_45 : decode cX2_append 45 = .ok (.getfield 21, 3) := by decide +kernel
theorem dX2_append_48 : decode cX2_append 48 = .ok (.iconst 1, 1) := by decide +kernel
theorem dX2_append_49 : decode cX2_append 49 = .ok (.iadd, 1) := by decide +kernel
theorem dX2_append_50 : decode cX2_append 50 = .ok (.putfield 21, 3) := by decide +kernel
theorem dX2_append_53 : decode cX2_append 53 = .ok (.return_, 1) := by decide +kernel
theorem dX2_depthBehind_0 : decode cX2_depthBehind 0 = .ok (.aload_n 0, 1) := by decide +kernel
theorem dX2_depthBehind_1 : decode cX2_depthBehind 1 = .ok (.getfield 21, 3) := by decide +kernel
theorem dX2_depthBehind_4 : decode cX2_depthBehind 4 = .ok (.iconst 1, 1) := by decide +kernel
theorem dX2_depthBehind_5 : decode cX2_depthBehind 5 = .ok (.isub, 1) := by decide +kernel
theorem dX2_depthBehind_6 : decode cX2_depthBehind 6 = .ok (.istore_n 2, 1) := by decide +kernel
theorem dX2_depthBehind_7 : decode cX2_depthBehind 7 = .ok (.iload_n 2, 1) := by decide +kernel
theorem dX2_depthBehind_8 : decode cX2_depthBehind 8 = .ok (.ifCond .lt 28, 3) := by decide +kernel
theorem dX2_depthBehind_11 : decode cX2_depthBehind 11 = .ok (.aload_n 0, 1) := by decide +kernel
theorem dX2_depthBehind_12 : decode cX2_depthBehind 12 = .ok (.getfield 15, 3) := by decide +kernel
theorem dX2_depthBehind_15 : decode cX2_depthBehind 15 = .ok (.iload_n 2, 1) := by decide +kernel
theorem dX2_depthBehind_16 : decode cX2_depthBehind 16 = .ok (.iaload, 1) := by decide +kernel
theorem dX2_depthBehind_17 : decode cX2_depthBehind 17 = .ok (.iload_n 1, 1) := by decide +kernel
theorem dX2_depthBehind_18 : decode cX2_depthBehind 18 = .ok (.if_icmp .ge 12, 3) := by decide +kernel
theorem dX2_depthBehind_21 : decode cX2_depthBehind 21 = .ok (.aload_n 0, 1) := by decide +kernel
theorem dX2_depthBehind_22 : decode cX2_depthBehind 22 = .ok (.getfield 18, 3) := by decide +kernel
theorem dX2_depthBehind_25 : decode cX2_depthBehind 25 = .ok (.iload_n 2, 1) := by decide +kernel
theorem dX2_depthBehind_26 : decode cX2_depthBehind 26 = .ok (.iaload, 1) := by decide +kernel
theorem dX2_depthBehind_27 : decode cX2_depthBehind 27 = .ok (.iconst 1, 1) := by decide +kernel
theorem dX2_depthBehind_28 : decode cX2_depthBehind 28 = .ok (.iadd, 1) := by decide +kernel
theorem dX2_depthBehind_29 : decode cX2_depthBehind 29 = .ok (.ireturn, 1) := by decide +kernel
theorem dX2_depthBehind_30 : decode cX2_depthBehind 30 = .ok (.iinc 2 (-1), 3) := by decide +kernel
theorem dX2_depthBehind_33 : decode cX2_depthBehind 33 = .ok (.goto (-26), 3) := by decide +kernel
theorem dX2_depthBehind_36 : decode cX2_depthBehind 36 = .ok (.iconst 0, 1) := by decide +kernel
theorem dX2_depthBehind_37 : decode cX2_depthBehind 37 = .ok (.ireturn, 1) := by decide +kernel
theorem dX3_init_0 : decode cX3_init 0 = .ok (.aload_n 0, 1) := by decide +kernel
theorem dX3_init_1 : decode cX3_init 1 = .ok (.invokespecial 3, 3) := by decide +kernel
theorem dX3_init_4 : decode cX3_init 4 = .ok (.aload_n 0, 1) := by decide +kernel
theorem dX3_init_5 : decode cX3_init 5 = .ok (.sipush 200, 3) := by decide +kernel
theorem dX3_init_8 : decode cX3_init 8 = .ok (.newarray .int, 2) := by decide +kernel
theorem dX3_init_10 : decode cX3_init 10 = .ok (.putfield 9, 3) := by decide +kernel
theorem dX3_init_13 : decode cX3_init 13 = .ok (.aload_n 0, 1) := by decide +kernel
theorem dX3_init_14 : decode cX3_init 14 = .ok (.sipush 200, 3) := by decide +kernel
theorem dX3_init_17 : decode cX3_init 17 = .ok (.newarray .int, 2) := by decide +kernel
theorem dX3_init_19 : decode cX3_init 19 = .ok (.putfield 15, 3) := by decide +kernel
theorem dX3_init_22 : decode cX3_init 22 = .ok (.aload_n 0, 1) := by decide +kernel
theorem dX3_init_23 : decode cX3_init 23 = .ok (.bipush 10, 2) := by decide +kernel
theorem dX3_init_25 : decode cX3_init 25 = .ok (.newarray .int, 2) := by decide +kernel
theorem dX3_init_27 : decode cX3_init 27 = .ok (.putfield 18, 3) := by decide +kernel
theorem dX3_init_30 : decode cX3_init 30 = .ok (.aload_n 0, 1) := by decide +kernel
theorem dX3_init_31 : decode cX3_init 31 = .ok (.getfield 15, 3) := by decide +kernel
theorem dX3_init_34 : decode cX3_init 34 = .ok (.iconst (-1), 1) := by decide +kernel
theorem dX3_init_35 : decode cX3_init 35 = .ok (.invokestatic 21, 3) := by decide +kernel
theorem dX3_init_38 : decode cX3_init 38 = .ok (.return_, 1) := by decide +kernel
theorem dX3_show_0 : decode cX3_show 0 = .ok (.iload_n 1, 1) := by decide +kernel
theorem dX3_show_1 : decode cX3_show 1 = .ok (.bipush 20, 2) := by decide +kernel
theorem dX3_show_3 : decode cX3_show 3 = .ok (.imul, 1) := by decide +kernel
theorem dX3_show_4 : decode cX3_show 4 = .ok (.istore_n 3, 1) := by decide +kernel
theorem dX3_show_5 : decode cX3_show 5 = .ok (.aload_n 0, 1) := by decide +kernel
theorem dX3_show_6 : decode cX3_show 6 = .ok (.getfield 18, 3) := by decide +kernel
theorem dX3_show_9 : decode cX3_show 9 = .ok (.iload_n 1, 1) := by decide +kernel
theorem dX3_show_10 : decode cX3_show 10 = .ok (.iaload, 1) := by decide +kernel
theorem dX3_show_11 : decode cX3_show 11 = .ok (.istore 4, 2) := by decide +kernel
theorem dX3_show_13 : decode cX3_show 13 = .ok (.aload_n 0, 1) := by decide +kernel
theorem dX3_show_14 : decode cX3_show 14 = .ok (.getfield 15, 3) := by decide +kernel
theorem dX3_show_17 : decode cX3_show 17 = .ok (.iload_n 3, 1) := by decide +kernel
theorem dX3_show_18 : decode cX3_show 18 = .ok (.iload_n 2, 1) := by decide +kernel
theorem dX3_show_19 : decode cX3_show 19 = .ok (.iadd, 1) := by decide +kernel
theorem dX3_show_20 : decode cX3_show 20 = .ok (.iaload, 1) := by decide +kernel
theorem dX3_show_21 : decode cX3_show 21 = .ok (.iconst (-1), 1) := by decide +kernel
theorem dX3_show_22 : decode cX3_show 22 = .ok (.if_icmp .ne 10, 3) := by decide +kernel
theorem dX3_show_25 : decode cX3_show 25 = .ok (.iload 4, 2) := by decide +kernel
theorem dX3_show_27 : decode cX3_show 27 = .ok (.bipush 20, 2) := by decide +kernel
theorem dX3_show_29 : decode cX3_show 29 = .ok (.if_icmp .lt 5, 3) := by decide +kernel
theorem dX3_show_32 : decode cX3_show 32 = .ok (.iconst 0, 1) := by decide +kernel
theorem dX3_show_33 : decode cX3_show 33 = .ok (.ireturn, 1) := by decide +kernel
theorem dX3_show_34 : decode cX3_show 34 = .ok (.aload_n 0, 1) := by decide +kernel
theorem dX3_show_35 : decode cX3_show 35 = .ok (.getfield 9, 3) := by decide +kernel
theorem dX3_show_38 : decode cX3_show 38 = .ok (.iload_n 3, 1) := by decide +kernel
theorem dX3_show_39 : decode cX3_show 39 = .ok (.iload 4, 2) := by decide +kernel
theorem dX3_show_41 : decode cX3_show 41 = .ok (.iadd, 1) := by decide +kernel
theorem dX3_show_42 : decode cX3_show 42 = .ok (.iload_n 3, 1) := by decide +kernel
theorem dX3_show_43 : decode cX3_show 43 = .ok (.iload_n 2, 1) := by decide +kernel
theorem dX3_show_44 : decode cX3_show 44 = .ok (.iadd, 1) := by decide +kernel
theorem dX3_show_45 : decode cX3_show 45 = .ok (.iastore, 1) := by decide +kernel
theorem dX3_show_46 : decode cX3_show 46 = .ok (.aload_n 0, 1) := by decide +kernel
theorem dX3_show_47 : decode cX3_show 47 = .ok (.getfield 15, 3) := by decide +kernel
theorem dX3_show_50 : decode cX3_show 50 = .ok (.iload_n 3, 1) := by decide +kernel
theorem dX3_show_51 : decode cX3_show 51 = .ok (.iload_n 2, 1) := by decide +kernel
theorem dX3_show_52 : decode cX3_show 52 = .ok (.iadd, 1) := by decide +kernel
theorem dX3_show_53 : decode cX3_show 53 = .ok (.iload 4, 2) := by decide +kernel
theorem dX3_show_55 : decode cX3_show 55 = .ok (.iastore, 1) := by decide +kernel
theorem dX3_show_56 : decode cX3_show 56 = .ok (.aload_n 0, 1) := by decide +kernel
theorem dX3_show_57 : decode cX3_show 57 = .ok (.getfield 18, 3) := by decide +kernel
theorem dX3_show_60 : decode cX3_show 60 = .ok (.iload_n 1, 1) := by decide +kernel
theorem dX3_show_61 : decode cX3_show 61 = .ok (.dup2, 1) := by decide +kernel
theorem dX3_show_62 : decode cX3_show 62 = .ok (.iaload, 1) := by decide +kernel
theorem dX3_show_63 : decode cX3_show 63 = .ok (.iconst 1, 1) := by decide +kernel
theorem dX3_show_64 : decode cX3_show 64 = .ok (.iadd, 1) := by decide +kernel
theorem dX3_show_65 : decode cX3_show 65 = .ok (.iastore, 1) := by decide +kernel
theorem dX3_show_66 : decode cX3_show 66 = .ok (.aload_n 0, 1) := by decide +kernel
theorem dX3_show_67 : decode cX3_show 67 = .ok (.getfield 18, 3) := by decide +kernel
theorem dX3_show_70 : decode cX3_show 70 = .ok (.iload_n 1, 1) := by decide +kernel
theorem dX3_show_71 : decode cX3_show 71 = .ok (.iaload, 1) := by decide +kernel
theorem dX3_show_72 : decode cX3_show 72 = .ok (.ireturn, 1) := by decide +kernel
theorem dX3_shownBy_0 : decode cX3_shownBy 0 = .ok (.aload_n 0, 1) := by decide +kernel
theorem dX3_shownBy_1 : decode cX3_shownBy 1 = .ok (.getfield 18, 3) := by decide +kernel
theorem dX3_shownBy_4 : decode cX3_shownBy 4 = .ok (.iload_n 1, 1) := by decide +kernel
theorem dX3_shownBy_5 : decode cX3_shownBy 5 = .ok (.iaload, 1) := by decide +kernel
theorem dX3_shownBy_6 : decode cX3_shownBy 6 = .ok (.ireturn, 1) := by decide +kernel
theorem dX3_codeAt_0 : decode cX3_codeAt 0 = .ok (.aload_n 0, 1) := by decide +kernel
theorem dX3_codeAt_1 : decode cX3_codeAt 1 = .ok (.getfield 9, 3) := by decide +kernel
theorem dX3_codeAt_4 : decode cX3_codeAt 4 = .ok (.iload_n 1, 1) := by decide +kernel
theorem dX3_codeAt_5 : decode cX3_codeAt 5 = .ok (.bipush 20, 2) := by decide +kernel
theorem dX3_codeAt_7 : decode cX3_codeAt 7 = .ok (.imul, 1) := by decide +kernel
theorem dX3_codeAt_8 : decode cX3_codeAt 8 = .ok (.iload_n 2, 1) := by decide +kernel
theorem dX3_codeAt_9 : decode cX3_codeAt 9 = .ok (.iadd, 1) := by decide +kernel
theorem dX3_codeAt_10 : decode cX3_codeAt 10 = .ok (.iaload, 1) := by decide +kernel
theorem dX3_codeAt_11 : decode cX3_codeAt 11 = .ok (.ireturn, 1) := by decide +kernel
theorem dX3_placeOf_0 : decode cX3_placeOf 0 = .ok (.aload_n 0, 1) := by decide +kernel
theorem dX3_placeOf_1 : decode cX3_placeOf 1 = .ok (.getfield 15, 3) := by decide +kernel
theorem dX3_placeOf_4 : decode cX3_placeOf 4 = .ok (.iload_n 1, 1) := by decide +kernel
theorem dX3_placeOf_5 : decode cX3_placeOf 5 = .ok (.iaload, 1) := by decide +kernel
theorem dX3_placeOf_6 : decode cX3_placeOf 6 = .ok (.ireturn, 1) := by decide +kernel
theorem dX4_init_0 : decode cX4_init 0 = .ok (.aload_n 0, 1) := by decide +kernel
theorem dX4_init_1 : decode cX4_init 1 = .ok (.invokespecial 3, 3) := by decide +kernel
theorem dX4_init_4 : decode cX4_init 4 = .ok (.aload_n 0, 1) := by decide +kernel
theorem dX4_init_5 : decode cX4_init 5 = .ok (.bipush 20, 2) := by decide +kernel
theorem dX4_init_7 : decode cX4_init 7 = .ok (.newarray .int, 2) := by decide +kernel
theorem dX4_init_9 : decode cX4_init 9 = .ok (.putfield 9, 3) := by decide +kernel
theorem dX4_init_12 : decode cX4_init 12 = .ok (.aload_n 0, 1) := by decide +kernel
theorem dX4_init_13 : decode cX4_init 13 = .ok (.getfield 9, 3) := by decide +kernel
theorem dX4_init_16 : decode cX4_init 16 = .ok (.iconst (-1), 1) := by decide +kernel
theorem dX4_init_17 : decode cX4_init 17 = .ok (.invokestatic 15, 3) := by decide +kernel
theorem dX4_init_20 : decode cX4_init 20 = .ok (.return_, 1) := by decide +kernel
theorem dX4_isOwn_0 : decode cX4_isOwn 0 = .ok (.iload_n 0, 1) := by decide +kernel
theorem dX4_isOwn_1 : decode cX4_isOwn 1 = .ok (.bipush 100, 2) := by decide +kernel
theorem dX4_isOwn_3 : decode cX4_isOwn 3 = .ok (.if_icmp .lt 13, 3) := by decide +kernel
theorem dX4_isOwn_6 : decode cX4_isOwn 6 = .ok (.iload_n 0, 1) := by decide +kernel
theorem dX4_isOwn_7 : decode cX4_isOwn 7 = .ok (.bipush 120, 2) := by decide +kernel
theorem dX4_isOwn_9 : decode cX4_isOwn 9 = .ok (.if_icmp .ge 7, 3) := by decide +kernel
theorem dX4_isOwn_12 : decode cX4_isOwn 12 = .ok (.iconst 1, 1) := by decide +kernel
theorem dX4_isOwn_13 : decode cX4_isOwn 13 = .ok (.goto 4, 3) := by decide +kernel
theorem dX4_isOwn_16 : decode cX4_isOwn 16 = .ok (.iconst 0, 1) := by decide +kernel
theorem dX4_isOwn_17 : decode cX4_isOwn 17 = .ok (.ireturn, 1) := by decide +kernel
theorem dX4_isRole_0 : decode cX4_isRole 0 = .ok (.iload_n 0, 1) := by decide +kernel
theorem dX4_isRole_1 : decode cX4_isRole 1 = .ok (.invokestatic 21, 3) := by decide +kernel
theorem dX4_isRole_4 : decode cX4_isRole 4 = .ok (.ifCond .ne 13, 3) := by decide +kernel
theorem dX4_isRole_7 : decode cX4_isRole 7 = .ok (.iload_n 0, 1) := by decide +kernel
theorem dX4_isRole_8 : decode cX4_isRole 8 = .ok (.ifCond .lt 13, 3) := by decide +kernel
theorem dX4_isRole_11 : decode cX4_isRole 11 = .ok (.iload_n 0, 1) := by decide +kernel
theorem dX4_isRole_12 : decode cX4_isRole 12 = .ok (.bipush 12, 2) := by decide +kernel
theorem dX4_isRole_14 : decode cX4_isRole 14 = .ok (.if_icmp .gt 7, 3) := by decide +kernel
theorem dX4_isRole_17 : decode cX4_isRole 17 = .ok (.iconst 1, 1) := by decide +kernel
theorem dX4_isRole_18 : decode cX4_isRole 18 = .ok (.goto 4, 3) := by decide +kernel
theorem dX4_isRole_21 : decode cX4_isRole 21 = .ok (.iconst 0, 1) := by decide +kernel
theorem dX4_isRole_22 : decode cX4_isRole 22 = .ok (.ireturn, 1) := by decide +kernel
theorem dX4_lead_0 : decode cX4_lead 0 = .ok (.iload_n 1, 1) := by decide +kernel
theorem dX4_lead_1 : decode cX4_lead 1 = .ok (.invokestatic 21, 3) := by decide +kernel
theorem dX4_lead_4 : decode cX4_lead 4 = .ok (.ifCond .eq 13, 3) := by decide +kernel
theorem dX4_lead_7 : decode cX4_lead 7 = .ok (.aload_n 0, 1) := by decide +kernel
theorem dX4_lead_8 : decode cX4_lead 8 = .ok (.getfield 9, 3) := by decide +kernel
theorem dX4_lead_11 : decode cX4_lead 11 = .ok (.iload_n 1, 1) := by decide +kernel
theorem dX4_lead_12 : decode cX4_lead 12 = .ok (.bipush 100, 2) := by decide +kernel
theorem dX4_lead_14 : decode cX4_lead 14 = .ok (.isub, 1) := by decide +kernel
theorem dX4_lead_15 : decode cX4_lead 15 = .ok (.iload_n 2, 1) := by decide +kernel
theorem dX4_lead_16 : decode cX4_lead 16 = .ok (.iastore, 1) := by decide +kernel
theorem dX4_lead_17 : decode cX4_lead 17 = .ok (.return_, 1) := by decide +kernel
theorem dX4_leads_0 : decode cX4_leads 0 = .ok (.iload_n 1, 1) := by decide +kernel
theorem dX4_leads_1 : decode cX4_leads 1 = .ok (.istore_n 3, 1) := by decide +kernel
theorem dX4_leads_2 : decode cX4_leads 2 = .ok (.iconst 0, 1) := by decide +kernel
theorem dX4_leads_3 : decode cX4_leads 3 = .ok (.istore 4, 2) := by decide +kernel
theorem dX4_leads_5 : decode cX4_leads 5 = .ok (.iload 4, 2) := by decide +kernel
theorem dX4_leads_7 : decode cX4_leads 7 = .ok (.bipush 20, 2) := by decide +kernel
theorem dX4_leads_9 : decode cX4_leads 9 = .ok (.if_icmp .ge 31, 3) := by decide +kernel
theorem dX4_leads_12 : decode cX4_leads 12 = .ok (.iload_n 3, 1) := by decide +kernel
theorem dX4_leads_13 : decode cX4_leads 13 = .ok (.iload_n 2, 1) := by decide +kernel
theorem dX4_leads_14 : decode cX4_leads 14 = .ok (.if_icmp .eq 26, 3) := by decide +kernel
theorem dX4_leads_17 : decode cX4_leads 17 = .ok (.iload_n 3, 1) := by decide +kernel
theorem dX4_leads_18 : decode cX4_leads 18 = .ok (.invokestatic 21, 3) := by decide +kernel
theorem dX4_leads_21 : decode cX4_leads 21 = .ok (.ifCond .eq 19, 3) := by decide +kernel
theorem dX4_leads_24 : decode cX4_leads 24 = .ok (.aload_n 0, 1) := by decide +kernel
theorem dX4_leads_25 : decode cX4_leads 25 = .ok (.getfield 9, 3) := by decide +kernel
theorem dX4_leads_28 : decode cX4_leads 28 = .ok (.iload_n 3, 1) := by decide +kernel
theorem dX4_leads_29 : decode cX4_leads 29 = .ok (.bipush 100, 2) := by decide +kernel
theorem dX4_leads_31 : decode cX4_leads 31 = .ok (.isub, 1) := by decide +kernel
theorem dX4_leads_32 : decode cX4_leads 32 = .ok (.iaload, 1) := by decide +kernel
theorem dX4_leads_33 : decode cX4_leads 33 = .ok (.istore_n 3, 1) := by decide +kernel
theorem dX4_leads_34 : decode cX4_leads 34 = .ok (.iinc 4 1, 3) := by decide +kernel
theorem dX4_leads_37 : decode cX4_leads 37 = .ok (.goto (-32), 3) := by decide +kernel
theorem dX4_leads_40 : decode cX4_leads 40 = .ok (.iload_n 3, 1) := by decide +kernel
theorem dX4_leads_41 : decode cX4_leads 41 = .ok (.iload_n 2, 1) := by decide +kernel
theorem dX4_leads_42 : decode cX4_leads 42 = .ok (.if_icmp .ne 7, 3) := by decide +kernel
theorem dX4_leads_45 : decode cX4_leads 45 = .ok (.iconst 1, 1) := by decide +kernel
theorem dX4_leads_46 : decode cX4_leads 46 = .ok (.goto 4, 3) := by decide +kernel
theorem dX4_leads_49 : decode cX4_leads 49 = .ok (.iconst 0, 1) := by decide +kernel
theorem dX4_leads_50 : decode cX4_leads 50 = .ok (.ireturn, 1) := by decide +kernel
theorem dX4_standardOf_0 : decode cX4_standardOf 0 = .ok (.iload_n 1, 1) := by decide +kernel
theorem dX4_standardOf_1 : decode cX4_standardOf 1 = .ok (.istore_n 2, 1) := by decide +kernel
theorem dX4_standardOf_2 : decode cX4_standardOf 2 = .ok (.iconst 0, 1) := by decide +kernel
theorem dX4_standardOf_3 : decode cX4_standardOf 3 = .ok (.istore_n 3, 1) := by decide +kernel
theorem dX4_standardOf_4 : decode cX4_standardOf 4 = .ok (.iload_n 3, 1) := by decide +kernel
theorem dX4_standardOf_5 : decode cX4_standardOf 5 = .ok (.bipush 20, 2) := by decide +kernel
theorem dX4_standardOf_7 : decode cX4_standardOf 7 = .ok (.if_icmp .ge 26, 3) := by decide +kernel
theorem dX4_standardOf_10 : decode cX4_standardOf 10 = .ok (.iload_n 2, 1) := by decide +kernel
theorem dX4_standardOf_11 : decode cX4_standardOf 11 = .ok (.invokestatic 21, 3) := by decide +kernel
theorem dX4_standardOf_14 : decode cX4_standardOf 14 = .ok (.ifCond .eq 19, 3) := by decide +kernel
theorem dX4_standardOf_17 : decode cX4_standardOf 17 = .ok (.aload_n 0, 1) := by decide +kernel
theorem dX4_standardOf_18 : decode cX4_standardOf 18 = .ok (.getfield 9, 3) := by decide +kernel
theorem dX4_standardOf_21 : decode cX4_standardOf 21 = .ok (.iload_n 2, 1) := by decide +kernel
theorem dX4_standardOf_22 : decode cX4_standardOf 22 = .ok (.bipush 100, 2) := by decide +kernel
theorem dX4_standardOf_24 : decode cX4_standardOf 24 = .ok (.isub, 1) := by decide +kernel
theorem dX4_standardOf_25 : decode cX4_standardOf 25 = .ok (.iaload, 1) := by decide +kernel
theorem dX4_standardOf_26 : decode cX4_standardOf 26 = .ok (.istore_n 2, 1) := by decide +kernel
theorem dX4_standardOf_27 : decode cX4_standardOf 27 = .ok (.iinc 3 1, 3) := by decide +kernel
theorem dX4_standardOf_30 : decode cX4_standardOf 30 = .ok (.goto (-26), 3) := by decide +kernel
theorem dX4_standardOf_33 : decode cX4_standardOf 33 = .ok (.iload_n 2, 1) := by decide +kernel
theorem dX4_standardOf_34 : decode cX4_standardOf 34 = .ok (.invokestatic 21, 3) := by decide +kernel
theorem dX4_standardOf_37 : decode cX4_standardOf 37 = .ok (.ifCond .eq 7, 3) := by decide +kernel
theorem dX4_standardOf_40 : decode cX4_standardOf 40 = .ok (.iconst (-1), 1) := by decide +kernel
theorem dX4_standardOf_41 : decode cX4_standardOf 41 = .ok (.goto 4, 3) := by decide +kernel
theorem dX4_standardOf_44 : decode cX4_standardOf 44 = .ok (.iload_n 2, 1) := by decide +kernel
theorem dX4_standardOf_45 : decode cX4_standardOf 45 = .ok (.ireturn, 1) := by decide +kernel
theorem dX5_init_0 : decode cX5_init 0 = .ok (.aload_n 0, 1) := by decide +kernel
theorem dX5_init_1 : decode cX5_init 1 = .ok (.invokespecial 3, 3) := by decide +kernel
theorem dX5_init_4 : decode cX5_init 4 = .ok (.aload_n 0, 1) := by decide +kernel
theorem dX5_init_5 : decode cX5_init 5 = .ok (.bipush 60, 2) := by decide +kernel
theorem dX5_init_7 : decode cX5_init 7 = .ok (.newarray .int, 2) := by decide +kernel
theorem dX5_init_9 : decode cX5_init 9 = .ok (.putfield 9, 3) := by decide +kernel
theorem dX5_init_12 : decode cX5_init 12 = .ok (.aload_n 0, 1) := by decide +kernel
theorem dX5_init_13 : decode cX5_init 13 = .ok (.bipush 100, 2) := by decide +kernel
theorem dX5_init_15 : decode cX5_init 15 = .ok (.newarray .int, 2) := by decide +kernel
theorem dX5_init_17 : decode cX5_init 17 = .ok (.putfield 15, 3) := by decide +kernel
theorem dX5_init_20 : decode cX5_init 20 = .ok (.aload_n 0, 1) := by decide +kernel
theorem dX5_init_21 : decode cX5_init 21 = .ok (.iconst 0, 1) := by decide +kernel
theorem dX5_init_22 : decode cX5_init 22 = .ok (.putfield 18, 3) := by decide +kernel
theorem dX5_init_25 : decode cX5_init 25 = .ok (.aload_n 0, 1) := by decide +kernel
theorem dX5_init_26 : decode cX5_init 26 = .ok (.iconst 0, 1) := by decide +kernel
theorem dX5_init_27 : decode cX5_init 27 = .ok (.putfield 22, 3) := by decide +kernel
theorem dX5_init_30 : decode cX5_init 30 = .ok (.aload_n 0, 1) := by decide +kernel
theorem dX5_init_31 : decode cX5_init 31 = .ok (.aload_n 1, 1) := by decide +kernel
theorem dX5_init_32 : decode cX5_init 32 = .ok (.putfield 25, 3) := by decide +kernel
theorem dX5_init_35 : decode cX5_init 35 = .ok (.return_, 1) := by decide +kernel
theorem dX5_follow_0 : decode cX5_follow 0 = .ok (.aload_n 0, 1) := by decide +kernel
theorem dX5_follow_1 : decode cX5_follow 1 = .ok (.iconst 0, 1) := by decide +kernel
theorem dX5_follow_2 : decode cX5_follow 2 = .ok (.putfield 18, 3) := by decide +kernel
theorem dX5_follow_5 : decode cX5_follow 5 = .ok (.aload_n 0, 1) := by decide +kernel
theorem dX5_follow_6 : decode cX5_follow 6 = .ok (.iconst 0, 1) := by decide +kernel
theorem dX5_follow_7 : decode cX5_follow 7 = .ok (.putfield 22, 3) := by decide +kernel
theorem dX5_follow_10 : decode cX5_follow 10 = .ok (.iconst 0, 1) := by decide +kernel
theorem dX5_follow_11 : decode cX5_follow 11 = .ok (.istore_n 1, 1) := by decide +kernel
theorem dX5_follow_12 : decode cX5_follow 12 = .ok (.iconst 0, 1) := by decide +kernel
theorem dX5_follow_13 : decode cX5_follow 13 = .ok (.istore_n 2, 1) := by decide +kernel
theorem dX5_follow_14 : decode cX5_follow 14 = .ok (.iload_n 2, 1) := by decide +kernel
theorem dX5_follow_15 : decode cX5_follow 15 = .ok (.sipush 160, 3) := by decide +kernel
theorem dX5_follow_18 : decode cX5_follow 18 = .ok (.if_icmp .ge 35, 3) := by decide +kernel
theorem dX5_follow_21 : decode cX5_follow 21 = .ok (.iload_n 1, 1) := by decide +kernel
theorem dX5_follow_22 : decode cX5_follow 22 = .ok (.iconst (-1), 1) := by decide +kernel
theorem dX5_follow_23 : decode cX5_follow 23 = .ok (.if_icmp .eq 30, 3) := by decide +kernel
theorem dX5_follow_26 : decode cX5_follow 26 = .ok (.iload_n 1, 1) := by decide +kernel
theorem dX5_follow_27 : decode cX5_follow 27 = .ok (.invokestatic 29, 3) := by decide +kernel
theorem dX5_follow_30 : decode cX5_follow 30 = .ok (.ifCond .eq 11, 3) := by decide +kernel
theorem dX5_follow_33 : decode cX5_follow 33 = .ok (.aload_n 0, 1) := by decide +kernel
theorem dX5_follow_34 : decode cX5_follow 34 = .ok (.iload_n 1, 1) := by decide +kernel
theorem dX5_follow_35 : decode cX5_follow 35 = .ok (.invokevirtual 35, 3) := by decide +kernel
theorem dX5_follow_38 : decode cX5_follow 38 = .ok (.goto 8, 3) := by decide +kernel
theorem dX5_follow_41 : decode cX5_follow 41 = .ok (.aload_n 0, 1) := by decide +kernel
theorem dX5_follow_42 : decode cX5_follow 42 = .ok (.iload_n 1, 1) := by decide +kernel
theorem dX5_follow_43 : decode cX5_follow 43 = .ok (.invokevirtual 39, 3) := by decide +kernel
theorem dX5_follow_46 : decode cX5_follow 46 = .ok (.istore_n 1, 1) := by decide +kernel
theorem dX5_follow_47 : decode cX5_follow 47 = .ok (.iinc 2 1, 3) := by decide +kernel
theorem dX5_follow_50 : decode cX5_follow 50 = .ok (.goto (-36), 3) := by decide +kernel
theorem dX5_follow_53 : decode cX5_follow 53 = .ok (.return_, 1) := by decide +kernel
theorem dX5_passElement_0 : decode cX5_passElement 0 = .ok (.aload_n 0, 1) := by decide +kernel
theorem dX5_passElement_1 : decode cX5_passElement 1 = .ok (.getfield 25, 3) := by decide +kernel
theorem dX5_passElement_4 : decode cX5_passElement 4 = .ok (.iload_n 1, 1) := by decide +kernel
theorem dX5_passElement_5 : decode cX5_passElement 5 = .ok (.invokevirtual 42, 3) := by decide +kernel
theorem dX5_passElement_8 : decode cX5_passElement 8 = .ok (.bipush 12, 2) := by decide +kernel
theorem dX5_passElement_10 : decode cX5_passElement 10 = .ok (.if_icmp .ne 12, 3) := by decide +kernel
theorem dX5_passElement_13 : decode cX5_passElement 13 = .ok (.aload_n 0, 1) := by decide +kernel
theorem dX5_passElement_14 : decode cX5_passElement 14 = .ok (.getfield 25, 3) := by decide +kernel
theorem dX5_passElement_17 : decode cX5_passElement 17 = .ok (.iload_n 1, 1) := by decide +kernel
theorem dX5_passElement_18 : decode cX5_passElement 18 = .ok (.invokevirtual 45, 3) := by decide +kernel
theorem dX5_passElement_21 : decode cX5_passElement 21 = .ok (.ireturn, 1) := by decide +kernel
theorem dX5_passElement_22 : decode cX5_passElement 22 = .ok (.aload_n 0, 1) := by decide +kernel
theorem dX5_passElement_23 : decode cX5_passElement 23 = .ok (.getfield 18, 3) := by decide +kernel
theorem dX5_passElement_26 : decode cX5_passElement 26 = .ok (.bipush 60, 2) := by decide +kernel
theorem dX5_passElement_28 : decode cX5_passElement 28 = .ok (.if_icmp .ge 23, 3) := by decide +kernel
theorem dX5_passElement_31 : decode cX5_passElement 31 = .ok (.aload_n 0, 1) := by decide +kernel
theorem dX5_passElement_32 : decode cX5_passElement 32 = .ok (.getfield 9, 3) := by decide +kernel
theorem dX5_passElement_35 : decode cX5_passElement 35 = .ok (.aload_n 0, 1) := by decide +kernel
theorem dX5_passElement_36 : decode cX5_passElement 36 = .ok (.getfield 18, 3) := by decide +kernel
theorem dX5_passElement_39 : decode cX5_passElement 39 = .ok (.iload_n 1, 1) := by decide +kernel
theorem dX5_passElement_40 : decode cX5_passElement 40 = .ok (.iastore, 1) := by decide +kernel
theorem dX5_passElement_41 : decode cX5_passElement 41 = .ok (.aload_n 0, 1) := by decide +kernel
theorem dX5_passElement_42 : decode cX5_passElement 42 = .ok (.dup, 1) := by decide +kernel
theorem dX5_passElement_43 : decode cX5_passElement 43 = .ok (.getfield 18, 3) := by decide +kernel
theorem dX5_passElement_46 : decode cX5_passElement 46 = .ok (.iconst 1, 1) := by decide +kernel
theorem dX5_passElement_47 : decode cX5_passElement 47 = .ok (.iadd, 1) := by decide +kernel
theorem dX5_passElement_48 : decode cX5_passElement 48 = .ok (.putfield 18, 3) := by decide +kernel
theorem dX5_passElement_51 : decode cX5_passElement 51 = .ok (.aload_n 0, 1) := by decide +kernel
theorem dX5_passElement_52 : decode cX5_passElement 52 = .ok (.getfield 25, 3) := by decide +kernel
theorem dX5_passElement_55 : decode cX5_passElement 55 = .ok (.iload_n 1, 1) := by decide +kernel
theorem dX5_passElement_56 : decode cX5_passElement 56 = .ok (.invokevirtual 48, 3) := by decide +kernel
theorem dX5_passElement_59 : decode cX5_passElement 59 = .ok (.ireturn, 1) := by decide +kernel
theorem dX5_passPart_0 : decode cX5_passPart 0 = .ok (.aload_n 0, 1) := by decide +kernel
theorem dX5_passPart_1 : decode cX5_passPart 1 = .ok (.getfield 22, 3) := by decide +kernel
theorem dX5_passPart_4 : decode cX5_passPart 4 = .ok (.bipush 100, 2) := by decide +kernel
theorem dX5_passPart_6 : decode cX5_passPart 6 = .ok (.if_icmp .ge 26, 3) := by decide +kernel
theorem dX5_passPart_9 : decode cX5_passPart 9 = .ok (.aload_n 0, 1) := by decide +kernel
theorem dX5_passPart_10 : decode cX5_passPart 10 = .ok (.getfield 15, 3) := by decide +kernel
theorem dX5_passPart_13 : decode cX5_passPart 13 = .ok (.aload_n 0, 1) := by decide +kernel
theorem dX5_passPart_14 : decode cX5_passPart 14 = .ok (.getfield 22, 3) := by decide +kernel
theorem dX5_passPart_17 : decode cX5_passPart 17 = .ok (.iload_n 1, 1) := by decide +kernel
theorem dX5_passPart_18 : decode cX5_passPart 18 = .ok (.invokestatic 51, 3) := by decide +kernel
theorem dX5_passPart_21 : decode cX5_passPart 21 = .ok (.iastore, 1) := by decide +kernel
theorem dX5_passPart_22 : decode cX5_passPart 22 = .ok (.aload_n 0, 1) := by decide +kernel
theorem dX5_passPart_23 : decode cX5_passPart 23 = .ok (.dup, 1) := by decide +kernel
theorem dX5_passPart_24 : decode cX5_passPart 24 = .ok (.getfield 22, 3) := by decide +kernel
theorem dX5_passPart_27 : decode cX5_passPart 27 = .ok (.iconst 1, 1) := by decide +kernel
theorem dX5_passPart_28 : decode cX5_passPart 28 = .ok (.iadd, 1) := by decide +kernel
theorem dX5_passPart_29 : decode cX5_passPart 29 = .ok (.putfield 22, 3) := by decide +kernel
theorem dX5_passPart_32 : decode cX5_passPart 32 = .ok (.aload_n 0, 1) := by decide +kernel
theorem dX5_passPart_33 : decode cX5_passPart 33 = .ok (.getfield 25, 3) := by decide +kernel
theorem dX5_passPart_36 : decode cX5_passPart 36 = .ok (.iload_n 1, 1) := by decide +kernel
theorem dX5_passPart_37 : decode cX5_passPart 37 = .ok (.invokevirtual 45, 3) := by decide +kernel
theorem dX5_passPart_40 : decode cX5_passPart 40 = .ok (.ireturn, 1) := by decide +kernel
theorem dX6_init_0 : decode cX6_init 0 = .ok (.aload_n 0, 1) := by decide +kernel
theorem dX6_init_1 : decode cX6_init 1 = .ok (.invokespecial 3, 3) := by decide +kernel
theorem dX6_init_4 : decode cX6_init 4 = .ok (.aload_n 0, 1) := by decide +kernel
theorem dX6_init_5 : decode cX6_init 5 = .ok (.bipush 60, 2) := by decide +kernel
theorem dX6_init_7 : decode cX6_init 7 = .ok (.newarray .int, 2) := by decide +kernel
theorem dX6_init_9 : decode cX6_init 9 = .ok (.putfield 9, 3) := by decide +kernel
theorem dX6_init_12 : decode cX6_init 12 = .ok (.aload_n 0, 1) := by decide +kernel
theorem dX6_init_13 : decode cX6_init 13 = .ok (.bipush 60, 2) := by decide +kernel
theorem dX6_init_15 : decode cX6_init 15 = .ok (.newarray .int, 2) := by decide +kernel
theorem dX6_init_17 : decode cX6_init 17 = .ok (.putfield 15, 3) := by decide +kernel
theorem dX6_init_20 : decode cX6_init 20 = .ok (.aload_n 0, 1) := by decide +kernel
theorem dX6_init_21 : decode cX6_init 21 = .ok (.bipush 60, 2) := by decide +kernel
theorem dX6_init_23 : decode cX6_init 23 = .ok (.newarray .int, 2) := by decide +kernel
theorem dX6_init_25 : decode cX6_init 25 = .ok (.putfield 18, 3) := by decide +kernel
theorem dX6_init_28 : decode cX6_init 28 = .ok (.aload_n 0, 1) := by decide +kernel
theorem dX6_init_29 : decode cX6_init 29 = .ok (.sipush 260, 3) := by decide +kernel
theorem dX6_init_32 : decode cX6_init 32 = .ok (.newarray .int, 2) := by decide +kernel
theorem dX6_init_34 : decode cX6_init 34 = .ok (.putfield 21, 3) := by decide +kernel
theorem dX6_init_37 : decode cX6_init 37 = .ok (.aload_n 0, 1) := by decide +kernel
theorem dX6_init_38 : decode cX6_init 38 = .ok (.sipush 260, 3) := by decide +kernel
theorem dX6_init_41 : decode cX6_init 41 = .ok (.newarray .int, 2) := by decide +kernel
theorem dX6_init_43 : decode cX6_init 43 = .ok (.putfield 24, 3) := by decide +kernel
theorem dX6_init_46 : decode cX6_init 46 = .ok (.aload_n 0, 1) := by decide +kernel
theorem dX6_init_47 : decode cX6_init 47 = .ok (.iconst 1, 1) := by decide +kernel
theorem dX6_init_48 : decode cX6_init 48 = .ok (.putfield 27, 3) := by decide +kernel
theorem dX6_init_51 : decode cX6_init 51 = .ok (.aload_n 0, 1) := by decide +kernel
theorem dX6_init_52 : decode cX6_init 52 = .ok (.iconst 0, 1) := by decide +kernel
theorem dX6_init_53 : decode cX6_init 53 = .ok (.putfield 31, 3) := by decide +kernel
theorem dX6_init_56 : decode cX6_init 56 = .ok (.aload_n 0, 1) := by decide +kernel
theorem dX6_init_57 : decode cX6_init 57 = .ok (.aload_n 1, 1) := by decide +kernel
theorem dX6_init_58 : decode cX6_init 58 = .ok (.putfield 34, 3) := by decide +kernel
theorem dX6_init_61 : decode cX6_init 61 = .ok (.aload_n 0, 1) := by decide +kernel
theorem dX6_init_62 : decode cX6_init 62 = .ok (.getfield 15, 3) := by decide +kernel
theorem dX6_init_65 : decode cX6_init 65 = .ok (.iconst (-1), 1) := by decide +kernel
theorem dX6_init_66 : decode cX6_init 66 = .ok (.invokestatic 38, 3) := by decide +kernel
theorem dX6_init_69 : decode cX6_init 69 = .ok (.aload_n 0, 1) := by decide +kernel
theorem dX6_init_70 : decode cX6_init 70 = .ok (.getfield 18, 3) := by decide +kernel
theorem dX6_init_73 : decode cX6_init 73 = .ok (.iconst (-1), 1) := by decide +kernel
theorem dX6_init_74 : decode cX6_init 74 = .ok (.invokestatic 38, 3) := by decide +kernel
theorem dX6_init_77 : decode cX6_init 77 = .ok (.aload_n 0, 1) := by decide +kernel
theorem dX6_init_78 : decode cX6_init 78 = .ok (.getfield 21, 3) := by decide +kernel
theorem dX6_init_81 : decode cX6_init 81 = .ok (.iconst (-1), 1) := by decide +kernel
theorem dX6_init_82 : decode cX6_init 82 = .ok (.invokestatic 38, 3) := by decide +kernel
theorem dX6_init_85 : decode cX6_init 85 = .ok (.aload_n 0, 1) := by decide +kernel
theorem dX6_init_86 : decode cX6_init 86 = .ok (.getfield 24, 3) := by decide +kernel
theorem dX6_init_89 : decode cX6_init 89 = .ok (.iconst (-1), 1) := by decide +kernel
theorem dX6_init_90 : decode cX6_init 90 = .ok (.invokestatic 38, 3) := by decide +kernel
theorem dX6_init_93 : decode cX6_init 93 = .ok (.return_, 1) := by decide +kernel
theorem dX6_addElement_0 : decode cX6_addElement 0 = .ok (.aload_n 0, 1) := by decide +kernel
theorem dX6_addElement_1 : decode cX6_addElement 1 = .ok (.getfield 27, 3) := by decide +kernel
theorem dX6_addElement_4 : decode cX6_addElement 4 = .ok (.istore_n 3, 1) := by decide +kernel
theorem dX6_addElement_5 : decode cX6_addElement 5 = .ok (.iload_n 3, 1) := by decide +kernel
theorem dX6_addElement_6 : decode cX6_addElement 6 = .ok (.bipush 60, 2) := by decide +kernel
theorem dX6_addElement_8 : decode cX6_addElement 8 = .ok (.if_icmp .ge 26, 3) := by decide +kernel
theorem dX6_addElement_11 : decode cX6_addElement 11 = .ok (.aload_n 0, 1) := by decide +kernel
theorem dX6_addElement_12 : decode cX6_addElement 12 = .ok (.getfield 9, 3) := by decide +kernel
theorem dX6_addElement_15 : decode cX6_addElement 15 = .ok (.iload_n 3, 1) := by decide +kernel
theorem dX6_addElement_16 : decode cX6_addElement 16 = .ok (.iload_n 2, 1) := by decide +kernel
theorem dX6_addElement_17 : decode cX6_addElement 17 = .ok (.iastore, 1) := by decide +kernel
theorem dX6_addElement_18 : decode cX6_addElement 18 = .ok (.aload_n 0, 1) := by decide +kernel
theorem dX6_addElement_19 : decode cX6_addElement 19 = .ok (.dup, 1) := by decide +kernel
theorem dX6_addElement_20 : decode cX6_addElement 20 = .ok (.getfield 27, 3) := by decide +kernel
theorem dX6_addElement_23 : decode cX6_addElement 23 = .ok (.iconst 1, 1) := by decide +kernel
theorem dX6_addElement_24 : decode cX6_addElement 24 = .ok (.iadd, 1) := by decide +kernel
theorem dX6_addElement_25 : decode cX6_addElement 25 = .ok (.putfield 27, 3) := by decide +kernel
theorem dX6_addElement_28 : decode cX6_addElement 28 = .ok (.aload_n 0, 1) := by decide +kernel
theorem dX6_addElement_29 : decode cX6_addElement 29 = .ok (.iload_n 1, 1) := by decide +kernel
theorem dX6_addElement_30 : decode cX6_addElement 30 = .ok (.iload_n 3, 1) := by decide +kernel
theorem dX6_addElement_31 : decode cX6_addElement 31 = .ok (.invokevirtual 44, 3) := by decide +kernel
theorem dX6_addElement_34 : decode cX6_addElement 34 = .ok (.iload_n 3, 1) := by decide +kernel
theorem dX6_addElement_35 : decode cX6_addElement 35 = .ok (.ireturn, 1) := by decide +kernel
theorem dX6_addPart_0 : decode cX6_addPart 0 = .ok (.aload_n 0, 1) := by decide +kernel
theorem dX6_addPart_1 : decode cX6_addPart 1 = .ok (.dup, 1) := by decide +kernel
theorem dX6_addPart_2 : decode cX6_addPart 2 = .ok (.getfield 31, 3) := by decide +kernel
theorem dX6_addPart_5 : decode cX6_addPart 5 = .ok (.iconst 1, 1) := by decide +kernel
theorem dX6_addPart_6 : decode cX6_addPart 6 = .ok (.iadd, 1) := by decide +kernel
theorem dX6_addPart_7 : decode cX6_addPart 7 = .ok (.putfield 31, 3) := by decide +kernel
theorem dX6_addPart_10 : decode cX6_addPart 10 = .ok (.aload_n 0, 1) := by decide +kernel
theorem dX6_addPart_11 : decode cX6_addPart 11 = .ok (.iload_n 1, 1) := by decide +kernel
theorem dX6_addPart_12 : decode cX6_addPart 12 = .ok (.bipush 60, 2) := by decide +kernel
theorem dX6_addPart_14 : decode cX6_addPart 14 = .ok (.iload_n 2, 1) := by decide +kernel
theorem dX6_addPart_15 : decode cX6_addPart 15 = .ok (.iadd, 1) := by decide +kernel
theorem dX6_addPart_16 : decode cX6_addPart 16 = .ok (.invokevirtual 44, 3) := by decide +kernel
theorem dX6_addPart_19 : decode cX6_addPart 19 = .ok (.return_, 1) := by decide +kernel
theorem dX6_addKid_0 : decode cX6_addKid 0 = .ok (.aload_n 0, 1) := by decide +kernel
theorem dX6_addKid_1 : decode cX6_addKid 1 = .ok (.getfield 21, 3) := by decide +kernel
theorem dX6_addKid_4 : decode cX6_addKid 4 = .ok (.iload_n 2, 1) := by decide +kernel
theorem dX6_addKid_5 : decode cX6_addKid 5 = .ok (.iload_n 1, 1) := by decide +kernel
theorem dX6_addKid_6 : decode cX6_addKid 6 = .ok (.iastore, 1) := by decide +kernel
theorem dX6_addKid_7 : decode cX6_addKid 7 = .ok (.aload_n 0, 1) := by decide +kernel
theorem dX6_addKid_8 : decode cX6_addKid 8 = .ok (.getfield 18, 3) := by decide +kernel
theorem dX6_addKid_11 : decode cX6_addKid 11 = .ok (.iload_n 1, 1) := by decide +kernel
theorem dX6_addKid_12 : decode cX6_addKid 12 = .ok (.iaload, 1) := by decide +kernel
theorem dX6_addKid_13 : decode cX6_addKid 13 = .ok (.istore_n 3, 1) := by decide +kernel
theorem dX6_addKid_14 : decode cX6_addKid 14 = .ok (.iload_n 3, 1) := by decide +kernel
theorem dX6_addKid_15 : decode cX6_addKid 15 = .ok (.iconst (-1), 1) := by decide +kernel
theorem dX6_addKid_16 : decode cX6_addKid 16 = .ok (.if_icmp .ne 13, 3) := by decide +kernel
theorem dX6_addKid_19 : decode cX6_addKid 19 = .ok (.aload_n 0, 1) := by decide +kernel
theorem dX6_addKid_20 : decode cX6_addKid 20 = .ok (.getfield 15, 3) := by decide +kernel
theorem dX6_addKid_23 : decode cX6_addKid 23 = .ok (.iload_n 1, 1) := by decide +kernel
theorem dX6_addKid_24 : decode cX6_addKid 24 = .ok (.iload_n 2, 1) := by decide +kernel
theorem dX6_addKid_25 : decode cX6_addKid 25 = .ok (.iastore, 1) := by decide +kernel
theorem dX6_addKid_26 : decode cX6_addKid 26 = .ok (.goto 10, 3) := by decide +kernel
theorem dX6_addKid_29 : decode cX6_addKid 29 = .ok (.aload_n 0, 1) := by decide +kernel
theorem dX6_addKid_30 : decode cX6_addKid 30 = .ok (.getfield 24, 3) := by decide +kernel
theorem dX6_addKid_33 : decode cX6_addKid 33 = .ok (.iload_n 3, 1) := by decide +kernel
theorem dX6_addKid_34 : decode cX6_addKid 34 = .ok (.iload_n 2, 1) := by decide +kernel
theorem dX6_addKid_35 : decode cX6_addKid 35 = .ok (.iastore, 1) := by decide +kernel
theorem dX6_addKid_36 : decode cX6_addKid 36 = .ok (.aload_n 0, 1) := by decide +kernel
theorem dX6_addKid_37 : decode cX6_addKid 37 = .ok (.getfield 18, 3) := by decide +kernel
theorem dX6_addKid_40 : decode cX6_addKid 40 = .ok (.iload_n 1, 1) := by decide +kernel
theorem dX6_addKid_41 : decode cX6_addKid 41 = .ok (.iload_n 2, 1) := by decide +kernel
theorem dX6_addKid_42 : decode cX6_addKid 42 = .ok (.iastore, 1) := by decide +kernel
theorem dX6_addKid_43 : decode cX6_addKid 43 = .ok (.return_, 1) := by decide +kernel
theorem dX6_parentOf_0 : decode cX6_parentOf 0 = .ok (.aload_n 0, 1) := by decide +kernel
theorem dX6_parentOf_1 : decode cX6_parentOf 1 = .ok (.getfield 21, 3) := by decide +kernel
theorem dX6_parentOf_4 : decode cX6_parentOf 4 = .ok (.iload_n 1, 1) := by decide +kernel
theorem dX6_parentOf_5 : decode cX6_parentOf 5 = .ok (.iaload, 1) := by decide +kernel
theorem dX6_parentOf_6 : decode cX6_parentOf 6 = .ok (.ireturn, 1) := by decide +kernel
theorem dX6_holderOf_0 : decode cX6_holderOf 0 = .ok (.aload_n 0, 1) := by decide +kernel
theorem dX6_holderOf_1 : decode cX6_holderOf 1 = .ok (.getfield 21, 3) := by decide +kernel
theorem dX6_holderOf_4 : decode cX6_holderOf 4 = .ok (.bipush 60, 2) := by decide +kernel
theorem dX6_holderOf_6 : decode cX6_holderOf 6 = .ok (.iload_n 1, 1) := by decide +kernel
theorem dX6_holderOf_7 : decode cX6_holderOf 7 = .ok (.iadd, 1) := by decide +kernel
theorem dX6_holderOf_8 : decode cX6_holderOf 8 = .ok (.iaload, 1) := by decide +kernel
theorem dX6_holderOf_9 : decode cX6_holderOf 9 = .ok (.ireturn, 1) := by decide +kernel
theorem dX6_hasKids_0 : decode cX6_hasKids 0 = .ok (.aload_n 0, 1) := by decide +kernel
theorem dX6_hasKids_1 : decode cX6_hasKids 1 = .ok (.getfield 15, 3) := by decide +kernel
theorem dX6_hasKids_4 : decode cX6_hasKids 4 = .ok (.iload_n 1, 1) := by decide +kernel
theorem dX6_hasKids_5 : decode cX6_hasKids 5 = .ok (.iaload, 1) := by decide +kernel
theorem dX6_hasKids_6 : decode cX6_hasKids 6 = .ok (.iconst (-1), 1) := by decide +kernel
theorem dX6_hasKids_7 : decode cX6_hasKids 7 = .ok (.if_icmp .eq 7, 3) := by decide +kernel
theorem dX6_hasKids_10 : decode cX6_hasKids 10 = .ok (.iconst 1, 1) := by decide +kernel
theorem dX6_hasKids_11 : decode cX6_hasKids 11 = .ok (.goto 4, 3) := by decide +kernel
theorem dX6_hasKids_14 : decode cX6_hasKids 14 = .ok (.iconst 0, 1) := by decide +kernel
theorem dX6_hasKids_15 : decode cX6_hasKids 15 = .ok (.ireturn, 1) := by decide +kernel
theorem dX6_standardOf_0 : decode cX6_standardOf 0 = .ok (.iload_n 1, 1) := by decide +kernel
theorem dX6_standardOf_1 : decode cX6_standardOf 1 = .ok (.ifCond .lt 11, 3) := by decide +kernel
theorem dX6_standardOf_4 : decode cX6_standardOf 4 = .ok (.iload_n 1, 1) := by decide +kernel
theorem dX6_standardOf_5 : decode cX6_standardOf 5 = .ok (.aload_n 0, 1) := by decide +kernel
theorem dX6_standardOf_6 : decode cX6_standardOf 6 = .ok (.getfield 27, 3) := by decide +kernel
theorem dX6_standardOf_9 : decode cX6_standardOf 9 = .ok (.if_icmp .lt 7, 3) := by decide +kernel
theorem dX6_standardOf_12 : decode cX6_standardOf 12 = .ok (.iconst (-1), 1) := by decide +kernel
theorem dX6_standardOf_13 : decode cX6_standardOf 13 = .ok (.goto 16, 3) := by decide +kernel
theorem dX6_standardOf_16 : decode cX6_standardOf 16 = .ok (.aload_n 0, 1) := by decide +kernel
theorem dX6_standardOf_17 : decode cX6_standardOf 17 = .ok (.getfield 34, 3) := by decide +kernel
theorem dX6_standardOf_20 : decode cX6_standardOf 20 = .ok (.aload_n 0, 1) := by decide +kernel
theorem dX6_standardOf_21 : decode cX6_standardOf 21 = .ok (.getfield 9, 3) := by decide +kernel
theorem dX6_standardOf_24 : decode cX6_standardOf 24 = .ok (.iload_n 1, 1) := by decide +kernel
theorem dX6_standardOf_25 : decode cX6_standardOf 25 = .ok (.iaload, 1) := by decide +kernel
theorem dX6_standardOf_26 : decode cX6_standardOf 26 = .ok (.invokevirtual 48, 3) := by decide +kernel
theorem dX6_standardOf_29 : decode cX6_standardOf 29 = .ok (.ireturn, 1) := by decide +kernel
theorem dX6_isElement_0 : decode cX6_isElement 0 = .ok (.iload_n 0, 1) := by decide +kernel
theorem dX6_isElement_1 : decode cX6_isElement 1 = .ok (.bipush 60, 2) := by decide +kernel
theorem dX6_isElement_3 : decode cX6_isElement 3 = .ok (.if_icmp .ge 7, 3) := by decide +kernel
theorem dX6_isElement_6 : decode cX6_isElement 6 = .ok (.iconst 1, 1) := by decide +kernel
theorem dX6_isElement_7 : decode cX6_isElement 7 = .ok (.goto 4, 3) := by decide +kernel
theorem dX6_isElement_10 : decode cX6_isElement 10 = .ok (.iconst 0, 1) := by decide +kernel
theorem dX6_isElement_11 : decode cX6_isElement 11 = .ok (.ireturn, 1) := by decide +kernel
theorem dX6_codeOf_0 : decode cX6_codeOf 0 = .ok (.iload_n 0, 1) := by decide +kernel
theorem dX6_codeOf_1 : decode cX6_codeOf 1 = .ok (.bipush 60, 2) := by decide +kernel
theorem dX6_codeOf_3 : decode cX6_codeOf 3 = .ok (.isub, 1) := by decide +kernel
theorem dX6_codeOf_4 : decode cX6_codeOf 4 = .ok (.ireturn, 1) := by decide +kernel
theorem dX6_firstIn_0 : decode cX6_firstIn 0 = .ok (.aload_n 0, 1) := by decide +kernel
theorem dX6_firstIn_1 : decode cX6_firstIn 1 = .ok (.iload_n 1, 1) := by decide +kernel
theorem dX6_firstIn_2 : decode cX6_firstIn 2 = .ok (.invokevirtual 54, 3) := by decide +kernel
theorem dX6_firstIn_5 : decode cX6_firstIn 5 = .ok (.ifCond .eq 12, 3) := by decide +kernel
theorem dX6_firstIn_8 : decode cX6_firstIn 8 = .ok (.aload_n 0, 1) := by decide +kernel
theorem dX6_firstIn_9 : decode cX6_firstIn 9 = .ok (.getfield 15, 3) := by decide +kernel
theorem dX6_firstIn_12 : decode cX6_firstIn 12 = .ok (.iload_n 1, 1) := by decide +kernel
theorem dX6_firstIn_13 : decode cX6_firstIn 13 = .ok (.iaload, 1) := by decide +kernel
theorem dX6_firstIn_14 : decode cX6_firstIn 14 = .ok (.goto 8, 3) := by decide +kernel
theorem dX6_firstIn_17 : decode cX6_firstIn 17 = .ok (.aload_n 0, 1) := by decide +kernel
theorem dX6_firstIn_18 : decode cX6_firstIn 18 = .ok (.iload_n 1, 1) := by decide +kernel
theorem dX6_firstIn_19 : decode cX6_firstIn 19 = .ok (.invokevirtual 58, 3) := by decide +kernel
theorem dX6_firstIn_22 : decode cX6_firstIn 22 = .ok (.ireturn, 1) := by decide +kernel
theorem dX6_firstBehind_0 : decode cX6_firstBehind 0 = .ok (.iload_n 1, 1) := by decide +kernel
theorem dX6_firstBehind_1 : decode cX6_firstBehind 1 = .ok (.istore_n 2, 1) := by decide +kernel
theorem dX6_firstBehind_2 : decode cX6_firstBehind 2 = .ok (.iconst 0, 1) := by decide +kernel
theorem dX6_firstBehind_3 : decode cX6_firstBehind 3 = .ok (.istore_n 3, 1) := by decide +kernel
theorem dX6_firstBehind_4 : decode cX6_firstBehind 4 = .ok (.iload_n 3, 1) := by decide +kernel
theorem dX6_firstBehind_5 : decode cX6_firstBehind 5 = .ok (.sipush 260, 3) := by decide +kernel
theorem dX6_firstBehind_8 : decode cX6_firstBehind 8 = .ok (.if_icmp .ge 31, 3) := by decide +kernel
theorem dX6_firstBehind_11 : decode cX6_firstBehind 11 = .ok (.iload_n 2, 1) := by decide +kernel
theorem dX6_firstBehind_12 : decode cX6_firstBehind 12 = .ok (.iconst (-1), 1) := by decide +kernel
theorem dX6_firstBehind_13 : decode cX6_firstBehind 13 = .ok (.if_icmp .eq 26, 3) := by decide +kernel
theorem dX6_firstBehind_16 : decode cX6_firstBehind 16 = .ok (.aload_n 0, 1) := by decide +kernel
theorem dX6_firstBehind_17 : decode cX6_firstBehind 17 = .ok (.getfield 24, 3) := by decide +kernel
theorem dX6_firstBehind_20 : decode cX6_firstBehind 20 = .ok (.iload_n 2, 1) := by decide +kernel
theorem dX6_firstBehind_21 : decode cX6_firstBehind 21 = .ok (.iaload, 1) := by decide +kernel
theorem dX6_firstBehind_22 : decode cX6_firstBehind 22 = .ok (.iconst (-1), 1) := by decide +kernel
theorem dX6_firstBehind_23 : decode cX6_firstBehind 23 = .ok (.if_icmp .ne 16, 3) := by decide +kernel
theorem dX6_firstBehind_26 : decode cX6_firstBehind 26 = .ok (.aload_n 0, 1) := by decide +kernel
theorem dX6_firstBehind_27 : decode cX6_firstBehind 27 = .ok (.getfield 21, 3) := by decide +kernel
theorem dX6_firstBehind_30 : decode cX6_firstBehind 30 = .ok (.iload_n 2, 1) := by decide +kernel
theorem dX6_firstBehind_31 : decode cX6_firstBehind 31 = .ok (.iaload, 1) := by decide +kernel
theorem dX6_firstBehind_32 : decode cX6_firstBehind 32 = .ok (.istore_n 2, 1) := by decide +kernel
theorem dX6_firstBehind_33 : decode cX6_firstBehind 33 = .ok (.iinc 3 1, 3) := by decide +kernel
theorem dX6_firstBehind_36 : decode cX6_firstBehind 36 = .ok (.goto (-32), 3) := by decide +kernel
theorem dX6_firstBehind_39 : decode cX6_firstBehind 39 = .ok (.iload_n 2, 1) := by decide +kernel
theorem dX6_firstBehind_40 : decode cX6_firstBehind 40 = .ok (.iconst (-1), 1) := by decide +kernel
theorem dX6_firstBehind_41 : decode cX6_firstBehind 41 = .ok (.if_icmp .ne 7, 3) := by decide +kernel
theorem dX6_firstBehind_44 : decode cX6_firstBehind 44 = .ok (.iconst (-1), 1) := by decide +kernel
theorem dX6_firstBehind_45 : decode cX6_firstBehind 45 = .ok (.goto 9, 3) := by decide +kernel
theorem dX6_firstBehind_48 : decode cX6_firstBehind 48 = .ok (.aload_n 0, 1) := by decide +kernel
theorem dX6_firstBehind_49 : decode cX6_firstBehind 49 = .ok (.getfield 24, 3) := by decide +kernel
theorem dX6_firstBehind_52 : decode cX6_firstBehind 52 = .ok (.iload_n 2, 1) := by decide +kernel
theorem dX6_firstBehind_53 : decode cX6_firstBehind 53 = .ok (.iaload, 1) := by decide +kernel
theorem dX6_firstBehind_54 : decode cX6_firstBehind 54 = .ok (.ireturn, 1) := by decide +kernel
theorem dJ9_max_7cf53_0 : decode cJ9_max_7cf53 0 = .ok (.iload_n 0, 1) := by decide +kernel
theorem dJ9_max_7cf53_1 : decode cJ9_max_7cf53 1 = .ok (.iload_n 1, 1) := by decide +kernel
theorem dJ9_max_7cf53_2 : decode cJ9_max_7cf53 2 = .ok (.if_icmp .lt 7, 3) := by decide +kernel
theorem dJ9_max_7cf53_5 : decode cJ9_max_7cf53 5 = .ok (.iload_n 0, 1) := by decide +kernel
theorem dJ9_max_7cf53_6 : decode cJ9_max_7cf53 6 = .ok (.goto 4, 3) := by decide +kernel
theorem dJ9_max_7cf53_9 : decode cJ9_max_7cf53 9 = .ok (.iload_n 1, 1) := by decide +kernel
theorem dJ9_max_7cf53_10 : decode cJ9_max_7cf53 10 = .ok (.ireturn, 1) := by decide +kernel
theorem dJ7_fill_53178_0 : decode cJ7_fill_53178 0 = .ok (.iconst 0, 1) := by decide +kernel
theorem dJ7_fill_53178_1 : decode cJ7_fill_53178 1 = .ok (.istore_n 2, 1) := by decide +kernel
theorem dJ7_fill_53178_2 : decode cJ7_fill_53178 2 = .ok (.aload_n 0, 1) := by decide +kernel
theorem dJ7_fill_53178_3 : decode cJ7_fill_53178 3 = .ok (.arraylength, 1) := by decide +kernel
theorem dJ7_fill_53178_4 : decode cJ7_fill_53178 4 = .ok (.istore_n 3, 1) := by decide +kernel
theorem dJ7_fill_53178_5 : decode cJ7_fill_53178 5 = .ok (.iload_n 2, 1) := by decide +kernel
theorem dJ7_fill_53178_6 : decode cJ7_fill_53178 6 = .ok (.iload_n 3, 1) := by decide +kernel
theorem dJ7_fill_53178_7 : decode cJ7_fill_53178 7 = .ok (.if_icmp .ge 13, 3) := by decide +kernel
theorem dJ7_fill_53178_10 : decode cJ7_fill_53178 10 = .ok (.aload_n 0, 1) := by decide +kernel
theorem dJ7_fill_53178_11 : decode cJ7_fill_53178 11 = .ok (.iload_n 2, 1) := by decide +kernel
theorem dJ7_fill_53178_12 : decode cJ7_fill_53178 12 = .ok (.iload_n 1, 1) := by decide +kernel
theorem dJ7_fill_53178_13 : decode cJ7_fill_53178 13 = .ok (.iastore, 1) := by decide +kernel
theorem dJ7_fill_53178_14 : decode cJ7_fill_53178 14 = .ok (.iinc 2 1, 3) := by decide +kernel
theorem dJ7_fill_53178_17 : decode cJ7_fill_53178 17 = .ok (.goto (-12), 3) := by decide +kernel
theorem dJ7_fill_53178_20 : decode cJ7_fill_53178 20 = .ok (.return_, 1) := by decide +kernel
end
section
theorem dX7_init_0 : decode cX7_init 0 = .ok (.aload_n 0, 1) := by decide +kernel
theorem dX7_init_1 : decode cX7_init 1 = .ok (.invokespecial 3, 3) := by decide +kernel
theorem dX7_init_4 : decode cX7_init 4 = .ok (.aload_n 0, 1) := by decide +kernel
theorem dX7_init_5 : decode cX7_init 5 = .ok (.new 9, 3) := by decide +kernel
theorem dX7_init_8 : decode cX7_init 8 = .ok (.dup, 1) := by decide +kernel
theorem dX7_init_9 : decode cX7_init 9 = .ok (.invokespecial 11, 3) := by decide +kernel
theorem dX7_init_12 : decode cX7_init 12 = .ok (.putfield 12, 3) := by decide +kernel
theorem dX7_init_15 : decode cX7_init 15 = .ok (.aload_n 0, 1) := by decide +kernel
theorem dX7_init_16 : decode cX7_init 16 = .ok (.new 16, 3) := by decide +kernel
theorem dX7_init_19 : decode cX7_init 19 = .ok (.dup, 1) := by decide +kernel
theorem dX7_init_20 : decode cX7_init 20 = .ok (.aload_n 0, 1) := by decide +kernel
theorem dX7_init_21 : decode cX7_init 21 = .ok (.getfield 12, 3) := by decide +kernel
theorem dX7_init_24 : decode cX7_init 24 = .ok (.invokespecial 18, 3) := by decide +kernel
theorem dX7_init_27 : decode cX7_init 27 = .ok (.putfield 21, 3) := by decide +kernel
theorem dX7_init_30 : decode cX7_init 30 = .ok (.aload_n 0, 1) := by decide +kernel
theorem dX7_init_31 : decode cX7_init 31 = .ok (.new 25, 3) := by decide +kernel
theorem dX7_init_34 : decode cX7_init 34 = .ok (.dup, 1) := by decide +kernel
theorem dX7_init_35 : decode cX7_init 35 = .ok (.aload_n 0, 1) := by decide +kernel
theorem dX7_init_36 : decode cX7_init 36 = .ok (.getfield 21, 3) := by decide +kernel
theorem dX7_init_39 : decode cX7_init 39 = .ok (.invokespecial 27, 3) := by decide +kernel
theorem dX7_init_42 : decode cX7_init 42 = .ok (.putfield 30, 3) := by decide +kernel
theorem dX7_init_45 : decode cX7_init 45 = .ok (.aload_n 0, 1) := by decide +kernel
theorem dX7_init_46 : decode cX7_init 46 = .ok (.new 34, 3) := by decide +kernel
theorem dX7_init_49 : decode cX7_init 49 = .ok (.dup, 1) := by decide +kernel
theorem dX7_init_50 : decode cX7_init 50 = .ok (.invokespecial 36, 3) := by decide +kernel
theorem dX7_init_53 : decode cX7_init 53 = .ok (.putfield 37, 3) := by decide +kernel
theorem dX7_init_56 : decode cX7_init 56 = .ok (.aload_n 0, 1) := by decide +kernel
theorem dX7_init_57 : decode cX7_init 57 = .ok (.new 41, 3) := by decide +kernel
theorem dX7_init_60 : decode cX7_init 60 = .ok (.dup, 1) := by decide +kernel
theorem dX7_init_61 : decode cX7_init 61 = .ok (.invokespecial 43, 3) := by decide +kernel
theorem dX7_init_64 : decode cX7_init 64 = .ok (.putfield 44, 3) := by decide +kernel
theorem dX7_init_67 : decode cX7_init 67 = .ok (.aload_n 0, 1) := by decide +kernel
theorem dX7_init_68 : decode cX7_init 68 = .ok (.new 48, 3) := by decide +kernel
theorem dX7_init_71 : decode cX7_init 71 = .ok (.dup, 1) := by decide +kernel
theorem dX7_init_72 : decode cX7_init 72 = .ok (.invokespecial 50, 3) := by decide +kernel
theorem dX7_init_75 : decode cX7_init 75 = .ok (.putfield 51, 3) := by decide +kernel
theorem dX7_init_78 : decode cX7_init 78 = .ok (.aload_n 0, 1) := by decide +kernel
theorem dX7_init_79 : decode cX7_init 79 = .ok (.new 55, 3) := by decide +kernel
theorem dX7_init_82 : decode cX7_init 82 = .ok (.dup, 1) := by decide +kernel
theorem dX7_init_83 : decode cX7_init 83 = .ok (.invokespecial 57, 3) := by decide +kernel
theorem dX7_init_86 : decode cX7_init 86 = .ok (.putfield 58, 3) := by decide +kernel
theorem dX7_init_89 : decode cX7_init 89 = .ok (.aload_n 0, 1) := by decide +kernel
theorem dX7_init_90 : decode cX7_init 90 = .ok (.bipush 60, 2) := by decide +kernel
theorem dX7_init_92 : decode cX7_init 92 = .ok (.newarray .int, 2) := by decide +kernel
theorem dX7_init_94 : decode cX7_init 94 = .ok (.putfield 62, 3) := by decide +kernel
theorem dX7_init_97 : decode cX7_init 97 = .ok (.aload_n 0, 1) := by decide +kernel
theorem dX7_init_98 : decode cX7_init 98 = .ok (.bipush 60, 2) := by decide +kernel
theorem dX7_init_100 : decode cX7_init 100 = .ok (.newarray .boolean, 2) := by decide +kernel
theorem dX7_init_102 : decode cX7_init 102 = .ok (.putfield 66, 3) := by decide +kernel
theorem dX7_init_105 : decode cX7_init 105 = .ok (.aload_n 0, 1) := by decide +kernel
theorem dX7_init_106 : decode cX7_init 106 = .ok (.bipush 60, 2) := by decide +kernel
theorem dX7_init_108 : decode cX7_init 108 = .ok (.newarray .int, 2) := by decide +kernel
theorem dX7_init_110 : decode cX7_init 110 = .ok (.putfield 70, 3) := by decide +kernel
theorem dX7_init_113 : decode cX7_init 113 = .ok (.aload_n 0, 1) := by decide +kernel
theorem dX7_init_114 : decode cX7_init 114 = .ok (.bipush 60, 2) := by decide +kernel
theorem dX7_init_116 : decode cX7_init 116 = .ok (.newarray .int, 2) := by decide +kernel
theorem dX7_init_118 : decode cX7_init 118 = .ok (.putfield 73, 3) := by decide +kernel
theorem dX7_init_121 : decode cX7_init 121 = .ok (.aload_n 0, 1) := by decide +kernel
theorem dX7_init_122 : decode cX7_init 122 = .ok (.bipush 40, 2) := by decide +kernel
theorem dX7_init_124 : decode cX7_init 124 = .ok (.newarray .int, 2) := by decide +kernel
theorem dX7_init_126 : decode cX7_init 126 = .ok (.putfield 76, 3) := by decide +kernel
theorem dX7_init_129 : decode cX7_init 129 = .ok (.aload_n 0, 1) := by decide +kernel
theorem dX7_init_130 : decode cX7_init 130 = .ok (.bipush 40, 2) := by decide +kernel
theorem dX7_init_132 : decode cX7_init 132 = .ok (.newarray .int, 2) := by decide +kernel
theorem dX7_init_134 : decode cX7_init 134 = .ok (.putfield 79, 3) := by decide +kernel
theorem dX7_init_137 : decode cX7_init 137 = .ok (.aload_n 0, 1) := by decide +kernel
theorem dX7_init_138 : decode cX7_init 138 = .ok (.iconst 0, 1) := by decide +kernel
theorem dX7_init_139 : decode cX7_init 139 = .ok (.putfield 82, 3) := by decide +kernel
theorem dX7_init_142 : decode cX7_init 142 = .ok (.aload_n 0, 1) := by decide +kernel
theorem dX7_init_143 : decode cX7_init 143 = .ok (.sipush 200, 3) := by decide +kernel
theorem dX7_init_146 : decode cX7_init 146 = .ok (.newarray .int, 2) := by decide +kernel
theorem dX7_init_148 : decode cX7_init 148 = .ok (.putfield 86, 3) := by decide +kernel
theorem dX7_init_151 : decode cX7_init 151 = .ok (.aload_n 0, 1) := by decide +kernel
theorem dX7_init_152 : decode cX7_init 152 = .ok (.iconst 0, 1) := by decide +kernel
theorem dX7_init_153 : decode cX7_init 153 = .ok (.putfield 89, 3) := by decide +kernel
theorem dX7_init_156 : decode cX7_init 156 = .ok (.aload_n 0, 1) := by decide +kernel
theorem dX7_init_157 : decode cX7_init 157 = .ok (.bipush 10, 2) := by decide +kernel
theorem dX7_init_159 : decode cX7_init 159 = .ok (.newarray .int, 2) := by decide +kernel
theorem dX7_init_161 : decode cX7_init 161 = .ok (.putfield 92, 3) := by decide +kernel
theorem dX7_init_164 : decode cX7_init 164 = .ok (.aload_n 0, 1) := by decide +kernel
theorem dX7_init_165 : decode cX7_init 165 = .ok (.getfield 70, 3) := by decide +kernel
theorem dX7_init_168 : decode cX7_init 168 = .ok (.iconst 1, 1) := by decide +kernel
theorem dX7_init_169 : decode cX7_init 169 = .ok (.invokestatic 95, 3) := by decide +kernel
theorem dX7_init_172 : decode cX7_init 172 = .ok (.aload_n 0, 1) := by decide +kernel
theorem dX7_init_173 : decode cX7_init 173 = .ok (.getfield 73, 3) := by decide +kernel
theorem dX7_init_176 : decode cX7_init 176 = .ok (.iconst 1, 1) := by decide +kernel
theorem dX7_init_177 : decode cX7_init 177 = .ok (.invokestatic 95, 3) := by decide +kernel
theorem dX7_init_180 : decode cX7_init 180 = .ok (.return_, 1) := by decide +kernel
theorem dX7_element_0 : decode cX7_element 0 = .ok (.aload_n 0, 1) := by decide +kernel
theorem dX7_element_1 : decode cX7_element 1 = .ok (.iload_n 1, 1) := by decide +kernel
theorem dX7_element_2 : decode cX7_element 2 = .ok (.invokevirtual 101, 3) := by decide +kernel
theorem dX7_element_5 : decode cX7_element 5 = .ok (.iload_n 2, 1) := by decide +kernel
theorem dX7_element_6 : decode cX7_element 6 = .ok (.ifCond .eq 10, 3) := by decide +kernel
theorem dX7_element_9 : decode cX7_element 9 = .ok (.iload_n 2, 1) := by decide +kernel
theorem dX7_element_10 : decode cX7_element 10 = .ok (.invokestatic 105, 3) := by decide +kernel
theorem dX7_element_13 : decode cX7_element 13 = .ok (.ifCond .ne 13, 3) := by decide +kernel
theorem dX7_element_16 : decode cX7_element 16 = .ok (.new 109, 3) := by decide +kernel
theorem dX7_element_19 : decode cX7_element 19 = .ok (.dup, 1) := by decide +kernel
theorem dX7_element_20 : decode cX7_element 20 = .ok (.ldc 111, 2) := by decide +kernel
theorem dX7_element_22 : decode cX7_element 22 = .ok (.invokespecial 113, 3) := by decide +kernel
theorem dX7_element_25 : decode cX7_element 25 = .ok (.athrow, 1) := by decide +kernel
theorem dX7_element_26 : decode cX7_element 26 = .ok (.aload_n 0, 1) := by decide +kernel
theorem dX7_element_27 : decode cX7_element 27 = .ok (.getfield 21, 3) := by decide +kernel
theorem dX7_element_30 : decode cX7_element 30 = .ok (.getfield 116, 3) := by decide +kernel
theorem dX7_element_33 : decode cX7_element 33 = .ok (.bipush 60, 2) := by decide +kernel
theorem dX7_element_35 : decode cX7_element 35 = .ok (.if_icmp .lt 13, 3) := by decide +kernel
theorem dX7_element_38 : decode cX7_element 38 = .ok (.new 119, 3) := by decide +kernel
theorem dX7_element_41 : decode cX7_element 41 = .ok (.dup, 1) := by decide +kernel
theorem dX7_element_42 : decode cX7_element 42 = .ok (.ldc 121, 2) := by decide +kernel
theorem dX7_element_44 : decode cX7_element 44 = .ok (.invokespecial 123, 3) := by decide +kernel
theorem dX7_element_47 : decode cX7_element 47 = .ok (.athrow, 1) := by decide +kernel
theorem dX7_element_48 : decode cX7_element 48 = .ok (.aload_n 0, 1) := by decide +kernel
theorem dX7_element_49 : decode cX7_element 49 = .ok (.getfield 21, 3) := by decide +kernel
theorem dX7_element_52 : decode cX7_element 52 = .ok (.iload_n 1, 1) := by decide +kernel
theorem dX7_element_53 : decode cX7_element 53 = .ok (.iload_n 2, 1) := by decide +kernel
theorem dX7_element_54 : decode cX7_element 54 = .ok (.invokevirtual 124, 3) := by decide +kernel
theorem dX7_element_57 : decode cX7_element 57 = .ok (.ireturn, 1) := by decide +kernel
theorem dX7_map_0 : decode cX7_map 0 = .ok (.iload_n 1, 1) := by decide +kernel
theorem dX7_map_1 : decode cX7_map 1 = .ok (.invokestatic 128, 3) := by decide +kernel
theorem dX7_map_4 : decode cX7_map 4 = .ok (.ifCond .eq 10, 3) := by decide +kernel
theorem dX7_map_7 : decode cX7_map 7 = .ok (.iload_n 2, 1) := by decide +kernel
theorem dX7_map_8 : decode cX7_map 8 = .ok (.invokestatic 105, 3) := by decide +kernel
theorem dX7_map_11 : decode cX7_map 11 = .ok (.ifCond .ne 13, 3) := by decide +kernel
theorem dX7_map_14 : decode cX7_map 14 = .ok (.new 109, 3) := by decide +kernel
theorem dX7_map_17 : decode cX7_map 17 = .ok (.dup, 1) := by decide +kernel
theorem dX7_map_18 : decode cX7_map 18 = .ok (.ldc 131, 2) := by decide +kernel
theorem dX7_map_20 : decode cX7_map 20 = .ok (.invokespecial 113, 3) := by decide +kernel
theorem dX7_map_23 : decode cX7_map 23 = .ok (.athrow, 1) := by decide +kernel
theorem dX7_map_24 : decode cX7_map 24 = .ok (.aload_n 0, 1) := by decide +kernel
theorem dX7_map_25 : decode cX7_map 25 = .ok (.getfield 12, 3) := by decide +kernel
theorem dX7_map_28 : decode cX7_map 28 = .ok (.iload_n 2, 1) := by decide +kernel
theorem dX7_map_29 : decode cX7_map 29 = .ok (.iload_n 1, 1) := by decide +kernel
theorem dX7_map_30 : decode cX7_map 30 = .ok (.invokevirtual 133, 3) := by decide +kernel
theorem dX7_map_33 : decode cX7_map 33 = .ok (.ifCond .eq 5, 3) := by decide +kernel
theorem dX7_map_36 : decode cX7_map 36 = .ok (.iconst 0, 1) := by decide +kernel
theorem dX7_map_37 : decode cX7_map 37 = .ok (.ireturn, 1) := by decide +kernel
theorem dX7_map_38 : decode cX7_map 38 = .ok (.aload_n 0, 1) := by decide +kernel
theorem dX7_map_39 : decode cX7_map 39 = .ok (.getfield 12, 3) := by decide +kernel
theorem dX7_map_42 : decode cX7_map 42 = .ok (.iload_n 1, 1) := by decide +kernel
theorem dX7_map_43 : decode cX7_map 43 = .ok (.iload_n 2, 1) := by decide +kernel
theorem dX7_map_44 : decode cX7_map 44 = .ok (.invokevirtual 137, 3) := by decide +kernel
theorem dX7_map_47 : decode cX7_map 47 = .ok (.iconst 1, 1) := by decide +kernel
theorem dX7_map_48 : decode cX7_map 48 = .ok (.ireturn, 1) := by decide +kernel
theorem dX7_content_0 : decode cX7_content 0 = .ok (.aload_n 0, 1) := by decide +kernel
theorem dX7_content_1 : decode cX7_content 1 = .ok (.iload_n 1, 1) := by decide +kernel
theorem dX7_content_2 : decode cX7_content 2 = .ok (.invokevirtual 101, 3) := by decide +kernel
theorem dX7_content_5 : decode cX7_content 5 = .ok (.iload_n 2, 1) := by decide +kernel
theorem dX7_content_6 : decode cX7_content 6 = .ok (.iload_n 3, 1) := by decide +kernel
theorem dX7_content_7 : decode cX7_content 7 = .ok (.invokestatic 141, 3) := by decide +kernel
theorem dX7_content_10 : decode cX7_content 10 = .ok (.istore 4, 2) := by decide +kernel
theorem dX7_content_12 : decode cX7_content 12 = .ok (.aload_n 0, 1) := by decide +kernel
theorem dX7_content_13 : decode cX7_content 13 = .ok (.getfield 21, 3) := by decide +kernel
theorem dX7_content_16 : decode cX7_content 16 = .ok (.iload 4, 2) := by decide +kernel
theorem dX7_content_18 : decode cX7_content 18 = .ok (.invokevirtual 144, 3) := by decide +kernel
theorem dX7_content_21 : decode cX7_content 21 = .ok (.iconst (-1), 1) := by decide +kernel
theorem dX7_content_22 : decode cX7_content 22 = .ok (.if_icmp .eq 12, 3) := by decide +kernel
theorem dX7_content_25 : decode cX7_content 25 = .ok (.aload_n 0, 1) := by decide +kernel
theorem dX7_content_26 : decode cX7_content 26 = .ok (.iload_n 1, 1) := by decide +kernel
theorem dX7_content_27 : decode cX7_content 27 = .ok (.iload 4, 2) := by decide +kernel
theorem dX7_content_29 : decode cX7_content 29 = .ok (.invokevirtual 148, 3) := by decide +kernel
theorem dX7_content_32 : decode cX7_content 32 = .ok (.iconst 0, 1) := by decide +kernel
theorem dX7_content_33 : decode cX7_content 33 = .ok (.ireturn, 1) := by decide +kernel
theorem dX7_content_34 : decode cX7_content 34 = .ok (.aload_n 0, 1) := by decide +kernel
theorem dX7_content_35 : decode cX7_content 35 = .ok (.getfield 21, 3) := by decide +kernel
theorem dX7_content_38 : decode cX7_content 38 = .ok (.getfield 151, 3) := by decide +kernel
theorem dX7_content_41 : decode cX7_content 41 = .ok (.bipush 100, 2) := by decide +kernel
theorem dX7_content_43 : decode cX7_content 43 = .ok (.if_icmp .lt 13, 3) := by decide +kernel
theorem dX7_content_46 : decode cX7_content 46 = .ok (.new 119, 3) := by decide +kernel
theorem dX7_content_49 : decode cX7_content 49 = .ok (.dup, 1) := by decide +kernel
theorem dX7_content_50 : decode cX7_content 50 = .ok (.ldc 154, 2) := by decide +kernel
theorem dX7_content_52 : decode cX7_content 52 = .ok (.invokespecial 123, 3) := by decide +kernel
theorem dX7_content_55 : decode cX7_content 55 = .ok (.athrow, 1) := by decide +kernel
theorem dX7_content_56 : decode cX7_content 56 = .ok (.aload_n 0, 1) := by decide +kernel
theorem dX7_content_57 : decode cX7_content 57 = .ok (.getfield 21, 3) := by decide +kernel
theorem dX7_content_60 : decode cX7_content 60 = .ok (.iload_n 1, 1) := by decide +kernel
theorem dX7_content_61 : decode cX7_content 61 = .ok (.iload 4, 2) := by decide +kernel
theorem dX7_content_63 : decode cX7_content 63 = .ok (.invokevirtual 156, 3) := by decide +kernel
theorem dX7_content_66 : decode cX7_content 66 = .ok (.iconst 1, 1) := by decide +kernel
theorem dX7_content_67 : decode cX7_content 67 = .ok (.ireturn, 1) := by decide +kernel
theorem dX7_shows_0 : decode cX7_shows 0 = .ok (.iload_n 1, 1) := by decide +kernel
theorem dX7_shows_1 : decode cX7_shows 1 = .ok (.iload_n 2, 1) := by decide +kernel
theorem dX7_shows_2 : decode cX7_shows 2 = .ok (.invokestatic 141, 3) := by decide +kernel
theorem dX7_shows_5 : decode cX7_shows 5 = .ok (.pop, 1) := by decide +kernel
theorem dX7_shows_6 : decode cX7_shows 6 = .ok (.aload_n 0, 1) := by decide +kernel
theorem dX7_shows_7 : decode cX7_shows 7 = .ok (.getfield 37, 3) := by decide +kernel
theorem dX7_shows_10 : decode cX7_shows 10 = .ok (.iload_n 1, 1) := by decide +kernel
theorem dX7_shows_11 : decode cX7_shows 11 = .ok (.iload_n 2, 1) := by decide +kernel
theorem dX7_shows_12 : decode cX7_shows 12 = .ok (.invokevirtual 159, 3) := by decide +kernel
theorem dX7_shows_15 : decode cX7_shows 15 = .ok (.ireturn, 1) := by decide +kernel
theorem dX7_walk_0 : decode cX7_walk 0 = .ok (.aload_n 0, 1) := by decide +kernel
theorem dX7_walk_1 : decode cX7_walk 1 = .ok (.getfield 30, 3) := by decide +kernel
theorem dX7_walk_4 : decode cX7_walk 4 = .ok (.invokevirtual 162, 3) := by decide +kernel
theorem dX7_walk_7 : decode cX7_walk 7 = .ok (.aload_n 0, 1) := by decide +kernel
theorem dX7_walk_8 : decode cX7_walk 8 = .ok (.getfield 30, 3) := by decide +kernel
theorem dX7_walk_11 : decode cX7_walk 11 = .ok (.getfield 165, 3) := by decide +kernel
theorem dX7_walk_14 : decode cX7_walk 14 = .ok (.ireturn, 1) := by decide +kernel
theorem dX7_at_0 : decode cX7_at 0 = .ok (.iload_n 2, 1) := by decide +kernel
theorem dX7_at_1 : decode cX7_at 1 = .ok (.invokestatic 166, 3) := by decide +kernel
theorem dX7_at_4 : decode cX7_at 4 = .ok (.aload_n 0, 1) := by decide +kernel
theorem dX7_at_5 : decode cX7_at 5 = .ok (.getfield 30, 3) := by decide +kernel
theorem dX7_at_8 : decode cX7_at 8 = .ok (.invokevirtual 162, 3) := by decide +kernel
theorem dX7_at_11 : decode cX7_at 11 = .ok (.iload_n 1, 1) := by decide +kernel
theorem dX7_at_12 : decode cX7_at 12 = .ok (.ifCond .lt 14, 3) := by decide +kernel
theorem dX7_at_15 : decode cX7_at 15 = .ok (.iload_n 1, 1) := by decide +kernel
theorem dX7_at_16 : decode cX7_at 16 = .ok (.aload_n 0, 1) := by decide +kernel
theorem dX7_at_17 : decode cX7_at 17 = .ok (.getfield 30, 3) := by decide +kernel
theorem dX7_at_20 : decode cX7_at 20 = .ok (.getfield 165, 3) := by decide +kernel
theorem dX7_at_23 : decode cX7_at 23 = .ok (.if_icmp .lt 13, 3) := by decide +kernel
theorem dX7_at_26 : decode cX7_at 26 = .ok (.new 169, 3) := by decide +kernel
theorem dX7_at_29 : decode cX7_at 29 = .ok (.dup, 1) := by decide +kernel
theorem dX7_at_30 : decode cX7_at 30 = .ok (.ldc 171, 2) := by decide +kernel
theorem dX7_at_32 : decode cX7_at 32 = .ok (.invokespecial 173, 3) := by decide +kernel
theorem dX7_at_35 : decode cX7_at 35 = .ok (.athrow, 1) := by decide +kernel
theorem dX7_at_36 : decode cX7_at 36 = .ok (.aload_n 0, 1) := by decide +kernel
theorem dX7_at_37 : decode cX7_at 37 = .ok (.getfield 30, 3) := by decide +kernel
theorem dX7_at_40 : decode cX7_at 40 = .ok (.getfield 174, 3) := by decide +kernel
theorem dX7_at_43 : decode cX7_at 43 = .ok (.iload_n 1, 1) := by decide +kernel
theorem dX7_at_44 : decode cX7_at 44 = .ok (.iaload, 1) := by decide +kernel
theorem dX7_at_45 : decode cX7_at 45 = .ok (.istore_n 3, 1) := by decide +kernel
theorem dX7_at_46 : decode cX7_at 46 = .ok (.iload_n 2, 1) := by decide +kernel
theorem dX7_at_47 : decode cX7_at 47 = .ok (.ifCond .ne 10, 3) := by decide +kernel
theorem dX7_at_50 : decode cX7_at 50 = .ok (.iload_n 3, 1) := by decide +kernel
theorem dX7_at_51 : decode cX7_at 51 = .ok (.bipush 20, 2) := by decide +kernel
theorem dX7_at_53 : decode cX7_at 53 = .ok (.idiv, 1) := by decide +kernel
theorem dX7_at_54 : decode cX7_at 54 = .ok (.goto 23, 3) := by decide +kernel
theorem dX7_at_57 : decode cX7_at 57 = .ok (.iload_n 2, 1) := by decide +kernel
theorem dX7_at_58 : decode cX7_at 58 = .ok (.iconst 1, 1) := by decide +kernel
theorem dX7_at_59 : decode cX7_at 59 = .ok (.if_icmp .ne 10, 3) := by decide +kernel
theorem dX7_at_62 : decode cX7_at 62 = .ok (.iload_n 3, 1) := by decide +kernel
theorem dX7_at_63 : decode cX7_at 63 = .ok (.bipush 20, 2) := by decide +kernel
theorem dX7_at_65 : decode cX7_at 65 = .ok (.irem, 1) := by decide +kernel
theorem dX7_at_66 : decode cX7_at 66 = .ok (.goto 11, 3) := by decide +kernel
theorem dX7_at_69 : decode cX7_at 69 = .ok (.aload_n 0, 1) := by decide +kernel
theorem dX7_at_70 : decode cX7_at 70 = .ok (.getfield 21, 3) := by decide +kernel
theorem dX7_at_73 : decode cX7_at 73 = .ok (.iload_n 3, 1) := by decide +kernel
theorem dX7_at_74 : decode cX7_at 74 = .ok (.invokevirtual 144, 3) := by decide +kernel
theorem dX7_at_77 : decode cX7_at 77 = .ok (.ireturn, 1) := by decide +kernel
theorem dX7_parent_0 : decode cX7_parent 0 = .ok (.aload_n 0, 1) := by decide +kernel
theorem dX7_parent_1 : decode cX7_parent 1 = .ok (.getfield 21, 3) := by decide +kernel
theorem dX7_parent_4 : decode cX7_parent 4 = .ok (.iload_n 1, 1) := by decide +kernel
theorem dX7_parent_5 : decode cX7_parent 5 = .ok (.iload_n 2, 1) := by decide +kernel
theorem dX7_parent_6 : decode cX7_parent 6 = .ok (.invokestatic 141, 3) := by decide +kernel
theorem dX7_parent_9 : decode cX7_parent 9 = .ok (.invokevirtual 144, 3) := by decide +kernel
theorem dX7_parent_12 : decode cX7_parent 12 = .ok (.ireturn, 1) := by decide +kernel
theorem dX7_check_0 : decode cX7_check 0 = .ok (.aload_n 0, 1) := by decide +kernel
theorem dX7_check_1 : decode cX7_check 1 = .ok (.getfield 58, 3) := by decide +kernel
theorem dX7_check_4 : decode cX7_check 4 = .ok (.iconst 0, 1) := by decide +kernel
theorem dX7_check_5 : decode cX7_check 5 = .ok (.putfield 177, 3) := by decide +kernel
theorem dX7_check_8 : decode cX7_check 8 = .ok (.aload_n 0, 1) := by decide +kernel
theorem dX7_check_9 : decode cX7_check 9 = .ok (.invokevirtual 180, 3) := by decide +kernel
theorem dX7_check_12 : decode cX7_check 12 = .ok (.aload_n 0, 1) := by decide +kernel
theorem dX7_check_13 : decode cX7_check 13 = .ok (.invokevirtual 183, 3) := by decide +kernel
theorem dX7_check_16 : decode cX7_check 16 = .ok (.aload_n 0, 1) := by decide +kernel
theorem dX7_check_17 : decode cX7_check 17 = .ok (.invokevirtual 186, 3) := by decide +kernel
theorem dX7_check_20 : decode cX7_check 20 = .ok (.aload_n 0, 1) := by decide +kernel
theorem dX7_check_21 : decode cX7_check 21 = .ok (.invokevirtual 189, 3) := by decide +kernel
theorem dX7_check_24 : decode cX7_check 24 = .ok (.aload_n 0, 1) := by decide +kernel
theorem dX7_check_25 : decode cX7_check 25 = .ok (.invokevirtual 192, 3) := by decide +kernel
theorem dX7_check_28 : decode cX7_check 28 = .ok (.aload_n 0, 1) := by decide +kernel
theorem dX7_check_29 : decode cX7_check 29 = .ok (.invokevirtual 195, 3) := by decide +kernel
theorem dX7_check_32 : decode cX7_check 32 = .ok (.aload_n 0, 1) := by decide +kernel
theorem dX7_check_33 : decode cX7_check 33 = .ok (.invokevirtual 198, 3) := by decide +kernel
theorem dX7_check_36 : decode cX7_check 36 = .ok (.aload_n 0, 1) := by decide +kernel
theorem dX7_check_37 : decode cX7_check 37 = .ok (.invokevirtual 201, 3) := by decide +kernel
theorem dX7_check_40 : decode cX7_check 40 = .ok (.aload_n 0, 1) := by decide +kernel
theorem dX7_check_41 : decode cX7_check 41 = .ok (.invokevirtual 204, 3) := by decide +kernel
theorem dX7_check_44 : decode cX7_check 44 = .ok (.aload_n 0, 1) := by decide +kernel
theorem dX7_check_45 : decode cX7_check 45 = .ok (.invokevirtual 207, 3) := by decide +kernel
theorem dX7_check_48 : decode cX7_check 48 = .ok (.aload_n 0, 1) := by decide +kernel
theorem dX7_check_49 : decode cX7_check 49 = .ok (.getfield 58, 3) := by decide +kernel
theorem dX7_check_52 : decode cX7_check 52 = .ok (.getfield 177, 3) := by decide +kernel
theorem dX7_check_55 : decode cX7_check 55 = .ok (.ireturn, 1) := by decide +kernel
theorem dX7_fault_0 : decode cX7_fault 0 = .ok (.iload_n 2, 1) := by decide +kernel
theorem dX7_fault_1 : decode cX7_fault 1 = .ok (.invokestatic 166, 3) := by decide +kernel
theorem dX7_fault_4 : decode cX7_fault 4 = .ok (.iload_n 1, 1) := by decide +kernel
theorem dX7_fault_5 : decode cX7_fault 5 = .ok (.ifCond .lt 14, 3) := by decide +kernel
theorem dX7_fault_8 : decode cX7_fault 8 = .ok (.iload_n 1, 1) := by decide +kernel
theorem dX7_fault_9 : decode cX7_fault 9 = .ok (.aload_n 0, 1) := by decide +kernel
theorem dX7_fault_10 : decode cX7_fault 10 = .ok (.getfield 58, 3) := by decide +kernel
theorem dX7_fault_13 : decode cX7_fault 13 = .ok (.getfield 177, 3) := by decide +kernel
theorem dX7_fault_16 : decode cX7_fault 16 = .ok (.if_icmp .lt 13, 3) := by decide +kernel
theorem dX7_fault_19 : decode cX7_fault 19 = .ok (.new 169, 3) := by decide +kernel
theorem dX7_fault_22 : decode cX7_fault 22 = .ok (.dup, 1) := by decide +kernel
theorem dX7_fault_23 : decode cX7_fault 23 = .ok (.ldc 210, 2) := by decide +kernel
theorem dX7_fault_25 : decode cX7_fault 25 = .ok (.invokespecial 173, 3) := by decide +kernel
theorem dX7_fault_28 : decode cX7_fault 28 = .ok (.athrow, 1) := by decide +kernel
theorem dX7_fault_29 : decode cX7_fault 29 = .ok (.iload_n 2, 1) := by decide +kernel
theorem dX7_fault_30 : decode cX7_fault 30 = .ok (.ifCond .ne 15, 3) := by decide +kernel
theorem dX7_fault_33 : decode cX7_fault 33 = .ok (.aload_n 0, 1) := by decide +kernel
theorem dX7_fault_34 : decode cX7_fault 34 = .ok (.getfield 58, 3) := by decide +kernel
theorem dX7_fault_37 : decode cX7_fault 37 = .ok (.getfield 212, 3) := by decide +kernel
theorem dX7_fault_40 : decode cX7_fault 40 = .ok (.iload_n 1, 1) := by decide +kernel
theorem dX7_fault_41 : decode cX7_fault 41 = .ok (.iaload, 1) := by decide +kernel
theorem dX7_fault_42 : decode cX7_fault 42 = .ok (.goto 29, 3) := by decide +kernel
theorem dX7_fault_45 : decode cX7_fault 45 = .ok (.iload_n 2, 1) := by decide +kernel
theorem dX7_fault_46 : decode cX7_fault 46 = .ok (.iconst 1, 1) := by decide +kernel
theorem dX7_fault_47 : decode cX7_fault 47 = .ok (.if_icmp .ne 15, 3) := by decide +kernel
theorem dX7_fault_50 : decode cX7_fault 50 = .ok (.aload_n 0, 1) := by decide +kernel
theorem dX7_fault_51 : decode cX7_fault 51 = .ok (.getfield 58, 3) := by decide +kernel
theorem dX7_fault_54 : decode cX7_fault 54 = .ok (.getfield 215, 3) := by decide +kernel
theorem dX7_fault_57 : decode cX7_fault 57 = .ok (.iload_n 1, 1) := by decide +kernel
theorem dX7_fault_58 : decode cX7_fault 58 = .ok (.iaload, 1) := by decide +kernel
theorem dX7_fault_59 : decode cX7_fault 59 = .ok (.goto 12, 3) := by decide +kernel
theorem dX7_fault_62 : decode cX7_fault 62 = .ok (.aload_n 0, 1) := by decide +kernel
theorem dX7_fault_63 : decode cX7_fault 63 = .ok (.getfield 58, 3) := by decide +kernel
theorem dX7_fault_66 : decode cX7_fault 66 = .ok (.getfield 217, 3) := by decide +kernel
theorem dX7_fault_69 : decode cX7_fault 69 = .ok (.iload_n 1, 1) := by decide +kernel
theorem dX7_fault_70 : decode cX7_fault 70 = .ok (.iaload, 1) := by decide +kernel
theorem dX7_fault_71 : decode cX7_fault 71 = .ok (.ireturn, 1) := by decide +kernel
theorem dX7_heading_0 : decode cX7_heading 0 = .ok (.aload_n 0, 1) := by decide +kernel
theorem dX7_heading_1 : decode cX7_heading 1 = .ok (.iload_n 1, 1) := by decide +kernel
theorem dX7_heading_2 : decode cX7_heading 2 = .ok (.invokevirtual 101, 3) := by decide +kernel
theorem dX7_heading_5 : decode cX7_heading 5 = .ok (.iload_n 2, 1) := by decide +kernel
theorem dX7_heading_6 : decode cX7_heading 6 = .ok (.iconst 1, 1) := by decide +kernel
theorem dX7_heading_7 : decode cX7_heading 7 = .ok (.if_icmp .lt 9, 3) := by decide +kernel
theorem dX7_heading_10 : decode cX7_heading 10 = .ok (.iload_n 2, 1) := by decide +kernel
theorem dX7_heading_11 : decode cX7_heading 11 = .ok (.bipush 6, 2) := by decide +kernel
theorem dX7_heading_13 : decode cX7_heading 13 = .ok (.if_icmp .le 13, 3) := by decide +kernel
theorem dX7_heading_16 : decode cX7_heading 16 = .ok (.new 109, 3) := by decide +kernel
theorem dX7_heading_19 : decode cX7_heading 19 = .ok (.dup, 1) := by decide +kernel
theorem dX7_heading_20 : decode cX7_heading 20 = .ok (.ldc 220, 2) := by decide +kernel
theorem dX7_heading_22 : decode cX7_heading 22 = .ok (.invokespecial 113, 3) := by decide +kernel
theorem dX7_heading_25 : decode cX7_heading 25 = .ok (.athrow, 1) := by decide +kernel
theorem dX7_heading_26 : decode cX7_heading 26 = .ok (.aload_n 0, 1) := by decide +kernel
theorem dX7_heading_27 : decode cX7_heading 27 = .ok (.getfield 62, 3) := by decide +kernel
theorem dX7_heading_30 : decode cX7_heading 30 = .ok (.iload_n 1, 1) := by decide +kernel
theorem dX7_heading_31 : decode cX7_heading 31 = .ok (.iaload, 1) := by decide +kernel
theorem dX7_heading_32 : decode cX7_heading 32 = .ok (.istore_n 3, 1) := by decide +kernel
theorem dX7_heading_33 : decode cX7_heading 33 = .ok (.aload_n 0, 1) := by decide +kernel
theorem dX7_heading_34 : decode cX7_heading 34 = .ok (.getfield 62, 3) := by decide +kernel
theorem dX7_heading_37 : decode cX7_heading 37 = .ok (.iload_n 1, 1) := by decide +kernel
theorem dX7_heading_38 : decode cX7_heading 38 = .ok (.iload_n 2, 1) := by decide +kernel
theorem dX7_heading_39 : decode cX7_heading 39 = .ok (.iastore, 1) := by decide +kernel
theorem dX7_heading_40 : decode cX7_heading 40 = .ok (.iload_n 3, 1) := by decide +kernel
theorem dX7_heading_41 : decode cX7_heading 41 = .ok (.ireturn, 1) := by decide +kernel
theorem dX7_words_0 : decode cX7_words 0 = .ok (.aload_n 0, 1) := by decide +kernel
theorem dX7_words_1 : decode cX7_words 1 = .ok (.iload_n 1, 1) := by decide +kernel
theorem dX7_words_2 : decode cX7_words 2 = .ok (.invokevirtual 101, 3) := by decide +kernel
theorem dX7_words_5 : decode cX7_words 5 = .ok (.aload_n 0, 1) := by decide +kernel
theorem dX7_words_6 : decode cX7_words 6 = .ok (.getfield 66, 3) := by decide +kernel
theorem dX7_words_9 : decode cX7_words 9 = .ok (.iload_n 1, 1) := by decide +kernel
theorem dX7_words_10 : decode cX7_words 10 = .ok (.baload, 1) := by decide +kernel
theorem dX7_words_11 : decode cX7_words 11 = .ok (.ifCond .eq 7, 3) := by decide +kernel
theorem dX7_words_14 : decode cX7_words 14 = .ok (.iconst 1, 1) := by decide +kernel
theorem dX7_words_15 : decode cX7_words 15 = .ok (.goto 4, 3) := by decide +kernel
theorem dX7_words_18 : decode cX7_words 18 = .ok (.iconst 0, 1) := by decide +kernel
theorem dX7_words_19 : decode cX7_words 19 = .ok (.istore_n 3, 1) := by decide +kernel
theorem dX7_words_20 : decode cX7_words 20 = .ok (.aload_n 0, 1) := by decide +kernel
theorem dX7_words_21 : decode cX7_words 21 = .ok (.getfield 66, 3) := by decide +kernel
theorem dX7_words_24 : decode cX7_words 24 = .ok (.iload_n 1, 1) := by decide +kernel
theorem dX7_words_25 : decode cX7_words 25 = .ok (.iload_n 2, 1) := by decide +kernel
theorem dX7_words_26 : decode cX7_words 26 = .ok (.bastore, 1) := by decide +kernel
theorem dX7_words_27 : decode cX7_words 27 = .ok (.iload_n 3, 1) := by decide +kernel
theorem dX7_words_28 : decode cX7_words 28 = .ok (.ireturn, 1) := by decide +kernel
theorem dX7_span_0 : decode cX7_span 0 = .ok (.aload_n 0, 1) := by decide +kernel
theorem dX7_span_1 : decode cX7_span 1 = .ok (.iload_n 1, 1) := by decide +kernel
theorem dX7_span_2 : decode cX7_span 2 = .ok (.invokevirtual 101, 3) := by decide +kernel
theorem dX7_span_5 : decode cX7_span 5 = .ok (.iload_n 2, 1) := by decide +kernel
theorem dX7_span_6 : decode cX7_span 6 = .ok (.iconst 1, 1) := by decide +kernel
theorem dX7_span_7 : decode cX7_span 7 = .ok (.if_icmp .lt 20, 3) := by decide +kernel
theorem dX7_span_10 : decode cX7_span 10 = .ok (.iload_n 2, 1) := by decide +kernel
theorem dX7_span_11 : decode cX7_span 11 = .ok (.bipush 8, 2) := by decide +kernel
theorem dX7_span_13 : decode cX7_span 13 = .ok (.if_icmp .gt 14, 3) := by decide +kernel
theorem dX7_span_16 : decode cX7_span 16 = .ok (.iload_n 3, 1) := by decide +kernel
theorem dX7_span_17 : decode cX7_span 17 = .ok (.iconst 1, 1) := by decide +kernel
theorem dX7_span_18 : decode cX7_span 18 = .ok (.if_icmp .lt 9, 3) := by decide +kernel
theorem dX7_span_21 : decode cX7_span 21 = .ok (.iload_n 3, 1) := by decide +kernel
theorem dX7_span_22 : decode cX7_span 22 = .ok (.bipush 8, 2) := by decide +kernel
theorem dX7_span_24 : decode cX7_span 24 = .ok (.if_icmp .le 13, 3) := by decide +kernel
theorem dX7_span_27 : decode cX7_span 27 = .ok (.new 109, 3) := by decide +kernel
theorem dX7_span_30 : decode cX7_span 30 = .ok (.dup, 1) := by decide +kernel
theorem dX7_span_31 : decode cX7_span 31 = .ok (.ldc 222, 2) := by decide +kernel
theorem dX7_span_33 : decode cX7_span 33 = .ok (.invokespecial 113, 3) := by decide +kernel
theorem dX7_span_36 : decode cX7_span 36 = .ok (.athrow, 1) := by decide +kernel
theorem dX7_span_37 : decode cX7_span 37 = .ok (.bipush 10, 2) := by decide +kernel
theorem dX7_span_39 : decode cX7_span 39 = .ok (.aload_n 0, 1) := by decide +kernel
theorem dX7_span_40 : decode cX7_span 40 = .ok (.getfield 70, 3) := by decide +kernel
theorem dX7_span_43 : decode cX7_span 43 = .ok (.iload_n 1, 1) := by decide +kernel
theorem dX7_span_44 : decode cX7_span 44 = .ok (.iaload, 1) := by decide +kernel
theorem dX7_span_45 : decode cX7_span 45 = .ok (.imul, 1) := by decide +kernel
theorem dX7_span_46 : decode cX7_span 46 = .ok (.aload_n 0, 1) := by decide +kernel
theorem dX7_span_47 : decode cX7_span 47 = .ok (.getfield 73, 3) := by decide +kernel
theorem dX7_span_50 : decode cX7_span 50 = .ok (.iload_n 1, 1) := by decide +kernel
theorem dX7_span_51 : decode cX7_span 51 = .ok (.iaload, 1) := by decide +kernel
theorem dX7_span_52 : decode cX7_span 52 = .ok (.iadd, 1) := by decide +kernel
theorem dX7_span_53 : decode cX7_span 53 = .ok (.istore 4, 2) := by decide +kernel
theorem dX7_span_55 : decode cX7_span 55 = .ok (.aload_n 0, 1) := by decide +kernel
theorem dX7_span_56 : decode cX7_span 56 = .ok (.getfield 70, 3) := by decide +kernel
theorem dX7_span_59 : decode cX7_span 59 = .ok (.iload_n 1, 1) := by decide +kernel
theorem dX7_span_60 : decode cX7_span 60 = .ok (.iload_n 2, 1) := by decide +kernel
theorem dX7_span_61 : decode cX7_span 61 = .ok (.iastore, 1) := by decide +kernel
theorem dX7_span_62 : decode cX7_span 62 = .ok (.aload_n 0, 1) := by decide +kernel
theorem dX7_span_63 : decode cX7_span 63 = .ok (.getfield 73, 3) := by decide +kernel
theorem dX7_span_66 : decode cX7_span 66 = .ok (.iload_n 1, 1) := by decide +kernel
theorem dX7_span_67 : decode cX7_span 67 = .ok (.iload_n 3, 1) := by decide +kernel
theorem dX7_span_68 : decode cX7_span 68 = .ok (.iastore, 1) := by decide +kernel
theorem dX7_span_69 : decode cX7_span 69 = .ok (.iload 4, 2) := by decide +kernel
theorem dX7_span_71 : decode cX7_span 71 = .ok (.ireturn, 1) := by decide +kernel
theorem dX7_outline_0 : decode cX7_outline 0 = .ok (.aload_n 0, 1) := by decide +kernel
theorem dX7_outline_1 : decode cX7_outline 1 = .ok (.invokevirtual 224, 3) := by decide +kernel
theorem dX7_outline_4 : decode cX7_outline 4 = .ok (.iload_n 1, 1) := by decide +kernel
theorem dX7_outline_5 : decode cX7_outline 5 = .ok (.iconst (-1), 1) := by decide +kernel
theorem dX7_outline_6 : decode cX7_outline 6 = .ok (.if_icmp .ne 11, 3) := by decide +kernel
theorem dX7_outline_9 : decode cX7_outline 9 = .ok (.aload_n 0, 1) := by decide +kernel
theorem dX7_outline_10 : decode cX7_outline 10 = .ok (.getfield 44, 3) := by decide +kernel
theorem dX7_outline_13 : decode cX7_outline 13 = .ok (.getfield 227, 3) := by decide +kernel
theorem dX7_outline_16 : decode cX7_outline 16 = .ok (.ireturn, 1) := by decide +kernel
theorem dX7_outline_17 : decode cX7_outline 17 = .ok (.iload_n 2, 1) := by decide +kernel
theorem dX7_outline_18 : decode cX7_outline 18 = .ok (.invokestatic 166, 3) := by decide +kernel
theorem dX7_outline_21 : decode cX7_outline 21 = .ok (.iload_n 1, 1) := by decide +kernel
theorem dX7_outline_22 : decode cX7_outline 22 = .ok (.ifCond .lt 14, 3) := by decide +kernel
theorem dX7_outline_25 : decode cX7_outline 25 = .ok (.iload_n 1, 1) := by decide +kernel
theorem dX7_outline_26 : decode cX7_outline 26 = .ok (.aload_n 0, 1) := by decide +kernel
theorem dX7_outline_27 : decode cX7_outline 27 = .ok (.getfield 44, 3) := by decide +kernel
theorem dX7_outline_30 : decode cX7_outline 30 = .ok (.getfield 227, 3) := by decide +kernel
theorem dX7_outline_33 : decode cX7_outline 33 = .ok (.if_icmp .lt 13, 3) := by decide +kernel
theorem dX7_outline_36 : decode cX7_outline 36 = .ok (.new 169, 3) := by decide +kernel
theorem dX7_outline_39 : decode cX7_outline 39 = .ok (.dup, 1) := by decide +kernel
theorem dX7_outline_40 : decode cX7_outline 40 = .ok (.ldc 228, 2) := by decide +kernel
theorem dX7_outline_42 : decode cX7_outline 42 = .ok (.invokespecial 173, 3) := by decide +kernel
theorem dX7_outline_45 : decode cX7_outline 45 = .ok (.athrow, 1) := by decide +kernel
theorem dX7_outline_46 : decode cX7_outline 46 = .ok (.iload_n 2, 1) := by decide +kernel
theorem dX7_outline_47 : decode cX7_outline 47 = .ok (.ifCond .ne 15, 3) := by decide +kernel
theorem dX7_outline_50 : decode cX7_outline 50 = .ok (.aload_n 0, 1) := by decide +kernel
theorem dX7_outline_51 : decode cX7_outline 51 = .ok (.getfield 44, 3) := by decide +kernel
theorem dX7_outline_54 : decode cX7_outline 54 = .ok (.getfield 230, 3) := by decide +kernel
theorem dX7_outline_57 : decode cX7_outline 57 = .ok (.iload_n 1, 1) := by decide +kernel
theorem dX7_outline_58 : decode cX7_outline 58 = .ok (.iaload, 1) := by decide +kernel
theorem dX7_outline_59 : decode cX7_outline 59 = .ok (.goto 29, 3) := by decide +kernel
theorem dX7_outline_62 : decode cX7_outline 62 = .ok (.iload_n 2, 1) := by decide +kernel
theorem dX7_outline_63 : decode cX7_outline 63 = .ok (.iconst 1, 1) := by decide +kernel
theorem dX7_outline_64 : decode cX7_outline 64 = .ok (.if_icmp .ne 15, 3) := by decide +kernel
theorem dX7_outline_67 : decode cX7_outline 67 = .ok (.aload_n 0, 1) := by decide +kernel
theorem dX7_outline_68 : decode cX7_outline 68 = .ok (.getfield 44, 3) := by decide +kernel
theorem dX7_outline_71 : decode cX7_outline 71 = .ok (.getfield 231, 3) := by decide +kernel
theorem dX7_outline_74 : decode cX7_outline 74 = .ok (.iload_n 1, 1) := by decide +kernel
theorem dX7_outline_75 : decode cX7_outline 75 = .ok (.iaload, 1) := by decide +kernel
theorem dX7_outline_76 : decode cX7_outline 76 = .ok (.goto 12, 3) := by decide +kernel
theorem dX7_outline_79 : decode cX7_outline 79 = .ok (.aload_n 0, 1) := by decide +kernel
theorem dX7_outline_80 : decode cX7_outline 80 = .ok (.getfield 44, 3) := by decide +kernel
theorem dX7_outline_83 : decode cX7_outline 83 = .ok (.getfield 234, 3) := by decide +kernel
theorem dX7_outline_86 : decode cX7_outline 86 = .ok (.iload_n 1, 1) := by decide +kernel
theorem dX7_outline_87 : decode cX7_outline 87 = .ok (.iaload, 1) := by decide +kernel
theorem dX7_outline_88 : decode cX7_outline 88 = .ok (.ireturn, 1) := by decide +kernel
theorem dX7_untagged_0 : decode cX7_untagged 0 = .ok (.aload_n 0, 1) := by decide +kernel
theorem dX7_untagged_1 : decode cX7_untagged 1 = .ok (.invokevirtual 235, 3) := by decide +kernel
theorem dX7_untagged_4 : decode cX7_untagged 4 = .ok (.iload_n 1, 1) := by decide +kernel
theorem dX7_untagged_5 : decode cX7_untagged 5 = .ok (.iconst (-1), 1) := by decide +kernel
theorem dX7_untagged_6 : decode cX7_untagged 6 = .ok (.if_icmp .ne 8, 3) := by decide +kernel
theorem dX7_untagged_9 : decode cX7_untagged 9 = .ok (.aload_n 0, 1) := by decide +kernel
theorem dX7_untagged_10 : decode cX7_untagged 10 = .ok (.getfield 89, 3) := by decide +kernel
theorem dX7_untagged_13 : decode cX7_untagged 13 = .ok (.ireturn, 1) := by decide +kernel
theorem dX7_untagged_14 : decode cX7_untagged 14 = .ok (.iload_n 1, 1) := by decide +kernel
theorem dX7_untagged_15 : decode cX7_untagged 15 = .ok (.ifCond .lt 11, 3) := by decide +kernel
theorem dX7_untagged_18 : decode cX7_untagged 18 = .ok (.iload_n 1, 1) := by decide +kernel
theorem dX7_untagged_19 : decode cX7_untagged 19 = .ok (.aload_n 0, 1) := by decide +kernel
theorem dX7_untagged_20 : decode cX7_untagged 20 = .ok (.getfield 89, 3) := by decide +kernel
theorem dX7_untagged_23 : decode cX7_untagged 23 = .ok (.if_icmp .lt 13, 3) := by decide +kernel
theorem dX7_untagged_26 : decode cX7_untagged 26 = .ok (.new 169, 3) := by decide +kernel
theorem dX7_untagged_29 : decode cX7_untagged 29 = .ok (.dup, 1) := by decide +kernel
theorem dX7_untagged_30 : decode cX7_untagged 30 = .ok (.ldc 238, 2) := by decide +kernel
theorem dX7_untagged_32 : decode cX7_untagged 32 = .ok (.invokespecial 173, 3) := by decide +kernel
theorem dX7_untagged_35 : decode cX7_untagged 35 = .ok (.athrow, 1) := by decide +kernel
theorem dX7_untagged_36 : decode cX7_untagged 36 = .ok (.aload_n 0, 1) := by decide +kernel
theorem dX7_untagged_37 : decode cX7_untagged 37 = .ok (.getfield 86, 3) := by decide +kernel
theorem dX7_untagged_40 : decode cX7_untagged 40 = .ok (.iload_n 1, 1) := by decide +kernel
theorem dX7_untagged_41 : decode cX7_untagged 41 = .ok (.iaload, 1) := by decide +kernel
theorem dX7_untagged_42 : decode cX7_untagged 42 = .ok (.ireturn, 1) := by decide +kernel
theorem dX7_needElement_0 : decode cX7_needElement 0 = .ok (.iload_n 1, 1) := by decide +kernel
theorem dX7_needElement_1 : decode cX7_needElement 1 = .ok (.ifCond .lt 14, 3) := by decide +kernel
theorem dX7_needElement_4 : decode cX7_needElement 4 = .ok (.iload_n 1, 1) := by decide +kernel
theorem dX7_needElement_5 : decode cX7_needElement 5 = .ok (.aload_n 0, 1) := by decide +kernel
theorem dX7_needElement_6 : decode cX7_needElement 6 = .ok (.getfield 21, 3) := by decide +kernel
theorem dX7_needElement_9 : decode cX7_needElement 9 = .ok (.getfield 116, 3) := by decide +kernel
theorem dX7_needElement_12 : decode cX7_needElement 12 = .ok (.if_icmp .lt 13, 3) := by decide +kernel
theorem dX7_needElement_15 : decode cX7_needElement 15 = .ok (.new 240, 3) := by decide +kernel
theorem dX7_needElement_18 : decode cX7_needElement 18 = .ok (.dup, 1) := by decide +kernel
theorem dX7_needElement_19 : decode cX7_needElement 19 = .ok (.ldc 242, 2) := by decide +kernel
theorem dX7_needElement_21 : decode cX7_needElement 21 = .ok (.invokespecial 244, 3) := by decide +kernel
theorem dX7_needElement_24 : decode cX7_needElement 24 = .ok (.athrow, 1) := by decide +kernel
theorem dX7_needElement_25 : decode cX7_needElement 25 = .ok (.return_, 1) := by decide +kernel
theorem dX7_needCode_0 : decode cX7_needCode 0 = .ok (.iload_n 0, 1) := by decide +kernel
theorem dX7_needCode_1 : decode cX7_needCode 1 = .ok (.ifCond .lt 19, 3) := by decide +kernel
theorem dX7_needCode_4 : decode cX7_needCode 4 = .ok (.iload_n 0, 1) := by decide +kernel
theorem dX7_needCode_5 : decode cX7_needCode 5 = .ok (.bipush 10, 2) := by decide +kernel
theorem dX7_needCode_7 : decode cX7_needCode 7 = .ok (.if_icmp .ge 13, 3) := by decide +kernel
theorem dX7_needCode_10 : decode cX7_needCode 10 = .ok (.iload_n 1, 1) := by decide +kernel
theorem dX7_needCode_11 : decode cX7_needCode 11 = .ok (.ifCond .lt 9, 3) := by decide +kernel
theorem dX7_needCode_14 : decode cX7_needCode 14 = .ok (.iload_n 1, 1) := by decide +kernel
theorem dX7_needCode_15 : decode cX7_needCode 15 = .ok (.bipush 20, 2) := by decide +kernel
theorem dX7_needCode_17 : decode cX7_needCode 17 = .ok (.if_icmp .lt 13, 3) := by decide +kernel
theorem dX7_needCode_20 : decode cX7_needCode 20 = .ok (.new 109, 3) := by decide +kernel
theorem dX7_needCode_23 : decode cX7_needCode 23 = .ok (.dup, 1) := by decide +kernel
theorem dX7_needCode_24 : decode cX7_needCode 24 = .ok (.ldc 245, 2) := by decide +kernel
theorem dX7_needCode_26 : decode cX7_needCode 26 = .ok (.invokespecial 113, 3) := by decide +kernel
theorem dX7_needCode_29 : decode cX7_needCode 29 = .ok (.athrow, 1) := by decide +kernel
theorem dX7_needCode_30 : decode cX7_needCode 30 = .ok (.iload_n 0, 1) := by decide +kernel
theorem dX7_needCode_31 : decode cX7_needCode 31 = .ok (.bipush 20, 2) := by decide +kernel
theorem dX7_needCode_33 : decode cX7_needCode 33 = .ok (.imul, 1) := by decide +kernel
theorem dX7_needCode_34 : decode cX7_needCode 34 = .ok (.iload_n 1, 1) := by decide +kernel
theorem dX7_needCode_35 : decode cX7_needCode 35 = .ok (.iadd, 1) := by decide +kernel
theorem dX7_needCode_36 : decode cX7_needCode 36 = .ok (.ireturn, 1) := by decide +kernel
theorem dX7_needWhat_0 : decode cX7_needWhat 0 = .ok (.iload_n 0, 1) := by decide +kernel
theorem dX7_needWhat_1 : decode cX7_needWhat 1 = .ok (.ifCond .lt 8, 3) := by decide +kernel
theorem dX7_needWhat_4 : decode cX7_needWhat 4 = .ok (.iload_n 0, 1) := by decide +kernel
theorem dX7_needWhat_5 : decode cX7_needWhat 5 = .ok (.iconst 2, 1) := by decide +kernel
theorem dX7_needWhat_6 : decode cX7_needWhat 6 = .ok (.if_icmp .le 13, 3) := by decide +kernel
theorem dX7_needWhat_9 : decode cX7_needWhat 9 = .ok (.new 169, 3) := by decide +kernel
theorem dX7_needWhat_12 : decode cX7_needWhat 12 = .ok (.dup, 1) := by decide +kernel
theorem dX7_needWhat_13 : decode cX7_needWhat 13 = .ok (.ldc 247, 2) := by decide +kernel
theorem dX7_needWhat_15 : decode cX7_needWhat 15 = .ok (.invokespecial 173, 3) := by decide +kernel
theorem dX7_needWhat_18 : decode cX7_needWhat 18 = .ok (.athrow, 1) := by decide +kernel
theorem dX7_needWhat_19 : decode cX7_needWhat 19 = .ok (.return_, 1) := by decide +kernel
theorem dX7_keepRepeat_0 : decode cX7_keepRepeat 0 = .ok (.aload_n 0, 1) := by decide +kernel
theorem dX7_keepRepeat_1 : decode cX7_keepRepeat 1 = .ok (.getfield 82, 3) := by decide +kernel
theorem dX7_keepRepeat_4 : decode cX7_keepRepeat 4 = .ok (.bipush 40, 2) := by decide +kernel
theorem dX7_keepRepeat_6 : decode cX7_keepRepeat 6 = .ok (.if_icmp .ge 33, 3) := by decide +kernel
theorem dX7_keepRepeat_9 : decode cX7_keepRepeat 9 = .ok (.aload_n 0, 1) := by decide +kernel
theorem dX7_keepRepeat_10 : decode cX7_keepRepeat 10 = .ok (.getfield 76, 3) := by decide +kernel
theorem dX7_keepRepeat_13 : decode cX7_keepRepeat 13 = .ok (.aload_n 0, 1) := by decide +kernel
theorem dX7_keepRepeat_14 : decode cX7_keepRepeat 14 = .ok (.getfield 82, 3) := by decide +kernel
theorem dX7_keepRepeat_17 : decode cX7_keepRepeat 17 = .ok (.iload_n 1, 1) := by decide +kernel
theorem dX7_keepRepeat_18 : decode cX7_keepRepeat 18 = .ok (.iastore, 1) := by decide +kernel
theorem dX7_keepRepeat_19 : decode cX7_keepRepeat 19 = .ok (.aload_n 0, 1) := by decide +kernel
theorem dX7_keepRepeat_20 : decode cX7_keepRepeat 20 = .ok (.getfield 79, 3) := by decide +kernel
theorem dX7_keepRepeat_23 : decode cX7_keepRepeat 23 = .ok (.aload_n 0, 1) := by decide +kernel
theorem dX7_keepRepeat_24 : decode cX7_keepRepeat 24 = .ok (.getfield 82, 3) := by decide +kernel
theorem dX7_keepRepeat_27 : decode cX7_keepRepeat 27 = .ok (.iload_n 2, 1) := by decide +kernel
theorem dX7_keepRepeat_28 : decode cX7_keepRepeat 28 = .ok (.iastore, 1) := by decide +kernel
theorem dX7_keepRepeat_29 : decode cX7_keepRepeat 29 = .ok (.aload_n 0, 1) := by decide +kernel
theorem dX7_keepRepeat_30 : decode cX7_keepRepeat 30 = .ok (.dup, 1) := by decide +kernel
theorem dX7_keepRepeat_31 : decode cX7_keepRepeat 31 = .ok (.getfield 82, 3) := by decide +kernel
theorem dX7_keepRepeat_34 : decode cX7_keepRepeat 34 = .ok (.iconst 1, 1) := by decide +kernel
theorem dX7_keepRepeat_35 : decode cX7_keepRepeat 35 = .ok (.iadd, 1) := by decide +kernel
theorem dX7_keepRepeat_36 : decode cX7_keepRepeat 36 = .ok (.putfield 82, 3) := by decide +kernel
theorem dX7_keepRepeat_39 : decode cX7_keepRepeat 39 = .ok (.return_, 1) := by decide +kernel
theorem dX7_gatherHeadings_0 : decode cX7_gatherHeadings 0 = .ok (.aload_n 0, 1) := by decide +kernel
theorem dX7_gatherHeadings_1 : decode cX7_gatherHeadings 1 = .ok (.getfield 30, 3) := by decide +kernel
theorem dX7_gatherHeadings_4 : decode cX7_gatherHeadings 4 = .ok (.invokevirtual 162, 3) := by decide +kernel
theorem dX7_gatherHeadings_7 : decode cX7_gatherHeadings 7 = .ok (.aload_n 0, 1) := by decide +kernel
theorem dX7_gatherHeadings_8 : decode cX7_gatherHeadings 8 = .ok (.getfield 44, 3) := by decide +kernel
theorem dX7_gatherHeadings_11 : decode cX7_gatherHeadings 11 = .ok (.iconst 0, 1) := by decide +kernel
theorem dX7_gatherHeadings_12 : decode cX7_gatherHeadings 12 = .ok (.putfield 227, 3) := by decide +kernel
theorem dX7_gatherHeadings_15 : decode cX7_gatherHeadings 15 = .ok (.iconst 0, 1) := by decide +kernel
theorem dX7_gatherHeadings_16 : decode cX7_gatherHeadings 16 = .ok (.istore_n 1, 1) := by decide +kernel
theorem dX7_gatherHeadings_17 : decode cX7_gatherHeadings 17 = .ok (.iload_n 1, 1) := by decide +kernel
theorem dX7_gatherHeadings_18 : decode cX7_gatherHeadings 18 = .ok (.aload_n 0, 1) := by decide +kernel
theorem dX7_gatherHeadings_19 : decode cX7_gatherHeadings 19 = .ok (.getfield 30, 3) := by decide +kernel
theorem dX7_gatherHeadings_22 : decode cX7_gatherHeadings 22 = .ok (.getfield 249, 3) := by decide +kernel
theorem dX7_gatherHeadings_25 : decode cX7_gatherHeadings 25 = .ok (.if_icmp .ge 54, 3) := by decide +kernel
theorem dX7_gatherHeadings_28 : decode cX7_gatherHeadings 28 = .ok (.aload_n 0, 1) := by decide +kernel
theorem dX7_gatherHeadings_29 : decode cX7_gatherHeadings 29 = .ok (.getfield 30, 3) := by decide +kernel
theorem dX7_gatherHeadings_32 : decode cX7_gatherHeadings 32 = .ok (.getfield 250, 3) := by decide +kernel
theorem dX7_gatherHeadings_35 : decode cX7_gatherHeadings 35 = .ok (.iload_n 1, 1) := by decide +kernel
theorem dX7_gatherHeadings_36 : decode cX7_gatherHeadings 36 = .ok (.iaload, 1) := by decide +kernel
theorem dX7_gatherHeadings_37 : decode cX7_gatherHeadings 37 = .ok (.istore_n 2, 1) := by decide +kernel
theorem dX7_gatherHeadings_38 : decode cX7_gatherHeadings 38 = .ok (.aload_n 0, 1) := by decide +kernel
theorem dX7_gatherHeadings_39 : decode cX7_gatherHeadings 39 = .ok (.getfield 62, 3) := by decide +kernel
theorem dX7_gatherHeadings_42 : decode cX7_gatherHeadings 42 = .ok (.iload_n 2, 1) := by decide +kernel
theorem dX7_gatherHeadings_43 : decode cX7_gatherHeadings 43 = .ok (.iaload, 1) := by decide +kernel
theorem dX7_gatherHeadings_44 : decode cX7_gatherHeadings 44 = .ok (.ifCond .eq 29, 3) := by decide +kernel
theorem dX7_gatherHeadings_47 : decode cX7_gatherHeadings 47 = .ok (.aload_n 0, 1) := by decide +kernel
theorem dX7_gatherHeadings_48 : decode cX7_gatherHeadings 48 = .ok (.getfield 21, 3) := by decide +kernel
theorem dX7_gatherHeadings_51 : decode cX7_gatherHeadings 51 = .ok (.iload_n 2, 1) := by decide +kernel
theorem dX7_gatherHeadings_52 : decode cX7_gatherHeadings 52 = .ok (.invokevirtual 253, 3) := by decide +kernel
theorem dX7_gatherHeadings_55 : decode cX7_gatherHeadings 55 = .ok (.iconst 2, 1) := by decide +kernel
theorem dX7_gatherHeadings_56 : decode cX7_gatherHeadings 56 = .ok (.if_icmp .ne 17, 3) := by decide +kernel
theorem dX7_gatherHeadings_59 : decode cX7_gatherHeadings 59 = .ok (.aload_n 0, 1) := by decide +kernel
theorem dX7_gatherHeadings_60 : decode cX7_gatherHeadings 60 = .ok (.getfield 44, 3) := by decide +kernel
theorem dX7_gatherHeadings_63 : decode cX7_gatherHeadings 63 = .ok (.iload_n 2, 1) := by decide +kernel
theorem dX7_gatherHeadings_64 : decode cX7_gatherHeadings 64 = .ok (.aload_n 0, 1) := by decide +kernel
theorem dX7_gatherHeadings_65 : decode cX7_gatherHeadings 65 = .ok (.getfield 62, 3) := by decide +kernel
theorem dX7_gatherHeadings_68 : decode cX7_gatherHeadings 68 = .ok (.iload_n 2, 1) := by decide +kernel
theorem dX7_gatherHeadings_69 : decode cX7_gatherHeadings 69 = .ok (.iaload, 1) := by decide +kernel
theorem dX7_gatherHeadings_70 : decode cX7_gatherHeadings 70 = .ok (.invokevirtual 256, 3) := by decide +kernel
theorem dX7_gatherHeadings_73 : decode cX7_gatherHeadings 73 = .ok (.iinc 1 1, 3) := by decide +kernel
theorem dX7_gatherHeadings_76 : decode cX7_gatherHeadings 76 = .ok (.goto (-59), 3) := by decide +kernel
theorem dX7_gatherHeadings_79 : decode cX7_gatherHeadings 79 = .ok (.return_, 1) := by decide +kernel
theorem dX7_gatherLoose_0 : decode cX7_gatherLoose 0 = .ok (.aload_n 0, 1) := by decide +kernel
theorem dX7_gatherLoose_1 : decode cX7_gatherLoose 1 = .ok (.iconst 0, 1) := by decide +kernel
theorem dX7_gatherLoose_2 : decode cX7_gatherLoose 2 = .ok (.putfield 89, 3) := by decide +kernel
theorem dX7_gatherLoose_5 : decode cX7_gatherLoose 5 = .ok (.iconst 0, 1) := by decide +kernel
theorem dX7_gatherLoose_6 : decode cX7_gatherLoose 6 = .ok (.istore_n 1, 1) := by decide +kernel
theorem dX7_gatherLoose_7 : decode cX7_gatherLoose 7 = .ok (.iload_n 1, 1) := by decide +kernel
theorem dX7_gatherLoose_8 : decode cX7_gatherLoose 8 = .ok (.bipush 10, 2) := by decide +kernel
theorem dX7_gatherLoose_10 : decode cX7_gatherLoose 10 = .ok (.if_icmp .ge 81, 3) := by decide +kernel
theorem dX7_gatherLoose_13 : decode cX7_gatherLoose 13 = .ok (.iconst 0, 1) := by decide +kernel
theorem dX7_gatherLoose_14 : decode cX7_gatherLoose 14 = .ok (.istore_n 2, 1) := by decide +kernel
theorem dX7_gatherLoose_15 : decode cX7_gatherLoose 15 = .ok (.iload_n 2, 1) := by decide +kernel
theorem dX7_gatherLoose_16 : decode cX7_gatherLoose 16 = .ok (.aload_n 0, 1) := by decide +kernel
theorem dX7_gatherLoose_17 : decode cX7_gatherLoose 17 = .ok (.getfield 37, 3) := by decide +kernel
theorem dX7_gatherLoose_20 : decode cX7_gatherLoose 20 = .ok (.iload_n 1, 1) := by decide +kernel
theorem dX7_gatherLoose_21 : decode cX7_gatherLoose 21 = .ok (.invokevirtual 259, 3) := by decide +kernel
theorem dX7_gatherLoose_24 : decode cX7_gatherLoose 24 = .ok (.if_icmp .ge 61, 3) := by decide +kernel
theorem dX7_gatherLoose_27 : decode cX7_gatherLoose 27 = .ok (.aload_n 0, 1) := by decide +kernel
theorem dX7_gatherLoose_28 : decode cX7_gatherLoose 28 = .ok (.getfield 37, 3) := by decide +kernel
theorem dX7_gatherLoose_31 : decode cX7_gatherLoose 31 = .ok (.iload_n 1, 1) := by decide +kernel
theorem dX7_gatherLoose_32 : decode cX7_gatherLoose 32 = .ok (.iload_n 2, 1) := by decide +kernel
theorem dX7_gatherLoose_33 : decode cX7_gatherLoose 33 = .ok (.invokevirtual 262, 3) := by decide +kernel
theorem dX7_gatherLoose_36 : decode cX7_gatherLoose 36 = .ok (.istore_n 3, 1) := by decide +kernel
theorem dX7_gatherLoose_37 : decode cX7_gatherLoose 37 = .ok (.aload_n 0, 1) := by decide +kernel
theorem dX7_gatherLoose_38 : decode cX7_gatherLoose 38 = .ok (.getfield 89, 3) := by decide +kernel
theorem dX7_gatherLoose_41 : decode cX7_gatherLoose 41 = .ok (.sipush 200, 3) := by decide +kernel
theorem dX7_gatherLoose_44 : decode cX7_gatherLoose 44 = .ok (.if_icmp .ge 35, 3) := by decide +kernel
theorem dX7_gatherLoose_47 : decode cX7_gatherLoose 47 = .ok (.aload_n 0, 1) := by decide +kernel
theorem dX7_gatherLoose_48 : decode cX7_gatherLoose 48 = .ok (.getfield 21, 3) := by decide +kernel
theorem dX7_gatherLoose_51 : decode cX7_gatherLoose 51 = .ok (.iload_n 3, 1) := by decide +kernel
theorem dX7_gatherLoose_52 : decode cX7_gatherLoose 52 = .ok (.invokevirtual 144, 3) := by decide +kernel
theorem dX7_gatherLoose_55 : decode cX7_gatherLoose 55 = .ok (.iconst (-1), 1) := by decide +kernel
theorem dX7_gatherLoose_56 : decode cX7_gatherLoose 56 = .ok (.if_icmp .ne 23, 3) := by decide +kernel
theorem dX7_gatherLoose_59 : decode cX7_gatherLoose 59 = .ok (.aload_n 0, 1) := by decide +kernel
theorem dX7_gatherLoose_60 : decode cX7_gatherLoose 60 = .ok (.getfield 86, 3) := by decide +kernel
theorem dX7_gatherLoose_63 : decode cX7_gatherLoose 63 = .ok (.aload_n 0, 1) := by decide +kernel
theorem dX7_gatherLoose_64 : decode cX7_gatherLoose 64 = .ok (.getfield 89, 3) := by decide +kernel
theorem dX7_gatherLoose_67 : decode cX7_gatherLoose 67 = .ok (.iload_n 3, 1) := by decide +kernel
theorem dX7_gatherLoose_68 : decode cX7_gatherLoose 68 = .ok (.iastore, 1) := by decide +kernel
theorem dX7_gatherLoose_69 : decode cX7_gatherLoose 69 = .ok (.aload_n 0, 1) := by decide +kernel
theorem dX7_gatherLoose_70 : decode cX7_gatherLoose 70 = .ok (.dup, 1) := by decide +kernel
theorem dX7_gatherLoose_71 : decode cX7_gatherLoose 71 = .ok (.getfield 89, 3) := by decide +kernel
theorem dX7_gatherLoose_74 : decode cX7_gatherLoose 74 = .ok (.iconst 1, 1) := by decide +kernel
theorem dX7_gatherLoose_75 : decode cX7_gatherLoose 75 = .ok (.iadd, 1) := by decide +kernel
theorem dX7_gatherLoose_76 : decode cX7_gatherLoose 76 = .ok (.putfield 89, 3) := by decide +kernel
theorem dX7_gatherLoose_79 : decode cX7_gatherLoose 79 = .ok (.iinc 2 1, 3) := by decide +kernel
theorem dX7_gatherLoose_82 : decode cX7_gatherLoose 82 = .ok (.goto (-67), 3) := by decide +kernel
theorem dX7_gatherLoose_85 : decode cX7_gatherLoose 85 = .ok (.iinc 1 1, 3) := by decide +kernel
theorem dX7_gatherLoose_88 : decode cX7_gatherLoose 88 = .ok (.goto (-81), 3) := by decide +kernel
theorem dX7_gatherLoose_91 : decode cX7_gatherLoose 91 = .ok (.return_, 1) := by decide +kernel
theorem dX7_findElementsWithoutStandard_0 : decode cX7_findElementsWithoutStandard 0 = .ok (.iconst 0, 1) := by decide +kernel
theorem dX7_findElementsWithoutStandard_1 : decode cX7_findElementsWithoutStandard 1 = .ok (.istore_n 1, 1) := by decide +kernel
theorem dX7_findElementsWithoutStandard_2 : decode cX7_findElementsWithoutStandard 2 = .ok (.iload_n 1, 1) := by decide +kernel
theorem dX7_findElementsWithoutStandard_3 : decode cX7_findElementsWithoutStandard 3 = .ok (.aload_n 0, 1) := by decide +kernel
theorem dX7_findElementsWithoutStandard_4 : decode cX7_findElementsWithoutStandard 4 = .ok (.getfield 21, 3) := by decide +kernel
theorem dX7_findElementsWithoutStandard_7 : decode cX7_findElementsWithoutStandard 7 = .ok (.getfield 116, 3) := by decide +kernel
theorem dX7_findElementsWithoutStandard_10 : decode cX7_findElementsWithoutStandard 10 = .ok (.if_icmp .ge 31, 3) := by decide +kernel
theorem dX7_findElementsWithoutStandard_13 : decode cX7_findElementsWithoutStandard 13 = .ok (.aload_n 0, 1) := by decide +kernel
theorem dX7_findElementsWithoutStandard_14 : decode cX7_findElementsWithoutStandard 14 = .ok (.getfield 21, 3) := by decide +kernel
theorem dX7_findElementsWithoutStandard_17 : decode cX7_findElementsWithoutStandard 17 = .ok (.iload_n 1, 1) := by decide +kernel
theorem dX7_findElementsWithoutStandard_18 : decode cX7_findElementsWithoutStandard 18 = .ok (.invokevirtual 253, 3) := by decide +kernel
theorem dX7_findElementsWithoutStandard_21 : decode cX7_findElementsWithoutStandard 21 = .ok (.iconst (-1), 1) := by decide +kernel
theorem dX7_findElementsWithoutStandard_22 : decode cX7_findElementsWithoutStandard 22 = .ok (.if_icmp .ne 13, 3) := by decide +kernel
theorem dX7_findElementsWithoutStandard_25 : decode cX7_findElementsWithoutStandard 25 = .ok (.aload_n 0, 1) := by decide +kernel
theorem dX7_findElementsWithoutStandard_26 : decode cX7_findElementsWithoutStandard 26 = .ok (.getfield 58, 3) := by decide +kernel
theorem dX7_findElementsWithoutStandard_29 : decode cX7_findElementsWithoutStandard 29 = .ok (.iconst 1, 1) := by decide +kernel
theorem dX7_findElementsWithoutStandard_30 : decode cX7_findElementsWithoutStandard 30 = .ok (.iload_n 1, 1) := by decide +kernel
theorem dX7_findElementsWithoutStandard_31 : decode cX7_findElementsWithoutStandard 31 = .ok (.iconst 0, 1) := by decide +kernel
theorem dX7_findElementsWithoutStandard_32 : decode cX7_findElementsWithoutStandard 32 = .ok (.invokevirtual 265, 3) := by decide +kernel
theorem dX7_findElementsWithoutStandard_35 : decode cX7_findElementsWithoutStandard 35 = .ok (.iinc 1 1, 3) := by decide +kernel
theorem dX7_findElementsWithoutStandard_38 : decode cX7_findElementsWithoutStandard 38 = .ok (.goto (-36), 3) := by decide +kernel
theorem dX7_findElementsWithoutStandard_41 : decode cX7_findElementsWithoutStandard 41 = .ok (.return_, 1) := by decide +kernel
theorem dX7_findHeadingsWithoutLevel_0 : decode cX7_findHeadingsWithoutLevel 0 = .ok (.iconst 0, 1) := by decide +kernel
theorem dX7_findHeadingsWithoutLevel_1 : decode cX7_findHeadingsWithoutLevel 1 = .ok (.istore_n 1, 1) := by decide +kernel
theorem dX7_findHeadingsWithoutLevel_2 : decode cX7_findHeadingsWithoutLevel 2 = .ok (.iload_n 1, 1) := by decide +kernel
theorem dX7_findHeadingsWithoutLevel_3 : decode cX7_findHeadingsWithoutLevel 3 = .ok (.aload_n 0, 1) := by decide +kernel
theorem dX7_findHeadingsWithoutLevel_4 : decode cX7_findHeadingsWithoutLevel 4 = .ok (.getfield 21, 3) := by decide +kernel
theorem dX7_findHeadingsWithoutLevel_7 : decode cX7_findHeadingsWithoutLevel 7 = .ok (.getfield 116, 3) := by decide +kernel
theorem dX7_findHeadingsWithoutLevel_10 : decode cX7_findHeadingsWithoutLevel 10 = .ok (.if_icmp .ge 40, 3) := by decide +kernel
theorem dX7_findHeadingsWithoutLevel_13 : decode cX7_findHeadingsWithoutLevel 13 = .ok (.aload_n 0, 1) := by decide +kernel
theorem dX7_findHeadingsWithoutLevel_14 : decode cX7_findHeadingsWithoutLevel 14 = .ok (.getfield 21, 3) := by decide +kernel
theorem dX7_findHeadingsWithoutLevel_17 : decode cX7_findHeadingsWithoutLevel 17 = .ok (.iload_n 1, 1) := by decide +kernel
theorem dX7_findHeadingsWithoutLevel_18 : decode cX7_findHeadingsWithoutLevel 18 = .ok (.invokevirtual 253, 3) := by decide +kernel
theorem dX7_findHeadingsWithoutLevel_21 : decode cX7_findHeadingsWithoutLevel 21 = .ok (.iconst 2, 1) := by decide +kernel
theorem dX7_findHeadingsWithoutLevel_22 : decode cX7_findHeadingsWithoutLevel 22 = .ok (.if_icmp .ne 22, 3) := by decide +kernel
theorem dX7_findHeadingsWithoutLevel_25 : decode cX7_findHeadingsWithoutLevel 25 = .ok (.aload_n 0, 1) := by decide +kernel
theorem dX7_findHeadingsWithoutLevel_26 : decode cX7_findHeadingsWithoutLevel 26 = .ok (.getfield 62, 3) := by decide +kernel
theorem dX7_findHeadingsWithoutLevel_29 : decode cX7_findHeadingsWithoutLevel 29 = .ok (.iload_n 1, 1) := by decide +kernel
theorem dX7_findHeadingsWithoutLevel_30 : decode cX7_findHeadingsWithoutLevel 30 = .ok (.iaload, 1) := by decide +kernel
theorem dX7_findHeadingsWithoutLevel_31 : decode cX7_findHeadingsWithoutLevel 31 = .ok (.ifCond .ne 13, 3) := by decide +kernel
theorem dX7_findHeadingsWithoutLevel_34 : decode cX7_findHeadingsWithoutLevel 34 = .ok (.aload_n 0, 1) := by decide +kernel
theorem dX7_findHeadingsWithoutLevel_35 : decode cX7_findHeadingsWithoutLevel 35 = .ok (.getfield 58, 3) := by decide +kernel
theorem dX7_findHeadingsWithoutLevel_38 : decode cX7_findHeadingsWithoutLevel 38 = .ok (.iconst 2, 1) := by decide +kernel
theorem dX7_findHeadingsWithoutLevel_39 : decode cX7_findHeadingsWithoutLevel 39 = .ok (.iload_n 1, 1) := by decide +kernel
theorem dX7_findHeadingsWithoutLevel_40 : decode cX7_findHeadingsWithoutLevel 40 = .ok (.iconst 0, 1) := by decide +kernel
theorem dX7_findHeadingsWithoutLevel_41 : decode cX7_findHeadingsWithoutLevel 41 = .ok (.invokevirtual 265, 3) := by decide +kernel
theorem dX7_findHeadingsWithoutLevel_44 : decode cX7_findHeadingsWithoutLevel 44 = .ok (.iinc 1 1, 3) := by decide +kernel
theorem dX7_findHeadingsWithoutLevel_47 : decode cX7_findHeadingsWithoutLevel 47 = .ok (.goto (-45), 3) := by decide +kernel
theorem dX7_findHeadingsWithoutLevel_50 : decode cX7_findHeadingsWithoutLevel 50 = .ok (.return_, 1) := by decide +kernel
theorem dX7_findSkippedLevels_0 : decode cX7_findSkippedLevels 0 = .ok (.aload_n 0, 1) := by decide +kernel
theorem dX7_findSkippedLevels_1 : decode cX7_findSkippedLevels 1 = .ok (.invokevirtual 224, 3) := by decide +kernel
theorem dX7_findSkippedLevels_4 : decode cX7_findSkippedLevels 4 = .ok (.iconst 0, 1) := by decide +kernel
theorem dX7_findSkippedLevels_5 : decode cX7_findSkippedLevels 5 = .ok (.istore_n 1, 1) := by decide +kernel
theorem dX7_findSkippedLevels_6 : decode cX7_findSkippedLevels 6 = .ok (.iconst 0, 1) := by decide +kernel
theorem dX7_findSkippedLevels_7 : decode cX7_findSkippedLevels 7 = .ok (.istore_n 2, 1) := by decide +kernel
theorem dX7_findSkippedLevels_8 : decode cX7_findSkippedLevels 8 = .ok (.iload_n 2, 1) := by decide +kernel
theorem dX7_findSkippedLevels_9 : decode cX7_findSkippedLevels 9 = .ok (.aload_n 0, 1) := by decide +kernel
theorem dX7_findSkippedLevels_10 : decode cX7_findSkippedLevels 10 = .ok (.getfield 44, 3) := by decide +kernel
theorem dX7_findSkippedLevels_13 : decode cX7_findSkippedLevels 13 = .ok (.getfield 227, 3) := by decide +kernel
theorem dX7_findSkippedLevels_16 : decode cX7_findSkippedLevels 16 = .ok (.if_icmp .ge 46, 3) := by decide +kernel
theorem dX7_findSkippedLevels_19 : decode cX7_findSkippedLevels 19 = .ok (.aload_n 0, 1) := by decide +kernel
theorem dX7_findSkippedLevels_20 : decode cX7_findSkippedLevels 20 = .ok (.getfield 44, 3) := by decide +kernel
theorem dX7_findSkippedLevels_23 : decode cX7_findSkippedLevels 23 = .ok (.getfield 234, 3) := by decide +kernel
theorem dX7_findSkippedLevels_26 : decode cX7_findSkippedLevels 26 = .ok (.iload_n 2, 1) := by decide +kernel
theorem dX7_findSkippedLevels_27 : decode cX7_findSkippedLevels 27 = .ok (.iaload, 1) := by decide +kernel
theorem dX7_findSkippedLevels_28 : decode cX7_findSkippedLevels 28 = .ok (.istore_n 3, 1) := by decide +kernel
theorem dX7_findSkippedLevels_29 : decode cX7_findSkippedLevels 29 = .ok (.iload_n 3, 1) := by decide +kernel
theorem dX7_findSkippedLevels_30 : decode cX7_findSkippedLevels 30 = .ok (.iload_n 1, 1) := by decide +kernel
theorem dX7_findSkippedLevels_31 : decode cX7_findSkippedLevels 31 = .ok (.iconst 1, 1) := by decide +kernel
theorem dX7_findSkippedLevels_32 : decode cX7_findSkippedLevels 32 = .ok (.iadd, 1) := by decide +kernel
theorem dX7_findSkippedLevels_33 : decode cX7_findSkippedLevels 33 = .ok (.if_icmp .le 21, 3) := by decide +kernel
theorem dX7_findSkippedLevels_36 : decode cX7_findSkippedLevels 36 = .ok (.aload_n 0, 1) := by decide +kernel
theorem dX7_findSkippedLevels_37 : decode cX7_findSkippedLevels 37 = .ok (.getfield 58, 3) := by decide +kernel
theorem dX7_findSkippedLevels_40 : decode cX7_findSkippedLevels 40 = .ok (.iconst 3, 1) := by decide +kernel
theorem dX7_findSkippedLevels_41 : decode cX7_findSkippedLevels 41 = .ok (.aload_n 0, 1) := by decide +kernel
theorem dX7_findSkippedLevels_42 : decode cX7_findSkippedLevels 42 = .ok (.getfield 44, 3) := by decide +kernel
theorem dX7_findSkippedLevels_45 : decode cX7_findSkippedLevels 45 = .ok (.getfield 230, 3) := by decide +kernel
theorem dX7_findSkippedLevels_48 : decode cX7_findSkippedLevels 48 = .ok (.iload_n 2, 1) := by decide +kernel
theorem dX7_findSkippedLevels_49 : decode cX7_findSkippedLevels 49 = .ok (.iaload, 1) := by decide +kernel
theorem dX7_findSkippedLevels_50 : decode cX7_findSkippedLevels 50 = .ok (.iload_n 3, 1) := by decide +kernel
theorem dX7_findSkippedLevels_51 : decode cX7_findSkippedLevels 51 = .ok (.invokevirtual 265, 3) := by decide +kernel
theorem dX7_findSkippedLevels_54 : decode cX7_findSkippedLevels 54 = .ok (.iload_n 3, 1) := by decide +kernel
theorem dX7_findSkippedLevels_55 : decode cX7_findSkippedLevels 55 = .ok (.istore_n 1, 1) := by decide +kernel
theorem dX7_findSkippedLevels_56 : decode cX7_findSkippedLevels 56 = .ok (.iinc 2 1, 3) := by decide +kernel
theorem dX7_findSkippedLevels_59 : decode cX7_findSkippedLevels 59 = .ok (.goto (-51), 3) := by decide +kernel
theorem dX7_findSkippedLevels_62 : decode cX7_findSkippedLevels 62 = .ok (.return_, 1) := by decide +kernel
theorem dX7_findMisplaced_0 : decode cX7_findMisplaced 0 = .ok (.iconst 1, 1) := by decide +kernel
theorem dX7_findMisplaced_1 : decode cX7_findMisplaced 1 = .ok (.istore_n 1, 1) := by decide +kernel
theorem dX7_findMisplaced_2 : decode cX7_findMisplaced 2 = .ok (.iload_n 1, 1) := by decide +kernel
theorem dX7_findMisplaced_3 : decode cX7_findMisplaced 3 = .ok (.aload_n 0, 1) := by decide +kernel
theorem dX7_findMisplaced_4 : decode cX7_findMisplaced 4 = .ok (.getfield 21, 3) := by decide +kernel
theorem dX7_findMisplaced_7 : decode cX7_findMisplaced 7 = .ok (.getfield 116, 3) := by decide +kernel
theorem dX7_findMisplaced_10 : decode cX7_findMisplaced 10 = .ok (.if_icmp .ge 48, 3) := by decide +kernel
theorem dX7_findMisplaced_13 : decode cX7_findMisplaced 13 = .ok (.aload_n 0, 1) := by decide +kernel
theorem dX7_findMisplaced_14 : decode cX7_findMisplaced 14 = .ok (.getfield 21, 3) := by decide +kernel
theorem dX7_findMisplaced_17 : decode cX7_findMisplaced 17 = .ok (.iload_n 1, 1) := by decide +kernel
theorem dX7_findMisplaced_18 : decode cX7_findMisplaced 18 = .ok (.invokevirtual 253, 3) := by decide +kernel
theorem dX7_findMisplaced_21 : decode cX7_findMisplaced 21 = .ok (.aload_n 0, 1) := by decide +kernel
theorem dX7_findMisplaced_22 : decode cX7_findMisplaced 22 = .ok (.getfield 21, 3) := by decide +kernel
theorem dX7_findMisplaced_25 : decode cX7_findMisplaced 25 = .ok (.aload_n 0, 1) := by decide +kernel
theorem dX7_findMisplaced_26 : decode cX7_findMisplaced 26 = .ok (.getfield 21, 3) := by decide +kernel
theorem dX7_findMisplaced_29 : decode cX7_findMisplaced 29 = .ok (.iload_n 1, 1) := by decide +kernel
theorem dX7_findMisplaced_30 : decode cX7_findMisplaced 30 = .ok (.invokevirtual 268, 3) := by decide +kernel
theorem dX7_findMisplaced_33 : decode cX7_findMisplaced 33 = .ok (.invokevirtual 253, 3) := by decide +kernel
theorem dX7_findMisplaced_36 : decode cX7_findMisplaced 36 = .ok (.invokestatic 271, 3) := by decide +kernel
theorem dX7_findMisplaced_39 : decode cX7_findMisplaced 39 = .ok (.ifCond .eq 13, 3) := by decide +kernel
theorem dX7_findMisplaced_42 : decode cX7_findMisplaced 42 = .ok (.aload_n 0, 1) := by decide +kernel
theorem dX7_findMisplaced_43 : decode cX7_findMisplaced 43 = .ok (.getfield 58, 3) := by decide +kernel
theorem dX7_findMisplaced_46 : decode cX7_findMisplaced 46 = .ok (.iconst 4, 1) := by decide +kernel
theorem dX7_findMisplaced_47 : decode cX7_findMisplaced 47 = .ok (.iload_n 1, 1) := by decide +kernel
theorem dX7_findMisplaced_48 : decode cX7_findMisplaced 48 = .ok (.iconst 0, 1) := by decide +kernel
theorem dX7_findMisplaced_49 : decode cX7_findMisplaced 49 = .ok (.invokevirtual 265, 3) := by decide +kernel
theorem dX7_findMisplaced_52 : decode cX7_findMisplaced 52 = .ok (.iinc 1 1, 3) := by decide +kernel
theorem dX7_findMisplaced_55 : decode cX7_findMisplaced 55 = .ok (.goto (-53), 3) := by decide +kernel
theorem dX7_findMisplaced_58 : decode cX7_findMisplaced 58 = .ok (.return_, 1) := by decide +kernel
theorem dX7_isMisplaced_0 : decode cX7_isMisplaced 0 = .ok (.iload_n 0, 1) := by decide +kernel
theorem dX7_isMisplaced_1 : decode cX7_isMisplaced 1 = .ok (.invokestatic 274, 3) := by decide +kernel
theorem dX7_isMisplaced_4 : decode cX7_isMisplaced 4 = .ok (.istore_n 2, 1) := by decide +kernel
theorem dX7_isMisplaced_5 : decode cX7_isMisplaced 5 = .ok (.iload_n 2, 1) := by decide +kernel
theorem dX7_isMisplaced_6 : decode cX7_isMisplaced 6 = .ok (.iconst (-1), 1) := by decide +kernel
theorem dX7_isMisplaced_7 : decode cX7_isMisplaced 7 = .ok (.if_icmp .eq 10, 3) := by decide +kernel
theorem dX7_isMisplaced_10 : decode cX7_isMisplaced 10 = .ok (.iload_n 1, 1) := by decide +kernel
theorem dX7_isMisplaced_11 : decode cX7_isMisplaced 11 = .ok (.iload_n 2, 1) := by decide +kernel
theorem dX7_isMisplaced_12 : decode cX7_isMisplaced 12 = .ok (.if_icmp .eq 5, 3) := by decide +kernel
theorem dX7_isMisplaced_15 : decode cX7_isMisplaced 15 = .ok (.iconst 1, 1) := by decide +kernel
theorem dX7_isMisplaced_16 : decode cX7_isMisplaced 16 = .ok (.ireturn, 1) := by decide +kernel
theorem dX7_isMisplaced_17 : decode cX7_isMisplaced 17 = .ok (.iload_n 1, 1) := by decide +kernel
theorem dX7_isMisplaced_18 : decode cX7_isMisplaced 18 = .ok (.iconst 4, 1) := by decide +kernel
theorem dX7_isMisplaced_19 : decode cX7_isMisplaced 19 = .ok (.if_icmp .eq 15, 3) := by decide +kernel
theorem dX7_isMisplaced_22 : decode cX7_isMisplaced 22 = .ok (.iload_n 1, 1) := by decide +kernel
theorem dX7_isMisplaced_23 : decode cX7_isMisplaced 23 = .ok (.bipush 6, 2) := by decide +kernel
theorem dX7_isMisplaced_25 : decode cX7_isMisplaced 25 = .ok (.if_icmp .eq 9, 3) := by decide +kernel
theorem dX7_isMisplaced_28 : decode cX7_isMisplaced 28 = .ok (.iload_n 1, 1) := by decide +kernel
theorem dX7_isMisplaced_29 : decode cX7_isMisplaced 29 = .ok (.bipush 7, 2) := by decide +kernel
theorem dX7_isMisplaced_31 : decode cX7_isMisplaced 31 = .ok (.if_icmp .ne 7, 3) := by decide +kernel
theorem dX7_isMisplaced_34 : decode cX7_isMisplaced 34 = .ok (.iconst 1, 1) := by decide +kernel
theorem dX7_isMisplaced_35 : decode cX7_isMisplaced 35 = .ok (.goto 4, 3) := by decide +kernel
theorem dX7_isMisplaced_38 : decode cX7_isMisplaced 38 = .ok (.iconst 0, 1) := by decide +kernel
theorem dX7_isMisplaced_39 : decode cX7_isMisplaced 39 = .ok (.istore_n 3, 1) := by decide +kernel
theorem dX7_isMisplaced_40 : decode cX7_isMisplaced 40 = .ok (.iload_n 3, 1) := by decide +kernel
theorem dX7_isMisplaced_41 : decode cX7_isMisplaced 41 = .ok (.ifCond .eq 18, 3) := by decide +kernel
theorem dX7_isMisplaced_44 : decode cX7_isMisplaced 44 = .ok (.iload_n 0, 1) := by decide +kernel
theorem dX7_isMisplaced_45 : decode cX7_isMisplaced 45 = .ok (.bipush 12, 2) := by decide +kernel
theorem dX7_isMisplaced_47 : decode cX7_isMisplaced 47 = .ok (.if_icmp .eq 12, 3) := by decide +kernel
theorem dX7_isMisplaced_50 : decode cX7_isMisplaced 50 = .ok (.iload_n 2, 1) := by decide +kernel
theorem dX7_isMisplaced_51 : decode cX7_isMisplaced 51 = .ok (.iload_n 1, 1) := by decide +kernel
theorem dX7_isMisplaced_52 : decode cX7_isMisplaced 52 = .ok (.if_icmp .eq 7, 3) := by decide +kernel
theorem dX7_isMisplaced_55 : decode cX7_isMisplaced 55 = .ok (.iconst 1, 1) := by decide +kernel
theorem dX7_isMisplaced_56 : decode cX7_isMisplaced 56 = .ok (.goto 4, 3) := by decide +kernel
theorem dX7_isMisplaced_59 : decode cX7_isMisplaced 59 = .ok (.iconst 0, 1) := by decide +kernel
theorem dX7_isMisplaced_60 : decode cX7_isMisplaced 60 = .ok (.ireturn, 1) := by decide +kernel
theorem dX7_neededParent_0 : decode cX7_neededParent 0 = .ok (.iload_n 0, 1) := by decide +kernel
theorem dX7_neededParent_1 : decode cX7_neededParent 1 = .ok (.iconst 5, 1) := by decide +kernel
theorem dX7_neededParent_2 : decode cX7_neededParent 2 = .ok (.if_icmp .ne 5, 3) := by decide +kernel
theorem dX7_neededParent_5 : decode cX7_neededParent 5 = .ok (.iconst 4, 1) := by decide +kernel
theorem dX7_neededParent_6 : decode cX7_neededParent 6 = .ok (.ireturn, 1) := by decide +kernel
theorem dX7_neededParent_7 : decode cX7_neededParent 7 = .ok (.iload_n 0, 1) := by decide +kernel
theorem dX7_neededParent_8 : decode cX7_neededParent 8 = .ok (.bipush 7, 2) := by decide +kernel
theorem dX7_neededParent_10 : decode cX7_neededParent 10 = .ok (.if_icmp .ne 6, 3) := by decide +kernel
theorem dX7_neededParent_13 : decode cX7_neededParent 13 = .ok (.bipush 6, 2) := by decide +kernel
theorem dX7_neededParent_15 : decode cX7_neededParent 15 = .ok (.ireturn, 1) := by decide +kernel
theorem dX7_neededParent_16 : decode cX7_neededParent 16 = .ok (.iload_n 0, 1) := by decide +kernel
theorem dX7_neededParent_17 : decode cX7_neededParent 17 = .ok (.invokestatic 277, 3) := by decide +kernel
theorem dX7_neededParent_20 : decode cX7_neededParent 20 = .ok (.ifCond .eq 8, 3) := by decide +kernel
theorem dX7_neededParent_23 : decode cX7_neededParent 23 = .ok (.bipush 7, 2) := by decide +kernel
theorem dX7_neededParent_25 : decode cX7_neededParent 25 = .ok (.goto 4, 3) := by decide +kernel
theorem dX7_neededParent_28 : decode cX7_neededParent 28 = .ok (.iconst (-1), 1) := by decide +kernel
theorem dX7_neededParent_29 : decode cX7_neededParent 29 = .ok (.ireturn, 1) := by decide +kernel
theorem dX7_isCell_0 : decode cX7_isCell 0 = .ok (.iload_n 0, 1) := by decide +kernel
theorem dX7_isCell_1 : decode cX7_isCell 1 = .ok (.bipush 8, 2) := by decide +kernel
theorem dX7_isCell_3 : decode cX7_isCell 3 = .ok (.if_icmp .eq 9, 3) := by decide +kernel
theorem dX7_isCell_6 : decode cX7_isCell 6 = .ok (.iload_n 0, 1) := by decide +kernel
theorem dX7_isCell_7 : decode cX7_isCell 7 = .ok (.bipush 9, 2) := by decide +kernel
theorem dX7_isCell_9 : decode cX7_isCell 9 = .ok (.if_icmp .ne 7, 3) := by decide +kernel
theorem dX7_isCell_12 : decode cX7_isCell 12 = .ok (.iconst 1, 1) := by decide +kernel
theorem dX7_isCell_13 : decode cX7_isCell 13 = .ok (.goto 4, 3) := by decide +kernel
theorem dX7_isCell_16 : decode cX7_isCell 16 = .ok (.iconst 0, 1) := by decide +kernel
theorem dX7_isCell_17 : decode cX7_isCell 17 = .ok (.ireturn, 1) := by decide +kernel
theorem dX7_findUnevenTables_0 : decode cX7_findUnevenTables 0 = .ok (.iconst 0, 1) := by decide +kernel
theorem dX7_findUnevenTables_1 : decode cX7_findUnevenTables 1 = .ok (.istore_n 1, 1) := by decide +kernel
theorem dX7_findUnevenTables_2 : decode cX7_findUnevenTables 2 = .ok (.iload_n 1, 1) := by decide +kernel
theorem dX7_findUnevenTables_3 : decode cX7_findUnevenTables 3 = .ok (.aload_n 0, 1) := by decide +kernel
theorem dX7_findUnevenTables_4 : decode cX7_findUnevenTables 4 = .ok (.getfield 21, 3) := by decide +kernel
theorem dX7_findUnevenTables_7 : decode cX7_findUnevenTables 7 = .ok (.getfield 116, 3) := by decide +kernel
theorem dX7_findUnevenTables_10 : decode cX7_findUnevenTables 10 = .ok (.if_icmp .ge 40, 3) := by decide +kernel
theorem dX7_findUnevenTables_13 : decode cX7_findUnevenTables 13 = .ok (.aload_n 0, 1) := by decide +kernel
theorem dX7_findUnevenTables_14 : decode cX7_findUnevenTables 14 = .ok (.getfield 21, 3) := by decide +kernel
theorem dX7_findUnevenTables_17 : decode cX7_findUnevenTables 17 = .ok (.iload_n 1, 1) := by decide +kernel
theorem dX7_findUnevenTables_18 : decode cX7_findUnevenTables 18 = .ok (.invokevirtual 253, 3) := by decide +kernel
theorem dX7_findUnevenTables_21 : decode cX7_findUnevenTables 21 = .ok (.bipush 6, 2) := by decide +kernel
theorem dX7_findUnevenTables_23 : decode cX7_findUnevenTables 23 = .ok (.if_icmp .ne 21, 3) := by decide +kernel
theorem dX7_findUnevenTables_26 : decode cX7_findUnevenTables 26 = .ok (.aload_n 0, 1) := by decide +kernel
theorem dX7_findUnevenTables_27 : decode cX7_findUnevenTables 27 = .ok (.iload_n 1, 1) := by decide +kernel
theorem dX7_findUnevenTables_28 : decode cX7_findUnevenTables 28 = .ok (.invokevirtual 280, 3) := by decide +kernel
theorem dX7_findUnevenTables_31 : decode cX7_findUnevenTables 31 = .ok (.ifCond .eq 13, 3) := by decide +kernel
theorem dX7_findUnevenTables_34 : decode cX7_findUnevenTables 34 = .ok (.aload_n 0, 1) := by decide +kernel
theorem dX7_findUnevenTables_35 : decode cX7_findUnevenTables 35 = .ok (.getfield 58, 3) := by decide +kernel
theorem dX7_findUnevenTables_38 : decode cX7_findUnevenTables 38 = .ok (.iconst 5, 1) := by decide +kernel
theorem dX7_findUnevenTables_39 : decode cX7_findUnevenTables 39 = .ok (.iload_n 1, 1) := by decide +kernel
theorem dX7_findUnevenTables_40 : decode cX7_findUnevenTables 40 = .ok (.iconst 0, 1) := by decide +kernel
theorem dX7_findUnevenTables_41 : decode cX7_findUnevenTables 41 = .ok (.invokevirtual 265, 3) := by decide +kernel
theorem dX7_findUnevenTables_44 : decode cX7_findUnevenTables 44 = .ok (.iinc 1 1, 3) := by decide +kernel
theorem dX7_findUnevenTables_47 : decode cX7_findUnevenTables 47 = .ok (.goto (-45), 3) := by decide +kernel
theorem dX7_findUnevenTables_50 : decode cX7_findUnevenTables 50 = .ok (.return_, 1) := by decide +kernel
theorem dX7_isUneven_0 : decode cX7_isUneven 0 = .ok (.aload_n 0, 1) := by decide +kernel
theorem dX7_isUneven_1 : decode cX7_isUneven 1 = .ok (.getfield 51, 3) := by decide +kernel
theorem dX7_isUneven_4 : decode cX7_isUneven 4 = .ok (.invokevirtual 283, 3) := by decide +kernel
theorem dX7_isUneven_7 : decode cX7_isUneven 7 = .ok (.iload_n 1, 1) := by decide +kernel
theorem dX7_isUneven_8 : decode cX7_isUneven 8 = .ok (.iconst 1, 1) := by decide +kernel
theorem dX7_isUneven_9 : decode cX7_isUneven 9 = .ok (.iadd, 1) := by decide +kernel
theorem dX7_isUneven_10 : decode cX7_isUneven 10 = .ok (.istore_n 2, 1) := by decide +kernel
theorem dX7_isUneven_11 : decode cX7_isUneven 11 = .ok (.iload_n 2, 1) := by decide +kernel
theorem dX7_isUneven_12 : decode cX7_isUneven 12 = .ok (.aload_n 0, 1) := by decide +kernel
theorem dX7_isUneven_13 : decode cX7_isUneven 13 = .ok (.getfield 21, 3) := by decide +kernel
theorem dX7_isUneven_16 : decode cX7_isUneven 16 = .ok (.getfield 116, 3) := by decide +kernel
theorem dX7_isUneven_19 : decode cX7_isUneven 19 = .ok (.if_icmp .ge 53, 3) := by decide +kernel
theorem dX7_isUneven_22 : decode cX7_isUneven 22 = .ok (.aload_n 0, 1) := by decide +kernel
theorem dX7_isUneven_23 : decode cX7_isUneven 23 = .ok (.getfield 21, 3) := by decide +kernel
theorem dX7_isUneven_26 : decode cX7_isUneven 26 = .ok (.iload_n 2, 1) := by decide +kernel
theorem dX7_isUneven_27 : decode cX7_isUneven 27 = .ok (.invokevirtual 268, 3) := by decide +kernel
theorem dX7_isUneven_30 : decode cX7_isUneven 30 = .ok (.iload_n 1, 1) := by decide +kernel
theorem dX7_isUneven_31 : decode cX7_isUneven 31 = .ok (.if_icmp .ne 35, 3) := by decide +kernel
theorem dX7_isUneven_34 : decode cX7_isUneven 34 = .ok (.aload_n 0, 1) := by decide +kernel
theorem dX7_isUneven_35 : decode cX7_isUneven 35 = .ok (.getfield 21, 3) := by decide +kernel
theorem dX7_isUneven_38 : decode cX7_isUneven 38 = .ok (.iload_n 2, 1) := by decide +kernel
theorem dX7_isUneven_39 : decode cX7_isUneven 39 = .ok (.invokevirtual 253, 3) := by decide +kernel
theorem dX7_isUneven_42 : decode cX7_isUneven 42 = .ok (.bipush 7, 2) := by decide +kernel
theorem dX7_isUneven_44 : decode cX7_isUneven 44 = .ok (.if_icmp .ne 22, 3) := by decide +kernel
theorem dX7_isUneven_47 : decode cX7_isUneven 47 = .ok (.aload_n 0, 1) := by decide +kernel
theorem dX7_isUneven_48 : decode cX7_isUneven 48 = .ok (.getfield 51, 3) := by decide +kernel
theorem dX7_isUneven_51 : decode cX7_isUneven 51 = .ok (.invokevirtual 286, 3) := by decide +kernel
theorem dX7_isUneven_54 : decode cX7_isUneven 54 = .ok (.aload_n 0, 1) := by decide +kernel
theorem dX7_isUneven_55 : decode cX7_isUneven 55 = .ok (.iload_n 2, 1) := by decide +kernel
theorem dX7_isUneven_56 : decode cX7_isUneven 56 = .ok (.invokevirtual 289, 3) := by decide +kernel
theorem dX7_isUneven_59 : decode cX7_isUneven 59 = .ok (.aload_n 0, 1) := by decide +kernel
theorem dX7_isUneven_60 : decode cX7_isUneven 60 = .ok (.getfield 51, 3) := by decide +kernel
theorem dX7_isUneven_63 : decode cX7_isUneven 63 = .ok (.invokevirtual 292, 3) := by decide +kernel
theorem dX7_isUneven_66 : decode cX7_isUneven 66 = .ok (.iinc 2 1, 3) := by decide +kernel
theorem dX7_isUneven_69 : decode cX7_isUneven 69 = .ok (.goto (-58), 3) := by decide +kernel
theorem dX7_isUneven_72 : decode cX7_isUneven 72 = .ok (.aload_n 0, 1) := by decide +kernel
theorem dX7_isUneven_73 : decode cX7_isUneven 73 = .ok (.getfield 51, 3) := by decide +kernel
theorem dX7_isUneven_76 : decode cX7_isUneven 76 = .ok (.getfield 295, 3) := by decide +kernel
theorem dX7_isUneven_79 : decode cX7_isUneven 79 = .ok (.ireturn, 1) := by decide +kernel
theorem dX7_layCells_0 : decode cX7_layCells 0 = .ok (.iload_n 1, 1) := by decide +kernel
theorem dX7_layCells_1 : decode cX7_layCells 1 = .ok (.iconst 1, 1) := by decide +kernel
theorem dX7_layCells_2 : decode cX7_layCells 2 = .ok (.iadd, 1) := by decide +kernel
theorem dX7_layCells_3 : decode cX7_layCells 3 = .ok (.istore_n 2, 1) := by decide +kernel
theorem dX7_layCells_4 : decode cX7_layCells 4 = .ok (.iload_n 2, 1) := by decide +kernel
theorem dX7_layCells_5 : decode cX7_layCells 5 = .ok (.aload_n 0, 1) := by decide +kernel
theorem dX7_layCells_6 : decode cX7_layCells 6 = .ok (.getfield 21, 3) := by decide +kernel
theorem dX7_layCells_9 : decode cX7_layCells 9 = .ok (.getfield 116, 3) := by decide +kernel
theorem dX7_layCells_12 : decode cX7_layCells 12 = .ok (.if_icmp .ge 54, 3) := by decide +kernel
theorem dX7_layCells_15 : decode cX7_layCells 15 = .ok (.aload_n 0, 1) := by decide +kernel
theorem dX7_layCells_16 : decode cX7_layCells 16 = .ok (.getfield 21, 3) := by decide +kernel
theorem dX7_layCells_19 : decode cX7_layCells 19 = .ok (.iload_n 2, 1) := by decide +kernel
theorem dX7_layCells_20 : decode cX7_layCells 20 = .ok (.invokevirtual 268, 3) := by decide +kernel
theorem dX7_layCells_23 : decode cX7_layCells 23 = .ok (.iload_n 1, 1) := by decide +kernel
theorem dX7_layCells_24 : decode cX7_layCells 24 = .ok (.if_icmp .ne 36, 3) := by decide +kernel
theorem dX7_layCells_27 : decode cX7_layCells 27 = .ok (.aload_n 0, 1) := by decide +kernel
theorem dX7_layCells_28 : decode cX7_layCells 28 = .ok (.getfield 21, 3) := by decide +kernel
theorem dX7_layCells_31 : decode cX7_layCells 31 = .ok (.iload_n 2, 1) := by decide +kernel
theorem dX7_layCells_32 : decode cX7_layCells 32 = .ok (.invokevirtual 253, 3) := by decide +kernel
theorem dX7_layCells_35 : decode cX7_layCells 35 = .ok (.invokestatic 277, 3) := by decide +kernel
theorem dX7_layCells_38 : decode cX7_layCells 38 = .ok (.ifCond .eq 22, 3) := by decide +kernel
theorem dX7_layCells_41 : decode cX7_layCells 41 = .ok (.aload_n 0, 1) := by decide +kernel
theorem dX7_layCells_42 : decode cX7_layCells 42 = .ok (.getfield 51, 3) := by decide +kernel
theorem dX7_layCells_45 : decode cX7_layCells 45 = .ok (.aload_n 0, 1) := by decide +kernel
theorem dX7_layCells_46 : decode cX7_layCells 46 = .ok (.getfield 70, 3) := by decide +kernel
theorem dX7_layCells_49 : decode cX7_layCells 49 = .ok (.iload_n 2, 1) := by decide +kernel
theorem dX7_layCells_50 : decode cX7_layCells 50 = .ok (.iaload, 1) := by decide +kernel
theorem dX7_layCells_51 : decode cX7_layCells 51 = .ok (.aload_n 0, 1) := by decide +kernel
theorem dX7_layCells_52 : decode cX7_layCells 52 = .ok (.getfield 73, 3) := by decide +kernel
theorem dX7_layCells_55 : decode cX7_layCells 55 = .ok (.iload_n 2, 1) := by decide +kernel
theorem dX7_layCells_56 : decode cX7_layCells 56 = .ok (.iaload, 1) := by decide +kernel
theorem dX7_layCells_57 : decode cX7_layCells 57 = .ok (.invokevirtual 299, 3) := by decide +kernel
theorem dX7_layCells_60 : decode cX7_layCells 60 = .ok (.iinc 2 1, 3) := by decide +kernel
theorem dX7_layCells_63 : decode cX7_layCells 63 = .ok (.goto (-59), 3) := by decide +kernel
theorem dX7_layCells_66 : decode cX7_layCells 66 = .ok (.return_, 1) := by decide +kernel
theorem dX7_findFiguresWithoutWords_0 : decode cX7_findFiguresWithoutWords 0 = .ok (.iconst 0, 1) := by decide +kernel
theorem dX7_findFiguresWithoutWords_1 : decode cX7_findFiguresWithoutWords 1 = .ok (.istore_n 1, 1) := by decide +kernel
theorem dX7_findFiguresWithoutWords_2 : decode cX7_findFiguresWithoutWords 2 = .ok (.iload_n 1, 1) := by decide +kernel
theorem dX7_findFiguresWithoutWords_3 : decode cX7_findFiguresWithoutWords 3 = .ok (.aload_n 0, 1) := by decide +kernel
theorem dX7_findFiguresWithoutWords_4 : decode cX7_findFiguresWithoutWords 4 = .ok (.getfield 21, 3) := by decide +kernel
theorem dX7_findFiguresWithoutWords_7 : decode cX7_findFiguresWithoutWords 7 = .ok (.getfield 116, 3) := by decide +kernel
theorem dX7_findFiguresWithoutWords_10 : decode cX7_findFiguresWithoutWords 10 = .ok (.if_icmp .ge 42, 3) := by decide +kernel
theorem dX7_findFiguresWithoutWords_13 : decode cX7_findFiguresWithoutWords 13 = .ok (.aload_n 0, 1) := by decide +kernel
theorem dX7_findFiguresWithoutWords_14 : decode cX7_findFiguresWithoutWords 14 = .ok (.getfield 21, 3) := by decide +kernel
theorem dX7_findFiguresWithoutWords_17 : decode cX7_findFiguresWithoutWords 17 = .ok (.iload_n 1, 1) := by decide +kernel
theorem dX7_findFiguresWithoutWords_18 : decode cX7_findFiguresWithoutWords 18 = .ok (.invokevirtual 253, 3) := by decide +kernel
theorem dX7_findFiguresWithoutWords_21 : decode cX7_findFiguresWithoutWords 21 = .ok (.bipush 10, 2) := by decide +kernel
theorem dX7_findFiguresWithoutWords_23 : decode cX7_findFiguresWithoutWords 23 = .ok (.if_icmp .ne 23, 3) := by decide +kernel
theorem dX7_findFiguresWithoutWords_26 : decode cX7_findFiguresWithoutWords 26 = .ok (.aload_n 0, 1) := by decide +kernel
theorem dX7_findFiguresWithoutWords_27 : decode cX7_findFiguresWithoutWords 27 = .ok (.getfield 66, 3) := by decide +kernel
theorem dX7_findFiguresWithoutWords_30 : decode cX7_findFiguresWithoutWords 30 = .ok (.iload_n 1, 1) := by decide +kernel
theorem dX7_findFiguresWithoutWords_31 : decode cX7_findFiguresWithoutWords 31 = .ok (.baload, 1) := by decide +kernel
theorem dX7_findFiguresWithoutWords_32 : decode cX7_findFiguresWithoutWords 32 = .ok (.ifCond .ne 14, 3) := by decide +kernel
theorem dX7_findFiguresWithoutWords_35 : decode cX7_findFiguresWithoutWords 35 = .ok (.aload_n 0, 1) := by decide +kernel
theorem dX7_findFiguresWithoutWords_36 : decode cX7_findFiguresWithoutWords 36 = .ok (.getfield 58, 3) := by decide +kernel
theorem dX7_findFiguresWithoutWords_39 : decode cX7_findFiguresWithoutWords 39 = .ok (.bipush 6, 2) := by decide +kernel
theorem dX7_findFiguresWithoutWords_41 : decode cX7_findFiguresWithoutWords 41 = .ok (.iload_n 1, 1) := by decide +kernel
theorem dX7_findFiguresWithoutWords_42 : decode cX7_findFiguresWithoutWords 42 = .ok (.iconst 0, 1) := by decide +kernel
theorem dX7_findFiguresWithoutWords_43 : decode cX7_findFiguresWithoutWords 43 = .ok (.invokevirtual 265, 3) := by decide +kernel
theorem dX7_findFiguresWithoutWords_46 : decode cX7_findFiguresWithoutWords 46 = .ok (.iinc 1 1, 3) := by decide +kernel
theorem dX7_findFiguresWithoutWords_49 : decode cX7_findFiguresWithoutWords 49 = .ok (.goto (-47), 3) := by decide +kernel
theorem dX7_findFiguresWithoutWords_52 : decode cX7_findFiguresWithoutWords 52 = .ok (.return_, 1) := by decide +kernel
theorem dX7_findElementsWithoutKids_0 : decode cX7_findElementsWithoutKids 0 = .ok (.iconst 1, 1) := by decide +kernel
theorem dX7_findElementsWithoutKids_1 : decode cX7_findElementsWithoutKids 1 = .ok (.istore_n 1, 1) := by decide +kernel
theorem dX7_findElementsWithoutKids_2 : decode cX7_findElementsWithoutKids 2 = .ok (.iload_n 1, 1) := by decide +kernel
theorem dX7_findElementsWithoutKids_3 : decode cX7_findElementsWithoutKids 3 = .ok (.aload_n 0, 1) := by decide +kernel
theorem dX7_findElementsWithoutKids_4 : decode cX7_findElementsWithoutKids 4 = .ok (.getfield 21, 3) := by decide +kernel
theorem dX7_findElementsWithoutKids_7 : decode cX7_findElementsWithoutKids 7 = .ok (.getfield 116, 3) := by decide +kernel
theorem dX7_findElementsWithoutKids_10 : decode cX7_findElementsWithoutKids 10 = .ok (.if_icmp .ge 44, 3) := by decide +kernel
theorem dX7_findElementsWithoutKids_13 : decode cX7_findElementsWithoutKids 13 = .ok (.aload_n 0, 1) := by decide +kernel
theorem dX7_findElementsWithoutKids_14 : decode cX7_findElementsWithoutKids 14 = .ok (.getfield 21, 3) := by decide +kernel
theorem dX7_findElementsWithoutKids_17 : decode cX7_findElementsWithoutKids 17 = .ok (.iload_n 1, 1) := by decide +kernel
theorem dX7_findElementsWithoutKids_18 : decode cX7_findElementsWithoutKids 18 = .ok (.invokevirtual 302, 3) := by decide +kernel
theorem dX7_findElementsWithoutKids_21 : decode cX7_findElementsWithoutKids 21 = .ok (.ifCond .ne 27, 3) := by decide +kernel
theorem dX7_findElementsWithoutKids_24 : decode cX7_findElementsWithoutKids 24 = .ok (.aload_n 0, 1) := by decide +kernel
theorem dX7_findElementsWithoutKids_25 : decode cX7_findElementsWithoutKids 25 = .ok (.getfield 21, 3) := by decide +kernel
theorem dX7_findElementsWithoutKids_28 : decode cX7_findElementsWithoutKids 28 = .ok (.iload_n 1, 1) := by decide +kernel
theorem dX7_findElementsWithoutKids_29 : decode cX7_findElementsWithoutKids 29 = .ok (.invokevirtual 253, 3) := by decide +kernel
theorem dX7_findElementsWithoutKids_32 : decode cX7_findElementsWithoutKids 32 = .ok (.bipush 10, 2) := by decide +kernel
theorem dX7_findElementsWithoutKids_34 : decode cX7_findElementsWithoutKids 34 = .ok (.if_icmp .eq 14, 3) := by decide +kernel
theorem dX7_findElementsWithoutKids_37 : decode cX7_findElementsWithoutKids 37 = .ok (.aload_n 0, 1) := by decide +kernel
theorem dX7_findElementsWithoutKids_38 : decode cX7_findElementsWithoutKids 38 = .ok (.getfield 58, 3) := by decide +kernel
theorem dX7_findElementsWithoutKids_41 : decode cX7_findElementsWithoutKids 41 = .ok (.bipush 7, 2) := by decide +kernel
theorem dX7_findElementsWithoutKids_43 : decode cX7_findElementsWithoutKids 43 = .ok (.iload_n 1, 1) := by decide +kernel
theorem dX7_findElementsWithoutKids_44 : decode cX7_findElementsWithoutKids 44 = .ok (.iconst 0, 1) := by decide +kernel
theorem dX7_findElementsWithoutKids_45 : decode cX7_findElementsWithoutKids 45 = .ok (.invokevirtual 265, 3) := by decide +kernel
theorem dX7_findElementsWithoutKids_48 : decode cX7_findElementsWithoutKids 48 = .ok (.iinc 1 1, 3) := by decide +kernel
theorem dX7_findElementsWithoutKids_51 : decode cX7_findElementsWithoutKids 51 = .ok (.goto (-49), 3) := by decide +kernel
theorem dX7_findElementsWithoutKids_54 : decode cX7_findElementsWithoutKids 54 = .ok (.return_, 1) := by decide +kernel
theorem dX7_findRepeats_0 : decode cX7_findRepeats 0 = .ok (.iconst 0, 1) := by decide +kernel
theorem dX7_findRepeats_1 : decode cX7_findRepeats 1 = .ok (.istore_n 1, 1) := by decide +kernel
theorem dX7_findRepeats_2 : decode cX7_findRepeats 2 = .ok (.iload_n 1, 1) := by decide +kernel
theorem dX7_findRepeats_3 : decode cX7_findRepeats 3 = .ok (.aload_n 0, 1) := by decide +kernel
theorem dX7_findRepeats_4 : decode cX7_findRepeats 4 = .ok (.getfield 82, 3) := by decide +kernel
theorem dX7_findRepeats_7 : decode cX7_findRepeats 7 = .ok (.if_icmp .ge 30, 3) := by decide +kernel
theorem dX7_findRepeats_10 : decode cX7_findRepeats 10 = .ok (.aload_n 0, 1) := by decide +kernel
theorem dX7_findRepeats_11 : decode cX7_findRepeats 11 = .ok (.getfield 58, 3) := by decide +kernel
theorem dX7_findRepeats_14 : decode cX7_findRepeats 14 = .ok (.bipush 8, 2) := by decide +kernel
theorem dX7_findRepeats_16 : decode cX7_findRepeats 16 = .ok (.aload_n 0, 1) := by decide +kernel
theorem dX7_findRepeats_17 : decode cX7_findRepeats 17 = .ok (.getfield 76, 3) := by decide +kernel
theorem dX7_findRepeats_20 : decode cX7_findRepeats 20 = .ok (.iload_n 1, 1) := by decide +kernel
theorem dX7_findRepeats_21 : decode cX7_findRepeats 21 = .ok (.iaload, 1) := by decide +kernel
theorem dX7_findRepeats_22 : decode cX7_findRepeats 22 = .ok (.aload_n 0, 1) := by decide +kernel
theorem dX7_findRepeats_23 : decode cX7_findRepeats 23 = .ok (.getfield 79, 3) := by decide +kernel
theorem dX7_findRepeats_26 : decode cX7_findRepeats 26 = .ok (.iload_n 1, 1) := by decide +kernel
theorem dX7_findRepeats_27 : decode cX7_findRepeats 27 = .ok (.iaload, 1) := by decide +kernel
theorem dX7_findRepeats_28 : decode cX7_findRepeats 28 = .ok (.invokevirtual 265, 3) := by decide +kernel
theorem dX7_findRepeats_31 : decode cX7_findRepeats 31 = .ok (.iinc 1 1, 3) := by decide +kernel
theorem dX7_findRepeats_34 : decode cX7_findRepeats 34 = .ok (.goto (-32), 3) := by decide +kernel
theorem dX7_findRepeats_37 : decode cX7_findRepeats 37 = .ok (.return_, 1) := by decide +kernel
theorem dX7_findUntagged_0 : decode cX7_findUntagged 0 = .ok (.aload_n 0, 1) := by decide +kernel
theorem dX7_findUntagged_1 : decode cX7_findUntagged 1 = .ok (.invokevirtual 235, 3) := by decide +kernel
theorem dX7_findUntagged_4 : decode cX7_findUntagged 4 = .ok (.iconst 0, 1) := by decide +kernel
theorem dX7_findUntagged_5 : decode cX7_findUntagged 5 = .ok (.istore_n 1, 1) := by decide +kernel
theorem dX7_findUntagged_6 : decode cX7_findUntagged 6 = .ok (.iload_n 1, 1) := by decide +kernel
theorem dX7_findUntagged_7 : decode cX7_findUntagged 7 = .ok (.aload_n 0, 1) := by decide +kernel
theorem dX7_findUntagged_8 : decode cX7_findUntagged 8 = .ok (.getfield 89, 3) := by decide +kernel
theorem dX7_findUntagged_11 : decode cX7_findUntagged 11 = .ok (.if_icmp .ge 25, 3) := by decide +kernel
theorem dX7_findUntagged_14 : decode cX7_findUntagged 14 = .ok (.aload_n 0, 1) := by decide +kernel
theorem dX7_findUntagged_15 : decode cX7_findUntagged 15 = .ok (.getfield 58, 3) := by decide +kernel
theorem dX7_findUntagged_18 : decode cX7_findUntagged 18 = .ok (.bipush 9, 2) := by decide +kernel
theorem dX7_findUntagged_20 : decode cX7_findUntagged 20 = .ok (.iconst (-1), 1) := by decide +kernel
theorem dX7_findUntagged_21 : decode cX7_findUntagged 21 = .ok (.aload_n 0, 1) := by decide +kernel
theorem dX7_findUntagged_22 : decode cX7_findUntagged 22 = .ok (.getfield 86, 3) := by decide +kernel
theorem dX7_findUntagged_25 : decode cX7_findUntagged 25 = .ok (.iload_n 1, 1) := by decide +kernel
theorem dX7_findUntagged_26 : decode cX7_findUntagged 26 = .ok (.iaload, 1) := by decide +kernel
theorem dX7_findUntagged_27 : decode cX7_findUntagged 27 = .ok (.invokevirtual 265, 3) := by decide +kernel
theorem dX7_findUntagged_30 : decode cX7_findUntagged 30 = .ok (.iinc 1 1, 3) := by decide +kernel
theorem dX7_findUntagged_33 : decode cX7_findUntagged 33 = .ok (.goto (-27), 3) := by decide +kernel
theorem dX7_findUntagged_36 : decode cX7_findUntagged 36 = .ok (.return_, 1) := by decide +kernel
theorem dX7_findOutOfOrder_0 : decode cX7_findOutOfOrder 0 = .ok (.aload_n 0, 1) := by decide +kernel
theorem dX7_findOutOfOrder_1 : decode cX7_findOutOfOrder 1 = .ok (.getfield 30, 3) := by decide +kernel
theorem dX7_findOutOfOrder_4 : decode cX7_findOutOfOrder 4 = .ok (.invokevirtual 162, 3) := by decide +kernel
theorem dX7_findOutOfOrder_7 : decode cX7_findOutOfOrder 7 = .ok (.aload_n 0, 1) := by decide +kernel
theorem dX7_findOutOfOrder_8 : decode cX7_findOutOfOrder 8 = .ok (.getfield 92, 3) := by decide +kernel
theorem dX7_findOutOfOrder_11 : decode cX7_findOutOfOrder 11 = .ok (.iconst (-1), 1) := by decide +kernel
theorem dX7_findOutOfOrder_12 : decode cX7_findOutOfOrder 12 = .ok (.invokestatic 95, 3) := by decide +kernel
theorem dX7_findOutOfOrder_15 : decode cX7_findOutOfOrder 15 = .ok (.iconst 0, 1) := by decide +kernel
theorem dX7_findOutOfOrder_16 : decode cX7_findOutOfOrder 16 = .ok (.istore_n 1, 1) := by decide +kernel
theorem dX7_findOutOfOrder_17 : decode cX7_findOutOfOrder 17 = .ok (.iload_n 1, 1) := by decide +kernel
theorem dX7_findOutOfOrder_18 : decode cX7_findOutOfOrder 18 = .ok (.aload_n 0, 1) := by decide +kernel
theorem dX7_findOutOfOrder_19 : decode cX7_findOutOfOrder 19 = .ok (.getfield 30, 3) := by decide +kernel
theorem dX7_findOutOfOrder_22 : decode cX7_findOutOfOrder 22 = .ok (.getfield 165, 3) := by decide +kernel
theorem dX7_findOutOfOrder_25 : decode cX7_findOutOfOrder 25 = .ok (.if_icmp .ge 77, 3) := by decide +kernel
theorem dX7_findOutOfOrder_28 : decode cX7_findOutOfOrder 28 = .ok (.aload_n 0, 1) := by decide +kernel
theorem dX7_findOutOfOrder_29 : decode cX7_findOutOfOrder 29 = .ok (.getfield 30, 3) := by decide +kernel
theorem dX7_findOutOfOrder_32 : decode cX7_findOutOfOrder 32 = .ok (.getfield 174, 3) := by decide +kernel
theorem dX7_findOutOfOrder_35 : decode cX7_findOutOfOrder 35 = .ok (.iload_n 1, 1) := by decide +kernel
theorem dX7_findOutOfOrder_36 : decode cX7_findOutOfOrder 36 = .ok (.iaload, 1) := by decide +kernel
theorem dX7_findOutOfOrder_37 : decode cX7_findOutOfOrder 37 = .ok (.istore_n 2, 1) := by decide +kernel
theorem dX7_findOutOfOrder_38 : decode cX7_findOutOfOrder 38 = .ok (.iload_n 2, 1) := by decide +kernel
theorem dX7_findOutOfOrder_39 : decode cX7_findOutOfOrder 39 = .ok (.bipush 20, 2) := by decide +kernel
theorem dX7_findOutOfOrder_41 : decode cX7_findOutOfOrder 41 = .ok (.idiv, 1) := by decide +kernel
theorem dX7_findOutOfOrder_42 : decode cX7_findOutOfOrder 42 = .ok (.istore_n 3, 1) := by decide +kernel
theorem dX7_findOutOfOrder_43 : decode cX7_findOutOfOrder 43 = .ok (.aload_n 0, 1) := by decide +kernel
theorem dX7_findOutOfOrder_44 : decode cX7_findOutOfOrder 44 = .ok (.getfield 37, 3) := by decide +kernel
theorem dX7_findOutOfOrder_47 : decode cX7_findOutOfOrder 47 = .ok (.iload_n 2, 1) := by decide +kernel
theorem dX7_findOutOfOrder_48 : decode cX7_findOutOfOrder 48 = .ok (.invokevirtual 305, 3) := by decide +kernel
theorem dX7_findOutOfOrder_51 : decode cX7_findOutOfOrder 51 = .ok (.istore 4, 2) := by decide +kernel
theorem dX7_findOutOfOrder_53 : decode cX7_findOutOfOrder 53 = .ok (.iload 4, 2) := by decide +kernel
theorem dX7_findOutOfOrder_55 : decode cX7_findOutOfOrder 55 = .ok (.iconst (-1), 1) := by decide +kernel
theorem dX7_findOutOfOrder_56 : decode cX7_findOutOfOrder 56 = .ok (.if_icmp .eq 40, 3) := by decide +kernel
theorem dX7_findOutOfOrder_59 : decode cX7_findOutOfOrder 59 = .ok (.iload 4, 2) := by decide +kernel
theorem dX7_findOutOfOrder_61 : decode cX7_findOutOfOrder 61 = .ok (.aload_n 0, 1) := by decide +kernel
theorem dX7_findOutOfOrder_62 : decode cX7_findOutOfOrder 62 = .ok (.getfield 92, 3) := by decide +kernel
theorem dX7_findOutOfOrder_65 : decode cX7_findOutOfOrder 65 = .ok (.iload_n 3, 1) := by decide +kernel
theorem dX7_findOutOfOrder_66 : decode cX7_findOutOfOrder 66 = .ok (.iaload, 1) := by decide +kernel
theorem dX7_findOutOfOrder_67 : decode cX7_findOutOfOrder 67 = .ok (.if_icmp .ge 21, 3) := by decide +kernel
theorem dX7_findOutOfOrder_70 : decode cX7_findOutOfOrder 70 = .ok (.aload_n 0, 1) := by decide +kernel
theorem dX7_findOutOfOrder_71 : decode cX7_findOutOfOrder 71 = .ok (.getfield 58, 3) := by decide +kernel
theorem dX7_findOutOfOrder_74 : decode cX7_findOutOfOrder 74 = .ok (.bipush 10, 2) := by decide +kernel
theorem dX7_findOutOfOrder_76 : decode cX7_findOutOfOrder 76 = .ok (.aload_n 0, 1) := by decide +kernel
theorem dX7_findOutOfOrder_77 : decode cX7_findOutOfOrder 77 = .ok (.getfield 21, 3) := by decide +kernel
theorem dX7_findOutOfOrder_80 : decode cX7_findOutOfOrder 80 = .ok (.iload_n 2, 1) := by decide +kernel
theorem dX7_findOutOfOrder_81 : decode cX7_findOutOfOrder 81 = .ok (.invokevirtual 144, 3) := by decide +kernel
theorem dX7_findOutOfOrder_84 : decode cX7_findOutOfOrder 84 = .ok (.iload_n 2, 1) := by decide +kernel
theorem dX7_findOutOfOrder_85 : decode cX7_findOutOfOrder 85 = .ok (.invokevirtual 265, 3) := by decide +kernel
theorem dX7_findOutOfOrder_88 : decode cX7_findOutOfOrder 88 = .ok (.aload_n 0, 1) := by decide +kernel
theorem dX7_findOutOfOrder_89 : decode cX7_findOutOfOrder 89 = .ok (.getfield 92, 3) := by decide +kernel
theorem dX7_findOutOfOrder_92 : decode cX7_findOutOfOrder 92 = .ok (.iload_n 3, 1) := by decide +kernel
theorem dX7_findOutOfOrder_93 : decode cX7_findOutOfOrder 93 = .ok (.iload 4, 2) := by decide +kernel
theorem dX7_findOutOfOrder_95 : decode cX7_findOutOfOrder 95 = .ok (.iastore, 1) := by decide +kernel
theorem dX7_findOutOfOrder_96 : decode cX7_findOutOfOrder 96 = .ok (.iinc 1 1, 3) := by decide +kernel
theorem dX7_findOutOfOrder_99 : decode cX7_findOutOfOrder 99 = .ok (.goto (-82), 3) := by decide +kernel
theorem dX7_findOutOfOrder_102 : decode cX7_findOutOfOrder 102 = .ok (.return_, 1) := by decide +kernel
end
section
theorem dX8_init_0 : decode cX8_init 0 = .ok (.aload_n 0, 1) := by decide +kernel
theorem dX8_init_1 : decode cX8_init 1 = .ok (.invokespecial 1, 3) := by decide +kernel
theorem dX8_init_4 : decode cX8_init 4 = .ok (.aload_n 0, 1) := by decide +kernel
theorem dX8_init_5 : decode cX8_init 5 = .ok (.iconst 1, 1) := by decide +kernel
theorem dX8_init_6 : decode cX8_init 6 = .ok (.putfield 7, 3) := by decide +kernel
theorem dX8_init_9 : decode cX8_init 9 = .ok (.aload_n 0, 1) := by decide +kernel
theorem dX8_init_10 : decode cX8_init 10 = .ok (.bipush 60, 2) := by decide +kernel
theorem dX8_init_12 : decode cX8_init 12 = .ok (.newarray .int, 2) := by decide +kernel
theorem dX8_init_14 : decode cX8_init 14 = .ok (.putfield 13, 3) := by decide +kernel
theorem dX8_init_17 : decode cX8_init 17 = .ok (.aload_n 0, 1) := by decide +kernel
theorem dX8_init_18 : decode cX8_init 18 = .ok (.bipush 60, 2) := by decide +kernel
theorem dX8_init_20 : decode cX8_init 20 = .ok (.newarray .int, 2) := by decide +kernel
theorem dX8_init_22 : decode cX8_init 22 = .ok (.putfield 17, 3) := by decide +kernel
theorem dX8_init_25 : decode cX8_init 25 = .ok (.aload_n 0, 1) := by decide +kernel
theorem dX8_init_26 : decode cX8_init 26 = .ok (.bipush 60, 2) := by decide +kernel
theorem dX8_init_28 : decode cX8_init 28 = .ok (.newarray .boolean, 2) := by decide +kernel
theorem dX8_init_30 : decode cX8_init 30 = .ok (.putfield 20, 3) := by decide +kernel
theorem dX8_init_33 : decode cX8_init 33 = .ok (.aload_n 0, 1) := by decide +kernel
theorem dX8_init_34 : decode cX8_init 34 = .ok (.bipush 60, 2) := by decide +kernel
theorem dX8_init_36 : decode cX8_init 36 = .ok (.newarray .int, 2) := by decide +kernel
theorem dX8_init_38 : decode cX8_init 38 = .ok (.putfield 24, 3) := by decide +kernel
theorem dX8_init_41 : decode cX8_init 41 = .ok (.aload_n 0, 1) := by decide +kernel
theorem dX8_init_42 : decode cX8_init 42 = .ok (.bipush 60, 2) := by decide +kernel
theorem dX8_init_44 : decode cX8_init 44 = .ok (.newarray .int, 2) := by decide +kernel
theorem dX8_init_46 : decode cX8_init 46 = .ok (.putfield 27, 3) := by decide +kernel
theorem dX8_init_49 : decode cX8_init 49 = .ok (.aload_n 0, 1) := by decide +kernel
theorem dX8_init_50 : decode cX8_init 50 = .ok (.bipush 20, 2) := by decide +kernel
theorem dX8_init_52 : decode cX8_init 52 = .ok (.newarray .int, 2) := by decide +kernel
theorem dX8_init_54 : decode cX8_init 54 = .ok (.putfield 30, 3) := by decide +kernel
theorem dX8_init_57 : decode cX8_init 57 = .ok (.aload_n 0, 1) := by decide +kernel
theorem dX8_init_58 : decode cX8_init 58 = .ok (.sipush 160, 3) := by decide +kernel
theorem dX8_init_61 : decode cX8_init 61 = .ok (.newarray .int, 2) := by decide +kernel
theorem dX8_init_63 : decode cX8_init 63 = .ok (.putfield 33, 3) := by decide +kernel
theorem dX8_init_66 : decode cX8_init 66 = .ok (.aload_n 0, 1) := by decide +kernel
theorem dX8_init_67 : decode cX8_init 67 = .ok (.sipush 160, 3) := by decide +kernel
theorem dX8_init_70 : decode cX8_init 70 = .ok (.newarray .int, 2) := by decide +kernel
theorem dX8_init_72 : decode cX8_init 72 = .ok (.putfield 36, 3) := by decide +kernel
theorem dX8_init_75 : decode cX8_init 75 = .ok (.aload_n 0, 1) := by decide +kernel
theorem dX8_init_76 : decode cX8_init 76 = .ok (.bipush 40, 2) := by decide +kernel
theorem dX8_init_78 : decode cX8_init 78 = .ok (.newarray .int, 2) := by decide +kernel
theorem dX8_init_80 : decode cX8_init 80 = .ok (.putfield 39, 3) := by decide +kernel
theorem dX8_init_83 : decode cX8_init 83 = .ok (.aload_n 0, 1) := by decide +kernel
theorem dX8_init_84 : decode cX8_init 84 = .ok (.bipush 40, 2) := by decide +kernel
theorem dX8_init_86 : decode cX8_init 86 = .ok (.newarray .int, 2) := by decide +kernel
theorem dX8_init_88 : decode cX8_init 88 = .ok (.putfield 42, 3) := by decide +kernel
theorem dX8_init_91 : decode cX8_init 91 = .ok (.aload_n 0, 1) := by decide +kernel
theorem dX8_init_92 : decode cX8_init 92 = .ok (.sipush 200, 3) := by decide +kernel
theorem dX8_init_95 : decode cX8_init 95 = .ok (.newarray .int, 2) := by decide +kernel
theorem dX8_init_97 : decode cX8_init 97 = .ok (.putfield 45, 3) := by decide +kernel
theorem dX8_init_100 : decode cX8_init 100 = .ok (.aload_n 0, 1) := by decide +kernel
theorem dX8_init_101 : decode cX8_init 101 = .ok (.sipush 160, 3) := by decide +kernel
theorem dX8_init_104 : decode cX8_init 104 = .ok (.newarray .int, 2) := by decide +kernel
theorem dX8_init_106 : decode cX8_init 106 = .ok (.putfield 48, 3) := by decide +kernel
theorem dX8_init_109 : decode cX8_init 109 = .ok (.aload_n 0, 1) := by decide +kernel
theorem dX8_init_110 : decode cX8_init 110 = .ok (.sipush 160, 3) := by decide +kernel
theorem dX8_init_113 : decode cX8_init 113 = .ok (.newarray .int, 2) := by decide +kernel
theorem dX8_init_115 : decode cX8_init 115 = .ok (.putfield 51, 3) := by decide +kernel
theorem dX8_init_118 : decode cX8_init 118 = .ok (.aload_n 0, 1) := by decide +kernel
theorem dX8_init_119 : decode cX8_init 119 = .ok (.bipush 61, 2) := by decide +kernel
theorem dX8_init_121 : decode cX8_init 121 = .ok (.newarray .int, 2) := by decide +kernel
theorem dX8_init_123 : decode cX8_init 123 = .ok (.putfield 54, 3) := by decide +kernel
theorem dX8_init_126 : decode cX8_init 126 = .ok (.aload_n 0, 1) := by decide +kernel
theorem dX8_init_127 : decode cX8_init 127 = .ok (.bipush 61, 2) := by decide +kernel
theorem dX8_init_129 : decode cX8_init 129 = .ok (.newarray .int, 2) := by decide +kernel
theorem dX8_init_131 : decode cX8_init 131 = .ok (.putfield 57, 3) := by decide +kernel
theorem dX8_init_134 : decode cX8_init 134 = .ok (.aload_n 0, 1) := by decide +kernel
theorem dX8_init_135 : decode cX8_init 135 = .ok (.bipush 60, 2) := by decide +kernel
theorem dX8_init_137 : decode cX8_init 137 = .ok (.newarray .int, 2) := by decide +kernel
theorem dX8_init_139 : decode cX8_init 139 = .ok (.putfield 60, 3) := by decide +kernel
theorem dX8_init_142 : decode cX8_init 142 = .ok (.aload_n 0, 1) := by decide +kernel
theorem dX8_init_143 : decode cX8_init 143 = .ok (.bipush 60, 2) := by decide +kernel
theorem dX8_init_145 : decode cX8_init 145 = .ok (.newarray .int, 2) := by decide +kernel
theorem dX8_init_147 : decode cX8_init 147 = .ok (.putfield 63, 3) := by decide +kernel
theorem dX8_init_150 : decode cX8_init 150 = .ok (.aload_n 0, 1) := by decide +kernel
theorem dX8_init_151 : decode cX8_init 151 = .ok (.sipush 700, 3) := by decide +kernel
theorem dX8_init_154 : decode cX8_init 154 = .ok (.newarray .int, 2) := by decide +kernel
theorem dX8_init_156 : decode cX8_init 156 = .ok (.putfield 66, 3) := by decide +kernel
theorem dX8_init_159 : decode cX8_init 159 = .ok (.aload_n 0, 1) := by decide +kernel
theorem dX8_init_160 : decode cX8_init 160 = .ok (.sipush 700, 3) := by decide +kernel
theorem dX8_init_163 : decode cX8_init 163 = .ok (.newarray .int, 2) := by decide +kernel
theorem dX8_init_165 : decode cX8_init 165 = .ok (.putfield 69, 3) := by decide +kernel
theorem dX8_init_168 : decode cX8_init 168 = .ok (.aload_n 0, 1) := by decide +kernel
theorem dX8_init_169 : decode cX8_init 169 = .ok (.sipush 700, 3) := by decide +kernel
theorem dX8_init_172 : decode cX8_init 172 = .ok (.newarray .int, 2) := by decide +kernel
theorem dX8_init_174 : decode cX8_init 174 = .ok (.putfield 72, 3) := by decide +kernel
theorem dX8_init_177 : decode cX8_init 177 = .ok (.aload_n 0, 1) := by decide +kernel
theorem dX8_init_178 : decode cX8_init 178 = .ok (.sipush 500, 3) := by decide +kernel
theorem dX8_init_181 : decode cX8_init 181 = .ok (.newarray .int, 2) := by decide +kernel
theorem dX8_init_183 : decode cX8_init 183 = .ok (.putfield 75, 3) := by decide +kernel
theorem dX8_init_186 : decode cX8_init 186 = .ok (.iconst 0, 1) := by decide +kernel
theorem dX8_init_187 : decode cX8_init 187 = .ok (.istore_n 1, 1) := by decide +kernel
theorem dX8_init_188 : decode cX8_init 188 = .ok (.iload_n 1, 1) := by decide +kernel
theorem dX8_init_189 : decode cX8_init 189 = .ok (.bipush 20, 2) := by decide +kernel
theorem dX8_init_191 : decode cX8_init 191 = .ok (.if_icmp .ge 16, 3) := by decide +kernel
theorem dX8_init_194 : decode cX8_init 194 = .ok (.aload_n 0, 1) := by decide +kernel
theorem dX8_init_195 : decode cX8_init 195 = .ok (.getfield 30, 3) := by decide +kernel
theorem dX8_init_198 : decode cX8_init 198 = .ok (.iload_n 1, 1) := by decide +kernel
theorem dX8_init_199 : decode cX8_init 199 = .ok (.iconst (-1), 1) := by decide +kernel
theorem dX8_init_200 : decode cX8_init 200 = .ok (.iastore, 1) := by decide +kernel
theorem dX8_init_201 : decode cX8_init 201 = .ok (.iinc 1 1, 3) := by decide +kernel
theorem dX8_init_204 : decode cX8_init 204 = .ok (.goto (-16), 3) := by decide +kernel
theorem dX8_init_207 : decode cX8_init 207 = .ok (.iconst 0, 1) := by decide +kernel
theorem dX8_init_208 : decode cX8_init 208 = .ok (.istore_n 1, 1) := by decide +kernel
theorem dX8_init_209 : decode cX8_init 209 = .ok (.iload_n 1, 1) := by decide +kernel
theorem dX8_init_210 : decode cX8_init 210 = .ok (.bipush 60, 2) := by decide +kernel
theorem dX8_init_212 : decode cX8_init 212 = .ok (.if_icmp .ge 23, 3) := by decide +kernel
theorem dX8_init_215 : decode cX8_init 215 = .ok (.aload_n 0, 1) := by decide +kernel
theorem dX8_init_216 : decode cX8_init 216 = .ok (.getfield 24, 3) := by decide +kernel
theorem dX8_init_219 : decode cX8_init 219 = .ok (.iload_n 1, 1) := by decide +kernel
theorem dX8_init_220 : decode cX8_init 220 = .ok (.iconst 1, 1) := by decide +kernel
theorem dX8_init_221 : decode cX8_init 221 = .ok (.iastore, 1) := by decide +kernel
theorem dX8_init_222 : decode cX8_init 222 = .ok (.aload_n 0, 1) := by decide +kernel
theorem dX8_init_223 : decode cX8_init 223 = .ok (.getfield 27, 3) := by decide +kernel
theorem dX8_init_226 : decode cX8_init 226 = .ok (.iload_n 1, 1) := by decide +kernel
theorem dX8_init_227 : decode cX8_init 227 = .ok (.iconst 1, 1) := by decide +kernel
theorem dX8_init_228 : decode cX8_init 228 = .ok (.iastore, 1) := by decide +kernel
theorem dX8_init_229 : decode cX8_init 229 = .ok (.iinc 1 1, 3) := by decide +kernel
theorem dX8_init_232 : decode cX8_init 232 = .ok (.goto (-23), 3) := by decide +kernel
theorem dX8_init_235 : decode cX8_init 235 = .ok (.return_, 1) := by decide +kernel
theorem dX8_thrown_0 : decode cX8_thrown 0 = .ok (.aload_n 0, 1) := by decide +kernel
theorem dX8_thrown_1 : decode cX8_thrown 1 = .ok (.getfield 78, 3) := by decide +kernel
theorem dX8_thrown_4 : decode cX8_thrown 4 = .ok (.ireturn, 1) := by decide +kernel
theorem dX8_in_0 : decode cX8_in 0 = .ok (.iload_n 0, 1) := by decide +kernel
theorem dX8_in_1 : decode cX8_in 1 = .ok (.iload_n 1, 1) := by decide +kernel
theorem dX8_in_2 : decode cX8_in 2 = .ok (.if_icmp .lt 12, 3) := by decide +kernel
theorem dX8_in_5 : decode cX8_in 5 = .ok (.iload_n 0, 1) := by decide +kernel
theorem dX8_in_6 : decode cX8_in 6 = .ok (.iload_n 2, 1) := by decide +kernel
theorem dX8_in_7 : decode cX8_in 7 = .ok (.if_icmp .gt 7, 3) := by decide +kernel
theorem dX8_in_10 : decode cX8_in 10 = .ok (.iconst 1, 1) := by decide +kernel
theorem dX8_in_11 : decode cX8_in 11 = .ok (.goto 4, 3) := by decide +kernel
theorem dX8_in_14 : decode cX8_in 14 = .ok (.iconst 0, 1) := by decide +kernel
theorem dX8_in_15 : decode cX8_in 15 = .ok (.ireturn, 1) := by decide +kernel
theorem dX8_isElement_0 : decode cX8_isElement 0 = .ok (.iload_n 1, 1) := by decide +kernel
theorem dX8_isElement_1 : decode cX8_isElement 1 = .ok (.ifCond .lt 15, 3) := by decide +kernel
theorem dX8_isElement_4 : decode cX8_isElement 4 = .ok (.iload_n 1, 1) := by decide +kernel
theorem dX8_isElement_5 : decode cX8_isElement 5 = .ok (.aload_n 0, 1) := by decide +kernel
theorem dX8_isElement_6 : decode cX8_isElement 6 = .ok (.getfield 7, 3) := by decide +kernel
theorem dX8_isElement_9 : decode cX8_isElement 9 = .ok (.if_icmp .ge 7, 3) := by decide +kernel
theorem dX8_isElement_12 : decode cX8_isElement 12 = .ok (.iconst 1, 1) := by decide +kernel
theorem dX8_isElement_13 : decode cX8_isElement 13 = .ok (.goto 4, 3) := by decide +kernel
theorem dX8_isElement_16 : decode cX8_isElement 16 = .ok (.iconst 0, 1) := by decide +kernel
theorem dX8_isElement_17 : decode cX8_isElement 17 = .ok (.ireturn, 1) := by decide +kernel
theorem dX8_element_0 : decode cX8_element 0 = .ok (.aload_n 0, 1) := by decide +kernel
theorem dX8_element_1 : decode cX8_element 1 = .ok (.aload_n 0, 1) := by decide +kernel
theorem dX8_element_2 : decode cX8_element 2 = .ok (.iload_n 1, 1) := by decide +kernel
theorem dX8_element_3 : decode cX8_element 3 = .ok (.invokevirtual 81, 3) := by decide +kernel
theorem dX8_element_6 : decode cX8_element 6 = .ok (.ifCond .ne 7, 3) := by decide +kernel
theorem dX8_element_9 : decode cX8_element 9 = .ok (.iconst 1, 1) := by decide +kernel
theorem dX8_element_10 : decode cX8_element 10 = .ok (.goto 42, 3) := by decide +kernel
theorem dX8_element_13 : decode cX8_element 13 = .ok (.iload_n 2, 1) := by decide +kernel
theorem dX8_element_14 : decode cX8_element 14 = .ok (.iconst 1, 1) := by decide +kernel
theorem dX8_element_15 : decode cX8_element 15 = .ok (.bipush 12, 2) := by decide +kernel
theorem dX8_element_17 : decode cX8_element 17 = .ok (.invokestatic 85, 3) := by decide +kernel
theorem dX8_element_20 : decode cX8_element 20 = .ok (.ifCond .ne 18, 3) := by decide +kernel
theorem dX8_element_23 : decode cX8_element 23 = .ok (.iload_n 2, 1) := by decide +kernel
theorem dX8_element_24 : decode cX8_element 24 = .ok (.bipush 100, 2) := by decide +kernel
theorem dX8_element_26 : decode cX8_element 26 = .ok (.bipush 119, 2) := by decide +kernel
theorem dX8_element_28 : decode cX8_element 28 = .ok (.invokestatic 85, 3) := by decide +kernel
theorem dX8_element_31 : decode cX8_element 31 = .ok (.ifCond .ne 7, 3) := by decide +kernel
theorem dX8_element_34 : decode cX8_element 34 = .ok (.iconst 2, 1) := by decide +kernel
theorem dX8_element_35 : decode cX8_element 35 = .ok (.goto 17, 3) := by decide +kernel
theorem dX8_element_38 : decode cX8_element 38 = .ok (.aload_n 0, 1) := by decide +kernel
theorem dX8_element_39 : decode cX8_element 39 = .ok (.getfield 7, 3) := by decide +kernel
theorem dX8_element_42 : decode cX8_element 42 = .ok (.bipush 60, 2) := by decide +kernel
theorem dX8_element_44 : decode cX8_element 44 = .ok (.if_icmp .ne 7, 3) := by decide +kernel
theorem dX8_element_47 : decode cX8_element 47 = .ok (.iconst 3, 1) := by decide +kernel
theorem dX8_element_48 : decode cX8_element 48 = .ok (.goto 4, 3) := by decide +kernel
theorem dX8_element_51 : decode cX8_element 51 = .ok (.iconst 0, 1) := by decide +kernel
theorem dX8_element_52 : decode cX8_element 52 = .ok (.putfield 78, 3) := by decide +kernel
theorem dX8_element_55 : decode cX8_element 55 = .ok (.aload_n 0, 1) := by decide +kernel
theorem dX8_element_56 : decode cX8_element 56 = .ok (.getfield 78, 3) := by decide +kernel
theorem dX8_element_59 : decode cX8_element 59 = .ok (.ifCond .le 5, 3) := by decide +kernel
theorem dX8_element_62 : decode cX8_element 62 = .ok (.iconst 0, 1) := by decide +kernel
theorem dX8_element_63 : decode cX8_element 63 = .ok (.ireturn, 1) := by decide +kernel
theorem dX8_element_64 : decode cX8_element 64 = .ok (.aload_n 0, 1) := by decide +kernel
theorem dX8_element_65 : decode cX8_element 65 = .ok (.getfield 13, 3) := by decide +kernel
theorem dX8_element_68 : decode cX8_element 68 = .ok (.aload_n 0, 1) := by decide +kernel
theorem dX8_element_69 : decode cX8_element 69 = .ok (.getfield 7, 3) := by decide +kernel
theorem dX8_element_72 : decode cX8_element 72 = .ok (.iload_n 2, 1) := by decide +kernel
theorem dX8_element_73 : decode cX8_element 73 = .ok (.iastore, 1) := by decide +kernel
theorem dX8_element_74 : decode cX8_element 74 = .ok (.aload_n 0, 1) := by decide +kernel
theorem dX8_element_75 : decode cX8_element 75 = .ok (.getfield 33, 3) := by decide +kernel
theorem dX8_element_78 : decode cX8_element 78 = .ok (.aload_n 0, 1) := by decide +kernel
theorem dX8_element_79 : decode cX8_element 79 = .ok (.getfield 89, 3) := by decide +kernel
theorem dX8_element_82 : decode cX8_element 82 = .ok (.iload_n 1, 1) := by decide +kernel
theorem dX8_element_83 : decode cX8_element 83 = .ok (.iastore, 1) := by decide +kernel
theorem dX8_element_84 : decode cX8_element 84 = .ok (.aload_n 0, 1) := by decide +kernel
theorem dX8_element_85 : decode cX8_element 85 = .ok (.getfield 36, 3) := by decide +kernel
theorem dX8_element_88 : decode cX8_element 88 = .ok (.aload_n 0, 1) := by decide +kernel
theorem dX8_element_89 : decode cX8_element 89 = .ok (.getfield 89, 3) := by decide +kernel
theorem dX8_element_92 : decode cX8_element 92 = .ok (.aload_n 0, 1) := by decide +kernel
theorem dX8_element_93 : decode cX8_element 93 = .ok (.getfield 7, 3) := by decide +kernel
theorem dX8_element_96 : decode cX8_element 96 = .ok (.iastore, 1) := by decide +kernel
theorem dX8_element_97 : decode cX8_element 97 = .ok (.aload_n 0, 1) := by decide +kernel
theorem dX8_element_98 : decode cX8_element 98 = .ok (.dup, 1) := by decide +kernel
theorem dX8_element_99 : decode cX8_element 99 = .ok (.getfield 89, 3) := by decide +kernel
theorem dX8_element_102 : decode cX8_element 102 = .ok (.iconst 1, 1) := by decide +kernel
theorem dX8_element_103 : decode cX8_element 103 = .ok (.iadd, 1) := by decide +kernel
theorem dX8_element_104 : decode cX8_element 104 = .ok (.putfield 89, 3) := by decide +kernel
theorem dX8_element_107 : decode cX8_element 107 = .ok (.aload_n 0, 1) := by decide +kernel
theorem dX8_element_108 : decode cX8_element 108 = .ok (.dup, 1) := by decide +kernel
theorem dX8_element_109 : decode cX8_element 109 = .ok (.getfield 7, 3) := by decide +kernel
theorem dX8_element_112 : decode cX8_element 112 = .ok (.iconst 1, 1) := by decide +kernel
theorem dX8_element_113 : decode cX8_element 113 = .ok (.iadd, 1) := by decide +kernel
theorem dX8_element_114 : decode cX8_element 114 = .ok (.putfield 7, 3) := by decide +kernel
theorem dX8_element_117 : decode cX8_element 117 = .ok (.aload_n 0, 1) := by decide +kernel
theorem dX8_element_118 : decode cX8_element 118 = .ok (.getfield 7, 3) := by decide +kernel
theorem dX8_element_121 : decode cX8_element 121 = .ok (.iconst 1, 1) := by decide +kernel
theorem dX8_element_122 : decode cX8_element 122 = .ok (.isub, 1) := by decide +kernel
theorem dX8_element_123 : decode cX8_element 123 = .ok (.ireturn, 1) := by decide +kernel
theorem dX8_standardOf_0 : decode cX8_standardOf 0 = .ok (.iload_n 1, 1) := by decide +kernel
theorem dX8_standardOf_1 : decode cX8_standardOf 1 = .ok (.istore_n 2, 1) := by decide +kernel
theorem dX8_standardOf_2 : decode cX8_standardOf 2 = .ok (.iload_n 2, 1) := by decide +kernel
theorem dX8_standardOf_3 : decode cX8_standardOf 3 = .ok (.bipush 99, 2) := by decide +kernel
theorem dX8_standardOf_5 : decode cX8_standardOf 5 = .ok (.if_icmp .le 16, 3) := by decide +kernel
theorem dX8_standardOf_8 : decode cX8_standardOf 8 = .ok (.aload_n 0, 1) := by decide +kernel
theorem dX8_standardOf_9 : decode cX8_standardOf 9 = .ok (.getfield 30, 3) := by decide +kernel
theorem dX8_standardOf_12 : decode cX8_standardOf 12 = .ok (.iload_n 2, 1) := by decide +kernel
theorem dX8_standardOf_13 : decode cX8_standardOf 13 = .ok (.bipush 100, 2) := by decide +kernel
theorem dX8_standardOf_15 : decode cX8_standardOf 15 = .ok (.isub, 1) := by decide +kernel
theorem dX8_standardOf_16 : decode cX8_standardOf 16 = .ok (.iaload, 1) := by decide +kernel
theorem dX8_standardOf_17 : decode cX8_standardOf 17 = .ok (.istore_n 2, 1) := by decide +kernel
theorem dX8_standardOf_18 : decode cX8_standardOf 18 = .ok (.goto (-16), 3) := by decide +kernel
theorem dX8_standardOf_21 : decode cX8_standardOf 21 = .ok (.iload_n 2, 1) := by decide +kernel
theorem dX8_standardOf_22 : decode cX8_standardOf 22 = .ok (.ireturn, 1) := by decide +kernel
theorem dX8_leadsTo_0 : decode cX8_leadsTo 0 = .ok (.iload_n 1, 1) := by decide +kernel
theorem dX8_leadsTo_1 : decode cX8_leadsTo 1 = .ok (.istore_n 3, 1) := by decide +kernel
theorem dX8_leadsTo_2 : decode cX8_leadsTo 2 = .ok (.iconst 0, 1) := by decide +kernel
theorem dX8_leadsTo_3 : decode cX8_leadsTo 3 = .ok (.istore 4, 2) := by decide +kernel
theorem dX8_leadsTo_5 : decode cX8_leadsTo 5 = .ok (.iload_n 3, 1) := by decide +kernel
theorem dX8_leadsTo_6 : decode cX8_leadsTo 6 = .ok (.bipush 99, 2) := by decide +kernel
theorem dX8_leadsTo_8 : decode cX8_leadsTo 8 = .ok (.if_icmp .le 33, 3) := by decide +kernel
theorem dX8_leadsTo_11 : decode cX8_leadsTo 11 = .ok (.iload 4, 2) := by decide +kernel
theorem dX8_leadsTo_13 : decode cX8_leadsTo 13 = .ok (.ifCond .ne 8, 3) := by decide +kernel
theorem dX8_leadsTo_16 : decode cX8_leadsTo 16 = .ok (.iload_n 3, 1) := by decide +kernel
theorem dX8_leadsTo_17 : decode cX8_leadsTo 17 = .ok (.iload_n 2, 1) := by decide +kernel
theorem dX8_leadsTo_18 : decode cX8_leadsTo 18 = .ok (.if_icmp .ne 7, 3) := by decide +kernel
theorem dX8_leadsTo_21 : decode cX8_leadsTo 21 = .ok (.iconst 1, 1) := by decide +kernel
theorem dX8_leadsTo_22 : decode cX8_leadsTo 22 = .ok (.goto 4, 3) := by decide +kernel
theorem dX8_leadsTo_25 : decode cX8_leadsTo 25 = .ok (.iconst 0, 1) := by decide +kernel
theorem dX8_leadsTo_26 : decode cX8_leadsTo 26 = .ok (.istore 4, 2) := by decide +kernel
theorem dX8_leadsTo_28 : decode cX8_leadsTo 28 = .ok (.aload_n 0, 1) := by decide +kernel
theorem dX8_leadsTo_29 : decode cX8_leadsTo 29 = .ok (.getfield 30, 3) := by decide +kernel
theorem dX8_leadsTo_32 : decode cX8_leadsTo 32 = .ok (.iload_n 3, 1) := by decide +kernel
theorem dX8_leadsTo_33 : decode cX8_leadsTo 33 = .ok (.bipush 100, 2) := by decide +kernel
theorem dX8_leadsTo_35 : decode cX8_leadsTo 35 = .ok (.isub, 1) := by decide +kernel
theorem dX8_leadsTo_36 : decode cX8_leadsTo 36 = .ok (.iaload, 1) := by decide +kernel
theorem dX8_leadsTo_37 : decode cX8_leadsTo 37 = .ok (.istore_n 3, 1) := by decide +kernel
theorem dX8_leadsTo_38 : decode cX8_leadsTo 38 = .ok (.goto (-33), 3) := by decide +kernel
theorem dX8_leadsTo_41 : decode cX8_leadsTo 41 = .ok (.iload 4, 2) := by decide +kernel
theorem dX8_leadsTo_43 : decode cX8_leadsTo 43 = .ok (.ireturn, 1) := by decide +kernel
theorem dX8_map_0 : decode cX8_map 0 = .ok (.aload_n 0, 1) := by decide +kernel
theorem dX8_map_1 : decode cX8_map 1 = .ok (.iload_n 1, 1) := by decide +kernel
theorem dX8_map_2 : decode cX8_map 2 = .ok (.bipush 100, 2) := by decide +kernel
theorem dX8_map_4 : decode cX8_map 4 = .ok (.bipush 119, 2) := by decide +kernel
theorem dX8_map_6 : decode cX8_map 6 = .ok (.invokestatic 85, 3) := by decide +kernel
theorem dX8_map_9 : decode cX8_map 9 = .ok (.ifCond .eq 28, 3) := by decide +kernel
theorem dX8_map_12 : decode cX8_map 12 = .ok (.iload_n 2, 1) := by decide +kernel
theorem dX8_map_13 : decode cX8_map 13 = .ok (.iconst 0, 1) := by decide +kernel
theorem dX8_map_14 : decode cX8_map 14 = .ok (.bipush 12, 2) := by decide +kernel
theorem dX8_map_16 : decode cX8_map 16 = .ok (.invokestatic 85, 3) := by decide +kernel
theorem dX8_map_19 : decode cX8_map 19 = .ok (.ifCond .ne 14, 3) := by decide +kernel
theorem dX8_map_22 : decode cX8_map 22 = .ok (.iload_n 2, 1) := by decide +kernel
theorem dX8_map_23 : decode cX8_map 23 = .ok (.bipush 100, 2) := by decide +kernel
theorem dX8_map_25 : decode cX8_map 25 = .ok (.bipush 119, 2) := by decide +kernel
theorem dX8_map_27 : decode cX8_map 27 = .ok (.invokestatic 85, 3) := by decide +kernel
theorem dX8_map_30 : decode cX8_map 30 = .ok (.ifCond .eq 7, 3) := by decide +kernel
theorem dX8_map_33 : decode cX8_map 33 = .ok (.iconst 0, 1) := by decide +kernel
theorem dX8_map_34 : decode cX8_map 34 = .ok (.goto 4, 3) := by decide +kernel
theorem dX8_map_37 : decode cX8_map 37 = .ok (.iconst 1, 1) := by decide +kernel
theorem dX8_map_38 : decode cX8_map 38 = .ok (.putfield 78, 3) := by decide +kernel
theorem dX8_map_41 : decode cX8_map 41 = .ok (.aload_n 0, 1) := by decide +kernel
theorem dX8_map_42 : decode cX8_map 42 = .ok (.getfield 78, 3) := by decide +kernel
theorem dX8_map_45 : decode cX8_map 45 = .ok (.ifCond .gt 12, 3) := by decide +kernel
theorem dX8_map_48 : decode cX8_map 48 = .ok (.aload_n 0, 1) := by decide +kernel
theorem dX8_map_49 : decode cX8_map 49 = .ok (.iload_n 2, 1) := by decide +kernel
theorem dX8_map_50 : decode cX8_map 50 = .ok (.iload_n 1, 1) := by decide +kernel
theorem dX8_map_51 : decode cX8_map 51 = .ok (.invokevirtual 92, 3) := by decide +kernel
theorem dX8_map_54 : decode cX8_map 54 = .ok (.ifCond .eq 5, 3) := by decide +kernel
theorem dX8_map_57 : decode cX8_map 57 = .ok (.iconst 0, 1) := by decide +kernel
theorem dX8_map_58 : decode cX8_map 58 = .ok (.ireturn, 1) := by decide +kernel
theorem dX8_map_59 : decode cX8_map 59 = .ok (.aload_n 0, 1) := by decide +kernel
theorem dX8_map_60 : decode cX8_map 60 = .ok (.getfield 30, 3) := by decide +kernel
theorem dX8_map_63 : decode cX8_map 63 = .ok (.iload_n 1, 1) := by decide +kernel
theorem dX8_map_64 : decode cX8_map 64 = .ok (.bipush 100, 2) := by decide +kernel
theorem dX8_map_66 : decode cX8_map 66 = .ok (.isub, 1) := by decide +kernel
theorem dX8_map_67 : decode cX8_map 67 = .ok (.iload_n 2, 1) := by decide +kernel
theorem dX8_map_68 : decode cX8_map 68 = .ok (.iastore, 1) := by decide +kernel
theorem dX8_map_69 : decode cX8_map 69 = .ok (.iconst 1, 1) := by decide +kernel
theorem dX8_map_70 : decode cX8_map 70 = .ok (.ireturn, 1) := by decide +kernel
theorem dX8_ownerOf_0 : decode cX8_ownerOf 0 = .ok (.iconst (-1), 1) := by decide +kernel
theorem dX8_ownerOf_1 : decode cX8_ownerOf 1 = .ok (.istore_n 2, 1) := by decide +kernel
theorem dX8_ownerOf_2 : decode cX8_ownerOf 2 = .ok (.iconst 0, 1) := by decide +kernel
theorem dX8_ownerOf_3 : decode cX8_ownerOf 3 = .ok (.istore_n 3, 1) := by decide +kernel
theorem dX8_ownerOf_4 : decode cX8_ownerOf 4 = .ok (.iload_n 3, 1) := by decide +kernel
theorem dX8_ownerOf_5 : decode cX8_ownerOf 5 = .ok (.aload_n 0, 1) := by decide +kernel
theorem dX8_ownerOf_6 : decode cX8_ownerOf 6 = .ok (.getfield 89, 3) := by decide +kernel
theorem dX8_ownerOf_9 : decode cX8_ownerOf 9 = .ok (.if_icmp .ge 34, 3) := by decide +kernel
theorem dX8_ownerOf_12 : decode cX8_ownerOf 12 = .ok (.aload_n 0, 1) := by decide +kernel
theorem dX8_ownerOf_13 : decode cX8_ownerOf 13 = .ok (.getfield 36, 3) := by decide +kernel
theorem dX8_ownerOf_16 : decode cX8_ownerOf 16 = .ok (.iload_n 3, 1) := by decide +kernel
theorem dX8_ownerOf_17 : decode cX8_ownerOf 17 = .ok (.iaload, 1) := by decide +kernel
theorem dX8_ownerOf_18 : decode cX8_ownerOf 18 = .ok (.sipush 1000, 3) := by decide +kernel
theorem dX8_ownerOf_21 : decode cX8_ownerOf 21 = .ok (.iload_n 1, 1) := by decide +kernel
theorem dX8_ownerOf_22 : decode cX8_ownerOf 22 = .ok (.iadd, 1) := by decide +kernel
theorem dX8_ownerOf_23 : decode cX8_ownerOf 23 = .ok (.if_icmp .ne 12, 3) := by decide +kernel
theorem dX8_ownerOf_26 : decode cX8_ownerOf 26 = .ok (.aload_n 0, 1) := by decide +kernel
theorem dX8_ownerOf_27 : decode cX8_ownerOf 27 = .ok (.getfield 33, 3) := by decide +kernel
theorem dX8_ownerOf_30 : decode cX8_ownerOf 30 = .ok (.iload_n 3, 1) := by decide +kernel
theorem dX8_ownerOf_31 : decode cX8_ownerOf 31 = .ok (.iaload, 1) := by decide +kernel
theorem dX8_ownerOf_32 : decode cX8_ownerOf 32 = .ok (.goto 4, 3) := by decide +kernel
theorem dX8_ownerOf_35 : decode cX8_ownerOf 35 = .ok (.iload_n 2, 1) := by decide +kernel
theorem dX8_ownerOf_36 : decode cX8_ownerOf 36 = .ok (.istore_n 2, 1) := by decide +kernel
theorem dX8_ownerOf_37 : decode cX8_ownerOf 37 = .ok (.iinc 3 1, 3) := by decide +kernel
theorem dX8_ownerOf_40 : decode cX8_ownerOf 40 = .ok (.goto (-36), 3) := by decide +kernel
theorem dX8_ownerOf_43 : decode cX8_ownerOf 43 = .ok (.iload_n 2, 1) := by decide +kernel
theorem dX8_ownerOf_44 : decode cX8_ownerOf 44 = .ok (.ireturn, 1) := by decide +kernel
theorem dX8_isPart_0 : decode cX8_isPart 0 = .ok (.iload_n 0, 1) := by decide +kernel
theorem dX8_isPart_1 : decode cX8_isPart 1 = .ok (.iconst 0, 1) := by decide +kernel
theorem dX8_isPart_2 : decode cX8_isPart 2 = .ok (.bipush 9, 2) := by decide +kernel
theorem dX8_isPart_4 : decode cX8_isPart 4 = .ok (.invokestatic 85, 3) := by decide +kernel
theorem dX8_isPart_7 : decode cX8_isPart 7 = .ok (.ifCond .eq 17, 3) := by decide +kernel
theorem dX8_isPart_10 : decode cX8_isPart 10 = .ok (.iload_n 1, 1) := by decide +kernel
theorem dX8_isPart_11 : decode cX8_isPart 11 = .ok (.iconst 0, 1) := by decide +kernel
theorem dX8_isPart_12 : decode cX8_isPart 12 = .ok (.bipush 19, 2) := by decide +kernel
theorem dX8_isPart_14 : decode cX8_isPart 14 = .ok (.invokestatic 85, 3) := by decide +kernel
theorem dX8_isPart_17 : decode cX8_isPart 17 = .ok (.ifCond .eq 7, 3) := by decide +kernel
theorem dX8_isPart_20 : decode cX8_isPart 20 = .ok (.iconst 1, 1) := by decide +kernel
theorem dX8_isPart_21 : decode cX8_isPart 21 = .ok (.goto 4, 3) := by decide +kernel
theorem dX8_isPart_24 : decode cX8_isPart 24 = .ok (.iconst 0, 1) := by decide +kernel
theorem dX8_isPart_25 : decode cX8_isPart 25 = .ok (.ireturn, 1) := by decide +kernel
theorem dX8_content_0 : decode cX8_content 0 = .ok (.aload_n 0, 1) := by decide +kernel
theorem dX8_content_1 : decode cX8_content 1 = .ok (.aload_n 0, 1) := by decide +kernel
theorem dX8_content_2 : decode cX8_content 2 = .ok (.iload_n 1, 1) := by decide +kernel
theorem dX8_content_3 : decode cX8_content 3 = .ok (.invokevirtual 81, 3) := by decide +kernel
theorem dX8_content_6 : decode cX8_content 6 = .ok (.ifCond .ne 7, 3) := by decide +kernel
theorem dX8_content_9 : decode cX8_content 9 = .ok (.iconst 1, 1) := by decide +kernel
theorem dX8_content_10 : decode cX8_content 10 = .ok (.goto 16, 3) := by decide +kernel
theorem dX8_content_13 : decode cX8_content 13 = .ok (.iload_n 2, 1) := by decide +kernel
theorem dX8_content_14 : decode cX8_content 14 = .ok (.iload_n 3, 1) := by decide +kernel
theorem dX8_content_15 : decode cX8_content 15 = .ok (.invokestatic 96, 3) := by decide +kernel
theorem dX8_content_18 : decode cX8_content 18 = .ok (.ifCond .ne 7, 3) := by decide +kernel
theorem dX8_content_21 : decode cX8_content 21 = .ok (.iconst 2, 1) := by decide +kernel
theorem dX8_content_22 : decode cX8_content 22 = .ok (.goto 4, 3) := by decide +kernel
theorem dX8_content_25 : decode cX8_content 25 = .ok (.iconst 0, 1) := by decide +kernel
theorem dX8_content_26 : decode cX8_content 26 = .ok (.putfield 78, 3) := by decide +kernel
theorem dX8_content_29 : decode cX8_content 29 = .ok (.aload_n 0, 1) := by decide +kernel
theorem dX8_content_30 : decode cX8_content 30 = .ok (.getfield 78, 3) := by decide +kernel
theorem dX8_content_33 : decode cX8_content 33 = .ok (.ifCond .le 5, 3) := by decide +kernel
theorem dX8_content_36 : decode cX8_content 36 = .ok (.iconst 0, 1) := by decide +kernel
theorem dX8_content_37 : decode cX8_content 37 = .ok (.ireturn, 1) := by decide +kernel
theorem dX8_content_38 : decode cX8_content 38 = .ok (.bipush 20, 2) := by decide +kernel
theorem dX8_content_40 : decode cX8_content 40 = .ok (.iload_n 2, 1) := by decide +kernel
theorem dX8_content_41 : decode cX8_content 41 = .ok (.imul, 1) := by decide +kernel
theorem dX8_content_42 : decode cX8_content 42 = .ok (.iload_n 3, 1) := by decide +kernel
theorem dX8_content_43 : decode cX8_content 43 = .ok (.iadd, 1) := by decide +kernel
theorem dX8_content_44 : decode cX8_content 44 = .ok (.istore 4, 2) := by decide +kernel
theorem dX8_content_46 : decode cX8_content 46 = .ok (.aload_n 0, 1) := by decide +kernel
theorem dX8_content_47 : decode cX8_content 47 = .ok (.iload 4, 2) := by decide +kernel
theorem dX8_content_49 : decode cX8_content 49 = .ok (.invokevirtual 99, 3) := by decide +kernel
theorem dX8_content_52 : decode cX8_content 52 = .ok (.iconst (-1), 1) := by decide +kernel
theorem dX8_content_53 : decode cX8_content 53 = .ok (.if_icmp .eq 45, 3) := by decide +kernel
theorem dX8_content_56 : decode cX8_content 56 = .ok (.aload_n 0, 1) := by decide +kernel
theorem dX8_content_57 : decode cX8_content 57 = .ok (.getfield 103, 3) := by decide +kernel
theorem dX8_content_60 : decode cX8_content 60 = .ok (.bipush 40, 2) := by decide +kernel
theorem dX8_content_62 : decode cX8_content 62 = .ok (.if_icmp .ge 34, 3) := by decide +kernel
theorem dX8_content_65 : decode cX8_content 65 = .ok (.aload_n 0, 1) := by decide +kernel
theorem dX8_content_66 : decode cX8_content 66 = .ok (.getfield 39, 3) := by decide +kernel
theorem dX8_content_69 : decode cX8_content 69 = .ok (.aload_n 0, 1) := by decide +kernel
theorem dX8_content_70 : decode cX8_content 70 = .ok (.getfield 103, 3) := by decide +kernel
theorem dX8_content_73 : decode cX8_content 73 = .ok (.iload 4, 2) := by decide +kernel
theorem dX8_content_75 : decode cX8_content 75 = .ok (.iastore, 1) := by decide +kernel
theorem dX8_content_76 : decode cX8_content 76 = .ok (.aload_n 0, 1) := by decide +kernel
theorem dX8_content_77 : decode cX8_content 77 = .ok (.getfield 42, 3) := by decide +kernel
theorem dX8_content_80 : decode cX8_content 80 = .ok (.aload_n 0, 1) := by decide +kernel
theorem dX8_content_81 : decode cX8_content 81 = .ok (.getfield 103, 3) := by decide +kernel
theorem dX8_content_84 : decode cX8_content 84 = .ok (.iload_n 1, 1) := by decide +kernel
theorem dX8_content_85 : decode cX8_content 85 = .ok (.iastore, 1) := by decide +kernel
theorem dX8_content_86 : decode cX8_content 86 = .ok (.aload_n 0, 1) := by decide +kernel
theorem dX8_content_87 : decode cX8_content 87 = .ok (.dup, 1) := by decide +kernel
theorem dX8_content_88 : decode cX8_content 88 = .ok (.getfield 103, 3) := by decide +kernel
theorem dX8_content_91 : decode cX8_content 91 = .ok (.iconst 1, 1) := by decide +kernel
theorem dX8_content_92 : decode cX8_content 92 = .ok (.iadd, 1) := by decide +kernel
theorem dX8_content_93 : decode cX8_content 93 = .ok (.putfield 103, 3) := by decide +kernel
theorem dX8_content_96 : decode cX8_content 96 = .ok (.iconst 0, 1) := by decide +kernel
theorem dX8_content_97 : decode cX8_content 97 = .ok (.ireturn, 1) := by decide +kernel
theorem dX8_content_98 : decode cX8_content 98 = .ok (.aload_n 0, 1) := by decide +kernel
theorem dX8_content_99 : decode cX8_content 99 = .ok (.aload_n 0, 1) := by decide +kernel
theorem dX8_content_100 : decode cX8_content 100 = .ok (.getfield 106, 3) := by decide +kernel
theorem dX8_content_103 : decode cX8_content 103 = .ok (.bipush 100, 2) := by decide +kernel
theorem dX8_content_105 : decode cX8_content 105 = .ok (.if_icmp .ne 7, 3) := by decide +kernel
theorem dX8_content_108 : decode cX8_content 108 = .ok (.iconst 3, 1) := by decide +kernel
theorem dX8_content_109 : decode cX8_content 109 = .ok (.goto 4, 3) := by decide +kernel
theorem dX8_content_112 : decode cX8_content 112 = .ok (.iconst 0, 1) := by decide +kernel
theorem dX8_content_113 : decode cX8_content 113 = .ok (.putfield 78, 3) := by decide +kernel
theorem dX8_content_116 : decode cX8_content 116 = .ok (.aload_n 0, 1) := by decide +kernel
theorem dX8_content_117 : decode cX8_content 117 = .ok (.getfield 78, 3) := by decide +kernel
theorem dX8_content_120 : decode cX8_content 120 = .ok (.ifCond .le 5, 3) := by decide +kernel
theorem dX8_content_123 : decode cX8_content 123 = .ok (.iconst 0, 1) := by decide +kernel
theorem dX8_content_124 : decode cX8_content 124 = .ok (.ireturn, 1) := by decide +kernel
theorem dX8_content_125 : decode cX8_content 125 = .ok (.aload_n 0, 1) := by decide +kernel
theorem dX8_content_126 : decode cX8_content 126 = .ok (.dup, 1) := by decide +kernel
theorem dX8_content_127 : decode cX8_content 127 = .ok (.getfield 106, 3) := by decide +kernel
theorem dX8_content_130 : decode cX8_content 130 = .ok (.iconst 1, 1) := by decide +kernel
theorem dX8_content_131 : decode cX8_content 131 = .ok (.iadd, 1) := by decide +kernel
theorem dX8_content_132 : decode cX8_content 132 = .ok (.putfield 106, 3) := by decide +kernel
theorem dX8_content_135 : decode cX8_content 135 = .ok (.aload_n 0, 1) := by decide +kernel
theorem dX8_content_136 : decode cX8_content 136 = .ok (.getfield 33, 3) := by decide +kernel
theorem dX8_content_139 : decode cX8_content 139 = .ok (.aload_n 0, 1) := by decide +kernel
theorem dX8_content_140 : decode cX8_content 140 = .ok (.getfield 89, 3) := by decide +kernel
theorem dX8_content_143 : decode cX8_content 143 = .ok (.iload_n 1, 1) := by decide +kernel
theorem dX8_content_144 : decode cX8_content 144 = .ok (.iastore, 1) := by decide +kernel
theorem dX8_content_145 : decode cX8_content 145 = .ok (.aload_n 0, 1) := by decide +kernel
theorem dX8_content_146 : decode cX8_content 146 = .ok (.getfield 36, 3) := by decide +kernel
theorem dX8_content_149 : decode cX8_content 149 = .ok (.aload_n 0, 1) := by decide +kernel
theorem dX8_content_150 : decode cX8_content 150 = .ok (.getfield 89, 3) := by decide +kernel
theorem dX8_content_153 : decode cX8_content 153 = .ok (.sipush 1000, 3) := by decide +kernel
theorem dX8_content_156 : decode cX8_content 156 = .ok (.iload 4, 2) := by decide +kernel
theorem dX8_content_158 : decode cX8_content 158 = .ok (.iadd, 1) := by decide +kernel
theorem dX8_content_159 : decode cX8_content 159 = .ok (.iastore, 1) := by decide +kernel
theorem dX8_content_160 : decode cX8_content 160 = .ok (.aload_n 0, 1) := by decide +kernel
theorem dX8_content_161 : decode cX8_content 161 = .ok (.dup, 1) := by decide +kernel
theorem dX8_content_162 : decode cX8_content 162 = .ok (.getfield 89, 3) := by decide +kernel
theorem dX8_content_165 : decode cX8_content 165 = .ok (.iconst 1, 1) := by decide +kernel
theorem dX8_content_166 : decode cX8_content 166 = .ok (.iadd, 1) := by decide +kernel
theorem dX8_content_167 : decode cX8_content 167 = .ok (.putfield 89, 3) := by decide +kernel
theorem dX8_content_170 : decode cX8_content 170 = .ok (.iconst 1, 1) := by decide +kernel
theorem dX8_content_171 : decode cX8_content 171 = .ok (.ireturn, 1) := by decide +kernel
theorem dX8_placeOf_0 : decode cX8_placeOf 0 = .ok (.iconst 0, 1) := by decide +kernel
theorem dX8_placeOf_1 : decode cX8_placeOf 1 = .ok (.istore_n 2, 1) := by decide +kernel
theorem dX8_placeOf_2 : decode cX8_placeOf 2 = .ok (.iconst 0, 1) := by decide +kernel
theorem dX8_placeOf_3 : decode cX8_placeOf 3 = .ok (.istore_n 3, 1) := by decide +kernel
theorem dX8_placeOf_4 : decode cX8_placeOf 4 = .ok (.iconst 0, 1) := by decide +kernel
theorem dX8_placeOf_5 : decode cX8_placeOf 5 = .ok (.istore 4, 2) := by decide +kernel
theorem dX8_placeOf_7 : decode cX8_placeOf 7 = .ok (.iload 4, 2) := by decide +kernel
theorem dX8_placeOf_9 : decode cX8_placeOf 9 = .ok (.aload_n 0, 1) := by decide +kernel
theorem dX8_placeOf_10 : decode cX8_placeOf 10 = .ok (.getfield 109, 3) := by decide +kernel
theorem dX8_placeOf_13 : decode cX8_placeOf 13 = .ok (.if_icmp .ge 51, 3) := by decide +kernel
theorem dX8_placeOf_16 : decode cX8_placeOf 16 = .ok (.aload_n 0, 1) := by decide +kernel
theorem dX8_placeOf_17 : decode cX8_placeOf 17 = .ok (.getfield 45, 3) := by decide +kernel
theorem dX8_placeOf_20 : decode cX8_placeOf 20 = .ok (.iload 4, 2) := by decide +kernel
theorem dX8_placeOf_22 : decode cX8_placeOf 22 = .ok (.iaload, 1) := by decide +kernel
theorem dX8_placeOf_23 : decode cX8_placeOf 23 = .ok (.bipush 20, 2) := by decide +kernel
theorem dX8_placeOf_25 : decode cX8_placeOf 25 = .ok (.idiv, 1) := by decide +kernel
theorem dX8_placeOf_26 : decode cX8_placeOf 26 = .ok (.iload_n 1, 1) := by decide +kernel
theorem dX8_placeOf_27 : decode cX8_placeOf 27 = .ok (.bipush 20, 2) := by decide +kernel
theorem dX8_placeOf_29 : decode cX8_placeOf 29 = .ok (.idiv, 1) := by decide +kernel
theorem dX8_placeOf_30 : decode cX8_placeOf 30 = .ok (.if_icmp .ne 9, 3) := by decide +kernel
theorem dX8_placeOf_33 : decode cX8_placeOf 33 = .ok (.iload_n 2, 1) := by decide +kernel
theorem dX8_placeOf_34 : decode cX8_placeOf 34 = .ok (.iconst 1, 1) := by decide +kernel
theorem dX8_placeOf_35 : decode cX8_placeOf 35 = .ok (.iadd, 1) := by decide +kernel
theorem dX8_placeOf_36 : decode cX8_placeOf 36 = .ok (.goto 4, 3) := by decide +kernel
theorem dX8_placeOf_39 : decode cX8_placeOf 39 = .ok (.iload_n 2, 1) := by decide +kernel
theorem dX8_placeOf_40 : decode cX8_placeOf 40 = .ok (.istore_n 2, 1) := by decide +kernel
theorem dX8_placeOf_41 : decode cX8_placeOf 41 = .ok (.aload_n 0, 1) := by decide +kernel
theorem dX8_placeOf_42 : decode cX8_placeOf 42 = .ok (.getfield 45, 3) := by decide +kernel
theorem dX8_placeOf_45 : decode cX8_placeOf 45 = .ok (.iload 4, 2) := by decide +kernel
theorem dX8_placeOf_47 : decode cX8_placeOf 47 = .ok (.iaload, 1) := by decide +kernel
theorem dX8_placeOf_48 : decode cX8_placeOf 48 = .ok (.iload_n 1, 1) := by decide +kernel
theorem dX8_placeOf_49 : decode cX8_placeOf 49 = .ok (.if_icmp .ne 7, 3) := by decide +kernel
theorem dX8_placeOf_52 : decode cX8_placeOf 52 = .ok (.iload_n 2, 1) := by decide +kernel
theorem dX8_placeOf_53 : decode cX8_placeOf 53 = .ok (.goto 4, 3) := by decide +kernel
theorem dX8_placeOf_56 : decode cX8_placeOf 56 = .ok (.iload_n 3, 1) := by decide +kernel
theorem dX8_placeOf_57 : decode cX8_placeOf 57 = .ok (.istore_n 3, 1) := by decide +kernel
theorem dX8_placeOf_58 : decode cX8_placeOf 58 = .ok (.iinc 4 1, 3) := by decide +kernel
theorem dX8_placeOf_61 : decode cX8_placeOf 61 = .ok (.goto (-54), 3) := by decide +kernel
theorem dX8_placeOf_64 : decode cX8_placeOf 64 = .ok (.iload_n 3, 1) := by decide +kernel
theorem dX8_placeOf_65 : decode cX8_placeOf 65 = .ok (.ireturn, 1) := by decide +kernel
theorem dX8_shows_0 : decode cX8_shows 0 = .ok (.aload_n 0, 1) := by decide +kernel
theorem dX8_shows_1 : decode cX8_shows 1 = .ok (.iload_n 1, 1) := by decide +kernel
theorem dX8_shows_2 : decode cX8_shows 2 = .ok (.iload_n 2, 1) := by decide +kernel
theorem dX8_shows_3 : decode cX8_shows 3 = .ok (.invokestatic 96, 3) := by decide +kernel
theorem dX8_shows_6 : decode cX8_shows 6 = .ok (.ifCond .eq 7, 3) := by decide +kernel
theorem dX8_shows_9 : decode cX8_shows 9 = .ok (.iconst 0, 1) := by decide +kernel
theorem dX8_shows_10 : decode cX8_shows 10 = .ok (.goto 4, 3) := by decide +kernel
theorem dX8_shows_13 : decode cX8_shows 13 = .ok (.iconst 1, 1) := by decide +kernel
theorem dX8_shows_14 : decode cX8_shows 14 = .ok (.putfield 78, 3) := by decide +kernel
theorem dX8_shows_17 : decode cX8_shows 17 = .ok (.bipush 20, 2) := by decide +kernel
theorem dX8_shows_19 : decode cX8_shows 19 = .ok (.iload_n 1, 1) := by decide +kernel
theorem dX8_shows_20 : decode cX8_shows 20 = .ok (.imul, 1) := by decide +kernel
theorem dX8_shows_21 : decode cX8_shows 21 = .ok (.iload_n 2, 1) := by decide +kernel
theorem dX8_shows_22 : decode cX8_shows 22 = .ok (.iadd, 1) := by decide +kernel
theorem dX8_shows_23 : decode cX8_shows 23 = .ok (.istore_n 3, 1) := by decide +kernel
theorem dX8_shows_24 : decode cX8_shows 24 = .ok (.aload_n 0, 1) := by decide +kernel
theorem dX8_shows_25 : decode cX8_shows 25 = .ok (.getfield 78, 3) := by decide +kernel
theorem dX8_shows_28 : decode cX8_shows 28 = .ok (.ifCond .gt 11, 3) := by decide +kernel
theorem dX8_shows_31 : decode cX8_shows 31 = .ok (.aload_n 0, 1) := by decide +kernel
theorem dX8_shows_32 : decode cX8_shows 32 = .ok (.iload_n 3, 1) := by decide +kernel
theorem dX8_shows_33 : decode cX8_shows 33 = .ok (.invokevirtual 112, 3) := by decide +kernel
theorem dX8_shows_36 : decode cX8_shows 36 = .ok (.ifCond .le 5, 3) := by decide +kernel
theorem dX8_shows_39 : decode cX8_shows 39 = .ok (.iconst 0, 1) := by decide +kernel
theorem dX8_shows_40 : decode cX8_shows 40 = .ok (.ireturn, 1) := by decide +kernel
theorem dX8_shows_41 : decode cX8_shows 41 = .ok (.aload_n 0, 1) := by decide +kernel
theorem dX8_shows_42 : decode cX8_shows 42 = .ok (.getfield 45, 3) := by decide +kernel
theorem dX8_shows_45 : decode cX8_shows 45 = .ok (.aload_n 0, 1) := by decide +kernel
theorem dX8_shows_46 : decode cX8_shows 46 = .ok (.getfield 109, 3) := by decide +kernel
theorem dX8_shows_49 : decode cX8_shows 49 = .ok (.iload_n 3, 1) := by decide +kernel
theorem dX8_shows_50 : decode cX8_shows 50 = .ok (.iastore, 1) := by decide +kernel
theorem dX8_shows_51 : decode cX8_shows 51 = .ok (.aload_n 0, 1) := by decide +kernel
theorem dX8_shows_52 : decode cX8_shows 52 = .ok (.dup, 1) := by decide +kernel
theorem dX8_shows_53 : decode cX8_shows 53 = .ok (.getfield 109, 3) := by decide +kernel
theorem dX8_shows_56 : decode cX8_shows 56 = .ok (.iconst 1, 1) := by decide +kernel
theorem dX8_shows_57 : decode cX8_shows 57 = .ok (.iadd, 1) := by decide +kernel
theorem dX8_shows_58 : decode cX8_shows 58 = .ok (.putfield 109, 3) := by decide +kernel
theorem dX8_shows_61 : decode cX8_shows 61 = .ok (.aload_n 0, 1) := by decide +kernel
theorem dX8_shows_62 : decode cX8_shows 62 = .ok (.iload_n 3, 1) := by decide +kernel
theorem dX8_shows_63 : decode cX8_shows 63 = .ok (.invokevirtual 112, 3) := by decide +kernel
theorem dX8_shows_66 : decode cX8_shows 66 = .ok (.ireturn, 1) := by decide +kernel
theorem dX8_is_0 : decode cX8_is 0 = .ok (.aload_n 0, 1) := by decide +kernel
theorem dX8_is_1 : decode cX8_is 1 = .ok (.aload_n 0, 1) := by decide +kernel
theorem dX8_is_2 : decode cX8_is 2 = .ok (.getfield 13, 3) := by decide +kernel
theorem dX8_is_5 : decode cX8_is 5 = .ok (.iload_n 1, 1) := by decide +kernel
theorem dX8_is_6 : decode cX8_is 6 = .ok (.iaload, 1) := by decide +kernel
theorem dX8_is_7 : decode cX8_is 7 = .ok (.invokevirtual 115, 3) := by decide +kernel
theorem dX8_is_10 : decode cX8_is 10 = .ok (.iload_n 2, 1) := by decide +kernel
theorem dX8_is_11 : decode cX8_is 11 = .ok (.if_icmp .ne 7, 3) := by decide +kernel
theorem dX8_is_14 : decode cX8_is 14 = .ok (.iconst 1, 1) := by decide +kernel
theorem dX8_is_15 : decode cX8_is 15 = .ok (.goto 4, 3) := by decide +kernel
theorem dX8_is_18 : decode cX8_is 18 = .ok (.iconst 0, 1) := by decide +kernel
theorem dX8_is_19 : decode cX8_is 19 = .ok (.ireturn, 1) := by decide +kernel
theorem dX8_nextKid_0 : decode cX8_nextKid 0 = .ok (.iload_n 2, 1) := by decide +kernel
theorem dX8_nextKid_1 : decode cX8_nextKid 1 = .ok (.istore_n 3, 1) := by decide +kernel
theorem dX8_nextKid_2 : decode cX8_nextKid 2 = .ok (.iload_n 3, 1) := by decide +kernel
theorem dX8_nextKid_3 : decode cX8_nextKid 3 = .ok (.aload_n 0, 1) := by decide +kernel
theorem dX8_nextKid_4 : decode cX8_nextKid 4 = .ok (.getfield 89, 3) := by decide +kernel
theorem dX8_nextKid_7 : decode cX8_nextKid 7 = .ok (.if_icmp .ge 19, 3) := by decide +kernel
theorem dX8_nextKid_10 : decode cX8_nextKid 10 = .ok (.aload_n 0, 1) := by decide +kernel
theorem dX8_nextKid_11 : decode cX8_nextKid 11 = .ok (.getfield 33, 3) := by decide +kernel
theorem dX8_nextKid_14 : decode cX8_nextKid 14 = .ok (.iload_n 3, 1) := by decide +kernel
theorem dX8_nextKid_15 : decode cX8_nextKid 15 = .ok (.iaload, 1) := by decide +kernel
theorem dX8_nextKid_16 : decode cX8_nextKid 16 = .ok (.iload_n 1, 1) := by decide +kernel
theorem dX8_nextKid_17 : decode cX8_nextKid 17 = .ok (.if_icmp .eq 9, 3) := by decide +kernel
theorem dX8_nextKid_20 : decode cX8_nextKid 20 = .ok (.iinc 3 1, 3) := by decide +kernel
theorem dX8_nextKid_23 : decode cX8_nextKid 23 = .ok (.goto (-21), 3) := by decide +kernel
theorem dX8_nextKid_26 : decode cX8_nextKid 26 = .ok (.iload_n 3, 1) := by decide +kernel
theorem dX8_nextKid_27 : decode cX8_nextKid 27 = .ok (.ireturn, 1) := by decide +kernel
theorem dX8_meet_0 : decode cX8_meet 0 = .ok (.aload_n 0, 1) := by decide +kernel
theorem dX8_meet_1 : decode cX8_meet 1 = .ok (.getfield 48, 3) := by decide +kernel
theorem dX8_meet_4 : decode cX8_meet 4 = .ok (.aload_n 0, 1) := by decide +kernel
theorem dX8_meet_5 : decode cX8_meet 5 = .ok (.getfield 118, 3) := by decide +kernel
theorem dX8_meet_8 : decode cX8_meet 8 = .ok (.iload_n 1, 1) := by decide +kernel
theorem dX8_meet_9 : decode cX8_meet 9 = .ok (.iastore, 1) := by decide +kernel
theorem dX8_meet_10 : decode cX8_meet 10 = .ok (.aload_n 0, 1) := by decide +kernel
theorem dX8_meet_11 : decode cX8_meet 11 = .ok (.getfield 51, 3) := by decide +kernel
theorem dX8_meet_14 : decode cX8_meet 14 = .ok (.aload_n 0, 1) := by decide +kernel
theorem dX8_meet_15 : decode cX8_meet 15 = .ok (.getfield 118, 3) := by decide +kernel
theorem dX8_meet_18 : decode cX8_meet 18 = .ok (.iload_n 2, 1) := by decide +kernel
theorem dX8_meet_19 : decode cX8_meet 19 = .ok (.iastore, 1) := by decide +kernel
theorem dX8_meet_20 : decode cX8_meet 20 = .ok (.aload_n 0, 1) := by decide +kernel
theorem dX8_meet_21 : decode cX8_meet 21 = .ok (.dup, 1) := by decide +kernel
theorem dX8_meet_22 : decode cX8_meet 22 = .ok (.getfield 118, 3) := by decide +kernel
theorem dX8_meet_25 : decode cX8_meet 25 = .ok (.iconst 1, 1) := by decide +kernel
theorem dX8_meet_26 : decode cX8_meet 26 = .ok (.iadd, 1) := by decide +kernel
theorem dX8_meet_27 : decode cX8_meet 27 = .ok (.putfield 118, 3) := by decide +kernel
theorem dX8_meet_30 : decode cX8_meet 30 = .ok (.return_, 1) := by decide +kernel
theorem dX8_go_0 : decode cX8_go 0 = .ok (.aload_n 0, 1) := by decide +kernel
theorem dX8_go_1 : decode cX8_go 1 = .ok (.iconst 0, 1) := by decide +kernel
theorem dX8_go_2 : decode cX8_go 2 = .ok (.putfield 118, 3) := by decide +kernel
theorem dX8_go_5 : decode cX8_go 5 = .ok (.iconst 0, 1) := by decide +kernel
theorem dX8_go_6 : decode cX8_go 6 = .ok (.istore_n 1, 1) := by decide +kernel
theorem dX8_go_7 : decode cX8_go 7 = .ok (.aload_n 0, 1) := by decide +kernel
theorem dX8_go_8 : decode cX8_go 8 = .ok (.getfield 54, 3) := by decide +kernel
theorem dX8_go_11 : decode cX8_go 11 = .ok (.iconst 0, 1) := by decide +kernel
theorem dX8_go_12 : decode cX8_go 12 = .ok (.iconst 0, 1) := by decide +kernel
theorem dX8_go_13 : decode cX8_go 13 = .ok (.iastore, 1) := by decide +kernel
theorem dX8_go_14 : decode cX8_go 14 = .ok (.aload_n 0, 1) := by decide +kernel
theorem dX8_go_15 : decode cX8_go 15 = .ok (.getfield 57, 3) := by decide +kernel
theorem dX8_go_18 : decode cX8_go 18 = .ok (.iconst 0, 1) := by decide +kernel
theorem dX8_go_19 : decode cX8_go 19 = .ok (.iconst 0, 1) := by decide +kernel
theorem dX8_go_20 : decode cX8_go 20 = .ok (.iastore, 1) := by decide +kernel
theorem dX8_go_21 : decode cX8_go 21 = .ok (.aload_n 0, 1) := by decide +kernel
theorem dX8_go_22 : decode cX8_go 22 = .ok (.iconst 0, 1) := by decide +kernel
theorem dX8_go_23 : decode cX8_go 23 = .ok (.iconst 0, 1) := by decide +kernel
theorem dX8_go_24 : decode cX8_go 24 = .ok (.invokevirtual 121, 3) := by decide +kernel
theorem dX8_go_27 : decode cX8_go 27 = .ok (.iload_n 1, 1) := by decide +kernel
theorem dX8_go_28 : decode cX8_go 28 = .ok (.ifCond .lt 122, 3) := by decide +kernel
theorem dX8_go_31 : decode cX8_go 31 = .ok (.aload_n 0, 1) := by decide +kernel
theorem dX8_go_32 : decode cX8_go 32 = .ok (.getfield 54, 3) := by decide +kernel
theorem dX8_go_35 : decode cX8_go 35 = .ok (.iload_n 1, 1) := by decide +kernel
theorem dX8_go_36 : decode cX8_go 36 = .ok (.iaload, 1) := by decide +kernel
theorem dX8_go_37 : decode cX8_go 37 = .ok (.istore_n 2, 1) := by decide +kernel
theorem dX8_go_38 : decode cX8_go 38 = .ok (.aload_n 0, 1) := by decide +kernel
theorem dX8_go_39 : decode cX8_go 39 = .ok (.iload_n 2, 1) := by decide +kernel
theorem dX8_go_40 : decode cX8_go 40 = .ok (.aload_n 0, 1) := by decide +kernel
theorem dX8_go_41 : decode cX8_go 41 = .ok (.getfield 57, 3) := by decide +kernel
theorem dX8_go_44 : decode cX8_go 44 = .ok (.iload_n 1, 1) := by decide +kernel
theorem dX8_go_45 : decode cX8_go 45 = .ok (.iaload, 1) := by decide +kernel
theorem dX8_go_46 : decode cX8_go 46 = .ok (.invokevirtual 125, 3) := by decide +kernel
theorem dX8_go_49 : decode cX8_go 49 = .ok (.istore_n 3, 1) := by decide +kernel
theorem dX8_go_50 : decode cX8_go 50 = .ok (.aload_n 0, 1) := by decide +kernel
theorem dX8_go_51 : decode cX8_go 51 = .ok (.getfield 57, 3) := by decide +kernel
theorem dX8_go_54 : decode cX8_go 54 = .ok (.iload_n 1, 1) := by decide +kernel
theorem dX8_go_55 : decode cX8_go 55 = .ok (.iload_n 3, 1) := by decide +kernel
theorem dX8_go_56 : decode cX8_go 56 = .ok (.iconst 1, 1) := by decide +kernel
theorem dX8_go_57 : decode cX8_go 57 = .ok (.iadd, 1) := by decide +kernel
theorem dX8_go_58 : decode cX8_go 58 = .ok (.iastore, 1) := by decide +kernel
theorem dX8_go_59 : decode cX8_go 59 = .ok (.iload_n 3, 1) := by decide +kernel
theorem dX8_go_60 : decode cX8_go 60 = .ok (.aload_n 0, 1) := by decide +kernel
theorem dX8_go_61 : decode cX8_go 61 = .ok (.getfield 89, 3) := by decide +kernel
theorem dX8_go_64 : decode cX8_go 64 = .ok (.if_icmp .ne 9, 3) := by decide +kernel
theorem dX8_go_67 : decode cX8_go 67 = .ok (.iinc 1 (-1), 3) := by decide +kernel
theorem dX8_go_70 : decode cX8_go 70 = .ok (.goto 77, 3) := by decide +kernel
theorem dX8_go_73 : decode cX8_go 73 = .ok (.aload_n 0, 1) := by decide +kernel
theorem dX8_go_74 : decode cX8_go 74 = .ok (.getfield 36, 3) := by decide +kernel
theorem dX8_go_77 : decode cX8_go 77 = .ok (.iload_n 3, 1) := by decide +kernel
theorem dX8_go_78 : decode cX8_go 78 = .ok (.iaload, 1) := by decide +kernel
theorem dX8_go_79 : decode cX8_go 79 = .ok (.sipush 1000, 3) := by decide +kernel
theorem dX8_go_82 : decode cX8_go 82 = .ok (.if_icmp .lt 17, 3) := by decide +kernel
theorem dX8_go_85 : decode cX8_go 85 = .ok (.aload_n 0, 1) := by decide +kernel
theorem dX8_go_86 : decode cX8_go 86 = .ok (.aload_n 0, 1) := by decide +kernel
theorem dX8_go_87 : decode cX8_go 87 = .ok (.getfield 36, 3) := by decide +kernel
theorem dX8_go_90 : decode cX8_go 90 = .ok (.iload_n 3, 1) := by decide +kernel
theorem dX8_go_91 : decode cX8_go 91 = .ok (.iaload, 1) := by decide +kernel
theorem dX8_go_92 : decode cX8_go 92 = .ok (.iload_n 2, 1) := by decide +kernel
theorem dX8_go_93 : decode cX8_go 93 = .ok (.invokevirtual 121, 3) := by decide +kernel
theorem dX8_go_96 : decode cX8_go 96 = .ok (.goto 51, 3) := by decide +kernel
theorem dX8_go_99 : decode cX8_go 99 = .ok (.aload_n 0, 1) := by decide +kernel
theorem dX8_go_100 : decode cX8_go 100 = .ok (.aload_n 0, 1) := by decide +kernel
theorem dX8_go_101 : decode cX8_go 101 = .ok (.getfield 36, 3) := by decide +kernel
theorem dX8_go_104 : decode cX8_go 104 = .ok (.iload_n 3, 1) := by decide +kernel
theorem dX8_go_105 : decode cX8_go 105 = .ok (.iaload, 1) := by decide +kernel
theorem dX8_go_106 : decode cX8_go 106 = .ok (.bipush 12, 2) := by decide +kernel
theorem dX8_go_108 : decode cX8_go 108 = .ok (.invokevirtual 129, 3) := by decide +kernel
theorem dX8_go_111 : decode cX8_go 111 = .ok (.ifCond .ne 36, 3) := by decide +kernel
theorem dX8_go_114 : decode cX8_go 114 = .ok (.iinc 1 1, 3) := by decide +kernel
theorem dX8_go_117 : decode cX8_go 117 = .ok (.aload_n 0, 1) := by decide +kernel
theorem dX8_go_118 : decode cX8_go 118 = .ok (.getfield 54, 3) := by decide +kernel
theorem dX8_go_121 : decode cX8_go 121 = .ok (.iload_n 1, 1) := by decide +kernel
theorem dX8_go_122 : decode cX8_go 122 = .ok (.aload_n 0, 1) := by decide +kernel
theorem dX8_go_123 : decode cX8_go 123 = .ok (.getfield 36, 3) := by decide +kernel
theorem dX8_go_126 : decode cX8_go 126 = .ok (.iload_n 3, 1) := by decide +kernel
theorem dX8_go_127 : decode cX8_go 127 = .ok (.iaload, 1) := by decide +kernel
theorem dX8_go_128 : decode cX8_go 128 = .ok (.iastore, 1) := by decide +kernel
theorem dX8_go_129 : decode cX8_go 129 = .ok (.aload_n 0, 1) := by decide +kernel
theorem dX8_go_130 : decode cX8_go 130 = .ok (.getfield 57, 3) := by decide +kernel
theorem dX8_go_133 : decode cX8_go 133 = .ok (.iload_n 1, 1) := by decide +kernel
theorem dX8_go_134 : decode cX8_go 134 = .ok (.iconst 0, 1) := by decide +kernel
theorem dX8_go_135 : decode cX8_go 135 = .ok (.iastore, 1) := by decide +kernel
theorem dX8_go_136 : decode cX8_go 136 = .ok (.aload_n 0, 1) := by decide +kernel
theorem dX8_go_137 : decode cX8_go 137 = .ok (.aload_n 0, 1) := by decide +kernel
theorem dX8_go_138 : decode cX8_go 138 = .ok (.getfield 36, 3) := by decide +kernel
theorem dX8_go_141 : decode cX8_go 141 = .ok (.iload_n 3, 1) := by decide +kernel
theorem dX8_go_142 : decode cX8_go 142 = .ok (.iaload, 1) := by decide +kernel
theorem dX8_go_143 : decode cX8_go 143 = .ok (.iload_n 2, 1) := by decide +kernel
theorem dX8_go_144 : decode cX8_go 144 = .ok (.invokevirtual 121, 3) := by decide +kernel
theorem dX8_go_147 : decode cX8_go 147 = .ok (.goto (-120), 3) := by decide +kernel
theorem dX8_go_150 : decode cX8_go 150 = .ok (.aload_n 0, 1) := by decide +kernel
theorem dX8_go_151 : decode cX8_go 151 = .ok (.iconst 0, 1) := by decide +kernel
theorem dX8_go_152 : decode cX8_go 152 = .ok (.putfield 132, 3) := by decide +kernel
theorem dX8_go_155 : decode cX8_go 155 = .ok (.iconst 0, 1) := by decide +kernel
theorem dX8_go_156 : decode cX8_go 156 = .ok (.istore_n 2, 1) := by decide +kernel
theorem dX8_go_157 : decode cX8_go 157 = .ok (.iload_n 2, 1) := by decide +kernel
theorem dX8_go_158 : decode cX8_go 158 = .ok (.aload_n 0, 1) := by decide +kernel
theorem dX8_go_159 : decode cX8_go 159 = .ok (.getfield 118, 3) := by decide +kernel
theorem dX8_go_162 : decode cX8_go 162 = .ok (.if_icmp .ge 135, 3) := by decide +kernel
theorem dX8_go_165 : decode cX8_go 165 = .ok (.aload_n 0, 1) := by decide +kernel
theorem dX8_go_166 : decode cX8_go 166 = .ok (.getfield 48, 3) := by decide +kernel
theorem dX8_go_169 : decode cX8_go 169 = .ok (.iload_n 2, 1) := by decide +kernel
theorem dX8_go_170 : decode cX8_go 170 = .ok (.iaload, 1) := by decide +kernel
theorem dX8_go_171 : decode cX8_go 171 = .ok (.istore_n 3, 1) := by decide +kernel
theorem dX8_go_172 : decode cX8_go 172 = .ok (.iload_n 3, 1) := by decide +kernel
theorem dX8_go_173 : decode cX8_go 173 = .ok (.sipush 1000, 3) := by decide +kernel
theorem dX8_go_176 : decode cX8_go 176 = .ok (.if_icmp .ge 115, 3) := by decide +kernel
theorem dX8_go_179 : decode cX8_go 179 = .ok (.aload_n 0, 1) := by decide +kernel
theorem dX8_go_180 : decode cX8_go 180 = .ok (.iload_n 3, 1) := by decide +kernel
theorem dX8_go_181 : decode cX8_go 181 = .ok (.iconst 2, 1) := by decide +kernel
theorem dX8_go_182 : decode cX8_go 182 = .ok (.invokevirtual 129, 3) := by decide +kernel
theorem dX8_go_185 : decode cX8_go 185 = .ok (.ifCond .eq 106, 3) := by decide +kernel
theorem dX8_go_188 : decode cX8_go 188 = .ok (.aload_n 0, 1) := by decide +kernel
theorem dX8_go_189 : decode cX8_go 189 = .ok (.getfield 17, 3) := by decide +kernel
theorem dX8_go_192 : decode cX8_go 192 = .ok (.iload_n 3, 1) := by decide +kernel
theorem dX8_go_193 : decode cX8_go 193 = .ok (.iaload, 1) := by decide +kernel
theorem dX8_go_194 : decode cX8_go 194 = .ok (.ifCond .le 97, 3) := by decide +kernel
theorem dX8_go_197 : decode cX8_go 197 = .ok (.iconst 0, 1) := by decide +kernel
theorem dX8_go_198 : decode cX8_go 198 = .ok (.istore 4, 2) := by decide +kernel
theorem dX8_go_200 : decode cX8_go 200 = .ok (.aload_n 0, 1) := by decide +kernel
theorem dX8_go_201 : decode cX8_go 201 = .ok (.getfield 132, 3) := by decide +kernel
theorem dX8_go_204 : decode cX8_go 204 = .ok (.iconst 1, 1) := by decide +kernel
theorem dX8_go_205 : decode cX8_go 205 = .ok (.isub, 1) := by decide +kernel
theorem dX8_go_206 : decode cX8_go 206 = .ok (.istore 5, 2) := by decide +kernel
theorem dX8_go_208 : decode cX8_go 208 = .ok (.iload 5, 2) := by decide +kernel
theorem dX8_go_210 : decode cX8_go 210 = .ok (.ifCond .lt 50, 3) := by decide +kernel
theorem dX8_go_213 : decode cX8_go 213 = .ok (.iload 4, 2) := by decide +kernel
theorem dX8_go_215 : decode cX8_go 215 = .ok (.ifCond .ne 45, 3) := by decide +kernel
theorem dX8_go_218 : decode cX8_go 218 = .ok (.aload_n 0, 1) := by decide +kernel
theorem dX8_go_219 : decode cX8_go 219 = .ok (.getfield 17, 3) := by decide +kernel
theorem dX8_go_222 : decode cX8_go 222 = .ok (.aload_n 0, 1) := by decide +kernel
theorem dX8_go_223 : decode cX8_go 223 = .ok (.getfield 60, 3) := by decide +kernel
theorem dX8_go_226 : decode cX8_go 226 = .ok (.iload 5, 2) := by decide +kernel
theorem dX8_go_228 : decode cX8_go 228 = .ok (.iaload, 1) := by decide +kernel
theorem dX8_go_229 : decode cX8_go 229 = .ok (.iaload, 1) := by decide +kernel
theorem dX8_go_230 : decode cX8_go 230 = .ok (.aload_n 0, 1) := by decide +kernel
theorem dX8_go_231 : decode cX8_go 231 = .ok (.getfield 17, 3) := by decide +kernel
theorem dX8_go_234 : decode cX8_go 234 = .ok (.iload_n 3, 1) := by decide +kernel
theorem dX8_go_235 : decode cX8_go 235 = .ok (.iaload, 1) := by decide +kernel
theorem dX8_go_236 : decode cX8_go 236 = .ok (.if_icmp .ge 15, 3) := by decide +kernel
theorem dX8_go_239 : decode cX8_go 239 = .ok (.aload_n 0, 1) := by decide +kernel
theorem dX8_go_240 : decode cX8_go 240 = .ok (.getfield 63, 3) := by decide +kernel
theorem dX8_go_243 : decode cX8_go 243 = .ok (.iload 5, 2) := by decide +kernel
theorem dX8_go_245 : decode cX8_go 245 = .ok (.iaload, 1) := by decide +kernel
theorem dX8_go_246 : decode cX8_go 246 = .ok (.iconst 1, 1) := by decide +kernel
theorem dX8_go_247 : decode cX8_go 247 = .ok (.iadd, 1) := by decide +kernel
theorem dX8_go_248 : decode cX8_go 248 = .ok (.goto 4, 3) := by decide +kernel
theorem dX8_go_251 : decode cX8_go 251 = .ok (.iconst 0, 1) := by decide +kernel
theorem dX8_go_252 : decode cX8_go 252 = .ok (.istore 4, 2) := by decide +kernel
theorem dX8_go_254 : decode cX8_go 254 = .ok (.iinc 5 (-1), 3) := by decide +kernel
theorem dX8_go_257 : decode cX8_go 257 = .ok (.goto (-49), 3) := by decide +kernel
theorem dX8_go_260 : decode cX8_go 260 = .ok (.aload_n 0, 1) := by decide +kernel
theorem dX8_go_261 : decode cX8_go 261 = .ok (.getfield 60, 3) := by decide +kernel
theorem dX8_go_264 : decode cX8_go 264 = .ok (.aload_n 0, 1) := by decide +kernel
theorem dX8_go_265 : decode cX8_go 265 = .ok (.getfield 132, 3) := by decide +kernel
theorem dX8_go_268 : decode cX8_go 268 = .ok (.iload_n 3, 1) := by decide +kernel
theorem dX8_go_269 : decode cX8_go 269 = .ok (.iastore, 1) := by decide +kernel
theorem dX8_go_270 : decode cX8_go 270 = .ok (.aload_n 0, 1) := by decide +kernel
theorem dX8_go_271 : decode cX8_go 271 = .ok (.getfield 63, 3) := by decide +kernel
theorem dX8_go_274 : decode cX8_go 274 = .ok (.aload_n 0, 1) := by decide +kernel
theorem dX8_go_275 : decode cX8_go 275 = .ok (.getfield 132, 3) := by decide +kernel
theorem dX8_go_278 : decode cX8_go 278 = .ok (.iload 4, 2) := by decide +kernel
theorem dX8_go_280 : decode cX8_go 280 = .ok (.iastore, 1) := by decide +kernel
theorem dX8_go_281 : decode cX8_go 281 = .ok (.aload_n 0, 1) := by decide +kernel
theorem dX8_go_282 : decode cX8_go 282 = .ok (.dup, 1) := by decide +kernel
theorem dX8_go_283 : decode cX8_go 283 = .ok (.getfield 132, 3) := by decide +kernel
theorem dX8_go_286 : decode cX8_go 286 = .ok (.iconst 1, 1) := by decide +kernel
theorem dX8_go_287 : decode cX8_go 287 = .ok (.iadd, 1) := by decide +kernel
theorem dX8_go_288 : decode cX8_go 288 = .ok (.putfield 132, 3) := by decide +kernel
theorem dX8_go_291 : decode cX8_go 291 = .ok (.iinc 2 1, 3) := by decide +kernel
theorem dX8_go_294 : decode cX8_go 294 = .ok (.goto (-137), 3) := by decide +kernel
theorem dX8_go_297 : decode cX8_go 297 = .ok (.return_, 1) := by decide +kernel
theorem dX8_partAt_0 : decode cX8_partAt 0 = .ok (.iconst 0, 1) := by decide +kernel
theorem dX8_partAt_1 : decode cX8_partAt 1 = .ok (.istore_n 2, 1) := by decide +kernel
theorem dX8_partAt_2 : decode cX8_partAt 2 = .ok (.iconst (-1), 1) := by decide +kernel
theorem dX8_partAt_3 : decode cX8_partAt 3 = .ok (.istore_n 3, 1) := by decide +kernel
theorem dX8_partAt_4 : decode cX8_partAt 4 = .ok (.iconst 0, 1) := by decide +kernel
theorem dX8_partAt_5 : decode cX8_partAt 5 = .ok (.istore 4, 2) := by decide +kernel
theorem dX8_partAt_7 : decode cX8_partAt 7 = .ok (.iload 4, 2) := by decide +kernel
theorem dX8_partAt_9 : decode cX8_partAt 9 = .ok (.aload_n 0, 1) := by decide +kernel
theorem dX8_partAt_10 : decode cX8_partAt 10 = .ok (.getfield 118, 3) := by decide +kernel
theorem dX8_partAt_13 : decode cX8_partAt 13 = .ok (.if_icmp .ge 37, 3) := by decide +kernel
theorem dX8_partAt_16 : decode cX8_partAt 16 = .ok (.aload_n 0, 1) := by decide +kernel
theorem dX8_partAt_17 : decode cX8_partAt 17 = .ok (.getfield 48, 3) := by decide +kernel
theorem dX8_partAt_20 : decode cX8_partAt 20 = .ok (.iload 4, 2) := by decide +kernel
theorem dX8_partAt_22 : decode cX8_partAt 22 = .ok (.iaload, 1) := by decide +kernel
theorem dX8_partAt_23 : decode cX8_partAt 23 = .ok (.sipush 1000, 3) := by decide +kernel
theorem dX8_partAt_26 : decode cX8_partAt 26 = .ok (.if_icmp .lt 18, 3) := by decide +kernel
theorem dX8_partAt_29 : decode cX8_partAt 29 = .ok (.iload_n 2, 1) := by decide +kernel
theorem dX8_partAt_30 : decode cX8_partAt 30 = .ok (.iload_n 1, 1) := by decide +kernel
theorem dX8_partAt_31 : decode cX8_partAt 31 = .ok (.if_icmp .ne 8, 3) := by decide +kernel
theorem dX8_partAt_34 : decode cX8_partAt 34 = .ok (.iload 4, 2) := by decide +kernel
theorem dX8_partAt_36 : decode cX8_partAt 36 = .ok (.goto 4, 3) := by decide +kernel
theorem dX8_partAt_39 : decode cX8_partAt 39 = .ok (.iload_n 3, 1) := by decide +kernel
theorem dX8_partAt_40 : decode cX8_partAt 40 = .ok (.istore_n 3, 1) := by decide +kernel
theorem dX8_partAt_41 : decode cX8_partAt 41 = .ok (.iinc 2 1, 3) := by decide +kernel
theorem dX8_partAt_44 : decode cX8_partAt 44 = .ok (.iinc 4 1, 3) := by decide +kernel
theorem dX8_partAt_47 : decode cX8_partAt 47 = .ok (.goto (-40), 3) := by decide +kernel
theorem dX8_partAt_50 : decode cX8_partAt 50 = .ok (.iload_n 1, 1) := by decide +kernel
theorem dX8_partAt_51 : decode cX8_partAt 51 = .ok (.iconst (-1), 1) := by decide +kernel
theorem dX8_partAt_52 : decode cX8_partAt 52 = .ok (.if_icmp .ne 7, 3) := by decide +kernel
theorem dX8_partAt_55 : decode cX8_partAt 55 = .ok (.iload_n 2, 1) := by decide +kernel
theorem dX8_partAt_56 : decode cX8_partAt 56 = .ok (.goto 4, 3) := by decide +kernel
theorem dX8_partAt_59 : decode cX8_partAt 59 = .ok (.iload_n 3, 1) := by decide +kernel
theorem dX8_partAt_60 : decode cX8_partAt 60 = .ok (.ireturn, 1) := by decide +kernel
theorem dX8_walk_0 : decode cX8_walk 0 = .ok (.aload_n 0, 1) := by decide +kernel
theorem dX8_walk_1 : decode cX8_walk 1 = .ok (.iconst 0, 1) := by decide +kernel
theorem dX8_walk_2 : decode cX8_walk 2 = .ok (.putfield 78, 3) := by decide +kernel
theorem dX8_walk_5 : decode cX8_walk 5 = .ok (.aload_n 0, 1) := by decide +kernel
theorem dX8_walk_6 : decode cX8_walk 6 = .ok (.invokevirtual 135, 3) := by decide +kernel
theorem dX8_walk_9 : decode cX8_walk 9 = .ok (.aload_n 0, 1) := by decide +kernel
theorem dX8_walk_10 : decode cX8_walk 10 = .ok (.iconst (-1), 1) := by decide +kernel
theorem dX8_walk_11 : decode cX8_walk 11 = .ok (.invokevirtual 138, 3) := by decide +kernel
theorem dX8_walk_14 : decode cX8_walk 14 = .ok (.ireturn, 1) := by decide +kernel
theorem dX8_at_0 : decode cX8_at 0 = .ok (.aload_n 0, 1) := by decide +kernel
theorem dX8_at_1 : decode cX8_at 1 = .ok (.invokevirtual 135, 3) := by decide +kernel
theorem dX8_at_4 : decode cX8_at 4 = .ok (.iload_n 1, 1) := by decide +kernel
theorem dX8_at_5 : decode cX8_at 5 = .ok (.ifCond .ge 7, 3) := by decide +kernel
theorem dX8_at_8 : decode cX8_at 8 = .ok (.iconst (-1), 1) := by decide +kernel
theorem dX8_at_9 : decode cX8_at 9 = .ok (.goto 8, 3) := by decide +kernel
theorem dX8_at_12 : decode cX8_at 12 = .ok (.aload_n 0, 1) := by decide +kernel
theorem dX8_at_13 : decode cX8_at 13 = .ok (.iload_n 1, 1) := by decide +kernel
theorem dX8_at_14 : decode cX8_at 14 = .ok (.invokevirtual 138, 3) := by decide +kernel
theorem dX8_at_17 : decode cX8_at 17 = .ok (.istore_n 3, 1) := by decide +kernel
theorem dX8_at_18 : decode cX8_at 18 = .ok (.aload_n 0, 1) := by decide +kernel
theorem dX8_at_19 : decode cX8_at 19 = .ok (.iload_n 3, 1) := by decide +kernel
theorem dX8_at_20 : decode cX8_at 20 = .ok (.iconst (-1), 1) := by decide +kernel
theorem dX8_at_21 : decode cX8_at 21 = .ok (.if_icmp .eq 12, 3) := by decide +kernel
theorem dX8_at_24 : decode cX8_at 24 = .ok (.iload_n 2, 1) := by decide +kernel
theorem dX8_at_25 : decode cX8_at 25 = .ok (.iconst 0, 1) := by decide +kernel
theorem dX8_at_26 : decode cX8_at 26 = .ok (.iconst 2, 1) := by decide +kernel
theorem dX8_at_27 : decode cX8_at 27 = .ok (.invokestatic 85, 3) := by decide +kernel
theorem dX8_at_30 : decode cX8_at 30 = .ok (.ifCond .ne 7, 3) := by decide +kernel
theorem dX8_at_33 : decode cX8_at 33 = .ok (.iconst 1, 1) := by decide +kernel
theorem dX8_at_34 : decode cX8_at 34 = .ok (.goto 4, 3) := by decide +kernel
theorem dX8_at_37 : decode cX8_at 37 = .ok (.iconst 0, 1) := by decide +kernel
theorem dX8_at_38 : decode cX8_at 38 = .ok (.putfield 78, 3) := by decide +kernel
theorem dX8_at_41 : decode cX8_at 41 = .ok (.aload_n 0, 1) := by decide +kernel
theorem dX8_at_42 : decode cX8_at 42 = .ok (.getfield 78, 3) := by decide +kernel
theorem dX8_at_45 : decode cX8_at 45 = .ok (.ifCond .le 5, 3) := by decide +kernel
theorem dX8_at_48 : decode cX8_at 48 = .ok (.iconst 0, 1) := by decide +kernel
theorem dX8_at_49 : decode cX8_at 49 = .ok (.ireturn, 1) := by decide +kernel
theorem dX8_at_50 : decode cX8_at 50 = .ok (.aload_n 0, 1) := by decide +kernel
theorem dX8_at_51 : decode cX8_at 51 = .ok (.getfield 48, 3) := by decide +kernel
theorem dX8_at_54 : decode cX8_at 54 = .ok (.iload_n 3, 1) := by decide +kernel
theorem dX8_at_55 : decode cX8_at 55 = .ok (.iaload, 1) := by decide +kernel
theorem dX8_at_56 : decode cX8_at 56 = .ok (.sipush 1000, 3) := by decide +kernel
theorem dX8_at_59 : decode cX8_at 59 = .ok (.isub, 1) := by decide +kernel
theorem dX8_at_60 : decode cX8_at 60 = .ok (.istore 4, 2) := by decide +kernel
theorem dX8_at_62 : decode cX8_at 62 = .ok (.iload_n 2, 1) := by decide +kernel
theorem dX8_at_63 : decode cX8_at 63 = .ok (.ifCond .ne 11, 3) := by decide +kernel
theorem dX8_at_66 : decode cX8_at 66 = .ok (.iload 4, 2) := by decide +kernel
theorem dX8_at_68 : decode cX8_at 68 = .ok (.bipush 20, 2) := by decide +kernel
theorem dX8_at_70 : decode cX8_at 70 = .ok (.idiv, 1) := by decide +kernel
theorem dX8_at_71 : decode cX8_at 71 = .ok (.goto 22, 3) := by decide +kernel
theorem dX8_at_74 : decode cX8_at 74 = .ok (.iload_n 2, 1) := by decide +kernel
theorem dX8_at_75 : decode cX8_at 75 = .ok (.iconst 1, 1) := by decide +kernel
theorem dX8_at_76 : decode cX8_at 76 = .ok (.if_icmp .ne 11, 3) := by decide +kernel
theorem dX8_at_79 : decode cX8_at 79 = .ok (.iload 4, 2) := by decide +kernel
theorem dX8_at_81 : decode cX8_at 81 = .ok (.bipush 20, 2) := by decide +kernel
theorem dX8_at_83 : decode cX8_at 83 = .ok (.irem, 1) := by decide +kernel
theorem dX8_at_84 : decode cX8_at 84 = .ok (.goto 9, 3) := by decide +kernel
theorem dX8_at_87 : decode cX8_at 87 = .ok (.aload_n 0, 1) := by decide +kernel
theorem dX8_at_88 : decode cX8_at 88 = .ok (.getfield 51, 3) := by decide +kernel
theorem dX8_at_91 : decode cX8_at 91 = .ok (.iload_n 3, 1) := by decide +kernel
theorem dX8_at_92 : decode cX8_at 92 = .ok (.iaload, 1) := by decide +kernel
theorem dX8_at_93 : decode cX8_at 93 = .ok (.ireturn, 1) := by decide +kernel
theorem dX8_parent_0 : decode cX8_parent 0 = .ok (.aload_n 0, 1) := by decide +kernel
theorem dX8_parent_1 : decode cX8_parent 1 = .ok (.iload_n 1, 1) := by decide +kernel
theorem dX8_parent_2 : decode cX8_parent 2 = .ok (.iload_n 2, 1) := by decide +kernel
theorem dX8_parent_3 : decode cX8_parent 3 = .ok (.invokestatic 96, 3) := by decide +kernel
theorem dX8_parent_6 : decode cX8_parent 6 = .ok (.ifCond .eq 7, 3) := by decide +kernel
theorem dX8_parent_9 : decode cX8_parent 9 = .ok (.iconst 0, 1) := by decide +kernel
theorem dX8_parent_10 : decode cX8_parent 10 = .ok (.goto 4, 3) := by decide +kernel
theorem dX8_parent_13 : decode cX8_parent 13 = .ok (.iconst 1, 1) := by decide +kernel
theorem dX8_parent_14 : decode cX8_parent 14 = .ok (.putfield 78, 3) := by decide +kernel
theorem dX8_parent_17 : decode cX8_parent 17 = .ok (.aload_n 0, 1) := by decide +kernel
theorem dX8_parent_18 : decode cX8_parent 18 = .ok (.getfield 78, 3) := by decide +kernel
theorem dX8_parent_21 : decode cX8_parent 21 = .ok (.ifCond .le 7, 3) := by decide +kernel
theorem dX8_parent_24 : decode cX8_parent 24 = .ok (.iconst 0, 1) := by decide +kernel
theorem dX8_parent_25 : decode cX8_parent 25 = .ok (.goto 13, 3) := by decide +kernel
theorem dX8_parent_28 : decode cX8_parent 28 = .ok (.aload_n 0, 1) := by decide +kernel
theorem dX8_parent_29 : decode cX8_parent 29 = .ok (.bipush 20, 2) := by decide +kernel
theorem dX8_parent_31 : decode cX8_parent 31 = .ok (.iload_n 1, 1) := by decide +kernel
theorem dX8_parent_32 : decode cX8_parent 32 = .ok (.imul, 1) := by decide +kernel
theorem dX8_parent_33 : decode cX8_parent 33 = .ok (.iload_n 2, 1) := by decide +kernel
theorem dX8_parent_34 : decode cX8_parent 34 = .ok (.iadd, 1) := by decide +kernel
theorem dX8_parent_35 : decode cX8_parent 35 = .ok (.invokevirtual 99, 3) := by decide +kernel
theorem dX8_parent_38 : decode cX8_parent 38 = .ok (.ireturn, 1) := by decide +kernel
theorem dX8_add_0 : decode cX8_add 0 = .ok (.aload_n 0, 1) := by decide +kernel
theorem dX8_add_1 : decode cX8_add 1 = .ok (.getfield 66, 3) := by decide +kernel
theorem dX8_add_4 : decode cX8_add 4 = .ok (.aload_n 0, 1) := by decide +kernel
theorem dX8_add_5 : decode cX8_add 5 = .ok (.getfield 141, 3) := by decide +kernel
theorem dX8_add_8 : decode cX8_add 8 = .ok (.iload_n 1, 1) := by decide +kernel
theorem dX8_add_9 : decode cX8_add 9 = .ok (.iastore, 1) := by decide +kernel
theorem dX8_add_10 : decode cX8_add 10 = .ok (.aload_n 0, 1) := by decide +kernel
theorem dX8_add_11 : decode cX8_add 11 = .ok (.getfield 69, 3) := by decide +kernel
theorem dX8_add_14 : decode cX8_add 14 = .ok (.aload_n 0, 1) := by decide +kernel
theorem dX8_add_15 : decode cX8_add 15 = .ok (.getfield 141, 3) := by decide +kernel
theorem dX8_add_18 : decode cX8_add 18 = .ok (.iload_n 2, 1) := by decide +kernel
theorem dX8_add_19 : decode cX8_add 19 = .ok (.iastore, 1) := by decide +kernel
theorem dX8_add_20 : decode cX8_add 20 = .ok (.aload_n 0, 1) := by decide +kernel
theorem dX8_add_21 : decode cX8_add 21 = .ok (.getfield 72, 3) := by decide +kernel
theorem dX8_add_24 : decode cX8_add 24 = .ok (.aload_n 0, 1) := by decide +kernel
theorem dX8_add_25 : decode cX8_add 25 = .ok (.getfield 141, 3) := by decide +kernel
theorem dX8_add_28 : decode cX8_add 28 = .ok (.iload_n 3, 1) := by decide +kernel
theorem dX8_add_29 : decode cX8_add 29 = .ok (.iastore, 1) := by decide +kernel
theorem dX8_add_30 : decode cX8_add 30 = .ok (.aload_n 0, 1) := by decide +kernel
theorem dX8_add_31 : decode cX8_add 31 = .ok (.dup, 1) := by decide +kernel
theorem dX8_add_32 : decode cX8_add 32 = .ok (.getfield 141, 3) := by decide +kernel
theorem dX8_add_35 : decode cX8_add 35 = .ok (.iconst 1, 1) := by decide +kernel
theorem dX8_add_36 : decode cX8_add 36 = .ok (.iadd, 1) := by decide +kernel
theorem dX8_add_37 : decode cX8_add 37 = .ok (.putfield 141, 3) := by decide +kernel
theorem dX8_add_40 : decode cX8_add 40 = .ok (.return_, 1) := by decide +kernel
theorem dX8_parentOf_0 : decode cX8_parentOf 0 = .ok (.iconst (-1), 1) := by decide +kernel
theorem dX8_parentOf_1 : decode cX8_parentOf 1 = .ok (.istore_n 2, 1) := by decide +kernel
theorem dX8_parentOf_2 : decode cX8_parentOf 2 = .ok (.iconst 0, 1) := by decide +kernel
theorem dX8_parentOf_3 : decode cX8_parentOf 3 = .ok (.istore_n 3, 1) := by decide +kernel
theorem dX8_parentOf_4 : decode cX8_parentOf 4 = .ok (.iload_n 3, 1) := by decide +kernel
theorem dX8_parentOf_5 : decode cX8_parentOf 5 = .ok (.aload_n 0, 1) := by decide +kernel
theorem dX8_parentOf_6 : decode cX8_parentOf 6 = .ok (.getfield 89, 3) := by decide +kernel
theorem dX8_parentOf_9 : decode cX8_parentOf 9 = .ok (.if_icmp .ge 30, 3) := by decide +kernel
theorem dX8_parentOf_12 : decode cX8_parentOf 12 = .ok (.aload_n 0, 1) := by decide +kernel
theorem dX8_parentOf_13 : decode cX8_parentOf 13 = .ok (.getfield 36, 3) := by decide +kernel
theorem dX8_parentOf_16 : decode cX8_parentOf 16 = .ok (.iload_n 3, 1) := by decide +kernel
theorem dX8_parentOf_17 : decode cX8_parentOf 17 = .ok (.iaload, 1) := by decide +kernel
theorem dX8_parentOf_18 : decode cX8_parentOf 18 = .ok (.iload_n 1, 1) := by decide +kernel
theorem dX8_parentOf_19 : decode cX8_parentOf 19 = .ok (.if_icmp .ne 12, 3) := by decide +kernel
theorem dX8_parentOf_22 : decode cX8_parentOf 22 = .ok (.aload_n 0, 1) := by decide +kernel
theorem dX8_parentOf_23 : decode cX8_parentOf 23 = .ok (.getfield 33, 3) := by decide +kernel
theorem dX8_parentOf_26 : decode cX8_parentOf 26 = .ok (.iload_n 3, 1) := by decide +kernel
theorem dX8_parentOf_27 : decode cX8_parentOf 27 = .ok (.iaload, 1) := by decide +kernel
theorem dX8_parentOf_28 : decode cX8_parentOf 28 = .ok (.goto 4, 3) := by decide +kernel
theorem dX8_parentOf_31 : decode cX8_parentOf 31 = .ok (.iload_n 2, 1) := by decide +kernel
theorem dX8_parentOf_32 : decode cX8_parentOf 32 = .ok (.istore_n 2, 1) := by decide +kernel
theorem dX8_parentOf_33 : decode cX8_parentOf 33 = .ok (.iinc 3 1, 3) := by decide +kernel
theorem dX8_parentOf_36 : decode cX8_parentOf 36 = .ok (.goto (-32), 3) := by decide +kernel
theorem dX8_parentOf_39 : decode cX8_parentOf 39 = .ok (.iload_n 2, 1) := by decide +kernel
theorem dX8_parentOf_40 : decode cX8_parentOf 40 = .ok (.ireturn, 1) := by decide +kernel
theorem dX8_isCell_0 : decode cX8_isCell 0 = .ok (.aload_n 0, 1) := by decide +kernel
theorem dX8_isCell_1 : decode cX8_isCell 1 = .ok (.iload_n 1, 1) := by decide +kernel
theorem dX8_isCell_2 : decode cX8_isCell 2 = .ok (.bipush 8, 2) := by decide +kernel
theorem dX8_isCell_4 : decode cX8_isCell 4 = .ok (.invokevirtual 129, 3) := by decide +kernel
theorem dX8_isCell_7 : decode cX8_isCell 7 = .ok (.ifCond .ne 13, 3) := by decide +kernel
theorem dX8_isCell_10 : decode cX8_isCell 10 = .ok (.aload_n 0, 1) := by decide +kernel
theorem dX8_isCell_11 : decode cX8_isCell 11 = .ok (.iload_n 1, 1) := by decide +kernel
theorem dX8_isCell_12 : decode cX8_isCell 12 = .ok (.bipush 9, 2) := by decide +kernel
theorem dX8_isCell_14 : decode cX8_isCell 14 = .ok (.invokevirtual 129, 3) := by decide +kernel
theorem dX8_isCell_17 : decode cX8_isCell 17 = .ok (.ifCond .eq 7, 3) := by decide +kernel
theorem dX8_isCell_20 : decode cX8_isCell 20 = .ok (.iconst 1, 1) := by decide +kernel
theorem dX8_isCell_21 : decode cX8_isCell 21 = .ok (.goto 4, 3) := by decide +kernel
theorem dX8_isCell_24 : decode cX8_isCell 24 = .ok (.iconst 0, 1) := by decide +kernel
theorem dX8_isCell_25 : decode cX8_isCell 25 = .ok (.ireturn, 1) := by decide +kernel
theorem dX8_suits_0 : decode cX8_suits 0 = .ok (.iload_n 0, 1) := by decide +kernel
theorem dX8_suits_1 : decode cX8_suits 1 = .ok (.ifCond .eq 7, 3) := by decide +kernel
theorem dX8_suits_4 : decode cX8_suits 4 = .ok (.iload_n 1, 1) := by decide +kernel
theorem dX8_suits_5 : decode cX8_suits 5 = .ok (.goto 16, 3) := by decide +kernel
theorem dX8_suits_8 : decode cX8_suits 8 = .ok (.iload_n 1, 1) := by decide +kernel
theorem dX8_suits_9 : decode cX8_suits 9 = .ok (.ifCond .eq 7, 3) := by decide +kernel
theorem dX8_suits_12 : decode cX8_suits 12 = .ok (.iload_n 2, 1) := by decide +kernel
theorem dX8_suits_13 : decode cX8_suits 13 = .ok (.ifCond .eq 7, 3) := by decide +kernel
theorem dX8_suits_16 : decode cX8_suits 16 = .ok (.iconst 1, 1) := by decide +kernel
theorem dX8_suits_17 : decode cX8_suits 17 = .ok (.goto 4, 3) := by decide +kernel
theorem dX8_suits_20 : decode cX8_suits 20 = .ok (.iconst 0, 1) := by decide +kernel
theorem dX8_suits_21 : decode cX8_suits 21 = .ok (.ireturn, 1) := by decide +kernel
theorem dX8_isPlaced_0 : decode cX8_isPlaced 0 = .ok (.aload_n 0, 1) := by decide +kernel
theorem dX8_isPlaced_1 : decode cX8_isPlaced 1 = .ok (.iload_n 1, 1) := by decide +kernel
theorem dX8_isPlaced_2 : decode cX8_isPlaced 2 = .ok (.invokevirtual 144, 3) := by decide +kernel
theorem dX8_isPlaced_5 : decode cX8_isPlaced 5 = .ok (.istore_n 2, 1) := by decide +kernel
theorem dX8_isPlaced_6 : decode cX8_isPlaced 6 = .ok (.aload_n 0, 1) := by decide +kernel
theorem dX8_isPlaced_7 : decode cX8_isPlaced 7 = .ok (.iload_n 1, 1) := by decide +kernel
theorem dX8_isPlaced_8 : decode cX8_isPlaced 8 = .ok (.bipush 12, 2) := by decide +kernel
theorem dX8_isPlaced_10 : decode cX8_isPlaced 10 = .ok (.invokevirtual 129, 3) := by decide +kernel
theorem dX8_isPlaced_13 : decode cX8_isPlaced 13 = .ok (.istore_n 3, 1) := by decide +kernel
theorem dX8_isPlaced_14 : decode cX8_isPlaced 14 = .ok (.aload_n 0, 1) := by decide +kernel
theorem dX8_isPlaced_15 : decode cX8_isPlaced 15 = .ok (.iload_n 1, 1) := by decide +kernel
theorem dX8_isPlaced_16 : decode cX8_isPlaced 16 = .ok (.iconst 5, 1) := by decide +kernel
theorem dX8_isPlaced_17 : decode cX8_isPlaced 17 = .ok (.invokevirtual 129, 3) := by decide +kernel
theorem dX8_isPlaced_20 : decode cX8_isPlaced 20 = .ok (.iload_n 2, 1) := by decide +kernel
theorem dX8_isPlaced_21 : decode cX8_isPlaced 21 = .ok (.iconst (-1), 1) := by decide +kernel
theorem dX8_isPlaced_22 : decode cX8_isPlaced 22 = .ok (.if_icmp .eq 16, 3) := by decide +kernel
theorem dX8_isPlaced_25 : decode cX8_isPlaced 25 = .ok (.aload_n 0, 1) := by decide +kernel
theorem dX8_isPlaced_26 : decode cX8_isPlaced 26 = .ok (.iload_n 2, 1) := by decide +kernel
theorem dX8_isPlaced_27 : decode cX8_isPlaced 27 = .ok (.iconst 4, 1) := by decide +kernel
theorem dX8_isPlaced_28 : decode cX8_isPlaced 28 = .ok (.invokevirtual 129, 3) := by decide +kernel
theorem dX8_isPlaced_31 : decode cX8_isPlaced 31 = .ok (.ifCond .eq 7, 3) := by decide +kernel
theorem dX8_isPlaced_34 : decode cX8_isPlaced 34 = .ok (.iconst 1, 1) := by decide +kernel
theorem dX8_isPlaced_35 : decode cX8_isPlaced 35 = .ok (.goto 4, 3) := by decide +kernel
theorem dX8_isPlaced_38 : decode cX8_isPlaced 38 = .ok (.iconst 0, 1) := by decide +kernel
theorem dX8_isPlaced_39 : decode cX8_isPlaced 39 = .ok (.iload_n 3, 1) := by decide +kernel
theorem dX8_isPlaced_40 : decode cX8_isPlaced 40 = .ok (.invokestatic 147, 3) := by decide +kernel
theorem dX8_isPlaced_43 : decode cX8_isPlaced 43 = .ok (.istore 4, 2) := by decide +kernel
theorem dX8_isPlaced_45 : decode cX8_isPlaced 45 = .ok (.aload_n 0, 1) := by decide +kernel
theorem dX8_isPlaced_46 : decode cX8_isPlaced 46 = .ok (.iload_n 1, 1) := by decide +kernel
theorem dX8_isPlaced_47 : decode cX8_isPlaced 47 = .ok (.bipush 7, 2) := by decide +kernel
theorem dX8_isPlaced_49 : decode cX8_isPlaced 49 = .ok (.invokevirtual 129, 3) := by decide +kernel
theorem dX8_isPlaced_52 : decode cX8_isPlaced 52 = .ok (.iload_n 2, 1) := by decide +kernel
theorem dX8_isPlaced_53 : decode cX8_isPlaced 53 = .ok (.iconst (-1), 1) := by decide +kernel
theorem dX8_isPlaced_54 : decode cX8_isPlaced 54 = .ok (.if_icmp .eq 17, 3) := by decide +kernel
theorem dX8_isPlaced_57 : decode cX8_isPlaced 57 = .ok (.aload_n 0, 1) := by decide +kernel
theorem dX8_isPlaced_58 : decode cX8_isPlaced 58 = .ok (.iload_n 2, 1) := by decide +kernel
theorem dX8_isPlaced_59 : decode cX8_isPlaced 59 = .ok (.bipush 6, 2) := by decide +kernel
theorem dX8_isPlaced_61 : decode cX8_isPlaced 61 = .ok (.invokevirtual 129, 3) := by decide +kernel
theorem dX8_isPlaced_64 : decode cX8_isPlaced 64 = .ok (.ifCond .eq 7, 3) := by decide +kernel
theorem dX8_isPlaced_67 : decode cX8_isPlaced 67 = .ok (.iconst 1, 1) := by decide +kernel
theorem dX8_isPlaced_68 : decode cX8_isPlaced 68 = .ok (.goto 4, 3) := by decide +kernel
theorem dX8_isPlaced_71 : decode cX8_isPlaced 71 = .ok (.iconst 0, 1) := by decide +kernel
theorem dX8_isPlaced_72 : decode cX8_isPlaced 72 = .ok (.iload_n 3, 1) := by decide +kernel
theorem dX8_isPlaced_73 : decode cX8_isPlaced 73 = .ok (.invokestatic 147, 3) := by decide +kernel
theorem dX8_isPlaced_76 : decode cX8_isPlaced 76 = .ok (.istore 5, 2) := by decide +kernel
theorem dX8_isPlaced_78 : decode cX8_isPlaced 78 = .ok (.iload 4, 2) := by decide +kernel
theorem dX8_isPlaced_80 : decode cX8_isPlaced 80 = .ok (.ifCond .eq 44, 3) := by decide +kernel
theorem dX8_isPlaced_83 : decode cX8_isPlaced 83 = .ok (.iload 5, 2) := by decide +kernel
theorem dX8_isPlaced_85 : decode cX8_isPlaced 85 = .ok (.ifCond .eq 39, 3) := by decide +kernel
theorem dX8_isPlaced_88 : decode cX8_isPlaced 88 = .ok (.aload_n 0, 1) := by decide +kernel
theorem dX8_isPlaced_89 : decode cX8_isPlaced 89 = .ok (.iload_n 1, 1) := by decide +kernel
theorem dX8_isPlaced_90 : decode cX8_isPlaced 90 = .ok (.invokevirtual 151, 3) := by decide +kernel
theorem dX8_isPlaced_93 : decode cX8_isPlaced 93 = .ok (.iload_n 2, 1) := by decide +kernel
theorem dX8_isPlaced_94 : decode cX8_isPlaced 94 = .ok (.iconst (-1), 1) := by decide +kernel
theorem dX8_isPlaced_95 : decode cX8_isPlaced 95 = .ok (.if_icmp .eq 17, 3) := by decide +kernel
theorem dX8_isPlaced_98 : decode cX8_isPlaced 98 = .ok (.aload_n 0, 1) := by decide +kernel
theorem dX8_isPlaced_99 : decode cX8_isPlaced 99 = .ok (.iload_n 2, 1) := by decide +kernel
theorem dX8_isPlaced_100 : decode cX8_isPlaced 100 = .ok (.bipush 7, 2) := by decide +kernel
theorem dX8_isPlaced_102 : decode cX8_isPlaced 102 = .ok (.invokevirtual 129, 3) := by decide +kernel
theorem dX8_isPlaced_105 : decode cX8_isPlaced 105 = .ok (.ifCond .eq 7, 3) := by decide +kernel
theorem dX8_isPlaced_108 : decode cX8_isPlaced 108 = .ok (.iconst 1, 1) := by decide +kernel
theorem dX8_isPlaced_109 : decode cX8_isPlaced 109 = .ok (.goto 4, 3) := by decide +kernel
theorem dX8_isPlaced_112 : decode cX8_isPlaced 112 = .ok (.iconst 0, 1) := by decide +kernel
theorem dX8_isPlaced_113 : decode cX8_isPlaced 113 = .ok (.iload_n 3, 1) := by decide +kernel
theorem dX8_isPlaced_114 : decode cX8_isPlaced 114 = .ok (.invokestatic 147, 3) := by decide +kernel
theorem dX8_isPlaced_117 : decode cX8_isPlaced 117 = .ok (.ifCond .eq 7, 3) := by decide +kernel
theorem dX8_isPlaced_120 : decode cX8_isPlaced 120 = .ok (.iconst 1, 1) := by decide +kernel
theorem dX8_isPlaced_121 : decode cX8_isPlaced 121 = .ok (.goto 4, 3) := by decide +kernel
theorem dX8_isPlaced_124 : decode cX8_isPlaced 124 = .ok (.iconst 0, 1) := by decide +kernel
theorem dX8_isPlaced_125 : decode cX8_isPlaced 125 = .ok (.ireturn, 1) := by decide +kernel
theorem dX8_lay_0 : decode cX8_lay 0 = .ok (.iconst 0, 1) := by decide +kernel
theorem dX8_lay_1 : decode cX8_lay 1 = .ok (.istore_n 3, 1) := by decide +kernel
theorem dX8_lay_2 : decode cX8_lay 2 = .ok (.iconst 0, 1) := by decide +kernel
theorem dX8_lay_3 : decode cX8_lay 3 = .ok (.istore 4, 2) := by decide +kernel
theorem dX8_lay_5 : decode cX8_lay 5 = .ok (.aload_n 0, 1) := by decide +kernel
theorem dX8_lay_6 : decode cX8_lay 6 = .ok (.iload_n 1, 1) := by decide +kernel
theorem dX8_lay_7 : decode cX8_lay 7 = .ok (.iconst 0, 1) := by decide +kernel
theorem dX8_lay_8 : decode cX8_lay 8 = .ok (.invokevirtual 125, 3) := by decide +kernel
theorem dX8_lay_11 : decode cX8_lay 11 = .ok (.istore 5, 2) := by decide +kernel
theorem dX8_lay_13 : decode cX8_lay 13 = .ok (.iload 5, 2) := by decide +kernel
theorem dX8_lay_15 : decode cX8_lay 15 = .ok (.aload_n 0, 1) := by decide +kernel
theorem dX8_lay_16 : decode cX8_lay 16 = .ok (.getfield 89, 3) := by decide +kernel
theorem dX8_lay_19 : decode cX8_lay 19 = .ok (.if_icmp .ge 158, 3) := by decide +kernel
theorem dX8_lay_22 : decode cX8_lay 22 = .ok (.aload_n 0, 1) := by decide +kernel
theorem dX8_lay_23 : decode cX8_lay 23 = .ok (.getfield 36, 3) := by decide +kernel
theorem dX8_lay_26 : decode cX8_lay 26 = .ok (.iload 5, 2) := by decide +kernel
theorem dX8_lay_28 : decode cX8_lay 28 = .ok (.iaload, 1) := by decide +kernel
theorem dX8_lay_29 : decode cX8_lay 29 = .ok (.sipush 1000, 3) := by decide +kernel
theorem dX8_lay_32 : decode cX8_lay 32 = .ok (.if_icmp .ge 131, 3) := by decide +kernel
theorem dX8_lay_35 : decode cX8_lay 35 = .ok (.aload_n 0, 1) := by decide +kernel
theorem dX8_lay_36 : decode cX8_lay 36 = .ok (.aload_n 0, 1) := by decide +kernel
theorem dX8_lay_37 : decode cX8_lay 37 = .ok (.getfield 36, 3) := by decide +kernel
theorem dX8_lay_40 : decode cX8_lay 40 = .ok (.iload 5, 2) := by decide +kernel
theorem dX8_lay_42 : decode cX8_lay 42 = .ok (.iaload, 1) := by decide +kernel
theorem dX8_lay_43 : decode cX8_lay 43 = .ok (.invokevirtual 151, 3) := by decide +kernel
theorem dX8_lay_46 : decode cX8_lay 46 = .ok (.ifCond .eq 117, 3) := by decide +kernel
theorem dX8_lay_49 : decode cX8_lay 49 = .ok (.aload_n 0, 1) := by decide +kernel
theorem dX8_lay_50 : decode cX8_lay 50 = .ok (.getfield 75, 3) := by decide +kernel
theorem dX8_lay_53 : decode cX8_lay 53 = .ok (.iload 4, 2) := by decide +kernel
theorem dX8_lay_55 : decode cX8_lay 55 = .ok (.iaload, 1) := by decide +kernel
theorem dX8_lay_56 : decode cX8_lay 56 = .ok (.iload_n 2, 1) := by decide +kernel
theorem dX8_lay_57 : decode cX8_lay 57 = .ok (.if_icmp .le 9, 3) := by decide +kernel
theorem dX8_lay_60 : decode cX8_lay 60 = .ok (.iinc 4 1, 3) := by decide +kernel
theorem dX8_lay_63 : decode cX8_lay 63 = .ok (.goto (-14), 3) := by decide +kernel
theorem dX8_lay_66 : decode cX8_lay 66 = .ok (.iconst 0, 1) := by decide +kernel
theorem dX8_lay_67 : decode cX8_lay 67 = .ok (.istore 6, 2) := by decide +kernel
theorem dX8_lay_69 : decode cX8_lay 69 = .ok (.iload 6, 2) := by decide +kernel
theorem dX8_lay_71 : decode cX8_lay 71 = .ok (.aload_n 0, 1) := by decide +kernel
theorem dX8_lay_72 : decode cX8_lay 72 = .ok (.getfield 27, 3) := by decide +kernel
theorem dX8_lay_75 : decode cX8_lay 75 = .ok (.aload_n 0, 1) := by decide +kernel
theorem dX8_lay_76 : decode cX8_lay 76 = .ok (.getfield 36, 3) := by decide +kernel
theorem dX8_lay_79 : decode cX8_lay 79 = .ok (.iload 5, 2) := by decide +kernel
theorem dX8_lay_81 : decode cX8_lay 81 = .ok (.iaload, 1) := by decide +kernel
theorem dX8_lay_82 : decode cX8_lay 82 = .ok (.iaload, 1) := by decide +kernel
theorem dX8_lay_83 : decode cX8_lay 83 = .ok (.if_icmp .ge 80, 3) := by decide +kernel
theorem dX8_lay_86 : decode cX8_lay 86 = .ok (.iload_n 3, 1) := by decide +kernel
theorem dX8_lay_87 : decode cX8_lay 87 = .ok (.ifCond .ne 14, 3) := by decide +kernel
theorem dX8_lay_90 : decode cX8_lay 90 = .ok (.aload_n 0, 1) := by decide +kernel
theorem dX8_lay_91 : decode cX8_lay 91 = .ok (.getfield 75, 3) := by decide +kernel
theorem dX8_lay_94 : decode cX8_lay 94 = .ok (.iload 4, 2) := by decide +kernel
theorem dX8_lay_96 : decode cX8_lay 96 = .ok (.iaload, 1) := by decide +kernel
theorem dX8_lay_97 : decode cX8_lay 97 = .ok (.iload_n 2, 1) := by decide +kernel
theorem dX8_lay_98 : decode cX8_lay 98 = .ok (.if_icmp .le 7, 3) := by decide +kernel
theorem dX8_lay_101 : decode cX8_lay 101 = .ok (.iconst 1, 1) := by decide +kernel
theorem dX8_lay_102 : decode cX8_lay 102 = .ok (.goto 4, 3) := by decide +kernel
theorem dX8_lay_105 : decode cX8_lay 105 = .ok (.iconst 0, 1) := by decide +kernel
theorem dX8_lay_106 : decode cX8_lay 106 = .ok (.istore_n 3, 1) := by decide +kernel
theorem dX8_lay_107 : decode cX8_lay 107 = .ok (.iload_n 2, 1) := by decide +kernel
theorem dX8_lay_108 : decode cX8_lay 108 = .ok (.aload_n 0, 1) := by decide +kernel
theorem dX8_lay_109 : decode cX8_lay 109 = .ok (.getfield 24, 3) := by decide +kernel
theorem dX8_lay_112 : decode cX8_lay 112 = .ok (.aload_n 0, 1) := by decide +kernel
theorem dX8_lay_113 : decode cX8_lay 113 = .ok (.getfield 36, 3) := by decide +kernel
theorem dX8_lay_116 : decode cX8_lay 116 = .ok (.iload 5, 2) := by decide +kernel
theorem dX8_lay_118 : decode cX8_lay 118 = .ok (.iaload, 1) := by decide +kernel
theorem dX8_lay_119 : decode cX8_lay 119 = .ok (.iaload, 1) := by decide +kernel
theorem dX8_lay_120 : decode cX8_lay 120 = .ok (.iadd, 1) := by decide +kernel
theorem dX8_lay_121 : decode cX8_lay 121 = .ok (.istore 7, 2) := by decide +kernel
theorem dX8_lay_123 : decode cX8_lay 123 = .ok (.aload_n 0, 1) := by decide +kernel
theorem dX8_lay_124 : decode cX8_lay 124 = .ok (.getfield 75, 3) := by decide +kernel
theorem dX8_lay_127 : decode cX8_lay 127 = .ok (.iload 4, 2) := by decide +kernel
theorem dX8_lay_129 : decode cX8_lay 129 = .ok (.iload 7, 2) := by decide +kernel
theorem dX8_lay_131 : decode cX8_lay 131 = .ok (.aload_n 0, 1) := by decide +kernel
theorem dX8_lay_132 : decode cX8_lay 132 = .ok (.getfield 75, 3) := by decide +kernel
theorem dX8_lay_135 : decode cX8_lay 135 = .ok (.iload 4, 2) := by decide +kernel
theorem dX8_lay_137 : decode cX8_lay 137 = .ok (.iaload, 1) := by decide +kernel
theorem dX8_lay_138 : decode cX8_lay 138 = .ok (.if_icmp .le 8, 3) := by decide +kernel
theorem dX8_lay_141 : decode cX8_lay 141 = .ok (.iload 7, 2) := by decide +kernel
theorem dX8_lay_143 : decode cX8_lay 143 = .ok (.goto 10, 3) := by decide +kernel
theorem dX8_lay_146 : decode cX8_lay 146 = .ok (.aload_n 0, 1) := by decide +kernel
theorem dX8_lay_147 : decode cX8_lay 147 = .ok (.getfield 75, 3) := by decide +kernel
theorem dX8_lay_150 : decode cX8_lay 150 = .ok (.iload 4, 2) := by decide +kernel
theorem dX8_lay_152 : decode cX8_lay 152 = .ok (.iaload, 1) := by decide +kernel
theorem dX8_lay_153 : decode cX8_lay 153 = .ok (.iastore, 1) := by decide +kernel
theorem dX8_lay_154 : decode cX8_lay 154 = .ok (.iinc 4 1, 3) := by decide +kernel
theorem dX8_lay_157 : decode cX8_lay 157 = .ok (.iinc 6 1, 3) := by decide +kernel
theorem dX8_lay_160 : decode cX8_lay 160 = .ok (.goto (-91), 3) := by decide +kernel
theorem dX8_lay_163 : decode cX8_lay 163 = .ok (.aload_n 0, 1) := by decide +kernel
theorem dX8_lay_164 : decode cX8_lay 164 = .ok (.iload_n 1, 1) := by decide +kernel
theorem dX8_lay_165 : decode cX8_lay 165 = .ok (.iload 5, 2) := by decide +kernel
theorem dX8_lay_167 : decode cX8_lay 167 = .ok (.iconst 1, 1) := by decide +kernel
theorem dX8_lay_168 : decode cX8_lay 168 = .ok (.iadd, 1) := by decide +kernel
theorem dX8_lay_169 : decode cX8_lay 169 = .ok (.invokevirtual 125, 3) := by decide +kernel
theorem dX8_lay_172 : decode cX8_lay 172 = .ok (.istore 5, 2) := by decide +kernel
theorem dX8_lay_174 : decode cX8_lay 174 = .ok (.goto (-161), 3) := by decide +kernel
theorem dX8_lay_177 : decode cX8_lay 177 = .ok (.iload_n 3, 1) := by decide +kernel
theorem dX8_lay_178 : decode cX8_lay 178 = .ok (.ireturn, 1) := by decide +kernel
theorem dX8_isUneven_0 : decode cX8_isUneven 0 = .ok (.iconst 0, 1) := by decide +kernel
theorem dX8_isUneven_1 : decode cX8_isUneven 1 = .ok (.istore_n 2, 1) := by decide +kernel
theorem dX8_isUneven_2 : decode cX8_isUneven 2 = .ok (.iload_n 2, 1) := by decide +kernel
theorem dX8_isUneven_3 : decode cX8_isUneven 3 = .ok (.sipush 500, 3) := by decide +kernel
theorem dX8_isUneven_6 : decode cX8_isUneven 6 = .ok (.if_icmp .ge 16, 3) := by decide +kernel
theorem dX8_isUneven_9 : decode cX8_isUneven 9 = .ok (.aload_n 0, 1) := by decide +kernel
theorem dX8_isUneven_10 : decode cX8_isUneven 10 = .ok (.getfield 75, 3) := by decide +kernel
theorem dX8_isUneven_13 : decode cX8_isUneven 13 = .ok (.iload_n 2, 1) := by decide +kernel
theorem dX8_isUneven_14 : decode cX8_isUneven 14 = .ok (.iconst 0, 1) := by decide +kernel
theorem dX8_isUneven_15 : decode cX8_isUneven 15 = .ok (.iastore, 1) := by decide +kernel
theorem dX8_isUneven_16 : decode cX8_isUneven 16 = .ok (.iinc 2 1, 3) := by decide +kernel
theorem dX8_isUneven_19 : decode cX8_isUneven 19 = .ok (.goto (-17), 3) := by decide +kernel
theorem dX8_isUneven_22 : decode cX8_isUneven 22 = .ok (.iconst 0, 1) := by decide +kernel
theorem dX8_isUneven_23 : decode cX8_isUneven 23 = .ok (.istore_n 2, 1) := by decide +kernel
theorem dX8_isUneven_24 : decode cX8_isUneven 24 = .ok (.iconst 0, 1) := by decide +kernel
theorem dX8_isUneven_25 : decode cX8_isUneven 25 = .ok (.istore_n 3, 1) := by decide +kernel
theorem dX8_isUneven_26 : decode cX8_isUneven 26 = .ok (.iconst 0, 1) := by decide +kernel
theorem dX8_isUneven_27 : decode cX8_isUneven 27 = .ok (.istore 4, 2) := by decide +kernel
theorem dX8_isUneven_29 : decode cX8_isUneven 29 = .ok (.aload_n 0, 1) := by decide +kernel
theorem dX8_isUneven_30 : decode cX8_isUneven 30 = .ok (.iload_n 1, 1) := by decide +kernel
theorem dX8_isUneven_31 : decode cX8_isUneven 31 = .ok (.iconst 0, 1) := by decide +kernel
theorem dX8_isUneven_32 : decode cX8_isUneven 32 = .ok (.invokevirtual 125, 3) := by decide +kernel
theorem dX8_isUneven_35 : decode cX8_isUneven 35 = .ok (.istore 5, 2) := by decide +kernel
theorem dX8_isUneven_37 : decode cX8_isUneven 37 = .ok (.iload 5, 2) := by decide +kernel
theorem dX8_isUneven_39 : decode cX8_isUneven 39 = .ok (.aload_n 0, 1) := by decide +kernel
theorem dX8_isUneven_40 : decode cX8_isUneven 40 = .ok (.getfield 89, 3) := by decide +kernel
theorem dX8_isUneven_43 : decode cX8_isUneven 43 = .ok (.if_icmp .ge 135, 3) := by decide +kernel
theorem dX8_isUneven_46 : decode cX8_isUneven 46 = .ok (.aload_n 0, 1) := by decide +kernel
theorem dX8_isUneven_47 : decode cX8_isUneven 47 = .ok (.getfield 36, 3) := by decide +kernel
theorem dX8_isUneven_50 : decode cX8_isUneven 50 = .ok (.iload 5, 2) := by decide +kernel
theorem dX8_isUneven_52 : decode cX8_isUneven 52 = .ok (.iaload, 1) := by decide +kernel
theorem dX8_isUneven_53 : decode cX8_isUneven 53 = .ok (.sipush 1000, 3) := by decide +kernel
theorem dX8_isUneven_56 : decode cX8_isUneven 56 = .ok (.if_icmp .ge 108, 3) := by decide +kernel
theorem dX8_isUneven_59 : decode cX8_isUneven 59 = .ok (.aload_n 0, 1) := by decide +kernel
theorem dX8_isUneven_60 : decode cX8_isUneven 60 = .ok (.aload_n 0, 1) := by decide +kernel
theorem dX8_isUneven_61 : decode cX8_isUneven 61 = .ok (.getfield 36, 3) := by decide +kernel
theorem dX8_isUneven_64 : decode cX8_isUneven 64 = .ok (.iload 5, 2) := by decide +kernel
theorem dX8_isUneven_66 : decode cX8_isUneven 66 = .ok (.iaload, 1) := by decide +kernel
theorem dX8_isUneven_67 : decode cX8_isUneven 67 = .ok (.bipush 7, 2) := by decide +kernel
theorem dX8_isUneven_69 : decode cX8_isUneven 69 = .ok (.invokevirtual 129, 3) := by decide +kernel
theorem dX8_isUneven_72 : decode cX8_isUneven 72 = .ok (.ifCond .eq 92, 3) := by decide +kernel
theorem dX8_isUneven_75 : decode cX8_isUneven 75 = .ok (.aload_n 0, 1) := by decide +kernel
theorem dX8_isUneven_76 : decode cX8_isUneven 76 = .ok (.aload_n 0, 1) := by decide +kernel
theorem dX8_isUneven_77 : decode cX8_isUneven 77 = .ok (.getfield 36, 3) := by decide +kernel
theorem dX8_isUneven_80 : decode cX8_isUneven 80 = .ok (.iload 5, 2) := by decide +kernel
theorem dX8_isUneven_82 : decode cX8_isUneven 82 = .ok (.iaload, 1) := by decide +kernel
theorem dX8_isUneven_83 : decode cX8_isUneven 83 = .ok (.iload_n 3, 1) := by decide +kernel
theorem dX8_isUneven_84 : decode cX8_isUneven 84 = .ok (.invokevirtual 154, 3) := by decide +kernel
theorem dX8_isUneven_87 : decode cX8_isUneven 87 = .ok (.istore 6, 2) := by decide +kernel
theorem dX8_isUneven_89 : decode cX8_isUneven 89 = .ok (.iconst 0, 1) := by decide +kernel
theorem dX8_isUneven_90 : decode cX8_isUneven 90 = .ok (.istore 7, 2) := by decide +kernel
theorem dX8_isUneven_92 : decode cX8_isUneven 92 = .ok (.iconst 0, 1) := by decide +kernel
theorem dX8_isUneven_93 : decode cX8_isUneven 93 = .ok (.istore 8, 2) := by decide +kernel
theorem dX8_isUneven_95 : decode cX8_isUneven 95 = .ok (.iload 8, 2) := by decide +kernel
theorem dX8_isUneven_97 : decode cX8_isUneven 97 = .ok (.sipush 500, 3) := by decide +kernel
theorem dX8_isUneven_100 : decode cX8_isUneven 100 = .ok (.if_icmp .ge 31, 3) := by decide +kernel
theorem dX8_isUneven_103 : decode cX8_isUneven 103 = .ok (.aload_n 0, 1) := by decide +kernel
theorem dX8_isUneven_104 : decode cX8_isUneven 104 = .ok (.getfield 75, 3) := by decide +kernel
theorem dX8_isUneven_107 : decode cX8_isUneven 107 = .ok (.iload 8, 2) := by decide +kernel
theorem dX8_isUneven_109 : decode cX8_isUneven 109 = .ok (.iaload, 1) := by decide +kernel
theorem dX8_isUneven_110 : decode cX8_isUneven 110 = .ok (.iload_n 3, 1) := by decide +kernel
theorem dX8_isUneven_111 : decode cX8_isUneven 111 = .ok (.if_icmp .le 10, 3) := by decide +kernel
theorem dX8_isUneven_114 : decode cX8_isUneven 114 = .ok (.iload 8, 2) := by decide +kernel
theorem dX8_isUneven_116 : decode cX8_isUneven 116 = .ok (.iconst 1, 1) := by decide +kernel
theorem dX8_isUneven_117 : decode cX8_isUneven 117 = .ok (.iadd, 1) := by decide +kernel
theorem dX8_isUneven_118 : decode cX8_isUneven 118 = .ok (.goto 5, 3) := by decide +kernel
theorem dX8_isUneven_121 : decode cX8_isUneven 121 = .ok (.iload 7, 2) := by decide +kernel
theorem dX8_isUneven_123 : decode cX8_isUneven 123 = .ok (.istore 7, 2) := by decide +kernel
theorem dX8_isUneven_125 : decode cX8_isUneven 125 = .ok (.iinc 8 1, 3) := by decide +kernel
theorem dX8_isUneven_128 : decode cX8_isUneven 128 = .ok (.goto (-33), 3) := by decide +kernel
theorem dX8_isUneven_131 : decode cX8_isUneven 131 = .ok (.iload_n 2, 1) := by decide +kernel
theorem dX8_isUneven_132 : decode cX8_isUneven 132 = .ok (.ifCond .ne 19, 3) := by decide +kernel
theorem dX8_isUneven_135 : decode cX8_isUneven 135 = .ok (.iload 6, 2) := by decide +kernel
theorem dX8_isUneven_137 : decode cX8_isUneven 137 = .ok (.ifCond .ne 14, 3) := by decide +kernel
theorem dX8_isUneven_140 : decode cX8_isUneven 140 = .ok (.iload_n 3, 1) := by decide +kernel
theorem dX8_isUneven_141 : decode cX8_isUneven 141 = .ok (.ifCond .le 14, 3) := by decide +kernel
theorem dX8_isUneven_144 : decode cX8_isUneven 144 = .ok (.iload 7, 2) := by decide +kernel
theorem dX8_isUneven_146 : decode cX8_isUneven 146 = .ok (.iload 4, 2) := by decide +kernel
theorem dX8_isUneven_148 : decode cX8_isUneven 148 = .ok (.if_icmp .eq 7, 3) := by decide +kernel
theorem dX8_isUneven_151 : decode cX8_isUneven 151 = .ok (.iconst 1, 1) := by decide +kernel
theorem dX8_isUneven_152 : decode cX8_isUneven 152 = .ok (.goto 4, 3) := by decide +kernel
theorem dX8_isUneven_155 : decode cX8_isUneven 155 = .ok (.iconst 0, 1) := by decide +kernel
theorem dX8_isUneven_156 : decode cX8_isUneven 156 = .ok (.istore_n 2, 1) := by decide +kernel
theorem dX8_isUneven_157 : decode cX8_isUneven 157 = .ok (.iload 7, 2) := by decide +kernel
theorem dX8_isUneven_159 : decode cX8_isUneven 159 = .ok (.istore 4, 2) := by decide +kernel
theorem dX8_isUneven_161 : decode cX8_isUneven 161 = .ok (.iinc 3 1, 3) := by decide +kernel
theorem dX8_isUneven_164 : decode cX8_isUneven 164 = .ok (.aload_n 0, 1) := by decide +kernel
theorem dX8_isUneven_165 : decode cX8_isUneven 165 = .ok (.iload_n 1, 1) := by decide +kernel
theorem dX8_isUneven_166 : decode cX8_isUneven 166 = .ok (.iload 5, 2) := by decide +kernel
theorem dX8_isUneven_168 : decode cX8_isUneven 168 = .ok (.iconst 1, 1) := by decide +kernel
theorem dX8_isUneven_169 : decode cX8_isUneven 169 = .ok (.iadd, 1) := by decide +kernel
theorem dX8_isUneven_170 : decode cX8_isUneven 170 = .ok (.invokevirtual 125, 3) := by decide +kernel
theorem dX8_isUneven_173 : decode cX8_isUneven 173 = .ok (.istore 5, 2) := by decide +kernel
theorem dX8_isUneven_175 : decode cX8_isUneven 175 = .ok (.goto (-138), 3) := by decide +kernel
theorem dX8_isUneven_178 : decode cX8_isUneven 178 = .ok (.iload_n 2, 1) := by decide +kernel
theorem dX8_isUneven_179 : decode cX8_isUneven 179 = .ok (.ireturn, 1) := by decide +kernel
theorem dX8_hasFault_0 : decode cX8_hasFault 0 = .ok (.iload_n 2, 1) := by decide +kernel
theorem dX8_hasFault_1 : decode cX8_hasFault 1 = .ok (.iconst 1, 1) := by decide +kernel
theorem dX8_hasFault_2 : decode cX8_hasFault 2 = .ok (.if_icmp .ne 23, 3) := by decide +kernel
theorem dX8_hasFault_5 : decode cX8_hasFault 5 = .ok (.aload_n 0, 1) := by decide +kernel
theorem dX8_hasFault_6 : decode cX8_hasFault 6 = .ok (.aload_n 0, 1) := by decide +kernel
theorem dX8_hasFault_7 : decode cX8_hasFault 7 = .ok (.getfield 13, 3) := by decide +kernel
theorem dX8_hasFault_10 : decode cX8_hasFault 10 = .ok (.iload_n 1, 1) := by decide +kernel
theorem dX8_hasFault_11 : decode cX8_hasFault 11 = .ok (.iaload, 1) := by decide +kernel
theorem dX8_hasFault_12 : decode cX8_hasFault 12 = .ok (.invokevirtual 115, 3) := by decide +kernel
theorem dX8_hasFault_15 : decode cX8_hasFault 15 = .ok (.iconst (-1), 1) := by decide +kernel
theorem dX8_hasFault_16 : decode cX8_hasFault 16 = .ok (.if_icmp .ne 7, 3) := by decide +kernel
theorem dX8_hasFault_19 : decode cX8_hasFault 19 = .ok (.iconst 1, 1) := by decide +kernel
theorem dX8_hasFault_20 : decode cX8_hasFault 20 = .ok (.goto 4, 3) := by decide +kernel
theorem dX8_hasFault_23 : decode cX8_hasFault 23 = .ok (.iconst 0, 1) := by decide +kernel
theorem dX8_hasFault_24 : decode cX8_hasFault 24 = .ok (.ireturn, 1) := by decide +kernel
theorem dX8_hasFault_25 : decode cX8_hasFault 25 = .ok (.iload_n 2, 1) := by decide +kernel
theorem dX8_hasFault_26 : decode cX8_hasFault 26 = .ok (.iconst 2, 1) := by decide +kernel
theorem dX8_hasFault_27 : decode cX8_hasFault 27 = .ok (.if_icmp .ne 27, 3) := by decide +kernel
theorem dX8_hasFault_30 : decode cX8_hasFault 30 = .ok (.aload_n 0, 1) := by decide +kernel
theorem dX8_hasFault_31 : decode cX8_hasFault 31 = .ok (.iload_n 1, 1) := by decide +kernel
theorem dX8_hasFault_32 : decode cX8_hasFault 32 = .ok (.iconst 2, 1) := by decide +kernel
theorem dX8_hasFault_33 : decode cX8_hasFault 33 = .ok (.invokevirtual 129, 3) := by decide +kernel
theorem dX8_hasFault_36 : decode cX8_hasFault 36 = .ok (.ifCond .eq 16, 3) := by decide +kernel
theorem dX8_hasFault_39 : decode cX8_hasFault 39 = .ok (.aload_n 0, 1) := by decide +kernel
theorem dX8_hasFault_40 : decode cX8_hasFault 40 = .ok (.getfield 17, 3) := by decide +kernel
theorem dX8_hasFault_43 : decode cX8_hasFault 43 = .ok (.iload_n 1, 1) := by decide +kernel
theorem dX8_hasFault_44 : decode cX8_hasFault 44 = .ok (.iaload, 1) := by decide +kernel
theorem dX8_hasFault_45 : decode cX8_hasFault 45 = .ok (.ifCond .ne 7, 3) := by decide +kernel
theorem dX8_hasFault_48 : decode cX8_hasFault 48 = .ok (.iconst 1, 1) := by decide +kernel
theorem dX8_hasFault_49 : decode cX8_hasFault 49 = .ok (.goto 4, 3) := by decide +kernel
theorem dX8_hasFault_52 : decode cX8_hasFault 52 = .ok (.iconst 0, 1) := by decide +kernel
theorem dX8_hasFault_53 : decode cX8_hasFault 53 = .ok (.ireturn, 1) := by decide +kernel
theorem dX8_hasFault_54 : decode cX8_hasFault 54 = .ok (.iload_n 2, 1) := by decide +kernel
theorem dX8_hasFault_55 : decode cX8_hasFault 55 = .ok (.iconst 4, 1) := by decide +kernel
theorem dX8_hasFault_56 : decode cX8_hasFault 56 = .ok (.if_icmp .ne 17, 3) := by decide +kernel
theorem dX8_hasFault_59 : decode cX8_hasFault 59 = .ok (.aload_n 0, 1) := by decide +kernel
theorem dX8_hasFault_60 : decode cX8_hasFault 60 = .ok (.iload_n 1, 1) := by decide +kernel
theorem dX8_hasFault_61 : decode cX8_hasFault 61 = .ok (.invokevirtual 157, 3) := by decide +kernel
theorem dX8_hasFault_64 : decode cX8_hasFault 64 = .ok (.ifCond .ne 7, 3) := by decide +kernel
theorem dX8_hasFault_67 : decode cX8_hasFault 67 = .ok (.iconst 1, 1) := by decide +kernel
theorem dX8_hasFault_68 : decode cX8_hasFault 68 = .ok (.goto 4, 3) := by decide +kernel
theorem dX8_hasFault_71 : decode cX8_hasFault 71 = .ok (.iconst 0, 1) := by decide +kernel
theorem dX8_hasFault_72 : decode cX8_hasFault 72 = .ok (.ireturn, 1) := by decide +kernel
theorem dX8_hasFault_73 : decode cX8_hasFault 73 = .ok (.iload_n 2, 1) := by decide +kernel
theorem dX8_hasFault_74 : decode cX8_hasFault 74 = .ok (.iconst 5, 1) := by decide +kernel
theorem dX8_hasFault_75 : decode cX8_hasFault 75 = .ok (.if_icmp .ne 27, 3) := by decide +kernel
theorem dX8_hasFault_78 : decode cX8_hasFault 78 = .ok (.aload_n 0, 1) := by decide +kernel
theorem dX8_hasFault_79 : decode cX8_hasFault 79 = .ok (.iload_n 1, 1) := by decide +kernel
theorem dX8_hasFault_80 : decode cX8_hasFault 80 = .ok (.bipush 6, 2) := by decide +kernel
theorem dX8_hasFault_82 : decode cX8_hasFault 82 = .ok (.invokevirtual 129, 3) := by decide +kernel
theorem dX8_hasFault_85 : decode cX8_hasFault 85 = .ok (.ifCond .eq 15, 3) := by decide +kernel
theorem dX8_hasFault_88 : decode cX8_hasFault 88 = .ok (.aload_n 0, 1) := by decide +kernel
theorem dX8_hasFault_89 : decode cX8_hasFault 89 = .ok (.iload_n 1, 1) := by decide +kernel
theorem dX8_hasFault_90 : decode cX8_hasFault 90 = .ok (.invokevirtual 160, 3) := by decide +kernel
theorem dX8_hasFault_93 : decode cX8_hasFault 93 = .ok (.ifCond .eq 7, 3) := by decide +kernel
theorem dX8_hasFault_96 : decode cX8_hasFault 96 = .ok (.iconst 1, 1) := by decide +kernel
theorem dX8_hasFault_97 : decode cX8_hasFault 97 = .ok (.goto 4, 3) := by decide +kernel
theorem dX8_hasFault_100 : decode cX8_hasFault 100 = .ok (.iconst 0, 1) := by decide +kernel
theorem dX8_hasFault_101 : decode cX8_hasFault 101 = .ok (.ireturn, 1) := by decide +kernel
theorem dX8_hasFault_102 : decode cX8_hasFault 102 = .ok (.iload_n 2, 1) := by decide +kernel
theorem dX8_hasFault_103 : decode cX8_hasFault 103 = .ok (.bipush 6, 2) := by decide +kernel
theorem dX8_hasFault_105 : decode cX8_hasFault 105 = .ok (.if_icmp .ne 28, 3) := by decide +kernel
theorem dX8_hasFault_108 : decode cX8_hasFault 108 = .ok (.aload_n 0, 1) := by decide +kernel
theorem dX8_hasFault_109 : decode cX8_hasFault 109 = .ok (.iload_n 1, 1) := by decide +kernel
theorem dX8_hasFault_110 : decode cX8_hasFault 110 = .ok (.bipush 10, 2) := by decide +kernel
theorem dX8_hasFault_112 : decode cX8_hasFault 112 = .ok (.invokevirtual 129, 3) := by decide +kernel
theorem dX8_hasFault_115 : decode cX8_hasFault 115 = .ok (.ifCond .eq 16, 3) := by decide +kernel
theorem dX8_hasFault_118 : decode cX8_hasFault 118 = .ok (.aload_n 0, 1) := by decide +kernel
theorem dX8_hasFault_119 : decode cX8_hasFault 119 = .ok (.getfield 20, 3) := by decide +kernel
theorem dX8_hasFault_122 : decode cX8_hasFault 122 = .ok (.iload_n 1, 1) := by decide +kernel
theorem dX8_hasFault_123 : decode cX8_hasFault 123 = .ok (.baload, 1) := by decide +kernel
theorem dX8_hasFault_124 : decode cX8_hasFault 124 = .ok (.ifCond .ne 7, 3) := by decide +kernel
theorem dX8_hasFault_127 : decode cX8_hasFault 127 = .ok (.iconst 1, 1) := by decide +kernel
theorem dX8_hasFault_128 : decode cX8_hasFault 128 = .ok (.goto 4, 3) := by decide +kernel
theorem dX8_hasFault_131 : decode cX8_hasFault 131 = .ok (.iconst 0, 1) := by decide +kernel
theorem dX8_hasFault_132 : decode cX8_hasFault 132 = .ok (.ireturn, 1) := by decide +kernel
theorem dX8_hasFault_133 : decode cX8_hasFault 133 = .ok (.iload_n 1, 1) := by decide +kernel
theorem dX8_hasFault_134 : decode cX8_hasFault 134 = .ok (.ifCond .le 30, 3) := by decide +kernel
theorem dX8_hasFault_137 : decode cX8_hasFault 137 = .ok (.aload_n 0, 1) := by decide +kernel
theorem dX8_hasFault_138 : decode cX8_hasFault 138 = .ok (.iload_n 1, 1) := by decide +kernel
theorem dX8_hasFault_139 : decode cX8_hasFault 139 = .ok (.bipush 10, 2) := by decide +kernel
theorem dX8_hasFault_141 : decode cX8_hasFault 141 = .ok (.invokevirtual 129, 3) := by decide +kernel
theorem dX8_hasFault_144 : decode cX8_hasFault 144 = .ok (.ifCond .ne 20, 3) := by decide +kernel
theorem dX8_hasFault_147 : decode cX8_hasFault 147 = .ok (.aload_n 0, 1) := by decide +kernel
theorem dX8_hasFault_148 : decode cX8_hasFault 148 = .ok (.iload_n 1, 1) := by decide +kernel
theorem dX8_hasFault_149 : decode cX8_hasFault 149 = .ok (.iconst 0, 1) := by decide +kernel
theorem dX8_hasFault_150 : decode cX8_hasFault 150 = .ok (.invokevirtual 125, 3) := by decide +kernel
theorem dX8_hasFault_153 : decode cX8_hasFault 153 = .ok (.aload_n 0, 1) := by decide +kernel
theorem dX8_hasFault_154 : decode cX8_hasFault 154 = .ok (.getfield 89, 3) := by decide +kernel
theorem dX8_hasFault_157 : decode cX8_hasFault 157 = .ok (.if_icmp .ne 7, 3) := by decide +kernel
theorem dX8_hasFault_160 : decode cX8_hasFault 160 = .ok (.iconst 1, 1) := by decide +kernel
theorem dX8_hasFault_161 : decode cX8_hasFault 161 = .ok (.goto 4, 3) := by decide +kernel
theorem dX8_hasFault_164 : decode cX8_hasFault 164 = .ok (.iconst 0, 1) := by decide +kernel
theorem dX8_hasFault_165 : decode cX8_hasFault 165 = .ok (.ireturn, 1) := by decide +kernel
theorem dX8_addJumps_0 : decode cX8_addJumps 0 = .ok (.iconst 0, 1) := by decide +kernel
theorem dX8_addJumps_1 : decode cX8_addJumps 1 = .ok (.istore_n 1, 1) := by decide +kernel
theorem dX8_addJumps_2 : decode cX8_addJumps 2 = .ok (.iconst 0, 1) := by decide +kernel
theorem dX8_addJumps_3 : decode cX8_addJumps 3 = .ok (.istore_n 2, 1) := by decide +kernel
theorem dX8_addJumps_4 : decode cX8_addJumps 4 = .ok (.iload_n 2, 1) := by decide +kernel
theorem dX8_addJumps_5 : decode cX8_addJumps 5 = .ok (.aload_n 0, 1) := by decide +kernel
theorem dX8_addJumps_6 : decode cX8_addJumps 6 = .ok (.getfield 132, 3) := by decide +kernel
theorem dX8_addJumps_9 : decode cX8_addJumps 9 = .ok (.if_icmp .ge 42, 3) := by decide +kernel
theorem dX8_addJumps_12 : decode cX8_addJumps 12 = .ok (.aload_n 0, 1) := by decide +kernel
theorem dX8_addJumps_13 : decode cX8_addJumps 13 = .ok (.getfield 17, 3) := by decide +kernel
theorem dX8_addJumps_16 : decode cX8_addJumps 16 = .ok (.aload_n 0, 1) := by decide +kernel
theorem dX8_addJumps_17 : decode cX8_addJumps 17 = .ok (.getfield 60, 3) := by decide +kernel
theorem dX8_addJumps_20 : decode cX8_addJumps 20 = .ok (.iload_n 2, 1) := by decide +kernel
theorem dX8_addJumps_21 : decode cX8_addJumps 21 = .ok (.iaload, 1) := by decide +kernel
theorem dX8_addJumps_22 : decode cX8_addJumps 22 = .ok (.iaload, 1) := by decide +kernel
theorem dX8_addJumps_23 : decode cX8_addJumps 23 = .ok (.istore_n 3, 1) := by decide +kernel
theorem dX8_addJumps_24 : decode cX8_addJumps 24 = .ok (.iload_n 3, 1) := by decide +kernel
theorem dX8_addJumps_25 : decode cX8_addJumps 25 = .ok (.iload_n 1, 1) := by decide +kernel
theorem dX8_addJumps_26 : decode cX8_addJumps 26 = .ok (.iconst 1, 1) := by decide +kernel
theorem dX8_addJumps_27 : decode cX8_addJumps 27 = .ok (.iadd, 1) := by decide +kernel
theorem dX8_addJumps_28 : decode cX8_addJumps 28 = .ok (.if_icmp .le 15, 3) := by decide +kernel
theorem dX8_addJumps_31 : decode cX8_addJumps 31 = .ok (.aload_n 0, 1) := by decide +kernel
theorem dX8_addJumps_32 : decode cX8_addJumps 32 = .ok (.iconst 3, 1) := by decide +kernel
theorem dX8_addJumps_33 : decode cX8_addJumps 33 = .ok (.aload_n 0, 1) := by decide +kernel
theorem dX8_addJumps_34 : decode cX8_addJumps 34 = .ok (.getfield 60, 3) := by decide +kernel
theorem dX8_addJumps_37 : decode cX8_addJumps 37 = .ok (.iload_n 2, 1) := by decide +kernel
theorem dX8_addJumps_38 : decode cX8_addJumps 38 = .ok (.iaload, 1) := by decide +kernel
theorem dX8_addJumps_39 : decode cX8_addJumps 39 = .ok (.iload_n 3, 1) := by decide +kernel
theorem dX8_addJumps_40 : decode cX8_addJumps 40 = .ok (.invokevirtual 163, 3) := by decide +kernel
theorem dX8_addJumps_43 : decode cX8_addJumps 43 = .ok (.iload_n 3, 1) := by decide +kernel
theorem dX8_addJumps_44 : decode cX8_addJumps 44 = .ok (.istore_n 1, 1) := by decide +kernel
theorem dX8_addJumps_45 : decode cX8_addJumps 45 = .ok (.iinc 2 1, 3) := by decide +kernel
theorem dX8_addJumps_48 : decode cX8_addJumps 48 = .ok (.goto (-44), 3) := by decide +kernel
theorem dX8_addJumps_51 : decode cX8_addJumps 51 = .ok (.return_, 1) := by decide +kernel
theorem dX8_addOrder_0 : decode cX8_addOrder 0 = .ok (.iconst 0, 1) := by decide +kernel
theorem dX8_addOrder_1 : decode cX8_addOrder 1 = .ok (.istore_n 1, 1) := by decide +kernel
theorem dX8_addOrder_2 : decode cX8_addOrder 2 = .ok (.iload_n 1, 1) := by decide +kernel
theorem dX8_addOrder_3 : decode cX8_addOrder 3 = .ok (.aload_n 0, 1) := by decide +kernel
theorem dX8_addOrder_4 : decode cX8_addOrder 4 = .ok (.getfield 118, 3) := by decide +kernel
theorem dX8_addOrder_7 : decode cX8_addOrder 7 = .ok (.if_icmp .ge 155, 3) := by decide +kernel
theorem dX8_addOrder_10 : decode cX8_addOrder 10 = .ok (.aload_n 0, 1) := by decide +kernel
theorem dX8_addOrder_11 : decode cX8_addOrder 11 = .ok (.getfield 48, 3) := by decide +kernel
theorem dX8_addOrder_14 : decode cX8_addOrder 14 = .ok (.iload_n 1, 1) := by decide +kernel
theorem dX8_addOrder_15 : decode cX8_addOrder 15 = .ok (.iaload, 1) := by decide +kernel
theorem dX8_addOrder_16 : decode cX8_addOrder 16 = .ok (.sipush 1000, 3) := by decide +kernel
theorem dX8_addOrder_19 : decode cX8_addOrder 19 = .ok (.isub, 1) := by decide +kernel
theorem dX8_addOrder_20 : decode cX8_addOrder 20 = .ok (.istore_n 2, 1) := by decide +kernel
theorem dX8_addOrder_21 : decode cX8_addOrder 21 = .ok (.iload_n 2, 1) := by decide +kernel
theorem dX8_addOrder_22 : decode cX8_addOrder 22 = .ok (.ifCond .lt 134, 3) := by decide +kernel
theorem dX8_addOrder_25 : decode cX8_addOrder 25 = .ok (.aload_n 0, 1) := by decide +kernel
theorem dX8_addOrder_26 : decode cX8_addOrder 26 = .ok (.iload_n 2, 1) := by decide +kernel
theorem dX8_addOrder_27 : decode cX8_addOrder 27 = .ok (.invokevirtual 112, 3) := by decide +kernel
theorem dX8_addOrder_30 : decode cX8_addOrder 30 = .ok (.ifCond .le 126, 3) := by decide +kernel
theorem dX8_addOrder_33 : decode cX8_addOrder 33 = .ok (.iconst 0, 1) := by decide +kernel
theorem dX8_addOrder_34 : decode cX8_addOrder 34 = .ok (.istore_n 3, 1) := by decide +kernel
theorem dX8_addOrder_35 : decode cX8_addOrder 35 = .ok (.iconst 0, 1) := by decide +kernel
theorem dX8_addOrder_36 : decode cX8_addOrder 36 = .ok (.istore 4, 2) := by decide +kernel
theorem dX8_addOrder_38 : decode cX8_addOrder 38 = .ok (.iload 4, 2) := by decide +kernel
theorem dX8_addOrder_40 : decode cX8_addOrder 40 = .ok (.iload_n 1, 1) := by decide +kernel
theorem dX8_addOrder_41 : decode cX8_addOrder 41 = .ok (.if_icmp .ge 93, 3) := by decide +kernel
theorem dX8_addOrder_44 : decode cX8_addOrder 44 = .ok (.aload_n 0, 1) := by decide +kernel
theorem dX8_addOrder_45 : decode cX8_addOrder 45 = .ok (.getfield 48, 3) := by decide +kernel
theorem dX8_addOrder_48 : decode cX8_addOrder 48 = .ok (.iload 4, 2) := by decide +kernel
theorem dX8_addOrder_50 : decode cX8_addOrder 50 = .ok (.iaload, 1) := by decide +kernel
theorem dX8_addOrder_51 : decode cX8_addOrder 51 = .ok (.sipush 1000, 3) := by decide +kernel
theorem dX8_addOrder_54 : decode cX8_addOrder 54 = .ok (.if_icmp .lt 46, 3) := by decide +kernel
theorem dX8_addOrder_57 : decode cX8_addOrder 57 = .ok (.aload_n 0, 1) := by decide +kernel
theorem dX8_addOrder_58 : decode cX8_addOrder 58 = .ok (.getfield 48, 3) := by decide +kernel
theorem dX8_addOrder_61 : decode cX8_addOrder 61 = .ok (.iload 4, 2) := by decide +kernel
theorem dX8_addOrder_63 : decode cX8_addOrder 63 = .ok (.iaload, 1) := by decide +kernel
theorem dX8_addOrder_64 : decode cX8_addOrder 64 = .ok (.sipush 1000, 3) := by decide +kernel
theorem dX8_addOrder_67 : decode cX8_addOrder 67 = .ok (.isub, 1) := by decide +kernel
theorem dX8_addOrder_68 : decode cX8_addOrder 68 = .ok (.bipush 20, 2) := by decide +kernel
theorem dX8_addOrder_70 : decode cX8_addOrder 70 = .ok (.idiv, 1) := by decide +kernel
theorem dX8_addOrder_71 : decode cX8_addOrder 71 = .ok (.iload_n 2, 1) := by decide +kernel
theorem dX8_addOrder_72 : decode cX8_addOrder 72 = .ok (.bipush 20, 2) := by decide +kernel
theorem dX8_addOrder_74 : decode cX8_addOrder 74 = .ok (.idiv, 1) := by decide +kernel
theorem dX8_addOrder_75 : decode cX8_addOrder 75 = .ok (.if_icmp .ne 25, 3) := by decide +kernel
theorem dX8_addOrder_78 : decode cX8_addOrder 78 = .ok (.aload_n 0, 1) := by decide +kernel
theorem dX8_addOrder_79 : decode cX8_addOrder 79 = .ok (.aload_n 0, 1) := by decide +kernel
theorem dX8_addOrder_80 : decode cX8_addOrder 80 = .ok (.getfield 48, 3) := by decide +kernel
theorem dX8_addOrder_83 : decode cX8_addOrder 83 = .ok (.iload 4, 2) := by decide +kernel
theorem dX8_addOrder_85 : decode cX8_addOrder 85 = .ok (.iaload, 1) := by decide +kernel
theorem dX8_addOrder_86 : decode cX8_addOrder 86 = .ok (.sipush 1000, 3) := by decide +kernel
theorem dX8_addOrder_89 : decode cX8_addOrder 89 = .ok (.isub, 1) := by decide +kernel
theorem dX8_addOrder_90 : decode cX8_addOrder 90 = .ok (.invokevirtual 112, 3) := by decide +kernel
theorem dX8_addOrder_93 : decode cX8_addOrder 93 = .ok (.ifCond .le 7, 3) := by decide +kernel
theorem dX8_addOrder_96 : decode cX8_addOrder 96 = .ok (.iconst 1, 1) := by decide +kernel
theorem dX8_addOrder_97 : decode cX8_addOrder 97 = .ok (.goto 4, 3) := by decide +kernel
theorem dX8_addOrder_100 : decode cX8_addOrder 100 = .ok (.iconst 0, 1) := by decide +kernel
theorem dX8_addOrder_101 : decode cX8_addOrder 101 = .ok (.istore 5, 2) := by decide +kernel
theorem dX8_addOrder_103 : decode cX8_addOrder 103 = .ok (.iload 5, 2) := by decide +kernel
theorem dX8_addOrder_105 : decode cX8_addOrder 105 = .ok (.ifCond .eq 21, 3) := by decide +kernel
theorem dX8_addOrder_108 : decode cX8_addOrder 108 = .ok (.aload_n 0, 1) := by decide +kernel
theorem dX8_addOrder_109 : decode cX8_addOrder 109 = .ok (.aload_n 0, 1) := by decide +kernel
theorem dX8_addOrder_110 : decode cX8_addOrder 110 = .ok (.getfield 48, 3) := by decide +kernel
theorem dX8_addOrder_113 : decode cX8_addOrder 113 = .ok (.iload 4, 2) := by decide +kernel
theorem dX8_addOrder_115 : decode cX8_addOrder 115 = .ok (.iaload, 1) := by decide +kernel
theorem dX8_addOrder_116 : decode cX8_addOrder 116 = .ok (.sipush 1000, 3) := by decide +kernel
theorem dX8_addOrder_119 : decode cX8_addOrder 119 = .ok (.isub, 1) := by decide +kernel
theorem dX8_addOrder_120 : decode cX8_addOrder 120 = .ok (.invokevirtual 112, 3) := by decide +kernel
theorem dX8_addOrder_123 : decode cX8_addOrder 123 = .ok (.goto 4, 3) := by decide +kernel
theorem dX8_addOrder_126 : decode cX8_addOrder 126 = .ok (.iload_n 3, 1) := by decide +kernel
theorem dX8_addOrder_127 : decode cX8_addOrder 127 = .ok (.istore_n 3, 1) := by decide +kernel
theorem dX8_addOrder_128 : decode cX8_addOrder 128 = .ok (.iinc 4 1, 3) := by decide +kernel
theorem dX8_addOrder_131 : decode cX8_addOrder 131 = .ok (.goto (-93), 3) := by decide +kernel
theorem dX8_addOrder_134 : decode cX8_addOrder 134 = .ok (.aload_n 0, 1) := by decide +kernel
theorem dX8_addOrder_135 : decode cX8_addOrder 135 = .ok (.iload_n 2, 1) := by decide +kernel
theorem dX8_addOrder_136 : decode cX8_addOrder 136 = .ok (.invokevirtual 112, 3) := by decide +kernel
theorem dX8_addOrder_139 : decode cX8_addOrder 139 = .ok (.iload_n 3, 1) := by decide +kernel
theorem dX8_addOrder_140 : decode cX8_addOrder 140 = .ok (.if_icmp .ge 16, 3) := by decide +kernel
theorem dX8_addOrder_143 : decode cX8_addOrder 143 = .ok (.aload_n 0, 1) := by decide +kernel
theorem dX8_addOrder_144 : decode cX8_addOrder 144 = .ok (.bipush 10, 2) := by decide +kernel
theorem dX8_addOrder_146 : decode cX8_addOrder 146 = .ok (.aload_n 0, 1) := by decide +kernel
theorem dX8_addOrder_147 : decode cX8_addOrder 147 = .ok (.getfield 51, 3) := by decide +kernel
theorem dX8_addOrder_150 : decode cX8_addOrder 150 = .ok (.iload_n 1, 1) := by decide +kernel
theorem dX8_addOrder_151 : decode cX8_addOrder 151 = .ok (.iaload, 1) := by decide +kernel
theorem dX8_addOrder_152 : decode cX8_addOrder 152 = .ok (.iload_n 2, 1) := by decide +kernel
theorem dX8_addOrder_153 : decode cX8_addOrder 153 = .ok (.invokevirtual 163, 3) := by decide +kernel
theorem dX8_addOrder_156 : decode cX8_addOrder 156 = .ok (.iinc 1 1, 3) := by decide +kernel
theorem dX8_addOrder_159 : decode cX8_addOrder 159 = .ok (.goto (-157), 3) := by decide +kernel
theorem dX8_addOrder_162 : decode cX8_addOrder 162 = .ok (.return_, 1) := by decide +kernel
theorem dX8_check_0 : decode cX8_check 0 = .ok (.aload_n 0, 1) := by decide +kernel
theorem dX8_check_1 : decode cX8_check 1 = .ok (.iconst 0, 1) := by decide +kernel
theorem dX8_check_2 : decode cX8_check 2 = .ok (.putfield 78, 3) := by decide +kernel
theorem dX8_check_5 : decode cX8_check 5 = .ok (.aload_n 0, 1) := by decide +kernel
theorem dX8_check_6 : decode cX8_check 6 = .ok (.invokevirtual 135, 3) := by decide +kernel
theorem dX8_check_9 : decode cX8_check 9 = .ok (.aload_n 0, 1) := by decide +kernel
theorem dX8_check_10 : decode cX8_check 10 = .ok (.iconst 0, 1) := by decide +kernel
theorem dX8_check_11 : decode cX8_check 11 = .ok (.putfield 141, 3) := by decide +kernel
theorem dX8_check_14 : decode cX8_check 14 = .ok (.iconst 1, 1) := by decide +kernel
theorem dX8_check_15 : decode cX8_check 15 = .ok (.istore_n 1, 1) := by decide +kernel
theorem dX8_check_16 : decode cX8_check 16 = .ok (.iload_n 1, 1) := by decide +kernel
theorem dX8_check_17 : decode cX8_check 17 = .ok (.bipush 8, 2) := by decide +kernel
theorem dX8_check_19 : decode cX8_check 19 = .ok (.if_icmp .ge 53, 3) := by decide +kernel
theorem dX8_check_22 : decode cX8_check 22 = .ok (.iload_n 1, 1) := by decide +kernel
theorem dX8_check_23 : decode cX8_check 23 = .ok (.iconst 3, 1) := by decide +kernel
theorem dX8_check_24 : decode cX8_check 24 = .ok (.if_icmp .ne 10, 3) := by decide +kernel
theorem dX8_check_27 : decode cX8_check 27 = .ok (.aload_n 0, 1) := by decide +kernel
theorem dX8_check_28 : decode cX8_check 28 = .ok (.invokevirtual 167, 3) := by decide +kernel
theorem dX8_check_31 : decode cX8_check 31 = .ok (.goto 35, 3) := by decide +kernel
theorem dX8_check_34 : decode cX8_check 34 = .ok (.iconst 0, 1) := by decide +kernel
theorem dX8_check_35 : decode cX8_check 35 = .ok (.istore_n 2, 1) := by decide +kernel
theorem dX8_check_36 : decode cX8_check 36 = .ok (.iload_n 2, 1) := by decide +kernel
theorem dX8_check_37 : decode cX8_check 37 = .ok (.aload_n 0, 1) := by decide +kernel
theorem dX8_check_38 : decode cX8_check 38 = .ok (.getfield 7, 3) := by decide +kernel
theorem dX8_check_41 : decode cX8_check 41 = .ok (.if_icmp .ge 25, 3) := by decide +kernel
theorem dX8_check_44 : decode cX8_check 44 = .ok (.aload_n 0, 1) := by decide +kernel
theorem dX8_check_45 : decode cX8_check 45 = .ok (.iload_n 2, 1) := by decide +kernel
theorem dX8_check_46 : decode cX8_check 46 = .ok (.iload_n 1, 1) := by decide +kernel
theorem dX8_check_47 : decode cX8_check 47 = .ok (.invokevirtual 170, 3) := by decide +kernel
theorem dX8_check_50 : decode cX8_check 50 = .ok (.ifCond .eq 10, 3) := by decide +kernel
theorem dX8_check_53 : decode cX8_check 53 = .ok (.aload_n 0, 1) := by decide +kernel
theorem dX8_check_54 : decode cX8_check 54 = .ok (.iload_n 1, 1) := by decide +kernel
theorem dX8_check_55 : decode cX8_check 55 = .ok (.iload_n 2, 1) := by decide +kernel
theorem dX8_check_56 : decode cX8_check 56 = .ok (.iconst 0, 1) := by decide +kernel
theorem dX8_check_57 : decode cX8_check 57 = .ok (.invokevirtual 163, 3) := by decide +kernel
theorem dX8_check_60 : decode cX8_check 60 = .ok (.iinc 2 1, 3) := by decide +kernel
theorem dX8_check_63 : decode cX8_check 63 = .ok (.goto (-27), 3) := by decide +kernel
theorem dX8_check_66 : decode cX8_check 66 = .ok (.iinc 1 1, 3) := by decide +kernel
theorem dX8_check_69 : decode cX8_check 69 = .ok (.goto (-53), 3) := by decide +kernel
theorem dX8_check_72 : decode cX8_check 72 = .ok (.iconst 0, 1) := by decide +kernel
theorem dX8_check_73 : decode cX8_check 73 = .ok (.istore_n 1, 1) := by decide +kernel
theorem dX8_check_74 : decode cX8_check 74 = .ok (.iload_n 1, 1) := by decide +kernel
theorem dX8_check_75 : decode cX8_check 75 = .ok (.aload_n 0, 1) := by decide +kernel
theorem dX8_check_76 : decode cX8_check 76 = .ok (.getfield 103, 3) := by decide +kernel
theorem dX8_check_79 : decode cX8_check 79 = .ok (.if_icmp .ge 27, 3) := by decide +kernel
theorem dX8_check_82 : decode cX8_check 82 = .ok (.aload_n 0, 1) := by decide +kernel
theorem dX8_check_83 : decode cX8_check 83 = .ok (.bipush 8, 2) := by decide +kernel
theorem dX8_check_85 : decode cX8_check 85 = .ok (.aload_n 0, 1) := by decide +kernel
theorem dX8_check_86 : decode cX8_check 86 = .ok (.getfield 42, 3) := by decide +kernel
theorem dX8_check_89 : decode cX8_check 89 = .ok (.iload_n 1, 1) := by decide +kernel
theorem dX8_check_90 : decode cX8_check 90 = .ok (.iaload, 1) := by decide +kernel
theorem dX8_check_91 : decode cX8_check 91 = .ok (.aload_n 0, 1) := by decide +kernel
theorem dX8_check_92 : decode cX8_check 92 = .ok (.getfield 39, 3) := by decide +kernel
theorem dX8_check_95 : decode cX8_check 95 = .ok (.iload_n 1, 1) := by decide +kernel
theorem dX8_check_96 : decode cX8_check 96 = .ok (.iaload, 1) := by decide +kernel
theorem dX8_check_97 : decode cX8_check 97 = .ok (.invokevirtual 163, 3) := by decide +kernel
theorem dX8_check_100 : decode cX8_check 100 = .ok (.iinc 1 1, 3) := by decide +kernel
theorem dX8_check_103 : decode cX8_check 103 = .ok (.goto (-29), 3) := by decide +kernel
theorem dX8_check_106 : decode cX8_check 106 = .ok (.iconst 0, 1) := by decide +kernel
theorem dX8_check_107 : decode cX8_check 107 = .ok (.istore_n 1, 1) := by decide +kernel
theorem dX8_check_108 : decode cX8_check 108 = .ok (.iload_n 1, 1) := by decide +kernel
theorem dX8_check_109 : decode cX8_check 109 = .ok (.aload_n 0, 1) := by decide +kernel
theorem dX8_check_110 : decode cX8_check 110 = .ok (.invokevirtual 173, 3) := by decide +kernel
theorem dX8_check_113 : decode cX8_check 113 = .ok (.if_icmp .ge 21, 3) := by decide +kernel
theorem dX8_check_116 : decode cX8_check 116 = .ok (.aload_n 0, 1) := by decide +kernel
theorem dX8_check_117 : decode cX8_check 117 = .ok (.bipush 9, 2) := by decide +kernel
theorem dX8_check_119 : decode cX8_check 119 = .ok (.iconst (-1), 1) := by decide +kernel
theorem dX8_check_120 : decode cX8_check 120 = .ok (.aload_n 0, 1) := by decide +kernel
theorem dX8_check_121 : decode cX8_check 121 = .ok (.iload_n 1, 1) := by decide +kernel
theorem dX8_check_122 : decode cX8_check 122 = .ok (.invokevirtual 177, 3) := by decide +kernel
theorem dX8_check_125 : decode cX8_check 125 = .ok (.invokevirtual 163, 3) := by decide +kernel
theorem dX8_check_128 : decode cX8_check 128 = .ok (.iinc 1 1, 3) := by decide +kernel
theorem dX8_check_131 : decode cX8_check 131 = .ok (.goto (-23), 3) := by decide +kernel
theorem dX8_check_134 : decode cX8_check 134 = .ok (.aload_n 0, 1) := by decide +kernel
theorem dX8_check_135 : decode cX8_check 135 = .ok (.invokevirtual 180, 3) := by decide +kernel
theorem dX8_check_138 : decode cX8_check 138 = .ok (.aload_n 0, 1) := by decide +kernel
theorem dX8_check_139 : decode cX8_check 139 = .ok (.getfield 141, 3) := by decide +kernel
theorem dX8_check_142 : decode cX8_check 142 = .ok (.ireturn, 1) := by decide +kernel
theorem dX8_fault_0 : decode cX8_fault 0 = .ok (.aload_n 0, 1) := by decide +kernel
theorem dX8_fault_1 : decode cX8_fault 1 = .ok (.iload_n 1, 1) := by decide +kernel
theorem dX8_fault_2 : decode cX8_fault 2 = .ok (.iconst 0, 1) := by decide +kernel
theorem dX8_fault_3 : decode cX8_fault 3 = .ok (.aload_n 0, 1) := by decide +kernel
theorem dX8_fault_4 : decode cX8_fault 4 = .ok (.getfield 141, 3) := by decide +kernel
theorem dX8_fault_7 : decode cX8_fault 7 = .ok (.iconst 1, 1) := by decide +kernel
theorem dX8_fault_8 : decode cX8_fault 8 = .ok (.isub, 1) := by decide +kernel
theorem dX8_fault_9 : decode cX8_fault 9 = .ok (.invokestatic 85, 3) := by decide +kernel
theorem dX8_fault_12 : decode cX8_fault 12 = .ok (.ifCond .eq 16, 3) := by decide +kernel
theorem dX8_fault_15 : decode cX8_fault 15 = .ok (.iload_n 2, 1) := by decide +kernel
theorem dX8_fault_16 : decode cX8_fault 16 = .ok (.iconst 0, 1) := by decide +kernel
theorem dX8_fault_17 : decode cX8_fault 17 = .ok (.iconst 2, 1) := by decide +kernel
theorem dX8_fault_18 : decode cX8_fault 18 = .ok (.invokestatic 85, 3) := by decide +kernel
theorem dX8_fault_21 : decode cX8_fault 21 = .ok (.ifCond .eq 7, 3) := by decide +kernel
theorem dX8_fault_24 : decode cX8_fault 24 = .ok (.iconst 0, 1) := by decide +kernel
theorem dX8_fault_25 : decode cX8_fault 25 = .ok (.goto 4, 3) := by decide +kernel
theorem dX8_fault_28 : decode cX8_fault 28 = .ok (.iconst 1, 1) := by decide +kernel
theorem dX8_fault_29 : decode cX8_fault 29 = .ok (.putfield 78, 3) := by decide +kernel
theorem dX8_fault_32 : decode cX8_fault 32 = .ok (.aload_n 0, 1) := by decide +kernel
theorem dX8_fault_33 : decode cX8_fault 33 = .ok (.getfield 78, 3) := by decide +kernel
theorem dX8_fault_36 : decode cX8_fault 36 = .ok (.ifCond .le 5, 3) := by decide +kernel
theorem dX8_fault_39 : decode cX8_fault 39 = .ok (.iconst 0, 1) := by decide +kernel
theorem dX8_fault_40 : decode cX8_fault 40 = .ok (.ireturn, 1) := by decide +kernel
theorem dX8_fault_41 : decode cX8_fault 41 = .ok (.iload_n 2, 1) := by decide +kernel
theorem dX8_fault_42 : decode cX8_fault 42 = .ok (.ifCond .ne 12, 3) := by decide +kernel
theorem dX8_fault_45 : decode cX8_fault 45 = .ok (.aload_n 0, 1) := by decide +kernel
theorem dX8_fault_46 : decode cX8_fault 46 = .ok (.getfield 66, 3) := by decide +kernel
theorem dX8_fault_49 : decode cX8_fault 49 = .ok (.iload_n 1, 1) := by decide +kernel
theorem dX8_fault_50 : decode cX8_fault 50 = .ok (.iaload, 1) := by decide +kernel
theorem dX8_fault_51 : decode cX8_fault 51 = .ok (.goto 23, 3) := by decide +kernel
theorem dX8_fault_54 : decode cX8_fault 54 = .ok (.iload_n 2, 1) := by decide +kernel
theorem dX8_fault_55 : decode cX8_fault 55 = .ok (.iconst 1, 1) := by decide +kernel
theorem dX8_fault_56 : decode cX8_fault 56 = .ok (.if_icmp .ne 12, 3) := by decide +kernel
theorem dX8_fault_59 : decode cX8_fault 59 = .ok (.aload_n 0, 1) := by decide +kernel
theorem dX8_fault_60 : decode cX8_fault 60 = .ok (.getfield 69, 3) := by decide +kernel
theorem dX8_fault_63 : decode cX8_fault 63 = .ok (.iload_n 1, 1) := by decide +kernel
theorem dX8_fault_64 : decode cX8_fault 64 = .ok (.iaload, 1) := by decide +kernel
theorem dX8_fault_65 : decode cX8_fault 65 = .ok (.goto 9, 3) := by decide +kernel
theorem dX8_fault_68 : decode cX8_fault 68 = .ok (.aload_n 0, 1) := by decide +kernel
theorem dX8_fault_69 : decode cX8_fault 69 = .ok (.getfield 72, 3) := by decide +kernel
theorem dX8_fault_72 : decode cX8_fault 72 = .ok (.iload_n 1, 1) := by decide +kernel
theorem dX8_fault_73 : decode cX8_fault 73 = .ok (.iaload, 1) := by decide +kernel
theorem dX8_fault_74 : decode cX8_fault 74 = .ok (.ireturn, 1) := by decide +kernel
theorem dX8_heading_0 : decode cX8_heading 0 = .ok (.aload_n 0, 1) := by decide +kernel
theorem dX8_heading_1 : decode cX8_heading 1 = .ok (.aload_n 0, 1) := by decide +kernel
theorem dX8_heading_2 : decode cX8_heading 2 = .ok (.iload_n 1, 1) := by decide +kernel
theorem dX8_heading_3 : decode cX8_heading 3 = .ok (.invokevirtual 81, 3) := by decide +kernel
theorem dX8_heading_6 : decode cX8_heading 6 = .ok (.ifCond .ne 7, 3) := by decide +kernel
theorem dX8_heading_9 : decode cX8_heading 9 = .ok (.iconst 1, 1) := by decide +kernel
theorem dX8_heading_10 : decode cX8_heading 10 = .ok (.goto 18, 3) := by decide +kernel
theorem dX8_heading_13 : decode cX8_heading 13 = .ok (.iload_n 2, 1) := by decide +kernel
theorem dX8_heading_14 : decode cX8_heading 14 = .ok (.iconst 1, 1) := by decide +kernel
theorem dX8_heading_15 : decode cX8_heading 15 = .ok (.bipush 6, 2) := by decide +kernel
theorem dX8_heading_17 : decode cX8_heading 17 = .ok (.invokestatic 85, 3) := by decide +kernel
theorem dX8_heading_20 : decode cX8_heading 20 = .ok (.ifCond .ne 7, 3) := by decide +kernel
theorem dX8_heading_23 : decode cX8_heading 23 = .ok (.iconst 2, 1) := by decide +kernel
theorem dX8_heading_24 : decode cX8_heading 24 = .ok (.goto 4, 3) := by decide +kernel
theorem dX8_heading_27 : decode cX8_heading 27 = .ok (.iconst 0, 1) := by decide +kernel
theorem dX8_heading_28 : decode cX8_heading 28 = .ok (.putfield 78, 3) := by decide +kernel
theorem dX8_heading_31 : decode cX8_heading 31 = .ok (.aload_n 0, 1) := by decide +kernel
theorem dX8_heading_32 : decode cX8_heading 32 = .ok (.getfield 78, 3) := by decide +kernel
theorem dX8_heading_35 : decode cX8_heading 35 = .ok (.ifCond .le 5, 3) := by decide +kernel
theorem dX8_heading_38 : decode cX8_heading 38 = .ok (.iconst 0, 1) := by decide +kernel
theorem dX8_heading_39 : decode cX8_heading 39 = .ok (.ireturn, 1) := by decide +kernel
theorem dX8_heading_40 : decode cX8_heading 40 = .ok (.aload_n 0, 1) := by decide +kernel
theorem dX8_heading_41 : decode cX8_heading 41 = .ok (.getfield 17, 3) := by decide +kernel
theorem dX8_heading_44 : decode cX8_heading 44 = .ok (.iload_n 1, 1) := by decide +kernel
theorem dX8_heading_45 : decode cX8_heading 45 = .ok (.iaload, 1) := by decide +kernel
theorem dX8_heading_46 : decode cX8_heading 46 = .ok (.istore_n 3, 1) := by decide +kernel
theorem dX8_heading_47 : decode cX8_heading 47 = .ok (.aload_n 0, 1) := by decide +kernel
theorem dX8_heading_48 : decode cX8_heading 48 = .ok (.getfield 17, 3) := by decide +kernel
theorem dX8_heading_51 : decode cX8_heading 51 = .ok (.iload_n 1, 1) := by decide +kernel
theorem dX8_heading_52 : decode cX8_heading 52 = .ok (.iload_n 2, 1) := by decide +kernel
theorem dX8_heading_53 : decode cX8_heading 53 = .ok (.iastore, 1) := by decide +kernel
theorem dX8_heading_54 : decode cX8_heading 54 = .ok (.iload_n 3, 1) := by decide +kernel
theorem dX8_heading_55 : decode cX8_heading 55 = .ok (.ireturn, 1) := by decide +kernel
theorem dX8_words_0 : decode cX8_words 0 = .ok (.aload_n 0, 1) := by decide +kernel
theorem dX8_words_1 : decode cX8_words 1 = .ok (.aload_n 0, 1) := by decide +kernel
theorem dX8_words_2 : decode cX8_words 2 = .ok (.iload_n 1, 1) := by decide +kernel
theorem dX8_words_3 : decode cX8_words 3 = .ok (.invokevirtual 81, 3) := by decide +kernel
theorem dX8_words_6 : decode cX8_words 6 = .ok (.ifCond .eq 7, 3) := by decide +kernel
theorem dX8_words_9 : decode cX8_words 9 = .ok (.iconst 0, 1) := by decide +kernel
theorem dX8_words_10 : decode cX8_words 10 = .ok (.goto 4, 3) := by decide +kernel
theorem dX8_words_13 : decode cX8_words 13 = .ok (.iconst 1, 1) := by decide +kernel
theorem dX8_words_14 : decode cX8_words 14 = .ok (.putfield 78, 3) := by decide +kernel
theorem dX8_words_17 : decode cX8_words 17 = .ok (.aload_n 0, 1) := by decide +kernel
theorem dX8_words_18 : decode cX8_words 18 = .ok (.getfield 78, 3) := by decide +kernel
theorem dX8_words_21 : decode cX8_words 21 = .ok (.ifCond .le 5, 3) := by decide +kernel
theorem dX8_words_24 : decode cX8_words 24 = .ok (.iconst 0, 1) := by decide +kernel
theorem dX8_words_25 : decode cX8_words 25 = .ok (.ireturn, 1) := by decide +kernel
theorem dX8_words_26 : decode cX8_words 26 = .ok (.aload_n 0, 1) := by decide +kernel
theorem dX8_words_27 : decode cX8_words 27 = .ok (.getfield 20, 3) := by decide +kernel
theorem dX8_words_30 : decode cX8_words 30 = .ok (.iload_n 1, 1) := by decide +kernel
theorem dX8_words_31 : decode cX8_words 31 = .ok (.baload, 1) := by decide +kernel
theorem dX8_words_32 : decode cX8_words 32 = .ok (.ifCond .eq 7, 3) := by decide +kernel
theorem dX8_words_35 : decode cX8_words 35 = .ok (.iconst 1, 1) := by decide +kernel
theorem dX8_words_36 : decode cX8_words 36 = .ok (.goto 4, 3) := by decide +kernel
theorem dX8_words_39 : decode cX8_words 39 = .ok (.iconst 0, 1) := by decide +kernel
theorem dX8_words_40 : decode cX8_words 40 = .ok (.istore_n 3, 1) := by decide +kernel
theorem dX8_words_41 : decode cX8_words 41 = .ok (.aload_n 0, 1) := by decide +kernel
theorem dX8_words_42 : decode cX8_words 42 = .ok (.getfield 20, 3) := by decide +kernel
theorem dX8_words_45 : decode cX8_words 45 = .ok (.iload_n 1, 1) := by decide +kernel
theorem dX8_words_46 : decode cX8_words 46 = .ok (.iload_n 2, 1) := by decide +kernel
theorem dX8_words_47 : decode cX8_words 47 = .ok (.bastore, 1) := by decide +kernel
theorem dX8_words_48 : decode cX8_words 48 = .ok (.iload_n 3, 1) := by decide +kernel
theorem dX8_words_49 : decode cX8_words 49 = .ok (.ireturn, 1) := by decide +kernel
theorem dX8_span_0 : decode cX8_span 0 = .ok (.aload_n 0, 1) := by decide +kernel
theorem dX8_span_1 : decode cX8_span 1 = .ok (.aload_n 0, 1) := by decide +kernel
theorem dX8_span_2 : decode cX8_span 2 = .ok (.iload_n 1, 1) := by decide +kernel
theorem dX8_span_3 : decode cX8_span 3 = .ok (.invokevirtual 81, 3) := by decide +kernel
theorem dX8_span_6 : decode cX8_span 6 = .ok (.ifCond .ne 7, 3) := by decide +kernel
theorem dX8_span_9 : decode cX8_span 9 = .ok (.iconst 1, 1) := by decide +kernel
theorem dX8_span_10 : decode cX8_span 10 = .ok (.goto 28, 3) := by decide +kernel
theorem dX8_span_13 : decode cX8_span 13 = .ok (.iload_n 2, 1) := by decide +kernel
theorem dX8_span_14 : decode cX8_span 14 = .ok (.iconst 1, 1) := by decide +kernel
theorem dX8_span_15 : decode cX8_span 15 = .ok (.bipush 8, 2) := by decide +kernel
theorem dX8_span_17 : decode cX8_span 17 = .ok (.invokestatic 85, 3) := by decide +kernel
theorem dX8_span_20 : decode cX8_span 20 = .ok (.ifCond .eq 13, 3) := by decide +kernel
theorem dX8_span_23 : decode cX8_span 23 = .ok (.iload_n 3, 1) := by decide +kernel
theorem dX8_span_24 : decode cX8_span 24 = .ok (.iconst 1, 1) := by decide +kernel
theorem dX8_span_25 : decode cX8_span 25 = .ok (.bipush 8, 2) := by decide +kernel
theorem dX8_span_27 : decode cX8_span 27 = .ok (.invokestatic 85, 3) := by decide +kernel
theorem dX8_span_30 : decode cX8_span 30 = .ok (.ifCond .ne 7, 3) := by decide +kernel
theorem dX8_span_33 : decode cX8_span 33 = .ok (.iconst 2, 1) := by decide +kernel
theorem dX8_span_34 : decode cX8_span 34 = .ok (.goto 4, 3) := by decide +kernel
theorem dX8_span_37 : decode cX8_span 37 = .ok (.iconst 0, 1) := by decide +kernel
theorem dX8_span_38 : decode cX8_span 38 = .ok (.putfield 78, 3) := by decide +kernel
theorem dX8_span_41 : decode cX8_span 41 = .ok (.aload_n 0, 1) := by decide +kernel
theorem dX8_span_42 : decode cX8_span 42 = .ok (.getfield 78, 3) := by decide +kernel
theorem dX8_span_45 : decode cX8_span 45 = .ok (.ifCond .le 5, 3) := by decide +kernel
theorem dX8_span_48 : decode cX8_span 48 = .ok (.iconst 0, 1) := by decide +kernel
theorem dX8_span_49 : decode cX8_span 49 = .ok (.ireturn, 1) := by decide +kernel
theorem dX8_span_50 : decode cX8_span 50 = .ok (.bipush 10, 2) := by decide +kernel
theorem dX8_span_52 : decode cX8_span 52 = .ok (.aload_n 0, 1) := by decide +kernel
theorem dX8_span_53 : decode cX8_span 53 = .ok (.getfield 24, 3) := by decide +kernel
theorem dX8_span_56 : decode cX8_span 56 = .ok (.iload_n 1, 1) := by decide +kernel
theorem dX8_span_57 : decode cX8_span 57 = .ok (.iaload, 1) := by decide +kernel
theorem dX8_span_58 : decode cX8_span 58 = .ok (.imul, 1) := by decide +kernel
theorem dX8_span_59 : decode cX8_span 59 = .ok (.aload_n 0, 1) := by decide +kernel
theorem dX8_span_60 : decode cX8_span 60 = .ok (.getfield 27, 3) := by decide +kernel
theorem dX8_span_63 : decode cX8_span 63 = .ok (.iload_n 1, 1) := by decide +kernel
theorem dX8_span_64 : decode cX8_span 64 = .ok (.iaload, 1) := by decide +kernel
theorem dX8_span_65 : decode cX8_span 65 = .ok (.iadd, 1) := by decide +kernel
theorem dX8_span_66 : decode cX8_span 66 = .ok (.istore 4, 2) := by decide +kernel
theorem dX8_span_68 : decode cX8_span 68 = .ok (.aload_n 0, 1) := by decide +kernel
theorem dX8_span_69 : decode cX8_span 69 = .ok (.getfield 24, 3) := by decide +kernel
theorem dX8_span_72 : decode cX8_span 72 = .ok (.iload_n 1, 1) := by decide +kernel
theorem dX8_span_73 : decode cX8_span 73 = .ok (.iload_n 2, 1) := by decide +kernel
theorem dX8_span_74 : decode cX8_span 74 = .ok (.iastore, 1) := by decide +kernel
theorem dX8_span_75 : decode cX8_span 75 = .ok (.aload_n 0, 1) := by decide +kernel
theorem dX8_span_76 : decode cX8_span 76 = .ok (.getfield 27, 3) := by decide +kernel
theorem dX8_span_79 : decode cX8_span 79 = .ok (.iload_n 1, 1) := by decide +kernel
theorem dX8_span_80 : decode cX8_span 80 = .ok (.iload_n 3, 1) := by decide +kernel
theorem dX8_span_81 : decode cX8_span 81 = .ok (.iastore, 1) := by decide +kernel
theorem dX8_span_82 : decode cX8_span 82 = .ok (.iload 4, 2) := by decide +kernel
theorem dX8_span_84 : decode cX8_span 84 = .ok (.ireturn, 1) := by decide +kernel
theorem dX8_outline_0 : decode cX8_outline 0 = .ok (.aload_n 0, 1) := by decide +kernel
theorem dX8_outline_1 : decode cX8_outline 1 = .ok (.invokevirtual 135, 3) := by decide +kernel
theorem dX8_outline_4 : decode cX8_outline 4 = .ok (.aload_n 0, 1) := by decide +kernel
theorem dX8_outline_5 : decode cX8_outline 5 = .ok (.iconst 0, 1) := by decide +kernel
theorem dX8_outline_6 : decode cX8_outline 6 = .ok (.putfield 78, 3) := by decide +kernel
theorem dX8_outline_9 : decode cX8_outline 9 = .ok (.iload_n 1, 1) := by decide +kernel
theorem dX8_outline_10 : decode cX8_outline 10 = .ok (.iconst (-1), 1) := by decide +kernel
theorem dX8_outline_11 : decode cX8_outline 11 = .ok (.if_icmp .ne 8, 3) := by decide +kernel
theorem dX8_outline_14 : decode cX8_outline 14 = .ok (.aload_n 0, 1) := by decide +kernel
theorem dX8_outline_15 : decode cX8_outline 15 = .ok (.getfield 132, 3) := by decide +kernel
theorem dX8_outline_18 : decode cX8_outline 18 = .ok (.ireturn, 1) := by decide +kernel
theorem dX8_outline_19 : decode cX8_outline 19 = .ok (.aload_n 0, 1) := by decide +kernel
theorem dX8_outline_20 : decode cX8_outline 20 = .ok (.iload_n 1, 1) := by decide +kernel
theorem dX8_outline_21 : decode cX8_outline 21 = .ok (.iconst 0, 1) := by decide +kernel
theorem dX8_outline_22 : decode cX8_outline 22 = .ok (.aload_n 0, 1) := by decide +kernel
theorem dX8_outline_23 : decode cX8_outline 23 = .ok (.getfield 132, 3) := by decide +kernel
theorem dX8_outline_26 : decode cX8_outline 26 = .ok (.iconst 1, 1) := by decide +kernel
theorem dX8_outline_27 : decode cX8_outline 27 = .ok (.isub, 1) := by decide +kernel
theorem dX8_outline_28 : decode cX8_outline 28 = .ok (.invokestatic 85, 3) := by decide +kernel
theorem dX8_outline_31 : decode cX8_outline 31 = .ok (.ifCond .eq 16, 3) := by decide +kernel
theorem dX8_outline_34 : decode cX8_outline 34 = .ok (.iload_n 2, 1) := by decide +kernel
theorem dX8_outline_35 : decode cX8_outline 35 = .ok (.iconst 0, 1) := by decide +kernel
theorem dX8_outline_36 : decode cX8_outline 36 = .ok (.iconst 2, 1) := by decide +kernel
theorem dX8_outline_37 : decode cX8_outline 37 = .ok (.invokestatic 85, 3) := by decide +kernel
theorem dX8_outline_40 : decode cX8_outline 40 = .ok (.ifCond .eq 7, 3) := by decide +kernel
theorem dX8_outline_43 : decode cX8_outline 43 = .ok (.iconst 0, 1) := by decide +kernel
theorem dX8_outline_44 : decode cX8_outline 44 = .ok (.goto 4, 3) := by decide +kernel
theorem dX8_outline_47 : decode cX8_outline 47 = .ok (.iconst 1, 1) := by decide +kernel
theorem dX8_outline_48 : decode cX8_outline 48 = .ok (.putfield 78, 3) := by decide +kernel
theorem dX8_outline_51 : decode cX8_outline 51 = .ok (.aload_n 0, 1) := by decide +kernel
theorem dX8_outline_52 : decode cX8_outline 52 = .ok (.getfield 78, 3) := by decide +kernel
theorem dX8_outline_55 : decode cX8_outline 55 = .ok (.ifCond .le 5, 3) := by decide +kernel
theorem dX8_outline_58 : decode cX8_outline 58 = .ok (.iconst 0, 1) := by decide +kernel
theorem dX8_outline_59 : decode cX8_outline 59 = .ok (.ireturn, 1) := by decide +kernel
theorem dX8_outline_60 : decode cX8_outline 60 = .ok (.iload_n 2, 1) := by decide +kernel
theorem dX8_outline_61 : decode cX8_outline 61 = .ok (.ifCond .ne 12, 3) := by decide +kernel
theorem dX8_outline_64 : decode cX8_outline 64 = .ok (.aload_n 0, 1) := by decide +kernel
theorem dX8_outline_65 : decode cX8_outline 65 = .ok (.getfield 60, 3) := by decide +kernel
theorem dX8_outline_68 : decode cX8_outline 68 = .ok (.iload_n 1, 1) := by decide +kernel
theorem dX8_outline_69 : decode cX8_outline 69 = .ok (.iaload, 1) := by decide +kernel
theorem dX8_outline_70 : decode cX8_outline 70 = .ok (.goto 28, 3) := by decide +kernel
theorem dX8_outline_73 : decode cX8_outline 73 = .ok (.iload_n 2, 1) := by decide +kernel
theorem dX8_outline_74 : decode cX8_outline 74 = .ok (.iconst 1, 1) := by decide +kernel
theorem dX8_outline_75 : decode cX8_outline 75 = .ok (.if_icmp .ne 12, 3) := by decide +kernel
theorem dX8_outline_78 : decode cX8_outline 78 = .ok (.aload_n 0, 1) := by decide +kernel
theorem dX8_outline_79 : decode cX8_outline 79 = .ok (.getfield 63, 3) := by decide +kernel
theorem dX8_outline_82 : decode cX8_outline 82 = .ok (.iload_n 1, 1) := by decide +kernel
theorem dX8_outline_83 : decode cX8_outline 83 = .ok (.iaload, 1) := by decide +kernel
theorem dX8_outline_84 : decode cX8_outline 84 = .ok (.goto 14, 3) := by decide +kernel
theorem dX8_outline_87 : decode cX8_outline 87 = .ok (.aload_n 0, 1) := by decide +kernel
theorem dX8_outline_88 : decode cX8_outline 88 = .ok (.getfield 17, 3) := by decide +kernel
theorem dX8_outline_91 : decode cX8_outline 91 = .ok (.aload_n 0, 1) := by decide +kernel
theorem dX8_outline_92 : decode cX8_outline 92 = .ok (.getfield 60, 3) := by decide +kernel
theorem dX8_outline_95 : decode cX8_outline 95 = .ok (.iload_n 1, 1) := by decide +kernel
theorem dX8_outline_96 : decode cX8_outline 96 = .ok (.iaload, 1) := by decide +kernel
theorem dX8_outline_97 : decode cX8_outline 97 = .ok (.iaload, 1) := by decide +kernel
theorem dX8_outline_98 : decode cX8_outline 98 = .ok (.ireturn, 1) := by decide +kernel
theorem dX8_countUntagged_0 : decode cX8_countUntagged 0 = .ok (.iconst 0, 1) := by decide +kernel
theorem dX8_countUntagged_1 : decode cX8_countUntagged 1 = .ok (.istore_n 1, 1) := by decide +kernel
theorem dX8_countUntagged_2 : decode cX8_countUntagged 2 = .ok (.iconst 0, 1) := by decide +kernel
theorem dX8_countUntagged_3 : decode cX8_countUntagged 3 = .ok (.istore_n 2, 1) := by decide +kernel
theorem dX8_countUntagged_4 : decode cX8_countUntagged 4 = .ok (.iload_n 2, 1) := by decide +kernel
theorem dX8_countUntagged_5 : decode cX8_countUntagged 5 = .ok (.aload_n 0, 1) := by decide +kernel
theorem dX8_countUntagged_6 : decode cX8_countUntagged 6 = .ok (.getfield 109, 3) := by decide +kernel
theorem dX8_countUntagged_9 : decode cX8_countUntagged 9 = .ok (.if_icmp .ge 31, 3) := by decide +kernel
theorem dX8_countUntagged_12 : decode cX8_countUntagged 12 = .ok (.aload_n 0, 1) := by decide +kernel
theorem dX8_countUntagged_13 : decode cX8_countUntagged 13 = .ok (.aload_n 0, 1) := by decide +kernel
theorem dX8_countUntagged_14 : decode cX8_countUntagged 14 = .ok (.getfield 45, 3) := by decide +kernel
theorem dX8_countUntagged_17 : decode cX8_countUntagged 17 = .ok (.iload_n 2, 1) := by decide +kernel
theorem dX8_countUntagged_18 : decode cX8_countUntagged 18 = .ok (.iaload, 1) := by decide +kernel
theorem dX8_countUntagged_19 : decode cX8_countUntagged 19 = .ok (.invokevirtual 99, 3) := by decide +kernel
theorem dX8_countUntagged_22 : decode cX8_countUntagged 22 = .ok (.iconst (-1), 1) := by decide +kernel
theorem dX8_countUntagged_23 : decode cX8_countUntagged 23 = .ok (.if_icmp .ne 9, 3) := by decide +kernel
theorem dX8_countUntagged_26 : decode cX8_countUntagged 26 = .ok (.iload_n 1, 1) := by decide +kernel
theorem dX8_countUntagged_27 : decode cX8_countUntagged 27 = .ok (.iconst 1, 1) := by decide +kernel
theorem dX8_countUntagged_28 : decode cX8_countUntagged 28 = .ok (.iadd, 1) := by decide +kernel
theorem dX8_countUntagged_29 : decode cX8_countUntagged 29 = .ok (.goto 4, 3) := by decide +kernel
theorem dX8_countUntagged_32 : decode cX8_countUntagged 32 = .ok (.iload_n 1, 1) := by decide +kernel
theorem dX8_countUntagged_33 : decode cX8_countUntagged 33 = .ok (.istore_n 1, 1) := by decide +kernel
theorem dX8_countUntagged_34 : decode cX8_countUntagged 34 = .ok (.iinc 2 1, 3) := by decide +kernel
theorem dX8_countUntagged_37 : decode cX8_countUntagged 37 = .ok (.goto (-33), 3) := by decide +kernel
theorem dX8_countUntagged_40 : decode cX8_countUntagged 40 = .ok (.iload_n 1, 1) := by decide +kernel
theorem dX8_countUntagged_41 : decode cX8_countUntagged 41 = .ok (.ireturn, 1) := by decide +kernel
theorem dX8_untaggedAt_0 : decode cX8_untaggedAt 0 = .ok (.iconst 0, 1) := by decide +kernel
theorem dX8_untaggedAt_1 : decode cX8_untaggedAt 1 = .ok (.istore_n 2, 1) := by decide +kernel
theorem dX8_untaggedAt_2 : decode cX8_untaggedAt 2 = .ok (.iconst (-1), 1) := by decide +kernel
theorem dX8_untaggedAt_3 : decode cX8_untaggedAt 3 = .ok (.istore_n 3, 1) := by decide +kernel
theorem dX8_untaggedAt_4 : decode cX8_untaggedAt 4 = .ok (.iconst 0, 1) := by decide +kernel
theorem dX8_untaggedAt_5 : decode cX8_untaggedAt 5 = .ok (.istore 4, 2) := by decide +kernel
theorem dX8_untaggedAt_7 : decode cX8_untaggedAt 7 = .ok (.iload 4, 2) := by decide +kernel
theorem dX8_untaggedAt_9 : decode cX8_untaggedAt 9 = .ok (.bipush 10, 2) := by decide +kernel
theorem dX8_untaggedAt_11 : decode cX8_untaggedAt 11 = .ok (.if_icmp .ge 77, 3) := by decide +kernel
theorem dX8_untaggedAt_14 : decode cX8_untaggedAt 14 = .ok (.iconst 0, 1) := by decide +kernel
theorem dX8_untaggedAt_15 : decode cX8_untaggedAt 15 = .ok (.istore 5, 2) := by decide +kernel
theorem dX8_untaggedAt_17 : decode cX8_untaggedAt 17 = .ok (.iload 5, 2) := by decide +kernel
theorem dX8_untaggedAt_19 : decode cX8_untaggedAt 19 = .ok (.aload_n 0, 1) := by decide +kernel
theorem dX8_untaggedAt_20 : decode cX8_untaggedAt 20 = .ok (.getfield 109, 3) := by decide +kernel
theorem dX8_untaggedAt_23 : decode cX8_untaggedAt 23 = .ok (.if_icmp .ge 59, 3) := by decide +kernel
theorem dX8_untaggedAt_26 : decode cX8_untaggedAt 26 = .ok (.aload_n 0, 1) := by decide +kernel
theorem dX8_untaggedAt_27 : decode cX8_untaggedAt 27 = .ok (.getfield 45, 3) := by decide +kernel
theorem dX8_untaggedAt_30 : decode cX8_untaggedAt 30 = .ok (.iload 5, 2) := by decide +kernel
theorem dX8_untaggedAt_32 : decode cX8_untaggedAt 32 = .ok (.iaload, 1) := by decide +kernel
theorem dX8_untaggedAt_33 : decode cX8_untaggedAt 33 = .ok (.bipush 20, 2) := by decide +kernel
theorem dX8_untaggedAt_35 : decode cX8_untaggedAt 35 = .ok (.idiv, 1) := by decide +kernel
theorem dX8_untaggedAt_36 : decode cX8_untaggedAt 36 = .ok (.iload 4, 2) := by decide +kernel
theorem dX8_untaggedAt_38 : decode cX8_untaggedAt 38 = .ok (.if_icmp .ne 38, 3) := by decide +kernel
theorem dX8_untaggedAt_41 : decode cX8_untaggedAt 41 = .ok (.aload_n 0, 1) := by decide +kernel
theorem dX8_untaggedAt_42 : decode cX8_untaggedAt 42 = .ok (.aload_n 0, 1) := by decide +kernel
theorem dX8_untaggedAt_43 : decode cX8_untaggedAt 43 = .ok (.getfield 45, 3) := by decide +kernel
theorem dX8_untaggedAt_46 : decode cX8_untaggedAt 46 = .ok (.iload 5, 2) := by decide +kernel
theorem dX8_untaggedAt_48 : decode cX8_untaggedAt 48 = .ok (.iaload, 1) := by decide +kernel
theorem dX8_untaggedAt_49 : decode cX8_untaggedAt 49 = .ok (.invokevirtual 99, 3) := by decide +kernel
theorem dX8_untaggedAt_52 : decode cX8_untaggedAt 52 = .ok (.iconst (-1), 1) := by decide +kernel
theorem dX8_untaggedAt_53 : decode cX8_untaggedAt 53 = .ok (.if_icmp .ne 23, 3) := by decide +kernel
theorem dX8_untaggedAt_56 : decode cX8_untaggedAt 56 = .ok (.iload_n 2, 1) := by decide +kernel
theorem dX8_untaggedAt_57 : decode cX8_untaggedAt 57 = .ok (.iload_n 1, 1) := by decide +kernel
theorem dX8_untaggedAt_58 : decode cX8_untaggedAt 58 = .ok (.if_icmp .ne 13, 3) := by decide +kernel
theorem dX8_untaggedAt_61 : decode cX8_untaggedAt 61 = .ok (.aload_n 0, 1) := by decide +kernel
theorem dX8_untaggedAt_62 : decode cX8_untaggedAt 62 = .ok (.getfield 45, 3) := by decide +kernel
theorem dX8_untaggedAt_65 : decode cX8_untaggedAt 65 = .ok (.iload 5, 2) := by decide +kernel
theorem dX8_untaggedAt_67 : decode cX8_untaggedAt 67 = .ok (.iaload, 1) := by decide +kernel
theorem dX8_untaggedAt_68 : decode cX8_untaggedAt 68 = .ok (.goto 4, 3) := by decide +kernel
theorem dX8_untaggedAt_71 : decode cX8_untaggedAt 71 = .ok (.iload_n 3, 1) := by decide +kernel
theorem dX8_untaggedAt_72 : decode cX8_untaggedAt 72 = .ok (.istore_n 3, 1) := by decide +kernel
theorem dX8_untaggedAt_73 : decode cX8_untaggedAt 73 = .ok (.iinc 2 1, 3) := by decide +kernel
theorem dX8_untaggedAt_76 : decode cX8_untaggedAt 76 = .ok (.iinc 5 1, 3) := by decide +kernel
theorem dX8_untaggedAt_79 : decode cX8_untaggedAt 79 = .ok (.goto (-62), 3) := by decide +kernel
theorem dX8_untaggedAt_82 : decode cX8_untaggedAt 82 = .ok (.iinc 4 1, 3) := by decide +kernel
theorem dX8_untaggedAt_85 : decode cX8_untaggedAt 85 = .ok (.goto (-78), 3) := by decide +kernel
theorem dX8_untaggedAt_88 : decode cX8_untaggedAt 88 = .ok (.iload_n 3, 1) := by decide +kernel
theorem dX8_untaggedAt_89 : decode cX8_untaggedAt 89 = .ok (.ireturn, 1) := by decide +kernel
theorem dX8_untagged_0 : decode cX8_untagged 0 = .ok (.aload_n 0, 1) := by decide +kernel
theorem dX8_untagged_1 : decode cX8_untagged 1 = .ok (.iconst 0, 1) := by decide +kernel
theorem dX8_untagged_2 : decode cX8_untagged 2 = .ok (.putfield 78, 3) := by decide +kernel
theorem dX8_untagged_5 : decode cX8_untagged 5 = .ok (.iload_n 1, 1) := by decide +kernel
theorem dX8_untagged_6 : decode cX8_untagged 6 = .ok (.iconst (-1), 1) := by decide +kernel
theorem dX8_untagged_7 : decode cX8_untagged 7 = .ok (.if_icmp .ne 8, 3) := by decide +kernel
theorem dX8_untagged_10 : decode cX8_untagged 10 = .ok (.aload_n 0, 1) := by decide +kernel
theorem dX8_untagged_11 : decode cX8_untagged 11 = .ok (.invokevirtual 173, 3) := by decide +kernel
theorem dX8_untagged_14 : decode cX8_untagged 14 = .ok (.ireturn, 1) := by decide +kernel
theorem dX8_untagged_15 : decode cX8_untagged 15 = .ok (.iload_n 1, 1) := by decide +kernel
theorem dX8_untagged_16 : decode cX8_untagged 16 = .ok (.ifCond .ge 7, 3) := by decide +kernel
theorem dX8_untagged_19 : decode cX8_untagged 19 = .ok (.iconst (-1), 1) := by decide +kernel
theorem dX8_untagged_20 : decode cX8_untagged 20 = .ok (.goto 8, 3) := by decide +kernel
theorem dX8_untagged_23 : decode cX8_untagged 23 = .ok (.aload_n 0, 1) := by decide +kernel
theorem dX8_untagged_24 : decode cX8_untagged 24 = .ok (.iload_n 1, 1) := by decide +kernel
theorem dX8_untagged_25 : decode cX8_untagged 25 = .ok (.invokevirtual 177, 3) := by decide +kernel
theorem dX8_untagged_28 : decode cX8_untagged 28 = .ok (.istore_n 2, 1) := by decide +kernel
theorem dX8_untagged_29 : decode cX8_untagged 29 = .ok (.aload_n 0, 1) := by decide +kernel
theorem dX8_untagged_30 : decode cX8_untagged 30 = .ok (.iload_n 2, 1) := by decide +kernel
theorem dX8_untagged_31 : decode cX8_untagged 31 = .ok (.iconst (-1), 1) := by decide +kernel
theorem dX8_untagged_32 : decode cX8_untagged 32 = .ok (.if_icmp .ne 7, 3) := by decide +kernel
theorem dX8_untagged_35 : decode cX8_untagged 35 = .ok (.iconst 1, 1) := by decide +kernel
theorem dX8_untagged_36 : decode cX8_untagged 36 = .ok (.goto 4, 3) := by decide +kernel
theorem dX8_untagged_39 : decode cX8_untagged 39 = .ok (.iconst 0, 1) := by decide +kernel
theorem dX8_untagged_40 : decode cX8_untagged 40 = .ok (.putfield 78, 3) := by decide +kernel
theorem dX8_untagged_43 : decode cX8_untagged 43 = .ok (.aload_n 0, 1) := by decide +kernel
theorem dX8_untagged_44 : decode cX8_untagged 44 = .ok (.getfield 78, 3) := by decide +kernel
theorem dX8_untagged_47 : decode cX8_untagged 47 = .ok (.ifCond .le 7, 3) := by decide +kernel
theorem dX8_untagged_50 : decode cX8_untagged 50 = .ok (.iconst 0, 1) := by decide +kernel
theorem dX8_untagged_51 : decode cX8_untagged 51 = .ok (.goto 4, 3) := by decide +kernel
theorem dX8_untagged_54 : decode cX8_untagged 54 = .ok (.iload_n 2, 1) := by decide +kernel
theorem dX8_untagged_55 : decode cX8_untagged 55 = .ok (.ireturn, 1) := by decide +kernel
end
section
theorem dL_element_0 : decode cL_element 0 = .ok (.aload_n 3, 1) := by decide +kernel
theorem dL_element_1 : decode cL_element 1 = .ok (.iconst 0, 1) := by decide +kernel
theorem dL_element_2 : decode cL_element 2 = .ok (.aload_n 0, 1) := by decide +kernel
theorem dL_element_3 : decode cL_element 3 = .ok (.iload_n 1, 1) := by decide +kernel
theorem dL_element_4 : decode cL_element 4 = .ok (.iload_n 2, 1) := by decide +kernel
theorem dL_element_5 : decode cL_element 5 = .ok (.invokevirtual 7, 3) := by decide +kernel
theorem dL_element_8 : decode cL_element 8 = .ok (.i2l, 1) := by decide +kernel
theorem dL_element_9 : decode cL_element 9 = .ok (.lastore, 1) := by decide +kernel
theorem dL_element_10 : decode cL_element 10 = .ok (.goto 15, 3) := by decide +kernel
theorem dL_element_13 : decode cL_element 13 = .ok (.astore 4, 2) := by decide +kernel
theorem dL_element_15 : decode cL_element 15 = .ok (.iconst 1, 1) := by decide +kernel
theorem dL_element_16 : decode cL_element 16 = .ok (.ireturn, 1) := by decide +kernel
theorem dL_element_17 : decode cL_element 17 = .ok (.astore 4, 2) := by decide +kernel
theorem dL_element_19 : decode cL_element 19 = .ok (.iconst 2, 1) := by decide +kernel
theorem dL_element_20 : decode cL_element 20 = .ok (.ireturn, 1) := by decide +kernel
theorem dL_element_21 : decode cL_element 21 = .ok (.astore 4, 2) := by decide +kernel
theorem dL_element_23 : decode cL_element 23 = .ok (.iconst 3, 1) := by decide +kernel
theorem dL_element_24 : decode cL_element 24 = .ok (.ireturn, 1) := by decide +kernel
theorem dL_element_25 : decode cL_element 25 = .ok (.iconst 0, 1) := by decide +kernel
theorem dL_element_26 : decode cL_element 26 = .ok (.ireturn, 1) := by decide +kernel
theorem dL_map_0 : decode cL_map 0 = .ok (.aload_n 3, 1) := by decide +kernel
theorem dL_map_1 : decode cL_map 1 = .ok (.iconst 0, 1) := by decide +kernel
theorem dL_map_2 : decode cL_map 2 = .ok (.aload_n 0, 1) := by decide +kernel
theorem dL_map_3 : decode cL_map 3 = .ok (.iload_n 1, 1) := by decide +kernel
theorem dL_map_4 : decode cL_map 4 = .ok (.iload_n 2, 1) := by decide +kernel
theorem dL_map_5 : decode cL_map 5 = .ok (.invokevirtual 19, 3) := by decide +kernel
theorem dL_map_8 : decode cL_map 8 = .ok (.i2l, 1) := by decide +kernel
theorem dL_map_9 : decode cL_map 9 = .ok (.lastore, 1) := by decide +kernel
theorem dL_map_10 : decode cL_map 10 = .ok (.goto 7, 3) := by decide +kernel
theorem dL_map_13 : decode cL_map 13 = .ok (.astore 4, 2) := by decide +kernel
theorem dL_map_15 : decode cL_map 15 = .ok (.iconst 1, 1) := by decide +kernel
theorem dL_map_16 : decode cL_map 16 = .ok (.ireturn, 1) := by decide +kernel
theorem dL_map_17 : decode cL_map 17 = .ok (.iconst 0, 1) := by decide +kernel
theorem dL_map_18 : decode cL_map 18 = .ok (.ireturn, 1) := by decide +kernel
theorem dL_content_0 : decode cL_content 0 = .ok (.aload 4, 2) := by decide +kernel
theorem dL_content_2 : decode cL_content 2 = .ok (.iconst 0, 1) := by decide +kernel
theorem dL_content_3 : decode cL_content 3 = .ok (.aload_n 0, 1) := by decide +kernel
theorem dL_content_4 : decode cL_content 4 = .ok (.iload_n 1, 1) := by decide +kernel
theorem dL_content_5 : decode cL_content 5 = .ok (.iload_n 2, 1) := by decide +kernel
theorem dL_content_6 : decode cL_content 6 = .ok (.iload_n 3, 1) := by decide +kernel
theorem dL_content_7 : decode cL_content 7 = .ok (.invokevirtual 22, 3) := by decide +kernel
theorem dL_content_10 : decode cL_content 10 = .ok (.i2l, 1) := by decide +kernel
theorem dL_content_11 : decode cL_content 11 = .ok (.lastore, 1) := by decide +kernel
theorem dL_content_12 : decode cL_content 12 = .ok (.goto 15, 3) := by decide +kernel
theorem dL_content_15 : decode cL_content 15 = .ok (.astore 5, 2) := by decide +kernel
theorem dL_content_17 : decode cL_content 17 = .ok (.iconst 1, 1) := by decide +kernel
theorem dL_content_18 : decode cL_content 18 = .ok (.ireturn, 1) := by decide +kernel
theorem dL_content_19 : decode cL_content 19 = .ok (.astore 5, 2) := by decide +kernel
theorem dL_content_21 : decode cL_content 21 = .ok (.iconst 2, 1) := by decide +kernel
theorem dL_content_22 : decode cL_content 22 = .ok (.ireturn, 1) := by decide +kernel
theorem dL_content_23 : decode cL_content 23 = .ok (.astore 5, 2) := by decide +kernel
theorem dL_content_25 : decode cL_content 25 = .ok (.iconst 3, 1) := by decide +kernel
theorem dL_content_26 : decode cL_content 26 = .ok (.ireturn, 1) := by decide +kernel
theorem dL_content_27 : decode cL_content 27 = .ok (.iconst 0, 1) := by decide +kernel
theorem dL_content_28 : decode cL_content 28 = .ok (.ireturn, 1) := by decide +kernel
theorem dL_shows_0 : decode cL_shows 0 = .ok (.aload_n 3, 1) := by decide +kernel
theorem dL_shows_1 : decode cL_shows 1 = .ok (.iconst 0, 1) := by decide +kernel
theorem dL_shows_2 : decode cL_shows 2 = .ok (.aload_n 0, 1) := by decide +kernel
theorem dL_shows_3 : decode cL_shows 3 = .ok (.iload_n 1, 1) := by decide +kernel
theorem dL_shows_4 : decode cL_shows 4 = .ok (.iload_n 2, 1) := by decide +kernel
theorem dL_shows_5 : decode cL_shows 5 = .ok (.invokevirtual 26, 3) := by decide +kernel
theorem dL_shows_8 : decode cL_shows 8 = .ok (.i2l, 1) := by decide +kernel
theorem dL_shows_9 : decode cL_shows 9 = .ok (.lastore, 1) := by decide +kernel
theorem dL_shows_10 : decode cL_shows 10 = .ok (.goto 7, 3) := by decide +kernel
theorem dL_shows_13 : decode cL_shows 13 = .ok (.astore 4, 2) := by decide +kernel
theorem dL_shows_15 : decode cL_shows 15 = .ok (.iconst 1, 1) := by decide +kernel
theorem dL_shows_16 : decode cL_shows 16 = .ok (.ireturn, 1) := by decide +kernel
theorem dL_shows_17 : decode cL_shows 17 = .ok (.iconst 0, 1) := by decide +kernel
theorem dL_shows_18 : decode cL_shows 18 = .ok (.ireturn, 1) := by decide +kernel
theorem dL_at_0 : decode cL_at 0 = .ok (.aload_n 3, 1) := by decide +kernel
theorem dL_at_1 : decode cL_at 1 = .ok (.iconst 0, 1) := by decide +kernel
theorem dL_at_2 : decode cL_at 2 = .ok (.aload_n 0, 1) := by decide +kernel
theorem dL_at_3 : decode cL_at 3 = .ok (.iload_n 1, 1) := by decide +kernel
theorem dL_at_4 : decode cL_at 4 = .ok (.iload_n 2, 1) := by decide +kernel
theorem dL_at_5 : decode cL_at 5 = .ok (.invokevirtual 29, 3) := by decide +kernel
theorem dL_at_8 : decode cL_at 8 = .ok (.i2l, 1) := by decide +kernel
theorem dL_at_9 : decode cL_at 9 = .ok (.lastore, 1) := by decide +kernel
theorem dL_at_10 : decode cL_at 10 = .ok (.goto 7, 3) := by decide +kernel
theorem dL_at_13 : decode cL_at 13 = .ok (.astore 4, 2) := by decide +kernel
theorem dL_at_15 : decode cL_at 15 = .ok (.iconst 1, 1) := by decide +kernel
theorem dL_at_16 : decode cL_at 16 = .ok (.ireturn, 1) := by decide +kernel
theorem dL_at_17 : decode cL_at 17 = .ok (.iconst 0, 1) := by decide +kernel
theorem dL_at_18 : decode cL_at 18 = .ok (.ireturn, 1) := by decide +kernel
theorem dL_parent_0 : decode cL_parent 0 = .ok (.aload_n 3, 1) := by decide +kernel
theorem dL_parent_1 : decode cL_parent 1 = .ok (.iconst 0, 1) := by decide +kernel
theorem dL_parent_2 : decode cL_parent 2 = .ok (.aload_n 0, 1) := by decide +kernel
theorem dL_parent_3 : decode cL_parent 3 = .ok (.iload_n 1, 1) := by decide +kernel
theorem dL_parent_4 : decode cL_parent 4 = .ok (.iload_n 2, 1) := by decide +kernel
theorem dL_parent_5 : decode cL_parent 5 = .ok (.invokevirtual 34, 3) := by decide +kernel
theorem dL_parent_8 : decode cL_parent 8 = .ok (.i2l, 1) := by decide +kernel
theorem dL_parent_9 : decode cL_parent 9 = .ok (.lastore, 1) := by decide +kernel
theorem dL_parent_10 : decode cL_parent 10 = .ok (.goto 7, 3) := by decide +kernel
theorem dL_parent_13 : decode cL_parent 13 = .ok (.astore 4, 2) := by decide +kernel
theorem dL_parent_15 : decode cL_parent 15 = .ok (.iconst 1, 1) := by decide +kernel
theorem dL_parent_16 : decode cL_parent 16 = .ok (.ireturn, 1) := by decide +kernel
theorem dL_parent_17 : decode cL_parent 17 = .ok (.iconst 0, 1) := by decide +kernel
theorem dL_parent_18 : decode cL_parent 18 = .ok (.ireturn, 1) := by decide +kernel
theorem dL_fault_0 : decode cL_fault 0 = .ok (.aload_n 3, 1) := by decide +kernel
theorem dL_fault_1 : decode cL_fault 1 = .ok (.iconst 0, 1) := by decide +kernel
theorem dL_fault_2 : decode cL_fault 2 = .ok (.aload_n 0, 1) := by decide +kernel
theorem dL_fault_3 : decode cL_fault 3 = .ok (.iload_n 1, 1) := by decide +kernel
theorem dL_fault_4 : decode cL_fault 4 = .ok (.iload_n 2, 1) := by decide +kernel
theorem dL_fault_5 : decode cL_fault 5 = .ok (.invokevirtual 37, 3) := by decide +kernel
theorem dL_fault_8 : decode cL_fault 8 = .ok (.i2l, 1) := by decide +kernel
theorem dL_fault_9 : decode cL_fault 9 = .ok (.lastore, 1) := by decide +kernel
theorem dL_fault_10 : decode cL_fault 10 = .ok (.goto 7, 3) := by decide +kernel
theorem dL_fault_13 : decode cL_fault 13 = .ok (.astore 4, 2) := by decide +kernel
theorem dL_fault_15 : decode cL_fault 15 = .ok (.iconst 1, 1) := by decide +kernel
theorem dL_fault_16 : decode cL_fault 16 = .ok (.ireturn, 1) := by decide +kernel
theorem dL_fault_17 : decode cL_fault 17 = .ok (.iconst 0, 1) := by decide +kernel
theorem dL_fault_18 : decode cL_fault 18 = .ok (.ireturn, 1) := by decide +kernel
theorem dL_heading_0 : decode cL_heading 0 = .ok (.aload_n 3, 1) := by decide +kernel
theorem dL_heading_1 : decode cL_heading 1 = .ok (.iconst 0, 1) := by decide +kernel
theorem dL_heading_2 : decode cL_heading 2 = .ok (.aload_n 0, 1) := by decide +kernel
theorem dL_heading_3 : decode cL_heading 3 = .ok (.iload_n 1, 1) := by decide +kernel
theorem dL_heading_4 : decode cL_heading 4 = .ok (.iload_n 2, 1) := by decide +kernel
theorem dL_heading_5 : decode cL_heading 5 = .ok (.invokevirtual 40, 3) := by decide +kernel
theorem dL_heading_8 : decode cL_heading 8 = .ok (.i2l, 1) := by decide +kernel
theorem dL_heading_9 : decode cL_heading 9 = .ok (.lastore, 1) := by decide +kernel
theorem dL_heading_10 : decode cL_heading 10 = .ok (.goto 11, 3) := by decide +kernel
theorem dL_heading_13 : decode cL_heading 13 = .ok (.astore 4, 2) := by decide +kernel
theorem dL_heading_15 : decode cL_heading 15 = .ok (.iconst 1, 1) := by decide +kernel
theorem dL_heading_16 : decode cL_heading 16 = .ok (.ireturn, 1) := by decide +kernel
theorem dL_heading_17 : decode cL_heading 17 = .ok (.astore 4, 2) := by decide +kernel
theorem dL_heading_19 : decode cL_heading 19 = .ok (.iconst 2, 1) := by decide +kernel
theorem dL_heading_20 : decode cL_heading 20 = .ok (.ireturn, 1) := by decide +kernel
theorem dL_heading_21 : decode cL_heading 21 = .ok (.iconst 0, 1) := by decide +kernel
theorem dL_heading_22 : decode cL_heading 22 = .ok (.ireturn, 1) := by decide +kernel
theorem dL_words_0 : decode cL_words 0 = .ok (.aload_n 3, 1) := by decide +kernel
theorem dL_words_1 : decode cL_words 1 = .ok (.iconst 0, 1) := by decide +kernel
theorem dL_words_2 : decode cL_words 2 = .ok (.aload_n 0, 1) := by decide +kernel
theorem dL_words_3 : decode cL_words 3 = .ok (.iload_n 1, 1) := by decide +kernel
theorem dL_words_4 : decode cL_words 4 = .ok (.iload_n 2, 1) := by decide +kernel
theorem dL_words_5 : decode cL_words 5 = .ok (.invokevirtual 43, 3) := by decide +kernel
theorem dL_words_8 : decode cL_words 8 = .ok (.i2l, 1) := by decide +kernel
theorem dL_words_9 : decode cL_words 9 = .ok (.lastore, 1) := by decide +kernel
theorem dL_words_10 : decode cL_words 10 = .ok (.goto 7, 3) := by decide +kernel
theorem dL_words_13 : decode cL_words 13 = .ok (.astore 4, 2) := by decide +kernel
theorem dL_words_15 : decode cL_words 15 = .ok (.iconst 1, 1) := by decide +kernel
theorem dL_words_16 : decode cL_words 16 = .ok (.ireturn, 1) := by decide +kernel
theorem dL_words_17 : decode cL_words 17 = .ok (.iconst 0, 1) := by decide +kernel
theorem dL_words_18 : decode cL_words 18 = .ok (.ireturn, 1) := by decide +kernel
theorem dL_span_0 : decode cL_span 0 = .ok (.aload 4, 2) := by decide +kernel
theorem dL_span_2 : decode cL_span 2 = .ok (.iconst 0, 1) := by decide +kernel
theorem dL_span_3 : decode cL_span 3 = .ok (.aload_n 0, 1) := by decide +kernel
theorem dL_span_4 : decode cL_span 4 = .ok (.iload_n 1, 1) := by decide +kernel
theorem dL_span_5 : decode cL_span 5 = .ok (.iload_n 2, 1) := by decide +kernel
theorem dL_span_6 : decode cL_span 6 = .ok (.iload_n 3, 1) := by decide +kernel
theorem dL_span_7 : decode cL_span 7 = .ok (.invokevirtual 47, 3) := by decide +kernel
theorem dL_span_10 : decode cL_span 10 = .ok (.i2l, 1) := by decide +kernel
theorem dL_span_11 : decode cL_span 11 = .ok (.lastore, 1) := by decide +kernel
theorem dL_span_12 : decode cL_span 12 = .ok (.goto 11, 3) := by decide +kernel
theorem dL_span_15 : decode cL_span 15 = .ok (.astore 5, 2) := by decide +kernel
theorem dL_span_17 : decode cL_span 17 = .ok (.iconst 1, 1) := by decide +kernel
theorem dL_span_18 : decode cL_span 18 = .ok (.ireturn, 1) := by decide +kernel
theorem dL_span_19 : decode cL_span 19 = .ok (.astore 5, 2) := by decide +kernel
theorem dL_span_21 : decode cL_span 21 = .ok (.iconst 2, 1) := by decide +kernel
theorem dL_span_22 : decode cL_span 22 = .ok (.ireturn, 1) := by decide +kernel
theorem dL_span_23 : decode cL_span 23 = .ok (.iconst 0, 1) := by decide +kernel
theorem dL_span_24 : decode cL_span 24 = .ok (.ireturn, 1) := by decide +kernel
theorem dL_outline_0 : decode cL_outline 0 = .ok (.aload_n 3, 1) := by decide +kernel
theorem dL_outline_1 : decode cL_outline 1 = .ok (.iconst 0, 1) := by decide +kernel
theorem dL_outline_2 : decode cL_outline 2 = .ok (.aload_n 0, 1) := by decide +kernel
theorem dL_outline_3 : decode cL_outline 3 = .ok (.iload_n 1, 1) := by decide +kernel
theorem dL_outline_4 : decode cL_outline 4 = .ok (.iload_n 2, 1) := by decide +kernel
theorem dL_outline_5 : decode cL_outline 5 = .ok (.invokevirtual 50, 3) := by decide +kernel
theorem dL_outline_8 : decode cL_outline 8 = .ok (.i2l, 1) := by decide +kernel
theorem dL_outline_9 : decode cL_outline 9 = .ok (.lastore, 1) := by decide +kernel
theorem dL_outline_10 : decode cL_outline 10 = .ok (.goto 7, 3) := by decide +kernel
theorem dL_outline_13 : decode cL_outline 13 = .ok (.astore 4, 2) := by decide +kernel
theorem dL_outline_15 : decode cL_outline 15 = .ok (.iconst 1, 1) := by decide +kernel
theorem dL_outline_16 : decode cL_outline 16 = .ok (.ireturn, 1) := by decide +kernel
theorem dL_outline_17 : decode cL_outline 17 = .ok (.iconst 0, 1) := by decide +kernel
theorem dL_outline_18 : decode cL_outline 18 = .ok (.ireturn, 1) := by decide +kernel
theorem dL_untagged_0 : decode cL_untagged 0 = .ok (.aload_n 2, 1) := by decide +kernel
theorem dL_untagged_1 : decode cL_untagged 1 = .ok (.iconst 0, 1) := by decide +kernel
theorem dL_untagged_2 : decode cL_untagged 2 = .ok (.aload_n 0, 1) := by decide +kernel
theorem dL_untagged_3 : decode cL_untagged 3 = .ok (.iload_n 1, 1) := by decide +kernel
theorem dL_untagged_4 : decode cL_untagged 4 = .ok (.invokevirtual 53, 3) := by decide +kernel
theorem dL_untagged_7 : decode cL_untagged 7 = .ok (.i2l, 1) := by decide +kernel
theorem dL_untagged_8 : decode cL_untagged 8 = .ok (.lastore, 1) := by decide +kernel
theorem dL_untagged_9 : decode cL_untagged 9 = .ok (.goto 6, 3) := by decide +kernel
theorem dL_untagged_12 : decode cL_untagged 12 = .ok (.astore_n 3, 1) := by decide +kernel
theorem dL_untagged_13 : decode cL_untagged 13 = .ok (.iconst 1, 1) := by decide +kernel
theorem dL_untagged_14 : decode cL_untagged 14 = .ok (.ireturn, 1) := by decide +kernel
theorem dL_untagged_15 : decode cL_untagged 15 = .ok (.iconst 0, 1) := by decide +kernel
theorem dL_untagged_16 : decode cL_untagged 16 = .ok (.ireturn, 1) := by decide +kernel
theorem dL_law_0 : decode cL_law 0 = .ok (.new 8, 3) := by decide +kernel
theorem dL_law_3 : decode cL_law 3 = .ok (.dup, 1) := by decide +kernel
theorem dL_law_4 : decode cL_law 4 = .ok (.invokespecial 57, 3) := by decide +kernel
theorem dL_law_7 : decode cL_law 7 = .ok (.astore_n 1, 1) := by decide +kernel
theorem dL_law_8 : decode cL_law 8 = .ok (.new 58, 3) := by decide +kernel
theorem dL_law_11 : decode cL_law 11 = .ok (.dup, 1) := by decide +kernel
theorem dL_law_12 : decode cL_law 12 = .ok (.invokespecial 60, 3) := by decide +kernel
theorem dL_law_15 : decode cL_law 15 = .ok (.astore_n 2, 1) := by decide +kernel
theorem dL_law_16 : decode cL_law 16 = .ok (.iconst 1, 1) := by decide +kernel
theorem dL_law_17 : decode cL_law 17 = .ok (.newarray .long, 2) := by decide +kernel
theorem dL_law_19 : decode cL_law 19 = .ok (.astore_n 3, 1) := by decide +kernel
theorem dL_law_20 : decode cL_law 20 = .ok (.iconst 0, 1) := by decide +kernel
theorem dL_law_21 : decode cL_law 21 = .ok (.istore 4, 2) := by decide +kernel
theorem dL_law_23 : decode cL_law 23 = .ok (.iload 4, 2) := by decide +kernel
theorem dL_law_25 : decode cL_law 25 = .ok (.aload_n 0, 1) := by decide +kernel
theorem dL_law_26 : decode cL_law 26 = .ok (.arraylength, 1) := by decide +kernel
theorem dL_law_27 : decode cL_law 27 = .ok (.iconst 4, 1) := by decide +kernel
theorem dL_law_28 : decode cL_law 28 = .ok (.isub, 1) := by decide +kernel
theorem dL_law_29 : decode cL_law 29 = .ok (.if_icmp .gt 955, 3) := by decide +kernel
theorem dL_law_32 : decode cL_law 32 = .ok (.aload_n 0, 1) := by decide +kernel
theorem dL_law_33 : decode cL_law 33 = .ok (.iload 4, 2) := by decide +kernel
theorem dL_law_35 : decode cL_law 35 = .ok (.iaload, 1) := by decide +kernel
theorem dL_law_36 : decode cL_law 36 = .ok (.bipush 15, 2) := by decide +kernel
theorem dL_law_38 : decode cL_law 38 = .ok (.iand, 1) := by decide +kernel
theorem dL_law_39 : decode cL_law 39 = .ok (.tableswitch 939 0 13 #[69, 137, 205, 285, 353, 366, 434, 502, 515, 583, 651, 735, 815, 883], 69) := by decide +kernel
theorem dL_law_108 : decode cL_law 108 = .ok (.aload_n 1, 1) := by decide +kernel
theorem dL_law_109 : decode cL_law 109 = .ok (.aload_n 0, 1) := by decide +kernel
theorem dL_law_110 : decode cL_law 110 = .ok (.iload 4, 2) := by decide +kernel
theorem dL_law_112 : decode cL_law 112 = .ok (.iconst 1, 1) := by decide +kernel
theorem dL_law_113 : decode cL_law 113 = .ok (.iadd, 1) := by decide +kernel
theorem dL_law_114 : decode cL_law 114 = .ok (.iaload, 1) := by decide +kernel
theorem dL_law_115 : decode cL_law 115 = .ok (.aload_n 0, 1) := by decide +kernel
theorem dL_law_116 : decode cL_law 116 = .ok (.iload 4, 2) := by decide +kernel
theorem dL_law_118 : decode cL_law 118 = .ok (.iconst 2, 1) := by decide +kernel
theorem dL_law_119 : decode cL_law 119 = .ok (.iadd, 1) := by decide +kernel
theorem dL_law_120 : decode cL_law 120 = .ok (.iaload, 1) := by decide +kernel
theorem dL_law_121 : decode cL_law 121 = .ok (.aload_n 3, 1) := by decide +kernel
theorem dL_law_122 : decode cL_law 122 = .ok (.invokestatic 61, 3) := by decide +kernel
theorem dL_law_125 : decode cL_law 125 = .ok (.istore 5, 2) := by decide +kernel
theorem dL_law_127 : decode cL_law 127 = .ok (.aload_n 2, 1) := by decide +kernel
theorem dL_law_128 : decode cL_law 128 = .ok (.aload_n 0, 1) := by decide +kernel
theorem dL_law_129 : decode cL_law 129 = .ok (.iload 4, 2) := by decide +kernel
theorem dL_law_131 : decode cL_law 131 = .ok (.iconst 1, 1) := by decide +kernel
theorem dL_law_132 : decode cL_law 132 = .ok (.iadd, 1) := by decide +kernel
theorem dL_law_133 : decode cL_law 133 = .ok (.iaload, 1) := by decide +kernel
theorem dL_law_134 : decode cL_law 134 = .ok (.aload_n 0, 1) := by decide +kernel
theorem dL_law_135 : decode cL_law 135 = .ok (.iload 4, 2) := by decide +kernel
theorem dL_law_137 : decode cL_law 137 = .ok (.iconst 2, 1) := by decide +kernel
theorem dL_law_138 : decode cL_law 138 = .ok (.iadd, 1) := by decide +kernel
theorem dL_law_139 : decode cL_law 139 = .ok (.iaload, 1) := by decide +kernel
theorem dL_law_140 : decode cL_law 140 = .ok (.invokevirtual 66, 3) := by decide +kernel
theorem dL_law_143 : decode cL_law 143 = .ok (.istore 6, 2) := by decide +kernel
theorem dL_law_145 : decode cL_law 145 = .ok (.aload_n 2, 1) := by decide +kernel
theorem dL_law_146 : decode cL_law 146 = .ok (.invokevirtual 67, 3) := by decide +kernel
theorem dL_law_149 : decode cL_law 149 = .ok (.iload 5, 2) := by decide +kernel
theorem dL_law_151 : decode cL_law 151 = .ok (.if_icmp .eq 5, 3) := by decide +kernel
theorem dL_law_154 : decode cL_law 154 = .ok (.iconst 0, 1) := by decide +kernel
theorem dL_law_155 : decode cL_law 155 = .ok (.ireturn, 1) := by decide +kernel
theorem dL_law_156 : decode cL_law 156 = .ok (.iload 5, 2) := by decide +kernel
theorem dL_law_158 : decode cL_law 158 = .ok (.ifCond .ne 15, 3) := by decide +kernel
theorem dL_law_161 : decode cL_law 161 = .ok (.aload_n 3, 1) := by decide +kernel
theorem dL_law_162 : decode cL_law 162 = .ok (.iconst 0, 1) := by decide +kernel
theorem dL_law_163 : decode cL_law 163 = .ok (.laload, 1) := by decide +kernel
theorem dL_law_164 : decode cL_law 164 = .ok (.iload 6, 2) := by decide +kernel
theorem dL_law_166 : decode cL_law 166 = .ok (.i2l, 1) := by decide +kernel
theorem dL_law_167 : decode cL_law 167 = .ok (.lcmp, 1) := by decide +kernel
theorem dL_law_168 : decode cL_law 168 = .ok (.ifCond .eq 5, 3) := by decide +kernel
theorem dL_law_171 : decode cL_law 171 = .ok (.iconst 0, 1) := by decide +kernel
theorem dL_law_172 : decode cL_law 172 = .ok (.ireturn, 1) := by decide +kernel
theorem dL_law_173 : decode cL_law 173 = .ok (.goto 805, 3) := by decide +kernel
theorem dL_law_176 : decode cL_law 176 = .ok (.aload_n 1, 1) := by decide +kernel
theorem dL_law_177 : decode cL_law 177 = .ok (.aload_n 0, 1) := by decide +kernel
theorem dL_law_178 : decode cL_law 178 = .ok (.iload 4, 2) := by decide +kernel
theorem dL_law_180 : decode cL_law 180 = .ok (.iconst 1, 1) := by decide +kernel
theorem dL_law_181 : decode cL_law 181 = .ok (.iadd, 1) := by decide +kernel
theorem dL_law_182 : decode cL_law 182 = .ok (.iaload, 1) := by decide +kernel
theorem dL_law_183 : decode cL_law 183 = .ok (.aload_n 0, 1) := by decide +kernel
theorem dL_law_184 : decode cL_law 184 = .ok (.iload 4, 2) := by decide +kernel
theorem dL_law_186 : decode cL_law 186 = .ok (.iconst 2, 1) := by decide +kernel
theorem dL_law_187 : decode cL_law 187 = .ok (.iadd, 1) := by decide +kernel
theorem dL_law_188 : decode cL_law 188 = .ok (.iaload, 1) := by decide +kernel
theorem dL_law_189 : decode cL_law 189 = .ok (.aload_n 3, 1) := by decide +kernel
theorem dL_law_190 : decode cL_law 190 = .ok (.invokestatic 71, 3) := by decide +kernel
theorem dL_law_193 : decode cL_law 193 = .ok (.istore 5, 2) := by decide +kernel
theorem dL_law_195 : decode cL_law 195 = .ok (.aload_n 2, 1) := by decide +kernel
theorem dL_law_196 : decode cL_law 196 = .ok (.aload_n 0, 1) := by decide +kernel
theorem dL_law_197 : decode cL_law 197 = .ok (.iload 4, 2) := by decide +kernel
theorem dL_law_199 : decode cL_law 199 = .ok (.iconst 1, 1) := by decide +kernel
theorem dL_law_200 : decode cL_law 200 = .ok (.iadd, 1) := by decide +kernel
theorem dL_law_201 : decode cL_law 201 = .ok (.iaload, 1) := by decide +kernel
theorem dL_law_202 : decode cL_law 202 = .ok (.aload_n 0, 1) := by decide +kernel
theorem dL_law_203 : decode cL_law 203 = .ok (.iload 4, 2) := by decide +kernel
theorem dL_law_205 : decode cL_law 205 = .ok (.iconst 2, 1) := by decide +kernel
theorem dL_law_206 : decode cL_law 206 = .ok (.iadd, 1) := by decide +kernel
theorem dL_law_207 : decode cL_law 207 = .ok (.iaload, 1) := by decide +kernel
theorem dL_law_208 : decode cL_law 208 = .ok (.invokevirtual 73, 3) := by decide +kernel
theorem dL_law_211 : decode cL_law 211 = .ok (.istore 6, 2) := by decide +kernel
theorem dL_law_213 : decode cL_law 213 = .ok (.aload_n 2, 1) := by decide +kernel
theorem dL_law_214 : decode cL_law 214 = .ok (.invokevirtual 67, 3) := by decide +kernel
theorem dL_law_217 : decode cL_law 217 = .ok (.iload 5, 2) := by decide +kernel
theorem dL_law_219 : decode cL_law 219 = .ok (.if_icmp .eq 5, 3) := by decide +kernel
theorem dL_law_222 : decode cL_law 222 = .ok (.iconst 0, 1) := by decide +kernel
theorem dL_law_223 : decode cL_law 223 = .ok (.ireturn, 1) := by decide +kernel
theorem dL_law_224 : decode cL_law 224 = .ok (.iload 5, 2) := by decide +kernel
theorem dL_law_226 : decode cL_law 226 = .ok (.ifCond .ne 15, 3) := by decide +kernel
theorem dL_law_229 : decode cL_law 229 = .ok (.aload_n 3, 1) := by decide +kernel
theorem dL_law_230 : decode cL_law 230 = .ok (.iconst 0, 1) := by decide +kernel
theorem dL_law_231 : decode cL_law 231 = .ok (.laload, 1) := by decide +kernel
theorem dL_law_232 : decode cL_law 232 = .ok (.iload 6, 2) := by decide +kernel
theorem dL_law_234 : decode cL_law 234 = .ok (.i2l, 1) := by decide +kernel
theorem dL_law_235 : decode cL_law 235 = .ok (.lcmp, 1) := by decide +kernel
theorem dL_law_236 : decode cL_law 236 = .ok (.ifCond .eq 5, 3) := by decide +kernel
theorem dL_law_239 : decode cL_law 239 = .ok (.iconst 0, 1) := by decide +kernel
theorem dL_law_240 : decode cL_law 240 = .ok (.ireturn, 1) := by decide +kernel
theorem dL_law_241 : decode cL_law 241 = .ok (.goto 737, 3) := by decide +kernel
theorem dL_law_244 : decode cL_law 244 = .ok (.aload_n 1, 1) := by decide +kernel
theorem dL_law_245 : decode cL_law 245 = .ok (.aload_n 0, 1) := by decide +kernel
theorem dL_law_246 : decode cL_law 246 = .ok (.iload 4, 2) := by decide +kernel
theorem dL_law_248 : decode cL_law 248 = .ok (.iconst 1, 1) := by decide +kernel
theorem dL_law_249 : decode cL_law 249 = .ok (.iadd, 1) := by decide +kernel
theorem dL_law_250 : decode cL_law 250 = .ok (.iaload, 1) := by decide +kernel
theorem dL_law_251 : decode cL_law 251 = .ok (.aload_n 0, 1) := by decide +kernel
theorem dL_law_252 : decode cL_law 252 = .ok (.iload 4, 2) := by decide +kernel
theorem dL_law_254 : decode cL_law 254 = .ok (.iconst 2, 1) := by decide +kernel
theorem dL_law_255 : decode cL_law 255 = .ok (.iadd, 1) := by decide +kernel
theorem dL_law_256 : decode cL_law 256 = .ok (.iaload, 1) := by decide +kernel
theorem dL_law_257 : decode cL_law 257 = .ok (.aload_n 0, 1) := by decide +kernel
theorem dL_law_258 : decode cL_law 258 = .ok (.iload 4, 2) := by decide +kernel
theorem dL_law_260 : decode cL_law 260 = .ok (.iconst 3, 1) := by decide +kernel
theorem dL_law_261 : decode cL_law 261 = .ok (.iadd, 1) := by decide +kernel
theorem dL_law_262 : decode cL_law 262 = .ok (.iaload, 1) := by decide +kernel
theorem dL_law_263 : decode cL_law 263 = .ok (.aload_n 3, 1) := by decide +kernel
theorem dL_law_264 : decode cL_law 264 = .ok (.invokestatic 74, 3) := by decide +kernel
theorem dL_law_267 : decode cL_law 267 = .ok (.istore 5, 2) := by decide +kernel
theorem dL_law_269 : decode cL_law 269 = .ok (.aload_n 2, 1) := by decide +kernel
theorem dL_law_270 : decode cL_law 270 = .ok (.aload_n 0, 1) := by decide +kernel
theorem dL_law_271 : decode cL_law 271 = .ok (.iload 4, 2) := by decide +kernel
theorem dL_law_273 : decode cL_law 273 = .ok (.iconst 1, 1) := by decide +kernel
theorem dL_law_274 : decode cL_law 274 = .ok (.iadd, 1) := by decide +kernel
theorem dL_law_275 : decode cL_law 275 = .ok (.iaload, 1) := by decide +kernel
theorem dL_law_276 : decode cL_law 276 = .ok (.aload_n 0, 1) := by decide +kernel
theorem dL_law_277 : decode cL_law 277 = .ok (.iload 4, 2) := by decide +kernel
theorem dL_law_279 : decode cL_law 279 = .ok (.iconst 2, 1) := by decide +kernel
theorem dL_law_280 : decode cL_law 280 = .ok (.iadd, 1) := by decide +kernel
theorem dL_law_281 : decode cL_law 281 = .ok (.iaload, 1) := by decide +kernel
theorem dL_law_282 : decode cL_law 282 = .ok (.aload_n 0, 1) := by decide +kernel
theorem dL_law_283 : decode cL_law 283 = .ok (.iload 4, 2) := by decide +kernel
theorem dL_law_285 : decode cL_law 285 = .ok (.iconst 3, 1) := by decide +kernel
theorem dL_law_286 : decode cL_law 286 = .ok (.iadd, 1) := by decide +kernel
theorem dL_law_287 : decode cL_law 287 = .ok (.iaload, 1) := by decide +kernel
theorem dL_law_288 : decode cL_law 288 = .ok (.invokevirtual 77, 3) := by decide +kernel
theorem dL_law_291 : decode cL_law 291 = .ok (.istore 6, 2) := by decide +kernel
theorem dL_law_293 : decode cL_law 293 = .ok (.aload_n 2, 1) := by decide +kernel
theorem dL_law_294 : decode cL_law 294 = .ok (.invokevirtual 67, 3) := by decide +kernel
theorem dL_law_297 : decode cL_law 297 = .ok (.iload 5, 2) := by decide +kernel
theorem dL_law_299 : decode cL_law 299 = .ok (.if_icmp .eq 5, 3) := by decide +kernel
theorem dL_law_302 : decode cL_law 302 = .ok (.iconst 0, 1) := by decide +kernel
theorem dL_law_303 : decode cL_law 303 = .ok (.ireturn, 1) := by decide +kernel
theorem dL_law_304 : decode cL_law 304 = .ok (.iload 5, 2) := by decide +kernel
theorem dL_law_306 : decode cL_law 306 = .ok (.ifCond .ne 15, 3) := by decide +kernel
theorem dL_law_309 : decode cL_law 309 = .ok (.aload_n 3, 1) := by decide +kernel
theorem dL_law_310 : decode cL_law 310 = .ok (.iconst 0, 1) := by decide +kernel
theorem dL_law_311 : decode cL_law 311 = .ok (.laload, 1) := by decide +kernel
theorem dL_law_312 : decode cL_law 312 = .ok (.iload 6, 2) := by decide +kernel
theorem dL_law_314 : decode cL_law 314 = .ok (.i2l, 1) := by decide +kernel
theorem dL_law_315 : decode cL_law 315 = .ok (.lcmp, 1) := by decide +kernel
theorem dL_law_316 : decode cL_law 316 = .ok (.ifCond .eq 5, 3) := by decide +kernel
theorem dL_law_319 : decode cL_law 319 = .ok (.iconst 0, 1) := by decide +kernel
theorem dL_law_320 : decode cL_law 320 = .ok (.ireturn, 1) := by decide +kernel
theorem dL_law_321 : decode cL_law 321 = .ok (.goto 657, 3) := by decide +kernel
theorem dL_law_324 : decode cL_law 324 = .ok (.aload_n 1, 1) := by decide +kernel
theorem dL_law_325 : decode cL_law 325 = .ok (.aload_n 0, 1) := by decide +kernel
theorem dL_law_326 : decode cL_law 326 = .ok (.iload 4, 2) := by decide +kernel
theorem dL_law_328 : decode cL_law 328 = .ok (.iconst 1, 1) := by decide +kernel
theorem dL_law_329 : decode cL_law 329 = .ok (.iadd, 1) := by decide +kernel
theorem dL_law_330 : decode cL_law 330 = .ok (.iaload, 1) := by decide +kernel
theorem dL_law_331 : decode cL_law 331 = .ok (.aload_n 0, 1) := by decide +kernel
theorem dL_law_332 : decode cL_law 332 = .ok (.iload 4, 2) := by decide +kernel
theorem dL_law_334 : decode cL_law 334 = .ok (.iconst 2, 1) := by decide +kernel
theorem dL_law_335 : decode cL_law 335 = .ok (.iadd, 1) := by decide +kernel
theorem dL_law_336 : decode cL_law 336 = .ok (.iaload, 1) := by decide +kernel
theorem dL_law_337 : decode cL_law 337 = .ok (.aload_n 3, 1) := by decide +kernel
theorem dL_law_338 : decode cL_law 338 = .ok (.invokestatic 78, 3) := by decide +kernel
theorem dL_law_341 : decode cL_law 341 = .ok (.istore 5, 2) := by decide +kernel
theorem dL_law_343 : decode cL_law 343 = .ok (.aload_n 2, 1) := by decide +kernel
theorem dL_law_344 : decode cL_law 344 = .ok (.aload_n 0, 1) := by decide +kernel
theorem dL_law_345 : decode cL_law 345 = .ok (.iload 4, 2) := by decide +kernel
theorem dL_law_347 : decode cL_law 347 = .ok (.iconst 1, 1) := by decide +kernel
theorem dL_law_348 : decode cL_law 348 = .ok (.iadd, 1) := by decide +kernel
theorem dL_law_349 : decode cL_law 349 = .ok (.iaload, 1) := by decide +kernel
theorem dL_law_350 : decode cL_law 350 = .ok (.aload_n 0, 1) := by decide +kernel
theorem dL_law_351 : decode cL_law 351 = .ok (.iload 4, 2) := by decide +kernel
theorem dL_law_353 : decode cL_law 353 = .ok (.iconst 2, 1) := by decide +kernel
theorem dL_law_354 : decode cL_law 354 = .ok (.iadd, 1) := by decide +kernel
theorem dL_law_355 : decode cL_law 355 = .ok (.iaload, 1) := by decide +kernel
theorem dL_law_356 : decode cL_law 356 = .ok (.invokevirtual 80, 3) := by decide +kernel
theorem dL_law_359 : decode cL_law 359 = .ok (.istore 6, 2) := by decide +kernel
theorem dL_law_361 : decode cL_law 361 = .ok (.aload_n 2, 1) := by decide +kernel
theorem dL_law_362 : decode cL_law 362 = .ok (.invokevirtual 67, 3) := by decide +kernel
theorem dL_law_365 : decode cL_law 365 = .ok (.iload 5, 2) := by decide +kernel
theorem dL_law_367 : decode cL_law 367 = .ok (.if_icmp .eq 5, 3) := by decide +kernel
theorem dL_law_370 : decode cL_law 370 = .ok (.iconst 0, 1) := by decide +kernel
theorem dL_law_371 : decode cL_law 371 = .ok (.ireturn, 1) := by decide +kernel
theorem dL_law_372 : decode cL_law 372 = .ok (.iload 5, 2) := by decide +kernel
theorem dL_law_374 : decode cL_law 374 = .ok (.ifCond .ne 15, 3) := by decide +kernel
theorem dL_law_377 : decode cL_law 377 = .ok (.aload_n 3, 1) := by decide +kernel
theorem dL_law_378 : decode cL_law 378 = .ok (.iconst 0, 1) := by decide +kernel
theorem dL_law_379 : decode cL_law 379 = .ok (.laload, 1) := by decide +kernel
theorem dL_law_380 : decode cL_law 380 = .ok (.iload 6, 2) := by decide +kernel
theorem dL_law_382 : decode cL_law 382 = .ok (.i2l, 1) := by decide +kernel
theorem dL_law_383 : decode cL_law 383 = .ok (.lcmp, 1) := by decide +kernel
theorem dL_law_384 : decode cL_law 384 = .ok (.ifCond .eq 5, 3) := by decide +kernel
theorem dL_law_387 : decode cL_law 387 = .ok (.iconst 0, 1) := by decide +kernel
theorem dL_law_388 : decode cL_law 388 = .ok (.ireturn, 1) := by decide +kernel
theorem dL_law_389 : decode cL_law 389 = .ok (.goto 589, 3) := by decide +kernel
theorem dL_law_392 : decode cL_law 392 = .ok (.aload_n 1, 1) := by decide +kernel
theorem dL_law_393 : decode cL_law 393 = .ok (.invokevirtual 81, 3) := by decide +kernel
theorem dL_law_396 : decode cL_law 396 = .ok (.aload_n 2, 1) := by decide +kernel
theorem dL_law_397 : decode cL_law 397 = .ok (.invokevirtual 84, 3) := by decide +kernel
theorem dL_law_400 : decode cL_law 400 = .ok (.if_icmp .eq 578, 3) := by decide +kernel
theorem dL_law_403 : decode cL_law 403 = .ok (.iconst 0, 1) := by decide +kernel
theorem dL_law_404 : decode cL_law 404 = .ok (.ireturn, 1) := by decide +kernel
theorem dL_law_405 : decode cL_law 405 = .ok (.aload_n 1, 1) := by decide +kernel
theorem dL_law_406 : decode cL_law 406 = .ok (.aload_n 0, 1) := by decide +kernel
theorem dL_law_407 : decode cL_law 407 = .ok (.iload 4, 2) := by decide +kernel
theorem dL_law_409 : decode cL_law 409 = .ok (.iconst 1, 1) := by decide +kernel
theorem dL_law_410 : decode cL_law 410 = .ok (.iadd, 1) := by decide +kernel
theorem dL_law_411 : decode cL_law 411 = .ok (.iaload, 1) := by decide +kernel
theorem dL_law_412 : decode cL_law 412 = .ok (.aload_n 0, 1) := by decide +kernel
theorem dL_law_413 : decode cL_law 413 = .ok (.iload 4, 2) := by decide +kernel
theorem dL_law_415 : decode cL_law 415 = .ok (.iconst 2, 1) := by decide +kernel
theorem dL_law_416 : decode cL_law 416 = .ok (.iadd, 1) := by decide +kernel
theorem dL_law_417 : decode cL_law 417 = .ok (.iaload, 1) := by decide +kernel
theorem dL_law_418 : decode cL_law 418 = .ok (.aload_n 3, 1) := by decide +kernel
theorem dL_law_419 : decode cL_law 419 = .ok (.invokestatic 85, 3) := by decide +kernel
theorem dL_law_422 : decode cL_law 422 = .ok (.istore 5, 2) := by decide +kernel
theorem dL_law_424 : decode cL_law 424 = .ok (.aload_n 2, 1) := by decide +kernel
theorem dL_law_425 : decode cL_law 425 = .ok (.aload_n 0, 1) := by decide +kernel
theorem dL_law_426 : decode cL_law 426 = .ok (.iload 4, 2) := by decide +kernel
theorem dL_law_428 : decode cL_law 428 = .ok (.iconst 1, 1) := by decide +kernel
theorem dL_law_429 : decode cL_law 429 = .ok (.iadd, 1) := by decide +kernel
theorem dL_law_430 : decode cL_law 430 = .ok (.iaload, 1) := by decide +kernel
theorem dL_law_431 : decode cL_law 431 = .ok (.aload_n 0, 1) := by decide +kernel
theorem dL_law_432 : decode cL_law 432 = .ok (.iload 4, 2) := by decide +kernel
theorem dL_law_434 : decode cL_law 434 = .ok (.iconst 2, 1) := by decide +kernel
theorem dL_law_435 : decode cL_law 435 = .ok (.iadd, 1) := by decide +kernel
theorem dL_law_436 : decode cL_law 436 = .ok (.iaload, 1) := by decide +kernel
theorem dL_law_437 : decode cL_law 437 = .ok (.invokevirtual 87, 3) := by decide +kernel
theorem dL_law_440 : decode cL_law 440 = .ok (.istore 6, 2) := by decide +kernel
theorem dL_law_442 : decode cL_law 442 = .ok (.aload_n 2, 1) := by decide +kernel
theorem dL_law_443 : decode cL_law 443 = .ok (.invokevirtual 67, 3) := by decide +kernel
theorem dL_law_446 : decode cL_law 446 = .ok (.iload 5, 2) := by decide +kernel
theorem dL_law_448 : decode cL_law 448 = .ok (.if_icmp .eq 5, 3) := by decide +kernel
theorem dL_law_451 : decode cL_law 451 = .ok (.iconst 0, 1) := by decide +kernel
theorem dL_law_452 : decode cL_law 452 = .ok (.ireturn, 1) := by decide +kernel
theorem dL_law_453 : decode cL_law 453 = .ok (.iload 5, 2) := by decide +kernel
theorem dL_law_455 : decode cL_law 455 = .ok (.ifCond .ne 15, 3) := by decide +kernel
theorem dL_law_458 : decode cL_law 458 = .ok (.aload_n 3, 1) := by decide +kernel
theorem dL_law_459 : decode cL_law 459 = .ok (.iconst 0, 1) := by decide +kernel
theorem dL_law_460 : decode cL_law 460 = .ok (.laload, 1) := by decide +kernel
theorem dL_law_461 : decode cL_law 461 = .ok (.iload 6, 2) := by decide +kernel
theorem dL_law_463 : decode cL_law 463 = .ok (.i2l, 1) := by decide +kernel
theorem dL_law_464 : decode cL_law 464 = .ok (.lcmp, 1) := by decide +kernel
theorem dL_law_465 : decode cL_law 465 = .ok (.ifCond .eq 5, 3) := by decide +kernel
theorem dL_law_468 : decode cL_law 468 = .ok (.iconst 0, 1) := by decide +kernel
theorem dL_law_469 : decode cL_law 469 = .ok (.ireturn, 1) := by decide +kernel
theorem dL_law_470 : decode cL_law 470 = .ok (.goto 508, 3) := by decide +kernel
theorem dL_law_473 : decode cL_law 473 = .ok (.aload_n 1, 1) := by decide +kernel
theorem dL_law_474 : decode cL_law 474 = .ok (.aload_n 0, 1) := by decide +kernel
theorem dL_law_475 : decode cL_law 475 = .ok (.iload 4, 2) := by decide +kernel
theorem dL_law_477 : decode cL_law 477 = .ok (.iconst 1, 1) := by decide +kernel
theorem dL_law_478 : decode cL_law 478 = .ok (.iadd, 1) := by decide +kernel
theorem dL_law_479 : decode cL_law 479 = .ok (.iaload, 1) := by decide +kernel
theorem dL_law_480 : decode cL_law 480 = .ok (.aload_n 0, 1) := by decide +kernel
theorem dL_law_481 : decode cL_law 481 = .ok (.iload 4, 2) := by decide +kernel
theorem dL_law_483 : decode cL_law 483 = .ok (.iconst 2, 1) := by decide +kernel
theorem dL_law_484 : decode cL_law 484 = .ok (.iadd, 1) := by decide +kernel
theorem dL_law_485 : decode cL_law 485 = .ok (.iaload, 1) := by decide +kernel
theorem dL_law_486 : decode cL_law 486 = .ok (.aload_n 3, 1) := by decide +kernel
theorem dL_law_487 : decode cL_law 487 = .ok (.invokestatic 88, 3) := by decide +kernel
theorem dL_law_490 : decode cL_law 490 = .ok (.istore 5, 2) := by decide +kernel
theorem dL_law_492 : decode cL_law 492 = .ok (.aload_n 2, 1) := by decide +kernel
theorem dL_law_493 : decode cL_law 493 = .ok (.aload_n 0, 1) := by decide +kernel
theorem dL_law_494 : decode cL_law 494 = .ok (.iload 4, 2) := by decide +kernel
theorem dL_law_496 : decode cL_law 496 = .ok (.iconst 1, 1) := by decide +kernel
theorem dL_law_497 : decode cL_law 497 = .ok (.iadd, 1) := by decide +kernel
theorem dL_law_498 : decode cL_law 498 = .ok (.iaload, 1) := by decide +kernel
theorem dL_law_499 : decode cL_law 499 = .ok (.aload_n 0, 1) := by decide +kernel
theorem dL_law_500 : decode cL_law 500 = .ok (.iload 4, 2) := by decide +kernel
theorem dL_law_502 : decode cL_law 502 = .ok (.iconst 2, 1) := by decide +kernel
theorem dL_law_503 : decode cL_law 503 = .ok (.iadd, 1) := by decide +kernel
theorem dL_law_504 : decode cL_law 504 = .ok (.iaload, 1) := by decide +kernel
theorem dL_law_505 : decode cL_law 505 = .ok (.invokevirtual 90, 3) := by decide +kernel
theorem dL_law_508 : decode cL_law 508 = .ok (.istore 6, 2) := by decide +kernel
theorem dL_law_510 : decode cL_law 510 = .ok (.aload_n 2, 1) := by decide +kernel
theorem dL_law_511 : decode cL_law 511 = .ok (.invokevirtual 67, 3) := by decide +kernel
theorem dL_law_514 : decode cL_law 514 = .ok (.iload 5, 2) := by decide +kernel
theorem dL_law_516 : decode cL_law 516 = .ok (.if_icmp .eq 5, 3) := by decide +kernel
theorem dL_law_519 : decode cL_law 519 = .ok (.iconst 0, 1) := by decide +kernel
theorem dL_law_520 : decode cL_law 520 = .ok (.ireturn, 1) := by decide +kernel
theorem dL_law_521 : decode cL_law 521 = .ok (.iload 5, 2) := by decide +kernel
theorem dL_law_523 : decode cL_law 523 = .ok (.ifCond .ne 15, 3) := by decide +kernel
theorem dL_law_526 : decode cL_law 526 = .ok (.aload_n 3, 1) := by decide +kernel
theorem dL_law_527 : decode cL_law 527 = .ok (.iconst 0, 1) := by decide +kernel
theorem dL_law_528 : decode cL_law 528 = .ok (.laload, 1) := by decide +kernel
theorem dL_law_529 : decode cL_law 529 = .ok (.iload 6, 2) := by decide +kernel
theorem dL_law_531 : decode cL_law 531 = .ok (.i2l, 1) := by decide +kernel
theorem dL_law_532 : decode cL_law 532 = .ok (.lcmp, 1) := by decide +kernel
theorem dL_law_533 : decode cL_law 533 = .ok (.ifCond .eq 5, 3) := by decide +kernel
theorem dL_law_536 : decode cL_law 536 = .ok (.iconst 0, 1) := by decide +kernel
theorem dL_law_537 : decode cL_law 537 = .ok (.ireturn, 1) := by decide +kernel
theorem dL_law_538 : decode cL_law 538 = .ok (.goto 440, 3) := by decide +kernel
theorem dL_law_541 : decode cL_law 541 = .ok (.aload_n 1, 1) := by decide +kernel
theorem dL_law_542 : decode cL_law 542 = .ok (.invokevirtual 91, 3) := by decide +kernel
theorem dL_law_545 : decode cL_law 545 = .ok (.aload_n 2, 1) := by decide +kernel
theorem dL_law_546 : decode cL_law 546 = .ok (.invokevirtual 94, 3) := by decide +kernel
theorem dL_law_549 : decode cL_law 549 = .ok (.if_icmp .eq 429, 3) := by decide +kernel
theorem dL_law_552 : decode cL_law 552 = .ok (.iconst 0, 1) := by decide +kernel
theorem dL_law_553 : decode cL_law 553 = .ok (.ireturn, 1) := by decide +kernel
theorem dL_law_554 : decode cL_law 554 = .ok (.aload_n 1, 1) := by decide +kernel
theorem dL_law_555 : decode cL_law 555 = .ok (.aload_n 0, 1) := by decide +kernel
theorem dL_law_556 : decode cL_law 556 = .ok (.iload 4, 2) := by decide +kernel
theorem dL_law_558 : decode cL_law 558 = .ok (.iconst 1, 1) := by decide +kernel
theorem dL_law_559 : decode cL_law 559 = .ok (.iadd, 1) := by decide +kernel
theorem dL_law_560 : decode cL_law 560 = .ok (.iaload, 1) := by decide +kernel
theorem dL_law_561 : decode cL_law 561 = .ok (.aload_n 0, 1) := by decide +kernel
theorem dL_law_562 : decode cL_law 562 = .ok (.iload 4, 2) := by decide +kernel
theorem dL_law_564 : decode cL_law 564 = .ok (.iconst 2, 1) := by decide +kernel
theorem dL_law_565 : decode cL_law 565 = .ok (.iadd, 1) := by decide +kernel
theorem dL_law_566 : decode cL_law 566 = .ok (.iaload, 1) := by decide +kernel
theorem dL_law_567 : decode cL_law 567 = .ok (.aload_n 3, 1) := by decide +kernel
theorem dL_law_568 : decode cL_law 568 = .ok (.invokestatic 95, 3) := by decide +kernel
theorem dL_law_571 : decode cL_law 571 = .ok (.istore 5, 2) := by decide +kernel
theorem dL_law_573 : decode cL_law 573 = .ok (.aload_n 2, 1) := by decide +kernel
theorem dL_law_574 : decode cL_law 574 = .ok (.aload_n 0, 1) := by decide +kernel
theorem dL_law_575 : decode cL_law 575 = .ok (.iload 4, 2) := by decide +kernel
theorem dL_law_577 : decode cL_law 577 = .ok (.iconst 1, 1) := by decide +kernel
theorem dL_law_578 : decode cL_law 578 = .ok (.iadd, 1) := by decide +kernel
theorem dL_law_579 : decode cL_law 579 = .ok (.iaload, 1) := by decide +kernel
theorem dL_law_580 : decode cL_law 580 = .ok (.aload_n 0, 1) := by decide +kernel
theorem dL_law_581 : decode cL_law 581 = .ok (.iload 4, 2) := by decide +kernel
theorem dL_law_583 : decode cL_law 583 = .ok (.iconst 2, 1) := by decide +kernel
theorem dL_law_584 : decode cL_law 584 = .ok (.iadd, 1) := by decide +kernel
theorem dL_law_585 : decode cL_law 585 = .ok (.iaload, 1) := by decide +kernel
theorem dL_law_586 : decode cL_law 586 = .ok (.invokevirtual 97, 3) := by decide +kernel
theorem dL_law_589 : decode cL_law 589 = .ok (.istore 6, 2) := by decide +kernel
theorem dL_law_591 : decode cL_law 591 = .ok (.aload_n 2, 1) := by decide +kernel
theorem dL_law_592 : decode cL_law 592 = .ok (.invokevirtual 67, 3) := by decide +kernel
theorem dL_law_595 : decode cL_law 595 = .ok (.iload 5, 2) := by decide +kernel
theorem dL_law_597 : decode cL_law 597 = .ok (.if_icmp .eq 5, 3) := by decide +kernel
theorem dL_law_600 : decode cL_law 600 = .ok (.iconst 0, 1) := by decide +kernel
theorem dL_law_601 : decode cL_law 601 = .ok (.ireturn, 1) := by decide +kernel
theorem dL_law_602 : decode cL_law 602 = .ok (.iload 5, 2) := by decide +kernel
theorem dL_law_604 : decode cL_law 604 = .ok (.ifCond .ne 15, 3) := by decide +kernel
theorem dL_law_607 : decode cL_law 607 = .ok (.aload_n 3, 1) := by decide +kernel
theorem dL_law_608 : decode cL_law 608 = .ok (.iconst 0, 1) := by decide +kernel
theorem dL_law_609 : decode cL_law 609 = .ok (.laload, 1) := by decide +kernel
theorem dL_law_610 : decode cL_law 610 = .ok (.iload 6, 2) := by decide +kernel
theorem dL_law_612 : decode cL_law 612 = .ok (.i2l, 1) := by decide +kernel
theorem dL_law_613 : decode cL_law 613 = .ok (.lcmp, 1) := by decide +kernel
theorem dL_law_614 : decode cL_law 614 = .ok (.ifCond .eq 5, 3) := by decide +kernel
theorem dL_law_617 : decode cL_law 617 = .ok (.iconst 0, 1) := by decide +kernel
theorem dL_law_618 : decode cL_law 618 = .ok (.ireturn, 1) := by decide +kernel
theorem dL_law_619 : decode cL_law 619 = .ok (.goto 359, 3) := by decide +kernel
theorem dL_law_622 : decode cL_law 622 = .ok (.aload_n 1, 1) := by decide +kernel
theorem dL_law_623 : decode cL_law 623 = .ok (.aload_n 0, 1) := by decide +kernel
theorem dL_law_624 : decode cL_law 624 = .ok (.iload 4, 2) := by decide +kernel
theorem dL_law_626 : decode cL_law 626 = .ok (.iconst 1, 1) := by decide +kernel
theorem dL_law_627 : decode cL_law 627 = .ok (.iadd, 1) := by decide +kernel
theorem dL_law_628 : decode cL_law 628 = .ok (.iaload, 1) := by decide +kernel
theorem dL_law_629 : decode cL_law 629 = .ok (.aload_n 0, 1) := by decide +kernel
theorem dL_law_630 : decode cL_law 630 = .ok (.iload 4, 2) := by decide +kernel
theorem dL_law_632 : decode cL_law 632 = .ok (.iconst 2, 1) := by decide +kernel
theorem dL_law_633 : decode cL_law 633 = .ok (.iadd, 1) := by decide +kernel
theorem dL_law_634 : decode cL_law 634 = .ok (.iaload, 1) := by decide +kernel
theorem dL_law_635 : decode cL_law 635 = .ok (.aload_n 3, 1) := by decide +kernel
theorem dL_law_636 : decode cL_law 636 = .ok (.invokestatic 98, 3) := by decide +kernel
theorem dL_law_639 : decode cL_law 639 = .ok (.istore 5, 2) := by decide +kernel
theorem dL_law_641 : decode cL_law 641 = .ok (.aload_n 2, 1) := by decide +kernel
theorem dL_law_642 : decode cL_law 642 = .ok (.aload_n 0, 1) := by decide +kernel
theorem dL_law_643 : decode cL_law 643 = .ok (.iload 4, 2) := by decide +kernel
theorem dL_law_645 : decode cL_law 645 = .ok (.iconst 1, 1) := by decide +kernel
theorem dL_law_646 : decode cL_law 646 = .ok (.iadd, 1) := by decide +kernel
theorem dL_law_647 : decode cL_law 647 = .ok (.iaload, 1) := by decide +kernel
theorem dL_law_648 : decode cL_law 648 = .ok (.aload_n 0, 1) := by decide +kernel
theorem dL_law_649 : decode cL_law 649 = .ok (.iload 4, 2) := by decide +kernel
theorem dL_law_651 : decode cL_law 651 = .ok (.iconst 2, 1) := by decide +kernel
theorem dL_law_652 : decode cL_law 652 = .ok (.iadd, 1) := by decide +kernel
theorem dL_law_653 : decode cL_law 653 = .ok (.iaload, 1) := by decide +kernel
theorem dL_law_654 : decode cL_law 654 = .ok (.invokevirtual 100, 3) := by decide +kernel
theorem dL_law_657 : decode cL_law 657 = .ok (.istore 6, 2) := by decide +kernel
theorem dL_law_659 : decode cL_law 659 = .ok (.aload_n 2, 1) := by decide +kernel
theorem dL_law_660 : decode cL_law 660 = .ok (.invokevirtual 67, 3) := by decide +kernel
theorem dL_law_663 : decode cL_law 663 = .ok (.iload 5, 2) := by decide +kernel
theorem dL_law_665 : decode cL_law 665 = .ok (.if_icmp .eq 5, 3) := by decide +kernel
theorem dL_law_668 : decode cL_law 668 = .ok (.iconst 0, 1) := by decide +kernel
theorem dL_law_669 : decode cL_law 669 = .ok (.ireturn, 1) := by decide +kernel
theorem dL_law_670 : decode cL_law 670 = .ok (.iload 5, 2) := by decide +kernel
theorem dL_law_672 : decode cL_law 672 = .ok (.ifCond .ne 15, 3) := by decide +kernel
theorem dL_law_675 : decode cL_law 675 = .ok (.aload_n 3, 1) := by decide +kernel
theorem dL_law_676 : decode cL_law 676 = .ok (.iconst 0, 1) := by decide +kernel
theorem dL_law_677 : decode cL_law 677 = .ok (.laload, 1) := by decide +kernel
theorem dL_law_678 : decode cL_law 678 = .ok (.iload 6, 2) := by decide +kernel
theorem dL_law_680 : decode cL_law 680 = .ok (.i2l, 1) := by decide +kernel
theorem dL_law_681 : decode cL_law 681 = .ok (.lcmp, 1) := by decide +kernel
theorem dL_law_682 : decode cL_law 682 = .ok (.ifCond .eq 5, 3) := by decide +kernel
theorem dL_law_685 : decode cL_law 685 = .ok (.iconst 0, 1) := by decide +kernel
theorem dL_law_686 : decode cL_law 686 = .ok (.ireturn, 1) := by decide +kernel
theorem dL_law_687 : decode cL_law 687 = .ok (.goto 291, 3) := by decide +kernel
theorem dL_law_690 : decode cL_law 690 = .ok (.aload_n 1, 1) := by decide +kernel
theorem dL_law_691 : decode cL_law 691 = .ok (.aload_n 0, 1) := by decide +kernel
theorem dL_law_692 : decode cL_law 692 = .ok (.iload 4, 2) := by decide +kernel
theorem dL_law_694 : decode cL_law 694 = .ok (.iconst 1, 1) := by decide +kernel
theorem dL_law_695 : decode cL_law 695 = .ok (.iadd, 1) := by decide +kernel
theorem dL_law_696 : decode cL_law 696 = .ok (.iaload, 1) := by decide +kernel
theorem dL_law_697 : decode cL_law 697 = .ok (.aload_n 0, 1) := by decide +kernel
theorem dL_law_698 : decode cL_law 698 = .ok (.iload 4, 2) := by decide +kernel
theorem dL_law_700 : decode cL_law 700 = .ok (.iconst 2, 1) := by decide +kernel
theorem dL_law_701 : decode cL_law 701 = .ok (.iadd, 1) := by decide +kernel
theorem dL_law_702 : decode cL_law 702 = .ok (.iaload, 1) := by decide +kernel
theorem dL_law_703 : decode cL_law 703 = .ok (.ifCond .eq 7, 3) := by decide +kernel
theorem dL_law_706 : decode cL_law 706 = .ok (.iconst 1, 1) := by decide +kernel
theorem dL_law_707 : decode cL_law 707 = .ok (.goto 4, 3) := by decide +kernel
theorem dL_law_710 : decode cL_law 710 = .ok (.iconst 0, 1) := by decide +kernel
theorem dL_law_711 : decode cL_law 711 = .ok (.aload_n 3, 1) := by decide +kernel
theorem dL_law_712 : decode cL_law 712 = .ok (.invokestatic 101, 3) := by decide +kernel
theorem dL_law_715 : decode cL_law 715 = .ok (.istore 5, 2) := by decide +kernel
theorem dL_law_717 : decode cL_law 717 = .ok (.aload_n 2, 1) := by decide +kernel
theorem dL_law_718 : decode cL_law 718 = .ok (.aload_n 0, 1) := by decide +kernel
theorem dL_law_719 : decode cL_law 719 = .ok (.iload 4, 2) := by decide +kernel
theorem dL_law_721 : decode cL_law 721 = .ok (.iconst 1, 1) := by decide +kernel
theorem dL_law_722 : decode cL_law 722 = .ok (.iadd, 1) := by decide +kernel
theorem dL_law_723 : decode cL_law 723 = .ok (.iaload, 1) := by decide +kernel
theorem dL_law_724 : decode cL_law 724 = .ok (.aload_n 0, 1) := by decide +kernel
theorem dL_law_725 : decode cL_law 725 = .ok (.iload 4, 2) := by decide +kernel
theorem dL_law_727 : decode cL_law 727 = .ok (.iconst 2, 1) := by decide +kernel
theorem dL_law_728 : decode cL_law 728 = .ok (.iadd, 1) := by decide +kernel
theorem dL_law_729 : decode cL_law 729 = .ok (.iaload, 1) := by decide +kernel
theorem dL_law_730 : decode cL_law 730 = .ok (.ifCond .eq 7, 3) := by decide +kernel
theorem dL_law_733 : decode cL_law 733 = .ok (.iconst 1, 1) := by decide +kernel
theorem dL_law_734 : decode cL_law 734 = .ok (.goto 4, 3) := by decide +kernel
theorem dL_law_737 : decode cL_law 737 = .ok (.iconst 0, 1) := by decide +kernel
theorem dL_law_738 : decode cL_law 738 = .ok (.invokevirtual 104, 3) := by decide +kernel
theorem dL_law_741 : decode cL_law 741 = .ok (.istore 6, 2) := by decide +kernel
theorem dL_law_743 : decode cL_law 743 = .ok (.aload_n 2, 1) := by decide +kernel
theorem dL_law_744 : decode cL_law 744 = .ok (.invokevirtual 67, 3) := by decide +kernel
theorem dL_law_747 : decode cL_law 747 = .ok (.iload 5, 2) := by decide +kernel
theorem dL_law_749 : decode cL_law 749 = .ok (.if_icmp .eq 5, 3) := by decide +kernel
theorem dL_law_752 : decode cL_law 752 = .ok (.iconst 0, 1) := by decide +kernel
theorem dL_law_753 : decode cL_law 753 = .ok (.ireturn, 1) := by decide +kernel
theorem dL_law_754 : decode cL_law 754 = .ok (.iload 5, 2) := by decide +kernel
theorem dL_law_756 : decode cL_law 756 = .ok (.ifCond .ne 15, 3) := by decide +kernel
theorem dL_law_759 : decode cL_law 759 = .ok (.aload_n 3, 1) := by decide +kernel
theorem dL_law_760 : decode cL_law 760 = .ok (.iconst 0, 1) := by decide +kernel
theorem dL_law_761 : decode cL_law 761 = .ok (.laload, 1) := by decide +kernel
theorem dL_law_762 : decode cL_law 762 = .ok (.iload 6, 2) := by decide +kernel
theorem dL_law_764 : decode cL_law 764 = .ok (.i2l, 1) := by decide +kernel
theorem dL_law_765 : decode cL_law 765 = .ok (.lcmp, 1) := by decide +kernel
theorem dL_law_766 : decode cL_law 766 = .ok (.ifCond .eq 5, 3) := by decide +kernel
theorem dL_law_769 : decode cL_law 769 = .ok (.iconst 0, 1) := by decide +kernel
theorem dL_law_770 : decode cL_law 770 = .ok (.ireturn, 1) := by decide +kernel
theorem dL_law_771 : decode cL_law 771 = .ok (.goto 207, 3) := by decide +kernel
theorem dL_law_774 : decode cL_law 774 = .ok (.aload_n 1, 1) := by decide +kernel
theorem dL_law_775 : decode cL_law 775 = .ok (.aload_n 0, 1) := by decide +kernel
theorem dL_law_776 : decode cL_law 776 = .ok (.iload 4, 2) := by decide +kernel
theorem dL_law_778 : decode cL_law 778 = .ok (.iconst 1, 1) := by decide +kernel
theorem dL_law_779 : decode cL_law 779 = .ok (.iadd, 1) := by decide +kernel
theorem dL_law_780 : decode cL_law 780 = .ok (.iaload, 1) := by decide +kernel
theorem dL_law_781 : decode cL_law 781 = .ok (.aload_n 0, 1) := by decide +kernel
theorem dL_law_782 : decode cL_law 782 = .ok (.iload 4, 2) := by decide +kernel
theorem dL_law_784 : decode cL_law 784 = .ok (.iconst 2, 1) := by decide +kernel
theorem dL_law_785 : decode cL_law 785 = .ok (.iadd, 1) := by decide +kernel
theorem dL_law_786 : decode cL_law 786 = .ok (.iaload, 1) := by decide +kernel
theorem dL_law_787 : decode cL_law 787 = .ok (.aload_n 0, 1) := by decide +kernel
theorem dL_law_788 : decode cL_law 788 = .ok (.iload 4, 2) := by decide +kernel
theorem dL_law_790 : decode cL_law 790 = .ok (.iconst 3, 1) := by decide +kernel
theorem dL_law_791 : decode cL_law 791 = .ok (.iadd, 1) := by decide +kernel
theorem dL_law_792 : decode cL_law 792 = .ok (.iaload, 1) := by decide +kernel
theorem dL_law_793 : decode cL_law 793 = .ok (.aload_n 3, 1) := by decide +kernel
theorem dL_law_794 : decode cL_law 794 = .ok (.invokestatic 105, 3) := by decide +kernel
theorem dL_law_797 : decode cL_law 797 = .ok (.istore 5, 2) := by decide +kernel
theorem dL_law_799 : decode cL_law 799 = .ok (.aload_n 2, 1) := by decide +kernel
theorem dL_law_800 : decode cL_law 800 = .ok (.aload_n 0, 1) := by decide +kernel
theorem dL_law_801 : decode cL_law 801 = .ok (.iload 4, 2) := by decide +kernel
theorem dL_law_803 : decode cL_law 803 = .ok (.iconst 1, 1) := by decide +kernel
theorem dL_law_804 : decode cL_law 804 = .ok (.iadd, 1) := by decide +kernel
theorem dL_law_805 : decode cL_law 805 = .ok (.iaload, 1) := by decide +kernel
theorem dL_law_806 : decode cL_law 806 = .ok (.aload_n 0, 1) := by decide +kernel
theorem dL_law_807 : decode cL_law 807 = .ok (.iload 4, 2) := by decide +kernel
theorem dL_law_809 : decode cL_law 809 = .ok (.iconst 2, 1) := by decide +kernel
theorem dL_law_810 : decode cL_law 810 = .ok (.iadd, 1) := by decide +kernel
theorem dL_law_811 : decode cL_law 811 = .ok (.iaload, 1) := by decide +kernel
theorem dL_law_812 : decode cL_law 812 = .ok (.aload_n 0, 1) := by decide +kernel
theorem dL_law_813 : decode cL_law 813 = .ok (.iload 4, 2) := by decide +kernel
theorem dL_law_815 : decode cL_law 815 = .ok (.iconst 3, 1) := by decide +kernel
theorem dL_law_816 : decode cL_law 816 = .ok (.iadd, 1) := by decide +kernel
theorem dL_law_817 : decode cL_law 817 = .ok (.iaload, 1) := by decide +kernel
theorem dL_law_818 : decode cL_law 818 = .ok (.invokevirtual 107, 3) := by decide +kernel
theorem dL_law_821 : decode cL_law 821 = .ok (.istore 6, 2) := by decide +kernel
theorem dL_law_823 : decode cL_law 823 = .ok (.aload_n 2, 1) := by decide +kernel
theorem dL_law_824 : decode cL_law 824 = .ok (.invokevirtual 67, 3) := by decide +kernel
theorem dL_law_827 : decode cL_law 827 = .ok (.iload 5, 2) := by decide +kernel
theorem dL_law_829 : decode cL_law 829 = .ok (.if_icmp .eq 5, 3) := by decide +kernel
theorem dL_law_832 : decode cL_law 832 = .ok (.iconst 0, 1) := by decide +kernel
theorem dL_law_833 : decode cL_law 833 = .ok (.ireturn, 1) := by decide +kernel
theorem dL_law_834 : decode cL_law 834 = .ok (.iload 5, 2) := by decide +kernel
theorem dL_law_836 : decode cL_law 836 = .ok (.ifCond .ne 15, 3) := by decide +kernel
theorem dL_law_839 : decode cL_law 839 = .ok (.aload_n 3, 1) := by decide +kernel
theorem dL_law_840 : decode cL_law 840 = .ok (.iconst 0, 1) := by decide +kernel
theorem dL_law_841 : decode cL_law 841 = .ok (.laload, 1) := by decide +kernel
theorem dL_law_842 : decode cL_law 842 = .ok (.iload 6, 2) := by decide +kernel
theorem dL_law_844 : decode cL_law 844 = .ok (.i2l, 1) := by decide +kernel
theorem dL_law_845 : decode cL_law 845 = .ok (.lcmp, 1) := by decide +kernel
theorem dL_law_846 : decode cL_law 846 = .ok (.ifCond .eq 5, 3) := by decide +kernel
theorem dL_law_849 : decode cL_law 849 = .ok (.iconst 0, 1) := by decide +kernel
theorem dL_law_850 : decode cL_law 850 = .ok (.ireturn, 1) := by decide +kernel
theorem dL_law_851 : decode cL_law 851 = .ok (.goto 127, 3) := by decide +kernel
theorem dL_law_854 : decode cL_law 854 = .ok (.aload_n 1, 1) := by decide +kernel
theorem dL_law_855 : decode cL_law 855 = .ok (.aload_n 0, 1) := by decide +kernel
theorem dL_law_856 : decode cL_law 856 = .ok (.iload 4, 2) := by decide +kernel
theorem dL_law_858 : decode cL_law 858 = .ok (.iconst 1, 1) := by decide +kernel
theorem dL_law_859 : decode cL_law 859 = .ok (.iadd, 1) := by decide +kernel
theorem dL_law_860 : decode cL_law 860 = .ok (.iaload, 1) := by decide +kernel
theorem dL_law_861 : decode cL_law 861 = .ok (.aload_n 0, 1) := by decide +kernel
theorem dL_law_862 : decode cL_law 862 = .ok (.iload 4, 2) := by decide +kernel
theorem dL_law_864 : decode cL_law 864 = .ok (.iconst 2, 1) := by decide +kernel
theorem dL_law_865 : decode cL_law 865 = .ok (.iadd, 1) := by decide +kernel
theorem dL_law_866 : decode cL_law 866 = .ok (.iaload, 1) := by decide +kernel
theorem dL_law_867 : decode cL_law 867 = .ok (.aload_n 3, 1) := by decide +kernel
theorem dL_law_868 : decode cL_law 868 = .ok (.invokestatic 108, 3) := by decide +kernel
theorem dL_law_871 : decode cL_law 871 = .ok (.istore 5, 2) := by decide +kernel
theorem dL_law_873 : decode cL_law 873 = .ok (.aload_n 2, 1) := by decide +kernel
theorem dL_law_874 : decode cL_law 874 = .ok (.aload_n 0, 1) := by decide +kernel
theorem dL_law_875 : decode cL_law 875 = .ok (.iload 4, 2) := by decide +kernel
theorem dL_law_877 : decode cL_law 877 = .ok (.iconst 1, 1) := by decide +kernel
theorem dL_law_878 : decode cL_law 878 = .ok (.iadd, 1) := by decide +kernel
theorem dL_law_879 : decode cL_law 879 = .ok (.iaload, 1) := by decide +kernel
theorem dL_law_880 : decode cL_law 880 = .ok (.aload_n 0, 1) := by decide +kernel
theorem dL_law_881 : decode cL_law 881 = .ok (.iload 4, 2) := by decide +kernel
theorem dL_law_883 : decode cL_law 883 = .ok (.iconst 2, 1) := by decide +kernel
theorem dL_law_884 : decode cL_law 884 = .ok (.iadd, 1) := by decide +kernel
theorem dL_law_885 : decode cL_law 885 = .ok (.iaload, 1) := by decide +kernel
theorem dL_law_886 : decode cL_law 886 = .ok (.invokevirtual 110, 3) := by decide +kernel
theorem dL_law_889 : decode cL_law 889 = .ok (.istore 6, 2) := by decide +kernel
theorem dL_law_891 : decode cL_law 891 = .ok (.aload_n 2, 1) := by decide +kernel
theorem dL_law_892 : decode cL_law 892 = .ok (.invokevirtual 67, 3) := by decide +kernel
theorem dL_law_895 : decode cL_law 895 = .ok (.iload 5, 2) := by decide +kernel
theorem dL_law_897 : decode cL_law 897 = .ok (.if_icmp .eq 5, 3) := by decide +kernel
theorem dL_law_900 : decode cL_law 900 = .ok (.iconst 0, 1) := by decide +kernel
theorem dL_law_901 : decode cL_law 901 = .ok (.ireturn, 1) := by decide +kernel
theorem dL_law_902 : decode cL_law 902 = .ok (.iload 5, 2) := by decide +kernel
theorem dL_law_904 : decode cL_law 904 = .ok (.ifCond .ne 15, 3) := by decide +kernel
theorem dL_law_907 : decode cL_law 907 = .ok (.aload_n 3, 1) := by decide +kernel
theorem dL_law_908 : decode cL_law 908 = .ok (.iconst 0, 1) := by decide +kernel
theorem dL_law_909 : decode cL_law 909 = .ok (.laload, 1) := by decide +kernel
theorem dL_law_910 : decode cL_law 910 = .ok (.iload 6, 2) := by decide +kernel
theorem dL_law_912 : decode cL_law 912 = .ok (.i2l, 1) := by decide +kernel
theorem dL_law_913 : decode cL_law 913 = .ok (.lcmp, 1) := by decide +kernel
theorem dL_law_914 : decode cL_law 914 = .ok (.ifCond .eq 5, 3) := by decide +kernel
theorem dL_law_917 : decode cL_law 917 = .ok (.iconst 0, 1) := by decide +kernel
theorem dL_law_918 : decode cL_law 918 = .ok (.ireturn, 1) := by decide +kernel
theorem dL_law_919 : decode cL_law 919 = .ok (.goto 59, 3) := by decide +kernel
theorem dL_law_922 : decode cL_law 922 = .ok (.aload_n 1, 1) := by decide +kernel
theorem dL_law_923 : decode cL_law 923 = .ok (.aload_n 0, 1) := by decide +kernel
theorem dL_law_924 : decode cL_law 924 = .ok (.iload 4, 2) := by decide +kernel
theorem dL_law_926 : decode cL_law 926 = .ok (.iconst 1, 1) := by decide +kernel
theorem dL_law_927 : decode cL_law 927 = .ok (.iadd, 1) := by decide +kernel
theorem dL_law_928 : decode cL_law 928 = .ok (.iaload, 1) := by decide +kernel
theorem dL_law_929 : decode cL_law 929 = .ok (.aload_n 3, 1) := by decide +kernel
theorem dL_law_930 : decode cL_law 930 = .ok (.invokestatic 111, 3) := by decide +kernel
theorem dL_law_933 : decode cL_law 933 = .ok (.istore 5, 2) := by decide +kernel
theorem dL_law_935 : decode cL_law 935 = .ok (.aload_n 2, 1) := by decide +kernel
theorem dL_law_936 : decode cL_law 936 = .ok (.aload_n 0, 1) := by decide +kernel
theorem dL_law_937 : decode cL_law 937 = .ok (.iload 4, 2) := by decide +kernel
theorem dL_law_939 : decode cL_law 939 = .ok (.iconst 1, 1) := by decide +kernel
theorem dL_law_940 : decode cL_law 940 = .ok (.iadd, 1) := by decide +kernel
theorem dL_law_941 : decode cL_law 941 = .ok (.iaload, 1) := by decide +kernel
theorem dL_law_942 : decode cL_law 942 = .ok (.invokevirtual 114, 3) := by decide +kernel
theorem dL_law_945 : decode cL_law 945 = .ok (.istore 6, 2) := by decide +kernel
theorem dL_law_947 : decode cL_law 947 = .ok (.aload_n 2, 1) := by decide +kernel
theorem dL_law_948 : decode cL_law 948 = .ok (.invokevirtual 67, 3) := by decide +kernel
theorem dL_law_951 : decode cL_law 951 = .ok (.iload 5, 2) := by decide +kernel
theorem dL_law_953 : decode cL_law 953 = .ok (.if_icmp .eq 5, 3) := by decide +kernel
theorem dL_law_956 : decode cL_law 956 = .ok (.iconst 0, 1) := by decide +kernel
theorem dL_law_957 : decode cL_law 957 = .ok (.ireturn, 1) := by decide +kernel
theorem dL_law_958 : decode cL_law 958 = .ok (.iload 5, 2) := by decide +kernel
theorem dL_law_960 : decode cL_law 960 = .ok (.ifCond .ne 15, 3) := by decide +kernel
theorem dL_law_963 : decode cL_law 963 = .ok (.aload_n 3, 1) := by decide +kernel
theorem dL_law_964 : decode cL_law 964 = .ok (.iconst 0, 1) := by decide +kernel
theorem dL_law_965 : decode cL_law 965 = .ok (.laload, 1) := by decide +kernel
theorem dL_law_966 : decode cL_law 966 = .ok (.iload 6, 2) := by decide +kernel
theorem dL_law_968 : decode cL_law 968 = .ok (.i2l, 1) := by decide +kernel
theorem dL_law_969 : decode cL_law 969 = .ok (.lcmp, 1) := by decide +kernel
theorem dL_law_970 : decode cL_law 970 = .ok (.ifCond .eq 5, 3) := by decide +kernel
theorem dL_law_973 : decode cL_law 973 = .ok (.iconst 0, 1) := by decide +kernel
theorem dL_law_974 : decode cL_law 974 = .ok (.ireturn, 1) := by decide +kernel
theorem dL_law_975 : decode cL_law 975 = .ok (.goto 3, 3) := by decide +kernel
theorem dL_law_978 : decode cL_law 978 = .ok (.iinc 4 4, 3) := by decide +kernel
theorem dL_law_981 : decode cL_law 981 = .ok (.goto (-958), 3) := by decide +kernel
theorem dL_law_984 : decode cL_law 984 = .ok (.iconst 1, 1) := by decide +kernel
theorem dL_law_985 : decode cL_law 985 = .ok (.ireturn, 1) := by decide +kernel
end
section
/-! the tables' words that ride along everywhere, each by its place -/
def ALL : List Cond := lw_tbl.filter goodWord
theorem ALL_in {w : Cond} (h : w ∈ ALL) : w ∈ lw_tbl := (List.mem_filter.mp h).1
theorem mA0 {w : Cond} (i : Nat) (h : (k2_sels lw_privs)[i]? = some w) (g : goodWord w = true) : w ∈ ALL := List.mem_filter.mpr ⟨List.mem_append_left _ (List.mem_of_getElem? h), g⟩
theorem mT1 {w : Cond} (i : Nat) (h : tables_1_1[i]? = some w) : w ∈ lw_tbl := List.mem_append_right _ (List.mem_append_left _ (List.mem_of_getElem? h))
theorem mT2 {w : Cond} (i : Nat) (h : tables_1_2[i]? = some w) : w ∈ lw_tbl := List.mem_append_right _ (List.mem_append_right _ (List.mem_append_left _ (List.mem_of_getElem? h)))
theorem mT3 {w : Cond} (i : Nat) (h : tables_1_3[i]? = some w) : w ∈ lw_tbl := List.mem_append_right _ (List.mem_append_right _ (List.mem_append_right _ (List.mem_append_left _ (List.mem_of_getElem? h))))
theorem mT4 {w : Cond} (i : Nat) (h : tables_1_4[i]? = some w) : w ∈ lw_tbl := List.mem_append_right _ (List.mem_append_right _ (List.mem_append_right _ (List.mem_append_right _ (List.mem_of_getElem? h))))
theorem mA1 {w : Cond} (i : Nat) (h : tables_1_1[i]? = some w) (g : goodWord w = true) : w ∈ ALL := List.mem_filter.mpr ⟨mT1 i h, g⟩
theorem mA2 {w : Cond} (i : Nat) (h : tables_1_2[i]? = some w) (g : goodWord w = true) : w ∈ ALL := List.mem_filter.mpr ⟨mT2 i h, g⟩
theorem mA3 {w : Cond} (i : Nat) (h : tables_1_3[i]? = some w) (g : goodWord w = true) : w ∈ ALL := List.mem_filter.mpr ⟨mT3 i h, g⟩
theorem mA4 {w : Cond} (i : Nat) (h : tables_1_4[i]? = some w) (g : goodWord w = true) : w ∈ ALL := List.mem_filter.mpr ⟨mT4 i h, g⟩
theorem wd1_0 : Cond.initialized RL ∈ ALL := mA1 0 rfl rfl
theorem wd1_1 : Cond.initialized RX7 ∈ ALL := mA1 1 rfl rfl
theorem wd1_2 : Cond.initialized RX4 ∈ ALL := mA1 2 rfl rfl
theorem wd1_3 : Cond.initialized RJ7 ∈ ALL := mA1 3 rfl rfl
theorem wd1_4 : Cond.initialized RX6 ∈ ALL := mA1 4 rfl rfl
theorem wd1_5 : Cond.initialized RX5 ∈ ALL := mA1 5 rfl rfl
theorem wd1_6 : Cond.initialized RX3 ∈ ALL := mA1 6 rfl rfl
theorem wd1_7 : Cond.initialized RX2 ∈ ALL := mA1 7 rfl rfl
theorem wd1_8 : Cond.initialized RX1 ∈ ALL := mA1 8 rfl rfl
theorem wd1_9 : Cond.initialized RX0 ∈ ALL := mA1 9 rfl rfl
theorem wd1_10 : Cond.initialized RX8 ∈ ALL := mA1 10 rfl rfl
theorem wd1_11 : Cond.initialized "java/lang/Throwable" ∈ ALL := mA1 11 rfl rfl
theorem wd1_12 : Cond.initialized "java/lang/Exception" ∈ ALL := mA1 12 rfl rfl
theorem wd1_13 : Cond.initialized "java/lang/RuntimeException" ∈ ALL := mA1 13 rfl rfl
theorem wd1_14 : Cond.initialized "java/util/NoSuchElementException" ∈ ALL := mA1 14 rfl rfl
theorem wd1_15 : Cond.initialized "java/lang/IllegalArgumentException" ∈ ALL := mA1 15 rfl rfl
theorem wd1_16 : Cond.initialized "java/lang/UnsupportedOperationException" ∈ ALL := mA1 16 rfl rfl
theorem wd1_17 : Cond.initialized "java/lang/IndexOutOfBoundsException" ∈ ALL := mA1 17 rfl rfl
theorem wd1_18 : Cond.initialized RJ9 ∈ ALL := mA1 18 rfl rfl
theorem wd1_19 : Cond.classLink RL 8 RX7 ∈ ALL := mA1 19 rfl rfl
theorem wd1_20 : Cond.instantiable RX7 17 ∈ ALL := mA1 20 rfl rfl
theorem wd1_21 : Cond.methodLink RL 57 yX7_init ∈ ALL := mA1 21 rfl rfl
theorem wd1_22 : Cond.instanceMethod yX7_init ∈ ALL := mA1 22 rfl rfl
theorem wd1_23 : Cond.code yX7_init cX7_init 1 none ∈ ALL := mA1 23 rfl rfl
theorem wd1_24 : Cond.methodLink RX7 3 ⟨"java/lang/Object", "<init>", "()V"⟩ ∈ ALL := mA1 24 rfl rfl
theorem wd1_25 : Cond.instanceMethod ⟨"java/lang/Object", "<init>", "()V"⟩ ∈ ALL := mA1 25 rfl rfl
theorem wd1_27 : Cond.classLink RX7 9 RX4 ∈ ALL := mA1 27 rfl rfl
theorem wd1_28 : Cond.instantiable RX4 1 ∈ ALL := mA1 28 rfl rfl
theorem wd1_29 : Cond.methodLink RX7 11 yX4_init ∈ ALL := mA1 29 rfl rfl
theorem wd1_30 : Cond.instanceMethod yX4_init ∈ ALL := mA1 30 rfl rfl
theorem wd1_31 : Cond.code yX4_init cX4_init 1 none ∈ ALL := mA1 31 rfl rfl
theorem wd1_32 : Cond.methodLink RX4 3 ⟨"java/lang/Object", "<init>", "()V"⟩ ∈ ALL := mA1 32 rfl rfl
theorem wd1_33 : Cond.methodLink RX4 15 yJ7_fill_53178 ∈ ALL := mA1 33 rfl rfl
theorem wd1_34 : Cond.static yJ7_fill_53178 ∈ ALL := mA1 34 rfl rfl
theorem wd1_35 : Cond.code yJ7_fill_53178 cJ7_fill_53178 4 none ∈ ALL := mA1 35 rfl rfl
theorem wd1_36 : Cond.fieldLink RX4 9 "StructureRows$Roles" "targets" "[I" ∈ ALL := mA1 36 rfl rfl
theorem wd1_37 : Cond.laysFinal RX4 "StructureRows$Roles" "targets" "[I" ∈ ALL := mA1 37 rfl rfl
theorem wd1_40 : Cond.arrayClass .int ∈ ALL := mA1 40 rfl rfl
theorem wd1_41 : Cond.classLink RX7 16 RX6 ∈ ALL := mA1 41 rfl rfl
theorem wd1_42 : Cond.instantiable RX6 8 ∈ ALL := mA1 42 rfl rfl
theorem wd1_43 : Cond.methodLink RX7 18 yX6_init ∈ ALL := mA1 43 rfl rfl
theorem wd1_44 : Cond.instanceMethod yX6_init ∈ ALL := mA1 44 rfl rfl
theorem wd1_45 : Cond.code yX6_init cX6_init 2 none ∈ ALL := mA1 45 rfl rfl
theorem wd1_46 : Cond.methodLink RX6 3 ⟨"java/lang/Object", "<init>", "()V"⟩ ∈ ALL := mA1 46 rfl rfl
theorem wd1_47 : Cond.methodLink RX6 38 yJ7_fill_53178 ∈ ALL := mA1 47 rfl rfl
theorem wd1_48 : Cond.fieldLink RX6 34 "StructureRows$Tree" "roles" "LStructureRows$Roles;" ∈ ALL := mA1 48 rfl rfl
theorem wd1_49 : Cond.fieldLink RX6 9 "StructureRows$Tree" "elementRoles" "[I" ∈ ALL := mA1 49 rfl rfl
theorem wd1_50 : Cond.fieldLink RX6 15 "StructureRows$Tree" "firstKids" "[I" ∈ ALL := mA1 50 rfl rfl
theorem wd1_51 : Cond.fieldLink RX6 18 "StructureRows$Tree" "lastKids" "[I" ∈ ALL := mA1 51 rfl rfl
theorem wd1_52 : Cond.fieldLink RX6 21 "StructureRows$Tree" "parents" "[I" ∈ ALL := mA1 52 rfl rfl
theorem wd1_53 : Cond.fieldLink RX6 24 "StructureRows$Tree" "nextKids" "[I" ∈ ALL := mA1 53 rfl rfl
theorem wd1_54 : Cond.fieldLink RX6 27 "StructureRows$Tree" "elements" "I" ∈ ALL := mA1 54 rfl rfl
theorem wd1_56 : Cond.fieldLink RX6 31 "StructureRows$Tree" "parts" "I" ∈ ALL := mA1 56 rfl rfl
theorem wd1_58 : Cond.laysFinal RX6 "StructureRows$Tree" "roles" "LStructureRows$Roles;" ∈ ALL := mA1 58 rfl rfl
theorem wd1_60 : Cond.laysFinal RX6 "StructureRows$Tree" "elementRoles" "[I" ∈ ALL := mA1 60 rfl rfl
theorem wd1_62 : Cond.laysFinal RX6 "StructureRows$Tree" "firstKids" "[I" ∈ ALL := mA1 62 rfl rfl
theorem wd1_64 : Cond.laysFinal RX6 "StructureRows$Tree" "lastKids" "[I" ∈ ALL := mA1 64 rfl rfl
theorem wd1_66 : Cond.laysFinal RX6 "StructureRows$Tree" "parents" "[I" ∈ ALL := mA1 66 rfl rfl
theorem wd1_68 : Cond.laysFinal RX6 "StructureRows$Tree" "nextKids" "[I" ∈ ALL := mA1 68 rfl rfl
theorem wd1_70 : Cond.lays RX6 "StructureRows$Tree" "elements" "I" ∈ ALL := mA1 70 rfl rfl
theorem wd1_72 : Cond.lays RX6 "StructureRows$Tree" "parts" "I" ∈ ALL := mA1 72 rfl rfl
theorem wd1_75 : Cond.classLink RX7 25 RX5 ∈ ALL := mA1 75 rfl rfl
theorem wd1_76 : Cond.instantiable RX5 5 ∈ ALL := mA1 76 rfl rfl
theorem wd1_77 : Cond.methodLink RX7 27 yX5_init ∈ ALL := mA1 77 rfl rfl
theorem wd1_78 : Cond.instanceMethod yX5_init ∈ ALL := mA1 78 rfl rfl
theorem wd1_79 : Cond.code yX5_init cX5_init 2 none ∈ ALL := mA1 79 rfl rfl
theorem wd1_80 : Cond.methodLink RX5 3 ⟨"java/lang/Object", "<init>", "()V"⟩ ∈ ALL := mA1 80 rfl rfl
theorem wd1_81 : Cond.fieldLink RX5 25 "StructureRows$Trail" "tree" "LStructureRows$Tree;" ∈ ALL := mA1 81 rfl rfl
theorem wd1_82 : Cond.fieldLink RX5 9 "StructureRows$Trail" "elementNumbers" "[I" ∈ ALL := mA1 82 rfl rfl
theorem wd1_84 : Cond.fieldLink RX5 15 "StructureRows$Trail" "partCodes" "[I" ∈ ALL := mA1 84 rfl rfl
theorem wd1_86 : Cond.fieldLink RX5 18 "StructureRows$Trail" "elements" "I" ∈ ALL := mA1 86 rfl rfl
theorem wd1_88 : Cond.fieldLink RX5 22 "StructureRows$Trail" "parts" "I" ∈ ALL := mA1 88 rfl rfl
theorem wd1_90 : Cond.laysFinal RX5 "StructureRows$Trail" "tree" "LStructureRows$Tree;" ∈ ALL := mA1 90 rfl rfl
theorem wd1_92 : Cond.laysFinal RX5 "StructureRows$Trail" "elementNumbers" "[I" ∈ ALL := mA1 92 rfl rfl
theorem wd1_94 : Cond.laysFinal RX5 "StructureRows$Trail" "partCodes" "[I" ∈ ALL := mA1 94 rfl rfl
theorem wd1_96 : Cond.lays RX5 "StructureRows$Trail" "elements" "I" ∈ ALL := mA1 96 rfl rfl
theorem wd1_98 : Cond.lays RX5 "StructureRows$Trail" "parts" "I" ∈ ALL := mA1 98 rfl rfl
theorem wd1_101 : Cond.classLink RX7 34 RX3 ∈ ALL := mA1 101 rfl rfl
theorem wd1_102 : Cond.instantiable RX3 3 ∈ ALL := mA1 102 rfl rfl
theorem wd1_103 : Cond.methodLink RX7 36 yX3_init ∈ ALL := mA1 103 rfl rfl
theorem wd1_104 : Cond.instanceMethod yX3_init ∈ ALL := mA1 104 rfl rfl
theorem wd1_105 : Cond.code yX3_init cX3_init 1 none ∈ ALL := mA1 105 rfl rfl
theorem wd1_106 : Cond.methodLink RX3 3 ⟨"java/lang/Object", "<init>", "()V"⟩ ∈ ALL := mA1 106 rfl rfl
theorem wd1_107 : Cond.methodLink RX3 21 yJ7_fill_53178 ∈ ALL := mA1 107 rfl rfl
theorem wd1_108 : Cond.fieldLink RX3 9 "StructureRows$Pages" "codes" "[I" ∈ ALL := mA1 108 rfl rfl
theorem wd1_109 : Cond.fieldLink RX3 15 "StructureRows$Pages" "places" "[I" ∈ ALL := mA1 109 rfl rfl
theorem wd1_110 : Cond.fieldLink RX3 18 "StructureRows$Pages" "counts" "[I" ∈ ALL := mA1 110 rfl rfl
theorem wd1_111 : Cond.laysFinal RX3 "StructureRows$Pages" "codes" "[I" ∈ ALL := mA1 111 rfl rfl
theorem wd1_113 : Cond.laysFinal RX3 "StructureRows$Pages" "places" "[I" ∈ ALL := mA1 113 rfl rfl
theorem wd1_115 : Cond.laysFinal RX3 "StructureRows$Pages" "counts" "[I" ∈ ALL := mA1 115 rfl rfl
theorem wd1_118 : Cond.classLink RX7 41 RX2 ∈ ALL := mA1 118 rfl rfl
theorem wd1_119 : Cond.instantiable RX2 4 ∈ ALL := mA1 119 rfl rfl
theorem wd1_121 : Cond.instanceMethod yX2_init ∈ ALL := mA1 121 rfl rfl
theorem wd1_122 : Cond.code yX2_init cX2_init 1 none ∈ ALL := mA1 122 rfl rfl
theorem wd1_123 : Cond.methodLink RX2 3 ⟨"java/lang/Object", "<init>", "()V"⟩ ∈ ALL := mA1 123 rfl rfl
theorem wd1_124 : Cond.fieldLink RX2 9 "StructureRows$Headings" "elements" "[I" ∈ ALL := mA1 124 rfl rfl
theorem wd1_126 : Cond.fieldLink RX2 15 "StructureRows$Headings" "levels" "[I" ∈ ALL := mA1 126 rfl rfl
theorem wd1_128 : Cond.fieldLink RX2 18 "StructureRows$Headings" "depths" "[I" ∈ ALL := mA1 128 rfl rfl
theorem wd1_130 : Cond.fieldLink RX2 21 "StructureRows$Headings" "count" "I" ∈ ALL := mA1 130 rfl rfl
theorem wd1_132 : Cond.laysFinal RX2 "StructureRows$Headings" "elements" "[I" ∈ ALL := mA1 132 rfl rfl
theorem wd1_134 : Cond.laysFinal RX2 "StructureRows$Headings" "levels" "[I" ∈ ALL := mA1 134 rfl rfl
theorem wd1_136 : Cond.laysFinal RX2 "StructureRows$Headings" "depths" "[I" ∈ ALL := mA1 136 rfl rfl
theorem wd1_138 : Cond.lays RX2 "StructureRows$Headings" "count" "I" ∈ ALL := mA1 138 rfl rfl
theorem wd1_141 : Cond.classLink RX7 48 RX1 ∈ ALL := mA1 141 rfl rfl
theorem wd1_142 : Cond.instantiable RX1 6 ∈ ALL := mA1 142 rfl rfl
theorem wd1_144 : Cond.instanceMethod yX1_init ∈ ALL := mA1 144 rfl rfl
theorem wd1_145 : Cond.code yX1_init cX1_init 1 none ∈ ALL := mA1 145 rfl rfl
theorem wd1_146 : Cond.methodLink RX1 3 ⟨"java/lang/Object", "<init>", "()V"⟩ ∈ ALL := mA1 146 rfl rfl
theorem wd1_147 : Cond.fieldLink RX1 11 "StructureRows$Grid" "freeFrom" "[I" ∈ ALL := mA1 147 rfl rfl
theorem wd1_148 : Cond.fieldLink RX1 15 "StructureRows$Grid" "used" "I" ∈ ALL := mA1 148 rfl rfl
theorem wd1_149 : Cond.fieldLink RX1 19 "StructureRows$Grid" "row" "I" ∈ ALL := mA1 149 rfl rfl
theorem wd1_150 : Cond.fieldLink RX1 22 "StructureRows$Grid" "place" "I" ∈ ALL := mA1 150 rfl rfl
theorem wd1_151 : Cond.fieldLink RX1 25 "StructureRows$Grid" "width" "I" ∈ ALL := mA1 151 rfl rfl
theorem wd1_152 : Cond.fieldLink RX1 28 "StructureRows$Grid" "uneven" "Z" ∈ ALL := mA1 152 rfl rfl
theorem wd1_154 : Cond.laysFinal RX1 "StructureRows$Grid" "freeFrom" "[I" ∈ ALL := mA1 154 rfl rfl
theorem wd1_156 : Cond.lays RX1 "StructureRows$Grid" "used" "I" ∈ ALL := mA1 156 rfl rfl
theorem wd1_158 : Cond.lays RX1 "StructureRows$Grid" "row" "I" ∈ ALL := mA1 158 rfl rfl
theorem wd1_160 : Cond.lays RX1 "StructureRows$Grid" "place" "I" ∈ ALL := mA1 160 rfl rfl
theorem wd1_162 : Cond.lays RX1 "StructureRows$Grid" "width" "I" ∈ ALL := mA1 162 rfl rfl
theorem wd1_164 : Cond.lays RX1 "StructureRows$Grid" "uneven" "Z" ∈ ALL := mA1 164 rfl rfl
theorem wd1_167 : Cond.classLink RX7 55 RX0 ∈ ALL := mA1 167 rfl rfl
theorem wd1_168 : Cond.instantiable RX0 4 ∈ ALL := mA1 168 rfl rfl
theorem wd1_170 : Cond.instanceMethod yX0_init ∈ ALL := mA1 170 rfl rfl
theorem wd1_171 : Cond.code yX0_init cX0_init 1 none ∈ ALL := mA1 171 rfl rfl
theorem wd1_172 : Cond.methodLink RX0 3 ⟨"java/lang/Object", "<init>", "()V"⟩ ∈ ALL := mA1 172 rfl rfl
theorem wd1_173 : Cond.fieldLink RX0 11 "StructureRows$Faults" "kinds" "[I" ∈ ALL := mA1 173 rfl rfl
theorem wd1_175 : Cond.fieldLink RX0 15 "StructureRows$Faults" "elements" "[I" ∈ ALL := mA1 175 rfl rfl
theorem wd1_177 : Cond.fieldLink RX0 18 "StructureRows$Faults" "numbers" "[I" ∈ ALL := mA1 177 rfl rfl
theorem wd1_179 : Cond.fieldLink RX0 21 "StructureRows$Faults" "count" "I" ∈ ALL := mA1 179 rfl rfl
theorem wd1_181 : Cond.laysFinal RX0 "StructureRows$Faults" "kinds" "[I" ∈ ALL := mA1 181 rfl rfl
theorem wd1_183 : Cond.laysFinal RX0 "StructureRows$Faults" "elements" "[I" ∈ ALL := mA1 183 rfl rfl
theorem wd1_185 : Cond.laysFinal RX0 "StructureRows$Faults" "numbers" "[I" ∈ ALL := mA1 185 rfl rfl
theorem wd1_187 : Cond.lays RX0 "StructureRows$Faults" "count" "I" ∈ ALL := mA1 187 rfl rfl
theorem wd1_190 : Cond.methodLink RX7 95 yJ7_fill_53178 ∈ ALL := mA1 190 rfl rfl
theorem wd1_191 : Cond.fieldLink RX7 12 "StructureRows" "roles" "LStructureRows$Roles;" ∈ ALL := mA1 191 rfl rfl
theorem wd1_192 : Cond.fieldLink RX7 21 "StructureRows" "tree" "LStructureRows$Tree;" ∈ ALL := mA1 192 rfl rfl
theorem wd1_193 : Cond.fieldLink RX7 30 "StructureRows" "trail" "LStructureRows$Trail;" ∈ ALL := mA1 193 rfl rfl
theorem wd1_194 : Cond.fieldLink RX7 37 "StructureRows" "pages" "LStructureRows$Pages;" ∈ ALL := mA1 194 rfl rfl
theorem wd1_195 : Cond.fieldLink RX7 44 "StructureRows" "headings" "LStructureRows$Headings;" ∈ ALL := mA1 195 rfl rfl
theorem wd1_196 : Cond.fieldLink RX7 51 "StructureRows" "grid" "LStructureRows$Grid;" ∈ ALL := mA1 196 rfl rfl
theorem wd1_197 : Cond.fieldLink RX7 58 "StructureRows" "faults" "LStructureRows$Faults;" ∈ ALL := mA1 197 rfl rfl
theorem wd1_198 : Cond.fieldLink RX7 62 "StructureRows" "levels" "[I" ∈ ALL := mA1 198 rfl rfl
theorem wd1_199 : Cond.fieldLink RX7 66 "StructureRows" "worded" "[Z" ∈ ALL := mA1 199 rfl rfl
theorem wd1_200 : Cond.fieldLink RX7 70 "StructureRows" "spanRows" "[I" ∈ ALL := mA1 200 rfl rfl
theorem wd1_201 : Cond.fieldLink RX7 73 "StructureRows" "spanColumns" "[I" ∈ ALL := mA1 201 rfl rfl
theorem wd1_202 : Cond.fieldLink RX7 76 "StructureRows" "repeatElements" "[I" ∈ ALL := mA1 202 rfl rfl
theorem wd1_203 : Cond.fieldLink RX7 79 "StructureRows" "repeatCodes" "[I" ∈ ALL := mA1 203 rfl rfl
theorem wd1_204 : Cond.fieldLink RX7 82 "StructureRows" "repeats" "I" ∈ ALL := mA1 204 rfl rfl
theorem wd1_205 : Cond.fieldLink RX7 86 "StructureRows" "looseCodes" "[I" ∈ ALL := mA1 205 rfl rfl
theorem wd1_206 : Cond.fieldLink RX7 89 "StructureRows" "loose" "I" ∈ ALL := mA1 206 rfl rfl
theorem wd1_207 : Cond.fieldLink RX7 92 "StructureRows" "latestPlaces" "[I" ∈ ALL := mA1 207 rfl rfl
theorem wd1_208 : Cond.laysFinal RX7 "StructureRows" "roles" "LStructureRows$Roles;" ∈ ALL := mA1 208 rfl rfl
theorem wd1_210 : Cond.laysFinal RX7 "StructureRows" "tree" "LStructureRows$Tree;" ∈ ALL := mA1 210 rfl rfl
theorem wd1_212 : Cond.laysFinal RX7 "StructureRows" "trail" "LStructureRows$Trail;" ∈ ALL := mA1 212 rfl rfl
theorem wd1_214 : Cond.laysFinal RX7 "StructureRows" "pages" "LStructureRows$Pages;" ∈ ALL := mA1 214 rfl rfl
theorem wd1_216 : Cond.laysFinal RX7 "StructureRows" "headings" "LStructureRows$Headings;" ∈ ALL := mA1 216 rfl rfl
theorem wd1_218 : Cond.laysFinal RX7 "StructureRows" "grid" "LStructureRows$Grid;" ∈ ALL := mA1 218 rfl rfl
theorem wd1_220 : Cond.laysFinal RX7 "StructureRows" "faults" "LStructureRows$Faults;" ∈ ALL := mA1 220 rfl rfl
theorem wd1_222 : Cond.laysFinal RX7 "StructureRows" "levels" "[I" ∈ ALL := mA1 222 rfl rfl
theorem wd1_224 : Cond.laysFinal RX7 "StructureRows" "worded" "[Z" ∈ ALL := mA1 224 rfl rfl
theorem wd1_226 : Cond.laysFinal RX7 "StructureRows" "spanRows" "[I" ∈ ALL := mA1 226 rfl rfl
theorem wd1_228 : Cond.laysFinal RX7 "StructureRows" "spanColumns" "[I" ∈ ALL := mA1 228 rfl rfl
theorem wd1_230 : Cond.laysFinal RX7 "StructureRows" "repeatElements" "[I" ∈ ALL := mA1 230 rfl rfl
theorem wd1_232 : Cond.laysFinal RX7 "StructureRows" "repeatCodes" "[I" ∈ ALL := mA1 232 rfl rfl
theorem wd1_234 : Cond.lays RX7 "StructureRows" "repeats" "I" ∈ ALL := mA1 234 rfl rfl
theorem wd1_236 : Cond.laysFinal RX7 "StructureRows" "looseCodes" "[I" ∈ ALL := mA1 236 rfl rfl
theorem wd1_238 : Cond.lays RX7 "StructureRows" "loose" "I" ∈ ALL := mA1 238 rfl rfl
theorem wd2_0 : Cond.laysFinal RX7 "StructureRows" "latestPlaces" "[I" ∈ ALL := mA2 0 rfl rfl
theorem wd2_3 : Cond.arrayClass .boolean ∈ ALL := mA2 3 rfl rfl
theorem wd2_4 : Cond.methodLink RL 81 yX7_walk ∈ ALL := mA2 4 rfl rfl
theorem wd2_5 : Cond.instanceMethod yX7_walk ∈ ALL := mA2 5 rfl rfl
theorem wd2_6 : Cond.selects RX7 yX7_walk yX7_walk ∈ ALL := mA2 6 rfl rfl
theorem wd2_7 : Cond.code yX7_walk cX7_walk 1 (some .int) ∈ ALL := mA2 7 rfl rfl
theorem wd2_8 : Cond.methodLink RX7 162 yX5_follow ∈ ALL := mA2 8 rfl rfl
theorem wd2_9 : Cond.instanceMethod yX5_follow ∈ ALL := mA2 9 rfl rfl
theorem wd2_10 : Cond.selects RX5 yX5_follow yX5_follow ∈ ALL := mA2 10 rfl rfl
theorem wd2_11 : Cond.code yX5_follow cX5_follow 3 none ∈ ALL := mA2 11 rfl rfl
theorem wd2_12 : Cond.methodLink RX5 29 yX6_isElement ∈ ALL := mA2 12 rfl rfl
theorem wd2_13 : Cond.static yX6_isElement ∈ ALL := mA2 13 rfl rfl
theorem wd2_14 : Cond.code yX6_isElement cX6_isElement 1 (some .boolean) ∈ ALL := mA2 14 rfl rfl
theorem wd2_15 : Cond.methodLink RX5 35 yX5_passElement ∈ ALL := mA2 15 rfl rfl
theorem wd2_17 : Cond.instanceMethod yX5_passElement ∈ ALL := mA2 17 rfl rfl
theorem wd2_18 : Cond.code yX5_passElement cX5_passElement 2 (some .int) ∈ ALL := mA2 18 rfl rfl
theorem wd2_19 : Cond.methodLink RX5 42 yX6_standardOf ∈ ALL := mA2 19 rfl rfl
theorem wd2_20 : Cond.instanceMethod yX6_standardOf ∈ ALL := mA2 20 rfl rfl
theorem wd2_21 : Cond.selects RX6 yX6_standardOf yX6_standardOf ∈ ALL := mA2 21 rfl rfl
theorem wd2_22 : Cond.code yX6_standardOf cX6_standardOf 2 (some .int) ∈ ALL := mA2 22 rfl rfl
theorem wd2_23 : Cond.methodLink RX6 48 yX4_standardOf ∈ ALL := mA2 23 rfl rfl
theorem wd2_24 : Cond.instanceMethod yX4_standardOf ∈ ALL := mA2 24 rfl rfl
theorem wd2_25 : Cond.selects RX4 yX4_standardOf yX4_standardOf ∈ ALL := mA2 25 rfl rfl
theorem wd2_26 : Cond.code yX4_standardOf cX4_standardOf 4 (some .int) ∈ ALL := mA2 26 rfl rfl
theorem wd2_27 : Cond.methodLink RX4 21 yX4_isOwn ∈ ALL := mA2 27 rfl rfl
theorem wd2_28 : Cond.static yX4_isOwn ∈ ALL := mA2 28 rfl rfl
theorem wd2_29 : Cond.code yX4_isOwn cX4_isOwn 1 (some .boolean) ∈ ALL := mA2 29 rfl rfl
theorem wd2_30 : Cond.methodLink RX5 45 yX6_firstBehind ∈ ALL := mA2 30 rfl rfl
theorem wd2_31 : Cond.instanceMethod yX6_firstBehind ∈ ALL := mA2 31 rfl rfl
theorem wd2_32 : Cond.selects RX6 yX6_firstBehind yX6_firstBehind ∈ ALL := mA2 32 rfl rfl
theorem wd2_33 : Cond.code yX6_firstBehind cX6_firstBehind 4 (some .int) ∈ ALL := mA2 33 rfl rfl
theorem wd2_34 : Cond.methodLink RX5 48 yX6_firstIn ∈ ALL := mA2 34 rfl rfl
theorem wd2_35 : Cond.instanceMethod yX6_firstIn ∈ ALL := mA2 35 rfl rfl
theorem wd2_36 : Cond.selects RX6 yX6_firstIn yX6_firstIn ∈ ALL := mA2 36 rfl rfl
theorem wd2_37 : Cond.code yX6_firstIn cX6_firstIn 2 (some .int) ∈ ALL := mA2 37 rfl rfl
theorem wd2_38 : Cond.methodLink RX6 54 yX6_hasKids ∈ ALL := mA2 38 rfl rfl
theorem wd2_39 : Cond.instanceMethod yX6_hasKids ∈ ALL := mA2 39 rfl rfl
theorem wd2_40 : Cond.selects RX6 yX6_hasKids yX6_hasKids ∈ ALL := mA2 40 rfl rfl
theorem wd2_41 : Cond.code yX6_hasKids cX6_hasKids 2 (some .boolean) ∈ ALL := mA2 41 rfl rfl
theorem wd2_42 : Cond.methodLink RX6 58 yX6_firstBehind ∈ ALL := mA2 42 rfl rfl
theorem wd2_43 : Cond.methodLink RX5 39 yX5_passPart ∈ ALL := mA2 43 rfl rfl
theorem wd2_45 : Cond.instanceMethod yX5_passPart ∈ ALL := mA2 45 rfl rfl
theorem wd2_46 : Cond.code yX5_passPart cX5_passPart 2 (some .int) ∈ ALL := mA2 46 rfl rfl
theorem wd2_47 : Cond.methodLink RX5 51 yX6_codeOf ∈ ALL := mA2 47 rfl rfl
theorem wd2_48 : Cond.static yX6_codeOf ∈ ALL := mA2 48 rfl rfl
theorem wd2_49 : Cond.code yX6_codeOf cX6_codeOf 1 (some .int) ∈ ALL := mA2 49 rfl rfl
theorem wd2_50 : Cond.methodLink RL 91 yX7_check ∈ ALL := mA2 50 rfl rfl
theorem wd2_51 : Cond.instanceMethod yX7_check ∈ ALL := mA2 51 rfl rfl
theorem wd2_52 : Cond.selects RX7 yX7_check yX7_check ∈ ALL := mA2 52 rfl rfl
theorem wd2_53 : Cond.code yX7_check cX7_check 1 (some .int) ∈ ALL := mA2 53 rfl rfl
theorem wd2_54 : Cond.methodLink RX7 180 yX7_findElementsWithoutStandard ∈ ALL := mA2 54 rfl rfl
theorem wd2_56 : Cond.instanceMethod yX7_findElementsWithoutStandard ∈ ALL := mA2 56 rfl rfl
theorem wd2_57 : Cond.code yX7_findElementsWithoutStandard cX7_findElementsWithoutStandard 2 none ∈ ALL := mA2 57 rfl rfl
theorem wd2_58 : Cond.methodLink RX7 253 yX6_standardOf ∈ ALL := mA2 58 rfl rfl
theorem wd2_59 : Cond.methodLink RX7 265 yX0_append ∈ ALL := mA2 59 rfl rfl
theorem wd2_60 : Cond.instanceMethod yX0_append ∈ ALL := mA2 60 rfl rfl
theorem wd2_61 : Cond.selects RX0 yX0_append yX0_append ∈ ALL := mA2 61 rfl rfl
theorem wd2_62 : Cond.code yX0_append cX0_append 4 none ∈ ALL := mA2 62 rfl rfl
theorem wd2_63 : Cond.methodLink RX7 183 yX7_findHeadingsWithoutLevel ∈ ALL := mA2 63 rfl rfl
theorem wd2_65 : Cond.instanceMethod yX7_findHeadingsWithoutLevel ∈ ALL := mA2 65 rfl rfl
theorem wd2_66 : Cond.code yX7_findHeadingsWithoutLevel cX7_findHeadingsWithoutLevel 2 none ∈ ALL := mA2 66 rfl rfl
theorem wd2_67 : Cond.methodLink RX7 186 yX7_findSkippedLevels ∈ ALL := mA2 67 rfl rfl
theorem wd2_69 : Cond.instanceMethod yX7_findSkippedLevels ∈ ALL := mA2 69 rfl rfl
theorem wd2_70 : Cond.code yX7_findSkippedLevels cX7_findSkippedLevels 4 none ∈ ALL := mA2 70 rfl rfl
theorem wd2_71 : Cond.methodLink RX7 224 yX7_gatherHeadings ∈ ALL := mA2 71 rfl rfl
theorem wd2_73 : Cond.instanceMethod yX7_gatherHeadings ∈ ALL := mA2 73 rfl rfl
theorem wd2_74 : Cond.code yX7_gatherHeadings cX7_gatherHeadings 3 none ∈ ALL := mA2 74 rfl rfl
theorem wd2_75 : Cond.methodLink RX7 256 yX2_append ∈ ALL := mA2 75 rfl rfl
theorem wd2_76 : Cond.instanceMethod yX2_append ∈ ALL := mA2 76 rfl rfl
theorem wd2_77 : Cond.selects RX2 yX2_append yX2_append ∈ ALL := mA2 77 rfl rfl
theorem wd2_78 : Cond.code yX2_append cX2_append 3 none ∈ ALL := mA2 78 rfl rfl
theorem wd2_79 : Cond.methodLink RX2 25 yX2_depthBehind ∈ ALL := mA2 79 rfl rfl
theorem wd2_81 : Cond.instanceMethod yX2_depthBehind ∈ ALL := mA2 81 rfl rfl
theorem wd2_82 : Cond.code yX2_depthBehind cX2_depthBehind 3 (some .int) ∈ ALL := mA2 82 rfl rfl
theorem wd2_83 : Cond.methodLink RX7 189 yX7_findMisplaced ∈ ALL := mA2 83 rfl rfl
theorem wd2_85 : Cond.instanceMethod yX7_findMisplaced ∈ ALL := mA2 85 rfl rfl
theorem wd2_86 : Cond.code yX7_findMisplaced cX7_findMisplaced 2 none ∈ ALL := mA2 86 rfl rfl
theorem wd2_87 : Cond.methodLink RX7 268 yX6_parentOf ∈ ALL := mA2 87 rfl rfl
theorem wd2_88 : Cond.instanceMethod yX6_parentOf ∈ ALL := mA2 88 rfl rfl
theorem wd2_89 : Cond.selects RX6 yX6_parentOf yX6_parentOf ∈ ALL := mA2 89 rfl rfl
theorem wd2_90 : Cond.code yX6_parentOf cX6_parentOf 2 (some .int) ∈ ALL := mA2 90 rfl rfl
theorem wd2_91 : Cond.methodLink RX7 271 yX7_isMisplaced ∈ ALL := mA2 91 rfl rfl
theorem wd2_92 : Cond.static yX7_isMisplaced ∈ ALL := mA2 92 rfl rfl
theorem wd2_93 : Cond.code yX7_isMisplaced cX7_isMisplaced 4 (some .boolean) ∈ ALL := mA2 93 rfl rfl
theorem wd2_94 : Cond.methodLink RX7 274 yX7_neededParent ∈ ALL := mA2 94 rfl rfl
theorem wd2_95 : Cond.static yX7_neededParent ∈ ALL := mA2 95 rfl rfl
theorem wd2_96 : Cond.code yX7_neededParent cX7_neededParent 1 (some .int) ∈ ALL := mA2 96 rfl rfl
theorem wd2_97 : Cond.methodLink RX7 277 yX7_isCell ∈ ALL := mA2 97 rfl rfl
theorem wd2_98 : Cond.static yX7_isCell ∈ ALL := mA2 98 rfl rfl
theorem wd2_99 : Cond.code yX7_isCell cX7_isCell 1 (some .boolean) ∈ ALL := mA2 99 rfl rfl
theorem wd2_100 : Cond.methodLink RX7 192 yX7_findUnevenTables ∈ ALL := mA2 100 rfl rfl
theorem wd2_102 : Cond.instanceMethod yX7_findUnevenTables ∈ ALL := mA2 102 rfl rfl
theorem wd2_103 : Cond.code yX7_findUnevenTables cX7_findUnevenTables 2 none ∈ ALL := mA2 103 rfl rfl
theorem wd2_104 : Cond.methodLink RX7 280 yX7_isUneven ∈ ALL := mA2 104 rfl rfl
theorem wd2_106 : Cond.instanceMethod yX7_isUneven ∈ ALL := mA2 106 rfl rfl
theorem wd2_107 : Cond.code yX7_isUneven cX7_isUneven 3 (some .boolean) ∈ ALL := mA2 107 rfl rfl
theorem wd2_108 : Cond.methodLink RX7 283 yX1_clear ∈ ALL := mA2 108 rfl rfl
theorem wd2_109 : Cond.instanceMethod yX1_clear ∈ ALL := mA2 109 rfl rfl
theorem wd2_110 : Cond.selects RX1 yX1_clear yX1_clear ∈ ALL := mA2 110 rfl rfl
theorem wd2_111 : Cond.code yX1_clear cX1_clear 1 none ∈ ALL := mA2 111 rfl rfl
theorem wd2_112 : Cond.methodLink RX1 32 yJ7_fill_53178 ∈ ALL := mA2 112 rfl rfl
theorem wd2_113 : Cond.methodLink RX7 286 yX1_beginRow ∈ ALL := mA2 113 rfl rfl
theorem wd2_114 : Cond.instanceMethod yX1_beginRow ∈ ALL := mA2 114 rfl rfl
theorem wd2_115 : Cond.selects RX1 yX1_beginRow yX1_beginRow ∈ ALL := mA2 115 rfl rfl
theorem wd2_116 : Cond.code yX1_beginRow cX1_beginRow 1 none ∈ ALL := mA2 116 rfl rfl
theorem wd2_117 : Cond.methodLink RX7 289 yX7_layCells ∈ ALL := mA2 117 rfl rfl
theorem wd2_119 : Cond.instanceMethod yX7_layCells ∈ ALL := mA2 119 rfl rfl
theorem wd2_120 : Cond.code yX7_layCells cX7_layCells 3 none ∈ ALL := mA2 120 rfl rfl
theorem wd2_121 : Cond.methodLink RX7 299 yX1_lay ∈ ALL := mA2 121 rfl rfl
theorem wd2_122 : Cond.instanceMethod yX1_lay ∈ ALL := mA2 122 rfl rfl
theorem wd2_123 : Cond.selects RX1 yX1_lay yX1_lay ∈ ALL := mA2 123 rfl rfl
theorem wd2_124 : Cond.code yX1_lay cX1_lay 4 none ∈ ALL := mA2 124 rfl rfl
theorem wd2_125 : Cond.methodLink RX1 38 yJ9_max_7cf53 ∈ ALL := mA2 125 rfl rfl
theorem wd2_126 : Cond.static yJ9_max_7cf53 ∈ ALL := mA2 126 rfl rfl
theorem wd2_127 : Cond.code yJ9_max_7cf53 cJ9_max_7cf53 2 (some .int) ∈ ALL := mA2 127 rfl rfl
theorem wd2_128 : Cond.methodLink RX7 292 yX1_endRow ∈ ALL := mA2 128 rfl rfl
theorem wd2_129 : Cond.instanceMethod yX1_endRow ∈ ALL := mA2 129 rfl rfl
theorem wd2_130 : Cond.selects RX1 yX1_endRow yX1_endRow ∈ ALL := mA2 130 rfl rfl
theorem wd2_131 : Cond.code yX1_endRow cX1_endRow 2 none ∈ ALL := mA2 131 rfl rfl
theorem wd2_132 : Cond.methodLink RX7 195 yX7_findFiguresWithoutWords ∈ ALL := mA2 132 rfl rfl
theorem wd2_134 : Cond.instanceMethod yX7_findFiguresWithoutWords ∈ ALL := mA2 134 rfl rfl
theorem wd2_135 : Cond.code yX7_findFiguresWithoutWords cX7_findFiguresWithoutWords 2 none ∈ ALL := mA2 135 rfl rfl
theorem wd2_136 : Cond.methodLink RX7 198 yX7_findElementsWithoutKids ∈ ALL := mA2 136 rfl rfl
theorem wd2_138 : Cond.instanceMethod yX7_findElementsWithoutKids ∈ ALL := mA2 138 rfl rfl
theorem wd2_139 : Cond.code yX7_findElementsWithoutKids cX7_findElementsWithoutKids 2 none ∈ ALL := mA2 139 rfl rfl
theorem wd2_140 : Cond.methodLink RX7 302 yX6_hasKids ∈ ALL := mA2 140 rfl rfl
theorem wd2_141 : Cond.methodLink RX7 201 yX7_findRepeats ∈ ALL := mA2 141 rfl rfl
theorem wd2_143 : Cond.instanceMethod yX7_findRepeats ∈ ALL := mA2 143 rfl rfl
theorem wd2_144 : Cond.code yX7_findRepeats cX7_findRepeats 2 none ∈ ALL := mA2 144 rfl rfl
theorem wd2_145 : Cond.methodLink RX7 204 yX7_findUntagged ∈ ALL := mA2 145 rfl rfl
theorem wd2_147 : Cond.instanceMethod yX7_findUntagged ∈ ALL := mA2 147 rfl rfl
theorem wd2_148 : Cond.code yX7_findUntagged cX7_findUntagged 2 none ∈ ALL := mA2 148 rfl rfl
theorem wd2_149 : Cond.methodLink RX7 235 yX7_gatherLoose ∈ ALL := mA2 149 rfl rfl
theorem wd2_151 : Cond.instanceMethod yX7_gatherLoose ∈ ALL := mA2 151 rfl rfl
theorem wd2_152 : Cond.code yX7_gatherLoose cX7_gatherLoose 4 none ∈ ALL := mA2 152 rfl rfl
theorem wd2_153 : Cond.methodLink RX7 259 yX3_shownBy ∈ ALL := mA2 153 rfl rfl
theorem wd2_154 : Cond.instanceMethod yX3_shownBy ∈ ALL := mA2 154 rfl rfl
theorem wd2_155 : Cond.selects RX3 yX3_shownBy yX3_shownBy ∈ ALL := mA2 155 rfl rfl
theorem wd2_156 : Cond.code yX3_shownBy cX3_shownBy 2 (some .int) ∈ ALL := mA2 156 rfl rfl
theorem wd2_157 : Cond.methodLink RX7 262 yX3_codeAt ∈ ALL := mA2 157 rfl rfl
theorem wd2_158 : Cond.instanceMethod yX3_codeAt ∈ ALL := mA2 158 rfl rfl
theorem wd2_159 : Cond.selects RX3 yX3_codeAt yX3_codeAt ∈ ALL := mA2 159 rfl rfl
theorem wd2_160 : Cond.code yX3_codeAt cX3_codeAt 3 (some .int) ∈ ALL := mA2 160 rfl rfl
theorem wd2_161 : Cond.methodLink RX7 144 yX6_holderOf ∈ ALL := mA2 161 rfl rfl
theorem wd2_162 : Cond.instanceMethod yX6_holderOf ∈ ALL := mA2 162 rfl rfl
theorem wd2_163 : Cond.selects RX6 yX6_holderOf yX6_holderOf ∈ ALL := mA2 163 rfl rfl
theorem wd2_164 : Cond.code yX6_holderOf cX6_holderOf 2 (some .int) ∈ ALL := mA2 164 rfl rfl
theorem wd2_165 : Cond.methodLink RX7 207 yX7_findOutOfOrder ∈ ALL := mA2 165 rfl rfl
theorem wd2_167 : Cond.instanceMethod yX7_findOutOfOrder ∈ ALL := mA2 167 rfl rfl
theorem wd2_168 : Cond.code yX7_findOutOfOrder cX7_findOutOfOrder 5 none ∈ ALL := mA2 168 rfl rfl
theorem wd2_169 : Cond.methodLink RX7 305 yX3_placeOf ∈ ALL := mA2 169 rfl rfl
theorem wd2_170 : Cond.instanceMethod yX3_placeOf ∈ ALL := mA2 170 rfl rfl
theorem wd2_171 : Cond.selects RX3 yX3_placeOf yX3_placeOf ∈ ALL := mA2 171 rfl rfl
theorem wd2_172 : Cond.code yX3_placeOf cX3_placeOf 2 (some .int) ∈ ALL := mA2 172 rfl rfl
theorem wd2_173 : Cond.methodLink RL 61 yL_element ∈ ALL := mA2 173 rfl rfl
theorem wd2_174 : Cond.static yL_element ∈ ALL := mA2 174 rfl rfl
theorem wd2_175 : Cond.codeWith yL_element cL_element 5 (some .int) [(0, 10, 13, 13), (0, 10, 17, 15), (0, 10, 21, 17)] ∈ ALL := mA2 175 rfl rfl
theorem wd2_176 : Cond.classLink RL 13 "java/util/NoSuchElementException" ∈ ALL := mA2 176 rfl rfl
theorem wd2_177 : Cond.classLink RL 15 "java/lang/IllegalArgumentException" ∈ ALL := mA2 177 rfl rfl
theorem wd2_178 : Cond.classLink RL 17 "java/lang/UnsupportedOperationException" ∈ ALL := mA2 178 rfl rfl
theorem wd2_179 : Cond.methodLink RL 7 yX7_element ∈ ALL := mA2 179 rfl rfl
theorem wd2_180 : Cond.instanceMethod yX7_element ∈ ALL := mA2 180 rfl rfl
theorem wd2_181 : Cond.selects RX7 yX7_element yX7_element ∈ ALL := mA2 181 rfl rfl
theorem wd2_182 : Cond.code yX7_element cX7_element 3 (some .int) ∈ ALL := mA2 182 rfl rfl
theorem wd2_183 : Cond.methodLink RX7 101 yX7_needElement ∈ ALL := mA2 183 rfl rfl
theorem wd2_185 : Cond.instanceMethod yX7_needElement ∈ ALL := mA2 185 rfl rfl
theorem wd2_186 : Cond.code yX7_needElement cX7_needElement 2 none ∈ ALL := mA2 186 rfl rfl
theorem wd2_187 : Cond.classLink RX7 240 "java/util/NoSuchElementException" ∈ ALL := mA2 187 rfl rfl
theorem wd2_188 : Cond.instantiable "java/util/NoSuchElementException" 6 ∈ ALL := mA2 188 rfl rfl
theorem wd2_196 : Cond.selects "java/util/NoSuchElementException" ⟨"java/lang/Throwable", "fillInStackTrace", "(I)Ljava/lang/Throwable;"⟩ ⟨"java/lang/Throwable", "fillInStackTrace", "(I)Ljava/lang/Throwable;"⟩ ∈ ALL := mA2 196 rfl rfl
theorem wd2_197 : Cond.selects "java/util/NoSuchElementException" ⟨"java/lang/Throwable", "fillInStackTrace", "()Ljava/lang/Throwable;"⟩ ⟨"java/lang/Throwable", "fillInStackTrace", "()Ljava/lang/Throwable;"⟩ ∈ ALL := mA2 197 rfl rfl
theorem wd2_198 : Cond.lays "java/util/NoSuchElementException" "java/lang/Throwable" "cause" "Ljava/lang/Throwable;" ∈ ALL := mA2 198 rfl rfl
theorem wd2_199 : Cond.lays "java/lang/Throwable" "java/lang/Throwable" "cause" "Ljava/lang/Throwable;" ∈ ALL := mA2 199 rfl rfl
theorem wd2_200 : Cond.lays "java/util/NoSuchElementException" "java/lang/Throwable" "stackTrace" "[Ljava/lang/StackTraceElement;" ∈ ALL := mA2 200 rfl rfl
theorem wd2_201 : Cond.lays "java/lang/Throwable" "java/lang/Throwable" "stackTrace" "[Ljava/lang/StackTraceElement;" ∈ ALL := mA2 201 rfl rfl
theorem wd2_202 : Cond.lays "java/util/NoSuchElementException" "java/lang/Throwable" "suppressedExceptions" "Ljava/util/List;" ∈ ALL := mA2 202 rfl rfl
theorem wd2_203 : Cond.lays "java/lang/Throwable" "java/lang/Throwable" "suppressedExceptions" "Ljava/util/List;" ∈ ALL := mA2 203 rfl rfl
theorem wd2_204 : Cond.lays "java/util/NoSuchElementException" "java/lang/Throwable" "detailMessage" "Ljava/lang/String;" ∈ ALL := mA2 204 rfl rfl
theorem wd2_205 : Cond.lays "java/lang/Throwable" "java/lang/Throwable" "detailMessage" "Ljava/lang/String;" ∈ ALL := mA2 205 rfl rfl
theorem wd2_206 : Cond.lays "java/util/NoSuchElementException" "java/lang/Throwable" "backtrace" "Ljava/lang/Object;" ∈ ALL := mA2 206 rfl rfl
theorem wd2_207 : Cond.lays "java/lang/Throwable" "java/lang/Throwable" "backtrace" "Ljava/lang/Object;" ∈ ALL := mA2 207 rfl rfl
theorem wd2_208 : Cond.fieldLink "java/lang/Throwable" 198 "java/lang/Throwable" "backtrace" "Ljava/lang/Object;" ∈ ALL := mA2 208 rfl rfl
theorem wd2_210 : Cond.instanceMethod ⟨"java/lang/Throwable", "<init>", "()V"⟩ ∈ ALL := mA2 210 rfl rfl
theorem wd2_212 : Cond.methodLink "java/lang/Throwable" 1 ⟨"java/lang/Object", "<init>", "()V"⟩ ∈ ALL := mA2 212 rfl rfl
theorem wd2_213 : Cond.fieldLink "java/lang/Throwable" 13 "java/lang/Throwable" "UNASSIGNED_STACK" "[Ljava/lang/StackTraceElement;" ∈ ALL := mA2 213 rfl rfl
theorem wd2_215 : Cond.fieldLink "java/lang/Throwable" 20 "java/lang/Throwable" "SUPPRESSED_SENTINEL" "Ljava/util/List;" ∈ ALL := mA2 215 rfl rfl
theorem wd2_217 : Cond.methodLink "java/lang/Throwable" 27 ⟨"java/lang/Throwable", "fillInStackTrace", "()Ljava/lang/Throwable;"⟩ ∈ ALL := mA2 217 rfl rfl
theorem wd2_218 : Cond.instanceMethod ⟨"java/lang/Throwable", "fillInStackTrace", "()Ljava/lang/Throwable;"⟩ ∈ ALL := mA2 218 rfl rfl
theorem wd2_220 : Cond.selects "java/lang/IllegalArgumentException" ⟨"java/lang/Throwable", "fillInStackTrace", "()Ljava/lang/Throwable;"⟩ ⟨"java/lang/Throwable", "fillInStackTrace", "()Ljava/lang/Throwable;"⟩ ∈ ALL := mA2 220 rfl rfl
theorem wd2_221 : Cond.selects "java/lang/IndexOutOfBoundsException" ⟨"java/lang/Throwable", "fillInStackTrace", "()Ljava/lang/Throwable;"⟩ ⟨"java/lang/Throwable", "fillInStackTrace", "()Ljava/lang/Throwable;"⟩ ∈ ALL := mA2 221 rfl rfl
theorem wd2_222 : Cond.selects "java/lang/UnsupportedOperationException" ⟨"java/lang/Throwable", "fillInStackTrace", "()Ljava/lang/Throwable;"⟩ ⟨"java/lang/Throwable", "fillInStackTrace", "()Ljava/lang/Throwable;"⟩ ∈ ALL := mA2 222 rfl rfl
theorem wd2_224 : Cond.methodLink "java/lang/Throwable" 202 ⟨"java/lang/Throwable", "fillInStackTrace", "(I)Ljava/lang/Throwable;"⟩ ∈ ALL := mA2 224 rfl rfl
theorem wd2_226 : Cond.instanceMethod ⟨"java/lang/Throwable", "fillInStackTrace", "(I)Ljava/lang/Throwable;"⟩ ∈ ALL := mA2 226 rfl rfl
theorem wd2_227 : Cond.instantiable "java/lang/Throwable" 6 ∈ ALL := mA2 227 rfl rfl
theorem wd2_230 : Cond.methodLink RX7 244 ⟨"java/util/NoSuchElementException", "<init>", "(Ljava/lang/String;)V"⟩ ∈ ALL := mA2 230 rfl rfl
theorem wd2_231 : Cond.instanceMethod ⟨"java/util/NoSuchElementException", "<init>", "(Ljava/lang/String;)V"⟩ ∈ ALL := mA2 231 rfl rfl
theorem wd2_233 : Cond.methodLink "java/util/NoSuchElementException" 13 ⟨"java/lang/RuntimeException", "<init>", "(Ljava/lang/String;)V"⟩ ∈ ALL := mA2 233 rfl rfl
theorem wd2_234 : Cond.instanceMethod ⟨"java/lang/RuntimeException", "<init>", "(Ljava/lang/String;)V"⟩ ∈ ALL := mA2 234 rfl rfl
theorem wd2_236 : Cond.methodLink "java/lang/RuntimeException" 7 ⟨"java/lang/Exception", "<init>", "(Ljava/lang/String;)V"⟩ ∈ ALL := mA2 236 rfl rfl
theorem wd2_237 : Cond.instanceMethod ⟨"java/lang/Exception", "<init>", "(Ljava/lang/String;)V"⟩ ∈ ALL := mA2 237 rfl rfl
theorem wd2_239 : Cond.methodLink "java/lang/Exception" 7 ⟨"java/lang/Throwable", "<init>", "(Ljava/lang/String;)V"⟩ ∈ ALL := mA2 239 rfl rfl
theorem wd3_0 : Cond.instanceMethod ⟨"java/lang/Throwable", "<init>", "(Ljava/lang/String;)V"⟩ ∈ ALL := mA3 0 rfl rfl
theorem wd3_3 : Cond.fieldLink "java/lang/Throwable" 31 "java/lang/Throwable" "detailMessage" "Ljava/lang/String;" ∈ ALL := mA3 3 rfl rfl
theorem wd3_4 : Cond.fieldLink "java/lang/Throwable" 7 "java/lang/Throwable" "cause" "Ljava/lang/Throwable;" ∈ ALL := mA3 4 rfl rfl
theorem wd3_5 : Cond.fieldLink "java/lang/Throwable" 17 "java/lang/Throwable" "stackTrace" "[Ljava/lang/StackTraceElement;" ∈ ALL := mA3 5 rfl rfl
theorem wd3_6 : Cond.fieldLink "java/lang/Throwable" 24 "java/lang/Throwable" "suppressedExceptions" "Ljava/util/List;" ∈ ALL := mA3 6 rfl rfl
theorem wd3_11 : Cond.lays "java/util/NoSuchElementException" "java/lang/Throwable" "depth" "I" ∈ ALL := mA3 11 rfl rfl
theorem wd3_15 : Cond.arrayClass .byte ∈ ALL := mA3 15 rfl rfl
theorem wd3_16 : Cond.methodLink RX7 105 yX4_isRole ∈ ALL := mA3 16 rfl rfl
theorem wd3_17 : Cond.static yX4_isRole ∈ ALL := mA3 17 rfl rfl
theorem wd3_18 : Cond.code yX4_isRole cX4_isRole 1 (some .boolean) ∈ ALL := mA3 18 rfl rfl
theorem wd3_19 : Cond.classLink RX7 109 "java/lang/IllegalArgumentException" ∈ ALL := mA3 19 rfl rfl
theorem wd3_20 : Cond.instantiable "java/lang/IllegalArgumentException" 6 ∈ ALL := mA3 20 rfl rfl
theorem wd3_22 : Cond.selects "java/lang/IllegalArgumentException" ⟨"java/lang/Throwable", "fillInStackTrace", "(I)Ljava/lang/Throwable;"⟩ ⟨"java/lang/Throwable", "fillInStackTrace", "(I)Ljava/lang/Throwable;"⟩ ∈ ALL := mA3 22 rfl rfl
theorem wd3_23 : Cond.lays "java/lang/IllegalArgumentException" "java/lang/Throwable" "cause" "Ljava/lang/Throwable;" ∈ ALL := mA3 23 rfl rfl
theorem wd3_24 : Cond.lays "java/lang/IllegalArgumentException" "java/lang/Throwable" "stackTrace" "[Ljava/lang/StackTraceElement;" ∈ ALL := mA3 24 rfl rfl
theorem wd3_25 : Cond.lays "java/lang/IllegalArgumentException" "java/lang/Throwable" "suppressedExceptions" "Ljava/util/List;" ∈ ALL := mA3 25 rfl rfl
theorem wd3_26 : Cond.lays "java/lang/IllegalArgumentException" "java/lang/Throwable" "detailMessage" "Ljava/lang/String;" ∈ ALL := mA3 26 rfl rfl
theorem wd3_27 : Cond.lays "java/lang/IllegalArgumentException" "java/lang/Throwable" "backtrace" "Ljava/lang/Object;" ∈ ALL := mA3 27 rfl rfl
theorem wd3_29 : Cond.methodLink RX7 113 ⟨"java/lang/IllegalArgumentException", "<init>", "(Ljava/lang/String;)V"⟩ ∈ ALL := mA3 29 rfl rfl
theorem wd3_30 : Cond.instanceMethod ⟨"java/lang/IllegalArgumentException", "<init>", "(Ljava/lang/String;)V"⟩ ∈ ALL := mA3 30 rfl rfl
theorem wd3_32 : Cond.methodLink "java/lang/IllegalArgumentException" 7 ⟨"java/lang/RuntimeException", "<init>", "(Ljava/lang/String;)V"⟩ ∈ ALL := mA3 32 rfl rfl
theorem wd3_33 : Cond.lays "java/lang/IllegalArgumentException" "java/lang/Throwable" "depth" "I" ∈ ALL := mA3 33 rfl rfl
theorem wd3_35 : Cond.classLink RX7 119 "java/lang/UnsupportedOperationException" ∈ ALL := mA3 35 rfl rfl
theorem wd3_36 : Cond.instantiable "java/lang/UnsupportedOperationException" 6 ∈ ALL := mA3 36 rfl rfl
theorem wd3_38 : Cond.selects "java/lang/UnsupportedOperationException" ⟨"java/lang/Throwable", "fillInStackTrace", "(I)Ljava/lang/Throwable;"⟩ ⟨"java/lang/Throwable", "fillInStackTrace", "(I)Ljava/lang/Throwable;"⟩ ∈ ALL := mA3 38 rfl rfl
theorem wd3_39 : Cond.lays "java/lang/UnsupportedOperationException" "java/lang/Throwable" "cause" "Ljava/lang/Throwable;" ∈ ALL := mA3 39 rfl rfl
theorem wd3_40 : Cond.lays "java/lang/UnsupportedOperationException" "java/lang/Throwable" "stackTrace" "[Ljava/lang/StackTraceElement;" ∈ ALL := mA3 40 rfl rfl
theorem wd3_41 : Cond.lays "java/lang/UnsupportedOperationException" "java/lang/Throwable" "suppressedExceptions" "Ljava/util/List;" ∈ ALL := mA3 41 rfl rfl
theorem wd3_42 : Cond.lays "java/lang/UnsupportedOperationException" "java/lang/Throwable" "detailMessage" "Ljava/lang/String;" ∈ ALL := mA3 42 rfl rfl
theorem wd3_43 : Cond.lays "java/lang/UnsupportedOperationException" "java/lang/Throwable" "backtrace" "Ljava/lang/Object;" ∈ ALL := mA3 43 rfl rfl
theorem wd3_45 : Cond.methodLink RX7 123 ⟨"java/lang/UnsupportedOperationException", "<init>", "(Ljava/lang/String;)V"⟩ ∈ ALL := mA3 45 rfl rfl
theorem wd3_46 : Cond.instanceMethod ⟨"java/lang/UnsupportedOperationException", "<init>", "(Ljava/lang/String;)V"⟩ ∈ ALL := mA3 46 rfl rfl
theorem wd3_48 : Cond.methodLink "java/lang/UnsupportedOperationException" 7 ⟨"java/lang/RuntimeException", "<init>", "(Ljava/lang/String;)V"⟩ ∈ ALL := mA3 48 rfl rfl
theorem wd3_49 : Cond.lays "java/lang/UnsupportedOperationException" "java/lang/Throwable" "depth" "I" ∈ ALL := mA3 49 rfl rfl
theorem wd3_51 : Cond.methodLink RX7 124 yX6_addElement ∈ ALL := mA3 51 rfl rfl
theorem wd3_52 : Cond.instanceMethod yX6_addElement ∈ ALL := mA3 52 rfl rfl
theorem wd3_53 : Cond.selects RX6 yX6_addElement yX6_addElement ∈ ALL := mA3 53 rfl rfl
theorem wd3_54 : Cond.code yX6_addElement cX6_addElement 4 (some .int) ∈ ALL := mA3 54 rfl rfl
theorem wd3_55 : Cond.methodLink RX6 44 yX6_addKid ∈ ALL := mA3 55 rfl rfl
theorem wd3_57 : Cond.instanceMethod yX6_addKid ∈ ALL := mA3 57 rfl rfl
theorem wd3_58 : Cond.code yX6_addKid cX6_addKid 4 none ∈ ALL := mA3 58 rfl rfl
theorem wd3_59 : Cond.methodLink RL 71 yL_map ∈ ALL := mA3 59 rfl rfl
theorem wd3_60 : Cond.static yL_map ∈ ALL := mA3 60 rfl rfl
theorem wd3_61 : Cond.codeWith yL_map cL_map 5 (some .int) [(0, 10, 13, 15)] ∈ ALL := mA3 61 rfl rfl
theorem wd3_62 : Cond.methodLink RL 19 yX7_map ∈ ALL := mA3 62 rfl rfl
theorem wd3_63 : Cond.instanceMethod yX7_map ∈ ALL := mA3 63 rfl rfl
theorem wd3_64 : Cond.selects RX7 yX7_map yX7_map ∈ ALL := mA3 64 rfl rfl
theorem wd3_65 : Cond.code yX7_map cX7_map 3 (some .int) ∈ ALL := mA3 65 rfl rfl
theorem wd3_66 : Cond.methodLink RX7 128 yX4_isOwn ∈ ALL := mA3 66 rfl rfl
theorem wd3_68 : Cond.methodLink RX7 133 yX4_leads ∈ ALL := mA3 68 rfl rfl
theorem wd3_69 : Cond.instanceMethod yX4_leads ∈ ALL := mA3 69 rfl rfl
theorem wd3_70 : Cond.selects RX4 yX4_leads yX4_leads ∈ ALL := mA3 70 rfl rfl
theorem wd3_71 : Cond.code yX4_leads cX4_leads 5 (some .boolean) ∈ ALL := mA3 71 rfl rfl
theorem wd3_72 : Cond.methodLink RX7 137 yX4_lead ∈ ALL := mA3 72 rfl rfl
theorem wd3_73 : Cond.instanceMethod yX4_lead ∈ ALL := mA3 73 rfl rfl
theorem wd3_74 : Cond.selects RX4 yX4_lead yX4_lead ∈ ALL := mA3 74 rfl rfl
theorem wd3_75 : Cond.code yX4_lead cX4_lead 3 none ∈ ALL := mA3 75 rfl rfl
theorem wd3_76 : Cond.methodLink RL 74 yL_content ∈ ALL := mA3 76 rfl rfl
theorem wd3_77 : Cond.static yL_content ∈ ALL := mA3 77 rfl rfl
theorem wd3_78 : Cond.codeWith yL_content cL_content 6 (some .int) [(0, 12, 15, 13), (0, 12, 19, 15), (0, 12, 23, 17)] ∈ ALL := mA3 78 rfl rfl
theorem wd3_79 : Cond.methodLink RL 22 yX7_content ∈ ALL := mA3 79 rfl rfl
theorem wd3_80 : Cond.instanceMethod yX7_content ∈ ALL := mA3 80 rfl rfl
theorem wd3_81 : Cond.selects RX7 yX7_content yX7_content ∈ ALL := mA3 81 rfl rfl
theorem wd3_82 : Cond.code yX7_content cX7_content 5 (some .int) ∈ ALL := mA3 82 rfl rfl
theorem wd3_83 : Cond.methodLink RX7 141 yX7_needCode ∈ ALL := mA3 83 rfl rfl
theorem wd3_84 : Cond.static yX7_needCode ∈ ALL := mA3 84 rfl rfl
theorem wd3_85 : Cond.code yX7_needCode cX7_needCode 2 (some .int) ∈ ALL := mA3 85 rfl rfl
theorem wd3_87 : Cond.methodLink RX7 148 yX7_keepRepeat ∈ ALL := mA3 87 rfl rfl
theorem wd3_89 : Cond.instanceMethod yX7_keepRepeat ∈ ALL := mA3 89 rfl rfl
theorem wd3_90 : Cond.code yX7_keepRepeat cX7_keepRepeat 3 none ∈ ALL := mA3 90 rfl rfl
theorem wd3_92 : Cond.methodLink RX7 156 yX6_addPart ∈ ALL := mA3 92 rfl rfl
theorem wd3_93 : Cond.instanceMethod yX6_addPart ∈ ALL := mA3 93 rfl rfl
theorem wd3_94 : Cond.selects RX6 yX6_addPart yX6_addPart ∈ ALL := mA3 94 rfl rfl
theorem wd3_95 : Cond.code yX6_addPart cX6_addPart 3 none ∈ ALL := mA3 95 rfl rfl
theorem wd3_96 : Cond.methodLink RL 78 yL_shows ∈ ALL := mA3 96 rfl rfl
theorem wd3_97 : Cond.static yL_shows ∈ ALL := mA3 97 rfl rfl
theorem wd3_98 : Cond.codeWith yL_shows cL_shows 5 (some .int) [(0, 10, 13, 15)] ∈ ALL := mA3 98 rfl rfl
theorem wd3_99 : Cond.methodLink RL 26 yX7_shows ∈ ALL := mA3 99 rfl rfl
theorem wd3_100 : Cond.instanceMethod yX7_shows ∈ ALL := mA3 100 rfl rfl
theorem wd3_101 : Cond.selects RX7 yX7_shows yX7_shows ∈ ALL := mA3 101 rfl rfl
theorem wd3_102 : Cond.code yX7_shows cX7_shows 3 (some .int) ∈ ALL := mA3 102 rfl rfl
theorem wd3_103 : Cond.methodLink RX7 159 yX3_show ∈ ALL := mA3 103 rfl rfl
theorem wd3_104 : Cond.instanceMethod yX3_show ∈ ALL := mA3 104 rfl rfl
theorem wd3_105 : Cond.selects RX3 yX3_show yX3_show ∈ ALL := mA3 105 rfl rfl
theorem wd3_106 : Cond.code yX3_show cX3_show 5 (some .int) ∈ ALL := mA3 106 rfl rfl
theorem wd3_107 : Cond.methodLink RL 85 yL_at ∈ ALL := mA3 107 rfl rfl
theorem wd3_108 : Cond.static yL_at ∈ ALL := mA3 108 rfl rfl
theorem wd3_109 : Cond.codeWith yL_at cL_at 5 (some .int) [(0, 10, 13, 32)] ∈ ALL := mA3 109 rfl rfl
theorem wd3_110 : Cond.classLink RL 32 "java/lang/IndexOutOfBoundsException" ∈ ALL := mA3 110 rfl rfl
theorem wd3_111 : Cond.methodLink RL 29 yX7_at ∈ ALL := mA3 111 rfl rfl
theorem wd3_112 : Cond.instanceMethod yX7_at ∈ ALL := mA3 112 rfl rfl
theorem wd3_113 : Cond.selects RX7 yX7_at yX7_at ∈ ALL := mA3 113 rfl rfl
theorem wd3_114 : Cond.code yX7_at cX7_at 4 (some .int) ∈ ALL := mA3 114 rfl rfl
theorem wd3_115 : Cond.methodLink RX7 166 yX7_needWhat ∈ ALL := mA3 115 rfl rfl
theorem wd3_116 : Cond.static yX7_needWhat ∈ ALL := mA3 116 rfl rfl
theorem wd3_117 : Cond.code yX7_needWhat cX7_needWhat 1 none ∈ ALL := mA3 117 rfl rfl
theorem wd3_118 : Cond.classLink RX7 169 "java/lang/IndexOutOfBoundsException" ∈ ALL := mA3 118 rfl rfl
theorem wd3_119 : Cond.instantiable "java/lang/IndexOutOfBoundsException" 6 ∈ ALL := mA3 119 rfl rfl
theorem wd3_121 : Cond.selects "java/lang/IndexOutOfBoundsException" ⟨"java/lang/Throwable", "fillInStackTrace", "(I)Ljava/lang/Throwable;"⟩ ⟨"java/lang/Throwable", "fillInStackTrace", "(I)Ljava/lang/Throwable;"⟩ ∈ ALL := mA3 121 rfl rfl
theorem wd3_122 : Cond.lays "java/lang/IndexOutOfBoundsException" "java/lang/Throwable" "cause" "Ljava/lang/Throwable;" ∈ ALL := mA3 122 rfl rfl
theorem wd3_123 : Cond.lays "java/lang/IndexOutOfBoundsException" "java/lang/Throwable" "stackTrace" "[Ljava/lang/StackTraceElement;" ∈ ALL := mA3 123 rfl rfl
theorem wd3_124 : Cond.lays "java/lang/IndexOutOfBoundsException" "java/lang/Throwable" "suppressedExceptions" "Ljava/util/List;" ∈ ALL := mA3 124 rfl rfl
theorem wd3_125 : Cond.lays "java/lang/IndexOutOfBoundsException" "java/lang/Throwable" "detailMessage" "Ljava/lang/String;" ∈ ALL := mA3 125 rfl rfl
theorem wd3_126 : Cond.lays "java/lang/IndexOutOfBoundsException" "java/lang/Throwable" "backtrace" "Ljava/lang/Object;" ∈ ALL := mA3 126 rfl rfl
theorem wd3_128 : Cond.methodLink RX7 173 ⟨"java/lang/IndexOutOfBoundsException", "<init>", "(Ljava/lang/String;)V"⟩ ∈ ALL := mA3 128 rfl rfl
theorem wd3_129 : Cond.instanceMethod ⟨"java/lang/IndexOutOfBoundsException", "<init>", "(Ljava/lang/String;)V"⟩ ∈ ALL := mA3 129 rfl rfl
theorem wd3_131 : Cond.methodLink "java/lang/IndexOutOfBoundsException" 7 ⟨"java/lang/RuntimeException", "<init>", "(Ljava/lang/String;)V"⟩ ∈ ALL := mA3 131 rfl rfl
theorem wd3_132 : Cond.lays "java/lang/IndexOutOfBoundsException" "java/lang/Throwable" "depth" "I" ∈ ALL := mA3 132 rfl rfl
theorem wd3_135 : Cond.methodLink RL 88 yL_parent ∈ ALL := mA3 135 rfl rfl
theorem wd3_136 : Cond.static yL_parent ∈ ALL := mA3 136 rfl rfl
theorem wd3_137 : Cond.codeWith yL_parent cL_parent 5 (some .int) [(0, 10, 13, 15)] ∈ ALL := mA3 137 rfl rfl
theorem wd3_138 : Cond.methodLink RL 34 yX7_parent ∈ ALL := mA3 138 rfl rfl
theorem wd3_139 : Cond.instanceMethod yX7_parent ∈ ALL := mA3 139 rfl rfl
theorem wd3_140 : Cond.selects RX7 yX7_parent yX7_parent ∈ ALL := mA3 140 rfl rfl
theorem wd3_141 : Cond.code yX7_parent cX7_parent 3 (some .int) ∈ ALL := mA3 141 rfl rfl
theorem wd3_142 : Cond.methodLink RL 95 yL_fault ∈ ALL := mA3 142 rfl rfl
theorem wd3_143 : Cond.static yL_fault ∈ ALL := mA3 143 rfl rfl
theorem wd3_144 : Cond.codeWith yL_fault cL_fault 5 (some .int) [(0, 10, 13, 32)] ∈ ALL := mA3 144 rfl rfl
theorem wd3_145 : Cond.methodLink RL 37 yX7_fault ∈ ALL := mA3 145 rfl rfl
theorem wd3_146 : Cond.instanceMethod yX7_fault ∈ ALL := mA3 146 rfl rfl
theorem wd3_147 : Cond.selects RX7 yX7_fault yX7_fault ∈ ALL := mA3 147 rfl rfl
theorem wd3_148 : Cond.code yX7_fault cX7_fault 3 (some .int) ∈ ALL := mA3 148 rfl rfl
theorem wd3_150 : Cond.methodLink RL 98 yL_heading ∈ ALL := mA3 150 rfl rfl
theorem wd3_151 : Cond.static yL_heading ∈ ALL := mA3 151 rfl rfl
theorem wd3_152 : Cond.codeWith yL_heading cL_heading 5 (some .int) [(0, 10, 13, 13), (0, 10, 17, 15)] ∈ ALL := mA3 152 rfl rfl
theorem wd3_153 : Cond.methodLink RL 40 yX7_heading ∈ ALL := mA3 153 rfl rfl
theorem wd3_154 : Cond.instanceMethod yX7_heading ∈ ALL := mA3 154 rfl rfl
theorem wd3_155 : Cond.selects RX7 yX7_heading yX7_heading ∈ ALL := mA3 155 rfl rfl
theorem wd3_156 : Cond.code yX7_heading cX7_heading 4 (some .int) ∈ ALL := mA3 156 rfl rfl
theorem wd3_158 : Cond.methodLink RL 101 yL_words ∈ ALL := mA3 158 rfl rfl
theorem wd3_159 : Cond.static yL_words ∈ ALL := mA3 159 rfl rfl
theorem wd3_160 : Cond.codeWith yL_words cL_words 5 (some .int) [(0, 10, 13, 13)] ∈ ALL := mA3 160 rfl rfl
theorem wd3_161 : Cond.methodLink RL 43 yX7_words ∈ ALL := mA3 161 rfl rfl
theorem wd3_162 : Cond.instanceMethod yX7_words ∈ ALL := mA3 162 rfl rfl
theorem wd3_163 : Cond.selects RX7 yX7_words yX7_words ∈ ALL := mA3 163 rfl rfl
theorem wd3_164 : Cond.code yX7_words cX7_words 4 (some .int) ∈ ALL := mA3 164 rfl rfl
theorem wd3_165 : Cond.methodLink RL 105 yL_span ∈ ALL := mA3 165 rfl rfl
theorem wd3_166 : Cond.static yL_span ∈ ALL := mA3 166 rfl rfl
theorem wd3_167 : Cond.codeWith yL_span cL_span 6 (some .int) [(0, 12, 15, 13), (0, 12, 19, 15)] ∈ ALL := mA3 167 rfl rfl
theorem wd3_168 : Cond.methodLink RL 47 yX7_span ∈ ALL := mA3 168 rfl rfl
theorem wd3_169 : Cond.instanceMethod yX7_span ∈ ALL := mA3 169 rfl rfl
theorem wd3_170 : Cond.selects RX7 yX7_span yX7_span ∈ ALL := mA3 170 rfl rfl
theorem wd3_171 : Cond.code yX7_span cX7_span 5 (some .int) ∈ ALL := mA3 171 rfl rfl
theorem wd3_173 : Cond.methodLink RL 108 yL_outline ∈ ALL := mA3 173 rfl rfl
theorem wd3_174 : Cond.static yL_outline ∈ ALL := mA3 174 rfl rfl
theorem wd3_175 : Cond.codeWith yL_outline cL_outline 5 (some .int) [(0, 10, 13, 32)] ∈ ALL := mA3 175 rfl rfl
theorem wd3_176 : Cond.methodLink RL 50 yX7_outline ∈ ALL := mA3 176 rfl rfl
theorem wd3_177 : Cond.instanceMethod yX7_outline ∈ ALL := mA3 177 rfl rfl
theorem wd3_178 : Cond.selects RX7 yX7_outline yX7_outline ∈ ALL := mA3 178 rfl rfl
theorem wd3_179 : Cond.code yX7_outline cX7_outline 3 (some .int) ∈ ALL := mA3 179 rfl rfl
theorem wd3_181 : Cond.methodLink RL 111 yL_untagged ∈ ALL := mA3 181 rfl rfl
theorem wd3_182 : Cond.static yL_untagged ∈ ALL := mA3 182 rfl rfl
theorem wd3_183 : Cond.codeWith yL_untagged cL_untagged 4 (some .int) [(0, 9, 12, 32)] ∈ ALL := mA3 183 rfl rfl
theorem wd3_184 : Cond.methodLink RL 53 yX7_untagged ∈ ALL := mA3 184 rfl rfl
theorem wd3_185 : Cond.instanceMethod yX7_untagged ∈ ALL := mA3 185 rfl rfl
theorem wd3_186 : Cond.selects RX7 yX7_untagged yX7_untagged ∈ ALL := mA3 186 rfl rfl
theorem wd3_187 : Cond.code yX7_untagged cX7_untagged 2 (some .int) ∈ ALL := mA3 187 rfl rfl
theorem wd3_189 : Cond.classLink RL 58 RX8 ∈ ALL := mA3 189 rfl rfl
theorem wd3_190 : Cond.instantiable RX8 30 ∈ ALL := mA3 190 rfl rfl
theorem wd3_191 : Cond.methodLink RL 60 yX8_init ∈ ALL := mA3 191 rfl rfl
theorem wd3_192 : Cond.instanceMethod yX8_init ∈ ALL := mA3 192 rfl rfl
theorem wd3_193 : Cond.code yX8_init cX8_init 2 none ∈ ALL := mA3 193 rfl rfl
theorem wd3_194 : Cond.methodLink RX8 1 ⟨"java/lang/Object", "<init>", "()V"⟩ ∈ ALL := mA3 194 rfl rfl
theorem wd3_195 : Cond.fieldLink RX8 78 "StructureRowsModel" "thrown" "I" ∈ ALL := mA3 195 rfl rfl
theorem wd3_196 : Cond.fieldLink RX8 7 "StructureRowsModel" "elements" "I" ∈ ALL := mA3 196 rfl rfl
theorem wd3_197 : Cond.fieldLink RX8 13 "StructureRowsModel" "role" "[I" ∈ ALL := mA3 197 rfl rfl
theorem wd3_198 : Cond.fieldLink RX8 17 "StructureRowsModel" "level" "[I" ∈ ALL := mA3 198 rfl rfl
theorem wd3_199 : Cond.fieldLink RX8 20 "StructureRowsModel" "hasWords" "[Z" ∈ ALL := mA3 199 rfl rfl
theorem wd3_200 : Cond.fieldLink RX8 24 "StructureRowsModel" "rows" "[I" ∈ ALL := mA3 200 rfl rfl
theorem wd3_201 : Cond.fieldLink RX8 27 "StructureRowsModel" "columns" "[I" ∈ ALL := mA3 201 rfl rfl
theorem wd3_202 : Cond.fieldLink RX8 30 "StructureRowsModel" "maps" "[I" ∈ ALL := mA3 202 rfl rfl
theorem wd3_203 : Cond.fieldLink RX8 89 "StructureRowsModel" "kids" "I" ∈ ALL := mA3 203 rfl rfl
theorem wd3_204 : Cond.fieldLink RX8 33 "StructureRowsModel" "kidOf" "[I" ∈ ALL := mA3 204 rfl rfl
theorem wd3_205 : Cond.fieldLink RX8 36 "StructureRowsModel" "kid" "[I" ∈ ALL := mA3 205 rfl rfl
theorem wd3_206 : Cond.fieldLink RX8 106 "StructureRowsModel" "parts" "I" ∈ ALL := mA3 206 rfl rfl
theorem wd3_207 : Cond.fieldLink RX8 103 "StructureRowsModel" "twice" "I" ∈ ALL := mA3 207 rfl rfl
theorem wd3_208 : Cond.fieldLink RX8 39 "StructureRowsModel" "again" "[I" ∈ ALL := mA3 208 rfl rfl
theorem wd3_209 : Cond.fieldLink RX8 42 "StructureRowsModel" "againIn" "[I" ∈ ALL := mA3 209 rfl rfl
theorem wd3_210 : Cond.fieldLink RX8 109 "StructureRowsModel" "shows" "I" ∈ ALL := mA3 210 rfl rfl
theorem wd3_211 : Cond.fieldLink RX8 45 "StructureRowsModel" "shown" "[I" ∈ ALL := mA3 211 rfl rfl
theorem wd3_212 : Cond.fieldLink RX8 118 "StructureRowsModel" "met" "I" ∈ ALL := mA3 212 rfl rfl
theorem wd3_213 : Cond.fieldLink RX8 48 "StructureRowsModel" "meets" "[I" ∈ ALL := mA3 213 rfl rfl
theorem wd3_214 : Cond.fieldLink RX8 51 "StructureRowsModel" "meetsIn" "[I" ∈ ALL := mA3 214 rfl rfl
theorem wd3_215 : Cond.fieldLink RX8 54 "StructureRowsModel" "wayElement" "[I" ∈ ALL := mA3 215 rfl rfl
theorem wd3_216 : Cond.fieldLink RX8 57 "StructureRowsModel" "wayKid" "[I" ∈ ALL := mA3 216 rfl rfl
theorem wd3_217 : Cond.fieldLink RX8 132 "StructureRowsModel" "headings" "I" ∈ ALL := mA3 217 rfl rfl
theorem wd3_218 : Cond.fieldLink RX8 60 "StructureRowsModel" "headingOf" "[I" ∈ ALL := mA3 218 rfl rfl
theorem wd3_219 : Cond.fieldLink RX8 63 "StructureRowsModel" "depthOf" "[I" ∈ ALL := mA3 219 rfl rfl
theorem wd3_220 : Cond.fieldLink RX8 141 "StructureRowsModel" "faults" "I" ∈ ALL := mA3 220 rfl rfl
theorem wd3_221 : Cond.fieldLink RX8 66 "StructureRowsModel" "faultKind" "[I" ∈ ALL := mA3 221 rfl rfl
theorem wd3_222 : Cond.fieldLink RX8 69 "StructureRowsModel" "faultElement" "[I" ∈ ALL := mA3 222 rfl rfl
theorem wd3_223 : Cond.fieldLink RX8 72 "StructureRowsModel" "faultNumber" "[I" ∈ ALL := mA3 223 rfl rfl
theorem wd3_224 : Cond.fieldLink RX8 75 "StructureRowsModel" "takenTo" "[I" ∈ ALL := mA3 224 rfl rfl
theorem wd3_225 : Cond.lays RX8 "StructureRowsModel" "thrown" "I" ∈ ALL := mA3 225 rfl rfl
theorem wd3_227 : Cond.lays RX8 "StructureRowsModel" "elements" "I" ∈ ALL := mA3 227 rfl rfl
theorem wd3_229 : Cond.laysFinal RX8 "StructureRowsModel" "role" "[I" ∈ ALL := mA3 229 rfl rfl
theorem wd3_231 : Cond.laysFinal RX8 "StructureRowsModel" "level" "[I" ∈ ALL := mA3 231 rfl rfl
theorem wd3_233 : Cond.laysFinal RX8 "StructureRowsModel" "hasWords" "[Z" ∈ ALL := mA3 233 rfl rfl
theorem wd3_235 : Cond.laysFinal RX8 "StructureRowsModel" "rows" "[I" ∈ ALL := mA3 235 rfl rfl
theorem wd3_237 : Cond.laysFinal RX8 "StructureRowsModel" "columns" "[I" ∈ ALL := mA3 237 rfl rfl
theorem wd3_239 : Cond.laysFinal RX8 "StructureRowsModel" "maps" "[I" ∈ ALL := mA3 239 rfl rfl
theorem wd4_1 : Cond.lays RX8 "StructureRowsModel" "kids" "I" ∈ ALL := mA4 1 rfl rfl
theorem wd4_3 : Cond.laysFinal RX8 "StructureRowsModel" "kidOf" "[I" ∈ ALL := mA4 3 rfl rfl
theorem wd4_5 : Cond.laysFinal RX8 "StructureRowsModel" "kid" "[I" ∈ ALL := mA4 5 rfl rfl
theorem wd4_7 : Cond.lays RX8 "StructureRowsModel" "parts" "I" ∈ ALL := mA4 7 rfl rfl
theorem wd4_9 : Cond.lays RX8 "StructureRowsModel" "twice" "I" ∈ ALL := mA4 9 rfl rfl
theorem wd4_11 : Cond.laysFinal RX8 "StructureRowsModel" "again" "[I" ∈ ALL := mA4 11 rfl rfl
theorem wd4_13 : Cond.laysFinal RX8 "StructureRowsModel" "againIn" "[I" ∈ ALL := mA4 13 rfl rfl
theorem wd4_15 : Cond.lays RX8 "StructureRowsModel" "shows" "I" ∈ ALL := mA4 15 rfl rfl
theorem wd4_17 : Cond.laysFinal RX8 "StructureRowsModel" "shown" "[I" ∈ ALL := mA4 17 rfl rfl
theorem wd4_19 : Cond.lays RX8 "StructureRowsModel" "met" "I" ∈ ALL := mA4 19 rfl rfl
theorem wd4_21 : Cond.laysFinal RX8 "StructureRowsModel" "meets" "[I" ∈ ALL := mA4 21 rfl rfl
theorem wd4_23 : Cond.laysFinal RX8 "StructureRowsModel" "meetsIn" "[I" ∈ ALL := mA4 23 rfl rfl
theorem wd4_25 : Cond.laysFinal RX8 "StructureRowsModel" "wayElement" "[I" ∈ ALL := mA4 25 rfl rfl
theorem wd4_27 : Cond.laysFinal RX8 "StructureRowsModel" "wayKid" "[I" ∈ ALL := mA4 27 rfl rfl
theorem wd4_29 : Cond.lays RX8 "StructureRowsModel" "headings" "I" ∈ ALL := mA4 29 rfl rfl
theorem wd4_31 : Cond.laysFinal RX8 "StructureRowsModel" "headingOf" "[I" ∈ ALL := mA4 31 rfl rfl
theorem wd4_33 : Cond.laysFinal RX8 "StructureRowsModel" "depthOf" "[I" ∈ ALL := mA4 33 rfl rfl
theorem wd4_35 : Cond.lays RX8 "StructureRowsModel" "faults" "I" ∈ ALL := mA4 35 rfl rfl
theorem wd4_37 : Cond.laysFinal RX8 "StructureRowsModel" "faultKind" "[I" ∈ ALL := mA4 37 rfl rfl
theorem wd4_39 : Cond.laysFinal RX8 "StructureRowsModel" "faultElement" "[I" ∈ ALL := mA4 39 rfl rfl
theorem wd4_41 : Cond.laysFinal RX8 "StructureRowsModel" "faultNumber" "[I" ∈ ALL := mA4 41 rfl rfl
theorem wd4_43 : Cond.laysFinal RX8 "StructureRowsModel" "takenTo" "[I" ∈ ALL := mA4 43 rfl rfl
theorem wd4_46 : Cond.methodLink RL 67 yX8_thrown ∈ ALL := mA4 46 rfl rfl
theorem wd4_47 : Cond.instanceMethod yX8_thrown ∈ ALL := mA4 47 rfl rfl
theorem wd4_48 : Cond.selects RX8 yX8_thrown yX8_thrown ∈ ALL := mA4 48 rfl rfl
theorem wd4_49 : Cond.code yX8_thrown cX8_thrown 1 (some .int) ∈ ALL := mA4 49 rfl rfl
theorem wd4_50 : Cond.methodLink RL 66 yX8_element ∈ ALL := mA4 50 rfl rfl
theorem wd4_51 : Cond.instanceMethod yX8_element ∈ ALL := mA4 51 rfl rfl
theorem wd4_52 : Cond.selects RX8 yX8_element yX8_element ∈ ALL := mA4 52 rfl rfl
theorem wd4_53 : Cond.code yX8_element cX8_element 3 (some .int) ∈ ALL := mA4 53 rfl rfl
theorem wd4_54 : Cond.methodLink RX8 81 yX8_isElement ∈ ALL := mA4 54 rfl rfl
theorem wd4_56 : Cond.instanceMethod yX8_isElement ∈ ALL := mA4 56 rfl rfl
theorem wd4_57 : Cond.code yX8_isElement cX8_isElement 2 (some .boolean) ∈ ALL := mA4 57 rfl rfl
theorem wd4_58 : Cond.methodLink RX8 85 yX8_in ∈ ALL := mA4 58 rfl rfl
theorem wd4_59 : Cond.static yX8_in ∈ ALL := mA4 59 rfl rfl
theorem wd4_60 : Cond.code yX8_in cX8_in 3 (some .boolean) ∈ ALL := mA4 60 rfl rfl
theorem wd4_61 : Cond.methodLink RL 73 yX8_map ∈ ALL := mA4 61 rfl rfl
theorem wd4_62 : Cond.instanceMethod yX8_map ∈ ALL := mA4 62 rfl rfl
theorem wd4_63 : Cond.selects RX8 yX8_map yX8_map ∈ ALL := mA4 63 rfl rfl
theorem wd4_64 : Cond.code yX8_map cX8_map 3 (some .int) ∈ ALL := mA4 64 rfl rfl
theorem wd4_65 : Cond.methodLink RX8 92 yX8_leadsTo ∈ ALL := mA4 65 rfl rfl
theorem wd4_67 : Cond.instanceMethod yX8_leadsTo ∈ ALL := mA4 67 rfl rfl
theorem wd4_68 : Cond.code yX8_leadsTo cX8_leadsTo 5 (some .boolean) ∈ ALL := mA4 68 rfl rfl
theorem wd4_69 : Cond.methodLink RL 77 yX8_content ∈ ALL := mA4 69 rfl rfl
theorem wd4_70 : Cond.instanceMethod yX8_content ∈ ALL := mA4 70 rfl rfl
theorem wd4_71 : Cond.selects RX8 yX8_content yX8_content ∈ ALL := mA4 71 rfl rfl
theorem wd4_72 : Cond.code yX8_content cX8_content 5 (some .int) ∈ ALL := mA4 72 rfl rfl
theorem wd4_73 : Cond.methodLink RX8 96 yX8_isPart ∈ ALL := mA4 73 rfl rfl
theorem wd4_74 : Cond.static yX8_isPart ∈ ALL := mA4 74 rfl rfl
theorem wd4_75 : Cond.code yX8_isPart cX8_isPart 2 (some .boolean) ∈ ALL := mA4 75 rfl rfl
theorem wd4_76 : Cond.methodLink RX8 99 yX8_ownerOf ∈ ALL := mA4 76 rfl rfl
theorem wd4_78 : Cond.instanceMethod yX8_ownerOf ∈ ALL := mA4 78 rfl rfl
theorem wd4_79 : Cond.code yX8_ownerOf cX8_ownerOf 4 (some .int) ∈ ALL := mA4 79 rfl rfl
theorem wd4_80 : Cond.methodLink RL 80 yX8_shows ∈ ALL := mA4 80 rfl rfl
theorem wd4_81 : Cond.instanceMethod yX8_shows ∈ ALL := mA4 81 rfl rfl
theorem wd4_82 : Cond.selects RX8 yX8_shows yX8_shows ∈ ALL := mA4 82 rfl rfl
theorem wd4_83 : Cond.code yX8_shows cX8_shows 4 (some .int) ∈ ALL := mA4 83 rfl rfl
theorem wd4_84 : Cond.methodLink RX8 112 yX8_placeOf ∈ ALL := mA4 84 rfl rfl
theorem wd4_86 : Cond.instanceMethod yX8_placeOf ∈ ALL := mA4 86 rfl rfl
theorem wd4_87 : Cond.code yX8_placeOf cX8_placeOf 5 (some .int) ∈ ALL := mA4 87 rfl rfl
theorem wd4_88 : Cond.methodLink RL 84 yX8_walk ∈ ALL := mA4 88 rfl rfl
theorem wd4_89 : Cond.instanceMethod yX8_walk ∈ ALL := mA4 89 rfl rfl
theorem wd4_90 : Cond.selects RX8 yX8_walk yX8_walk ∈ ALL := mA4 90 rfl rfl
theorem wd4_91 : Cond.code yX8_walk cX8_walk 1 (some .int) ∈ ALL := mA4 91 rfl rfl
theorem wd4_92 : Cond.methodLink RX8 135 yX8_go ∈ ALL := mA4 92 rfl rfl
theorem wd4_94 : Cond.instanceMethod yX8_go ∈ ALL := mA4 94 rfl rfl
theorem wd4_95 : Cond.code yX8_go cX8_go 6 none ∈ ALL := mA4 95 rfl rfl
theorem wd4_96 : Cond.methodLink RX8 121 yX8_meet ∈ ALL := mA4 96 rfl rfl
theorem wd4_98 : Cond.instanceMethod yX8_meet ∈ ALL := mA4 98 rfl rfl
theorem wd4_99 : Cond.code yX8_meet cX8_meet 3 none ∈ ALL := mA4 99 rfl rfl
theorem wd4_100 : Cond.methodLink RX8 125 yX8_nextKid ∈ ALL := mA4 100 rfl rfl
theorem wd4_102 : Cond.instanceMethod yX8_nextKid ∈ ALL := mA4 102 rfl rfl
theorem wd4_103 : Cond.code yX8_nextKid cX8_nextKid 4 (some .int) ∈ ALL := mA4 103 rfl rfl
theorem wd4_104 : Cond.methodLink RX8 129 yX8_is ∈ ALL := mA4 104 rfl rfl
theorem wd4_106 : Cond.instanceMethod yX8_is ∈ ALL := mA4 106 rfl rfl
theorem wd4_107 : Cond.code yX8_is cX8_is 3 (some .boolean) ∈ ALL := mA4 107 rfl rfl
theorem wd4_108 : Cond.methodLink RX8 115 yX8_standardOf ∈ ALL := mA4 108 rfl rfl
theorem wd4_110 : Cond.instanceMethod yX8_standardOf ∈ ALL := mA4 110 rfl rfl
theorem wd4_111 : Cond.code yX8_standardOf cX8_standardOf 3 (some .int) ∈ ALL := mA4 111 rfl rfl
theorem wd4_112 : Cond.methodLink RX8 138 yX8_partAt ∈ ALL := mA4 112 rfl rfl
theorem wd4_114 : Cond.instanceMethod yX8_partAt ∈ ALL := mA4 114 rfl rfl
theorem wd4_115 : Cond.code yX8_partAt cX8_partAt 5 (some .int) ∈ ALL := mA4 115 rfl rfl
theorem wd4_116 : Cond.methodLink RL 87 yX8_at ∈ ALL := mA4 116 rfl rfl
theorem wd4_117 : Cond.instanceMethod yX8_at ∈ ALL := mA4 117 rfl rfl
theorem wd4_118 : Cond.selects RX8 yX8_at yX8_at ∈ ALL := mA4 118 rfl rfl
theorem wd4_119 : Cond.code yX8_at cX8_at 5 (some .int) ∈ ALL := mA4 119 rfl rfl
theorem wd4_120 : Cond.methodLink RL 90 yX8_parent ∈ ALL := mA4 120 rfl rfl
theorem wd4_121 : Cond.instanceMethod yX8_parent ∈ ALL := mA4 121 rfl rfl
theorem wd4_122 : Cond.selects RX8 yX8_parent yX8_parent ∈ ALL := mA4 122 rfl rfl
theorem wd4_123 : Cond.code yX8_parent cX8_parent 3 (some .int) ∈ ALL := mA4 123 rfl rfl
theorem wd4_124 : Cond.methodLink RL 94 yX8_check ∈ ALL := mA4 124 rfl rfl
theorem wd4_125 : Cond.instanceMethod yX8_check ∈ ALL := mA4 125 rfl rfl
theorem wd4_126 : Cond.selects RX8 yX8_check yX8_check ∈ ALL := mA4 126 rfl rfl
theorem wd4_127 : Cond.code yX8_check cX8_check 3 (some .int) ∈ ALL := mA4 127 rfl rfl
theorem wd4_128 : Cond.methodLink RX8 167 yX8_addJumps ∈ ALL := mA4 128 rfl rfl
theorem wd4_130 : Cond.instanceMethod yX8_addJumps ∈ ALL := mA4 130 rfl rfl
theorem wd4_131 : Cond.code yX8_addJumps cX8_addJumps 4 none ∈ ALL := mA4 131 rfl rfl
theorem wd4_132 : Cond.methodLink RX8 163 yX8_add ∈ ALL := mA4 132 rfl rfl
theorem wd4_134 : Cond.instanceMethod yX8_add ∈ ALL := mA4 134 rfl rfl
theorem wd4_135 : Cond.code yX8_add cX8_add 4 none ∈ ALL := mA4 135 rfl rfl
theorem wd4_136 : Cond.methodLink RX8 170 yX8_hasFault ∈ ALL := mA4 136 rfl rfl
theorem wd4_138 : Cond.instanceMethod yX8_hasFault ∈ ALL := mA4 138 rfl rfl
theorem wd4_139 : Cond.code yX8_hasFault cX8_hasFault 3 (some .boolean) ∈ ALL := mA4 139 rfl rfl
theorem wd4_140 : Cond.methodLink RX8 157 yX8_isPlaced ∈ ALL := mA4 140 rfl rfl
theorem wd4_142 : Cond.instanceMethod yX8_isPlaced ∈ ALL := mA4 142 rfl rfl
theorem wd4_143 : Cond.code yX8_isPlaced cX8_isPlaced 6 (some .boolean) ∈ ALL := mA4 143 rfl rfl
theorem wd4_144 : Cond.methodLink RX8 144 yX8_parentOf ∈ ALL := mA4 144 rfl rfl
theorem wd4_146 : Cond.instanceMethod yX8_parentOf ∈ ALL := mA4 146 rfl rfl
theorem wd4_147 : Cond.code yX8_parentOf cX8_parentOf 4 (some .int) ∈ ALL := mA4 147 rfl rfl
theorem wd4_148 : Cond.methodLink RX8 147 yX8_suits ∈ ALL := mA4 148 rfl rfl
theorem wd4_149 : Cond.static yX8_suits ∈ ALL := mA4 149 rfl rfl
theorem wd4_150 : Cond.code yX8_suits cX8_suits 3 (some .boolean) ∈ ALL := mA4 150 rfl rfl
theorem wd4_151 : Cond.methodLink RX8 151 yX8_isCell ∈ ALL := mA4 151 rfl rfl
theorem wd4_153 : Cond.instanceMethod yX8_isCell ∈ ALL := mA4 153 rfl rfl
theorem wd4_154 : Cond.code yX8_isCell cX8_isCell 2 (some .boolean) ∈ ALL := mA4 154 rfl rfl
theorem wd4_155 : Cond.methodLink RX8 160 yX8_isUneven ∈ ALL := mA4 155 rfl rfl
theorem wd4_157 : Cond.instanceMethod yX8_isUneven ∈ ALL := mA4 157 rfl rfl
theorem wd4_158 : Cond.code yX8_isUneven cX8_isUneven 9 (some .boolean) ∈ ALL := mA4 158 rfl rfl
theorem wd4_159 : Cond.methodLink RX8 154 yX8_lay ∈ ALL := mA4 159 rfl rfl
theorem wd4_161 : Cond.instanceMethod yX8_lay ∈ ALL := mA4 161 rfl rfl
theorem wd4_162 : Cond.code yX8_lay cX8_lay 8 (some .boolean) ∈ ALL := mA4 162 rfl rfl
theorem wd4_163 : Cond.methodLink RX8 173 yX8_countUntagged ∈ ALL := mA4 163 rfl rfl
theorem wd4_165 : Cond.instanceMethod yX8_countUntagged ∈ ALL := mA4 165 rfl rfl
theorem wd4_166 : Cond.code yX8_countUntagged cX8_countUntagged 3 (some .int) ∈ ALL := mA4 166 rfl rfl
theorem wd4_167 : Cond.methodLink RX8 177 yX8_untaggedAt ∈ ALL := mA4 167 rfl rfl
theorem wd4_169 : Cond.instanceMethod yX8_untaggedAt ∈ ALL := mA4 169 rfl rfl
theorem wd4_170 : Cond.code yX8_untaggedAt cX8_untaggedAt 6 (some .int) ∈ ALL := mA4 170 rfl rfl
theorem wd4_171 : Cond.methodLink RX8 180 yX8_addOrder ∈ ALL := mA4 171 rfl rfl
theorem wd4_173 : Cond.instanceMethod yX8_addOrder ∈ ALL := mA4 173 rfl rfl
theorem wd4_174 : Cond.code yX8_addOrder cX8_addOrder 6 none ∈ ALL := mA4 174 rfl rfl
theorem wd4_175 : Cond.methodLink RL 97 yX8_fault ∈ ALL := mA4 175 rfl rfl
theorem wd4_176 : Cond.instanceMethod yX8_fault ∈ ALL := mA4 176 rfl rfl
theorem wd4_177 : Cond.selects RX8 yX8_fault yX8_fault ∈ ALL := mA4 177 rfl rfl
theorem wd4_178 : Cond.code yX8_fault cX8_fault 3 (some .int) ∈ ALL := mA4 178 rfl rfl
theorem wd4_179 : Cond.methodLink RL 100 yX8_heading ∈ ALL := mA4 179 rfl rfl
theorem wd4_180 : Cond.instanceMethod yX8_heading ∈ ALL := mA4 180 rfl rfl
theorem wd4_181 : Cond.selects RX8 yX8_heading yX8_heading ∈ ALL := mA4 181 rfl rfl
theorem wd4_182 : Cond.code yX8_heading cX8_heading 4 (some .int) ∈ ALL := mA4 182 rfl rfl
theorem wd4_183 : Cond.methodLink RL 104 yX8_words ∈ ALL := mA4 183 rfl rfl
theorem wd4_184 : Cond.instanceMethod yX8_words ∈ ALL := mA4 184 rfl rfl
theorem wd4_185 : Cond.selects RX8 yX8_words yX8_words ∈ ALL := mA4 185 rfl rfl
theorem wd4_186 : Cond.code yX8_words cX8_words 4 (some .int) ∈ ALL := mA4 186 rfl rfl
theorem wd4_187 : Cond.methodLink RL 107 yX8_span ∈ ALL := mA4 187 rfl rfl
theorem wd4_188 : Cond.instanceMethod yX8_span ∈ ALL := mA4 188 rfl rfl
theorem wd4_189 : Cond.selects RX8 yX8_span yX8_span ∈ ALL := mA4 189 rfl rfl
theorem wd4_190 : Cond.code yX8_span cX8_span 5 (some .int) ∈ ALL := mA4 190 rfl rfl
theorem wd4_191 : Cond.methodLink RL 110 yX8_outline ∈ ALL := mA4 191 rfl rfl
theorem wd4_192 : Cond.instanceMethod yX8_outline ∈ ALL := mA4 192 rfl rfl
theorem wd4_193 : Cond.selects RX8 yX8_outline yX8_outline ∈ ALL := mA4 193 rfl rfl
theorem wd4_194 : Cond.code yX8_outline cX8_outline 3 (some .int) ∈ ALL := mA4 194 rfl rfl
theorem wd4_195 : Cond.methodLink RL 114 yX8_untagged ∈ ALL := mA4 195 rfl rfl
theorem wd4_196 : Cond.instanceMethod yX8_untagged ∈ ALL := mA4 196 rfl rfl
theorem wd4_197 : Cond.selects RX8 yX8_untagged yX8_untagged ∈ ALL := mA4 197 rfl rfl
theorem wd4_198 : Cond.code yX8_untagged cX8_untagged 3 (some .int) ∈ ALL := mA4 198 rfl rfl
theorem wd4_199 : Cond.arrayClass .long ∈ ALL := mA4 199 rfl rfl
theorem wd_oi : Cond.code Lib.objectInit ⟨#[0xb1]⟩ 1 none ∈ ALL := mA1 26 rfl rfl
theorem wd_mx : Cond.code Lib.Math.max.name Lib.Math.max.code 2 (some .int) ∈ ALL := mA2 127 rfl rfl
theorem wd0_0 : Cond.selects RX5 yX5_passElement yX5_passElement ∈ ALL := mA0 0 rfl rfl
theorem wd0_1 : Cond.selects RX5 yX5_passPart yX5_passPart ∈ ALL := mA0 1 rfl rfl
theorem wd0_2 : Cond.selects RX7 yX7_findElementsWithoutStandard yX7_findElementsWithoutStandard ∈ ALL := mA0 2 rfl rfl
theorem wd0_3 : Cond.selects RX7 yX7_findHeadingsWithoutLevel yX7_findHeadingsWithoutLevel ∈ ALL := mA0 3 rfl rfl
theorem wd0_4 : Cond.selects RX7 yX7_findSkippedLevels yX7_findSkippedLevels ∈ ALL := mA0 4 rfl rfl
theorem wd0_5 : Cond.selects RX7 yX7_gatherHeadings yX7_gatherHeadings ∈ ALL := mA0 5 rfl rfl
theorem wd0_6 : Cond.selects RX2 yX2_depthBehind yX2_depthBehind ∈ ALL := mA0 6 rfl rfl
theorem wd0_7 : Cond.selects RX7 yX7_findMisplaced yX7_findMisplaced ∈ ALL := mA0 7 rfl rfl
theorem wd0_8 : Cond.selects RX7 yX7_findUnevenTables yX7_findUnevenTables ∈ ALL := mA0 8 rfl rfl
theorem wd0_9 : Cond.selects RX7 yX7_isUneven yX7_isUneven ∈ ALL := mA0 9 rfl rfl
theorem wd0_10 : Cond.selects RX7 yX7_layCells yX7_layCells ∈ ALL := mA0 10 rfl rfl
theorem wd0_11 : Cond.selects RX7 yX7_findFiguresWithoutWords yX7_findFiguresWithoutWords ∈ ALL := mA0 11 rfl rfl
theorem wd0_12 : Cond.selects RX7 yX7_findElementsWithoutKids yX7_findElementsWithoutKids ∈ ALL := mA0 12 rfl rfl
theorem wd0_13 : Cond.selects RX7 yX7_findRepeats yX7_findRepeats ∈ ALL := mA0 13 rfl rfl
theorem wd0_14 : Cond.selects RX7 yX7_findUntagged yX7_findUntagged ∈ ALL := mA0 14 rfl rfl
theorem wd0_15 : Cond.selects RX7 yX7_gatherLoose yX7_gatherLoose ∈ ALL := mA0 15 rfl rfl
theorem wd0_16 : Cond.selects RX7 yX7_findOutOfOrder yX7_findOutOfOrder ∈ ALL := mA0 16 rfl rfl
theorem wd0_17 : Cond.selects RX7 yX7_needElement yX7_needElement ∈ ALL := mA0 17 rfl rfl
theorem wd0_18 : Cond.selects "java/lang/Throwable" ⟨"java/lang/Throwable", "fillInStackTrace", "(I)Ljava/lang/Throwable;"⟩ ⟨"java/lang/Throwable", "fillInStackTrace", "(I)Ljava/lang/Throwable;"⟩ ∈ ALL := mA0 18 rfl rfl
theorem wd0_19 : Cond.selects RX6 yX6_addKid yX6_addKid ∈ ALL := mA0 19 rfl rfl
theorem wd0_20 : Cond.selects RX7 yX7_keepRepeat yX7_keepRepeat ∈ ALL := mA0 20 rfl rfl
theorem wd0_21 : Cond.selects RX8 yX8_isElement yX8_isElement ∈ ALL := mA0 21 rfl rfl
theorem wd0_22 : Cond.selects RX8 yX8_leadsTo yX8_leadsTo ∈ ALL := mA0 22 rfl rfl
theorem wd0_23 : Cond.selects RX8 yX8_ownerOf yX8_ownerOf ∈ ALL := mA0 23 rfl rfl
theorem wd0_24 : Cond.selects RX8 yX8_placeOf yX8_placeOf ∈ ALL := mA0 24 rfl rfl
theorem wd0_25 : Cond.selects RX8 yX8_go yX8_go ∈ ALL := mA0 25 rfl rfl
theorem wd0_26 : Cond.selects RX8 yX8_meet yX8_meet ∈ ALL := mA0 26 rfl rfl
theorem wd0_27 : Cond.selects RX8 yX8_nextKid yX8_nextKid ∈ ALL := mA0 27 rfl rfl
theorem wd0_28 : Cond.selects RX8 yX8_is yX8_is ∈ ALL := mA0 28 rfl rfl
theorem wd0_29 : Cond.selects RX8 yX8_standardOf yX8_standardOf ∈ ALL := mA0 29 rfl rfl
theorem wd0_30 : Cond.selects RX8 yX8_partAt yX8_partAt ∈ ALL := mA0 30 rfl rfl
theorem wd0_31 : Cond.selects RX8 yX8_addJumps yX8_addJumps ∈ ALL := mA0 31 rfl rfl
theorem wd0_32 : Cond.selects RX8 yX8_add yX8_add ∈ ALL := mA0 32 rfl rfl
theorem wd0_33 : Cond.selects RX8 yX8_hasFault yX8_hasFault ∈ ALL := mA0 33 rfl rfl
theorem wd0_34 : Cond.selects RX8 yX8_isPlaced yX8_isPlaced ∈ ALL := mA0 34 rfl rfl
theorem wd0_35 : Cond.selects RX8 yX8_parentOf yX8_parentOf ∈ ALL := mA0 35 rfl rfl
theorem wd0_36 : Cond.selects RX8 yX8_isCell yX8_isCell ∈ ALL := mA0 36 rfl rfl
theorem wd0_37 : Cond.selects RX8 yX8_isUneven yX8_isUneven ∈ ALL := mA0 37 rfl rfl
theorem wd0_38 : Cond.selects RX8 yX8_lay yX8_lay ∈ ALL := mA0 38 rfl rfl
theorem wd0_39 : Cond.selects RX8 yX8_countUntagged yX8_countUntagged ∈ ALL := mA0 39 rfl rfl
theorem wd0_40 : Cond.selects RX8 yX8_untaggedAt yX8_untaggedAt ∈ ALL := mA0 40 rfl rfl
theorem wd0_41 : Cond.selects RX8 yX8_addOrder yX8_addOrder ∈ ALL := mA0 41 rfl rfl
theorem inAX0 : ∀ w ∈ u_ws RX0 TX0 4, w ∈ ALL := by
  intro w hw
  obtain ⟨k, hk, rfl⟩ := List.mem_map.mp hw
  have hk := List.mem_range.mp hk
  match k, hk with
  | 0, _ => exact wd1_181
  | 1, _ => exact wd1_183
  | 2, _ => exact wd1_185
  | 3, _ => exact wd1_187
  | k + 4, h => exact absurd h (by omega)
theorem inAX1 : ∀ w ∈ u_ws RX1 TX1 6, w ∈ ALL := by
  intro w hw
  obtain ⟨k, hk, rfl⟩ := List.mem_map.mp hw
  have hk := List.mem_range.mp hk
  match k, hk with
  | 0, _ => exact wd1_154
  | 1, _ => exact wd1_156
  | 2, _ => exact wd1_158
  | 3, _ => exact wd1_160
  | 4, _ => exact wd1_162
  | 5, _ => exact wd1_164
  | k + 6, h => exact absurd h (by omega)
theorem inAX2 : ∀ w ∈ u_ws RX2 TX2 4, w ∈ ALL := by
  intro w hw
  obtain ⟨k, hk, rfl⟩ := List.mem_map.mp hw
  have hk := List.mem_range.mp hk
  match k, hk with
  | 0, _ => exact wd1_132
  | 1, _ => exact wd1_134
  | 2, _ => exact wd1_136
  | 3, _ => exact wd1_138
  | k + 4, h => exact absurd h (by omega)
theorem inAX3 : ∀ w ∈ u_ws RX3 TX3 3, w ∈ ALL := by
  intro w hw
  obtain ⟨k, hk, rfl⟩ := List.mem_map.mp hw
  have hk := List.mem_range.mp hk
  match k, hk with
  | 0, _ => exact wd1_111
  | 1, _ => exact wd1_113
  | 2, _ => exact wd1_115
  | k + 3, h => exact absurd h (by omega)
theorem inAX4 : ∀ w ∈ u_ws RX4 TX4 1, w ∈ ALL := by
  intro w hw
  obtain ⟨k, hk, rfl⟩ := List.mem_map.mp hw
  have hk := List.mem_range.mp hk
  match k, hk with
  | 0, _ => exact wd1_37
  | k + 1, h => exact absurd h (by omega)
theorem inAX5 : ∀ w ∈ u_ws RX5 TX5 5, w ∈ ALL := by
  intro w hw
  obtain ⟨k, hk, rfl⟩ := List.mem_map.mp hw
  have hk := List.mem_range.mp hk
  match k, hk with
  | 0, _ => exact wd1_90
  | 1, _ => exact wd1_92
  | 2, _ => exact wd1_94
  | 3, _ => exact wd1_96
  | 4, _ => exact wd1_98
  | k + 5, h => exact absurd h (by omega)
theorem inAX6 : ∀ w ∈ u_ws RX6 TX6 8, w ∈ ALL := by
  intro w hw
  obtain ⟨k, hk, rfl⟩ := List.mem_map.mp hw
  have hk := List.mem_range.mp hk
  match k, hk with
  | 0, _ => exact wd1_58
  | 1, _ => exact wd1_60
  | 2, _ => exact wd1_62
  | 3, _ => exact wd1_64
  | 4, _ => exact wd1_66
  | 5, _ => exact wd1_68
  | 6, _ => exact wd1_70
  | 7, _ => exact wd1_72
  | k + 8, h => exact absurd h (by omega)
theorem inAX7 : ∀ w ∈ u_ws RX7 TX7 17, w ∈ ALL := by
  intro w hw
  obtain ⟨k, hk, rfl⟩ := List.mem_map.mp hw
  have hk := List.mem_range.mp hk
  match k, hk with
  | 0, _ => exact wd1_208
  | 1, _ => exact wd1_210
  | 2, _ => exact wd1_212
  | 3, _ => exact wd1_214
  | 4, _ => exact wd1_216
  | 5, _ => exact wd1_218
  | 6, _ => exact wd1_220
  | 7, _ => exact wd1_222
  | 8, _ => exact wd1_224
  | 9, _ => exact wd1_226
  | 10, _ => exact wd1_228
  | 11, _ => exact wd1_230
  | 12, _ => exact wd1_232
  | 13, _ => exact wd1_234
  | 14, _ => exact wd1_236
  | 15, _ => exact wd1_238
  | 16, _ => exact wd2_0
  | k + 17, h => exact absurd h (by omega)
theorem inAX8 : ∀ w ∈ u_ws RX8 TX8 30, w ∈ ALL := by
  intro w hw
  obtain ⟨k, hk, rfl⟩ := List.mem_map.mp hw
  have hk := List.mem_range.mp hk
  match k, hk with
  | 0, _ => exact wd3_225
  | 1, _ => exact wd3_227
  | 2, _ => exact wd3_229
  | 3, _ => exact wd3_231
  | 4, _ => exact wd3_233
  | 5, _ => exact wd3_235
  | 6, _ => exact wd3_237
  | 7, _ => exact wd3_239
  | 8, _ => exact wd4_1
  | 9, _ => exact wd4_3
  | 10, _ => exact wd4_5
  | 11, _ => exact wd4_7
  | 12, _ => exact wd4_9
  | 13, _ => exact wd4_11
  | 14, _ => exact wd4_13
  | 15, _ => exact wd4_15
  | 16, _ => exact wd4_17
  | 17, _ => exact wd4_19
  | 18, _ => exact wd4_21
  | 19, _ => exact wd4_23
  | 20, _ => exact wd4_25
  | 21, _ => exact wd4_27
  | 22, _ => exact wd4_29
  | 23, _ => exact wd4_31
  | 24, _ => exact wd4_33
  | 25, _ => exact wd4_35
  | 26, _ => exact wd4_37
  | 27, _ => exact wd4_39
  | 28, _ => exact wd4_41
  | 29, _ => exact wd4_43
  | k + 30, h => exact absurd h (by omega)
end
section
/-! ===== the one world: all cells of the class, of the reference, and the law's row; a state is a function from cell and place to a number ===== -/
abbrev Sg : Type := Nat → Nat → Int32
def ss (σ : Sg) (c i : Nat) (x : Int32) : Sg := fun c' => if c' = c then upd (σ c) i x else σ c'
def ccW (cy : Nat → ClassId) (ad : Nat → Nat) (k : Nat) (f : Nat → Int32) : va_E := match k with
  | 0 => .inr (7, [.ref (ad 1), .ref (ad 3), .ref (ad 9), .ref (ad 12), .ref (ad 16), .ref (ad 20), .ref (ad 22), .ref (ad 26), .ref (ad 27), .ref (ad 28), .ref (ad 29), .ref (ad 30), .ref (ad 31), .int (f 13), .ref (ad 32), .int (f 15), .ref (ad 33)])
  | 1 => .inr (4, [.ref (ad 2)])
  | 2 => .inl (cy 2, 20, .inl f)
  | 3 => .inr (6, [.ref (ad 1), .ref (ad 4), .ref (ad 5), .ref (ad 6), .ref (ad 7), .ref (ad 8), .int (f 6), .int (f 7)])
  | 4 => .inl (cy 4, 60, .inl f)
  | 5 => .inl (cy 5, 60, .inl f)
  | 6 => .inl (cy 6, 60, .inl f)
  | 7 => .inl (cy 7, 260, .inl f)
  | 8 => .inl (cy 8, 260, .inl f)
  | 9 => .inr (5, [.ref (ad 3), .ref (ad 10), .ref (ad 11), .int (f 3), .int (f 4)])
  | 10 => .inl (cy 10, 60, .inl f)
  | 11 => .inl (cy 11, 100, .inl f)
  | 12 => .inr (3, [.ref (ad 13), .ref (ad 14), .ref (ad 15)])
  | 13 => .inl (cy 13, 200, .inl f)
  | 14 => .inl (cy 14, 200, .inl f)
  | 15 => .inl (cy 15, 10, .inl f)
  | 16 => .inr (2, [.ref (ad 17), .ref (ad 18), .ref (ad 19), .int (f 3)])
  | 17 => .inl (cy 17, 60, .inl f)
  | 18 => .inl (cy 18, 60, .inl f)
  | 19 => .inl (cy 19, 60, .inl f)
  | 20 => .inr (1, [.ref (ad 21), .int (f 1), .int (f 2), .int (f 3), .int (f 4), .int (f 5)])
  | 21 => .inl (cy 21, 480, .inl f)
  | 22 => .inr (0, [.ref (ad 23), .ref (ad 24), .ref (ad 25), .int (f 3)])
  | 23 => .inl (cy 23, 760, .inl f)
  | 24 => .inl (cy 24, 760, .inl f)
  | 25 => .inl (cy 25, 760, .inl f)
  | 26 => .inl (cy 26, 60, .inl f)
  | 27 => .inl (cy 27, 60, .inl f)
  | 28 => .inl (cy 28, 60, .inl f)
  | 29 => .inl (cy 29, 60, .inl f)
  | 30 => .inl (cy 30, 40, .inl f)
  | 31 => .inl (cy 31, 40, .inl f)
  | 32 => .inl (cy 32, 200, .inl f)
  | 33 => .inl (cy 33, 10, .inl f)
  | 34 => .inl (cy 34, 1, .inr (.inl (fun j => (f j).toInt64)))
  | 35 => .inr (8, [.int (f 0), .int (f 1), .ref (ad 36), .ref (ad 37), .ref (ad 38), .ref (ad 39), .ref (ad 40), .ref (ad 41), .int (f 8), .ref (ad 42), .ref (ad 43), .int (f 11), .int (f 12), .ref (ad 44), .ref (ad 45), .int (f 15), .ref (ad 46), .int (f 17), .ref (ad 47), .ref (ad 48), .ref (ad 49), .ref (ad 50), .int (f 22), .ref (ad 51), .ref (ad 52), .int (f 25), .ref (ad 53), .ref (ad 54), .ref (ad 55), .ref (ad 56)])
  | 36 => .inl (cy 36, 60, .inl f)
  | 37 => .inl (cy 37, 60, .inl f)
  | 38 => .inl (cy 38, 60, .inl f)
  | 39 => .inl (cy 39, 60, .inl f)
  | 40 => .inl (cy 40, 60, .inl f)
  | 41 => .inl (cy 41, 20, .inl f)
  | 42 => .inl (cy 42, 160, .inl f)
  | 43 => .inl (cy 43, 160, .inl f)
  | 44 => .inl (cy 44, 40, .inl f)
  | 45 => .inl (cy 45, 40, .inl f)
  | 46 => .inl (cy 46, 200, .inl f)
  | 47 => .inl (cy 47, 160, .inl f)
  | 48 => .inl (cy 48, 160, .inl f)
  | 49 => .inl (cy 49, 61, .inl f)
  | 50 => .inl (cy 50, 61, .inl f)
  | 51 => .inl (cy 51, 60, .inl f)
  | 52 => .inl (cy 52, 60, .inl f)
  | 53 => .inl (cy 53, 700, .inl f)
  | 54 => .inl (cy 54, 700, .inl f)
  | 55 => .inl (cy 55, 700, .inl f)
  | _ => .inl (cy 56, 500, .inl f)
def tyW (cy : Nat → ClassId) : List (ClassId × FieldType) := [(cy 2, .int), (cy 4, .int), (cy 5, .int), (cy 6, .int), (cy 7, .int), (cy 8, .int), (cy 10, .int), (cy 11, .int), (cy 13, .int), (cy 14, .int), (cy 15, .int), (cy 17, .int), (cy 18, .int), (cy 19, .int), (cy 21, .int), (cy 23, .int), (cy 24, .int), (cy 25, .int), (cy 26, .int), (cy 27, .boolean), (cy 28, .int), (cy 29, .int), (cy 30, .int), (cy 31, .int), (cy 32, .int), (cy 33, .int), (cy 34, .long), (cy 36, .int), (cy 37, .int), (cy 38, .boolean), (cy 39, .int), (cy 40, .int), (cy 41, .int), (cy 42, .int), (cy 43, .int), (cy 44, .int), (cy 45, .int), (cy 46, .int), (cy 47, .int), (cy 48, .int), (cy 49, .int), (cy 50, .int), (cy 51, .int), (cy 52, .int), (cy 53, .int), (cy 54, .int), (cy 55, .int), (cy 56, .int)]
def wW (cy : Nat → ClassId) (ad : Nat → Nat) (σ : Sg) : va_W := (List.range 57).map (fun k => (ad k, ccW cy ad k (σ k)))
theorem wW_at (cy : Nat → ClassId) (ad : Nat → Nat) (σ : Sg) (k : Nat) (h : k < 57) : (wW cy ad σ)[k]? = some (ad k, ccW cy ad k (σ k)) := by
  simp [wW, h]
theorem wW_set (cy : Nat → ClassId) (ad : Nat → Nat) (σ : Sg) (k : Nat) (g : Nat → Int32) : (wW cy ad σ).set k (ad k, ccW cy ad k g) = wW cy ad (fun c => if c = k then g else σ c) := by
  apply List.ext_getElem?
  intro i
  by_cases hi : i < 57
  · rw [wW_at _ _ _ i hi, List.getElem?_set]
    by_cases e : k = i
    · subst e
      simp [wW, hi]
    · have e' : ¬ i = k := fun h => e h.symm
      simp [e, e', wW, hi]
  · have h1 : (wW cy ad (fun c => if c = k then g else σ c)).length ≤ i := by simp [wW]; omega
    have h2 : ((wW cy ad σ).set k (ad k, ccW cy ad k g)).length ≤ i := by simp [wW]; omega
    rw [List.getElem?_eq_none h1, List.getElem?_eq_none h2]
/-- the addresses alone decide that the cells are apart -/
theorem wW_D {cy : Nat → ClassId} {ad : Nat → Nat} {σ : Sg} (σ' : Sg) {A B : Nat → Prop} (h : va_D A (wW cy ad σ)) (hB : ∀ k, k < 57 → A (ad k) → B (ad k)) : va_D B (wW cy ad σ') := by
  have hk : ∀ (τ : Sg) (i : Nat) (q : Nat × va_E), (wW cy ad τ)[i]? = some q → i < 57 ∧ q.1 = ad i := by
    intro τ i q hq
    have hi : i < 57 := by
      rcases Nat.lt_or_ge i 57 with h9 | h9
      · exact h9
      · rw [List.getElem?_eq_none (by simp [wW]; omega)] at hq; cases hq
    rw [wW_at _ _ _ i hi] at hq
    cases hq
    exact ⟨hi, rfl⟩
  refine ⟨fun i j p q hp hq e => ?_, fun k q hq => ?_⟩
  · obtain ⟨hi, e1⟩ := hk _ _ _ hp
    obtain ⟨hj, e2⟩ := hk _ _ _ hq
    exact h.1 i j _ _ (wW_at _ _ _ i hi) (wW_at _ _ _ j hj) (by rw [← e1, ← e2]; exact e)
  · obtain ⟨hi, e1⟩ := hk _ _ _ hq
    rw [e1]
    exact hB k hi (h.2 k _ (wW_at _ _ _ k hi))
def Ar (ad : Nat → Nat) (sz : Nat) (q : Nat) : Prop := (∃ k, k < 57 ∧ q = ad k) ∨ sz ≤ q
theorem Ar_mono {ad : Nat → Nat} {a b : Nat} (h : a ≤ b) {q : Nat} (hq : Ar ad b q) : Ar ad a q := hq.elim Or.inl (fun g => Or.inr (Nat.le_trans h g))
theorem wW_in {ad : Nat → Nat} {sz k : Nat} (h : k < 57) : Ar ad sz (ad k) := Or.inl ⟨k, h, rfl⟩
/-- words that keep in their own way -/
def Nst : List Cond := [Cond.fieldLinkNest RX7 116 "StructureRows$Tree" "elements" "I" "StructureRows", Cond.fieldLinkNest RX7 151 "StructureRows$Tree" "parts" "I" "StructureRows", Cond.fieldLinkNest RX7 250 "StructureRows$Trail" "elementNumbers" "[I" "StructureRows", Cond.fieldLinkNest RX7 174 "StructureRows$Trail" "partCodes" "[I" "StructureRows", Cond.fieldLinkNest RX7 249 "StructureRows$Trail" "elements" "I" "StructureRows", Cond.fieldLinkNest RX7 165 "StructureRows$Trail" "parts" "I" "StructureRows", Cond.methodLinkNest RX7 43 yX2_init "StructureRows", Cond.fieldLinkNest RX7 230 "StructureRows$Headings" "elements" "[I" "StructureRows", Cond.fieldLinkNest RX7 234 "StructureRows$Headings" "levels" "[I" "StructureRows", Cond.fieldLinkNest RX7 231 "StructureRows$Headings" "depths" "[I" "StructureRows", Cond.fieldLinkNest RX7 227 "StructureRows$Headings" "count" "I" "StructureRows", Cond.methodLinkNest RX7 50 yX1_init "StructureRows", Cond.fieldLinkNest RX7 295 "StructureRows$Grid" "uneven" "Z" "StructureRows", Cond.methodLinkNest RX7 57 yX0_init "StructureRows", Cond.fieldLinkNest RX7 212 "StructureRows$Faults" "kinds" "[I" "StructureRows", Cond.fieldLinkNest RX7 215 "StructureRows$Faults" "elements" "[I" "StructureRows", Cond.fieldLinkNest RX7 217 "StructureRows$Faults" "numbers" "[I" "StructureRows", Cond.fieldLinkNest RX7 177 "StructureRows$Faults" "count" "I" "StructureRows", Cond.castable "java/util/NoSuchElementException" "java/util/NoSuchElementException", Cond.declares ⟨"java/lang/RuntimeException", "<init>", "()V"⟩, Cond.declares ⟨"java/lang/RuntimeException", "<init>", "(Ljava/lang/String;)V"⟩, Cond.declares ⟨"java/lang/Exception", "<init>", "()V"⟩, Cond.declares ⟨"java/lang/Exception", "<init>", "(Ljava/lang/String;)V"⟩, Cond.declares ⟨"java/lang/Throwable", "<init>", "()V"⟩, Cond.declares ⟨"java/lang/Throwable", "<init>", "(Ljava/lang/String;)V"⟩, Cond.castable "java/lang/IllegalArgumentException" "java/lang/IllegalArgumentException", Cond.castable "java/lang/UnsupportedOperationException" "java/lang/UnsupportedOperationException", Cond.castable "java/lang/IndexOutOfBoundsException" "java/lang/IndexOutOfBoundsException", Cond.castable "StructureRows" "java/lang/Object", Cond.castable "StructureRows$Roles" "java/lang/Object", Cond.castable "StructureRows$Tree" "java/lang/Object", Cond.castable "StructureRows$Trail" "java/lang/Object", Cond.castable "StructureRows$Pages" "java/lang/Object", Cond.castable "StructureRows$Headings" "java/lang/Object", Cond.castable "StructureRows$Grid" "java/lang/Object", Cond.castable "StructureRows$Faults" "java/lang/Object", Cond.castable "StructureRowsModel" "java/lang/Object", Cond.castable "java/util/NoSuchElementException" "java/lang/Object", Cond.castable "java/lang/IllegalArgumentException" "java/lang/Object", Cond.castable "java/lang/UnsupportedOperationException" "java/lang/Object", Cond.castable "java/lang/IndexOutOfBoundsException" "java/lang/Object", Cond.castable "java/lang/Throwable" "java/lang/Object", Cond.castable "java/lang/String" "java/lang/Object"]
theorem Nst_in : ∀ w ∈ Nst, w ∈ lw_tbl := by
  intro w hw
  simp only [Nst, List.mem_cons, List.not_mem_nil, or_false] at hw
  rcases hw with rfl | rfl | rfl | rfl | rfl | rfl | rfl | rfl | rfl | rfl | rfl | rfl | rfl | rfl | rfl | rfl | rfl | rfl | rfl | rfl | rfl | rfl | rfl | rfl | rfl | rfl | rfl | rfl | rfl | rfl | rfl | rfl | rfl | rfl | rfl | rfl | rfl | rfl | rfl | rfl | rfl | rfl | rfl
  · exact mT1 55 rfl
  · exact mT1 57 rfl
  · exact mT1 83 rfl
  · exact mT1 85 rfl
  · exact mT1 87 rfl
  · exact mT1 89 rfl
  · exact mT1 120 rfl
  · exact mT1 125 rfl
  · exact mT1 127 rfl
  · exact mT1 129 rfl
  · exact mT1 131 rfl
  · exact mT1 143 rfl
  · exact mT1 153 rfl
  · exact mT1 169 rfl
  · exact mT1 174 rfl
  · exact mT1 176 rfl
  · exact mT1 178 rfl
  · exact mT1 180 rfl
  · exact mT2 189 rfl
  · exact mT2 190 rfl
  · exact mT2 191 rfl
  · exact mT2 192 rfl
  · exact mT2 193 rfl
  · exact mT2 194 rfl
  · exact mT2 195 rfl
  · exact mT3 21 rfl
  · exact mT3 37 rfl
  · exact mT3 120 rfl
  · exact mT4 201 rfl
  · exact mT4 202 rfl
  · exact mT4 203 rfl
  · exact mT4 204 rfl
  · exact mT4 205 rfl
  · exact mT4 206 rfl
  · exact mT4 207 rfl
  · exact mT4 208 rfl
  · exact mT4 209 rfl
  · exact mT4 210 rfl
  · exact mT4 211 rfl
  · exact mT4 212 rfl
  · exact mT4 213 rfl
  · exact mT4 214 rfl
  · exact mT4 215 rfl
def nstK : Cond → Bool
  | .fieldLinkNest .. | .methodLinkNest .. | .castable .. | .declares .. => true
  | _ => false
theorem Nst_k : ∀ w ∈ Nst, nstK w = true := by
  intro w hw
  exact List.all_eq_true.mp (show Nst.all nstK = true from rfl) w hw
theorem nst_warm {w : Cond} (hk : nstK w = true) {s U : State} (hW : s.WarmedH U.vm) (h : va_Nw w s) : va_Nw w U := by
  cases w <;> first | exact va_Nw.warmF hW h | exact va_Nw.warmM hW h | exact va_Nw.warmC hW h | exact va_Nw.warmD hW h | cases hk
theorem nst_same {w : Cond} (hk : nstK w = true) {s U : State} (hv : s.vm = U.vm) (h : va_Nw w s) : va_Nw w U := by
  cases w <;> first | exact va_tabs rfl hv h | cases hk
theorem nst_on {w : Cond} (hk : nstK w = true) : w.onTables = true := by
  cases w <;> first | rfl | cases hk
def Strs : List (String × Nat × String) := [(RX7, 111, "no role for an element"), (RX7, 121, "all elements are there"), (RX7, 131, "no own role, or no role to map it to"), (RX7, 154, "all marked parts are there"), (RX7, 171, "the walk has no such part"), (RX7, 210, "the latest check has no such fault"), (RX7, 220, "no level"), (RX7, 222, "no span"), (RX7, 228, "the outline has no such heading"), (RX7, 238, "no such untagged mark"), (RX7, 242, "no such element"), (RX7, 245, "no such page or mark"), (RX7, 247, "0, 1 or 2 is asked for")]
def Ncs : List (String × String) := [("java/lang/IllegalArgumentException", "java/util/NoSuchElementException"), ("java/lang/UnsupportedOperationException", "java/util/NoSuchElementException"), ("java/lang/UnsupportedOperationException", "java/lang/IllegalArgumentException")]
/-- what rides beside the world: words of their own kind, the texts, the two statics that every throw reads -/
def Ext (sa : Nat → Nat) (A : Nat → Prop) (U : State) (H : Heap) : Prop :=
  (∀ w ∈ Nst, va_Nw w U) ∧ (∀ q ∈ Strs, vk_R q.1 q.2.1 q.2.2 (sa q.2.1) U) ∧ (∀ q ∈ Ncs, va_Nc q.1 q.2 U) ∧ vx_Zq Bundle.tN "UNASSIGNED_STACK" Bundle.steD A U H ∧ vx_Zq Bundle.tN "SUPPRESSED_SENTINEL" Bundle.listD A U H
theorem Ext.go {sa : Nat → Nat} {A B : Nat → Prop} {s U : State} {H H1 : Heap} (h : Ext sa A s H) (hW : s.WarmedH U.vm) (hq : ∀ a : Nat, a < H.size → ¬ A a → H1[a]? = H[a]?) (hAB : ∀ q, B q → A q) : Ext sa B U H1 :=
  ⟨fun w hw => nst_warm (Nst_k w hw) hW (h.1 w hw), fun q hq9 => vk_R.warm hW (h.2.1 q hq9), fun q hq9 => va_Nc.moved hW.alike (h.2.2.1 q hq9), ((h.2.2.2.1.kept hq).moved hW.alike).narrow hAB, ((h.2.2.2.2.kept hq).moved hW.alike).narrow hAB⟩
theorem Ext.same {sa : Nat → Nat} {A : Nat → Prop} {s U : State} {H : Heap} (h : Ext sa A s H) (hv : s.vm = U.vm) : Ext sa A U H :=
  ⟨fun w hw => nst_same (Nst_k w hw) hv (h.1 w hw), fun q hq9 => vk_R.same hv.symm (h.2.1 q hq9), fun q hq9 => va_Nc.moved (by rw [← hv]; exact Vm.Alike.refl _) (h.2.2.1 q hq9), h.2.2.2.1.moved (by rw [← hv]; exact Vm.Alike.refl _), h.2.2.2.2.moved (by rw [← hv]; exact Vm.Alike.refl _)⟩
/-! ===== the judgement: at a place of the code, with these locals, this stack, and the world in this state ===== -/
abbrev Cz : Type := Program × Launch × Env × Room × State × MethodId × Array Value × List Frame × Method × Code × (State → Prop) × va_G × (Nat → ClassId) × (Nat → Nat) × (Nat → Nat) × Nat × Nat
abbrev zp (z : Cz) : Program := z.1
abbrev zl (z : Cz) : Launch := z.2.1
abbrev ze (z : Cz) : Env := z.2.2.1
abbrev zR (z : Cz) : Room := z.2.2.2.1
abbrev zs (z : Cz) : State := z.2.2.2.2.1
abbrev zm (z : Cz) : MethodId := z.2.2.2.2.2.1
abbrev za (z : Cz) : Array Value := z.2.2.2.2.2.2.1
abbrev zb (z : Cz) : List Frame := z.2.2.2.2.2.2.2.1
abbrev zh (z : Cz) : Method := z.2.2.2.2.2.2.2.2.1
abbrev zc (z : Cz) : Code := z.2.2.2.2.2.2.2.2.2.1
abbrev zQ (z : Cz) : State → Prop := z.2.2.2.2.2.2.2.2.2.2.1
abbrev zD (z : Cz) : va_G := z.2.2.2.2.2.2.2.2.2.2.2.1
abbrev zy (z : Cz) : Nat → ClassId := z.2.2.2.2.2.2.2.2.2.2.2.2.1
abbrev zA (z : Cz) : Nat → Nat := z.2.2.2.2.2.2.2.2.2.2.2.2.2.1
abbrev zS (z : Cz) : Nat → Nat := z.2.2.2.2.2.2.2.2.2.2.2.2.2.2.1
abbrev z0 (z : Cz) : Nat := z.2.2.2.2.2.2.2.2.2.2.2.2.2.2.2.1
abbrev z1 (z : Cz) : Nat := z.2.2.2.2.2.2.2.2.2.2.2.2.2.2.2.2
/-- what a body knows from its start on -/
def Cx (z : Cz) (cc : ByteArray) (nL : Nat) (own : String) : Prop :=
  (zp z).tables.exec = Jvm.exec ∧ (zc z).code = cc ∧ (zc z).maxLocals = nL ∧ (zs z).vm.findClass own = some (zm z).cls ∧ (∀ w ∈ ALL, w.before (za z) (zs z) = true) ∧ va_K (zD z) vwCl (tyW (zy z)) (zs z) ∧ Ext (zS z) (Ar (zA z) (zs z).heap.size) (zs z) (zs z).heap ∧ (zl z).stackTraces = false ∧ (zh z).locks = false
def V (z : Cz) (k nL pc : Nat) (lv : List (Nat × Value)) (st : List Value) (σ : Sg) : Prop :=
  ∀ (H : Heap) (locs : List Loc) (ls : Array Slot), (z0 z + k ≤ (zR z).cells ∧ z1 z + 6 * k ≤ (zR z).slots) → va_P (zD z) vwCl (wW (zy z) (zA z) σ) H → va_D (Ar (zA z) (zs z).heap.size) (wW (zy z) (zA z) σ) → va_S (Ar (zA z) (zs z).heap.size) (zs z).heap H locs → lv_has ls nL lv →
    W (zp z) (zl z) (ze z) (zR z) (zs z) (zm z) (za z) (zb z) (zh z) (zc z) H locs (z0 z + k) (z1 z + 6 * k) (zQ z) (F0 (zm z) pc ls st)
/-! the words of the mirrors: a value is named, read, written; a call is made -/
def lt {β : Type} (x : Int32) (K : Int32 → Option β) : Option β := K x
def st {β : Type} (σ : Sg) (K : Sg → Option β) : Option β := K σ
def rdA {β : Type} (n : Nat) (f : Nat → Int32) (i : Int32) (K : Int32 → Option β) : Option β := if i < 0 then none else if n ≤ i.toNatClampNeg then none else K (f i.toNatClampNeg)
def wrA {β : Type} (n : Nat) (σ : Sg) (c : Nat) (i x : Int32) (K : Sg → Option β) : Option β := if i < 0 then none else if n ≤ i.toNatClampNeg then none else K (ss σ c i.toNatClampNeg x)
def gd {β : Type} (c : Prop) [Decidable c] (K : Option β) : Option β := if c then K else none
def cI {β : Type} (x : Option (Int32 × Sg)) (K : Int32 → Sg → Option β) : Option β := match x with
  | none => none
  | some q => K q.1 q.2
abbrev Out : Type := (String ⊕ Int32) × Sg
def cT (x : Option Out) (K : Int32 → Sg → Option Out) : Option Out := match x with
  | none => none
  | some (.inl E, σ) => some (.inl E, σ)
  | some (.inr r, σ) => K r σ
end
section
section RW
variable {z : Cz} {k nL pc : Nat} {lv : List (Nat × Value)} {rest : List Value} {σ : Sg} {cc : ByteArray} {own : String} {β : Type} {res : β}
theorem r_iconst (X : Cx z cc nL own) {n : Int} (v : Int32) (hdg : decode cc pc = .ok (.iconst n, 1)) (hv : Int32.ofInt n = v) (kk : V z k nL (pc + 1) lv (.int v :: rest) σ) : V z k nL pc lv rest σ :=
  fun H locs ls hc hP hD hS hl => lv_iconst X.1 X.2.1 hdg hv (kk H locs ls hc hP hD hS hl)
theorem r_bipush (X : Cx z cc nL own) {n : Int} (v : Int32) (hdg : decode cc pc = .ok (.bipush n, 2)) (hv : (Int8.ofInt n).toInt32 = v) (kk : V z k nL (pc + 2) lv (.int v :: rest) σ) : V z k nL pc lv rest σ :=
  fun H locs ls hc hP hD hS hl => lv_bipush X.1 X.2.1 hdg hv (kk H locs ls hc hP hD hS hl)
theorem r_sipush (X : Cx z cc nL own) {n : Int} (v : Int32) (hdg : decode cc pc = .ok (.sipush n, 3)) (hv : (Int16.ofInt n).toInt32 = v) (kk : V z k nL (pc + 3) lv (.int v :: rest) σ) : V z k nL pc lv rest σ :=
  fun H locs ls hc hP hD hS hl => lv_sipush X.1 X.2.1 hdg hv (kk H locs ls hc hP hD hS hl)
theorem r_iload_n (X : Cx z cc nL own) {q : Fin 4} {i : Nat} {x : Int32} (hdg : decode cc pc = .ok (.iload_n q, 1)) (hi : (q : Nat) = i) (j : Nat) (hj : lv[j]? = some (i, .int x)) (kk : V z k nL (pc + 1) lv (.int x :: rest) σ) : V z k nL pc lv rest σ :=
  fun H locs ls hc hP hD hS hl => lv_iload_n X.1 X.2.1 hdg hi (lv_at hl j hj) (kk H locs ls hc hP hD hS hl)
theorem r_iload (X : Cx z cc nL own) {i : Nat} {x : Int32} (hdg : decode cc pc = .ok (.iload i, 2)) (j : Nat) (hj : lv[j]? = some (i, .int x)) (kk : V z k nL (pc + 2) lv (.int x :: rest) σ) : V z k nL pc lv rest σ :=
  fun H locs ls hc hP hD hS hl => lv_iload X.1 X.2.1 hdg (lv_at hl j hj) (kk H locs ls hc hP hD hS hl)
theorem r_aload_n (X : Cx z cc nL own) {q : Fin 4} {i : Nat} {x : Nat} (hdg : decode cc pc = .ok (.aload_n q, 1)) (hi : (q : Nat) = i) (j : Nat) (hj : lv[j]? = some (i, .ref x)) (kk : V z k nL (pc + 1) lv (.ref x :: rest) σ) : V z k nL pc lv rest σ :=
  fun H locs ls hc hP hD hS hl => lv_aload_n X.1 X.2.1 hdg hi (lv_at hl j hj) (kk H locs ls hc hP hD hS hl)
theorem r_aload (X : Cx z cc nL own) {i : Nat} {x : Nat} (hdg : decode cc pc = .ok (.aload i, 2)) (j : Nat) (hj : lv[j]? = some (i, .ref x)) (kk : V z k nL (pc + 2) lv (.ref x :: rest) σ) : V z k nL pc lv rest σ :=
  fun H locs ls hc hP hD hS hl => lv_aload X.1 X.2.1 hdg (lv_at hl j hj) (kk H locs ls hc hP hD hS hl)
theorem r_istore_n (X : Cx z cc nL own) {q : Fin 4} {i : Nat} {x : Int32} (lv' : List (Nat × Value)) (hdg : decode cc pc = .ok (.istore_n q, 1)) (hi : (q : Nat) = i) (hn : i < nL) (hv : (i, Value.int x) :: lv.filter (fun q => !(q.1 == i) && !(q.1 + 1 == i && q.2.category == 2)) = lv') (kk : V z k nL (pc + 1) lv' rest σ) : V z k nL pc lv (.int x :: rest) σ :=
  fun H locs ls hc hP hD hS hl => lv_istore_n X.1 X.2.1 hdg hi hl hn hv (fun ls hl => kk H locs ls hc hP hD hS hl)
theorem r_istore (X : Cx z cc nL own) {i : Nat} {x : Int32} (lv' : List (Nat × Value)) (hdg : decode cc pc = .ok (.istore i, 2)) (hn : i < nL) (hv : (i, Value.int x) :: lv.filter (fun q => !(q.1 == i) && !(q.1 + 1 == i && q.2.category == 2)) = lv') (kk : V z k nL (pc + 2) lv' rest σ) : V z k nL pc lv (.int x :: rest) σ :=
  fun H locs ls hc hP hD hS hl => lv_istore X.1 X.2.1 hdg hl hn hv (fun ls hl => kk H locs ls hc hP hD hS hl)
theorem r_astore (X : Cx z cc nL own) {i : Nat} {x : Nat} (lv' : List (Nat × Value)) (hdg : decode cc pc = .ok (.astore i, 2)) (hn : i < nL) (hv : (i, Value.ref x) :: lv.filter (fun q => !(q.1 == i) && !(q.1 + 1 == i && q.2.category == 2)) = lv') (kk : V z k nL (pc + 2) lv' rest σ) : V z k nL pc lv (.ref x :: rest) σ :=
  fun H locs ls hc hP hD hS hl => lv_astore X.1 X.2.1 hdg hl hn hv (fun ls hl => kk H locs ls hc hP hD hS hl)
theorem r_astore_n (X : Cx z cc nL own) {q : Fin 4} {i : Nat} {x : Nat} (lv' : List (Nat × Value)) (hdg : decode cc pc = .ok (.astore_n q, 1)) (hi : (q : Nat) = i) (hn : i < nL) (hv : (i, Value.ref x) :: lv.filter (fun q => !(q.1 == i) && !(q.1 + 1 == i && q.2.category == 2)) = lv') (kk : V z k nL (pc + 1) lv' rest σ) : V z k nL pc lv (.ref x :: rest) σ :=
  fun H locs ls hc hP hD hS hl => lv_astore_n X.1 X.2.1 hdg hi hl hn hv (fun ls hl => kk H locs ls hc hP hD hS hl)
theorem r_iinc (X : Cx z cc nL own) {i : Nat} {n : Int} {x : Int32} (c : Int32) (lv' : Int32 → List (Nat × Value)) (hdg : decode cc pc = .ok (.iinc i n, 3)) (j : Nat) (hj : lv[j]? = some (i, .int x)) (hc9 : Int32.ofInt n = c) (hn : i < nL) (hv : ∀ v : Int32, (i, Value.int v) :: lv.filter (fun q => !(q.1 == i) && !(q.1 + 1 == i && q.2.category == 2)) = lv' v)
    {K : Int32 → Option β} (h : lt (x + c) K = some res) (kk : ∀ v : Int32, K v = some res → V z k nL (pc + 3) (lv' v) rest σ) : V z k nL pc lv rest σ :=
  fun H locs ls hc hP hD hS hl => lv_iinc (v := x + c) X.1 X.2.1 hdg hl hj (by rw [hc9]) hn (hv _) (fun ls hl => kk (x + c) h H locs ls hc hP hD hS hl)
theorem r_lt {x : Int32} {K : Int32 → Option β} (h : lt x K = some res) (kk : ∀ v : Int32, K v = some res → V z k nL pc lv (.int v :: rest) σ) : V z k nL pc lv (.int x :: rest) σ := kk x h
theorem r_iadd (X : Cx z cc nL own) {x y : Int32} (hdg : decode cc pc = .ok (.iadd, 1)) (kk : V z k nL (pc + 1) lv (.int (x + y) :: rest) σ) : V z k nL pc lv (.int y :: .int x :: rest) σ :=
  fun H locs ls hc hP hD hS hl => lv_iadd X.1 X.2.1 hdg (kk H locs ls hc hP hD hS hl)
theorem r_isub (X : Cx z cc nL own) {x y : Int32} (hdg : decode cc pc = .ok (.isub, 1)) (kk : V z k nL (pc + 1) lv (.int (x - y) :: rest) σ) : V z k nL pc lv (.int y :: .int x :: rest) σ :=
  fun H locs ls hc hP hD hS hl => lv_isub X.1 X.2.1 hdg (kk H locs ls hc hP hD hS hl)
theorem r_imul (X : Cx z cc nL own) {x y : Int32} (hdg : decode cc pc = .ok (.imul, 1)) (kk : V z k nL (pc + 1) lv (.int (x * y) :: rest) σ) : V z k nL pc lv (.int y :: .int x :: rest) σ :=
  fun H locs ls hc hP hD hS hl => lv_imul X.1 X.2.1 hdg (kk H locs ls hc hP hD hS hl)
theorem r_iand (X : Cx z cc nL own) {x y : Int32} (hdg : decode cc pc = .ok (.iand, 1)) (kk : V z k nL (pc + 1) lv (.int (x &&& y) :: rest) σ) : V z k nL pc lv (.int y :: .int x :: rest) σ :=
  fun H locs ls hc hP hD hS hl => lv_iand X.1 X.2.1 hdg (kk H locs ls hc hP hD hS hl)
theorem r_idiv (X : Cx z cc nL own) {x y : Int32} (hdg : decode cc pc = .ok (.idiv, 1)) (hne : ¬ y = 0) (kk : V z k nL (pc + 1) lv (.int (x / y) :: rest) σ) : V z k nL pc lv (.int y :: .int x :: rest) σ :=
  fun H locs ls hc hP hD hS hl => lv_idiv X.1 X.2.1 hdg hne (kk H locs ls hc hP hD hS hl)
theorem r_irem (X : Cx z cc nL own) {x y : Int32} (hdg : decode cc pc = .ok (.irem, 1)) (hne : ¬ y = 0) (kk : V z k nL (pc + 1) lv (.int (x - x / y * y) :: rest) σ) : V z k nL pc lv (.int y :: .int x :: rest) σ :=
  fun H locs ls hc hP hD hS hl => lv_irem X.1 X.2.1 hdg hne (kk H locs ls hc hP hD hS hl)
theorem r_dup (X : Cx z cc nL own) {va : Value} (hdg : decode cc pc = .ok (.dup, 1)) (hva : va.category = 1) (kk : V z k nL (pc + 1) lv (va :: va :: rest) σ) : V z k nL pc lv (va :: rest) σ :=
  fun H locs ls hc hP hD hS hl => lv_dup X.1 X.2.1 hdg hva (kk H locs ls hc hP hD hS hl)
theorem r_dup2 (X : Cx z cc nL own) {va vb : Value} (hdg : decode cc pc = .ok (.dup2, 1)) (hva : va.category = 1) (hvb : vb.category = 1) (kk : V z k nL (pc + 1) lv (va :: vb :: va :: vb :: rest) σ) : V z k nL pc lv (va :: vb :: rest) σ :=
  fun H locs ls hc hP hD hS hl => lv_dup2_11 X.1 X.2.1 hdg hva hvb (kk H locs ls hc hP hD hS hl)
theorem r_pop (X : Cx z cc nL own) {va : Value} (hdg : decode cc pc = .ok (.pop, 1)) (hva : va.category = 1) (kk : V z k nL (pc + 1) lv rest σ) : V z k nL pc lv (va :: rest) σ :=
  fun H locs ls hc hP hD hS hl => lv_pop X.1 X.2.1 hdg hva (kk H locs ls hc hP hD hS hl)
theorem r_goto (X : Cx z cc nL own) {off : Int} (tgt : Nat) (hdg : decode cc pc = .ok (.goto off, 3)) (ht : (pc : Int) + off = (tgt : Int)) (kk : V z k nL tgt lv rest σ) : V z k nL pc lv rest σ :=
  fun H locs ls hc hP hD hS hl => lv_goto X.1 X.2.1 hdg ht (kk H locs ls hc hP hD hS hl)
theorem r_sub (ks : List Nat) {lv' : List (Nat × Value)} (hv : lv_pick lv ks = lv') (kk : V z k nL pc lv' rest σ) : V z k nL pc lv rest σ :=
  fun H locs ls hc hP hD hS hl => kk H locs ls hc hP hD hS (lv_sub hl ks hv)
theorem r_if_eq (X : Cx z cc nL own) {x : Int32} {off : Int} (tgt : Nat) (hdg : decode cc pc = .ok (.ifCond .eq off, 3)) (ht : (pc : Int) + off = (tgt : Int)) {dc : Decidable (x = 0)} {f1 f2 : Option β} (h : @ite _ (x = 0) dc f1 f2 = some res) (kt : x = 0 → f1 = some res → V z k nL tgt lv rest σ) (kf : ¬ (x = 0) → f2 = some res → V z k nL (pc + 3) lv rest σ) : V z k nL pc lv (.int x :: rest) σ :=
  fun H locs ls hc hP hD hS hl => lv_if_eq X.1 X.2.1 hdg ht (fun g => kt g (by rw [if_pos g] at h; exact h) H locs ls hc hP hD hS hl) (fun g => kf g (by rw [if_neg g] at h; exact h) H locs ls hc hP hD hS hl)
theorem r_if_eq_t (X : Cx z cc nL own) {x : Int32} {off : Int} (tgt : Nat) (hdg : decode cc pc = .ok (.ifCond .eq off, 3)) (ht : (pc : Int) + off = (tgt : Int)) (g : x = 0) (kt : V z k nL tgt lv rest σ) : V z k nL pc lv (.int x :: rest) σ :=
  fun H locs ls hc hP hD hS hl => lv_if_eq X.1 X.2.1 hdg ht (fun _ => kt H locs ls hc hP hD hS hl) (fun g9 => absurd g g9)
theorem r_if_eq_f (X : Cx z cc nL own) {x : Int32} {off : Int} (tgt : Nat) (hdg : decode cc pc = .ok (.ifCond .eq off, 3)) (ht : (pc : Int) + off = (tgt : Int)) (g : ¬ (x = 0)) (kf : V z k nL (pc + 3) lv rest σ) : V z k nL pc lv (.int x :: rest) σ :=
  fun H locs ls hc hP hD hS hl => lv_if_eq X.1 X.2.1 hdg ht (fun g9 => absurd g9 g) (fun _ => kf H locs ls hc hP hD hS hl)
theorem r_icmp_eq (X : Cx z cc nL own) {x y : Int32} {off : Int} (tgt : Nat) (hdg : decode cc pc = .ok (.if_icmp .eq off, 3)) (ht : (pc : Int) + off = (tgt : Int)) {dc : Decidable (x = y)} {f1 f2 : Option β} (h : @ite _ (x = y) dc f1 f2 = some res) (kt : x = y → f1 = some res → V z k nL tgt lv rest σ) (kf : ¬ (x = y) → f2 = some res → V z k nL (pc + 3) lv rest σ) : V z k nL pc lv (.int y :: .int x :: rest) σ :=
  fun H locs ls hc hP hD hS hl => lv_icmp_eq X.1 X.2.1 hdg ht (fun g => kt g (by rw [if_pos g] at h; exact h) H locs ls hc hP hD hS hl) (fun g => kf g (by rw [if_neg g] at h; exact h) H locs ls hc hP hD hS hl)
theorem r_icmp_eq_t (X : Cx z cc nL own) {x y : Int32} {off : Int} (tgt : Nat) (hdg : decode cc pc = .ok (.if_icmp .eq off, 3)) (ht : (pc : Int) + off = (tgt : Int)) (g : x = y) (kt : V z k nL tgt lv rest σ) : V z k nL pc lv (.int y :: .int x :: rest) σ :=
  fun H locs ls hc hP hD hS hl => lv_icmp_eq X.1 X.2.1 hdg ht (fun _ => kt H locs ls hc hP hD hS hl) (fun g9 => absurd g g9)
theorem r_icmp_eq_f (X : Cx z cc nL own) {x y : Int32} {off : Int} (tgt : Nat) (hdg : decode cc pc = .ok (.if_icmp .eq off, 3)) (ht : (pc : Int) + off = (tgt : Int)) (g : ¬ (x = y)) (kf : V z k nL (pc + 3) lv rest σ) : V z k nL pc lv (.int y :: .int x :: rest) σ :=
  fun H locs ls hc hP hD hS hl => lv_icmp_eq X.1 X.2.1 hdg ht (fun g9 => absurd g9 g) (fun _ => kf H locs ls hc hP hD hS hl)
theorem r_if_ne (X : Cx z cc nL own) {x : Int32} {off : Int} (tgt : Nat) (hdg : decode cc pc = .ok (.ifCond .ne off, 3)) (ht : (pc : Int) + off = (tgt : Int)) {dc : Decidable (x = 0)} {f1 f2 : Option β} (h : @ite _ (x = 0) dc f2 f1 = some res) (kf : x = 0 → f2 = some res → V z k nL (pc + 3) lv rest σ) (kt : ¬ (x = 0) → f1 = some res → V z k nL tgt lv rest σ) : V z k nL pc lv (.int x :: rest) σ :=
  fun H locs ls hc hP hD hS hl => lv_if_ne X.1 X.2.1 hdg ht (fun g => kt g (by rw [if_neg g] at h; exact h) H locs ls hc hP hD hS hl) (fun g => kf g (by rw [if_pos g] at h; exact h) H locs ls hc hP hD hS hl)
theorem r_if_ne_t (X : Cx z cc nL own) {x : Int32} {off : Int} (tgt : Nat) (hdg : decode cc pc = .ok (.ifCond .ne off, 3)) (ht : (pc : Int) + off = (tgt : Int)) (g : ¬ (x = 0)) (kt : V z k nL tgt lv rest σ) : V z k nL pc lv (.int x :: rest) σ :=
  fun H locs ls hc hP hD hS hl => lv_if_ne X.1 X.2.1 hdg ht (fun _ => kt H locs ls hc hP hD hS hl) (fun g9 => absurd g9 g)
theorem r_if_ne_f (X : Cx z cc nL own) {x : Int32} {off : Int} (tgt : Nat) (hdg : decode cc pc = .ok (.ifCond .ne off, 3)) (ht : (pc : Int) + off = (tgt : Int)) (g : x = 0) (kf : V z k nL (pc + 3) lv rest σ) : V z k nL pc lv (.int x :: rest) σ :=
  fun H locs ls hc hP hD hS hl => lv_if_ne X.1 X.2.1 hdg ht (fun g9 => absurd g g9) (fun _ => kf H locs ls hc hP hD hS hl)
theorem r_icmp_ne (X : Cx z cc nL own) {x y : Int32} {off : Int} (tgt : Nat) (hdg : decode cc pc = .ok (.if_icmp .ne off, 3)) (ht : (pc : Int) + off = (tgt : Int)) {dc : Decidable (x = y)} {f1 f2 : Option β} (h : @ite _ (x = y) dc f2 f1 = some res) (kf : x = y → f2 = some res → V z k nL (pc + 3) lv rest σ) (kt : ¬ (x = y) → f1 = some res → V z k nL tgt lv rest σ) : V z k nL pc lv (.int y :: .int x :: rest) σ :=
  fun H locs ls hc hP hD hS hl => lv_icmp_ne X.1 X.2.1 hdg ht (fun g => kt g (by rw [if_neg g] at h; exact h) H locs ls hc hP hD hS hl) (fun g => kf g (by rw [if_pos g] at h; exact h) H locs ls hc hP hD hS hl)
theorem r_icmp_ne_t (X : Cx z cc nL own) {x y : Int32} {off : Int} (tgt : Nat) (hdg : decode cc pc = .ok (.if_icmp .ne off, 3)) (ht : (pc : Int) + off = (tgt : Int)) (g : ¬ (x = y)) (kt : V z k nL tgt lv rest σ) : V z k nL pc lv (.int y :: .int x :: rest) σ :=
  fun H locs ls hc hP hD hS hl => lv_icmp_ne X.1 X.2.1 hdg ht (fun _ => kt H locs ls hc hP hD hS hl) (fun g9 => absurd g9 g)
theorem r_icmp_ne_f (X : Cx z cc nL own) {x y : Int32} {off : Int} (tgt : Nat) (hdg : decode cc pc = .ok (.if_icmp .ne off, 3)) (ht : (pc : Int) + off = (tgt : Int)) (g : x = y) (kf : V z k nL (pc + 3) lv rest σ) : V z k nL pc lv (.int y :: .int x :: rest) σ :=
  fun H locs ls hc hP hD hS hl => lv_icmp_ne X.1 X.2.1 hdg ht (fun g9 => absurd g g9) (fun _ => kf H locs ls hc hP hD hS hl)
theorem r_if_lt (X : Cx z cc nL own) {x : Int32} {off : Int} (tgt : Nat) (hdg : decode cc pc = .ok (.ifCond .lt off, 3)) (ht : (pc : Int) + off = (tgt : Int)) {dc : Decidable (x < 0)} {f1 f2 : Option β} (h : @ite _ (x < 0) dc f1 f2 = some res) (kt : x < 0 → f1 = some res → V z k nL tgt lv rest σ) (kf : ¬ (x < 0) → f2 = some res → V z k nL (pc + 3) lv rest σ) : V z k nL pc lv (.int x :: rest) σ :=
  fun H locs ls hc hP hD hS hl => lv_if_lt X.1 X.2.1 hdg ht (fun g => kt g (by rw [if_pos g] at h; exact h) H locs ls hc hP hD hS hl) (fun g => kf g (by rw [if_neg g] at h; exact h) H locs ls hc hP hD hS hl)
theorem r_if_lt_t (X : Cx z cc nL own) {x : Int32} {off : Int} (tgt : Nat) (hdg : decode cc pc = .ok (.ifCond .lt off, 3)) (ht : (pc : Int) + off = (tgt : Int)) (g : x < 0) (kt : V z k nL tgt lv rest σ) : V z k nL pc lv (.int x :: rest) σ :=
  fun H locs ls hc hP hD hS hl => lv_if_lt X.1 X.2.1 hdg ht (fun _ => kt H locs ls hc hP hD hS hl) (fun g9 => absurd g g9)
theorem r_if_lt_f (X : Cx z cc nL own) {x : Int32} {off : Int} (tgt : Nat) (hdg : decode cc pc = .ok (.ifCond .lt off, 3)) (ht : (pc : Int) + off = (tgt : Int)) (g : ¬ (x < 0)) (kf : V z k nL (pc + 3) lv rest σ) : V z k nL pc lv (.int x :: rest) σ :=
  fun H locs ls hc hP hD hS hl => lv_if_lt X.1 X.2.1 hdg ht (fun g9 => absurd g9 g) (fun _ => kf H locs ls hc hP hD hS hl)
theorem r_icmp_lt (X : Cx z cc nL own) {x y : Int32} {off : Int} (tgt : Nat) (hdg : decode cc pc = .ok (.if_icmp .lt off, 3)) (ht : (pc : Int) + off = (tgt : Int)) {dc : Decidable (x < y)} {f1 f2 : Option β} (h : @ite _ (x < y) dc f1 f2 = some res) (kt : x < y → f1 = some res → V z k nL tgt lv rest σ) (kf : ¬ (x < y) → f2 = some res → V z k nL (pc + 3) lv rest σ) : V z k nL pc lv (.int y :: .int x :: rest) σ :=
  fun H locs ls hc hP hD hS hl => lv_icmp_lt X.1 X.2.1 hdg ht (fun g => kt g (by rw [if_pos g] at h; exact h) H locs ls hc hP hD hS hl) (fun g => kf g (by rw [if_neg g] at h; exact h) H locs ls hc hP hD hS hl)
theorem r_icmp_lt_t (X : Cx z cc nL own) {x y : Int32} {off : Int} (tgt : Nat) (hdg : decode cc pc = .ok (.if_icmp .lt off, 3)) (ht : (pc : Int) + off = (tgt : Int)) (g : x < y) (kt : V z k nL tgt lv rest σ) : V z k nL pc lv (.int y :: .int x :: rest) σ :=
  fun H locs ls hc hP hD hS hl => lv_icmp_lt X.1 X.2.1 hdg ht (fun _ => kt H locs ls hc hP hD hS hl) (fun g9 => absurd g g9)
theorem r_icmp_lt_f (X : Cx z cc nL own) {x y : Int32} {off : Int} (tgt : Nat) (hdg : decode cc pc = .ok (.if_icmp .lt off, 3)) (ht : (pc : Int) + off = (tgt : Int)) (g : ¬ (x < y)) (kf : V z k nL (pc + 3) lv rest σ) : V z k nL pc lv (.int y :: .int x :: rest) σ :=
  fun H locs ls hc hP hD hS hl => lv_icmp_lt X.1 X.2.1 hdg ht (fun g9 => absurd g9 g) (fun _ => kf H locs ls hc hP hD hS hl)
theorem r_if_ge (X : Cx z cc nL own) {x : Int32} {off : Int} (tgt : Nat) (hdg : decode cc pc = .ok (.ifCond .ge off, 3)) (ht : (pc : Int) + off = (tgt : Int)) {dc : Decidable (0 ≤ x)} {f1 f2 : Option β} (h : @ite _ (0 ≤ x) dc f1 f2 = some res) (kt : 0 ≤ x → f1 = some res → V z k nL tgt lv rest σ) (kf : ¬ (0 ≤ x) → f2 = some res → V z k nL (pc + 3) lv rest σ) : V z k nL pc lv (.int x :: rest) σ :=
  fun H locs ls hc hP hD hS hl => lv_if_ge X.1 X.2.1 hdg ht (fun g => kt g (by rw [if_pos g] at h; exact h) H locs ls hc hP hD hS hl) (fun g => kf g (by rw [if_neg g] at h; exact h) H locs ls hc hP hD hS hl)
theorem r_if_ge_t (X : Cx z cc nL own) {x : Int32} {off : Int} (tgt : Nat) (hdg : decode cc pc = .ok (.ifCond .ge off, 3)) (ht : (pc : Int) + off = (tgt : Int)) (g : 0 ≤ x) (kt : V z k nL tgt lv rest σ) : V z k nL pc lv (.int x :: rest) σ :=
  fun H locs ls hc hP hD hS hl => lv_if_ge X.1 X.2.1 hdg ht (fun _ => kt H locs ls hc hP hD hS hl) (fun g9 => absurd g g9)
theorem r_if_ge_f (X : Cx z cc nL own) {x : Int32} {off : Int} (tgt : Nat) (hdg : decode cc pc = .ok (.ifCond .ge off, 3)) (ht : (pc : Int) + off = (tgt : Int)) (g : ¬ (0 ≤ x)) (kf : V z k nL (pc + 3) lv rest σ) : V z k nL pc lv (.int x :: rest) σ :=
  fun H locs ls hc hP hD hS hl => lv_if_ge X.1 X.2.1 hdg ht (fun g9 => absurd g9 g) (fun _ => kf H locs ls hc hP hD hS hl)
theorem r_icmp_ge (X : Cx z cc nL own) {x y : Int32} {off : Int} (tgt : Nat) (hdg : decode cc pc = .ok (.if_icmp .ge off, 3)) (ht : (pc : Int) + off = (tgt : Int)) {dc : Decidable (y ≤ x)} {f1 f2 : Option β} (h : @ite _ (y ≤ x) dc f1 f2 = some res) (kt : y ≤ x → f1 = some res → V z k nL tgt lv rest σ) (kf : ¬ (y ≤ x) → f2 = some res → V z k nL (pc + 3) lv rest σ) : V z k nL pc lv (.int y :: .int x :: rest) σ :=
  fun H locs ls hc hP hD hS hl => lv_icmp_ge X.1 X.2.1 hdg ht (fun g => kt g (by rw [if_pos g] at h; exact h) H locs ls hc hP hD hS hl) (fun g => kf g (by rw [if_neg g] at h; exact h) H locs ls hc hP hD hS hl)
theorem r_icmp_ge_t (X : Cx z cc nL own) {x y : Int32} {off : Int} (tgt : Nat) (hdg : decode cc pc = .ok (.if_icmp .ge off, 3)) (ht : (pc : Int) + off = (tgt : Int)) (g : y ≤ x) (kt : V z k nL tgt lv rest σ) : V z k nL pc lv (.int y :: .int x :: rest) σ :=
  fun H locs ls hc hP hD hS hl => lv_icmp_ge X.1 X.2.1 hdg ht (fun _ => kt H locs ls hc hP hD hS hl) (fun g9 => absurd g g9)
theorem r_icmp_ge_f (X : Cx z cc nL own) {x y : Int32} {off : Int} (tgt : Nat) (hdg : decode cc pc = .ok (.if_icmp .ge off, 3)) (ht : (pc : Int) + off = (tgt : Int)) (g : ¬ (y ≤ x)) (kf : V z k nL (pc + 3) lv rest σ) : V z k nL pc lv (.int y :: .int x :: rest) σ :=
  fun H locs ls hc hP hD hS hl => lv_icmp_ge X.1 X.2.1 hdg ht (fun g9 => absurd g9 g) (fun _ => kf H locs ls hc hP hD hS hl)
theorem r_if_gt (X : Cx z cc nL own) {x : Int32} {off : Int} (tgt : Nat) (hdg : decode cc pc = .ok (.ifCond .gt off, 3)) (ht : (pc : Int) + off = (tgt : Int)) {dc : Decidable (0 < x)} {f1 f2 : Option β} (h : @ite _ (0 < x) dc f1 f2 = some res) (kt : 0 < x → f1 = some res → V z k nL tgt lv rest σ) (kf : ¬ (0 < x) → f2 = some res → V z k nL (pc + 3) lv rest σ) : V z k nL pc lv (.int x :: rest) σ :=
  fun H locs ls hc hP hD hS hl => lv_if_gt X.1 X.2.1 hdg ht (fun g => kt g (by rw [if_pos g] at h; exact h) H locs ls hc hP hD hS hl) (fun g => kf g (by rw [if_neg g] at h; exact h) H locs ls hc hP hD hS hl)
theorem r_if_gt_t (X : Cx z cc nL own) {x : Int32} {off : Int} (tgt : Nat) (hdg : decode cc pc = .ok (.ifCond .gt off, 3)) (ht : (pc : Int) + off = (tgt : Int)) (g : 0 < x) (kt : V z k nL tgt lv rest σ) : V z k nL pc lv (.int x :: rest) σ :=
  fun H locs ls hc hP hD hS hl => lv_if_gt X.1 X.2.1 hdg ht (fun _ => kt H locs ls hc hP hD hS hl) (fun g9 => absurd g g9)
theorem r_if_gt_f (X : Cx z cc nL own) {x : Int32} {off : Int} (tgt : Nat) (hdg : decode cc pc = .ok (.ifCond .gt off, 3)) (ht : (pc : Int) + off = (tgt : Int)) (g : ¬ (0 < x)) (kf : V z k nL (pc + 3) lv rest σ) : V z k nL pc lv (.int x :: rest) σ :=
  fun H locs ls hc hP hD hS hl => lv_if_gt X.1 X.2.1 hdg ht (fun g9 => absurd g9 g) (fun _ => kf H locs ls hc hP hD hS hl)
theorem r_icmp_gt (X : Cx z cc nL own) {x y : Int32} {off : Int} (tgt : Nat) (hdg : decode cc pc = .ok (.if_icmp .gt off, 3)) (ht : (pc : Int) + off = (tgt : Int)) {dc : Decidable (y < x)} {f1 f2 : Option β} (h : @ite _ (y < x) dc f1 f2 = some res) (kt : y < x → f1 = some res → V z k nL tgt lv rest σ) (kf : ¬ (y < x) → f2 = some res → V z k nL (pc + 3) lv rest σ) : V z k nL pc lv (.int y :: .int x :: rest) σ :=
  fun H locs ls hc hP hD hS hl => lv_icmp_gt X.1 X.2.1 hdg ht (fun g => kt g (by rw [if_pos g] at h; exact h) H locs ls hc hP hD hS hl) (fun g => kf g (by rw [if_neg g] at h; exact h) H locs ls hc hP hD hS hl)
theorem r_icmp_gt_t (X : Cx z cc nL own) {x y : Int32} {off : Int} (tgt : Nat) (hdg : decode cc pc = .ok (.if_icmp .gt off, 3)) (ht : (pc : Int) + off = (tgt : Int)) (g : y < x) (kt : V z k nL tgt lv rest σ) : V z k nL pc lv (.int y :: .int x :: rest) σ :=
  fun H locs ls hc hP hD hS hl => lv_icmp_gt X.1 X.2.1 hdg ht (fun _ => kt H locs ls hc hP hD hS hl) (fun g9 => absurd g g9)
theorem r_icmp_gt_f (X : Cx z cc nL own) {x y : Int32} {off : Int} (tgt : Nat) (hdg : decode cc pc = .ok (.if_icmp .gt off, 3)) (ht : (pc : Int) + off = (tgt : Int)) (g : ¬ (y < x)) (kf : V z k nL (pc + 3) lv rest σ) : V z k nL pc lv (.int y :: .int x :: rest) σ :=
  fun H locs ls hc hP hD hS hl => lv_icmp_gt X.1 X.2.1 hdg ht (fun g9 => absurd g9 g) (fun _ => kf H locs ls hc hP hD hS hl)
theorem r_if_le (X : Cx z cc nL own) {x : Int32} {off : Int} (tgt : Nat) (hdg : decode cc pc = .ok (.ifCond .le off, 3)) (ht : (pc : Int) + off = (tgt : Int)) {dc : Decidable (x ≤ 0)} {f1 f2 : Option β} (h : @ite _ (x ≤ 0) dc f1 f2 = some res) (kt : x ≤ 0 → f1 = some res → V z k nL tgt lv rest σ) (kf : ¬ (x ≤ 0) → f2 = some res → V z k nL (pc + 3) lv rest σ) : V z k nL pc lv (.int x :: rest) σ :=
  fun H locs ls hc hP hD hS hl => lv_if_le X.1 X.2.1 hdg ht (fun g => kt g (by rw [if_pos g] at h; exact h) H locs ls hc hP hD hS hl) (fun g => kf g (by rw [if_neg g] at h; exact h) H locs ls hc hP hD hS hl)
theorem r_if_le_t (X : Cx z cc nL own) {x : Int32} {off : Int} (tgt : Nat) (hdg : decode cc pc = .ok (.ifCond .le off, 3)) (ht : (pc : Int) + off = (tgt : Int)) (g : x ≤ 0) (kt : V z k nL tgt lv rest σ) : V z k nL pc lv (.int x :: rest) σ :=
  fun H locs ls hc hP hD hS hl => lv_if_le X.1 X.2.1 hdg ht (fun _ => kt H locs ls hc hP hD hS hl) (fun g9 => absurd g g9)
theorem r_if_le_f (X : Cx z cc nL own) {x : Int32} {off : Int} (tgt : Nat) (hdg : decode cc pc = .ok (.ifCond .le off, 3)) (ht : (pc : Int) + off = (tgt : Int)) (g : ¬ (x ≤ 0)) (kf : V z k nL (pc + 3) lv rest σ) : V z k nL pc lv (.int x :: rest) σ :=
  fun H locs ls hc hP hD hS hl => lv_if_le X.1 X.2.1 hdg ht (fun g9 => absurd g9 g) (fun _ => kf H locs ls hc hP hD hS hl)
theorem r_icmp_le (X : Cx z cc nL own) {x y : Int32} {off : Int} (tgt : Nat) (hdg : decode cc pc = .ok (.if_icmp .le off, 3)) (ht : (pc : Int) + off = (tgt : Int)) {dc : Decidable (x ≤ y)} {f1 f2 : Option β} (h : @ite _ (x ≤ y) dc f1 f2 = some res) (kt : x ≤ y → f1 = some res → V z k nL tgt lv rest σ) (kf : ¬ (x ≤ y) → f2 = some res → V z k nL (pc + 3) lv rest σ) : V z k nL pc lv (.int y :: .int x :: rest) σ :=
  fun H locs ls hc hP hD hS hl => lv_icmp_le X.1 X.2.1 hdg ht (fun g => kt g (by rw [if_pos g] at h; exact h) H locs ls hc hP hD hS hl) (fun g => kf g (by rw [if_neg g] at h; exact h) H locs ls hc hP hD hS hl)
theorem r_icmp_le_t (X : Cx z cc nL own) {x y : Int32} {off : Int} (tgt : Nat) (hdg : decode cc pc = .ok (.if_icmp .le off, 3)) (ht : (pc : Int) + off = (tgt : Int)) (g : x ≤ y) (kt : V z k nL tgt lv rest σ) : V z k nL pc lv (.int y :: .int x :: rest) σ :=
  fun H locs ls hc hP hD hS hl => lv_icmp_le X.1 X.2.1 hdg ht (fun _ => kt H locs ls hc hP hD hS hl) (fun g9 => absurd g g9)
theorem r_icmp_le_f (X : Cx z cc nL own) {x y : Int32} {off : Int} (tgt : Nat) (hdg : decode cc pc = .ok (.if_icmp .le off, 3)) (ht : (pc : Int) + off = (tgt : Int)) (g : ¬ (x ≤ y)) (kf : V z k nL (pc + 3) lv rest σ) : V z k nL pc lv (.int y :: .int x :: rest) σ :=
  fun H locs ls hc hP hD hS hl => lv_icmp_le X.1 X.2.1 hdg ht (fun g9 => absurd g9 g) (fun _ => kf H locs ls hc hP hD hS hl)
/-- fields -/
theorem r_get (X : Cx z cc nL own) {C ref : String} {T : u_T} {N ci index : Nat} (q : Nat) {fs : List Value} (hin : ∀ w ∈ u_ws C T N, w ∈ ALL) (hq : q < 57) (he : ccW (zy z) (zA z) q (σ q) = .inr (ci, fs)) (hc9 : vwCl[ci]? = some (C, T, N)) (j : Nat) (hj : j < N) (hlink : Cond.fieldLink own index ref (T j).2.1 (T j).2.2.1 ∈ ALL) (hs9 : (T j).1 = ref) {v : Value} (hv : fs[j]? = some v) (hdg : decode cc pc = .ok (.getfield index, 3)) (kk : V z k nL (pc + 3) lv (v :: rest) σ) : V z k nL pc lv (.ref (zA z q) :: rest) σ :=
  fun H locs ls hc hP hD hS hl => va_get X.1 X.2.1 X.2.2.2.2.1 hin X.2.2.2.1 X.2.2.2.2.2.1 hP q (by rw [wW_at _ _ _ q hq, he]) hc9 j hj (X.2.2.2.2.1 _ hlink) (fun _ h9 => by rw [← hs9]; exact h9) hv hdg (kk H locs ls hc hP hD hS hl)
theorem r_getN (X : Cx z cc nL own) {C ref host : String} {T : u_T} {N ci index : Nat} (q : Nat) {fs : List Value} (hin : ∀ w ∈ u_ws C T N, w ∈ ALL) (hq : q < 57) (he : ccW (zy z) (zA z) q (σ q) = .inr (ci, fs)) (hc9 : vwCl[ci]? = some (C, T, N)) (j : Nat) (hj : j < N) (hlink : Cond.fieldLinkNest own index ref (T j).2.1 (T j).2.2.1 host ∈ Nst) (hs9 : (T j).1 = ref) {v : Value} (hv : fs[j]? = some v) (hdg : decode cc pc = .ok (.getfield index, 3)) (kk : V z k nL (pc + 3) lv (v :: rest) σ) : V z k nL pc lv (.ref (zA z q) :: rest) σ :=
  fun H locs ls hc hP hD hS hl => va_getN X.1 X.2.1 X.2.2.2.2.1 hin X.2.2.2.1 X.2.2.2.2.2.1 hP q (by rw [wW_at _ _ _ q hq, he]) hc9 j hj (va_Nw.use (nst_on (Nst_k _ hlink)) (X.2.2.2.2.2.2.1.1 _ hlink)) (fun _ h9 => by rw [← hs9]; exact h9) hv hdg (kk H locs ls hc hP hD hS hl)
theorem r_put (X : Cx z cc nL own) {C ref : String} {T : u_T} {N ci index : Nat} (q : Nat) {fs : List Value} (hin : ∀ w ∈ u_ws C T N, w ∈ ALL) (ty0 : Nat → FieldType) (hty : ∀ k, k < N → parseFieldDescriptor (T k).2.2.1 = some (ty0 k)) (hnm : ∀ a, a < N → ∀ b, b < N → a ≠ b → (T a).2.1 ≠ (T b).2.1) (hq : q < 57) (he : ccW (zy z) (zA z) q (σ q) = .inr (ci, fs)) (hc9 : vwCl[ci]? = some (C, T, N)) (j : Nat) (hj : j < N) (hlink : Cond.fieldLink own index ref (T j).2.1 (T j).2.2.1 ∈ ALL) (hs9 : (T j).1 = ref) (hfin : (T j).2.2.2 = false) {x : Int32} {ty : FieldType} (ht9 : ty0 j = ty)
    (hnar : narrow ty (.int x) = .int x) (hfit : fits ty (.int x) = true) (hlen : j < fs.length) (hset : (Sum.inr (ci, fs.set j (.int x)) : va_E) = ccW (zy z) (zA z) q (upd (σ q) j x)) (hdg : decode cc pc = .ok (.putfield index, 3)) {K : Sg → Option β} (h : st (ss σ q j x) K = some res) (kk : ∀ σ' : Sg, K σ' = some res → V z k nL (pc + 3) lv rest σ') : V z k nL pc lv (.int x :: .ref (zA z q) :: rest) σ :=
  fun H locs ls hc hP hD hS hl => va_put (ty := ty) X.1 X.2.1 X.2.2.2.2.1 hin ty0 hty hnm X.2.2.2.1 X.2.2.2.2.2.1 hP hD hS q (by rw [wW_at _ _ _ q hq, he]) hc9 j hj (X.2.2.2.2.1 _ hlink) (fun _ h9 => by rw [← hs9]; exact h9) hfin (by rw [hty j hj, ht9]) hnar hfit hlen hdg (fun H locs hP hD hS => kk (ss σ q j x) h H locs ls hc (by rw [hset, wW_set] at hP; exact hP) (by rw [hset, wW_set] at hD; exact hD) hS hl)
theorem r_putN (X : Cx z cc nL own) {C ref host : String} {T : u_T} {N ci index : Nat} (q : Nat) {fs : List Value} (hin : ∀ w ∈ u_ws C T N, w ∈ ALL) (ty0 : Nat → FieldType) (hty : ∀ k, k < N → parseFieldDescriptor (T k).2.2.1 = some (ty0 k)) (hnm : ∀ a, a < N → ∀ b, b < N → a ≠ b → (T a).2.1 ≠ (T b).2.1) (hq : q < 57) (he : ccW (zy z) (zA z) q (σ q) = .inr (ci, fs)) (hc9 : vwCl[ci]? = some (C, T, N)) (j : Nat) (hj : j < N) (hlink : Cond.fieldLinkNest own index ref (T j).2.1 (T j).2.2.1 host ∈ Nst) (hs9 : (T j).1 = ref) (hfin : (T j).2.2.2 = false) {x : Int32} {ty : FieldType} (ht9 : ty0 j = ty)
    (hnar : narrow ty (.int x) = .int x) (hfit : fits ty (.int x) = true) (hlen : j < fs.length) (hset : (Sum.inr (ci, fs.set j (.int x)) : va_E) = ccW (zy z) (zA z) q (upd (σ q) j x)) (hdg : decode cc pc = .ok (.putfield index, 3)) {K : Sg → Option β} (h : st (ss σ q j x) K = some res) (kk : ∀ σ' : Sg, K σ' = some res → V z k nL (pc + 3) lv rest σ') : V z k nL pc lv (.int x :: .ref (zA z q) :: rest) σ :=
  fun H locs ls hc hP hD hS hl => va_putN (ty := ty) X.1 X.2.1 X.2.2.2.2.1 hin ty0 hty hnm X.2.2.2.1 X.2.2.2.2.2.1 hP hD hS q (by rw [wW_at _ _ _ q hq, he]) hc9 j hj (va_Nw.use (nst_on (Nst_k _ hlink)) (X.2.2.2.2.2.2.1.1 _ hlink)) (fun _ h9 => by rw [← hs9]; exact h9) hfin (by rw [hty j hj, ht9]) hnar hfit hlen hdg (fun H locs hP hD hS => kk (ss σ q j x) h H locs ls hc (by rw [hset, wW_set] at hP; exact hP) (by rw [hset, wW_set] at hD; exact hD) hS hl)
/-- rows of numbers -/
theorem rdA_in {n : Nat} {f : Nat → Int32} {i : Int32} {K : Int32 → Option β} (h : rdA n f i K = some res) : vp_in i n ∧ K (f i.toNatClampNeg) = some res := by
  unfold rdA at h
  by_cases h1 : i < 0
  · rw [if_pos h1] at h; cases h
  · rw [if_neg h1] at h
    by_cases h2 : n ≤ i.toNatClampNeg
    · rw [if_pos h2] at h; cases h
    · rw [if_neg h2] at h
      exact ⟨fun g => g.elim h1 h2, h⟩
theorem wrA_in {n : Nat} {σ : Sg} {c : Nat} {i x : Int32} {K : Sg → Option β} (h : wrA n σ c i x K = some res) : vp_in i n ∧ K (ss σ c i.toNatClampNeg x) = some res := by
  unfold wrA at h
  by_cases h1 : i < 0
  · rw [if_pos h1] at h; cases h
  · rw [if_neg h1] at h
    by_cases h2 : n ≤ i.toNatClampNeg
    · rw [if_pos h2] at h; cases h
    · rw [if_neg h2] at h
      exact ⟨fun g => g.elim h1 h2, h⟩
theorem r_iald (X : Cx z cc nL own) (q t0 n : Nat) (hq : q < 57) (he : ccW (zy z) (zA z) q (σ q) = .inl (zy z q, n, .inl (σ q))) (ht : (tyW (zy z))[t0]? = some (zy z q, .int)) {i : Int32} (hdg : decode cc pc = .ok (.iaload, 1)) {K : Int32 → Option β} (h : rdA n (σ q) i K = some res) (kk : ∀ v : Int32, K v = some res → V z k nL (pc + 1) lv (.int v :: rest) σ) : V z k nL pc lv (.int i :: .ref (zA z q) :: rest) σ :=
  fun H locs ls hc hP hD hS hl => va_iald X.1 X.2.1 X.2.2.2.2.2.1 hP q t0 (by rw [wW_at _ _ _ q hq, he]) ht (rdA_in h).1 hdg (kk _ (rdA_in h).2 H locs ls hc hP hD hS hl)
theorem r_zald (X : Cx z cc nL own) (q t0 n : Nat) (hq : q < 57) (he : ccW (zy z) (zA z) q (σ q) = .inl (zy z q, n, .inl (σ q))) (ht : (tyW (zy z))[t0]? = some (zy z q, .boolean)) {i : Int32} (hdg : decode cc pc = .ok (.baload, 1)) {K : Int32 → Option β} (h : rdA n (σ q) i K = some res) (kk : ∀ v : Int32, K v = some res → V z k nL (pc + 1) lv (.int v :: rest) σ) : V z k nL pc lv (.int i :: .ref (zA z q) :: rest) σ :=
  fun H locs ls hc hP hD hS hl => va_zald X.1 X.2.1 X.2.2.2.2.2.1 hP q t0 (by rw [wW_at _ _ _ q hq, he]) ht (rdA_in h).1 hdg (kk _ (rdA_in h).2 H locs ls hc hP hD hS hl)
theorem r_iast (X : Cx z cc nL own) (q t0 n : Nat) (hq : q < 57) (he : ∀ f : Nat → Int32, ccW (zy z) (zA z) q f = .inl (zy z q, n, .inl f)) (ht : (tyW (zy z))[t0]? = some (zy z q, .int)) {i x : Int32} (hdg : decode cc pc = .ok (.iastore, 1)) {K : Sg → Option β} (h : wrA n σ q i x K = some res) (kk : ∀ σ' : Sg, K σ' = some res → V z k nL (pc + 1) lv rest σ') : V z k nL pc lv (.int x :: .int i :: .ref (zA z q) :: rest) σ :=
  fun H locs ls hc hP hD hS hl => va_iast X.1 X.2.1 X.2.2.2.2.2.1 hP hD hS q t0 (by rw [wW_at _ _ _ q hq, he]) ht (wrA_in h).1 hdg (fun H locs hP hD hS => kk _ (wrA_in h).2 H locs ls hc (by rw [← he, wW_set] at hP; exact hP) (by rw [← he, wW_set] at hD; exact hD) hS hl)
theorem r_zast (X : Cx z cc nL own) (q t0 n : Nat) (hq : q < 57) (he : ∀ f : Nat → Int32, ccW (zy z) (zA z) q f = .inl (zy z q, n, .inl f)) (ht : (tyW (zy z))[t0]? = some (zy z q, .boolean)) {i x : Int32} (hdg : decode cc pc = .ok (.bastore, 1)) {K : Sg → Option β} (h : wrA n σ q i (vp_nar .boolean x) K = some res) (kk : ∀ σ' : Sg, K σ' = some res → V z k nL (pc + 1) lv rest σ') : V z k nL pc lv (.int x :: .int i :: .ref (zA z q) :: rest) σ :=
  fun H locs ls hc hP hD hS hl => va_zast X.1 X.2.1 X.2.2.2.2.2.1 hP hD hS q t0 (by rw [wW_at _ _ _ q hq, he]) ht (wrA_in h).1 hdg (fun H locs hP hD hS => kk _ (wrA_in h).2 H locs ls hc (by rw [← he, wW_set] at hP; exact hP) (by rw [← he, wW_set] at hD; exact hD) hS hl)
theorem r_mmax (X : Cx z cc nL own) {index : Nat} (hlink : Cond.methodLink own index Lib.Math.max.name ∈ ALL) (hst : Cond.static Lib.Math.max.name ∈ ALL) (hini : Cond.initialized "java/lang/Math" ∈ ALL) (hcode : Cond.code Lib.Math.max.name Lib.Math.max.code 2 (some .int) ∈ ALL) (hf : 1 ≤ (zR z).frames) (hlo : (rest.map fun v => v.category).sum + 13 ≤ (zR z).locals) {x y : Int32} (hdg : decode cc pc = .ok (.invokestatic index, 3)) {K : Int32 → Option β} (h : lt (if x < y then y else x) K = some res) (kk : ∀ v : Int32, K v = some res → V z k nL (pc + 3) lv (.int v :: rest) σ) : V z k nL pc lv (.int y :: .int x :: rest) σ :=
  fun H locs ls hc hP hD hS hl => va_mmax X.1 X.2.1 (X.2.2.1.trans hl.1.symm) X.2.2.2.1 (X.2.2.2.2.1 _ hlink) (X.2.2.2.2.1 _ hst) (X.2.2.2.2.1 _ hini) (X.2.2.2.2.1 _ hcode) hf hlo hc.1 hc.2 hdg (kk _ h H locs ls hc hP hD hS hl)
end RW
end
section
/-! ===== contracts and calls over the one world ===== -/
def Pm (D : va_G) (cy : Nat → ClassId) (ad sa : Nat → Nat) (avs : List Value) (σ : Sg) (sz : Nat) : Array Value → State → Prop := fun v U =>
  v = avs.toArray ∧ U.heap.size = sz ∧ va_P D vwCl (wW cy ad σ) U.heap ∧ va_K D vwCl (tyW cy) U ∧ va_D (fun _ => True) (wW cy ad σ) ∧ Ext sa (Ar ad sz) U U.heap
theorem Pm_blind {D : va_G} {cy : Nat → ClassId} {ad sa : Nat → Nat} {avs : List Value} {σ : Sg} {sz : Nat} : FrameBlind (Pm D cy ad sa avs σ sz) :=
  fun a U g mk q => by
    obtain ⟨h1, h2, h3, h4, h5, h6⟩ := q
    exact ⟨h1, h2, h3, va_K.moved (u := U) (U := U.calling g mk a) (Vm.Alike.refl U.vm) h4, h5, Ext.same (s := U) (U := U.calling g mk a) h6 rfl⟩
def Qi (D : va_G) (cy : Nat → ClassId) (ad : Nat → Nat) (sz : Nat) (r : Int32) (σ' : Sg) : Array Value → State → Outcome → State → Prop := va_Qi (fun r' (_ : Unit) => r' = r) (fun _ t => va_P D vwCl (wW cy ad σ') t.heap) (Ar ad sz)
def Qv (D : va_G) (cy : Nat → ClassId) (ad : Nat → Nat) (sz : Nat) (σ' : Sg) : Array Value → State → Outcome → State → Prop := va_Qv (fun (_ : Unit) => True) (fun _ t => va_P D vwCl (wW cy ad σ') t.heap) (Ar ad sz)
def Xe (D : va_G) (cy : Nat → ClassId) (ad : Nat → Nat) (sz : Nat) (E : String) (σ' : Sg) : String → State → State → Prop := vx_X (fun (_ : Unit) => True) (fun E' _ t => E' = E ∧ va_P D vwCl (wW cy ad σ') t.heap) (Ar ad sz)
abbrev wy (y : MethodName) (code : ByteArray) (maxL : Nat) (ret : Option FieldType) : List Cond := Cond.code y code maxL ret :: ALL
abbrev rm (fr lo c n : Nat) : Room := { frames := fr, cells := c, slots := n, locals := lo }
/-- a method that answers a number (or true, false) -/
def CtI (l : Launch) (y : MethodName) (code : ByteArray) (maxL : Nat) (ret : Option FieldType) (fr lo : Nat) (D : va_G) (cy : Nat → ClassId) (ad sa : Nat → Nat) (avs : List Value) (σ : Sg) (x : Option (Int32 × Sg)) : Prop :=
  ∀ (sz : Nat) (r : Int32) (σ' : Sg), x = some (r, σ') → Met l y (wy y code maxL ret) (rm fr lo 0 0) (Pm D cy ad sa avs σ sz) (Qi D cy ad sz r σ') 0 0 (Ar ad sz)
/-- a method that answers nothing -/
def CtV (l : Launch) (y : MethodName) (code : ByteArray) (maxL : Nat) (fr lo : Nat) (D : va_G) (cy : Nat → ClassId) (ad sa : Nat → Nat) (avs : List Value) (σ : Sg) (x : Option (Int32 × Sg)) : Prop :=
  ∀ (sz : Nat) (r : Int32) (σ' : Sg), x = some (r, σ') → Met l y (wy y code maxL none) (rm fr lo 0 0) (Pm D cy ad sa avs σ sz) (Qv D cy ad sz σ') 0 0 (Ar ad sz)
/-- a method that answers a number, or throws -/
def CtT (l : Launch) (y : MethodName) (code : ByteArray) (maxL : Nat) (ret : Option FieldType) (fr lo : Nat) (D : va_G) (cy : Nat → ClassId) (ad sa : Nat → Nat) (avs : List Value) (σ : Sg) (x : Option Out) : Prop :=
  (∀ (sz : Nat) (r : Int32) (σ' : Sg), x = some (.inr r, σ') → Met l y (wy y code maxL ret) (rm fr lo 0 0) (Pm D cy ad sa avs σ sz) (Qi D cy ad sz r σ') 0 0 (Ar ad sz)) ∧
  (∀ (sz : Nat) (E : String) (σ' : Sg), x = some (.inl E, σ') → vx_Met l y (wy y code maxL ret) (rm fr lo 1 6) (Pm D cy ad sa avs σ sz) (fun _ _ _ _ => False) (Xe D cy ad sz E σ') 1 6 (Ar ad sz))
/-- .. that answers nothing, or throws -/
def CtU (l : Launch) (y : MethodName) (code : ByteArray) (maxL : Nat) (fr lo : Nat) (D : va_G) (cy : Nat → ClassId) (ad sa : Nat → Nat) (avs : List Value) (σ : Sg) (x : Option Out) : Prop :=
  (∀ (sz : Nat) (r : Int32) (σ' : Sg), x = some (.inr r, σ') → Met l y (wy y code maxL none) (rm fr lo 0 0) (Pm D cy ad sa avs σ sz) (Qv D cy ad sz σ') 0 0 (Ar ad sz)) ∧
  (∀ (sz : Nat) (E : String) (σ' : Sg), x = some (.inl E, σ') → vx_Met l y (wy y code maxL none) (rm fr lo 1 6) (Pm D cy ad sa avs σ sz) (fun _ _ _ _ => False) (Xe D cy ad sz E σ') 1 6 (Ar ad sz))
theorem ALL_good {ws : List Cond} (h : ∀ w ∈ ws, w ∈ ALL) : GoodIn ALL ws := fun w hw => ⟨h w hw, good_of_word (List.mem_filter.mp (h w hw)).2⟩
theorem wy_in {y : MethodName} {code : ByteArray} {maxL : Nat} {ret : Option FieldType} (h : Cond.code y code maxL ret ∈ ALL) : ∀ w ∈ wy y code maxL ret, w ∈ ALL := fun w hw => (List.mem_cons.mp hw).elim (fun e => by rw [e]; exact h) id
section CL
variable {z : Cz} {k nL pc : Nat} {lv : List (Nat × Value)} {rest : List Value} {σ : Sg} {cc : ByteArray} {own : String} {β : Type} {res : β}
/-- what the callee finds -/
theorem pm_at (X : Cx z cc nL own) {σ : Sg} {H : Heap} {locs : List Loc} (avs : List Value) (hP : va_P (zD z) vwCl (wW (zy z) (zA z) σ) H) (hD : va_D (Ar (zA z) (zs z).heap.size) (wW (zy z) (zA z) σ)) (hS : va_S (Ar (zA z) (zs z).heap.size) (zs z).heap H locs) (U : State) (hU : U.heap = H) (hW : (zs z).WarmedH U.vm) : Pm (zD z) (zy z) (zA z) (zS z) avs σ H.size avs.toArray U :=
  ⟨rfl, by rw [hU], by rw [hU]; exact hP, va_K.moved hW.alike X.2.2.2.2.2.1, wW_D σ hD (fun _ _ _ => trivial), by rw [hU]; exact X.2.2.2.2.2.2.1.go hW (fun a h1 h2 => hS.2.1 a h1 h2) (fun q hq => Ar_mono hS.1 hq)⟩
/-- the receiver -/
theorem rc_at (X : Cx z cc nL own) {σ : Sg} {H : Heap} (q ci : Nat) {fs : List Value} {C : vw_C} (hq : q < 57) (he : ccW (zy z) (zA z) q (σ q) = .inr (ci, fs)) (hc9 : vwCl[ci]? = some C) (hP : va_P (zD z) vwCl (wW (zy z) (zA z) σ) H) : ∃ cell : Cell, H[zA z q]? = some cell ∧ cell.vm.isStatics = false ∧ (zs z).vm.findClass C.1 = some cell.cls :=
  va_recv X.2.2.2.2.2.1 hP hc9 (by rw [wW_at _ _ _ q hq, he])
/-- how a site links -/
def LkV (own : String) (index : Nat) (C : String) (y : MethodName) (code : ByteArray) (maxL : Nat) (ret : Option FieldType) (n : Nat) : Prop :=
  Cond.methodLink own index y ∈ ALL ∧ Cond.instanceMethod y ∈ ALL ∧ Cond.selects C y y ∈ ALL ∧ Cond.initialized C ∈ ALL ∧ Cond.code y code maxL ret ∈ ALL ∧ y.cls = C ∧ y.cls ≠ "java/lang/invoke/MethodHandle" ∧ y.cls ≠ "java/lang/invoke/VarHandle" ∧ (parseMethodDescriptor y.desc).map (fun d => d.parameters.length) = some n
def LkS (own : String) (index : Nat) (y : MethodName) (code : ByteArray) (maxL : Nat) (ret : Option FieldType) (n : Nat) : Prop :=
  Cond.methodLink own index y ∈ ALL ∧ Cond.static y ∈ ALL ∧ Cond.initialized y.cls ∈ ALL ∧ Cond.code y code maxL ret ∈ ALL ∧ y.cls ≠ "java/lang/invoke/MethodHandle" ∧ y.cls ≠ "java/lang/invoke/VarHandle" ∧ (parseMethodDescriptor y.desc).map (fun d => d.parameters.length) = some n
theorem lk_cwV {index : Nat} {C : String} {y : MethodName} {code : ByteArray} {maxL : Nat} {ret : Option FieldType} {n fr lo mc ms : Nat} (X : Cx z cc nL own) (L : LkV own index C y code maxL ret n) (hR : fr + 1 ≤ (zR z).frames ∧ 8 + (maxL + 11) + lo ≤ (zR z).locals) : CallW (zR z) (zs z) (za z) own C index y code maxL ret (wy y code maxL ret) (rm fr lo mc ms) mc ms n := by
  obtain ⟨h1, h2, h3, h4, h5, h6, h7, h8, h9⟩ := L
  refine cwV n X.2.2.2.2.1 (ALL_good ?_) rfl rfl rfl ⟨h6, h7, h8, h9⟩ hR
  intro w hw
  simp only [wsV, List.mem_append, List.mem_cons, List.not_mem_nil, or_false] at hw
  rcases hw with (rfl | rfl | rfl | rfl) | rfl | hw
  · exact h1
  · exact h2
  · exact h3
  · exact h4
  · exact h5
  · exact hw
theorem lk_cwS {index : Nat} {y : MethodName} {code : ByteArray} {maxL : Nat} {ret : Option FieldType} {n fr lo mc ms : Nat} (X : Cx z cc nL own) (L : LkS own index y code maxL ret n) (hR : fr + 1 ≤ (zR z).frames ∧ 8 + (maxL + 11) + lo ≤ (zR z).locals) : CallB (zR z) (zs z) (za z) own index y code maxL ret (wy y code maxL ret) (rm fr lo mc ms) mc ms n ∧ (Cond.static y).before (za z) (zs z) = true := by
  obtain ⟨h1, h2, h3, h4, h5, h6, h7⟩ := L
  refine va_cwS n X.2.2.2.2.1 (ALL_good ?_) rfl rfl rfl ⟨h5, h6, h7⟩ hR
  intro w hw
  simp only [va_wsS, List.mem_append, List.mem_cons, List.not_mem_nil, or_false] at hw
  rcases hw with (rfl | rfl | rfl) | rfl | hw
  · exact h1
  · exact h2
  · exact h3
  · exact h4
  · exact hw
theorem cI_some {x : Option (Int32 × Sg)} {K : Int32 → Sg → Option β} (h : cI x K = some res) : ∃ r σ', x = some (r, σ') ∧ K r σ' = some res := by
  unfold cI at h
  match x, h with
  | some (r, σ'), h => exact ⟨r, σ', rfl, h⟩
theorem cT_some {x : Option Out} {K : Int32 → Sg → Option Out} {res : Out} (h : cT x K = some res) : (∃ r σ', x = some (.inr r, σ') ∧ K r σ' = some res) ∨ (∃ E σ', x = some (.inl E, σ') ∧ res = (.inl E, σ')) := by
  unfold cT at h
  match x, h with
  | some (.inr r, σ'), h => exact Or.inl ⟨r, σ', rfl, h⟩
  | some (.inl E, σ'), h => exact Or.inr ⟨E, σ', rfl, (Option.some.inj h).symm⟩
variable {index : Nat} {C : String} {y : MethodName} {code : ByteArray} {maxL : Nat} {ret : Option FieldType} {n fr lo : Nat} {As : List Value} {x : Option (Int32 × Sg)} {K : Int32 → Sg → Option β}
theorem r_callV (X : Cx z cc nL own) (q ci : Nat) {fs : List Value} {CC : vw_C} (hq : q < 57) (he : ccW (zy z) (zA z) q (σ q) = .inr (ci, fs)) (hc9 : vwCl[ci]? = some CC) (hC : CC.1 = C) (L : LkV own index C y code maxL ret n) (hM : CtI (zl z) y code maxL ret fr lo (zD z) (zy z) (zA z) (zS z) (.ref (zA z q) :: As) σ x) (hR : fr + 1 ≤ (zR z).frames ∧ 8 + (maxL + 11) + lo ≤ (zR z).locals) (hn : As.length = n) {stk : List Value} (hst : stk = As.reverse ++ .ref (zA z q) :: rest) (hw : (rest.map fun v => v.category).sum ≤ 8)
    (hdg : decode cc pc = .ok (.invokevirtual index, 3)) (h : cI x K = some res) (kk : ∀ (r : Int32) (σ' : Sg), K r σ' = some res → V z k nL (pc + 3) lv (.int r :: rest) σ') : V z k nL pc lv stk σ := by
  intro H locs ls hc hP hD hS hl
  obtain ⟨r, σ', hx, hk⟩ := cI_some h
  subst hC
  refine va_calli (A1 := Ar (zA z) H.size) (va_runV (As := As) (rest := rest) ⟨X.1, X.2.1, X.2.2.1, X.2.2.2.1, X.2.2.2.2.1⟩ (hM H.size r σ' hx) (lk_cwV X L hR) ⟨Pm_blind, rc_at X q ci hq he hc9 hP, fun U hU hW => pm_at X _ hP hD hS U hU hW⟩ rfl hn hl.1 hst (lv_room hw) hdg ⟨hc.1, hc.2⟩) hS (fun q _ h => Ar_mono hS.1 h) (fun q h => Ar_mono hS.1 h) (fun r9 u t H1 locs1 ht hvm hpo hB hz1 hk1 hS1 => ?_)
  subst hpo; subst ht
  exact kk r9 σ' hk _ locs1 ls hc hB (wW_D σ' hD (fun _ _ h => h)) hS1 hl
theorem r_callVv (X : Cx z cc nL own) (q ci : Nat) {fs : List Value} {CC : vw_C} (hq : q < 57) (he : ccW (zy z) (zA z) q (σ q) = .inr (ci, fs)) (hc9 : vwCl[ci]? = some CC) (hC : CC.1 = C) (L : LkV own index C y code maxL none n) (hM : CtV (zl z) y code maxL fr lo (zD z) (zy z) (zA z) (zS z) (.ref (zA z q) :: As) σ x) (hR : fr + 1 ≤ (zR z).frames ∧ 8 + (maxL + 11) + lo ≤ (zR z).locals) (hn : As.length = n) {stk : List Value} (hst : stk = As.reverse ++ .ref (zA z q) :: rest) (hw : (rest.map fun v => v.category).sum ≤ 8)
    (hdg : decode cc pc = .ok (.invokevirtual index, 3)) (h : cI x K = some res) (kk : ∀ (r : Int32) (σ' : Sg), K r σ' = some res → V z k nL (pc + 3) lv rest σ') : V z k nL pc lv stk σ := by
  intro H locs ls hc hP hD hS hl
  obtain ⟨r, σ', hx, hk⟩ := cI_some h
  subst hC
  refine va_callv (A1 := Ar (zA z) H.size) (va_runV (As := As) (rest := rest) ⟨X.1, X.2.1, X.2.2.1, X.2.2.2.1, X.2.2.2.2.1⟩ (hM H.size r σ' hx) (lk_cwV X L hR) ⟨Pm_blind, rc_at X q ci hq he hc9 hP, fun U hU hW => pm_at X _ hP hD hS U hU hW⟩ rfl hn hl.1 hst (lv_room hw) hdg ⟨hc.1, hc.2⟩) hS (fun q _ h => Ar_mono hS.1 h) (fun q h => Ar_mono hS.1 h) (fun u t H1 locs1 ht hvm hpo hB hz1 hk1 hS1 => ?_)
  subst ht
  exact kk r σ' hk _ locs1 ls hc hB (wW_D σ' hD (fun _ _ h => h)) hS1 hl
theorem r_callS (X : Cx z cc nL own) (L : LkS own index y code maxL ret n) (hM : CtI (zl z) y code maxL ret fr lo (zD z) (zy z) (zA z) (zS z) As σ x) (hR : fr + 1 ≤ (zR z).frames ∧ 8 + (maxL + 11) + lo ≤ (zR z).locals) (hn : As.length = n) {stk : List Value} (hst : stk = As.reverse ++ rest) (hw : (rest.map fun v => v.category).sum ≤ 8)
    (hdg : decode cc pc = .ok (.invokestatic index, 3)) (h : cI x K = some res) (kk : ∀ (r : Int32) (σ' : Sg), K r σ' = some res → V z k nL (pc + 3) lv (.int r :: rest) σ') : V z k nL pc lv stk σ := by
  intro H locs ls hc hP hD hS hl
  obtain ⟨r, σ', hx, hk⟩ := cI_some h
  refine va_calli (A1 := Ar (zA z) H.size) (va_runS (As := As) (rest := rest) ⟨X.1, X.2.1, X.2.2.1, X.2.2.2.1, X.2.2.2.2.1⟩ (hM H.size r σ' hx) (lk_cwS X L hR) ⟨Pm_blind, fun U hU hW => pm_at X _ hP hD hS U hU hW⟩ rfl hn hl.1 hst (lv_room hw) hdg ⟨hc.1, hc.2⟩) hS (fun q _ h => Ar_mono hS.1 h) (fun q h => Ar_mono hS.1 h) (fun r9 u t H1 locs1 ht hvm hpo hB hz1 hk1 hS1 => ?_)
  subst hpo; subst ht
  exact kk r9 σ' hk _ locs1 ls hc hB (wW_D σ' hD (fun _ _ h => h)) hS1 hl
theorem r_callSv (X : Cx z cc nL own) (L : LkS own index y code maxL none n) (hM : CtV (zl z) y code maxL fr lo (zD z) (zy z) (zA z) (zS z) As σ x) (hR : fr + 1 ≤ (zR z).frames ∧ 8 + (maxL + 11) + lo ≤ (zR z).locals) (hn : As.length = n) {stk : List Value} (hst : stk = As.reverse ++ rest) (hw : (rest.map fun v => v.category).sum ≤ 8)
    (hdg : decode cc pc = .ok (.invokestatic index, 3)) (h : cI x K = some res) (kk : ∀ (r : Int32) (σ' : Sg), K r σ' = some res → V z k nL (pc + 3) lv rest σ') : V z k nL pc lv stk σ := by
  intro H locs ls hc hP hD hS hl
  obtain ⟨r, σ', hx, hk⟩ := cI_some h
  refine va_callv (A1 := Ar (zA z) H.size) (va_runS (As := As) (rest := rest) ⟨X.1, X.2.1, X.2.2.1, X.2.2.2.1, X.2.2.2.2.1⟩ (hM H.size r σ' hx) (lk_cwS X L hR) ⟨Pm_blind, fun U hU hW => pm_at X _ hP hD hS U hU hW⟩ rfl hn hl.1 hst (lv_room hw) hdg ⟨hc.1, hc.2⟩) hS (fun q _ h => Ar_mono hS.1 h) (fun q h => Ar_mono hS.1 h) (fun u t H1 locs1 ht hvm hpo hB hz1 hk1 hS1 => ?_)
  subst ht
  exact kk r σ' hk _ locs1 ls hc hB (wW_D σ' hD (fun _ _ h => h)) hS1 hl
/-! ends of a body that does not throw -/
def RtI (z : Cz) (cc : ByteArray) (nL : Nat) (ty : FieldType) (res : Int32 × Sg) : Prop := ∀ (pc : Nat) (lv : List (Nat × Value)) (v : Int32) (σ : Sg), decode cc pc = .ok (.ireturn, 1) → narrow ty (.int v) = .int v → (v, σ) = res → V z 0 nL pc lv [.int v] σ
def RtV (z : Cz) (cc : ByteArray) (nL : Nat) (res : Int32 × Sg) : Prop := ∀ (pc : Nat) (lv : List (Nat × Value)) (σ : Sg), decode cc pc = .ok (.return_, 1) → σ = res.2 → V z 0 nL pc lv [] σ
theorem r_iret {res : Int32 × Sg} (Rt : RtI z cc nL .int res) {v : Int32} (hdg : decode cc pc = .ok (.ireturn, 1)) (h : some (v, σ) = some res) : V z 0 nL pc lv [.int v] σ := Rt pc lv v σ hdg rfl (Option.some.inj h)
theorem nar01 {v : Int32} (h : v = 0 ∨ v = 1) : narrow .boolean (.int v) = .int v := by
  rcases h with rfl | rfl <;> rfl
theorem r_zret {res : Int32 × Sg} (Rt : RtI z cc nL .boolean res) {v : Int32} (hdg : decode cc pc = .ok (.ireturn, 1)) {dc : Decidable (v = 0 ∨ v = 1)} (h : @gd _ (v = 0 ∨ v = 1) dc (some (v, σ)) = some res) : V z 0 nL pc lv [.int v] σ := by
  unfold gd at h
  by_cases g : v = 0 ∨ v = 1
  · rw [if_pos g] at h
    exact Rt pc lv v σ hdg (nar01 g) (Option.some.inj h)
  · rw [if_neg g] at h; cases h
theorem r_zretC {res : Int32 × Sg} (Rt : RtI z cc nL .boolean res) {v : Int32} (hdg : decode cc pc = .ok (.ireturn, 1)) (hv : v = 0 ∨ v = 1) (h : some (v, σ) = some res) : V z 0 nL pc lv [.int v] σ := Rt pc lv v σ hdg (nar01 hv) (Option.some.inj h)
theorem r_vret {res : Int32 × Sg} (Rt : RtV z cc nL res) (hdg : decode cc pc = .ok (.return_, 1)) (h : some ((0 : Int32), σ) = some res) : V z 0 nL pc lv [] σ := Rt pc lv σ hdg (by rw [← Option.some.inj h])
end CL
/-! a body's walk gives its contract -/
section CO
variable {l : Launch} {y : MethodName} {code : ByteArray} {maxL fr lo : Nat} {D : va_G} {cy : Nat → ClassId} {ad sa : Nat → Nat} {avs : List Value} {σ : Sg} {x : Option (Int32 × Sg)}
theorem ct_I {ty : FieldType} (hl : l.stackTraces = false) (hy : plainName y.cls = true) (hn : (lg_sl avs).length ≤ maxL) (walk : ∀ (z : Cz) (res : Int32 × Sg), zl z = l → zD z = D → zy z = cy → zA z = ad → zS z = sa → (fr ≤ (zR z).frames ∧ lo ≤ (zR z).locals) → Cx z code maxL y.cls → RtI z code maxL ty res → x = some res → V z 0 maxL 0 (lv_args 0 avs) [] σ) : CtI l y code maxL (some ty) fr lo D cy ad sa avs σ x := by
  intro sz r σ' hx
  refine Met.ofW (cc := code) (maxL := maxL) (ret := some ty) hy rfl ?_
  intro p e s m args below meth c s₁ B hml hv
  obtain ⟨rfl, hsz, hP, hK, hD0, hE⟩ := hv
  subst hsz
  have hts0 := atoms_spec (ws := wy y code maxL (some ty)) B.pre
  have hts : ∀ w ∈ ALL, w.before avs.toArray s = true := fun w hw => hts0 w (List.mem_cons_of_mem _ hw)
  have hown : s.vm.findClass y.cls = some m.cls := findClass_of_methodNamed B.named
  have hl9 := lv_entry avs (n := maxL) hn
  rw [lg_entry_eq]
  generalize (lg_sl avs ++ List.replicate (maxL - (lg_sl avs).length) Slot.unset).toArray = ls at hl9 ⊢
  have hD : va_D (Ar ad s.heap.size) (wW cy ad σ) := wW_D σ hD0 (fun k hk _ => wW_in hk)
  exact walk (p, l, e, rm fr lo 0 0, s, m, avs.toArray, below, meth, c, MQ below (Qi D cy ad s.heap.size r σ') avs.toArray s 0 0 (Ar ad s.heap.size), D, cy, ad, sa, 0, 0) (r, σ') rfl rfl rfl rfl rfl ⟨Nat.le_refl _, Nat.le_refl _⟩
    ⟨B.exec, B.bytes, hml, hown, hts, hK, hE, hl, B.notSynchronized⟩
    (fun pc lv v τ hdg hnr e9 H locs ls hc hP hD hS hl => by
      cases e9
      exact W.zret B.exec B.bytes B.returns hnr (fun t ht hW => ⟨⟨_, (), rfl, rfl, by show va_P D vwCl (wW cy ad _) t.heap; rw [ht]; exact hP⟩, hS.F ht⟩) hS.2.2 hdg B.notSynchronized) hx s.heap [] ls ⟨Nat.le_refl 0, Nat.le_refl 0⟩ hP hD va_S.rf hl9
theorem ct_V (hl : l.stackTraces = false) (hy : plainName y.cls = true) (hn : (lg_sl avs).length ≤ maxL) (walk : ∀ (z : Cz) (res : Int32 × Sg), zl z = l → zD z = D → zy z = cy → zA z = ad → zS z = sa → (fr ≤ (zR z).frames ∧ lo ≤ (zR z).locals) → Cx z code maxL y.cls → RtV z code maxL res → x = some res → V z 0 maxL 0 (lv_args 0 avs) [] σ) : CtV l y code maxL fr lo D cy ad sa avs σ x := by
  intro sz r σ' hx
  refine Met.ofW (cc := code) (maxL := maxL) (ret := none) hy rfl ?_
  intro p e s m args below meth c s₁ B hml hv
  obtain ⟨rfl, hsz, hP, hK, hD0, hE⟩ := hv
  subst hsz
  have hts0 := atoms_spec (ws := wy y code maxL none) B.pre
  have hts : ∀ w ∈ ALL, w.before avs.toArray s = true := fun w hw => hts0 w (List.mem_cons_of_mem _ hw)
  have hown : s.vm.findClass y.cls = some m.cls := findClass_of_methodNamed B.named
  have hl9 := lv_entry avs (n := maxL) hn
  rw [lg_entry_eq]
  generalize (lg_sl avs ++ List.replicate (maxL - (lg_sl avs).length) Slot.unset).toArray = ls at hl9 ⊢
  have hD : va_D (Ar ad s.heap.size) (wW cy ad σ) := wW_D σ hD0 (fun k hk _ => wW_in hk)
  exact walk (p, l, e, rm fr lo 0 0, s, m, avs.toArray, below, meth, c, MQ below (Qv D cy ad s.heap.size σ') avs.toArray s 0 0 (Ar ad s.heap.size), D, cy, ad, sa, 0, 0) (r, σ') rfl rfl rfl rfl rfl ⟨Nat.le_refl _, Nat.le_refl _⟩
    ⟨B.exec, B.bytes, hml, hown, hts, hK, hE, hl, B.notSynchronized⟩
    (fun pc lv τ hdg e9 H locs ls hc hP hD hS hl => by
      subst e9
      exact W.vret B.exec B.bytes B.returns (fun t ht hW => ⟨⟨(), rfl, trivial, by show va_P D vwCl (wW cy ad _) t.heap; rw [ht]; exact hP⟩, hS.F ht⟩) hS.2.2 hdg B.notSynchronized) hx s.heap [] ls ⟨Nat.le_refl 0, Nat.le_refl 0⟩ hP hD va_S.rf hl9
end CO
end
section
section FD
variable {z : Cz} {k nL pc : Nat} {lv : List (Nat × Value)} {rest : List Value} {σ : Sg} {cc : ByteArray} {β : Type} {res : β}
theorem gf_X4_9 (X : Cx z cc nL RX4) (hdg : decode cc pc = .ok (.getfield 9, 3)) (kk : V z k nL (pc + 3) lv (.ref (zA z 2) :: rest) σ) : V z k nL pc lv (.ref (zA z 1) :: rest) σ :=
  r_get X 1 inAX4 (by decide) rfl rfl 0 (by decide) wd1_36 rfl rfl hdg kk
theorem gf_X6_34 (X : Cx z cc nL RX6) (hdg : decode cc pc = .ok (.getfield 34, 3)) (kk : V z k nL (pc + 3) lv (.ref (zA z 1) :: rest) σ) : V z k nL pc lv (.ref (zA z 3) :: rest) σ :=
  r_get X 3 inAX6 (by decide) rfl rfl 0 (by decide) wd1_48 rfl rfl hdg kk
theorem gf_X6_9 (X : Cx z cc nL RX6) (hdg : decode cc pc = .ok (.getfield 9, 3)) (kk : V z k nL (pc + 3) lv (.ref (zA z 4) :: rest) σ) : V z k nL pc lv (.ref (zA z 3) :: rest) σ :=
  r_get X 3 inAX6 (by decide) rfl rfl 1 (by decide) wd1_49 rfl rfl hdg kk
theorem gf_X6_15 (X : Cx z cc nL RX6) (hdg : decode cc pc = .ok (.getfield 15, 3)) (kk : V z k nL (pc + 3) lv (.ref (zA z 5) :: rest) σ) : V z k nL pc lv (.ref (zA z 3) :: rest) σ :=
  r_get X 3 inAX6 (by decide) rfl rfl 2 (by decide) wd1_50 rfl rfl hdg kk
theorem gf_X6_18 (X : Cx z cc nL RX6) (hdg : decode cc pc = .ok (.getfield 18, 3)) (kk : V z k nL (pc + 3) lv (.ref (zA z 6) :: rest) σ) : V z k nL pc lv (.ref (zA z 3) :: rest) σ :=
  r_get X 3 inAX6 (by decide) rfl rfl 3 (by decide) wd1_51 rfl rfl hdg kk
theorem gf_X6_21 (X : Cx z cc nL RX6) (hdg : decode cc pc = .ok (.getfield 21, 3)) (kk : V z k nL (pc + 3) lv (.ref (zA z 7) :: rest) σ) : V z k nL pc lv (.ref (zA z 3) :: rest) σ :=
  r_get X 3 inAX6 (by decide) rfl rfl 4 (by decide) wd1_52 rfl rfl hdg kk
theorem gf_X6_24 (X : Cx z cc nL RX6) (hdg : decode cc pc = .ok (.getfield 24, 3)) (kk : V z k nL (pc + 3) lv (.ref (zA z 8) :: rest) σ) : V z k nL pc lv (.ref (zA z 3) :: rest) σ :=
  r_get X 3 inAX6 (by decide) rfl rfl 5 (by decide) wd1_53 rfl rfl hdg kk
theorem gf_X6_27 (X : Cx z cc nL RX6) (hdg : decode cc pc = .ok (.getfield 27, 3)) {K : Int32 → Option β} (h : lt (σ 3 6) K = some res) (kk : ∀ v : Int32, K v = some res → V z k nL (pc + 3) lv (.int v :: rest) σ) : V z k nL pc lv (.ref (zA z 3) :: rest) σ :=
  r_get X 3 inAX6 (by decide) rfl rfl 6 (by decide) wd1_54 rfl rfl hdg (kk _ h)
theorem pf_X6_27 (X : Cx z cc nL RX6) {x : Int32} (hdg : decode cc pc = .ok (.putfield 27, 3)) {K : Sg → Option β} (h : st (ss σ 3 6 x) K = some res) (kk : ∀ σ9 : Sg, K σ9 = some res → V z k nL (pc + 3) lv rest σ9) : V z k nL pc lv (.int x :: .ref (zA z 3) :: rest) σ :=
  r_put X 3 inAX6 tyX6 tyX6_ok nmX6 (by decide) rfl rfl 6 (by decide) wd1_54 rfl rfl (ty := .int) rfl rfl rfl (Nat.le_of_ble_eq_true rfl) rfl hdg h kk
theorem gf_X7_116 (X : Cx z cc nL RX7) (hdg : decode cc pc = .ok (.getfield 116, 3)) {K : Int32 → Option β} (h : lt (σ 3 6) K = some res) (kk : ∀ v : Int32, K v = some res → V z k nL (pc + 3) lv (.int v :: rest) σ) : V z k nL pc lv (.ref (zA z 3) :: rest) σ :=
  r_getN X 3 inAX6 (by decide) rfl rfl 6 (by decide) (List.mem_of_getElem? (i := 0) rfl) rfl rfl hdg (kk _ h)
theorem pf_X7_116 (X : Cx z cc nL RX7) {x : Int32} (hdg : decode cc pc = .ok (.putfield 116, 3)) {K : Sg → Option β} (h : st (ss σ 3 6 x) K = some res) (kk : ∀ σ9 : Sg, K σ9 = some res → V z k nL (pc + 3) lv rest σ9) : V z k nL pc lv (.int x :: .ref (zA z 3) :: rest) σ :=
  r_putN X 3 inAX6 tyX6 tyX6_ok nmX6 (by decide) rfl rfl 6 (by decide) (List.mem_of_getElem? (i := 0) rfl) rfl rfl (ty := .int) rfl rfl rfl (Nat.le_of_ble_eq_true rfl) rfl hdg h kk
theorem gf_X6_31 (X : Cx z cc nL RX6) (hdg : decode cc pc = .ok (.getfield 31, 3)) {K : Int32 → Option β} (h : lt (σ 3 7) K = some res) (kk : ∀ v : Int32, K v = some res → V z k nL (pc + 3) lv (.int v :: rest) σ) : V z k nL pc lv (.ref (zA z 3) :: rest) σ :=
  r_get X 3 inAX6 (by decide) rfl rfl 7 (by decide) wd1_56 rfl rfl hdg (kk _ h)
theorem pf_X6_31 (X : Cx z cc nL RX6) {x : Int32} (hdg : decode cc pc = .ok (.putfield 31, 3)) {K : Sg → Option β} (h : st (ss σ 3 7 x) K = some res) (kk : ∀ σ9 : Sg, K σ9 = some res → V z k nL (pc + 3) lv rest σ9) : V z k nL pc lv (.int x :: .ref (zA z 3) :: rest) σ :=
  r_put X 3 inAX6 tyX6 tyX6_ok nmX6 (by decide) rfl rfl 7 (by decide) wd1_56 rfl rfl (ty := .int) rfl rfl rfl (Nat.le_of_ble_eq_true rfl) rfl hdg h kk
theorem gf_X7_151 (X : Cx z cc nL RX7) (hdg : decode cc pc = .ok (.getfield 151, 3)) {K : Int32 → Option β} (h : lt (σ 3 7) K = some res) (kk : ∀ v : Int32, K v = some res → V z k nL (pc + 3) lv (.int v :: rest) σ) : V z k nL pc lv (.ref (zA z 3) :: rest) σ :=
  r_getN X 3 inAX6 (by decide) rfl rfl 7 (by decide) (List.mem_of_getElem? (i := 1) rfl) rfl rfl hdg (kk _ h)
theorem pf_X7_151 (X : Cx z cc nL RX7) {x : Int32} (hdg : decode cc pc = .ok (.putfield 151, 3)) {K : Sg → Option β} (h : st (ss σ 3 7 x) K = some res) (kk : ∀ σ9 : Sg, K σ9 = some res → V z k nL (pc + 3) lv rest σ9) : V z k nL pc lv (.int x :: .ref (zA z 3) :: rest) σ :=
  r_putN X 3 inAX6 tyX6 tyX6_ok nmX6 (by decide) rfl rfl 7 (by decide) (List.mem_of_getElem? (i := 1) rfl) rfl rfl (ty := .int) rfl rfl rfl (Nat.le_of_ble_eq_true rfl) rfl hdg h kk
theorem gf_X5_25 (X : Cx z cc nL RX5) (hdg : decode cc pc = .ok (.getfield 25, 3)) (kk : V z k nL (pc + 3) lv (.ref (zA z 3) :: rest) σ) : V z k nL pc lv (.ref (zA z 9) :: rest) σ :=
  r_get X 9 inAX5 (by decide) rfl rfl 0 (by decide) wd1_81 rfl rfl hdg kk
theorem gf_X5_9 (X : Cx z cc nL RX5) (hdg : decode cc pc = .ok (.getfield 9, 3)) (kk : V z k nL (pc + 3) lv (.ref (zA z 10) :: rest) σ) : V z k nL pc lv (.ref (zA z 9) :: rest) σ :=
  r_get X 9 inAX5 (by decide) rfl rfl 1 (by decide) wd1_82 rfl rfl hdg kk
theorem gf_X7_250 (X : Cx z cc nL RX7) (hdg : decode cc pc = .ok (.getfield 250, 3)) (kk : V z k nL (pc + 3) lv (.ref (zA z 10) :: rest) σ) : V z k nL pc lv (.ref (zA z 9) :: rest) σ :=
  r_getN X 9 inAX5 (by decide) rfl rfl 1 (by decide) (List.mem_of_getElem? (i := 2) rfl) rfl rfl hdg kk
theorem gf_X5_15 (X : Cx z cc nL RX5) (hdg : decode cc pc = .ok (.getfield 15, 3)) (kk : V z k nL (pc + 3) lv (.ref (zA z 11) :: rest) σ) : V z k nL pc lv (.ref (zA z 9) :: rest) σ :=
  r_get X 9 inAX5 (by decide) rfl rfl 2 (by decide) wd1_84 rfl rfl hdg kk
theorem gf_X7_174 (X : Cx z cc nL RX7) (hdg : decode cc pc = .ok (.getfield 174, 3)) (kk : V z k nL (pc + 3) lv (.ref (zA z 11) :: rest) σ) : V z k nL pc lv (.ref (zA z 9) :: rest) σ :=
  r_getN X 9 inAX5 (by decide) rfl rfl 2 (by decide) (List.mem_of_getElem? (i := 3) rfl) rfl rfl hdg kk
theorem gf_X5_18 (X : Cx z cc nL RX5) (hdg : decode cc pc = .ok (.getfield 18, 3)) {K : Int32 → Option β} (h : lt (σ 9 3) K = some res) (kk : ∀ v : Int32, K v = some res → V z k nL (pc + 3) lv (.int v :: rest) σ) : V z k nL pc lv (.ref (zA z 9) :: rest) σ :=
  r_get X 9 inAX5 (by decide) rfl rfl 3 (by decide) wd1_86 rfl rfl hdg (kk _ h)
theorem pf_X5_18 (X : Cx z cc nL RX5) {x : Int32} (hdg : decode cc pc = .ok (.putfield 18, 3)) {K : Sg → Option β} (h : st (ss σ 9 3 x) K = some res) (kk : ∀ σ9 : Sg, K σ9 = some res → V z k nL (pc + 3) lv rest σ9) : V z k nL pc lv (.int x :: .ref (zA z 9) :: rest) σ :=
  r_put X 9 inAX5 tyX5 tyX5_ok nmX5 (by decide) rfl rfl 3 (by decide) wd1_86 rfl rfl (ty := .int) rfl rfl rfl (Nat.le_of_ble_eq_true rfl) rfl hdg h kk
theorem gf_X7_249 (X : Cx z cc nL RX7) (hdg : decode cc pc = .ok (.getfield 249, 3)) {K : Int32 → Option β} (h : lt (σ 9 3) K = some res) (kk : ∀ v : Int32, K v = some res → V z k nL (pc + 3) lv (.int v :: rest) σ) : V z k nL pc lv (.ref (zA z 9) :: rest) σ :=
  r_getN X 9 inAX5 (by decide) rfl rfl 3 (by decide) (List.mem_of_getElem? (i := 4) rfl) rfl rfl hdg (kk _ h)
theorem pf_X7_249 (X : Cx z cc nL RX7) {x : Int32} (hdg : decode cc pc = .ok (.putfield 249, 3)) {K : Sg → Option β} (h : st (ss σ 9 3 x) K = some res) (kk : ∀ σ9 : Sg, K σ9 = some res → V z k nL (pc + 3) lv rest σ9) : V z k nL pc lv (.int x :: .ref (zA z 9) :: rest) σ :=
  r_putN X 9 inAX5 tyX5 tyX5_ok nmX5 (by decide) rfl rfl 3 (by decide) (List.mem_of_getElem? (i := 4) rfl) rfl rfl (ty := .int) rfl rfl rfl (Nat.le_of_ble_eq_true rfl) rfl hdg h kk
theorem gf_X5_22 (X : Cx z cc nL RX5) (hdg : decode cc pc = .ok (.getfield 22, 3)) {K : Int32 → Option β} (h : lt (σ 9 4) K = some res) (kk : ∀ v : Int32, K v = some res → V z k nL (pc + 3) lv (.int v :: rest) σ) : V z k nL pc lv (.ref (zA z 9) :: rest) σ :=
  r_get X 9 inAX5 (by decide) rfl rfl 4 (by decide) wd1_88 rfl rfl hdg (kk _ h)
theorem pf_X5_22 (X : Cx z cc nL RX5) {x : Int32} (hdg : decode cc pc = .ok (.putfield 22, 3)) {K : Sg → Option β} (h : st (ss σ 9 4 x) K = some res) (kk : ∀ σ9 : Sg, K σ9 = some res → V z k nL (pc + 3) lv rest σ9) : V z k nL pc lv (.int x :: .ref (zA z 9) :: rest) σ :=
  r_put X 9 inAX5 tyX5 tyX5_ok nmX5 (by decide) rfl rfl 4 (by decide) wd1_88 rfl rfl (ty := .int) rfl rfl rfl (Nat.le_of_ble_eq_true rfl) rfl hdg h kk
theorem gf_X7_165 (X : Cx z cc nL RX7) (hdg : decode cc pc = .ok (.getfield 165, 3)) {K : Int32 → Option β} (h : lt (σ 9 4) K = some res) (kk : ∀ v : Int32, K v = some res → V z k nL (pc + 3) lv (.int v :: rest) σ) : V z k nL pc lv (.ref (zA z 9) :: rest) σ :=
  r_getN X 9 inAX5 (by decide) rfl rfl 4 (by decide) (List.mem_of_getElem? (i := 5) rfl) rfl rfl hdg (kk _ h)
theorem pf_X7_165 (X : Cx z cc nL RX7) {x : Int32} (hdg : decode cc pc = .ok (.putfield 165, 3)) {K : Sg → Option β} (h : st (ss σ 9 4 x) K = some res) (kk : ∀ σ9 : Sg, K σ9 = some res → V z k nL (pc + 3) lv rest σ9) : V z k nL pc lv (.int x :: .ref (zA z 9) :: rest) σ :=
  r_putN X 9 inAX5 tyX5 tyX5_ok nmX5 (by decide) rfl rfl 4 (by decide) (List.mem_of_getElem? (i := 5) rfl) rfl rfl (ty := .int) rfl rfl rfl (Nat.le_of_ble_eq_true rfl) rfl hdg h kk
theorem gf_X3_9 (X : Cx z cc nL RX3) (hdg : decode cc pc = .ok (.getfield 9, 3)) (kk : V z k nL (pc + 3) lv (.ref (zA z 13) :: rest) σ) : V z k nL pc lv (.ref (zA z 12) :: rest) σ :=
  r_get X 12 inAX3 (by decide) rfl rfl 0 (by decide) wd1_108 rfl rfl hdg kk
theorem gf_X3_15 (X : Cx z cc nL RX3) (hdg : decode cc pc = .ok (.getfield 15, 3)) (kk : V z k nL (pc + 3) lv (.ref (zA z 14) :: rest) σ) : V z k nL pc lv (.ref (zA z 12) :: rest) σ :=
  r_get X 12 inAX3 (by decide) rfl rfl 1 (by decide) wd1_109 rfl rfl hdg kk
theorem gf_X3_18 (X : Cx z cc nL RX3) (hdg : decode cc pc = .ok (.getfield 18, 3)) (kk : V z k nL (pc + 3) lv (.ref (zA z 15) :: rest) σ) : V z k nL pc lv (.ref (zA z 12) :: rest) σ :=
  r_get X 12 inAX3 (by decide) rfl rfl 2 (by decide) wd1_110 rfl rfl hdg kk
theorem gf_X2_9 (X : Cx z cc nL RX2) (hdg : decode cc pc = .ok (.getfield 9, 3)) (kk : V z k nL (pc + 3) lv (.ref (zA z 17) :: rest) σ) : V z k nL pc lv (.ref (zA z 16) :: rest) σ :=
  r_get X 16 inAX2 (by decide) rfl rfl 0 (by decide) wd1_124 rfl rfl hdg kk
theorem gf_X7_230 (X : Cx z cc nL RX7) (hdg : decode cc pc = .ok (.getfield 230, 3)) (kk : V z k nL (pc + 3) lv (.ref (zA z 17) :: rest) σ) : V z k nL pc lv (.ref (zA z 16) :: rest) σ :=
  r_getN X 16 inAX2 (by decide) rfl rfl 0 (by decide) (List.mem_of_getElem? (i := 7) rfl) rfl rfl hdg kk
theorem gf_X2_15 (X : Cx z cc nL RX2) (hdg : decode cc pc = .ok (.getfield 15, 3)) (kk : V z k nL (pc + 3) lv (.ref (zA z 18) :: rest) σ) : V z k nL pc lv (.ref (zA z 16) :: rest) σ :=
  r_get X 16 inAX2 (by decide) rfl rfl 1 (by decide) wd1_126 rfl rfl hdg kk
theorem gf_X7_234 (X : Cx z cc nL RX7) (hdg : decode cc pc = .ok (.getfield 234, 3)) (kk : V z k nL (pc + 3) lv (.ref (zA z 18) :: rest) σ) : V z k nL pc lv (.ref (zA z 16) :: rest) σ :=
  r_getN X 16 inAX2 (by decide) rfl rfl 1 (by decide) (List.mem_of_getElem? (i := 8) rfl) rfl rfl hdg kk
theorem gf_X2_18 (X : Cx z cc nL RX2) (hdg : decode cc pc = .ok (.getfield 18, 3)) (kk : V z k nL (pc + 3) lv (.ref (zA z 19) :: rest) σ) : V z k nL pc lv (.ref (zA z 16) :: rest) σ :=
  r_get X 16 inAX2 (by decide) rfl rfl 2 (by decide) wd1_128 rfl rfl hdg kk
theorem gf_X7_231 (X : Cx z cc nL RX7) (hdg : decode cc pc = .ok (.getfield 231, 3)) (kk : V z k nL (pc + 3) lv (.ref (zA z 19) :: rest) σ) : V z k nL pc lv (.ref (zA z 16) :: rest) σ :=
  r_getN X 16 inAX2 (by decide) rfl rfl 2 (by decide) (List.mem_of_getElem? (i := 9) rfl) rfl rfl hdg kk
theorem gf_X2_21 (X : Cx z cc nL RX2) (hdg : decode cc pc = .ok (.getfield 21, 3)) {K : Int32 → Option β} (h : lt (σ 16 3) K = some res) (kk : ∀ v : Int32, K v = some res → V z k nL (pc + 3) lv (.int v :: rest) σ) : V z k nL pc lv (.ref (zA z 16) :: rest) σ :=
  r_get X 16 inAX2 (by decide) rfl rfl 3 (by decide) wd1_130 rfl rfl hdg (kk _ h)
theorem pf_X2_21 (X : Cx z cc nL RX2) {x : Int32} (hdg : decode cc pc = .ok (.putfield 21, 3)) {K : Sg → Option β} (h : st (ss σ 16 3 x) K = some res) (kk : ∀ σ9 : Sg, K σ9 = some res → V z k nL (pc + 3) lv rest σ9) : V z k nL pc lv (.int x :: .ref (zA z 16) :: rest) σ :=
  r_put X 16 inAX2 tyX2 tyX2_ok nmX2 (by decide) rfl rfl 3 (by decide) wd1_130 rfl rfl (ty := .int) rfl rfl rfl (Nat.le_of_ble_eq_true rfl) rfl hdg h kk
theorem gf_X7_227 (X : Cx z cc nL RX7) (hdg : decode cc pc = .ok (.getfield 227, 3)) {K : Int32 → Option β} (h : lt (σ 16 3) K = some res) (kk : ∀ v : Int32, K v = some res → V z k nL (pc + 3) lv (.int v :: rest) σ) : V z k nL pc lv (.ref (zA z 16) :: rest) σ :=
  r_getN X 16 inAX2 (by decide) rfl rfl 3 (by decide) (List.mem_of_getElem? (i := 10) rfl) rfl rfl hdg (kk _ h)
theorem pf_X7_227 (X : Cx z cc nL RX7) {x : Int32} (hdg : decode cc pc = .ok (.putfield 227, 3)) {K : Sg → Option β} (h : st (ss σ 16 3 x) K = some res) (kk : ∀ σ9 : Sg, K σ9 = some res → V z k nL (pc + 3) lv rest σ9) : V z k nL pc lv (.int x :: .ref (zA z 16) :: rest) σ :=
  r_putN X 16 inAX2 tyX2 tyX2_ok nmX2 (by decide) rfl rfl 3 (by decide) (List.mem_of_getElem? (i := 10) rfl) rfl rfl (ty := .int) rfl rfl rfl (Nat.le_of_ble_eq_true rfl) rfl hdg h kk
theorem gf_X1_11 (X : Cx z cc nL RX1) (hdg : decode cc pc = .ok (.getfield 11, 3)) (kk : V z k nL (pc + 3) lv (.ref (zA z 21) :: rest) σ) : V z k nL pc lv (.ref (zA z 20) :: rest) σ :=
  r_get X 20 inAX1 (by decide) rfl rfl 0 (by decide) wd1_147 rfl rfl hdg kk
theorem gf_X1_15 (X : Cx z cc nL RX1) (hdg : decode cc pc = .ok (.getfield 15, 3)) {K : Int32 → Option β} (h : lt (σ 20 1) K = some res) (kk : ∀ v : Int32, K v = some res → V z k nL (pc + 3) lv (.int v :: rest) σ) : V z k nL pc lv (.ref (zA z 20) :: rest) σ :=
  r_get X 20 inAX1 (by decide) rfl rfl 1 (by decide) wd1_148 rfl rfl hdg (kk _ h)
theorem pf_X1_15 (X : Cx z cc nL RX1) {x : Int32} (hdg : decode cc pc = .ok (.putfield 15, 3)) {K : Sg → Option β} (h : st (ss σ 20 1 x) K = some res) (kk : ∀ σ9 : Sg, K σ9 = some res → V z k nL (pc + 3) lv rest σ9) : V z k nL pc lv (.int x :: .ref (zA z 20) :: rest) σ :=
  r_put X 20 inAX1 tyX1 tyX1_ok nmX1 (by decide) rfl rfl 1 (by decide) wd1_148 rfl rfl (ty := .int) rfl rfl rfl (Nat.le_of_ble_eq_true rfl) rfl hdg h kk
theorem gf_X1_19 (X : Cx z cc nL RX1) (hdg : decode cc pc = .ok (.getfield 19, 3)) {K : Int32 → Option β} (h : lt (σ 20 2) K = some res) (kk : ∀ v : Int32, K v = some res → V z k nL (pc + 3) lv (.int v :: rest) σ) : V z k nL pc lv (.ref (zA z 20) :: rest) σ :=
  r_get X 20 inAX1 (by decide) rfl rfl 2 (by decide) wd1_149 rfl rfl hdg (kk _ h)
theorem pf_X1_19 (X : Cx z cc nL RX1) {x : Int32} (hdg : decode cc pc = .ok (.putfield 19, 3)) {K : Sg → Option β} (h : st (ss σ 20 2 x) K = some res) (kk : ∀ σ9 : Sg, K σ9 = some res → V z k nL (pc + 3) lv rest σ9) : V z k nL pc lv (.int x :: .ref (zA z 20) :: rest) σ :=
  r_put X 20 inAX1 tyX1 tyX1_ok nmX1 (by decide) rfl rfl 2 (by decide) wd1_149 rfl rfl (ty := .int) rfl rfl rfl (Nat.le_of_ble_eq_true rfl) rfl hdg h kk
theorem gf_X1_22 (X : Cx z cc nL RX1) (hdg : decode cc pc = .ok (.getfield 22, 3)) {K : Int32 → Option β} (h : lt (σ 20 3) K = some res) (kk : ∀ v : Int32, K v = some res → V z k nL (pc + 3) lv (.int v :: rest) σ) : V z k nL pc lv (.ref (zA z 20) :: rest) σ :=
  r_get X 20 inAX1 (by decide) rfl rfl 3 (by decide) wd1_150 rfl rfl hdg (kk _ h)
theorem pf_X1_22 (X : Cx z cc nL RX1) {x : Int32} (hdg : decode cc pc = .ok (.putfield 22, 3)) {K : Sg → Option β} (h : st (ss σ 20 3 x) K = some res) (kk : ∀ σ9 : Sg, K σ9 = some res → V z k nL (pc + 3) lv rest σ9) : V z k nL pc lv (.int x :: .ref (zA z 20) :: rest) σ :=
  r_put X 20 inAX1 tyX1 tyX1_ok nmX1 (by decide) rfl rfl 3 (by decide) wd1_150 rfl rfl (ty := .int) rfl rfl rfl (Nat.le_of_ble_eq_true rfl) rfl hdg h kk
theorem gf_X1_25 (X : Cx z cc nL RX1) (hdg : decode cc pc = .ok (.getfield 25, 3)) {K : Int32 → Option β} (h : lt (σ 20 4) K = some res) (kk : ∀ v : Int32, K v = some res → V z k nL (pc + 3) lv (.int v :: rest) σ) : V z k nL pc lv (.ref (zA z 20) :: rest) σ :=
  r_get X 20 inAX1 (by decide) rfl rfl 4 (by decide) wd1_151 rfl rfl hdg (kk _ h)
theorem pf_X1_25 (X : Cx z cc nL RX1) {x : Int32} (hdg : decode cc pc = .ok (.putfield 25, 3)) {K : Sg → Option β} (h : st (ss σ 20 4 x) K = some res) (kk : ∀ σ9 : Sg, K σ9 = some res → V z k nL (pc + 3) lv rest σ9) : V z k nL pc lv (.int x :: .ref (zA z 20) :: rest) σ :=
  r_put X 20 inAX1 tyX1 tyX1_ok nmX1 (by decide) rfl rfl 4 (by decide) wd1_151 rfl rfl (ty := .int) rfl rfl rfl (Nat.le_of_ble_eq_true rfl) rfl hdg h kk
theorem gf_X1_28 (X : Cx z cc nL RX1) (hdg : decode cc pc = .ok (.getfield 28, 3)) {K : Int32 → Option β} (h : lt (σ 20 5) K = some res) (kk : ∀ v : Int32, K v = some res → V z k nL (pc + 3) lv (.int v :: rest) σ) : V z k nL pc lv (.ref (zA z 20) :: rest) σ :=
  r_get X 20 inAX1 (by decide) rfl rfl 5 (by decide) wd1_152 rfl rfl hdg (kk _ h)
theorem pf_X1_28 (X : Cx z cc nL RX1) {x : Int32} (h01 : x = 0 ∨ x = 1) (hdg : decode cc pc = .ok (.putfield 28, 3)) {K : Sg → Option β} (h : st (ss σ 20 5 x) K = some res) (kk : ∀ σ9 : Sg, K σ9 = some res → V z k nL (pc + 3) lv rest σ9) : V z k nL pc lv (.int x :: .ref (zA z 20) :: rest) σ :=
  r_put X 20 inAX1 tyX1 tyX1_ok nmX1 (by decide) rfl rfl 5 (by decide) wd1_152 rfl rfl (ty := .boolean) rfl (nar01 h01) (by rcases h01 with rfl | rfl <;> rfl) (Nat.le_of_ble_eq_true rfl) rfl hdg h kk
theorem gf_X7_295 (X : Cx z cc nL RX7) (hdg : decode cc pc = .ok (.getfield 295, 3)) {K : Int32 → Option β} (h : lt (σ 20 5) K = some res) (kk : ∀ v : Int32, K v = some res → V z k nL (pc + 3) lv (.int v :: rest) σ) : V z k nL pc lv (.ref (zA z 20) :: rest) σ :=
  r_getN X 20 inAX1 (by decide) rfl rfl 5 (by decide) (List.mem_of_getElem? (i := 12) rfl) rfl rfl hdg (kk _ h)
theorem pf_X7_295 (X : Cx z cc nL RX7) {x : Int32} (h01 : x = 0 ∨ x = 1) (hdg : decode cc pc = .ok (.putfield 295, 3)) {K : Sg → Option β} (h : st (ss σ 20 5 x) K = some res) (kk : ∀ σ9 : Sg, K σ9 = some res → V z k nL (pc + 3) lv rest σ9) : V z k nL pc lv (.int x :: .ref (zA z 20) :: rest) σ :=
  r_putN X 20 inAX1 tyX1 tyX1_ok nmX1 (by decide) rfl rfl 5 (by decide) (List.mem_of_getElem? (i := 12) rfl) rfl rfl (ty := .boolean) rfl (nar01 h01) (by rcases h01 with rfl | rfl <;> rfl) (Nat.le_of_ble_eq_true rfl) rfl hdg h kk
theorem gf_X0_11 (X : Cx z cc nL RX0) (hdg : decode cc pc = .ok (.getfield 11, 3)) (kk : V z k nL (pc + 3) lv (.ref (zA z 23) :: rest) σ) : V z k nL pc lv (.ref (zA z 22) :: rest) σ :=
  r_get X 22 inAX0 (by decide) rfl rfl 0 (by decide) wd1_173 rfl rfl hdg kk
theorem gf_X7_212 (X : Cx z cc nL RX7) (hdg : decode cc pc = .ok (.getfield 212, 3)) (kk : V z k nL (pc + 3) lv (.ref (zA z 23) :: rest) σ) : V z k nL pc lv (.ref (zA z 22) :: rest) σ :=
  r_getN X 22 inAX0 (by decide) rfl rfl 0 (by decide) (List.mem_of_getElem? (i := 14) rfl) rfl rfl hdg kk
theorem gf_X0_15 (X : Cx z cc nL RX0) (hdg : decode cc pc = .ok (.getfield 15, 3)) (kk : V z k nL (pc + 3) lv (.ref (zA z 24) :: rest) σ) : V z k nL pc lv (.ref (zA z 22) :: rest) σ :=
  r_get X 22 inAX0 (by decide) rfl rfl 1 (by decide) wd1_175 rfl rfl hdg kk
theorem gf_X7_215 (X : Cx z cc nL RX7) (hdg : decode cc pc = .ok (.getfield 215, 3)) (kk : V z k nL (pc + 3) lv (.ref (zA z 24) :: rest) σ) : V z k nL pc lv (.ref (zA z 22) :: rest) σ :=
  r_getN X 22 inAX0 (by decide) rfl rfl 1 (by decide) (List.mem_of_getElem? (i := 15) rfl) rfl rfl hdg kk
theorem gf_X0_18 (X : Cx z cc nL RX0) (hdg : decode cc pc = .ok (.getfield 18, 3)) (kk : V z k nL (pc + 3) lv (.ref (zA z 25) :: rest) σ) : V z k nL pc lv (.ref (zA z 22) :: rest) σ :=
  r_get X 22 inAX0 (by decide) rfl rfl 2 (by decide) wd1_177 rfl rfl hdg kk
theorem gf_X7_217 (X : Cx z cc nL RX7) (hdg : decode cc pc = .ok (.getfield 217, 3)) (kk : V z k nL (pc + 3) lv (.ref (zA z 25) :: rest) σ) : V z k nL pc lv (.ref (zA z 22) :: rest) σ :=
  r_getN X 22 inAX0 (by decide) rfl rfl 2 (by decide) (List.mem_of_getElem? (i := 16) rfl) rfl rfl hdg kk
theorem gf_X0_21 (X : Cx z cc nL RX0) (hdg : decode cc pc = .ok (.getfield 21, 3)) {K : Int32 → Option β} (h : lt (σ 22 3) K = some res) (kk : ∀ v : Int32, K v = some res → V z k nL (pc + 3) lv (.int v :: rest) σ) : V z k nL pc lv (.ref (zA z 22) :: rest) σ :=
  r_get X 22 inAX0 (by decide) rfl rfl 3 (by decide) wd1_179 rfl rfl hdg (kk _ h)
theorem pf_X0_21 (X : Cx z cc nL RX0) {x : Int32} (hdg : decode cc pc = .ok (.putfield 21, 3)) {K : Sg → Option β} (h : st (ss σ 22 3 x) K = some res) (kk : ∀ σ9 : Sg, K σ9 = some res → V z k nL (pc + 3) lv rest σ9) : V z k nL pc lv (.int x :: .ref (zA z 22) :: rest) σ :=
  r_put X 22 inAX0 tyX0 tyX0_ok nmX0 (by decide) rfl rfl 3 (by decide) wd1_179 rfl rfl (ty := .int) rfl rfl rfl (Nat.le_of_ble_eq_true rfl) rfl hdg h kk
theorem gf_X7_177 (X : Cx z cc nL RX7) (hdg : decode cc pc = .ok (.getfield 177, 3)) {K : Int32 → Option β} (h : lt (σ 22 3) K = some res) (kk : ∀ v : Int32, K v = some res → V z k nL (pc + 3) lv (.int v :: rest) σ) : V z k nL pc lv (.ref (zA z 22) :: rest) σ :=
  r_getN X 22 inAX0 (by decide) rfl rfl 3 (by decide) (List.mem_of_getElem? (i := 17) rfl) rfl rfl hdg (kk _ h)
theorem pf_X7_177 (X : Cx z cc nL RX7) {x : Int32} (hdg : decode cc pc = .ok (.putfield 177, 3)) {K : Sg → Option β} (h : st (ss σ 22 3 x) K = some res) (kk : ∀ σ9 : Sg, K σ9 = some res → V z k nL (pc + 3) lv rest σ9) : V z k nL pc lv (.int x :: .ref (zA z 22) :: rest) σ :=
  r_putN X 22 inAX0 tyX0 tyX0_ok nmX0 (by decide) rfl rfl 3 (by decide) (List.mem_of_getElem? (i := 17) rfl) rfl rfl (ty := .int) rfl rfl rfl (Nat.le_of_ble_eq_true rfl) rfl hdg h kk
theorem gf_X7_12 (X : Cx z cc nL RX7) (hdg : decode cc pc = .ok (.getfield 12, 3)) (kk : V z k nL (pc + 3) lv (.ref (zA z 1) :: rest) σ) : V z k nL pc lv (.ref (zA z 0) :: rest) σ :=
  r_get X 0 inAX7 (by decide) rfl rfl 0 (by decide) wd1_191 rfl rfl hdg kk
theorem gf_X7_21 (X : Cx z cc nL RX7) (hdg : decode cc pc = .ok (.getfield 21, 3)) (kk : V z k nL (pc + 3) lv (.ref (zA z 3) :: rest) σ) : V z k nL pc lv (.ref (zA z 0) :: rest) σ :=
  r_get X 0 inAX7 (by decide) rfl rfl 1 (by decide) wd1_192 rfl rfl hdg kk
theorem gf_X7_30 (X : Cx z cc nL RX7) (hdg : decode cc pc = .ok (.getfield 30, 3)) (kk : V z k nL (pc + 3) lv (.ref (zA z 9) :: rest) σ) : V z k nL pc lv (.ref (zA z 0) :: rest) σ :=
  r_get X 0 inAX7 (by decide) rfl rfl 2 (by decide) wd1_193 rfl rfl hdg kk
theorem gf_X7_37 (X : Cx z cc nL RX7) (hdg : decode cc pc = .ok (.getfield 37, 3)) (kk : V z k nL (pc + 3) lv (.ref (zA z 12) :: rest) σ) : V z k nL pc lv (.ref (zA z 0) :: rest) σ :=
  r_get X 0 inAX7 (by decide) rfl rfl 3 (by decide) wd1_194 rfl rfl hdg kk
theorem gf_X7_44 (X : Cx z cc nL RX7) (hdg : decode cc pc = .ok (.getfield 44, 3)) (kk : V z k nL (pc + 3) lv (.ref (zA z 16) :: rest) σ) : V z k nL pc lv (.ref (zA z 0) :: rest) σ :=
  r_get X 0 inAX7 (by decide) rfl rfl 4 (by decide) wd1_195 rfl rfl hdg kk
theorem gf_X7_51 (X : Cx z cc nL RX7) (hdg : decode cc pc = .ok (.getfield 51, 3)) (kk : V z k nL (pc + 3) lv (.ref (zA z 20) :: rest) σ) : V z k nL pc lv (.ref (zA z 0) :: rest) σ :=
  r_get X 0 inAX7 (by decide) rfl rfl 5 (by decide) wd1_196 rfl rfl hdg kk
theorem gf_X7_58 (X : Cx z cc nL RX7) (hdg : decode cc pc = .ok (.getfield 58, 3)) (kk : V z k nL (pc + 3) lv (.ref (zA z 22) :: rest) σ) : V z k nL pc lv (.ref (zA z 0) :: rest) σ :=
  r_get X 0 inAX7 (by decide) rfl rfl 6 (by decide) wd1_197 rfl rfl hdg kk
theorem gf_X7_62 (X : Cx z cc nL RX7) (hdg : decode cc pc = .ok (.getfield 62, 3)) (kk : V z k nL (pc + 3) lv (.ref (zA z 26) :: rest) σ) : V z k nL pc lv (.ref (zA z 0) :: rest) σ :=
  r_get X 0 inAX7 (by decide) rfl rfl 7 (by decide) wd1_198 rfl rfl hdg kk
theorem gf_X7_66 (X : Cx z cc nL RX7) (hdg : decode cc pc = .ok (.getfield 66, 3)) (kk : V z k nL (pc + 3) lv (.ref (zA z 27) :: rest) σ) : V z k nL pc lv (.ref (zA z 0) :: rest) σ :=
  r_get X 0 inAX7 (by decide) rfl rfl 8 (by decide) wd1_199 rfl rfl hdg kk
theorem gf_X7_70 (X : Cx z cc nL RX7) (hdg : decode cc pc = .ok (.getfield 70, 3)) (kk : V z k nL (pc + 3) lv (.ref (zA z 28) :: rest) σ) : V z k nL pc lv (.ref (zA z 0) :: rest) σ :=
  r_get X 0 inAX7 (by decide) rfl rfl 9 (by decide) wd1_200 rfl rfl hdg kk
theorem gf_X7_73 (X : Cx z cc nL RX7) (hdg : decode cc pc = .ok (.getfield 73, 3)) (kk : V z k nL (pc + 3) lv (.ref (zA z 29) :: rest) σ) : V z k nL pc lv (.ref (zA z 0) :: rest) σ :=
  r_get X 0 inAX7 (by decide) rfl rfl 10 (by decide) wd1_201 rfl rfl hdg kk
theorem gf_X7_76 (X : Cx z cc nL RX7) (hdg : decode cc pc = .ok (.getfield 76, 3)) (kk : V z k nL (pc + 3) lv (.ref (zA z 30) :: rest) σ) : V z k nL pc lv (.ref (zA z 0) :: rest) σ :=
  r_get X 0 inAX7 (by decide) rfl rfl 11 (by decide) wd1_202 rfl rfl hdg kk
theorem gf_X7_79 (X : Cx z cc nL RX7) (hdg : decode cc pc = .ok (.getfield 79, 3)) (kk : V z k nL (pc + 3) lv (.ref (zA z 31) :: rest) σ) : V z k nL pc lv (.ref (zA z 0) :: rest) σ :=
  r_get X 0 inAX7 (by decide) rfl rfl 12 (by decide) wd1_203 rfl rfl hdg kk
theorem gf_X7_82 (X : Cx z cc nL RX7) (hdg : decode cc pc = .ok (.getfield 82, 3)) {K : Int32 → Option β} (h : lt (σ 0 13) K = some res) (kk : ∀ v : Int32, K v = some res → V z k nL (pc + 3) lv (.int v :: rest) σ) : V z k nL pc lv (.ref (zA z 0) :: rest) σ :=
  r_get X 0 inAX7 (by decide) rfl rfl 13 (by decide) wd1_204 rfl rfl hdg (kk _ h)
theorem pf_X7_82 (X : Cx z cc nL RX7) {x : Int32} (hdg : decode cc pc = .ok (.putfield 82, 3)) {K : Sg → Option β} (h : st (ss σ 0 13 x) K = some res) (kk : ∀ σ9 : Sg, K σ9 = some res → V z k nL (pc + 3) lv rest σ9) : V z k nL pc lv (.int x :: .ref (zA z 0) :: rest) σ :=
  r_put X 0 inAX7 tyX7 tyX7_ok nmX7 (by decide) rfl rfl 13 (by decide) wd1_204 rfl rfl (ty := .int) rfl rfl rfl (Nat.le_of_ble_eq_true rfl) rfl hdg h kk
theorem gf_X7_86 (X : Cx z cc nL RX7) (hdg : decode cc pc = .ok (.getfield 86, 3)) (kk : V z k nL (pc + 3) lv (.ref (zA z 32) :: rest) σ) : V z k nL pc lv (.ref (zA z 0) :: rest) σ :=
  r_get X 0 inAX7 (by decide) rfl rfl 14 (by decide) wd1_205 rfl rfl hdg kk
theorem gf_X7_89 (X : Cx z cc nL RX7) (hdg : decode cc pc = .ok (.getfield 89, 3)) {K : Int32 → Option β} (h : lt (σ 0 15) K = some res) (kk : ∀ v : Int32, K v = some res → V z k nL (pc + 3) lv (.int v :: rest) σ) : V z k nL pc lv (.ref (zA z 0) :: rest) σ :=
  r_get X 0 inAX7 (by decide) rfl rfl 15 (by decide) wd1_206 rfl rfl hdg (kk _ h)
theorem pf_X7_89 (X : Cx z cc nL RX7) {x : Int32} (hdg : decode cc pc = .ok (.putfield 89, 3)) {K : Sg → Option β} (h : st (ss σ 0 15 x) K = some res) (kk : ∀ σ9 : Sg, K σ9 = some res → V z k nL (pc + 3) lv rest σ9) : V z k nL pc lv (.int x :: .ref (zA z 0) :: rest) σ :=
  r_put X 0 inAX7 tyX7 tyX7_ok nmX7 (by decide) rfl rfl 15 (by decide) wd1_206 rfl rfl (ty := .int) rfl rfl rfl (Nat.le_of_ble_eq_true rfl) rfl hdg h kk
theorem gf_X7_92 (X : Cx z cc nL RX7) (hdg : decode cc pc = .ok (.getfield 92, 3)) (kk : V z k nL (pc + 3) lv (.ref (zA z 33) :: rest) σ) : V z k nL pc lv (.ref (zA z 0) :: rest) σ :=
  r_get X 0 inAX7 (by decide) rfl rfl 16 (by decide) wd1_207 rfl rfl hdg kk
theorem gf_X8_78 (X : Cx z cc nL RX8) (hdg : decode cc pc = .ok (.getfield 78, 3)) {K : Int32 → Option β} (h : lt (σ 35 0) K = some res) (kk : ∀ v : Int32, K v = some res → V z k nL (pc + 3) lv (.int v :: rest) σ) : V z k nL pc lv (.ref (zA z 35) :: rest) σ :=
  r_get X 35 inAX8 (by decide) rfl rfl 0 (by decide) wd3_195 rfl rfl hdg (kk _ h)
theorem pf_X8_78 (X : Cx z cc nL RX8) {x : Int32} (hdg : decode cc pc = .ok (.putfield 78, 3)) {K : Sg → Option β} (h : st (ss σ 35 0 x) K = some res) (kk : ∀ σ9 : Sg, K σ9 = some res → V z k nL (pc + 3) lv rest σ9) : V z k nL pc lv (.int x :: .ref (zA z 35) :: rest) σ :=
  r_put X 35 inAX8 tyX8 tyX8_ok nmX8 (by decide) rfl rfl 0 (by decide) wd3_195 rfl rfl (ty := .int) rfl rfl rfl (Nat.le_of_ble_eq_true rfl) rfl hdg h kk
theorem gf_X8_7 (X : Cx z cc nL RX8) (hdg : decode cc pc = .ok (.getfield 7, 3)) {K : Int32 → Option β} (h : lt (σ 35 1) K = some res) (kk : ∀ v : Int32, K v = some res → V z k nL (pc + 3) lv (.int v :: rest) σ) : V z k nL pc lv (.ref (zA z 35) :: rest) σ :=
  r_get X 35 inAX8 (by decide) rfl rfl 1 (by decide) wd3_196 rfl rfl hdg (kk _ h)
theorem pf_X8_7 (X : Cx z cc nL RX8) {x : Int32} (hdg : decode cc pc = .ok (.putfield 7, 3)) {K : Sg → Option β} (h : st (ss σ 35 1 x) K = some res) (kk : ∀ σ9 : Sg, K σ9 = some res → V z k nL (pc + 3) lv rest σ9) : V z k nL pc lv (.int x :: .ref (zA z 35) :: rest) σ :=
  r_put X 35 inAX8 tyX8 tyX8_ok nmX8 (by decide) rfl rfl 1 (by decide) wd3_196 rfl rfl (ty := .int) rfl rfl rfl (Nat.le_of_ble_eq_true rfl) rfl hdg h kk
theorem gf_X8_13 (X : Cx z cc nL RX8) (hdg : decode cc pc = .ok (.getfield 13, 3)) (kk : V z k nL (pc + 3) lv (.ref (zA z 36) :: rest) σ) : V z k nL pc lv (.ref (zA z 35) :: rest) σ :=
  r_get X 35 inAX8 (by decide) rfl rfl 2 (by decide) wd3_197 rfl rfl hdg kk
theorem gf_X8_17 (X : Cx z cc nL RX8) (hdg : decode cc pc = .ok (.getfield 17, 3)) (kk : V z k nL (pc + 3) lv (.ref (zA z 37) :: rest) σ) : V z k nL pc lv (.ref (zA z 35) :: rest) σ :=
  r_get X 35 inAX8 (by decide) rfl rfl 3 (by decide) wd3_198 rfl rfl hdg kk
theorem gf_X8_20 (X : Cx z cc nL RX8) (hdg : decode cc pc = .ok (.getfield 20, 3)) (kk : V z k nL (pc + 3) lv (.ref (zA z 38) :: rest) σ) : V z k nL pc lv (.ref (zA z 35) :: rest) σ :=
  r_get X 35 inAX8 (by decide) rfl rfl 4 (by decide) wd3_199 rfl rfl hdg kk
theorem gf_X8_24 (X : Cx z cc nL RX8) (hdg : decode cc pc = .ok (.getfield 24, 3)) (kk : V z k nL (pc + 3) lv (.ref (zA z 39) :: rest) σ) : V z k nL pc lv (.ref (zA z 35) :: rest) σ :=
  r_get X 35 inAX8 (by decide) rfl rfl 5 (by decide) wd3_200 rfl rfl hdg kk
theorem gf_X8_27 (X : Cx z cc nL RX8) (hdg : decode cc pc = .ok (.getfield 27, 3)) (kk : V z k nL (pc + 3) lv (.ref (zA z 40) :: rest) σ) : V z k nL pc lv (.ref (zA z 35) :: rest) σ :=
  r_get X 35 inAX8 (by decide) rfl rfl 6 (by decide) wd3_201 rfl rfl hdg kk
theorem gf_X8_30 (X : Cx z cc nL RX8) (hdg : decode cc pc = .ok (.getfield 30, 3)) (kk : V z k nL (pc + 3) lv (.ref (zA z 41) :: rest) σ) : V z k nL pc lv (.ref (zA z 35) :: rest) σ :=
  r_get X 35 inAX8 (by decide) rfl rfl 7 (by decide) wd3_202 rfl rfl hdg kk
theorem gf_X8_89 (X : Cx z cc nL RX8) (hdg : decode cc pc = .ok (.getfield 89, 3)) {K : Int32 → Option β} (h : lt (σ 35 8) K = some res) (kk : ∀ v : Int32, K v = some res → V z k nL (pc + 3) lv (.int v :: rest) σ) : V z k nL pc lv (.ref (zA z 35) :: rest) σ :=
  r_get X 35 inAX8 (by decide) rfl rfl 8 (by decide) wd3_203 rfl rfl hdg (kk _ h)
theorem pf_X8_89 (X : Cx z cc nL RX8) {x : Int32} (hdg : decode cc pc = .ok (.putfield 89, 3)) {K : Sg → Option β} (h : st (ss σ 35 8 x) K = some res) (kk : ∀ σ9 : Sg, K σ9 = some res → V z k nL (pc + 3) lv rest σ9) : V z k nL pc lv (.int x :: .ref (zA z 35) :: rest) σ :=
  r_put X 35 inAX8 tyX8 tyX8_ok nmX8 (by decide) rfl rfl 8 (by decide) wd3_203 rfl rfl (ty := .int) rfl rfl rfl (Nat.le_of_ble_eq_true rfl) rfl hdg h kk
theorem gf_X8_33 (X : Cx z cc nL RX8) (hdg : decode cc pc = .ok (.getfield 33, 3)) (kk : V z k nL (pc + 3) lv (.ref (zA z 42) :: rest) σ) : V z k nL pc lv (.ref (zA z 35) :: rest) σ :=
  r_get X 35 inAX8 (by decide) rfl rfl 9 (by decide) wd3_204 rfl rfl hdg kk
theorem gf_X8_36 (X : Cx z cc nL RX8) (hdg : decode cc pc = .ok (.getfield 36, 3)) (kk : V z k nL (pc + 3) lv (.ref (zA z 43) :: rest) σ) : V z k nL pc lv (.ref (zA z 35) :: rest) σ :=
  r_get X 35 inAX8 (by decide) rfl rfl 10 (by decide) wd3_205 rfl rfl hdg kk
theorem gf_X8_106 (X : Cx z cc nL RX8) (hdg : decode cc pc = .ok (.getfield 106, 3)) {K : Int32 → Option β} (h : lt (σ 35 11) K = some res) (kk : ∀ v : Int32, K v = some res → V z k nL (pc + 3) lv (.int v :: rest) σ) : V z k nL pc lv (.ref (zA z 35) :: rest) σ :=
  r_get X 35 inAX8 (by decide) rfl rfl 11 (by decide) wd3_206 rfl rfl hdg (kk _ h)
theorem pf_X8_106 (X : Cx z cc nL RX8) {x : Int32} (hdg : decode cc pc = .ok (.putfield 106, 3)) {K : Sg → Option β} (h : st (ss σ 35 11 x) K = some res) (kk : ∀ σ9 : Sg, K σ9 = some res → V z k nL (pc + 3) lv rest σ9) : V z k nL pc lv (.int x :: .ref (zA z 35) :: rest) σ :=
  r_put X 35 inAX8 tyX8 tyX8_ok nmX8 (by decide) rfl rfl 11 (by decide) wd3_206 rfl rfl (ty := .int) rfl rfl rfl (Nat.le_of_ble_eq_true rfl) rfl hdg h kk
theorem gf_X8_103 (X : Cx z cc nL RX8) (hdg : decode cc pc = .ok (.getfield 103, 3)) {K : Int32 → Option β} (h : lt (σ 35 12) K = some res) (kk : ∀ v : Int32, K v = some res → V z k nL (pc + 3) lv (.int v :: rest) σ) : V z k nL pc lv (.ref (zA z 35) :: rest) σ :=
  r_get X 35 inAX8 (by decide) rfl rfl 12 (by decide) wd3_207 rfl rfl hdg (kk _ h)
theorem pf_X8_103 (X : Cx z cc nL RX8) {x : Int32} (hdg : decode cc pc = .ok (.putfield 103, 3)) {K : Sg → Option β} (h : st (ss σ 35 12 x) K = some res) (kk : ∀ σ9 : Sg, K σ9 = some res → V z k nL (pc + 3) lv rest σ9) : V z k nL pc lv (.int x :: .ref (zA z 35) :: rest) σ :=
  r_put X 35 inAX8 tyX8 tyX8_ok nmX8 (by decide) rfl rfl 12 (by decide) wd3_207 rfl rfl (ty := .int) rfl rfl rfl (Nat.le_of_ble_eq_true rfl) rfl hdg h kk
theorem gf_X8_39 (X : Cx z cc nL RX8) (hdg : decode cc pc = .ok (.getfield 39, 3)) (kk : V z k nL (pc + 3) lv (.ref (zA z 44) :: rest) σ) : V z k nL pc lv (.ref (zA z 35) :: rest) σ :=
  r_get X 35 inAX8 (by decide) rfl rfl 13 (by decide) wd3_208 rfl rfl hdg kk
theorem gf_X8_42 (X : Cx z cc nL RX8) (hdg : decode cc pc = .ok (.getfield 42, 3)) (kk : V z k nL (pc + 3) lv (.ref (zA z 45) :: rest) σ) : V z k nL pc lv (.ref (zA z 35) :: rest) σ :=
  r_get X 35 inAX8 (by decide) rfl rfl 14 (by decide) wd3_209 rfl rfl hdg kk
theorem gf_X8_109 (X : Cx z cc nL RX8) (hdg : decode cc pc = .ok (.getfield 109, 3)) {K : Int32 → Option β} (h : lt (σ 35 15) K = some res) (kk : ∀ v : Int32, K v = some res → V z k nL (pc + 3) lv (.int v :: rest) σ) : V z k nL pc lv (.ref (zA z 35) :: rest) σ :=
  r_get X 35 inAX8 (by decide) rfl rfl 15 (by decide) wd3_210 rfl rfl hdg (kk _ h)
theorem pf_X8_109 (X : Cx z cc nL RX8) {x : Int32} (hdg : decode cc pc = .ok (.putfield 109, 3)) {K : Sg → Option β} (h : st (ss σ 35 15 x) K = some res) (kk : ∀ σ9 : Sg, K σ9 = some res → V z k nL (pc + 3) lv rest σ9) : V z k nL pc lv (.int x :: .ref (zA z 35) :: rest) σ :=
  r_put X 35 inAX8 tyX8 tyX8_ok nmX8 (by decide) rfl rfl 15 (by decide) wd3_210 rfl rfl (ty := .int) rfl rfl rfl (Nat.le_of_ble_eq_true rfl) rfl hdg h kk
theorem gf_X8_45 (X : Cx z cc nL RX8) (hdg : decode cc pc = .ok (.getfield 45, 3)) (kk : V z k nL (pc + 3) lv (.ref (zA z 46) :: rest) σ) : V z k nL pc lv (.ref (zA z 35) :: rest) σ :=
  r_get X 35 inAX8 (by decide) rfl rfl 16 (by decide) wd3_211 rfl rfl hdg kk
theorem gf_X8_118 (X : Cx z cc nL RX8) (hdg : decode cc pc = .ok (.getfield 118, 3)) {K : Int32 → Option β} (h : lt (σ 35 17) K = some res) (kk : ∀ v : Int32, K v = some res → V z k nL (pc + 3) lv (.int v :: rest) σ) : V z k nL pc lv (.ref (zA z 35) :: rest) σ :=
  r_get X 35 inAX8 (by decide) rfl rfl 17 (by decide) wd3_212 rfl rfl hdg (kk _ h)
theorem pf_X8_118 (X : Cx z cc nL RX8) {x : Int32} (hdg : decode cc pc = .ok (.putfield 118, 3)) {K : Sg → Option β} (h : st (ss σ 35 17 x) K = some res) (kk : ∀ σ9 : Sg, K σ9 = some res → V z k nL (pc + 3) lv rest σ9) : V z k nL pc lv (.int x :: .ref (zA z 35) :: rest) σ :=
  r_put X 35 inAX8 tyX8 tyX8_ok nmX8 (by decide) rfl rfl 17 (by decide) wd3_212 rfl rfl (ty := .int) rfl rfl rfl (Nat.le_of_ble_eq_true rfl) rfl hdg h kk
theorem gf_X8_48 (X : Cx z cc nL RX8) (hdg : decode cc pc = .ok (.getfield 48, 3)) (kk : V z k nL (pc + 3) lv (.ref (zA z 47) :: rest) σ) : V z k nL pc lv (.ref (zA z 35) :: rest) σ :=
  r_get X 35 inAX8 (by decide) rfl rfl 18 (by decide) wd3_213 rfl rfl hdg kk
theorem gf_X8_51 (X : Cx z cc nL RX8) (hdg : decode cc pc = .ok (.getfield 51, 3)) (kk : V z k nL (pc + 3) lv (.ref (zA z 48) :: rest) σ) : V z k nL pc lv (.ref (zA z 35) :: rest) σ :=
  r_get X 35 inAX8 (by decide) rfl rfl 19 (by decide) wd3_214 rfl rfl hdg kk
theorem gf_X8_54 (X : Cx z cc nL RX8) (hdg : decode cc pc = .ok (.getfield 54, 3)) (kk : V z k nL (pc + 3) lv (.ref (zA z 49) :: rest) σ) : V z k nL pc lv (.ref (zA z 35) :: rest) σ :=
  r_get X 35 inAX8 (by decide) rfl rfl 20 (by decide) wd3_215 rfl rfl hdg kk
theorem gf_X8_57 (X : Cx z cc nL RX8) (hdg : decode cc pc = .ok (.getfield 57, 3)) (kk : V z k nL (pc + 3) lv (.ref (zA z 50) :: rest) σ) : V z k nL pc lv (.ref (zA z 35) :: rest) σ :=
  r_get X 35 inAX8 (by decide) rfl rfl 21 (by decide) wd3_216 rfl rfl hdg kk
theorem gf_X8_132 (X : Cx z cc nL RX8) (hdg : decode cc pc = .ok (.getfield 132, 3)) {K : Int32 → Option β} (h : lt (σ 35 22) K = some res) (kk : ∀ v : Int32, K v = some res → V z k nL (pc + 3) lv (.int v :: rest) σ) : V z k nL pc lv (.ref (zA z 35) :: rest) σ :=
  r_get X 35 inAX8 (by decide) rfl rfl 22 (by decide) wd3_217 rfl rfl hdg (kk _ h)
theorem pf_X8_132 (X : Cx z cc nL RX8) {x : Int32} (hdg : decode cc pc = .ok (.putfield 132, 3)) {K : Sg → Option β} (h : st (ss σ 35 22 x) K = some res) (kk : ∀ σ9 : Sg, K σ9 = some res → V z k nL (pc + 3) lv rest σ9) : V z k nL pc lv (.int x :: .ref (zA z 35) :: rest) σ :=
  r_put X 35 inAX8 tyX8 tyX8_ok nmX8 (by decide) rfl rfl 22 (by decide) wd3_217 rfl rfl (ty := .int) rfl rfl rfl (Nat.le_of_ble_eq_true rfl) rfl hdg h kk
theorem gf_X8_60 (X : Cx z cc nL RX8) (hdg : decode cc pc = .ok (.getfield 60, 3)) (kk : V z k nL (pc + 3) lv (.ref (zA z 51) :: rest) σ) : V z k nL pc lv (.ref (zA z 35) :: rest) σ :=
  r_get X 35 inAX8 (by decide) rfl rfl 23 (by decide) wd3_218 rfl rfl hdg kk
theorem gf_X8_63 (X : Cx z cc nL RX8) (hdg : decode cc pc = .ok (.getfield 63, 3)) (kk : V z k nL (pc + 3) lv (.ref (zA z 52) :: rest) σ) : V z k nL pc lv (.ref (zA z 35) :: rest) σ :=
  r_get X 35 inAX8 (by decide) rfl rfl 24 (by decide) wd3_219 rfl rfl hdg kk
theorem gf_X8_141 (X : Cx z cc nL RX8) (hdg : decode cc pc = .ok (.getfield 141, 3)) {K : Int32 → Option β} (h : lt (σ 35 25) K = some res) (kk : ∀ v : Int32, K v = some res → V z k nL (pc + 3) lv (.int v :: rest) σ) : V z k nL pc lv (.ref (zA z 35) :: rest) σ :=
  r_get X 35 inAX8 (by decide) rfl rfl 25 (by decide) wd3_220 rfl rfl hdg (kk _ h)
theorem pf_X8_141 (X : Cx z cc nL RX8) {x : Int32} (hdg : decode cc pc = .ok (.putfield 141, 3)) {K : Sg → Option β} (h : st (ss σ 35 25 x) K = some res) (kk : ∀ σ9 : Sg, K σ9 = some res → V z k nL (pc + 3) lv rest σ9) : V z k nL pc lv (.int x :: .ref (zA z 35) :: rest) σ :=
  r_put X 35 inAX8 tyX8 tyX8_ok nmX8 (by decide) rfl rfl 25 (by decide) wd3_220 rfl rfl (ty := .int) rfl rfl rfl (Nat.le_of_ble_eq_true rfl) rfl hdg h kk
theorem gf_X8_66 (X : Cx z cc nL RX8) (hdg : decode cc pc = .ok (.getfield 66, 3)) (kk : V z k nL (pc + 3) lv (.ref (zA z 53) :: rest) σ) : V z k nL pc lv (.ref (zA z 35) :: rest) σ :=
  r_get X 35 inAX8 (by decide) rfl rfl 26 (by decide) wd3_221 rfl rfl hdg kk
theorem gf_X8_69 (X : Cx z cc nL RX8) (hdg : decode cc pc = .ok (.getfield 69, 3)) (kk : V z k nL (pc + 3) lv (.ref (zA z 54) :: rest) σ) : V z k nL pc lv (.ref (zA z 35) :: rest) σ :=
  r_get X 35 inAX8 (by decide) rfl rfl 27 (by decide) wd3_222 rfl rfl hdg kk
theorem gf_X8_72 (X : Cx z cc nL RX8) (hdg : decode cc pc = .ok (.getfield 72, 3)) (kk : V z k nL (pc + 3) lv (.ref (zA z 55) :: rest) σ) : V z k nL pc lv (.ref (zA z 35) :: rest) σ :=
  r_get X 35 inAX8 (by decide) rfl rfl 28 (by decide) wd3_223 rfl rfl hdg kk
theorem gf_X8_75 (X : Cx z cc nL RX8) (hdg : decode cc pc = .ok (.getfield 75, 3)) (kk : V z k nL (pc + 3) lv (.ref (zA z 56) :: rest) σ) : V z k nL pc lv (.ref (zA z 35) :: rest) σ :=
  r_get X 35 inAX8 (by decide) rfl rfl 29 (by decide) wd3_224 rfl rfl hdg kk
theorem al_2 {own : String} (X : Cx z cc nL own) {i : Int32} (hdg : decode cc pc = .ok (.iaload, 1)) {K : Int32 → Option β} (h : rdA 20 (σ 2) i K = some res) (kk : ∀ v : Int32, K v = some res → V z k nL (pc + 1) lv (.int v :: rest) σ) : V z k nL pc lv (.int i :: .ref (zA z 2) :: rest) σ :=
  r_iald X 2 0 20 (by decide) rfl rfl hdg h kk
theorem as_2 {own : String} (X : Cx z cc nL own) {i x : Int32} (hdg : decode cc pc = .ok (.iastore, 1)) {K : Sg → Option β} (h : wrA 20 σ 2 i x K = some res) (kk : ∀ σ9 : Sg, K σ9 = some res → V z k nL (pc + 1) lv rest σ9) : V z k nL pc lv (.int x :: .int i :: .ref (zA z 2) :: rest) σ :=
  r_iast X 2 0 20 (by decide) (fun _ => rfl) rfl hdg h kk
theorem al_4 {own : String} (X : Cx z cc nL own) {i : Int32} (hdg : decode cc pc = .ok (.iaload, 1)) {K : Int32 → Option β} (h : rdA 60 (σ 4) i K = some res) (kk : ∀ v : Int32, K v = some res → V z k nL (pc + 1) lv (.int v :: rest) σ) : V z k nL pc lv (.int i :: .ref (zA z 4) :: rest) σ :=
  r_iald X 4 1 60 (by decide) rfl rfl hdg h kk
theorem as_4 {own : String} (X : Cx z cc nL own) {i x : Int32} (hdg : decode cc pc = .ok (.iastore, 1)) {K : Sg → Option β} (h : wrA 60 σ 4 i x K = some res) (kk : ∀ σ9 : Sg, K σ9 = some res → V z k nL (pc + 1) lv rest σ9) : V z k nL pc lv (.int x :: .int i :: .ref (zA z 4) :: rest) σ :=
  r_iast X 4 1 60 (by decide) (fun _ => rfl) rfl hdg h kk
theorem al_5 {own : String} (X : Cx z cc nL own) {i : Int32} (hdg : decode cc pc = .ok (.iaload, 1)) {K : Int32 → Option β} (h : rdA 60 (σ 5) i K = some res) (kk : ∀ v : Int32, K v = some res → V z k nL (pc + 1) lv (.int v :: rest) σ) : V z k nL pc lv (.int i :: .ref (zA z 5) :: rest) σ :=
  r_iald X 5 2 60 (by decide) rfl rfl hdg h kk
theorem as_5 {own : String} (X : Cx z cc nL own) {i x : Int32} (hdg : decode cc pc = .ok (.iastore, 1)) {K : Sg → Option β} (h : wrA 60 σ 5 i x K = some res) (kk : ∀ σ9 : Sg, K σ9 = some res → V z k nL (pc + 1) lv rest σ9) : V z k nL pc lv (.int x :: .int i :: .ref (zA z 5) :: rest) σ :=
  r_iast X 5 2 60 (by decide) (fun _ => rfl) rfl hdg h kk
theorem al_6 {own : String} (X : Cx z cc nL own) {i : Int32} (hdg : decode cc pc = .ok (.iaload, 1)) {K : Int32 → Option β} (h : rdA 60 (σ 6) i K = some res) (kk : ∀ v : Int32, K v = some res → V z k nL (pc + 1) lv (.int v :: rest) σ) : V z k nL pc lv (.int i :: .ref (zA z 6) :: rest) σ :=
  r_iald X 6 3 60 (by decide) rfl rfl hdg h kk
theorem as_6 {own : String} (X : Cx z cc nL own) {i x : Int32} (hdg : decode cc pc = .ok (.iastore, 1)) {K : Sg → Option β} (h : wrA 60 σ 6 i x K = some res) (kk : ∀ σ9 : Sg, K σ9 = some res → V z k nL (pc + 1) lv rest σ9) : V z k nL pc lv (.int x :: .int i :: .ref (zA z 6) :: rest) σ :=
  r_iast X 6 3 60 (by decide) (fun _ => rfl) rfl hdg h kk
theorem al_7 {own : String} (X : Cx z cc nL own) {i : Int32} (hdg : decode cc pc = .ok (.iaload, 1)) {K : Int32 → Option β} (h : rdA 260 (σ 7) i K = some res) (kk : ∀ v : Int32, K v = some res → V z k nL (pc + 1) lv (.int v :: rest) σ) : V z k nL pc lv (.int i :: .ref (zA z 7) :: rest) σ :=
  r_iald X 7 4 260 (by decide) rfl rfl hdg h kk
theorem as_7 {own : String} (X : Cx z cc nL own) {i x : Int32} (hdg : decode cc pc = .ok (.iastore, 1)) {K : Sg → Option β} (h : wrA 260 σ 7 i x K = some res) (kk : ∀ σ9 : Sg, K σ9 = some res → V z k nL (pc + 1) lv rest σ9) : V z k nL pc lv (.int x :: .int i :: .ref (zA z 7) :: rest) σ :=
  r_iast X 7 4 260 (by decide) (fun _ => rfl) rfl hdg h kk
theorem al_8 {own : String} (X : Cx z cc nL own) {i : Int32} (hdg : decode cc pc = .ok (.iaload, 1)) {K : Int32 → Option β} (h : rdA 260 (σ 8) i K = some res) (kk : ∀ v : Int32, K v = some res → V z k nL (pc + 1) lv (.int v :: rest) σ) : V z k nL pc lv (.int i :: .ref (zA z 8) :: rest) σ :=
  r_iald X 8 5 260 (by decide) rfl rfl hdg h kk
theorem as_8 {own : String} (X : Cx z cc nL own) {i x : Int32} (hdg : decode cc pc = .ok (.iastore, 1)) {K : Sg → Option β} (h : wrA 260 σ 8 i x K = some res) (kk : ∀ σ9 : Sg, K σ9 = some res → V z k nL (pc + 1) lv rest σ9) : V z k nL pc lv (.int x :: .int i :: .ref (zA z 8) :: rest) σ :=
  r_iast X 8 5 260 (by decide) (fun _ => rfl) rfl hdg h kk
theorem al_10 {own : String} (X : Cx z cc nL own) {i : Int32} (hdg : decode cc pc = .ok (.iaload, 1)) {K : Int32 → Option β} (h : rdA 60 (σ 10) i K = some res) (kk : ∀ v : Int32, K v = some res → V z k nL (pc + 1) lv (.int v :: rest) σ) : V z k nL pc lv (.int i :: .ref (zA z 10) :: rest) σ :=
  r_iald X 10 6 60 (by decide) rfl rfl hdg h kk
theorem as_10 {own : String} (X : Cx z cc nL own) {i x : Int32} (hdg : decode cc pc = .ok (.iastore, 1)) {K : Sg → Option β} (h : wrA 60 σ 10 i x K = some res) (kk : ∀ σ9 : Sg, K σ9 = some res → V z k nL (pc + 1) lv rest σ9) : V z k nL pc lv (.int x :: .int i :: .ref (zA z 10) :: rest) σ :=
  r_iast X 10 6 60 (by decide) (fun _ => rfl) rfl hdg h kk
theorem al_11 {own : String} (X : Cx z cc nL own) {i : Int32} (hdg : decode cc pc = .ok (.iaload, 1)) {K : Int32 → Option β} (h : rdA 100 (σ 11) i K = some res) (kk : ∀ v : Int32, K v = some res → V z k nL (pc + 1) lv (.int v :: rest) σ) : V z k nL pc lv (.int i :: .ref (zA z 11) :: rest) σ :=
  r_iald X 11 7 100 (by decide) rfl rfl hdg h kk
theorem as_11 {own : String} (X : Cx z cc nL own) {i x : Int32} (hdg : decode cc pc = .ok (.iastore, 1)) {K : Sg → Option β} (h : wrA 100 σ 11 i x K = some res) (kk : ∀ σ9 : Sg, K σ9 = some res → V z k nL (pc + 1) lv rest σ9) : V z k nL pc lv (.int x :: .int i :: .ref (zA z 11) :: rest) σ :=
  r_iast X 11 7 100 (by decide) (fun _ => rfl) rfl hdg h kk
theorem al_13 {own : String} (X : Cx z cc nL own) {i : Int32} (hdg : decode cc pc = .ok (.iaload, 1)) {K : Int32 → Option β} (h : rdA 200 (σ 13) i K = some res) (kk : ∀ v : Int32, K v = some res → V z k nL (pc + 1) lv (.int v :: rest) σ) : V z k nL pc lv (.int i :: .ref (zA z 13) :: rest) σ :=
  r_iald X 13 8 200 (by decide) rfl rfl hdg h kk
theorem as_13 {own : String} (X : Cx z cc nL own) {i x : Int32} (hdg : decode cc pc = .ok (.iastore, 1)) {K : Sg → Option β} (h : wrA 200 σ 13 i x K = some res) (kk : ∀ σ9 : Sg, K σ9 = some res → V z k nL (pc + 1) lv rest σ9) : V z k nL pc lv (.int x :: .int i :: .ref (zA z 13) :: rest) σ :=
  r_iast X 13 8 200 (by decide) (fun _ => rfl) rfl hdg h kk
theorem al_14 {own : String} (X : Cx z cc nL own) {i : Int32} (hdg : decode cc pc = .ok (.iaload, 1)) {K : Int32 → Option β} (h : rdA 200 (σ 14) i K = some res) (kk : ∀ v : Int32, K v = some res → V z k nL (pc + 1) lv (.int v :: rest) σ) : V z k nL pc lv (.int i :: .ref (zA z 14) :: rest) σ :=
  r_iald X 14 9 200 (by decide) rfl rfl hdg h kk
theorem as_14 {own : String} (X : Cx z cc nL own) {i x : Int32} (hdg : decode cc pc = .ok (.iastore, 1)) {K : Sg → Option β} (h : wrA 200 σ 14 i x K = some res) (kk : ∀ σ9 : Sg, K σ9 = some res → V z k nL (pc + 1) lv rest σ9) : V z k nL pc lv (.int x :: .int i :: .ref (zA z 14) :: rest) σ :=
  r_iast X 14 9 200 (by decide) (fun _ => rfl) rfl hdg h kk
theorem al_15 {own : String} (X : Cx z cc nL own) {i : Int32} (hdg : decode cc pc = .ok (.iaload, 1)) {K : Int32 → Option β} (h : rdA 10 (σ 15) i K = some res) (kk : ∀ v : Int32, K v = some res → V z k nL (pc + 1) lv (.int v :: rest) σ) : V z k nL pc lv (.int i :: .ref (zA z 15) :: rest) σ :=
  r_iald X 15 10 10 (by decide) rfl rfl hdg h kk
theorem as_15 {own : String} (X : Cx z cc nL own) {i x : Int32} (hdg : decode cc pc = .ok (.iastore, 1)) {K : Sg → Option β} (h : wrA 10 σ 15 i x K = some res) (kk : ∀ σ9 : Sg, K σ9 = some res → V z k nL (pc + 1) lv rest σ9) : V z k nL pc lv (.int x :: .int i :: .ref (zA z 15) :: rest) σ :=
  r_iast X 15 10 10 (by decide) (fun _ => rfl) rfl hdg h kk
theorem al_17 {own : String} (X : Cx z cc nL own) {i : Int32} (hdg : decode cc pc = .ok (.iaload, 1)) {K : Int32 → Option β} (h : rdA 60 (σ 17) i K = some res) (kk : ∀ v : Int32, K v = some res → V z k nL (pc + 1) lv (.int v :: rest) σ) : V z k nL pc lv (.int i :: .ref (zA z 17) :: rest) σ :=
  r_iald X 17 11 60 (by decide) rfl rfl hdg h kk
theorem as_17 {own : String} (X : Cx z cc nL own) {i x : Int32} (hdg : decode cc pc = .ok (.iastore, 1)) {K : Sg → Option β} (h : wrA 60 σ 17 i x K = some res) (kk : ∀ σ9 : Sg, K σ9 = some res → V z k nL (pc + 1) lv rest σ9) : V z k nL pc lv (.int x :: .int i :: .ref (zA z 17) :: rest) σ :=
  r_iast X 17 11 60 (by decide) (fun _ => rfl) rfl hdg h kk
theorem al_18 {own : String} (X : Cx z cc nL own) {i : Int32} (hdg : decode cc pc = .ok (.iaload, 1)) {K : Int32 → Option β} (h : rdA 60 (σ 18) i K = some res) (kk : ∀ v : Int32, K v = some res → V z k nL (pc + 1) lv (.int v :: rest) σ) : V z k nL pc lv (.int i :: .ref (zA z 18) :: rest) σ :=
  r_iald X 18 12 60 (by decide) rfl rfl hdg h kk
theorem as_18 {own : String} (X : Cx z cc nL own) {i x : Int32} (hdg : decode cc pc = .ok (.iastore, 1)) {K : Sg → Option β} (h : wrA 60 σ 18 i x K = some res) (kk : ∀ σ9 : Sg, K σ9 = some res → V z k nL (pc + 1) lv rest σ9) : V z k nL pc lv (.int x :: .int i :: .ref (zA z 18) :: rest) σ :=
  r_iast X 18 12 60 (by decide) (fun _ => rfl) rfl hdg h kk
theorem al_19 {own : String} (X : Cx z cc nL own) {i : Int32} (hdg : decode cc pc = .ok (.iaload, 1)) {K : Int32 → Option β} (h : rdA 60 (σ 19) i K = some res) (kk : ∀ v : Int32, K v = some res → V z k nL (pc + 1) lv (.int v :: rest) σ) : V z k nL pc lv (.int i :: .ref (zA z 19) :: rest) σ :=
  r_iald X 19 13 60 (by decide) rfl rfl hdg h kk
theorem as_19 {own : String} (X : Cx z cc nL own) {i x : Int32} (hdg : decode cc pc = .ok (.iastore, 1)) {K : Sg → Option β} (h : wrA 60 σ 19 i x K = some res) (kk : ∀ σ9 : Sg, K σ9 = some res → V z k nL (pc + 1) lv rest σ9) : V z k nL pc lv (.int x :: .int i :: .ref (zA z 19) :: rest) σ :=
  r_iast X 19 13 60 (by decide) (fun _ => rfl) rfl hdg h kk
theorem al_21 {own : String} (X : Cx z cc nL own) {i : Int32} (hdg : decode cc pc = .ok (.iaload, 1)) {K : Int32 → Option β} (h : rdA 480 (σ 21) i K = some res) (kk : ∀ v : Int32, K v = some res → V z k nL (pc + 1) lv (.int v :: rest) σ) : V z k nL pc lv (.int i :: .ref (zA z 21) :: rest) σ :=
  r_iald X 21 14 480 (by decide) rfl rfl hdg h kk
theorem as_21 {own : String} (X : Cx z cc nL own) {i x : Int32} (hdg : decode cc pc = .ok (.iastore, 1)) {K : Sg → Option β} (h : wrA 480 σ 21 i x K = some res) (kk : ∀ σ9 : Sg, K σ9 = some res → V z k nL (pc + 1) lv rest σ9) : V z k nL pc lv (.int x :: .int i :: .ref (zA z 21) :: rest) σ :=
  r_iast X 21 14 480 (by decide) (fun _ => rfl) rfl hdg h kk
theorem al_23 {own : String} (X : Cx z cc nL own) {i : Int32} (hdg : decode cc pc = .ok (.iaload, 1)) {K : Int32 → Option β} (h : rdA 760 (σ 23) i K = some res) (kk : ∀ v : Int32, K v = some res → V z k nL (pc + 1) lv (.int v :: rest) σ) : V z k nL pc lv (.int i :: .ref (zA z 23) :: rest) σ :=
  r_iald X 23 15 760 (by decide) rfl rfl hdg h kk
theorem as_23 {own : String} (X : Cx z cc nL own) {i x : Int32} (hdg : decode cc pc = .ok (.iastore, 1)) {K : Sg → Option β} (h : wrA 760 σ 23 i x K = some res) (kk : ∀ σ9 : Sg, K σ9 = some res → V z k nL (pc + 1) lv rest σ9) : V z k nL pc lv (.int x :: .int i :: .ref (zA z 23) :: rest) σ :=
  r_iast X 23 15 760 (by decide) (fun _ => rfl) rfl hdg h kk
theorem al_24 {own : String} (X : Cx z cc nL own) {i : Int32} (hdg : decode cc pc = .ok (.iaload, 1)) {K : Int32 → Option β} (h : rdA 760 (σ 24) i K = some res) (kk : ∀ v : Int32, K v = some res → V z k nL (pc + 1) lv (.int v :: rest) σ) : V z k nL pc lv (.int i :: .ref (zA z 24) :: rest) σ :=
  r_iald X 24 16 760 (by decide) rfl rfl hdg h kk
theorem as_24 {own : String} (X : Cx z cc nL own) {i x : Int32} (hdg : decode cc pc = .ok (.iastore, 1)) {K : Sg → Option β} (h : wrA 760 σ 24 i x K = some res) (kk : ∀ σ9 : Sg, K σ9 = some res → V z k nL (pc + 1) lv rest σ9) : V z k nL pc lv (.int x :: .int i :: .ref (zA z 24) :: rest) σ :=
  r_iast X 24 16 760 (by decide) (fun _ => rfl) rfl hdg h kk
theorem al_25 {own : String} (X : Cx z cc nL own) {i : Int32} (hdg : decode cc pc = .ok (.iaload, 1)) {K : Int32 → Option β} (h : rdA 760 (σ 25) i K = some res) (kk : ∀ v : Int32, K v = some res → V z k nL (pc + 1) lv (.int v :: rest) σ) : V z k nL pc lv (.int i :: .ref (zA z 25) :: rest) σ :=
  r_iald X 25 17 760 (by decide) rfl rfl hdg h kk
theorem as_25 {own : String} (X : Cx z cc nL own) {i x : Int32} (hdg : decode cc pc = .ok (.iastore, 1)) {K : Sg → Option β} (h : wrA 760 σ 25 i x K = some res) (kk : ∀ σ9 : Sg, K σ9 = some res → V z k nL (pc + 1) lv rest σ9) : V z k nL pc lv (.int x :: .int i :: .ref (zA z 25) :: rest) σ :=
  r_iast X 25 17 760 (by decide) (fun _ => rfl) rfl hdg h kk
theorem al_26 {own : String} (X : Cx z cc nL own) {i : Int32} (hdg : decode cc pc = .ok (.iaload, 1)) {K : Int32 → Option β} (h : rdA 60 (σ 26) i K = some res) (kk : ∀ v : Int32, K v = some res → V z k nL (pc + 1) lv (.int v :: rest) σ) : V z k nL pc lv (.int i :: .ref (zA z 26) :: rest) σ :=
  r_iald X 26 18 60 (by decide) rfl rfl hdg h kk
theorem as_26 {own : String} (X : Cx z cc nL own) {i x : Int32} (hdg : decode cc pc = .ok (.iastore, 1)) {K : Sg → Option β} (h : wrA 60 σ 26 i x K = some res) (kk : ∀ σ9 : Sg, K σ9 = some res → V z k nL (pc + 1) lv rest σ9) : V z k nL pc lv (.int x :: .int i :: .ref (zA z 26) :: rest) σ :=
  r_iast X 26 18 60 (by decide) (fun _ => rfl) rfl hdg h kk
theorem al_27 {own : String} (X : Cx z cc nL own) {i : Int32} (hdg : decode cc pc = .ok (.baload, 1)) {K : Int32 → Option β} (h : rdA 60 (σ 27) i K = some res) (kk : ∀ v : Int32, K v = some res → V z k nL (pc + 1) lv (.int v :: rest) σ) : V z k nL pc lv (.int i :: .ref (zA z 27) :: rest) σ :=
  r_zald X 27 19 60 (by decide) rfl rfl hdg h kk
theorem as_27 {own : String} (X : Cx z cc nL own) {i x : Int32} (hdg : decode cc pc = .ok (.bastore, 1)) {K : Sg → Option β} (h : wrA 60 σ 27 i (vp_nar .boolean x) K = some res) (kk : ∀ σ9 : Sg, K σ9 = some res → V z k nL (pc + 1) lv rest σ9) : V z k nL pc lv (.int x :: .int i :: .ref (zA z 27) :: rest) σ :=
  r_zast X 27 19 60 (by decide) (fun _ => rfl) rfl hdg h kk
theorem al_28 {own : String} (X : Cx z cc nL own) {i : Int32} (hdg : decode cc pc = .ok (.iaload, 1)) {K : Int32 → Option β} (h : rdA 60 (σ 28) i K = some res) (kk : ∀ v : Int32, K v = some res → V z k nL (pc + 1) lv (.int v :: rest) σ) : V z k nL pc lv (.int i :: .ref (zA z 28) :: rest) σ :=
  r_iald X 28 20 60 (by decide) rfl rfl hdg h kk
theorem as_28 {own : String} (X : Cx z cc nL own) {i x : Int32} (hdg : decode cc pc = .ok (.iastore, 1)) {K : Sg → Option β} (h : wrA 60 σ 28 i x K = some res) (kk : ∀ σ9 : Sg, K σ9 = some res → V z k nL (pc + 1) lv rest σ9) : V z k nL pc lv (.int x :: .int i :: .ref (zA z 28) :: rest) σ :=
  r_iast X 28 20 60 (by decide) (fun _ => rfl) rfl hdg h kk
theorem al_29 {own : String} (X : Cx z cc nL own) {i : Int32} (hdg : decode cc pc = .ok (.iaload, 1)) {K : Int32 → Option β} (h : rdA 60 (σ 29) i K = some res) (kk : ∀ v : Int32, K v = some res → V z k nL (pc + 1) lv (.int v :: rest) σ) : V z k nL pc lv (.int i :: .ref (zA z 29) :: rest) σ :=
  r_iald X 29 21 60 (by decide) rfl rfl hdg h kk
theorem as_29 {own : String} (X : Cx z cc nL own) {i x : Int32} (hdg : decode cc pc = .ok (.iastore, 1)) {K : Sg → Option β} (h : wrA 60 σ 29 i x K = some res) (kk : ∀ σ9 : Sg, K σ9 = some res → V z k nL (pc + 1) lv rest σ9) : V z k nL pc lv (.int x :: .int i :: .ref (zA z 29) :: rest) σ :=
  r_iast X 29 21 60 (by decide) (fun _ => rfl) rfl hdg h kk
theorem al_30 {own : String} (X : Cx z cc nL own) {i : Int32} (hdg : decode cc pc = .ok (.iaload, 1)) {K : Int32 → Option β} (h : rdA 40 (σ 30) i K = some res) (kk : ∀ v : Int32, K v = some res → V z k nL (pc + 1) lv (.int v :: rest) σ) : V z k nL pc lv (.int i :: .ref (zA z 30) :: rest) σ :=
  r_iald X 30 22 40 (by decide) rfl rfl hdg h kk
theorem as_30 {own : String} (X : Cx z cc nL own) {i x : Int32} (hdg : decode cc pc = .ok (.iastore, 1)) {K : Sg → Option β} (h : wrA 40 σ 30 i x K = some res) (kk : ∀ σ9 : Sg, K σ9 = some res → V z k nL (pc + 1) lv rest σ9) : V z k nL pc lv (.int x :: .int i :: .ref (zA z 30) :: rest) σ :=
  r_iast X 30 22 40 (by decide) (fun _ => rfl) rfl hdg h kk
theorem al_31 {own : String} (X : Cx z cc nL own) {i : Int32} (hdg : decode cc pc = .ok (.iaload, 1)) {K : Int32 → Option β} (h : rdA 40 (σ 31) i K = some res) (kk : ∀ v : Int32, K v = some res → V z k nL (pc + 1) lv (.int v :: rest) σ) : V z k nL pc lv (.int i :: .ref (zA z 31) :: rest) σ :=
  r_iald X 31 23 40 (by decide) rfl rfl hdg h kk
theorem as_31 {own : String} (X : Cx z cc nL own) {i x : Int32} (hdg : decode cc pc = .ok (.iastore, 1)) {K : Sg → Option β} (h : wrA 40 σ 31 i x K = some res) (kk : ∀ σ9 : Sg, K σ9 = some res → V z k nL (pc + 1) lv rest σ9) : V z k nL pc lv (.int x :: .int i :: .ref (zA z 31) :: rest) σ :=
  r_iast X 31 23 40 (by decide) (fun _ => rfl) rfl hdg h kk
theorem al_32 {own : String} (X : Cx z cc nL own) {i : Int32} (hdg : decode cc pc = .ok (.iaload, 1)) {K : Int32 → Option β} (h : rdA 200 (σ 32) i K = some res) (kk : ∀ v : Int32, K v = some res → V z k nL (pc + 1) lv (.int v :: rest) σ) : V z k nL pc lv (.int i :: .ref (zA z 32) :: rest) σ :=
  r_iald X 32 24 200 (by decide) rfl rfl hdg h kk
theorem as_32 {own : String} (X : Cx z cc nL own) {i x : Int32} (hdg : decode cc pc = .ok (.iastore, 1)) {K : Sg → Option β} (h : wrA 200 σ 32 i x K = some res) (kk : ∀ σ9 : Sg, K σ9 = some res → V z k nL (pc + 1) lv rest σ9) : V z k nL pc lv (.int x :: .int i :: .ref (zA z 32) :: rest) σ :=
  r_iast X 32 24 200 (by decide) (fun _ => rfl) rfl hdg h kk
theorem al_33 {own : String} (X : Cx z cc nL own) {i : Int32} (hdg : decode cc pc = .ok (.iaload, 1)) {K : Int32 → Option β} (h : rdA 10 (σ 33) i K = some res) (kk : ∀ v : Int32, K v = some res → V z k nL (pc + 1) lv (.int v :: rest) σ) : V z k nL pc lv (.int i :: .ref (zA z 33) :: rest) σ :=
  r_iald X 33 25 10 (by decide) rfl rfl hdg h kk
theorem as_33 {own : String} (X : Cx z cc nL own) {i x : Int32} (hdg : decode cc pc = .ok (.iastore, 1)) {K : Sg → Option β} (h : wrA 10 σ 33 i x K = some res) (kk : ∀ σ9 : Sg, K σ9 = some res → V z k nL (pc + 1) lv rest σ9) : V z k nL pc lv (.int x :: .int i :: .ref (zA z 33) :: rest) σ :=
  r_iast X 33 25 10 (by decide) (fun _ => rfl) rfl hdg h kk
theorem al_36 {own : String} (X : Cx z cc nL own) {i : Int32} (hdg : decode cc pc = .ok (.iaload, 1)) {K : Int32 → Option β} (h : rdA 60 (σ 36) i K = some res) (kk : ∀ v : Int32, K v = some res → V z k nL (pc + 1) lv (.int v :: rest) σ) : V z k nL pc lv (.int i :: .ref (zA z 36) :: rest) σ :=
  r_iald X 36 27 60 (by decide) rfl rfl hdg h kk
theorem as_36 {own : String} (X : Cx z cc nL own) {i x : Int32} (hdg : decode cc pc = .ok (.iastore, 1)) {K : Sg → Option β} (h : wrA 60 σ 36 i x K = some res) (kk : ∀ σ9 : Sg, K σ9 = some res → V z k nL (pc + 1) lv rest σ9) : V z k nL pc lv (.int x :: .int i :: .ref (zA z 36) :: rest) σ :=
  r_iast X 36 27 60 (by decide) (fun _ => rfl) rfl hdg h kk
theorem al_37 {own : String} (X : Cx z cc nL own) {i : Int32} (hdg : decode cc pc = .ok (.iaload, 1)) {K : Int32 → Option β} (h : rdA 60 (σ 37) i K = some res) (kk : ∀ v : Int32, K v = some res → V z k nL (pc + 1) lv (.int v :: rest) σ) : V z k nL pc lv (.int i :: .ref (zA z 37) :: rest) σ :=
  r_iald X 37 28 60 (by decide) rfl rfl hdg h kk
theorem as_37 {own : String} (X : Cx z cc nL own) {i x : Int32} (hdg : decode cc pc = .ok (.iastore, 1)) {K : Sg → Option β} (h : wrA 60 σ 37 i x K = some res) (kk : ∀ σ9 : Sg, K σ9 = some res → V z k nL (pc + 1) lv rest σ9) : V z k nL pc lv (.int x :: .int i :: .ref (zA z 37) :: rest) σ :=
  r_iast X 37 28 60 (by decide) (fun _ => rfl) rfl hdg h kk
theorem al_38 {own : String} (X : Cx z cc nL own) {i : Int32} (hdg : decode cc pc = .ok (.baload, 1)) {K : Int32 → Option β} (h : rdA 60 (σ 38) i K = some res) (kk : ∀ v : Int32, K v = some res → V z k nL (pc + 1) lv (.int v :: rest) σ) : V z k nL pc lv (.int i :: .ref (zA z 38) :: rest) σ :=
  r_zald X 38 29 60 (by decide) rfl rfl hdg h kk
theorem as_38 {own : String} (X : Cx z cc nL own) {i x : Int32} (hdg : decode cc pc = .ok (.bastore, 1)) {K : Sg → Option β} (h : wrA 60 σ 38 i (vp_nar .boolean x) K = some res) (kk : ∀ σ9 : Sg, K σ9 = some res → V z k nL (pc + 1) lv rest σ9) : V z k nL pc lv (.int x :: .int i :: .ref (zA z 38) :: rest) σ :=
  r_zast X 38 29 60 (by decide) (fun _ => rfl) rfl hdg h kk
theorem al_39 {own : String} (X : Cx z cc nL own) {i : Int32} (hdg : decode cc pc = .ok (.iaload, 1)) {K : Int32 → Option β} (h : rdA 60 (σ 39) i K = some res) (kk : ∀ v : Int32, K v = some res → V z k nL (pc + 1) lv (.int v :: rest) σ) : V z k nL pc lv (.int i :: .ref (zA z 39) :: rest) σ :=
  r_iald X 39 30 60 (by decide) rfl rfl hdg h kk
theorem as_39 {own : String} (X : Cx z cc nL own) {i x : Int32} (hdg : decode cc pc = .ok (.iastore, 1)) {K : Sg → Option β} (h : wrA 60 σ 39 i x K = some res) (kk : ∀ σ9 : Sg, K σ9 = some res → V z k nL (pc + 1) lv rest σ9) : V z k nL pc lv (.int x :: .int i :: .ref (zA z 39) :: rest) σ :=
  r_iast X 39 30 60 (by decide) (fun _ => rfl) rfl hdg h kk
theorem al_40 {own : String} (X : Cx z cc nL own) {i : Int32} (hdg : decode cc pc = .ok (.iaload, 1)) {K : Int32 → Option β} (h : rdA 60 (σ 40) i K = some res) (kk : ∀ v : Int32, K v = some res → V z k nL (pc + 1) lv (.int v :: rest) σ) : V z k nL pc lv (.int i :: .ref (zA z 40) :: rest) σ :=
  r_iald X 40 31 60 (by decide) rfl rfl hdg h kk
theorem as_40 {own : String} (X : Cx z cc nL own) {i x : Int32} (hdg : decode cc pc = .ok (.iastore, 1)) {K : Sg → Option β} (h : wrA 60 σ 40 i x K = some res) (kk : ∀ σ9 : Sg, K σ9 = some res → V z k nL (pc + 1) lv rest σ9) : V z k nL pc lv (.int x :: .int i :: .ref (zA z 40) :: rest) σ :=
  r_iast X 40 31 60 (by decide) (fun _ => rfl) rfl hdg h kk
theorem al_41 {own : String} (X : Cx z cc nL own) {i : Int32} (hdg : decode cc pc = .ok (.iaload, 1)) {K : Int32 → Option β} (h : rdA 20 (σ 41) i K = some res) (kk : ∀ v : Int32, K v = some res → V z k nL (pc + 1) lv (.int v :: rest) σ) : V z k nL pc lv (.int i :: .ref (zA z 41) :: rest) σ :=
  r_iald X 41 32 20 (by decide) rfl rfl hdg h kk
theorem as_41 {own : String} (X : Cx z cc nL own) {i x : Int32} (hdg : decode cc pc = .ok (.iastore, 1)) {K : Sg → Option β} (h : wrA 20 σ 41 i x K = some res) (kk : ∀ σ9 : Sg, K σ9 = some res → V z k nL (pc + 1) lv rest σ9) : V z k nL pc lv (.int x :: .int i :: .ref (zA z 41) :: rest) σ :=
  r_iast X 41 32 20 (by decide) (fun _ => rfl) rfl hdg h kk
theorem al_42 {own : String} (X : Cx z cc nL own) {i : Int32} (hdg : decode cc pc = .ok (.iaload, 1)) {K : Int32 → Option β} (h : rdA 160 (σ 42) i K = some res) (kk : ∀ v : Int32, K v = some res → V z k nL (pc + 1) lv (.int v :: rest) σ) : V z k nL pc lv (.int i :: .ref (zA z 42) :: rest) σ :=
  r_iald X 42 33 160 (by decide) rfl rfl hdg h kk
theorem as_42 {own : String} (X : Cx z cc nL own) {i x : Int32} (hdg : decode cc pc = .ok (.iastore, 1)) {K : Sg → Option β} (h : wrA 160 σ 42 i x K = some res) (kk : ∀ σ9 : Sg, K σ9 = some res → V z k nL (pc + 1) lv rest σ9) : V z k nL pc lv (.int x :: .int i :: .ref (zA z 42) :: rest) σ :=
  r_iast X 42 33 160 (by decide) (fun _ => rfl) rfl hdg h kk
theorem al_43 {own : String} (X : Cx z cc nL own) {i : Int32} (hdg : decode cc pc = .ok (.iaload, 1)) {K : Int32 → Option β} (h : rdA 160 (σ 43) i K = some res) (kk : ∀ v : Int32, K v = some res → V z k nL (pc + 1) lv (.int v :: rest) σ) : V z k nL pc lv (.int i :: .ref (zA z 43) :: rest) σ :=
  r_iald X 43 34 160 (by decide) rfl rfl hdg h kk
theorem as_43 {own : String} (X : Cx z cc nL own) {i x : Int32} (hdg : decode cc pc = .ok (.iastore, 1)) {K : Sg → Option β} (h : wrA 160 σ 43 i x K = some res) (kk : ∀ σ9 : Sg, K σ9 = some res → V z k nL (pc + 1) lv rest σ9) : V z k nL pc lv (.int x :: .int i :: .ref (zA z 43) :: rest) σ :=
  r_iast X 43 34 160 (by decide) (fun _ => rfl) rfl hdg h kk
theorem al_44 {own : String} (X : Cx z cc nL own) {i : Int32} (hdg : decode cc pc = .ok (.iaload, 1)) {K : Int32 → Option β} (h : rdA 40 (σ 44) i K = some res) (kk : ∀ v : Int32, K v = some res → V z k nL (pc + 1) lv (.int v :: rest) σ) : V z k nL pc lv (.int i :: .ref (zA z 44) :: rest) σ :=
  r_iald X 44 35 40 (by decide) rfl rfl hdg h kk
theorem as_44 {own : String} (X : Cx z cc nL own) {i x : Int32} (hdg : decode cc pc = .ok (.iastore, 1)) {K : Sg → Option β} (h : wrA 40 σ 44 i x K = some res) (kk : ∀ σ9 : Sg, K σ9 = some res → V z k nL (pc + 1) lv rest σ9) : V z k nL pc lv (.int x :: .int i :: .ref (zA z 44) :: rest) σ :=
  r_iast X 44 35 40 (by decide) (fun _ => rfl) rfl hdg h kk
theorem al_45 {own : String} (X : Cx z cc nL own) {i : Int32} (hdg : decode cc pc = .ok (.iaload, 1)) {K : Int32 → Option β} (h : rdA 40 (σ 45) i K = some res) (kk : ∀ v : Int32, K v = some res → V z k nL (pc + 1) lv (.int v :: rest) σ) : V z k nL pc lv (.int i :: .ref (zA z 45) :: rest) σ :=
  r_iald X 45 36 40 (by decide) rfl rfl hdg h kk
theorem as_45 {own : String} (X : Cx z cc nL own) {i x : Int32} (hdg : decode cc pc = .ok (.iastore, 1)) {K : Sg → Option β} (h : wrA 40 σ 45 i x K = some res) (kk : ∀ σ9 : Sg, K σ9 = some res → V z k nL (pc + 1) lv rest σ9) : V z k nL pc lv (.int x :: .int i :: .ref (zA z 45) :: rest) σ :=
  r_iast X 45 36 40 (by decide) (fun _ => rfl) rfl hdg h kk
theorem al_46 {own : String} (X : Cx z cc nL own) {i : Int32} (hdg : decode cc pc = .ok (.iaload, 1)) {K : Int32 → Option β} (h : rdA 200 (σ 46) i K = some res) (kk : ∀ v : Int32, K v = some res → V z k nL (pc + 1) lv (.int v :: rest) σ) : V z k nL pc lv (.int i :: .ref (zA z 46) :: rest) σ :=
  r_iald X 46 37 200 (by decide) rfl rfl hdg h kk
theorem as_46 {own : String} (X : Cx z cc nL own) {i x : Int32} (hdg : decode cc pc = .ok (.iastore, 1)) {K : Sg → Option β} (h : wrA 200 σ 46 i x K = some res) (kk : ∀ σ9 : Sg, K σ9 = some res → V z k nL (pc + 1) lv rest σ9) : V z k nL pc lv (.int x :: .int i :: .ref (zA z 46) :: rest) σ :=
  r_iast X 46 37 200 (by decide) (fun _ => rfl) rfl hdg h kk
theorem al_47 {own : String} (X : Cx z cc nL own) {i : Int32} (hdg : decode cc pc = .ok (.iaload, 1)) {K : Int32 → Option β} (h : rdA 160 (σ 47) i K = some res) (kk : ∀ v : Int32, K v = some res → V z k nL (pc + 1) lv (.int v :: rest) σ) : V z k nL pc lv (.int i :: .ref (zA z 47) :: rest) σ :=
  r_iald X 47 38 160 (by decide) rfl rfl hdg h kk
theorem as_47 {own : String} (X : Cx z cc nL own) {i x : Int32} (hdg : decode cc pc = .ok (.iastore, 1)) {K : Sg → Option β} (h : wrA 160 σ 47 i x K = some res) (kk : ∀ σ9 : Sg, K σ9 = some res → V z k nL (pc + 1) lv rest σ9) : V z k nL pc lv (.int x :: .int i :: .ref (zA z 47) :: rest) σ :=
  r_iast X 47 38 160 (by decide) (fun _ => rfl) rfl hdg h kk
theorem al_48 {own : String} (X : Cx z cc nL own) {i : Int32} (hdg : decode cc pc = .ok (.iaload, 1)) {K : Int32 → Option β} (h : rdA 160 (σ 48) i K = some res) (kk : ∀ v : Int32, K v = some res → V z k nL (pc + 1) lv (.int v :: rest) σ) : V z k nL pc lv (.int i :: .ref (zA z 48) :: rest) σ :=
  r_iald X 48 39 160 (by decide) rfl rfl hdg h kk
theorem as_48 {own : String} (X : Cx z cc nL own) {i x : Int32} (hdg : decode cc pc = .ok (.iastore, 1)) {K : Sg → Option β} (h : wrA 160 σ 48 i x K = some res) (kk : ∀ σ9 : Sg, K σ9 = some res → V z k nL (pc + 1) lv rest σ9) : V z k nL pc lv (.int x :: .int i :: .ref (zA z 48) :: rest) σ :=
  r_iast X 48 39 160 (by decide) (fun _ => rfl) rfl hdg h kk
theorem al_49 {own : String} (X : Cx z cc nL own) {i : Int32} (hdg : decode cc pc = .ok (.iaload, 1)) {K : Int32 → Option β} (h : rdA 61 (σ 49) i K = some res) (kk : ∀ v : Int32, K v = some res → V z k nL (pc + 1) lv (.int v :: rest) σ) : V z k nL pc lv (.int i :: .ref (zA z 49) :: rest) σ :=
  r_iald X 49 40 61 (by decide) rfl rfl hdg h kk
theorem as_49 {own : String} (X : Cx z cc nL own) {i x : Int32} (hdg : decode cc pc = .ok (.iastore, 1)) {K : Sg → Option β} (h : wrA 61 σ 49 i x K = some res) (kk : ∀ σ9 : Sg, K σ9 = some res → V z k nL (pc + 1) lv rest σ9) : V z k nL pc lv (.int x :: .int i :: .ref (zA z 49) :: rest) σ :=
  r_iast X 49 40 61 (by decide) (fun _ => rfl) rfl hdg h kk
theorem al_50 {own : String} (X : Cx z cc nL own) {i : Int32} (hdg : decode cc pc = .ok (.iaload, 1)) {K : Int32 → Option β} (h : rdA 61 (σ 50) i K = some res) (kk : ∀ v : Int32, K v = some res → V z k nL (pc + 1) lv (.int v :: rest) σ) : V z k nL pc lv (.int i :: .ref (zA z 50) :: rest) σ :=
  r_iald X 50 41 61 (by decide) rfl rfl hdg h kk
theorem as_50 {own : String} (X : Cx z cc nL own) {i x : Int32} (hdg : decode cc pc = .ok (.iastore, 1)) {K : Sg → Option β} (h : wrA 61 σ 50 i x K = some res) (kk : ∀ σ9 : Sg, K σ9 = some res → V z k nL (pc + 1) lv rest σ9) : V z k nL pc lv (.int x :: .int i :: .ref (zA z 50) :: rest) σ :=
  r_iast X 50 41 61 (by decide) (fun _ => rfl) rfl hdg h kk
theorem al_51 {own : String} (X : Cx z cc nL own) {i : Int32} (hdg : decode cc pc = .ok (.iaload, 1)) {K : Int32 → Option β} (h : rdA 60 (σ 51) i K = some res) (kk : ∀ v : Int32, K v = some res → V z k nL (pc + 1) lv (.int v :: rest) σ) : V z k nL pc lv (.int i :: .ref (zA z 51) :: rest) σ :=
  r_iald X 51 42 60 (by decide) rfl rfl hdg h kk
theorem as_51 {own : String} (X : Cx z cc nL own) {i x : Int32} (hdg : decode cc pc = .ok (.iastore, 1)) {K : Sg → Option β} (h : wrA 60 σ 51 i x K = some res) (kk : ∀ σ9 : Sg, K σ9 = some res → V z k nL (pc + 1) lv rest σ9) : V z k nL pc lv (.int x :: .int i :: .ref (zA z 51) :: rest) σ :=
  r_iast X 51 42 60 (by decide) (fun _ => rfl) rfl hdg h kk
theorem al_52 {own : String} (X : Cx z cc nL own) {i : Int32} (hdg : decode cc pc = .ok (.iaload, 1)) {K : Int32 → Option β} (h : rdA 60 (σ 52) i K = some res) (kk : ∀ v : Int32, K v = some res → V z k nL (pc + 1) lv (.int v :: rest) σ) : V z k nL pc lv (.int i :: .ref (zA z 52) :: rest) σ :=
  r_iald X 52 43 60 (by decide) rfl rfl hdg h kk
theorem as_52 {own : String} (X : Cx z cc nL own) {i x : Int32} (hdg : decode cc pc = .ok (.iastore, 1)) {K : Sg → Option β} (h : wrA 60 σ 52 i x K = some res) (kk : ∀ σ9 : Sg, K σ9 = some res → V z k nL (pc + 1) lv rest σ9) : V z k nL pc lv (.int x :: .int i :: .ref (zA z 52) :: rest) σ :=
  r_iast X 52 43 60 (by decide) (fun _ => rfl) rfl hdg h kk
theorem al_53 {own : String} (X : Cx z cc nL own) {i : Int32} (hdg : decode cc pc = .ok (.iaload, 1)) {K : Int32 → Option β} (h : rdA 700 (σ 53) i K = some res) (kk : ∀ v : Int32, K v = some res → V z k nL (pc + 1) lv (.int v :: rest) σ) : V z k nL pc lv (.int i :: .ref (zA z 53) :: rest) σ :=
  r_iald X 53 44 700 (by decide) rfl rfl hdg h kk
theorem as_53 {own : String} (X : Cx z cc nL own) {i x : Int32} (hdg : decode cc pc = .ok (.iastore, 1)) {K : Sg → Option β} (h : wrA 700 σ 53 i x K = some res) (kk : ∀ σ9 : Sg, K σ9 = some res → V z k nL (pc + 1) lv rest σ9) : V z k nL pc lv (.int x :: .int i :: .ref (zA z 53) :: rest) σ :=
  r_iast X 53 44 700 (by decide) (fun _ => rfl) rfl hdg h kk
theorem al_54 {own : String} (X : Cx z cc nL own) {i : Int32} (hdg : decode cc pc = .ok (.iaload, 1)) {K : Int32 → Option β} (h : rdA 700 (σ 54) i K = some res) (kk : ∀ v : Int32, K v = some res → V z k nL (pc + 1) lv (.int v :: rest) σ) : V z k nL pc lv (.int i :: .ref (zA z 54) :: rest) σ :=
  r_iald X 54 45 700 (by decide) rfl rfl hdg h kk
theorem as_54 {own : String} (X : Cx z cc nL own) {i x : Int32} (hdg : decode cc pc = .ok (.iastore, 1)) {K : Sg → Option β} (h : wrA 700 σ 54 i x K = some res) (kk : ∀ σ9 : Sg, K σ9 = some res → V z k nL (pc + 1) lv rest σ9) : V z k nL pc lv (.int x :: .int i :: .ref (zA z 54) :: rest) σ :=
  r_iast X 54 45 700 (by decide) (fun _ => rfl) rfl hdg h kk
theorem al_55 {own : String} (X : Cx z cc nL own) {i : Int32} (hdg : decode cc pc = .ok (.iaload, 1)) {K : Int32 → Option β} (h : rdA 700 (σ 55) i K = some res) (kk : ∀ v : Int32, K v = some res → V z k nL (pc + 1) lv (.int v :: rest) σ) : V z k nL pc lv (.int i :: .ref (zA z 55) :: rest) σ :=
  r_iald X 55 46 700 (by decide) rfl rfl hdg h kk
theorem as_55 {own : String} (X : Cx z cc nL own) {i x : Int32} (hdg : decode cc pc = .ok (.iastore, 1)) {K : Sg → Option β} (h : wrA 700 σ 55 i x K = some res) (kk : ∀ σ9 : Sg, K σ9 = some res → V z k nL (pc + 1) lv rest σ9) : V z k nL pc lv (.int x :: .int i :: .ref (zA z 55) :: rest) σ :=
  r_iast X 55 46 700 (by decide) (fun _ => rfl) rfl hdg h kk
theorem al_56 {own : String} (X : Cx z cc nL own) {i : Int32} (hdg : decode cc pc = .ok (.iaload, 1)) {K : Int32 → Option β} (h : rdA 500 (σ 56) i K = some res) (kk : ∀ v : Int32, K v = some res → V z k nL (pc + 1) lv (.int v :: rest) σ) : V z k nL pc lv (.int i :: .ref (zA z 56) :: rest) σ :=
  r_iald X 56 47 500 (by decide) rfl rfl hdg h kk
theorem as_56 {own : String} (X : Cx z cc nL own) {i x : Int32} (hdg : decode cc pc = .ok (.iastore, 1)) {K : Sg → Option β} (h : wrA 500 σ 56 i x K = some res) (kk : ∀ σ9 : Sg, K σ9 = some res → V z k nL (pc + 1) lv rest σ9) : V z k nL pc lv (.int x :: .int i :: .ref (zA z 56) :: rest) σ :=
  r_iast X 56 47 500 (by decide) (fun _ => rfl) rfl hdg h kk
theorem lk_X4_15 : LkS RX4 15 yJ7_fill_53178 cJ7_fill_53178 4 none 2 := ⟨wd1_33, wd1_34, wd1_3, wd1_35, by decide, by decide, by decide +kernel⟩
theorem lk_X6_38 : LkS RX6 38 yJ7_fill_53178 cJ7_fill_53178 4 none 2 := ⟨wd1_47, wd1_34, wd1_3, wd1_35, by decide, by decide, by decide +kernel⟩
theorem lk_X3_21 : LkS RX3 21 yJ7_fill_53178 cJ7_fill_53178 4 none 2 := ⟨wd1_107, wd1_34, wd1_3, wd1_35, by decide, by decide, by decide +kernel⟩
theorem lk_X7_95 : LkS RX7 95 yJ7_fill_53178 cJ7_fill_53178 4 none 2 := ⟨wd1_190, wd1_34, wd1_3, wd1_35, by decide, by decide, by decide +kernel⟩
theorem lk_L_81 : LkV RL 81 RX7 yX7_walk cX7_walk 1 (some .int) 0 := ⟨wd2_4, wd2_5, wd2_6, wd1_1, wd2_7, rfl, by decide, by decide, by decide +kernel⟩
theorem lk_X7_162 : LkV RX7 162 RX5 yX5_follow cX5_follow 3 none 0 := ⟨wd2_8, wd2_9, wd2_10, wd1_5, wd2_11, rfl, by decide, by decide, by decide +kernel⟩
theorem lk_X5_29 : LkS RX5 29 yX6_isElement cX6_isElement 1 (some .boolean) 1 := ⟨wd2_12, wd2_13, wd1_4, wd2_14, by decide, by decide, by decide +kernel⟩
theorem lk_X5_35 : LkV RX5 35 RX5 yX5_passElement cX5_passElement 2 (some .int) 1 := ⟨wd2_15, wd2_17, wd0_0, wd1_5, wd2_18, rfl, by decide, by decide, by decide +kernel⟩
theorem lk_X5_42 : LkV RX5 42 RX6 yX6_standardOf cX6_standardOf 2 (some .int) 1 := ⟨wd2_19, wd2_20, wd2_21, wd1_4, wd2_22, rfl, by decide, by decide, by decide +kernel⟩
theorem lk_X6_48 : LkV RX6 48 RX4 yX4_standardOf cX4_standardOf 4 (some .int) 1 := ⟨wd2_23, wd2_24, wd2_25, wd1_2, wd2_26, rfl, by decide, by decide, by decide +kernel⟩
theorem lk_X4_21 : LkS RX4 21 yX4_isOwn cX4_isOwn 1 (some .boolean) 1 := ⟨wd2_27, wd2_28, wd1_2, wd2_29, by decide, by decide, by decide +kernel⟩
theorem lk_X5_45 : LkV RX5 45 RX6 yX6_firstBehind cX6_firstBehind 4 (some .int) 1 := ⟨wd2_30, wd2_31, wd2_32, wd1_4, wd2_33, rfl, by decide, by decide, by decide +kernel⟩
theorem lk_X5_48 : LkV RX5 48 RX6 yX6_firstIn cX6_firstIn 2 (some .int) 1 := ⟨wd2_34, wd2_35, wd2_36, wd1_4, wd2_37, rfl, by decide, by decide, by decide +kernel⟩
theorem lk_X6_54 : LkV RX6 54 RX6 yX6_hasKids cX6_hasKids 2 (some .boolean) 1 := ⟨wd2_38, wd2_39, wd2_40, wd1_4, wd2_41, rfl, by decide, by decide, by decide +kernel⟩
theorem lk_X6_58 : LkV RX6 58 RX6 yX6_firstBehind cX6_firstBehind 4 (some .int) 1 := ⟨wd2_42, wd2_31, wd2_32, wd1_4, wd2_33, rfl, by decide, by decide, by decide +kernel⟩
theorem lk_X5_39 : LkV RX5 39 RX5 yX5_passPart cX5_passPart 2 (some .int) 1 := ⟨wd2_43, wd2_45, wd0_1, wd1_5, wd2_46, rfl, by decide, by decide, by decide +kernel⟩
theorem lk_X5_51 : LkS RX5 51 yX6_codeOf cX6_codeOf 1 (some .int) 1 := ⟨wd2_47, wd2_48, wd1_4, wd2_49, by decide, by decide, by decide +kernel⟩
theorem lk_L_91 : LkV RL 91 RX7 yX7_check cX7_check 1 (some .int) 0 := ⟨wd2_50, wd2_51, wd2_52, wd1_1, wd2_53, rfl, by decide, by decide, by decide +kernel⟩
theorem lk_X7_180 : LkV RX7 180 RX7 yX7_findElementsWithoutStandard cX7_findElementsWithoutStandard 2 none 0 := ⟨wd2_54, wd2_56, wd0_2, wd1_1, wd2_57, rfl, by decide, by decide, by decide +kernel⟩
theorem lk_X7_253 : LkV RX7 253 RX6 yX6_standardOf cX6_standardOf 2 (some .int) 1 := ⟨wd2_58, wd2_20, wd2_21, wd1_4, wd2_22, rfl, by decide, by decide, by decide +kernel⟩
theorem lk_X7_265 : LkV RX7 265 RX0 yX0_append cX0_append 4 none 3 := ⟨wd2_59, wd2_60, wd2_61, wd1_9, wd2_62, rfl, by decide, by decide, by decide +kernel⟩
theorem lk_X7_183 : LkV RX7 183 RX7 yX7_findHeadingsWithoutLevel cX7_findHeadingsWithoutLevel 2 none 0 := ⟨wd2_63, wd2_65, wd0_3, wd1_1, wd2_66, rfl, by decide, by decide, by decide +kernel⟩
theorem lk_X7_186 : LkV RX7 186 RX7 yX7_findSkippedLevels cX7_findSkippedLevels 4 none 0 := ⟨wd2_67, wd2_69, wd0_4, wd1_1, wd2_70, rfl, by decide, by decide, by decide +kernel⟩
theorem lk_X7_224 : LkV RX7 224 RX7 yX7_gatherHeadings cX7_gatherHeadings 3 none 0 := ⟨wd2_71, wd2_73, wd0_5, wd1_1, wd2_74, rfl, by decide, by decide, by decide +kernel⟩
theorem lk_X7_256 : LkV RX7 256 RX2 yX2_append cX2_append 3 none 2 := ⟨wd2_75, wd2_76, wd2_77, wd1_7, wd2_78, rfl, by decide, by decide, by decide +kernel⟩
theorem lk_X2_25 : LkV RX2 25 RX2 yX2_depthBehind cX2_depthBehind 3 (some .int) 1 := ⟨wd2_79, wd2_81, wd0_6, wd1_7, wd2_82, rfl, by decide, by decide, by decide +kernel⟩
theorem lk_X7_189 : LkV RX7 189 RX7 yX7_findMisplaced cX7_findMisplaced 2 none 0 := ⟨wd2_83, wd2_85, wd0_7, wd1_1, wd2_86, rfl, by decide, by decide, by decide +kernel⟩
theorem lk_X7_268 : LkV RX7 268 RX6 yX6_parentOf cX6_parentOf 2 (some .int) 1 := ⟨wd2_87, wd2_88, wd2_89, wd1_4, wd2_90, rfl, by decide, by decide, by decide +kernel⟩
theorem lk_X7_271 : LkS RX7 271 yX7_isMisplaced cX7_isMisplaced 4 (some .boolean) 2 := ⟨wd2_91, wd2_92, wd1_1, wd2_93, by decide, by decide, by decide +kernel⟩
theorem lk_X7_274 : LkS RX7 274 yX7_neededParent cX7_neededParent 1 (some .int) 1 := ⟨wd2_94, wd2_95, wd1_1, wd2_96, by decide, by decide, by decide +kernel⟩
theorem lk_X7_277 : LkS RX7 277 yX7_isCell cX7_isCell 1 (some .boolean) 1 := ⟨wd2_97, wd2_98, wd1_1, wd2_99, by decide, by decide, by decide +kernel⟩
theorem lk_X7_192 : LkV RX7 192 RX7 yX7_findUnevenTables cX7_findUnevenTables 2 none 0 := ⟨wd2_100, wd2_102, wd0_8, wd1_1, wd2_103, rfl, by decide, by decide, by decide +kernel⟩
theorem lk_X7_280 : LkV RX7 280 RX7 yX7_isUneven cX7_isUneven 3 (some .boolean) 1 := ⟨wd2_104, wd2_106, wd0_9, wd1_1, wd2_107, rfl, by decide, by decide, by decide +kernel⟩
theorem lk_X7_283 : LkV RX7 283 RX1 yX1_clear cX1_clear 1 none 0 := ⟨wd2_108, wd2_109, wd2_110, wd1_8, wd2_111, rfl, by decide, by decide, by decide +kernel⟩
theorem lk_X1_32 : LkS RX1 32 yJ7_fill_53178 cJ7_fill_53178 4 none 2 := ⟨wd2_112, wd1_34, wd1_3, wd1_35, by decide, by decide, by decide +kernel⟩
theorem lk_X7_286 : LkV RX7 286 RX1 yX1_beginRow cX1_beginRow 1 none 0 := ⟨wd2_113, wd2_114, wd2_115, wd1_8, wd2_116, rfl, by decide, by decide, by decide +kernel⟩
theorem lk_X7_289 : LkV RX7 289 RX7 yX7_layCells cX7_layCells 3 none 1 := ⟨wd2_117, wd2_119, wd0_10, wd1_1, wd2_120, rfl, by decide, by decide, by decide +kernel⟩
theorem lk_X7_299 : LkV RX7 299 RX1 yX1_lay cX1_lay 4 none 2 := ⟨wd2_121, wd2_122, wd2_123, wd1_8, wd2_124, rfl, by decide, by decide, by decide +kernel⟩
theorem lk_X7_292 : LkV RX7 292 RX1 yX1_endRow cX1_endRow 2 none 0 := ⟨wd2_128, wd2_129, wd2_130, wd1_8, wd2_131, rfl, by decide, by decide, by decide +kernel⟩
theorem lk_X7_195 : LkV RX7 195 RX7 yX7_findFiguresWithoutWords cX7_findFiguresWithoutWords 2 none 0 := ⟨wd2_132, wd2_134, wd0_11, wd1_1, wd2_135, rfl, by decide, by decide, by decide +kernel⟩
theorem lk_X7_198 : LkV RX7 198 RX7 yX7_findElementsWithoutKids cX7_findElementsWithoutKids 2 none 0 := ⟨wd2_136, wd2_138, wd0_12, wd1_1, wd2_139, rfl, by decide, by decide, by decide +kernel⟩
theorem lk_X7_302 : LkV RX7 302 RX6 yX6_hasKids cX6_hasKids 2 (some .boolean) 1 := ⟨wd2_140, wd2_39, wd2_40, wd1_4, wd2_41, rfl, by decide, by decide, by decide +kernel⟩
theorem lk_X7_201 : LkV RX7 201 RX7 yX7_findRepeats cX7_findRepeats 2 none 0 := ⟨wd2_141, wd2_143, wd0_13, wd1_1, wd2_144, rfl, by decide, by decide, by decide +kernel⟩
theorem lk_X7_204 : LkV RX7 204 RX7 yX7_findUntagged cX7_findUntagged 2 none 0 := ⟨wd2_145, wd2_147, wd0_14, wd1_1, wd2_148, rfl, by decide, by decide, by decide +kernel⟩
theorem lk_X7_235 : LkV RX7 235 RX7 yX7_gatherLoose cX7_gatherLoose 4 none 0 := ⟨wd2_149, wd2_151, wd0_15, wd1_1, wd2_152, rfl, by decide, by decide, by decide +kernel⟩
theorem lk_X7_259 : LkV RX7 259 RX3 yX3_shownBy cX3_shownBy 2 (some .int) 1 := ⟨wd2_153, wd2_154, wd2_155, wd1_6, wd2_156, rfl, by decide, by decide, by decide +kernel⟩
theorem lk_X7_262 : LkV RX7 262 RX3 yX3_codeAt cX3_codeAt 3 (some .int) 2 := ⟨wd2_157, wd2_158, wd2_159, wd1_6, wd2_160, rfl, by decide, by decide, by decide +kernel⟩
theorem lk_X7_144 : LkV RX7 144 RX6 yX6_holderOf cX6_holderOf 2 (some .int) 1 := ⟨wd2_161, wd2_162, wd2_163, wd1_4, wd2_164, rfl, by decide, by decide, by decide +kernel⟩
theorem lk_X7_207 : LkV RX7 207 RX7 yX7_findOutOfOrder cX7_findOutOfOrder 5 none 0 := ⟨wd2_165, wd2_167, wd0_16, wd1_1, wd2_168, rfl, by decide, by decide, by decide +kernel⟩
theorem lk_X7_305 : LkV RX7 305 RX3 yX3_placeOf cX3_placeOf 2 (some .int) 1 := ⟨wd2_169, wd2_170, wd2_171, wd1_6, wd2_172, rfl, by decide, by decide, by decide +kernel⟩
theorem lk_L_7 : LkV RL 7 RX7 yX7_element cX7_element 3 (some .int) 2 := ⟨wd2_179, wd2_180, wd2_181, wd1_1, wd2_182, rfl, by decide, by decide, by decide +kernel⟩
theorem lk_X7_101 : LkV RX7 101 RX7 yX7_needElement cX7_needElement 2 none 1 := ⟨wd2_183, wd2_185, wd0_17, wd1_1, wd2_186, rfl, by decide, by decide, by decide +kernel⟩
theorem lk_X7_105 : LkS RX7 105 yX4_isRole cX4_isRole 1 (some .boolean) 1 := ⟨wd3_16, wd3_17, wd1_2, wd3_18, by decide, by decide, by decide +kernel⟩
theorem lk_X7_124 : LkV RX7 124 RX6 yX6_addElement cX6_addElement 4 (some .int) 2 := ⟨wd3_51, wd3_52, wd3_53, wd1_4, wd3_54, rfl, by decide, by decide, by decide +kernel⟩
theorem lk_X6_44 : LkV RX6 44 RX6 yX6_addKid cX6_addKid 4 none 2 := ⟨wd3_55, wd3_57, wd0_19, wd1_4, wd3_58, rfl, by decide, by decide, by decide +kernel⟩
theorem lk_L_19 : LkV RL 19 RX7 yX7_map cX7_map 3 (some .int) 2 := ⟨wd3_62, wd3_63, wd3_64, wd1_1, wd3_65, rfl, by decide, by decide, by decide +kernel⟩
theorem lk_X7_128 : LkS RX7 128 yX4_isOwn cX4_isOwn 1 (some .boolean) 1 := ⟨wd3_66, wd2_28, wd1_2, wd2_29, by decide, by decide, by decide +kernel⟩
theorem lk_X7_133 : LkV RX7 133 RX4 yX4_leads cX4_leads 5 (some .boolean) 2 := ⟨wd3_68, wd3_69, wd3_70, wd1_2, wd3_71, rfl, by decide, by decide, by decide +kernel⟩
theorem lk_X7_137 : LkV RX7 137 RX4 yX4_lead cX4_lead 3 none 2 := ⟨wd3_72, wd3_73, wd3_74, wd1_2, wd3_75, rfl, by decide, by decide, by decide +kernel⟩
theorem lk_L_22 : LkV RL 22 RX7 yX7_content cX7_content 5 (some .int) 3 := ⟨wd3_79, wd3_80, wd3_81, wd1_1, wd3_82, rfl, by decide, by decide, by decide +kernel⟩
theorem lk_X7_141 : LkS RX7 141 yX7_needCode cX7_needCode 2 (some .int) 2 := ⟨wd3_83, wd3_84, wd1_1, wd3_85, by decide, by decide, by decide +kernel⟩
theorem lk_X7_148 : LkV RX7 148 RX7 yX7_keepRepeat cX7_keepRepeat 3 none 2 := ⟨wd3_87, wd3_89, wd0_20, wd1_1, wd3_90, rfl, by decide, by decide, by decide +kernel⟩
theorem lk_X7_156 : LkV RX7 156 RX6 yX6_addPart cX6_addPart 3 none 2 := ⟨wd3_92, wd3_93, wd3_94, wd1_4, wd3_95, rfl, by decide, by decide, by decide +kernel⟩
theorem lk_L_26 : LkV RL 26 RX7 yX7_shows cX7_shows 3 (some .int) 2 := ⟨wd3_99, wd3_100, wd3_101, wd1_1, wd3_102, rfl, by decide, by decide, by decide +kernel⟩
theorem lk_X7_159 : LkV RX7 159 RX3 yX3_show cX3_show 5 (some .int) 2 := ⟨wd3_103, wd3_104, wd3_105, wd1_6, wd3_106, rfl, by decide, by decide, by decide +kernel⟩
theorem lk_L_29 : LkV RL 29 RX7 yX7_at cX7_at 4 (some .int) 2 := ⟨wd3_111, wd3_112, wd3_113, wd1_1, wd3_114, rfl, by decide, by decide, by decide +kernel⟩
theorem lk_X7_166 : LkS RX7 166 yX7_needWhat cX7_needWhat 1 none 1 := ⟨wd3_115, wd3_116, wd1_1, wd3_117, by decide, by decide, by decide +kernel⟩
theorem lk_L_34 : LkV RL 34 RX7 yX7_parent cX7_parent 3 (some .int) 2 := ⟨wd3_138, wd3_139, wd3_140, wd1_1, wd3_141, rfl, by decide, by decide, by decide +kernel⟩
theorem lk_L_37 : LkV RL 37 RX7 yX7_fault cX7_fault 3 (some .int) 2 := ⟨wd3_145, wd3_146, wd3_147, wd1_1, wd3_148, rfl, by decide, by decide, by decide +kernel⟩
theorem lk_L_40 : LkV RL 40 RX7 yX7_heading cX7_heading 4 (some .int) 2 := ⟨wd3_153, wd3_154, wd3_155, wd1_1, wd3_156, rfl, by decide, by decide, by decide +kernel⟩
theorem lk_L_43 : LkV RL 43 RX7 yX7_words cX7_words 4 (some .int) 2 := ⟨wd3_161, wd3_162, wd3_163, wd1_1, wd3_164, rfl, by decide, by decide, by decide +kernel⟩
theorem lk_L_47 : LkV RL 47 RX7 yX7_span cX7_span 5 (some .int) 3 := ⟨wd3_168, wd3_169, wd3_170, wd1_1, wd3_171, rfl, by decide, by decide, by decide +kernel⟩
theorem lk_L_50 : LkV RL 50 RX7 yX7_outline cX7_outline 3 (some .int) 2 := ⟨wd3_176, wd3_177, wd3_178, wd1_1, wd3_179, rfl, by decide, by decide, by decide +kernel⟩
theorem lk_L_53 : LkV RL 53 RX7 yX7_untagged cX7_untagged 2 (some .int) 1 := ⟨wd3_184, wd3_185, wd3_186, wd1_1, wd3_187, rfl, by decide, by decide, by decide +kernel⟩
theorem lk_L_67 : LkV RL 67 RX8 yX8_thrown cX8_thrown 1 (some .int) 0 := ⟨wd4_46, wd4_47, wd4_48, wd1_10, wd4_49, rfl, by decide, by decide, by decide +kernel⟩
theorem lk_L_66 : LkV RL 66 RX8 yX8_element cX8_element 3 (some .int) 2 := ⟨wd4_50, wd4_51, wd4_52, wd1_10, wd4_53, rfl, by decide, by decide, by decide +kernel⟩
theorem lk_X8_81 : LkV RX8 81 RX8 yX8_isElement cX8_isElement 2 (some .boolean) 1 := ⟨wd4_54, wd4_56, wd0_21, wd1_10, wd4_57, rfl, by decide, by decide, by decide +kernel⟩
theorem lk_X8_85 : LkS RX8 85 yX8_in cX8_in 3 (some .boolean) 3 := ⟨wd4_58, wd4_59, wd1_10, wd4_60, by decide, by decide, by decide +kernel⟩
theorem lk_L_73 : LkV RL 73 RX8 yX8_map cX8_map 3 (some .int) 2 := ⟨wd4_61, wd4_62, wd4_63, wd1_10, wd4_64, rfl, by decide, by decide, by decide +kernel⟩
theorem lk_X8_92 : LkV RX8 92 RX8 yX8_leadsTo cX8_leadsTo 5 (some .boolean) 2 := ⟨wd4_65, wd4_67, wd0_22, wd1_10, wd4_68, rfl, by decide, by decide, by decide +kernel⟩
theorem lk_L_77 : LkV RL 77 RX8 yX8_content cX8_content 5 (some .int) 3 := ⟨wd4_69, wd4_70, wd4_71, wd1_10, wd4_72, rfl, by decide, by decide, by decide +kernel⟩
theorem lk_X8_96 : LkS RX8 96 yX8_isPart cX8_isPart 2 (some .boolean) 2 := ⟨wd4_73, wd4_74, wd1_10, wd4_75, by decide, by decide, by decide +kernel⟩
theorem lk_X8_99 : LkV RX8 99 RX8 yX8_ownerOf cX8_ownerOf 4 (some .int) 1 := ⟨wd4_76, wd4_78, wd0_23, wd1_10, wd4_79, rfl, by decide, by decide, by decide +kernel⟩
theorem lk_L_80 : LkV RL 80 RX8 yX8_shows cX8_shows 4 (some .int) 2 := ⟨wd4_80, wd4_81, wd4_82, wd1_10, wd4_83, rfl, by decide, by decide, by decide +kernel⟩
theorem lk_X8_112 : LkV RX8 112 RX8 yX8_placeOf cX8_placeOf 5 (some .int) 1 := ⟨wd4_84, wd4_86, wd0_24, wd1_10, wd4_87, rfl, by decide, by decide, by decide +kernel⟩
theorem lk_L_84 : LkV RL 84 RX8 yX8_walk cX8_walk 1 (some .int) 0 := ⟨wd4_88, wd4_89, wd4_90, wd1_10, wd4_91, rfl, by decide, by decide, by decide +kernel⟩
theorem lk_X8_135 : LkV RX8 135 RX8 yX8_go cX8_go 6 none 0 := ⟨wd4_92, wd4_94, wd0_25, wd1_10, wd4_95, rfl, by decide, by decide, by decide +kernel⟩
theorem lk_X8_121 : LkV RX8 121 RX8 yX8_meet cX8_meet 3 none 2 := ⟨wd4_96, wd4_98, wd0_26, wd1_10, wd4_99, rfl, by decide, by decide, by decide +kernel⟩
theorem lk_X8_125 : LkV RX8 125 RX8 yX8_nextKid cX8_nextKid 4 (some .int) 2 := ⟨wd4_100, wd4_102, wd0_27, wd1_10, wd4_103, rfl, by decide, by decide, by decide +kernel⟩
theorem lk_X8_129 : LkV RX8 129 RX8 yX8_is cX8_is 3 (some .boolean) 2 := ⟨wd4_104, wd4_106, wd0_28, wd1_10, wd4_107, rfl, by decide, by decide, by decide +kernel⟩
theorem lk_X8_115 : LkV RX8 115 RX8 yX8_standardOf cX8_standardOf 3 (some .int) 1 := ⟨wd4_108, wd4_110, wd0_29, wd1_10, wd4_111, rfl, by decide, by decide, by decide +kernel⟩
theorem lk_X8_138 : LkV RX8 138 RX8 yX8_partAt cX8_partAt 5 (some .int) 1 := ⟨wd4_112, wd4_114, wd0_30, wd1_10, wd4_115, rfl, by decide, by decide, by decide +kernel⟩
theorem lk_L_87 : LkV RL 87 RX8 yX8_at cX8_at 5 (some .int) 2 := ⟨wd4_116, wd4_117, wd4_118, wd1_10, wd4_119, rfl, by decide, by decide, by decide +kernel⟩
theorem lk_L_90 : LkV RL 90 RX8 yX8_parent cX8_parent 3 (some .int) 2 := ⟨wd4_120, wd4_121, wd4_122, wd1_10, wd4_123, rfl, by decide, by decide, by decide +kernel⟩
theorem lk_L_94 : LkV RL 94 RX8 yX8_check cX8_check 3 (some .int) 0 := ⟨wd4_124, wd4_125, wd4_126, wd1_10, wd4_127, rfl, by decide, by decide, by decide +kernel⟩
theorem lk_X8_167 : LkV RX8 167 RX8 yX8_addJumps cX8_addJumps 4 none 0 := ⟨wd4_128, wd4_130, wd0_31, wd1_10, wd4_131, rfl, by decide, by decide, by decide +kernel⟩
theorem lk_X8_163 : LkV RX8 163 RX8 yX8_add cX8_add 4 none 3 := ⟨wd4_132, wd4_134, wd0_32, wd1_10, wd4_135, rfl, by decide, by decide, by decide +kernel⟩
theorem lk_X8_170 : LkV RX8 170 RX8 yX8_hasFault cX8_hasFault 3 (some .boolean) 2 := ⟨wd4_136, wd4_138, wd0_33, wd1_10, wd4_139, rfl, by decide, by decide, by decide +kernel⟩
theorem lk_X8_157 : LkV RX8 157 RX8 yX8_isPlaced cX8_isPlaced 6 (some .boolean) 1 := ⟨wd4_140, wd4_142, wd0_34, wd1_10, wd4_143, rfl, by decide, by decide, by decide +kernel⟩
theorem lk_X8_144 : LkV RX8 144 RX8 yX8_parentOf cX8_parentOf 4 (some .int) 1 := ⟨wd4_144, wd4_146, wd0_35, wd1_10, wd4_147, rfl, by decide, by decide, by decide +kernel⟩
theorem lk_X8_147 : LkS RX8 147 yX8_suits cX8_suits 3 (some .boolean) 3 := ⟨wd4_148, wd4_149, wd1_10, wd4_150, by decide, by decide, by decide +kernel⟩
theorem lk_X8_151 : LkV RX8 151 RX8 yX8_isCell cX8_isCell 2 (some .boolean) 1 := ⟨wd4_151, wd4_153, wd0_36, wd1_10, wd4_154, rfl, by decide, by decide, by decide +kernel⟩
theorem lk_X8_160 : LkV RX8 160 RX8 yX8_isUneven cX8_isUneven 9 (some .boolean) 1 := ⟨wd4_155, wd4_157, wd0_37, wd1_10, wd4_158, rfl, by decide, by decide, by decide +kernel⟩
theorem lk_X8_154 : LkV RX8 154 RX8 yX8_lay cX8_lay 8 (some .boolean) 2 := ⟨wd4_159, wd4_161, wd0_38, wd1_10, wd4_162, rfl, by decide, by decide, by decide +kernel⟩
theorem lk_X8_173 : LkV RX8 173 RX8 yX8_countUntagged cX8_countUntagged 3 (some .int) 0 := ⟨wd4_163, wd4_165, wd0_39, wd1_10, wd4_166, rfl, by decide, by decide, by decide +kernel⟩
theorem lk_X8_177 : LkV RX8 177 RX8 yX8_untaggedAt cX8_untaggedAt 6 (some .int) 1 := ⟨wd4_167, wd4_169, wd0_40, wd1_10, wd4_170, rfl, by decide, by decide, by decide +kernel⟩
theorem lk_X8_180 : LkV RX8 180 RX8 yX8_addOrder cX8_addOrder 6 none 0 := ⟨wd4_171, wd4_173, wd0_41, wd1_10, wd4_174, rfl, by decide, by decide, by decide +kernel⟩
theorem lk_L_97 : LkV RL 97 RX8 yX8_fault cX8_fault 3 (some .int) 2 := ⟨wd4_175, wd4_176, wd4_177, wd1_10, wd4_178, rfl, by decide, by decide, by decide +kernel⟩
theorem lk_L_100 : LkV RL 100 RX8 yX8_heading cX8_heading 4 (some .int) 2 := ⟨wd4_179, wd4_180, wd4_181, wd1_10, wd4_182, rfl, by decide, by decide, by decide +kernel⟩
theorem lk_L_104 : LkV RL 104 RX8 yX8_words cX8_words 4 (some .int) 2 := ⟨wd4_183, wd4_184, wd4_185, wd1_10, wd4_186, rfl, by decide, by decide, by decide +kernel⟩
theorem lk_L_107 : LkV RL 107 RX8 yX8_span cX8_span 5 (some .int) 3 := ⟨wd4_187, wd4_188, wd4_189, wd1_10, wd4_190, rfl, by decide, by decide, by decide +kernel⟩
theorem lk_L_110 : LkV RL 110 RX8 yX8_outline cX8_outline 3 (some .int) 2 := ⟨wd4_191, wd4_192, wd4_193, wd1_10, wd4_194, rfl, by decide, by decide, by decide +kernel⟩
theorem lk_L_114 : LkV RL 114 RX8 yX8_untagged cX8_untagged 3 (some .int) 1 := ⟨wd4_195, wd4_196, wd4_197, wd1_10, wd4_198, rfl, by decide, by decide, by decide +kernel⟩
end FD
end
section
/-! ===== 'throw new E("text")' where E's constructor hands its text on by any entry of its own pool (the library's row knows the entry 7 alone; NoSuchElementException has 13) ===== -/
def vy_at (own : String) (ic : Nat) (X sup : String) (ix : Nat) (bts : ByteArray) (names : List String) : List Cond :=
  Bundle.throwableAtoms ++ (Bundle.throwableSAtoms ++ (Bundle.passSAtoms X sup ix bts ++ (Bundle.chainSAtoms sup names ++
  ([.methodLink own ic (Bundle.initS X), .instantiable X 6, .selects X Bundle.tFill0 Bundle.tFill0, .selects X Bundle.tFill Bundle.tFill,
    .lays X Bundle.tN "cause" "Ljava/lang/Throwable;", .lays X Bundle.tN "stackTrace" Bundle.steD, .lays X Bundle.tN "suppressedExceptions" Bundle.listD, .lays X Bundle.tN "detailMessage" "Ljava/lang/String;",
    .isRef (.static Bundle.tN "UNASSIGNED_STACK" Bundle.steD), .isRef (.static Bundle.tN "SUPPRESSED_SENTINEL" Bundle.listD),
    .fieldLink Bundle.tN 198 Bundle.tN "backtrace" "Ljava/lang/Object;", .lays Bundle.tN Bundle.tN "backtrace" "Ljava/lang/Object;", .lays X Bundle.tN "backtrace" "Ljava/lang/Object;"] : List Cond))))
def vy_B (bts : ByteArray) (ix : Nat) : Prop := decode bts 0 = .ok (.aload_n 0, 1) ∧ decode bts 1 = .ok (.aload_n 1, 1) ∧ decode bts 2 = .ok (.invokespecial ix, 3) ∧ decode bts 5 = .ok (.return_, 1)
set_option maxHeartbeats 4000000 in
theorem vy_ctor {p : Program} {l : Launch} {e : Env} {R : Room} {s : State} {m : MethodId} {args : Array Value} {below : List Frame} {meth : Method} {c : Code} {W9 : State} {cells slots : Nat}
    (X : Stand p l e R s m args below meth c W9 [] cells slots) (hexec : p.tables.exec = Jvm.exec) (htr : e.platform.stackTraces = false) {own cls sup : String} {names : List String} {ic ix : Nat} {bts : ByteArray} (hB : vy_B bts ix)
    (hown : s.vm.findClass own = some m.cls) (hcls : Bundle.fit cls = true) (hsup : Bundle.fit sup = true) (hnames : ∀ n ∈ names, Bundle.fit n = true) (h : ∀ a ∈ vy_at own ic cls sup ix bts names, a.before args s = true)
    {a : Addr} {cX : ClassId} {kX : Class} (hfX : s.vm.findClass cls = some cX) (hkX : s.vm.classes[cX]? = some kX) (hcell : W9.heap[a]? = some (freshCell cX kX)) (hnew : s.heap.size ≤ a) {msg : Value} (hmsg : msg.isRef = true)
    {g : JFrame} (hg : g.method = m) (hsize : g.locals.size = c.maxLocals) (hlocked : g.locked = none) (hentered : g.entered = []) {rest : List Value} (hstack : g.stack = msg :: .ref a :: .ref a :: rest)
    (hd6 : decode c.code g.pc = .ok (.invokespecial ic, 3)) (hd9 : decode c.code (g.pc + 3) = .ok (.athrow, 1)) (hout : ∀ x ∈ c.exceptionTable.toList, covers x (g.pc + 3) = false)
    (hRf : names.length + 4 < R.frames) (hRl : 2 * g.monitorRoom + ((Value.ref a :: rest).map fun v => v.category).sum + (13 * (names.length + 2) + 42) ≤ R.locals) (hlocks : meth.locks = false) :
    ∃ U : State, Steps p.tables e below (W9.setTop g) U ∧ U.status = .running ∧ Ended U below (.threw a) ∧ s.WarmedH U.vm ∧ s.sameButNew ({ U with vm := s.vm } : State) [] cells slots ∧ ∃ ce : Cell, U.heap[a]? = some ce ∧ ce.vm = .none ∧ s.vm.findClass cls = some ce.cls := by
  have hpl : e.platform.magicAccessors = ({} : Platform).magicAccessors := by rw [X.admits.platform]
  have hA : ∀ x, x ∈ vy_at own ic cls sup ix bts names → x.holds args s none s [] = true := fun x hx => h x hx
  have hpass : ∀ x ∈ Bundle.passSAtoms cls sup ix bts, x.before args s = true := fun x hx => h x (by simp only [vy_at, List.mem_append]; exact Or.inr (Or.inr (Or.inl hx)))
  -- the tables of Throwable, of its constructor with a text, and the constructors on the way
  obtain ⟨T, Z0, L, -, Y⟩ := ThrowableC.of_atoms (args := args) (by rw [X.admits.platform]) (by rw [X.admits.platform]) hpl (fun x hx => h x (by simp only [vy_at, List.mem_append]; exact Or.inl hx))
  obtain ⟨Z, M, LZ, LM, hZ⟩ := Init0T.ofS_atoms (args := args) hpl L Y (fun x hx => h x (by simp only [vy_at, List.mem_append]; exact Or.inr (Or.inl hx)))
  obtain ⟨P1, L1, hm1, hs1⟩ := PassC.ofS_atoms (args := args) (s := s) hpl (X := cls) (Y := sup) (Bundle.fit_spec hcls).1 (Bundle.fit_spec hsup).2 hB.1 hB.2.1 hB.2.2.1 hB.2.2.2 hpass
  obtain ⟨P2, Ps, hlen, L2, hLs, hm2, hk2, hk⟩ := Bundle.chainS (args := args) hpl hZ names sup hsup hnames (fun x hx => h x (by simp only [vy_at, List.mem_append]; exact Or.inr (Or.inr (Or.inr (Or.inl hx)))))
  have hk1 : P1.sup = P2.m := Option.some.inj (hs1.symm.trans hm2)
  have hPs : ∀ P ∈ P1 :: P2 :: Ps, P.LinksS e.platform s := by
    intro P hP
    rcases List.mem_cons.mp hP with rfl | hP
    · exact L1
    · rcases List.mem_cons.mp hP with rfl | hP
      · exact L2
      · exact hLs P hP
  have hfound : s.vm.findClass cls = some P1.m.cls := findClass_of_methodNamed hm1
  cases Option.some.inj (hfX.symm.trans hfound)
  obtain ⟨c1, k1, hc1, hck, hord, -, -, hn6⟩ := Cond.instantiable_spec (hA (.instantiable cls 6) (by simp [vy_at]))
  cases Option.some.inj (hc1.symm.trans hfound)
  cases Option.some.inj (hkX.symm.trans hck)
  -- which methods the object's class selects
  have hsel : ∀ {y : MethodName} {t : MethodId}, s.methodNamed? y = some t → (y.cls ≠ "java/lang/invoke/MethodHandle" ∧ y.cls ≠ "java/lang/invoke/VarHandle") → (Cond.selects cls y y).holds args s none s [] = true → selectMethod e.platform s.vm P1.m.cls t = .method t := by
    intro y t hy hnot hs
    obtain ⟨c2, r2, m2, q1, q2, q3, q4, -⟩ := Cond.selects_spec hs
    cases Option.some.inj (q1.symm.trans hfound)
    cases Option.some.inj (q2.symm.trans (State.methodFound?_of_named hy hnot))
    cases Option.some.inj (q3.symm.trans hy)
    rw [Launch.admits_selectMethod X.admits]; exact q4
  have hsel0 := hsel Y.fill0 (by decide) (hA (.selects cls Bundle.tFill0 Bundle.tFill0) (by simp [vy_at]))
  have hselF := hsel Y.fill (by decide) (hA (.selects cls Bundle.tFill Bundle.tFill) (by simp [vy_at]))
  -- the two statics, in the heap as it is now
  obtain ⟨S0, hS0, hiss⟩ := Y.statics
  obtain ⟨u0, hu0⟩ := Cond.staticRefV Y.unassigned L.unassignedStatic L.statics hS0 hiss (hA (.isRef (.static Bundle.tN "UNASSIGNED_STACK" Bundle.steD)) (by simp [vy_at]))
  obtain ⟨sen, hsen⟩ := Cond.staticRefV Y.sentinel L.sentinelStatic L.statics hS0 hiss (hA (.isRef (.static Bundle.tN "SUPPRESSED_SENTINEL" Bundle.listD)) (by simp [vy_at]))
  obtain ⟨S1, hS1, heS, -, hkeep⟩ := X.same.2.2.2.2.2 T.aS S0 hS0
  have hS1' : W9.heap[T.aS]? = some S1 := hS1
  have hknS : S1.vm ≠ .unknown := by
    intro hu
    rw [heS] at hu
    rw [show S0.vm = .unknown from hu] at hiss
    cases hiss
  have hneS : T.aS ≠ a := Nat.ne_of_lt (Nat.lt_of_lt_of_le (Array.getElem?_eq_some_iff.mp hS0).1 hnew)
  -- where the object's fields lie
  obtain ⟨ciB, iB, fB, hkB, hgB, haB, hsB, -, hnB, htB, hffB⟩ := Cond.ownField (t := .object "java/lang/Object") Y.found L.cls (by decide +kernel) (hA (.fieldLink Bundle.tN 198 Bundle.tN "backtrace" "Ljava/lang/Object;") (by simp [vy_at])) (hA (.lays Bundle.tN Bundle.tN "backtrace" "Ljava/lang/Object;") (by simp [vy_at])) e.platform hpl
  obtain ⟨iM, hffM⟩ := Y.msg
  obtain ⟨tyC, dC, hdC, hdnC⟩ := Cond.laysAt hfound hkX Y.cause (hA (.lays cls Bundle.tN "cause" "Ljava/lang/Throwable;") (by simp [vy_at]))
  obtain ⟨tyS, dS, hdS, hdnS⟩ := Cond.laysAt hfound hkX Y.stack (hA (.lays cls Bundle.tN "stackTrace" Bundle.steD) (by simp [vy_at]))
  obtain ⟨tyP, dP, hdP, hdnP⟩ := Cond.laysAt hfound hkX Y.supp (hA (.lays cls Bundle.tN "suppressedExceptions" Bundle.listD) (by simp [vy_at]))
  obtain ⟨tyM, dM, hdM, hdnM⟩ := Cond.laysAt hfound hkX hffM (hA (.lays cls Bundle.tN "detailMessage" "Ljava/lang/String;") (by simp [vy_at]))
  obtain ⟨tyB, dB, hdB, hdnB⟩ := Cond.laysAt hfound hkX hffB (hA (.lays cls Bundle.tN "backtrace" "Ljava/lang/Object;") (by simp [vy_at]))
  have n1 := Cond.laysApart hdB hdC hdnB hdnC (by rw [hnB, Y.causeName]; decide)
  have n2 := Cond.laysApart hdB hdS hdnB hdnS (by rw [hnB, Y.stackName]; decide)
  have n3 := Cond.laysApart hdB hdP hdnB hdnP (by rw [hnB, Y.suppName]; decide)
  have hskip : SkipFacts T e.platform s (fun u => u) u0 ((preparedCellV T.toThrowableT (freshCell P1.m.cls kX) a u0 sen).withEntry W9.cur) := by
    refine ⟨{ ci198 := ciB, i198 := iB, fBack := fB }, ⟨hkB, hgB, haB, hsB⟩, ?_, fun _ _ => rfl⟩
    have h9 := fresh_default (c := P1.m.cls) tyB
    rw [htB] at h9
    simpa [preparedCellV, Cell.setSlot, Cell.withEntry, Array.getElem?_setIfInBounds, n1, n2, n3, n1.symm, n2.symm, n3.symm, defaultValue] using h9
  -- the call, the constructors, the throw
  obtain ⟨tm, _, _, _, vm1, hnC, -, -, -, -, -, -, -, hW1, st1⟩ := Steps.initColdS (tb := p.tables) (e := e) (below := below) (s := s) (U := W9) X.here hexec X.warmed hpl hown (t := Bundle.initS cls) rfl rfl (Bundle.fit_spec hcls).2
    (hA (.methodLink own ic (Bundle.initS cls)) (by simp [vy_at])) (hpass (.instanceMethod (Bundle.initS cls)) (by simp [Bundle.passSAtoms])) (bytes := bts) (maxL := 2) (hpass (.code (Bundle.initS cls) bts 2 none) (by simp [Bundle.passSAtoms]))
    (f := g) hg (a := a) (msg := msg) (rest := .ref a :: rest) hstack hd6
  cases Option.some.inj (hnC.symm.trans hm1)
  obtain ⟨vm2, X2, st2⟩ := (X.noted hW1).ctorMessageOffV hexec (g := { g with stack := .ref a :: rest }) hg hsize T L Z LZ M LM (P1 :: P2 :: Ps) hPs ⟨hk1, hk2, hk⟩ (u0 := u0) (sen := sen) (self := a) hmsg (cell := freshCell P1.m.cls kX) (cellS := S1)
    hcell (fun _ => by simp) (by simp) rfl rfl hsel0 hselF hS1' hneS hknS (by rw [hkeep _ (by simp)]; exact hu0) (by rw [hkeep _ (by simp)]; exact hsen)
    (Takes.of_laid hkX hord tyC (by rw [Y.causeType]; rfl)) (Takes.of_laid hkX hord tyS (by rw [Y.stackType]; exact fits_refV_array _ u0)) (Takes.of_laid hkX hord tyP (by rw [Y.suppType]; exact fits_refV_object _ sen))
    (Takes.of_laid hkX hord tyM (by rw [Y.msgType]; exact fits_refV_object _ ⟨msg, hmsg⟩)) Y.objLocals hskip htr [] hd6
    (by simp only [List.length_cons, hlen]; omega) (by simp only [List.length_cons, hlen]; exact hRl)
  obtain ⟨hwalk, hrun, hended, hWU, hsame⟩ := X2.athrowLeaves hexec (g := { g with stack := .ref a :: rest, pc := g.pc + 3 }) hg hlocked hentered hout (a := a) (rest := rest) rfl hd9 hlocks
  have hlt : a < ((W9.setVm vm1).setVm vm2).heap.size := (Array.getElem?_eq_some_iff.mp hcell).1
  refine ⟨_, st1 _ (fun acts => by rw [doInvoke_state]; exact st2 _ hwalk), hrun, hended, hWU, hsame.weaken (fun y hy hl9 => ?_) (Nat.le_refl _) (Nat.le_refl _), _, heapAt_setCell_self (s := (W9.setVm vm1).setVm vm2) _ hlt, rfl, hfound⟩
  have hb : y.base = a := by
    simp only [List.nil_append, List.mem_cons, List.not_mem_nil, or_false] at hy
    rcases hy with rfl | rfl | rfl | rfl | rfl <;> rfl
  rw [hb] at hl9
  exact absurd hnew (Nat.not_le.mpr hl9)
theorem vy_throwS {p : Program} {l : Launch} {e : Env} {R : Room} {s : State} {m : MethodId} {args : Array Value} {below : List Frame} {meth : Method} {c : Code} {H : Heap} {locs : List Loc} {cells slots : Nat} {free : Addr → Prop} {ls : Array Slot} {rest : List Value} {Qc : Array Value → State → Outcome → State → Prop} {XC : String → State → State → Prop} {cc : ByteArray} {pc : Nat} (hexec : p.tables.exec = Jvm.exec) (hb : c.code = cc) (hl : l.stackTraces = false) {own cls sup text : String} {ix : Nat} {bts : ByteArray} (hB : vy_B bts ix) {names : List String} {ik is ic mc ms sa : Nat} {A : Nat → Prop}
    (hown : s.vm.findClass own = some m.cls) (hcls : Bundle.fit cls = true) (hsup : Bundle.fit sup = true) (hnames : ∀ n ∈ names, Bundle.fit n = true)
    (hk : (Cond.classLink own ik cls).before args s = true) (hini : (Cond.initialized cls).before args s = true) (hstr : vk_R own is text sa s) (hat : ∀ w ∈ (vy_at own ic cls sup ix bts names).filter vx_no, w.before args s = true)
    (hgood : ∀ w ∈ Cond.classLink own ik cls :: Cond.initialized cls :: (vy_at own ic cls sup ix bts names).filter vx_no, vx_ot w = true)
    (hU : vx_Zq Bundle.tN "UNASSIGNED_STACK" Bundle.steD A s s.heap) (hN : vx_Zq Bundle.tN "SUPPRESSED_SENTINEL" Bundle.listD A s s.heap) (hS : va_S A s.heap H locs) (hsize : ls.size = c.maxLocals)
    (d0 : decode cc pc = .ok (.new ik, 3)) (d3 : decode cc (pc + 3) = .ok (.dup, 1)) (d4 : decode cc (pc + 4) = .ok (.ldc is, 2)) (d6 : decode cc (pc + 6) = .ok (.invokespecial ic, 3)) (d9 : decode cc (pc + 9) = .ok (.athrow, 1))
    (hout : ∀ x ∈ c.exceptionTable.toList, covers x (pc + 9) = false)
    (hRframes : names.length + 4 < R.frames) (hRlocals : (rest.map fun v => v.category).sum + (13 * (names.length + 2) + 43) ≤ R.locals) (hRcells : cells + 1 ≤ R.cells) (hRslots : slots + 6 ≤ R.slots) (hlocks : meth.locks = false)
    (hx : ∀ t : State, s.vm.Alike t.vm → H.size ≤ t.heap.size → (∀ q : Nat, q < H.size → t.heap[q]? = H[q]?) → XC cls s t)
    (hf : ∀ z ∈ locs, free z.base) (hc : cells + 1 ≤ mc) (hs : slots + 6 ≤ ms) :
    W p l e R s m args below meth c H locs cells slots (vx_MQ below Qc XC args s mc ms free) (F0 m pc ls rest) := by
  intro T hT X
  have htr : e.platform.stackTraces = false := (show e.platform.stackTraces = l.stackTraces by rw [X.admits.platform]).trans hl
  have Y := vx_rebase X (R' := { frames := R.frames, locals := R.locals, cells := 1, slots := 6 }) (Nat.le_refl _) (Nat.le_refl _) hRcells hRslots
  obtain ⟨s', hA⟩ : ∃ z, z = (T.setVm s.vm).setFrames (.invoking m args :: below) := ⟨_, rfl⟩
  rw [← hA] at Y
  have hvm : s'.vm = s.vm := by rw [hA]; rfl
  have hhp : s'.heap = H := by rw [hA]; exact hT
  have hW0 : s.WarmedH s'.vm := by rw [hvm]; exact State.WarmedH.refl s
  have hat' : ∀ w ∈ (vy_at own ic cls sup ix bts names).filter vx_no, w.before args s' = true := fun w hw => vx_ot_at hW0 hvm.symm (hgood w (List.mem_cons_of_mem _ (List.mem_cons_of_mem _ hw))) (hat w hw)
  have hk' : (Cond.classLink own ik cls).before args s' = true := vx_ot_at hW0 hvm.symm (hgood _ List.mem_cons_self) hk
  have hini' : (Cond.initialized cls).before args s' = true := vx_ot_at hW0 hvm.symm (hgood _ (List.mem_cons_of_mem _ List.mem_cons_self)) hini
  have hU' : vx_Zq Bundle.tN "UNASSIGNED_STACK" Bundle.steD A s' s'.heap := by rw [hhp]; exact vx_Zq.moved hW0.alike (hU.kept hS.2.1)
  have hN' : vx_Zq Bundle.tN "SUPPRESSED_SENTINEL" Bundle.listD A s' s'.heap := by rw [hhp]; exact vx_Zq.moved hW0.alike (hN.kept hS.2.1)
  have h : ∀ w ∈ vy_at own ic cls sup ix bts names, w.before args s' = true := vx_own hat' (vx_isRefq hU'.1) (vx_isRefq hN'.1) hU'.2.word hN'.2.word
  have hown' : s'.vm.findClass own = some m.cls := by rw [hvm]; exact hown
  have hins : (Cond.instantiable cls 6).before args s' = true := h _ (by simp [vy_at])
  obtain ⟨vm₁, cX, kX, hfX, hkX, -, -, X₁, st1⟩ := Y.newCold hexec (own := own) (C := cls) (index := ik) (n := 6) hown' hk' hins hini'
    (g := F0 m pc ls rest) rfl (by rw [hb]; exact d0) (Nat.le_refl _) (Nat.le_refl _)
  generalize hT1 : (T.setVm vm₁).pushCell { cls := cX, slots := kX.instanceTypes.map defaultValue, vm := .none } = T1 at X₁ st1
  have hcat : (Value.ref T.heap.size).category = 1 := rfl
  have hcellA : T1.heap[T.heap.size]? = some (freshCell cX kX) := by rw [← hT1]; exact State.heap_pushCell_size _ _
  have d3' : decode c.code (pc + 3) = .ok (.dup, 1) := by rw [hb]; exact d3
  have d4' : decode c.code (pc + 4) = .ok (.ldc is, 2) := by rw [hb]; exact d4
  have hstr' : vk_R own is text sa s' := vk_R.warm hW0 hstr
  obtain ⟨U, hsteps, hrun, hend, hW, hsame, ce, hce, hOv, hOc⟩ := vy_ctor X₁ hexec htr hB (own := own) (cls := cls) (names := names) (ic := ic) hown' hcls hsup hnames h hfX hkX hcellA (by rw [hhp, hT]; exact Nat.le_refl _) (msg := .ref sa) rfl
    (g := { method := m, pc := pc + 6, locals := ls, stack := .ref sa :: .ref T.heap.size :: .ref T.heap.size :: rest, locked := none }) rfl hsize rfl rfl (rest := rest) rfl
    (by rw [hb]; exact d6) (by rw [hb]; exact d9) hout hRframes (by simp only [List.map_cons, List.sum_cons, hcat]; omega) hlocks
  obtain ⟨f1, f2⟩ := vx_frame hsame
  rw [hhp] at f1 f2
  have hWs : s.WarmedH U.vm := State.WarmedH.trans hW0 hW
  have hcl : s.vm.findClass cls = some ce.cls := by
    have h9 := hOc
    rw [hvm] at h9
    exact h9
  have hall : s.sameButNew ({ U with vm := s.vm } : State) locs mc ms := by
    subst hA
    obtain ⟨e1, e2⟩ := hsame
    rw [State.setFrames_setFrames] at e1
    have h2 : (T.setVm s.vm).sameButNew ({ U with vm := s.vm } : State) [] (0 + 1) (0 + 6) := ⟨e1, e2⟩
    have h3 := X.same.trans h2
    rw [List.append_nil] at h3
    exact h3.mono hc hs
  refine ⟨U, ?_, .threw T.heap.size, hrun, hend, Or.inr ⟨T.heap.size, rfl, cls, ce, locs, hx U hWs.alike f1 (fun q hq => f2 q hq (fun z hz => nomatch hz)), hce, hOv, hcl, hWs, hall, hf⟩⟩
  refine st1 _ ?_
  show Steps p.tables e below (T1.setTop { method := m, pc := pc + 3, locals := ls, stack := .ref T.heap.size :: rest, locked := none }) _
  jvm_step X₁.here [X₁.here.top, hexec, d3', Value.category]
  exact X₁.ldcString hexec (own := own) (text := text) (index := is) (a := sa) hown' hstr'.1 hstr'.2
    (g := { method := m, pc := pc + 4, locals := ls, stack := .ref T.heap.size :: .ref T.heap.size :: rest, locked := none }) rfl d4' _ hsteps
/-! ===== bodies that may throw ===== -/
def RtT (z : Cz) (cc : ByteArray) (nL : Nat) (res : Out) : Prop := ∀ (pc : Nat) (lv : List (Nat × Value)) (v : Int32) (σ : Sg), decode cc pc = .ok (.ireturn, 1) → (.inr v, σ) = res → V z 0 nL pc lv [.int v] σ
def RtU (z : Cz) (cc : ByteArray) (nL : Nat) (res : Out) : Prop := ∀ (pc : Nat) (lv : List (Nat × Value)) (σ : Sg), decode cc pc = .ok (.return_, 1) → (.inr 0, σ) = res → V z 0 nL pc lv [] σ
def ThT (z : Cz) (res : Out) : Prop := ∀ (E : String) (σ' : Sg), res = (.inl E, σ') → 1 ≤ (zR z).cells ∧ 6 ≤ (zR z).slots ∧ z0 z = 0 ∧ z1 z = 0 ∧ (zc z).exceptionTable.toList = [] ∧ zQ z = vx_MQ (zb z) (fun _ _ _ _ => False) (Xe (zD z) (zy z) (zA z) (zs z).heap.size E σ') (za z) (zs z) 1 6 (Ar (zA z) (zs z).heap.size)
abbrev exN : List String := ["java/lang/Exception"]
def Tw (ik ic : Nat) (cls : String) (ix : Nat) (bts : ByteArray) : Prop := Bundle.fit cls = true ∧ Cond.classLink RX7 ik cls ∈ ALL ∧ Cond.initialized cls ∈ ALL ∧ (∀ w ∈ (vy_at RX7 ic cls "java/lang/RuntimeException" ix bts exN).filter vx_no, (w ∈ ALL ∨ w ∈ Nst) ∧ vx_ot w = true) ∧ vy_B bts ix
section TH
variable {z : Cz} {k nL pc : Nat} {lv : List (Nat × Value)} {rest : List Value} {σ : Sg} {cc : ByteArray} {own : String} {res : Out}
theorem r_tret (Rt : RtT z cc nL res) {v : Int32} (hdg : decode cc pc = .ok (.ireturn, 1)) (h : some ((.inr v, σ) : Out) = some res) : V z 0 nL pc lv [.int v] σ := Rt pc lv v σ hdg (Option.some.inj h)
theorem r_uret (Rt : RtU z cc nL res) (hdg : decode cc pc = .ok (.return_, 1)) (h : some ((.inr 0, σ) : Out) = some res) : V z 0 nL pc lv [] σ := Rt pc lv σ hdg (Option.some.inj h)
theorem exN_fit : ∀ n ∈ exN, Bundle.fit n = true := by decide +kernel
theorem exR_fit : Bundle.fit "java/lang/RuntimeException" = true := by decide +kernel
theorem r_throw (X : Cx z cc nL RX7) (Th : ThT z res) {fr lo : Nat} (hR : fr ≤ (zR z).frames ∧ lo ≤ (zR z).locals) (hf : 6 ≤ fr) (hlo : (rest.map fun v => v.category).sum + 82 ≤ lo) {ik is ic : Nat} {ix : Nat} {bts : ByteArray} {cls text : String} (hs9 : (RX7, is, text) ∈ Strs) (Wd : Tw ik ic cls ix bts) (h : some ((.inl cls, σ) : Out) = some res)
    (d0 : decode cc pc = .ok (.new ik, 3)) (d3 : decode cc (pc + 3) = .ok (.dup, 1)) (d4 : decode cc (pc + 4) = .ok (.ldc is, 2)) (d6 : decode cc (pc + 6) = .ok (.invokespecial ic, 3)) (d9 : decode cc (pc + 9) = .ok (.athrow, 1)) : V z 0 nL pc lv rest σ := by
  intro H locs ls hc hP hD hS hl
  obtain ⟨h1, h2, h3, h4, h5, h6⟩ := Th cls σ (Option.some.inj h).symm
  have key := vy_throwS (l := zl z) (p := zp z) (e := ze z) (R := zR z) (s := zs z) (m := zm z) (args := za z) (below := zb z) (meth := zh z) (c := zc z) (H := H) (locs := locs) (cells := z0 z + 0) (slots := z1 z + 6 * 0) (ls := ls) (rest := rest) (Qc := fun _ _ _ _ => False) (XC := Xe (zD z) (zy z) (zA z) (zs z).heap.size cls σ) (free := Ar (zA z) (zs z).heap.size) (mc := 1) (ms := 6)
    X.1 X.2.1 X.2.2.2.2.2.2.2.1 Wd.2.2.2.2 (own := RX7) (cls := cls) (sup := "java/lang/RuntimeException") (text := text) (names := exN) X.2.2.2.1 Wd.1 exR_fit exN_fit (X.2.2.2.2.1 _ Wd.2.1) (X.2.2.2.2.1 _ Wd.2.2.1) (X.2.2.2.2.2.2.1.2.1 _ hs9)
    (fun w hw => ((Wd.2.2.2.1 w hw).1.elim (fun g => X.2.2.2.2.1 w g) (fun g => va_Nw.use (nst_on (Nst_k w g)) (X.2.2.2.2.2.2.1.1 w g))))
    (fun w hw => by
      rcases List.mem_cons.mp hw with rfl | hw
      · rfl
      · rcases List.mem_cons.mp hw with rfl | hw
        · rfl
        · exact (Wd.2.2.2.1 w hw).2)
    X.2.2.2.2.2.2.1.2.2.2.1 X.2.2.2.2.2.2.1.2.2.2.2 hS (hl.1.trans X.2.2.1.symm) d0 d3 d4 d6 d9 (by rw [h5]; intro x hx; exact nomatch hx)
    (Nat.lt_of_lt_of_le (by decide : 1 + 4 < 6) (Nat.le_trans hf hR.1)) (Nat.le_trans hlo hR.2) (by rw [h3]; exact h1) (by rw [h4]; exact h2) X.2.2.2.2.2.2.2.2
    (fun t hvm hsz hsame => ⟨(), trivial, ⟨rfl, hP.kept (fun i q hq => hsame _ (vx_lt hP hq))⟩, ⟨Nat.le_trans hS.1 hsz, fun q hq hA => by rw [hsame q (Nat.lt_of_lt_of_le hq hS.1)]; exact hS.2.1 q hq hA⟩⟩) hS.2.2 (by rw [h3]; exact Nat.le_refl _) (by rw [h4]; exact Nat.le_refl _)
  rw [h6]
  exact key
/-- a thrown object goes on to the caller -/
theorem vt_out (X : Cx z cc nL own) (Th : ThT z res) {E : String} {σ' : Sg} (hres : res = (.inl E, σ')) {H1 : Heap} {locs1 : List Loc} {ls : Array Slot} {ce : Cell} {q9 : Addr} (hP : va_P (zD z) vwCl (wW (zy z) (zA z) σ') H1) (hS : va_S (Ar (zA z) (zs z).heap.size) (zs z).heap H1 locs1) (hce : H1[q9]? = some ce) (hcv : ce.vm = .none) (hcl : (zs z).vm.findClass E = some ce.cls) :
    vx_W (zp z) (zl z) (ze z) (zR z) (zs z) (zm z) (za z) (zb z) (zh z) (zc z) H1 locs1 (z0 z + 0 + 1) (z1 z + 6 * 0 + 6) (zQ z) (F0 (zm z) pc ls rest) q9 := by
  obtain ⟨h1, h2, h3, h4, h5, h6⟩ := Th E σ' hres
  rw [h6]
  exact vx_out (by rw [h5]; intro x hx; exact nomatch hx) X.2.2.2.2.2.2.2.2 hce hcv hcl (fun t ht hvm => ⟨(), trivial, ⟨rfl, by show va_P (zD z) vwCl (wW (zy z) (zA z) σ') t.heap; rw [ht]; exact hP⟩, hS.F ht⟩) hS.2.2 (by rw [h3]; exact Nat.le_refl _) (by rw [h4]; exact Nat.le_refl _)
theorem va_Qi_false {S : Type} {post : Int32 → S → Prop} {B : S → State → Prop} {A1 : Nat → Prop} {a : Array Value} {p : Program} {l : Launch} {e : Env} {R : Room} {s : State} {m : MethodId} {args : Array Value} {below : List Frame} {meth : Method} {c : Code} {H : Heap} {locs : List Loc} {cells slots mc ms : Nat} {g : JFrame} {rest : List Value} {XC : String → State → State → Prop} {free : Addr → Prop} (h : vx_Run p l e R s m args below meth c H locs cells slots mc ms g rest (fun _ _ _ => False) XC free) : vx_Run p l e R s m args below meth c H locs cells slots mc ms g rest (va_Qi post B A1 a) XC free := by
  intro T hT X
  rcases h T hT X with ⟨v, st₀, t, T', L, h0, X', hL, e1, e2, hq, st⟩ | hx
  · exact hq.elim
  · exact Or.inr hx
variable {index : Nat} {C : String} {y : MethodName} {code : ByteArray} {maxL : Nat} {ret : Option FieldType} {n fr lo : Nat} {As : List Value} {x : Option Out} {K : Int32 → Sg → Option Out}
theorem r_callVt (X : Cx z cc nL own) (Th : ThT z res) (q ci : Nat) {fs : List Value} {CC : vw_C} (hq : q < 57) (he : ccW (zy z) (zA z) q (σ q) = .inr (ci, fs)) (hc9 : vwCl[ci]? = some CC) (hC : CC.1 = C) (L : LkV own index C y code maxL ret n) (hM : CtT (zl z) y code maxL ret fr lo (zD z) (zy z) (zA z) (zS z) (.ref (zA z q) :: As) σ x) (hR : fr + 1 ≤ (zR z).frames ∧ 8 + (maxL + 11) + lo ≤ (zR z).locals) (hn : As.length = n) {stk : List Value} (hst : stk = As.reverse ++ .ref (zA z q) :: rest) (hw : (rest.map fun v => v.category).sum ≤ 8)
    (hdg : decode cc pc = .ok (.invokevirtual index, 3)) (h : cT x K = some res) (kk : ∀ (r : Int32) (σ' : Sg), K r σ' = some res → V z 0 nL (pc + 3) lv (.int r :: rest) σ') : V z 0 nL pc lv stk σ := by
  rcases cT_some h with ⟨r, σ', hx, hk⟩ | ⟨E, σ', hx, hres⟩
  · exact r_callV X q ci hq he hc9 hC L (x := some (r, σ')) (fun sz r9 σ9 h9 => by cases h9; exact hM.1 sz r σ' hx) hR hn hst hw hdg (K := fun r σ => K r σ) hk kk
  · intro H locs ls hc hP hD hS hl
    subst hC
    obtain ⟨t1, t2, t3, t4, t5, t6⟩ := Th E σ' hres
    refine vx_calli (a := #[]) (A1 := Ar (zA z) H.size) (post := fun _ (_ : Unit) => False) (B := fun _ _ => True) (va_Qi_false (a := #[]) (vx_runV (As := As) (rest := rest) ⟨X.1, X.2.1, X.2.2.1, X.2.2.2.1, X.2.2.2.2.1⟩ (hM.2 H.size E σ' hx) (lk_cwV X L hR) ⟨Pm_blind, rc_at X q ci hq he hc9 hP, fun U hU hW => pm_at X _ hP hD hS U hU hW⟩ rfl hn hl.1 hst (lv_room hw) hdg ⟨by rw [t3]; exact t1, by rw [t4]; exact t2⟩)) hS (fun q _ h => Ar_mono hS.1 h) (fun q h => Ar_mono hS.1 h) (fun q _ h => Ar_mono hS.1 h) (fun E9 ce q9 u t H1 locs1 ht hvm _ hB hz1 hk1 hS1 hce hcv hcl => ?_) (fun _ _ _ _ _ _ _ hf _ _ _ _ => hf.elim)
    obtain ⟨hE9, hP1⟩ := hB
    subst hE9; subst ht
    exact vt_out X Th hres hP1 hS1 hce hcv hcl
theorem r_callVu (X : Cx z cc nL own) (Th : ThT z res) (q ci : Nat) {fs : List Value} {CC : vw_C} (hq : q < 57) (he : ccW (zy z) (zA z) q (σ q) = .inr (ci, fs)) (hc9 : vwCl[ci]? = some CC) (hC : CC.1 = C) (L : LkV own index C y code maxL none n) (hM : CtU (zl z) y code maxL fr lo (zD z) (zy z) (zA z) (zS z) (.ref (zA z q) :: As) σ x) (hR : fr + 1 ≤ (zR z).frames ∧ 8 + (maxL + 11) + lo ≤ (zR z).locals) (hn : As.length = n) {stk : List Value} (hst : stk = As.reverse ++ .ref (zA z q) :: rest) (hw : (rest.map fun v => v.category).sum ≤ 8)
    (hdg : decode cc pc = .ok (.invokevirtual index, 3)) (h : cT x K = some res) (kk : ∀ (r : Int32) (σ' : Sg), K r σ' = some res → V z 0 nL (pc + 3) lv rest σ') : V z 0 nL pc lv stk σ := by
  rcases cT_some h with ⟨r, σ', hx, hk⟩ | ⟨E, σ', hx, hres⟩
  · exact r_callVv X q ci hq he hc9 hC L (x := some (r, σ')) (fun sz r9 σ9 h9 => by cases h9; exact hM.1 sz r σ' hx) hR hn hst hw hdg (K := fun r σ => K r σ) hk kk
  · intro H locs ls hc hP hD hS hl
    subst hC
    obtain ⟨t1, t2, t3, t4, t5, t6⟩ := Th E σ' hres
    refine vx_calli (a := #[]) (A1 := Ar (zA z) H.size) (post := fun _ (_ : Unit) => False) (B := fun _ _ => True) (va_Qi_false (a := #[]) (vx_runV (As := As) (rest := rest) ⟨X.1, X.2.1, X.2.2.1, X.2.2.2.1, X.2.2.2.2.1⟩ (hM.2 H.size E σ' hx) (lk_cwV X L hR) ⟨Pm_blind, rc_at X q ci hq he hc9 hP, fun U hU hW => pm_at X _ hP hD hS U hU hW⟩ rfl hn hl.1 hst (lv_room hw) hdg ⟨by rw [t3]; exact t1, by rw [t4]; exact t2⟩)) hS (fun q _ h => Ar_mono hS.1 h) (fun q h => Ar_mono hS.1 h) (fun q _ h => Ar_mono hS.1 h) (fun E9 ce q9 u t H1 locs1 ht hvm _ hB hz1 hk1 hS1 hce hcv hcl => ?_) (fun _ _ _ _ _ _ _ hf _ _ _ _ => hf.elim)
    obtain ⟨hE9, hP1⟩ := hB
    subst hE9; subst ht
    exact vt_out X Th hres hP1 hS1 hce hcv hcl
theorem r_callSt (X : Cx z cc nL own) (Th : ThT z res) (L : LkS own index y code maxL ret n) (hM : CtT (zl z) y code maxL ret fr lo (zD z) (zy z) (zA z) (zS z) As σ x) (hR : fr + 1 ≤ (zR z).frames ∧ 8 + (maxL + 11) + lo ≤ (zR z).locals) (hn : As.length = n) {stk : List Value} (hst : stk = As.reverse ++ rest) (hw : (rest.map fun v => v.category).sum ≤ 8)
    (hdg : decode cc pc = .ok (.invokestatic index, 3)) (h : cT x K = some res) (kk : ∀ (r : Int32) (σ' : Sg), K r σ' = some res → V z 0 nL (pc + 3) lv (.int r :: rest) σ') : V z 0 nL pc lv stk σ := by
  rcases cT_some h with ⟨r, σ', hx, hk⟩ | ⟨E, σ', hx, hres⟩
  · exact r_callS X L (x := some (r, σ')) (fun sz r9 σ9 h9 => by cases h9; exact hM.1 sz r σ' hx) hR hn hst hw hdg (K := fun r σ => K r σ) hk kk
  · intro H locs ls hc hP hD hS hl
    obtain ⟨t1, t2, t3, t4, t5, t6⟩ := Th E σ' hres
    refine vx_calli (a := #[]) (A1 := Ar (zA z) H.size) (post := fun _ (_ : Unit) => False) (B := fun _ _ => True) (va_Qi_false (a := #[]) (vx_runS (As := As) (rest := rest) ⟨X.1, X.2.1, X.2.2.1, X.2.2.2.1, X.2.2.2.2.1⟩ (hM.2 H.size E σ' hx) (lk_cwS X L hR) ⟨Pm_blind, fun U hU hW => pm_at X _ hP hD hS U hU hW⟩ rfl hn hl.1 hst (lv_room hw) hdg ⟨by rw [t3]; exact t1, by rw [t4]; exact t2⟩)) hS (fun q _ h => Ar_mono hS.1 h) (fun q h => Ar_mono hS.1 h) (fun q _ h => Ar_mono hS.1 h) (fun E9 ce q9 u t H1 locs1 ht hvm _ hB hz1 hk1 hS1 hce hcv hcl => ?_) (fun _ _ _ _ _ _ _ hf _ _ _ _ => hf.elim)
    obtain ⟨hE9, hP1⟩ := hB
    subst hE9; subst ht
    exact vt_out X Th hres hP1 hS1 hce hcv hcl
theorem r_callSu (X : Cx z cc nL own) (Th : ThT z res) (L : LkS own index y code maxL none n) (hM : CtU (zl z) y code maxL fr lo (zD z) (zy z) (zA z) (zS z) As σ x) (hR : fr + 1 ≤ (zR z).frames ∧ 8 + (maxL + 11) + lo ≤ (zR z).locals) (hn : As.length = n) {stk : List Value} (hst : stk = As.reverse ++ rest) (hw : (rest.map fun v => v.category).sum ≤ 8)
    (hdg : decode cc pc = .ok (.invokestatic index, 3)) (h : cT x K = some res) (kk : ∀ (r : Int32) (σ' : Sg), K r σ' = some res → V z 0 nL (pc + 3) lv rest σ') : V z 0 nL pc lv stk σ := by
  rcases cT_some h with ⟨r, σ', hx, hk⟩ | ⟨E, σ', hx, hres⟩
  · exact r_callSv X L (x := some (r, σ')) (fun sz r9 σ9 h9 => by cases h9; exact hM.1 sz r σ' hx) hR hn hst hw hdg (K := fun r σ => K r σ) hk kk
  · intro H locs ls hc hP hD hS hl
    obtain ⟨t1, t2, t3, t4, t5, t6⟩ := Th E σ' hres
    refine vx_calli (a := #[]) (A1 := Ar (zA z) H.size) (post := fun _ (_ : Unit) => False) (B := fun _ _ => True) (va_Qi_false (a := #[]) (vx_runS (As := As) (rest := rest) ⟨X.1, X.2.1, X.2.2.1, X.2.2.2.1, X.2.2.2.2.1⟩ (hM.2 H.size E σ' hx) (lk_cwS X L hR) ⟨Pm_blind, fun U hU hW => pm_at X _ hP hD hS U hU hW⟩ rfl hn hl.1 hst (lv_room hw) hdg ⟨by rw [t3]; exact t1, by rw [t4]; exact t2⟩)) hS (fun q _ h => Ar_mono hS.1 h) (fun q h => Ar_mono hS.1 h) (fun q _ h => Ar_mono hS.1 h) (fun E9 ce q9 u t H1 locs1 ht hvm _ hB hz1 hk1 hS1 hce hcv hcl => ?_) (fun _ _ _ _ _ _ _ hf _ _ _ _ => hf.elim)
    obtain ⟨hE9, hP1⟩ := hB
    subst hE9; subst ht
    exact vt_out X Th hres hP1 hS1 hce hcv hcl
end TH
section CT
variable {l : Launch} {y : MethodName} {code : ByteArray} {maxL fr lo : Nat} {D : va_G} {cy : Nat → ClassId} {ad sa : Nat → Nat} {avs : List Value} {σ : Sg} {x : Option Out}
theorem ct_T (hl : l.stackTraces = false) (hy : plainName y.cls = true) (hn : (lg_sl avs).length ≤ maxL) (walk : ∀ (z : Cz) (res : Out), zl z = l → zD z = D → zy z = cy → zA z = ad → zS z = sa → (fr ≤ (zR z).frames ∧ lo ≤ (zR z).locals) → Cx z code maxL y.cls → RtT z code maxL res → ThT z res → x = some res → V z 0 maxL 0 (lv_args 0 avs) [] σ) : CtT l y code maxL (some .int) fr lo D cy ad sa avs σ x := by
  refine ⟨fun sz r σ' hx => ?_, fun sz E σ' hx => ?_⟩
  · refine Met.ofW (cc := code) (maxL := maxL) (ret := some .int) hy rfl ?_
    intro p e s m args below meth c s₁ B hml hv
    obtain ⟨rfl, hsz, hP, hK, hD0, hE⟩ := hv
    subst hsz
    have hts0 := atoms_spec (ws := wy y code maxL (some .int)) B.pre
    have hts : ∀ w ∈ ALL, w.before avs.toArray s = true := fun w hw => hts0 w (List.mem_cons_of_mem _ hw)
    have hown : s.vm.findClass y.cls = some m.cls := findClass_of_methodNamed B.named
    have hl9 := lv_entry avs (n := maxL) hn
    rw [lg_entry_eq]
    generalize (lg_sl avs ++ List.replicate (maxL - (lg_sl avs).length) Slot.unset).toArray = ls at hl9 ⊢
    have hD : va_D (Ar ad s.heap.size) (wW cy ad σ) := wW_D σ hD0 (fun k hk _ => wW_in hk)
    exact walk (p, l, e, rm fr lo 0 0, s, m, avs.toArray, below, meth, c, MQ below (Qi D cy ad s.heap.size r σ') avs.toArray s 0 0 (Ar ad s.heap.size), D, cy, ad, sa, 0, 0) (.inr r, σ') rfl rfl rfl rfl rfl ⟨Nat.le_refl _, Nat.le_refl _⟩
      ⟨B.exec, B.bytes, hml, hown, hts, hK, hE, hl, B.notSynchronized⟩
      (fun pc lv v τ hdg e9 H locs ls hc hP hD hS hl => by
        cases e9
        exact W.iret B.exec B.bytes B.returns (fun t ht hW => ⟨⟨_, (), rfl, rfl, by show va_P D vwCl (wW cy ad _) t.heap; rw [ht]; exact hP⟩, hS.F ht⟩) hS.2.2 hdg B.notSynchronized) (fun E9 σ9 h9 => by cases h9) hx s.heap [] ls ⟨Nat.le_refl 0, Nat.le_refl 0⟩ hP hD va_S.rf hl9
  · refine vx_ofW (cc := code) (maxL := maxL) (ret := some .int) hy rfl ?_
    intro p e s m args below meth c s₁ B hml hnx hv
    obtain ⟨rfl, hsz, hP, hK, hD0, hE⟩ := hv
    subst hsz
    have hts0 := atoms_spec (ws := wy y code maxL (some .int)) B.pre
    have hts : ∀ w ∈ ALL, w.before avs.toArray s = true := fun w hw => hts0 w (List.mem_cons_of_mem _ hw)
    have hown : s.vm.findClass y.cls = some m.cls := findClass_of_methodNamed B.named
    have hl9 := lv_entry avs (n := maxL) hn
    rw [lg_entry_eq]
    generalize (lg_sl avs ++ List.replicate (maxL - (lg_sl avs).length) Slot.unset).toArray = ls at hl9 ⊢
    have hD : va_D (Ar ad s.heap.size) (wW cy ad σ) := wW_D σ hD0 (fun k hk _ => wW_in hk)
    have hnh : c.exceptionTable.toList = [] := List.eq_nil_iff_forall_not_mem.mpr hnx
    exact walk (p, l, e, rm fr lo 1 6, s, m, avs.toArray, below, meth, c, vx_MQ below (fun _ _ _ _ => False) (Xe D cy ad s.heap.size E σ') avs.toArray s 1 6 (Ar ad s.heap.size), D, cy, ad, sa, 0, 0) (.inl E, σ') rfl rfl rfl rfl rfl ⟨Nat.le_refl _, Nat.le_refl _⟩
      ⟨B.exec, B.bytes, hml, hown, hts, hK, hE, hl, B.notSynchronized⟩
      (fun pc lv v τ hdg e9 => by cases e9) (fun E9 σ9 h9 => by cases h9; exact ⟨Nat.le_refl _, Nat.le_refl _, rfl, rfl, hnh, rfl⟩) hx s.heap [] ls ⟨Nat.zero_le _, Nat.zero_le _⟩ hP hD va_S.rf hl9
theorem ct_U (hl : l.stackTraces = false) (hy : plainName y.cls = true) (hn : (lg_sl avs).length ≤ maxL) (walk : ∀ (z : Cz) (res : Out), zl z = l → zD z = D → zy z = cy → zA z = ad → zS z = sa → (fr ≤ (zR z).frames ∧ lo ≤ (zR z).locals) → Cx z code maxL y.cls → RtU z code maxL res → ThT z res → x = some res → V z 0 maxL 0 (lv_args 0 avs) [] σ) : CtU l y code maxL fr lo D cy ad sa avs σ x := by
  refine ⟨fun sz r σ' hx => ?_, fun sz E σ' hx => ?_⟩
  · refine Met.ofW (cc := code) (maxL := maxL) (ret := none) hy rfl ?_
    intro p e s m args below meth c s₁ B hml hv
    obtain ⟨rfl, hsz, hP, hK, hD0, hE⟩ := hv
    subst hsz
    have hts0 := atoms_spec (ws := wy y code maxL none) B.pre
    have hts : ∀ w ∈ ALL, w.before avs.toArray s = true := fun w hw => hts0 w (List.mem_cons_of_mem _ hw)
    have hown : s.vm.findClass y.cls = some m.cls := findClass_of_methodNamed B.named
    have hl9 := lv_entry avs (n := maxL) hn
    rw [lg_entry_eq]
    generalize (lg_sl avs ++ List.replicate (maxL - (lg_sl avs).length) Slot.unset).toArray = ls at hl9 ⊢
    have hD : va_D (Ar ad s.heap.size) (wW cy ad σ) := wW_D σ hD0 (fun k hk _ => wW_in hk)
    exact walk (p, l, e, rm fr lo 0 0, s, m, avs.toArray, below, meth, c, MQ below (Qv D cy ad s.heap.size σ') avs.toArray s 0 0 (Ar ad s.heap.size), D, cy, ad, sa, 0, 0) (.inr r, σ') rfl rfl rfl rfl rfl ⟨Nat.le_refl _, Nat.le_refl _⟩
      ⟨B.exec, B.bytes, hml, hown, hts, hK, hE, hl, B.notSynchronized⟩
      (fun pc lv τ hdg e9 H locs ls hc hP hD hS hl => by
        cases e9
        exact W.vret B.exec B.bytes B.returns (fun t ht hW => ⟨⟨(), rfl, trivial, by show va_P D vwCl (wW cy ad _) t.heap; rw [ht]; exact hP⟩, hS.F ht⟩) hS.2.2 hdg B.notSynchronized) (fun E9 σ9 h9 => by cases h9) hx s.heap [] ls ⟨Nat.le_refl 0, Nat.le_refl 0⟩ hP hD va_S.rf hl9
  · refine vx_ofW (cc := code) (maxL := maxL) (ret := none) hy rfl ?_
    intro p e s m args below meth c s₁ B hml hnx hv
    obtain ⟨rfl, hsz, hP, hK, hD0, hE⟩ := hv
    subst hsz
    have hts0 := atoms_spec (ws := wy y code maxL none) B.pre
    have hts : ∀ w ∈ ALL, w.before avs.toArray s = true := fun w hw => hts0 w (List.mem_cons_of_mem _ hw)
    have hown : s.vm.findClass y.cls = some m.cls := findClass_of_methodNamed B.named
    have hl9 := lv_entry avs (n := maxL) hn
    rw [lg_entry_eq]
    generalize (lg_sl avs ++ List.replicate (maxL - (lg_sl avs).length) Slot.unset).toArray = ls at hl9 ⊢
    have hD : va_D (Ar ad s.heap.size) (wW cy ad σ) := wW_D σ hD0 (fun k hk _ => wW_in hk)
    have hnh : c.exceptionTable.toList = [] := List.eq_nil_iff_forall_not_mem.mpr hnx
    exact walk (p, l, e, rm fr lo 1 6, s, m, avs.toArray, below, meth, c, vx_MQ below (fun _ _ _ _ => False) (Xe D cy ad s.heap.size E σ') avs.toArray s 1 6 (Ar ad s.heap.size), D, cy, ad, sa, 0, 0) (.inl E, σ') rfl rfl rfl rfl rfl ⟨Nat.le_refl _, Nat.le_refl _⟩
      ⟨B.exec, B.bytes, hml, hown, hts, hK, hE, hl, B.notSynchronized⟩
      (fun pc lv τ hdg e9 => by cases e9) (fun E9 σ9 h9 => by cases h9; exact ⟨Nat.le_refl _, Nat.le_refl _, rfl, rfl, hnh, rfl⟩) hx s.heap [] ls ⟨Nat.zero_le _, Nat.zero_le _⟩ hP hD va_S.rf hl9
end CT
section LN
variable {z : Cz} {k nL pc : Nat} {lv : List (Nat × Value)} {rest : List Value} {σ : Sg} {cc : ByteArray} {own : String}
theorem ln_21 (X : Cx z cc nL own) (hdg : decode cc pc = .ok (.arraylength, 1)) (kk : V z k nL (pc + 1) lv (.int 480 :: rest) σ) : V z k nL pc lv (.ref (zA z 21) :: rest) σ :=
  fun H locs ls hc hP hD hS hl => va_alen X.1 X.2.1 X.2.2.2.2.2.1 hP 21 14 (wW_at _ _ _ 21 (by decide)) rfl rfl hdg (kk H locs ls hc hP hD hS hl)
theorem ln_33 (X : Cx z cc nL own) (hdg : decode cc pc = .ok (.arraylength, 1)) (kk : V z k nL (pc + 1) lv (.int 10 :: rest) σ) : V z k nL pc lv (.ref (zA z 33) :: rest) σ :=
  fun H locs ls hc hP hD hS hl => va_alen X.1 X.2.1 X.2.2.2.2.2.1 hP 33 25 (wW_at _ _ _ 33 (by decide)) rfl rfl hdg (kk H locs ls hc hP hD hS hl)
end LN
set_option maxRecDepth 100000 in
set_option maxHeartbeats 4000000 in
theorem tw_240_244 : Tw 240 244 "java/util/NoSuchElementException" 13 prog_21_method_4_code := by
  refine ⟨by decide +kernel, wd2_187, wd1_14, ?_, by decide +kernel, by decide +kernel, by decide +kernel, by decide +kernel⟩
  intro w hw
  have hno := (List.mem_filter.mp hw).2
  have hw := (List.mem_filter.mp hw).1
  simp only [vy_at, Bundle.throwableAtoms, Bundle.throwableSAtoms, Bundle.chainSAtoms, Bundle.passSAtoms, List.cons_append, List.nil_append, List.append_assoc, List.mem_cons, List.not_mem_nil, or_false] at hw
  rcases hw with rfl | rfl | rfl | rfl | rfl | rfl | rfl | rfl | rfl | rfl | rfl | rfl | rfl | rfl | rfl | rfl | rfl | rfl | rfl | rfl | rfl | rfl | rfl | rfl | rfl | rfl | rfl | rfl | rfl | rfl | rfl | rfl | rfl | rfl | rfl | rfl | rfl | rfl | rfl | rfl | rfl | rfl | rfl | rfl | rfl | rfl | rfl | rfl | rfl | rfl | rfl | rfl | rfl | rfl | rfl | rfl
  · exact ⟨Or.inl (mA1 11 rfl rfl), rfl⟩
  · exact ⟨Or.inl (mA2 209 rfl rfl), rfl⟩
  · exact ⟨Or.inl (mA2 218 rfl rfl), rfl⟩
  · exact ⟨Or.inl (mA2 223 rfl rfl), rfl⟩
  · exact ⟨Or.inl (mA2 226 rfl rfl), rfl⟩
  · exact ⟨Or.inl (mA2 228 rfl rfl), rfl⟩
  · exact ⟨Or.inl (mA2 210 rfl rfl), rfl⟩
  · exact ⟨Or.inl (mA2 211 rfl rfl), rfl⟩
  · exact ⟨Or.inl (mA1 25 rfl rfl), rfl⟩
  · exact ⟨Or.inl (mA1 26 rfl rfl), rfl⟩
  · exact ⟨Or.inl (mA2 212 rfl rfl), rfl⟩
  · exact ⟨Or.inl (mA2 217 rfl rfl), rfl⟩
  · exact ⟨Or.inl (mA2 224 rfl rfl), rfl⟩
  · exact ⟨Or.inl (mA3 4 rfl rfl), rfl⟩
  · exact ⟨Or.inl (mA2 199 rfl rfl), rfl⟩
  · exact ⟨Or.inl (mA3 5 rfl rfl), rfl⟩
  · exact ⟨Or.inl (mA2 201 rfl rfl), rfl⟩
  · exact ⟨Or.inl (mA3 6 rfl rfl), rfl⟩
  · exact ⟨Or.inl (mA2 203 rfl rfl), rfl⟩
  · exact ⟨Or.inl (mA2 213 rfl rfl), rfl⟩
  · exact absurd hno (by decide +kernel)
  · exact ⟨Or.inl (mA2 215 rfl rfl), rfl⟩
  · exact absurd hno (by decide +kernel)
  · exact ⟨Or.inl (mA2 205 rfl rfl), rfl⟩
  · exact ⟨Or.inl (mA3 0 rfl rfl), rfl⟩
  · exact ⟨Or.inl (mA3 1 rfl rfl), rfl⟩
  · exact ⟨Or.inl (mA3 3 rfl rfl), rfl⟩
  · exact ⟨Or.inl (mA2 205 rfl rfl), rfl⟩
  · exact ⟨Or.inl (mA2 231 rfl rfl), rfl⟩
  · exact ⟨Or.inl (mA2 232 rfl rfl), rfl⟩
  · exact ⟨Or.inl (mA2 233 rfl rfl), rfl⟩
  · exact ⟨Or.inl (mA2 234 rfl rfl), rfl⟩
  · exact ⟨Or.inr (List.mem_of_getElem? (i := 20) rfl), rfl⟩
  · exact ⟨Or.inl (mA2 234 rfl rfl), rfl⟩
  · exact ⟨Or.inl (mA2 235 rfl rfl), rfl⟩
  · exact ⟨Or.inl (mA2 236 rfl rfl), rfl⟩
  · exact ⟨Or.inl (mA2 237 rfl rfl), rfl⟩
  · exact ⟨Or.inr (List.mem_of_getElem? (i := 22) rfl), rfl⟩
  · exact ⟨Or.inl (mA2 237 rfl rfl), rfl⟩
  · exact ⟨Or.inl (mA2 238 rfl rfl), rfl⟩
  · exact ⟨Or.inl (mA2 239 rfl rfl), rfl⟩
  · exact ⟨Or.inl (mA3 0 rfl rfl), rfl⟩
  · exact ⟨Or.inr (List.mem_of_getElem? (i := 24) rfl), rfl⟩
  · exact ⟨Or.inl (mA2 230 rfl rfl), rfl⟩
  · exact ⟨Or.inl (mA2 188 rfl rfl), rfl⟩
  · exact ⟨Or.inl (mA2 196 rfl rfl), rfl⟩
  · exact ⟨Or.inl (mA2 197 rfl rfl), rfl⟩
  · exact ⟨Or.inl (mA2 198 rfl rfl), rfl⟩
  · exact ⟨Or.inl (mA2 200 rfl rfl), rfl⟩
  · exact ⟨Or.inl (mA2 202 rfl rfl), rfl⟩
  · exact ⟨Or.inl (mA2 204 rfl rfl), rfl⟩
  · exact absurd hno (by decide +kernel)
  · exact absurd hno (by decide +kernel)
  · exact ⟨Or.inl (mA2 208 rfl rfl), rfl⟩
  · exact ⟨Or.inl (mA2 207 rfl rfl), rfl⟩
  · exact ⟨Or.inl (mA2 206 rfl rfl), rfl⟩
set_option maxRecDepth 100000 in
set_option maxHeartbeats 4000000 in
theorem tw_109_113 : Tw 109 113 "java/lang/IllegalArgumentException" 7 prog_13_method_2_code := by
  refine ⟨by decide +kernel, wd3_19, wd1_15, ?_, by decide +kernel, by decide +kernel, by decide +kernel, by decide +kernel⟩
  intro w hw
  have hno := (List.mem_filter.mp hw).2
  have hw := (List.mem_filter.mp hw).1
  simp only [vy_at, Bundle.throwableAtoms, Bundle.throwableSAtoms, Bundle.chainSAtoms, Bundle.passSAtoms, List.cons_append, List.nil_append, List.append_assoc, List.mem_cons, List.not_mem_nil, or_false] at hw
  rcases hw with rfl | rfl | rfl | rfl | rfl | rfl | rfl | rfl | rfl | rfl | rfl | rfl | rfl | rfl | rfl | rfl | rfl | rfl | rfl | rfl | rfl | rfl | rfl | rfl | rfl | rfl | rfl | rfl | rfl | rfl | rfl | rfl | rfl | rfl | rfl | rfl | rfl | rfl | rfl | rfl | rfl | rfl | rfl | rfl | rfl | rfl | rfl | rfl | rfl | rfl | rfl | rfl | rfl | rfl | rfl | rfl
  · exact ⟨Or.inl (mA1 11 rfl rfl), rfl⟩
  · exact ⟨Or.inl (mA2 209 rfl rfl), rfl⟩
  · exact ⟨Or.inl (mA2 218 rfl rfl), rfl⟩
  · exact ⟨Or.inl (mA2 223 rfl rfl), rfl⟩
  · exact ⟨Or.inl (mA2 226 rfl rfl), rfl⟩
  · exact ⟨Or.inl (mA2 228 rfl rfl), rfl⟩
  · exact ⟨Or.inl (mA2 210 rfl rfl), rfl⟩
  · exact ⟨Or.inl (mA2 211 rfl rfl), rfl⟩
  · exact ⟨Or.inl (mA1 25 rfl rfl), rfl⟩
  · exact ⟨Or.inl (mA1 26 rfl rfl), rfl⟩
  · exact ⟨Or.inl (mA2 212 rfl rfl), rfl⟩
  · exact ⟨Or.inl (mA2 217 rfl rfl), rfl⟩
  · exact ⟨Or.inl (mA2 224 rfl rfl), rfl⟩
  · exact ⟨Or.inl (mA3 4 rfl rfl), rfl⟩
  · exact ⟨Or.inl (mA2 199 rfl rfl), rfl⟩
  · exact ⟨Or.inl (mA3 5 rfl rfl), rfl⟩
  · exact ⟨Or.inl (mA2 201 rfl rfl), rfl⟩
  · exact ⟨Or.inl (mA3 6 rfl rfl), rfl⟩
  · exact ⟨Or.inl (mA2 203 rfl rfl), rfl⟩
  · exact ⟨Or.inl (mA2 213 rfl rfl), rfl⟩
  · exact absurd hno (by decide +kernel)
  · exact ⟨Or.inl (mA2 215 rfl rfl), rfl⟩
  · exact absurd hno (by decide +kernel)
  · exact ⟨Or.inl (mA2 205 rfl rfl), rfl⟩
  · exact ⟨Or.inl (mA3 0 rfl rfl), rfl⟩
  · exact ⟨Or.inl (mA3 1 rfl rfl), rfl⟩
  · exact ⟨Or.inl (mA3 3 rfl rfl), rfl⟩
  · exact ⟨Or.inl (mA2 205 rfl rfl), rfl⟩
  · exact ⟨Or.inl (mA3 30 rfl rfl), rfl⟩
  · exact ⟨Or.inl (mA3 31 rfl rfl), rfl⟩
  · exact ⟨Or.inl (mA3 32 rfl rfl), rfl⟩
  · exact ⟨Or.inl (mA2 234 rfl rfl), rfl⟩
  · exact ⟨Or.inr (List.mem_of_getElem? (i := 20) rfl), rfl⟩
  · exact ⟨Or.inl (mA2 234 rfl rfl), rfl⟩
  · exact ⟨Or.inl (mA2 235 rfl rfl), rfl⟩
  · exact ⟨Or.inl (mA2 236 rfl rfl), rfl⟩
  · exact ⟨Or.inl (mA2 237 rfl rfl), rfl⟩
  · exact ⟨Or.inr (List.mem_of_getElem? (i := 22) rfl), rfl⟩
  · exact ⟨Or.inl (mA2 237 rfl rfl), rfl⟩
  · exact ⟨Or.inl (mA2 238 rfl rfl), rfl⟩
  · exact ⟨Or.inl (mA2 239 rfl rfl), rfl⟩
  · exact ⟨Or.inl (mA3 0 rfl rfl), rfl⟩
  · exact ⟨Or.inr (List.mem_of_getElem? (i := 24) rfl), rfl⟩
  · exact ⟨Or.inl (mA3 29 rfl rfl), rfl⟩
  · exact ⟨Or.inl (mA3 20 rfl rfl), rfl⟩
  · exact ⟨Or.inl (mA3 22 rfl rfl), rfl⟩
  · exact ⟨Or.inl (mA2 220 rfl rfl), rfl⟩
  · exact ⟨Or.inl (mA3 23 rfl rfl), rfl⟩
  · exact ⟨Or.inl (mA3 24 rfl rfl), rfl⟩
  · exact ⟨Or.inl (mA3 25 rfl rfl), rfl⟩
  · exact ⟨Or.inl (mA3 26 rfl rfl), rfl⟩
  · exact absurd hno (by decide +kernel)
  · exact absurd hno (by decide +kernel)
  · exact ⟨Or.inl (mA2 208 rfl rfl), rfl⟩
  · exact ⟨Or.inl (mA2 207 rfl rfl), rfl⟩
  · exact ⟨Or.inl (mA3 27 rfl rfl), rfl⟩
set_option maxRecDepth 100000 in
set_option maxHeartbeats 4000000 in
theorem tw_119_123 : Tw 119 123 "java/lang/UnsupportedOperationException" 7 prog_19_method_2_code := by
  refine ⟨by decide +kernel, wd3_35, wd1_16, ?_, by decide +kernel, by decide +kernel, by decide +kernel, by decide +kernel⟩
  intro w hw
  have hno := (List.mem_filter.mp hw).2
  have hw := (List.mem_filter.mp hw).1
  simp only [vy_at, Bundle.throwableAtoms, Bundle.throwableSAtoms, Bundle.chainSAtoms, Bundle.passSAtoms, List.cons_append, List.nil_append, List.append_assoc, List.mem_cons, List.not_mem_nil, or_false] at hw
  rcases hw with rfl | rfl | rfl | rfl | rfl | rfl | rfl | rfl | rfl | rfl | rfl | rfl | rfl | rfl | rfl | rfl | rfl | rfl | rfl | rfl | rfl | rfl | rfl | rfl | rfl | rfl | rfl | rfl | rfl | rfl | rfl | rfl | rfl | rfl | rfl | rfl | rfl | rfl | rfl | rfl | rfl | rfl | rfl | rfl | rfl | rfl | rfl | rfl | rfl | rfl | rfl | rfl | rfl | rfl | rfl | rfl
  · exact ⟨Or.inl (mA1 11 rfl rfl), rfl⟩
  · exact ⟨Or.inl (mA2 209 rfl rfl), rfl⟩
  · exact ⟨Or.inl (mA2 218 rfl rfl), rfl⟩
  · exact ⟨Or.inl (mA2 223 rfl rfl), rfl⟩
  · exact ⟨Or.inl (mA2 226 rfl rfl), rfl⟩
  · exact ⟨Or.inl (mA2 228 rfl rfl), rfl⟩
  · exact ⟨Or.inl (mA2 210 rfl rfl), rfl⟩
  · exact ⟨Or.inl (mA2 211 rfl rfl), rfl⟩
  · exact ⟨Or.inl (mA1 25 rfl rfl), rfl⟩
  · exact ⟨Or.inl (mA1 26 rfl rfl), rfl⟩
  · exact ⟨Or.inl (mA2 212 rfl rfl), rfl⟩
  · exact ⟨Or.inl (mA2 217 rfl rfl), rfl⟩
  · exact ⟨Or.inl (mA2 224 rfl rfl), rfl⟩
  · exact ⟨Or.inl (mA3 4 rfl rfl), rfl⟩
  · exact ⟨Or.inl (mA2 199 rfl rfl), rfl⟩
  · exact ⟨Or.inl (mA3 5 rfl rfl), rfl⟩
  · exact ⟨Or.inl (mA2 201 rfl rfl), rfl⟩
  · exact ⟨Or.inl (mA3 6 rfl rfl), rfl⟩
  · exact ⟨Or.inl (mA2 203 rfl rfl), rfl⟩
  · exact ⟨Or.inl (mA2 213 rfl rfl), rfl⟩
  · exact absurd hno (by decide +kernel)
  · exact ⟨Or.inl (mA2 215 rfl rfl), rfl⟩
  · exact absurd hno (by decide +kernel)
  · exact ⟨Or.inl (mA2 205 rfl rfl), rfl⟩
  · exact ⟨Or.inl (mA3 0 rfl rfl), rfl⟩
  · exact ⟨Or.inl (mA3 1 rfl rfl), rfl⟩
  · exact ⟨Or.inl (mA3 3 rfl rfl), rfl⟩
  · exact ⟨Or.inl (mA2 205 rfl rfl), rfl⟩
  · exact ⟨Or.inl (mA3 46 rfl rfl), rfl⟩
  · exact ⟨Or.inl (mA3 47 rfl rfl), rfl⟩
  · exact ⟨Or.inl (mA3 48 rfl rfl), rfl⟩
  · exact ⟨Or.inl (mA2 234 rfl rfl), rfl⟩
  · exact ⟨Or.inr (List.mem_of_getElem? (i := 20) rfl), rfl⟩
  · exact ⟨Or.inl (mA2 234 rfl rfl), rfl⟩
  · exact ⟨Or.inl (mA2 235 rfl rfl), rfl⟩
  · exact ⟨Or.inl (mA2 236 rfl rfl), rfl⟩
  · exact ⟨Or.inl (mA2 237 rfl rfl), rfl⟩
  · exact ⟨Or.inr (List.mem_of_getElem? (i := 22) rfl), rfl⟩
  · exact ⟨Or.inl (mA2 237 rfl rfl), rfl⟩
  · exact ⟨Or.inl (mA2 238 rfl rfl), rfl⟩
  · exact ⟨Or.inl (mA2 239 rfl rfl), rfl⟩
  · exact ⟨Or.inl (mA3 0 rfl rfl), rfl⟩
  · exact ⟨Or.inr (List.mem_of_getElem? (i := 24) rfl), rfl⟩
  · exact ⟨Or.inl (mA3 45 rfl rfl), rfl⟩
  · exact ⟨Or.inl (mA3 36 rfl rfl), rfl⟩
  · exact ⟨Or.inl (mA3 38 rfl rfl), rfl⟩
  · exact ⟨Or.inl (mA2 222 rfl rfl), rfl⟩
  · exact ⟨Or.inl (mA3 39 rfl rfl), rfl⟩
  · exact ⟨Or.inl (mA3 40 rfl rfl), rfl⟩
  · exact ⟨Or.inl (mA3 41 rfl rfl), rfl⟩
  · exact ⟨Or.inl (mA3 42 rfl rfl), rfl⟩
  · exact absurd hno (by decide +kernel)
  · exact absurd hno (by decide +kernel)
  · exact ⟨Or.inl (mA2 208 rfl rfl), rfl⟩
  · exact ⟨Or.inl (mA2 207 rfl rfl), rfl⟩
  · exact ⟨Or.inl (mA3 43 rfl rfl), rfl⟩
set_option maxRecDepth 100000 in
set_option maxHeartbeats 4000000 in
theorem tw_169_173 : Tw 169 173 "java/lang/IndexOutOfBoundsException" 7 prog_14_method_2_code := by
  refine ⟨by decide +kernel, wd3_118, wd1_17, ?_, by decide +kernel, by decide +kernel, by decide +kernel, by decide +kernel⟩
  intro w hw
  have hno := (List.mem_filter.mp hw).2
  have hw := (List.mem_filter.mp hw).1
  simp only [vy_at, Bundle.throwableAtoms, Bundle.throwableSAtoms, Bundle.chainSAtoms, Bundle.passSAtoms, List.cons_append, List.nil_append, List.append_assoc, List.mem_cons, List.not_mem_nil, or_false] at hw
  rcases hw with rfl | rfl | rfl | rfl | rfl | rfl | rfl | rfl | rfl | rfl | rfl | rfl | rfl | rfl | rfl | rfl | rfl | rfl | rfl | rfl | rfl | rfl | rfl | rfl | rfl | rfl | rfl | rfl | rfl | rfl | rfl | rfl | rfl | rfl | rfl | rfl | rfl | rfl | rfl | rfl | rfl | rfl | rfl | rfl | rfl | rfl | rfl | rfl | rfl | rfl | rfl | rfl | rfl | rfl | rfl | rfl
  · exact ⟨Or.inl (mA1 11 rfl rfl), rfl⟩
  · exact ⟨Or.inl (mA2 209 rfl rfl), rfl⟩
  · exact ⟨Or.inl (mA2 218 rfl rfl), rfl⟩
  · exact ⟨Or.inl (mA2 223 rfl rfl), rfl⟩
  · exact ⟨Or.inl (mA2 226 rfl rfl), rfl⟩
  · exact ⟨Or.inl (mA2 228 rfl rfl), rfl⟩
  · exact ⟨Or.inl (mA2 210 rfl rfl), rfl⟩
  · exact ⟨Or.inl (mA2 211 rfl rfl), rfl⟩
  · exact ⟨Or.inl (mA1 25 rfl rfl), rfl⟩
  · exact ⟨Or.inl (mA1 26 rfl rfl), rfl⟩
  · exact ⟨Or.inl (mA2 212 rfl rfl), rfl⟩
  · exact ⟨Or.inl (mA2 217 rfl rfl), rfl⟩
  · exact ⟨Or.inl (mA2 224 rfl rfl), rfl⟩
  · exact ⟨Or.inl (mA3 4 rfl rfl), rfl⟩
  · exact ⟨Or.inl (mA2 199 rfl rfl), rfl⟩
  · exact ⟨Or.inl (mA3 5 rfl rfl), rfl⟩
  · exact ⟨Or.inl (mA2 201 rfl rfl), rfl⟩
  · exact ⟨Or.inl (mA3 6 rfl rfl), rfl⟩
  · exact ⟨Or.inl (mA2 203 rfl rfl), rfl⟩
  · exact ⟨Or.inl (mA2 213 rfl rfl), rfl⟩
  · exact absurd hno (by decide +kernel)
  · exact ⟨Or.inl (mA2 215 rfl rfl), rfl⟩
  · exact absurd hno (by decide +kernel)
  · exact ⟨Or.inl (mA2 205 rfl rfl), rfl⟩
  · exact ⟨Or.inl (mA3 0 rfl rfl), rfl⟩
  · exact ⟨Or.inl (mA3 1 rfl rfl), rfl⟩
  · exact ⟨Or.inl (mA3 3 rfl rfl), rfl⟩
  · exact ⟨Or.inl (mA2 205 rfl rfl), rfl⟩
  · exact ⟨Or.inl (mA3 129 rfl rfl), rfl⟩
  · exact ⟨Or.inl (mA3 130 rfl rfl), rfl⟩
  · exact ⟨Or.inl (mA3 131 rfl rfl), rfl⟩
  · exact ⟨Or.inl (mA2 234 rfl rfl), rfl⟩
  · exact ⟨Or.inr (List.mem_of_getElem? (i := 20) rfl), rfl⟩
  · exact ⟨Or.inl (mA2 234 rfl rfl), rfl⟩
  · exact ⟨Or.inl (mA2 235 rfl rfl), rfl⟩
  · exact ⟨Or.inl (mA2 236 rfl rfl), rfl⟩
  · exact ⟨Or.inl (mA2 237 rfl rfl), rfl⟩
  · exact ⟨Or.inr (List.mem_of_getElem? (i := 22) rfl), rfl⟩
  · exact ⟨Or.inl (mA2 237 rfl rfl), rfl⟩
  · exact ⟨Or.inl (mA2 238 rfl rfl), rfl⟩
  · exact ⟨Or.inl (mA2 239 rfl rfl), rfl⟩
  · exact ⟨Or.inl (mA3 0 rfl rfl), rfl⟩
  · exact ⟨Or.inr (List.mem_of_getElem? (i := 24) rfl), rfl⟩
  · exact ⟨Or.inl (mA3 128 rfl rfl), rfl⟩
  · exact ⟨Or.inl (mA3 119 rfl rfl), rfl⟩
  · exact ⟨Or.inl (mA3 121 rfl rfl), rfl⟩
  · exact ⟨Or.inl (mA2 221 rfl rfl), rfl⟩
  · exact ⟨Or.inl (mA3 122 rfl rfl), rfl⟩
  · exact ⟨Or.inl (mA3 123 rfl rfl), rfl⟩
  · exact ⟨Or.inl (mA3 124 rfl rfl), rfl⟩
  · exact ⟨Or.inl (mA3 125 rfl rfl), rfl⟩
  · exact absurd hno (by decide +kernel)
  · exact absurd hno (by decide +kernel)
  · exact ⟨Or.inl (mA2 208 rfl rfl), rfl⟩
  · exact ⟨Or.inl (mA2 207 rfl rfl), rfl⟩
  · exact ⟨Or.inl (mA3 126 rfl rfl), rfl⟩
end
section
def f_J7_fill_21_5 (N : Nat) (x1 : Int32) (x3 : Int32) (K : Sg → Option (Int32 × Sg)) : Nat → Int32 → Sg → Option (Int32 × Sg)
  | 0, _, _ => none
  | n + 1, x2, σ => if x3 ≤ x2 then (K σ) else (wrA 480 σ 21 x2 x1 (fun σ2 => lt (x2 + 1) (fun v3 => f_J7_fill_21_5 N x1 x3 K n v3 σ2)))
def f_J7_fill_21 (N : Nat) (a2 : Int32) (σ : Sg) : Option (Int32 × Sg) := f_J7_fill_21_5 N a2 480 (fun σ4 => some (0, σ4)) N 0 σ
set_option maxHeartbeats 4000000 in
set_option maxRecDepth 100000 in
theorem w_J7_fill_21_5 {z : Cz} (X : Cx z cJ7_fill_53178 4 RJ7) (hR : 0 ≤ (zR z).frames ∧ 0 ≤ (zR z).locals) {res : (Int32 × Sg)} (N : Nat) (x1 : Int32) (x3 : Int32) (K : Sg → Option (Int32 × Sg)) (kx : ∀ (σ : Sg), K σ = some res → V z 0 4 20 [] [] σ) : ∀ (n : Nat) (x2 : Int32) (σ : Sg), f_J7_fill_21_5 N x1 x3 K n x2 σ = some res → V z 0 4 5 [(0, .ref (zA z 21)), (1, .int x1), (3, .int x3), (2, .int x2)] [] σ := by
  intro n
  induction n with
  | zero =>
    intro x2 σ h
    rw [f_J7_fill_21_5] at h
    cases h
  | succ n ih =>
    intro x2 σ h
    rw [f_J7_fill_21_5] at h
    refine r_iload_n X dJ7_fill_53178_5 rfl 3 rfl ?_
    refine r_iload_n X dJ7_fill_53178_6 rfl 2 rfl ?_
    refine r_icmp_ge X 20 dJ7_fill_53178_7 (by decide) h (fun g1 h => ?_) (fun g1 h => ?_)
    · refine r_sub [] rfl ?_
      exact kx  σ h
    · refine r_aload_n X dJ7_fill_53178_10 rfl 0 rfl ?_
      refine r_iload_n X dJ7_fill_53178_11 rfl 3 rfl ?_
      refine r_iload_n X dJ7_fill_53178_12 rfl 1 rfl ?_
      refine as_21 X dJ7_fill_53178_13 h (fun σ2 h => ?_)
      refine r_iinc X 1 (fun v3 => [(2, .int v3), (0, .ref (zA z 21)), (1, .int x1), (3, .int x3)]) dJ7_fill_53178_14 3 rfl (by decide) (by decide) (fun _ => rfl) h (fun v3 h => ?_)
      refine r_goto X 5 dJ7_fill_53178_17 (by decide) ?_
      refine r_sub [1, 2, 3, 0] rfl ?_
      exact ih v3 σ2 h
set_option maxHeartbeats 4000000 in
set_option maxRecDepth 100000 in
theorem w_J7_fill_21 {z : Cz} (X : Cx z cJ7_fill_53178 4 RJ7) (hR : 0 ≤ (zR z).frames ∧ 0 ≤ (zR z).locals) {res : (Int32 × Sg)} (Rt : RtV z cJ7_fill_53178 4 res) (N : Nat) (a2 : Int32) (σ : Sg) (h : f_J7_fill_21 N a2 σ = some res) : V z 0 4 0 [(0, .ref (zA z 21)), (1, .int a2)] [] σ := by
  rw [f_J7_fill_21] at h
  refine r_iconst X 0 dJ7_fill_53178_0 (by decide) ?_
  refine r_istore_n X [(2, .int 0), (0, .ref (zA z 21)), (1, .int a2)] dJ7_fill_53178_1 rfl (by decide) rfl ?_
  refine r_aload_n X dJ7_fill_53178_2 rfl 1 rfl ?_
  refine ln_21 X dJ7_fill_53178_3 ?_
  refine r_istore_n X [(3, .int 480), (2, .int 0), (0, .ref (zA z 21)), (1, .int a2)] dJ7_fill_53178_4 rfl (by decide) rfl ?_
  refine r_sub [2, 3, 0, 1] rfl ?_
  refine w_J7_fill_21_5 X hR N a2 480 _ (fun σ4 h => ?_) N 0 σ h
  exact r_vret Rt dJ7_fill_53178_20 h
theorem c_J7_fill_21 (l : Launch) (hl : l.stackTraces = false) (N : Nat) (D : va_G) (cy : Nat → ClassId) (ad sa : Nat → Nat) (a2 : Int32) (σ : Sg) : CtV l yJ7_fill_53178 cJ7_fill_53178 4 0 0 D cy ad sa [.ref (ad 21), .int a2] σ (f_J7_fill_21 N a2 σ) :=
  ct_V hl (by decide +kernel) (Nat.le_of_ble_eq_true rfl) (fun z res e1 e2 e3 e4 e5 e6 X Rt h => by subst e1 e2 e3 e4 e5; exact w_J7_fill_21 X ⟨e6.1, e6.2⟩ Rt N a2 σ h)
def f_J7_fill_33_5 (N : Nat) (x1 : Int32) (x3 : Int32) (K : Sg → Option (Int32 × Sg)) : Nat → Int32 → Sg → Option (Int32 × Sg)
  | 0, _, _ => none
  | n + 1, x2, σ => if x3 ≤ x2 then (K σ) else (wrA 10 σ 33 x2 x1 (fun σ2 => lt (x2 + 1) (fun v3 => f_J7_fill_33_5 N x1 x3 K n v3 σ2)))
def f_J7_fill_33 (N : Nat) (a2 : Int32) (σ : Sg) : Option (Int32 × Sg) := f_J7_fill_33_5 N a2 10 (fun σ4 => some (0, σ4)) N 0 σ
set_option maxHeartbeats 4000000 in
set_option maxRecDepth 100000 in
theorem w_J7_fill_33_5 {z : Cz} (X : Cx z cJ7_fill_53178 4 RJ7) (hR : 0 ≤ (zR z).frames ∧ 0 ≤ (zR z).locals) {res : (Int32 × Sg)} (N : Nat) (x1 : Int32) (x3 : Int32) (K : Sg → Option (Int32 × Sg)) (kx : ∀ (σ : Sg), K σ = some res → V z 0 4 20 [] [] σ) : ∀ (n : Nat) (x2 : Int32) (σ : Sg), f_J7_fill_33_5 N x1 x3 K n x2 σ = some res → V z 0 4 5 [(0, .ref (zA z 33)), (1, .int x1), (3, .int x3), (2, .int x2)] [] σ := by
  intro n
  induction n with
  | zero =>
    intro x2 σ h
    rw [f_J7_fill_33_5] at h
    cases h
  | succ n ih =>
    intro x2 σ h
    rw [f_J7_fill_33_5] at h
    refine r_iload_n X dJ7_fill_53178_5 rfl 3 rfl ?_
    refine r_iload_n X dJ7_fill_53178_6 rfl 2 rfl ?_
    refine r_icmp_ge X 20 dJ7_fill_53178_7 (by decide) h (fun g1 h => ?_) (fun g1 h => ?_)
    · refine r_sub [] rfl ?_
      exact kx  σ h
    · refine r_aload_n X dJ7_fill_53178_10 rfl 0 rfl ?_
      refine r_iload_n X dJ7_fill_53178_11 rfl 3 rfl ?_
      refine r_iload_n X dJ7_fill_53178_12 rfl 1 rfl ?_
      refine as_33 X dJ7_fill_53178_13 h (fun σ2 h => ?_)
      refine r_iinc X 1 (fun v3 => [(2, .int v3), (0, .ref (zA z 33)), (1, .int x1), (3, .int x3)]) dJ7_fill_53178_14 3 rfl (by decide) (by decide) (fun _ => rfl) h (fun v3 h => ?_)
      refine r_goto X 5 dJ7_fill_53178_17 (by decide) ?_
      refine r_sub [1, 2, 3, 0] rfl ?_
      exact ih v3 σ2 h
set_option maxHeartbeats 4000000 in
set_option maxRecDepth 100000 in
theorem w_J7_fill_33 {z : Cz} (X : Cx z cJ7_fill_53178 4 RJ7) (hR : 0 ≤ (zR z).frames ∧ 0 ≤ (zR z).locals) {res : (Int32 × Sg)} (Rt : RtV z cJ7_fill_53178 4 res) (N : Nat) (a2 : Int32) (σ : Sg) (h : f_J7_fill_33 N a2 σ = some res) : V z 0 4 0 [(0, .ref (zA z 33)), (1, .int a2)] [] σ := by
  rw [f_J7_fill_33] at h
  refine r_iconst X 0 dJ7_fill_53178_0 (by decide) ?_
  refine r_istore_n X [(2, .int 0), (0, .ref (zA z 33)), (1, .int a2)] dJ7_fill_53178_1 rfl (by decide) rfl ?_
  refine r_aload_n X dJ7_fill_53178_2 rfl 1 rfl ?_
  refine ln_33 X dJ7_fill_53178_3 ?_
  refine r_istore_n X [(3, .int 10), (2, .int 0), (0, .ref (zA z 33)), (1, .int a2)] dJ7_fill_53178_4 rfl (by decide) rfl ?_
  refine r_sub [2, 3, 0, 1] rfl ?_
  refine w_J7_fill_33_5 X hR N a2 10 _ (fun σ4 h => ?_) N 0 σ h
  exact r_vret Rt dJ7_fill_53178_20 h
theorem c_J7_fill_33 (l : Launch) (hl : l.stackTraces = false) (N : Nat) (D : va_G) (cy : Nat → ClassId) (ad sa : Nat → Nat) (a2 : Int32) (σ : Sg) : CtV l yJ7_fill_53178 cJ7_fill_53178 4 0 0 D cy ad sa [.ref (ad 33), .int a2] σ (f_J7_fill_33 N a2 σ) :=
  ct_V hl (by decide +kernel) (Nat.le_of_ble_eq_true rfl) (fun z res e1 e2 e3 e4 e5 e6 X Rt h => by subst e1 e2 e3 e4 e5; exact w_J7_fill_33 X ⟨e6.1, e6.2⟩ Rt N a2 σ h)
def f_X0_append (N : Nat) (a1 : Int32) (a2 : Int32) (a3 : Int32) (σ : Sg) : Option (Int32 × Sg) := lt (σ 22 3) (fun v1 => if 760 ≤ v1 then (some (0, σ)) else (lt (σ 22 3) (fun v3 => wrA 760 σ 23 v3 a1 (fun σ4 => lt (σ4 22 3) (fun v5 => wrA 760 σ4 24 v5 a2 (fun σ6 => lt (σ6 22 3) (fun v7 => wrA 760 σ6 25 v7 a3 (fun σ8 => lt (σ8 22 3) (fun v9 => st (ss σ8 22 3 (v9 + 1)) (fun σ10 => some (0, σ10)))))))))))
set_option maxHeartbeats 4000000 in
set_option maxRecDepth 100000 in
theorem w_X0_append {z : Cz} (X : Cx z cX0_append 4 RX0) (hR : 0 ≤ (zR z).frames ∧ 0 ≤ (zR z).locals) {res : (Int32 × Sg)} (Rt : RtV z cX0_append 4 res) (N : Nat) (a1 : Int32) (a2 : Int32) (a3 : Int32) (σ : Sg) (h : f_X0_append N a1 a2 a3 σ = some res) : V z 0 4 0 [(0, .ref (zA z 22)), (1, .int a1), (2, .int a2), (3, .int a3)] [] σ := by
  rw [f_X0_append] at h
  refine r_aload_n X dX0_append_0 rfl 0 rfl ?_
  refine gf_X0_21 X dX0_append_1 h (fun v1 h => ?_)
  refine r_sipush X 760 dX0_append_4 (by decide) ?_
  refine r_icmp_ge X 50 dX0_append_7 (by decide) h (fun g2 h => ?_) (fun g2 h => ?_)
  · exact r_vret Rt dX0_append_50 h
  · refine r_aload_n X dX0_append_10 rfl 0 rfl ?_
    refine gf_X0_11 X dX0_append_11 ?_
    refine r_aload_n X dX0_append_14 rfl 0 rfl ?_
    refine gf_X0_21 X dX0_append_15 h (fun v3 h => ?_)
    refine r_iload_n X dX0_append_18 rfl 1 rfl ?_
    refine as_23 X dX0_append_19 h (fun σ4 h => ?_)
    refine r_aload_n X dX0_append_20 rfl 0 rfl ?_
    refine gf_X0_15 X dX0_append_21 ?_
    refine r_aload_n X dX0_append_24 rfl 0 rfl ?_
    refine gf_X0_21 X dX0_append_25 h (fun v5 h => ?_)
    refine r_iload_n X dX0_append_28 rfl 2 rfl ?_
    refine as_24 X dX0_append_29 h (fun σ6 h => ?_)
    refine r_aload_n X dX0_append_30 rfl 0 rfl ?_
    refine gf_X0_18 X dX0_append_31 ?_
    refine r_aload_n X dX0_append_34 rfl 0 rfl ?_
    refine gf_X0_21 X dX0_append_35 h (fun v7 h => ?_)
    refine r_iload_n X dX0_append_38 rfl 3 rfl ?_
    refine as_25 X dX0_append_39 h (fun σ8 h => ?_)
    refine r_aload_n X dX0_append_40 rfl 0 rfl ?_
    refine r_dup X dX0_append_41 rfl ?_
    refine gf_X0_21 X dX0_append_42 h (fun v9 h => ?_)
    refine r_iconst X 1 dX0_append_45 (by decide) ?_
    refine r_iadd X dX0_append_46 ?_
    refine pf_X0_21 X dX0_append_47 h (fun σ10 h => ?_)
    exact r_vret Rt dX0_append_50 h
theorem c_X0_append (l : Launch) (hl : l.stackTraces = false) (N : Nat) (D : va_G) (cy : Nat → ClassId) (ad sa : Nat → Nat) (a1 : Int32) (a2 : Int32) (a3 : Int32) (σ : Sg) : CtV l yX0_append cX0_append 4 0 0 D cy ad sa [.ref (ad 22), .int a1, .int a2, .int a3] σ (f_X0_append N a1 a2 a3 σ) :=
  ct_V hl (by decide +kernel) (Nat.le_of_ble_eq_true rfl) (fun z res e1 e2 e3 e4 e5 e6 X Rt h => by subst e1 e2 e3 e4 e5; exact w_X0_append X ⟨e6.1, e6.2⟩ Rt N a1 a2 a3 σ h)
def f_X1_clear (N : Nat) (σ : Sg) : Option (Int32 × Sg) := cI (f_J7_fill_21 N 0 σ) (fun v1 σ2 => st (ss σ2 20 1 0) (fun σ3 => st (ss σ3 20 2 0) (fun σ4 => st (ss σ4 20 4 (-1)) (fun σ5 => st (ss σ5 20 5 0) (fun σ6 => some (0, σ6))))))
set_option maxHeartbeats 4000000 in
set_option maxRecDepth 100000 in
theorem w_X1_clear {z : Cz} (X : Cx z cX1_clear 1 RX1) (hR : 1 ≤ (zR z).frames ∧ 23 ≤ (zR z).locals) {res : (Int32 × Sg)} (Rt : RtV z cX1_clear 1 res) (N : Nat) (σ : Sg) (h : f_X1_clear N σ = some res) : V z 0 1 0 [(0, .ref (zA z 20))] [] σ := by
  rw [f_X1_clear] at h
  refine r_aload_n X dX1_clear_0 rfl 0 rfl ?_
  refine gf_X1_11 X dX1_clear_1 ?_
  refine r_iconst X 0 dX1_clear_4 (by decide) ?_
  refine r_callSv X lk_X1_32 (c_J7_fill_21 (zl z) X.2.2.2.2.2.2.2.1 N (zD z) (zy z) (zA z) (zS z) 0 σ) ⟨Nat.le_trans (by decide) hR.1, Nat.le_trans (by decide) hR.2⟩ rfl rfl (Nat.le_of_ble_eq_true rfl) dX1_clear_5 h (fun v1 σ2 h => ?_)
  refine r_aload_n X dX1_clear_8 rfl 0 rfl ?_
  refine r_iconst X 0 dX1_clear_9 (by decide) ?_
  refine pf_X1_15 X dX1_clear_10 h (fun σ3 h => ?_)
  refine r_aload_n X dX1_clear_13 rfl 0 rfl ?_
  refine r_iconst X 0 dX1_clear_14 (by decide) ?_
  refine pf_X1_19 X dX1_clear_15 h (fun σ4 h => ?_)
  refine r_aload_n X dX1_clear_18 rfl 0 rfl ?_
  refine r_iconst X (-1) dX1_clear_19 (by decide) ?_
  refine pf_X1_25 X dX1_clear_20 h (fun σ5 h => ?_)
  refine r_aload_n X dX1_clear_23 rfl 0 rfl ?_
  refine r_iconst X 0 dX1_clear_24 (by decide) ?_
  refine pf_X1_28 X (by decide) dX1_clear_25 h (fun σ6 h => ?_)
  exact r_vret Rt dX1_clear_28 h
theorem c_X1_clear (l : Launch) (hl : l.stackTraces = false) (N : Nat) (D : va_G) (cy : Nat → ClassId) (ad sa : Nat → Nat) (σ : Sg) : CtV l yX1_clear cX1_clear 1 1 23 D cy ad sa [.ref (ad 20)] σ (f_X1_clear N σ) :=
  ct_V hl (by decide +kernel) (Nat.le_of_ble_eq_true rfl) (fun z res e1 e2 e3 e4 e5 e6 X Rt h => by subst e1 e2 e3 e4 e5; exact w_X1_clear X ⟨e6.1, e6.2⟩ Rt N σ h)
def f_X1_beginRow (N : Nat) (σ : Sg) : Option (Int32 × Sg) := st (ss σ 20 3 0) (fun σ1 => some (0, σ1))
set_option maxHeartbeats 4000000 in
set_option maxRecDepth 100000 in
theorem w_X1_beginRow {z : Cz} (X : Cx z cX1_beginRow 1 RX1) (hR : 0 ≤ (zR z).frames ∧ 0 ≤ (zR z).locals) {res : (Int32 × Sg)} (Rt : RtV z cX1_beginRow 1 res) (N : Nat) (σ : Sg) (h : f_X1_beginRow N σ = some res) : V z 0 1 0 [(0, .ref (zA z 20))] [] σ := by
  rw [f_X1_beginRow] at h
  refine r_aload_n X dX1_beginRow_0 rfl 0 rfl ?_
  refine r_iconst X 0 dX1_beginRow_1 (by decide) ?_
  refine pf_X1_22 X dX1_beginRow_2 h (fun σ1 h => ?_)
  exact r_vret Rt dX1_beginRow_5 h
theorem c_X1_beginRow (l : Launch) (hl : l.stackTraces = false) (N : Nat) (D : va_G) (cy : Nat → ClassId) (ad sa : Nat → Nat) (σ : Sg) : CtV l yX1_beginRow cX1_beginRow 1 0 0 D cy ad sa [.ref (ad 20)] σ (f_X1_beginRow N σ) :=
  ct_V hl (by decide +kernel) (Nat.le_of_ble_eq_true rfl) (fun z res e1 e2 e3 e4 e5 e6 X Rt h => by subst e1 e2 e3 e4 e5; exact w_X1_beginRow X ⟨e6.1, e6.2⟩ Rt N σ h)
def f_X1_lay_0 (N : Nat) (x1 : Int32) (x2 : Int32) (K : Sg → Option (Int32 × Sg)) : Nat → Sg → Option (Int32 × Sg)
  | 0, _ => none
  | n + 1, σ => lt (σ 20 3) (fun v1 => if 480 ≤ v1 then (K σ) else (lt (σ 20 3) (fun v3 => rdA 480 (σ 21) v3 (fun v4 => lt (σ 20 2) (fun v5 => if v4 ≤ v5 then (K σ) else (lt (σ 20 3) (fun v7 => st (ss σ 20 3 (v7 + 1)) (fun σ8 => f_X1_lay_0 N x1 x2 K n σ8))))))))
def f_X1_lay_41 (N : Nat) (x1 : Int32) (x2 : Int32) (K : Sg → Option (Int32 × Sg)) : Nat → Int32 → Sg → Option (Int32 × Sg)
  | 0, _, _ => none
  | n + 1, x3, σ => if x2 ≤ x3 then (K σ) else (lt (σ 20 3) (fun v11 => if 480 ≤ v11 then (K σ) else (lt (σ 20 5) (fun v13 => if v13 = 0 then (lt (σ 20 3) (fun v25 => rdA 480 (σ 21) v25 (fun v26 => lt (σ 20 2) (fun v27 => if v26 ≤ v27 then (st (ss σ 20 5 0) (fun σ29 => lt (σ29 20 3) (fun v30 => lt (σ29 20 3) (fun v31 => rdA 480 (σ29 21) v31 (fun v32 => lt (σ29 20 2) (fun v33 => lt (if v32 < (v33 + x1) then (v33 + x1) else v32) (fun v34 => wrA 480 σ29 21 v30 v34 (fun σ35 => lt (σ35 20 3) (fun v36 => st (ss σ35 20 3 (v36 + 1)) (fun σ37 => lt (x3 + 1) (fun v38 => f_X1_lay_41 N x1 x2 K n v38 σ37))))))))))) else (st (ss σ 20 5 1) (fun σ39 => lt (σ39 20 3) (fun v40 => lt (σ39 20 3) (fun v41 => rdA 480 (σ39 21) v41 (fun v42 => lt (σ39 20 2) (fun v43 => lt (if v42 < (v43 + x1) then (v43 + x1) else v42) (fun v44 => wrA 480 σ39 21 v40 v44 (fun σ45 => lt (σ45 20 3) (fun v46 => st (ss σ45 20 3 (v46 + 1)) (fun σ47 => lt (x3 + 1) (fun v48 => f_X1_lay_41 N x1 x2 K n v48 σ47))))))))))))))) else (st (ss σ 20 5 1) (fun σ15 => lt (σ15 20 3) (fun v16 => lt (σ15 20 3) (fun v17 => rdA 480 (σ15 21) v17 (fun v18 => lt (σ15 20 2) (fun v19 => lt (if v18 < (v19 + x1) then (v19 + x1) else v18) (fun v20 => wrA 480 σ15 21 v16 v20 (fun σ21 => lt (σ21 20 3) (fun v22 => st (ss σ21 20 3 (v22 + 1)) (fun σ23 => lt (x3 + 1) (fun v24 => f_X1_lay_41 N x1 x2 K n v24 σ23)))))))))))))))
def f_X1_lay (N : Nat) (a1 : Int32) (a2 : Int32) (σ : Sg) : Option (Int32 × Sg) := f_X1_lay_0 N a1 a2 (fun σ9 => f_X1_lay_41 N a1 a2 (fun σ49 => lt (σ49 20 1) (fun v50 => lt (σ49 20 3) (fun v51 => lt (if v50 < v51 then v51 else v50) (fun v52 => st (ss σ49 20 1 v52) (fun σ53 => some (0, σ53)))))) N 0 σ9) N σ
set_option maxHeartbeats 4000000 in
set_option maxRecDepth 100000 in
theorem w_X1_lay_0 {z : Cz} (X : Cx z cX1_lay 4 RX1) (hR : 1 ≤ (zR z).frames ∧ 21 ≤ (zR z).locals) {res : (Int32 × Sg)} (N : Nat) (x1 : Int32) (x2 : Int32) (K : Sg → Option (Int32 × Sg)) (kx : ∀ (σ : Sg), K σ = some res → V z 0 4 39 [(0, .ref (zA z 20)), (1, .int x1), (2, .int x2)] [] σ) : ∀ (n : Nat) (σ : Sg), f_X1_lay_0 N x1 x2 K n σ = some res → V z 0 4 0 [(0, .ref (zA z 20)), (1, .int x1), (2, .int x2)] [] σ := by
  intro n
  induction n with
  | zero =>
    intro  σ h
    rw [f_X1_lay_0] at h
    cases h
  | succ n ih =>
    intro  σ h
    rw [f_X1_lay_0] at h
    refine r_aload_n X dX1_lay_0 rfl 0 rfl ?_
    refine gf_X1_22 X dX1_lay_1 h (fun v1 h => ?_)
    refine r_sipush X 480 dX1_lay_4 (by decide) ?_
    refine r_icmp_ge X 39 dX1_lay_7 (by decide) h (fun g2 h => ?_) (fun g2 h => ?_)
    · refine r_sub [0, 1, 2] rfl ?_
      exact kx  σ h
    · refine r_aload_n X dX1_lay_10 rfl 0 rfl ?_
      refine gf_X1_11 X dX1_lay_11 ?_
      refine r_aload_n X dX1_lay_14 rfl 0 rfl ?_
      refine gf_X1_22 X dX1_lay_15 h (fun v3 h => ?_)
      refine al_21 X dX1_lay_18 h (fun v4 h => ?_)
      refine r_aload_n X dX1_lay_19 rfl 0 rfl ?_
      refine gf_X1_19 X dX1_lay_20 h (fun v5 h => ?_)
      refine r_icmp_le X 39 dX1_lay_23 (by decide) h (fun g6 h => ?_) (fun g6 h => ?_)
      · refine r_sub [0, 1, 2] rfl ?_
        exact kx  σ h
      · refine r_aload_n X dX1_lay_26 rfl 0 rfl ?_
        refine r_dup X dX1_lay_27 rfl ?_
        refine gf_X1_22 X dX1_lay_28 h (fun v7 h => ?_)
        refine r_iconst X 1 dX1_lay_31 (by decide) ?_
        refine r_iadd X dX1_lay_32 ?_
        refine pf_X1_22 X dX1_lay_33 h (fun σ8 h => ?_)
        refine r_goto X 0 dX1_lay_36 (by decide) ?_
        refine r_sub [0, 1, 2] rfl ?_
        exact ih  σ8 h
set_option maxHeartbeats 4000000 in
set_option maxRecDepth 100000 in
theorem w_X1_lay_41 {z : Cz} (X : Cx z cX1_lay 4 RX1) (hR : 1 ≤ (zR z).frames ∧ 21 ≤ (zR z).locals) {res : (Int32 × Sg)} (N : Nat) (x1 : Int32) (x2 : Int32) (K : Sg → Option (Int32 × Sg)) (kx : ∀ (σ : Sg), K σ = some res → V z 0 4 131 [(0, .ref (zA z 20))] [] σ) : ∀ (n : Nat) (x3 : Int32) (σ : Sg), f_X1_lay_41 N x1 x2 K n x3 σ = some res → V z 0 4 41 [(0, .ref (zA z 20)), (1, .int x1), (2, .int x2), (3, .int x3)] [] σ := by
  intro n
  induction n with
  | zero =>
    intro x3 σ h
    rw [f_X1_lay_41] at h
    cases h
  | succ n ih =>
    intro x3 σ h
    rw [f_X1_lay_41] at h
    refine r_iload_n X dX1_lay_41 rfl 3 rfl ?_
    refine r_iload_n X dX1_lay_42 rfl 2 rfl ?_
    refine r_icmp_ge X 131 dX1_lay_43 (by decide) h (fun g10 h => ?_) (fun g10 h => ?_)
    · refine r_sub [0] rfl ?_
      exact kx  σ h
    · refine r_aload_n X dX1_lay_46 rfl 0 rfl ?_
      refine gf_X1_22 X dX1_lay_47 h (fun v11 h => ?_)
      refine r_sipush X 480 dX1_lay_50 (by decide) ?_
      refine r_icmp_ge X 131 dX1_lay_53 (by decide) h (fun g12 h => ?_) (fun g12 h => ?_)
      · refine r_sub [0] rfl ?_
        exact kx  σ h
      · refine r_aload_n X dX1_lay_56 rfl 0 rfl ?_
        refine r_aload_n X dX1_lay_57 rfl 0 rfl ?_
        refine gf_X1_28 X dX1_lay_58 h (fun v13 h => ?_)
        refine r_if_ne X 80 dX1_lay_61 (by decide) h (fun g14 h => ?_) (fun g14 h => ?_)
        · refine r_aload_n X dX1_lay_64 rfl 0 rfl ?_
          refine gf_X1_11 X dX1_lay_65 ?_
          refine r_aload_n X dX1_lay_68 rfl 0 rfl ?_
          refine gf_X1_22 X dX1_lay_69 h (fun v25 h => ?_)
          refine al_21 X dX1_lay_72 h (fun v26 h => ?_)
          refine r_aload_n X dX1_lay_73 rfl 0 rfl ?_
          refine gf_X1_19 X dX1_lay_74 h (fun v27 h => ?_)
          refine r_icmp_le X 84 dX1_lay_77 (by decide) h (fun g28 h => ?_) (fun g28 h => ?_)
          · refine r_iconst X 0 dX1_lay_84 (by decide) ?_
            refine pf_X1_28 X (by decide) dX1_lay_85 h (fun σ29 h => ?_)
            refine r_aload_n X dX1_lay_88 rfl 0 rfl ?_
            refine gf_X1_11 X dX1_lay_89 ?_
            refine r_aload_n X dX1_lay_92 rfl 0 rfl ?_
            refine gf_X1_22 X dX1_lay_93 h (fun v30 h => ?_)
            refine r_aload_n X dX1_lay_96 rfl 0 rfl ?_
            refine gf_X1_11 X dX1_lay_97 ?_
            refine r_aload_n X dX1_lay_100 rfl 0 rfl ?_
            refine gf_X1_22 X dX1_lay_101 h (fun v31 h => ?_)
            refine al_21 X dX1_lay_104 h (fun v32 h => ?_)
            refine r_aload_n X dX1_lay_105 rfl 0 rfl ?_
            refine gf_X1_19 X dX1_lay_106 h (fun v33 h => ?_)
            refine r_iload_n X dX1_lay_109 rfl 1 rfl ?_
            refine r_iadd X dX1_lay_110 ?_
            refine r_mmax X wd2_125 wd2_126 wd1_18 wd_mx (Nat.le_trans (by decide) hR.1) (Nat.le_trans (Nat.le_of_ble_eq_true rfl) hR.2) dX1_lay_111 h (fun v34 h => ?_)
            refine as_21 X dX1_lay_114 h (fun σ35 h => ?_)
            refine r_aload_n X dX1_lay_115 rfl 0 rfl ?_
            refine r_dup X dX1_lay_116 rfl ?_
            refine gf_X1_22 X dX1_lay_117 h (fun v36 h => ?_)
            refine r_iconst X 1 dX1_lay_120 (by decide) ?_
            refine r_iadd X dX1_lay_121 ?_
            refine pf_X1_22 X dX1_lay_122 h (fun σ37 h => ?_)
            refine r_iinc X 1 (fun v38 => [(3, .int v38), (0, .ref (zA z 20)), (1, .int x1), (2, .int x2)]) dX1_lay_125 3 rfl (by decide) (by decide) (fun _ => rfl) h (fun v38 h => ?_)
            refine r_goto X 41 dX1_lay_128 (by decide) ?_
            refine r_sub [1, 2, 3, 0] rfl ?_
            exact ih v38 σ37 h
          · refine r_iconst X 1 dX1_lay_80 (by decide) ?_
            refine r_goto X 85 dX1_lay_81 (by decide) ?_
            refine pf_X1_28 X (by decide) dX1_lay_85 h (fun σ39 h => ?_)
            refine r_aload_n X dX1_lay_88 rfl 0 rfl ?_
            refine gf_X1_11 X dX1_lay_89 ?_
            refine r_aload_n X dX1_lay_92 rfl 0 rfl ?_
            refine gf_X1_22 X dX1_lay_93 h (fun v40 h => ?_)
            refine r_aload_n X dX1_lay_96 rfl 0 rfl ?_
            refine gf_X1_11 X dX1_lay_97 ?_
            refine r_aload_n X dX1_lay_100 rfl 0 rfl ?_
            refine gf_X1_22 X dX1_lay_101 h (fun v41 h => ?_)
            refine al_21 X dX1_lay_104 h (fun v42 h => ?_)
            refine r_aload_n X dX1_lay_105 rfl 0 rfl ?_
            refine gf_X1_19 X dX1_lay_106 h (fun v43 h => ?_)
            refine r_iload_n X dX1_lay_109 rfl 1 rfl ?_
            refine r_iadd X dX1_lay_110 ?_
            refine r_mmax X wd2_125 wd2_126 wd1_18 wd_mx (Nat.le_trans (by decide) hR.1) (Nat.le_trans (Nat.le_of_ble_eq_true rfl) hR.2) dX1_lay_111 h (fun v44 h => ?_)
            refine as_21 X dX1_lay_114 h (fun σ45 h => ?_)
            refine r_aload_n X dX1_lay_115 rfl 0 rfl ?_
            refine r_dup X dX1_lay_116 rfl ?_
            refine gf_X1_22 X dX1_lay_117 h (fun v46 h => ?_)
            refine r_iconst X 1 dX1_lay_120 (by decide) ?_
            refine r_iadd X dX1_lay_121 ?_
            refine pf_X1_22 X dX1_lay_122 h (fun σ47 h => ?_)
            refine r_iinc X 1 (fun v48 => [(3, .int v48), (0, .ref (zA z 20)), (1, .int x1), (2, .int x2)]) dX1_lay_125 3 rfl (by decide) (by decide) (fun _ => rfl) h (fun v48 h => ?_)
            refine r_goto X 41 dX1_lay_128 (by decide) ?_
            refine r_sub [1, 2, 3, 0] rfl ?_
            exact ih v48 σ47 h
        · refine r_iconst X 1 dX1_lay_80 (by decide) ?_
          refine r_goto X 85 dX1_lay_81 (by decide) ?_
          refine pf_X1_28 X (by decide) dX1_lay_85 h (fun σ15 h => ?_)
          refine r_aload_n X dX1_lay_88 rfl 0 rfl ?_
          refine gf_X1_11 X dX1_lay_89 ?_
          refine r_aload_n X dX1_lay_92 rfl 0 rfl ?_
          refine gf_X1_22 X dX1_lay_93 h (fun v16 h => ?_)
          refine r_aload_n X dX1_lay_96 rfl 0 rfl ?_
          refine gf_X1_11 X dX1_lay_97 ?_
          refine r_aload_n X dX1_lay_100 rfl 0 rfl ?_
          refine gf_X1_22 X dX1_lay_101 h (fun v17 h => ?_)
          refine al_21 X dX1_lay_104 h (fun v18 h => ?_)
          refine r_aload_n X dX1_lay_105 rfl 0 rfl ?_
          refine gf_X1_19 X dX1_lay_106 h (fun v19 h => ?_)
          refine r_iload_n X dX1_lay_109 rfl 1 rfl ?_
          refine r_iadd X dX1_lay_110 ?_
          refine r_mmax X wd2_125 wd2_126 wd1_18 wd_mx (Nat.le_trans (by decide) hR.1) (Nat.le_trans (Nat.le_of_ble_eq_true rfl) hR.2) dX1_lay_111 h (fun v20 h => ?_)
          refine as_21 X dX1_lay_114 h (fun σ21 h => ?_)
          refine r_aload_n X dX1_lay_115 rfl 0 rfl ?_
          refine r_dup X dX1_lay_116 rfl ?_
          refine gf_X1_22 X dX1_lay_117 h (fun v22 h => ?_)
          refine r_iconst X 1 dX1_lay_120 (by decide) ?_
          refine r_iadd X dX1_lay_121 ?_
          refine pf_X1_22 X dX1_lay_122 h (fun σ23 h => ?_)
          refine r_iinc X 1 (fun v24 => [(3, .int v24), (0, .ref (zA z 20)), (1, .int x1), (2, .int x2)]) dX1_lay_125 3 rfl (by decide) (by decide) (fun _ => rfl) h (fun v24 h => ?_)
          refine r_goto X 41 dX1_lay_128 (by decide) ?_
          refine r_sub [1, 2, 3, 0] rfl ?_
          exact ih v24 σ23 h
set_option maxHeartbeats 4000000 in
set_option maxRecDepth 100000 in
theorem w_X1_lay {z : Cz} (X : Cx z cX1_lay 4 RX1) (hR : 1 ≤ (zR z).frames ∧ 21 ≤ (zR z).locals) {res : (Int32 × Sg)} (Rt : RtV z cX1_lay 4 res) (N : Nat) (a1 : Int32) (a2 : Int32) (σ : Sg) (h : f_X1_lay N a1 a2 σ = some res) : V z 0 4 0 [(0, .ref (zA z 20)), (1, .int a1), (2, .int a2)] [] σ := by
  rw [f_X1_lay] at h
  refine r_sub [0, 1, 2] rfl ?_
  refine w_X1_lay_0 X hR N a1 a2 _ (fun σ9 h => ?_) N σ h
  refine r_iconst X 0 dX1_lay_39 (by decide) ?_
  refine r_istore_n X [(3, .int 0), (0, .ref (zA z 20)), (1, .int a1), (2, .int a2)] dX1_lay_40 rfl (by decide) rfl ?_
  refine r_sub [1, 2, 3, 0] rfl ?_
  refine w_X1_lay_41 X hR N a1 a2 _ (fun σ49 h => ?_) N 0 σ9 h
  refine r_aload_n X dX1_lay_131 rfl 0 rfl ?_
  refine r_aload_n X dX1_lay_132 rfl 0 rfl ?_
  refine gf_X1_15 X dX1_lay_133 h (fun v50 h => ?_)
  refine r_aload_n X dX1_lay_136 rfl 0 rfl ?_
  refine gf_X1_22 X dX1_lay_137 h (fun v51 h => ?_)
  refine r_mmax X wd2_125 wd2_126 wd1_18 wd_mx (Nat.le_trans (by decide) hR.1) (Nat.le_trans (Nat.le_of_ble_eq_true rfl) hR.2) dX1_lay_140 h (fun v52 h => ?_)
  refine pf_X1_15 X dX1_lay_143 h (fun σ53 h => ?_)
  exact r_vret Rt dX1_lay_146 h
theorem c_X1_lay (l : Launch) (hl : l.stackTraces = false) (N : Nat) (D : va_G) (cy : Nat → ClassId) (ad sa : Nat → Nat) (a1 : Int32) (a2 : Int32) (σ : Sg) : CtV l yX1_lay cX1_lay 4 1 21 D cy ad sa [.ref (ad 20), .int a1, .int a2] σ (f_X1_lay N a1 a2 σ) :=
  ct_V hl (by decide +kernel) (Nat.le_of_ble_eq_true rfl) (fun z res e1 e2 e3 e4 e5 e6 X Rt h => by subst e1 e2 e3 e4 e5; exact w_X1_lay X ⟨e6.1, e6.2⟩ Rt N a1 a2 σ h)
def f_X1_endRow_5 (N : Nat) (K : Int32 → Sg → Option (Int32 × Sg)) : Nat → Int32 → Sg → Option (Int32 × Sg)
  | 0, _, _ => none
  | n + 1, x1, σ => if x1 ≤ 0 then (K x1 σ) else (rdA 480 (σ 21) (x1 - 1) (fun v3 => lt (σ 20 2) (fun v4 => if v4 < v3 then (K x1 σ) else (lt (x1 + (-1)) (fun v6 => f_X1_endRow_5 N K n v6 σ)))))
def f_X1_endRow (N : Nat) (σ : Sg) : Option (Int32 × Sg) := lt (σ 20 1) (fun v1 => f_X1_endRow_5 N (fun v7 σ8 => lt (σ8 20 5) (fun v9 => if v9 = 0 then (lt (σ8 20 4) (fun v15 => if v15 = (-1) then (st (ss σ8 20 5 0) (fun σ17 => st (ss σ17 20 4 v7) (fun σ18 => lt (σ18 20 2) (fun v19 => st (ss σ18 20 2 (v19 + 1)) (fun σ20 => some (0, σ20)))))) else (lt (σ8 20 4) (fun v21 => if v21 = v7 then (st (ss σ8 20 5 0) (fun σ23 => st (ss σ23 20 4 v7) (fun σ24 => lt (σ24 20 2) (fun v25 => st (ss σ24 20 2 (v25 + 1)) (fun σ26 => some (0, σ26)))))) else (st (ss σ8 20 5 1) (fun σ27 => st (ss σ27 20 4 v7) (fun σ28 => lt (σ28 20 2) (fun v29 => st (ss σ28 20 2 (v29 + 1)) (fun σ30 => some (0, σ30)))))))))) else (st (ss σ8 20 5 1) (fun σ11 => st (ss σ11 20 4 v7) (fun σ12 => lt (σ12 20 2) (fun v13 => st (ss σ12 20 2 (v13 + 1)) (fun σ14 => some (0, σ14)))))))) N v1 σ)
set_option maxHeartbeats 4000000 in
set_option maxRecDepth 100000 in
theorem w_X1_endRow_5 {z : Cz} (X : Cx z cX1_endRow 2 RX1) (hR : 0 ≤ (zR z).frames ∧ 0 ≤ (zR z).locals) {res : (Int32 × Sg)} (N : Nat) (K : Int32 → Sg → Option (Int32 × Sg)) (kx : ∀ (y1 : Int32) (σ : Sg), K y1 σ = some res → V z 0 2 30 [(0, .ref (zA z 20)), (1, .int y1)] [] σ) : ∀ (n : Nat) (x1 : Int32) (σ : Sg), f_X1_endRow_5 N K n x1 σ = some res → V z 0 2 5 [(0, .ref (zA z 20)), (1, .int x1)] [] σ := by
  intro n
  induction n with
  | zero =>
    intro x1 σ h
    rw [f_X1_endRow_5] at h
    cases h
  | succ n ih =>
    intro x1 σ h
    rw [f_X1_endRow_5] at h
    refine r_iload_n X dX1_endRow_5 rfl 1 rfl ?_
    refine r_if_le X 30 dX1_endRow_6 (by decide) h (fun g2 h => ?_) (fun g2 h => ?_)
    · refine r_sub [0, 1] rfl ?_
      exact kx x1 σ h
    · refine r_aload_n X dX1_endRow_9 rfl 0 rfl ?_
      refine gf_X1_11 X dX1_endRow_10 ?_
      refine r_iload_n X dX1_endRow_13 rfl 1 rfl ?_
      refine r_iconst X 1 dX1_endRow_14 (by decide) ?_
      refine r_isub X dX1_endRow_15 ?_
      refine al_21 X dX1_endRow_16 h (fun v3 h => ?_)
      refine r_aload_n X dX1_endRow_17 rfl 0 rfl ?_
      refine gf_X1_19 X dX1_endRow_18 h (fun v4 h => ?_)
      refine r_icmp_gt X 30 dX1_endRow_21 (by decide) h (fun g5 h => ?_) (fun g5 h => ?_)
      · refine r_sub [0, 1] rfl ?_
        exact kx x1 σ h
      · refine r_iinc X (-1) (fun v6 => [(1, .int v6), (0, .ref (zA z 20))]) dX1_endRow_24 1 rfl (by decide) (by decide) (fun _ => rfl) h (fun v6 h => ?_)
        refine r_goto X 5 dX1_endRow_27 (by decide) ?_
        refine r_sub [1, 0] rfl ?_
        exact ih v6 σ h
set_option maxHeartbeats 4000000 in
set_option maxRecDepth 100000 in
theorem w_X1_endRow {z : Cz} (X : Cx z cX1_endRow 2 RX1) (hR : 0 ≤ (zR z).frames ∧ 0 ≤ (zR z).locals) {res : (Int32 × Sg)} (Rt : RtV z cX1_endRow 2 res) (N : Nat) (σ : Sg) (h : f_X1_endRow N σ = some res) : V z 0 2 0 [(0, .ref (zA z 20))] [] σ := by
  rw [f_X1_endRow] at h
  refine r_aload_n X dX1_endRow_0 rfl 0 rfl ?_
  refine gf_X1_15 X dX1_endRow_1 h (fun v1 h => ?_)
  refine r_istore_n X [(1, .int v1), (0, .ref (zA z 20))] dX1_endRow_4 rfl (by decide) rfl ?_
  refine r_sub [1, 0] rfl ?_
  refine w_X1_endRow_5 X hR N _ (fun v7 σ8 h => ?_) N v1 σ h
  refine r_aload_n X dX1_endRow_30 rfl 0 rfl ?_
  refine r_aload_n X dX1_endRow_31 rfl 0 rfl ?_
  refine gf_X1_28 X dX1_endRow_32 h (fun v9 h => ?_)
  refine r_if_ne X 54 dX1_endRow_35 (by decide) h (fun g10 h => ?_) (fun g10 h => ?_)
  · refine r_aload_n X dX1_endRow_38 rfl 0 rfl ?_
    refine gf_X1_25 X dX1_endRow_39 h (fun v15 h => ?_)
    refine r_iconst X (-1) dX1_endRow_42 (by decide) ?_
    refine r_icmp_eq X 58 dX1_endRow_43 (by decide) h (fun g16 h => ?_) (fun g16 h => ?_)
    · refine r_iconst X 0 dX1_endRow_58 (by decide) ?_
      refine pf_X1_28 X (by decide) dX1_endRow_59 h (fun σ17 h => ?_)
      refine r_aload_n X dX1_endRow_62 rfl 0 rfl ?_
      refine r_iload_n X dX1_endRow_63 rfl 1 rfl ?_
      refine pf_X1_25 X dX1_endRow_64 h (fun σ18 h => ?_)
      refine r_aload_n X dX1_endRow_67 rfl 0 rfl ?_
      refine r_dup X dX1_endRow_68 rfl ?_
      refine gf_X1_19 X dX1_endRow_69 h (fun v19 h => ?_)
      refine r_iconst X 1 dX1_endRow_72 (by decide) ?_
      refine r_iadd X dX1_endRow_73 ?_
      refine pf_X1_19 X dX1_endRow_74 h (fun σ20 h => ?_)
      exact r_vret Rt dX1_endRow_77 h
    · refine r_aload_n X dX1_endRow_46 rfl 0 rfl ?_
      refine gf_X1_25 X dX1_endRow_47 h (fun v21 h => ?_)
      refine r_iload_n X dX1_endRow_50 rfl 1 rfl ?_
      refine r_icmp_eq X 58 dX1_endRow_51 (by decide) h (fun g22 h => ?_) (fun g22 h => ?_)
      · refine r_iconst X 0 dX1_endRow_58 (by decide) ?_
        refine pf_X1_28 X (by decide) dX1_endRow_59 h (fun σ23 h => ?_)
        refine r_aload_n X dX1_endRow_62 rfl 0 rfl ?_
        refine r_iload_n X dX1_endRow_63 rfl 1 rfl ?_
        refine pf_X1_25 X dX1_endRow_64 h (fun σ24 h => ?_)
        refine r_aload_n X dX1_endRow_67 rfl 0 rfl ?_
        refine r_dup X dX1_endRow_68 rfl ?_
        refine gf_X1_19 X dX1_endRow_69 h (fun v25 h => ?_)
        refine r_iconst X 1 dX1_endRow_72 (by decide) ?_
        refine r_iadd X dX1_endRow_73 ?_
        refine pf_X1_19 X dX1_endRow_74 h (fun σ26 h => ?_)
        exact r_vret Rt dX1_endRow_77 h
      · refine r_iconst X 1 dX1_endRow_54 (by decide) ?_
        refine r_goto X 59 dX1_endRow_55 (by decide) ?_
        refine pf_X1_28 X (by decide) dX1_endRow_59 h (fun σ27 h => ?_)
        refine r_aload_n X dX1_endRow_62 rfl 0 rfl ?_
        refine r_iload_n X dX1_endRow_63 rfl 1 rfl ?_
        refine pf_X1_25 X dX1_endRow_64 h (fun σ28 h => ?_)
        refine r_aload_n X dX1_endRow_67 rfl 0 rfl ?_
        refine r_dup X dX1_endRow_68 rfl ?_
        refine gf_X1_19 X dX1_endRow_69 h (fun v29 h => ?_)
        refine r_iconst X 1 dX1_endRow_72 (by decide) ?_
        refine r_iadd X dX1_endRow_73 ?_
        refine pf_X1_19 X dX1_endRow_74 h (fun σ30 h => ?_)
        exact r_vret Rt dX1_endRow_77 h
  · refine r_iconst X 1 dX1_endRow_54 (by decide) ?_
    refine r_goto X 59 dX1_endRow_55 (by decide) ?_
    refine pf_X1_28 X (by decide) dX1_endRow_59 h (fun σ11 h => ?_)
    refine r_aload_n X dX1_endRow_62 rfl 0 rfl ?_
    refine r_iload_n X dX1_endRow_63 rfl 1 rfl ?_
    refine pf_X1_25 X dX1_endRow_64 h (fun σ12 h => ?_)
    refine r_aload_n X dX1_endRow_67 rfl 0 rfl ?_
    refine r_dup X dX1_endRow_68 rfl ?_
    refine gf_X1_19 X dX1_endRow_69 h (fun v13 h => ?_)
    refine r_iconst X 1 dX1_endRow_72 (by decide) ?_
    refine r_iadd X dX1_endRow_73 ?_
    refine pf_X1_19 X dX1_endRow_74 h (fun σ14 h => ?_)
    exact r_vret Rt dX1_endRow_77 h
theorem c_X1_endRow (l : Launch) (hl : l.stackTraces = false) (N : Nat) (D : va_G) (cy : Nat → ClassId) (ad sa : Nat → Nat) (σ : Sg) : CtV l yX1_endRow cX1_endRow 2 0 0 D cy ad sa [.ref (ad 20)] σ (f_X1_endRow N σ) :=
  ct_V hl (by decide +kernel) (Nat.le_of_ble_eq_true rfl) (fun z res e1 e2 e3 e4 e5 e6 X Rt h => by subst e1 e2 e3 e4 e5; exact w_X1_endRow X ⟨e6.1, e6.2⟩ Rt N σ h)
def f_X2_depthBehind_7 (N : Nat) (x1 : Int32) (K : Sg → Option (Int32 × Sg)) : Nat → Int32 → Sg → Option (Int32 × Sg)
  | 0, _, _ => none
  | n + 1, x2, σ => if x2 < 0 then (K σ) else (rdA 60 (σ 18) x2 (fun v4 => if x1 ≤ v4 then (lt (x2 + (-1)) (fun v6 => f_X2_depthBehind_7 N x1 K n v6 σ)) else (rdA 60 (σ 19) x2 (fun v7 => some (v7 + 1, σ)))))
def f_X2_depthBehind (N : Nat) (a1 : Int32) (σ : Sg) : Option (Int32 × Sg) := lt (σ 16 3) (fun v1 => lt (v1 - 1) (fun v2 => f_X2_depthBehind_7 N a1 (fun σ8 => some (0, σ8)) N v2 σ))
set_option maxHeartbeats 4000000 in
set_option maxRecDepth 100000 in
theorem w_X2_depthBehind_7 {z : Cz} (X : Cx z cX2_depthBehind 3 RX2) (hR : 0 ≤ (zR z).frames ∧ 0 ≤ (zR z).locals) {res : (Int32 × Sg)} (Rt : RtI z cX2_depthBehind 3 .int res) (N : Nat) (x1 : Int32) (K : Sg → Option (Int32 × Sg)) (kx : ∀ (σ : Sg), K σ = some res → V z 0 3 36 [] [] σ) : ∀ (n : Nat) (x2 : Int32) (σ : Sg), f_X2_depthBehind_7 N x1 K n x2 σ = some res → V z 0 3 7 [(0, .ref (zA z 16)), (1, .int x1), (2, .int x2)] [] σ := by
  intro n
  induction n with
  | zero =>
    intro x2 σ h
    rw [f_X2_depthBehind_7] at h
    cases h
  | succ n ih =>
    intro x2 σ h
    rw [f_X2_depthBehind_7] at h
    refine r_iload_n X dX2_depthBehind_7 rfl 2 rfl ?_
    refine r_if_lt X 36 dX2_depthBehind_8 (by decide) h (fun g3 h => ?_) (fun g3 h => ?_)
    · refine r_sub [] rfl ?_
      exact kx  σ h
    · refine r_aload_n X dX2_depthBehind_11 rfl 0 rfl ?_
      refine gf_X2_15 X dX2_depthBehind_12 ?_
      refine r_iload_n X dX2_depthBehind_15 rfl 2 rfl ?_
      refine al_18 X dX2_depthBehind_16 h (fun v4 h => ?_)
      refine r_iload_n X dX2_depthBehind_17 rfl 1 rfl ?_
      refine r_icmp_ge X 30 dX2_depthBehind_18 (by decide) h (fun g5 h => ?_) (fun g5 h => ?_)
      · refine r_iinc X (-1) (fun v6 => [(2, .int v6), (0, .ref (zA z 16)), (1, .int x1)]) dX2_depthBehind_30 2 rfl (by decide) (by decide) (fun _ => rfl) h (fun v6 h => ?_)
        refine r_goto X 7 dX2_depthBehind_33 (by decide) ?_
        refine r_sub [1, 2, 0] rfl ?_
        exact ih v6 σ h
      · refine r_aload_n X dX2_depthBehind_21 rfl 0 rfl ?_
        refine gf_X2_18 X dX2_depthBehind_22 ?_
        refine r_iload_n X dX2_depthBehind_25 rfl 2 rfl ?_
        refine al_19 X dX2_depthBehind_26 h (fun v7 h => ?_)
        refine r_iconst X 1 dX2_depthBehind_27 (by decide) ?_
        refine r_iadd X dX2_depthBehind_28 ?_
        exact r_iret Rt dX2_depthBehind_29 h
set_option maxHeartbeats 4000000 in
set_option maxRecDepth 100000 in
theorem w_X2_depthBehind {z : Cz} (X : Cx z cX2_depthBehind 3 RX2) (hR : 0 ≤ (zR z).frames ∧ 0 ≤ (zR z).locals) {res : (Int32 × Sg)} (Rt : RtI z cX2_depthBehind 3 .int res) (N : Nat) (a1 : Int32) (σ : Sg) (h : f_X2_depthBehind N a1 σ = some res) : V z 0 3 0 [(0, .ref (zA z 16)), (1, .int a1)] [] σ := by
  rw [f_X2_depthBehind] at h
  refine r_aload_n X dX2_depthBehind_0 rfl 0 rfl ?_
  refine gf_X2_21 X dX2_depthBehind_1 h (fun v1 h => ?_)
  refine r_iconst X 1 dX2_depthBehind_4 (by decide) ?_
  refine r_isub X dX2_depthBehind_5 ?_
  refine r_lt h (fun v2 h => ?_)
  refine r_istore_n X [(2, .int v2), (0, .ref (zA z 16)), (1, .int a1)] dX2_depthBehind_6 rfl (by decide) rfl ?_
  refine r_sub [1, 2, 0] rfl ?_
  refine w_X2_depthBehind_7 X hR Rt N a1 _ (fun σ8 h => ?_) N v2 σ h
  refine r_iconst X 0 dX2_depthBehind_36 (by decide) ?_
  exact r_iret Rt dX2_depthBehind_37 h
theorem c_X2_depthBehind (l : Launch) (hl : l.stackTraces = false) (N : Nat) (D : va_G) (cy : Nat → ClassId) (ad sa : Nat → Nat) (a1 : Int32) (σ : Sg) : CtI l yX2_depthBehind cX2_depthBehind 3 (some .int) 0 0 D cy ad sa [.ref (ad 16), .int a1] σ (f_X2_depthBehind N a1 σ) :=
  ct_I hl (by decide +kernel) (Nat.le_of_ble_eq_true rfl) (fun z res e1 e2 e3 e4 e5 e6 X Rt h => by subst e1 e2 e3 e4 e5; exact w_X2_depthBehind X ⟨e6.1, e6.2⟩ Rt N a1 σ h)
def f_X2_append (N : Nat) (a1 : Int32) (a2 : Int32) (σ : Sg) : Option (Int32 × Sg) := lt (σ 16 3) (fun v1 => if 60 ≤ v1 then (some (0, σ)) else (lt (σ 16 3) (fun v3 => wrA 60 σ 17 v3 a1 (fun σ4 => lt (σ4 16 3) (fun v5 => wrA 60 σ4 18 v5 a2 (fun σ6 => lt (σ6 16 3) (fun v7 => cI (f_X2_depthBehind N a2 σ6) (fun v8 σ9 => wrA 60 σ9 19 v7 v8 (fun σ10 => lt (σ10 16 3) (fun v11 => st (ss σ10 16 3 (v11 + 1)) (fun σ12 => some (0, σ12))))))))))))
set_option maxHeartbeats 4000000 in
set_option maxRecDepth 100000 in
theorem w_X2_append {z : Cz} (X : Cx z cX2_append 3 RX2) (hR : 1 ≤ (zR z).frames ∧ 22 ≤ (zR z).locals) {res : (Int32 × Sg)} (Rt : RtV z cX2_append 3 res) (N : Nat) (a1 : Int32) (a2 : Int32) (σ : Sg) (h : f_X2_append N a1 a2 σ = some res) : V z 0 3 0 [(0, .ref (zA z 16)), (1, .int a1), (2, .int a2)] [] σ := by
  rw [f_X2_append] at h
  refine r_aload_n X dX2_append_0 rfl 0 rfl ?_
  refine gf_X2_21 X dX2_append_1 h (fun v1 h => ?_)
  refine r_bipush X 60 dX2_append_4 (by decide) ?_
  refine r_icmp_ge X 53 dX2_append_6 (by decide) h (fun g2 h => ?_) (fun g2 h => ?_)
  · exact r_vret Rt dX2_append_53 h
  · refine r_aload_n X dX2_append_9 rfl 0 rfl ?_
    refine gf_X2_9 X dX2_append_10 ?_
    refine r_aload_n X dX2_append_13 rfl 0 rfl ?_
    refine gf_X2_21 X dX2_append_14 h (fun v3 h => ?_)
    refine r_iload_n X dX2_append_17 rfl 1 rfl ?_
    refine as_17 X dX2_append_18 h (fun σ4 h => ?_)
    refine r_aload_n X dX2_append_19 rfl 0 rfl ?_
    refine gf_X2_15 X dX2_append_20 ?_
    refine r_aload_n X dX2_append_23 rfl 0 rfl ?_
    refine gf_X2_21 X dX2_append_24 h (fun v5 h => ?_)
    refine r_iload_n X dX2_append_27 rfl 2 rfl ?_
    refine as_18 X dX2_append_28 h (fun σ6 h => ?_)
    refine r_aload_n X dX2_append_29 rfl 0 rfl ?_
    refine gf_X2_18 X dX2_append_30 ?_
    refine r_aload_n X dX2_append_33 rfl 0 rfl ?_
    refine gf_X2_21 X dX2_append_34 h (fun v7 h => ?_)
    refine r_aload_n X dX2_append_37 rfl 0 rfl ?_
    refine r_iload_n X dX2_append_38 rfl 2 rfl ?_
    refine r_callV X 16 2 (by decide) rfl rfl rfl lk_X2_25 (c_X2_depthBehind (zl z) X.2.2.2.2.2.2.2.1 N (zD z) (zy z) (zA z) (zS z) a2 σ6) ⟨Nat.le_trans (by decide) hR.1, Nat.le_trans (by decide) hR.2⟩ rfl rfl (Nat.le_of_ble_eq_true rfl) dX2_append_39 h (fun v8 σ9 h => ?_)
    refine as_19 X dX2_append_42 h (fun σ10 h => ?_)
    refine r_aload_n X dX2_append_43 rfl 0 rfl ?_
    refine r_dup X dX2_append_44 rfl ?_
    refine gf_X2_21 X dX2_append_45 h (fun v11 h => ?_)
    refine r_iconst X 1 dX2_append_48 (by decide) ?_
    refine r_iadd X dX2_append_49 ?_
    refine pf_X2_21 X dX2_append_50 h (fun σ12 h => ?_)
    exact r_vret Rt dX2_append_53 h
theorem c_X2_append (l : Launch) (hl : l.stackTraces = false) (N : Nat) (D : va_G) (cy : Nat → ClassId) (ad sa : Nat → Nat) (a1 : Int32) (a2 : Int32) (σ : Sg) : CtV l yX2_append cX2_append 3 1 22 D cy ad sa [.ref (ad 16), .int a1, .int a2] σ (f_X2_append N a1 a2 σ) :=
  ct_V hl (by decide +kernel) (Nat.le_of_ble_eq_true rfl) (fun z res e1 e2 e3 e4 e5 e6 X Rt h => by subst e1 e2 e3 e4 e5; exact w_X2_append X ⟨e6.1, e6.2⟩ Rt N a1 a2 σ h)
def f_X3_show (N : Nat) (a1 : Int32) (a2 : Int32) (σ : Sg) : Option (Int32 × Sg) := lt (a1 * 20) (fun v1 => rdA 10 (σ 15) a1 (fun v2 => rdA 200 (σ 14) (v1 + a2) (fun v3 => if v3 = (-1) then (if v2 < 20 then (wrA 200 σ 13 (v1 + v2) (v1 + a2) (fun σ6 => wrA 200 σ6 14 (v1 + a2) v2 (fun σ7 => rdA 10 (σ7 15) a1 (fun v8 => wrA 10 σ7 15 a1 (v8 + 1) (fun σ9 => rdA 10 (σ9 15) a1 (fun v10 => some (v10, σ9))))))) else (some (0, σ))) else (some (0, σ)))))
set_option maxHeartbeats 4000000 in
set_option maxRecDepth 100000 in
theorem w_X3_show {z : Cz} (X : Cx z cX3_show 5 RX3) (hR : 0 ≤ (zR z).frames ∧ 0 ≤ (zR z).locals) {res : (Int32 × Sg)} (Rt : RtI z cX3_show 5 .int res) (N : Nat) (a1 : Int32) (a2 : Int32) (σ : Sg) (h : f_X3_show N a1 a2 σ = some res) : V z 0 5 0 [(0, .ref (zA z 12)), (1, .int a1), (2, .int a2)] [] σ := by
  rw [f_X3_show] at h
  refine r_iload_n X dX3_show_0 rfl 1 rfl ?_
  refine r_bipush X 20 dX3_show_1 (by decide) ?_
  refine r_imul X dX3_show_3 ?_
  refine r_lt h (fun v1 h => ?_)
  refine r_istore_n X [(3, .int v1), (0, .ref (zA z 12)), (1, .int a1), (2, .int a2)] dX3_show_4 rfl (by decide) rfl ?_
  refine r_aload_n X dX3_show_5 rfl 1 rfl ?_
  refine gf_X3_18 X dX3_show_6 ?_
  refine r_iload_n X dX3_show_9 rfl 2 rfl ?_
  refine al_15 X dX3_show_10 h (fun v2 h => ?_)
  refine r_istore X [(4, .int v2), (3, .int v1), (0, .ref (zA z 12)), (1, .int a1), (2, .int a2)] dX3_show_11 (by decide) rfl ?_
  refine r_aload_n X dX3_show_13 rfl 2 rfl ?_
  refine gf_X3_15 X dX3_show_14 ?_
  refine r_iload_n X dX3_show_17 rfl 1 rfl ?_
  refine r_iload_n X dX3_show_18 rfl 4 rfl ?_
  refine r_iadd X dX3_show_19 ?_
  refine al_14 X dX3_show_20 h (fun v3 h => ?_)
  refine r_iconst X (-1) dX3_show_21 (by decide) ?_
  refine r_icmp_ne X 32 dX3_show_22 (by decide) h (fun g4 h => ?_) (fun g4 h => ?_)
  · refine r_iload X dX3_show_25 0 rfl ?_
    refine r_bipush X 20 dX3_show_27 (by decide) ?_
    refine r_icmp_lt X 34 dX3_show_29 (by decide) h (fun g5 h => ?_) (fun g5 h => ?_)
    · refine r_aload_n X dX3_show_34 rfl 2 rfl ?_
      refine gf_X3_9 X dX3_show_35 ?_
      refine r_iload_n X dX3_show_38 rfl 1 rfl ?_
      refine r_iload X dX3_show_39 0 rfl ?_
      refine r_iadd X dX3_show_41 ?_
      refine r_iload_n X dX3_show_42 rfl 1 rfl ?_
      refine r_iload_n X dX3_show_43 rfl 4 rfl ?_
      refine r_iadd X dX3_show_44 ?_
      refine as_13 X dX3_show_45 h (fun σ6 h => ?_)
      refine r_aload_n X dX3_show_46 rfl 2 rfl ?_
      refine gf_X3_15 X dX3_show_47 ?_
      refine r_iload_n X dX3_show_50 rfl 1 rfl ?_
      refine r_iload_n X dX3_show_51 rfl 4 rfl ?_
      refine r_iadd X dX3_show_52 ?_
      refine r_iload X dX3_show_53 0 rfl ?_
      refine as_14 X dX3_show_55 h (fun σ7 h => ?_)
      refine r_aload_n X dX3_show_56 rfl 2 rfl ?_
      refine gf_X3_18 X dX3_show_57 ?_
      refine r_iload_n X dX3_show_60 rfl 3 rfl ?_
      refine r_dup2 X dX3_show_61 rfl rfl ?_
      refine al_15 X dX3_show_62 h (fun v8 h => ?_)
      refine r_iconst X 1 dX3_show_63 (by decide) ?_
      refine r_iadd X dX3_show_64 ?_
      refine as_15 X dX3_show_65 h (fun σ9 h => ?_)
      refine r_aload_n X dX3_show_66 rfl 2 rfl ?_
      refine gf_X3_18 X dX3_show_67 ?_
      refine r_iload_n X dX3_show_70 rfl 3 rfl ?_
      refine al_15 X dX3_show_71 h (fun v10 h => ?_)
      exact r_iret Rt dX3_show_72 h
    · refine r_iconst X 0 dX3_show_32 (by decide) ?_
      exact r_iret Rt dX3_show_33 h
  · refine r_iconst X 0 dX3_show_32 (by decide) ?_
    exact r_iret Rt dX3_show_33 h
theorem c_X3_show (l : Launch) (hl : l.stackTraces = false) (N : Nat) (D : va_G) (cy : Nat → ClassId) (ad sa : Nat → Nat) (a1 : Int32) (a2 : Int32) (σ : Sg) : CtI l yX3_show cX3_show 5 (some .int) 0 0 D cy ad sa [.ref (ad 12), .int a1, .int a2] σ (f_X3_show N a1 a2 σ) :=
  ct_I hl (by decide +kernel) (Nat.le_of_ble_eq_true rfl) (fun z res e1 e2 e3 e4 e5 e6 X Rt h => by subst e1 e2 e3 e4 e5; exact w_X3_show X ⟨e6.1, e6.2⟩ Rt N a1 a2 σ h)
def f_X3_shownBy (N : Nat) (a1 : Int32) (σ : Sg) : Option (Int32 × Sg) := rdA 10 (σ 15) a1 (fun v1 => some (v1, σ))
set_option maxHeartbeats 4000000 in
set_option maxRecDepth 100000 in
theorem w_X3_shownBy {z : Cz} (X : Cx z cX3_shownBy 2 RX3) (hR : 0 ≤ (zR z).frames ∧ 0 ≤ (zR z).locals) {res : (Int32 × Sg)} (Rt : RtI z cX3_shownBy 2 .int res) (N : Nat) (a1 : Int32) (σ : Sg) (h : f_X3_shownBy N a1 σ = some res) : V z 0 2 0 [(0, .ref (zA z 12)), (1, .int a1)] [] σ := by
  rw [f_X3_shownBy] at h
  refine r_aload_n X dX3_shownBy_0 rfl 0 rfl ?_
  refine gf_X3_18 X dX3_shownBy_1 ?_
  refine r_iload_n X dX3_shownBy_4 rfl 1 rfl ?_
  refine al_15 X dX3_shownBy_5 h (fun v1 h => ?_)
  exact r_iret Rt dX3_shownBy_6 h
theorem c_X3_shownBy (l : Launch) (hl : l.stackTraces = false) (N : Nat) (D : va_G) (cy : Nat → ClassId) (ad sa : Nat → Nat) (a1 : Int32) (σ : Sg) : CtI l yX3_shownBy cX3_shownBy 2 (some .int) 0 0 D cy ad sa [.ref (ad 12), .int a1] σ (f_X3_shownBy N a1 σ) :=
  ct_I hl (by decide +kernel) (Nat.le_of_ble_eq_true rfl) (fun z res e1 e2 e3 e4 e5 e6 X Rt h => by subst e1 e2 e3 e4 e5; exact w_X3_shownBy X ⟨e6.1, e6.2⟩ Rt N a1 σ h)
def f_X3_codeAt (N : Nat) (a1 : Int32) (a2 : Int32) (σ : Sg) : Option (Int32 × Sg) := rdA 200 (σ 13) ((a1 * 20) + a2) (fun v1 => some (v1, σ))
set_option maxHeartbeats 4000000 in
set_option maxRecDepth 100000 in
theorem w_X3_codeAt {z : Cz} (X : Cx z cX3_codeAt 3 RX3) (hR : 0 ≤ (zR z).frames ∧ 0 ≤ (zR z).locals) {res : (Int32 × Sg)} (Rt : RtI z cX3_codeAt 3 .int res) (N : Nat) (a1 : Int32) (a2 : Int32) (σ : Sg) (h : f_X3_codeAt N a1 a2 σ = some res) : V z 0 3 0 [(0, .ref (zA z 12)), (1, .int a1), (2, .int a2)] [] σ := by
  rw [f_X3_codeAt] at h
  refine r_aload_n X dX3_codeAt_0 rfl 0 rfl ?_
  refine gf_X3_9 X dX3_codeAt_1 ?_
  refine r_iload_n X dX3_codeAt_4 rfl 1 rfl ?_
  refine r_bipush X 20 dX3_codeAt_5 (by decide) ?_
  refine r_imul X dX3_codeAt_7 ?_
  refine r_iload_n X dX3_codeAt_8 rfl 2 rfl ?_
  refine r_iadd X dX3_codeAt_9 ?_
  refine al_13 X dX3_codeAt_10 h (fun v1 h => ?_)
  exact r_iret Rt dX3_codeAt_11 h
theorem c_X3_codeAt (l : Launch) (hl : l.stackTraces = false) (N : Nat) (D : va_G) (cy : Nat → ClassId) (ad sa : Nat → Nat) (a1 : Int32) (a2 : Int32) (σ : Sg) : CtI l yX3_codeAt cX3_codeAt 3 (some .int) 0 0 D cy ad sa [.ref (ad 12), .int a1, .int a2] σ (f_X3_codeAt N a1 a2 σ) :=
  ct_I hl (by decide +kernel) (Nat.le_of_ble_eq_true rfl) (fun z res e1 e2 e3 e4 e5 e6 X Rt h => by subst e1 e2 e3 e4 e5; exact w_X3_codeAt X ⟨e6.1, e6.2⟩ Rt N a1 a2 σ h)
def f_X3_placeOf (N : Nat) (a1 : Int32) (σ : Sg) : Option (Int32 × Sg) := rdA 200 (σ 14) a1 (fun v1 => some (v1, σ))
set_option maxHeartbeats 4000000 in
set_option maxRecDepth 100000 in
theorem w_X3_placeOf {z : Cz} (X : Cx z cX3_placeOf 2 RX3) (hR : 0 ≤ (zR z).frames ∧ 0 ≤ (zR z).locals) {res : (Int32 × Sg)} (Rt : RtI z cX3_placeOf 2 .int res) (N : Nat) (a1 : Int32) (σ : Sg) (h : f_X3_placeOf N a1 σ = some res) : V z 0 2 0 [(0, .ref (zA z 12)), (1, .int a1)] [] σ := by
  rw [f_X3_placeOf] at h
  refine r_aload_n X dX3_placeOf_0 rfl 0 rfl ?_
  refine gf_X3_15 X dX3_placeOf_1 ?_
  refine r_iload_n X dX3_placeOf_4 rfl 1 rfl ?_
  refine al_14 X dX3_placeOf_5 h (fun v1 h => ?_)
  exact r_iret Rt dX3_placeOf_6 h
theorem c_X3_placeOf (l : Launch) (hl : l.stackTraces = false) (N : Nat) (D : va_G) (cy : Nat → ClassId) (ad sa : Nat → Nat) (a1 : Int32) (σ : Sg) : CtI l yX3_placeOf cX3_placeOf 2 (some .int) 0 0 D cy ad sa [.ref (ad 12), .int a1] σ (f_X3_placeOf N a1 σ) :=
  ct_I hl (by decide +kernel) (Nat.le_of_ble_eq_true rfl) (fun z res e1 e2 e3 e4 e5 e6 X Rt h => by subst e1 e2 e3 e4 e5; exact w_X3_placeOf X ⟨e6.1, e6.2⟩ Rt N a1 σ h)
def f_X4_isOwn (N : Nat) (a1 : Int32) (σ : Sg) : Option (Int32 × Sg) := if a1 < 100 then (some (0, σ)) else (if 120 ≤ a1 then (some (0, σ)) else (some (1, σ)))
set_option maxHeartbeats 4000000 in
set_option maxRecDepth 100000 in
theorem w_X4_isOwn {z : Cz} (X : Cx z cX4_isOwn 1 RX4) (hR : 0 ≤ (zR z).frames ∧ 0 ≤ (zR z).locals) {res : (Int32 × Sg)} (Rt : RtI z cX4_isOwn 1 .boolean res) (N : Nat) (a1 : Int32) (σ : Sg) (h : f_X4_isOwn N a1 σ = some res) : V z 0 1 0 [(0, .int a1)] [] σ := by
  rw [f_X4_isOwn] at h
  refine r_iload_n X dX4_isOwn_0 rfl 0 rfl ?_
  refine r_bipush X 100 dX4_isOwn_1 (by decide) ?_
  refine r_icmp_lt X 16 dX4_isOwn_3 (by decide) h (fun g1 h => ?_) (fun g1 h => ?_)
  · refine r_iconst X 0 dX4_isOwn_16 (by decide) ?_
    exact r_zretC Rt dX4_isOwn_17 (by decide) h
  · refine r_iload_n X dX4_isOwn_6 rfl 0 rfl ?_
    refine r_bipush X 120 dX4_isOwn_7 (by decide) ?_
    refine r_icmp_ge X 16 dX4_isOwn_9 (by decide) h (fun g2 h => ?_) (fun g2 h => ?_)
    · refine r_iconst X 0 dX4_isOwn_16 (by decide) ?_
      exact r_zretC Rt dX4_isOwn_17 (by decide) h
    · refine r_iconst X 1 dX4_isOwn_12 (by decide) ?_
      refine r_goto X 17 dX4_isOwn_13 (by decide) ?_
      exact r_zretC Rt dX4_isOwn_17 (by decide) h
theorem c_X4_isOwn (l : Launch) (hl : l.stackTraces = false) (N : Nat) (D : va_G) (cy : Nat → ClassId) (ad sa : Nat → Nat) (a1 : Int32) (σ : Sg) : CtI l yX4_isOwn cX4_isOwn 1 (some .boolean) 0 0 D cy ad sa [.int a1] σ (f_X4_isOwn N a1 σ) :=
  ct_I hl (by decide +kernel) (Nat.le_of_ble_eq_true rfl) (fun z res e1 e2 e3 e4 e5 e6 X Rt h => by subst e1 e2 e3 e4 e5; exact w_X4_isOwn X ⟨e6.1, e6.2⟩ Rt N a1 σ h)
def f_X4_isRole (N : Nat) (a1 : Int32) (σ : Sg) : Option (Int32 × Sg) := cI (f_X4_isOwn N a1 σ) (fun v1 σ2 => if v1 = 0 then (if a1 < 0 then (some (0, σ2)) else (if 12 < a1 then (some (0, σ2)) else (some (1, σ2)))) else (some (1, σ2)))
set_option maxHeartbeats 4000000 in
set_option maxRecDepth 100000 in
theorem w_X4_isRole {z : Cz} (X : Cx z cX4_isRole 1 RX4) (hR : 1 ≤ (zR z).frames ∧ 20 ≤ (zR z).locals) {res : (Int32 × Sg)} (Rt : RtI z cX4_isRole 1 .boolean res) (N : Nat) (a1 : Int32) (σ : Sg) (h : f_X4_isRole N a1 σ = some res) : V z 0 1 0 [(0, .int a1)] [] σ := by
  rw [f_X4_isRole] at h
  refine r_iload_n X dX4_isRole_0 rfl 0 rfl ?_
  refine r_callS X lk_X4_21 (c_X4_isOwn (zl z) X.2.2.2.2.2.2.2.1 N (zD z) (zy z) (zA z) (zS z) a1 σ) ⟨Nat.le_trans (by decide) hR.1, Nat.le_trans (by decide) hR.2⟩ rfl rfl (Nat.le_of_ble_eq_true rfl) dX4_isRole_1 h (fun v1 σ2 h => ?_)
  refine r_if_ne X 17 dX4_isRole_4 (by decide) h (fun g3 h => ?_) (fun g3 h => ?_)
  · refine r_iload_n X dX4_isRole_7 rfl 0 rfl ?_
    refine r_if_lt X 21 dX4_isRole_8 (by decide) h (fun g4 h => ?_) (fun g4 h => ?_)
    · refine r_iconst X 0 dX4_isRole_21 (by decide) ?_
      exact r_zretC Rt dX4_isRole_22 (by decide) h
    · refine r_iload_n X dX4_isRole_11 rfl 0 rfl ?_
      refine r_bipush X 12 dX4_isRole_12 (by decide) ?_
      refine r_icmp_gt X 21 dX4_isRole_14 (by decide) h (fun g5 h => ?_) (fun g5 h => ?_)
      · refine r_iconst X 0 dX4_isRole_21 (by decide) ?_
        exact r_zretC Rt dX4_isRole_22 (by decide) h
      · refine r_iconst X 1 dX4_isRole_17 (by decide) ?_
        refine r_goto X 22 dX4_isRole_18 (by decide) ?_
        exact r_zretC Rt dX4_isRole_22 (by decide) h
  · refine r_iconst X 1 dX4_isRole_17 (by decide) ?_
    refine r_goto X 22 dX4_isRole_18 (by decide) ?_
    exact r_zretC Rt dX4_isRole_22 (by decide) h
theorem c_X4_isRole (l : Launch) (hl : l.stackTraces = false) (N : Nat) (D : va_G) (cy : Nat → ClassId) (ad sa : Nat → Nat) (a1 : Int32) (σ : Sg) : CtI l yX4_isRole cX4_isRole 1 (some .boolean) 1 20 D cy ad sa [.int a1] σ (f_X4_isRole N a1 σ) :=
  ct_I hl (by decide +kernel) (Nat.le_of_ble_eq_true rfl) (fun z res e1 e2 e3 e4 e5 e6 X Rt h => by subst e1 e2 e3 e4 e5; exact w_X4_isRole X ⟨e6.1, e6.2⟩ Rt N a1 σ h)
def f_X4_lead (N : Nat) (a1 : Int32) (a2 : Int32) (σ : Sg) : Option (Int32 × Sg) := cI (f_X4_isOwn N a1 σ) (fun v1 σ2 => if v1 = 0 then (some (0, σ2)) else (wrA 20 σ2 2 (a1 - 100) a2 (fun σ4 => some (0, σ4))))
set_option maxHeartbeats 4000000 in
set_option maxRecDepth 100000 in
theorem w_X4_lead {z : Cz} (X : Cx z cX4_lead 3 RX4) (hR : 1 ≤ (zR z).frames ∧ 20 ≤ (zR z).locals) {res : (Int32 × Sg)} (Rt : RtV z cX4_lead 3 res) (N : Nat) (a1 : Int32) (a2 : Int32) (σ : Sg) (h : f_X4_lead N a1 a2 σ = some res) : V z 0 3 0 [(0, .ref (zA z 1)), (1, .int a1), (2, .int a2)] [] σ := by
  rw [f_X4_lead] at h
  refine r_iload_n X dX4_lead_0 rfl 1 rfl ?_
  refine r_callS X lk_X4_21 (c_X4_isOwn (zl z) X.2.2.2.2.2.2.2.1 N (zD z) (zy z) (zA z) (zS z) a1 σ) ⟨Nat.le_trans (by decide) hR.1, Nat.le_trans (by decide) hR.2⟩ rfl rfl (Nat.le_of_ble_eq_true rfl) dX4_lead_1 h (fun v1 σ2 h => ?_)
  refine r_if_eq X 17 dX4_lead_4 (by decide) h (fun g3 h => ?_) (fun g3 h => ?_)
  · exact r_vret Rt dX4_lead_17 h
  · refine r_aload_n X dX4_lead_7 rfl 0 rfl ?_
    refine gf_X4_9 X dX4_lead_8 ?_
    refine r_iload_n X dX4_lead_11 rfl 1 rfl ?_
    refine r_bipush X 100 dX4_lead_12 (by decide) ?_
    refine r_isub X dX4_lead_14 ?_
    refine r_iload_n X dX4_lead_15 rfl 2 rfl ?_
    refine as_2 X dX4_lead_16 h (fun σ4 h => ?_)
    exact r_vret Rt dX4_lead_17 h
theorem c_X4_lead (l : Launch) (hl : l.stackTraces = false) (N : Nat) (D : va_G) (cy : Nat → ClassId) (ad sa : Nat → Nat) (a1 : Int32) (a2 : Int32) (σ : Sg) : CtV l yX4_lead cX4_lead 3 1 20 D cy ad sa [.ref (ad 1), .int a1, .int a2] σ (f_X4_lead N a1 a2 σ) :=
  ct_V hl (by decide +kernel) (Nat.le_of_ble_eq_true rfl) (fun z res e1 e2 e3 e4 e5 e6 X Rt h => by subst e1 e2 e3 e4 e5; exact w_X4_lead X ⟨e6.1, e6.2⟩ Rt N a1 a2 σ h)
def f_X4_leads_5 (N : Nat) (x2 : Int32) (K : Int32 → Sg → Option (Int32 × Sg)) : Nat → Int32 → Int32 → Sg → Option (Int32 × Sg)
  | 0, _, _, _ => none
  | n + 1, x3, x4, σ => if 20 ≤ x4 then (K x3 σ) else (if x3 = x2 then (K x3 σ) else (cI (f_X4_isOwn N x3 σ) (fun v3 σ4 => if v3 = 0 then (K x3 σ4) else (rdA 20 (σ4 2) (x3 - 100) (fun v6 => lt (x4 + 1) (fun v7 => f_X4_leads_5 N x2 K n v6 v7 σ4))))))
def f_X4_leads (N : Nat) (a1 : Int32) (a2 : Int32) (σ : Sg) : Option (Int32 × Sg) := f_X4_leads_5 N a2 (fun v8 σ9 => if v8 = a2 then (some (1, σ9)) else (some (0, σ9))) N a1 0 σ
set_option maxHeartbeats 4000000 in
set_option maxRecDepth 100000 in
theorem w_X4_leads_5 {z : Cz} (X : Cx z cX4_leads 5 RX4) (hR : 1 ≤ (zR z).frames ∧ 20 ≤ (zR z).locals) {res : (Int32 × Sg)} (N : Nat) (x2 : Int32) (K : Int32 → Sg → Option (Int32 × Sg)) (kx : ∀ (y3 : Int32) (σ : Sg), K y3 σ = some res → V z 0 5 40 [(2, .int x2), (3, .int y3)] [] σ) : ∀ (n : Nat) (x3 : Int32) (x4 : Int32) (σ : Sg), f_X4_leads_5 N x2 K n x3 x4 σ = some res → V z 0 5 5 [(0, .ref (zA z 1)), (2, .int x2), (3, .int x3), (4, .int x4)] [] σ := by
  intro n
  induction n with
  | zero =>
    intro x3 x4 σ h
    rw [f_X4_leads_5] at h
    cases h
  | succ n ih =>
    intro x3 x4 σ h
    rw [f_X4_leads_5] at h
    refine r_iload X dX4_leads_5 3 rfl ?_
    refine r_bipush X 20 dX4_leads_7 (by decide) ?_
    refine r_icmp_ge X 40 dX4_leads_9 (by decide) h (fun g1 h => ?_) (fun g1 h => ?_)
    · refine r_sub [1, 2] rfl ?_
      exact kx x3 σ h
    · refine r_iload_n X dX4_leads_12 rfl 2 rfl ?_
      refine r_iload_n X dX4_leads_13 rfl 1 rfl ?_
      refine r_icmp_eq X 40 dX4_leads_14 (by decide) h (fun g2 h => ?_) (fun g2 h => ?_)
      · refine r_sub [1, 2] rfl ?_
        exact kx x3 σ h
      · refine r_iload_n X dX4_leads_17 rfl 2 rfl ?_
        refine r_callS X lk_X4_21 (c_X4_isOwn (zl z) X.2.2.2.2.2.2.2.1 N (zD z) (zy z) (zA z) (zS z) x3 σ) ⟨Nat.le_trans (by decide) hR.1, Nat.le_trans (by decide) hR.2⟩ rfl rfl (Nat.le_of_ble_eq_true rfl) dX4_leads_18 h (fun v3 σ4 h => ?_)
        refine r_if_eq X 40 dX4_leads_21 (by decide) h (fun g5 h => ?_) (fun g5 h => ?_)
        · refine r_sub [1, 2] rfl ?_
          exact kx x3 σ4 h
        · refine r_aload_n X dX4_leads_24 rfl 0 rfl ?_
          refine gf_X4_9 X dX4_leads_25 ?_
          refine r_iload_n X dX4_leads_28 rfl 2 rfl ?_
          refine r_bipush X 100 dX4_leads_29 (by decide) ?_
          refine r_isub X dX4_leads_31 ?_
          refine al_2 X dX4_leads_32 h (fun v6 h => ?_)
          refine r_istore_n X [(3, .int v6), (0, .ref (zA z 1)), (2, .int x2), (4, .int x4)] dX4_leads_33 rfl (by decide) rfl ?_
          refine r_iinc X 1 (fun v7 => [(4, .int v7), (3, .int v6), (0, .ref (zA z 1)), (2, .int x2)]) dX4_leads_34 3 rfl (by decide) (by decide) (fun _ => rfl) h (fun v7 h => ?_)
          refine r_goto X 5 dX4_leads_37 (by decide) ?_
          refine r_sub [2, 3, 1, 0] rfl ?_
          exact ih v6 v7 σ4 h
set_option maxHeartbeats 4000000 in
set_option maxRecDepth 100000 in
theorem w_X4_leads {z : Cz} (X : Cx z cX4_leads 5 RX4) (hR : 1 ≤ (zR z).frames ∧ 20 ≤ (zR z).locals) {res : (Int32 × Sg)} (Rt : RtI z cX4_leads 5 .boolean res) (N : Nat) (a1 : Int32) (a2 : Int32) (σ : Sg) (h : f_X4_leads N a1 a2 σ = some res) : V z 0 5 0 [(0, .ref (zA z 1)), (1, .int a1), (2, .int a2)] [] σ := by
  rw [f_X4_leads] at h
  refine r_iload_n X dX4_leads_0 rfl 1 rfl ?_
  refine r_istore_n X [(3, .int a1), (0, .ref (zA z 1)), (1, .int a1), (2, .int a2)] dX4_leads_1 rfl (by decide) rfl ?_
  refine r_iconst X 0 dX4_leads_2 (by decide) ?_
  refine r_istore X [(4, .int 0), (3, .int a1), (0, .ref (zA z 1)), (1, .int a1), (2, .int a2)] dX4_leads_3 (by decide) rfl ?_
  refine r_sub [2, 4, 1, 0] rfl ?_
  refine w_X4_leads_5 X hR N a2 _ (fun v8 σ9 h => ?_) N a1 0 σ h
  refine r_iload_n X dX4_leads_40 rfl 1 rfl ?_
  refine r_iload_n X dX4_leads_41 rfl 0 rfl ?_
  refine r_icmp_ne X 49 dX4_leads_42 (by decide) h (fun g10 h => ?_) (fun g10 h => ?_)
  · refine r_iconst X 1 dX4_leads_45 (by decide) ?_
    refine r_goto X 50 dX4_leads_46 (by decide) ?_
    exact r_zretC Rt dX4_leads_50 (by decide) h
  · refine r_iconst X 0 dX4_leads_49 (by decide) ?_
    exact r_zretC Rt dX4_leads_50 (by decide) h
theorem c_X4_leads (l : Launch) (hl : l.stackTraces = false) (N : Nat) (D : va_G) (cy : Nat → ClassId) (ad sa : Nat → Nat) (a1 : Int32) (a2 : Int32) (σ : Sg) : CtI l yX4_leads cX4_leads 5 (some .boolean) 1 20 D cy ad sa [.ref (ad 1), .int a1, .int a2] σ (f_X4_leads N a1 a2 σ) :=
  ct_I hl (by decide +kernel) (Nat.le_of_ble_eq_true rfl) (fun z res e1 e2 e3 e4 e5 e6 X Rt h => by subst e1 e2 e3 e4 e5; exact w_X4_leads X ⟨e6.1, e6.2⟩ Rt N a1 a2 σ h)
def f_X4_standardOf_4 (N : Nat) (K : Int32 → Sg → Option (Int32 × Sg)) : Nat → Int32 → Int32 → Sg → Option (Int32 × Sg)
  | 0, _, _, _ => none
  | n + 1, x2, x3, σ => if 20 ≤ x3 then (K x2 σ) else (cI (f_X4_isOwn N x2 σ) (fun v2 σ3 => if v2 = 0 then (K x2 σ3) else (rdA 20 (σ3 2) (x2 - 100) (fun v5 => lt (x3 + 1) (fun v6 => f_X4_standardOf_4 N K n v5 v6 σ3)))))
def f_X4_standardOf (N : Nat) (a1 : Int32) (σ : Sg) : Option (Int32 × Sg) := f_X4_standardOf_4 N (fun v7 σ8 => cI (f_X4_isOwn N v7 σ8) (fun v9 σ10 => if v9 = 0 then (some (v7, σ10)) else (some ((-1), σ10)))) N a1 0 σ
set_option maxHeartbeats 4000000 in
set_option maxRecDepth 100000 in
theorem w_X4_standardOf_4 {z : Cz} (X : Cx z cX4_standardOf 4 RX4) (hR : 1 ≤ (zR z).frames ∧ 20 ≤ (zR z).locals) {res : (Int32 × Sg)} (N : Nat) (K : Int32 → Sg → Option (Int32 × Sg)) (kx : ∀ (y2 : Int32) (σ : Sg), K y2 σ = some res → V z 0 4 33 [(2, .int y2)] [] σ) : ∀ (n : Nat) (x2 : Int32) (x3 : Int32) (σ : Sg), f_X4_standardOf_4 N K n x2 x3 σ = some res → V z 0 4 4 [(0, .ref (zA z 1)), (2, .int x2), (3, .int x3)] [] σ := by
  intro n
  induction n with
  | zero =>
    intro x2 x3 σ h
    rw [f_X4_standardOf_4] at h
    cases h
  | succ n ih =>
    intro x2 x3 σ h
    rw [f_X4_standardOf_4] at h
    refine r_iload_n X dX4_standardOf_4 rfl 2 rfl ?_
    refine r_bipush X 20 dX4_standardOf_5 (by decide) ?_
    refine r_icmp_ge X 33 dX4_standardOf_7 (by decide) h (fun g1 h => ?_) (fun g1 h => ?_)
    · refine r_sub [1] rfl ?_
      exact kx x2 σ h
    · refine r_iload_n X dX4_standardOf_10 rfl 1 rfl ?_
      refine r_callS X lk_X4_21 (c_X4_isOwn (zl z) X.2.2.2.2.2.2.2.1 N (zD z) (zy z) (zA z) (zS z) x2 σ) ⟨Nat.le_trans (by decide) hR.1, Nat.le_trans (by decide) hR.2⟩ rfl rfl (Nat.le_of_ble_eq_true rfl) dX4_standardOf_11 h (fun v2 σ3 h => ?_)
      refine r_if_eq X 33 dX4_standardOf_14 (by decide) h (fun g4 h => ?_) (fun g4 h => ?_)
      · refine r_sub [1] rfl ?_
        exact kx x2 σ3 h
      · refine r_aload_n X dX4_standardOf_17 rfl 0 rfl ?_
        refine gf_X4_9 X dX4_standardOf_18 ?_
        refine r_iload_n X dX4_standardOf_21 rfl 1 rfl ?_
        refine r_bipush X 100 dX4_standardOf_22 (by decide) ?_
        refine r_isub X dX4_standardOf_24 ?_
        refine al_2 X dX4_standardOf_25 h (fun v5 h => ?_)
        refine r_istore_n X [(2, .int v5), (0, .ref (zA z 1)), (3, .int x3)] dX4_standardOf_26 rfl (by decide) rfl ?_
        refine r_iinc X 1 (fun v6 => [(3, .int v6), (2, .int v5), (0, .ref (zA z 1))]) dX4_standardOf_27 2 rfl (by decide) (by decide) (fun _ => rfl) h (fun v6 h => ?_)
        refine r_goto X 4 dX4_standardOf_30 (by decide) ?_
        refine r_sub [2, 1, 0] rfl ?_
        exact ih v5 v6 σ3 h
set_option maxHeartbeats 4000000 in
set_option maxRecDepth 100000 in
theorem w_X4_standardOf {z : Cz} (X : Cx z cX4_standardOf 4 RX4) (hR : 1 ≤ (zR z).frames ∧ 20 ≤ (zR z).locals) {res : (Int32 × Sg)} (Rt : RtI z cX4_standardOf 4 .int res) (N : Nat) (a1 : Int32) (σ : Sg) (h : f_X4_standardOf N a1 σ = some res) : V z 0 4 0 [(0, .ref (zA z 1)), (1, .int a1)] [] σ := by
  rw [f_X4_standardOf] at h
  refine r_iload_n X dX4_standardOf_0 rfl 1 rfl ?_
  refine r_istore_n X [(2, .int a1), (0, .ref (zA z 1)), (1, .int a1)] dX4_standardOf_1 rfl (by decide) rfl ?_
  refine r_iconst X 0 dX4_standardOf_2 (by decide) ?_
  refine r_istore_n X [(3, .int 0), (2, .int a1), (0, .ref (zA z 1)), (1, .int a1)] dX4_standardOf_3 rfl (by decide) rfl ?_
  refine r_sub [2, 1, 0] rfl ?_
  refine w_X4_standardOf_4 X hR N _ (fun v7 σ8 h => ?_) N a1 0 σ h
  refine r_iload_n X dX4_standardOf_33 rfl 0 rfl ?_
  refine r_callS X lk_X4_21 (c_X4_isOwn (zl z) X.2.2.2.2.2.2.2.1 N (zD z) (zy z) (zA z) (zS z) v7 σ8) ⟨Nat.le_trans (by decide) hR.1, Nat.le_trans (by decide) hR.2⟩ rfl rfl (Nat.le_of_ble_eq_true rfl) dX4_standardOf_34 h (fun v9 σ10 h => ?_)
  refine r_if_eq X 44 dX4_standardOf_37 (by decide) h (fun g11 h => ?_) (fun g11 h => ?_)
  · refine r_iload_n X dX4_standardOf_44 rfl 0 rfl ?_
    exact r_iret Rt dX4_standardOf_45 h
  · refine r_iconst X (-1) dX4_standardOf_40 (by decide) ?_
    refine r_goto X 45 dX4_standardOf_41 (by decide) ?_
    exact r_iret Rt dX4_standardOf_45 h
theorem c_X4_standardOf (l : Launch) (hl : l.stackTraces = false) (N : Nat) (D : va_G) (cy : Nat → ClassId) (ad sa : Nat → Nat) (a1 : Int32) (σ : Sg) : CtI l yX4_standardOf cX4_standardOf 4 (some .int) 1 20 D cy ad sa [.ref (ad 1), .int a1] σ (f_X4_standardOf N a1 σ) :=
  ct_I hl (by decide +kernel) (Nat.le_of_ble_eq_true rfl) (fun z res e1 e2 e3 e4 e5 e6 X Rt h => by subst e1 e2 e3 e4 e5; exact w_X4_standardOf X ⟨e6.1, e6.2⟩ Rt N a1 σ h)
def f_X6_isElement (N : Nat) (a1 : Int32) (σ : Sg) : Option (Int32 × Sg) := if 60 ≤ a1 then (some (0, σ)) else (some (1, σ))
set_option maxHeartbeats 4000000 in
set_option maxRecDepth 100000 in
theorem w_X6_isElement {z : Cz} (X : Cx z cX6_isElement 1 RX6) (hR : 0 ≤ (zR z).frames ∧ 0 ≤ (zR z).locals) {res : (Int32 × Sg)} (Rt : RtI z cX6_isElement 1 .boolean res) (N : Nat) (a1 : Int32) (σ : Sg) (h : f_X6_isElement N a1 σ = some res) : V z 0 1 0 [(0, .int a1)] [] σ := by
  rw [f_X6_isElement] at h
  refine r_iload_n X dX6_isElement_0 rfl 0 rfl ?_
  refine r_bipush X 60 dX6_isElement_1 (by decide) ?_
  refine r_icmp_ge X 10 dX6_isElement_3 (by decide) h (fun g1 h => ?_) (fun g1 h => ?_)
  · refine r_iconst X 0 dX6_isElement_10 (by decide) ?_
    exact r_zretC Rt dX6_isElement_11 (by decide) h
  · refine r_iconst X 1 dX6_isElement_6 (by decide) ?_
    refine r_goto X 11 dX6_isElement_7 (by decide) ?_
    exact r_zretC Rt dX6_isElement_11 (by decide) h
theorem c_X6_isElement (l : Launch) (hl : l.stackTraces = false) (N : Nat) (D : va_G) (cy : Nat → ClassId) (ad sa : Nat → Nat) (a1 : Int32) (σ : Sg) : CtI l yX6_isElement cX6_isElement 1 (some .boolean) 0 0 D cy ad sa [.int a1] σ (f_X6_isElement N a1 σ) :=
  ct_I hl (by decide +kernel) (Nat.le_of_ble_eq_true rfl) (fun z res e1 e2 e3 e4 e5 e6 X Rt h => by subst e1 e2 e3 e4 e5; exact w_X6_isElement X ⟨e6.1, e6.2⟩ Rt N a1 σ h)
def f_X6_standardOf (N : Nat) (a1 : Int32) (σ : Sg) : Option (Int32 × Sg) := if a1 < 0 then (some ((-1), σ)) else (lt (σ 3 6) (fun v2 => if a1 < v2 then (rdA 60 (σ 4) a1 (fun v4 => cI (f_X4_standardOf N v4 σ) (fun v5 σ6 => some (v5, σ6)))) else (some ((-1), σ))))
set_option maxHeartbeats 4000000 in
set_option maxRecDepth 100000 in
theorem w_X6_standardOf {z : Cz} (X : Cx z cX6_standardOf 2 RX6) (hR : 2 ≤ (zR z).frames ∧ 43 ≤ (zR z).locals) {res : (Int32 × Sg)} (Rt : RtI z cX6_standardOf 2 .int res) (N : Nat) (a1 : Int32) (σ : Sg) (h : f_X6_standardOf N a1 σ = some res) : V z 0 2 0 [(0, .ref (zA z 3)), (1, .int a1)] [] σ := by
  rw [f_X6_standardOf] at h
  refine r_iload_n X dX6_standardOf_0 rfl 1 rfl ?_
  refine r_if_lt X 12 dX6_standardOf_1 (by decide) h (fun g1 h => ?_) (fun g1 h => ?_)
  · refine r_iconst X (-1) dX6_standardOf_12 (by decide) ?_
    refine r_goto X 29 dX6_standardOf_13 (by decide) ?_
    exact r_iret Rt dX6_standardOf_29 h
  · refine r_iload_n X dX6_standardOf_4 rfl 1 rfl ?_
    refine r_aload_n X dX6_standardOf_5 rfl 0 rfl ?_
    refine gf_X6_27 X dX6_standardOf_6 h (fun v2 h => ?_)
    refine r_icmp_lt X 16 dX6_standardOf_9 (by decide) h (fun g3 h => ?_) (fun g3 h => ?_)
    · refine r_aload_n X dX6_standardOf_16 rfl 0 rfl ?_
      refine gf_X6_34 X dX6_standardOf_17 ?_
      refine r_aload_n X dX6_standardOf_20 rfl 0 rfl ?_
      refine gf_X6_9 X dX6_standardOf_21 ?_
      refine r_iload_n X dX6_standardOf_24 rfl 1 rfl ?_
      refine al_4 X dX6_standardOf_25 h (fun v4 h => ?_)
      refine r_callV X 1 4 (by decide) rfl rfl rfl lk_X6_48 (c_X4_standardOf (zl z) X.2.2.2.2.2.2.2.1 N (zD z) (zy z) (zA z) (zS z) v4 σ) ⟨Nat.le_trans (by decide) hR.1, Nat.le_trans (by decide) hR.2⟩ rfl rfl (Nat.le_of_ble_eq_true rfl) dX6_standardOf_26 h (fun v5 σ6 h => ?_)
      exact r_iret Rt dX6_standardOf_29 h
    · refine r_iconst X (-1) dX6_standardOf_12 (by decide) ?_
      refine r_goto X 29 dX6_standardOf_13 (by decide) ?_
      exact r_iret Rt dX6_standardOf_29 h
theorem c_X6_standardOf (l : Launch) (hl : l.stackTraces = false) (N : Nat) (D : va_G) (cy : Nat → ClassId) (ad sa : Nat → Nat) (a1 : Int32) (σ : Sg) : CtI l yX6_standardOf cX6_standardOf 2 (some .int) 2 43 D cy ad sa [.ref (ad 3), .int a1] σ (f_X6_standardOf N a1 σ) :=
  ct_I hl (by decide +kernel) (Nat.le_of_ble_eq_true rfl) (fun z res e1 e2 e3 e4 e5 e6 X Rt h => by subst e1 e2 e3 e4 e5; exact w_X6_standardOf X ⟨e6.1, e6.2⟩ Rt N a1 σ h)
def f_X6_firstBehind_4 (N : Nat) (K : Int32 → Sg → Option (Int32 × Sg)) : Nat → Int32 → Int32 → Sg → Option (Int32 × Sg)
  | 0, _, _, _ => none
  | n + 1, x2, x3, σ => if 260 ≤ x3 then (K x2 σ) else (if x2 = (-1) then (K x2 σ) else (rdA 260 (σ 8) x2 (fun v3 => if v3 = (-1) then (rdA 260 (σ 7) x2 (fun v5 => lt (x3 + 1) (fun v6 => f_X6_firstBehind_4 N K n v5 v6 σ))) else (K x2 σ))))
def f_X6_firstBehind (N : Nat) (a1 : Int32) (σ : Sg) : Option (Int32 × Sg) := f_X6_firstBehind_4 N (fun v7 σ8 => if v7 = (-1) then (some ((-1), σ8)) else (rdA 260 (σ8 8) v7 (fun v10 => some (v10, σ8)))) N a1 0 σ
set_option maxHeartbeats 4000000 in
set_option maxRecDepth 100000 in
theorem w_X6_firstBehind_4 {z : Cz} (X : Cx z cX6_firstBehind 4 RX6) (hR : 0 ≤ (zR z).frames ∧ 0 ≤ (zR z).locals) {res : (Int32 × Sg)} (N : Nat) (K : Int32 → Sg → Option (Int32 × Sg)) (kx : ∀ (y2 : Int32) (σ : Sg), K y2 σ = some res → V z 0 4 39 [(0, .ref (zA z 3)), (2, .int y2)] [] σ) : ∀ (n : Nat) (x2 : Int32) (x3 : Int32) (σ : Sg), f_X6_firstBehind_4 N K n x2 x3 σ = some res → V z 0 4 4 [(0, .ref (zA z 3)), (2, .int x2), (3, .int x3)] [] σ := by
  intro n
  induction n with
  | zero =>
    intro x2 x3 σ h
    rw [f_X6_firstBehind_4] at h
    cases h
  | succ n ih =>
    intro x2 x3 σ h
    rw [f_X6_firstBehind_4] at h
    refine r_iload_n X dX6_firstBehind_4 rfl 2 rfl ?_
    refine r_sipush X 260 dX6_firstBehind_5 (by decide) ?_
    refine r_icmp_ge X 39 dX6_firstBehind_8 (by decide) h (fun g1 h => ?_) (fun g1 h => ?_)
    · refine r_sub [0, 1] rfl ?_
      exact kx x2 σ h
    · refine r_iload_n X dX6_firstBehind_11 rfl 1 rfl ?_
      refine r_iconst X (-1) dX6_firstBehind_12 (by decide) ?_
      refine r_icmp_eq X 39 dX6_firstBehind_13 (by decide) h (fun g2 h => ?_) (fun g2 h => ?_)
      · refine r_sub [0, 1] rfl ?_
        exact kx x2 σ h
      · refine r_aload_n X dX6_firstBehind_16 rfl 0 rfl ?_
        refine gf_X6_24 X dX6_firstBehind_17 ?_
        refine r_iload_n X dX6_firstBehind_20 rfl 1 rfl ?_
        refine al_8 X dX6_firstBehind_21 h (fun v3 h => ?_)
        refine r_iconst X (-1) dX6_firstBehind_22 (by decide) ?_
        refine r_icmp_ne X 39 dX6_firstBehind_23 (by decide) h (fun g4 h => ?_) (fun g4 h => ?_)
        · refine r_aload_n X dX6_firstBehind_26 rfl 0 rfl ?_
          refine gf_X6_21 X dX6_firstBehind_27 ?_
          refine r_iload_n X dX6_firstBehind_30 rfl 1 rfl ?_
          refine al_7 X dX6_firstBehind_31 h (fun v5 h => ?_)
          refine r_istore_n X [(2, .int v5), (0, .ref (zA z 3)), (3, .int x3)] dX6_firstBehind_32 rfl (by decide) rfl ?_
          refine r_iinc X 1 (fun v6 => [(3, .int v6), (2, .int v5), (0, .ref (zA z 3))]) dX6_firstBehind_33 2 rfl (by decide) (by decide) (fun _ => rfl) h (fun v6 h => ?_)
          refine r_goto X 4 dX6_firstBehind_36 (by decide) ?_
          refine r_sub [2, 1, 0] rfl ?_
          exact ih v5 v6 σ h
        · refine r_sub [0, 1] rfl ?_
          exact kx x2 σ h
set_option maxHeartbeats 4000000 in
set_option maxRecDepth 100000 in
theorem w_X6_firstBehind {z : Cz} (X : Cx z cX6_firstBehind 4 RX6) (hR : 0 ≤ (zR z).frames ∧ 0 ≤ (zR z).locals) {res : (Int32 × Sg)} (Rt : RtI z cX6_firstBehind 4 .int res) (N : Nat) (a1 : Int32) (σ : Sg) (h : f_X6_firstBehind N a1 σ = some res) : V z 0 4 0 [(0, .ref (zA z 3)), (1, .int a1)] [] σ := by
  rw [f_X6_firstBehind] at h
  refine r_iload_n X dX6_firstBehind_0 rfl 1 rfl ?_
  refine r_istore_n X [(2, .int a1), (0, .ref (zA z 3)), (1, .int a1)] dX6_firstBehind_1 rfl (by decide) rfl ?_
  refine r_iconst X 0 dX6_firstBehind_2 (by decide) ?_
  refine r_istore_n X [(3, .int 0), (2, .int a1), (0, .ref (zA z 3)), (1, .int a1)] dX6_firstBehind_3 rfl (by decide) rfl ?_
  refine r_sub [2, 1, 0] rfl ?_
  refine w_X6_firstBehind_4 X hR N _ (fun v7 σ8 h => ?_) N a1 0 σ h
  refine r_iload_n X dX6_firstBehind_39 rfl 1 rfl ?_
  refine r_iconst X (-1) dX6_firstBehind_40 (by decide) ?_
  refine r_icmp_ne X 48 dX6_firstBehind_41 (by decide) h (fun g9 h => ?_) (fun g9 h => ?_)
  · refine r_iconst X (-1) dX6_firstBehind_44 (by decide) ?_
    refine r_goto X 54 dX6_firstBehind_45 (by decide) ?_
    exact r_iret Rt dX6_firstBehind_54 h
  · refine r_aload_n X dX6_firstBehind_48 rfl 0 rfl ?_
    refine gf_X6_24 X dX6_firstBehind_49 ?_
    refine r_iload_n X dX6_firstBehind_52 rfl 1 rfl ?_
    refine al_8 X dX6_firstBehind_53 h (fun v10 h => ?_)
    exact r_iret Rt dX6_firstBehind_54 h
theorem c_X6_firstBehind (l : Launch) (hl : l.stackTraces = false) (N : Nat) (D : va_G) (cy : Nat → ClassId) (ad sa : Nat → Nat) (a1 : Int32) (σ : Sg) : CtI l yX6_firstBehind cX6_firstBehind 4 (some .int) 0 0 D cy ad sa [.ref (ad 3), .int a1] σ (f_X6_firstBehind N a1 σ) :=
  ct_I hl (by decide +kernel) (Nat.le_of_ble_eq_true rfl) (fun z res e1 e2 e3 e4 e5 e6 X Rt h => by subst e1 e2 e3 e4 e5; exact w_X6_firstBehind X ⟨e6.1, e6.2⟩ Rt N a1 σ h)
def f_X6_hasKids (N : Nat) (a1 : Int32) (σ : Sg) : Option (Int32 × Sg) := rdA 60 (σ 5) a1 (fun v1 => if v1 = (-1) then (some (0, σ)) else (some (1, σ)))
set_option maxHeartbeats 4000000 in
set_option maxRecDepth 100000 in
theorem w_X6_hasKids {z : Cz} (X : Cx z cX6_hasKids 2 RX6) (hR : 0 ≤ (zR z).frames ∧ 0 ≤ (zR z).locals) {res : (Int32 × Sg)} (Rt : RtI z cX6_hasKids 2 .boolean res) (N : Nat) (a1 : Int32) (σ : Sg) (h : f_X6_hasKids N a1 σ = some res) : V z 0 2 0 [(0, .ref (zA z 3)), (1, .int a1)] [] σ := by
  rw [f_X6_hasKids] at h
  refine r_aload_n X dX6_hasKids_0 rfl 0 rfl ?_
  refine gf_X6_15 X dX6_hasKids_1 ?_
  refine r_iload_n X dX6_hasKids_4 rfl 1 rfl ?_
  refine al_5 X dX6_hasKids_5 h (fun v1 h => ?_)
  refine r_iconst X (-1) dX6_hasKids_6 (by decide) ?_
  refine r_icmp_eq X 14 dX6_hasKids_7 (by decide) h (fun g2 h => ?_) (fun g2 h => ?_)
  · refine r_iconst X 0 dX6_hasKids_14 (by decide) ?_
    exact r_zretC Rt dX6_hasKids_15 (by decide) h
  · refine r_iconst X 1 dX6_hasKids_10 (by decide) ?_
    refine r_goto X 15 dX6_hasKids_11 (by decide) ?_
    exact r_zretC Rt dX6_hasKids_15 (by decide) h
theorem c_X6_hasKids (l : Launch) (hl : l.stackTraces = false) (N : Nat) (D : va_G) (cy : Nat → ClassId) (ad sa : Nat → Nat) (a1 : Int32) (σ : Sg) : CtI l yX6_hasKids cX6_hasKids 2 (some .boolean) 0 0 D cy ad sa [.ref (ad 3), .int a1] σ (f_X6_hasKids N a1 σ) :=
  ct_I hl (by decide +kernel) (Nat.le_of_ble_eq_true rfl) (fun z res e1 e2 e3 e4 e5 e6 X Rt h => by subst e1 e2 e3 e4 e5; exact w_X6_hasKids X ⟨e6.1, e6.2⟩ Rt N a1 σ h)
def f_X6_firstIn (N : Nat) (a1 : Int32) (σ : Sg) : Option (Int32 × Sg) := cI (f_X6_hasKids N a1 σ) (fun v1 σ2 => if v1 = 0 then (cI (f_X6_firstBehind N a1 σ2) (fun v4 σ5 => some (v4, σ5))) else (rdA 60 (σ2 5) a1 (fun v6 => some (v6, σ2))))
set_option maxHeartbeats 4000000 in
set_option maxRecDepth 100000 in
theorem w_X6_firstIn {z : Cz} (X : Cx z cX6_firstIn 2 RX6) (hR : 1 ≤ (zR z).frames ∧ 23 ≤ (zR z).locals) {res : (Int32 × Sg)} (Rt : RtI z cX6_firstIn 2 .int res) (N : Nat) (a1 : Int32) (σ : Sg) (h : f_X6_firstIn N a1 σ = some res) : V z 0 2 0 [(0, .ref (zA z 3)), (1, .int a1)] [] σ := by
  rw [f_X6_firstIn] at h
  refine r_aload_n X dX6_firstIn_0 rfl 0 rfl ?_
  refine r_iload_n X dX6_firstIn_1 rfl 1 rfl ?_
  refine r_callV X 3 6 (by decide) rfl rfl rfl lk_X6_54 (c_X6_hasKids (zl z) X.2.2.2.2.2.2.2.1 N (zD z) (zy z) (zA z) (zS z) a1 σ) ⟨Nat.le_trans (by decide) hR.1, Nat.le_trans (by decide) hR.2⟩ rfl rfl (Nat.le_of_ble_eq_true rfl) dX6_firstIn_2 h (fun v1 σ2 h => ?_)
  refine r_if_eq X 17 dX6_firstIn_5 (by decide) h (fun g3 h => ?_) (fun g3 h => ?_)
  · refine r_aload_n X dX6_firstIn_17 rfl 0 rfl ?_
    refine r_iload_n X dX6_firstIn_18 rfl 1 rfl ?_
    refine r_callV X 3 6 (by decide) rfl rfl rfl lk_X6_58 (c_X6_firstBehind (zl z) X.2.2.2.2.2.2.2.1 N (zD z) (zy z) (zA z) (zS z) a1 σ2) ⟨Nat.le_trans (by decide) hR.1, Nat.le_trans (by decide) hR.2⟩ rfl rfl (Nat.le_of_ble_eq_true rfl) dX6_firstIn_19 h (fun v4 σ5 h => ?_)
    exact r_iret Rt dX6_firstIn_22 h
  · refine r_aload_n X dX6_firstIn_8 rfl 0 rfl ?_
    refine gf_X6_15 X dX6_firstIn_9 ?_
    refine r_iload_n X dX6_firstIn_12 rfl 1 rfl ?_
    refine al_5 X dX6_firstIn_13 h (fun v6 h => ?_)
    refine r_goto X 22 dX6_firstIn_14 (by decide) ?_
    exact r_iret Rt dX6_firstIn_22 h
theorem c_X6_firstIn (l : Launch) (hl : l.stackTraces = false) (N : Nat) (D : va_G) (cy : Nat → ClassId) (ad sa : Nat → Nat) (a1 : Int32) (σ : Sg) : CtI l yX6_firstIn cX6_firstIn 2 (some .int) 1 23 D cy ad sa [.ref (ad 3), .int a1] σ (f_X6_firstIn N a1 σ) :=
  ct_I hl (by decide +kernel) (Nat.le_of_ble_eq_true rfl) (fun z res e1 e2 e3 e4 e5 e6 X Rt h => by subst e1 e2 e3 e4 e5; exact w_X6_firstIn X ⟨e6.1, e6.2⟩ Rt N a1 σ h)
def f_X6_codeOf (N : Nat) (a1 : Int32) (σ : Sg) : Option (Int32 × Sg) := some (a1 - 60, σ)
set_option maxHeartbeats 4000000 in
set_option maxRecDepth 100000 in
theorem w_X6_codeOf {z : Cz} (X : Cx z cX6_codeOf 1 RX6) (hR : 0 ≤ (zR z).frames ∧ 0 ≤ (zR z).locals) {res : (Int32 × Sg)} (Rt : RtI z cX6_codeOf 1 .int res) (N : Nat) (a1 : Int32) (σ : Sg) (h : f_X6_codeOf N a1 σ = some res) : V z 0 1 0 [(0, .int a1)] [] σ := by
  rw [f_X6_codeOf] at h
  refine r_iload_n X dX6_codeOf_0 rfl 0 rfl ?_
  refine r_bipush X 60 dX6_codeOf_1 (by decide) ?_
  refine r_isub X dX6_codeOf_3 ?_
  exact r_iret Rt dX6_codeOf_4 h
theorem c_X6_codeOf (l : Launch) (hl : l.stackTraces = false) (N : Nat) (D : va_G) (cy : Nat → ClassId) (ad sa : Nat → Nat) (a1 : Int32) (σ : Sg) : CtI l yX6_codeOf cX6_codeOf 1 (some .int) 0 0 D cy ad sa [.int a1] σ (f_X6_codeOf N a1 σ) :=
  ct_I hl (by decide +kernel) (Nat.le_of_ble_eq_true rfl) (fun z res e1 e2 e3 e4 e5 e6 X Rt h => by subst e1 e2 e3 e4 e5; exact w_X6_codeOf X ⟨e6.1, e6.2⟩ Rt N a1 σ h)
def f_X6_addKid (N : Nat) (a1 : Int32) (a2 : Int32) (σ : Sg) : Option (Int32 × Sg) := wrA 260 σ 7 a2 a1 (fun σ1 => rdA 60 (σ1 6) a1 (fun v2 => if v2 = (-1) then (wrA 60 σ1 5 a1 a2 (fun σ6 => wrA 60 σ6 6 a1 a2 (fun σ7 => some (0, σ7)))) else (wrA 260 σ1 8 v2 a2 (fun σ4 => wrA 60 σ4 6 a1 a2 (fun σ5 => some (0, σ5))))))
set_option maxHeartbeats 4000000 in
set_option maxRecDepth 100000 in
theorem w_X6_addKid {z : Cz} (X : Cx z cX6_addKid 4 RX6) (hR : 0 ≤ (zR z).frames ∧ 0 ≤ (zR z).locals) {res : (Int32 × Sg)} (Rt : RtV z cX6_addKid 4 res) (N : Nat) (a1 : Int32) (a2 : Int32) (σ : Sg) (h : f_X6_addKid N a1 a2 σ = some res) : V z 0 4 0 [(0, .ref (zA z 3)), (1, .int a1), (2, .int a2)] [] σ := by
  rw [f_X6_addKid] at h
  refine r_aload_n X dX6_addKid_0 rfl 0 rfl ?_
  refine gf_X6_21 X dX6_addKid_1 ?_
  refine r_iload_n X dX6_addKid_4 rfl 2 rfl ?_
  refine r_iload_n X dX6_addKid_5 rfl 1 rfl ?_
  refine as_7 X dX6_addKid_6 h (fun σ1 h => ?_)
  refine r_aload_n X dX6_addKid_7 rfl 0 rfl ?_
  refine gf_X6_18 X dX6_addKid_8 ?_
  refine r_iload_n X dX6_addKid_11 rfl 1 rfl ?_
  refine al_6 X dX6_addKid_12 h (fun v2 h => ?_)
  refine r_istore_n X [(3, .int v2), (0, .ref (zA z 3)), (1, .int a1), (2, .int a2)] dX6_addKid_13 rfl (by decide) rfl ?_
  refine r_iload_n X dX6_addKid_14 rfl 0 rfl ?_
  refine r_iconst X (-1) dX6_addKid_15 (by decide) ?_
  refine r_icmp_ne X 29 dX6_addKid_16 (by decide) h (fun g3 h => ?_) (fun g3 h => ?_)
  · refine r_aload_n X dX6_addKid_19 rfl 1 rfl ?_
    refine gf_X6_15 X dX6_addKid_20 ?_
    refine r_iload_n X dX6_addKid_23 rfl 2 rfl ?_
    refine r_iload_n X dX6_addKid_24 rfl 3 rfl ?_
    refine as_5 X dX6_addKid_25 h (fun σ6 h => ?_)
    refine r_goto X 36 dX6_addKid_26 (by decide) ?_
    refine r_aload_n X dX6_addKid_36 rfl 1 rfl ?_
    refine gf_X6_18 X dX6_addKid_37 ?_
    refine r_iload_n X dX6_addKid_40 rfl 2 rfl ?_
    refine r_iload_n X dX6_addKid_41 rfl 3 rfl ?_
    refine as_6 X dX6_addKid_42 h (fun σ7 h => ?_)
    exact r_vret Rt dX6_addKid_43 h
  · refine r_aload_n X dX6_addKid_29 rfl 1 rfl ?_
    refine gf_X6_24 X dX6_addKid_30 ?_
    refine r_iload_n X dX6_addKid_33 rfl 0 rfl ?_
    refine r_iload_n X dX6_addKid_34 rfl 3 rfl ?_
    refine as_8 X dX6_addKid_35 h (fun σ4 h => ?_)
    refine r_aload_n X dX6_addKid_36 rfl 1 rfl ?_
    refine gf_X6_18 X dX6_addKid_37 ?_
    refine r_iload_n X dX6_addKid_40 rfl 2 rfl ?_
    refine r_iload_n X dX6_addKid_41 rfl 3 rfl ?_
    refine as_6 X dX6_addKid_42 h (fun σ5 h => ?_)
    exact r_vret Rt dX6_addKid_43 h
theorem c_X6_addKid (l : Launch) (hl : l.stackTraces = false) (N : Nat) (D : va_G) (cy : Nat → ClassId) (ad sa : Nat → Nat) (a1 : Int32) (a2 : Int32) (σ : Sg) : CtV l yX6_addKid cX6_addKid 4 0 0 D cy ad sa [.ref (ad 3), .int a1, .int a2] σ (f_X6_addKid N a1 a2 σ) :=
  ct_V hl (by decide +kernel) (Nat.le_of_ble_eq_true rfl) (fun z res e1 e2 e3 e4 e5 e6 X Rt h => by subst e1 e2 e3 e4 e5; exact w_X6_addKid X ⟨e6.1, e6.2⟩ Rt N a1 a2 σ h)
def f_X6_addElement (N : Nat) (a1 : Int32) (a2 : Int32) (σ : Sg) : Option (Int32 × Sg) := lt (σ 3 6) (fun v1 => if 60 ≤ v1 then (some (v1, σ)) else (wrA 60 σ 4 v1 a2 (fun σ3 => lt (σ3 3 6) (fun v4 => st (ss σ3 3 6 (v4 + 1)) (fun σ5 => cI (f_X6_addKid N a1 v1 σ5) (fun v6 σ7 => some (v1, σ7)))))))
set_option maxHeartbeats 4000000 in
set_option maxRecDepth 100000 in
theorem w_X6_addElement {z : Cz} (X : Cx z cX6_addElement 4 RX6) (hR : 1 ≤ (zR z).frames ∧ 23 ≤ (zR z).locals) {res : (Int32 × Sg)} (Rt : RtI z cX6_addElement 4 .int res) (N : Nat) (a1 : Int32) (a2 : Int32) (σ : Sg) (h : f_X6_addElement N a1 a2 σ = some res) : V z 0 4 0 [(0, .ref (zA z 3)), (1, .int a1), (2, .int a2)] [] σ := by
  rw [f_X6_addElement] at h
  refine r_aload_n X dX6_addElement_0 rfl 0 rfl ?_
  refine gf_X6_27 X dX6_addElement_1 h (fun v1 h => ?_)
  refine r_istore_n X [(3, .int v1), (0, .ref (zA z 3)), (1, .int a1), (2, .int a2)] dX6_addElement_4 rfl (by decide) rfl ?_
  refine r_iload_n X dX6_addElement_5 rfl 0 rfl ?_
  refine r_bipush X 60 dX6_addElement_6 (by decide) ?_
  refine r_icmp_ge X 34 dX6_addElement_8 (by decide) h (fun g2 h => ?_) (fun g2 h => ?_)
  · refine r_iload_n X dX6_addElement_34 rfl 0 rfl ?_
    exact r_iret Rt dX6_addElement_35 h
  · refine r_aload_n X dX6_addElement_11 rfl 1 rfl ?_
    refine gf_X6_9 X dX6_addElement_12 ?_
    refine r_iload_n X dX6_addElement_15 rfl 0 rfl ?_
    refine r_iload_n X dX6_addElement_16 rfl 3 rfl ?_
    refine as_4 X dX6_addElement_17 h (fun σ3 h => ?_)
    refine r_aload_n X dX6_addElement_18 rfl 1 rfl ?_
    refine r_dup X dX6_addElement_19 rfl ?_
    refine gf_X6_27 X dX6_addElement_20 h (fun v4 h => ?_)
    refine r_iconst X 1 dX6_addElement_23 (by decide) ?_
    refine r_iadd X dX6_addElement_24 ?_
    refine pf_X6_27 X dX6_addElement_25 h (fun σ5 h => ?_)
    refine r_aload_n X dX6_addElement_28 rfl 1 rfl ?_
    refine r_iload_n X dX6_addElement_29 rfl 2 rfl ?_
    refine r_iload_n X dX6_addElement_30 rfl 0 rfl ?_
    refine r_callVv X 3 6 (by decide) rfl rfl rfl lk_X6_44 (c_X6_addKid (zl z) X.2.2.2.2.2.2.2.1 N (zD z) (zy z) (zA z) (zS z) a1 v1 σ5) ⟨Nat.le_trans (by decide) hR.1, Nat.le_trans (by decide) hR.2⟩ rfl rfl (Nat.le_of_ble_eq_true rfl) dX6_addElement_31 h (fun v6 σ7 h => ?_)
    refine r_iload_n X dX6_addElement_34 rfl 0 rfl ?_
    exact r_iret Rt dX6_addElement_35 h
theorem c_X6_addElement (l : Launch) (hl : l.stackTraces = false) (N : Nat) (D : va_G) (cy : Nat → ClassId) (ad sa : Nat → Nat) (a1 : Int32) (a2 : Int32) (σ : Sg) : CtI l yX6_addElement cX6_addElement 4 (some .int) 1 23 D cy ad sa [.ref (ad 3), .int a1, .int a2] σ (f_X6_addElement N a1 a2 σ) :=
  ct_I hl (by decide +kernel) (Nat.le_of_ble_eq_true rfl) (fun z res e1 e2 e3 e4 e5 e6 X Rt h => by subst e1 e2 e3 e4 e5; exact w_X6_addElement X ⟨e6.1, e6.2⟩ Rt N a1 a2 σ h)
def f_X6_addPart (N : Nat) (a1 : Int32) (a2 : Int32) (σ : Sg) : Option (Int32 × Sg) := lt (σ 3 7) (fun v1 => st (ss σ 3 7 (v1 + 1)) (fun σ2 => cI (f_X6_addKid N a1 (60 + a2) σ2) (fun v3 σ4 => some (0, σ4))))
set_option maxHeartbeats 4000000 in
set_option maxRecDepth 100000 in
theorem w_X6_addPart {z : Cz} (X : Cx z cX6_addPart 3 RX6) (hR : 1 ≤ (zR z).frames ∧ 23 ≤ (zR z).locals) {res : (Int32 × Sg)} (Rt : RtV z cX6_addPart 3 res) (N : Nat) (a1 : Int32) (a2 : Int32) (σ : Sg) (h : f_X6_addPart N a1 a2 σ = some res) : V z 0 3 0 [(0, .ref (zA z 3)), (1, .int a1), (2, .int a2)] [] σ := by
  rw [f_X6_addPart] at h
  refine r_aload_n X dX6_addPart_0 rfl 0 rfl ?_
  refine r_dup X dX6_addPart_1 rfl ?_
  refine gf_X6_31 X dX6_addPart_2 h (fun v1 h => ?_)
  refine r_iconst X 1 dX6_addPart_5 (by decide) ?_
  refine r_iadd X dX6_addPart_6 ?_
  refine pf_X6_31 X dX6_addPart_7 h (fun σ2 h => ?_)
  refine r_aload_n X dX6_addPart_10 rfl 0 rfl ?_
  refine r_iload_n X dX6_addPart_11 rfl 1 rfl ?_
  refine r_bipush X 60 dX6_addPart_12 (by decide) ?_
  refine r_iload_n X dX6_addPart_14 rfl 2 rfl ?_
  refine r_iadd X dX6_addPart_15 ?_
  refine r_callVv X 3 6 (by decide) rfl rfl rfl lk_X6_44 (c_X6_addKid (zl z) X.2.2.2.2.2.2.2.1 N (zD z) (zy z) (zA z) (zS z) a1 (60 + a2) σ2) ⟨Nat.le_trans (by decide) hR.1, Nat.le_trans (by decide) hR.2⟩ rfl rfl (Nat.le_of_ble_eq_true rfl) dX6_addPart_16 h (fun v3 σ4 h => ?_)
  exact r_vret Rt dX6_addPart_19 h
theorem c_X6_addPart (l : Launch) (hl : l.stackTraces = false) (N : Nat) (D : va_G) (cy : Nat → ClassId) (ad sa : Nat → Nat) (a1 : Int32) (a2 : Int32) (σ : Sg) : CtV l yX6_addPart cX6_addPart 3 1 23 D cy ad sa [.ref (ad 3), .int a1, .int a2] σ (f_X6_addPart N a1 a2 σ) :=
  ct_V hl (by decide +kernel) (Nat.le_of_ble_eq_true rfl) (fun z res e1 e2 e3 e4 e5 e6 X Rt h => by subst e1 e2 e3 e4 e5; exact w_X6_addPart X ⟨e6.1, e6.2⟩ Rt N a1 a2 σ h)
def f_X6_parentOf (N : Nat) (a1 : Int32) (σ : Sg) : Option (Int32 × Sg) := rdA 260 (σ 7) a1 (fun v1 => some (v1, σ))
set_option maxHeartbeats 4000000 in
set_option maxRecDepth 100000 in
theorem w_X6_parentOf {z : Cz} (X : Cx z cX6_parentOf 2 RX6) (hR : 0 ≤ (zR z).frames ∧ 0 ≤ (zR z).locals) {res : (Int32 × Sg)} (Rt : RtI z cX6_parentOf 2 .int res) (N : Nat) (a1 : Int32) (σ : Sg) (h : f_X6_parentOf N a1 σ = some res) : V z 0 2 0 [(0, .ref (zA z 3)), (1, .int a1)] [] σ := by
  rw [f_X6_parentOf] at h
  refine r_aload_n X dX6_parentOf_0 rfl 0 rfl ?_
  refine gf_X6_21 X dX6_parentOf_1 ?_
  refine r_iload_n X dX6_parentOf_4 rfl 1 rfl ?_
  refine al_7 X dX6_parentOf_5 h (fun v1 h => ?_)
  exact r_iret Rt dX6_parentOf_6 h
theorem c_X6_parentOf (l : Launch) (hl : l.stackTraces = false) (N : Nat) (D : va_G) (cy : Nat → ClassId) (ad sa : Nat → Nat) (a1 : Int32) (σ : Sg) : CtI l yX6_parentOf cX6_parentOf 2 (some .int) 0 0 D cy ad sa [.ref (ad 3), .int a1] σ (f_X6_parentOf N a1 σ) :=
  ct_I hl (by decide +kernel) (Nat.le_of_ble_eq_true rfl) (fun z res e1 e2 e3 e4 e5 e6 X Rt h => by subst e1 e2 e3 e4 e5; exact w_X6_parentOf X ⟨e6.1, e6.2⟩ Rt N a1 σ h)
def f_X6_holderOf (N : Nat) (a1 : Int32) (σ : Sg) : Option (Int32 × Sg) := rdA 260 (σ 7) (60 + a1) (fun v1 => some (v1, σ))
set_option maxHeartbeats 4000000 in
set_option maxRecDepth 100000 in
theorem w_X6_holderOf {z : Cz} (X : Cx z cX6_holderOf 2 RX6) (hR : 0 ≤ (zR z).frames ∧ 0 ≤ (zR z).locals) {res : (Int32 × Sg)} (Rt : RtI z cX6_holderOf 2 .int res) (N : Nat) (a1 : Int32) (σ : Sg) (h : f_X6_holderOf N a1 σ = some res) : V z 0 2 0 [(0, .ref (zA z 3)), (1, .int a1)] [] σ := by
  rw [f_X6_holderOf] at h
  refine r_aload_n X dX6_holderOf_0 rfl 0 rfl ?_
  refine gf_X6_21 X dX6_holderOf_1 ?_
  refine r_bipush X 60 dX6_holderOf_4 (by decide) ?_
  refine r_iload_n X dX6_holderOf_6 rfl 1 rfl ?_
  refine r_iadd X dX6_holderOf_7 ?_
  refine al_7 X dX6_holderOf_8 h (fun v1 h => ?_)
  exact r_iret Rt dX6_holderOf_9 h
theorem c_X6_holderOf (l : Launch) (hl : l.stackTraces = false) (N : Nat) (D : va_G) (cy : Nat → ClassId) (ad sa : Nat → Nat) (a1 : Int32) (σ : Sg) : CtI l yX6_holderOf cX6_holderOf 2 (some .int) 0 0 D cy ad sa [.ref (ad 3), .int a1] σ (f_X6_holderOf N a1 σ) :=
  ct_I hl (by decide +kernel) (Nat.le_of_ble_eq_true rfl) (fun z res e1 e2 e3 e4 e5 e6 X Rt h => by subst e1 e2 e3 e4 e5; exact w_X6_holderOf X ⟨e6.1, e6.2⟩ Rt N a1 σ h)
def f_X5_passElement (N : Nat) (a1 : Int32) (σ : Sg) : Option (Int32 × Sg) := cI (f_X6_standardOf N a1 σ) (fun v1 σ2 => if v1 = 12 then (cI (f_X6_firstBehind N a1 σ2) (fun v14 σ15 => some (v14, σ15))) else (lt (σ2 9 3) (fun v4 => if 60 ≤ v4 then (cI (f_X6_firstIn N a1 σ2) (fun v6 σ7 => some (v6, σ7))) else (lt (σ2 9 3) (fun v8 => wrA 60 σ2 10 v8 a1 (fun σ9 => lt (σ9 9 3) (fun v10 => st (ss σ9 9 3 (v10 + 1)) (fun σ11 => cI (f_X6_firstIn N a1 σ11) (fun v12 σ13 => some (v12, σ13))))))))))
set_option maxHeartbeats 4000000 in
set_option maxRecDepth 100000 in
theorem w_X5_passElement {z : Cz} (X : Cx z cX5_passElement 2 RX5) (hR : 3 ≤ (zR z).frames ∧ 64 ≤ (zR z).locals) {res : (Int32 × Sg)} (Rt : RtI z cX5_passElement 2 .int res) (N : Nat) (a1 : Int32) (σ : Sg) (h : f_X5_passElement N a1 σ = some res) : V z 0 2 0 [(0, .ref (zA z 9)), (1, .int a1)] [] σ := by
  rw [f_X5_passElement] at h
  refine r_aload_n X dX5_passElement_0 rfl 0 rfl ?_
  refine gf_X5_25 X dX5_passElement_1 ?_
  refine r_iload_n X dX5_passElement_4 rfl 1 rfl ?_
  refine r_callV X 3 6 (by decide) rfl rfl rfl lk_X5_42 (c_X6_standardOf (zl z) X.2.2.2.2.2.2.2.1 N (zD z) (zy z) (zA z) (zS z) a1 σ) ⟨Nat.le_trans (by decide) hR.1, Nat.le_trans (by decide) hR.2⟩ rfl rfl (Nat.le_of_ble_eq_true rfl) dX5_passElement_5 h (fun v1 σ2 h => ?_)
  refine r_bipush X 12 dX5_passElement_8 (by decide) ?_
  refine r_icmp_ne X 22 dX5_passElement_10 (by decide) h (fun g3 h => ?_) (fun g3 h => ?_)
  · refine r_aload_n X dX5_passElement_13 rfl 0 rfl ?_
    refine gf_X5_25 X dX5_passElement_14 ?_
    refine r_iload_n X dX5_passElement_17 rfl 1 rfl ?_
    refine r_callV X 3 6 (by decide) rfl rfl rfl lk_X5_45 (c_X6_firstBehind (zl z) X.2.2.2.2.2.2.2.1 N (zD z) (zy z) (zA z) (zS z) a1 σ2) ⟨Nat.le_trans (by decide) hR.1, Nat.le_trans (by decide) hR.2⟩ rfl rfl (Nat.le_of_ble_eq_true rfl) dX5_passElement_18 h (fun v14 σ15 h => ?_)
    exact r_iret Rt dX5_passElement_21 h
  · refine r_aload_n X dX5_passElement_22 rfl 0 rfl ?_
    refine gf_X5_18 X dX5_passElement_23 h (fun v4 h => ?_)
    refine r_bipush X 60 dX5_passElement_26 (by decide) ?_
    refine r_icmp_ge X 51 dX5_passElement_28 (by decide) h (fun g5 h => ?_) (fun g5 h => ?_)
    · refine r_aload_n X dX5_passElement_51 rfl 0 rfl ?_
      refine gf_X5_25 X dX5_passElement_52 ?_
      refine r_iload_n X dX5_passElement_55 rfl 1 rfl ?_
      refine r_callV X 3 6 (by decide) rfl rfl rfl lk_X5_48 (c_X6_firstIn (zl z) X.2.2.2.2.2.2.2.1 N (zD z) (zy z) (zA z) (zS z) a1 σ2) ⟨Nat.le_trans (by decide) hR.1, Nat.le_trans (by decide) hR.2⟩ rfl rfl (Nat.le_of_ble_eq_true rfl) dX5_passElement_56 h (fun v6 σ7 h => ?_)
      exact r_iret Rt dX5_passElement_59 h
    · refine r_aload_n X dX5_passElement_31 rfl 0 rfl ?_
      refine gf_X5_9 X dX5_passElement_32 ?_
      refine r_aload_n X dX5_passElement_35 rfl 0 rfl ?_
      refine gf_X5_18 X dX5_passElement_36 h (fun v8 h => ?_)
      refine r_iload_n X dX5_passElement_39 rfl 1 rfl ?_
      refine as_10 X dX5_passElement_40 h (fun σ9 h => ?_)
      refine r_aload_n X dX5_passElement_41 rfl 0 rfl ?_
      refine r_dup X dX5_passElement_42 rfl ?_
      refine gf_X5_18 X dX5_passElement_43 h (fun v10 h => ?_)
      refine r_iconst X 1 dX5_passElement_46 (by decide) ?_
      refine r_iadd X dX5_passElement_47 ?_
      refine pf_X5_18 X dX5_passElement_48 h (fun σ11 h => ?_)
      refine r_aload_n X dX5_passElement_51 rfl 0 rfl ?_
      refine gf_X5_25 X dX5_passElement_52 ?_
      refine r_iload_n X dX5_passElement_55 rfl 1 rfl ?_
      refine r_callV X 3 6 (by decide) rfl rfl rfl lk_X5_48 (c_X6_firstIn (zl z) X.2.2.2.2.2.2.2.1 N (zD z) (zy z) (zA z) (zS z) a1 σ11) ⟨Nat.le_trans (by decide) hR.1, Nat.le_trans (by decide) hR.2⟩ rfl rfl (Nat.le_of_ble_eq_true rfl) dX5_passElement_56 h (fun v12 σ13 h => ?_)
      exact r_iret Rt dX5_passElement_59 h
theorem c_X5_passElement (l : Launch) (hl : l.stackTraces = false) (N : Nat) (D : va_G) (cy : Nat → ClassId) (ad sa : Nat → Nat) (a1 : Int32) (σ : Sg) : CtI l yX5_passElement cX5_passElement 2 (some .int) 3 64 D cy ad sa [.ref (ad 9), .int a1] σ (f_X5_passElement N a1 σ) :=
  ct_I hl (by decide +kernel) (Nat.le_of_ble_eq_true rfl) (fun z res e1 e2 e3 e4 e5 e6 X Rt h => by subst e1 e2 e3 e4 e5; exact w_X5_passElement X ⟨e6.1, e6.2⟩ Rt N a1 σ h)
def f_X5_passPart (N : Nat) (a1 : Int32) (σ : Sg) : Option (Int32 × Sg) := lt (σ 9 4) (fun v1 => if 100 ≤ v1 then (cI (f_X6_firstBehind N a1 σ) (fun v3 σ4 => some (v3, σ4))) else (lt (σ 9 4) (fun v5 => cI (f_X6_codeOf N a1 σ) (fun v6 σ7 => wrA 100 σ7 11 v5 v6 (fun σ8 => lt (σ8 9 4) (fun v9 => st (ss σ8 9 4 (v9 + 1)) (fun σ10 => cI (f_X6_firstBehind N a1 σ10) (fun v11 σ12 => some (v11, σ12)))))))))
set_option maxHeartbeats 4000000 in
set_option maxRecDepth 100000 in
theorem w_X5_passPart {z : Cz} (X : Cx z cX5_passPart 2 RX5) (hR : 1 ≤ (zR z).frames ∧ 23 ≤ (zR z).locals) {res : (Int32 × Sg)} (Rt : RtI z cX5_passPart 2 .int res) (N : Nat) (a1 : Int32) (σ : Sg) (h : f_X5_passPart N a1 σ = some res) : V z 0 2 0 [(0, .ref (zA z 9)), (1, .int a1)] [] σ := by
  rw [f_X5_passPart] at h
  refine r_aload_n X dX5_passPart_0 rfl 0 rfl ?_
  refine gf_X5_22 X dX5_passPart_1 h (fun v1 h => ?_)
  refine r_bipush X 100 dX5_passPart_4 (by decide) ?_
  refine r_icmp_ge X 32 dX5_passPart_6 (by decide) h (fun g2 h => ?_) (fun g2 h => ?_)
  · refine r_aload_n X dX5_passPart_32 rfl 0 rfl ?_
    refine gf_X5_25 X dX5_passPart_33 ?_
    refine r_iload_n X dX5_passPart_36 rfl 1 rfl ?_
    refine r_callV X 3 6 (by decide) rfl rfl rfl lk_X5_45 (c_X6_firstBehind (zl z) X.2.2.2.2.2.2.2.1 N (zD z) (zy z) (zA z) (zS z) a1 σ) ⟨Nat.le_trans (by decide) hR.1, Nat.le_trans (by decide) hR.2⟩ rfl rfl (Nat.le_of_ble_eq_true rfl) dX5_passPart_37 h (fun v3 σ4 h => ?_)
    exact r_iret Rt dX5_passPart_40 h
  · refine r_aload_n X dX5_passPart_9 rfl 0 rfl ?_
    refine gf_X5_15 X dX5_passPart_10 ?_
    refine r_aload_n X dX5_passPart_13 rfl 0 rfl ?_
    refine gf_X5_22 X dX5_passPart_14 h (fun v5 h => ?_)
    refine r_iload_n X dX5_passPart_17 rfl 1 rfl ?_
    refine r_callS X lk_X5_51 (c_X6_codeOf (zl z) X.2.2.2.2.2.2.2.1 N (zD z) (zy z) (zA z) (zS z) a1 σ) ⟨Nat.le_trans (by decide) hR.1, Nat.le_trans (by decide) hR.2⟩ rfl rfl (Nat.le_of_ble_eq_true rfl) dX5_passPart_18 h (fun v6 σ7 h => ?_)
    refine as_11 X dX5_passPart_21 h (fun σ8 h => ?_)
    refine r_aload_n X dX5_passPart_22 rfl 0 rfl ?_
    refine r_dup X dX5_passPart_23 rfl ?_
    refine gf_X5_22 X dX5_passPart_24 h (fun v9 h => ?_)
    refine r_iconst X 1 dX5_passPart_27 (by decide) ?_
    refine r_iadd X dX5_passPart_28 ?_
    refine pf_X5_22 X dX5_passPart_29 h (fun σ10 h => ?_)
    refine r_aload_n X dX5_passPart_32 rfl 0 rfl ?_
    refine gf_X5_25 X dX5_passPart_33 ?_
    refine r_iload_n X dX5_passPart_36 rfl 1 rfl ?_
    refine r_callV X 3 6 (by decide) rfl rfl rfl lk_X5_45 (c_X6_firstBehind (zl z) X.2.2.2.2.2.2.2.1 N (zD z) (zy z) (zA z) (zS z) a1 σ10) ⟨Nat.le_trans (by decide) hR.1, Nat.le_trans (by decide) hR.2⟩ rfl rfl (Nat.le_of_ble_eq_true rfl) dX5_passPart_37 h (fun v11 σ12 h => ?_)
    exact r_iret Rt dX5_passPart_40 h
theorem c_X5_passPart (l : Launch) (hl : l.stackTraces = false) (N : Nat) (D : va_G) (cy : Nat → ClassId) (ad sa : Nat → Nat) (a1 : Int32) (σ : Sg) : CtI l yX5_passPart cX5_passPart 2 (some .int) 1 23 D cy ad sa [.ref (ad 9), .int a1] σ (f_X5_passPart N a1 σ) :=
  ct_I hl (by decide +kernel) (Nat.le_of_ble_eq_true rfl) (fun z res e1 e2 e3 e4 e5 e6 X Rt h => by subst e1 e2 e3 e4 e5; exact w_X5_passPart X ⟨e6.1, e6.2⟩ Rt N a1 σ h)
def f_X5_follow_14 (N : Nat) (K : Sg → Option (Int32 × Sg)) : Nat → Int32 → Int32 → Sg → Option (Int32 × Sg)
  | 0, _, _, _ => none
  | n + 1, x1, x2, σ => if 160 ≤ x2 then (K σ) else (if x1 = (-1) then (K σ) else (cI (f_X6_isElement N x1 σ) (fun v5 σ6 => if v5 = 0 then (cI (f_X5_passPart N x1 σ6) (fun v8 σ9 => lt (x2 + 1) (fun v10 => f_X5_follow_14 N K n v8 v10 σ9))) else (cI (f_X5_passElement N x1 σ6) (fun v11 σ12 => lt (x2 + 1) (fun v13 => f_X5_follow_14 N K n v11 v13 σ12))))))
def f_X5_follow (N : Nat) (σ : Sg) : Option (Int32 × Sg) := st (ss σ 9 3 0) (fun σ1 => st (ss σ1 9 4 0) (fun σ2 => f_X5_follow_14 N (fun σ14 => some (0, σ14)) N 0 0 σ2))
set_option maxHeartbeats 4000000 in
set_option maxRecDepth 100000 in
theorem w_X5_follow_14 {z : Cz} (X : Cx z cX5_follow 3 RX5) (hR : 4 ≤ (zR z).frames ∧ 85 ≤ (zR z).locals) {res : (Int32 × Sg)} (N : Nat) (K : Sg → Option (Int32 × Sg)) (kx : ∀ (σ : Sg), K σ = some res → V z 0 3 53 [] [] σ) : ∀ (n : Nat) (x1 : Int32) (x2 : Int32) (σ : Sg), f_X5_follow_14 N K n x1 x2 σ = some res → V z 0 3 14 [(0, .ref (zA z 9)), (1, .int x1), (2, .int x2)] [] σ := by
  intro n
  induction n with
  | zero =>
    intro x1 x2 σ h
    rw [f_X5_follow_14] at h
    cases h
  | succ n ih =>
    intro x1 x2 σ h
    rw [f_X5_follow_14] at h
    refine r_iload_n X dX5_follow_14 rfl 2 rfl ?_
    refine r_sipush X 160 dX5_follow_15 (by decide) ?_
    refine r_icmp_ge X 53 dX5_follow_18 (by decide) h (fun g3 h => ?_) (fun g3 h => ?_)
    · refine r_sub [] rfl ?_
      exact kx  σ h
    · refine r_iload_n X dX5_follow_21 rfl 1 rfl ?_
      refine r_iconst X (-1) dX5_follow_22 (by decide) ?_
      refine r_icmp_eq X 53 dX5_follow_23 (by decide) h (fun g4 h => ?_) (fun g4 h => ?_)
      · refine r_sub [] rfl ?_
        exact kx  σ h
      · refine r_iload_n X dX5_follow_26 rfl 1 rfl ?_
        refine r_callS X lk_X5_29 (c_X6_isElement (zl z) X.2.2.2.2.2.2.2.1 N (zD z) (zy z) (zA z) (zS z) x1 σ) ⟨Nat.le_trans (by decide) hR.1, Nat.le_trans (by decide) hR.2⟩ rfl rfl (Nat.le_of_ble_eq_true rfl) dX5_follow_27 h (fun v5 σ6 h => ?_)
        refine r_if_eq X 41 dX5_follow_30 (by decide) h (fun g7 h => ?_) (fun g7 h => ?_)
        · refine r_aload_n X dX5_follow_41 rfl 0 rfl ?_
          refine r_iload_n X dX5_follow_42 rfl 1 rfl ?_
          refine r_callV X 9 5 (by decide) rfl rfl rfl lk_X5_39 (c_X5_passPart (zl z) X.2.2.2.2.2.2.2.1 N (zD z) (zy z) (zA z) (zS z) x1 σ6) ⟨Nat.le_trans (by decide) hR.1, Nat.le_trans (by decide) hR.2⟩ rfl rfl (Nat.le_of_ble_eq_true rfl) dX5_follow_43 h (fun v8 σ9 h => ?_)
          refine r_istore_n X [(1, .int v8), (0, .ref (zA z 9)), (2, .int x2)] dX5_follow_46 rfl (by decide) rfl ?_
          refine r_iinc X 1 (fun v10 => [(2, .int v10), (1, .int v8), (0, .ref (zA z 9))]) dX5_follow_47 2 rfl (by decide) (by decide) (fun _ => rfl) h (fun v10 h => ?_)
          refine r_goto X 14 dX5_follow_50 (by decide) ?_
          refine r_sub [2, 1, 0] rfl ?_
          exact ih v8 v10 σ9 h
        · refine r_aload_n X dX5_follow_33 rfl 0 rfl ?_
          refine r_iload_n X dX5_follow_34 rfl 1 rfl ?_
          refine r_callV X 9 5 (by decide) rfl rfl rfl lk_X5_35 (c_X5_passElement (zl z) X.2.2.2.2.2.2.2.1 N (zD z) (zy z) (zA z) (zS z) x1 σ6) ⟨Nat.le_trans (by decide) hR.1, Nat.le_trans (by decide) hR.2⟩ rfl rfl (Nat.le_of_ble_eq_true rfl) dX5_follow_35 h (fun v11 σ12 h => ?_)
          refine r_goto X 46 dX5_follow_38 (by decide) ?_
          refine r_istore_n X [(1, .int v11), (0, .ref (zA z 9)), (2, .int x2)] dX5_follow_46 rfl (by decide) rfl ?_
          refine r_iinc X 1 (fun v13 => [(2, .int v13), (1, .int v11), (0, .ref (zA z 9))]) dX5_follow_47 2 rfl (by decide) (by decide) (fun _ => rfl) h (fun v13 h => ?_)
          refine r_goto X 14 dX5_follow_50 (by decide) ?_
          refine r_sub [2, 1, 0] rfl ?_
          exact ih v11 v13 σ12 h
set_option maxHeartbeats 4000000 in
set_option maxRecDepth 100000 in
theorem w_X5_follow {z : Cz} (X : Cx z cX5_follow 3 RX5) (hR : 4 ≤ (zR z).frames ∧ 85 ≤ (zR z).locals) {res : (Int32 × Sg)} (Rt : RtV z cX5_follow 3 res) (N : Nat) (σ : Sg) (h : f_X5_follow N σ = some res) : V z 0 3 0 [(0, .ref (zA z 9))] [] σ := by
  rw [f_X5_follow] at h
  refine r_aload_n X dX5_follow_0 rfl 0 rfl ?_
  refine r_iconst X 0 dX5_follow_1 (by decide) ?_
  refine pf_X5_18 X dX5_follow_2 h (fun σ1 h => ?_)
  refine r_aload_n X dX5_follow_5 rfl 0 rfl ?_
  refine r_iconst X 0 dX5_follow_6 (by decide) ?_
  refine pf_X5_22 X dX5_follow_7 h (fun σ2 h => ?_)
  refine r_iconst X 0 dX5_follow_10 (by decide) ?_
  refine r_istore_n X [(1, .int 0), (0, .ref (zA z 9))] dX5_follow_11 rfl (by decide) rfl ?_
  refine r_iconst X 0 dX5_follow_12 (by decide) ?_
  refine r_istore_n X [(2, .int 0), (1, .int 0), (0, .ref (zA z 9))] dX5_follow_13 rfl (by decide) rfl ?_
  refine r_sub [2, 1, 0] rfl ?_
  refine w_X5_follow_14 X hR N _ (fun σ14 h => ?_) N 0 0 σ2 h
  exact r_vret Rt dX5_follow_53 h
theorem c_X5_follow (l : Launch) (hl : l.stackTraces = false) (N : Nat) (D : va_G) (cy : Nat → ClassId) (ad sa : Nat → Nat) (σ : Sg) : CtV l yX5_follow cX5_follow 3 4 85 D cy ad sa [.ref (ad 9)] σ (f_X5_follow N σ) :=
  ct_V hl (by decide +kernel) (Nat.le_of_ble_eq_true rfl) (fun z res e1 e2 e3 e4 e5 e6 X Rt h => by subst e1 e2 e3 e4 e5; exact w_X5_follow X ⟨e6.1, e6.2⟩ Rt N σ h)
end
