section
-- ===== PART A: goes FIRST, ahead of the names: the tables' words, and 'selects' of the private methods out of them =====
/-- a private method of a class that the tables say can be made, by its rows of tables_1 -/
def lw_okq (q : MethodName × Nat) : Prop := (q.1.cls ≠ "java/lang/invoke/MethodHandle" ∧ q.1.cls ≠ "java/lang/invoke/VarHandle") ∧ Cond.instantiable q.1.cls q.2 ∈ tables_1 ∧ Cond.privateMethod q.1 ∈ tables_1 ∧ Cond.instanceMethod q.1 ∈ tables_1
theorem lw_p0 : lw_okq (⟨"StampSheet$State", "addCopy", "(III)V"⟩, 8) := ⟨⟨by decide +kernel, by decide +kernel⟩, List.mem_of_getElem? (i := 20) (by decide +kernel), List.mem_of_getElem? (i := 210) (by decide +kernel), List.mem_of_getElem? (i := 211) (by decide +kernel)⟩
theorem lw_p1 : lw_okq (⟨"StampSheet$State", "isBarred", "(I)Z"⟩, 8) := ⟨⟨by decide +kernel, by decide +kernel⟩, List.mem_of_getElem? (i := 20) (by decide +kernel), List.mem_of_getElem? (i := 339) (by decide +kernel), List.mem_of_getElem? (i := 340) (by decide +kernel)⟩
theorem lw_p2 : lw_okq (⟨"StampSheet$Search", "openSpots", "()Z"⟩, 19) := ⟨⟨by decide +kernel, by decide +kernel⟩, List.mem_of_getElem? (i := 58) (by decide +kernel), List.mem_of_getElem? (i := 359) (by decide +kernel), List.mem_of_getElem? (i := 360) (by decide +kernel)⟩
theorem lw_p3 : lw_okq (⟨"StampSheet$State", "keepsMargins", "(III)Z"⟩, 8) := ⟨⟨by decide +kernel, by decide +kernel⟩, List.mem_of_getElem? (i := 20) (by decide +kernel), List.mem_of_getElem? (i := 369) (by decide +kernel), List.mem_of_getElem? (i := 370) (by decide +kernel)⟩
theorem lw_p4 : lw_okq (⟨"StampSheet$State", "keepsLetters", "(III)Z"⟩, 8) := ⟨⟨by decide +kernel, by decide +kernel⟩, List.mem_of_getElem? (i := 20) (by decide +kernel), List.mem_of_getElem? (i := 373) (by decide +kernel), List.mem_of_getElem? (i := 374) (by decide +kernel)⟩
theorem lw_p5 : lw_okq (⟨"StampSheet$Search", "formGroups", "()V"⟩, 19) := ⟨⟨by decide +kernel, by decide +kernel⟩, List.mem_of_getElem? (i := 58) (by decide +kernel), List.mem_of_getElem? (i := 377) (by decide +kernel), List.mem_of_getElem? (i := 378) (by decide +kernel)⟩
theorem lw_p6 : lw_okq (⟨"StampSheet$Clashes", "clashOf", "(III)I"⟩, 5) := ⟨⟨by decide +kernel, by decide +kernel⟩, List.mem_of_getElem? (i := 64) (by decide +kernel), List.mem_of_getElem? (i := 399) (by decide +kernel), List.mem_of_getElem? (i := 400) (by decide +kernel)⟩
theorem lw_p7 : lw_okq (⟨"StampSheet$Search", "join", "(II)V"⟩, 19) := ⟨⟨by decide +kernel, by decide +kernel⟩, List.mem_of_getElem? (i := 58) (by decide +kernel), List.mem_of_getElem? (i := 405) (by decide +kernel), List.mem_of_getElem? (i := 406) (by decide +kernel)⟩
theorem lw_p8 : lw_okq (⟨"StampSheet$Search", "nextOfGroup", "(I)I"⟩, 19) := ⟨⟨by decide +kernel, by decide +kernel⟩, List.mem_of_getElem? (i := 58) (by decide +kernel), List.mem_of_getElem? (i := 415) (by decide +kernel), List.mem_of_getElem? (i := 416) (by decide +kernel)⟩
theorem lw_p9 : lw_okq (⟨"StampSheet$Search", "searchGroups", "()V"⟩, 19) := ⟨⟨by decide +kernel, by decide +kernel⟩, List.mem_of_getElem? (i := 58) (by decide +kernel), List.mem_of_getElem? (i := 419) (by decide +kernel), List.mem_of_getElem? (i := 420) (by decide +kernel)⟩
theorem lw_p10 : lw_okq (⟨"StampSheet$Search", "leadsGroup", "(I)Z"⟩, 19) := ⟨⟨by decide +kernel, by decide +kernel⟩, List.mem_of_getElem? (i := 58) (by decide +kernel), List.mem_of_getElem? (i := 423) (by decide +kernel), List.mem_of_getElem? (i := 424) (by decide +kernel)⟩
theorem lw_p11 : lw_okq (⟨"StampSheet$Search", "lower", "(II)V"⟩, 19) := ⟨⟨by decide +kernel, by decide +kernel⟩, List.mem_of_getElem? (i := 58) (by decide +kernel), List.mem_of_getElem? (i := 434) (by decide +kernel), List.mem_of_getElem? (i := 435) (by decide +kernel)⟩
theorem lw_p12 : lw_okq (⟨"StampSheet$Search", "loadOf", "(II)I"⟩, 19) := ⟨⟨by decide +kernel, by decide +kernel⟩, List.mem_of_getElem? (i := 58) (by decide +kernel), List.mem_of_getElem? (i := 439) (by decide +kernel), List.mem_of_getElem? (i := 440) (by decide +kernel)⟩
theorem lw_p13 : lw_okq (⟨"StampSheet$Search", "lay", "(II)V"⟩, 19) := ⟨⟨by decide +kernel, by decide +kernel⟩, List.mem_of_getElem? (i := 58) (by decide +kernel), List.mem_of_getElem? (i := 443) (by decide +kernel), List.mem_of_getElem? (i := 444) (by decide +kernel)⟩
theorem lw_p14 : lw_okq (⟨"StampSheet$Search", "ways", "(II)I"⟩, 19) := ⟨⟨by decide +kernel, by decide +kernel⟩, List.mem_of_getElem? (i := 58) (by decide +kernel), List.mem_of_getElem? (i := 448) (by decide +kernel), List.mem_of_getElem? (i := 449) (by decide +kernel)⟩
theorem lw_p15 : lw_okq (⟨"StampSheet$Search", "spotsWithin", "(II)I"⟩, 19) := ⟨⟨by decide +kernel, by decide +kernel⟩, List.mem_of_getElem? (i := 58) (by decide +kernel), List.mem_of_getElem? (i := 452) (by decide +kernel), List.mem_of_getElem? (i := 453) (by decide +kernel)⟩
def lw_privs_1 : List (MethodName × Nat) := [(⟨"StampSheet$State", "addCopy", "(III)V"⟩, 8), (⟨"StampSheet$State", "isBarred", "(I)Z"⟩, 8), (⟨"StampSheet$Search", "openSpots", "()Z"⟩, 19), (⟨"StampSheet$State", "keepsMargins", "(III)Z"⟩, 8), (⟨"StampSheet$State", "keepsLetters", "(III)Z"⟩, 8), (⟨"StampSheet$Search", "formGroups", "()V"⟩, 19), (⟨"StampSheet$Clashes", "clashOf", "(III)I"⟩, 5), (⟨"StampSheet$Search", "join", "(II)V"⟩, 19), (⟨"StampSheet$Search", "nextOfGroup", "(I)I"⟩, 19), (⟨"StampSheet$Search", "searchGroups", "()V"⟩, 19), (⟨"StampSheet$Search", "leadsGroup", "(I)Z"⟩, 19), (⟨"StampSheet$Search", "lower", "(II)V"⟩, 19), (⟨"StampSheet$Search", "loadOf", "(II)I"⟩, 19), (⟨"StampSheet$Search", "lay", "(II)V"⟩, 19), (⟨"StampSheet$Search", "ways", "(II)I"⟩, 19), (⟨"StampSheet$Search", "spotsWithin", "(II)I"⟩, 19)]
theorem lw_r1 : ∀ q ∈ lw_privs_1, lw_okq q := List.forall_mem_cons.mpr ⟨lw_p0, List.forall_mem_cons.mpr ⟨lw_p1, List.forall_mem_cons.mpr ⟨lw_p2, List.forall_mem_cons.mpr ⟨lw_p3, List.forall_mem_cons.mpr ⟨lw_p4, List.forall_mem_cons.mpr ⟨lw_p5, List.forall_mem_cons.mpr ⟨lw_p6, List.forall_mem_cons.mpr ⟨lw_p7, List.forall_mem_cons.mpr ⟨lw_p8, List.forall_mem_cons.mpr ⟨lw_p9, List.forall_mem_cons.mpr ⟨lw_p10, List.forall_mem_cons.mpr ⟨lw_p11, List.forall_mem_cons.mpr ⟨lw_p12, List.forall_mem_cons.mpr ⟨lw_p13, List.forall_mem_cons.mpr ⟨lw_p14, List.forall_mem_cons.mpr ⟨lw_p15, fun _ h => absurd h List.not_mem_nil⟩⟩⟩⟩⟩⟩⟩⟩⟩⟩⟩⟩⟩⟩⟩⟩
theorem lw_p16 : lw_okq (⟨"StampSheet$Search", "findSurePlaces", "()V"⟩, 19) := ⟨⟨by decide +kernel, by decide +kernel⟩, List.mem_of_getElem? (i := 58) (by decide +kernel), List.mem_of_getElem? (i := 457) (by decide +kernel), List.mem_of_getElem? (i := 458) (by decide +kernel)⟩
theorem lw_p17 : lw_okq (⟨"StampSheet$Search", "pick", "(I)V"⟩, 19) := ⟨⟨by decide +kernel, by decide +kernel⟩, List.mem_of_getElem? (i := 58) (by decide +kernel), List.mem_of_getElem? (i := 483) (by decide +kernel), List.mem_of_getElem? (i := 484) (by decide +kernel)⟩
theorem lw_p18 : lw_okq (⟨"StampSheet$Search", "pickSpot", "(II)I"⟩, 19) := ⟨⟨by decide +kernel, by decide +kernel⟩, List.mem_of_getElem? (i := 58) (by decide +kernel), List.mem_of_getElem? (i := 487) (by decide +kernel), List.mem_of_getElem? (i := 488) (by decide +kernel)⟩
theorem lw_p19 : lw_okq (⟨"StampSheet$Search", "waysOfOthers", "(I)I"⟩, 19) := ⟨⟨by decide +kernel, by decide +kernel⟩, List.mem_of_getElem? (i := 58) (by decide +kernel), List.mem_of_getElem? (i := 491) (by decide +kernel), List.mem_of_getElem? (i := 492) (by decide +kernel)⟩
theorem lw_p20 : lw_okq (⟨"StampSheet", "refusalOf", "(I)I"⟩, 5) := ⟨⟨by decide +kernel, by decide +kernel⟩, List.mem_of_getElem? (i := 12) (by decide +kernel), List.mem_of_getElem? (i := 499) (by decide +kernel), List.mem_of_getElem? (i := 500) (by decide +kernel)⟩
theorem lw_p21 : lw_okq (⟨"StampSheet$Sure", "insert", "(II)V"⟩, 3) := ⟨⟨by decide +kernel, by decide +kernel⟩, List.mem_of_getElem? (i := 150) (by decide +kernel), List.mem_of_getElem? (i := 521) (by decide +kernel), List.mem_of_getElem? (i := 522) (by decide +kernel)⟩
theorem lw_p22 : lw_okq (⟨"StampSheet$Sure", "invertedInLine", "(I)I"⟩, 3) := ⟨⟨by decide +kernel, by decide +kernel⟩, List.mem_of_getElem? (i := 150) (by decide +kernel), List.mem_of_getElem? (i := 563) (by decide +kernel), List.mem_of_getElem? (i := 564) (by decide +kernel)⟩
theorem lw_p23 : lw_okq (⟨"StampSheet$Sure", "areInverted", "(II)Z"⟩, 3) := ⟨⟨by decide +kernel, by decide +kernel⟩, List.mem_of_getElem? (i := 150) (by decide +kernel), List.mem_of_getElem? (i := 567) (by decide +kernel), List.mem_of_getElem? (i := 568) (by decide +kernel)⟩
theorem lw_p24 : lw_okq (⟨"StampSheet$State", "isInSpan", "(II)Z"⟩, 8) := ⟨⟨by decide +kernel, by decide +kernel⟩, List.mem_of_getElem? (i := 20) (by decide +kernel), List.mem_of_getElem? (i := 579) (by decide +kernel), List.mem_of_getElem? (i := 580) (by decide +kernel)⟩
theorem lw_p25 : lw_okq (⟨"StampSheetModel", "isCopy", "(I)Z"⟩, 36) := ⟨⟨by decide +kernel, by decide +kernel⟩, List.mem_of_getElem? (i := 636) (by decide +kernel), List.mem_of_getElem? (i := 770) (by decide +kernel), List.mem_of_getElem? (i := 771) (by decide +kernel)⟩
theorem lw_p26 : lw_okq (⟨"StampSheetModel", "isPiece", "(I)Z"⟩, 36) := ⟨⟨by decide +kernel, by decide +kernel⟩, List.mem_of_getElem? (i := 636) (by decide +kernel), List.mem_of_getElem? (i := 797) (by decide +kernel), List.mem_of_getElem? (i := 798) (by decide +kernel)⟩
theorem lw_p27 : lw_okq (⟨"StampSheetModel", "rowOf", "(I)I"⟩, 36) := ⟨⟨by decide +kernel, by decide +kernel⟩, List.mem_of_getElem? (i := 636) (by decide +kernel), List.mem_of_getElem? (i := 813) (by decide +kernel), List.mem_of_getElem? (i := 814) (by decide +kernel)⟩
theorem lw_p28 : lw_okq (⟨"StampSheetModel", "columnOf", "(I)I"⟩, 36) := ⟨⟨by decide +kernel, by decide +kernel⟩, List.mem_of_getElem? (i := 636) (by decide +kernel), List.mem_of_getElem? (i := 817) (by decide +kernel), List.mem_of_getElem? (i := 818) (by decide +kernel)⟩
theorem lw_p29 : lw_okq (⟨"StampSheetModel", "isForged", "(I)Z"⟩, 36) := ⟨⟨by decide +kernel, by decide +kernel⟩, List.mem_of_getElem? (i := 636) (by decide +kernel), List.mem_of_getElem? (i := 825) (by decide +kernel), List.mem_of_getElem? (i := 826) (by decide +kernel)⟩
theorem lw_p30 : lw_okq (⟨"StampSheetModel", "sizeOf", "(I)I"⟩, 36) := ⟨⟨by decide +kernel, by decide +kernel⟩, List.mem_of_getElem? (i := 636) (by decide +kernel), List.mem_of_getElem? (i := 829) (by decide +kernel), List.mem_of_getElem? (i := 830) (by decide +kernel)⟩
theorem lw_p31 : lw_okq (⟨"StampSheetModel", "takesPart", "(I)Z"⟩, 36) := ⟨⟨by decide +kernel, by decide +kernel⟩, List.mem_of_getElem? (i := 636) (by decide +kernel), List.mem_of_getElem? (i := 833) (by decide +kernel), List.mem_of_getElem? (i := 834) (by decide +kernel)⟩
def lw_privs_2 : List (MethodName × Nat) := [(⟨"StampSheet$Search", "findSurePlaces", "()V"⟩, 19), (⟨"StampSheet$Search", "pick", "(I)V"⟩, 19), (⟨"StampSheet$Search", "pickSpot", "(II)I"⟩, 19), (⟨"StampSheet$Search", "waysOfOthers", "(I)I"⟩, 19), (⟨"StampSheet", "refusalOf", "(I)I"⟩, 5), (⟨"StampSheet$Sure", "insert", "(II)V"⟩, 3), (⟨"StampSheet$Sure", "invertedInLine", "(I)I"⟩, 3), (⟨"StampSheet$Sure", "areInverted", "(II)Z"⟩, 3), (⟨"StampSheet$State", "isInSpan", "(II)Z"⟩, 8), (⟨"StampSheetModel", "isCopy", "(I)Z"⟩, 36), (⟨"StampSheetModel", "isPiece", "(I)Z"⟩, 36), (⟨"StampSheetModel", "rowOf", "(I)I"⟩, 36), (⟨"StampSheetModel", "columnOf", "(I)I"⟩, 36), (⟨"StampSheetModel", "isForged", "(I)Z"⟩, 36), (⟨"StampSheetModel", "sizeOf", "(I)I"⟩, 36), (⟨"StampSheetModel", "takesPart", "(I)Z"⟩, 36)]
theorem lw_r2 : ∀ q ∈ lw_privs_2, lw_okq q := List.forall_mem_cons.mpr ⟨lw_p16, List.forall_mem_cons.mpr ⟨lw_p17, List.forall_mem_cons.mpr ⟨lw_p18, List.forall_mem_cons.mpr ⟨lw_p19, List.forall_mem_cons.mpr ⟨lw_p20, List.forall_mem_cons.mpr ⟨lw_p21, List.forall_mem_cons.mpr ⟨lw_p22, List.forall_mem_cons.mpr ⟨lw_p23, List.forall_mem_cons.mpr ⟨lw_p24, List.forall_mem_cons.mpr ⟨lw_p25, List.forall_mem_cons.mpr ⟨lw_p26, List.forall_mem_cons.mpr ⟨lw_p27, List.forall_mem_cons.mpr ⟨lw_p28, List.forall_mem_cons.mpr ⟨lw_p29, List.forall_mem_cons.mpr ⟨lw_p30, List.forall_mem_cons.mpr ⟨lw_p31, fun _ h => absurd h List.not_mem_nil⟩⟩⟩⟩⟩⟩⟩⟩⟩⟩⟩⟩⟩⟩⟩⟩
theorem lw_p32 : lw_okq (⟨"StampSheetModel", "find", "(I)V"⟩, 36) := ⟨⟨by decide +kernel, by decide +kernel⟩, List.mem_of_getElem? (i := 636) (by decide +kernel), List.mem_of_getElem? (i := 841) (by decide +kernel), List.mem_of_getElem? (i := 842) (by decide +kernel)⟩
theorem lw_p33 : lw_okq (⟨"StampSheetModel", "prepare", "()V"⟩, 36) := ⟨⟨by decide +kernel, by decide +kernel⟩, List.mem_of_getElem? (i := 636) (by decide +kernel), List.mem_of_getElem? (i := 845) (by decide +kernel), List.mem_of_getElem? (i := 846) (by decide +kernel)⟩
theorem lw_p34 : lw_okq (⟨"StampSheetModel", "places", "()I"⟩, 36) := ⟨⟨by decide +kernel, by decide +kernel⟩, List.mem_of_getElem? (i := 636) (by decide +kernel), List.mem_of_getElem? (i := 849) (by decide +kernel), List.mem_of_getElem? (i := 850) (by decide +kernel)⟩
theorem lw_p35 : lw_okq (⟨"StampSheetModel", "fits", "(II)Z"⟩, 36) := ⟨⟨by decide +kernel, by decide +kernel⟩, List.mem_of_getElem? (i := 636) (by decide +kernel), List.mem_of_getElem? (i := 853) (by decide +kernel), List.mem_of_getElem? (i := 854) (by decide +kernel)⟩
theorem lw_p36 : lw_okq (⟨"StampSheetModel", "quarrelOf", "(IIII)I"⟩, 36) := ⟨⟨by decide +kernel, by decide +kernel⟩, List.mem_of_getElem? (i := 636) (by decide +kernel), List.mem_of_getElem? (i := 857) (by decide +kernel), List.mem_of_getElem? (i := 858) (by decide +kernel)⟩
theorem lw_p37 : lw_okq (⟨"StampSheetModel", "spot", "(II)I"⟩, 36) := ⟨⟨by decide +kernel, by decide +kernel⟩, List.mem_of_getElem? (i := 636) (by decide +kernel), List.mem_of_getElem? (i := 861) (by decide +kernel), List.mem_of_getElem? (i := 862) (by decide +kernel)⟩
theorem lw_p38 : lw_okq (⟨"StampSheetModel", "keepLaying", "(II)V"⟩, 36) := ⟨⟨by decide +kernel, by decide +kernel⟩, List.mem_of_getElem? (i := 636) (by decide +kernel), List.mem_of_getElem? (i := 866) (by decide +kernel), List.mem_of_getElem? (i := 867) (by decide +kernel)⟩
theorem lw_p39 : lw_okq (⟨"StampSheetModel", "isPlace", "(I)Z"⟩, 36) := ⟨⟨by decide +kernel, by decide +kernel⟩, List.mem_of_getElem? (i := 636) (by decide +kernel), List.mem_of_getElem? (i := 897) (by decide +kernel), List.mem_of_getElem? (i := 898) (by decide +kernel)⟩
theorem lw_p40 : lw_okq (⟨"StampSheetModel", "findOrder", "(I)V"⟩, 36) := ⟨⟨by decide +kernel, by decide +kernel⟩, List.mem_of_getElem? (i := 636) (by decide +kernel), List.mem_of_getElem? (i := 901) (by decide +kernel), List.mem_of_getElem? (i := 902) (by decide +kernel)⟩
theorem lw_p41 : lw_okq (⟨"StampSheetModel", "changesOf", "(I)I"⟩, 36) := ⟨⟨by decide +kernel, by decide +kernel⟩, List.mem_of_getElem? (i := 636) (by decide +kernel), List.mem_of_getElem? (i := 913) (by decide +kernel), List.mem_of_getElem? (i := 914) (by decide +kernel)⟩
theorem lw_p42 : lw_okq (⟨"StampSheetModel", "forged", "()I"⟩, 36) := ⟨⟨by decide +kernel, by decide +kernel⟩, List.mem_of_getElem? (i := 636) (by decide +kernel), List.mem_of_getElem? (i := 940) (by decide +kernel), List.mem_of_getElem? (i := 941) (by decide +kernel)⟩
theorem lw_p43 : lw_okq (⟨"StampSheetModel", "taking", "()I"⟩, 36) := ⟨⟨by decide +kernel, by decide +kernel⟩, List.mem_of_getElem? (i := 636) (by decide +kernel), List.mem_of_getElem? (i := 944) (by decide +kernel), List.mem_of_getElem? (i := 945) (by decide +kernel)⟩
theorem lw_p44 : lw_okq (⟨"StampSheetModel", "sure", "()I"⟩, 36) := ⟨⟨by decide +kernel, by decide +kernel⟩, List.mem_of_getElem? (i := 636) (by decide +kernel), List.mem_of_getElem? (i := 948) (by decide +kernel), List.mem_of_getElem? (i := 949) (by decide +kernel)⟩
def lw_privs_3 : List (MethodName × Nat) := [(⟨"StampSheetModel", "find", "(I)V"⟩, 36), (⟨"StampSheetModel", "prepare", "()V"⟩, 36), (⟨"StampSheetModel", "places", "()I"⟩, 36), (⟨"StampSheetModel", "fits", "(II)Z"⟩, 36), (⟨"StampSheetModel", "quarrelOf", "(IIII)I"⟩, 36), (⟨"StampSheetModel", "spot", "(II)I"⟩, 36), (⟨"StampSheetModel", "keepLaying", "(II)V"⟩, 36), (⟨"StampSheetModel", "isPlace", "(I)Z"⟩, 36), (⟨"StampSheetModel", "findOrder", "(I)V"⟩, 36), (⟨"StampSheetModel", "changesOf", "(I)I"⟩, 36), (⟨"StampSheetModel", "forged", "()I"⟩, 36), (⟨"StampSheetModel", "taking", "()I"⟩, 36), (⟨"StampSheetModel", "sure", "()I"⟩, 36)]
theorem lw_r3 : ∀ q ∈ lw_privs_3, lw_okq q := List.forall_mem_cons.mpr ⟨lw_p32, List.forall_mem_cons.mpr ⟨lw_p33, List.forall_mem_cons.mpr ⟨lw_p34, List.forall_mem_cons.mpr ⟨lw_p35, List.forall_mem_cons.mpr ⟨lw_p36, List.forall_mem_cons.mpr ⟨lw_p37, List.forall_mem_cons.mpr ⟨lw_p38, List.forall_mem_cons.mpr ⟨lw_p39, List.forall_mem_cons.mpr ⟨lw_p40, List.forall_mem_cons.mpr ⟨lw_p41, List.forall_mem_cons.mpr ⟨lw_p42, List.forall_mem_cons.mpr ⟨lw_p43, List.forall_mem_cons.mpr ⟨lw_p44, fun _ h => absurd h List.not_mem_nil⟩⟩⟩⟩⟩⟩⟩⟩⟩⟩⟩⟩⟩
def lw_privs : List (MethodName × Nat) := lw_privs_1 ++ (lw_privs_2 ++ (lw_privs_3))
def lw_tbl : List Cond := k2_sels lw_privs ++ tables_1
theorem lw_privs_ok : ∀ q ∈ lw_privs, lw_okq q := by
  show ∀ q ∈ lw_privs_1 ++ (lw_privs_2 ++ (lw_privs_3)), lw_okq q
  exact List.forall_mem_append.mpr ⟨lw_r1, List.forall_mem_append.mpr ⟨lw_r2, lw_r3⟩⟩
end
section
/-! CORE: the system's cells as one picture (Hp: what each cell holds, by cell and place), and a judgement Ev that packs W over it -/
def RXc : String := "StampSheet$Clashes"
def RXs : String := "StampSheet$Search"
def RXt : String := "StampSheet$State"
def RXu : String := "StampSheet$Sure"
def RXx : String := "StampSheet"
def RXm : String := "StampSheetModel"
def FLc : List (String × String × Bool) := [("state", "LStampSheet$State;", true), ("there", "[I", true), ("notThere", "[I", true), ("offset", "[I", true), ("between", "[I", true)]
def FLs : List (String × String × Bool) := [("state", "LStampSheet$State;", true), ("clashes", "LStampSheet$Clashes;", true), ("stale", "Z", false), ("places", "I", false), ("count", "I", false), ("least", "I", false), ("surePlace", "[I", true), ("lowest", "I", false), ("pickedLaying", "I", false), ("takes", "[Z", true), ("group", "[I", true), ("follower", "[I", true), ("open", "[I", true), ("best", "[I", true), ("groupLeast", "[I", true), ("groupWays", "[I", true), ("waysLeft", "[I", true), ("picked", "[I", true), ("load", "[I", true)]
def FLt : List (String × String × Bool) := [("rows", "I", false), ("columns", "I", false), ("pieces", "I", false), ("copies", "I", false), ("bars", "I", false), ("ofPieces", "[I", true), ("ofCopies", "[I", true), ("barred", "[I", true)]
def FLu : List (String × String × Bool) := [("state", "LStampSheet$State;", true), ("search", "LStampSheet$Search;", true), ("line", "[I", true)]
def FLx : List (String × String × Bool) := [("state", "LStampSheet$State;", true), ("kept", "LStampSheet$State;", true), ("search", "LStampSheet$Search;", true), ("sure", "LStampSheet$Sure;", true), ("somethingIsKept", "Z", false)]
def FLm : List (String × String × Bool) := [("rows", "I", false), ("columns", "I", false), ("pieces", "I", false), ("pieceRows", "[I", true), ("pieceColumns", "[I", true), ("margins", "[I", true), ("first", "[I", true), ("isOut", "[Z", true), ("copies", "I", false), ("pieceOf", "[I", true), ("marks", "[I", true), ("rowLetter", "[I", true), ("columnLetter", "[I", true), ("wears", "[I", true), ("days", "[I", true), ("shades", "[I", true), ("bars", "I", false), ("barOne", "[I", true), ("barOther", "[I", true), ("isKept", "Z", false), ("keptNumbers", "[I", true), ("keptPieces", "[I", true), ("keptCopies", "[I", true), ("keptMarks", "[I", true), ("keptBars", "[I", true), ("parts", "I", false), ("part", "[I", true), ("may", "[Z", true), ("quarrels", "[I", true), ("choice", "[I", true), ("least", "I", false), ("best", "I", false), ("seen", "[I", true), ("asked", "[I", true), ("ordered", "I", false), ("order", "[I", true)]
def fT (C : String) (l : List (String × String × Bool)) : u_T := fun k => (C, (l.getD k ("", "I", false)).1, (l.getD k ("", "I", false)).2.1, (l.getD k ("", "I", false)).2.2)
def fTy (l : List (String × String × Bool)) : Nat → FieldType := fun k => (parseFieldDescriptor (l.getD k ("", "I", false)).2.1).getD .int
def cls : List vw_C := [(RXc, fT RXc FLc, 5), (RXs, fT RXs FLs, 19), (RXt, fT RXt FLt, 8), (RXu, fT RXu FLu, 3), (RXx, fT RXx FLx, 5), (RXm, fT RXm FLm, 36)]
theorem lay_c : ∀ w ∈ u_ws RXc (fT RXc FLc) 5, w ∈ lw_tbl := by decide +kernel
theorem lay_s : ∀ w ∈ u_ws RXs (fT RXs FLs) 19, w ∈ lw_tbl := by decide +kernel
theorem lay_t : ∀ w ∈ u_ws RXt (fT RXt FLt) 8, w ∈ lw_tbl := by decide +kernel
theorem lay_u : ∀ w ∈ u_ws RXu (fT RXu FLu) 3, w ∈ lw_tbl := by decide +kernel
theorem lay_x : ∀ w ∈ u_ws RXx (fT RXx FLx) 5, w ∈ lw_tbl := by decide +kernel
theorem lay_m : ∀ w ∈ u_ws RXm (fT RXm FLm) 36, w ∈ lw_tbl := by decide +kernel
theorem nm_c : ∀ a, a < 5 → ∀ b, b < 5 → a ≠ b → (fT RXc FLc a).2.1 ≠ (fT RXc FLc b).2.1 := by decide +kernel
theorem nm_s : ∀ a, a < 19 → ∀ b, b < 19 → a ≠ b → (fT RXs FLs a).2.1 ≠ (fT RXs FLs b).2.1 := by decide +kernel
theorem nm_t : ∀ a, a < 8 → ∀ b, b < 8 → a ≠ b → (fT RXt FLt a).2.1 ≠ (fT RXt FLt b).2.1 := by decide +kernel
theorem nm_u : ∀ a, a < 3 → ∀ b, b < 3 → a ≠ b → (fT RXu FLu a).2.1 ≠ (fT RXu FLu b).2.1 := by decide +kernel
theorem nm_x : ∀ a, a < 5 → ∀ b, b < 5 → a ≠ b → (fT RXx FLx a).2.1 ≠ (fT RXx FLx b).2.1 := by decide +kernel
theorem nm_m : ∀ a, a < 36 → ∀ b, b < 36 → a ≠ b → (fT RXm FLm a).2.1 ≠ (fT RXm FLm b).2.1 := by decide +kernel
theorem ty_c : ∀ k, k < 5 → parseFieldDescriptor (fT RXc FLc k).2.2.1 = some (fTy FLc k) := by decide +kernel
theorem ty_s : ∀ k, k < 19 → parseFieldDescriptor (fT RXs FLs k).2.2.1 = some (fTy FLs k) := by decide +kernel
theorem ty_t : ∀ k, k < 8 → parseFieldDescriptor (fT RXt FLt k).2.2.1 = some (fTy FLt k) := by decide +kernel
theorem ty_u : ∀ k, k < 3 → parseFieldDescriptor (fT RXu FLu k).2.2.1 = some (fTy FLu k) := by decide +kernel
theorem ty_x : ∀ k, k < 5 → parseFieldDescriptor (fT RXx FLx k).2.2.1 = some (fTy FLx k) := by decide +kernel
theorem ty_m : ∀ k, k < 36 → parseFieldDescriptor (fT RXm FLm k).2.2.1 = some (fTy FLm k) := by decide +kernel
/-- a class of ours: its fields lie as the tables say, have types, and names of their own -/
def cOk (q : vw_C) : Prop := (∀ w ∈ u_ws q.1 q.2.1 q.2.2, w ∈ lw_tbl) ∧ ∃ ty0 : Nat → FieldType, (∀ k, k < q.2.2 → parseFieldDescriptor (q.2.1 k).2.2.1 = some (ty0 k)) ∧ (∀ a, a < q.2.2 → ∀ b, b < q.2.2 → a ≠ b → (q.2.1 a).2.1 ≠ (q.2.1 b).2.1) ∧ ∀ k, (q.2.1 k).1 = q.1
theorem cls_ok : ∀ (ci : Nat) (q : vw_C), cls[ci]? = some q → cOk q := by
  intro ci q h
  match ci, h with
  | 0, h => cases h; exact ⟨lay_c, _, ty_c, nm_c, fun _ => rfl⟩
  | 1, h => cases h; exact ⟨lay_s, _, ty_s, nm_s, fun _ => rfl⟩
  | 2, h => cases h; exact ⟨lay_t, _, ty_t, nm_t, fun _ => rfl⟩
  | 3, h => cases h; exact ⟨lay_u, _, ty_u, nm_u, fun _ => rfl⟩
  | 4, h => cases h; exact ⟨lay_x, _, ty_x, nm_x, fun _ => rfl⟩
  | 5, h => cases h; exact ⟨lay_m, _, ty_m, nm_m, fun _ => rfl⟩
  | k + 6, h => simp [cls] at h
/-- the words that stay true from call to call -/
def tbl : List Cond := lw_tbl.filter goodWord
theorem tbl_good : GoodIn tbl tbl := fun w hw => ⟨hw, good_of_word (List.mem_filter.mp hw).2⟩
theorem tbl_in {w : Cond} (h : w ∈ lw_tbl) (hg : goodWord w = true) : w ∈ tbl := List.mem_filter.mpr ⟨h, hg⟩
theorem tbl_sub {w : Cond} (h : w ∈ tbl) : w ∈ lw_tbl := (List.mem_filter.mp h).1
theorem u_good (C : String) (T : u_T) (N : Nat) : ∀ w ∈ u_ws C T N, goodWord w = true := by
  intro w hw
  obtain ⟨k, -, rfl⟩ := List.mem_map.mp hw
  unfold u_lay
  split <;> rfl
/-- the calls of private static methods of the class around -/
def nestL : List Cond := [.methodLinkNest RXt 47 ⟨RXx, "isWithin", "(III)Z"⟩ RXx, .methodLinkNest RXt 59 ⟨RXx, "isIn", "(II)Z"⟩ RXx, .methodLinkNest RXc 50 ⟨RXx, "isIn", "(II)Z"⟩ RXx, .methodLinkNest RXs 178 ⟨RXx, "isIn", "(II)Z"⟩ RXx]
def NN (U : State) : Prop := ∀ w ∈ nestL, va_Nw w U
theorem nest_in : ∀ w ∈ nestL, w ∈ lw_tbl := by decide +kernel
theorem nest_on : ∀ w ∈ nestL, w.onTables = true := by decide +kernel
theorem NN.same {u U : State} (h : u.vm = U.vm) (hz : NN u) : NN U := fun w hw => va_Nw.same (nest_on w hw) h (hz w hw)
theorem NN.warm {s U : State} (hW : s.WarmedH U.vm) (hz : NN s) : NN U := by
  intro w hw
  have h := hz w hw
  simp only [nestL, List.mem_cons, List.not_mem_nil, or_false] at hw
  rcases hw with rfl | rfl | rfl | rfl <;> exact va_Nw.warmM hW h
abbrev AV : Type := Int32 ⊕ Nat
abbrev Hp : Type := Nat → Nat → Int32
abbrev Sp : Type := (Bool × Nat) ⊕ (Nat × List (Option Nat))
abbrev GG : Type := (Nat → Nat) × va_G × ClassId × ClassId
abbrev RO : Type := Option (Int32 × Hp)
abbrev MI : Type := MethodName × ByteArray × Nat × Option FieldType
/-- the cells: 0 StampSheet, 1 its state, 2 what is kept, 3 Search, 4 Sure, 5 Clashes, 28 the reference; an array: boolean or not, its length; an object: its class, of each field none (a number) or the cell that it holds -/
def lay : List Sp := [
  .inr (4, [some 1, some 2, some 3, some 4, none]),
  .inr (2, [none, none, none, none, none, some 6, some 7, some 8]),
  .inr (2, [none, none, none, none, none, some 9, some 10, some 11]),
  .inr (1, [some 1, some 5, none, none, none, none, some 12, none, none, some 13, some 14, some 15, some 16, some 17, some 18, some 19, some 20, some 21, some 22]),
  .inr (3, [some 1, some 3, some 27]),
  .inr (0, [some 1, some 23, some 24, some 25, some 26]),
  .inl (false, 30), .inl (false, 300), .inl (false, 8),
  .inl (false, 30), .inl (false, 300), .inl (false, 8),
  .inl (false, 30), .inl (true, 5), .inl (false, 5), .inl (false, 5), .inl (false, 5), .inl (false, 5), .inl (false, 5), .inl (false, 5), .inl (false, 5), .inl (false, 5), .inl (false, 225),
  .inl (false, 30), .inl (false, 30), .inl (false, 30), .inl (false, 2025),
  .inl (false, 5),
  .inr (5, [none, none, none, some 29, some 30, some 31, some 32, some 33, none, some 34, some 35, some 36, some 37, some 38, some 39, some 40, none, some 41, some 42, none, some 43, some 44, some 45, some 46, some 47, none, some 48, some 49, some 50, some 51, none, none, some 52, some 53, none, some 54]),
  .inl (false, 5), .inl (false, 5), .inl (false, 5), .inl (false, 5), .inl (true, 5),
  .inl (false, 30), .inl (false, 240), .inl (false, 30), .inl (false, 30), .inl (false, 30), .inl (false, 30), .inl (false, 30),
  .inl (false, 6), .inl (false, 6),
  .inl (false, 5), .inl (false, 25), .inl (false, 180), .inl (false, 240), .inl (false, 12),
  .inl (false, 5), .inl (true, 45), .inl (false, 2025), .inl (false, 5), .inl (false, 30), .inl (false, 5), .inl (false, 30)]
def cv (g : GG) (a : AV) : Value := match a with
  | .inl x => .int x
  | .inr k => .ref (g.1 k)
def fv (g : GG) (h : Hp) (k j : Nat) (f : Option Nat) : Value := match f with
  | none => .int (h k j)
  | some r => .ref (g.1 r)
def ce (g : GG) (h : Hp) (k : Nat) (sp : Sp) : Nat × va_E := (g.1 k, match sp with
  | .inl a => .inl (bif a.1 then g.2.2.2 else g.2.2.1, a.2, .inl (h k))
  | .inr o => .inr (o.1, o.2.mapIdx (fv g h k)))
def wd (g : GG) (h : Hp) : va_W := lay.mapIdx (ce g h)
def gA (g : GG) : Nat → Prop := fun q => ∃ k : Nat, k < 55 ∧ q = g.1 k
def tyG (g : GG) : List (ClassId × FieldType) := [(g.2.2.1, .int), (g.2.2.2, .boolean)]
/-- the world behind a state -/
def Bw (g : GG) (h : Hp) (t : State) : Prop := va_P g.2.1 cls (wd g h) t.heap ∧ va_K g.2.1 cls (tyG g) t ∧ va_D (gA g) (wd g h)
def rmd (d : Nat) : Room := { frames := d, cells := 0, slots := 0, locals := 40 * d }
def QQ (ret : Option FieldType) (post : Int32 → Hp → Prop) (g : GG) : Array Value → State → Outcome → State → Prop := match ret with
  | none => va_Qv (fun u : Hp => post 0 u) (Bw g) (gA g)
  | some _ => va_Qi post (Bw g) (gA g)
def wsM (M : MI) : List Cond := Cond.code M.1 M.2.1 M.2.2.1 M.2.2.2 :: tbl
/-- a method's contract at these arguments and this picture: it returns, and 'post' holds of its answer (0: none) and of the new picture -/
def Mt (M : MI) (d : Nat) (As : List AV) (h : Hp) (post : Int32 → Hp → Prop) : Prop :=
  ∀ (l : Launch) (g : GG), Met l M.1 (wsM M) (rmd d) (va_Pc (As.map (cv g)) (fun U => Bw g h U ∧ NN U)) (QQ M.2.2.2 post g) 0 0 (gA g)
def cvL (g : GG) (L : List (Nat × AV)) : List (Nat × Value) := L.map (fun q => (q.1, cv g q.2))
/-- what stands fixed while a method runs -/
def Cx (M : MI) (p : Program) (s : State) (m : MethodId) (args : Array Value) (meth : Method) (c : Code) : Prop :=
  p.tables.exec = Jvm.exec ∧ c.code = M.2.1 ∧ meth.sig.returnType = M.2.2.2 ∧ c.maxLocals = M.2.2.1 ∧ s.vm.findClass M.1.cls = some m.cls ∧ (∀ w ∈ tbl, w.before args s = true) ∧ meth.locks = false ∧ NN s
def Ev (M : MI) (d : Nat) (pc : Nat) (L : List (Nat × AV)) (S : List AV) (h : Hp) (post : Int32 → Hp → Prop) : Prop :=
  ∀ (p : Program) (l : Launch) (e : Env) (s : State) (m : MethodId) (args : Array Value) (below : List Frame) (meth : Method) (c : Code) (H : Heap) (locs : List Loc) (ls : Array Slot) (g : GG),
    Cx M p s m args meth c → va_P g.2.1 cls (wd g h) H → va_K g.2.1 cls (tyG g) s → va_D (gA g) (wd g h) → va_S (gA g) s.heap H locs → lv_has ls M.2.2.1 (cvL g L) →
    W p l e (rmd d) s m args below meth c H locs 0 0 (MQ below (QQ M.2.2.2 post g) args s 0 0 (gA g)) (F0 m pc ls (S.map (cv g)))
/-- an answer that is there, and of which 'post' holds -/
def Sat (post : Int32 → Hp → Prop) (o : RO) : Prop := match o with
  | some q => post q.1 q.2
  | none => False
def up (h : Hp) (k j : Nat) (v : Int32) : Hp := fun a => if a = k then upd (h k) j v else h a
def inA (z : Bool) (k : Nat) (i : Int32) : Bool := match lay[k]? with
  | some (.inl a) => (z == a.1) && (decide (0 ≤ i) && decide (i.toNatClampNeg < a.2))
  | _ => false
def rd (h : Hp) (k : Nat) (i : Int32) (f : Int32 → RO) : RO := bif inA false k i then f (h k i.toNatClampNeg) else none
def rdz (h : Hp) (k : Nat) (i : Int32) (f : Int32 → RO) : RO := bif inA true k i then f (h k i.toNatClampNeg) else none
def wr (h : Hp) (k : Nat) (i v : Int32) (f : Hp → RO) : RO := bif inA false k i then f (up h k i.toNatClampNeg v) else none
def wrz (h : Hp) (k : Nat) (i v : Int32) (f : Hp → RO) : RO := if v = 0 ∨ v = 1 then (bif inA true k i then f (up h k i.toNatClampNeg v) else none) else none
def pt (h : Hp) (k j : Nat) (v : Int32) (f : Hp → RO) : RO := f (up h k j v)
def ptz (h : Hp) (k j : Nat) (v : Int32) (f : Hp → RO) : RO := if v = 0 ∨ v = 1 then f (up h k j v) else none
def bnd (x : Int32) (f : Int32 → RO) : RO := f x
def jn {τ : Type} (a : τ) (f : τ → RO) : RO := f a
def cal (o : RO) (f : Int32 → Hp → RO) : RO := match o with
  | some q => f q.1 q.2
  | none => none
def ret1 (v : Int32) (h : Hp) : RO := some (v, h)
def retz (v : Int32) (h : Hp) : RO := if v = 0 ∨ v = 1 then some (v, h) else none
def dv (x y : Int32) (f : Int32 → RO) : RO := if y = 0 then none else f (x / y)
def rm_ (x y : Int32) (f : Int32 → RO) : RO := if y = 0 then none else f (x - x / y * y)
def alen (k : Nat) : Nat := match lay[k]? with
  | some (.inl a) => a.2
  | _ => 0
end
section
/-! ROWS of Ev: an instruction, a row -/
section EvRows
variable {M : MI} {d pc : Nat} {L L' : List (Nat × AV)} {S : List AV} {h : Hp} {post : Int32 → Hp → Prop}
theorem ev_iconst {n : Int} {v : Int32} (hd : decode M.2.1 pc = .ok (.iconst n, 1)) (hv : Int32.ofInt n = v) (k : Ev M d (pc + 1) L (.inl v :: S) h post) : Ev M d pc L S h post := by
  intro p l e s m args below meth c H locs ls g C hP hK hD hS hl
  exact lv_iconst C.1 C.2.1 hd hv (k p l e s m args below meth c H locs ls g C hP hK hD hS hl)
theorem ev_bipush {n : Int} {v : Int32} (hd : decode M.2.1 pc = .ok (.bipush n, 2)) (hv : (Int8.ofInt n).toInt32 = v) (k : Ev M d (pc + 2) L (.inl v :: S) h post) : Ev M d pc L S h post := by
  intro p l e s m args below meth c H locs ls g C hP hK hD hS hl
  exact lv_bipush C.1 C.2.1 hd hv (k p l e s m args below meth c H locs ls g C hP hK hD hS hl)
theorem ev_sipush {n : Int} {v : Int32} (hd : decode M.2.1 pc = .ok (.sipush n, 3)) (hv : (Int16.ofInt n).toInt32 = v) (k : Ev M d (pc + 3) L (.inl v :: S) h post) : Ev M d pc L S h post := by
  intro p l e s m args below meth c H locs ls g C hP hK hD hS hl
  exact lv_sipush C.1 C.2.1 hd hv (k p l e s m args below meth c H locs ls g C hP hK hD hS hl)
theorem ev_ldc {i : Nat} {v : Int32} (hd : decode M.2.1 pc = .ok (.ldc i, 2)) (hw : Cond.constant M.1.cls i v ∈ tbl) (k : Ev M d (pc + 2) L (.inl v :: S) h post) : Ev M d pc L S h post := by
  intro p l e s m args below meth c H locs ls g C hP hK hD hS hl
  exact lv_ldc C.1 C.2.1 C.2.2.2.2.1 (C.2.2.2.2.2.1 _ hw) hd (k p l e s m args below meth c H locs ls g C hP hK hD hS hl)
theorem ev_ldcw {i : Nat} {v : Int32} (hd : decode M.2.1 pc = .ok (.ldc_w i, 3)) (hw : Cond.constant M.1.cls i v ∈ tbl) (k : Ev M d (pc + 3) L (.inl v :: S) h post) : Ev M d pc L S h post := by
  intro p l e s m args below meth c H locs ls g C hP hK hD hS hl
  exact lv_ldcw C.1 C.2.1 C.2.2.2.2.1 (C.2.2.2.2.2.1 _ hw) hd (k p l e s m args below meth c H locs ls g C hP hK hD hS hl)
theorem cvL_at {g : GG} {ls : Array Slot} {nL : Nat} (hl : lv_has ls nL (cvL g L)) (q : Nat) {i : Nat} {v : AV} (hq : L[q]? = some (i, v)) : ls[i]? = some (.val (cv g v)) := lv_at hl q (by simp [cvL, hq])
theorem ev_iload_n {j : Fin 4} {i : Nat} {x : Int32} (hd : decode M.2.1 pc = .ok (.iload_n j, 1)) (q : Nat) (hi : (j : Nat) = i) (hq : L[q]? = some (i, .inl x)) (k : Ev M d (pc + 1) L (.inl x :: S) h post) : Ev M d pc L S h post := by
  intro p l e s m args below meth c H locs ls g C hP hK hD hS hl
  exact lv_iload_n C.1 C.2.1 hd hi (cvL_at hl q hq) (k p l e s m args below meth c H locs ls g C hP hK hD hS hl)
theorem ev_iload {i : Nat} {x : Int32} (hd : decode M.2.1 pc = .ok (.iload i, 2)) (q : Nat) (hq : L[q]? = some (i, .inl x)) (k : Ev M d (pc + 2) L (.inl x :: S) h post) : Ev M d pc L S h post := by
  intro p l e s m args below meth c H locs ls g C hP hK hD hS hl
  exact lv_iload C.1 C.2.1 hd (cvL_at hl q hq) (k p l e s m args below meth c H locs ls g C hP hK hD hS hl)
theorem ev_aload_n {j : Fin 4} {i : Nat} {x : Nat} (hd : decode M.2.1 pc = .ok (.aload_n j, 1)) (q : Nat) (hi : (j : Nat) = i) (hq : L[q]? = some (i, .inr x)) (k : Ev M d (pc + 1) L (.inr x :: S) h post) : Ev M d pc L S h post := by
  intro p l e s m args below meth c H locs ls g C hP hK hD hS hl
  exact lv_aload_n C.1 C.2.1 hd hi (cvL_at hl q hq) (k p l e s m args below meth c H locs ls g C hP hK hD hS hl)
/-- the locals, in the order of their places -/
def lset (i : Nat) (v : AV) : List (Nat × AV) → List (Nat × AV)
  | [] => [(i, v)]
  | q :: l => if q.1 < i then q :: lset i v l else if q.1 = i then (i, v) :: l else (i, v) :: q :: l
theorem lset_mem {i : Nat} {v : AV} : ∀ {l : List (Nat × AV)}, (l.map (·.1)).Pairwise (· < ·) → ∀ q ∈ lset i v l, q = (i, v) ∨ (q ∈ l ∧ q.1 ≠ i)
  | [], _, q, hq => Or.inl (by simpa [lset] using hq)
  | a :: l, hs, q, hq => by
    rw [List.map_cons, List.pairwise_cons] at hs
    unfold lset at hq
    split at hq
    · rename_i hlt
      rcases List.mem_cons.mp hq with h1 | h1
      · exact Or.inr ⟨by rw [h1]; exact List.mem_cons_self, by rw [h1]; omega⟩
      · rcases lset_mem hs.2 q h1 with h2 | h2
        · exact Or.inl h2
        · exact Or.inr ⟨List.mem_cons_of_mem _ h2.1, h2.2⟩
    · rename_i hnl
      split at hq
      · rename_i he
        rcases List.mem_cons.mp hq with h1 | h1
        · exact Or.inl h1
        · have := hs.1 q.1 (List.mem_map.mpr ⟨q, h1, rfl⟩)
          exact Or.inr ⟨List.mem_cons_of_mem _ h1, by omega⟩
      · rename_i hne
        rcases List.mem_cons.mp hq with h1 | h1
        · exact Or.inl h1
        · refine Or.inr ⟨h1, ?_⟩
          rcases List.mem_cons.mp h1 with h2 | h2
          · rw [h2]; exact hne
          · have := hs.1 q.1 (List.mem_map.mpr ⟨q, h2, rfl⟩)
            omega
def srt (L : List (Nat × AV)) : Bool := match L with
  | [] => true
  | a :: l => (match l with
    | [] => true
    | b :: _ => decide (a.1 < b.1)) && srt l
theorem srt_spec : ∀ {L : List (Nat × AV)}, srt L = true → (L.map (·.1)).Pairwise (· < ·)
  | [], _ => List.Pairwise.nil
  | [a], _ => by simp
  | a :: b :: l, h => by
    unfold srt at h
    simp only [Bool.and_eq_true, decide_eq_true_eq] at h
    have ih := srt_spec h.2
    rw [List.map_cons, List.pairwise_cons]
    refine ⟨fun x hx => ?_, ih⟩
    rw [List.map_cons] at hx
    rcases List.mem_cons.mp hx with h1 | h1
    · rw [h1]; exact h.1
    · rw [List.map_cons, List.pairwise_cons] at ih
      have := ih.1 x h1
      omega
theorem cv_cat (g : GG) (v : AV) : (cv g v).category = 1 := by cases v <;> rfl
theorem lset_has {g : GG} {ls' : Array Slot} {nL i : Nat} {v : AV} (hs : srt L = true) (hL : lset i v L = L') (hh : lv_has ls' nL ((i, cv g v) :: (cvL g L).filter (fun q => !(q.1 == i) && !(q.1 + 1 == i && q.2.category == 2)))) : lv_has ls' nL (cvL g L') := by
  refine ⟨hh.1, hh.2.1, fun q hq => ?_⟩
  obtain ⟨q0, h0, rfl⟩ := List.mem_map.mp hq
  rw [← hL] at h0
  rcases lset_mem (srt_spec hs) q0 h0 with h1 | ⟨h1, h2⟩
  · rw [h1]
    exact hh.2.2 (i, cv g v) List.mem_cons_self
  · refine hh.2.2 (q0.1, cv g q0.2) (List.mem_cons_of_mem _ (List.mem_filter.mpr ⟨List.mem_map.mpr ⟨q0, h1, rfl⟩, ?_⟩))
    simp [h2, cv_cat]
theorem ev_istore_n {j : Fin 4} {i : Nat} {x : Int32} (hd : decode M.2.1 pc = .ok (.istore_n j, 1)) (hi : (j : Nat) = i) (hs : srt L = true) (hn : i < M.2.2.1) (hL : lset i (.inl x) L = L') (k : Ev M d (pc + 1) L' S h post) : Ev M d pc L (.inl x :: S) h post := by
  intro p l e s m args below meth c H locs ls g C hP hK hD hS hl
  exact lv_istore_n C.1 C.2.1 hd hi hl hn rfl (fun ls' hl' => k p l e s m args below meth c H locs ls' g C hP hK hD hS (lset_has hs hL hl'))
theorem ev_istore {i : Nat} {x : Int32} (hd : decode M.2.1 pc = .ok (.istore i, 2)) (hs : srt L = true) (hn : i < M.2.2.1) (hL : lset i (.inl x) L = L') (k : Ev M d (pc + 2) L' S h post) : Ev M d pc L (.inl x :: S) h post := by
  intro p l e s m args below meth c H locs ls g C hP hK hD hS hl
  exact lv_istore C.1 C.2.1 hd hl hn rfl (fun ls' hl' => k p l e s m args below meth c H locs ls' g C hP hK hD hS (lset_has hs hL hl'))
theorem ev_iinc {i : Nat} {n : Int} {x v : Int32} (hd : decode M.2.1 pc = .ok (.iinc i n, 3)) (q : Nat) (hq : L[q]? = some (i, .inl x)) (hv : x + Int32.ofInt n = v) (hs : srt L = true) (hn : i < M.2.2.1) (hL : lset i (.inl v) L = L') (k : Ev M d (pc + 3) L' S h post) : Ev M d pc L S h post := by
  intro p l e s m args below meth c H locs ls g C hP hK hD hS hl
  exact lv_iinc C.1 C.2.1 hd hl (k := q) (x := x) (by simp [cvL, hq, cv]) hv hn rfl (fun ls' hl' => k p l e s m args below meth c H locs ls' g C hP hK hD hS (lset_has hs hL hl'))
theorem ev_sub (L' : List (Nat × AV)) (ks : List Nat) (hL : ks.filterMap (fun k => L[k]?) = L') (k : Ev M d pc L' S h post) : Ev M d pc L S h post := by
  intro p l e s m args below meth c H locs ls g C hP hK hD hS hl
  refine k p l e s m args below meth c H locs ls g C hP hK hD hS ⟨hl.1, hl.2.1, fun q hq => ?_⟩
  obtain ⟨q0, h0, rfl⟩ := List.mem_map.mp hq
  rw [← hL] at h0
  obtain ⟨i, -, hi⟩ := List.mem_filterMap.mp h0
  exact hl.2.2 _ (List.mem_map.mpr ⟨q0, List.mem_of_getElem? hi, rfl⟩)
section Bin
variable {x y : Int32}
theorem ev_iadd (hd : decode M.2.1 pc = .ok (.iadd, 1)) (k : Ev M d (pc + 1) L (.inl (x + y) :: S) h post) : Ev M d pc L (.inl y :: .inl x :: S) h post := by
  intro p l e s m args below meth c H locs ls g C hP hK hD hS hl
  exact lv_iadd C.1 C.2.1 hd (k p l e s m args below meth c H locs ls g C hP hK hD hS hl)
theorem ev_isub (hd : decode M.2.1 pc = .ok (.isub, 1)) (k : Ev M d (pc + 1) L (.inl (x - y) :: S) h post) : Ev M d pc L (.inl y :: .inl x :: S) h post := by
  intro p l e s m args below meth c H locs ls g C hP hK hD hS hl
  exact lv_isub C.1 C.2.1 hd (k p l e s m args below meth c H locs ls g C hP hK hD hS hl)
theorem ev_imul (hd : decode M.2.1 pc = .ok (.imul, 1)) (k : Ev M d (pc + 1) L (.inl (x * y) :: S) h post) : Ev M d pc L (.inl y :: .inl x :: S) h post := by
  intro p l e s m args below meth c H locs ls g C hP hK hD hS hl
  exact lv_imul C.1 C.2.1 hd (k p l e s m args below meth c H locs ls g C hP hK hD hS hl)
theorem ev_iand (hd : decode M.2.1 pc = .ok (.iand, 1)) (k : Ev M d (pc + 1) L (.inl (x &&& y) :: S) h post) : Ev M d pc L (.inl y :: .inl x :: S) h post := by
  intro p l e s m args below meth c H locs ls g C hP hK hD hS hl
  exact lv_iand C.1 C.2.1 hd (k p l e s m args below meth c H locs ls g C hP hK hD hS hl)
theorem ev_ior (hd : decode M.2.1 pc = .ok (.ior, 1)) (k : Ev M d (pc + 1) L (.inl (x ||| y) :: S) h post) : Ev M d pc L (.inl y :: .inl x :: S) h post := by
  intro p l e s m args below meth c H locs ls g C hP hK hD hS hl
  exact lv_ior C.1 C.2.1 hd (k p l e s m args below meth c H locs ls g C hP hK hD hS hl)
theorem ev_ixor (hd : decode M.2.1 pc = .ok (.ixor, 1)) (k : Ev M d (pc + 1) L (.inl (x ^^^ y) :: S) h post) : Ev M d pc L (.inl y :: .inl x :: S) h post := by
  intro p l e s m args below meth c H locs ls g C hP hK hD hS hl
  exact lv_ixor C.1 C.2.1 hd (k p l e s m args below meth c H locs ls g C hP hK hD hS hl)
theorem ev_ishl (hd : decode M.2.1 pc = .ok (.ishl, 1)) (k : Ev M d (pc + 1) L (.inl (x <<< (y &&& 31)) :: S) h post) : Ev M d pc L (.inl y :: .inl x :: S) h post := by
  intro p l e s m args below meth c H locs ls g C hP hK hD hS hl
  exact lv_ishl C.1 C.2.1 hd (k p l e s m args below meth c H locs ls g C hP hK hD hS hl)
theorem ev_ishr (hd : decode M.2.1 pc = .ok (.ishr, 1)) (k : Ev M d (pc + 1) L (.inl (x >>> (y &&& 31)) :: S) h post) : Ev M d pc L (.inl y :: .inl x :: S) h post := by
  intro p l e s m args below meth c H locs ls g C hP hK hD hS hl
  exact lv_ishr C.1 C.2.1 hd (k p l e s m args below meth c H locs ls g C hP hK hD hS hl)
def ush (x y : Int32) : Int32 := (x.toUInt32 >>> (y.toUInt32 &&& Int32.toUInt32 31)).toInt32
theorem ev_iushr (hd : decode M.2.1 pc = .ok (.iushr, 1)) (k : Ev M d (pc + 1) L (.inl (ush x y) :: S) h post) : Ev M d pc L (.inl y :: .inl x :: S) h post := by
  intro p l e s m args below meth c H locs ls g C hP hK hD hS hl
  exact lv_iushr C.1 C.2.1 hd rfl (k p l e s m args below meth c H locs ls g C hP hK hD hS hl)
theorem ev_idiv {f : Int32 → RO} (hd : decode M.2.1 pc = .ok (.idiv, 1)) (hs : Sat post (dv x y f)) (k : ∀ z, Sat post (f z) → Ev M d (pc + 1) L (.inl z :: S) h post) : Ev M d pc L (.inl y :: .inl x :: S) h post := by
  intro p l e s m args below meth c H locs ls g C hP hK hD hS hl
  unfold dv at hs
  split at hs
  · exact absurd hs id
  · rename_i hy
    exact lv_idiv C.1 C.2.1 hd hy (k _ hs p l e s m args below meth c H locs ls g C hP hK hD hS hl)
theorem ev_irem {f : Int32 → RO} (hd : decode M.2.1 pc = .ok (.irem, 1)) (hs : Sat post (rm_ x y f)) (k : ∀ z, Sat post (f z) → Ev M d (pc + 1) L (.inl z :: S) h post) : Ev M d pc L (.inl y :: .inl x :: S) h post := by
  intro p l e s m args below meth c H locs ls g C hP hK hD hS hl
  unfold rm_ at hs
  split at hs
  · exact absurd hs id
  · rename_i hy
    exact lv_irem C.1 C.2.1 hd hy (k _ hs p l e s m args below meth c H locs ls g C hP hK hD hS hl)
theorem ev_dup {v : AV} (hd : decode M.2.1 pc = .ok (.dup, 1)) (k : Ev M d (pc + 1) L (v :: v :: S) h post) : Ev M d pc L (v :: S) h post := by
  intro p l e s m args below meth c H locs ls g C hP hK hD hS hl
  exact lv_dup C.1 C.2.1 hd (cv_cat g v) (k p l e s m args below meth c H locs ls g C hP hK hD hS hl)
theorem ev_pop {v : AV} (hd : decode M.2.1 pc = .ok (.pop, 1)) (k : Ev M d (pc + 1) L S h post) : Ev M d pc L (v :: S) h post := by
  intro p l e s m args below meth c H locs ls g C hP hK hD hS hl
  exact lv_pop C.1 C.2.1 hd (cv_cat g v) (k p l e s m args below meth c H locs ls g C hP hK hD hS hl)
theorem ev_dup2 {v w : AV} (hd : decode M.2.1 pc = .ok (.dup2, 1)) (k : Ev M d (pc + 1) L (v :: w :: v :: w :: S) h post) : Ev M d pc L (v :: w :: S) h post := by
  intro p l e s m args below meth c H locs ls g C hP hK hD hS hl
  exact lv_dup2_11 C.1 C.2.1 hd (cv_cat g v) (cv_cat g w) (k p l e s m args below meth c H locs ls g C hP hK hD hS hl)
theorem ev_goto {off : Int} {tgt : Nat} (hd : decode M.2.1 pc = .ok (.goto off, 3)) (ht : (pc : Int) + off = (tgt : Int)) (k : Ev M d tgt L S h post) : Ev M d pc L S h post := by
  intro p l e s m args below meth c H locs ls g C hP hK hD hS hl
  exact lv_goto C.1 C.2.1 hd ht (k p l e s m args below meth c H locs ls g C hP hK hD hS hl)
end Bin
end EvRows
end
section
/-! ROWS of Ev, second part: branches, fields, arrays, calls, returns -/
section EvRows2
variable {M : MI} {d pc : Nat} {L L' : List (Nat × AV)} {S : List AV} {h : Hp} {post : Int32 → Hp → Prop} {A B : RO} {x y : Int32}
theorem sat_t {c : Prop} [Decidable c] (hc : c) (hs : Sat post (if c then A else B)) : Sat post A := by rwa [if_pos hc] at hs
theorem sat_f {c : Prop} [Decidable c] (hc : ¬ c) (hs : Sat post (if c then A else B)) : Sat post B := by rwa [if_neg hc] at hs
theorem ev_if_eq {off : Int} {tgt : Nat} (hd : decode M.2.1 pc = .ok (.ifCond .eq off, 3)) (ht : (pc : Int) + off = (tgt : Int)) (hs : Sat post (if x = 0 then A else B)) (kt : Sat post A → Ev M d tgt L S h post) (kf : Sat post B → Ev M d (pc + 3) L S h post) : Ev M d pc L (.inl x :: S) h post := by
  intro p l e s m args below meth c H locs ls g C hP hK hD hS hl
  exact lv_if_eq C.1 C.2.1 hd ht (fun q => kt (sat_t q hs) p l e s m args below meth c H locs ls g C hP hK hD hS hl) (fun q => kf (sat_f q hs) p l e s m args below meth c H locs ls g C hP hK hD hS hl)
theorem ev_icmp_eq {off : Int} {tgt : Nat} (hd : decode M.2.1 pc = .ok (.if_icmp .eq off, 3)) (ht : (pc : Int) + off = (tgt : Int)) (hs : Sat post (if x = y then A else B)) (kt : Sat post A → Ev M d tgt L S h post) (kf : Sat post B → Ev M d (pc + 3) L S h post) : Ev M d pc L (.inl y :: .inl x :: S) h post := by
  intro p l e s m args below meth c H locs ls g C hP hK hD hS hl
  exact lv_icmp_eq C.1 C.2.1 hd ht (fun q => kt (sat_t q hs) p l e s m args below meth c H locs ls g C hP hK hD hS hl) (fun q => kf (sat_f q hs) p l e s m args below meth c H locs ls g C hP hK hD hS hl)
theorem ev_if_ne {off : Int} {tgt : Nat} (hd : decode M.2.1 pc = .ok (.ifCond .ne off, 3)) (ht : (pc : Int) + off = (tgt : Int)) (hs : Sat post (if x = 0 then B else A)) (kt : Sat post A → Ev M d tgt L S h post) (kf : Sat post B → Ev M d (pc + 3) L S h post) : Ev M d pc L (.inl x :: S) h post := by
  intro p l e s m args below meth c H locs ls g C hP hK hD hS hl
  exact lv_if_ne C.1 C.2.1 hd ht (fun q => kt (sat_f q hs) p l e s m args below meth c H locs ls g C hP hK hD hS hl) (fun q => kf (sat_t q hs) p l e s m args below meth c H locs ls g C hP hK hD hS hl)
theorem ev_icmp_ne {off : Int} {tgt : Nat} (hd : decode M.2.1 pc = .ok (.if_icmp .ne off, 3)) (ht : (pc : Int) + off = (tgt : Int)) (hs : Sat post (if x = y then B else A)) (kt : Sat post A → Ev M d tgt L S h post) (kf : Sat post B → Ev M d (pc + 3) L S h post) : Ev M d pc L (.inl y :: .inl x :: S) h post := by
  intro p l e s m args below meth c H locs ls g C hP hK hD hS hl
  exact lv_icmp_ne C.1 C.2.1 hd ht (fun q => kt (sat_f q hs) p l e s m args below meth c H locs ls g C hP hK hD hS hl) (fun q => kf (sat_t q hs) p l e s m args below meth c H locs ls g C hP hK hD hS hl)
theorem ev_if_lt {off : Int} {tgt : Nat} (hd : decode M.2.1 pc = .ok (.ifCond .lt off, 3)) (ht : (pc : Int) + off = (tgt : Int)) (hs : Sat post (if x < 0 then A else B)) (kt : Sat post A → Ev M d tgt L S h post) (kf : Sat post B → Ev M d (pc + 3) L S h post) : Ev M d pc L (.inl x :: S) h post := by
  intro p l e s m args below meth c H locs ls g C hP hK hD hS hl
  exact lv_if_lt C.1 C.2.1 hd ht (fun q => kt (sat_t q hs) p l e s m args below meth c H locs ls g C hP hK hD hS hl) (fun q => kf (sat_f q hs) p l e s m args below meth c H locs ls g C hP hK hD hS hl)
theorem ev_icmp_lt {off : Int} {tgt : Nat} (hd : decode M.2.1 pc = .ok (.if_icmp .lt off, 3)) (ht : (pc : Int) + off = (tgt : Int)) (hs : Sat post (if x < y then A else B)) (kt : Sat post A → Ev M d tgt L S h post) (kf : Sat post B → Ev M d (pc + 3) L S h post) : Ev M d pc L (.inl y :: .inl x :: S) h post := by
  intro p l e s m args below meth c H locs ls g C hP hK hD hS hl
  exact lv_icmp_lt C.1 C.2.1 hd ht (fun q => kt (sat_t q hs) p l e s m args below meth c H locs ls g C hP hK hD hS hl) (fun q => kf (sat_f q hs) p l e s m args below meth c H locs ls g C hP hK hD hS hl)
theorem ev_if_ge {off : Int} {tgt : Nat} (hd : decode M.2.1 pc = .ok (.ifCond .ge off, 3)) (ht : (pc : Int) + off = (tgt : Int)) (hs : Sat post (if 0 ≤ x then A else B)) (kt : Sat post A → Ev M d tgt L S h post) (kf : Sat post B → Ev M d (pc + 3) L S h post) : Ev M d pc L (.inl x :: S) h post := by
  intro p l e s m args below meth c H locs ls g C hP hK hD hS hl
  exact lv_if_ge C.1 C.2.1 hd ht (fun q => kt (sat_t q hs) p l e s m args below meth c H locs ls g C hP hK hD hS hl) (fun q => kf (sat_f q hs) p l e s m args below meth c H locs ls g C hP hK hD hS hl)
theorem ev_icmp_ge {off : Int} {tgt : Nat} (hd : decode M.2.1 pc = .ok (.if_icmp .ge off, 3)) (ht : (pc : Int) + off = (tgt : Int)) (hs : Sat post (if y ≤ x then A else B)) (kt : Sat post A → Ev M d tgt L S h post) (kf : Sat post B → Ev M d (pc + 3) L S h post) : Ev M d pc L (.inl y :: .inl x :: S) h post := by
  intro p l e s m args below meth c H locs ls g C hP hK hD hS hl
  exact lv_icmp_ge C.1 C.2.1 hd ht (fun q => kt (sat_t q hs) p l e s m args below meth c H locs ls g C hP hK hD hS hl) (fun q => kf (sat_f q hs) p l e s m args below meth c H locs ls g C hP hK hD hS hl)
theorem ev_if_gt {off : Int} {tgt : Nat} (hd : decode M.2.1 pc = .ok (.ifCond .gt off, 3)) (ht : (pc : Int) + off = (tgt : Int)) (hs : Sat post (if 0 < x then A else B)) (kt : Sat post A → Ev M d tgt L S h post) (kf : Sat post B → Ev M d (pc + 3) L S h post) : Ev M d pc L (.inl x :: S) h post := by
  intro p l e s m args below meth c H locs ls g C hP hK hD hS hl
  exact lv_if_gt C.1 C.2.1 hd ht (fun q => kt (sat_t q hs) p l e s m args below meth c H locs ls g C hP hK hD hS hl) (fun q => kf (sat_f q hs) p l e s m args below meth c H locs ls g C hP hK hD hS hl)
theorem ev_icmp_gt {off : Int} {tgt : Nat} (hd : decode M.2.1 pc = .ok (.if_icmp .gt off, 3)) (ht : (pc : Int) + off = (tgt : Int)) (hs : Sat post (if y < x then A else B)) (kt : Sat post A → Ev M d tgt L S h post) (kf : Sat post B → Ev M d (pc + 3) L S h post) : Ev M d pc L (.inl y :: .inl x :: S) h post := by
  intro p l e s m args below meth c H locs ls g C hP hK hD hS hl
  exact lv_icmp_gt C.1 C.2.1 hd ht (fun q => kt (sat_t q hs) p l e s m args below meth c H locs ls g C hP hK hD hS hl) (fun q => kf (sat_f q hs) p l e s m args below meth c H locs ls g C hP hK hD hS hl)
theorem ev_if_le {off : Int} {tgt : Nat} (hd : decode M.2.1 pc = .ok (.ifCond .le off, 3)) (ht : (pc : Int) + off = (tgt : Int)) (hs : Sat post (if x ≤ 0 then A else B)) (kt : Sat post A → Ev M d tgt L S h post) (kf : Sat post B → Ev M d (pc + 3) L S h post) : Ev M d pc L (.inl x :: S) h post := by
  intro p l e s m args below meth c H locs ls g C hP hK hD hS hl
  exact lv_if_le C.1 C.2.1 hd ht (fun q => kt (sat_t q hs) p l e s m args below meth c H locs ls g C hP hK hD hS hl) (fun q => kf (sat_f q hs) p l e s m args below meth c H locs ls g C hP hK hD hS hl)
theorem ev_icmp_le {off : Int} {tgt : Nat} (hd : decode M.2.1 pc = .ok (.if_icmp .le off, 3)) (ht : (pc : Int) + off = (tgt : Int)) (hs : Sat post (if x ≤ y then A else B)) (kt : Sat post A → Ev M d tgt L S h post) (kf : Sat post B → Ev M d (pc + 3) L S h post) : Ev M d pc L (.inl y :: .inl x :: S) h post := by
  intro p l e s m args below meth c H locs ls g C hP hK hD hS hl
  exact lv_icmp_le C.1 C.2.1 hd ht (fun q => kt (sat_t q hs) p l e s m args below meth c H locs ls g C hP hK hD hS hl) (fun q => kf (sat_f q hs) p l e s m args below meth c H locs ls g C hP hK hD hS hl)
theorem ev_bnd {f : Int32 → RO} (hs : Sat post (bnd x f)) (k : ∀ z, Sat post (f z) → Ev M d pc L (.inl z :: S) h post) : Ev M d pc L (.inl x :: S) h post := k x hs
theorem ev_jn {τ : Type} {a : τ} {f : τ → RO} (P : τ → Prop) {G : Prop} (hs : Sat post (jn a f)) (ha : P a) (hb : ∀ j, P j → Sat post (f j) → G) : G := hb a ha hs
theorem sat_cal {o : RO} {f : Int32 → Hp → RO} (hs : Sat post (cal o f)) : Sat (fun r u => Sat post (f r u)) o := by
  cases o with
  | none => exact hs
  | some q => exact hs
theorem Sat.mono {p1 p2 : Int32 → Hp → Prop} {o : RO} (hs : Sat p1 o) (hi : ∀ r u, p1 r u → p2 r u) : Sat p2 o := by
  cases o with
  | none => exact hs
  | some q => exact hi _ _ hs
-- the world's cells
theorem wd_at (g : GG) (h : Hp) {k : Nat} {sp : Sp} (hk : lay[k]? = some sp) : (wd g h)[k]? = some (ce g h k sp) := by
  unfold wd
  rw [List.getElem?_mapIdx, hk]
  rfl
theorem lay_lt {k : Nat} {sp : Sp} (hk : lay[k]? = some sp) : k < 55 := (List.getElem?_eq_some_iff.mp hk).1
theorem upd_same (f : Nat → Int32) (j : Nat) (v : Int32) : upd f j v j = v := by simp [upd]
theorem upd_ne {f : Nat → Int32} {j i : Nat} (hn : i ≠ j) (v : Int32) : upd f j v i = f i := by simp [upd, hn]
theorem up_k (h : Hp) (k j : Nat) (v : Int32) : up h k j v k = upd (h k) j v := by simp [up]
theorem up_ne (h : Hp) {a k : Nat} (hn : a ≠ k) (j : Nat) (v : Int32) : up h k j v a = h a := by simp [up, hn]
theorem ce_ne (g : GG) (h : Hp) {a k : Nat} (hn : a ≠ k) (j : Nat) (v : Int32) (sp : Sp) : ce g (up h k j v) a sp = ce g h a sp := by
  unfold ce
  cases sp with
  | inl q => simp [up_ne h hn]
  | inr o =>
    have e : fv g (up h k j v) a = fv g h a := by
      funext b f
      cases f <;> simp [fv, up_ne h hn]
    simp [e]
theorem wd_upA (g : GG) (h : Hp) {k n : Nat} {z : Bool} (hk : lay[k]? = some (.inl (z, n))) (j : Nat) (v : Int32) : (wd g h).set k (g.1 k, .inl (bif z then g.2.2.2 else g.2.2.1, n, .inl (upd (h k) j v))) = wd g (up h k j v) := by
  apply List.ext_getElem?
  intro a
  unfold wd
  rw [List.getElem?_set, List.getElem?_mapIdx, List.getElem?_mapIdx, List.length_mapIdx]
  by_cases ha : k = a
  · subst ha
    rw [if_pos rfl, if_pos (show k < lay.length from lay_lt hk), hk]
    simp [ce, up_k]
  · rw [if_neg ha]
    congr 1
    funext sp
    exact (ce_ne g h (fun q => ha q.symm) j v sp).symm
theorem wd_upO (g : GG) (h : Hp) {k ci : Nat} {fs : List (Option Nat)} (hk : lay[k]? = some (.inr (ci, fs))) {j : Nat} (hj : fs[j]? = some none) (v : Int32) : (wd g h).set k (g.1 k, .inr (ci, (fs.mapIdx (fv g h k)).set j (.int v))) = wd g (up h k j v) := by
  apply List.ext_getElem?
  intro a
  unfold wd
  rw [List.getElem?_set, List.getElem?_mapIdx, List.getElem?_mapIdx, List.length_mapIdx]
  by_cases ha : k = a
  · subst ha
    rw [if_pos rfl, if_pos (show k < lay.length from lay_lt hk), hk]
    simp only [Option.map_some, ce]
    congr 3
    congr 1
    apply List.ext_getElem?
    intro b
    rw [List.getElem?_set, List.getElem?_mapIdx, List.getElem?_mapIdx, List.length_mapIdx]
    by_cases hb : j = b
    · subst hb
      rw [if_pos rfl, if_pos (List.getElem?_eq_some_iff.mp hj).1, hj]
      simp [fv, up_k, upd_same]
    · rw [if_neg hb]
      congr 1
      funext f
      cases f
      · simp [fv, up_k, upd_ne (fun q => hb q.symm)]
      · simp [fv]
  · rw [if_neg ha]
    congr 1
    funext sp
    exact (ce_ne g h (fun q => ha q.symm) j v sp).symm
/-- place j of class ci, linked from a class by its pool's place i -/
def FL (own : String) (i ci j : Nat) : Prop := ∃ q : vw_C, cls[ci]? = some q ∧ j < q.2.2 ∧ Cond.fieldLink own i q.1 (q.2.1 j).2.1 (q.2.1 j).2.2.1 ∈ lw_tbl
theorem tbl_link {own ref n dd : String} {i : Nat} (hw : Cond.fieldLink own i ref n dd ∈ lw_tbl) : Cond.fieldLink own i ref n dd ∈ tbl := tbl_in hw rfl
theorem cls_in {ci : Nat} {q : vw_C} (hq : cls[ci]? = some q) : ∀ w ∈ u_ws q.1 q.2.1 q.2.2, w ∈ tbl := fun w hw => tbl_in ((cls_ok ci q hq).1 w hw) (u_good _ _ _ w hw)
theorem ev_getf {i k ci j : Nat} {fs : List (Option Nat)} {f : Option Nat} {v : AV} (hd : decode M.2.1 pc = .ok (.getfield i, 3)) (hf : FL M.1.cls i ci j) (hk : lay[k]? = some (.inr (ci, fs))) (hj : fs[j]? = some f) (hv : ∀ g : GG, fv g h k j f = cv g v) (kk : Ev M d (pc + 3) L (v :: S) h post) : Ev M d pc L (.inr k :: S) h post := by
  intro p l e s m args below meth c H locs ls g C hP hK hD hS hl
  obtain ⟨⟨R, T, N⟩, hq, hjN, hw⟩ := hf
  obtain ⟨-, ty0, -, -, hcl⟩ := cls_ok ci _ hq
  have hcl2 : (T j).1 = R := hcl j
  exact va_get (ws := wd g h) (D := g.2.1) (fs := fs.mapIdx (fv g h k)) (own := M.1.cls) (ref := R) C.1 C.2.1 C.2.2.2.2.2.1 (cls_in hq) C.2.2.2.2.1 hK hP k (wd_at g h hk) hq j hjN (C.2.2.2.2.2.1 _ (tbl_link hw)) (fun z hz => by rw [hcl2] at hz; exact hz) (v := cv g v) (by rw [List.getElem?_mapIdx, hj]; exact congrArg some (hv g)) hd (kk p l e s m args below meth c H locs ls g C hP hK hD hS hl)
theorem ev_getI {i k ci j : Nat} {fs : List (Option Nat)} (hd : decode M.2.1 pc = .ok (.getfield i, 3)) (hf : FL M.1.cls i ci j) (hk : lay[k]? = some (.inr (ci, fs))) (hj : fs[j]? = some none) (kk : Ev M d (pc + 3) L (.inl (h k j) :: S) h post) : Ev M d pc L (.inr k :: S) h post := ev_getf hd hf hk hj (fun _ => rfl) kk
theorem ev_getR {i k ci j r : Nat} {fs : List (Option Nat)} (hd : decode M.2.1 pc = .ok (.getfield i, 3)) (hf : FL M.1.cls i ci j) (hk : lay[k]? = some (.inr (ci, fs))) (hj : fs[j]? = some (some r)) (kk : Ev M d (pc + 3) L (.inr r :: S) h post) : Ev M d pc L (.inr k :: S) h post := ev_getf hd hf hk hj (fun _ => rfl) kk
/-- a field that may be written, of this type -/
def FW (ci j : Nat) (ty : FieldType) : Prop := ∃ q : vw_C, cls[ci]? = some q ∧ (q.2.1 j).2.2.2 = false ∧ parseFieldDescriptor (q.2.1 j).2.2.1 = some ty
theorem ev_putf {i k ci j : Nat} {fs : List (Option Nat)} {ty : FieldType} {f : Hp → RO} (hd : decode M.2.1 pc = .ok (.putfield i, 3)) (hf : FL M.1.cls i ci j) (hW : FW ci j ty) (hk : lay[k]? = some (.inr (ci, fs))) (hj : fs[j]? = some none) (hn : narrow ty (.int x) = .int x) (hfit : fits ty (.int x) = true) (hs : Sat post (f (up h k j x))) (kk : ∀ u, Sat post (f u) → Ev M d (pc + 3) L S u post) : Ev M d pc L (.inl x :: .inr k :: S) h post := by
  intro p l e s m args below meth c H locs ls g C hP hK hD hS hl
  obtain ⟨⟨R, T, N⟩, hq, hjN, hw⟩ := hf
  obtain ⟨q2, hq2, hfin, hty⟩ := hW
  have e2 : q2 = (R, T, N) := Option.some.inj (hq2.symm.trans hq)
  subst e2
  obtain ⟨-, ty0, hty0, hnm, hcl⟩ := cls_ok ci _ hq
  have hcl2 : (T j).1 = R := hcl j
  refine va_put (ws := wd g h) (D := g.2.1) (fs := fs.mapIdx (fv g h k)) (own := M.1.cls) (ref := R) C.1 C.2.1 C.2.2.2.2.2.1 (cls_in hq) ty0 hty0 hnm C.2.2.2.2.1 hK hP hD hS k (wd_at g h hk) hq j hjN (C.2.2.2.2.2.1 _ (tbl_link hw)) (fun z hz => by rw [hcl2] at hz; exact hz) hfin hty hn hfit (by rw [List.length_mapIdx]; exact (List.getElem?_eq_some_iff.mp hj).1) hd (fun H1 locs1 hP1 hD1 hS1 => ?_)
  have hP2 : va_P g.2.1 cls ((wd g h).set k (g.1 k, .inr (ci, (fs.mapIdx (fv g h k)).set j (.int x)))) H1 := hP1
  have hD2 : va_D (gA g) ((wd g h).set k (g.1 k, .inr (ci, (fs.mapIdx (fv g h k)).set j (.int x)))) := hD1
  rw [wd_upO g h hk hj x] at hP2 hD2
  exact kk _ hs p l e s m args below meth c H1 locs1 ls g C hP2 hK hD2 hS1 hl
theorem ev_putI {i k ci j : Nat} {fs : List (Option Nat)} {f : Hp → RO} (hd : decode M.2.1 pc = .ok (.putfield i, 3)) (hf : FL M.1.cls i ci j) (hW : FW ci j .int) (hk : lay[k]? = some (.inr (ci, fs))) (hj : fs[j]? = some none) (hs : Sat post (pt h k j x f)) (kk : ∀ u, Sat post (f u) → Ev M d (pc + 3) L S u post) : Ev M d pc L (.inl x :: .inr k :: S) h post := ev_putf hd hf hW hk hj rfl rfl hs kk
theorem ev_putZ {i k ci j : Nat} {fs : List (Option Nat)} {f : Hp → RO} (hd : decode M.2.1 pc = .ok (.putfield i, 3)) (hf : FL M.1.cls i ci j) (hW : FW ci j .boolean) (hk : lay[k]? = some (.inr (ci, fs))) (hj : fs[j]? = some none) (hs : Sat post (ptz h k j x f)) (kk : ∀ u, Sat post (f u) → Ev M d (pc + 3) L S u post) : Ev M d pc L (.inl x :: .inr k :: S) h post := by
  unfold ptz at hs
  split at hs
  · rename_i hx
    rcases hx with rfl | rfl
    · exact ev_putf hd hf hW hk hj rfl rfl hs kk
    · exact ev_putf hd hf hW hk hj rfl rfl hs kk
  · exact absurd hs id
theorem inA_spec {z : Bool} {k : Nat} {i : Int32} (hi : inA z k i = true) : ∃ n : Nat, lay[k]? = some (.inl (z, n)) ∧ vp_in i n := by
  unfold inA at hi
  split at hi
  · rename_i a ha
    simp only [Bool.and_eq_true, decide_eq_true_eq, beq_iff_eq] at hi
    refine ⟨a.2, by rw [ha, hi.1], fun hn => ?_⟩
    rcases hn with h1 | h1
    · exact absurd h1 (Int32.not_lt.mpr hi.2.1)
    · exact absurd hi.2.2 (Nat.not_lt.mpr h1)
  · cases hi
theorem sat_bif {b : Bool} {o : RO} (hs : Sat post (bif b then o else none)) : b = true ∧ Sat post o := by
  cases b
  · exact absurd hs id
  · exact ⟨rfl, hs⟩
theorem ev_iald {k : Nat} {f : Int32 → RO} (hd : decode M.2.1 pc = .ok (.iaload, 1)) (hs : Sat post (rd h k x f)) (kk : ∀ z, Sat post (f z) → Ev M d (pc + 1) L (.inl z :: S) h post) : Ev M d pc L (.inl x :: .inr k :: S) h post := by
  intro p l e s m args below meth c H locs ls g C hP hK hD hS hl
  obtain ⟨hi, hs⟩ := sat_bif hs
  obtain ⟨n, hk, hin⟩ := inA_spec hi
  exact va_iald (ws := wd g h) (f := h k) C.1 C.2.1 hK hP k 0 (wd_at g h hk) rfl hin hd (kk _ hs p l e s m args below meth c H locs ls g C hP hK hD hS hl)
theorem ev_zald {k : Nat} {f : Int32 → RO} (hd : decode M.2.1 pc = .ok (.baload, 1)) (hs : Sat post (rdz h k x f)) (kk : ∀ z, Sat post (f z) → Ev M d (pc + 1) L (.inl z :: S) h post) : Ev M d pc L (.inl x :: .inr k :: S) h post := by
  intro p l e s m args below meth c H locs ls g C hP hK hD hS hl
  obtain ⟨hi, hs⟩ := sat_bif hs
  obtain ⟨n, hk, hin⟩ := inA_spec hi
  exact va_zald (ws := wd g h) (f := h k) C.1 C.2.1 hK hP k 1 (wd_at g h hk) rfl hin hd (kk _ hs p l e s m args below meth c H locs ls g C hP hK hD hS hl)
theorem ev_iast {k : Nat} {f : Hp → RO} (hd : decode M.2.1 pc = .ok (.iastore, 1)) (hs : Sat post (wr h k x y f)) (kk : ∀ u, Sat post (f u) → Ev M d (pc + 1) L S u post) : Ev M d pc L (.inl y :: .inl x :: .inr k :: S) h post := by
  intro p l e s m args below meth c H locs ls g C hP hK hD hS hl
  obtain ⟨hi, hs⟩ := sat_bif hs
  obtain ⟨n, hk, hin⟩ := inA_spec hi
  refine va_iast (ws := wd g h) (f := h k) C.1 C.2.1 hK hP hD hS k 0 (wd_at g h hk) rfl hin hd (fun H1 locs1 hP1 hD1 hS1 => ?_)
  have hu := wd_upA g h hk x.toNatClampNeg y
  simp only [cond_false] at hu
  simp only [cond_false] at hP1 hD1
  rw [hu] at hP1 hD1
  exact kk _ hs p l e s m args below meth c H1 locs1 ls g C hP1 hK hD1 hS1 hl
theorem ev_zast {k : Nat} {f : Hp → RO} (hd : decode M.2.1 pc = .ok (.bastore, 1)) (hs : Sat post (wrz h k x y f)) (kk : ∀ u, Sat post (f u) → Ev M d (pc + 1) L S u post) : Ev M d pc L (.inl y :: .inl x :: .inr k :: S) h post := by
  intro p l e s m args below meth c H locs ls g C hP hK hD hS hl
  unfold wrz at hs
  split at hs
  · rename_i hy
    have hnar : vp_nar .boolean y = y := by rcases hy with rfl | rfl <;> rfl
    obtain ⟨hi, hs⟩ := sat_bif hs
    obtain ⟨n, hk, hin⟩ := inA_spec hi
    refine va_zast (ws := wd g h) (f := h k) C.1 C.2.1 hK hP hD hS k 1 (wd_at g h hk) rfl hin hd (fun H1 locs1 hP1 hD1 hS1 => ?_)
    rw [hnar] at hP1 hD1
    have hu := wd_upA g h hk x.toNatClampNeg y
    simp only [cond_true] at hu
    simp only [cond_true] at hP1 hD1
    rw [hu] at hP1 hD1
    exact kk _ hs p l e s m args below meth c H1 locs1 ls g C hP1 hK hD1 hS1 hl
  · exact absurd hs id
theorem ev_alen {k n : Nat} {z : Bool} (hd : decode M.2.1 pc = .ok (.arraylength, 1)) (hk : lay[k]? = some (.inl (z, n))) (kk : Ev M d (pc + 1) L (.inl (Int32.ofNat n) :: S) h post) : Ev M d pc L (.inr k :: S) h post := by
  intro p l e s m args below meth c H locs ls g C hP hK hD hS hl
  cases z with
  | false => exact va_alen (ws := wd g h) C.1 C.2.1 hK hP k 0 (wd_at g h hk) rfl rfl hd (kk p l e s m args below meth c H locs ls g C hP hK hD hS hl)
  | true => exact va_alen (ws := wd g h) C.1 C.2.1 hK hP k 1 (wd_at g h hk) rfl rfl hd (kk p l e s m args below meth c H locs ls g C hP hK hD hS hl)
-- answers
theorem ev_iret (hr : M.2.2.2 = some .int) (hd : decode M.2.1 pc = .ok (.ireturn, 1)) (hs : Sat post (ret1 x h)) : Ev M d pc L [.inl x] h post := by
  intro p l e s m args below meth c H locs ls g C hP hK hD hS hl
  have hlocks : meth.locks = false := C.2.2.2.2.2.2.1
  refine W.iret (v := x) C.1 C.2.1 (C.2.2.1.trans hr) (fun t ht hW => ?_) hS.2.2 hd hlocks
  rw [hr]
  exact ⟨⟨x, h, rfl, hs, by rw [ht]; exact hP, va_K.moved hW.alike hK, hD⟩, hS.F ht⟩
theorem ev_zret (hr : M.2.2.2 = some .boolean) (hd : decode M.2.1 pc = .ok (.ireturn, 1)) (hs : Sat post (retz x h)) : Ev M d pc L [.inl x] h post := by
  intro p l e s m args below meth c H locs ls g C hP hK hD hS hl
  have hlocks : meth.locks = false := C.2.2.2.2.2.2.1
  unfold retz at hs
  split at hs
  · rename_i hx
    refine W.zret (v := x) C.1 C.2.1 (C.2.2.1.trans hr) (by rcases hx with rfl | rfl <;> rfl) (fun t ht hW => ?_) hS.2.2 hd hlocks
    rw [hr]
    exact ⟨⟨x, h, rfl, hs, by rw [ht]; exact hP, va_K.moved hW.alike hK, hD⟩, hS.F ht⟩
  · exact absurd hs id
theorem ev_vret (hr : M.2.2.2 = none) (hd : decode M.2.1 pc = .ok (.return_, 1)) (hs : Sat post (ret1 0 h)) : Ev M d pc L [] h post := by
  intro p l e s m args below meth c H locs ls g C hP hK hD hS hl
  have hlocks : meth.locks = false := C.2.2.2.2.2.2.1
  refine W.vret C.1 C.2.1 (C.2.2.1.trans hr) (fun t ht hW => ?_) hS.2.2 hd hlocks
  rw [hr]
  exact ⟨⟨h, rfl, hs, by rw [ht]; exact hP, va_K.moved hW.alike hK, hD⟩, hS.F ht⟩
/-- a method's contract out of its body -/
theorem mt_body {As : List AV} (hy : plainName M.1.cls = true) (hlen : As.length ≤ M.2.2.1) (hL : As.mapIdx (fun i a => (i, a)) = L) (k : Ev M d 0 L [] h post) : Mt M d As h post := by
  intro l g
  refine Met.ofW (cc := M.2.1) (maxL := M.2.2.1) (ret := M.2.2.2) hy rfl ?_
  intro p e s m args below meth c s₁ B hml hv
  obtain ⟨rfl, ⟨hP, hK, hD⟩, hN⟩ := hv
  have hcat : ∀ bs : List AV, lg_sl (bs.map (cv g)) = (bs.map (cv g)).map Slot.val := by
    intro bs
    induction bs with
    | nil => rfl
    | cons a bs ih => cases a <;> simp [lg_sl, cv, Value.category] at ih ⊢ <;> exact ih
  have hargs : ∀ (bs : List AV) (n : Nat), lv_args n (bs.map (cv g)) = cvL g (bs.mapIdx (fun i a => (n + i, a))) := by
    intro bs
    induction bs with
    | nil => intro n; rfl
    | cons a bs ih =>
      intro n
      have e : bs.mapIdx (fun i a => (n + (i + 1), a)) = bs.mapIdx (fun i a => (n + 1 + i, a)) := by
        congr 1
        funext i a
        rw [Nat.add_assoc, Nat.add_comm 1 i]
      rw [List.mapIdx_cons, List.map_cons]
      show lv_args n (cv g a :: bs.map (cv g)) = (n + 0, cv g a) :: cvL g _
      rw [e, ← ih (n + 1)]
      cases a <;> simp [lv_args, cv, Value.category]
  have hl := lv_entry (As.map (cv g)) (n := M.2.2.1) (by rw [hcat]; simpa using hlen)
  rw [lg_entry_eq]
  rw [hargs As 0] at hl
  simp only [Nat.zero_add] at hl
  rw [hL] at hl
  generalize (lg_sl (As.map (cv g)) ++ List.replicate (M.2.2.1 - (lg_sl (As.map (cv g))).length) Slot.unset).toArray = ls at hl ⊢
  have hts := atoms_spec (ws := wsM M) B.pre
  exact k p l e s m _ below meth c s.heap [] ls g ⟨B.exec, B.bytes, B.returns, hml, findClass_of_methodNamed B.named, fun w hw => hts w (List.mem_cons_of_mem _ hw), B.notSynchronized, hN⟩ hP hK hD va_S.rf hl
theorem QQ_mono {ret : Option FieldType} {g : GG} {p1 : Int32 → Hp → Prop} (hi : ∀ r u, p1 r u → post r u) {a : Array Value} {s t : State} {o : Outcome} (hq : QQ ret p1 g a s o t) : QQ ret post g a s o t := by
  cases ret with
  | none =>
    obtain ⟨⟨u, b1, b2, b3⟩, b4⟩ := hq
    exact ⟨⟨u, b1, hi _ _ b2, b3⟩, b4⟩
  | some ty =>
    obtain ⟨⟨r, u, b1, b2, b3⟩, b4⟩ := hq
    exact ⟨⟨r, u, b1, hi _ _ b2, b3⟩, b4⟩
theorem mt_weak {As : List AV} {p1 : Int32 → Hp → Prop} (hi : ∀ r u, p1 r u → post r u) (k : Mt M d As h p1) : Mt M d As h post := by
  intro l g
  have h1 := k l g
  intro p e ha hc hk s m args below hf happ hP hKK
  obtain ⟨t, o, a1, a2, a3, a4, a5⟩ := h1 p e ha hc hk s m args below hf happ hP hKK
  exact ⟨t, o, a1, a2, a3, QQ_mono hi a4, a5⟩
end EvRows2
end
section
/-! ROWS of Ev, third part: calls, switches, arraycopy -/
section EvCalls
variable {M : MI} {d pc : Nat} {L L' : List (Nat × AV)} {S S0 : List AV} {h : Hp} {post : Int32 → Hp → Prop}
/-- the words of a method's own: it is there with this code, its class stands ready, it takes n arguments -/
def ZW (Z : MI) (n : Nat) : Prop := Cond.code Z.1 Z.2.1 Z.2.2.1 Z.2.2.2 ∈ tbl ∧ Cond.initialized Z.1.cls ∈ tbl ∧ (Z.1.cls ≠ "java/lang/invoke/MethodHandle" ∧ Z.1.cls ≠ "java/lang/invoke/VarHandle" ∧ (parseMethodDescriptor Z.1.desc).map (fun q => q.parameters.length) = some n) ∧ Z.2.2.1 ≤ 21
def CVw (own : String) (i : Nat) (Z : MI) : Prop := Cond.methodLink own i Z.1 ∈ lw_tbl ∧ Cond.instanceMethod Z.1 ∈ lw_tbl ∧ Cond.selects Z.1.cls Z.1 Z.1 ∈ lw_tbl
def CSw (own : String) (i : Nat) (Z : MI) : Prop := Cond.methodLink own i Z.1 ∈ lw_tbl ∧ Cond.static Z.1 ∈ lw_tbl
def CNw (own : String) (i : Nat) (Z : MI) : Prop := Cond.methodLinkNest own i Z.1 RXx ∈ nestL ∧ Cond.static Z.1 ∈ lw_tbl
theorem blind (As : List AV) (h : Hp) (g : GG) : FrameBlind (va_Pc (As.map (cv g)) (fun U => Bw g h U ∧ NN U)) := fun a U g2 mk q => ⟨q.1, ⟨q.2.1.1, va_K.moved (u := U) (U := U.calling g2 mk a) (Vm.Alike.refl U.vm) q.2.1.2.1, q.2.1.2.2⟩, NN.same (u := U) (U := U.calling g2 mk a) rfl q.2.2⟩
theorem good_ws {Z : MI} {n : Nat} (hz : ZW Z n) : GoodIn tbl (wsM Z) := fun w hw => by
  rcases List.mem_cons.mp hw with h1 | h1
  · rw [h1]; exact ⟨hz.1, Or.inl rfl⟩
  · exact tbl_good w h1
theorem cat_sum (g : GG) (S : List AV) : ((S.map (cv g)).map fun v => v.category).sum = S.length := by
  induction S with
  | nil => rfl
  | cons a S ih => simp only [List.map_cons, List.sum_cons, ih, cv_cat, List.length_cons]; omega
theorem room_d {Z : MI} {n d2 : Nat} (hz : ZW Z n) (hd : d2 + 1 ≤ d) : (rmd d2).frames + 1 ≤ (rmd d).frames ∧ 8 + (Z.2.2.1 + 11) + (rmd d2).locals ≤ (rmd d).locals := by
  have h1 := hz.2.2.2
  refine ⟨hd, ?_⟩
  show 8 + (Z.2.2.1 + 11) + 40 * d2 ≤ 40 * d
  omega
section One
variable {i n d2 k ci : Nat} {Z : MI} {As : List AV} {q : vw_C} {fs : List (Option Nat)} {o : RO} {f : Int32 → Hp → RO}
theorem run_V {p : Program} {l : Launch} {e : Env} {s : State} {m : MethodId} {args : Array Value} {below : List Frame} {meth : Method} {c : Code} {H : Heap} {locs : List Loc} {ls : Array Slot} {g : GG} {p1 : Int32 → Hp → Prop}
    (hd : decode M.2.1 pc = .ok (.invokevirtual i, 3)) (hc : CVw M.1.cls i Z) (hz : ZW Z n) (hn : As.length = n) (hk : lay[k]? = some (.inr (ci, fs))) (hq : cls[ci]? = some q) (hqz : q.1 = Z.1.cls) (hr : S.length ≤ 8) (hdz : d2 + 1 ≤ d) (hm : Mt Z d2 (.inr k :: As) h p1)
    (C : Cx M p s m args meth c) (hP : va_P g.2.1 cls (wd g h) H) (hK : va_K g.2.1 cls (tyG g) s) (hD : va_D (gA g) (wd g h)) (hl : lv_has ls M.2.2.1 (cvL g L)) :
    va_Run p l e (rmd d) s m args below meth c H locs 0 0 0 0 (F0 m pc ls ((As.reverse ++ .inr k :: S).map (cv g))) (S.map (cv g)) (QQ Z.2.2.2 p1 g ((.inr k :: As).map (cv g)).toArray) (gA g) := by
  have hts := C.2.2.2.2.2.1
  refine va_runV (As := As.map (cv g)) (C := Z.1.cls) (index := i) (bytes := Z.2.1) (maxL := Z.2.2.1) (ret := Z.2.2.2) (n := n) (own := M.1.cls) ⟨C.1, C.2.1, C.2.2.2.1, C.2.2.2.2.1, hts⟩ (hm l g) (cwV n hts (fun w hw => ?_) rfl rfl rfl ⟨rfl, hz.2.2.1⟩ (room_d hz hdz)) ⟨blind _ h g, ?_, fun U hU hW => ⟨rfl, ⟨by rw [hU]; exact hP, va_K.moved hW.alike hK, hD⟩, NN.warm hW C.2.2.2.2.2.2.2⟩⟩ rfl (by simpa using hn) hl.1 ?_ ?_ hd ⟨Nat.le_refl 0, Nat.le_refl 0⟩
  · unfold wsV at hw
    rcases List.mem_append.mp hw with h1 | h1
    · simp only [List.mem_cons, List.not_mem_nil, or_false] at h1
      rcases h1 with rfl | rfl | rfl | rfl
      · exact ⟨tbl_in hc.1 rfl, Or.inl rfl⟩
      · exact ⟨tbl_in hc.2.1 rfl, Or.inl rfl⟩
      · exact ⟨tbl_in hc.2.2 rfl, Or.inl rfl⟩
      · exact ⟨hz.2.1, Or.inl rfl⟩
    · exact good_ws hz w h1
  · rw [← hqz]
    exact va_recv hK hP hq (wd_at g h hk)
  · simp [cv]
  · exact lv_room (by rw [cat_sum]; exact hr)
theorem ev_callV {ty : FieldType} (hd : decode M.2.1 pc = .ok (.invokevirtual i, 3)) (hc : CVw M.1.cls i Z) (hz : ZW Z n) (hn : As.length = n) (hk : lay[k]? = some (.inr (ci, fs))) (hq : cls[ci]? = some q) (hqz : q.1 = Z.1.cls) (hr : S.length ≤ 8) (hdz : d2 + 1 ≤ d) (hS0 : As.reverse ++ .inr k :: S = S0) (hret : Z.2.2.2 = some ty) (hm : ∀ p1, Sat p1 o → Mt Z d2 (.inr k :: As) h p1) (hs : Sat post (cal o f)) (kk : ∀ r u, Sat post (f r u) → Ev M d (pc + 3) L (.inl r :: S) u post) : Ev M d pc L S0 h post := by
  intro p l e s m args below meth c H locs ls g C hP hK hD hS hl
  subst hS0
  have hrun := run_V (l := l) (e := e) (below := below) (locs := locs) (S := S) hd hc hz hn hk hq hqz hr hdz (hm _ (sat_cal hs)) C hP hK hD hl
  rw [hret] at hrun
  refine va_calli (a := #[]) hrun hS (fun _ _ h => h) (fun _ h => h) (fun r u t H1 locs1 ht hvm hw hB hz1 hk1 hS1 => ?_)
  exact kk r u hw p l e s m args below meth c H1 locs1 ls g C (by rw [← ht]; exact hB.1) hK hB.2.2 hS1 hl
theorem ev_callVv (hd : decode M.2.1 pc = .ok (.invokevirtual i, 3)) (hc : CVw M.1.cls i Z) (hz : ZW Z n) (hn : As.length = n) (hk : lay[k]? = some (.inr (ci, fs))) (hq : cls[ci]? = some q) (hqz : q.1 = Z.1.cls) (hr : S.length ≤ 8) (hdz : d2 + 1 ≤ d) (hS0 : As.reverse ++ .inr k :: S = S0) (hret : Z.2.2.2 = none) (hm : ∀ p1, Sat p1 o → Mt Z d2 (.inr k :: As) h p1) (hs : Sat post (cal o f)) (kk : ∀ r u, Sat post (f r u) → Ev M d (pc + 3) L S u post) : Ev M d pc L S0 h post := by
  intro p l e s m args below meth c H locs ls g C hP hK hD hS hl
  subst hS0
  have hrun := run_V (l := l) (e := e) (below := below) (locs := locs) (S := S) hd hc hz hn hk hq hqz hr hdz (hm _ (sat_cal hs)) C hP hK hD hl
  rw [hret] at hrun
  refine va_callv (a := #[]) hrun hS (fun _ _ h => h) (fun _ h => h) (fun u t H1 locs1 ht hvm hw hB hz1 hk1 hS1 => ?_)
  exact kk 0 u hw p l e s m args below meth c H1 locs1 ls g C (by rw [← ht]; exact hB.1) hK hB.2.2 hS1 hl
theorem run_S {p : Program} {l : Launch} {e : Env} {s : State} {m : MethodId} {args : Array Value} {below : List Frame} {meth : Method} {c : Code} {H : Heap} {locs : List Loc} {ls : Array Slot} {g : GG} {p1 : Int32 → Hp → Prop}
    (hd : decode M.2.1 pc = .ok (.invokestatic i, 3)) (hc : CSw M.1.cls i Z ∨ CNw M.1.cls i Z) (hz : ZW Z n) (hn : As.length = n) (hr : S.length ≤ 8) (hdz : d2 + 1 ≤ d) (hm : Mt Z d2 As h p1)
    (C : Cx M p s m args meth c) (hP : va_P g.2.1 cls (wd g h) H) (hK : va_K g.2.1 cls (tyG g) s) (hD : va_D (gA g) (wd g h)) (hl : lv_has ls M.2.2.1 (cvL g L)) :
    va_Run p l e (rmd d) s m args below meth c H locs 0 0 0 0 (F0 m pc ls ((As.reverse ++ S).map (cv g))) (S.map (cv g)) (QQ Z.2.2.2 p1 g (As.map (cv g)).toArray) (gA g) := by
  have hts := C.2.2.2.2.2.1
  have hpre : PreS s H (va_Pc (As.map (cv g)) (fun U => Bw g h U ∧ NN U)) (As.map (cv g)) := ⟨blind _ h g, fun U hU hW => ⟨rfl, ⟨by rw [hU]; exact hP, va_K.moved hW.alike hK, hD⟩, NN.warm hW C.2.2.2.2.2.2.2⟩⟩
  rcases hc with hc | hc
  · refine va_runS (As := As.map (cv g)) (index := i) (bytes := Z.2.1) (maxL := Z.2.2.1) (ret := Z.2.2.2) (n := n) (own := M.1.cls) ⟨C.1, C.2.1, C.2.2.2.1, C.2.2.2.2.1, hts⟩ (hm l g) (va_cwS n hts (fun w hw => ?_) rfl rfl rfl hz.2.2.1 (room_d hz hdz)) hpre rfl (by simpa using hn) hl.1 (by simp) (lv_room (by rw [cat_sum]; exact hr)) hd ⟨Nat.le_refl 0, Nat.le_refl 0⟩
    unfold va_wsS at hw
    rcases List.mem_append.mp hw with h1 | h1
    · simp only [List.mem_cons, List.not_mem_nil, or_false] at h1
      rcases h1 with rfl | rfl | rfl
      · exact ⟨tbl_in hc.1 rfl, Or.inl rfl⟩
      · exact ⟨tbl_in hc.2 rfl, Or.inl rfl⟩
      · exact ⟨hz.2.1, Or.inl rfl⟩
    · exact good_ws hz w h1
  · exact va_runSN (As := As.map (cv g)) (index := i) (bytes := Z.2.1) (maxL := Z.2.2.1) (ret := Z.2.2.2) (n := n) (own := M.1.cls) ⟨C.1, C.2.1, C.2.2.2.1, C.2.2.2.2.1, hts⟩ (hm l g) ⟨va_cnB n hts (good_ws hz) rfl rfl rfl (C.2.2.2.2.2.2.2 _ hc.1) (hts _ hz.2.1) hz.2.2.1 (room_d hz hdz), hts _ (tbl_in hc.2 rfl), trivial⟩ hpre rfl (by simpa using hn) hl.1 (by simp) (lv_room (by rw [cat_sum]; exact hr)) hd ⟨Nat.le_refl 0, Nat.le_refl 0⟩
theorem ev_callS {ty : FieldType} (hd : decode M.2.1 pc = .ok (.invokestatic i, 3)) (hc : CSw M.1.cls i Z ∨ CNw M.1.cls i Z) (hz : ZW Z n) (hn : As.length = n) (hr : S.length ≤ 8) (hdz : d2 + 1 ≤ d) (hS0 : As.reverse ++ S = S0) (hret : Z.2.2.2 = some ty) (hm : ∀ p1, Sat p1 o → Mt Z d2 As h p1) (hs : Sat post (cal o f)) (kk : ∀ r u, Sat post (f r u) → Ev M d (pc + 3) L (.inl r :: S) u post) : Ev M d pc L S0 h post := by
  intro p l e s m args below meth c H locs ls g C hP hK hD hS hl
  subst hS0
  have hrun := run_S (l := l) (e := e) (below := below) (locs := locs) (S := S) hd hc hz hn hr hdz (hm _ (sat_cal hs)) C hP hK hD hl
  rw [hret] at hrun
  refine va_calli (a := #[]) hrun hS (fun _ _ h => h) (fun _ h => h) (fun r u t H1 locs1 ht hvm hw hB hz1 hk1 hS1 => ?_)
  exact kk r u hw p l e s m args below meth c H1 locs1 ls g C (by rw [← ht]; exact hB.1) hK hB.2.2 hS1 hl
theorem ev_callSv (hd : decode M.2.1 pc = .ok (.invokestatic i, 3)) (hc : CSw M.1.cls i Z ∨ CNw M.1.cls i Z) (hz : ZW Z n) (hn : As.length = n) (hr : S.length ≤ 8) (hdz : d2 + 1 ≤ d) (hS0 : As.reverse ++ S = S0) (hret : Z.2.2.2 = none) (hm : ∀ p1, Sat p1 o → Mt Z d2 As h p1) (hs : Sat post (cal o f)) (kk : ∀ r u, Sat post (f r u) → Ev M d (pc + 3) L S u post) : Ev M d pc L S0 h post := by
  intro p l e s m args below meth c H locs ls g C hP hK hD hS hl
  subst hS0
  have hrun := run_S (l := l) (e := e) (below := below) (locs := locs) (S := S) hd hc hz hn hr hdz (hm _ (sat_cal hs)) C hP hK hD hl
  rw [hret] at hrun
  refine va_callv (a := #[]) hrun hS (fun _ _ h => h) (fun _ h => h) (fun u t H1 locs1 ht hvm hw hB hz1 hk1 hS1 => ?_)
  exact kk 0 u hw p l e s m args below meth c H1 locs1 ls g C (by rw [← ht]; exact hB.1) hK hB.2.2 hS1 hl
end One
/-- a switch from 0 on -/
def swf (x : Int32) : Nat → List RO → RO → RO
  | _, [], o => o
  | i, a :: l, o => if x = nI i then a else swf x (i + 1) l o
theorem sat_sw {x : Int32} {dflt : RO} : ∀ {l : List RO} {i : Nat}, Sat post (swf x i l dflt) → (∃ j o, l[j]? = some o ∧ x = nI (i + j) ∧ Sat post o) ∨ ((∀ j, j < l.length → x ≠ nI (i + j)) ∧ Sat post dflt)
  | [], i, hs => Or.inr ⟨fun j hj => absurd hj (Nat.not_lt_zero j), hs⟩
  | a :: l, i, hs => by
    unfold swf at hs
    split at hs
    · rename_i hx
      exact Or.inl ⟨0, a, rfl, hx, hs⟩
    · rename_i hx
      rcases sat_sw hs with ⟨j, o, h1, h2, h3⟩ | ⟨h1, h2⟩
      · exact Or.inl ⟨j + 1, o, by simpa using h1, by rw [h2]; congr 1; omega, h3⟩
      · refine Or.inr ⟨fun j hj => ?_, h2⟩
        cases j with
        | zero => exact hx
        | succ j =>
          have := h1 j (by simpa using hj)
          rwa [show i + (j + 1) = i + 1 + j by omega]
theorem ev_tsw {x : Int32} {dflt hi : Int} {offs : Array Int} {len n dt : Nat} {l : List RO} {o : RO} (tg : List Nat) (hd : decode M.2.1 pc = .ok (.tableswitch dflt 0 hi offs, len)) (hn : l.length = n) (hn2 : hi + 1 = (n : Int)) (hnb : n < 100) (htg : tg.length = n) (ho : ∀ j, j < n → (offs[j]?).map (fun z => (pc : Int) + z) = (tg[j]?).map (fun z : Nat => (z : Int))) (hdt : (pc : Int) + dflt = (dt : Int)) (hs : Sat post (swf x 0 l o))
    (kk : ∀ (j : Nat) (a : RO) (t : Nat), l[j]? = some a → tg[j]? = some t → Sat post a → Ev M d t L S h post) (kd : Sat post o → Ev M d dt L S h post) : Ev M d pc L (.inl x :: S) h post := by
  intro p le e s m args below meth c H locs ls g C hP hK hD hS hl
  rcases sat_sw hs with ⟨j, a, h1, h2, h3⟩ | ⟨h1, h2⟩
  · rw [Nat.zero_add] at h2
    have hj : j < n := by rw [← hn]; exact (List.getElem?_eq_some_iff.mp h1).1
    obtain ⟨t, ht⟩ : ∃ t, tg[j]? = some t := ⟨tg[j], List.getElem?_eq_getElem (by omega)⟩
    have hx : x.toInt = (j : Int) := by rw [h2]; exact nI_toInt (by omega)
    have hoj := ho j hj
    rw [ht] at hoj
    cases hof : offs[j]? with
    | none => rw [hof] at hoj; cases hoj
    | some z =>
      rw [hof] at hoj
      have hz : (pc : Int) + z = (t : Int) := Option.some.inj hoj
      exact lv_tableIn (tgt := t) C.1 C.2.1 hd (by omega) (by omega) (by rw [hx]; simpa using hof) hz (kk j a t h1 ht h3 p le e s m args below meth c H locs ls g C hP hK hD hS hl)
  · refine lv_tableOut C.1 C.2.1 hd ?_ hdt (kd h2 p le e s m args below meth c H locs ls g C hP hK hD hS hl)
    rcases Int.lt_or_le x.toInt 0 with hx | hx
    · exact Or.inl hx
    · right
      rcases Int.lt_or_le hi x.toInt with hy | hy
      · exact hy
      · exfalso
        have hj : x.toInt.toNat < l.length := by omega
        refine h1 _ hj ?_
        rw [Nat.zero_add]
        apply Int32.toInt_inj.mp
        rw [nI_toInt (by omega)]
        omega
/-- System.arraycopy of numbers -/
def acp (h : Hp) (a b : Nat) (n : Nat) : Hp := fun z => if z = b then va_cpy (h a) (h b) 0 0 n else h z
theorem wd_acp (g : GG) (h : Hp) {a b n : Nat} (hb : lay[b]? = some (.inl (false, n))) : (wd g h).set b (g.1 b, .inl (g.2.2.1, n, .inl (va_cpy (h a) (h b) 0 0 n))) = wd g (acp h a b n) := by
  apply List.ext_getElem?
  intro z
  unfold wd
  rw [List.getElem?_set, List.getElem?_mapIdx, List.getElem?_mapIdx, List.length_mapIdx]
  by_cases hz : b = z
  · subst hz
    rw [if_pos rfl, if_pos (show b < lay.length from lay_lt hb), hb]
    simp [ce, acp]
  · rw [if_neg hz]
    congr 1
    funext sp
    have e : acp h a b n z = h z := if_neg (fun q => hz q.symm)
    unfold ce
    cases sp with
    | inl q => simp [e]
    | inr o =>
      have e2 : fv g (acp h a b n) z = fv g h z := by
        funext y f
        cases f <;> simp [fv, e]
      simp [e2]
theorem ev_acopy {i a b n : Nat} {v : Int32} (hd : decode M.2.1 pc = .ok (.invokestatic i, 3)) (h1 : Cond.methodLink M.1.cls i arraycopyName ∈ tbl) (h2 : Cond.native arraycopyName ∈ tbl) (h3 : Cond.static arraycopyName ∈ tbl) (h4 : Cond.initialized "java/lang/System" ∈ tbl) (ha : lay[a]? = some (.inl (false, n))) (hb : lay[b]? = some (.inl (false, n))) (hv : v = nI n) (hnb : n < 1000) (hd1 : 1 ≤ d) (hr : S = [])
    (hw : nativeFrameWords "java/lang/System" "arraycopy" 5 ≤ 20) (kk : Ev M d (pc + 3) L S (acp h a b n) post) : Ev M d pc L (.inl v :: .inl 0 :: .inr b :: .inl 0 :: .inr a :: S) h post := by
  intro p l e s m args below meth c H locs ls g C hP hK hD hS hl
  have hts := C.2.2.2.2.2.1
  subst hv
  subst hr
  have e0 : (0 : Int32).toNatClampNeg = 0 := rfl
  have en : (nI n).toNatClampNeg = n := nI_clamp (by omega)
  refine va_copyi (ws := wd g h) (ty := .int) C.1 C.2.1 (by rw [C.2.2.2.1, hl.1]) C.2.2.2.2.1 (hts _ h1) (hts _ h2) (hts _ h3) (hts _ h4) hK hP hD hS a b 0 0 (wd_at g h ha) (wd_at g h hb) rfl rfl rfl (sp := 0) (dp := 0) (n := nI n) (by decide) (by decide) (nI_pos (by omega)) (by rw [e0, en]; omega) (by rw [e0, en]; omega) (fun _ _ => rfl) hd1 ?_ hd (fun H1 locs1 hP1 hD1 hS1 => ?_)
  · show 0 + _ ≤ 40 * d
    omega
  · rw [e0, en] at hP1 hD1
    have hu := wd_acp g h (a := a) hb
    have hP2 : va_P g.2.1 cls ((wd g h).set b (g.1 b, .inl (g.2.2.1, n, .inl (va_cpy (h a) (h b) 0 0 n)))) H1 := hP1
    have hD2 : va_D (gA g) ((wd g h).set b (g.1 b, .inl (g.2.2.1, n, .inl (va_cpy (h a) (h b) 0 0 n)))) := hD1
    rw [hu] at hP2 hD2
    exact kk p l e s m args below meth c H1 locs1 ls g C hP2 hK hD2 hS1 hl
end EvCalls
end
