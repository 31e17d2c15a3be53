/-! NAMES: the methods (printed by a program of mine), and what the tables say of them -/
def mX_isWithin : MI := (⟨RXx, "isWithin", "(III)Z"⟩, prog_1_method_31_code, 3, (some .boolean))
def mT_startSheet : MI := (⟨RXt, "startSheet", "(II)V"⟩, prog_4_method_10_code, 3, none)
def mS_forget : MI := (⟨RXs, "forget", "()V"⟩, prog_3_method_2_code, 1, none)
def mT_places : MI := (⟨RXt, "places", "()I"⟩, prog_4_method_3_code, 1, (some .int))
def mX_sheet : MI := (⟨RXx, "sheet", "(II)I"⟩, prog_1_method_2_code, 3, (some .int))
def mM_in : MI := (⟨RXm, "in", "(III)Z"⟩, prog_7_method_2_code, 3, (some .boolean))
def mM_sheet : MI := (⟨RXm, "sheet", "(II)I"⟩, prog_7_method_8_code, 3, (some .int))
def mT_addCopy : MI := (⟨RXt, "addCopy", "(III)V"⟩, prog_4_method_12_code, 5, none)
def mT_addPiece : MI := (⟨RXt, "addPiece", "(III)I"⟩, prog_4_method_11_code, 8, (some .int))
def mX_piece : MI := (⟨RXx, "piece", "(III)I"⟩, prog_1_method_3_code, 4, (some .int))
def mM_piece : MI := (⟨RXm, "piece", "(III)I"⟩, prog_7_method_9_code, 6, (some .int))
def mT_pieceFact : MI := (⟨RXt, "pieceFact", "(II)I"⟩, prog_4_method_7_code, 3, (some .int))
def mT_dropPiece : MI := (⟨RXt, "dropPiece", "()I"⟩, prog_4_method_13_code, 1, (some .int))
def mX_drop : MI := (⟨RXx, "drop", "()I"⟩, prog_1_method_4_code, 1, (some .int))
def mM_drop : MI := (⟨RXm, "drop", "()I"⟩, prog_7_method_10_code, 1, (some .int))
def mT_hasCopy : MI := (⟨RXt, "hasCopy", "(I)Z"⟩, prog_4_method_6_code, 2, (some .boolean))
def mX_isMark : MI := (⟨RXx, "isMark", "(I)Z"⟩, prog_1_method_33_code, 1, (some .boolean))
def mT_copyFact : MI := (⟨RXt, "copyFact", "(II)I"⟩, prog_4_method_8_code, 3, (some .int))
def mX_isIn : MI := (⟨RXx, "isIn", "(II)Z"⟩, prog_1_method_32_code, 2, (some .boolean))
def mT_markOf : MI := (⟨RXt, "markOf", "(II)I"⟩, prog_4_method_19_code, 3, (some .int))
def mT_putCopyFact : MI := (⟨RXt, "putCopyFact", "(III)V"⟩, prog_4_method_9_code, 4, none)
def mT_putMark : MI := (⟨RXt, "putMark", "(III)V"⟩, prog_4_method_20_code, 7, none)
def mX_mark : MI := (⟨RXx, "mark", "(III)I"⟩, prog_1_method_5_code, 5, (some .int))
def mM_isCopy : MI := (⟨RXm, "isCopy", "(I)Z"⟩, prog_7_method_3_code, 2, (some .boolean))
def mM_isMark : MI := (⟨RXm, "isMark", "(I)Z"⟩, prog_7_method_7_code, 1, (some .boolean))
def mM_mark : MI := (⟨RXm, "mark", "(III)I"⟩, prog_7_method_11_code, 5, (some .int))
def mJ_bitCount : MI := (⟨"java/lang/Integer", "bitCount", "(I)I"⟩, prog_8_method_49_code, 1, (some .int))
def mT_copyMarks : MI := (⟨RXt, "copyMarks", "(II)I"⟩, prog_4_method_21_code, 6, (some .int))
def mX_like : MI := (⟨RXx, "like", "(II)I"⟩, prog_1_method_6_code, 3, (some .int))
def mM_like : MI := (⟨RXm, "like", "(II)I"⟩, prog_7_method_12_code, 5, (some .int))
def mX_letter : MI := (⟨RXx, "letter", "(III)I"⟩, prog_1_method_7_code, 5, (some .int))
def mM_letter : MI := (⟨RXm, "letter", "(III)I"⟩, prog_7_method_13_code, 4, (some .int))
def mX_wear : MI := (⟨RXx, "wear", "(II)I"⟩, prog_1_method_8_code, 4, (some .int))
def mM_wear : MI := (⟨RXm, "wear", "(II)I"⟩, prog_7_method_14_code, 4, (some .int))
def mX_isShade : MI := (⟨RXx, "isShade", "(I)Z"⟩, prog_1_method_34_code, 1, (some .boolean))
def mX_dated : MI := (⟨RXx, "dated", "(III)I"⟩, prog_1_method_9_code, 4, (some .int))
def mM_dated : MI := (⟨RXm, "dated", "(III)I"⟩, prog_7_method_15_code, 4, (some .int))
def mT_hasPiece : MI := (⟨RXt, "hasPiece", "(I)Z"⟩, prog_4_method_5_code, 2, (some .boolean))
def mT_isOut : MI := (⟨RXt, "isOut", "(I)Z"⟩, prog_4_method_14_code, 2, (some .boolean))
def mT_putOut : MI := (⟨RXt, "putOut", "(IZ)V"⟩, prog_4_method_15_code, 3, none)
def mX_out : MI := (⟨RXx, "out", "(IZ)I"⟩, prog_1_method_10_code, 3, (some .int))
def mM_isPiece : MI := (⟨RXm, "isPiece", "(I)Z"⟩, prog_7_method_4_code, 2, (some .boolean))
def mM_out : MI := (⟨RXm, "out", "(IZ)I"⟩, prog_7_method_16_code, 4, (some .int))
def mT_hasBar : MI := (⟨RXt, "hasBar", "(II)Z"⟩, prog_4_method_16_code, 3, (some .boolean))
def mT_addBar : MI := (⟨RXt, "addBar", "(II)I"⟩, prog_4_method_17_code, 3, (some .int))
def mX_bar : MI := (⟨RXx, "bar", "(II)I"⟩, prog_1_method_11_code, 3, (some .int))
def mM_bar : MI := (⟨RXm, "bar", "(II)I"⟩, prog_7_method_17_code, 4, (some .int))
def mJ_fill : MI := (⟨"java/util/Arrays", "fill", "([II)V"⟩, prog_11_method_103_code, 4, none)
def mT_freeBars : MI := (⟨RXt, "freeBars", "()I"⟩, prog_4_method_18_code, 2, (some .int))
def mX_free : MI := (⟨RXx, "free", "()I"⟩, prog_1_method_12_code, 1, (some .int))
def mM_free : MI := (⟨RXm, "free", "()I"⟩, prog_7_method_18_code, 2, (some .int))
def mX_of : MI := (⟨RXx, "of", "(II)I"⟩, prog_1_method_13_code, 3, (some .int))
def mM_rowOf : MI := (⟨RXm, "rowOf", "(I)I"⟩, prog_7_method_19_code, 2, (some .int))
def mM_columnOf : MI := (⟨RXm, "columnOf", "(I)I"⟩, prog_7_method_20_code, 2, (some .int))
def mM_of : MI := (⟨RXm, "of", "(II)I"⟩, prog_7_method_21_code, 3, (some .int))
def mT_isBarred : MI := (⟨RXt, "isBarred", "(I)Z"⟩, prog_4_method_22_code, 3, (some .boolean))
def mT_isForged : MI := (⟨RXt, "isForged", "(I)Z"⟩, prog_4_method_23_code, 4, (some .boolean))
def mT_takesPart : MI := (⟨RXt, "takesPart", "(I)Z"⟩, prog_4_method_24_code, 2, (some .boolean))
def mX_told : MI := (⟨RXx, "told", "(II)I"⟩, prog_1_method_14_code, 3, (some .int))
def mM_sizeOf : MI := (⟨RXm, "sizeOf", "(I)I"⟩, prog_7_method_22_code, 2, (some .int))
def mM_isForged : MI := (⟨RXm, "isForged", "(I)Z"⟩, prog_7_method_23_code, 5, (some .boolean))
def mM_takesPart : MI := (⟨RXm, "takesPart", "(I)Z"⟩, prog_7_method_24_code, 2, (some .boolean))
def mM_told : MI := (⟨RXm, "told", "(II)I"⟩, prog_7_method_25_code, 3, (some .int))
def mT_keepsMargins : MI := (⟨RXt, "keepsMargins", "(III)Z"⟩, prog_4_method_29_code, 6, (some .boolean))
def mT_keepsLetters : MI := (⟨RXt, "keepsLetters", "(III)Z"⟩, prog_4_method_30_code, 8, (some .boolean))
def mT_spotsOf : MI := (⟨RXt, "spotsOf", "(I)I"⟩, prog_4_method_28_code, 7, (some .int))
def mS_openSpots : MI := (⟨RXs, "openSpots", "()Z"⟩, prog_3_method_6_code, 3, (some .boolean))
def mT_offsetOf : MI := (⟨RXt, "offsetOf", "(I)I"⟩, prog_4_method_27_code, 2, (some .int))
def mC_readCopies : MI := (⟨RXc, "readCopies", "()V"⟩, prog_2_method_3_code, 2, none)
def mC_rowOf : MI := (⟨RXc, "rowOf", "(III)I"⟩, prog_2_method_2_code, 3, (some .int))
def mC_clashOf : MI := (⟨RXc, "clashOf", "(III)I"⟩, prog_2_method_5_code, 10, (some .int))
def mC_reckon : MI := (⟨RXc, "reckon", "(IIII)Z"⟩, prog_2_method_4_code, 10, (some .boolean))
def mS_join : MI := (⟨RXs, "join", "(II)V"⟩, prog_3_method_8_code, 6, none)
def mS_nextOfGroup : MI := (⟨RXs, "nextOfGroup", "(I)I"⟩, prog_3_method_9_code, 3, (some .int))
def mS_formGroups : MI := (⟨RXs, "formGroups", "()V"⟩, prog_3_method_7_code, 3, none)
def mS_leadsGroup : MI := (⟨RXs, "leadsGroup", "(I)Z"⟩, prog_3_method_10_code, 2, (some .boolean))
def mJ_rangeCheck : MI := (⟨"java/util/Arrays", "rangeCheck", "(III)V"⟩, prog_11_method_30_code, 3, none)
def mJ_fill4 : MI := (⟨"java/util/Arrays", "fill", "([IIII)V"⟩, prog_11_method_104_code, 5, none)
def mS_loadOf : MI := (⟨RXs, "loadOf", "(II)I"⟩, prog_3_method_13_code, 3, (some .int))
def mS_lay : MI := (⟨RXs, "lay", "(II)V"⟩, prog_3_method_15_code, 9, none)
def mS_lower : MI := (⟨RXs, "lower", "(II)V"⟩, prog_3_method_16_code, 4, none)
def mS_spotsWithin : MI := (⟨RXs, "spotsWithin", "(II)I"⟩, prog_3_method_14_code, 6, (some .int))
def mS_ways : MI := (⟨RXs, "ways", "(II)I"⟩, prog_3_method_17_code, 8, (some .int))
def mS_searchGroups : MI := (⟨RXs, "searchGroups", "()V"⟩, prog_3_method_11_code, 2, none)
def mS_placesOf : MI := (⟨RXs, "placesOf", "(I)I"⟩, prog_3_method_4_code, 2, (some .int))
def mJ_numberOfTrailingZeros : MI := (⟨"java/lang/Integer", "numberOfTrailingZeros", "(I)I"⟩, prog_8_method_48_code, 2, (some .int))
def mS_findSurePlaces : MI := (⟨RXs, "findSurePlaces", "()V"⟩, prog_3_method_12_code, 3, none)
def mS_settle : MI := (⟨RXs, "settle", "()V"⟩, prog_3_method_3_code, 1, none)
def mX_quarrel : MI := (⟨RXx, "quarrel", "()I"⟩, prog_1_method_15_code, 1, (some .int))
def mM_places : MI := (⟨RXm, "places", "()I"⟩, prog_7_method_5_code, 1, (some .int))
def mM_fits : MI := (⟨RXm, "fits", "(II)Z"⟩, prog_7_method_26_code, 7, (some .boolean))
def mM_spot : MI := (⟨RXm, "spot", "(II)I"⟩, prog_7_method_27_code, 3, (some .int))
def mM_quarrelOf : MI := (⟨RXm, "quarrelOf", "(IIII)I"⟩, prog_7_method_28_code, 9, (some .int))
def mM_prepare : MI := (⟨RXm, "prepare", "()V"⟩, prog_7_method_29_code, 6, none)
def mM_keepLaying : MI := (⟨RXm, "keepLaying", "(II)V"⟩, prog_7_method_30_code, 5, none)
def mM_find : MI := (⟨RXm, "find", "(I)V"⟩, prog_7_method_31_code, 7, none)
def mM_quarrel : MI := (⟨RXm, "quarrel", "()I"⟩, prog_7_method_32_code, 1, (some .int))
def mX_layings : MI := (⟨RXx, "layings", "()I"⟩, prog_1_method_16_code, 1, (some .int))
def mM_layings : MI := (⟨RXm, "layings", "()I"⟩, prog_7_method_33_code, 1, (some .int))
def mS_waysOfOthers : MI := (⟨RXs, "waysOfOthers", "(I)I"⟩, prog_3_method_20_code, 4, (some .int))
def mS_pickSpot : MI := (⟨RXs, "pickSpot", "(II)I"⟩, prog_3_method_19_code, 8, (some .int))
def mS_pick : MI := (⟨RXs, "pick", "(I)V"⟩, prog_3_method_18_code, 4, none)
def mS_spotIn : MI := (⟨RXs, "spotIn", "(II)I"⟩, prog_3_method_5_code, 3, (some .int))
def mX_laying : MI := (⟨RXx, "laying", "(II)I"⟩, prog_1_method_17_code, 3, (some .int))
def mM_laying : MI := (⟨RXm, "laying", "(II)I"⟩, prog_7_method_34_code, 4, (some .int))
def mX_refusalOf : MI := (⟨RXx, "refusalOf", "(I)I"⟩, prog_1_method_30_code, 2, (some .int))
def mX_place : MI := (⟨RXx, "place", "(I)I"⟩, prog_1_method_18_code, 4, (some .int))
def mM_rivals : MI := (⟨RXm, "rivals", "(I)I"⟩, prog_7_method_38_code, 2, (some .int))
def mM_manyOf : MI := (⟨RXm, "manyOf", "(I)I"⟩, prog_7_method_35_code, 3, (some .int))
def mM_placeIn : MI := (⟨RXm, "placeIn", "(I)I"⟩, prog_7_method_36_code, 2, (some .int))
def mM_place : MI := (⟨RXm, "place", "(I)I"⟩, prog_7_method_37_code, 3, (some .int))
def mX_rivals : MI := (⟨RXx, "rivals", "(I)I"⟩, prog_1_method_19_code, 3, (some .int))
def mT_hasPlace : MI := (⟨RXt, "hasPlace", "(I)Z"⟩, prog_4_method_4_code, 2, (some .boolean))
def mU_insert : MI := (⟨RXu, "insert", "(II)V"⟩, prog_5_method_4_code, 5, none)
def mU_lineUp : MI := (⟨RXu, "lineUp", "(I)I"⟩, prog_5_method_3_code, 4, (some .int))
def mX_order : MI := (⟨RXx, "order", "(II)I"⟩, prog_1_method_20_code, 4, (some .int))
def mM_isPlace : MI := (⟨RXm, "isPlace", "(I)Z"⟩, prog_7_method_6_code, 2, (some .boolean))
def mM_findOrder : MI := (⟨RXm, "findOrder", "(I)V"⟩, prog_7_method_39_code, 4, none)
def mM_order : MI := (⟨RXm, "order", "(II)I"⟩, prog_7_method_40_code, 3, (some .int))
def mU_knownOf : MI := (⟨RXu, "knownOf", "(II)I"⟩, prog_5_method_5_code, 6, (some .int))
def mX_known : MI := (⟨RXx, "known", "(II)I"⟩, prog_1_method_21_code, 3, (some .int))
def mM_known : MI := (⟨RXm, "known", "(II)I"⟩, prog_7_method_41_code, 6, (some .int))
def mU_changesOf : MI := (⟨RXu, "changesOf", "(II)I"⟩, prog_5_method_6_code, 7, (some .int))
def mX_changes : MI := (⟨RXx, "changes", "(II)I"⟩, prog_1_method_22_code, 3, (some .int))
def mM_changesOf : MI := (⟨RXm, "changesOf", "(I)I"⟩, prog_7_method_42_code, 6, (some .int))
def mM_changes : MI := (⟨RXm, "changes", "(II)I"⟩, prog_7_method_43_code, 3, (some .int))
def mU_breaksOf : MI := (⟨RXu, "breaksOf", "(I)I"⟩, prog_5_method_7_code, 4, (some .int))
def mX_breaks : MI := (⟨RXx, "breaks", "(I)I"⟩, prog_1_method_23_code, 2, (some .int))
def mM_breaks : MI := (⟨RXm, "breaks", "(I)I"⟩, prog_7_method_44_code, 5, (some .int))
def mU_areInverted : MI := (⟨RXu, "areInverted", "(II)Z"⟩, prog_5_method_10_code, 5, (some .boolean))
def mU_invertedInLine : MI := (⟨RXu, "invertedInLine", "(I)I"⟩, prog_5_method_9_code, 5, (some .int))
def mU_invertedPairs : MI := (⟨RXu, "invertedPairs", "()I"⟩, prog_5_method_8_code, 3, (some .int))
def mX_inverted : MI := (⟨RXx, "inverted", "()I"⟩, prog_1_method_24_code, 1, (some .int))
def mM_inverted : MI := (⟨RXm, "inverted", "()I"⟩, prog_7_method_45_code, 7, (some .int))
def mT_isInSpan : MI := (⟨RXt, "isInSpan", "(II)Z"⟩, prog_4_method_31_code, 3, (some .boolean))
def mT_datedOf : MI := (⟨RXt, "datedOf", "(I)I"⟩, prog_4_method_32_code, 4, (some .int))
def mT_earliestOf : MI := (⟨RXt, "earliestOf", "(I)I"⟩, prog_4_method_33_code, 4, (some .int))
def mT_latestOf : MI := (⟨RXt, "latestOf", "(I)I"⟩, prog_4_method_34_code, 4, (some .int))
def mX_span : MI := (⟨RXx, "span", "(II)I"⟩, prog_1_method_25_code, 4, (some .int))
def mM_span : MI := (⟨RXm, "span", "(II)I"⟩, prog_7_method_46_code, 7, (some .int))
def mU_placesWith : MI := (⟨RXu, "placesWith", "(I)I"⟩, prog_5_method_11_code, 4, (some .int))
def mX_cleared : MI := (⟨RXx, "cleared", "(II)I"⟩, prog_1_method_35_code, 3, (some .int))
def mX_unseen : MI := (⟨RXx, "unseen", "(I)I"⟩, prog_1_method_26_code, 6, (some .int))
def mM_common : MI := (⟨RXm, "common", "(II)I"⟩, prog_7_method_47_code, 5, (some .int))
def mM_unseen : MI := (⟨RXm, "unseen", "(I)I"⟩, prog_7_method_48_code, 8, (some .int))
def mT_forgedPieces : MI := (⟨RXt, "forgedPieces", "()I"⟩, prog_4_method_25_code, 3, (some .int))
def mT_takingPieces : MI := (⟨RXt, "takingPieces", "()I"⟩, prog_4_method_26_code, 3, (some .int))
def mU_copies : MI := (⟨RXu, "copies", "()I"⟩, prog_5_method_2_code, 3, (some .int))
def mX_many : MI := (⟨RXx, "many", "(I)I"⟩, prog_1_method_27_code, 2, (some .int))
def mM_forged : MI := (⟨RXm, "forged", "()I"⟩, prog_7_method_50_code, 3, (some .int))
def mM_taking : MI := (⟨RXm, "taking", "()I"⟩, prog_7_method_51_code, 3, (some .int))
def mM_sure : MI := (⟨RXm, "sure", "()I"⟩, prog_7_method_49_code, 3, (some .int))
def mM_many : MI := (⟨RXm, "many", "(I)I"⟩, prog_7_method_52_code, 2, (some .int))
def mT_copyFrom : MI := (⟨RXt, "copyFrom", "(LStampSheet$State;)V"⟩, prog_4_method_2_code, 2, none)
def mX_keep : MI := (⟨RXx, "keep", "()I"⟩, prog_1_method_28_code, 1, (some .int))
def mM_copy : MI := (⟨RXm, "copy", "([II[III)V"⟩, prog_7_method_53_code, 6, none)
def mM_keep : MI := (⟨RXm, "keep", "()I"⟩, prog_7_method_54_code, 2, (some .int))
def mX_back : MI := (⟨RXx, "back", "()I"⟩, prog_1_method_29_code, 1, (some .int))
def mM_back : MI := (⟨RXm, "back", "()I"⟩, prog_7_method_55_code, 2, (some .int))
theorem in_t1 {w : Cond} (h : w ∈ tables_1_1) : w ∈ lw_tbl := List.mem_append_right _ (List.mem_append_left _ h)
theorem in_t2 {w : Cond} (h : w ∈ tables_1_2) : w ∈ lw_tbl := List.mem_append_right _ (List.mem_append_right _ (List.mem_append_left _ h))
theorem in_t3 {w : Cond} (h : w ∈ tables_1_3) : w ∈ lw_tbl := List.mem_append_right _ (List.mem_append_right _ (List.mem_append_right _ (List.mem_append_left _ h)))
theorem in_t4 {w : Cond} (h : w ∈ tables_1_4) : w ∈ lw_tbl := List.mem_append_right _ (List.mem_append_right _ (List.mem_append_right _ (List.mem_append_right _ (List.mem_append_left _ h))))
theorem in_t5 {w : Cond} (h : w ∈ tables_1_5) : w ∈ lw_tbl := List.mem_append_right _ (List.mem_append_right _ (List.mem_append_right _ (List.mem_append_right _ (List.mem_append_right _ h))))
theorem zX_isWithin : ZW mX_isWithin 3 := ⟨tbl_in (in_t1 (List.mem_of_getElem? (i := 188) rfl)) rfl, tbl_in (by decide +kernel) rfl, by decide +kernel, by decide⟩
theorem zT_startSheet : ZW mT_startSheet 2 := ⟨tbl_in (in_t1 (List.mem_of_getElem? (i := 192) rfl)) rfl, tbl_in (by decide +kernel) rfl, by decide +kernel, by decide⟩
theorem zS_forget : ZW mS_forget 0 := ⟨tbl_in (in_t1 (List.mem_of_getElem? (i := 196) rfl)) rfl, tbl_in (by decide +kernel) rfl, by decide +kernel, by decide⟩
theorem zT_places : ZW mT_places 0 := ⟨tbl_in (in_t1 (List.mem_of_getElem? (i := 200) rfl)) rfl, tbl_in (by decide +kernel) rfl, by decide +kernel, by decide⟩
theorem zX_sheet : ZW mX_sheet 2 := ⟨tbl_in (in_t1 (List.mem_of_getElem? (i := 185) rfl)) rfl, tbl_in (by decide +kernel) rfl, by decide +kernel, by decide⟩
theorem zM_in : ZW mM_in 3 := ⟨tbl_in (in_t4 (List.mem_of_getElem? (i := 36) rfl)) rfl, tbl_in (by decide +kernel) rfl, by decide +kernel, by decide⟩
theorem zM_sheet : ZW mM_sheet 2 := ⟨tbl_in (in_t4 (List.mem_of_getElem? (i := 33) rfl)) rfl, tbl_in (by decide +kernel) rfl, by decide +kernel, by decide⟩
theorem zT_addCopy : ZW mT_addCopy 3 := ⟨tbl_in (in_t1 (List.mem_of_getElem? (i := 212) rfl)) rfl, tbl_in (by decide +kernel) rfl, by decide +kernel, by decide⟩
theorem zT_addPiece : ZW mT_addPiece 3 := ⟨tbl_in (in_t1 (List.mem_of_getElem? (i := 208) rfl)) rfl, tbl_in (by decide +kernel) rfl, by decide +kernel, by decide⟩
theorem zX_piece : ZW mX_piece 3 := ⟨tbl_in (in_t1 (List.mem_of_getElem? (i := 204) rfl)) rfl, tbl_in (by decide +kernel) rfl, by decide +kernel, by decide⟩
theorem zM_piece : ZW mM_piece 3 := ⟨tbl_in (in_t4 (List.mem_of_getElem? (i := 40) rfl)) rfl, tbl_in (by decide +kernel) rfl, by decide +kernel, by decide⟩
theorem zT_pieceFact : ZW mT_pieceFact 2 := ⟨tbl_in (in_t1 (List.mem_of_getElem? (i := 224) rfl)) rfl, tbl_in (by decide +kernel) rfl, by decide +kernel, by decide⟩
theorem zT_dropPiece : ZW mT_dropPiece 0 := ⟨tbl_in (in_t1 (List.mem_of_getElem? (i := 220) rfl)) rfl, tbl_in (by decide +kernel) rfl, by decide +kernel, by decide⟩
theorem zX_drop : ZW mX_drop 0 := ⟨tbl_in (in_t1 (List.mem_of_getElem? (i := 216) rfl)) rfl, tbl_in (by decide +kernel) rfl, by decide +kernel, by decide⟩
theorem zM_drop : ZW mM_drop 0 := ⟨tbl_in (in_t4 (List.mem_of_getElem? (i := 44) rfl)) rfl, tbl_in (by decide +kernel) rfl, by decide +kernel, by decide⟩
theorem zT_hasCopy : ZW mT_hasCopy 1 := ⟨tbl_in (in_t1 (List.mem_of_getElem? (i := 232) rfl)) rfl, tbl_in (by decide +kernel) rfl, by decide +kernel, by decide⟩
theorem zX_isMark : ZW mX_isMark 1 := ⟨tbl_in (in_t1 (List.mem_of_getElem? (i := 236) rfl)) rfl, tbl_in (by decide +kernel) rfl, by decide +kernel, by decide⟩
theorem zT_copyFact : ZW mT_copyFact 2 := ⟨tbl_in (in_t2 (List.mem_of_getElem? (i := 4) rfl)) rfl, tbl_in (by decide +kernel) rfl, by decide +kernel, by decide⟩
theorem zX_isIn : ZW mX_isIn 2 := ⟨tbl_in (in_t2 (List.mem_of_getElem? (i := 7) rfl)) rfl, tbl_in (by decide +kernel) rfl, by decide +kernel, by decide⟩
theorem zT_markOf : ZW mT_markOf 2 := ⟨tbl_in (in_t2 (List.mem_of_getElem? (i := 0) rfl)) rfl, tbl_in (by decide +kernel) rfl, by decide +kernel, by decide⟩
theorem zT_putCopyFact : ZW mT_putCopyFact 3 := ⟨tbl_in (in_t2 (List.mem_of_getElem? (i := 15) rfl)) rfl, tbl_in (by decide +kernel) rfl, by decide +kernel, by decide⟩
theorem zT_putMark : ZW mT_putMark 3 := ⟨tbl_in (in_t2 (List.mem_of_getElem? (i := 11) rfl)) rfl, tbl_in (by decide +kernel) rfl, by decide +kernel, by decide⟩
theorem zX_mark : ZW mX_mark 3 := ⟨tbl_in (in_t1 (List.mem_of_getElem? (i := 228) rfl)) rfl, tbl_in (by decide +kernel) rfl, by decide +kernel, by decide⟩
theorem zM_isCopy : ZW mM_isCopy 1 := ⟨tbl_in (in_t4 (List.mem_of_getElem? (i := 52) rfl)) rfl, tbl_in (by decide +kernel) rfl, by decide +kernel, by decide⟩
theorem zM_isMark : ZW mM_isMark 1 := ⟨tbl_in (in_t4 (List.mem_of_getElem? (i := 55) rfl)) rfl, tbl_in (by decide +kernel) rfl, by decide +kernel, by decide⟩
theorem zM_mark : ZW mM_mark 3 := ⟨tbl_in (in_t4 (List.mem_of_getElem? (i := 48) rfl)) rfl, tbl_in (by decide +kernel) rfl, by decide +kernel, by decide⟩
theorem zJ_bitCount : ZW mJ_bitCount 1 := ⟨tbl_in (in_t2 (List.mem_of_getElem? (i := 26) rfl)) rfl, tbl_in (by decide +kernel) rfl, by decide +kernel, by decide⟩
theorem zT_copyMarks : ZW mT_copyMarks 2 := ⟨tbl_in (in_t2 (List.mem_of_getElem? (i := 23) rfl)) rfl, tbl_in (by decide +kernel) rfl, by decide +kernel, by decide⟩
theorem zX_like : ZW mX_like 2 := ⟨tbl_in (in_t2 (List.mem_of_getElem? (i := 19) rfl)) rfl, tbl_in (by decide +kernel) rfl, by decide +kernel, by decide⟩
theorem zM_like : ZW mM_like 2 := ⟨tbl_in (in_t4 (List.mem_of_getElem? (i := 59) rfl)) rfl, tbl_in (by decide +kernel) rfl, by decide +kernel, by decide⟩
theorem zX_letter : ZW mX_letter 3 := ⟨tbl_in (in_t2 (List.mem_of_getElem? (i := 33) rfl)) rfl, tbl_in (by decide +kernel) rfl, by decide +kernel, by decide⟩
theorem zM_letter : ZW mM_letter 3 := ⟨tbl_in (in_t4 (List.mem_of_getElem? (i := 63) rfl)) rfl, tbl_in (by decide +kernel) rfl, by decide +kernel, by decide⟩
theorem zX_wear : ZW mX_wear 2 := ⟨tbl_in (in_t2 (List.mem_of_getElem? (i := 38) rfl)) rfl, tbl_in (by decide +kernel) rfl, by decide +kernel, by decide⟩
theorem zM_wear : ZW mM_wear 2 := ⟨tbl_in (in_t4 (List.mem_of_getElem? (i := 67) rfl)) rfl, tbl_in (by decide +kernel) rfl, by decide +kernel, by decide⟩
theorem zX_isShade : ZW mX_isShade 1 := ⟨tbl_in (in_t2 (List.mem_of_getElem? (i := 46) rfl)) rfl, tbl_in (by decide +kernel) rfl, by decide +kernel, by decide⟩
theorem zX_dated : ZW mX_dated 3 := ⟨tbl_in (in_t2 (List.mem_of_getElem? (i := 43) rfl)) rfl, tbl_in (by decide +kernel) rfl, by decide +kernel, by decide⟩
theorem zM_dated : ZW mM_dated 3 := ⟨tbl_in (in_t4 (List.mem_of_getElem? (i := 71) rfl)) rfl, tbl_in (by decide +kernel) rfl, by decide +kernel, by decide⟩
theorem zT_hasPiece : ZW mT_hasPiece 1 := ⟨tbl_in (in_t2 (List.mem_of_getElem? (i := 54) rfl)) rfl, tbl_in (by decide +kernel) rfl, by decide +kernel, by decide⟩
theorem zT_isOut : ZW mT_isOut 1 := ⟨tbl_in (in_t2 (List.mem_of_getElem? (i := 58) rfl)) rfl, tbl_in (by decide +kernel) rfl, by decide +kernel, by decide⟩
theorem zT_putOut : ZW mT_putOut 2 := ⟨tbl_in (in_t2 (List.mem_of_getElem? (i := 62) rfl)) rfl, tbl_in (by decide +kernel) rfl, by decide +kernel, by decide⟩
theorem zX_out : ZW mX_out 2 := ⟨tbl_in (in_t2 (List.mem_of_getElem? (i := 50) rfl)) rfl, tbl_in (by decide +kernel) rfl, by decide +kernel, by decide⟩
theorem zM_isPiece : ZW mM_isPiece 1 := ⟨tbl_in (in_t4 (List.mem_of_getElem? (i := 79) rfl)) rfl, tbl_in (by decide +kernel) rfl, by decide +kernel, by decide⟩
theorem zM_out : ZW mM_out 2 := ⟨tbl_in (in_t4 (List.mem_of_getElem? (i := 75) rfl)) rfl, tbl_in (by decide +kernel) rfl, by decide +kernel, by decide⟩
theorem zT_hasBar : ZW mT_hasBar 2 := ⟨tbl_in (in_t2 (List.mem_of_getElem? (i := 70) rfl)) rfl, tbl_in (by decide +kernel) rfl, by decide +kernel, by decide⟩
theorem zT_addBar : ZW mT_addBar 2 := ⟨tbl_in (in_t2 (List.mem_of_getElem? (i := 74) rfl)) rfl, tbl_in (by decide +kernel) rfl, by decide +kernel, by decide⟩
theorem zX_bar : ZW mX_bar 2 := ⟨tbl_in (in_t2 (List.mem_of_getElem? (i := 66) rfl)) rfl, tbl_in (by decide +kernel) rfl, by decide +kernel, by decide⟩
theorem zM_bar : ZW mM_bar 2 := ⟨tbl_in (in_t4 (List.mem_of_getElem? (i := 83) rfl)) rfl, tbl_in (by decide +kernel) rfl, by decide +kernel, by decide⟩
theorem zJ_fill : ZW mJ_fill 2 := ⟨tbl_in (in_t2 (List.mem_of_getElem? (i := 85) rfl)) rfl, tbl_in (by decide +kernel) rfl, by decide +kernel, by decide⟩
theorem zT_freeBars : ZW mT_freeBars 0 := ⟨tbl_in (in_t2 (List.mem_of_getElem? (i := 82) rfl)) rfl, tbl_in (by decide +kernel) rfl, by decide +kernel, by decide⟩
theorem zX_free : ZW mX_free 0 := ⟨tbl_in (in_t2 (List.mem_of_getElem? (i := 78) rfl)) rfl, tbl_in (by decide +kernel) rfl, by decide +kernel, by decide⟩
theorem zM_free : ZW mM_free 0 := ⟨tbl_in (in_t4 (List.mem_of_getElem? (i := 87) rfl)) rfl, tbl_in (by decide +kernel) rfl, by decide +kernel, by decide⟩
theorem zX_of : ZW mX_of 2 := ⟨tbl_in (in_t2 (List.mem_of_getElem? (i := 89) rfl)) rfl, tbl_in (by decide +kernel) rfl, by decide +kernel, by decide⟩
theorem zM_rowOf : ZW mM_rowOf 1 := ⟨tbl_in (in_t4 (List.mem_of_getElem? (i := 95) rfl)) rfl, tbl_in (by decide +kernel) rfl, by decide +kernel, by decide⟩
theorem zM_columnOf : ZW mM_columnOf 1 := ⟨tbl_in (in_t4 (List.mem_of_getElem? (i := 99) rfl)) rfl, tbl_in (by decide +kernel) rfl, by decide +kernel, by decide⟩
theorem zM_of : ZW mM_of 2 := ⟨tbl_in (in_t4 (List.mem_of_getElem? (i := 91) rfl)) rfl, tbl_in (by decide +kernel) rfl, by decide +kernel, by decide⟩
theorem zT_isBarred : ZW mT_isBarred 1 := ⟨tbl_in (in_t2 (List.mem_of_getElem? (i := 101) rfl)) rfl, tbl_in (by decide +kernel) rfl, by decide +kernel, by decide⟩
theorem zT_isForged : ZW mT_isForged 1 := ⟨tbl_in (in_t2 (List.mem_of_getElem? (i := 97) rfl)) rfl, tbl_in (by decide +kernel) rfl, by decide +kernel, by decide⟩
theorem zT_takesPart : ZW mT_takesPart 1 := ⟨tbl_in (in_t2 (List.mem_of_getElem? (i := 105) rfl)) rfl, tbl_in (by decide +kernel) rfl, by decide +kernel, by decide⟩
theorem zX_told : ZW mX_told 2 := ⟨tbl_in (in_t2 (List.mem_of_getElem? (i := 93) rfl)) rfl, tbl_in (by decide +kernel) rfl, by decide +kernel, by decide⟩
theorem zM_sizeOf : ZW mM_sizeOf 1 := ⟨tbl_in (in_t4 (List.mem_of_getElem? (i := 111) rfl)) rfl, tbl_in (by decide +kernel) rfl, by decide +kernel, by decide⟩
theorem zM_isForged : ZW mM_isForged 1 := ⟨tbl_in (in_t4 (List.mem_of_getElem? (i := 107) rfl)) rfl, tbl_in (by decide +kernel) rfl, by decide +kernel, by decide⟩
theorem zM_takesPart : ZW mM_takesPart 1 := ⟨tbl_in (in_t4 (List.mem_of_getElem? (i := 115) rfl)) rfl, tbl_in (by decide +kernel) rfl, by decide +kernel, by decide⟩
theorem zM_told : ZW mM_told 2 := ⟨tbl_in (in_t4 (List.mem_of_getElem? (i := 103) rfl)) rfl, tbl_in (by decide +kernel) rfl, by decide +kernel, by decide⟩
theorem zT_keepsMargins : ZW mT_keepsMargins 3 := ⟨tbl_in (in_t2 (List.mem_of_getElem? (i := 131) rfl)) rfl, tbl_in (by decide +kernel) rfl, by decide +kernel, by decide⟩
theorem zT_keepsLetters : ZW mT_keepsLetters 3 := ⟨tbl_in (in_t2 (List.mem_of_getElem? (i := 135) rfl)) rfl, tbl_in (by decide +kernel) rfl, by decide +kernel, by decide⟩
theorem zT_spotsOf : ZW mT_spotsOf 1 := ⟨tbl_in (in_t2 (List.mem_of_getElem? (i := 127) rfl)) rfl, tbl_in (by decide +kernel) rfl, by decide +kernel, by decide⟩
theorem zS_openSpots : ZW mS_openSpots 0 := ⟨tbl_in (in_t2 (List.mem_of_getElem? (i := 121) rfl)) rfl, tbl_in (by decide +kernel) rfl, by decide +kernel, by decide⟩
theorem zT_offsetOf : ZW mT_offsetOf 1 := ⟨tbl_in (in_t2 (List.mem_of_getElem? (i := 148) rfl)) rfl, tbl_in (by decide +kernel) rfl, by decide +kernel, by decide⟩
theorem zC_readCopies : ZW mC_readCopies 0 := ⟨tbl_in (in_t2 (List.mem_of_getElem? (i := 143) rfl)) rfl, tbl_in (by decide +kernel) rfl, by decide +kernel, by decide⟩
theorem zC_rowOf : ZW mC_rowOf 3 := ⟨tbl_in (in_t2 (List.mem_of_getElem? (i := 156) rfl)) rfl, tbl_in (by decide +kernel) rfl, by decide +kernel, by decide⟩
theorem zC_clashOf : ZW mC_clashOf 3 := ⟨tbl_in (in_t2 (List.mem_of_getElem? (i := 161) rfl)) rfl, tbl_in (by decide +kernel) rfl, by decide +kernel, by decide⟩
theorem zC_reckon : ZW mC_reckon 4 := ⟨tbl_in (in_t2 (List.mem_of_getElem? (i := 152) rfl)) rfl, tbl_in (by decide +kernel) rfl, by decide +kernel, by decide⟩
theorem zS_join : ZW mS_join 2 := ⟨tbl_in (in_t2 (List.mem_of_getElem? (i := 167) rfl)) rfl, tbl_in (by decide +kernel) rfl, by decide +kernel, by decide⟩
theorem zS_nextOfGroup : ZW mS_nextOfGroup 1 := ⟨tbl_in (in_t2 (List.mem_of_getElem? (i := 177) rfl)) rfl, tbl_in (by decide +kernel) rfl, by decide +kernel, by decide⟩
theorem zS_formGroups : ZW mS_formGroups 0 := ⟨tbl_in (in_t2 (List.mem_of_getElem? (i := 139) rfl)) rfl, tbl_in (by decide +kernel) rfl, by decide +kernel, by decide⟩
theorem zS_leadsGroup : ZW mS_leadsGroup 1 := ⟨tbl_in (in_t2 (List.mem_of_getElem? (i := 185) rfl)) rfl, tbl_in (by decide +kernel) rfl, by decide +kernel, by decide⟩
theorem zJ_rangeCheck : ZW mJ_rangeCheck 3 := ⟨tbl_in (in_t2 (List.mem_of_getElem? (i := 191) rfl)) rfl, tbl_in (by decide +kernel) rfl, by decide +kernel, by decide⟩
theorem zJ_fill4 : ZW mJ_fill4 4 := ⟨tbl_in (in_t2 (List.mem_of_getElem? (i := 188) rfl)) rfl, tbl_in (by decide +kernel) rfl, by decide +kernel, by decide⟩
theorem zS_loadOf : ZW mS_loadOf 2 := ⟨tbl_in (in_t2 (List.mem_of_getElem? (i := 201) rfl)) rfl, tbl_in (by decide +kernel) rfl, by decide +kernel, by decide⟩
theorem zS_lay : ZW mS_lay 2 := ⟨tbl_in (in_t2 (List.mem_of_getElem? (i := 205) rfl)) rfl, tbl_in (by decide +kernel) rfl, by decide +kernel, by decide⟩
theorem zS_lower : ZW mS_lower 2 := ⟨tbl_in (in_t2 (List.mem_of_getElem? (i := 196) rfl)) rfl, tbl_in (by decide +kernel) rfl, by decide +kernel, by decide⟩
theorem zS_spotsWithin : ZW mS_spotsWithin 2 := ⟨tbl_in (in_t2 (List.mem_of_getElem? (i := 214) rfl)) rfl, tbl_in (by decide +kernel) rfl, by decide +kernel, by decide⟩
theorem zS_ways : ZW mS_ways 2 := ⟨tbl_in (in_t2 (List.mem_of_getElem? (i := 210) rfl)) rfl, tbl_in (by decide +kernel) rfl, by decide +kernel, by decide⟩
theorem zS_searchGroups : ZW mS_searchGroups 0 := ⟨tbl_in (in_t2 (List.mem_of_getElem? (i := 181) rfl)) rfl, tbl_in (by decide +kernel) rfl, by decide +kernel, by decide⟩
theorem zS_placesOf : ZW mS_placesOf 1 := ⟨tbl_in (in_t2 (List.mem_of_getElem? (i := 223) rfl)) rfl, tbl_in (by decide +kernel) rfl, by decide +kernel, by decide⟩
theorem zJ_numberOfTrailingZeros : ZW mJ_numberOfTrailingZeros 1 := ⟨tbl_in (in_t2 (List.mem_of_getElem? (i := 228) rfl)) rfl, tbl_in (by decide +kernel) rfl, by decide +kernel, by decide⟩
theorem zS_findSurePlaces : ZW mS_findSurePlaces 0 := ⟨tbl_in (in_t2 (List.mem_of_getElem? (i := 219) rfl)) rfl, tbl_in (by decide +kernel) rfl, by decide +kernel, by decide⟩
theorem zS_settle : ZW mS_settle 0 := ⟨tbl_in (in_t2 (List.mem_of_getElem? (i := 116) rfl)) rfl, tbl_in (by decide +kernel) rfl, by decide +kernel, by decide⟩
theorem zX_quarrel : ZW mX_quarrel 0 := ⟨tbl_in (in_t2 (List.mem_of_getElem? (i := 112) rfl)) rfl, tbl_in (by decide +kernel) rfl, by decide +kernel, by decide⟩
theorem zM_places : ZW mM_places 0 := ⟨tbl_in (in_t4 (List.mem_of_getElem? (i := 131) rfl)) rfl, tbl_in (by decide +kernel) rfl, by decide +kernel, by decide⟩
theorem zM_fits : ZW mM_fits 2 := ⟨tbl_in (in_t4 (List.mem_of_getElem? (i := 135) rfl)) rfl, tbl_in (by decide +kernel) rfl, by decide +kernel, by decide⟩
theorem zM_spot : ZW mM_spot 2 := ⟨tbl_in (in_t4 (List.mem_of_getElem? (i := 143) rfl)) rfl, tbl_in (by decide +kernel) rfl, by decide +kernel, by decide⟩
theorem zM_quarrelOf : ZW mM_quarrelOf 4 := ⟨tbl_in (in_t4 (List.mem_of_getElem? (i := 139) rfl)) rfl, tbl_in (by decide +kernel) rfl, by decide +kernel, by decide⟩
theorem zM_prepare : ZW mM_prepare 0 := ⟨tbl_in (in_t4 (List.mem_of_getElem? (i := 127) rfl)) rfl, tbl_in (by decide +kernel) rfl, by decide +kernel, by decide⟩
theorem zM_keepLaying : ZW mM_keepLaying 2 := ⟨tbl_in (in_t4 (List.mem_of_getElem? (i := 148) rfl)) rfl, tbl_in (by decide +kernel) rfl, by decide +kernel, by decide⟩
theorem zM_find : ZW mM_find 1 := ⟨tbl_in (in_t4 (List.mem_of_getElem? (i := 123) rfl)) rfl, tbl_in (by decide +kernel) rfl, by decide +kernel, by decide⟩
theorem zM_quarrel : ZW mM_quarrel 0 := ⟨tbl_in (in_t4 (List.mem_of_getElem? (i := 119) rfl)) rfl, tbl_in (by decide +kernel) rfl, by decide +kernel, by decide⟩
theorem zX_layings : ZW mX_layings 0 := ⟨tbl_in (in_t2 (List.mem_of_getElem? (i := 233) rfl)) rfl, tbl_in (by decide +kernel) rfl, by decide +kernel, by decide⟩
theorem zM_layings : ZW mM_layings 0 := ⟨tbl_in (in_t4 (List.mem_of_getElem? (i := 152) rfl)) rfl, tbl_in (by decide +kernel) rfl, by decide +kernel, by decide⟩
theorem zS_waysOfOthers : ZW mS_waysOfOthers 1 := ⟨tbl_in (in_t3 (List.mem_of_getElem? (i := 13) rfl)) rfl, tbl_in (by decide +kernel) rfl, by decide +kernel, by decide⟩
theorem zS_pickSpot : ZW mS_pickSpot 2 := ⟨tbl_in (in_t3 (List.mem_of_getElem? (i := 9) rfl)) rfl, tbl_in (by decide +kernel) rfl, by decide +kernel, by decide⟩
theorem zS_pick : ZW mS_pick 1 := ⟨tbl_in (in_t3 (List.mem_of_getElem? (i := 5) rfl)) rfl, tbl_in (by decide +kernel) rfl, by decide +kernel, by decide⟩
theorem zS_spotIn : ZW mS_spotIn 2 := ⟨tbl_in (in_t3 (List.mem_of_getElem? (i := 1) rfl)) rfl, tbl_in (by decide +kernel) rfl, by decide +kernel, by decide⟩
theorem zX_laying : ZW mX_laying 2 := ⟨tbl_in (in_t2 (List.mem_of_getElem? (i := 237) rfl)) rfl, tbl_in (by decide +kernel) rfl, by decide +kernel, by decide⟩
theorem zM_laying : ZW mM_laying 2 := ⟨tbl_in (in_t4 (List.mem_of_getElem? (i := 156) rfl)) rfl, tbl_in (by decide +kernel) rfl, by decide +kernel, by decide⟩
theorem zX_refusalOf : ZW mX_refusalOf 1 := ⟨tbl_in (in_t3 (List.mem_of_getElem? (i := 21) rfl)) rfl, tbl_in (by decide +kernel) rfl, by decide +kernel, by decide⟩
theorem zX_place : ZW mX_place 1 := ⟨tbl_in (in_t3 (List.mem_of_getElem? (i := 17) rfl)) rfl, tbl_in (by decide +kernel) rfl, by decide +kernel, by decide⟩
theorem zM_rivals : ZW mM_rivals 1 := ⟨tbl_in (in_t4 (List.mem_of_getElem? (i := 164) rfl)) rfl, tbl_in (by decide +kernel) rfl, by decide +kernel, by decide⟩
theorem zM_manyOf : ZW mM_manyOf 1 := ⟨tbl_in (in_t4 (List.mem_of_getElem? (i := 167) rfl)) rfl, tbl_in (by decide +kernel) rfl, by decide +kernel, by decide⟩
theorem zM_placeIn : ZW mM_placeIn 1 := ⟨tbl_in (in_t4 (List.mem_of_getElem? (i := 170) rfl)) rfl, tbl_in (by decide +kernel) rfl, by decide +kernel, by decide⟩
theorem zM_place : ZW mM_place 1 := ⟨tbl_in (in_t4 (List.mem_of_getElem? (i := 160) rfl)) rfl, tbl_in (by decide +kernel) rfl, by decide +kernel, by decide⟩
theorem zX_rivals : ZW mX_rivals 1 := ⟨tbl_in (in_t3 (List.mem_of_getElem? (i := 25) rfl)) rfl, tbl_in (by decide +kernel) rfl, by decide +kernel, by decide⟩
theorem zT_hasPlace : ZW mT_hasPlace 1 := ⟨tbl_in (in_t3 (List.mem_of_getElem? (i := 34) rfl)) rfl, tbl_in (by decide +kernel) rfl, by decide +kernel, by decide⟩
theorem zU_insert : ZW mU_insert 2 := ⟨tbl_in (in_t3 (List.mem_of_getElem? (i := 43) rfl)) rfl, tbl_in (by decide +kernel) rfl, by decide +kernel, by decide⟩
theorem zU_lineUp : ZW mU_lineUp 1 := ⟨tbl_in (in_t3 (List.mem_of_getElem? (i := 39) rfl)) rfl, tbl_in (by decide +kernel) rfl, by decide +kernel, by decide⟩
theorem zX_order : ZW mX_order 2 := ⟨tbl_in (in_t3 (List.mem_of_getElem? (i := 30) rfl)) rfl, tbl_in (by decide +kernel) rfl, by decide +kernel, by decide⟩
theorem zM_isPlace : ZW mM_isPlace 1 := ⟨tbl_in (in_t4 (List.mem_of_getElem? (i := 179) rfl)) rfl, tbl_in (by decide +kernel) rfl, by decide +kernel, by decide⟩
theorem zM_findOrder : ZW mM_findOrder 1 := ⟨tbl_in (in_t4 (List.mem_of_getElem? (i := 183) rfl)) rfl, tbl_in (by decide +kernel) rfl, by decide +kernel, by decide⟩
theorem zM_order : ZW mM_order 2 := ⟨tbl_in (in_t4 (List.mem_of_getElem? (i := 175) rfl)) rfl, tbl_in (by decide +kernel) rfl, by decide +kernel, by decide⟩
theorem zU_knownOf : ZW mU_knownOf 2 := ⟨tbl_in (in_t3 (List.mem_of_getElem? (i := 52) rfl)) rfl, tbl_in (by decide +kernel) rfl, by decide +kernel, by decide⟩
theorem zX_known : ZW mX_known 2 := ⟨tbl_in (in_t3 (List.mem_of_getElem? (i := 48) rfl)) rfl, tbl_in (by decide +kernel) rfl, by decide +kernel, by decide⟩
theorem zM_known : ZW mM_known 2 := ⟨tbl_in (in_t4 (List.mem_of_getElem? (i := 187) rfl)) rfl, tbl_in (by decide +kernel) rfl, by decide +kernel, by decide⟩
theorem zU_changesOf : ZW mU_changesOf 2 := ⟨tbl_in (in_t3 (List.mem_of_getElem? (i := 61) rfl)) rfl, tbl_in (by decide +kernel) rfl, by decide +kernel, by decide⟩
theorem zX_changes : ZW mX_changes 2 := ⟨tbl_in (in_t3 (List.mem_of_getElem? (i := 57) rfl)) rfl, tbl_in (by decide +kernel) rfl, by decide +kernel, by decide⟩
theorem zM_changesOf : ZW mM_changesOf 1 := ⟨tbl_in (in_t4 (List.mem_of_getElem? (i := 195) rfl)) rfl, tbl_in (by decide +kernel) rfl, by decide +kernel, by decide⟩
theorem zM_changes : ZW mM_changes 2 := ⟨tbl_in (in_t4 (List.mem_of_getElem? (i := 191) rfl)) rfl, tbl_in (by decide +kernel) rfl, by decide +kernel, by decide⟩
theorem zU_breaksOf : ZW mU_breaksOf 1 := ⟨tbl_in (in_t3 (List.mem_of_getElem? (i := 69) rfl)) rfl, tbl_in (by decide +kernel) rfl, by decide +kernel, by decide⟩
theorem zX_breaks : ZW mX_breaks 1 := ⟨tbl_in (in_t3 (List.mem_of_getElem? (i := 65) rfl)) rfl, tbl_in (by decide +kernel) rfl, by decide +kernel, by decide⟩
theorem zM_breaks : ZW mM_breaks 1 := ⟨tbl_in (in_t4 (List.mem_of_getElem? (i := 199) rfl)) rfl, tbl_in (by decide +kernel) rfl, by decide +kernel, by decide⟩
theorem zU_areInverted : ZW mU_areInverted 2 := ⟨tbl_in (in_t3 (List.mem_of_getElem? (i := 89) rfl)) rfl, tbl_in (by decide +kernel) rfl, by decide +kernel, by decide⟩
theorem zU_invertedInLine : ZW mU_invertedInLine 1 := ⟨tbl_in (in_t3 (List.mem_of_getElem? (i := 85) rfl)) rfl, tbl_in (by decide +kernel) rfl, by decide +kernel, by decide⟩
theorem zU_invertedPairs : ZW mU_invertedPairs 0 := ⟨tbl_in (in_t3 (List.mem_of_getElem? (i := 79) rfl)) rfl, tbl_in (by decide +kernel) rfl, by decide +kernel, by decide⟩
theorem zX_inverted : ZW mX_inverted 0 := ⟨tbl_in (in_t3 (List.mem_of_getElem? (i := 75) rfl)) rfl, tbl_in (by decide +kernel) rfl, by decide +kernel, by decide⟩
theorem zM_inverted : ZW mM_inverted 0 := ⟨tbl_in (in_t4 (List.mem_of_getElem? (i := 203) rfl)) rfl, tbl_in (by decide +kernel) rfl, by decide +kernel, by decide⟩
theorem zT_isInSpan : ZW mT_isInSpan 2 := ⟨tbl_in (in_t3 (List.mem_of_getElem? (i := 101) rfl)) rfl, tbl_in (by decide +kernel) rfl, by decide +kernel, by decide⟩
theorem zT_datedOf : ZW mT_datedOf 1 := ⟨tbl_in (in_t3 (List.mem_of_getElem? (i := 97) rfl)) rfl, tbl_in (by decide +kernel) rfl, by decide +kernel, by decide⟩
theorem zT_earliestOf : ZW mT_earliestOf 1 := ⟨tbl_in (in_t3 (List.mem_of_getElem? (i := 106) rfl)) rfl, tbl_in (by decide +kernel) rfl, by decide +kernel, by decide⟩
theorem zT_latestOf : ZW mT_latestOf 1 := ⟨tbl_in (in_t3 (List.mem_of_getElem? (i := 111) rfl)) rfl, tbl_in (by decide +kernel) rfl, by decide +kernel, by decide⟩
theorem zX_span : ZW mX_span 2 := ⟨tbl_in (in_t3 (List.mem_of_getElem? (i := 93) rfl)) rfl, tbl_in (by decide +kernel) rfl, by decide +kernel, by decide⟩
theorem zM_span : ZW mM_span 2 := ⟨tbl_in (in_t4 (List.mem_of_getElem? (i := 207) rfl)) rfl, tbl_in (by decide +kernel) rfl, by decide +kernel, by decide⟩
theorem zU_placesWith : ZW mU_placesWith 1 := ⟨tbl_in (in_t3 (List.mem_of_getElem? (i := 120) rfl)) rfl, tbl_in (by decide +kernel) rfl, by decide +kernel, by decide⟩
theorem zX_cleared : ZW mX_cleared 2 := ⟨tbl_in (in_t3 (List.mem_of_getElem? (i := 123) rfl)) rfl, tbl_in (by decide +kernel) rfl, by decide +kernel, by decide⟩
theorem zX_unseen : ZW mX_unseen 1 := ⟨tbl_in (in_t3 (List.mem_of_getElem? (i := 116) rfl)) rfl, tbl_in (by decide +kernel) rfl, by decide +kernel, by decide⟩
theorem zM_common : ZW mM_common 2 := ⟨tbl_in (in_t4 (List.mem_of_getElem? (i := 214) rfl)) rfl, tbl_in (by decide +kernel) rfl, by decide +kernel, by decide⟩
theorem zM_unseen : ZW mM_unseen 1 := ⟨tbl_in (in_t4 (List.mem_of_getElem? (i := 211) rfl)) rfl, tbl_in (by decide +kernel) rfl, by decide +kernel, by decide⟩
theorem zT_forgedPieces : ZW mT_forgedPieces 0 := ⟨tbl_in (in_t3 (List.mem_of_getElem? (i := 131) rfl)) rfl, tbl_in (by decide +kernel) rfl, by decide +kernel, by decide⟩
theorem zT_takingPieces : ZW mT_takingPieces 0 := ⟨tbl_in (in_t3 (List.mem_of_getElem? (i := 135) rfl)) rfl, tbl_in (by decide +kernel) rfl, by decide +kernel, by decide⟩
theorem zU_copies : ZW mU_copies 0 := ⟨tbl_in (in_t3 (List.mem_of_getElem? (i := 139) rfl)) rfl, tbl_in (by decide +kernel) rfl, by decide +kernel, by decide⟩
theorem zX_many : ZW mX_many 1 := ⟨tbl_in (in_t3 (List.mem_of_getElem? (i := 127) rfl)) rfl, tbl_in (by decide +kernel) rfl, by decide +kernel, by decide⟩
theorem zM_forged : ZW mM_forged 0 := ⟨tbl_in (in_t4 (List.mem_of_getElem? (i := 222) rfl)) rfl, tbl_in (by decide +kernel) rfl, by decide +kernel, by decide⟩
theorem zM_taking : ZW mM_taking 0 := ⟨tbl_in (in_t4 (List.mem_of_getElem? (i := 226) rfl)) rfl, tbl_in (by decide +kernel) rfl, by decide +kernel, by decide⟩
theorem zM_sure : ZW mM_sure 0 := ⟨tbl_in (in_t4 (List.mem_of_getElem? (i := 230) rfl)) rfl, tbl_in (by decide +kernel) rfl, by decide +kernel, by decide⟩
theorem zM_many : ZW mM_many 1 := ⟨tbl_in (in_t4 (List.mem_of_getElem? (i := 218) rfl)) rfl, tbl_in (by decide +kernel) rfl, by decide +kernel, by decide⟩
theorem zT_copyFrom : ZW mT_copyFrom 1 := ⟨tbl_in (in_t3 (List.mem_of_getElem? (i := 147) rfl)) rfl, tbl_in (by decide +kernel) rfl, by decide +kernel, by decide⟩
theorem zX_keep : ZW mX_keep 0 := ⟨tbl_in (in_t3 (List.mem_of_getElem? (i := 143) rfl)) rfl, tbl_in (by decide +kernel) rfl, by decide +kernel, by decide⟩
theorem zM_copy : ZW mM_copy 5 := ⟨tbl_in (in_t4 (List.mem_of_getElem? (i := 237) rfl)) rfl, tbl_in (by decide +kernel) rfl, by decide +kernel, by decide⟩
theorem zM_keep : ZW mM_keep 0 := ⟨tbl_in (in_t4 (List.mem_of_getElem? (i := 234) rfl)) rfl, tbl_in (by decide +kernel) rfl, by decide +kernel, by decide⟩
theorem zX_back : ZW mX_back 0 := ⟨tbl_in (in_t3 (List.mem_of_getElem? (i := 154) rfl)) rfl, tbl_in (by decide +kernel) rfl, by decide +kernel, by decide⟩
theorem zM_back : ZW mM_back 0 := ⟨tbl_in (in_t5 (List.mem_of_getElem? (i := 1) rfl)) rfl, tbl_in (by decide +kernel) rfl, by decide +kernel, by decide⟩
theorem lC_15 : FL RXc 15 0 2 := ⟨_, rfl, by decide, by decide +kernel⟩
theorem lC_18 : FL RXc 18 0 3 := ⟨_, rfl, by decide, by decide +kernel⟩
theorem lC_21 : FL RXc 21 0 4 := ⟨_, rfl, by decide, by decide +kernel⟩
theorem lC_24 : FL RXc 24 0 0 := ⟨_, rfl, by decide, by decide +kernel⟩
theorem lC_28 : FL RXc 28 2 3 := ⟨_, rfl, by decide, by decide +kernel⟩
theorem lC_9 : FL RXc 9 0 1 := ⟨_, rfl, by decide, by decide +kernel⟩
theorem lS_15 : FL RXs 15 1 3 := ⟨_, rfl, by decide, by decide +kernel⟩
theorem lS_157 : FL RXs 157 2 3 := ⟨_, rfl, by decide, by decide +kernel⟩
theorem lS_175 : FL RXs 175 0 4 := ⟨_, rfl, by decide, by decide +kernel⟩
theorem lS_19 : FL RXs 19 1 4 := ⟨_, rfl, by decide, by decide +kernel⟩
theorem lS_22 : FL RXs 22 1 5 := ⟨_, rfl, by decide, by decide +kernel⟩
theorem lS_25 : FL RXs 25 1 6 := ⟨_, rfl, by decide, by decide +kernel⟩
theorem lS_29 : FL RXs 29 1 7 := ⟨_, rfl, by decide, by decide +kernel⟩
theorem lS_32 : FL RXs 32 1 8 := ⟨_, rfl, by decide, by decide +kernel⟩
theorem lS_35 : FL RXs 35 1 9 := ⟨_, rfl, by decide, by decide +kernel⟩
theorem lS_39 : FL RXs 39 1 10 := ⟨_, rfl, by decide, by decide +kernel⟩
theorem lS_42 : FL RXs 42 1 11 := ⟨_, rfl, by decide, by decide +kernel⟩
theorem lS_45 : FL RXs 45 1 12 := ⟨_, rfl, by decide, by decide +kernel⟩
theorem lS_48 : FL RXs 48 1 13 := ⟨_, rfl, by decide, by decide +kernel⟩
theorem lS_51 : FL RXs 51 1 14 := ⟨_, rfl, by decide, by decide +kernel⟩
theorem lS_54 : FL RXs 54 1 15 := ⟨_, rfl, by decide, by decide +kernel⟩
theorem lS_57 : FL RXs 57 1 16 := ⟨_, rfl, by decide, by decide +kernel⟩
theorem lS_60 : FL RXs 60 1 17 := ⟨_, rfl, by decide, by decide +kernel⟩
theorem lS_63 : FL RXs 63 1 18 := ⟨_, rfl, by decide, by decide +kernel⟩
theorem lS_66 : FL RXs 66 1 0 := ⟨_, rfl, by decide, by decide +kernel⟩
theorem lS_75 : FL RXs 75 1 1 := ⟨_, rfl, by decide, by decide +kernel⟩
theorem lS_9 : FL RXs 9 1 2 := ⟨_, rfl, by decide, by decide +kernel⟩
theorem lT_15 : FL RXt 15 2 1 := ⟨_, rfl, by decide, by decide +kernel⟩
theorem lT_18 : FL RXt 18 2 2 := ⟨_, rfl, by decide, by decide +kernel⟩
theorem lT_21 : FL RXt 21 2 3 := ⟨_, rfl, by decide, by decide +kernel⟩
theorem lT_24 : FL RXt 24 2 4 := ⟨_, rfl, by decide, by decide +kernel⟩
theorem lT_27 : FL RXt 27 2 5 := ⟨_, rfl, by decide, by decide +kernel⟩
theorem lT_31 : FL RXt 31 2 6 := ⟨_, rfl, by decide, by decide +kernel⟩
theorem lT_34 : FL RXt 34 2 7 := ⟨_, rfl, by decide, by decide +kernel⟩
theorem lT_9 : FL RXt 9 2 0 := ⟨_, rfl, by decide, by decide +kernel⟩
theorem lU_15 : FL RXu 15 3 0 := ⟨_, rfl, by decide, by decide +kernel⟩
theorem lU_19 : FL RXu 19 3 1 := ⟨_, rfl, by decide, by decide +kernel⟩
theorem lU_23 : FL RXu 23 2 3 := ⟨_, rfl, by decide, by decide +kernel⟩
theorem lU_29 : FL RXu 29 1 6 := ⟨_, rfl, by decide, by decide +kernel⟩
theorem lU_9 : FL RXu 9 3 2 := ⟨_, rfl, by decide, by decide +kernel⟩
theorem lX_108 : FL RXx 108 2 4 := ⟨_, rfl, by decide, by decide +kernel⟩
theorem lX_12 : FL RXx 12 4 0 := ⟨_, rfl, by decide, by decide +kernel⟩
theorem lX_129 : FL RXx 129 1 4 := ⟨_, rfl, by decide, by decide +kernel⟩
theorem lX_132 : FL RXx 132 1 5 := ⟨_, rfl, by decide, by decide +kernel⟩
theorem lX_142 : FL RXx 142 1 6 := ⟨_, rfl, by decide, by decide +kernel⟩
theorem lX_155 : FL RXx 155 3 2 := ⟨_, rfl, by decide, by decide +kernel⟩
theorem lX_16 : FL RXx 16 4 1 := ⟨_, rfl, by decide, by decide +kernel⟩
theorem lX_185 : FL RXx 185 2 3 := ⟨_, rfl, by decide, by decide +kernel⟩
theorem lX_24 : FL RXx 24 4 2 := ⟨_, rfl, by decide, by decide +kernel⟩
theorem lX_33 : FL RXx 33 4 3 := ⟨_, rfl, by decide, by decide +kernel⟩
theorem lX_37 : FL RXx 37 4 4 := ⟨_, rfl, by decide, by decide +kernel⟩
theorem lX_56 : FL RXx 56 2 2 := ⟨_, rfl, by decide, by decide +kernel⟩
theorem lM_103 : FL RXm 103 5 2 := ⟨_, rfl, by decide, by decide +kernel⟩
theorem lM_120 : FL RXm 120 5 16 := ⟨_, rfl, by decide, by decide +kernel⟩
theorem lM_13 : FL RXm 13 5 1 := ⟨_, rfl, by decide, by decide +kernel⟩
theorem lM_143 : FL RXm 143 5 25 := ⟨_, rfl, by decide, by decide +kernel⟩
theorem lM_154 : FL RXm 154 5 30 := ⟨_, rfl, by decide, by decide +kernel⟩
theorem lM_157 : FL RXm 157 5 31 := ⟨_, rfl, by decide, by decide +kernel⟩
theorem lM_16 : FL RXm 16 5 3 := ⟨_, rfl, by decide, by decide +kernel⟩
theorem lM_181 : FL RXm 181 5 34 := ⟨_, rfl, by decide, by decide +kernel⟩
theorem lM_20 : FL RXm 20 5 4 := ⟨_, rfl, by decide, by decide +kernel⟩
theorem lM_205 : FL RXm 205 5 19 := ⟨_, rfl, by decide, by decide +kernel⟩
theorem lM_23 : FL RXm 23 5 5 := ⟨_, rfl, by decide, by decide +kernel⟩
theorem lM_26 : FL RXm 26 5 6 := ⟨_, rfl, by decide, by decide +kernel⟩
theorem lM_29 : FL RXm 29 5 7 := ⟨_, rfl, by decide, by decide +kernel⟩
theorem lM_33 : FL RXm 33 5 9 := ⟨_, rfl, by decide, by decide +kernel⟩
theorem lM_36 : FL RXm 36 5 10 := ⟨_, rfl, by decide, by decide +kernel⟩
theorem lM_39 : FL RXm 39 5 11 := ⟨_, rfl, by decide, by decide +kernel⟩
theorem lM_42 : FL RXm 42 5 12 := ⟨_, rfl, by decide, by decide +kernel⟩
theorem lM_45 : FL RXm 45 5 13 := ⟨_, rfl, by decide, by decide +kernel⟩
theorem lM_48 : FL RXm 48 5 14 := ⟨_, rfl, by decide, by decide +kernel⟩
theorem lM_51 : FL RXm 51 5 15 := ⟨_, rfl, by decide, by decide +kernel⟩
theorem lM_54 : FL RXm 54 5 17 := ⟨_, rfl, by decide, by decide +kernel⟩
theorem lM_57 : FL RXm 57 5 18 := ⟨_, rfl, by decide, by decide +kernel⟩
theorem lM_60 : FL RXm 60 5 20 := ⟨_, rfl, by decide, by decide +kernel⟩
theorem lM_63 : FL RXm 63 5 21 := ⟨_, rfl, by decide, by decide +kernel⟩
theorem lM_66 : FL RXm 66 5 22 := ⟨_, rfl, by decide, by decide +kernel⟩
theorem lM_69 : FL RXm 69 5 23 := ⟨_, rfl, by decide, by decide +kernel⟩
theorem lM_7 : FL RXm 7 5 0 := ⟨_, rfl, by decide, by decide +kernel⟩
theorem lM_72 : FL RXm 72 5 24 := ⟨_, rfl, by decide, by decide +kernel⟩
theorem lM_75 : FL RXm 75 5 26 := ⟨_, rfl, by decide, by decide +kernel⟩
theorem lM_78 : FL RXm 78 5 27 := ⟨_, rfl, by decide, by decide +kernel⟩
theorem lM_81 : FL RXm 81 5 28 := ⟨_, rfl, by decide, by decide +kernel⟩
theorem lM_84 : FL RXm 84 5 29 := ⟨_, rfl, by decide, by decide +kernel⟩
theorem lM_87 : FL RXm 87 5 32 := ⟨_, rfl, by decide, by decide +kernel⟩
theorem lM_90 : FL RXm 90 5 33 := ⟨_, rfl, by decide, by decide +kernel⟩
theorem lM_93 : FL RXm 93 5 35 := ⟨_, rfl, by decide, by decide +kernel⟩
theorem lM_96 : FL RXm 96 5 8 := ⟨_, rfl, by decide, by decide +kernel⟩
theorem w1_2 : FW 1 2 .boolean := ⟨_, rfl, rfl, by decide +kernel⟩
theorem w1_3 : FW 1 3 .int := ⟨_, rfl, rfl, by decide +kernel⟩
theorem w1_4 : FW 1 4 .int := ⟨_, rfl, rfl, by decide +kernel⟩
theorem w1_5 : FW 1 5 .int := ⟨_, rfl, rfl, by decide +kernel⟩
theorem w1_7 : FW 1 7 .int := ⟨_, rfl, rfl, by decide +kernel⟩
theorem w1_8 : FW 1 8 .int := ⟨_, rfl, rfl, by decide +kernel⟩
theorem w2_0 : FW 2 0 .int := ⟨_, rfl, rfl, by decide +kernel⟩
theorem w2_1 : FW 2 1 .int := ⟨_, rfl, rfl, by decide +kernel⟩
theorem w2_2 : FW 2 2 .int := ⟨_, rfl, rfl, by decide +kernel⟩
theorem w2_3 : FW 2 3 .int := ⟨_, rfl, rfl, by decide +kernel⟩
theorem w2_4 : FW 2 4 .int := ⟨_, rfl, rfl, by decide +kernel⟩
theorem w4_4 : FW 4 4 .boolean := ⟨_, rfl, rfl, by decide +kernel⟩
theorem w5_0 : FW 5 0 .int := ⟨_, rfl, rfl, by decide +kernel⟩
theorem w5_1 : FW 5 1 .int := ⟨_, rfl, rfl, by decide +kernel⟩
theorem w5_16 : FW 5 16 .int := ⟨_, rfl, rfl, by decide +kernel⟩
theorem w5_19 : FW 5 19 .boolean := ⟨_, rfl, rfl, by decide +kernel⟩
theorem w5_2 : FW 5 2 .int := ⟨_, rfl, rfl, by decide +kernel⟩
theorem w5_25 : FW 5 25 .int := ⟨_, rfl, rfl, by decide +kernel⟩
theorem w5_30 : FW 5 30 .int := ⟨_, rfl, rfl, by decide +kernel⟩
theorem w5_31 : FW 5 31 .int := ⟨_, rfl, rfl, by decide +kernel⟩
theorem w5_34 : FW 5 34 .int := ⟨_, rfl, rfl, by decide +kernel⟩
theorem w5_8 : FW 5 8 .int := ⟨_, rfl, rfl, by decide +kernel⟩
theorem qS_133 : Cond.methodLink RXs 133 Lib.Math.min.name ∈ tbl := tbl_in (by decide +kernel) rfl
theorem qS_138 : Cond.methodLink RXs 138 Lib.Math.max.name ∈ tbl := tbl_in (by decide +kernel) rfl
theorem qT_103 : Cond.methodLink RXt 103 Lib.Math.min.name ∈ tbl := tbl_in (by decide +kernel) rfl
theorem qT_108 : Cond.methodLink RXt 108 Lib.Math.max.name ∈ tbl := tbl_in (by decide +kernel) rfl
theorem qU_48 : Cond.methodLink RXu 48 Lib.Math.max.name ∈ tbl := tbl_in (by decide +kernel) rfl
theorem vC_50 : CNw RXc 50 mX_isIn := ⟨by decide +kernel, by decide +kernel⟩
theorem vS_178 : CNw RXs 178 mX_isIn := ⟨by decide +kernel, by decide +kernel⟩
theorem vT_47 : CNw RXt 47 mX_isWithin := ⟨by decide +kernel, by decide +kernel⟩
theorem vT_59 : CNw RXt 59 mX_isIn := ⟨by decide +kernel, by decide +kernel⟩
theorem vC_46 : CSw RXc 46 mC_rowOf := ⟨by decide +kernel, by decide +kernel⟩
theorem vC_60 : CSw RXc 60 mJ_bitCount := ⟨by decide +kernel, by decide +kernel⟩
theorem vS_144 : CSw RXs 144 mJ_fill4 := ⟨by decide +kernel, by decide +kernel⟩
theorem vS_163 : CSw RXs 163 mJ_bitCount := ⟨by decide +kernel, by decide +kernel⟩
theorem vS_168 : CSw RXs 168 mJ_numberOfTrailingZeros := ⟨by decide +kernel, by decide +kernel⟩
theorem vS_171 : CSw RXs 171 mC_rowOf := ⟨by decide +kernel, by decide +kernel⟩
theorem vT_63 : CSw RXt 63 mJ_fill := ⟨by decide +kernel, by decide +kernel⟩
theorem vT_75 : CSw RXt 75 mJ_bitCount := ⟨by decide +kernel, by decide +kernel⟩
theorem vX_182 : CSw RXx 182 mX_cleared := ⟨by decide +kernel, by decide +kernel⟩
theorem vX_41 : CSw RXx 41 mX_isWithin := ⟨by decide +kernel, by decide +kernel⟩
theorem vX_71 : CSw RXx 71 mX_isMark := ⟨by decide +kernel, by decide +kernel⟩
theorem vX_91 : CSw RXx 91 mX_isShade := ⟨by decide +kernel, by decide +kernel⟩
theorem vM_114 : CSw RXm 114 mM_isMark := ⟨by decide +kernel, by decide +kernel⟩
theorem vM_175 : CSw RXm 175 mM_manyOf := ⟨by decide +kernel, by decide +kernel⟩
theorem vM_178 : CSw RXm 178 mM_placeIn := ⟨by decide +kernel, by decide +kernel⟩
theorem vM_193 : CSw RXm 193 mM_common := ⟨by decide +kernel, by decide +kernel⟩
theorem vM_209 : CSw RXm 209 mM_copy := ⟨by decide +kernel, by decide +kernel⟩
theorem vM_99 : CSw RXm 99 mM_in := ⟨by decide +kernel, by decide +kernel⟩
theorem vJ_13 : CSw "java/util/Arrays" 13 mJ_rangeCheck := ⟨by decide +kernel, by decide +kernel⟩
theorem vC_34 : CVw RXc 34 mT_copyFact := ⟨by decide +kernel, by decide +kernel, by decide +kernel⟩
theorem vC_38 : CVw RXc 38 mT_offsetOf := ⟨by decide +kernel, by decide +kernel, by decide +kernel⟩
theorem vC_42 : CVw RXc 42 mT_places := ⟨by decide +kernel, by decide +kernel, by decide +kernel⟩
theorem vC_54 : CVw RXc 54 mC_clashOf := ⟨by decide +kernel, by decide +kernel, by decide +kernel⟩
theorem vC_57 : CVw RXc 57 mT_pieceFact := ⟨by decide +kernel, by decide +kernel, by decide +kernel⟩
theorem vS_101 : CVw RXs 101 mT_offsetOf := ⟨by decide +kernel, by decide +kernel, by decide +kernel⟩
theorem vS_105 : CVw RXs 105 mS_pick := ⟨by decide +kernel, by decide +kernel, by decide +kernel⟩
theorem vS_109 : CVw RXs 109 mT_hasPiece := ⟨by decide +kernel, by decide +kernel, by decide +kernel⟩
theorem vS_113 : CVw RXs 113 mT_takesPart := ⟨by decide +kernel, by decide +kernel, by decide +kernel⟩
theorem vS_116 : CVw RXs 116 mT_spotsOf := ⟨by decide +kernel, by decide +kernel, by decide +kernel⟩
theorem vS_119 : CVw RXs 119 mC_readCopies := ⟨by decide +kernel, by decide +kernel, by decide +kernel⟩
theorem vS_122 : CVw RXs 122 mC_reckon := ⟨by decide +kernel, by decide +kernel, by decide +kernel⟩
theorem vS_126 : CVw RXs 126 mS_join := ⟨by decide +kernel, by decide +kernel, by decide +kernel⟩
theorem vS_130 : CVw RXs 130 mS_nextOfGroup := ⟨by decide +kernel, by decide +kernel, by decide +kernel⟩
theorem vS_141 : CVw RXs 141 mS_leadsGroup := ⟨by decide +kernel, by decide +kernel, by decide +kernel⟩
theorem vS_151 : CVw RXs 151 mS_lower := ⟨by decide +kernel, by decide +kernel, by decide +kernel⟩
theorem vS_154 : CVw RXs 154 mS_ways := ⟨by decide +kernel, by decide +kernel, by decide +kernel⟩
theorem vS_160 : CVw RXs 160 mS_placesOf := ⟨by decide +kernel, by decide +kernel, by decide +kernel⟩
theorem vS_182 : CVw RXs 182 mS_loadOf := ⟨by decide +kernel, by decide +kernel, by decide +kernel⟩
theorem vS_185 : CVw RXs 185 mS_lay := ⟨by decide +kernel, by decide +kernel, by decide +kernel⟩
theorem vS_188 : CVw RXs 188 mS_spotsWithin := ⟨by decide +kernel, by decide +kernel, by decide +kernel⟩
theorem vS_191 : CVw RXs 191 mS_pickSpot := ⟨by decide +kernel, by decide +kernel, by decide +kernel⟩
theorem vS_194 : CVw RXs 194 mS_waysOfOthers := ⟨by decide +kernel, by decide +kernel, by decide +kernel⟩
theorem vS_79 : CVw RXs 79 mT_places := ⟨by decide +kernel, by decide +kernel, by decide +kernel⟩
theorem vS_84 : CVw RXs 84 mS_openSpots := ⟨by decide +kernel, by decide +kernel, by decide +kernel⟩
theorem vS_88 : CVw RXs 88 mS_formGroups := ⟨by decide +kernel, by decide +kernel, by decide +kernel⟩
theorem vS_91 : CVw RXs 91 mS_searchGroups := ⟨by decide +kernel, by decide +kernel, by decide +kernel⟩
theorem vS_94 : CVw RXs 94 mS_findSurePlaces := ⟨by decide +kernel, by decide +kernel, by decide +kernel⟩
theorem vS_97 : CVw RXs 97 mT_copyFact := ⟨by decide +kernel, by decide +kernel, by decide +kernel⟩
theorem vT_100 : CVw RXt 100 mT_isInSpan := ⟨by decide +kernel, by decide +kernel, by decide +kernel⟩
theorem vT_43 : CVw RXt 43 mT_places := ⟨by decide +kernel, by decide +kernel, by decide +kernel⟩
theorem vT_51 : CVw RXt 51 mT_addCopy := ⟨by decide +kernel, by decide +kernel, by decide +kernel⟩
theorem vT_55 : CVw RXt 55 mT_pieceFact := ⟨by decide +kernel, by decide +kernel, by decide +kernel⟩
theorem vT_69 : CVw RXt 69 mT_copyFact := ⟨by decide +kernel, by decide +kernel, by decide +kernel⟩
theorem vT_72 : CVw RXt 72 mT_putCopyFact := ⟨by decide +kernel, by decide +kernel, by decide +kernel⟩
theorem vT_81 : CVw RXt 81 mT_isBarred := ⟨by decide +kernel, by decide +kernel, by decide +kernel⟩
theorem vT_85 : CVw RXt 85 mT_isOut := ⟨by decide +kernel, by decide +kernel, by decide +kernel⟩
theorem vT_88 : CVw RXt 88 mT_isForged := ⟨by decide +kernel, by decide +kernel, by decide +kernel⟩
theorem vT_91 : CVw RXt 91 mT_takesPart := ⟨by decide +kernel, by decide +kernel, by decide +kernel⟩
theorem vT_94 : CVw RXt 94 mT_keepsMargins := ⟨by decide +kernel, by decide +kernel, by decide +kernel⟩
theorem vT_97 : CVw RXt 97 mT_keepsLetters := ⟨by decide +kernel, by decide +kernel, by decide +kernel⟩
theorem vU_34 : CVw RXu 34 mU_insert := ⟨by decide +kernel, by decide +kernel, by decide +kernel⟩
theorem vU_38 : CVw RXu 38 mT_copyFact := ⟨by decide +kernel, by decide +kernel, by decide +kernel⟩
theorem vU_42 : CVw RXu 42 mT_markOf := ⟨by decide +kernel, by decide +kernel, by decide +kernel⟩
theorem vU_45 : CVw RXu 45 mU_changesOf := ⟨by decide +kernel, by decide +kernel, by decide +kernel⟩
theorem vU_53 : CVw RXu 53 mT_places := ⟨by decide +kernel, by decide +kernel, by decide +kernel⟩
theorem vU_57 : CVw RXu 57 mU_lineUp := ⟨by decide +kernel, by decide +kernel, by decide +kernel⟩
theorem vU_61 : CVw RXu 61 mU_invertedInLine := ⟨by decide +kernel, by decide +kernel, by decide +kernel⟩
theorem vU_64 : CVw RXu 64 mU_areInverted := ⟨by decide +kernel, by decide +kernel, by decide +kernel⟩
theorem vX_100 : CVw RXx 100 mT_putOut := ⟨by decide +kernel, by decide +kernel, by decide +kernel⟩
theorem vX_104 : CVw RXx 104 mT_hasBar := ⟨by decide +kernel, by decide +kernel, by decide +kernel⟩
theorem vX_111 : CVw RXx 111 mT_addBar := ⟨by decide +kernel, by decide +kernel, by decide +kernel⟩
theorem vX_114 : CVw RXx 114 mT_freeBars := ⟨by decide +kernel, by decide +kernel, by decide +kernel⟩
theorem vX_117 : CVw RXx 117 mT_isForged := ⟨by decide +kernel, by decide +kernel, by decide +kernel⟩
theorem vX_120 : CVw RXx 120 mT_takesPart := ⟨by decide +kernel, by decide +kernel, by decide +kernel⟩
theorem vX_123 : CVw RXx 123 mT_pieceFact := ⟨by decide +kernel, by decide +kernel, by decide +kernel⟩
theorem vX_126 : CVw RXx 126 mS_settle := ⟨by decide +kernel, by decide +kernel, by decide +kernel⟩
theorem vX_135 : CVw RXx 135 mS_spotIn := ⟨by decide +kernel, by decide +kernel, by decide +kernel⟩
theorem vX_138 : CVw RXx 138 mX_refusalOf := ⟨by decide +kernel, by decide +kernel, by decide +kernel⟩
theorem vX_146 : CVw RXx 146 mS_placesOf := ⟨by decide +kernel, by decide +kernel, by decide +kernel⟩
theorem vX_149 : CVw RXx 149 mT_hasPlace := ⟨by decide +kernel, by decide +kernel, by decide +kernel⟩
theorem vX_152 : CVw RXx 152 mU_lineUp := ⟨by decide +kernel, by decide +kernel, by decide +kernel⟩
theorem vX_158 : CVw RXx 158 mU_knownOf := ⟨by decide +kernel, by decide +kernel, by decide +kernel⟩
theorem vX_161 : CVw RXx 161 mU_changesOf := ⟨by decide +kernel, by decide +kernel, by decide +kernel⟩
theorem vX_164 : CVw RXx 164 mU_breaksOf := ⟨by decide +kernel, by decide +kernel, by decide +kernel⟩
theorem vX_167 : CVw RXx 167 mU_invertedPairs := ⟨by decide +kernel, by decide +kernel, by decide +kernel⟩
theorem vX_170 : CVw RXx 170 mT_datedOf := ⟨by decide +kernel, by decide +kernel, by decide +kernel⟩
theorem vX_173 : CVw RXx 173 mT_earliestOf := ⟨by decide +kernel, by decide +kernel, by decide +kernel⟩
theorem vX_176 : CVw RXx 176 mT_latestOf := ⟨by decide +kernel, by decide +kernel, by decide +kernel⟩
theorem vX_179 : CVw RXx 179 mU_placesWith := ⟨by decide +kernel, by decide +kernel, by decide +kernel⟩
theorem vX_188 : CVw RXx 188 mT_forgedPieces := ⟨by decide +kernel, by decide +kernel, by decide +kernel⟩
theorem vX_191 : CVw RXx 191 mT_takingPieces := ⟨by decide +kernel, by decide +kernel, by decide +kernel⟩
theorem vX_194 : CVw RXx 194 mU_copies := ⟨by decide +kernel, by decide +kernel, by decide +kernel⟩
theorem vX_196 : CVw RXx 196 mT_copyFrom := ⟨by decide +kernel, by decide +kernel, by decide +kernel⟩
theorem vX_45 : CVw RXx 45 mT_startSheet := ⟨by decide +kernel, by decide +kernel, by decide +kernel⟩
theorem vX_49 : CVw RXx 49 mS_forget := ⟨by decide +kernel, by decide +kernel, by decide +kernel⟩
theorem vX_52 : CVw RXx 52 mT_places := ⟨by decide +kernel, by decide +kernel, by decide +kernel⟩
theorem vX_60 : CVw RXx 60 mT_addPiece := ⟨by decide +kernel, by decide +kernel, by decide +kernel⟩
theorem vX_64 : CVw RXx 64 mT_dropPiece := ⟨by decide +kernel, by decide +kernel, by decide +kernel⟩
theorem vX_67 : CVw RXx 67 mT_hasCopy := ⟨by decide +kernel, by decide +kernel, by decide +kernel⟩
theorem vX_74 : CVw RXx 74 mT_markOf := ⟨by decide +kernel, by decide +kernel, by decide +kernel⟩
theorem vX_78 : CVw RXx 78 mT_putMark := ⟨by decide +kernel, by decide +kernel, by decide +kernel⟩
theorem vX_82 : CVw RXx 82 mT_copyMarks := ⟨by decide +kernel, by decide +kernel, by decide +kernel⟩
theorem vX_85 : CVw RXx 85 mT_putCopyFact := ⟨by decide +kernel, by decide +kernel, by decide +kernel⟩
theorem vX_88 : CVw RXx 88 mT_copyFact := ⟨by decide +kernel, by decide +kernel, by decide +kernel⟩
theorem vX_94 : CVw RXx 94 mT_hasPiece := ⟨by decide +kernel, by decide +kernel, by decide +kernel⟩
theorem vX_97 : CVw RXx 97 mT_isOut := ⟨by decide +kernel, by decide +kernel, by decide +kernel⟩
theorem vM_106 : CVw RXm 106 mM_places := ⟨by decide +kernel, by decide +kernel, by decide +kernel⟩
theorem vM_110 : CVw RXm 110 mM_isCopy := ⟨by decide +kernel, by decide +kernel, by decide +kernel⟩
theorem vM_117 : CVw RXm 117 mM_isPiece := ⟨by decide +kernel, by decide +kernel, by decide +kernel⟩
theorem vM_123 : CVw RXm 123 mM_rowOf := ⟨by decide +kernel, by decide +kernel, by decide +kernel⟩
theorem vM_127 : CVw RXm 127 mM_columnOf := ⟨by decide +kernel, by decide +kernel, by decide +kernel⟩
theorem vM_130 : CVw RXm 130 mM_sizeOf := ⟨by decide +kernel, by decide +kernel, by decide +kernel⟩
theorem vM_133 : CVw RXm 133 mM_isForged := ⟨by decide +kernel, by decide +kernel, by decide +kernel⟩
theorem vM_136 : CVw RXm 136 mM_takesPart := ⟨by decide +kernel, by decide +kernel, by decide +kernel⟩
theorem vM_139 : CVw RXm 139 mM_spot := ⟨by decide +kernel, by decide +kernel, by decide +kernel⟩
theorem vM_146 : CVw RXm 146 mM_fits := ⟨by decide +kernel, by decide +kernel, by decide +kernel⟩
theorem vM_150 : CVw RXm 150 mM_quarrelOf := ⟨by decide +kernel, by decide +kernel, by decide +kernel⟩
theorem vM_160 : CVw RXm 160 mM_prepare := ⟨by decide +kernel, by decide +kernel, by decide +kernel⟩
theorem vM_164 : CVw RXm 164 mM_keepLaying := ⟨by decide +kernel, by decide +kernel, by decide +kernel⟩
theorem vM_168 : CVw RXm 168 mM_find := ⟨by decide +kernel, by decide +kernel, by decide +kernel⟩
theorem vM_172 : CVw RXm 172 mM_rivals := ⟨by decide +kernel, by decide +kernel, by decide +kernel⟩
theorem vM_184 : CVw RXm 184 mM_isPlace := ⟨by decide +kernel, by decide +kernel, by decide +kernel⟩
theorem vM_187 : CVw RXm 187 mM_findOrder := ⟨by decide +kernel, by decide +kernel, by decide +kernel⟩
theorem vM_190 : CVw RXm 190 mM_changesOf := ⟨by decide +kernel, by decide +kernel, by decide +kernel⟩
theorem vM_196 : CVw RXm 196 mM_forged := ⟨by decide +kernel, by decide +kernel, by decide +kernel⟩
theorem vM_199 : CVw RXm 199 mM_taking := ⟨by decide +kernel, by decide +kernel, by decide +kernel⟩
theorem vM_202 : CVw RXm 202 mM_sure := ⟨by decide +kernel, by decide +kernel, by decide +kernel⟩
theorem kS_150 : Cond.constant RXs 150 1000000 ∈ tbl := tbl_in (by decide +kernel) rfl
theorem kM_163 : Cond.constant RXm 163 1000000 ∈ tbl := tbl_in (by decide +kernel) rfl
theorem kJ_264 : Cond.constant "java/lang/Integer" 264 65536 ∈ tbl := tbl_in (by decide +kernel) rfl
theorem kJ_265 : Cond.constant "java/lang/Integer" 265 1431655765 ∈ tbl := tbl_in (by decide +kernel) rfl
theorem kJ_266 : Cond.constant "java/lang/Integer" 266 858993459 ∈ tbl := tbl_in (by decide +kernel) rfl
theorem kJ_267 : Cond.constant "java/lang/Integer" 267 252645135 ∈ tbl := tbl_in (by decide +kernel) rfl
theorem aT_37 : Cond.methodLink RXt 37 arraycopyName ∈ tbl := tbl_in (by decide +kernel) rfl
theorem a_native : Cond.native arraycopyName ∈ tbl := tbl_in (by decide +kernel) rfl
theorem a_static : Cond.static arraycopyName ∈ tbl := tbl_in (by decide +kernel) rfl
theorem a_init : Cond.initialized "java/lang/System" ∈ tbl := tbl_in (by decide +kernel) rfl
theorem a_words : nativeFrameWords "java/lang/System" "arraycopy" 5 ≤ 20 := by decide +kernel
