/-! The methods, and what the tables say of links. -/
abbrev mX0_init : xM := (yX0_init, cX0_init, 1, none)
abbrev mX0_copyFrom : xM := (yX0_copyFrom, cX0_copyFrom, 2, none)
abbrev mX0_isFixed : xM := (yX0_isFixed, cX0_isFixed, 1, some .boolean)
abbrev mX0_isOpenAndFree : xM := (yX0_isOpenAndFree, cX0_isOpenAndFree, 1, some .boolean)
abbrev mX0_effortOf : xM := (yX0_effortOf, cX0_effortOf, 2, some .int)
abbrev mX0_isLength : xM := (yX0_isLength, cX0_isLength, 1, some .boolean)
abbrev mX0_takeSheet : xM := (yX0_takeSheet, cX0_takeSheet, 3, some .int)
abbrev mX0_foldOnce : xM := (yX0_foldOnce, cX0_foldOnce, 2, some .int)
abbrev mX0_foldBack : xM := (yX0_foldBack, cX0_foldBack, 1, some .int)
abbrev mX0_moveSpine : xM := (yX0_moveSpine, cX0_moveSpine, 3, some .int)
abbrev mX0_printSheet : xM := (yX0_printSheet, cX0_printSheet, 5, some .int)
abbrev mX0_cutAlong : xM := (yX0_cutAlong, cX0_cutAlong, 2, some .int)
abbrev mX0_setStaple : xM := (yX0_setStaple, cX0_setStaple, 2, some .int)
abbrev mX0_drawStaple : xM := (yX0_drawStaple, cX0_drawStaple, 2, some .int)
abbrev mX0_changeLegs : xM := (yX0_changeLegs, cX0_changeLegs, 3, some .int)
abbrev mX0_keepSight : xM := (yX0_keepSight, cX0_keepSight, 4, some .int)
abbrev mX0_numberOn : xM := (yX0_numberOn, cX0_numberOn, 3, some .int)
abbrev mX0_turnForUpright : xM := (yX0_turnForUpright, cX0_turnForUpright, 4, some .int)
abbrev mX0_isUpright : xM := (yX0_isUpright, cX0_isUpright, 3, some .boolean)
abbrev mX0_shutEdges : xM := (yX0_shutEdges, cX0_shutEdges, 5, some .int)
abbrev mX0_spineEdge : xM := (yX0_spineEdge, cX0_spineEdge, 1, some .int)
abbrev mX0_linesAt : xM := (yX0_linesAt, cX0_linesAt, 2, some .int)
abbrev mX0_isHidden : xM := (yX0_isHidden, cX0_isHidden, 2, some .boolean)
abbrev mX0_whyNotRead : xM := (yX0_whyNotRead, cX0_whyNotRead, 3, some .int)
abbrev mX0_countPieces : xM := (yX0_countPieces, cX0_countPieces, 4, some .int)
abbrev mX0_pieceWith : xM := (yX0_pieceWith, cX0_pieceWith, 6, some .int)
abbrev mX0_heldWith : xM := (yX0_heldWith, cX0_heldWith, 5, some .int)
abbrev mX0_showsAllSights : xM := (yX0_showsAllSights, cX0_showsAllSights, 5, some .boolean)
abbrev mX0_pagesInOrder : xM := (yX0_pagesInOrder, cX0_pagesInOrder, 3, some .int)
abbrev mX0_edgesToCut : xM := (yX0_edgesToCut, cX0_edgesToCut, 4, some .int)
abbrev mX1_init : xM := (yX1_init, cX1_init, 1, none)
abbrev mX1_keep : xM := (yX1_keep, cX1_keep, 2, none)
abbrev mX1_bringBack : xM := (yX1_bringBack, cX1_bringBack, 2, none)
abbrev mX1_settle : xM := (yX1_settle, cX1_settle, 2, some .int)
abbrev mX1_dropOldest : xM := (yX1_dropOldest, cX1_dropOldest, 3, none)
abbrev mX1_goBack : xM := (yX1_goBack, cX1_goBack, 2, some .int)
abbrev mX2_init : xM := (yX2_init, cX2_init, 1, none)
abbrev mX2_arrange : xM := (yX2_arrange, cX2_arrange, 7, none)
abbrev mX2_countLines : xM := (yX2_countLines, cX2_countLines, 3, none)
abbrev mX2_listPages : xM := (yX2_listPages, cX2_listPages, 3, none)
abbrev mX2_sort : xM := (yX2_sort, cX2_sort, 4, none)
abbrev mX2_keepFirstLine : xM := (yX2_keepFirstLine, cX2_keepFirstLine, 3, none)
abbrev mX2_linesOf : xM := (yX2_linesOf, cX2_linesOf, 2, some .int)
abbrev mX2_roomFor : xM := (yX2_roomFor, cX2_roomFor, 3, some .int)
abbrev mX2_roomForWhole : xM := (yX2_roomForWhole, cX2_roomForWhole, 5, some .int)
abbrev mX2_pageOfLine : xM := (yX2_pageOfLine, cX2_pageOfLine, 2, some .int)
abbrev mX2_takenOn : xM := (yX2_takenOn, cX2_takenOn, 7, some .int)
abbrev mX3_init : xM := (yX3_init, cX3_init, 1, none)
abbrev mX3_copyFrom : xM := (yX3_copyFrom, cX3_copyFrom, 2, none)
abbrev mX3_spread : xM := (yX3_spread, cX3_spread, 4, none)
abbrev mX3_depth : xM := (yX3_depth, cX3_depth, 1, some .int)
abbrev mX3_isBooklet : xM := (yX3_isBooklet, cX3_isBooklet, 1, some .boolean)
abbrev mX3_lastPage : xM := (yX3_lastPage, cX3_lastPage, 1, some .int)
abbrev mX3_canFold : xM := (yX3_canFold, cX3_canFold, 2, some .boolean)
abbrev mX3_lay : xM := (yX3_lay, cX3_lay, 10, none)
abbrev mX3_pile : xM := (yX3_pile, cX3_pile, 8, none)
abbrev mX3_foldBy : xM := (yX3_foldBy, cX3_foldBy, 6, some .boolean)
abbrev mX3_at : xM := (yX3_at, cX3_at, 2, some .int)
abbrev mX3_rowAt : xM := (yX3_rowAt, cX3_rowAt, 2, some .int)
abbrev mX3_columnAt : xM := (yX3_columnAt, cX3_columnAt, 2, some .int)
abbrev mX3_rowOf : xM := (yX3_rowOf, cX3_rowOf, 1, some .int)
abbrev mX3_columnOf : xM := (yX3_columnOf, cX3_columnOf, 1, some .int)
abbrev mX3_isUpsideDown : xM := (yX3_isUpsideDown, cX3_isUpsideDown, 2, some .boolean)
abbrev mX3_sideUpAt : xM := (yX3_sideUpAt, cX3_sideUpAt, 2, some .int)
abbrev mX3_sideOfPage : xM := (yX3_sideOfPage, cX3_sideOfPage, 2, some .int)
abbrev mX3_paperPlace : xM := (yX3_paperPlace, cX3_paperPlace, 3, some .int)
abbrev mX3_sideUp : xM := (yX3_sideUp, cX3_sideUp, 3, some .int)
abbrev mX3_edgesBetween : xM := (yX3_edgesBetween, cX3_edgesBetween, 7, some .int)
abbrev mX3_edgeToRight : xM := (yX3_edgeToRight, cX3_edgeToRight, 1, some .int)
abbrev mX3_edgeBelow : xM := (yX3_edgeBelow, cX3_edgeBelow, 1, some .int)
abbrev mX3_pairsAlong : xM := (yX3_pairsAlong, cX3_pairsAlong, 4, some .int)
abbrev mX4_init : xM := (yX4_init, cX4_init, 1, none)
abbrev mX4_copyFrom : xM := (yX4_copyFrom, cX4_copyFrom, 2, none)
abbrev mX4_get : xM := (yX4_get, cX4_get, 4, some .int)
abbrev mX4_subjectOf : xM := (yX4_subjectOf, cX4_subjectOf, 2, some .int)
abbrev mX4_linesOf : xM := (yX4_linesOf, cX4_linesOf, 2, some .int)
abbrev mX4_isWhole : xM := (yX4_isWhole, cX4_isWhole, 2, some .boolean)
abbrev mX4_comesBefore : xM := (yX4_comesBefore, cX4_comesBefore, 3, some .boolean)
abbrev mX5_init : xM := (yX5_init, cX5_init, 1, none)
abbrev mX5_copyFrom : xM := (yX5_copyFrom, cX5_copyFrom, 2, none)
abbrev mX5_renew : xM := (yX5_renew, cX5_renew, 3, none)
abbrev mX5_cells : xM := (yX5_cells, cX5_cells, 1, some .int)
abbrev mX5_hasSide : xM := (yX5_hasSide, cX5_hasSide, 4, some .boolean)
abbrev mX5_numberAt : xM := (yX5_numberAt, cX5_numberAt, 2, some .int)
abbrev mX5_turnAt : xM := (yX5_turnAt, cX5_turnAt, 2, some .int)
abbrev mX5_stamp : xM := (yX5_stamp, cX5_stamp, 4, some .int)
abbrev mX6_init : xM := (yX6_init, cX6_init, 1, none)
abbrev mX7_init : xM := (yX7_init, cX7_init, 1, none)
abbrev mX7_copyFrom : xM := (yX7_copyFrom, cX7_copyFrom, 2, none)
abbrev mX7_dropAll : xM := (yX7_dropAll, cX7_dropAll, 2, some .int)
abbrev mX7_put : xM := (yX7_put, cX7_put, 4, some .int)
abbrev mX8_init : xM := (yX8_init, cX8_init, 1, none)
abbrev mX8_copyFrom : xM := (yX8_copyFrom, cX8_copyFrom, 3, none)
abbrev mX8_fillSlot : xM := (yX8_fillSlot, cX8_fillSlot, 2, some .int)
abbrev mX8_useSlot : xM := (yX8_useSlot, cX8_useSlot, 2, some .int)
abbrev mX9_init : xM := (yX9_init, cX9_init, 1, none)
abbrev mX9_setSheet : xM := (yX9_setSheet, cX9_setSheet, 3, some .int)
abbrev mX9_fold : xM := (yX9_fold, cX9_fold, 2, some .int)
abbrev mX9_unfold : xM := (yX9_unfold, cX9_unfold, 1, some .int)
abbrev mX9_setSpine : xM := (yX9_setSpine, cX9_setSpine, 2, some .int)
abbrev mX9_printAll : xM := (yX9_printAll, cX9_printAll, 2, some .int)
abbrev mX9_cut : xM := (yX9_cut, cX9_cut, 2, some .int)
abbrev mX9_staple : xM := (yX9_staple, cX9_staple, 2, some .int)
abbrev mX9_unstaple : xM := (yX9_unstaple, cX9_unstaple, 2, some .int)
abbrev mX9_setLegs : xM := (yX9_setLegs, cX9_setLegs, 2, some .int)
abbrev mX9_see : xM := (yX9_see, cX9_see, 4, some .int)
abbrev mX9_forget : xM := (yX9_forget, cX9_forget, 1, some .int)
abbrev mX9_take : xM := (yX9_take, cX9_take, 2, some .int)
abbrev mX9_restore : xM := (yX9_restore, cX9_restore, 2, some .int)
abbrev mX9_undo : xM := (yX9_undo, cX9_undo, 1, some .int)
abbrev mX9_count : xM := (yX9_count, cX9_count, 3, some .int)
abbrev mX9_side : xM := (yX9_side, cX9_side, 7, some .int)
abbrev mX9_page : xM := (yX9_page, cX9_page, 4, some .int)
abbrev mX9_uprightOn : xM := (yX9_uprightOn, cX9_uprightOn, 2, some .int)
abbrev mX9_opening : xM := (yX9_opening, cX9_opening, 4, some .int)
abbrev mX9_hanging : xM := (yX9_hanging, cX9_hanging, 3, some .int)
abbrev mX9_pieces : xM := (yX9_pieces, cX9_pieces, 2, some .int)
abbrev mX9_reading : xM := (yX9_reading, cX9_reading, 6, some .int)
abbrev mX9_pageOf : xM := (yX9_pageOf, cX9_pageOf, 5, some .int)
abbrev mX9_effort : xM := (yX9_effort, cX9_effort, 2, some .int)
abbrev mX9_fitting : xM := (yX9_fitting, cX9_fitting, 7, some .int)
abbrev mX9_readsBy : xM := (yX9_readsBy, cX9_readsBy, 2, some .int)
abbrev mX9_cutsFor : xM := (yX9_cutsFor, cX9_cutsFor, 2, some .int)
abbrev mX9_best : xM := (yX9_best, cX9_best, 3, some .int)
abbrev mX9_bestFolds : xM := (yX9_bestFolds, cX9_bestFolds, 6, some .int)
abbrev mX9_tryFolds : xM := (yX9_tryFolds, cX9_tryFolds, 2, some .boolean)
abbrev mX9_rowOfFolds : xM := (yX9_rowOfFolds, cX9_rowOfFolds, 4, some .int)
abbrev mX9_isIn : xM := (yX9_isIn, cX9_isIn, 3, some .boolean)
abbrev mX9_isInSet : xM := (yX9_isInSet, cX9_isInSet, 2, some .boolean)
abbrev mX9_asNumber : xM := (yX9_asNumber, cX9_asNumber, 1, some .int)
abbrev mX9_isError : xM := (yX9_isError, cX9_isError, 1, some .boolean)
abbrev mX9_cellAt : xM := (yX9_cellAt, cX9_cellAt, 2, some .int)
abbrev mX9_placeOfSide : xM := (yX9_placeOfSide, cX9_placeOfSide, 2, some .int)
abbrev mJ6_bitCount_0f7a4 : xM := (yJ6_bitCount_0f7a4, cJ6_bitCount_0f7a4, 1, some .int)
abbrev mJ9_max_7cf53 : xM := (yJ9_max_7cf53, cJ9_max_7cf53, 2, some .int)
abbrev mJ9_min_7cf53 : xM := (yJ9_min_7cf53, cJ9_min_7cf53, 2, some .int)
abbrev mJ7_fill_53178 : xM := (yJ7_fill_53178, cJ7_fill_53178, 4, none)
abbrev mL_cell : xM := (yL_cell, cL_cell, 2, some .int)
abbrev mL_foldsBy : xM := (yL_foldsBy, cL_foldsBy, 8, some .int)
abbrev mL_ones : xM := (yL_ones, cL_ones, 3, some .int)
abbrev mL_folds : xM := (yL_folds, cL_folds, 8, some .boolean)
abbrev mL_isRead : xM := (yL_isRead, cL_isRead, 6, some .boolean)
abbrev mL_isCut : xM := (yL_isCut, cL_isCut, 11, some .boolean)
abbrev mL_isHeld : xM := (yL_isHeld, cL_isHeld, 5, some .boolean)
set_option maxRecDepth 20000 in
theorem flX0_12 : xGF RX0 12 0 0 := ⟨by decide, wG_t 148 (by decide +kernel) (by decide +kernel)⟩
set_option maxRecDepth 20000 in
theorem mcX5_copyFrom : xMc mX5_copyFrom 1 := ⟨wG_t 321 (by decide +kernel) (by decide +kernel), wG_t 4 (by decide +kernel) (by decide +kernel), ⟨by decide +kernel, by decide +kernel, by decide +kernel⟩, by decide +kernel, rfl⟩
set_option maxRecDepth 20000 in
theorem mlX0_66 : xMV RX0 66 mX5_copyFrom 1 5 := ⟨mcX5_copyFrom, wG_t 318 (by decide +kernel) (by decide +kernel), wG_t 319 (by decide +kernel) (by decide +kernel), wG_t 320 (by decide +kernel) (by decide +kernel), rfl⟩
set_option maxRecDepth 20000 in
theorem flX0_21 : xGF RX0 21 0 1 := ⟨by decide, wG_t 150 (by decide +kernel) (by decide +kernel)⟩
set_option maxRecDepth 20000 in
theorem mcX3_copyFrom : xMc mX3_copyFrom 1 := ⟨wG_t 328 (by decide +kernel) (by decide +kernel), wG_t 5 (by decide +kernel) (by decide +kernel), ⟨by decide +kernel, by decide +kernel, by decide +kernel⟩, by decide +kernel, rfl⟩
set_option maxRecDepth 20000 in
theorem mlX0_70 : xMV RX0 70 mX3_copyFrom 1 3 := ⟨mcX3_copyFrom, wG_t 325 (by decide +kernel) (by decide +kernel), wG_t 326 (by decide +kernel) (by decide +kernel), wG_t 327 (by decide +kernel) (by decide +kernel), rfl⟩
set_option maxRecDepth 20000 in
theorem flX0_28 : xGF RX0 28 0 2 := ⟨by decide, wG_t 154 (by decide +kernel) (by decide +kernel)⟩
set_option maxRecDepth 20000 in
theorem mcX7_copyFrom : xMc mX7_copyFrom 1 := ⟨wG_t 333 (by decide +kernel) (by decide +kernel), wG_t 6 (by decide +kernel) (by decide +kernel), ⟨by decide +kernel, by decide +kernel, by decide +kernel⟩, by decide +kernel, rfl⟩
set_option maxRecDepth 20000 in
theorem mlX0_73 : xMV RX0 73 mX7_copyFrom 1 7 := ⟨mcX7_copyFrom, wG_t 330 (by decide +kernel) (by decide +kernel), wG_t 331 (by decide +kernel) (by decide +kernel), wG_t 332 (by decide +kernel) (by decide +kernel), rfl⟩
set_option maxRecDepth 20000 in
theorem flX0_35 : xGF RX0 35 0 3 := ⟨by decide, wG_t 156 (by decide +kernel) (by decide +kernel)⟩
set_option maxRecDepth 20000 in
theorem mcX4_copyFrom : xMc mX4_copyFrom 1 := ⟨wG_t 338 (by decide +kernel) (by decide +kernel), wG_t 7 (by decide +kernel) (by decide +kernel), ⟨by decide +kernel, by decide +kernel, by decide +kernel⟩, by decide +kernel, rfl⟩
set_option maxRecDepth 20000 in
theorem mlX0_76 : xMV RX0 76 mX4_copyFrom 1 4 := ⟨mcX4_copyFrom, wG_t 335 (by decide +kernel) (by decide +kernel), wG_t 336 (by decide +kernel) (by decide +kernel), wG_t 337 (by decide +kernel) (by decide +kernel), rfl⟩
set_option maxRecDepth 20000 in
theorem flX0_39 : xGF RX0 39 0 4 := ⟨by decide, wG_t 159 (by decide +kernel) (by decide +kernel)⟩
theorem cw_340 : ((Jvm.Cond.methodLink "CribBooklet$Desk" (79 : Nat) ({ cls := "java/lang/System", name := "arraycopy", desc := "(Ljava/lang/Object;ILjava/lang/Object;II)V" } : Jvm.MethodName)) : Cond) ∈ wG := wG_t 340 (by decide +kernel) (by decide +kernel)
theorem cw_324 : ((Jvm.Cond.native ({ cls := "java/lang/System", name := "arraycopy", desc := "(Ljava/lang/Object;ILjava/lang/Object;II)V" } : Jvm.MethodName)) : Cond) ∈ wG := wG_t 324 (by decide +kernel) (by decide +kernel)
theorem cw_323 : ((Jvm.Cond.static ({ cls := "java/lang/System", name := "arraycopy", desc := "(Ljava/lang/Object;ILjava/lang/Object;II)V" } : Jvm.MethodName)) : Cond) ∈ wG := wG_t 323 (by decide +kernel) (by decide +kernel)
theorem cw_12 : ((Jvm.Cond.initialized "java/lang/System") : Cond) ∈ wG := wG_t 12 (by decide +kernel) (by decide +kernel)
set_option maxRecDepth 20000 in
theorem flX0_43 : xGF RX0 43 0 5 := ⟨by decide, wG_t 160 (by decide +kernel) (by decide +kernel)⟩
set_option maxRecDepth 20000 in
theorem flX0_47 : xGF RX0 47 0 6 := ⟨by decide, wG_t 162 (by decide +kernel) (by decide +kernel)⟩
set_option maxRecDepth 20000 in
theorem flX0_50 : xGF RX0 50 0 7 := ⟨by decide, wG_t 164 (by decide +kernel) (by decide +kernel)⟩
set_option maxRecDepth 20000 in
theorem flX0_53 : xGF RX0 53 0 8 := ⟨by decide, wG_t 166 (by decide +kernel) (by decide +kernel)⟩
set_option maxRecDepth 20000 in
theorem flX0_56 : xGF RX0 56 0 9 := ⟨by decide, wG_t 168 (by decide +kernel) (by decide +kernel)⟩
set_option maxRecDepth 20000 in
theorem flX0_85 : xGF RX0 85 3 5 := ⟨by decide, wG_t 74 (by decide +kernel) (by decide +kernel)⟩
set_option maxRecDepth 20000 in
theorem mcX0_isFixed : xMc mX0_isFixed 0 := ⟨wG_t 421 (by decide +kernel) (by decide +kernel), wG_t 3 (by decide +kernel) (by decide +kernel), ⟨by decide +kernel, by decide +kernel, by decide +kernel⟩, by decide +kernel, rfl⟩
set_option maxRecDepth 20000 in
theorem mlX0_88 : xMV RX0 88 mX0_isFixed 0 0 := ⟨mcX0_isFixed, wG_t 418 (by decide +kernel) (by decide +kernel), wG_t 420 (by decide +kernel) (by decide +kernel), wG_p (n := 10) 4 (by decide +kernel) rfl, rfl⟩
set_option maxRecDepth 20000 in
theorem mcX9_isIn : xMc mX9_isIn 3 := ⟨wG_t 309 (by decide +kernel) (by decide +kernel), wG_t 1 (by decide +kernel) (by decide +kernel), ⟨by decide +kernel, by decide +kernel, by decide +kernel⟩, by decide +kernel, rfl⟩
set_option maxRecDepth 20000 in
theorem mlX0_92 : xMN RX0 92 mX9_isIn 3 := ⟨mcX9_isIn, ⟨"CribBooklet", List.mem_filter.mpr ⟨List.mem_of_getElem? (i := 375) (by decide +kernel), rfl⟩⟩, wG_t 308 (by decide +kernel) (by decide +kernel)⟩
set_option maxRecDepth 20000 in
theorem mcX0_isLength : xMc mX0_isLength 1 := ⟨wG_t 350 (by decide +kernel) (by decide +kernel), wG_t 3 (by decide +kernel) (by decide +kernel), ⟨by decide +kernel, by decide +kernel, by decide +kernel⟩, by decide +kernel, rfl⟩
set_option maxRecDepth 20000 in
theorem mlX0_96 : xMS RX0 96 mX0_isLength 1 := ⟨mcX0_isLength, wG_t 348 (by decide +kernel) (by decide +kernel), wG_t 349 (by decide +kernel) (by decide +kernel)⟩
set_option maxRecDepth 20000 in
theorem mcX5_renew : xMc mX5_renew 2 := ⟨wG_t 137 (by decide +kernel) (by decide +kernel), wG_t 4 (by decide +kernel) (by decide +kernel), ⟨by decide +kernel, by decide +kernel, by decide +kernel⟩, by decide +kernel, rfl⟩
set_option maxRecDepth 20000 in
theorem mlX0_59 : xMV RX0 59 mX5_renew 2 5 := ⟨mcX5_renew, wG_t 134 (by decide +kernel) (by decide +kernel), wG_t 135 (by decide +kernel) (by decide +kernel), wG_t 136 (by decide +kernel) (by decide +kernel), rfl⟩
set_option maxRecDepth 20000 in
theorem mcX3_spread : xMc mX3_spread 2 := ⟨wG_t 144 (by decide +kernel) (by decide +kernel), wG_t 5 (by decide +kernel) (by decide +kernel), ⟨by decide +kernel, by decide +kernel, by decide +kernel⟩, by decide +kernel, rfl⟩
set_option maxRecDepth 20000 in
theorem mlX0_63 : xMV RX0 63 mX3_spread 2 3 := ⟨mcX3_spread, wG_t 141 (by decide +kernel) (by decide +kernel), wG_t 142 (by decide +kernel) (by decide +kernel), wG_t 143 (by decide +kernel) (by decide +kernel), rfl⟩
set_option maxRecDepth 20000 in
theorem mcX7_dropAll : xMc mX7_dropAll 0 := ⟨wG_t 354 (by decide +kernel) (by decide +kernel), wG_t 6 (by decide +kernel) (by decide +kernel), ⟨by decide +kernel, by decide +kernel, by decide +kernel⟩, by decide +kernel, rfl⟩
set_option maxRecDepth 20000 in
theorem mlX0_100 : xMV RX0 100 mX7_dropAll 0 7 := ⟨mcX7_dropAll, wG_t 351 (by decide +kernel) (by decide +kernel), wG_t 352 (by decide +kernel) (by decide +kernel), wG_t 353 (by decide +kernel) (by decide +kernel), rfl⟩
set_option maxRecDepth 20000 in
theorem mcX3_canFold : xMc mX3_canFold 1 := ⟨wG_t 393 (by decide +kernel) (by decide +kernel), wG_t 5 (by decide +kernel) (by decide +kernel), ⟨by decide +kernel, by decide +kernel, by decide +kernel⟩, by decide +kernel, rfl⟩
set_option maxRecDepth 20000 in
theorem mlX0_104 : xMV RX0 104 mX3_canFold 1 3 := ⟨mcX3_canFold, wG_t 620 (by decide +kernel) (by decide +kernel), wG_t 391 (by decide +kernel) (by decide +kernel), wG_t 392 (by decide +kernel) (by decide +kernel), rfl⟩
set_option maxRecDepth 20000 in
theorem mcX3_depth : xMc mX3_depth 0 := ⟨wG_t 405 (by decide +kernel) (by decide +kernel), wG_t 5 (by decide +kernel) (by decide +kernel), ⟨by decide +kernel, by decide +kernel, by decide +kernel⟩, by decide +kernel, rfl⟩
set_option maxRecDepth 20000 in
theorem mlX0_107 : xMV RX0 107 mX3_depth 0 3 := ⟨mcX3_depth, wG_t 621 (by decide +kernel) (by decide +kernel), wG_t 403 (by decide +kernel) (by decide +kernel), wG_t 404 (by decide +kernel) (by decide +kernel), rfl⟩
set_option maxRecDepth 20000 in
theorem mcX3_lay : xMc mX3_lay 1 := ⟨wG_t 397 (by decide +kernel) (by decide +kernel), wG_t 5 (by decide +kernel) (by decide +kernel), ⟨by decide +kernel, by decide +kernel, by decide +kernel⟩, by decide +kernel, rfl⟩
set_option maxRecDepth 20000 in
theorem mlX0_110 : xMV RX0 110 mX3_lay 1 3 := ⟨mcX3_lay, wG_t 622 (by decide +kernel) (by decide +kernel), wG_t 395 (by decide +kernel) (by decide +kernel), wG_t 396 (by decide +kernel) (by decide +kernel), rfl⟩
set_option maxRecDepth 20000 in
theorem flX0_114 : xGF RX0 114 5 0 := ⟨by decide, wG_t 42 (by decide +kernel) (by decide +kernel)⟩
set_option maxRecDepth 20000 in
theorem flX0_117 : xGF RX0 117 5 1 := ⟨by decide, wG_t 45 (by decide +kernel) (by decide +kernel)⟩
set_option maxRecDepth 20000 in
theorem flX0_120 : xGF RX0 120 3 4 := ⟨by decide, wG_t 70 (by decide +kernel) (by decide +kernel)⟩
set_option maxRecDepth 20000 in
theorem mcX3_foldBy : xMc mX3_foldBy 3 := ⟨wG_t 387 (by decide +kernel) (by decide +kernel), wG_t 5 (by decide +kernel) (by decide +kernel), ⟨by decide +kernel, by decide +kernel, by decide +kernel⟩, by decide +kernel, rfl⟩
set_option maxRecDepth 20000 in
theorem mlX0_123 : xMV RX0 123 mX3_foldBy 3 3 := ⟨mcX3_foldBy, wG_t 384 (by decide +kernel) (by decide +kernel), wG_t 385 (by decide +kernel) (by decide +kernel), wG_t 386 (by decide +kernel) (by decide +kernel), rfl⟩
set_option maxRecDepth 20000 in
theorem mcX0_isOpenAndFree : xMc mX0_isOpenAndFree 0 := ⟨wG_t 417 (by decide +kernel) (by decide +kernel), wG_t 3 (by decide +kernel) (by decide +kernel), ⟨by decide +kernel, by decide +kernel, by decide +kernel⟩, by decide +kernel, rfl⟩
set_option maxRecDepth 20000 in
theorem mlX0_129 : xMV RX0 129 mX0_isOpenAndFree 0 0 := ⟨mcX0_isOpenAndFree, wG_t 414 (by decide +kernel) (by decide +kernel), wG_t 416 (by decide +kernel) (by decide +kernel), wG_p (n := 10) 3 (by decide +kernel) rfl, rfl⟩
set_option maxRecDepth 20000 in
theorem mcX3_lastPage : xMc mX3_lastPage 0 := ⟨wG_t 425 (by decide +kernel) (by decide +kernel), wG_t 5 (by decide +kernel) (by decide +kernel), ⟨by decide +kernel, by decide +kernel, by decide +kernel⟩, by decide +kernel, rfl⟩
set_option maxRecDepth 20000 in
theorem mlX0_147 : xMV RX0 147 mX3_lastPage 0 3 := ⟨mcX3_lastPage, wG_t 422 (by decide +kernel) (by decide +kernel), wG_t 423 (by decide +kernel) (by decide +kernel), wG_t 424 (by decide +kernel) (by decide +kernel), rfl⟩
set_option maxRecDepth 20000 in
theorem mcX3_paperPlace : xMc mX3_paperPlace 1 := ⟨wG_t 429 (by decide +kernel) (by decide +kernel), wG_t 5 (by decide +kernel) (by decide +kernel), ⟨by decide +kernel, by decide +kernel, by decide +kernel⟩, by decide +kernel, rfl⟩
set_option maxRecDepth 20000 in
theorem mlX0_150 : xMV RX0 150 mX3_paperPlace 1 3 := ⟨mcX3_paperPlace, wG_t 426 (by decide +kernel) (by decide +kernel), wG_t 427 (by decide +kernel) (by decide +kernel), wG_t 428 (by decide +kernel) (by decide +kernel), rfl⟩
set_option maxRecDepth 20000 in
theorem mcX0_turnForUpright : xMc mX0_turnForUpright 2 := ⟨wG_t 439 (by decide +kernel) (by decide +kernel), wG_t 3 (by decide +kernel) (by decide +kernel), ⟨by decide +kernel, by decide +kernel, by decide +kernel⟩, by decide +kernel, rfl⟩
set_option maxRecDepth 20000 in
theorem mlX0_153 : xMV RX0 153 mX0_turnForUpright 2 0 := ⟨mcX0_turnForUpright, wG_t 436 (by decide +kernel) (by decide +kernel), wG_t 438 (by decide +kernel) (by decide +kernel), wG_p (n := 10) 5 (by decide +kernel) rfl, rfl⟩
set_option maxRecDepth 20000 in
theorem mcX5_stamp : xMc mX5_stamp 3 := ⟨wG_t 450 (by decide +kernel) (by decide +kernel), wG_t 4 (by decide +kernel) (by decide +kernel), ⟨by decide +kernel, by decide +kernel, by decide +kernel⟩, by decide +kernel, rfl⟩
set_option maxRecDepth 20000 in
theorem mlX0_143 : xMV RX0 143 mX5_stamp 3 5 := ⟨mcX5_stamp, wG_t 447 (by decide +kernel) (by decide +kernel), wG_t 448 (by decide +kernel) (by decide +kernel), wG_t 449 (by decide +kernel) (by decide +kernel), rfl⟩
set_option maxRecDepth 20000 in
theorem mcX3_isBooklet : xMc mX3_isBooklet 0 := ⟨wG_t 413 (by decide +kernel) (by decide +kernel), wG_t 5 (by decide +kernel) (by decide +kernel), ⟨by decide +kernel, by decide +kernel, by decide +kernel⟩, by decide +kernel, rfl⟩
set_option maxRecDepth 20000 in
theorem mlX0_157 : xMV RX0 157 mX3_isBooklet 0 3 := ⟨mcX3_isBooklet, wG_t 798 (by decide +kernel) (by decide +kernel), wG_t 411 (by decide +kernel) (by decide +kernel), wG_t 412 (by decide +kernel) (by decide +kernel), rfl⟩
set_option maxRecDepth 20000 in
theorem mcX9_isInSet : xMc mX9_isInSet 2 := ⟨wG_t 343 (by decide +kernel) (by decide +kernel), wG_t 1 (by decide +kernel) (by decide +kernel), ⟨by decide +kernel, by decide +kernel, by decide +kernel⟩, by decide +kernel, rfl⟩
set_option maxRecDepth 20000 in
theorem mlX0_160 : xMN RX0 160 mX9_isInSet 2 := ⟨mcX9_isInSet, ⟨"CribBooklet", List.mem_filter.mpr ⟨List.mem_of_getElem? (i := 781) (by decide +kernel), rfl⟩⟩, wG_t 342 (by decide +kernel) (by decide +kernel)⟩
set_option maxRecDepth 20000 in
theorem mcX3_pairsAlong : xMc mX3_pairsAlong 1 := ⟨wG_t 567 (by decide +kernel) (by decide +kernel), wG_t 5 (by decide +kernel) (by decide +kernel), ⟨by decide +kernel, by decide +kernel, by decide +kernel⟩, by decide +kernel, rfl⟩
set_option maxRecDepth 20000 in
theorem mlX0_164 : xMV RX0 164 mX3_pairsAlong 1 3 := ⟨mcX3_pairsAlong, wG_t 564 (by decide +kernel) (by decide +kernel), wG_t 565 (by decide +kernel) (by decide +kernel), wG_t 566 (by decide +kernel) (by decide +kernel), rfl⟩
set_option maxRecDepth 20000 in
theorem mcJ6_bitCount_0f7a4 : xMc mJ6_bitCount_0f7a4 1 := ⟨wG_t 500 (by decide +kernel) (by decide +kernel), wG_t 13 (by decide +kernel) (by decide +kernel), ⟨by decide +kernel, by decide +kernel, by decide +kernel⟩, by decide +kernel, rfl⟩
set_option maxRecDepth 20000 in
theorem mlX0_167 : xMS RX0 167 mJ6_bitCount_0f7a4 1 := ⟨mcJ6_bitCount_0f7a4, wG_t 826 (by decide +kernel) (by decide +kernel), wG_t 499 (by decide +kernel) (by decide +kernel)⟩
theorem cw_827 : Cond.methodLink RX0 172 Lib.Math.min.name ∈ wG := wG_t 827 (by decide +kernel) (by decide +kernel)
theorem cw_673 : Cond.static Lib.Math.min.name ∈ wG := wG_t 673 (by decide +kernel) (by decide +kernel)
theorem cw_14 : Cond.initialized "java/lang/Math" ∈ wG := wG_t 14 (by decide +kernel) (by decide +kernel)
theorem cw_674 : Cond.code Lib.Math.min.name Lib.Math.min.code 2 (some .int) ∈ wG := wG_t 674 (by decide +kernel) (by decide +kernel)
set_option maxRecDepth 20000 in
theorem mcX5_cells : xMc mX5_cells 0 := ⟨wG_t 463 (by decide +kernel) (by decide +kernel), wG_t 4 (by decide +kernel) (by decide +kernel), ⟨by decide +kernel, by decide +kernel, by decide +kernel⟩, by decide +kernel, rfl⟩
set_option maxRecDepth 20000 in
theorem mlX0_177 : xMV RX0 177 mX5_cells 0 5 := ⟨mcX5_cells, wG_t 460 (by decide +kernel) (by decide +kernel), wG_t 461 (by decide +kernel) (by decide +kernel), wG_t 462 (by decide +kernel) (by decide +kernel), rfl⟩
set_option maxRecDepth 20000 in
theorem mcX7_put : xMc mX7_put 3 := ⟨wG_t 467 (by decide +kernel) (by decide +kernel), wG_t 6 (by decide +kernel) (by decide +kernel), ⟨by decide +kernel, by decide +kernel, by decide +kernel⟩, by decide +kernel, rfl⟩
set_option maxRecDepth 20000 in
theorem mlX0_180 : xMV RX0 180 mX7_put 3 7 := ⟨mcX7_put, wG_t 464 (by decide +kernel) (by decide +kernel), wG_t 465 (by decide +kernel) (by decide +kernel), wG_t 466 (by decide +kernel) (by decide +kernel), rfl⟩
set_option maxRecDepth 20000 in
theorem mcX5_numberAt : xMc mX5_numberAt 1 := ⟨wG_t 535 (by decide +kernel) (by decide +kernel), wG_t 4 (by decide +kernel) (by decide +kernel), ⟨by decide +kernel, by decide +kernel, by decide +kernel⟩, by decide +kernel, rfl⟩
set_option maxRecDepth 20000 in
theorem mlX0_139 : xMV RX0 139 mX5_numberAt 1 5 := ⟨mcX5_numberAt, wG_t 532 (by decide +kernel) (by decide +kernel), wG_t 533 (by decide +kernel) (by decide +kernel), wG_t 534 (by decide +kernel) (by decide +kernel), rfl⟩
set_option maxRecDepth 20000 in
theorem mcX3_isUpsideDown : xMc mX3_isUpsideDown 1 := ⟨wG_t 443 (by decide +kernel) (by decide +kernel), wG_t 5 (by decide +kernel) (by decide +kernel), ⟨by decide +kernel, by decide +kernel, by decide +kernel⟩, by decide +kernel, rfl⟩
set_option maxRecDepth 20000 in
theorem mlX0_183 : xMV RX0 183 mX3_isUpsideDown 1 3 := ⟨mcX3_isUpsideDown, wG_t 440 (by decide +kernel) (by decide +kernel), wG_t 441 (by decide +kernel) (by decide +kernel), wG_t 442 (by decide +kernel) (by decide +kernel), rfl⟩
set_option maxRecDepth 20000 in
theorem mcX9_asNumber : xMc mX9_asNumber 1 := ⟨wG_t 446 (by decide +kernel) (by decide +kernel), wG_t 1 (by decide +kernel) (by decide +kernel), ⟨by decide +kernel, by decide +kernel, by decide +kernel⟩, by decide +kernel, rfl⟩
set_option maxRecDepth 20000 in
theorem mlX0_186 : xMN RX0 186 mX9_asNumber 1 := ⟨mcX9_asNumber, ⟨"CribBooklet", List.mem_filter.mpr ⟨List.mem_of_getElem? (i := 444) (by decide +kernel), rfl⟩⟩, wG_t 445 (by decide +kernel) (by decide +kernel)⟩
set_option maxRecDepth 20000 in
theorem mcX5_turnAt : xMc mX5_turnAt 1 := ⟨wG_t 543 (by decide +kernel) (by decide +kernel), wG_t 4 (by decide +kernel) (by decide +kernel), ⟨by decide +kernel, by decide +kernel, by decide +kernel⟩, by decide +kernel, rfl⟩
set_option maxRecDepth 20000 in
theorem mlX0_190 : xMV RX0 190 mX5_turnAt 1 5 := ⟨mcX5_turnAt, wG_t 540 (by decide +kernel) (by decide +kernel), wG_t 541 (by decide +kernel) (by decide +kernel), wG_t 542 (by decide +kernel) (by decide +kernel), rfl⟩
set_option maxRecDepth 20000 in
theorem mcX3_edgesBetween : xMc mX3_edgesBetween 2 := ⟨wG_t 657 (by decide +kernel) (by decide +kernel), wG_t 5 (by decide +kernel) (by decide +kernel), ⟨by decide +kernel, by decide +kernel, by decide +kernel⟩, by decide +kernel, rfl⟩
set_option maxRecDepth 20000 in
theorem mlX0_193 : xMV RX0 193 mX3_edgesBetween 2 3 := ⟨mcX3_edgesBetween, wG_t 654 (by decide +kernel) (by decide +kernel), wG_t 655 (by decide +kernel) (by decide +kernel), wG_t 656 (by decide +kernel) (by decide +kernel), rfl⟩
set_option maxRecDepth 20000 in
theorem mcX0_spineEdge : xMc mX0_spineEdge 0 := ⟨wG_t 563 (by decide +kernel) (by decide +kernel), wG_t 3 (by decide +kernel) (by decide +kernel), ⟨by decide +kernel, by decide +kernel, by decide +kernel⟩, by decide +kernel, rfl⟩
set_option maxRecDepth 20000 in
theorem mlX0_196 : xMV RX0 196 mX0_spineEdge 0 0 := ⟨mcX0_spineEdge, wG_t 560 (by decide +kernel) (by decide +kernel), wG_t 562 (by decide +kernel) (by decide +kernel), wG_p (n := 10) 7 (by decide +kernel) rfl, rfl⟩
set_option maxRecDepth 20000 in
theorem mcX0_shutEdges : xMc mX0_shutEdges 1 := ⟨wG_t 653 (by decide +kernel) (by decide +kernel), wG_t 3 (by decide +kernel) (by decide +kernel), ⟨by decide +kernel, by decide +kernel, by decide +kernel⟩, by decide +kernel, rfl⟩
set_option maxRecDepth 20000 in
theorem mlX0_199 : xMV RX0 199 mX0_shutEdges 1 0 := ⟨mcX0_shutEdges, wG_t 650 (by decide +kernel) (by decide +kernel), wG_t 651 (by decide +kernel) (by decide +kernel), wG_t 652 (by decide +kernel) (by decide +kernel), rfl⟩
set_option maxRecDepth 20000 in
theorem mcX0_isHidden : xMc mX0_isHidden 1 := ⟨wG_t 649 (by decide +kernel) (by decide +kernel), wG_t 3 (by decide +kernel) (by decide +kernel), ⟨by decide +kernel, by decide +kernel, by decide +kernel⟩, by decide +kernel, rfl⟩
set_option maxRecDepth 20000 in
theorem mlX0_202 : xMV RX0 202 mX0_isHidden 1 0 := ⟨mcX0_isHidden, wG_t 662 (by decide +kernel) (by decide +kernel), wG_t 647 (by decide +kernel) (by decide +kernel), wG_t 648 (by decide +kernel) (by decide +kernel), rfl⟩
set_option maxRecDepth 20000 in
theorem mcX0_numberOn : xMc mX0_numberOn 2 := ⟨wG_t 531 (by decide +kernel) (by decide +kernel), wG_t 3 (by decide +kernel) (by decide +kernel), ⟨by decide +kernel, by decide +kernel, by decide +kernel⟩, by decide +kernel, rfl⟩
set_option maxRecDepth 20000 in
theorem mlX0_205 : xMV RX0 205 mX0_numberOn 2 0 := ⟨mcX0_numberOn, wG_t 528 (by decide +kernel) (by decide +kernel), wG_t 529 (by decide +kernel) (by decide +kernel), wG_t 530 (by decide +kernel) (by decide +kernel), rfl⟩
set_option maxRecDepth 20000 in
theorem mcX0_isUpright : xMc mX0_isUpright 2 := ⟨wG_t 539 (by decide +kernel) (by decide +kernel), wG_t 3 (by decide +kernel) (by decide +kernel), ⟨by decide +kernel, by decide +kernel, by decide +kernel⟩, by decide +kernel, rfl⟩
set_option maxRecDepth 20000 in
theorem mlX0_208 : xMV RX0 208 mX0_isUpright 2 0 := ⟨mcX0_isUpright, wG_t 536 (by decide +kernel) (by decide +kernel), wG_t 537 (by decide +kernel) (by decide +kernel), wG_t 538 (by decide +kernel) (by decide +kernel), rfl⟩
set_option maxRecDepth 20000 in
theorem mcX0_pieceWith : xMc mX0_pieceWith 1 := ⟨wG_t 785 (by decide +kernel) (by decide +kernel), wG_t 3 (by decide +kernel) (by decide +kernel), ⟨by decide +kernel, by decide +kernel, by decide +kernel⟩, by decide +kernel, rfl⟩
set_option maxRecDepth 20000 in
theorem mlX0_212 : xMV RX0 212 mX0_pieceWith 1 0 := ⟨mcX0_pieceWith, wG_t 782 (by decide +kernel) (by decide +kernel), wG_t 784 (by decide +kernel) (by decide +kernel), wG_p (n := 10) 16 (by decide +kernel) rfl, rfl⟩
set_option maxRecDepth 20000 in
theorem mcX0_heldWith : xMc mX0_heldWith 1 := ⟨wG_t 789 (by decide +kernel) (by decide +kernel), wG_t 3 (by decide +kernel) (by decide +kernel), ⟨by decide +kernel, by decide +kernel, by decide +kernel⟩, by decide +kernel, rfl⟩
set_option maxRecDepth 20000 in
theorem mlX0_215 : xMV RX0 215 mX0_heldWith 1 0 := ⟨mcX0_heldWith, wG_t 786 (by decide +kernel) (by decide +kernel), wG_t 788 (by decide +kernel) (by decide +kernel), wG_p (n := 10) 17 (by decide +kernel) rfl, rfl⟩
set_option maxRecDepth 20000 in
theorem flX0_218 : xGF RX0 218 7 3 := ⟨by decide, wG_t 108 (by decide +kernel) (by decide +kernel)⟩
set_option maxRecDepth 20000 in
theorem flX0_221 : xGN RX0 221 7 0 := ⟨by decide, "CribBooklet", List.mem_filter.mpr ⟨List.mem_of_getElem? (i := 102) (by decide +kernel), rfl⟩⟩
set_option maxRecDepth 20000 in
theorem flX0_224 : xGN RX0 224 7 2 := ⟨by decide, "CribBooklet", List.mem_filter.mpr ⟨List.mem_of_getElem? (i := 106) (by decide +kernel), rfl⟩⟩
set_option maxRecDepth 20000 in
theorem flX0_227 : xGN RX0 227 7 1 := ⟨by decide, "CribBooklet", List.mem_filter.mpr ⟨List.mem_of_getElem? (i := 104) (by decide +kernel), rfl⟩⟩
set_option maxRecDepth 20000 in
theorem flX1_18 : xGF RX1 18 1 1 := ⟨by decide, wG_t 215 (by decide +kernel) (by decide +kernel)⟩
set_option maxRecDepth 20000 in
theorem mlX1_22 : xMN RX1 22 mX9_isIn 3 := ⟨mcX9_isIn, ⟨"CribBooklet", List.mem_filter.mpr ⟨List.mem_of_getElem? (i := 307) (by decide +kernel), rfl⟩⟩, wG_t 308 (by decide +kernel) (by decide +kernel)⟩
set_option maxRecDepth 20000 in
theorem flX1_12 : xGF RX1 12 1 0 := ⟨by decide, wG_t 214 (by decide +kernel) (by decide +kernel)⟩
set_option maxRecDepth 20000 in
theorem mcX8_copyFrom : xMc mX8_copyFrom 1 := ⟨wG_t 313 (by decide +kernel) (by decide +kernel), wG_t 2 (by decide +kernel) (by decide +kernel), ⟨by decide +kernel, by decide +kernel, by decide +kernel⟩, by decide +kernel, rfl⟩
set_option maxRecDepth 20000 in
theorem mlX1_26 : xMV RX1 26 mX8_copyFrom 1 8 := ⟨mcX8_copyFrom, wG_t 310 (by decide +kernel) (by decide +kernel), wG_t 311 (by decide +kernel) (by decide +kernel), wG_t 312 (by decide +kernel) (by decide +kernel), rfl⟩
set_option maxRecDepth 20000 in
theorem mcX9_isError : xMc mX9_isError 1 := ⟨wG_t 361 (by decide +kernel) (by decide +kernel), wG_t 1 (by decide +kernel) (by decide +kernel), ⟨by decide +kernel, by decide +kernel, by decide +kernel⟩, by decide +kernel, rfl⟩
set_option maxRecDepth 20000 in
theorem mlX1_30 : xMN RX1 30 mX9_isError 1 := ⟨mcX9_isError, ⟨"CribBooklet", List.mem_filter.mpr ⟨List.mem_of_getElem? (i := 359) (by decide +kernel), rfl⟩⟩, wG_t 360 (by decide +kernel) (by decide +kernel)⟩
set_option maxRecDepth 20000 in
theorem mcX1_dropOldest : xMc mX1_dropOldest 0 := ⟨wG_t 366 (by decide +kernel) (by decide +kernel), wG_t 9 (by decide +kernel) (by decide +kernel), ⟨by decide +kernel, by decide +kernel, by decide +kernel⟩, by decide +kernel, rfl⟩
set_option maxRecDepth 20000 in
theorem mlX1_34 : xMV RX1 34 mX1_dropOldest 0 1 := ⟨mcX1_dropOldest, wG_t 363 (by decide +kernel) (by decide +kernel), wG_t 365 (by decide +kernel) (by decide +kernel), wG_p (n := 2) 0 (by decide +kernel) rfl, rfl⟩
set_option maxRecDepth 20000 in
theorem mcX1_bringBack : xMc mX1_bringBack 1 := ⟨wG_t 847 (by decide +kernel) (by decide +kernel), wG_t 9 (by decide +kernel) (by decide +kernel), ⟨by decide +kernel, by decide +kernel, by decide +kernel⟩, by decide +kernel, rfl⟩
set_option maxRecDepth 20000 in
theorem mlX1_37 : xMV RX1 37 mX1_bringBack 1 1 := ⟨mcX1_bringBack, wG_t 844 (by decide +kernel) (by decide +kernel), wG_t 845 (by decide +kernel) (by decide +kernel), wG_t 846 (by decide +kernel) (by decide +kernel), rfl⟩
set_option maxRecDepth 20000 in
theorem flX2_34 : xGF RX2 34 0 9 := ⟨by decide, wG_t 169 (by decide +kernel) (by decide +kernel)⟩
set_option maxRecDepth 20000 in
theorem flX2_31 : xGF RX2 31 2 6 := ⟨by decide, wG_t 236 (by decide +kernel) (by decide +kernel)⟩
set_option maxRecDepth 20000 in
theorem mcX2_countLines : xMc mX2_countLines 1 := ⟨wG_t 670 (by decide +kernel) (by decide +kernel), wG_t 10 (by decide +kernel) (by decide +kernel), ⟨by decide +kernel, by decide +kernel, by decide +kernel⟩, by decide +kernel, rfl⟩
set_option maxRecDepth 20000 in
theorem mlX2_37 : xMV RX2 37 mX2_countLines 1 2 := ⟨mcX2_countLines, wG_t 667 (by decide +kernel) (by decide +kernel), wG_t 669 (by decide +kernel) (by decide +kernel), wG_p (n := 7) 9 (by decide +kernel) rfl, rfl⟩
set_option maxRecDepth 20000 in
theorem mcX2_listPages : xMc mX2_listPages 1 := ⟨wG_t 682 (by decide +kernel) (by decide +kernel), wG_t 10 (by decide +kernel) (by decide +kernel), ⟨by decide +kernel, by decide +kernel, by decide +kernel⟩, by decide +kernel, rfl⟩
set_option maxRecDepth 20000 in
theorem mlX2_41 : xMV RX2 41 mX2_listPages 1 2 := ⟨mcX2_listPages, wG_t 679 (by decide +kernel) (by decide +kernel), wG_t 681 (by decide +kernel) (by decide +kernel), wG_p (n := 7) 10 (by decide +kernel) rfl, rfl⟩
set_option maxRecDepth 20000 in
theorem flX2_44 : xGF RX2 44 0 3 := ⟨by decide, wG_t 157 (by decide +kernel) (by decide +kernel)⟩
set_option maxRecDepth 20000 in
theorem mcX2_sort : xMc mX2_sort 1 := ⟨wG_t 692 (by decide +kernel) (by decide +kernel), wG_t 10 (by decide +kernel) (by decide +kernel), ⟨by decide +kernel, by decide +kernel, by decide +kernel⟩, by decide +kernel, rfl⟩
set_option maxRecDepth 20000 in
theorem mlX2_48 : xMV RX2 48 mX2_sort 1 2 := ⟨mcX2_sort, wG_t 689 (by decide +kernel) (by decide +kernel), wG_t 691 (by decide +kernel) (by decide +kernel), wG_p (n := 7) 12 (by decide +kernel) rfl, rfl⟩
set_option maxRecDepth 20000 in
theorem flX2_52 : xGF RX2 52 4 1 := ⟨by decide, wG_t 127 (by decide +kernel) (by decide +kernel)⟩
set_option maxRecDepth 20000 in
theorem flX2_9 : xGF RX2 9 2 0 := ⟨by decide, wG_t 230 (by decide +kernel) (by decide +kernel)⟩
set_option maxRecDepth 20000 in
theorem mcX4_linesOf : xMc mX4_linesOf 1 := ⟨wG_t 709 (by decide +kernel) (by decide +kernel), wG_t 7 (by decide +kernel) (by decide +kernel), ⟨by decide +kernel, by decide +kernel, by decide +kernel⟩, by decide +kernel, rfl⟩
set_option maxRecDepth 20000 in
theorem mlX2_57 : xMV RX2 57 mX4_linesOf 1 4 := ⟨mcX4_linesOf, wG_t 706 (by decide +kernel) (by decide +kernel), wG_t 707 (by decide +kernel) (by decide +kernel), wG_t 708 (by decide +kernel) (by decide +kernel), rfl⟩
set_option maxRecDepth 20000 in
theorem mcX4_isWhole : xMc mX4_isWhole 1 := ⟨wG_t 713 (by decide +kernel) (by decide +kernel), wG_t 7 (by decide +kernel) (by decide +kernel), ⟨by decide +kernel, by decide +kernel, by decide +kernel⟩, by decide +kernel, rfl⟩
set_option maxRecDepth 20000 in
theorem mlX2_61 : xMV RX2 61 mX4_isWhole 1 4 := ⟨mcX4_isWhole, wG_t 710 (by decide +kernel) (by decide +kernel), wG_t 711 (by decide +kernel) (by decide +kernel), wG_t 712 (by decide +kernel) (by decide +kernel), rfl⟩
set_option maxRecDepth 20000 in
theorem mcX2_roomForWhole : xMc mX2_roomForWhole 2 := ⟨wG_t 717 (by decide +kernel) (by decide +kernel), wG_t 10 (by decide +kernel) (by decide +kernel), ⟨by decide +kernel, by decide +kernel, by decide +kernel⟩, by decide +kernel, rfl⟩
set_option maxRecDepth 20000 in
theorem mlX2_65 : xMV RX2 65 mX2_roomForWhole 2 2 := ⟨mcX2_roomForWhole, wG_t 714 (by decide +kernel) (by decide +kernel), wG_t 716 (by decide +kernel) (by decide +kernel), wG_p (n := 7) 13 (by decide +kernel) rfl, rfl⟩
set_option maxRecDepth 20000 in
theorem mcX2_keepFirstLine : xMc mX2_keepFirstLine 2 := ⟨wG_t 728 (by decide +kernel) (by decide +kernel), wG_t 10 (by decide +kernel) (by decide +kernel), ⟨by decide +kernel, by decide +kernel, by decide +kernel⟩, by decide +kernel, rfl⟩
set_option maxRecDepth 20000 in
theorem mlX2_72 : xMV RX2 72 mX2_keepFirstLine 2 2 := ⟨mcX2_keepFirstLine, wG_t 725 (by decide +kernel) (by decide +kernel), wG_t 727 (by decide +kernel) (by decide +kernel), wG_p (n := 7) 15 (by decide +kernel) rfl, rfl⟩
set_option maxRecDepth 20000 in
theorem mcX2_roomFor : xMc mX2_roomFor 2 := ⟨wG_t 724 (by decide +kernel) (by decide +kernel), wG_t 10 (by decide +kernel) (by decide +kernel), ⟨by decide +kernel, by decide +kernel, by decide +kernel⟩, by decide +kernel, rfl⟩
set_option maxRecDepth 20000 in
theorem mlX2_69 : xMV RX2 69 mX2_roomFor 2 2 := ⟨mcX2_roomFor, wG_t 721 (by decide +kernel) (by decide +kernel), wG_t 723 (by decide +kernel) (by decide +kernel), wG_p (n := 7) 14 (by decide +kernel) rfl, rfl⟩
set_option maxRecDepth 20000 in
theorem flX2_76 : xGF RX2 76 0 1 := ⟨by decide, wG_t 151 (by decide +kernel) (by decide +kernel)⟩
set_option maxRecDepth 20000 in
theorem mlX2_80 : xMV RX2 80 mX3_depth 0 3 := ⟨mcX3_depth, wG_t 671 (by decide +kernel) (by decide +kernel), wG_t 403 (by decide +kernel) (by decide +kernel), wG_t 404 (by decide +kernel) (by decide +kernel), rfl⟩
theorem cw_672 : Cond.methodLink RX2 86 Lib.Math.min.name ∈ wG := wG_t 672 (by decide +kernel) (by decide +kernel)
set_option maxRecDepth 20000 in
theorem flX2_28 : xGF RX2 28 2 5 := ⟨by decide, wG_t 235 (by decide +kernel) (by decide +kernel)⟩
set_option maxRecDepth 20000 in
theorem flX2_25 : xGF RX2 25 2 4 := ⟨by decide, wG_t 234 (by decide +kernel) (by decide +kernel)⟩
set_option maxRecDepth 20000 in
theorem mcX0_linesAt : xMc mX0_linesAt 1 := ⟨wG_t 678 (by decide +kernel) (by decide +kernel), wG_t 3 (by decide +kernel) (by decide +kernel), ⟨by decide +kernel, by decide +kernel, by decide +kernel⟩, by decide +kernel, rfl⟩
set_option maxRecDepth 20000 in
theorem mlX2_91 : xMV RX2 91 mX0_linesAt 1 0 := ⟨mcX0_linesAt, wG_t 675 (by decide +kernel) (by decide +kernel), wG_t 676 (by decide +kernel) (by decide +kernel), wG_t 677 (by decide +kernel) (by decide +kernel), rfl⟩
set_option maxRecDepth 20000 in
theorem flX2_21 : xGF RX2 21 2 3 := ⟨by decide, wG_t 233 (by decide +kernel) (by decide +kernel)⟩
set_option maxRecDepth 20000 in
theorem mlX2_94 : xMV RX2 94 mX3_lastPage 0 3 := ⟨mcX3_lastPage, wG_t 683 (by decide +kernel) (by decide +kernel), wG_t 423 (by decide +kernel) (by decide +kernel), wG_t 424 (by decide +kernel) (by decide +kernel), rfl⟩
set_option maxRecDepth 20000 in
theorem mcX2_linesOf : xMc mX2_linesOf 1 := ⟨wG_t 687 (by decide +kernel) (by decide +kernel), wG_t 10 (by decide +kernel) (by decide +kernel), ⟨by decide +kernel, by decide +kernel, by decide +kernel⟩, by decide +kernel, rfl⟩
set_option maxRecDepth 20000 in
theorem mlX2_97 : xMV RX2 97 mX2_linesOf 1 2 := ⟨mcX2_linesOf, wG_t 684 (by decide +kernel) (by decide +kernel), wG_t 686 (by decide +kernel) (by decide +kernel), wG_p (n := 7) 11 (by decide +kernel) rfl, rfl⟩
set_option maxRecDepth 20000 in
theorem flX2_18 : xGF RX2 18 2 2 := ⟨by decide, wG_t 232 (by decide +kernel) (by decide +kernel)⟩
set_option maxRecDepth 20000 in
theorem mcX4_comesBefore : xMc mX4_comesBefore 2 := ⟨wG_t 696 (by decide +kernel) (by decide +kernel), wG_t 7 (by decide +kernel) (by decide +kernel), ⟨by decide +kernel, by decide +kernel, by decide +kernel⟩, by decide +kernel, rfl⟩
set_option maxRecDepth 20000 in
theorem mlX2_98 : xMV RX2 98 mX4_comesBefore 2 4 := ⟨mcX4_comesBefore, wG_t 693 (by decide +kernel) (by decide +kernel), wG_t 694 (by decide +kernel) (by decide +kernel), wG_t 695 (by decide +kernel) (by decide +kernel), rfl⟩
set_option maxRecDepth 20000 in
theorem mlX2_102 : xMN RX2 102 mX9_isIn 3 := ⟨mcX9_isIn, ⟨"CribBooklet", List.mem_filter.mpr ⟨List.mem_of_getElem? (i := 688) (by decide +kernel), rfl⟩⟩, wG_t 308 (by decide +kernel) (by decide +kernel)⟩
set_option maxRecDepth 20000 in
theorem flX2_15 : xGF RX2 15 2 1 := ⟨by decide, wG_t 231 (by decide +kernel) (by decide +kernel)⟩
theorem cw_718 : Cond.methodLink RX2 106 Lib.Math.max.name ∈ wG := wG_t 718 (by decide +kernel) (by decide +kernel)
theorem cw_719 : Cond.static Lib.Math.max.name ∈ wG := wG_t 719 (by decide +kernel) (by decide +kernel)
theorem cw_720 : Cond.code Lib.Math.max.name Lib.Math.max.code 2 (some .int) ∈ wG := wG_t 720 (by decide +kernel) (by decide +kernel)
set_option maxRecDepth 20000 in
theorem mcX2_pageOfLine : xMc mX2_pageOfLine 1 := ⟨wG_t 736 (by decide +kernel) (by decide +kernel), wG_t 10 (by decide +kernel) (by decide +kernel), ⟨by decide +kernel, by decide +kernel, by decide +kernel⟩, by decide +kernel, rfl⟩
set_option maxRecDepth 20000 in
theorem mlX2_112 : xMV RX2 112 mX2_pageOfLine 1 2 := ⟨mcX2_pageOfLine, wG_t 733 (by decide +kernel) (by decide +kernel), wG_t 734 (by decide +kernel) (by decide +kernel), wG_t 735 (by decide +kernel) (by decide +kernel), rfl⟩
set_option maxRecDepth 20000 in
theorem mlX2_115 : xMN RX2 115 mX9_asNumber 1 := ⟨mcX9_asNumber, ⟨"CribBooklet", List.mem_filter.mpr ⟨List.mem_of_getElem? (i := 737) (by decide +kernel), rfl⟩⟩, wG_t 445 (by decide +kernel) (by decide +kernel)⟩
set_option maxRecDepth 20000 in
theorem flX3_9 : xGF RX3 9 3 0 := ⟨by decide, wG_t 65 (by decide +kernel) (by decide +kernel)⟩
set_option maxRecDepth 20000 in
theorem flX3_15 : xGF RX3 15 3 1 := ⟨by decide, wG_t 66 (by decide +kernel) (by decide +kernel)⟩
set_option maxRecDepth 20000 in
theorem flX3_18 : xGF RX3 18 3 2 := ⟨by decide, wG_t 67 (by decide +kernel) (by decide +kernel)⟩
set_option maxRecDepth 20000 in
theorem flX3_21 : xGF RX3 21 3 3 := ⟨by decide, wG_t 68 (by decide +kernel) (by decide +kernel)⟩
set_option maxRecDepth 20000 in
theorem flX3_24 : xGF RX3 24 3 4 := ⟨by decide, wG_t 69 (by decide +kernel) (by decide +kernel)⟩
set_option maxRecDepth 20000 in
theorem flX3_27 : xGF RX3 27 3 5 := ⟨by decide, wG_t 72 (by decide +kernel) (by decide +kernel)⟩
set_option maxRecDepth 20000 in
theorem flX3_30 : xGF RX3 30 3 6 := ⟨by decide, wG_t 76 (by decide +kernel) (by decide +kernel)⟩
theorem cw_329 : ((Jvm.Cond.methodLink "CribBooklet$Leaves" (37 : Nat) ({ cls := "java/lang/System", name := "arraycopy", desc := "(Ljava/lang/Object;ILjava/lang/Object;II)V" } : Jvm.MethodName)) : Cond) ∈ wG := wG_t 329 (by decide +kernel) (by decide +kernel)
set_option maxRecDepth 20000 in
theorem mcX9_cellAt : xMc mX9_cellAt 2 := ⟨wG_t 147 (by decide +kernel) (by decide +kernel), wG_t 1 (by decide +kernel) (by decide +kernel), ⟨by decide +kernel, by decide +kernel, by decide +kernel⟩, by decide +kernel, rfl⟩
set_option maxRecDepth 20000 in
theorem mlX3_43 : xMN RX3 43 mX9_cellAt 2 := ⟨mcX9_cellAt, ⟨"CribBooklet", List.mem_filter.mpr ⟨List.mem_of_getElem? (i := 145) (by decide +kernel), rfl⟩⟩, wG_t 146 (by decide +kernel) (by decide +kernel)⟩
set_option maxRecDepth 20000 in
theorem mlX3_47 : xMV RX3 47 mX3_depth 0 3 := ⟨mcX3_depth, wG_t 402 (by decide +kernel) (by decide +kernel), wG_t 403 (by decide +kernel) (by decide +kernel), wG_t 404 (by decide +kernel) (by decide +kernel), rfl⟩
set_option maxRecDepth 20000 in
theorem mcX3_pile : xMc mX3_pile 4 := ⟨wG_t 401 (by decide +kernel) (by decide +kernel), wG_t 5 (by decide +kernel) (by decide +kernel), ⟨by decide +kernel, by decide +kernel, by decide +kernel⟩, by decide +kernel, rfl⟩
set_option maxRecDepth 20000 in
theorem mlX3_51 : xMV RX3 51 mX3_pile 4 3 := ⟨mcX3_pile, wG_t 398 (by decide +kernel) (by decide +kernel), wG_t 400 (by decide +kernel) (by decide +kernel), wG_p (n := 8) 1 (by decide +kernel) rfl, rfl⟩
set_option maxRecDepth 20000 in
theorem flX3_34 : xGF RX3 34 3 7 := ⟨by decide, wG_t 77 (by decide +kernel) (by decide +kernel)⟩
set_option maxRecDepth 20000 in
theorem mcX3_at : xMc mX3_at 1 := ⟨wG_t 409 (by decide +kernel) (by decide +kernel), wG_t 5 (by decide +kernel) (by decide +kernel), ⟨by decide +kernel, by decide +kernel, by decide +kernel⟩, by decide +kernel, rfl⟩
set_option maxRecDepth 20000 in
theorem mlX3_55 : xMV RX3 55 mX3_at 1 3 := ⟨mcX3_at, wG_t 406 (by decide +kernel) (by decide +kernel), wG_t 408 (by decide +kernel) (by decide +kernel), wG_p (n := 8) 2 (by decide +kernel) rfl, rfl⟩
set_option maxRecDepth 20000 in
theorem mlX3_59 : xMV RX3 59 mX3_spread 2 3 := ⟨mcX3_spread, wG_t 388 (by decide +kernel) (by decide +kernel), wG_t 142 (by decide +kernel) (by decide +kernel), wG_t 143 (by decide +kernel) (by decide +kernel), rfl⟩
set_option maxRecDepth 20000 in
theorem mlX3_63 : xMN RX3 63 mX9_isIn 3 := ⟨mcX9_isIn, ⟨"CribBooklet", List.mem_filter.mpr ⟨List.mem_of_getElem? (i := 389) (by decide +kernel), rfl⟩⟩, wG_t 308 (by decide +kernel) (by decide +kernel)⟩
set_option maxRecDepth 20000 in
theorem mlX3_67 : xMV RX3 67 mX3_canFold 1 3 := ⟨mcX3_canFold, wG_t 390 (by decide +kernel) (by decide +kernel), wG_t 391 (by decide +kernel) (by decide +kernel), wG_t 392 (by decide +kernel) (by decide +kernel), rfl⟩
set_option maxRecDepth 20000 in
theorem mlX3_71 : xMV RX3 71 mX3_lay 1 3 := ⟨mcX3_lay, wG_t 394 (by decide +kernel) (by decide +kernel), wG_t 395 (by decide +kernel) (by decide +kernel), wG_t 396 (by decide +kernel) (by decide +kernel), rfl⟩
set_option maxRecDepth 20000 in
theorem mlX3_75 : xMV RX3 75 mX3_isBooklet 0 3 := ⟨mcX3_isBooklet, wG_t 410 (by decide +kernel) (by decide +kernel), wG_t 411 (by decide +kernel) (by decide +kernel), wG_t 412 (by decide +kernel) (by decide +kernel), rfl⟩
set_option maxRecDepth 20000 in
theorem mcX3_rowOf : xMc mX3_rowOf 1 := ⟨wG_t 584 (by decide +kernel) (by decide +kernel), wG_t 5 (by decide +kernel) (by decide +kernel), ⟨by decide +kernel, by decide +kernel, by decide +kernel⟩, by decide +kernel, rfl⟩
set_option maxRecDepth 20000 in
theorem mlX3_79 : xMS RX3 79 mX3_rowOf 1 := ⟨mcX3_rowOf, wG_t 582 (by decide +kernel) (by decide +kernel), wG_t 583 (by decide +kernel) (by decide +kernel)⟩
set_option maxRecDepth 20000 in
theorem mcX3_columnOf : xMc mX3_columnOf 1 := ⟨wG_t 574 (by decide +kernel) (by decide +kernel), wG_t 5 (by decide +kernel) (by decide +kernel), ⟨by decide +kernel, by decide +kernel, by decide +kernel⟩, by decide +kernel, rfl⟩
set_option maxRecDepth 20000 in
theorem mlX3_82 : xMS RX3 82 mX3_columnOf 1 := ⟨mcX3_columnOf, wG_t 572 (by decide +kernel) (by decide +kernel), wG_t 573 (by decide +kernel) (by decide +kernel)⟩
set_option maxRecDepth 20000 in
theorem mcX3_sideUp : xMc mX3_sideUp 1 := ⟨wG_t 432 (by decide +kernel) (by decide +kernel), wG_t 5 (by decide +kernel) (by decide +kernel), ⟨by decide +kernel, by decide +kernel, by decide +kernel⟩, by decide +kernel, rfl⟩
set_option maxRecDepth 20000 in
theorem mlX3_85 : xMS RX3 85 mX3_sideUp 1 := ⟨mcX3_sideUp, wG_t 430 (by decide +kernel) (by decide +kernel), wG_t 431 (by decide +kernel) (by decide +kernel)⟩
set_option maxRecDepth 20000 in
theorem mcX3_sideUpAt : xMc mX3_sideUpAt 1 := ⟨wG_t 640 (by decide +kernel) (by decide +kernel), wG_t 5 (by decide +kernel) (by decide +kernel), ⟨by decide +kernel, by decide +kernel, by decide +kernel⟩, by decide +kernel, rfl⟩
set_option maxRecDepth 20000 in
theorem mlX3_88 : xMV RX3 88 mX3_sideUpAt 1 3 := ⟨mcX3_sideUpAt, wG_t 637 (by decide +kernel) (by decide +kernel), wG_t 638 (by decide +kernel) (by decide +kernel), wG_t 639 (by decide +kernel) (by decide +kernel), rfl⟩
set_option maxRecDepth 20000 in
theorem mcX9_placeOfSide : xMc mX9_placeOfSide 2 := ⟨wG_t 435 (by decide +kernel) (by decide +kernel), wG_t 1 (by decide +kernel) (by decide +kernel), ⟨by decide +kernel, by decide +kernel, by decide +kernel⟩, by decide +kernel, rfl⟩
set_option maxRecDepth 20000 in
theorem mlX3_91 : xMN RX3 91 mX9_placeOfSide 2 := ⟨mcX9_placeOfSide, ⟨"CribBooklet", List.mem_filter.mpr ⟨List.mem_of_getElem? (i := 433) (by decide +kernel), rfl⟩⟩, wG_t 434 (by decide +kernel) (by decide +kernel)⟩
set_option maxRecDepth 20000 in
theorem mcX3_edgeToRight : xMc mX3_edgeToRight 1 := ⟨wG_t 577 (by decide +kernel) (by decide +kernel), wG_t 5 (by decide +kernel) (by decide +kernel), ⟨by decide +kernel, by decide +kernel, by decide +kernel⟩, by decide +kernel, rfl⟩
set_option maxRecDepth 20000 in
theorem mlX3_94 : xMS RX3 94 mX3_edgeToRight 1 := ⟨mcX3_edgeToRight, wG_t 575 (by decide +kernel) (by decide +kernel), wG_t 576 (by decide +kernel) (by decide +kernel)⟩
set_option maxRecDepth 20000 in
theorem mcX3_edgeBelow : xMc mX3_edgeBelow 1 := ⟨wG_t 587 (by decide +kernel) (by decide +kernel), wG_t 5 (by decide +kernel) (by decide +kernel), ⟨by decide +kernel, by decide +kernel, by decide +kernel⟩, by decide +kernel, rfl⟩
set_option maxRecDepth 20000 in
theorem mlX3_97 : xMS RX3 97 mX3_edgeBelow 1 := ⟨mcX3_edgeBelow, wG_t 585 (by decide +kernel) (by decide +kernel), wG_t 586 (by decide +kernel) (by decide +kernel)⟩
set_option maxRecDepth 20000 in
theorem mcX3_columnAt : xMc mX3_columnAt 1 := ⟨wG_t 571 (by decide +kernel) (by decide +kernel), wG_t 5 (by decide +kernel) (by decide +kernel), ⟨by decide +kernel, by decide +kernel, by decide +kernel⟩, by decide +kernel, rfl⟩
set_option maxRecDepth 20000 in
theorem mlX3_100 : xMV RX3 100 mX3_columnAt 1 3 := ⟨mcX3_columnAt, wG_t 568 (by decide +kernel) (by decide +kernel), wG_t 569 (by decide +kernel) (by decide +kernel), wG_t 570 (by decide +kernel) (by decide +kernel), rfl⟩
set_option maxRecDepth 20000 in
theorem mcX3_rowAt : xMc mX3_rowAt 1 := ⟨wG_t 581 (by decide +kernel) (by decide +kernel), wG_t 5 (by decide +kernel) (by decide +kernel), ⟨by decide +kernel, by decide +kernel, by decide +kernel⟩, by decide +kernel, rfl⟩
set_option maxRecDepth 20000 in
theorem mlX3_103 : xMV RX3 103 mX3_rowAt 1 3 := ⟨mcX3_rowAt, wG_t 578 (by decide +kernel) (by decide +kernel), wG_t 579 (by decide +kernel) (by decide +kernel), wG_t 580 (by decide +kernel) (by decide +kernel), rfl⟩
set_option maxRecDepth 20000 in
theorem flX4_15 : xGF RX4 15 4 1 := ⟨by decide, wG_t 126 (by decide +kernel) (by decide +kernel)⟩
set_option maxRecDepth 20000 in
theorem flX4_11 : xGF RX4 11 4 0 := ⟨by decide, wG_t 125 (by decide +kernel) (by decide +kernel)⟩
theorem cw_339 : ((Jvm.Cond.methodLink "CribBooklet$Notes" (19 : Nat) ({ cls := "java/lang/System", name := "arraycopy", desc := "(Ljava/lang/Object;ILjava/lang/Object;II)V" } : Jvm.MethodName)) : Cond) ∈ wG := wG_t 339 (by decide +kernel) (by decide +kernel)
set_option maxRecDepth 20000 in
theorem mlX4_25 : xMN RX4 25 mX9_isIn 3 := ⟨mcX9_isIn, ⟨"CribBooklet", List.mem_filter.mpr ⟨List.mem_of_getElem? (i := 701) (by decide +kernel), rfl⟩⟩, wG_t 308 (by decide +kernel) (by decide +kernel)⟩
set_option maxRecDepth 20000 in
theorem mcX4_get : xMc mX4_get 2 := ⟨wG_t 700 (by decide +kernel) (by decide +kernel), wG_t 7 (by decide +kernel) (by decide +kernel), ⟨by decide +kernel, by decide +kernel, by decide +kernel⟩, by decide +kernel, rfl⟩
set_option maxRecDepth 20000 in
theorem mlX4_33 : xMV RX4 33 mX4_get 2 4 := ⟨mcX4_get, wG_t 697 (by decide +kernel) (by decide +kernel), wG_t 698 (by decide +kernel) (by decide +kernel), wG_t 699 (by decide +kernel) (by decide +kernel), rfl⟩
set_option maxRecDepth 20000 in
theorem mcX4_subjectOf : xMc mX4_subjectOf 1 := ⟨wG_t 705 (by decide +kernel) (by decide +kernel), wG_t 7 (by decide +kernel) (by decide +kernel), ⟨by decide +kernel, by decide +kernel, by decide +kernel⟩, by decide +kernel, rfl⟩
set_option maxRecDepth 20000 in
theorem mlX4_37 : xMV RX4 37 mX4_subjectOf 1 4 := ⟨mcX4_subjectOf, wG_t 702 (by decide +kernel) (by decide +kernel), wG_t 703 (by decide +kernel) (by decide +kernel), wG_t 704 (by decide +kernel) (by decide +kernel), rfl⟩
set_option maxRecDepth 20000 in
theorem flX5_9 : xGF RX5 9 5 0 := ⟨by decide, wG_t 41 (by decide +kernel) (by decide +kernel)⟩
set_option maxRecDepth 20000 in
theorem flX5_15 : xGF RX5 15 5 1 := ⟨by decide, wG_t 44 (by decide +kernel) (by decide +kernel)⟩
set_option maxRecDepth 20000 in
theorem flX5_18 : xGF RX5 18 5 2 := ⟨by decide, wG_t 47 (by decide +kernel) (by decide +kernel)⟩
theorem cw_322 : ((Jvm.Cond.methodLink "CribBooklet$Paper" (25 : Nat) ({ cls := "java/lang/System", name := "arraycopy", desc := "(Ljava/lang/Object;ILjava/lang/Object;II)V" } : Jvm.MethodName)) : Cond) ∈ wG := wG_t 322 (by decide +kernel) (by decide +kernel)
set_option maxRecDepth 20000 in
theorem flX5_22 : xGF RX5 22 5 3 := ⟨by decide, wG_t 48 (by decide +kernel) (by decide +kernel)⟩
set_option maxRecDepth 20000 in
theorem mcJ7_fill_53178 : xMc mJ7_fill_53178 2 := ⟨wG_t 140 (by decide +kernel) (by decide +kernel), wG_t 8 (by decide +kernel) (by decide +kernel), ⟨by decide +kernel, by decide +kernel, by decide +kernel⟩, by decide +kernel, rfl⟩
set_option maxRecDepth 20000 in
theorem mlX5_31 : xMS RX5 31 mJ7_fill_53178 2 := ⟨mcJ7_fill_53178, wG_t 138 (by decide +kernel) (by decide +kernel), wG_t 139 (by decide +kernel) (by decide +kernel)⟩
set_option maxRecDepth 20000 in
theorem mlX5_37 : xMN RX5 37 mX9_isIn 3 := ⟨mcX9_isIn, ⟨"CribBooklet", List.mem_filter.mpr ⟨List.mem_of_getElem? (i := 451) (by decide +kernel), rfl⟩⟩, wG_t 308 (by decide +kernel) (by decide +kernel)⟩
set_option maxRecDepth 20000 in
theorem flX7_21 : xGF RX7 21 7 3 := ⟨by decide, wG_t 107 (by decide +kernel) (by decide +kernel)⟩
set_option maxRecDepth 20000 in
theorem flX7_9 : xGF RX7 9 7 0 := ⟨by decide, wG_t 101 (by decide +kernel) (by decide +kernel)⟩
theorem cw_334 : ((Jvm.Cond.methodLink "CribBooklet$Sights" (25 : Nat) ({ cls := "java/lang/System", name := "arraycopy", desc := "(Ljava/lang/Object;ILjava/lang/Object;II)V" } : Jvm.MethodName)) : Cond) ∈ wG := wG_t 334 (by decide +kernel) (by decide +kernel)
set_option maxRecDepth 20000 in
theorem flX7_15 : xGF RX7 15 7 1 := ⟨by decide, wG_t 103 (by decide +kernel) (by decide +kernel)⟩
set_option maxRecDepth 20000 in
theorem flX7_18 : xGF RX7 18 7 2 := ⟨by decide, wG_t 105 (by decide +kernel) (by decide +kernel)⟩
set_option maxRecDepth 20000 in
theorem mlX7_31 : xMN RX7 31 mX9_isIn 3 := ⟨mcX9_isIn, ⟨"CribBooklet", List.mem_filter.mpr ⟨List.mem_of_getElem? (i := 468) (by decide +kernel), rfl⟩⟩, wG_t 308 (by decide +kernel) (by decide +kernel)⟩
set_option maxRecDepth 20000 in
theorem flX8_12 : xGF RX8 12 8 0 := ⟨by decide, wG_t 193 (by decide +kernel) (by decide +kernel)⟩
set_option maxRecDepth 20000 in
theorem mcX0_copyFrom : xMc mX0_copyFrom 1 := ⟨wG_t 317 (by decide +kernel) (by decide +kernel), wG_t 3 (by decide +kernel) (by decide +kernel), ⟨by decide +kernel, by decide +kernel, by decide +kernel⟩, by decide +kernel, rfl⟩
set_option maxRecDepth 20000 in
theorem mlX8_26 : xMV RX8 26 mX0_copyFrom 1 0 := ⟨mcX0_copyFrom, wG_t 314 (by decide +kernel) (by decide +kernel), wG_t 315 (by decide +kernel) (by decide +kernel), wG_t 316 (by decide +kernel) (by decide +kernel), rfl⟩
set_option maxRecDepth 20000 in
theorem flX8_22 : xGF RX8 22 8 2 := ⟨by decide, wG_t 196 (by decide +kernel) (by decide +kernel)⟩
set_option maxRecDepth 20000 in
theorem mlX8_30 : xMN RX8 30 mX9_isInSet 2 := ⟨mcX9_isInSet, ⟨"CribBooklet", List.mem_filter.mpr ⟨List.mem_of_getElem? (i := 341) (by decide +kernel), rfl⟩⟩, wG_t 342 (by decide +kernel) (by decide +kernel)⟩
set_option maxRecDepth 20000 in
theorem flX8_18 : xGF RX8 18 8 1 := ⟨by decide, wG_t 195 (by decide +kernel) (by decide +kernel)⟩
set_option maxRecDepth 20000 in
theorem mlX8_34 : xMN RX8 34 mX9_isIn 3 := ⟨mcX9_isIn, ⟨"CribBooklet", List.mem_filter.mpr ⟨List.mem_of_getElem? (i := 482) (by decide +kernel), rfl⟩⟩, wG_t 308 (by decide +kernel) (by decide +kernel)⟩
set_option maxRecDepth 20000 in
theorem flX8_38 : xGF RX8 38 0 1 := ⟨by decide, wG_t 152 (by decide +kernel) (by decide +kernel)⟩
set_option maxRecDepth 20000 in
theorem flX8_42 : xGF RX8 42 3 5 := ⟨by decide, wG_t 73 (by decide +kernel) (by decide +kernel)⟩
set_option maxRecDepth 20000 in
theorem flX9_19 : xGF RX9 19 9 1 := ⟨by decide, wG_t 272 (by decide +kernel) (by decide +kernel)⟩
set_option maxRecDepth 20000 in
theorem flX9_10 : xGF RX9 10 9 0 := ⟨by decide, wG_t 271 (by decide +kernel) (by decide +kernel)⟩
set_option maxRecDepth 20000 in
theorem mcX1_keep : xMc mX1_keep 1 := ⟨wG_t 306 (by decide +kernel) (by decide +kernel), wG_t 9 (by decide +kernel) (by decide +kernel), ⟨by decide +kernel, by decide +kernel, by decide +kernel⟩, by decide +kernel, rfl⟩
set_option maxRecDepth 20000 in
theorem mlX9_58 : xMV RX9 58 mX1_keep 1 1 := ⟨mcX1_keep, wG_t 303 (by decide +kernel) (by decide +kernel), wG_t 304 (by decide +kernel) (by decide +kernel), wG_t 305 (by decide +kernel) (by decide +kernel), rfl⟩
set_option maxRecDepth 20000 in
theorem flX9_62 : xGF RX9 62 8 0 := ⟨by decide, wG_t 194 (by decide +kernel) (by decide +kernel)⟩
set_option maxRecDepth 20000 in
theorem mcX0_takeSheet : xMc mX0_takeSheet 2 := ⟨wG_t 347 (by decide +kernel) (by decide +kernel), wG_t 3 (by decide +kernel) (by decide +kernel), ⟨by decide +kernel, by decide +kernel, by decide +kernel⟩, by decide +kernel, rfl⟩
set_option maxRecDepth 20000 in
theorem mlX9_66 : xMV RX9 66 mX0_takeSheet 2 0 := ⟨mcX0_takeSheet, wG_t 344 (by decide +kernel) (by decide +kernel), wG_t 345 (by decide +kernel) (by decide +kernel), wG_t 346 (by decide +kernel) (by decide +kernel), rfl⟩
set_option maxRecDepth 20000 in
theorem mcX1_settle : xMc mX1_settle 1 := ⟨wG_t 358 (by decide +kernel) (by decide +kernel), wG_t 9 (by decide +kernel) (by decide +kernel), ⟨by decide +kernel, by decide +kernel, by decide +kernel⟩, by decide +kernel, rfl⟩
set_option maxRecDepth 20000 in
theorem mlX9_72 : xMV RX9 72 mX1_settle 1 1 := ⟨mcX1_settle, wG_t 355 (by decide +kernel) (by decide +kernel), wG_t 356 (by decide +kernel) (by decide +kernel), wG_t 357 (by decide +kernel) (by decide +kernel), rfl⟩
set_option maxRecDepth 20000 in
theorem mcX0_foldOnce : xMc mX0_foldOnce 1 := ⟨wG_t 619 (by decide +kernel) (by decide +kernel), wG_t 3 (by decide +kernel) (by decide +kernel), ⟨by decide +kernel, by decide +kernel, by decide +kernel⟩, by decide +kernel, rfl⟩
set_option maxRecDepth 20000 in
theorem mlX9_76 : xMV RX9 76 mX0_foldOnce 1 0 := ⟨mcX0_foldOnce, wG_t 616 (by decide +kernel) (by decide +kernel), wG_t 617 (by decide +kernel) (by decide +kernel), wG_t 618 (by decide +kernel) (by decide +kernel), rfl⟩
set_option maxRecDepth 20000 in
theorem mcX0_foldBack : xMc mX0_foldBack 0 := ⟨wG_t 806 (by decide +kernel) (by decide +kernel), wG_t 3 (by decide +kernel) (by decide +kernel), ⟨by decide +kernel, by decide +kernel, by decide +kernel⟩, by decide +kernel, rfl⟩
set_option maxRecDepth 20000 in
theorem mlX9_79 : xMV RX9 79 mX0_foldBack 0 0 := ⟨mcX0_foldBack, wG_t 803 (by decide +kernel) (by decide +kernel), wG_t 804 (by decide +kernel) (by decide +kernel), wG_t 805 (by decide +kernel) (by decide +kernel), rfl⟩
set_option maxRecDepth 20000 in
theorem mcX0_moveSpine : xMc mX0_moveSpine 1 := ⟨wG_t 374 (by decide +kernel) (by decide +kernel), wG_t 3 (by decide +kernel) (by decide +kernel), ⟨by decide +kernel, by decide +kernel, by decide +kernel⟩, by decide +kernel, rfl⟩
set_option maxRecDepth 20000 in
theorem mlX9_83 : xMV RX9 83 mX0_moveSpine 1 0 := ⟨mcX0_moveSpine, wG_t 371 (by decide +kernel) (by decide +kernel), wG_t 372 (by decide +kernel) (by decide +kernel), wG_t 373 (by decide +kernel) (by decide +kernel), rfl⟩
set_option maxRecDepth 20000 in
theorem flX9_26 : xGF RX9 26 9 2 := ⟨by decide, wG_t 273 (by decide +kernel) (by decide +kernel)⟩
set_option maxRecDepth 20000 in
theorem mcX0_printSheet : xMc mX0_printSheet 2 := ⟨wG_t 383 (by decide +kernel) (by decide +kernel), wG_t 3 (by decide +kernel) (by decide +kernel), ⟨by decide +kernel, by decide +kernel, by decide +kernel⟩, by decide +kernel, rfl⟩
set_option maxRecDepth 20000 in
theorem mlX9_90 : xMV RX9 90 mX0_printSheet 2 0 := ⟨mcX0_printSheet, wG_t 380 (by decide +kernel) (by decide +kernel), wG_t 381 (by decide +kernel) (by decide +kernel), wG_t 382 (by decide +kernel) (by decide +kernel), rfl⟩
set_option maxRecDepth 20000 in
theorem mcX0_cutAlong : xMc mX0_cutAlong 1 := ⟨wG_t 797 (by decide +kernel) (by decide +kernel), wG_t 3 (by decide +kernel) (by decide +kernel), ⟨by decide +kernel, by decide +kernel, by decide +kernel⟩, by decide +kernel, rfl⟩
set_option maxRecDepth 20000 in
theorem mlX9_94 : xMV RX9 94 mX0_cutAlong 1 0 := ⟨mcX0_cutAlong, wG_t 794 (by decide +kernel) (by decide +kernel), wG_t 795 (by decide +kernel) (by decide +kernel), wG_t 796 (by decide +kernel) (by decide +kernel), rfl⟩
set_option maxRecDepth 20000 in
theorem mcX0_setStaple : xMc mX0_setStaple 1 := ⟨wG_t 825 (by decide +kernel) (by decide +kernel), wG_t 3 (by decide +kernel) (by decide +kernel), ⟨by decide +kernel, by decide +kernel, by decide +kernel⟩, by decide +kernel, rfl⟩
set_option maxRecDepth 20000 in
theorem mlX9_97 : xMV RX9 97 mX0_setStaple 1 0 := ⟨mcX0_setStaple, wG_t 822 (by decide +kernel) (by decide +kernel), wG_t 823 (by decide +kernel) (by decide +kernel), wG_t 824 (by decide +kernel) (by decide +kernel), rfl⟩
set_option maxRecDepth 20000 in
theorem mcX0_drawStaple : xMc mX0_drawStaple 1 := ⟨wG_t 835 (by decide +kernel) (by decide +kernel), wG_t 3 (by decide +kernel) (by decide +kernel), ⟨by decide +kernel, by decide +kernel, by decide +kernel⟩, by decide +kernel, rfl⟩
set_option maxRecDepth 20000 in
theorem mlX9_100 : xMV RX9 100 mX0_drawStaple 1 0 := ⟨mcX0_drawStaple, wG_t 832 (by decide +kernel) (by decide +kernel), wG_t 833 (by decide +kernel) (by decide +kernel), wG_t 834 (by decide +kernel) (by decide +kernel), rfl⟩
set_option maxRecDepth 20000 in
theorem mcX0_changeLegs : xMc mX0_changeLegs 1 := ⟨wG_t 817 (by decide +kernel) (by decide +kernel), wG_t 3 (by decide +kernel) (by decide +kernel), ⟨by decide +kernel, by decide +kernel, by decide +kernel⟩, by decide +kernel, rfl⟩
set_option maxRecDepth 20000 in
theorem mlX9_103 : xMV RX9 103 mX0_changeLegs 1 0 := ⟨mcX0_changeLegs, wG_t 814 (by decide +kernel) (by decide +kernel), wG_t 815 (by decide +kernel) (by decide +kernel), wG_t 816 (by decide +kernel) (by decide +kernel), rfl⟩
set_option maxRecDepth 20000 in
theorem mcX0_keepSight : xMc mX0_keepSight 3 := ⟨wG_t 459 (by decide +kernel) (by decide +kernel), wG_t 3 (by decide +kernel) (by decide +kernel), ⟨by decide +kernel, by decide +kernel, by decide +kernel⟩, by decide +kernel, rfl⟩
set_option maxRecDepth 20000 in
theorem mlX9_106 : xMV RX9 106 mX0_keepSight 3 0 := ⟨mcX0_keepSight, wG_t 456 (by decide +kernel) (by decide +kernel), wG_t 457 (by decide +kernel) (by decide +kernel), wG_t 458 (by decide +kernel) (by decide +kernel), rfl⟩
set_option maxRecDepth 20000 in
theorem flX9_110 : xGF RX9 110 0 2 := ⟨by decide, wG_t 155 (by decide +kernel) (by decide +kernel)⟩
set_option maxRecDepth 20000 in
theorem mlX9_114 : xMV RX9 114 mX7_dropAll 0 7 := ⟨mcX7_dropAll, wG_t 473 (by decide +kernel) (by decide +kernel), wG_t 352 (by decide +kernel) (by decide +kernel), wG_t 353 (by decide +kernel) (by decide +kernel), rfl⟩
set_option maxRecDepth 20000 in
theorem mcX8_fillSlot : xMc mX8_fillSlot 1 := ⟨wG_t 481 (by decide +kernel) (by decide +kernel), wG_t 2 (by decide +kernel) (by decide +kernel), ⟨by decide +kernel, by decide +kernel, by decide +kernel⟩, by decide +kernel, rfl⟩
set_option maxRecDepth 20000 in
theorem mlX9_135 : xMV RX9 135 mX8_fillSlot 1 8 := ⟨mcX8_fillSlot, wG_t 478 (by decide +kernel) (by decide +kernel), wG_t 479 (by decide +kernel) (by decide +kernel), wG_t 480 (by decide +kernel) (by decide +kernel), rfl⟩
set_option maxRecDepth 20000 in
theorem mcX8_useSlot : xMc mX8_useSlot 1 := ⟨wG_t 490 (by decide +kernel) (by decide +kernel), wG_t 2 (by decide +kernel) (by decide +kernel), ⟨by decide +kernel, by decide +kernel, by decide +kernel⟩, by decide +kernel, rfl⟩
set_option maxRecDepth 20000 in
theorem mlX9_138 : xMV RX9 138 mX8_useSlot 1 8 := ⟨mcX8_useSlot, wG_t 487 (by decide +kernel) (by decide +kernel), wG_t 488 (by decide +kernel) (by decide +kernel), wG_t 489 (by decide +kernel) (by decide +kernel), rfl⟩
set_option maxRecDepth 20000 in
theorem mcX1_goBack : xMc mX1_goBack 1 := ⟨wG_t 843 (by decide +kernel) (by decide +kernel), wG_t 9 (by decide +kernel) (by decide +kernel), ⟨by decide +kernel, by decide +kernel, by decide +kernel⟩, by decide +kernel, rfl⟩
set_option maxRecDepth 20000 in
theorem mlX9_141 : xMV RX9 141 mX1_goBack 1 1 := ⟨mcX1_goBack, wG_t 840 (by decide +kernel) (by decide +kernel), wG_t 841 (by decide +kernel) (by decide +kernel), wG_t 842 (by decide +kernel) (by decide +kernel), rfl⟩
set_option maxRecDepth 20000 in
theorem flX9_253 : xGF RX9 253 0 0 := ⟨by decide, wG_t 149 (by decide +kernel) (by decide +kernel)⟩
set_option maxRecDepth 20000 in
theorem flX9_257 : xGF RX9 257 5 0 := ⟨by decide, wG_t 43 (by decide +kernel) (by decide +kernel)⟩
set_option maxRecDepth 20000 in
theorem flX9_262 : xGF RX9 262 5 1 := ⟨by decide, wG_t 46 (by decide +kernel) (by decide +kernel)⟩
set_option maxRecDepth 20000 in
theorem flX9_265 : xGF RX9 265 0 1 := ⟨by decide, wG_t 153 (by decide +kernel) (by decide +kernel)⟩
set_option maxRecDepth 20000 in
theorem flX9_268 : xGF RX9 268 3 5 := ⟨by decide, wG_t 75 (by decide +kernel) (by decide +kernel)⟩
set_option maxRecDepth 20000 in
theorem mlX9_271 : xMV RX9 271 mX3_depth 0 3 := ⟨mcX3_depth, wG_t 495 (by decide +kernel) (by decide +kernel), wG_t 403 (by decide +kernel) (by decide +kernel), wG_t 404 (by decide +kernel) (by decide +kernel), rfl⟩
set_option maxRecDepth 20000 in
theorem flX9_274 : xGF RX9 274 3 4 := ⟨by decide, wG_t 71 (by decide +kernel) (by decide +kernel)⟩
set_option maxRecDepth 20000 in
theorem mlX9_277 : xMV RX9 277 mX3_isBooklet 0 3 := ⟨mcX3_isBooklet, wG_t 496 (by decide +kernel) (by decide +kernel), wG_t 411 (by decide +kernel) (by decide +kernel), wG_t 412 (by decide +kernel) (by decide +kernel), rfl⟩
set_option maxRecDepth 20000 in
theorem mlX9_280 : xMS RX9 280 mX9_asNumber 1 := ⟨mcX9_asNumber, wG_t 497 (by decide +kernel) (by decide +kernel), wG_t 445 (by decide +kernel) (by decide +kernel)⟩
set_option maxRecDepth 20000 in
theorem flX9_284 : xGF RX9 284 0 6 := ⟨by decide, wG_t 163 (by decide +kernel) (by decide +kernel)⟩
set_option maxRecDepth 20000 in
theorem flX9_287 : xGF RX9 287 0 7 := ⟨by decide, wG_t 165 (by decide +kernel) (by decide +kernel)⟩
set_option maxRecDepth 20000 in
theorem mlX9_290 : xMS RX9 290 mJ6_bitCount_0f7a4 1 := ⟨mcJ6_bitCount_0f7a4, wG_t 498 (by decide +kernel) (by decide +kernel), wG_t 499 (by decide +kernel) (by decide +kernel)⟩
set_option maxRecDepth 20000 in
theorem flX9_295 : xGF RX9 295 7 3 := ⟨by decide, wG_t 109 (by decide +kernel) (by decide +kernel)⟩
set_option maxRecDepth 20000 in
theorem flX9_119 : xGF RX9 119 0 3 := ⟨by decide, wG_t 158 (by decide +kernel) (by decide +kernel)⟩
set_option maxRecDepth 20000 in
theorem flX9_298 : xGF RX9 298 4 1 := ⟨by decide, wG_t 128 (by decide +kernel) (by decide +kernel)⟩
set_option maxRecDepth 20000 in
theorem flX9_299 : xGF RX9 299 8 2 := ⟨by decide, wG_t 197 (by decide +kernel) (by decide +kernel)⟩
set_option maxRecDepth 20000 in
theorem flX9_302 : xGF RX9 302 1 1 := ⟨by decide, wG_t 216 (by decide +kernel) (by decide +kernel)⟩
set_option maxRecDepth 20000 in
theorem flX9_41 : xGF RX9 41 9 5 := ⟨by decide, wG_t 276 (by decide +kernel) (by decide +kernel)⟩
set_option maxRecDepth 20000 in
theorem flX9_303 : xGF RX9 303 0 9 := ⟨by decide, wG_t 170 (by decide +kernel) (by decide +kernel)⟩
set_option maxRecDepth 20000 in
theorem flX9_305 : xGF RX9 305 0 8 := ⟨by decide, wG_t 167 (by decide +kernel) (by decide +kernel)⟩
set_option maxRecDepth 20000 in
theorem flX9_308 : xGF RX9 308 0 5 := ⟨by decide, wG_t 161 (by decide +kernel) (by decide +kernel)⟩
set_option maxRecDepth 20000 in
theorem mcX5_hasSide : xMc mX5_hasSide 3 := ⟨wG_t 755 (by decide +kernel) (by decide +kernel), wG_t 4 (by decide +kernel) (by decide +kernel), ⟨by decide +kernel, by decide +kernel, by decide +kernel⟩, by decide +kernel, rfl⟩
set_option maxRecDepth 20000 in
theorem mlX9_310 : xMV RX9 310 mX5_hasSide 3 5 := ⟨mcX5_hasSide, wG_t 752 (by decide +kernel) (by decide +kernel), wG_t 753 (by decide +kernel) (by decide +kernel), wG_t 754 (by decide +kernel) (by decide +kernel), rfl⟩
set_option maxRecDepth 20000 in
theorem mlX9_145 : xMS RX9 145 mX9_isIn 3 := ⟨mcX9_isIn, wG_t 362 (by decide +kernel) (by decide +kernel), wG_t 308 (by decide +kernel) (by decide +kernel)⟩
set_option maxRecDepth 20000 in
theorem mlX9_313 : xMS RX9 313 mX9_cellAt 2 := ⟨mcX9_cellAt, wG_t 756 (by decide +kernel) (by decide +kernel), wG_t 146 (by decide +kernel) (by decide +kernel)⟩
set_option maxRecDepth 20000 in
theorem mlX9_316 : xMS RX9 316 mX9_placeOfSide 2 := ⟨mcX9_placeOfSide, wG_t 757 (by decide +kernel) (by decide +kernel), wG_t 434 (by decide +kernel) (by decide +kernel)⟩
set_option maxRecDepth 20000 in
theorem mlX9_319 : xMV RX9 319 mX5_numberAt 1 5 := ⟨mcX5_numberAt, wG_t 758 (by decide +kernel) (by decide +kernel), wG_t 533 (by decide +kernel) (by decide +kernel), wG_t 534 (by decide +kernel) (by decide +kernel), rfl⟩
set_option maxRecDepth 20000 in
theorem mlX9_322 : xMV RX9 322 mX5_turnAt 1 5 := ⟨mcX5_turnAt, wG_t 759 (by decide +kernel) (by decide +kernel), wG_t 541 (by decide +kernel) (by decide +kernel), wG_t 542 (by decide +kernel) (by decide +kernel), rfl⟩
set_option maxRecDepth 20000 in
theorem mlX9_343 : xMV RX9 343 mX3_lastPage 0 3 := ⟨mcX3_lastPage, wG_t 630 (by decide +kernel) (by decide +kernel), wG_t 423 (by decide +kernel) (by decide +kernel), wG_t 424 (by decide +kernel) (by decide +kernel), rfl⟩
set_option maxRecDepth 20000 in
theorem mlX9_328 : xMV RX9 328 mX3_rowAt 1 3 := ⟨mcX3_rowAt, wG_t 631 (by decide +kernel) (by decide +kernel), wG_t 579 (by decide +kernel) (by decide +kernel), wG_t 580 (by decide +kernel) (by decide +kernel), rfl⟩
set_option maxRecDepth 20000 in
theorem mlX9_331 : xMV RX9 331 mX3_columnAt 1 3 := ⟨mcX3_columnAt, wG_t 632 (by decide +kernel) (by decide +kernel), wG_t 569 (by decide +kernel) (by decide +kernel), wG_t 570 (by decide +kernel) (by decide +kernel), rfl⟩
set_option maxRecDepth 20000 in
theorem mcX3_sideOfPage : xMc mX3_sideOfPage 1 := ⟨wG_t 636 (by decide +kernel) (by decide +kernel), wG_t 5 (by decide +kernel) (by decide +kernel), ⟨by decide +kernel, by decide +kernel, by decide +kernel⟩, by decide +kernel, rfl⟩
set_option maxRecDepth 20000 in
theorem mlX9_346 : xMV RX9 346 mX3_sideOfPage 1 3 := ⟨mcX3_sideOfPage, wG_t 633 (by decide +kernel) (by decide +kernel), wG_t 634 (by decide +kernel) (by decide +kernel), wG_t 635 (by decide +kernel) (by decide +kernel), rfl⟩
set_option maxRecDepth 20000 in
theorem mlX9_349 : xMV RX9 349 mX0_numberOn 2 0 := ⟨mcX0_numberOn, wG_t 641 (by decide +kernel) (by decide +kernel), wG_t 529 (by decide +kernel) (by decide +kernel), wG_t 530 (by decide +kernel) (by decide +kernel), rfl⟩
set_option maxRecDepth 20000 in
theorem mcX9_uprightOn : xMc mX9_uprightOn 2 := ⟨wG_t 644 (by decide +kernel) (by decide +kernel), wG_t 1 (by decide +kernel) (by decide +kernel), ⟨by decide +kernel, by decide +kernel, by decide +kernel⟩, by decide +kernel, rfl⟩
set_option maxRecDepth 20000 in
theorem mlX9_352 : xMS RX9 352 mX9_uprightOn 2 := ⟨mcX9_uprightOn, wG_t 642 (by decide +kernel) (by decide +kernel), wG_t 643 (by decide +kernel) (by decide +kernel)⟩
set_option maxRecDepth 20000 in
theorem mlX9_356 : xMV RX9 356 mX0_isHidden 1 0 := ⟨mcX0_isHidden, wG_t 646 (by decide +kernel) (by decide +kernel), wG_t 647 (by decide +kernel) (by decide +kernel), wG_t 648 (by decide +kernel) (by decide +kernel), rfl⟩
set_option maxRecDepth 20000 in
theorem mcX0_whyNotRead : xMc mX0_whyNotRead 1 := ⟨wG_t 661 (by decide +kernel) (by decide +kernel), wG_t 3 (by decide +kernel) (by decide +kernel), ⟨by decide +kernel, by decide +kernel, by decide +kernel⟩, by decide +kernel, rfl⟩
set_option maxRecDepth 20000 in
theorem mlX9_359 : xMV RX9 359 mX0_whyNotRead 1 0 := ⟨mcX0_whyNotRead, wG_t 658 (by decide +kernel) (by decide +kernel), wG_t 659 (by decide +kernel) (by decide +kernel), wG_t 660 (by decide +kernel) (by decide +kernel), rfl⟩
set_option maxRecDepth 20000 in
theorem flX9_33 : xGF RX9 33 9 3 := ⟨by decide, wG_t 274 (by decide +kernel) (by decide +kernel)⟩
set_option maxRecDepth 20000 in
theorem mcX2_arrange : xMc mX2_arrange 1 := ⟨wG_t 666 (by decide +kernel) (by decide +kernel), wG_t 10 (by decide +kernel) (by decide +kernel), ⟨by decide +kernel, by decide +kernel, by decide +kernel⟩, by decide +kernel, rfl⟩
set_option maxRecDepth 20000 in
theorem mlX9_362 : xMV RX9 362 mX2_arrange 1 2 := ⟨mcX2_arrange, wG_t 663 (by decide +kernel) (by decide +kernel), wG_t 664 (by decide +kernel) (by decide +kernel), wG_t 665 (by decide +kernel) (by decide +kernel), rfl⟩
set_option maxRecDepth 20000 in
theorem mcX2_takenOn : xMc mX2_takenOn 2 := ⟨wG_t 732 (by decide +kernel) (by decide +kernel), wG_t 10 (by decide +kernel) (by decide +kernel), ⟨by decide +kernel, by decide +kernel, by decide +kernel⟩, by decide +kernel, rfl⟩
set_option maxRecDepth 20000 in
theorem mlX9_366 : xMV RX9 366 mX2_takenOn 2 2 := ⟨mcX2_takenOn, wG_t 729 (by decide +kernel) (by decide +kernel), wG_t 730 (by decide +kernel) (by decide +kernel), wG_t 731 (by decide +kernel) (by decide +kernel), rfl⟩
set_option maxRecDepth 20000 in
theorem mlX9_370 : xMV RX9 370 mX0_isUpright 2 0 := ⟨mcX0_isUpright, wG_t 645 (by decide +kernel) (by decide +kernel), wG_t 537 (by decide +kernel) (by decide +kernel), wG_t 538 (by decide +kernel) (by decide +kernel), rfl⟩
set_option maxRecDepth 20000 in
theorem mlX9_374 : xMV RX9 374 mX0_shutEdges 1 0 := ⟨mcX0_shutEdges, wG_t 746 (by decide +kernel) (by decide +kernel), wG_t 651 (by decide +kernel) (by decide +kernel), wG_t 652 (by decide +kernel) (by decide +kernel), rfl⟩
set_option maxRecDepth 20000 in
theorem mlX9_377 : xMV RX9 377 mX0_linesAt 1 0 := ⟨mcX0_linesAt, wG_t 747 (by decide +kernel) (by decide +kernel), wG_t 676 (by decide +kernel) (by decide +kernel), wG_t 677 (by decide +kernel) (by decide +kernel), rfl⟩
set_option maxRecDepth 20000 in
theorem mlX9_380 : xMS RX9 380 mX9_isInSet 2 := ⟨mcX9_isInSet, wG_t 771 (by decide +kernel) (by decide +kernel), wG_t 342 (by decide +kernel) (by decide +kernel)⟩
set_option maxRecDepth 20000 in
theorem mlX9_384 : xMV RX9 384 mX3_pairsAlong 1 3 := ⟨mcX3_pairsAlong, wG_t 772 (by decide +kernel) (by decide +kernel), wG_t 565 (by decide +kernel) (by decide +kernel), wG_t 566 (by decide +kernel) (by decide +kernel), rfl⟩
set_option maxRecDepth 20000 in
theorem mcX0_countPieces : xMc mX0_countPieces 0 := ⟨wG_t 780 (by decide +kernel) (by decide +kernel), wG_t 3 (by decide +kernel) (by decide +kernel), ⟨by decide +kernel, by decide +kernel, by decide +kernel⟩, by decide +kernel, rfl⟩
set_option maxRecDepth 20000 in
theorem mlX9_390 : xMV RX9 390 mX0_countPieces 0 0 := ⟨mcX0_countPieces, wG_t 777 (by decide +kernel) (by decide +kernel), wG_t 778 (by decide +kernel) (by decide +kernel), wG_t 779 (by decide +kernel) (by decide +kernel), rfl⟩
set_option maxRecDepth 20000 in
theorem mcX0_effortOf : xMc mX0_effortOf 1 := ⟨wG_t 511 (by decide +kernel) (by decide +kernel), wG_t 3 (by decide +kernel) (by decide +kernel), ⟨by decide +kernel, by decide +kernel, by decide +kernel⟩, by decide +kernel, rfl⟩
set_option maxRecDepth 20000 in
theorem mlX9_414 : xMV RX9 414 mX0_effortOf 1 0 := ⟨mcX0_effortOf, wG_t 508 (by decide +kernel) (by decide +kernel), wG_t 509 (by decide +kernel) (by decide +kernel), wG_t 510 (by decide +kernel) (by decide +kernel), rfl⟩
set_option maxRecDepth 20000 in
theorem mcX9_rowOfFolds : xMc mX9_rowOfFolds 1 := ⟨wG_t 518 (by decide +kernel) (by decide +kernel), wG_t 1 (by decide +kernel) (by decide +kernel), ⟨by decide +kernel, by decide +kernel, by decide +kernel⟩, by decide +kernel, rfl⟩
set_option maxRecDepth 20000 in
theorem mlX9_417 : xMS RX9 417 mX9_rowOfFolds 1 := ⟨mcX9_rowOfFolds, wG_t 516 (by decide +kernel) (by decide +kernel), wG_t 517 (by decide +kernel) (by decide +kernel)⟩
set_option maxRecDepth 20000 in
theorem mcX9_tryFolds : xMc mX9_tryFolds 1 := ⟨wG_t 522 (by decide +kernel) (by decide +kernel), wG_t 1 (by decide +kernel) (by decide +kernel), ⟨by decide +kernel, by decide +kernel, by decide +kernel⟩, by decide +kernel, rfl⟩
set_option maxRecDepth 20000 in
theorem mlX9_420 : xMV RX9 420 mX9_tryFolds 1 9 := ⟨mcX9_tryFolds, wG_t 519 (by decide +kernel) (by decide +kernel), wG_t 521 (by decide +kernel) (by decide +kernel), wG_p (n := 9) 6 (by decide +kernel) rfl, rfl⟩
set_option maxRecDepth 20000 in
theorem mcX0_showsAllSights : xMc mX0_showsAllSights 1 := ⟨wG_t 527 (by decide +kernel) (by decide +kernel), wG_t 3 (by decide +kernel) (by decide +kernel), ⟨by decide +kernel, by decide +kernel, by decide +kernel⟩, by decide +kernel, rfl⟩
set_option maxRecDepth 20000 in
theorem mlX9_423 : xMV RX9 423 mX0_showsAllSights 1 0 := ⟨mcX0_showsAllSights, wG_t 524 (by decide +kernel) (by decide +kernel), wG_t 525 (by decide +kernel) (by decide +kernel), wG_t 526 (by decide +kernel) (by decide +kernel), rfl⟩
set_option maxRecDepth 20000 in
theorem mcX0_pagesInOrder : xMc mX0_pagesInOrder 1 := ⟨wG_t 551 (by decide +kernel) (by decide +kernel), wG_t 3 (by decide +kernel) (by decide +kernel), ⟨by decide +kernel, by decide +kernel, by decide +kernel⟩, by decide +kernel, rfl⟩
set_option maxRecDepth 20000 in
theorem mlX9_427 : xMV RX9 427 mX0_pagesInOrder 1 0 := ⟨mcX0_pagesInOrder, wG_t 548 (by decide +kernel) (by decide +kernel), wG_t 549 (by decide +kernel) (by decide +kernel), wG_t 550 (by decide +kernel) (by decide +kernel), rfl⟩
set_option maxRecDepth 20000 in
theorem mcX0_edgesToCut : xMc mX0_edgesToCut 1 := ⟨wG_t 559 (by decide +kernel) (by decide +kernel), wG_t 3 (by decide +kernel) (by decide +kernel), ⟨by decide +kernel, by decide +kernel, by decide +kernel⟩, by decide +kernel, rfl⟩
set_option maxRecDepth 20000 in
theorem mlX9_431 : xMV RX9 431 mX0_edgesToCut 1 0 := ⟨mcX0_edgesToCut, wG_t 556 (by decide +kernel) (by decide +kernel), wG_t 557 (by decide +kernel) (by decide +kernel), wG_t 558 (by decide +kernel) (by decide +kernel), rfl⟩
set_option maxRecDepth 20000 in
theorem mcX9_bestFolds : xMc mX9_bestFolds 0 := ⟨wG_t 595 (by decide +kernel) (by decide +kernel), wG_t 1 (by decide +kernel) (by decide +kernel), ⟨by decide +kernel, by decide +kernel, by decide +kernel⟩, by decide +kernel, rfl⟩
set_option maxRecDepth 20000 in
theorem mlX9_434 : xMV RX9 434 mX9_bestFolds 0 9 := ⟨mcX9_bestFolds, wG_t 592 (by decide +kernel) (by decide +kernel), wG_t 594 (by decide +kernel) (by decide +kernel), wG_p (n := 9) 8 (by decide +kernel) rfl, rfl⟩
set_option maxRecDepth 20000 in
theorem mcX9_cutsFor : xMc mX9_cutsFor 1 := ⟨wG_t 555 (by decide +kernel) (by decide +kernel), wG_t 1 (by decide +kernel) (by decide +kernel), ⟨by decide +kernel, by decide +kernel, by decide +kernel⟩, by decide +kernel, rfl⟩
set_option maxRecDepth 20000 in
theorem mlX9_437 : xMV RX9 437 mX9_cutsFor 1 9 := ⟨mcX9_cutsFor, wG_t 596 (by decide +kernel) (by decide +kernel), wG_t 553 (by decide +kernel) (by decide +kernel), wG_t 554 (by decide +kernel) (by decide +kernel), rfl⟩
set_option maxRecDepth 20000 in
theorem mcX9_readsBy : xMc mX9_readsBy 1 := ⟨wG_t 547 (by decide +kernel) (by decide +kernel), wG_t 1 (by decide +kernel) (by decide +kernel), ⟨by decide +kernel, by decide +kernel, by decide +kernel⟩, by decide +kernel, rfl⟩
set_option maxRecDepth 20000 in
theorem mlX9_440 : xMV RX9 440 mX9_readsBy 1 9 := ⟨mcX9_readsBy, wG_t 597 (by decide +kernel) (by decide +kernel), wG_t 545 (by decide +kernel) (by decide +kernel), wG_t 546 (by decide +kernel) (by decide +kernel), rfl⟩
set_option maxRecDepth 20000 in
theorem mlX9_443 : xMV RX9 443 mX3_foldBy 3 3 := ⟨mcX3_foldBy, wG_t 523 (by decide +kernel) (by decide +kernel), wG_t 385 (by decide +kernel) (by decide +kernel), wG_t 386 (by decide +kernel) (by decide +kernel), rfl⟩
theorem ckJ6_265 : Cond.constant RJ6 265 (Int32.ofInt 1431655765) ∈ wG := wG_t 501 (by decide +kernel) (by decide +kernel)
theorem ckJ6_266 : Cond.constant RJ6 266 (Int32.ofInt 858993459) ∈ wG := wG_t 502 (by decide +kernel) (by decide +kernel)
theorem ckJ6_267 : Cond.constant RJ6 267 (Int32.ofInt 252645135) ∈ wG := wG_t 503 (by decide +kernel) (by decide +kernel)
theorem ckL_7 : Cond.constant RL 7 (Int32.ofInt 15485959) ∈ wG := wG_t 601 (by decide +kernel) (by decide +kernel)
theorem ckL_8 : Cond.constant RL 8 (Int32.ofInt 2147483647) ∈ wG := wG_t 602 (by decide +kernel) (by decide +kernel)
set_option maxRecDepth 20000 in
theorem mcX9_count : xMc mX9_count 1 := ⟨wG_t 494 (by decide +kernel) (by decide +kernel), wG_t 1 (by decide +kernel) (by decide +kernel), ⟨by decide +kernel, by decide +kernel, by decide +kernel⟩, by decide +kernel, rfl⟩
set_option maxRecDepth 20000 in
theorem mlL_9 : xMV RL 9 mX9_count 1 9 := ⟨mcX9_count, wG_t 491 (by decide +kernel) (by decide +kernel), wG_t 492 (by decide +kernel) (by decide +kernel), wG_t 493 (by decide +kernel) (by decide +kernel), rfl⟩
set_option maxRecDepth 20000 in
theorem mcX9_effort : xMc mX9_effort 1 := ⟨wG_t 507 (by decide +kernel) (by decide +kernel), wG_t 1 (by decide +kernel) (by decide +kernel), ⟨by decide +kernel, by decide +kernel, by decide +kernel⟩, by decide +kernel, rfl⟩
set_option maxRecDepth 20000 in
theorem mlL_15 : xMV RL 15 mX9_effort 1 9 := ⟨mcX9_effort, wG_t 504 (by decide +kernel) (by decide +kernel), wG_t 505 (by decide +kernel) (by decide +kernel), wG_t 506 (by decide +kernel) (by decide +kernel), rfl⟩
set_option maxRecDepth 20000 in
theorem mcX9_fold : xMc mX9_fold 1 := ⟨wG_t 615 (by decide +kernel) (by decide +kernel), wG_t 1 (by decide +kernel) (by decide +kernel), ⟨by decide +kernel, by decide +kernel, by decide +kernel⟩, by decide +kernel, rfl⟩
set_option maxRecDepth 20000 in
theorem mlL_18 : xMV RL 18 mX9_fold 1 9 := ⟨mcX9_fold, wG_t 612 (by decide +kernel) (by decide +kernel), wG_t 613 (by decide +kernel) (by decide +kernel), wG_t 614 (by decide +kernel) (by decide +kernel), rfl⟩
set_option maxRecDepth 20000 in
theorem mcX9_page : xMc mX9_page 2 := ⟨wG_t 629 (by decide +kernel) (by decide +kernel), wG_t 1 (by decide +kernel) (by decide +kernel), ⟨by decide +kernel, by decide +kernel, by decide +kernel⟩, by decide +kernel, rfl⟩
set_option maxRecDepth 20000 in
theorem mlL_21 : xMV RL 21 mX9_page 2 9 := ⟨mcX9_page, wG_t 626 (by decide +kernel) (by decide +kernel), wG_t 627 (by decide +kernel) (by decide +kernel), wG_t 628 (by decide +kernel) (by decide +kernel), rfl⟩
set_option maxRecDepth 20000 in
theorem mcX9_pageOf : xMc mX9_pageOf 1 := ⟨wG_t 741 (by decide +kernel) (by decide +kernel), wG_t 1 (by decide +kernel) (by decide +kernel), ⟨by decide +kernel, by decide +kernel, by decide +kernel⟩, by decide +kernel, rfl⟩
set_option maxRecDepth 20000 in
theorem mlL_25 : xMV RL 25 mX9_pageOf 1 9 := ⟨mcX9_pageOf, wG_t 738 (by decide +kernel) (by decide +kernel), wG_t 739 (by decide +kernel) (by decide +kernel), wG_t 740 (by decide +kernel) (by decide +kernel), rfl⟩
set_option maxRecDepth 20000 in
theorem mcX9_opening : xMc mX9_opening 2 := ⟨wG_t 745 (by decide +kernel) (by decide +kernel), wG_t 1 (by decide +kernel) (by decide +kernel), ⟨by decide +kernel, by decide +kernel, by decide +kernel⟩, by decide +kernel, rfl⟩
set_option maxRecDepth 20000 in
theorem mlL_28 : xMV RL 28 mX9_opening 2 9 := ⟨mcX9_opening, wG_t 742 (by decide +kernel) (by decide +kernel), wG_t 743 (by decide +kernel) (by decide +kernel), wG_t 744 (by decide +kernel) (by decide +kernel), rfl⟩
set_option maxRecDepth 20000 in
theorem mcX9_side : xMc mX9_side 4 := ⟨wG_t 751 (by decide +kernel) (by decide +kernel), wG_t 1 (by decide +kernel) (by decide +kernel), ⟨by decide +kernel, by decide +kernel, by decide +kernel⟩, by decide +kernel, rfl⟩
set_option maxRecDepth 20000 in
theorem mlL_31 : xMV RL 31 mX9_side 4 9 := ⟨mcX9_side, wG_t 748 (by decide +kernel) (by decide +kernel), wG_t 749 (by decide +kernel) (by decide +kernel), wG_t 750 (by decide +kernel) (by decide +kernel), rfl⟩
set_option maxRecDepth 20000 in
theorem mcX9_reading : xMc mX9_reading 1 := ⟨wG_t 763 (by decide +kernel) (by decide +kernel), wG_t 1 (by decide +kernel) (by decide +kernel), ⟨by decide +kernel, by decide +kernel, by decide +kernel⟩, by decide +kernel, rfl⟩
set_option maxRecDepth 20000 in
theorem mlL_35 : xMV RL 35 mX9_reading 1 9 := ⟨mcX9_reading, wG_t 760 (by decide +kernel) (by decide +kernel), wG_t 761 (by decide +kernel) (by decide +kernel), wG_t 762 (by decide +kernel) (by decide +kernel), rfl⟩
set_option maxRecDepth 20000 in
theorem mcX9_hanging : xMc mX9_hanging 1 := ⟨wG_t 770 (by decide +kernel) (by decide +kernel), wG_t 1 (by decide +kernel) (by decide +kernel), ⟨by decide +kernel, by decide +kernel, by decide +kernel⟩, by decide +kernel, rfl⟩
set_option maxRecDepth 20000 in
theorem mlL_38 : xMV RL 38 mX9_hanging 1 9 := ⟨mcX9_hanging, wG_t 767 (by decide +kernel) (by decide +kernel), wG_t 768 (by decide +kernel) (by decide +kernel), wG_t 769 (by decide +kernel) (by decide +kernel), rfl⟩
set_option maxRecDepth 20000 in
theorem mcX9_pieces : xMc mX9_pieces 0 := ⟨wG_t 776 (by decide +kernel) (by decide +kernel), wG_t 1 (by decide +kernel) (by decide +kernel), ⟨by decide +kernel, by decide +kernel, by decide +kernel⟩, by decide +kernel, rfl⟩
set_option maxRecDepth 20000 in
theorem mlL_41 : xMV RL 41 mX9_pieces 0 9 := ⟨mcX9_pieces, wG_t 773 (by decide +kernel) (by decide +kernel), wG_t 774 (by decide +kernel) (by decide +kernel), wG_t 775 (by decide +kernel) (by decide +kernel), rfl⟩
set_option maxRecDepth 20000 in
theorem mlL_45 : xMV RL 45 mX9_cutsFor 1 9 := ⟨mcX9_cutsFor, wG_t 552 (by decide +kernel) (by decide +kernel), wG_t 553 (by decide +kernel) (by decide +kernel), wG_t 554 (by decide +kernel) (by decide +kernel), rfl⟩
set_option maxRecDepth 20000 in
theorem mcX9_cut : xMc mX9_cut 1 := ⟨wG_t 793 (by decide +kernel) (by decide +kernel), wG_t 1 (by decide +kernel) (by decide +kernel), ⟨by decide +kernel, by decide +kernel, by decide +kernel⟩, by decide +kernel, rfl⟩
set_option maxRecDepth 20000 in
theorem mlL_48 : xMV RL 48 mX9_cut 1 9 := ⟨mcX9_cut, wG_t 790 (by decide +kernel) (by decide +kernel), wG_t 791 (by decide +kernel) (by decide +kernel), wG_t 792 (by decide +kernel) (by decide +kernel), rfl⟩
set_option maxRecDepth 20000 in
theorem mcL_ones : xMc mL_ones 1 := ⟨wG_t 608 (by decide +kernel) (by decide +kernel), wG_t 0 (by decide +kernel) (by decide +kernel), ⟨by decide +kernel, by decide +kernel, by decide +kernel⟩, by decide +kernel, rfl⟩
set_option maxRecDepth 20000 in
theorem mlL_51 : xMS RL 51 mL_ones 1 := ⟨mcL_ones, wG_t 606 (by decide +kernel) (by decide +kernel), wG_t 607 (by decide +kernel) (by decide +kernel)⟩
set_option maxRecDepth 20000 in
theorem mcX9_unfold : xMc mX9_unfold 0 := ⟨wG_t 802 (by decide +kernel) (by decide +kernel), wG_t 1 (by decide +kernel) (by decide +kernel), ⟨by decide +kernel, by decide +kernel, by decide +kernel⟩, by decide +kernel, rfl⟩
set_option maxRecDepth 20000 in
theorem mlL_56 : xMV RL 56 mX9_unfold 0 9 := ⟨mcX9_unfold, wG_t 799 (by decide +kernel) (by decide +kernel), wG_t 800 (by decide +kernel) (by decide +kernel), wG_t 801 (by decide +kernel) (by decide +kernel), rfl⟩
set_option maxRecDepth 20000 in
theorem mcX9_printAll : xMc mX9_printAll 1 := ⟨wG_t 379 (by decide +kernel) (by decide +kernel), wG_t 1 (by decide +kernel) (by decide +kernel), ⟨by decide +kernel, by decide +kernel, by decide +kernel⟩, by decide +kernel, rfl⟩
set_option maxRecDepth 20000 in
theorem mlL_59 : xMV RL 59 mX9_printAll 1 9 := ⟨mcX9_printAll, wG_t 376 (by decide +kernel) (by decide +kernel), wG_t 377 (by decide +kernel) (by decide +kernel), wG_t 378 (by decide +kernel) (by decide +kernel), rfl⟩
set_option maxRecDepth 20000 in
theorem mcX9_setLegs : xMc mX9_setLegs 1 := ⟨wG_t 813 (by decide +kernel) (by decide +kernel), wG_t 1 (by decide +kernel) (by decide +kernel), ⟨by decide +kernel, by decide +kernel, by decide +kernel⟩, by decide +kernel, rfl⟩
set_option maxRecDepth 20000 in
theorem mlL_62 : xMV RL 62 mX9_setLegs 1 9 := ⟨mcX9_setLegs, wG_t 810 (by decide +kernel) (by decide +kernel), wG_t 811 (by decide +kernel) (by decide +kernel), wG_t 812 (by decide +kernel) (by decide +kernel), rfl⟩
set_option maxRecDepth 20000 in
theorem mcX9_staple : xMc mX9_staple 1 := ⟨wG_t 821 (by decide +kernel) (by decide +kernel), wG_t 1 (by decide +kernel) (by decide +kernel), ⟨by decide +kernel, by decide +kernel, by decide +kernel⟩, by decide +kernel, rfl⟩
set_option maxRecDepth 20000 in
theorem mlL_65 : xMV RL 65 mX9_staple 1 9 := ⟨mcX9_staple, wG_t 818 (by decide +kernel) (by decide +kernel), wG_t 819 (by decide +kernel) (by decide +kernel), wG_t 820 (by decide +kernel) (by decide +kernel), rfl⟩
set_option maxRecDepth 20000 in
theorem mcX9_setSpine : xMc mX9_setSpine 1 := ⟨wG_t 370 (by decide +kernel) (by decide +kernel), wG_t 1 (by decide +kernel) (by decide +kernel), ⟨by decide +kernel, by decide +kernel, by decide +kernel⟩, by decide +kernel, rfl⟩
set_option maxRecDepth 20000 in
theorem mlL_68 : xMV RL 68 mX9_setSpine 1 9 := ⟨mcX9_setSpine, wG_t 367 (by decide +kernel) (by decide +kernel), wG_t 368 (by decide +kernel) (by decide +kernel), wG_t 369 (by decide +kernel) (by decide +kernel), rfl⟩
set_option maxRecDepth 20000 in
theorem mcX9_unstaple : xMc mX9_unstaple 1 := ⟨wG_t 831 (by decide +kernel) (by decide +kernel), wG_t 1 (by decide +kernel) (by decide +kernel), ⟨by decide +kernel, by decide +kernel, by decide +kernel⟩, by decide +kernel, rfl⟩
set_option maxRecDepth 20000 in
theorem mlL_71 : xMV RL 71 mX9_unstaple 1 9 := ⟨mcX9_unstaple, wG_t 828 (by decide +kernel) (by decide +kernel), wG_t 829 (by decide +kernel) (by decide +kernel), wG_t 830 (by decide +kernel) (by decide +kernel), rfl⟩
set_option maxRecDepth 20000 in
theorem mcX9_undo : xMc mX9_undo 0 := ⟨wG_t 839 (by decide +kernel) (by decide +kernel), wG_t 1 (by decide +kernel) (by decide +kernel), ⟨by decide +kernel, by decide +kernel, by decide +kernel⟩, by decide +kernel, rfl⟩
set_option maxRecDepth 20000 in
theorem mlL_74 : xMV RL 74 mX9_undo 0 9 := ⟨mcX9_undo, wG_t 836 (by decide +kernel) (by decide +kernel), wG_t 837 (by decide +kernel) (by decide +kernel), wG_t 838 (by decide +kernel) (by decide +kernel), rfl⟩
