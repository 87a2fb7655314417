/-! The methods, and what the tables say of links. -/
abbrev mX0_init : xM := (yX0_init, cX0_init, 1, none)
abbrev mX0_copyFrom : xM := (yX0_copyFrom, cX0_copyFrom, 2, none)
abbrev mX0_isFixed : xM := (yX0_isFixed, cX0_isFixed, 1, some .boolean)
abbrev mX0_isOpenAndFree : xM := (yX0_isOpenAndFree, cX0_isOpenAndFree, 1, some .boolean)
abbrev mX0_effortOf : xM := (yX0_effortOf, cX0_effortOf, 2, some .int)
abbrev mX0_isLength : xM := (yX0_isLength, cX0_isLength, 1, some .boolean)
abbrev mX0_takeSheet : xM := (yX0_takeSheet, cX0_takeSheet, 3, some .int)
abbrev mX0_foldOnce : xM := (yX0_foldOnce, cX0_foldOnce, 2, some .int)
abbrev mX0_foldBack : xM := (yX0_foldBack, cX0_foldBack, 1, some .int)
abbrev mX0_moveSpine : xM := (yX0_moveSpine, cX0_moveSpine, 3, some .int)
abbrev mX0_printSide : xM := (yX0_printSide, cX0_printSide, 8, some .int)
abbrev mX0_printSheet : xM := (yX0_printSheet, cX0_printSheet, 5, some .int)
abbrev mX0_cutAlong : xM := (yX0_cutAlong, cX0_cutAlong, 2, some .int)
abbrev mX0_setStaple : xM := (yX0_setStaple, cX0_setStaple, 2, some .int)
abbrev mX0_drawStaple : xM := (yX0_drawStaple, cX0_drawStaple, 2, some .int)
abbrev mX0_changeLegs : xM := (yX0_changeLegs, cX0_changeLegs, 3, some .int)
abbrev mX0_changeLines : xM := (yX0_changeLines, cX0_changeLines, 3, some .int)
abbrev mX0_keepSight : xM := (yX0_keepSight, cX0_keepSight, 4, some .int)
abbrev mX0_numberOn : xM := (yX0_numberOn, cX0_numberOn, 3, some .int)
abbrev mX0_turnForUpright : xM := (yX0_turnForUpright, cX0_turnForUpright, 4, some .int)
abbrev mX0_isUpright : xM := (yX0_isUpright, cX0_isUpright, 3, some .boolean)
abbrev mX0_shutEdges : xM := (yX0_shutEdges, cX0_shutEdges, 5, some .int)
abbrev mX0_spineEdge : xM := (yX0_spineEdge, cX0_spineEdge, 1, some .int)
abbrev mX0_linesAt : xM := (yX0_linesAt, cX0_linesAt, 2, some .int)
abbrev mX0_isHidden : xM := (yX0_isHidden, cX0_isHidden, 2, some .boolean)
abbrev mX0_whyNotRead : xM := (yX0_whyNotRead, cX0_whyNotRead, 3, some .int)
abbrev mX0_countPieces : xM := (yX0_countPieces, cX0_countPieces, 4, some .int)
abbrev mX0_pieceWith : xM := (yX0_pieceWith, cX0_pieceWith, 6, some .int)
abbrev mX0_heldWith : xM := (yX0_heldWith, cX0_heldWith, 5, some .int)
abbrev mX0_showsAllSights : xM := (yX0_showsAllSights, cX0_showsAllSights, 5, some .boolean)
abbrev mX0_pagesInOrder : xM := (yX0_pagesInOrder, cX0_pagesInOrder, 3, some .int)
abbrev mX0_edgesToCut : xM := (yX0_edgesToCut, cX0_edgesToCut, 4, some .int)
abbrev mX1_init : xM := (yX1_init, cX1_init, 1, none)
abbrev mX1_keep : xM := (yX1_keep, cX1_keep, 2, none)
abbrev mX1_bringBack : xM := (yX1_bringBack, cX1_bringBack, 2, none)
abbrev mX1_settle : xM := (yX1_settle, cX1_settle, 2, some .int)
abbrev mX1_dropOldest : xM := (yX1_dropOldest, cX1_dropOldest, 3, none)
abbrev mX1_goBack : xM := (yX1_goBack, cX1_goBack, 2, some .int)
abbrev mX2_init : xM := (yX2_init, cX2_init, 1, none)
abbrev mX2_arrange : xM := (yX2_arrange, cX2_arrange, 7, none)
abbrev mX2_countLines : xM := (yX2_countLines, cX2_countLines, 3, none)
abbrev mX2_listPages : xM := (yX2_listPages, cX2_listPages, 3, none)
abbrev mX2_sort : xM := (yX2_sort, cX2_sort, 4, none)
abbrev mX2_keepFirstLine : xM := (yX2_keepFirstLine, cX2_keepFirstLine, 3, none)
abbrev mX2_linesOf : xM := (yX2_linesOf, cX2_linesOf, 2, some .int)
abbrev mX2_roomFor : xM := (yX2_roomFor, cX2_roomFor, 3, some .int)
abbrev mX2_roomForWhole : xM := (yX2_roomForWhole, cX2_roomForWhole, 5, some .int)
abbrev mX2_firstLineOf : xM := (yX2_firstLineOf, cX2_firstLineOf, 2, some .int)
abbrev mX2_pageOfLine : xM := (yX2_pageOfLine, cX2_pageOfLine, 2, some .int)
abbrev mX2_lineOnPage : xM := (yX2_lineOnPage, cX2_lineOnPage, 2, some .int)
abbrev mX2_firstLineAbout : xM := (yX2_firstLineAbout, cX2_firstLineAbout, 6, some .int)
abbrev mX2_takenOn : xM := (yX2_takenOn, cX2_takenOn, 7, some .int)
abbrev mX3_init : xM := (yX3_init, cX3_init, 1, none)
abbrev mX3_copyFrom : xM := (yX3_copyFrom, cX3_copyFrom, 2, none)
abbrev mX3_spread : xM := (yX3_spread, cX3_spread, 4, none)
abbrev mX3_places : xM := (yX3_places, cX3_places, 1, some .int)
abbrev mX3_depth : xM := (yX3_depth, cX3_depth, 1, some .int)
abbrev mX3_isBooklet : xM := (yX3_isBooklet, cX3_isBooklet, 1, some .boolean)
abbrev mX3_lastPage : xM := (yX3_lastPage, cX3_lastPage, 1, some .int)
abbrev mX3_canFold : xM := (yX3_canFold, cX3_canFold, 2, some .boolean)
abbrev mX3_lay : xM := (yX3_lay, cX3_lay, 10, none)
abbrev mX3_pile : xM := (yX3_pile, cX3_pile, 8, none)
abbrev mX3_foldBy : xM := (yX3_foldBy, cX3_foldBy, 6, some .boolean)
abbrev mX3_at : xM := (yX3_at, cX3_at, 2, some .int)
abbrev mX3_rowAt : xM := (yX3_rowAt, cX3_rowAt, 2, some .int)
abbrev mX3_columnAt : xM := (yX3_columnAt, cX3_columnAt, 2, some .int)
abbrev mX3_rowOf : xM := (yX3_rowOf, cX3_rowOf, 1, some .int)
abbrev mX3_columnOf : xM := (yX3_columnOf, cX3_columnOf, 1, some .int)
abbrev mX3_isMirrored : xM := (yX3_isMirrored, cX3_isMirrored, 2, some .boolean)
abbrev mX3_isUpsideDown : xM := (yX3_isUpsideDown, cX3_isUpsideDown, 2, some .boolean)
abbrev mX3_sideUpAt : xM := (yX3_sideUpAt, cX3_sideUpAt, 2, some .int)
abbrev mX3_sideOfPage : xM := (yX3_sideOfPage, cX3_sideOfPage, 2, some .int)
abbrev mX3_paperPlace : xM := (yX3_paperPlace, cX3_paperPlace, 3, some .int)
abbrev mX3_sideUp : xM := (yX3_sideUp, cX3_sideUp, 3, some .int)
abbrev mX3_edgesBetween : xM := (yX3_edgesBetween, cX3_edgesBetween, 7, some .int)
abbrev mX3_edgeToRight : xM := (yX3_edgeToRight, cX3_edgeToRight, 1, some .int)
abbrev mX3_edgeBelow : xM := (yX3_edgeBelow, cX3_edgeBelow, 1, some .int)
abbrev mX3_pairsAlong : xM := (yX3_pairsAlong, cX3_pairsAlong, 4, some .int)
abbrev mX4_init : xM := (yX4_init, cX4_init, 1, none)
abbrev mX4_copyFrom : xM := (yX4_copyFrom, cX4_copyFrom, 2, none)
abbrev mX4_has : xM := (yX4_has, cX4_has, 2, some .boolean)
abbrev mX4_put : xM := (yX4_put, cX4_put, 5, some .int)
abbrev mX4_drop : xM := (yX4_drop, cX4_drop, 3, some .int)
abbrev mX4_get : xM := (yX4_get, cX4_get, 4, some .int)
abbrev mX4_subjectOf : xM := (yX4_subjectOf, cX4_subjectOf, 2, some .int)
abbrev mX4_linesOf : xM := (yX4_linesOf, cX4_linesOf, 2, some .int)
abbrev mX4_isWhole : xM := (yX4_isWhole, cX4_isWhole, 2, some .boolean)
abbrev mX4_comesBefore : xM := (yX4_comesBefore, cX4_comesBefore, 3, some .boolean)
abbrev mX5_init : xM := (yX5_init, cX5_init, 1, none)
abbrev mX5_copyFrom : xM := (yX5_copyFrom, cX5_copyFrom, 2, none)
abbrev mX5_renew : xM := (yX5_renew, cX5_renew, 3, none)
abbrev mX5_cells : xM := (yX5_cells, cX5_cells, 1, some .int)
abbrev mX5_hasSide : xM := (yX5_hasSide, cX5_hasSide, 4, some .boolean)
abbrev mX5_numberAt : xM := (yX5_numberAt, cX5_numberAt, 2, some .int)
abbrev mX5_turnAt : xM := (yX5_turnAt, cX5_turnAt, 2, some .int)
abbrev mX5_stamp : xM := (yX5_stamp, cX5_stamp, 4, some .int)
abbrev mX6_init : xM := (yX6_init, cX6_init, 1, none)
abbrev mX6_start : xM := (yX6_start, cX6_start, 3, none)
abbrev mX6_hasToken : xM := (yX6_hasToken, cX6_hasToken, 1, some .boolean)
abbrev mX6_advance : xM := (yX6_advance, cX6_advance, 1, none)
abbrev mX6_isOneRun : xM := (yX6_isOneRun, cX6_isOneRun, 2, some .boolean)
abbrev mX6_isLetter : xM := (yX6_isLetter, cX6_isLetter, 1, some .boolean)
abbrev mX6_isDigit : xM := (yX6_isDigit, cX6_isDigit, 1, some .boolean)
abbrev mX6_at : xM := (yX6_at, cX6_at, 2, some .int)
abbrev mX6_isWord : xM := (yX6_isWord, cX6_isWord, 3, some .boolean)
abbrev mX6_isCharacter : xM := (yX6_isCharacter, cX6_isCharacter, 2, some .boolean)
abbrev mX6_isNumber : xM := (yX6_isNumber, cX6_isNumber, 3, some .boolean)
abbrev mX6_numberValue : xM := (yX6_numberValue, cX6_numberValue, 3, some .int)
abbrev mX7_init : xM := (yX7_init, cX7_init, 1, none)
abbrev mX7_copyFrom : xM := (yX7_copyFrom, cX7_copyFrom, 2, none)
abbrev mX7_dropAll : xM := (yX7_dropAll, cX7_dropAll, 2, some .int)
abbrev mX7_put : xM := (yX7_put, cX7_put, 4, some .int)
abbrev mX8_init : xM := (yX8_init, cX8_init, 1, none)
abbrev mX8_copyFrom : xM := (yX8_copyFrom, cX8_copyFrom, 3, none)
abbrev mX8_fillSlot : xM := (yX8_fillSlot, cX8_fillSlot, 2, some .int)
abbrev mX8_useSlot : xM := (yX8_useSlot, cX8_useSlot, 2, some .int)
abbrev mX9_init : xM := (yX9_init, cX9_init, 1, none)
abbrev mX9_setSheet : xM := (yX9_setSheet, cX9_setSheet, 3, some .int)
abbrev mX9_fold : xM := (yX9_fold, cX9_fold, 2, some .int)
abbrev mX9_unfold : xM := (yX9_unfold, cX9_unfold, 1, some .int)
abbrev mX9_setSpine : xM := (yX9_setSpine, cX9_setSpine, 2, some .int)
abbrev mX9_print : xM := (yX9_print, cX9_print, 6, some .int)
abbrev mX9_printAll : xM := (yX9_printAll, cX9_printAll, 2, some .int)
abbrev mX9_cut : xM := (yX9_cut, cX9_cut, 2, some .int)
abbrev mX9_staple : xM := (yX9_staple, cX9_staple, 2, some .int)
abbrev mX9_unstaple : xM := (yX9_unstaple, cX9_unstaple, 2, some .int)
abbrev mX9_setLegs : xM := (yX9_setLegs, cX9_setLegs, 2, some .int)
abbrev mX9_see : xM := (yX9_see, cX9_see, 4, some .int)
abbrev mX9_forget : xM := (yX9_forget, cX9_forget, 1, some .int)
abbrev mX9_addNote : xM := (yX9_addNote, cX9_addNote, 5, some .int)
abbrev mX9_removeNote : xM := (yX9_removeNote, cX9_removeNote, 2, some .int)
abbrev mX9_setLines : xM := (yX9_setLines, cX9_setLines, 2, some .int)
abbrev mX9_take : xM := (yX9_take, cX9_take, 2, some .int)
abbrev mX9_restore : xM := (yX9_restore, cX9_restore, 2, some .int)
abbrev mX9_undo : xM := (yX9_undo, cX9_undo, 1, some .int)
abbrev mX9_append : xM := (yX9_append, cX9_append, 2, some .int)
abbrev mX9_clearText : xM := (yX9_clearText, cX9_clearText, 2, some .int)
abbrev mX9_run : xM := (yX9_run, cX9_run, 5, some .int)
abbrev mX9_readCommand : xM := (yX9_readCommand, cX9_readCommand, 2, some .int)
abbrev mX9_readArguments : xM := (yX9_readArguments, cX9_readArguments, 4, none)
abbrev mX9_readArgument : xM := (yX9_readArgument, cX9_readArgument, 2, none)
abbrev mX9_mostNumbers : xM := (yX9_mostNumbers, cX9_mostNumbers, 1, some .int)
abbrev mX9_fewestArguments : xM := (yX9_fewestArguments, cX9_fewestArguments, 1, some .int)
abbrev mX9_commandAt : xM := (yX9_commandAt, cX9_commandAt, 2, some .int)
abbrev mX9_wordOf : xM := (yX9_wordOf, cX9_wordOf, 1, some (.object "java/lang/String"))
abbrev mX9_edgeAt : xM := (yX9_edgeAt, cX9_edgeAt, 2, some .int)
abbrev mX9_obey : xM := (yX9_obey, cX9_obey, 3, some .int)
abbrev mX9_obeyFolds : xM := (yX9_obeyFolds, cX9_obeyFolds, 4, some .int)
abbrev mX9_count : xM := (yX9_count, cX9_count, 3, some .int)
abbrev mX9_side : xM := (yX9_side, cX9_side, 7, some .int)
abbrev mX9_layer : xM := (yX9_layer, cX9_layer, 6, some .int)
abbrev mX9_page : xM := (yX9_page, cX9_page, 4, some .int)
abbrev mX9_uprightOn : xM := (yX9_uprightOn, cX9_uprightOn, 2, some .int)
abbrev mX9_opening : xM := (yX9_opening, cX9_opening, 4, some .int)
abbrev mX9_hanging : xM := (yX9_hanging, cX9_hanging, 3, some .int)
abbrev mX9_together : xM := (yX9_together, cX9_together, 5, some .int)
abbrev mX9_pieces : xM := (yX9_pieces, cX9_pieces, 2, some .int)
abbrev mX9_reading : xM := (yX9_reading, cX9_reading, 6, some .int)
abbrev mX9_pageOf : xM := (yX9_pageOf, cX9_pageOf, 5, some .int)
abbrev mX9_note : xM := (yX9_note, cX9_note, 5, some .int)
abbrev mX9_index : xM := (yX9_index, cX9_index, 7, some .int)
abbrev mX9_effort : xM := (yX9_effort, cX9_effort, 2, some .int)
abbrev mX9_fitting : xM := (yX9_fitting, cX9_fitting, 7, some .int)
abbrev mX9_readsBy : xM := (yX9_readsBy, cX9_readsBy, 2, some .int)
abbrev mX9_cutsFor : xM := (yX9_cutsFor, cX9_cutsFor, 2, some .int)
abbrev mX9_best : xM := (yX9_best, cX9_best, 3, some .int)
abbrev mX9_bestFolds : xM := (yX9_bestFolds, cX9_bestFolds, 6, some .int)
abbrev mX9_tryFolds : xM := (yX9_tryFolds, cX9_tryFolds, 2, some .boolean)
abbrev mX9_rowOfFolds : xM := (yX9_rowOfFolds, cX9_rowOfFolds, 4, some .int)
abbrev mX9_isIn : xM := (yX9_isIn, cX9_isIn, 3, some .boolean)
abbrev mX9_isInSet : xM := (yX9_isInSet, cX9_isInSet, 2, some .boolean)
abbrev mX9_asNumber : xM := (yX9_asNumber, cX9_asNumber, 1, some .int)
abbrev mX9_isError : xM := (yX9_isError, cX9_isError, 1, some .boolean)
abbrev mX9_cellAt : xM := (yX9_cellAt, cX9_cellAt, 2, some .int)
abbrev mX9_placeOfSide : xM := (yX9_placeOfSide, cX9_placeOfSide, 2, some .int)
abbrev mX10_init : xM := (yX10_init, cX10_init, 1, none)
abbrev mX10_in : xM := (yX10_in, cX10_in, 6, some .boolean)
abbrev mX10_has : xM := (yX10_has, cX10_has, 2, some .boolean)
abbrev mX10_ones : xM := (yX10_ones, cX10_ones, 3, some .int)
abbrev mX10_noPrint : xM := (yX10_noPrint, cX10_noPrint, 2, none)
abbrev mX10_cells : xM := (yX10_cells, cX10_cells, 1, some .int)
abbrev mX10_isHeld : xM := (yX10_isHeld, cX10_isHeld, 1, some .boolean)
abbrev mX10_record : xM := (yX10_record, cX10_record, 2, none)
abbrev mX10_act : xM := (yX10_act, cX10_act, 1, none)
abbrev mX10_layOpen : xM := (yX10_layOpen, cX10_layOpen, 2, none)
abbrev mX10_mayFold : xM := (yX10_mayFold, cX10_mayFold, 2, some .boolean)
abbrev mX10_takeLayer : xM := (yX10_takeLayer, cX10_takeLayer, 4, none)
abbrev mX10_foldBy : xM := (yX10_foldBy, cX10_foldBy, 14, none)
abbrev mX10_layNow : xM := (yX10_layNow, cX10_layNow, 2, none)
abbrev mX10_isBooklet : xM := (yX10_isBooklet, cX10_isBooklet, 1, some .boolean)
abbrev mX10_layBy : xM := (yX10_layBy, cX10_layBy, 5, some .boolean)
abbrev mX10_sideOf : xM := (yX10_sideOf, cX10_sideOf, 3, some .int)
abbrev mX10_turnOf : xM := (yX10_turnOf, cX10_turnOf, 2, some .int)
abbrev mX10_isUpright : xM := (yX10_isUpright, cX10_isUpright, 2, some .boolean)
abbrev mX10_printedOn : xM := (yX10_printedOn, cX10_printedOn, 2, some .int)
abbrev mX10_spineEdge : xM := (yX10_spineEdge, cX10_spineEdge, 1, some .int)
abbrev mX10_edgeOf : xM := (yX10_edgeOf, cX10_edgeOf, 7, some .int)
abbrev mX10_shutBy : xM := (yX10_shutBy, cX10_shutBy, 7, some .int)
abbrev mX10_isHidden : xM := (yX10_isHidden, cX10_isHidden, 2, some .boolean)
abbrev mX10_isItsOwn : xM := (yX10_isItsOwn, cX10_isItsOwn, 2, some .boolean)
abbrev mX10_isSide : xM := (yX10_isSide, cX10_isSide, 1, some .boolean)
abbrev mX10_setSheet : xM := (yX10_setSheet, cX10_setSheet, 3, some .int)
abbrev mX10_fold : xM := (yX10_fold, cX10_fold, 2, some .int)
abbrev mX10_unfold : xM := (yX10_unfold, cX10_unfold, 1, some .int)
abbrev mX10_setSpine : xM := (yX10_setSpine, cX10_setSpine, 3, some .int)
abbrev mX10_isCell : xM := (yX10_isCell, cX10_isCell, 3, some .boolean)
abbrev mX10_printOn : xM := (yX10_printOn, cX10_printOn, 6, some .int)
abbrev mX10_print : xM := (yX10_print, cX10_print, 8, some .int)
abbrev mX10_printAll : xM := (yX10_printAll, cX10_printAll, 4, some .int)
abbrev mX10_pairsAt : xM := (yX10_pairsAt, cX10_pairsAt, 5, some .int)
abbrev mX10_cut : xM := (yX10_cut, cX10_cut, 2, some .int)
abbrev mX10_staple : xM := (yX10_staple, cX10_staple, 2, some .int)
abbrev mX10_unstaple : xM := (yX10_unstaple, cX10_unstaple, 2, some .int)
abbrev mX10_setLegs : xM := (yX10_setLegs, cX10_setLegs, 3, some .int)
abbrev mX10_see : xM := (yX10_see, cX10_see, 5, some .int)
abbrev mX10_forget : xM := (yX10_forget, cX10_forget, 2, some .int)
abbrev mX10_addNote : xM := (yX10_addNote, cX10_addNote, 6, some .int)
abbrev mX10_removeNote : xM := (yX10_removeNote, cX10_removeNote, 3, some .int)
abbrev mX10_setLines : xM := (yX10_setLines, cX10_setLines, 3, some .int)
abbrev mX10_take : xM := (yX10_take, cX10_take, 3, some .int)
abbrev mX10_restore : xM := (yX10_restore, cX10_restore, 3, some .int)
abbrev mX10_undo : xM := (yX10_undo, cX10_undo, 2, some .int)
abbrev mX10_append : xM := (yX10_append, cX10_append, 2, some .int)
abbrev mX10_clearText : xM := (yX10_clearText, cX10_clearText, 2, some .int)
abbrev mX10_isLetter : xM := (yX10_isLetter, cX10_isLetter, 1, some .boolean)
abbrev mX10_isFigure : xM := (yX10_isFigure, cX10_isFigure, 1, some .boolean)
abbrev mX10_readWord : xM := (yX10_readWord, cX10_readWord, 2, none)
abbrev mX10_readNumber : xM := (yX10_readNumber, cX10_readNumber, 3, none)
abbrev mX10_next : xM := (yX10_next, cX10_next, 1, none)
abbrev mX10_numbers : xM := (yX10_numbers, cX10_numbers, 3, some .boolean)
abbrev mX10_edgeWord : xM := (yX10_edgeWord, cX10_edgeWord, 2, some .int)
abbrev mX10_readsNeeds : xM := (yX10_readsNeeds, cX10_readsNeeds, 5, some .boolean)
abbrev mX10_isCommand : xM := (yX10_isCommand, cX10_isCommand, 2, some .boolean)
abbrev mX10_doFolds : xM := (yX10_doFolds, cX10_doFolds, 3, some .int)
abbrev mX10_doCommand : xM := (yX10_doCommand, cX10_doCommand, 3, some .int)
abbrev mX10_runAll : xM := (yX10_runAll, cX10_runAll, 5, some .int)
abbrev mX10_run : xM := (yX10_run, cX10_run, 4, some .int)
abbrev mX10_foldsNow : xM := (yX10_foldsNow, cX10_foldsNow, 3, some .int)
abbrev mX10_count : xM := (yX10_count, cX10_count, 2, some .int)
abbrev mX10_side : xM := (yX10_side, cX10_side, 6, some .int)
abbrev mX10_layer : xM := (yX10_layer, cX10_layer, 6, some .int)
abbrev mX10_page : xM := (yX10_page, cX10_page, 5, some .int)
abbrev mX10_opening : xM := (yX10_opening, cX10_opening, 5, some .int)
abbrev mX10_hanging : xM := (yX10_hanging, cX10_hanging, 2, some .int)
abbrev mX10_together : xM := (yX10_together, cX10_together, 4, some .int)
abbrev mX10_pieces : xM := (yX10_pieces, cX10_pieces, 6, some .int)
abbrev mX10_joins : xM := (yX10_joins, cX10_joins, 4, none)
abbrev mX10_reading : xM := (yX10_reading, cX10_reading, 3, some .int)
abbrev mX10_pageOf : xM := (yX10_pageOf, cX10_pageOf, 3, some .int)
abbrev mX10_openingOf : xM := (yX10_openingOf, cX10_openingOf, 2, some .int)
abbrev mX10_comesAhead : xM := (yX10_comesAhead, cX10_comesAhead, 5, some .boolean)
abbrev mX10_wholeFrom : xM := (yX10_wholeFrom, cX10_wholeFrom, 6, some .int)
abbrev mX10_layNotes : xM := (yX10_layNotes, cX10_layNotes, 7, none)
abbrev mX10_linesOn : xM := (yX10_linesOn, cX10_linesOn, 6, some .int)
abbrev mX10_note : xM := (yX10_note, cX10_note, 5, some .int)
abbrev mX10_pageBy : xM := (yX10_pageBy, cX10_pageBy, 5, some .int)
abbrev mX10_index : xM := (yX10_index, cX10_index, 6, some .int)
abbrev mX10_effort : xM := (yX10_effort, cX10_effort, 2, some .int)
abbrev mX10_isSeen : xM := (yX10_isSeen, cX10_isSeen, 4, some .boolean)
abbrev mX10_fitting : xM := (yX10_fitting, cX10_fitting, 6, some .int)
abbrev mX10_ownPages : xM := (yX10_ownPages, cX10_ownPages, 2, some .int)
abbrev mX10_readsBy : xM := (yX10_readsBy, cX10_readsBy, 2, some .int)
abbrev mX10_edgesToCut : xM := (yX10_edgesToCut, cX10_edgesToCut, 5, some .int)
abbrev mX10_cutsFor : xM := (yX10_cutsFor, cX10_cutsFor, 2, some .int)
abbrev mX10_best : xM := (yX10_best, cX10_best, 9, some .int)
abbrev mJ6_bitCount_0f7a4 : xM := (yJ6_bitCount_0f7a4, cJ6_bitCount_0f7a4, 1, some .int)
abbrev mJ9_max_7cf53 : xM := (yJ9_max_7cf53, cJ9_max_7cf53, 2, some .int)
abbrev mJ9_min_7cf53 : xM := (yJ9_min_7cf53, cJ9_min_7cf53, 2, some .int)
abbrev mJ0_length_8abf5 : xM := (yJ0_length_8abf5, cJ0_length_8abf5, 1, some .int)
abbrev mJ0_charAt_5068e : xM := (yJ0_charAt_5068e, cJ0_charAt_5068e, 2, some .char)
abbrev mJ0_coder_7d493 : xM := (yJ0_coder_7d493, cJ0_coder_7d493, 1, some .byte)
abbrev mJ0_isLatin1_aae02 : xM := (yJ0_isLatin1_aae02, cJ0_isLatin1_aae02, 1, some .boolean)
abbrev mJ0_checkIndex_df160 : xM := (yJ0_checkIndex_df160, cJ0_checkIndex_df160, 2, none)
abbrev mJ1_charAt_3b067 : xM := (yJ1_charAt_3b067, cJ1_charAt_3b067, 2, some .char)
abbrev mJ2_getChar_3b067 : xM := (yJ2_getChar_3b067, cJ2_getChar_3b067, 2, some .char)
abbrev mJ2_length_9d52b : xM := (yJ2_length_9d52b, cJ2_length_9d52b, 1, some .int)
abbrev mJ2_charAt_3b067 : xM := (yJ2_charAt_3b067, cJ2_charAt_3b067, 2, some .char)
abbrev mJ2_checkIndex_2214a : xM := (yJ2_checkIndex_2214a, cJ2_checkIndex_2214a, 2, none)
abbrev mJ7_fill_53178 : xM := (yJ7_fill_53178, cJ7_fill_53178, 4, none)
abbrev mJ3_checkIndex_8e157 : xM := (yJ3_checkIndex_8e157, cJ3_checkIndex_8e157, 3, some .int)
set_option maxRecDepth 20000 in
theorem flX0_12 : xGF RX0 12 0 0 := ⟨by decide, wG_t 153 (by decide +kernel) (by decide +kernel)⟩
set_option maxRecDepth 20000 in
theorem mcX5_copyFrom : xMc mX5_copyFrom 1 := ⟨wG_t 327 (by decide +kernel) (by decide +kernel), wG_t 4 (by decide +kernel) (by decide +kernel), ⟨by decide +kernel, by decide +kernel, by decide +kernel⟩, by decide +kernel, rfl⟩
set_option maxRecDepth 20000 in
theorem mlX0_66 : xMV RX0 66 mX5_copyFrom 1 5 := ⟨mcX5_copyFrom, wG_t 324 (by decide +kernel) (by decide +kernel), wG_t 325 (by decide +kernel) (by decide +kernel), wG_t 326 (by decide +kernel) (by decide +kernel), rfl⟩
set_option maxRecDepth 20000 in
theorem flX0_21 : xGF RX0 21 0 1 := ⟨by decide, wG_t 155 (by decide +kernel) (by decide +kernel)⟩
set_option maxRecDepth 20000 in
theorem mcX3_copyFrom : xMc mX3_copyFrom 1 := ⟨wG_t 334 (by decide +kernel) (by decide +kernel), wG_t 5 (by decide +kernel) (by decide +kernel), ⟨by decide +kernel, by decide +kernel, by decide +kernel⟩, by decide +kernel, rfl⟩
set_option maxRecDepth 20000 in
theorem mlX0_70 : xMV RX0 70 mX3_copyFrom 1 3 := ⟨mcX3_copyFrom, wG_t 331 (by decide +kernel) (by decide +kernel), wG_t 332 (by decide +kernel) (by decide +kernel), wG_t 333 (by decide +kernel) (by decide +kernel), rfl⟩
set_option maxRecDepth 20000 in
theorem flX0_28 : xGF RX0 28 0 2 := ⟨by decide, wG_t 159 (by decide +kernel) (by decide +kernel)⟩
set_option maxRecDepth 20000 in
theorem mcX7_copyFrom : xMc mX7_copyFrom 1 := ⟨wG_t 339 (by decide +kernel) (by decide +kernel), wG_t 6 (by decide +kernel) (by decide +kernel), ⟨by decide +kernel, by decide +kernel, by decide +kernel⟩, by decide +kernel, rfl⟩
set_option maxRecDepth 20000 in
theorem mlX0_73 : xMV RX0 73 mX7_copyFrom 1 7 := ⟨mcX7_copyFrom, wG_t 336 (by decide +kernel) (by decide +kernel), wG_t 337 (by decide +kernel) (by decide +kernel), wG_t 338 (by decide +kernel) (by decide +kernel), rfl⟩
set_option maxRecDepth 20000 in
theorem flX0_35 : xGF RX0 35 0 3 := ⟨by decide, wG_t 161 (by decide +kernel) (by decide +kernel)⟩
set_option maxRecDepth 20000 in
theorem mcX4_copyFrom : xMc mX4_copyFrom 1 := ⟨wG_t 344 (by decide +kernel) (by decide +kernel), wG_t 7 (by decide +kernel) (by decide +kernel), ⟨by decide +kernel, by decide +kernel, by decide +kernel⟩, by decide +kernel, rfl⟩
set_option maxRecDepth 20000 in
theorem mlX0_76 : xMV RX0 76 mX4_copyFrom 1 4 := ⟨mcX4_copyFrom, wG_t 341 (by decide +kernel) (by decide +kernel), wG_t 342 (by decide +kernel) (by decide +kernel), wG_t 343 (by decide +kernel) (by decide +kernel), rfl⟩
set_option maxRecDepth 20000 in
theorem flX0_39 : xGF RX0 39 0 4 := ⟨by decide, wG_t 164 (by decide +kernel) (by decide +kernel)⟩
theorem cw_346 : ((Jvm.Cond.methodLink "CribBooklet$Desk" (79 : Nat) ({ cls := "java/lang/System", name := "arraycopy", desc := "(Ljava/lang/Object;ILjava/lang/Object;II)V" } : Jvm.MethodName)) : Cond) ∈ wG := wG_t 346 (by decide +kernel) (by decide +kernel)
theorem cw_330 : ((Jvm.Cond.native ({ cls := "java/lang/System", name := "arraycopy", desc := "(Ljava/lang/Object;ILjava/lang/Object;II)V" } : Jvm.MethodName)) : Cond) ∈ wG := wG_t 330 (by decide +kernel) (by decide +kernel)
theorem cw_329 : ((Jvm.Cond.static ({ cls := "java/lang/System", name := "arraycopy", desc := "(Ljava/lang/Object;ILjava/lang/Object;II)V" } : Jvm.MethodName)) : Cond) ∈ wG := wG_t 329 (by decide +kernel) (by decide +kernel)
theorem cw_13 : ((Jvm.Cond.initialized "java/lang/System") : Cond) ∈ wG := wG_t 13 (by decide +kernel) (by decide +kernel)
set_option maxRecDepth 20000 in
theorem flX0_43 : xGF RX0 43 0 5 := ⟨by decide, wG_t 165 (by decide +kernel) (by decide +kernel)⟩
set_option maxRecDepth 20000 in
theorem flX0_47 : xGF RX0 47 0 6 := ⟨by decide, wG_t 167 (by decide +kernel) (by decide +kernel)⟩
set_option maxRecDepth 20000 in
theorem flX0_50 : xGF RX0 50 0 7 := ⟨by decide, wG_t 169 (by decide +kernel) (by decide +kernel)⟩
set_option maxRecDepth 20000 in
theorem flX0_53 : xGF RX0 53 0 8 := ⟨by decide, wG_t 171 (by decide +kernel) (by decide +kernel)⟩
set_option maxRecDepth 20000 in
theorem flX0_56 : xGF RX0 56 0 9 := ⟨by decide, wG_t 173 (by decide +kernel) (by decide +kernel)⟩
set_option maxRecDepth 20000 in
theorem flX0_85 : xGF RX0 85 3 5 := ⟨by decide, wG_t 79 (by decide +kernel) (by decide +kernel)⟩
set_option maxRecDepth 20000 in
theorem mcX0_isFixed : xMc mX0_isFixed 0 := ⟨wG_t 385 (by decide +kernel) (by decide +kernel), wG_t 3 (by decide +kernel) (by decide +kernel), ⟨by decide +kernel, by decide +kernel, by decide +kernel⟩, by decide +kernel, rfl⟩
set_option maxRecDepth 20000 in
theorem mlX0_88 : xMV RX0 88 mX0_isFixed 0 0 := ⟨mcX0_isFixed, wG_t 382 (by decide +kernel) (by decide +kernel), wG_t 384 (by decide +kernel) (by decide +kernel), wG_p (n := 10) 1 (by decide +kernel) rfl, rfl⟩
set_option maxRecDepth 20000 in
theorem mcX9_isIn : xMc mX9_isIn 3 := ⟨wG_t 315 (by decide +kernel) (by decide +kernel), wG_t 1 (by decide +kernel) (by decide +kernel), ⟨by decide +kernel, by decide +kernel, by decide +kernel⟩, by decide +kernel, rfl⟩
set_option maxRecDepth 20000 in
theorem mlX0_92 : xMN RX0 92 mX9_isIn 3 := ⟨mcX9_isIn, ⟨"CribBooklet", List.mem_filter.mpr ⟨List.mem_of_getElem? (i := 381) (by decide +kernel), rfl⟩⟩, wG_t 314 (by decide +kernel) (by decide +kernel)⟩
set_option maxRecDepth 20000 in
theorem mcX0_isLength : xMc mX0_isLength 1 := ⟨wG_t 356 (by decide +kernel) (by decide +kernel), wG_t 3 (by decide +kernel) (by decide +kernel), ⟨by decide +kernel, by decide +kernel, by decide +kernel⟩, by decide +kernel, rfl⟩
set_option maxRecDepth 20000 in
theorem mlX0_96 : xMS RX0 96 mX0_isLength 1 := ⟨mcX0_isLength, wG_t 354 (by decide +kernel) (by decide +kernel), wG_t 355 (by decide +kernel) (by decide +kernel)⟩
set_option maxRecDepth 20000 in
theorem mcX5_renew : xMc mX5_renew 2 := ⟨wG_t 142 (by decide +kernel) (by decide +kernel), wG_t 4 (by decide +kernel) (by decide +kernel), ⟨by decide +kernel, by decide +kernel, by decide +kernel⟩, by decide +kernel, rfl⟩
set_option maxRecDepth 20000 in
theorem mlX0_59 : xMV RX0 59 mX5_renew 2 5 := ⟨mcX5_renew, wG_t 139 (by decide +kernel) (by decide +kernel), wG_t 140 (by decide +kernel) (by decide +kernel), wG_t 141 (by decide +kernel) (by decide +kernel), rfl⟩
set_option maxRecDepth 20000 in
theorem mcX3_spread : xMc mX3_spread 2 := ⟨wG_t 149 (by decide +kernel) (by decide +kernel), wG_t 5 (by decide +kernel) (by decide +kernel), ⟨by decide +kernel, by decide +kernel, by decide +kernel⟩, by decide +kernel, rfl⟩
set_option maxRecDepth 20000 in
theorem mlX0_63 : xMV RX0 63 mX3_spread 2 3 := ⟨mcX3_spread, wG_t 146 (by decide +kernel) (by decide +kernel), wG_t 147 (by decide +kernel) (by decide +kernel), wG_t 148 (by decide +kernel) (by decide +kernel), rfl⟩
set_option maxRecDepth 20000 in
theorem mcX7_dropAll : xMc mX7_dropAll 0 := ⟨wG_t 360 (by decide +kernel) (by decide +kernel), wG_t 6 (by decide +kernel) (by decide +kernel), ⟨by decide +kernel, by decide +kernel, by decide +kernel⟩, by decide +kernel, rfl⟩
set_option maxRecDepth 20000 in
theorem mlX0_100 : xMV RX0 100 mX7_dropAll 0 7 := ⟨mcX7_dropAll, wG_t 357 (by decide +kernel) (by decide +kernel), wG_t 358 (by decide +kernel) (by decide +kernel), wG_t 359 (by decide +kernel) (by decide +kernel), rfl⟩
set_option maxRecDepth 20000 in
theorem mcX3_canFold : xMc mX3_canFold 1 := ⟨wG_t 389 (by decide +kernel) (by decide +kernel), wG_t 5 (by decide +kernel) (by decide +kernel), ⟨by decide +kernel, by decide +kernel, by decide +kernel⟩, by decide +kernel, rfl⟩
set_option maxRecDepth 20000 in
theorem mlX0_104 : xMV RX0 104 mX3_canFold 1 3 := ⟨mcX3_canFold, wG_t 386 (by decide +kernel) (by decide +kernel), wG_t 387 (by decide +kernel) (by decide +kernel), wG_t 388 (by decide +kernel) (by decide +kernel), rfl⟩
set_option maxRecDepth 20000 in
theorem mcX3_depth : xMc mX3_depth 0 := ⟨wG_t 393 (by decide +kernel) (by decide +kernel), wG_t 5 (by decide +kernel) (by decide +kernel), ⟨by decide +kernel, by decide +kernel, by decide +kernel⟩, by decide +kernel, rfl⟩
set_option maxRecDepth 20000 in
theorem mlX0_107 : xMV RX0 107 mX3_depth 0 3 := ⟨mcX3_depth, wG_t 390 (by decide +kernel) (by decide +kernel), wG_t 391 (by decide +kernel) (by decide +kernel), wG_t 392 (by decide +kernel) (by decide +kernel), rfl⟩
set_option maxRecDepth 20000 in
theorem mcX3_lay : xMc mX3_lay 1 := ⟨wG_t 397 (by decide +kernel) (by decide +kernel), wG_t 5 (by decide +kernel) (by decide +kernel), ⟨by decide +kernel, by decide +kernel, by decide +kernel⟩, by decide +kernel, rfl⟩
set_option maxRecDepth 20000 in
theorem mlX0_110 : xMV RX0 110 mX3_lay 1 3 := ⟨mcX3_lay, wG_t 394 (by decide +kernel) (by decide +kernel), wG_t 395 (by decide +kernel) (by decide +kernel), wG_t 396 (by decide +kernel) (by decide +kernel), rfl⟩
set_option maxRecDepth 20000 in
theorem flX0_114 : xGF RX0 114 5 0 := ⟨by decide, wG_t 47 (by decide +kernel) (by decide +kernel)⟩
set_option maxRecDepth 20000 in
theorem flX0_117 : xGF RX0 117 5 1 := ⟨by decide, wG_t 50 (by decide +kernel) (by decide +kernel)⟩
set_option maxRecDepth 20000 in
theorem flX0_120 : xGF RX0 120 3 4 := ⟨by decide, wG_t 75 (by decide +kernel) (by decide +kernel)⟩
set_option maxRecDepth 20000 in
theorem mcX3_foldBy : xMc mX3_foldBy 3 := ⟨wG_t 418 (by decide +kernel) (by decide +kernel), wG_t 5 (by decide +kernel) (by decide +kernel), ⟨by decide +kernel, by decide +kernel, by decide +kernel⟩, by decide +kernel, rfl⟩
set_option maxRecDepth 20000 in
theorem mlX0_123 : xMV RX0 123 mX3_foldBy 3 3 := ⟨mcX3_foldBy, wG_t 415 (by decide +kernel) (by decide +kernel), wG_t 416 (by decide +kernel) (by decide +kernel), wG_t 417 (by decide +kernel) (by decide +kernel), rfl⟩
set_option maxRecDepth 20000 in
theorem mcX5_hasSide : xMc mX5_hasSide 3 := ⟨wG_t 446 (by decide +kernel) (by decide +kernel), wG_t 4 (by decide +kernel) (by decide +kernel), ⟨by decide +kernel, by decide +kernel, by decide +kernel⟩, by decide +kernel, rfl⟩
set_option maxRecDepth 20000 in
theorem mlX0_126 : xMV RX0 126 mX5_hasSide 3 5 := ⟨mcX5_hasSide, wG_t 443 (by decide +kernel) (by decide +kernel), wG_t 444 (by decide +kernel) (by decide +kernel), wG_t 445 (by decide +kernel) (by decide +kernel), rfl⟩
set_option maxRecDepth 20000 in
theorem mcX0_isOpenAndFree : xMc mX0_isOpenAndFree 0 := ⟨wG_t 451 (by decide +kernel) (by decide +kernel), wG_t 3 (by decide +kernel) (by decide +kernel), ⟨by decide +kernel, by decide +kernel, by decide +kernel⟩, by decide +kernel, rfl⟩
set_option maxRecDepth 20000 in
theorem mlX0_129 : xMV RX0 129 mX0_isOpenAndFree 0 0 := ⟨mcX0_isOpenAndFree, wG_t 448 (by decide +kernel) (by decide +kernel), wG_t 450 (by decide +kernel) (by decide +kernel), wG_p (n := 10) 4 (by decide +kernel) rfl, rfl⟩
set_option maxRecDepth 20000 in
theorem mcX9_cellAt : xMc mX9_cellAt 2 := ⟨wG_t 152 (by decide +kernel) (by decide +kernel), wG_t 1 (by decide +kernel) (by decide +kernel), ⟨by decide +kernel, by decide +kernel, by decide +kernel⟩, by decide +kernel, rfl⟩
set_option maxRecDepth 20000 in
theorem mlX0_132 : xMN RX0 132 mX9_cellAt 2 := ⟨mcX9_cellAt, ⟨"CribBooklet", List.mem_filter.mpr ⟨List.mem_of_getElem? (i := 452) (by decide +kernel), rfl⟩⟩, wG_t 151 (by decide +kernel) (by decide +kernel)⟩
set_option maxRecDepth 20000 in
theorem mcX9_placeOfSide : xMc mX9_placeOfSide 2 := ⟨wG_t 455 (by decide +kernel) (by decide +kernel), wG_t 1 (by decide +kernel) (by decide +kernel), ⟨by decide +kernel, by decide +kernel, by decide +kernel⟩, by decide +kernel, rfl⟩
set_option maxRecDepth 20000 in
theorem mlX0_136 : xMN RX0 136 mX9_placeOfSide 2 := ⟨mcX9_placeOfSide, ⟨"CribBooklet", List.mem_filter.mpr ⟨List.mem_of_getElem? (i := 453) (by decide +kernel), rfl⟩⟩, wG_t 454 (by decide +kernel) (by decide +kernel)⟩
set_option maxRecDepth 20000 in
theorem mcX5_numberAt : xMc mX5_numberAt 1 := ⟨wG_t 459 (by decide +kernel) (by decide +kernel), wG_t 4 (by decide +kernel) (by decide +kernel), ⟨by decide +kernel, by decide +kernel, by decide +kernel⟩, by decide +kernel, rfl⟩
set_option maxRecDepth 20000 in
theorem mlX0_139 : xMV RX0 139 mX5_numberAt 1 5 := ⟨mcX5_numberAt, wG_t 456 (by decide +kernel) (by decide +kernel), wG_t 457 (by decide +kernel) (by decide +kernel), wG_t 458 (by decide +kernel) (by decide +kernel), rfl⟩
set_option maxRecDepth 20000 in
theorem mcX5_stamp : xMc mX5_stamp 3 := ⟨wG_t 463 (by decide +kernel) (by decide +kernel), wG_t 4 (by decide +kernel) (by decide +kernel), ⟨by decide +kernel, by decide +kernel, by decide +kernel⟩, by decide +kernel, rfl⟩
set_option maxRecDepth 20000 in
theorem mlX0_143 : xMV RX0 143 mX5_stamp 3 5 := ⟨mcX5_stamp, wG_t 460 (by decide +kernel) (by decide +kernel), wG_t 461 (by decide +kernel) (by decide +kernel), wG_t 462 (by decide +kernel) (by decide +kernel), rfl⟩
set_option maxRecDepth 20000 in
theorem mcX3_lastPage : xMc mX3_lastPage 0 := ⟨wG_t 475 (by decide +kernel) (by decide +kernel), wG_t 5 (by decide +kernel) (by decide +kernel), ⟨by decide +kernel, by decide +kernel, by decide +kernel⟩, by decide +kernel, rfl⟩
set_option maxRecDepth 20000 in
theorem mlX0_147 : xMV RX0 147 mX3_lastPage 0 3 := ⟨mcX3_lastPage, wG_t 472 (by decide +kernel) (by decide +kernel), wG_t 473 (by decide +kernel) (by decide +kernel), wG_t 474 (by decide +kernel) (by decide +kernel), rfl⟩
set_option maxRecDepth 20000 in
theorem mcX3_paperPlace : xMc mX3_paperPlace 1 := ⟨wG_t 479 (by decide +kernel) (by decide +kernel), wG_t 5 (by decide +kernel) (by decide +kernel), ⟨by decide +kernel, by decide +kernel, by decide +kernel⟩, by decide +kernel, rfl⟩
set_option maxRecDepth 20000 in
theorem mlX0_150 : xMV RX0 150 mX3_paperPlace 1 3 := ⟨mcX3_paperPlace, wG_t 476 (by decide +kernel) (by decide +kernel), wG_t 477 (by decide +kernel) (by decide +kernel), wG_t 478 (by decide +kernel) (by decide +kernel), rfl⟩
set_option maxRecDepth 20000 in
theorem mcX0_turnForUpright : xMc mX0_turnForUpright 2 := ⟨wG_t 487 (by decide +kernel) (by decide +kernel), wG_t 3 (by decide +kernel) (by decide +kernel), ⟨by decide +kernel, by decide +kernel, by decide +kernel⟩, by decide +kernel, rfl⟩
set_option maxRecDepth 20000 in
theorem mlX0_153 : xMV RX0 153 mX0_turnForUpright 2 0 := ⟨mcX0_turnForUpright, wG_t 484 (by decide +kernel) (by decide +kernel), wG_t 486 (by decide +kernel) (by decide +kernel), wG_p (n := 10) 5 (by decide +kernel) rfl, rfl⟩
set_option maxRecDepth 20000 in
theorem mcX3_isBooklet : xMc mX3_isBooklet 0 := ⟨wG_t 426 (by decide +kernel) (by decide +kernel), wG_t 5 (by decide +kernel) (by decide +kernel), ⟨by decide +kernel, by decide +kernel, by decide +kernel⟩, by decide +kernel, rfl⟩
set_option maxRecDepth 20000 in
theorem mlX0_157 : xMV RX0 157 mX3_isBooklet 0 3 := ⟨mcX3_isBooklet, wG_t 503 (by decide +kernel) (by decide +kernel), wG_t 424 (by decide +kernel) (by decide +kernel), wG_t 425 (by decide +kernel) (by decide +kernel), rfl⟩
set_option maxRecDepth 20000 in
theorem mcX9_isInSet : xMc mX9_isInSet 2 := ⟨wG_t 349 (by decide +kernel) (by decide +kernel), wG_t 1 (by decide +kernel) (by decide +kernel), ⟨by decide +kernel, by decide +kernel, by decide +kernel⟩, by decide +kernel, rfl⟩
set_option maxRecDepth 20000 in
theorem mlX0_160 : xMN RX0 160 mX9_isInSet 2 := ⟨mcX9_isInSet, ⟨"CribBooklet", List.mem_filter.mpr ⟨List.mem_of_getElem? (i := 504) (by decide +kernel), rfl⟩⟩, wG_t 348 (by decide +kernel) (by decide +kernel)⟩
set_option maxRecDepth 20000 in
theorem mcX3_pairsAlong : xMc mX3_pairsAlong 1 := ⟨wG_t 508 (by decide +kernel) (by decide +kernel), wG_t 5 (by decide +kernel) (by decide +kernel), ⟨by decide +kernel, by decide +kernel, by decide +kernel⟩, by decide +kernel, rfl⟩
set_option maxRecDepth 20000 in
theorem mlX0_164 : xMV RX0 164 mX3_pairsAlong 1 3 := ⟨mcX3_pairsAlong, wG_t 505 (by decide +kernel) (by decide +kernel), wG_t 506 (by decide +kernel) (by decide +kernel), wG_t 507 (by decide +kernel) (by decide +kernel), rfl⟩
set_option maxRecDepth 20000 in
theorem mcJ6_bitCount_0f7a4 : xMc mJ6_bitCount_0f7a4 1 := ⟨wG_t 539 (by decide +kernel) (by decide +kernel), wG_t 14 (by decide +kernel) (by decide +kernel), ⟨by decide +kernel, by decide +kernel, by decide +kernel⟩, by decide +kernel, rfl⟩
set_option maxRecDepth 20000 in
theorem mlX0_167 : xMS RX0 167 mJ6_bitCount_0f7a4 1 := ⟨mcJ6_bitCount_0f7a4, wG_t 537 (by decide +kernel) (by decide +kernel), wG_t 538 (by decide +kernel) (by decide +kernel)⟩
theorem cw_543 : Cond.methodLink RX0 172 Lib.Math.min.name ∈ wG := wG_t 543 (by decide +kernel) (by decide +kernel)
theorem cw_544 : Cond.static Lib.Math.min.name ∈ wG := wG_t 544 (by decide +kernel) (by decide +kernel)
theorem cw_15 : Cond.initialized "java/lang/Math" ∈ wG := wG_t 15 (by decide +kernel) (by decide +kernel)
theorem cw_545 : Cond.code Lib.Math.min.name Lib.Math.min.code 2 (some .int) ∈ wG := wG_t 545 (by decide +kernel) (by decide +kernel)
set_option maxRecDepth 20000 in
theorem mcX5_cells : xMc mX5_cells 0 := ⟨wG_t 573 (by decide +kernel) (by decide +kernel), wG_t 4 (by decide +kernel) (by decide +kernel), ⟨by decide +kernel, by decide +kernel, by decide +kernel⟩, by decide +kernel, rfl⟩
set_option maxRecDepth 20000 in
theorem mlX0_177 : xMV RX0 177 mX5_cells 0 5 := ⟨mcX5_cells, wG_t 570 (by decide +kernel) (by decide +kernel), wG_t 571 (by decide +kernel) (by decide +kernel), wG_t 572 (by decide +kernel) (by decide +kernel), rfl⟩
set_option maxRecDepth 20000 in
theorem mcX7_put : xMc mX7_put 3 := ⟨wG_t 577 (by decide +kernel) (by decide +kernel), wG_t 6 (by decide +kernel) (by decide +kernel), ⟨by decide +kernel, by decide +kernel, by decide +kernel⟩, by decide +kernel, rfl⟩
set_option maxRecDepth 20000 in
theorem mlX0_180 : xMV RX0 180 mX7_put 3 7 := ⟨mcX7_put, wG_t 574 (by decide +kernel) (by decide +kernel), wG_t 575 (by decide +kernel) (by decide +kernel), wG_t 576 (by decide +kernel) (by decide +kernel), rfl⟩
set_option maxRecDepth 20000 in
theorem mcX3_isUpsideDown : xMc mX3_isUpsideDown 1 := ⟨wG_t 491 (by decide +kernel) (by decide +kernel), wG_t 5 (by decide +kernel) (by decide +kernel), ⟨by decide +kernel, by decide +kernel, by decide +kernel⟩, by decide +kernel, rfl⟩
set_option maxRecDepth 20000 in
theorem mlX0_183 : xMV RX0 183 mX3_isUpsideDown 1 3 := ⟨mcX3_isUpsideDown, wG_t 488 (by decide +kernel) (by decide +kernel), wG_t 489 (by decide +kernel) (by decide +kernel), wG_t 490 (by decide +kernel) (by decide +kernel), rfl⟩
set_option maxRecDepth 20000 in
theorem mcX9_asNumber : xMc mX9_asNumber 1 := ⟨wG_t 494 (by decide +kernel) (by decide +kernel), wG_t 1 (by decide +kernel) (by decide +kernel), ⟨by decide +kernel, by decide +kernel, by decide +kernel⟩, by decide +kernel, rfl⟩
set_option maxRecDepth 20000 in
theorem mlX0_186 : xMN RX0 186 mX9_asNumber 1 := ⟨mcX9_asNumber, ⟨"CribBooklet", List.mem_filter.mpr ⟨List.mem_of_getElem? (i := 492) (by decide +kernel), rfl⟩⟩, wG_t 493 (by decide +kernel) (by decide +kernel)⟩
set_option maxRecDepth 20000 in
theorem mcX5_turnAt : xMc mX5_turnAt 1 := ⟨wG_t 824 (by decide +kernel) (by decide +kernel), wG_t 4 (by decide +kernel) (by decide +kernel), ⟨by decide +kernel, by decide +kernel, by decide +kernel⟩, by decide +kernel, rfl⟩
set_option maxRecDepth 20000 in
theorem mlX0_190 : xMV RX0 190 mX5_turnAt 1 5 := ⟨mcX5_turnAt, wG_t 865 (by decide +kernel) (by decide +kernel), wG_t 822 (by decide +kernel) (by decide +kernel), wG_t 823 (by decide +kernel) (by decide +kernel), rfl⟩
set_option maxRecDepth 20000 in
theorem mcX3_edgesBetween : xMc mX3_edgesBetween 2 := ⟨wG_t 877 (by decide +kernel) (by decide +kernel), wG_t 5 (by decide +kernel) (by decide +kernel), ⟨by decide +kernel, by decide +kernel, by decide +kernel⟩, by decide +kernel, rfl⟩
set_option maxRecDepth 20000 in
theorem mlX0_193 : xMV RX0 193 mX3_edgesBetween 2 3 := ⟨mcX3_edgesBetween, wG_t 874 (by decide +kernel) (by decide +kernel), wG_t 875 (by decide +kernel) (by decide +kernel), wG_t 876 (by decide +kernel) (by decide +kernel), rfl⟩
set_option maxRecDepth 20000 in
theorem mcX0_spineEdge : xMc mX0_spineEdge 0 := ⟨wG_t 881 (by decide +kernel) (by decide +kernel), wG_t 3 (by decide +kernel) (by decide +kernel), ⟨by decide +kernel, by decide +kernel, by decide +kernel⟩, by decide +kernel, rfl⟩
set_option maxRecDepth 20000 in
theorem mlX0_196 : xMV RX0 196 mX0_spineEdge 0 0 := ⟨mcX0_spineEdge, wG_t 878 (by decide +kernel) (by decide +kernel), wG_t 880 (by decide +kernel) (by decide +kernel), wG_p (n := 10) 12 (by decide +kernel) rfl, rfl⟩
set_option maxRecDepth 20000 in
theorem mcX0_shutEdges : xMc mX0_shutEdges 1 := ⟨wG_t 873 (by decide +kernel) (by decide +kernel), wG_t 3 (by decide +kernel) (by decide +kernel), ⟨by decide +kernel, by decide +kernel, by decide +kernel⟩, by decide +kernel, rfl⟩
set_option maxRecDepth 20000 in
theorem mlX0_199 : xMV RX0 199 mX0_shutEdges 1 0 := ⟨mcX0_shutEdges, wG_t 870 (by decide +kernel) (by decide +kernel), wG_t 871 (by decide +kernel) (by decide +kernel), wG_t 872 (by decide +kernel) (by decide +kernel), rfl⟩
set_option maxRecDepth 20000 in
theorem mcX0_isHidden : xMc mX0_isHidden 1 := ⟨wG_t 869 (by decide +kernel) (by decide +kernel), wG_t 3 (by decide +kernel) (by decide +kernel), ⟨by decide +kernel, by decide +kernel, by decide +kernel⟩, by decide +kernel, rfl⟩
set_option maxRecDepth 20000 in
theorem mlX0_202 : xMV RX0 202 mX0_isHidden 1 0 := ⟨mcX0_isHidden, wG_t 886 (by decide +kernel) (by decide +kernel), wG_t 867 (by decide +kernel) (by decide +kernel), wG_t 868 (by decide +kernel) (by decide +kernel), rfl⟩
set_option maxRecDepth 20000 in
theorem mcX0_numberOn : xMc mX0_numberOn 2 := ⟨wG_t 857 (by decide +kernel) (by decide +kernel), wG_t 3 (by decide +kernel) (by decide +kernel), ⟨by decide +kernel, by decide +kernel, by decide +kernel⟩, by decide +kernel, rfl⟩
set_option maxRecDepth 20000 in
theorem mlX0_205 : xMV RX0 205 mX0_numberOn 2 0 := ⟨mcX0_numberOn, wG_t 887 (by decide +kernel) (by decide +kernel), wG_t 855 (by decide +kernel) (by decide +kernel), wG_t 856 (by decide +kernel) (by decide +kernel), rfl⟩
set_option maxRecDepth 20000 in
theorem mcX0_isUpright : xMc mX0_isUpright 2 := ⟨wG_t 864 (by decide +kernel) (by decide +kernel), wG_t 3 (by decide +kernel) (by decide +kernel), ⟨by decide +kernel, by decide +kernel, by decide +kernel⟩, by decide +kernel, rfl⟩
set_option maxRecDepth 20000 in
theorem mlX0_208 : xMV RX0 208 mX0_isUpright 2 0 := ⟨mcX0_isUpright, wG_t 888 (by decide +kernel) (by decide +kernel), wG_t 862 (by decide +kernel) (by decide +kernel), wG_t 863 (by decide +kernel) (by decide +kernel), rfl⟩
set_option maxRecDepth 20000 in
theorem mcX0_pieceWith : xMc mX0_pieceWith 1 := ⟨wG_t 987 (by decide +kernel) (by decide +kernel), wG_t 3 (by decide +kernel) (by decide +kernel), ⟨by decide +kernel, by decide +kernel, by decide +kernel⟩, by decide +kernel, rfl⟩
set_option maxRecDepth 20000 in
theorem mlX0_212 : xMV RX0 212 mX0_pieceWith 1 0 := ⟨mcX0_pieceWith, wG_t 984 (by decide +kernel) (by decide +kernel), wG_t 986 (by decide +kernel) (by decide +kernel), wG_p (n := 10) 20 (by decide +kernel) rfl, rfl⟩
set_option maxRecDepth 20000 in
theorem mcX0_heldWith : xMc mX0_heldWith 1 := ⟨wG_t 991 (by decide +kernel) (by decide +kernel), wG_t 3 (by decide +kernel) (by decide +kernel), ⟨by decide +kernel, by decide +kernel, by decide +kernel⟩, by decide +kernel, rfl⟩
set_option maxRecDepth 20000 in
theorem mlX0_215 : xMV RX0 215 mX0_heldWith 1 0 := ⟨mcX0_heldWith, wG_t 988 (by decide +kernel) (by decide +kernel), wG_t 990 (by decide +kernel) (by decide +kernel), wG_p (n := 10) 21 (by decide +kernel) rfl, rfl⟩
set_option maxRecDepth 20000 in
theorem flX0_218 : xGF RX0 218 7 3 := ⟨by decide, wG_t 113 (by decide +kernel) (by decide +kernel)⟩
set_option maxRecDepth 20000 in
theorem flX0_221 : xGN RX0 221 7 0 := ⟨by decide, "CribBooklet", List.mem_filter.mpr ⟨List.mem_of_getElem? (i := 107) (by decide +kernel), rfl⟩⟩
set_option maxRecDepth 20000 in
theorem flX0_224 : xGN RX0 224 7 2 := ⟨by decide, "CribBooklet", List.mem_filter.mpr ⟨List.mem_of_getElem? (i := 111) (by decide +kernel), rfl⟩⟩
set_option maxRecDepth 20000 in
theorem flX0_227 : xGN RX0 227 7 1 := ⟨by decide, "CribBooklet", List.mem_filter.mpr ⟨List.mem_of_getElem? (i := 109) (by decide +kernel), rfl⟩⟩
set_option maxRecDepth 20000 in
theorem flX1_18 : xGF RX1 18 1 1 := ⟨by decide, wG_t 220 (by decide +kernel) (by decide +kernel)⟩
set_option maxRecDepth 20000 in
theorem mlX1_22 : xMN RX1 22 mX9_isIn 3 := ⟨mcX9_isIn, ⟨"CribBooklet", List.mem_filter.mpr ⟨List.mem_of_getElem? (i := 313) (by decide +kernel), rfl⟩⟩, wG_t 314 (by decide +kernel) (by decide +kernel)⟩
set_option maxRecDepth 20000 in
theorem flX1_12 : xGF RX1 12 1 0 := ⟨by decide, wG_t 219 (by decide +kernel) (by decide +kernel)⟩
set_option maxRecDepth 20000 in
theorem mcX8_copyFrom : xMc mX8_copyFrom 1 := ⟨wG_t 319 (by decide +kernel) (by decide +kernel), wG_t 2 (by decide +kernel) (by decide +kernel), ⟨by decide +kernel, by decide +kernel, by decide +kernel⟩, by decide +kernel, rfl⟩
set_option maxRecDepth 20000 in
theorem mlX1_26 : xMV RX1 26 mX8_copyFrom 1 8 := ⟨mcX8_copyFrom, wG_t 316 (by decide +kernel) (by decide +kernel), wG_t 317 (by decide +kernel) (by decide +kernel), wG_t 318 (by decide +kernel) (by decide +kernel), rfl⟩
set_option maxRecDepth 20000 in
theorem mcX9_isError : xMc mX9_isError 1 := ⟨wG_t 367 (by decide +kernel) (by decide +kernel), wG_t 1 (by decide +kernel) (by decide +kernel), ⟨by decide +kernel, by decide +kernel, by decide +kernel⟩, by decide +kernel, rfl⟩
set_option maxRecDepth 20000 in
theorem mlX1_30 : xMN RX1 30 mX9_isError 1 := ⟨mcX9_isError, ⟨"CribBooklet", List.mem_filter.mpr ⟨List.mem_of_getElem? (i := 365) (by decide +kernel), rfl⟩⟩, wG_t 366 (by decide +kernel) (by decide +kernel)⟩
set_option maxRecDepth 20000 in
theorem mcX1_dropOldest : xMc mX1_dropOldest 0 := ⟨wG_t 372 (by decide +kernel) (by decide +kernel), wG_t 9 (by decide +kernel) (by decide +kernel), ⟨by decide +kernel, by decide +kernel, by decide +kernel⟩, by decide +kernel, rfl⟩
set_option maxRecDepth 20000 in
theorem mlX1_34 : xMV RX1 34 mX1_dropOldest 0 1 := ⟨mcX1_dropOldest, wG_t 369 (by decide +kernel) (by decide +kernel), wG_t 371 (by decide +kernel) (by decide +kernel), wG_p (n := 2) 0 (by decide +kernel) rfl, rfl⟩
set_option maxRecDepth 20000 in
theorem mcX1_bringBack : xMc mX1_bringBack 1 := ⟨wG_t 641 (by decide +kernel) (by decide +kernel), wG_t 9 (by decide +kernel) (by decide +kernel), ⟨by decide +kernel, by decide +kernel, by decide +kernel⟩, by decide +kernel, rfl⟩
set_option maxRecDepth 20000 in
theorem mlX1_37 : xMV RX1 37 mX1_bringBack 1 1 := ⟨mcX1_bringBack, wG_t 638 (by decide +kernel) (by decide +kernel), wG_t 639 (by decide +kernel) (by decide +kernel), wG_t 640 (by decide +kernel) (by decide +kernel), rfl⟩
set_option maxRecDepth 20000 in
theorem flX2_34 : xGF RX2 34 0 9 := ⟨by decide, wG_t 174 (by decide +kernel) (by decide +kernel)⟩
set_option maxRecDepth 20000 in
theorem flX2_31 : xGF RX2 31 2 6 := ⟨by decide, wG_t 241 (by decide +kernel) (by decide +kernel)⟩
set_option maxRecDepth 20000 in
theorem mcX2_countLines : xMc mX2_countLines 1 := ⟨wG_t 896 (by decide +kernel) (by decide +kernel), wG_t 10 (by decide +kernel) (by decide +kernel), ⟨by decide +kernel, by decide +kernel, by decide +kernel⟩, by decide +kernel, rfl⟩
set_option maxRecDepth 20000 in
theorem mlX2_37 : xMV RX2 37 mX2_countLines 1 2 := ⟨mcX2_countLines, wG_t 893 (by decide +kernel) (by decide +kernel), wG_t 895 (by decide +kernel) (by decide +kernel), wG_p (n := 7) 13 (by decide +kernel) rfl, rfl⟩
set_option maxRecDepth 20000 in
theorem mcX2_listPages : xMc mX2_listPages 1 := ⟨wG_t 906 (by decide +kernel) (by decide +kernel), wG_t 10 (by decide +kernel) (by decide +kernel), ⟨by decide +kernel, by decide +kernel, by decide +kernel⟩, by decide +kernel, rfl⟩
set_option maxRecDepth 20000 in
theorem mlX2_41 : xMV RX2 41 mX2_listPages 1 2 := ⟨mcX2_listPages, wG_t 903 (by decide +kernel) (by decide +kernel), wG_t 905 (by decide +kernel) (by decide +kernel), wG_p (n := 7) 14 (by decide +kernel) rfl, rfl⟩
set_option maxRecDepth 20000 in
theorem flX2_44 : xGF RX2 44 0 3 := ⟨by decide, wG_t 162 (by decide +kernel) (by decide +kernel)⟩
set_option maxRecDepth 20000 in
theorem mcX2_sort : xMc mX2_sort 1 := ⟨wG_t 916 (by decide +kernel) (by decide +kernel), wG_t 10 (by decide +kernel) (by decide +kernel), ⟨by decide +kernel, by decide +kernel, by decide +kernel⟩, by decide +kernel, rfl⟩
set_option maxRecDepth 20000 in
theorem mlX2_48 : xMV RX2 48 mX2_sort 1 2 := ⟨mcX2_sort, wG_t 913 (by decide +kernel) (by decide +kernel), wG_t 915 (by decide +kernel) (by decide +kernel), wG_p (n := 7) 16 (by decide +kernel) rfl, rfl⟩
set_option maxRecDepth 20000 in
theorem flX2_52 : xGF RX2 52 4 1 := ⟨by decide, wG_t 132 (by decide +kernel) (by decide +kernel)⟩
set_option maxRecDepth 20000 in
theorem flX2_9 : xGF RX2 9 2 0 := ⟨by decide, wG_t 235 (by decide +kernel) (by decide +kernel)⟩
set_option maxRecDepth 20000 in
theorem mcX4_linesOf : xMc mX4_linesOf 1 := ⟨wG_t 932 (by decide +kernel) (by decide +kernel), wG_t 7 (by decide +kernel) (by decide +kernel), ⟨by decide +kernel, by decide +kernel, by decide +kernel⟩, by decide +kernel, rfl⟩
set_option maxRecDepth 20000 in
theorem mlX2_57 : xMV RX2 57 mX4_linesOf 1 4 := ⟨mcX4_linesOf, wG_t 929 (by decide +kernel) (by decide +kernel), wG_t 930 (by decide +kernel) (by decide +kernel), wG_t 931 (by decide +kernel) (by decide +kernel), rfl⟩
set_option maxRecDepth 20000 in
theorem mcX4_isWhole : xMc mX4_isWhole 1 := ⟨wG_t 936 (by decide +kernel) (by decide +kernel), wG_t 7 (by decide +kernel) (by decide +kernel), ⟨by decide +kernel, by decide +kernel, by decide +kernel⟩, by decide +kernel, rfl⟩
set_option maxRecDepth 20000 in
theorem mlX2_61 : xMV RX2 61 mX4_isWhole 1 4 := ⟨mcX4_isWhole, wG_t 933 (by decide +kernel) (by decide +kernel), wG_t 934 (by decide +kernel) (by decide +kernel), wG_t 935 (by decide +kernel) (by decide +kernel), rfl⟩
set_option maxRecDepth 20000 in
theorem mcX2_roomForWhole : xMc mX2_roomForWhole 2 := ⟨wG_t 940 (by decide +kernel) (by decide +kernel), wG_t 10 (by decide +kernel) (by decide +kernel), ⟨by decide +kernel, by decide +kernel, by decide +kernel⟩, by decide +kernel, rfl⟩
set_option maxRecDepth 20000 in
theorem mlX2_65 : xMV RX2 65 mX2_roomForWhole 2 2 := ⟨mcX2_roomForWhole, wG_t 937 (by decide +kernel) (by decide +kernel), wG_t 939 (by decide +kernel) (by decide +kernel), wG_p (n := 7) 17 (by decide +kernel) rfl, rfl⟩
set_option maxRecDepth 20000 in
theorem mcX2_keepFirstLine : xMc mX2_keepFirstLine 2 := ⟨wG_t 949 (by decide +kernel) (by decide +kernel), wG_t 10 (by decide +kernel) (by decide +kernel), ⟨by decide +kernel, by decide +kernel, by decide +kernel⟩, by decide +kernel, rfl⟩
set_option maxRecDepth 20000 in
theorem mlX2_72 : xMV RX2 72 mX2_keepFirstLine 2 2 := ⟨mcX2_keepFirstLine, wG_t 946 (by decide +kernel) (by decide +kernel), wG_t 948 (by decide +kernel) (by decide +kernel), wG_p (n := 7) 19 (by decide +kernel) rfl, rfl⟩
set_option maxRecDepth 20000 in
theorem mcX2_roomFor : xMc mX2_roomFor 2 := ⟨wG_t 945 (by decide +kernel) (by decide +kernel), wG_t 10 (by decide +kernel) (by decide +kernel), ⟨by decide +kernel, by decide +kernel, by decide +kernel⟩, by decide +kernel, rfl⟩
set_option maxRecDepth 20000 in
theorem mlX2_69 : xMV RX2 69 mX2_roomFor 2 2 := ⟨mcX2_roomFor, wG_t 942 (by decide +kernel) (by decide +kernel), wG_t 944 (by decide +kernel) (by decide +kernel), wG_p (n := 7) 18 (by decide +kernel) rfl, rfl⟩
set_option maxRecDepth 20000 in
theorem flX2_76 : xGF RX2 76 0 1 := ⟨by decide, wG_t 156 (by decide +kernel) (by decide +kernel)⟩
set_option maxRecDepth 20000 in
theorem mlX2_80 : xMV RX2 80 mX3_depth 0 3 := ⟨mcX3_depth, wG_t 897 (by decide +kernel) (by decide +kernel), wG_t 391 (by decide +kernel) (by decide +kernel), wG_t 392 (by decide +kernel) (by decide +kernel), rfl⟩
theorem cw_898 : Cond.methodLink RX2 86 Lib.Math.min.name ∈ wG := wG_t 898 (by decide +kernel) (by decide +kernel)
set_option maxRecDepth 20000 in
theorem flX2_28 : xGF RX2 28 2 5 := ⟨by decide, wG_t 240 (by decide +kernel) (by decide +kernel)⟩
set_option maxRecDepth 20000 in
theorem flX2_25 : xGF RX2 25 2 4 := ⟨by decide, wG_t 239 (by decide +kernel) (by decide +kernel)⟩
set_option maxRecDepth 20000 in
theorem mcX0_linesAt : xMc mX0_linesAt 1 := ⟨wG_t 902 (by decide +kernel) (by decide +kernel), wG_t 3 (by decide +kernel) (by decide +kernel), ⟨by decide +kernel, by decide +kernel, by decide +kernel⟩, by decide +kernel, rfl⟩
set_option maxRecDepth 20000 in
theorem mlX2_91 : xMV RX2 91 mX0_linesAt 1 0 := ⟨mcX0_linesAt, wG_t 899 (by decide +kernel) (by decide +kernel), wG_t 900 (by decide +kernel) (by decide +kernel), wG_t 901 (by decide +kernel) (by decide +kernel), rfl⟩
set_option maxRecDepth 20000 in
theorem flX2_21 : xGF RX2 21 2 3 := ⟨by decide, wG_t 238 (by decide +kernel) (by decide +kernel)⟩
set_option maxRecDepth 20000 in
theorem mlX2_94 : xMV RX2 94 mX3_lastPage 0 3 := ⟨mcX3_lastPage, wG_t 907 (by decide +kernel) (by decide +kernel), wG_t 473 (by decide +kernel) (by decide +kernel), wG_t 474 (by decide +kernel) (by decide +kernel), rfl⟩
set_option maxRecDepth 20000 in
theorem mcX2_linesOf : xMc mX2_linesOf 1 := ⟨wG_t 911 (by decide +kernel) (by decide +kernel), wG_t 10 (by decide +kernel) (by decide +kernel), ⟨by decide +kernel, by decide +kernel, by decide +kernel⟩, by decide +kernel, rfl⟩
set_option maxRecDepth 20000 in
theorem mlX2_97 : xMV RX2 97 mX2_linesOf 1 2 := ⟨mcX2_linesOf, wG_t 908 (by decide +kernel) (by decide +kernel), wG_t 910 (by decide +kernel) (by decide +kernel), wG_p (n := 7) 15 (by decide +kernel) rfl, rfl⟩
set_option maxRecDepth 20000 in
theorem flX2_18 : xGF RX2 18 2 2 := ⟨by decide, wG_t 237 (by decide +kernel) (by decide +kernel)⟩
set_option maxRecDepth 20000 in
theorem mcX4_comesBefore : xMc mX4_comesBefore 2 := ⟨wG_t 920 (by decide +kernel) (by decide +kernel), wG_t 7 (by decide +kernel) (by decide +kernel), ⟨by decide +kernel, by decide +kernel, by decide +kernel⟩, by decide +kernel, rfl⟩
set_option maxRecDepth 20000 in
theorem mlX2_98 : xMV RX2 98 mX4_comesBefore 2 4 := ⟨mcX4_comesBefore, wG_t 917 (by decide +kernel) (by decide +kernel), wG_t 918 (by decide +kernel) (by decide +kernel), wG_t 919 (by decide +kernel) (by decide +kernel), rfl⟩
set_option maxRecDepth 20000 in
theorem mlX2_102 : xMN RX2 102 mX9_isIn 3 := ⟨mcX9_isIn, ⟨"CribBooklet", List.mem_filter.mpr ⟨List.mem_of_getElem? (i := 912) (by decide +kernel), rfl⟩⟩, wG_t 314 (by decide +kernel) (by decide +kernel)⟩
set_option maxRecDepth 20000 in
theorem flX2_15 : xGF RX2 15 2 1 := ⟨by decide, wG_t 236 (by decide +kernel) (by decide +kernel)⟩
theorem cw_941 : Cond.methodLink RX2 106 Lib.Math.max.name ∈ wG := wG_t 941 (by decide +kernel) (by decide +kernel)
theorem cw_660 : Cond.static Lib.Math.max.name ∈ wG := wG_t 660 (by decide +kernel) (by decide +kernel)
theorem cw_661 : Cond.code Lib.Math.max.name Lib.Math.max.code 2 (some .int) ∈ wG := wG_t 661 (by decide +kernel) (by decide +kernel)
set_option maxRecDepth 20000 in
theorem mcX4_subjectOf : xMc mX4_subjectOf 1 := ⟨wG_t 928 (by decide +kernel) (by decide +kernel), wG_t 7 (by decide +kernel) (by decide +kernel), ⟨by decide +kernel, by decide +kernel, by decide +kernel⟩, by decide +kernel, rfl⟩
set_option maxRecDepth 20000 in
theorem mlX2_109 : xMV RX2 109 mX4_subjectOf 1 4 := ⟨mcX4_subjectOf, wG_t 1024 (by decide +kernel) (by decide +kernel), wG_t 926 (by decide +kernel) (by decide +kernel), wG_t 927 (by decide +kernel) (by decide +kernel), rfl⟩
set_option maxRecDepth 20000 in
theorem mcX2_pageOfLine : xMc mX2_pageOfLine 1 := ⟨wG_t 957 (by decide +kernel) (by decide +kernel), wG_t 10 (by decide +kernel) (by decide +kernel), ⟨by decide +kernel, by decide +kernel, by decide +kernel⟩, by decide +kernel, rfl⟩
set_option maxRecDepth 20000 in
theorem mlX2_112 : xMV RX2 112 mX2_pageOfLine 1 2 := ⟨mcX2_pageOfLine, wG_t 954 (by decide +kernel) (by decide +kernel), wG_t 955 (by decide +kernel) (by decide +kernel), wG_t 956 (by decide +kernel) (by decide +kernel), rfl⟩
set_option maxRecDepth 20000 in
theorem mlX2_115 : xMN RX2 115 mX9_asNumber 1 := ⟨mcX9_asNumber, ⟨"CribBooklet", List.mem_filter.mpr ⟨List.mem_of_getElem? (i := 958) (by decide +kernel), rfl⟩⟩, wG_t 493 (by decide +kernel) (by decide +kernel)⟩
set_option maxRecDepth 20000 in
theorem flX3_9 : xGF RX3 9 3 0 := ⟨by decide, wG_t 70 (by decide +kernel) (by decide +kernel)⟩
set_option maxRecDepth 20000 in
theorem flX3_15 : xGF RX3 15 3 1 := ⟨by decide, wG_t 71 (by decide +kernel) (by decide +kernel)⟩
set_option maxRecDepth 20000 in
theorem flX3_18 : xGF RX3 18 3 2 := ⟨by decide, wG_t 72 (by decide +kernel) (by decide +kernel)⟩
set_option maxRecDepth 20000 in
theorem flX3_21 : xGF RX3 21 3 3 := ⟨by decide, wG_t 73 (by decide +kernel) (by decide +kernel)⟩
set_option maxRecDepth 20000 in
theorem flX3_24 : xGF RX3 24 3 4 := ⟨by decide, wG_t 74 (by decide +kernel) (by decide +kernel)⟩
set_option maxRecDepth 20000 in
theorem flX3_27 : xGF RX3 27 3 5 := ⟨by decide, wG_t 77 (by decide +kernel) (by decide +kernel)⟩
set_option maxRecDepth 20000 in
theorem flX3_30 : xGF RX3 30 3 6 := ⟨by decide, wG_t 81 (by decide +kernel) (by decide +kernel)⟩
theorem cw_335 : ((Jvm.Cond.methodLink "CribBooklet$Leaves" (37 : Nat) ({ cls := "java/lang/System", name := "arraycopy", desc := "(Ljava/lang/Object;ILjava/lang/Object;II)V" } : Jvm.MethodName)) : Cond) ∈ wG := wG_t 335 (by decide +kernel) (by decide +kernel)
set_option maxRecDepth 20000 in
theorem mlX3_43 : xMN RX3 43 mX9_cellAt 2 := ⟨mcX9_cellAt, ⟨"CribBooklet", List.mem_filter.mpr ⟨List.mem_of_getElem? (i := 150) (by decide +kernel), rfl⟩⟩, wG_t 151 (by decide +kernel) (by decide +kernel)⟩
set_option maxRecDepth 20000 in
theorem mlX3_47 : xMV RX3 47 mX3_depth 0 3 := ⟨mcX3_depth, wG_t 402 (by decide +kernel) (by decide +kernel), wG_t 391 (by decide +kernel) (by decide +kernel), wG_t 392 (by decide +kernel) (by decide +kernel), rfl⟩
set_option maxRecDepth 20000 in
theorem mcX3_pile : xMc mX3_pile 4 := ⟨wG_t 401 (by decide +kernel) (by decide +kernel), wG_t 5 (by decide +kernel) (by decide +kernel), ⟨by decide +kernel, by decide +kernel, by decide +kernel⟩, by decide +kernel, rfl⟩
set_option maxRecDepth 20000 in
theorem mlX3_51 : xMV RX3 51 mX3_pile 4 3 := ⟨mcX3_pile, wG_t 398 (by decide +kernel) (by decide +kernel), wG_t 400 (by decide +kernel) (by decide +kernel), wG_p (n := 8) 2 (by decide +kernel) rfl, rfl⟩
set_option maxRecDepth 20000 in
theorem flX3_34 : xGF RX3 34 3 7 := ⟨by decide, wG_t 82 (by decide +kernel) (by decide +kernel)⟩
set_option maxRecDepth 20000 in
theorem mcX3_at : xMc mX3_at 1 := ⟨wG_t 406 (by decide +kernel) (by decide +kernel), wG_t 5 (by decide +kernel) (by decide +kernel), ⟨by decide +kernel, by decide +kernel, by decide +kernel⟩, by decide +kernel, rfl⟩
set_option maxRecDepth 20000 in
theorem mlX3_55 : xMV RX3 55 mX3_at 1 3 := ⟨mcX3_at, wG_t 403 (by decide +kernel) (by decide +kernel), wG_t 405 (by decide +kernel) (by decide +kernel), wG_p (n := 8) 3 (by decide +kernel) rfl, rfl⟩
set_option maxRecDepth 20000 in
theorem mlX3_59 : xMV RX3 59 mX3_spread 2 3 := ⟨mcX3_spread, wG_t 419 (by decide +kernel) (by decide +kernel), wG_t 147 (by decide +kernel) (by decide +kernel), wG_t 148 (by decide +kernel) (by decide +kernel), rfl⟩
set_option maxRecDepth 20000 in
theorem mlX3_63 : xMN RX3 63 mX9_isIn 3 := ⟨mcX9_isIn, ⟨"CribBooklet", List.mem_filter.mpr ⟨List.mem_of_getElem? (i := 420) (by decide +kernel), rfl⟩⟩, wG_t 314 (by decide +kernel) (by decide +kernel)⟩
set_option maxRecDepth 20000 in
theorem mlX3_67 : xMV RX3 67 mX3_canFold 1 3 := ⟨mcX3_canFold, wG_t 421 (by decide +kernel) (by decide +kernel), wG_t 387 (by decide +kernel) (by decide +kernel), wG_t 388 (by decide +kernel) (by decide +kernel), rfl⟩
set_option maxRecDepth 20000 in
theorem mlX3_71 : xMV RX3 71 mX3_lay 1 3 := ⟨mcX3_lay, wG_t 422 (by decide +kernel) (by decide +kernel), wG_t 395 (by decide +kernel) (by decide +kernel), wG_t 396 (by decide +kernel) (by decide +kernel), rfl⟩
set_option maxRecDepth 20000 in
theorem mlX3_75 : xMV RX3 75 mX3_isBooklet 0 3 := ⟨mcX3_isBooklet, wG_t 423 (by decide +kernel) (by decide +kernel), wG_t 424 (by decide +kernel) (by decide +kernel), wG_t 425 (by decide +kernel) (by decide +kernel), rfl⟩
set_option maxRecDepth 20000 in
theorem mcX3_rowOf : xMc mX3_rowOf 1 := ⟨wG_t 525 (by decide +kernel) (by decide +kernel), wG_t 5 (by decide +kernel) (by decide +kernel), ⟨by decide +kernel, by decide +kernel, by decide +kernel⟩, by decide +kernel, rfl⟩
set_option maxRecDepth 20000 in
theorem mlX3_79 : xMS RX3 79 mX3_rowOf 1 := ⟨mcX3_rowOf, wG_t 523 (by decide +kernel) (by decide +kernel), wG_t 524 (by decide +kernel) (by decide +kernel)⟩
set_option maxRecDepth 20000 in
theorem mcX3_columnOf : xMc mX3_columnOf 1 := ⟨wG_t 515 (by decide +kernel) (by decide +kernel), wG_t 5 (by decide +kernel) (by decide +kernel), ⟨by decide +kernel, by decide +kernel, by decide +kernel⟩, by decide +kernel, rfl⟩
set_option maxRecDepth 20000 in
theorem mlX3_82 : xMS RX3 82 mX3_columnOf 1 := ⟨mcX3_columnOf, wG_t 513 (by decide +kernel) (by decide +kernel), wG_t 514 (by decide +kernel) (by decide +kernel)⟩
set_option maxRecDepth 20000 in
theorem mcX3_sideUp : xMc mX3_sideUp 1 := ⟨wG_t 482 (by decide +kernel) (by decide +kernel), wG_t 5 (by decide +kernel) (by decide +kernel), ⟨by decide +kernel, by decide +kernel, by decide +kernel⟩, by decide +kernel, rfl⟩
set_option maxRecDepth 20000 in
theorem mlX3_85 : xMS RX3 85 mX3_sideUp 1 := ⟨mcX3_sideUp, wG_t 480 (by decide +kernel) (by decide +kernel), wG_t 481 (by decide +kernel) (by decide +kernel)⟩
set_option maxRecDepth 20000 in
theorem mcX3_sideUpAt : xMc mX3_sideUpAt 1 := ⟨wG_t 838 (by decide +kernel) (by decide +kernel), wG_t 5 (by decide +kernel) (by decide +kernel), ⟨by decide +kernel, by decide +kernel, by decide +kernel⟩, by decide +kernel, rfl⟩
set_option maxRecDepth 20000 in
theorem mlX3_88 : xMV RX3 88 mX3_sideUpAt 1 3 := ⟨mcX3_sideUpAt, wG_t 853 (by decide +kernel) (by decide +kernel), wG_t 836 (by decide +kernel) (by decide +kernel), wG_t 837 (by decide +kernel) (by decide +kernel), rfl⟩
set_option maxRecDepth 20000 in
theorem mlX3_91 : xMN RX3 91 mX9_placeOfSide 2 := ⟨mcX9_placeOfSide, ⟨"CribBooklet", List.mem_filter.mpr ⟨List.mem_of_getElem? (i := 483) (by decide +kernel), rfl⟩⟩, wG_t 454 (by decide +kernel) (by decide +kernel)⟩
set_option maxRecDepth 20000 in
theorem mcX3_edgeToRight : xMc mX3_edgeToRight 1 := ⟨wG_t 518 (by decide +kernel) (by decide +kernel), wG_t 5 (by decide +kernel) (by decide +kernel), ⟨by decide +kernel, by decide +kernel, by decide +kernel⟩, by decide +kernel, rfl⟩
set_option maxRecDepth 20000 in
theorem mlX3_94 : xMS RX3 94 mX3_edgeToRight 1 := ⟨mcX3_edgeToRight, wG_t 516 (by decide +kernel) (by decide +kernel), wG_t 517 (by decide +kernel) (by decide +kernel)⟩
set_option maxRecDepth 20000 in
theorem mcX3_edgeBelow : xMc mX3_edgeBelow 1 := ⟨wG_t 528 (by decide +kernel) (by decide +kernel), wG_t 5 (by decide +kernel) (by decide +kernel), ⟨by decide +kernel, by decide +kernel, by decide +kernel⟩, by decide +kernel, rfl⟩
set_option maxRecDepth 20000 in
theorem mlX3_97 : xMS RX3 97 mX3_edgeBelow 1 := ⟨mcX3_edgeBelow, wG_t 526 (by decide +kernel) (by decide +kernel), wG_t 527 (by decide +kernel) (by decide +kernel)⟩
set_option maxRecDepth 20000 in
theorem mcX3_columnAt : xMc mX3_columnAt 1 := ⟨wG_t 512 (by decide +kernel) (by decide +kernel), wG_t 5 (by decide +kernel) (by decide +kernel), ⟨by decide +kernel, by decide +kernel, by decide +kernel⟩, by decide +kernel, rfl⟩
set_option maxRecDepth 20000 in
theorem mlX3_100 : xMV RX3 100 mX3_columnAt 1 3 := ⟨mcX3_columnAt, wG_t 509 (by decide +kernel) (by decide +kernel), wG_t 510 (by decide +kernel) (by decide +kernel), wG_t 511 (by decide +kernel) (by decide +kernel), rfl⟩
set_option maxRecDepth 20000 in
theorem mcX3_rowAt : xMc mX3_rowAt 1 := ⟨wG_t 522 (by decide +kernel) (by decide +kernel), wG_t 5 (by decide +kernel) (by decide +kernel), ⟨by decide +kernel, by decide +kernel, by decide +kernel⟩, by decide +kernel, rfl⟩
set_option maxRecDepth 20000 in
theorem mlX3_103 : xMV RX3 103 mX3_rowAt 1 3 := ⟨mcX3_rowAt, wG_t 519 (by decide +kernel) (by decide +kernel), wG_t 520 (by decide +kernel) (by decide +kernel), wG_t 521 (by decide +kernel) (by decide +kernel), rfl⟩
set_option maxRecDepth 20000 in
theorem flX4_15 : xGF RX4 15 4 1 := ⟨by decide, wG_t 131 (by decide +kernel) (by decide +kernel)⟩
set_option maxRecDepth 20000 in
theorem flX4_11 : xGF RX4 11 4 0 := ⟨by decide, wG_t 130 (by decide +kernel) (by decide +kernel)⟩
theorem cw_345 : ((Jvm.Cond.methodLink "CribBooklet$Notes" (19 : Nat) ({ cls := "java/lang/System", name := "arraycopy", desc := "(Ljava/lang/Object;ILjava/lang/Object;II)V" } : Jvm.MethodName)) : Cond) ∈ wG := wG_t 345 (by decide +kernel) (by decide +kernel)
set_option maxRecDepth 20000 in
theorem mlX4_25 : xMN RX4 25 mX9_isIn 3 := ⟨mcX9_isIn, ⟨"CribBooklet", List.mem_filter.mpr ⟨List.mem_of_getElem? (i := 592) (by decide +kernel), rfl⟩⟩, wG_t 314 (by decide +kernel) (by decide +kernel)⟩
set_option maxRecDepth 20000 in
theorem mcX4_has : xMc mX4_has 1 := ⟨wG_t 604 (by decide +kernel) (by decide +kernel), wG_t 7 (by decide +kernel) (by decide +kernel), ⟨by decide +kernel, by decide +kernel, by decide +kernel⟩, by decide +kernel, rfl⟩
set_option maxRecDepth 20000 in
theorem mlX4_29 : xMV RX4 29 mX4_has 1 4 := ⟨mcX4_has, wG_t 601 (by decide +kernel) (by decide +kernel), wG_t 602 (by decide +kernel) (by decide +kernel), wG_t 603 (by decide +kernel) (by decide +kernel), rfl⟩
set_option maxRecDepth 20000 in
theorem mcX4_get : xMc mX4_get 2 := ⟨wG_t 924 (by decide +kernel) (by decide +kernel), wG_t 7 (by decide +kernel) (by decide +kernel), ⟨by decide +kernel, by decide +kernel, by decide +kernel⟩, by decide +kernel, rfl⟩
set_option maxRecDepth 20000 in
theorem mlX4_33 : xMV RX4 33 mX4_get 2 4 := ⟨mcX4_get, wG_t 921 (by decide +kernel) (by decide +kernel), wG_t 922 (by decide +kernel) (by decide +kernel), wG_t 923 (by decide +kernel) (by decide +kernel), rfl⟩
set_option maxRecDepth 20000 in
theorem mlX4_37 : xMV RX4 37 mX4_subjectOf 1 4 := ⟨mcX4_subjectOf, wG_t 925 (by decide +kernel) (by decide +kernel), wG_t 926 (by decide +kernel) (by decide +kernel), wG_t 927 (by decide +kernel) (by decide +kernel), rfl⟩
set_option maxRecDepth 20000 in
theorem flX5_9 : xGF RX5 9 5 0 := ⟨by decide, wG_t 46 (by decide +kernel) (by decide +kernel)⟩
set_option maxRecDepth 20000 in
theorem flX5_15 : xGF RX5 15 5 1 := ⟨by decide, wG_t 49 (by decide +kernel) (by decide +kernel)⟩
set_option maxRecDepth 20000 in
theorem flX5_18 : xGF RX5 18 5 2 := ⟨by decide, wG_t 52 (by decide +kernel) (by decide +kernel)⟩
theorem cw_328 : ((Jvm.Cond.methodLink "CribBooklet$Paper" (25 : Nat) ({ cls := "java/lang/System", name := "arraycopy", desc := "(Ljava/lang/Object;ILjava/lang/Object;II)V" } : Jvm.MethodName)) : Cond) ∈ wG := wG_t 328 (by decide +kernel) (by decide +kernel)
set_option maxRecDepth 20000 in
theorem flX5_22 : xGF RX5 22 5 3 := ⟨by decide, wG_t 53 (by decide +kernel) (by decide +kernel)⟩
set_option maxRecDepth 20000 in
theorem mcJ7_fill_53178 : xMc mJ7_fill_53178 2 := ⟨wG_t 145 (by decide +kernel) (by decide +kernel), wG_t 8 (by decide +kernel) (by decide +kernel), ⟨by decide +kernel, by decide +kernel, by decide +kernel⟩, by decide +kernel, rfl⟩
set_option maxRecDepth 20000 in
theorem mlX5_31 : xMS RX5 31 mJ7_fill_53178 2 := ⟨mcJ7_fill_53178, wG_t 143 (by decide +kernel) (by decide +kernel), wG_t 144 (by decide +kernel) (by decide +kernel)⟩
set_option maxRecDepth 20000 in
theorem mlX5_37 : xMN RX5 37 mX9_isIn 3 := ⟨mcX9_isIn, ⟨"CribBooklet", List.mem_filter.mpr ⟨List.mem_of_getElem? (i := 447) (by decide +kernel), rfl⟩⟩, wG_t 314 (by decide +kernel) (by decide +kernel)⟩
theorem cw_658 : Cond.methodLink RX6 25 Lib.Math.min.name ∈ wG := wG_t 658 (by decide +kernel) (by decide +kernel)
theorem cw_659 : Cond.methodLink RX6 31 Lib.Math.max.name ∈ wG := wG_t 659 (by decide +kernel) (by decide +kernel)
set_option maxRecDepth 20000 in
theorem flX6_15 : xGF RX6 15 6 1 := ⟨by decide, wG_t 264 (by decide +kernel) (by decide +kernel)⟩
set_option maxRecDepth 20000 in
theorem flX6_9 : xGF RX6 9 6 0 := ⟨by decide, wG_t 263 (by decide +kernel) (by decide +kernel)⟩
theorem cw_662 : ((Jvm.Cond.methodLink "CribBooklet$Reader" (34 : Nat) ({ cls := "java/lang/System", name := "arraycopy", desc := "(Ljava/lang/Object;ILjava/lang/Object;II)V" } : Jvm.MethodName)) : Cond) ∈ wG := wG_t 662 (by decide +kernel) (by decide +kernel)
set_option maxRecDepth 20000 in
theorem flX6_22 : xGF RX6 22 6 3 := ⟨by decide, wG_t 267 (by decide +kernel) (by decide +kernel)⟩
set_option maxRecDepth 20000 in
theorem mcX6_advance : xMc mX6_advance 0 := ⟨wG_t 666 (by decide +kernel) (by decide +kernel), wG_t 11 (by decide +kernel) (by decide +kernel), ⟨by decide +kernel, by decide +kernel, by decide +kernel⟩, by decide +kernel, rfl⟩
set_option maxRecDepth 20000 in
theorem mlX6_40 : xMV RX6 40 mX6_advance 0 6 := ⟨mcX6_advance, wG_t 663 (by decide +kernel) (by decide +kernel), wG_t 664 (by decide +kernel) (by decide +kernel), wG_t 665 (by decide +kernel) (by decide +kernel), rfl⟩
set_option maxRecDepth 20000 in
theorem flX6_19 : xGF RX6 19 6 2 := ⟨by decide, wG_t 265 (by decide +kernel) (by decide +kernel)⟩
set_option maxRecDepth 20000 in
theorem mcX6_at : xMc mX6_at 1 := ⟨wG_t 670 (by decide +kernel) (by decide +kernel), wG_t 11 (by decide +kernel) (by decide +kernel), ⟨by decide +kernel, by decide +kernel, by decide +kernel⟩, by decide +kernel, rfl⟩
set_option maxRecDepth 20000 in
theorem mlX6_43 : xMV RX6 43 mX6_at 1 6 := ⟨mcX6_at, wG_t 667 (by decide +kernel) (by decide +kernel), wG_t 669 (by decide +kernel) (by decide +kernel), wG_p (n := 4) 6 (by decide +kernel) rfl, rfl⟩
set_option maxRecDepth 20000 in
theorem mcX6_isOneRun : xMc mX6_isOneRun 2 := ⟨wG_t 674 (by decide +kernel) (by decide +kernel), wG_t 11 (by decide +kernel) (by decide +kernel), ⟨by decide +kernel, by decide +kernel, by decide +kernel⟩, by decide +kernel, rfl⟩
set_option maxRecDepth 20000 in
theorem mlX6_47 : xMS RX6 47 mX6_isOneRun 2 := ⟨mcX6_isOneRun, wG_t 672 (by decide +kernel) (by decide +kernel), wG_t 673 (by decide +kernel) (by decide +kernel)⟩
set_option maxRecDepth 20000 in
theorem mcX6_isLetter : xMc mX6_isLetter 1 := ⟨wG_t 677 (by decide +kernel) (by decide +kernel), wG_t 11 (by decide +kernel) (by decide +kernel), ⟨by decide +kernel, by decide +kernel, by decide +kernel⟩, by decide +kernel, rfl⟩
set_option maxRecDepth 20000 in
theorem mlX6_51 : xMS RX6 51 mX6_isLetter 1 := ⟨mcX6_isLetter, wG_t 675 (by decide +kernel) (by decide +kernel), wG_t 676 (by decide +kernel) (by decide +kernel)⟩
set_option maxRecDepth 20000 in
theorem mcX6_isDigit : xMc mX6_isDigit 1 := ⟨wG_t 680 (by decide +kernel) (by decide +kernel), wG_t 11 (by decide +kernel) (by decide +kernel), ⟨by decide +kernel, by decide +kernel, by decide +kernel⟩, by decide +kernel, rfl⟩
set_option maxRecDepth 20000 in
theorem mlX6_55 : xMS RX6 55 mX6_isDigit 1 := ⟨mcX6_isDigit, wG_t 678 (by decide +kernel) (by decide +kernel), wG_t 679 (by decide +kernel) (by decide +kernel)⟩
set_option maxRecDepth 20000 in
theorem mlX6_58 : xMN RX6 58 mX9_isIn 3 := ⟨mcX9_isIn, ⟨"CribBooklet", List.mem_filter.mpr ⟨List.mem_of_getElem? (i := 671) (by decide +kernel), rfl⟩⟩, wG_t 314 (by decide +kernel) (by decide +kernel)⟩
set_option maxRecDepth 20000 in
theorem mcJ0_length_8abf5 : xMc mJ0_length_8abf5 0 := ⟨wG_t 708 (by decide +kernel) (by decide +kernel), wG_t 16 (by decide +kernel) (by decide +kernel), ⟨by decide +kernel, by decide +kernel, by decide +kernel⟩, by decide +kernel, rfl⟩
set_option maxRecDepth 20000 in
theorem mlX6_62 : xMVS RX6 62 mJ0_length_8abf5 0 := ⟨mcJ0_length_8abf5, wG_t 705 (by decide +kernel) (by decide +kernel), wG_t 706 (by decide +kernel) (by decide +kernel), wG_t 707 (by decide +kernel) (by decide +kernel), rfl⟩
set_option maxRecDepth 20000 in
theorem mcJ0_charAt_5068e : xMc mJ0_charAt_5068e 1 := ⟨wG_t 718 (by decide +kernel) (by decide +kernel), wG_t 16 (by decide +kernel) (by decide +kernel), ⟨by decide +kernel, by decide +kernel, by decide +kernel⟩, by decide +kernel, rfl⟩
set_option maxRecDepth 20000 in
theorem mlX6_67 : xMVS RX6 67 mJ0_charAt_5068e 1 := ⟨mcJ0_charAt_5068e, wG_t 715 (by decide +kernel) (by decide +kernel), wG_t 716 (by decide +kernel) (by decide +kernel), wG_t 717 (by decide +kernel) (by decide +kernel), rfl⟩
set_option maxRecDepth 20000 in
theorem mcX6_hasToken : xMc mX6_hasToken 0 := ⟨wG_t 684 (by decide +kernel) (by decide +kernel), wG_t 11 (by decide +kernel) (by decide +kernel), ⟨by decide +kernel, by decide +kernel, by decide +kernel⟩, by decide +kernel, rfl⟩
set_option maxRecDepth 20000 in
theorem mlX6_71 : xMV RX6 71 mX6_hasToken 0 6 := ⟨mcX6_hasToken, wG_t 793 (by decide +kernel) (by decide +kernel), wG_t 682 (by decide +kernel) (by decide +kernel), wG_t 683 (by decide +kernel) (by decide +kernel), rfl⟩
set_option maxRecDepth 20000 in
theorem flX7_21 : xGF RX7 21 7 3 := ⟨by decide, wG_t 112 (by decide +kernel) (by decide +kernel)⟩
set_option maxRecDepth 20000 in
theorem flX7_9 : xGF RX7 9 7 0 := ⟨by decide, wG_t 106 (by decide +kernel) (by decide +kernel)⟩
theorem cw_340 : ((Jvm.Cond.methodLink "CribBooklet$Sights" (25 : Nat) ({ cls := "java/lang/System", name := "arraycopy", desc := "(Ljava/lang/Object;ILjava/lang/Object;II)V" } : Jvm.MethodName)) : Cond) ∈ wG := wG_t 340 (by decide +kernel) (by decide +kernel)
set_option maxRecDepth 20000 in
theorem flX7_15 : xGF RX7 15 7 1 := ⟨by decide, wG_t 108 (by decide +kernel) (by decide +kernel)⟩
set_option maxRecDepth 20000 in
theorem flX7_18 : xGF RX7 18 7 2 := ⟨by decide, wG_t 110 (by decide +kernel) (by decide +kernel)⟩
set_option maxRecDepth 20000 in
theorem mlX7_31 : xMN RX7 31 mX9_isIn 3 := ⟨mcX9_isIn, ⟨"CribBooklet", List.mem_filter.mpr ⟨List.mem_of_getElem? (i := 578) (by decide +kernel), rfl⟩⟩, wG_t 314 (by decide +kernel) (by decide +kernel)⟩
set_option maxRecDepth 20000 in
theorem flX8_12 : xGF RX8 12 8 0 := ⟨by decide, wG_t 198 (by decide +kernel) (by decide +kernel)⟩
set_option maxRecDepth 20000 in
theorem mcX0_copyFrom : xMc mX0_copyFrom 1 := ⟨wG_t 323 (by decide +kernel) (by decide +kernel), wG_t 3 (by decide +kernel) (by decide +kernel), ⟨by decide +kernel, by decide +kernel, by decide +kernel⟩, by decide +kernel, rfl⟩
set_option maxRecDepth 20000 in
theorem mlX8_26 : xMV RX8 26 mX0_copyFrom 1 0 := ⟨mcX0_copyFrom, wG_t 320 (by decide +kernel) (by decide +kernel), wG_t 321 (by decide +kernel) (by decide +kernel), wG_t 322 (by decide +kernel) (by decide +kernel), rfl⟩
set_option maxRecDepth 20000 in
theorem flX8_22 : xGF RX8 22 8 2 := ⟨by decide, wG_t 201 (by decide +kernel) (by decide +kernel)⟩
set_option maxRecDepth 20000 in
theorem mlX8_30 : xMN RX8 30 mX9_isInSet 2 := ⟨mcX9_isInSet, ⟨"CribBooklet", List.mem_filter.mpr ⟨List.mem_of_getElem? (i := 347) (by decide +kernel), rfl⟩⟩, wG_t 348 (by decide +kernel) (by decide +kernel)⟩
set_option maxRecDepth 20000 in
theorem flX8_18 : xGF RX8 18 8 1 := ⟨by decide, wG_t 200 (by decide +kernel) (by decide +kernel)⟩
set_option maxRecDepth 20000 in
theorem mlX8_34 : xMN RX8 34 mX9_isIn 3 := ⟨mcX9_isIn, ⟨"CribBooklet", List.mem_filter.mpr ⟨List.mem_of_getElem? (i := 621) (by decide +kernel), rfl⟩⟩, wG_t 314 (by decide +kernel) (by decide +kernel)⟩
set_option maxRecDepth 20000 in
theorem flX8_38 : xGF RX8 38 0 1 := ⟨by decide, wG_t 157 (by decide +kernel) (by decide +kernel)⟩
set_option maxRecDepth 20000 in
theorem flX8_42 : xGF RX8 42 3 5 := ⟨by decide, wG_t 78 (by decide +kernel) (by decide +kernel)⟩
set_option maxRecDepth 20000 in
theorem flX9_19 : xGF RX9 19 9 1 := ⟨by decide, wG_t 278 (by decide +kernel) (by decide +kernel)⟩
set_option maxRecDepth 20000 in
theorem flX9_10 : xGF RX9 10 9 0 := ⟨by decide, wG_t 277 (by decide +kernel) (by decide +kernel)⟩
set_option maxRecDepth 20000 in
theorem mcX1_keep : xMc mX1_keep 1 := ⟨wG_t 312 (by decide +kernel) (by decide +kernel), wG_t 9 (by decide +kernel) (by decide +kernel), ⟨by decide +kernel, by decide +kernel, by decide +kernel⟩, by decide +kernel, rfl⟩
set_option maxRecDepth 20000 in
theorem mlX9_58 : xMV RX9 58 mX1_keep 1 1 := ⟨mcX1_keep, wG_t 309 (by decide +kernel) (by decide +kernel), wG_t 310 (by decide +kernel) (by decide +kernel), wG_t 311 (by decide +kernel) (by decide +kernel), rfl⟩
set_option maxRecDepth 20000 in
theorem flX9_62 : xGF RX9 62 8 0 := ⟨by decide, wG_t 199 (by decide +kernel) (by decide +kernel)⟩
set_option maxRecDepth 20000 in
theorem mcX0_takeSheet : xMc mX0_takeSheet 2 := ⟨wG_t 353 (by decide +kernel) (by decide +kernel), wG_t 3 (by decide +kernel) (by decide +kernel), ⟨by decide +kernel, by decide +kernel, by decide +kernel⟩, by decide +kernel, rfl⟩
set_option maxRecDepth 20000 in
theorem mlX9_66 : xMV RX9 66 mX0_takeSheet 2 0 := ⟨mcX0_takeSheet, wG_t 350 (by decide +kernel) (by decide +kernel), wG_t 351 (by decide +kernel) (by decide +kernel), wG_t 352 (by decide +kernel) (by decide +kernel), rfl⟩
set_option maxRecDepth 20000 in
theorem mcX1_settle : xMc mX1_settle 1 := ⟨wG_t 364 (by decide +kernel) (by decide +kernel), wG_t 9 (by decide +kernel) (by decide +kernel), ⟨by decide +kernel, by decide +kernel, by decide +kernel⟩, by decide +kernel, rfl⟩
set_option maxRecDepth 20000 in
theorem mlX9_72 : xMV RX9 72 mX1_settle 1 1 := ⟨mcX1_settle, wG_t 361 (by decide +kernel) (by decide +kernel), wG_t 362 (by decide +kernel) (by decide +kernel), wG_t 363 (by decide +kernel) (by decide +kernel), rfl⟩
set_option maxRecDepth 20000 in
theorem mcX0_foldOnce : xMc mX0_foldOnce 1 := ⟨wG_t 380 (by decide +kernel) (by decide +kernel), wG_t 3 (by decide +kernel) (by decide +kernel), ⟨by decide +kernel, by decide +kernel, by decide +kernel⟩, by decide +kernel, rfl⟩
set_option maxRecDepth 20000 in
theorem mlX9_76 : xMV RX9 76 mX0_foldOnce 1 0 := ⟨mcX0_foldOnce, wG_t 377 (by decide +kernel) (by decide +kernel), wG_t 378 (by decide +kernel) (by decide +kernel), wG_t 379 (by decide +kernel) (by decide +kernel), rfl⟩
set_option maxRecDepth 20000 in
theorem mcX0_foldBack : xMc mX0_foldBack 0 := ⟨wG_t 414 (by decide +kernel) (by decide +kernel), wG_t 3 (by decide +kernel) (by decide +kernel), ⟨by decide +kernel, by decide +kernel, by decide +kernel⟩, by decide +kernel, rfl⟩
set_option maxRecDepth 20000 in
theorem mlX9_79 : xMV RX9 79 mX0_foldBack 0 0 := ⟨mcX0_foldBack, wG_t 411 (by decide +kernel) (by decide +kernel), wG_t 412 (by decide +kernel) (by decide +kernel), wG_t 413 (by decide +kernel) (by decide +kernel), rfl⟩
set_option maxRecDepth 20000 in
theorem mcX0_moveSpine : xMc mX0_moveSpine 1 := ⟨wG_t 434 (by decide +kernel) (by decide +kernel), wG_t 3 (by decide +kernel) (by decide +kernel), ⟨by decide +kernel, by decide +kernel, by decide +kernel⟩, by decide +kernel, rfl⟩
set_option maxRecDepth 20000 in
theorem mlX9_83 : xMV RX9 83 mX0_moveSpine 1 0 := ⟨mcX0_moveSpine, wG_t 431 (by decide +kernel) (by decide +kernel), wG_t 432 (by decide +kernel) (by decide +kernel), wG_t 433 (by decide +kernel) (by decide +kernel), rfl⟩
set_option maxRecDepth 20000 in
theorem mcX0_printSide : xMc mX0_printSide 5 := ⟨wG_t 442 (by decide +kernel) (by decide +kernel), wG_t 3 (by decide +kernel) (by decide +kernel), ⟨by decide +kernel, by decide +kernel, by decide +kernel⟩, by decide +kernel, rfl⟩
set_option maxRecDepth 20000 in
theorem mlX9_86 : xMV RX9 86 mX0_printSide 5 0 := ⟨mcX0_printSide, wG_t 439 (by decide +kernel) (by decide +kernel), wG_t 440 (by decide +kernel) (by decide +kernel), wG_t 441 (by decide +kernel) (by decide +kernel), rfl⟩
set_option maxRecDepth 20000 in
theorem flX9_26 : xGF RX9 26 9 2 := ⟨by decide, wG_t 279 (by decide +kernel) (by decide +kernel)⟩
set_option maxRecDepth 20000 in
theorem mcX0_printSheet : xMc mX0_printSheet 2 := ⟨wG_t 471 (by decide +kernel) (by decide +kernel), wG_t 3 (by decide +kernel) (by decide +kernel), ⟨by decide +kernel, by decide +kernel, by decide +kernel⟩, by decide +kernel, rfl⟩
set_option maxRecDepth 20000 in
theorem mlX9_90 : xMV RX9 90 mX0_printSheet 2 0 := ⟨mcX0_printSheet, wG_t 468 (by decide +kernel) (by decide +kernel), wG_t 469 (by decide +kernel) (by decide +kernel), wG_t 470 (by decide +kernel) (by decide +kernel), rfl⟩
set_option maxRecDepth 20000 in
theorem mcX0_cutAlong : xMc mX0_cutAlong 1 := ⟨wG_t 502 (by decide +kernel) (by decide +kernel), wG_t 3 (by decide +kernel) (by decide +kernel), ⟨by decide +kernel, by decide +kernel, by decide +kernel⟩, by decide +kernel, rfl⟩
set_option maxRecDepth 20000 in
theorem mlX9_94 : xMV RX9 94 mX0_cutAlong 1 0 := ⟨mcX0_cutAlong, wG_t 499 (by decide +kernel) (by decide +kernel), wG_t 500 (by decide +kernel) (by decide +kernel), wG_t 501 (by decide +kernel) (by decide +kernel), rfl⟩
set_option maxRecDepth 20000 in
theorem mcX0_setStaple : xMc mX0_setStaple 1 := ⟨wG_t 536 (by decide +kernel) (by decide +kernel), wG_t 3 (by decide +kernel) (by decide +kernel), ⟨by decide +kernel, by decide +kernel, by decide +kernel⟩, by decide +kernel, rfl⟩
set_option maxRecDepth 20000 in
theorem mlX9_97 : xMV RX9 97 mX0_setStaple 1 0 := ⟨mcX0_setStaple, wG_t 533 (by decide +kernel) (by decide +kernel), wG_t 534 (by decide +kernel) (by decide +kernel), wG_t 535 (by decide +kernel) (by decide +kernel), rfl⟩
set_option maxRecDepth 20000 in
theorem mcX0_drawStaple : xMc mX0_drawStaple 1 := ⟨wG_t 553 (by decide +kernel) (by decide +kernel), wG_t 3 (by decide +kernel) (by decide +kernel), ⟨by decide +kernel, by decide +kernel, by decide +kernel⟩, by decide +kernel, rfl⟩
set_option maxRecDepth 20000 in
theorem mlX9_100 : xMV RX9 100 mX0_drawStaple 1 0 := ⟨mcX0_drawStaple, wG_t 550 (by decide +kernel) (by decide +kernel), wG_t 551 (by decide +kernel) (by decide +kernel), wG_t 552 (by decide +kernel) (by decide +kernel), rfl⟩
set_option maxRecDepth 20000 in
theorem mcX0_changeLegs : xMc mX0_changeLegs 1 := ⟨wG_t 561 (by decide +kernel) (by decide +kernel), wG_t 3 (by decide +kernel) (by decide +kernel), ⟨by decide +kernel, by decide +kernel, by decide +kernel⟩, by decide +kernel, rfl⟩
set_option maxRecDepth 20000 in
theorem mlX9_103 : xMV RX9 103 mX0_changeLegs 1 0 := ⟨mcX0_changeLegs, wG_t 558 (by decide +kernel) (by decide +kernel), wG_t 559 (by decide +kernel) (by decide +kernel), wG_t 560 (by decide +kernel) (by decide +kernel), rfl⟩
set_option maxRecDepth 20000 in
theorem mcX0_keepSight : xMc mX0_keepSight 3 := ⟨wG_t 569 (by decide +kernel) (by decide +kernel), wG_t 3 (by decide +kernel) (by decide +kernel), ⟨by decide +kernel, by decide +kernel, by decide +kernel⟩, by decide +kernel, rfl⟩
set_option maxRecDepth 20000 in
theorem mlX9_106 : xMV RX9 106 mX0_keepSight 3 0 := ⟨mcX0_keepSight, wG_t 566 (by decide +kernel) (by decide +kernel), wG_t 567 (by decide +kernel) (by decide +kernel), wG_t 568 (by decide +kernel) (by decide +kernel), rfl⟩
set_option maxRecDepth 20000 in
theorem flX9_110 : xGF RX9 110 0 2 := ⟨by decide, wG_t 160 (by decide +kernel) (by decide +kernel)⟩
set_option maxRecDepth 20000 in
theorem mlX9_114 : xMV RX9 114 mX7_dropAll 0 7 := ⟨mcX7_dropAll, wG_t 583 (by decide +kernel) (by decide +kernel), wG_t 358 (by decide +kernel) (by decide +kernel), wG_t 359 (by decide +kernel) (by decide +kernel), rfl⟩
set_option maxRecDepth 20000 in
theorem flX9_119 : xGF RX9 119 0 3 := ⟨by decide, wG_t 163 (by decide +kernel) (by decide +kernel)⟩
set_option maxRecDepth 20000 in
theorem mcX4_put : xMc mX4_put 4 := ⟨wG_t 591 (by decide +kernel) (by decide +kernel), wG_t 7 (by decide +kernel) (by decide +kernel), ⟨by decide +kernel, by decide +kernel, by decide +kernel⟩, by decide +kernel, rfl⟩
set_option maxRecDepth 20000 in
theorem mlX9_123 : xMV RX9 123 mX4_put 4 4 := ⟨mcX4_put, wG_t 588 (by decide +kernel) (by decide +kernel), wG_t 589 (by decide +kernel) (by decide +kernel), wG_t 590 (by decide +kernel) (by decide +kernel), rfl⟩
set_option maxRecDepth 20000 in
theorem mcX4_drop : xMc mX4_drop 1 := ⟨wG_t 600 (by decide +kernel) (by decide +kernel), wG_t 7 (by decide +kernel) (by decide +kernel), ⟨by decide +kernel, by decide +kernel, by decide +kernel⟩, by decide +kernel, rfl⟩
set_option maxRecDepth 20000 in
theorem mlX9_129 : xMV RX9 129 mX4_drop 1 4 := ⟨mcX4_drop, wG_t 597 (by decide +kernel) (by decide +kernel), wG_t 598 (by decide +kernel) (by decide +kernel), wG_t 599 (by decide +kernel) (by decide +kernel), rfl⟩
set_option maxRecDepth 20000 in
theorem mcX0_changeLines : xMc mX0_changeLines 1 := ⟨wG_t 612 (by decide +kernel) (by decide +kernel), wG_t 3 (by decide +kernel) (by decide +kernel), ⟨by decide +kernel, by decide +kernel, by decide +kernel⟩, by decide +kernel, rfl⟩
set_option maxRecDepth 20000 in
theorem mlX9_132 : xMV RX9 132 mX0_changeLines 1 0 := ⟨mcX0_changeLines, wG_t 609 (by decide +kernel) (by decide +kernel), wG_t 610 (by decide +kernel) (by decide +kernel), wG_t 611 (by decide +kernel) (by decide +kernel), rfl⟩
set_option maxRecDepth 20000 in
theorem mcX8_fillSlot : xMc mX8_fillSlot 1 := ⟨wG_t 620 (by decide +kernel) (by decide +kernel), wG_t 2 (by decide +kernel) (by decide +kernel), ⟨by decide +kernel, by decide +kernel, by decide +kernel⟩, by decide +kernel, rfl⟩
set_option maxRecDepth 20000 in
theorem mlX9_135 : xMV RX9 135 mX8_fillSlot 1 8 := ⟨mcX8_fillSlot, wG_t 617 (by decide +kernel) (by decide +kernel), wG_t 618 (by decide +kernel) (by decide +kernel), wG_t 619 (by decide +kernel) (by decide +kernel), rfl⟩
set_option maxRecDepth 20000 in
theorem mcX8_useSlot : xMc mX8_useSlot 1 := ⟨wG_t 629 (by decide +kernel) (by decide +kernel), wG_t 2 (by decide +kernel) (by decide +kernel), ⟨by decide +kernel, by decide +kernel, by decide +kernel⟩, by decide +kernel, rfl⟩
set_option maxRecDepth 20000 in
theorem mlX9_138 : xMV RX9 138 mX8_useSlot 1 8 := ⟨mcX8_useSlot, wG_t 626 (by decide +kernel) (by decide +kernel), wG_t 627 (by decide +kernel) (by decide +kernel), wG_t 628 (by decide +kernel) (by decide +kernel), rfl⟩
set_option maxRecDepth 20000 in
theorem mcX1_goBack : xMc mX1_goBack 1 := ⟨wG_t 637 (by decide +kernel) (by decide +kernel), wG_t 9 (by decide +kernel) (by decide +kernel), ⟨by decide +kernel, by decide +kernel, by decide +kernel⟩, by decide +kernel, rfl⟩
set_option maxRecDepth 20000 in
theorem mlX9_141 : xMV RX9 141 mX1_goBack 1 1 := ⟨mcX1_goBack, wG_t 634 (by decide +kernel) (by decide +kernel), wG_t 635 (by decide +kernel) (by decide +kernel), wG_t 636 (by decide +kernel) (by decide +kernel), rfl⟩
set_option maxRecDepth 20000 in
theorem mlX9_145 : xMS RX9 145 mX9_isIn 3 := ⟨mcX9_isIn, wG_t 368 (by decide +kernel) (by decide +kernel), wG_t 314 (by decide +kernel) (by decide +kernel)⟩
set_option maxRecDepth 20000 in
theorem flX9_41 : xGF RX9 41 9 5 := ⟨by decide, wG_t 282 (by decide +kernel) (by decide +kernel)⟩
set_option maxRecDepth 20000 in
theorem flX9_37 : xGF RX9 37 9 4 := ⟨by decide, wG_t 281 (by decide +kernel) (by decide +kernel)⟩
set_option maxRecDepth 20000 in
theorem flX9_48 : xGF RX9 48 9 6 := ⟨by decide, wG_t 283 (by decide +kernel) (by decide +kernel)⟩
set_option maxRecDepth 20000 in
theorem mcX6_start : xMc mX6_start 2 := ⟨wG_t 657 (by decide +kernel) (by decide +kernel), wG_t 11 (by decide +kernel) (by decide +kernel), ⟨by decide +kernel, by decide +kernel, by decide +kernel⟩, by decide +kernel, rfl⟩
set_option maxRecDepth 20000 in
theorem mlX9_149 : xMV RX9 149 mX6_start 2 6 := ⟨mcX6_start, wG_t 654 (by decide +kernel) (by decide +kernel), wG_t 655 (by decide +kernel) (by decide +kernel), wG_t 656 (by decide +kernel) (by decide +kernel), rfl⟩
set_option maxRecDepth 20000 in
theorem mlX9_153 : xMV RX9 153 mX6_hasToken 0 6 := ⟨mcX6_hasToken, wG_t 681 (by decide +kernel) (by decide +kernel), wG_t 682 (by decide +kernel) (by decide +kernel), wG_t 683 (by decide +kernel) (by decide +kernel), rfl⟩
set_option maxRecDepth 20000 in
theorem flX9_157 : xGF RX9 157 6 2 := ⟨by decide, wG_t 266 (by decide +kernel) (by decide +kernel)⟩
set_option maxRecDepth 20000 in
theorem mcX9_commandAt : xMc mX9_commandAt 1 := ⟨wG_t 687 (by decide +kernel) (by decide +kernel), wG_t 1 (by decide +kernel) (by decide +kernel), ⟨by decide +kernel, by decide +kernel, by decide +kernel⟩, by decide +kernel, rfl⟩
set_option maxRecDepth 20000 in
theorem mlX9_160 : xMS RX9 160 mX9_commandAt 1 := ⟨mcX9_commandAt, wG_t 685 (by decide +kernel) (by decide +kernel), wG_t 686 (by decide +kernel) (by decide +kernel)⟩
set_option maxRecDepth 20000 in
theorem mcX9_readCommand : xMc mX9_readCommand 1 := ⟨wG_t 756 (by decide +kernel) (by decide +kernel), wG_t 1 (by decide +kernel) (by decide +kernel), ⟨by decide +kernel, by decide +kernel, by decide +kernel⟩, by decide +kernel, rfl⟩
set_option maxRecDepth 20000 in
theorem mlX9_164 : xMV RX9 164 mX9_readCommand 1 9 := ⟨mcX9_readCommand, wG_t 753 (by decide +kernel) (by decide +kernel), wG_t 755 (by decide +kernel) (by decide +kernel), wG_p (n := 9) 7 (by decide +kernel) rfl, rfl⟩
set_option maxRecDepth 20000 in
theorem mcX9_obey : xMc mX9_obey 1 := ⟨wG_t 797 (by decide +kernel) (by decide +kernel), wG_t 1 (by decide +kernel) (by decide +kernel), ⟨by decide +kernel, by decide +kernel, by decide +kernel⟩, by decide +kernel, rfl⟩
set_option maxRecDepth 20000 in
theorem mlX9_167 : xMV RX9 167 mX9_obey 1 9 := ⟨mcX9_obey, wG_t 794 (by decide +kernel) (by decide +kernel), wG_t 796 (by decide +kernel) (by decide +kernel), wG_p (n := 9) 10 (by decide +kernel) rfl, rfl⟩
set_option maxRecDepth 20000 in
theorem mlX9_170 : xMS RX9 170 mX9_isError 1 := ⟨mcX9_isError, wG_t 802 (by decide +kernel) (by decide +kernel), wG_t 366 (by decide +kernel) (by decide +kernel)⟩
set_option maxRecDepth 20000 in
theorem mlX9_174 : xMV RX9 174 mX1_bringBack 1 1 := ⟨mcX1_bringBack, wG_t 803 (by decide +kernel) (by decide +kernel), wG_t 639 (by decide +kernel) (by decide +kernel), wG_t 640 (by decide +kernel) (by decide +kernel), rfl⟩
set_option maxRecDepth 20000 in
theorem mlX9_177 : xMV RX9 177 mX6_advance 0 6 := ⟨mcX6_advance, wG_t 757 (by decide +kernel) (by decide +kernel), wG_t 664 (by decide +kernel) (by decide +kernel), wG_t 665 (by decide +kernel) (by decide +kernel), rfl⟩
set_option maxRecDepth 20000 in
theorem mcX9_readArguments : xMc mX9_readArguments 1 := ⟨wG_t 761 (by decide +kernel) (by decide +kernel), wG_t 1 (by decide +kernel) (by decide +kernel), ⟨by decide +kernel, by decide +kernel, by decide +kernel⟩, by decide +kernel, rfl⟩
set_option maxRecDepth 20000 in
theorem mlX9_180 : xMV RX9 180 mX9_readArguments 1 9 := ⟨mcX9_readArguments, wG_t 758 (by decide +kernel) (by decide +kernel), wG_t 760 (by decide +kernel) (by decide +kernel), wG_p (n := 9) 8 (by decide +kernel) rfl, rfl⟩
set_option maxRecDepth 20000 in
theorem flX9_55 : xGF RX9 55 9 8 := ⟨by decide, wG_t 285 (by decide +kernel) (by decide +kernel)⟩
set_option maxRecDepth 20000 in
theorem mcX9_fewestArguments : xMc mX9_fewestArguments 1 := ⟨wG_t 788 (by decide +kernel) (by decide +kernel), wG_t 1 (by decide +kernel) (by decide +kernel), ⟨by decide +kernel, by decide +kernel, by decide +kernel⟩, by decide +kernel, rfl⟩
set_option maxRecDepth 20000 in
theorem mlX9_184 : xMS RX9 184 mX9_fewestArguments 1 := ⟨mcX9_fewestArguments, wG_t 786 (by decide +kernel) (by decide +kernel), wG_t 787 (by decide +kernel) (by decide +kernel)⟩
set_option maxRecDepth 20000 in
theorem mcX6_isCharacter : xMc mX6_isCharacter 1 := ⟨wG_t 792 (by decide +kernel) (by decide +kernel), wG_t 11 (by decide +kernel) (by decide +kernel), ⟨by decide +kernel, by decide +kernel, by decide +kernel⟩, by decide +kernel, rfl⟩
set_option maxRecDepth 20000 in
theorem mlX9_187 : xMV RX9 187 mX6_isCharacter 1 6 := ⟨mcX6_isCharacter, wG_t 789 (by decide +kernel) (by decide +kernel), wG_t 790 (by decide +kernel) (by decide +kernel), wG_t 791 (by decide +kernel) (by decide +kernel), rfl⟩
set_option maxRecDepth 20000 in
theorem flX9_52 : xGF RX9 52 9 7 := ⟨by decide, wG_t 284 (by decide +kernel) (by decide +kernel)⟩
set_option maxRecDepth 20000 in
theorem mlX9_190 : xMS RX9 190 mJ7_fill_53178 2 := ⟨mcJ7_fill_53178, wG_t 762 (by decide +kernel) (by decide +kernel), wG_t 144 (by decide +kernel) (by decide +kernel)⟩
set_option maxRecDepth 20000 in
theorem mcX9_edgeAt : xMc mX9_edgeAt 2 := ⟨wG_t 765 (by decide +kernel) (by decide +kernel), wG_t 1 (by decide +kernel) (by decide +kernel), ⟨by decide +kernel, by decide +kernel, by decide +kernel⟩, by decide +kernel, rfl⟩
set_option maxRecDepth 20000 in
theorem mlX9_195 : xMS RX9 195 mX9_edgeAt 2 := ⟨mcX9_edgeAt, wG_t 763 (by decide +kernel) (by decide +kernel), wG_t 764 (by decide +kernel) (by decide +kernel)⟩
set_option maxRecDepth 20000 in
theorem mcX9_readArgument : xMc mX9_readArgument 1 := ⟨wG_t 773 (by decide +kernel) (by decide +kernel), wG_t 1 (by decide +kernel) (by decide +kernel), ⟨by decide +kernel, by decide +kernel, by decide +kernel⟩, by decide +kernel, rfl⟩
set_option maxRecDepth 20000 in
theorem mlX9_199 : xMV RX9 199 mX9_readArgument 1 9 := ⟨mcX9_readArgument, wG_t 770 (by decide +kernel) (by decide +kernel), wG_t 772 (by decide +kernel) (by decide +kernel), wG_p (n := 9) 9 (by decide +kernel) rfl, rfl⟩
set_option maxRecDepth 20000 in
theorem mcX9_mostNumbers : xMc mX9_mostNumbers 1 := ⟨wG_t 776 (by decide +kernel) (by decide +kernel), wG_t 1 (by decide +kernel) (by decide +kernel), ⟨by decide +kernel, by decide +kernel, by decide +kernel⟩, by decide +kernel, rfl⟩
set_option maxRecDepth 20000 in
theorem mlX9_202 : xMS RX9 202 mX9_mostNumbers 1 := ⟨mcX9_mostNumbers, wG_t 774 (by decide +kernel) (by decide +kernel), wG_t 775 (by decide +kernel) (by decide +kernel)⟩
set_option maxRecDepth 20000 in
theorem mcX6_isNumber : xMc mX6_isNumber 0 := ⟨wG_t 780 (by decide +kernel) (by decide +kernel), wG_t 11 (by decide +kernel) (by decide +kernel), ⟨by decide +kernel, by decide +kernel, by decide +kernel⟩, by decide +kernel, rfl⟩
set_option maxRecDepth 20000 in
theorem mlX9_205 : xMV RX9 205 mX6_isNumber 0 6 := ⟨mcX6_isNumber, wG_t 777 (by decide +kernel) (by decide +kernel), wG_t 778 (by decide +kernel) (by decide +kernel), wG_t 779 (by decide +kernel) (by decide +kernel), rfl⟩
set_option maxRecDepth 20000 in
theorem mcX6_numberValue : xMc mX6_numberValue 0 := ⟨wG_t 784 (by decide +kernel) (by decide +kernel), wG_t 11 (by decide +kernel) (by decide +kernel), ⟨by decide +kernel, by decide +kernel, by decide +kernel⟩, by decide +kernel, rfl⟩
set_option maxRecDepth 20000 in
theorem mlX9_208 : xMV RX9 208 mX6_numberValue 0 6 := ⟨mcX6_numberValue, wG_t 781 (by decide +kernel) (by decide +kernel), wG_t 782 (by decide +kernel) (by decide +kernel), wG_t 783 (by decide +kernel) (by decide +kernel), rfl⟩
set_option maxRecDepth 20000 in
theorem mcX6_isWord : xMc mX6_isWord 1 := ⟨wG_t 704 (by decide +kernel) (by decide +kernel), wG_t 11 (by decide +kernel) (by decide +kernel), ⟨by decide +kernel, by decide +kernel, by decide +kernel⟩, by decide +kernel, rfl⟩
set_option maxRecDepth 20000 in
theorem mlX9_213 : xMV RX9 213 mX6_isWord 1 6 := ⟨mcX6_isWord, wG_t 701 (by decide +kernel) (by decide +kernel), wG_t 702 (by decide +kernel) (by decide +kernel), wG_t 703 (by decide +kernel) (by decide +kernel), rfl⟩
set_option maxRecDepth 20000 in
theorem mcX9_wordOf : xMc mX9_wordOf 1 := ⟨wG_t 690 (by decide +kernel) (by decide +kernel), wG_t 1 (by decide +kernel) (by decide +kernel), ⟨by decide +kernel, by decide +kernel, by decide +kernel⟩, by decide +kernel, rfl⟩
set_option maxRecDepth 20000 in
theorem mlX9_217 : xMS RX9 217 mX9_wordOf 1 := ⟨mcX9_wordOf, wG_t 688 (by decide +kernel) (by decide +kernel), wG_t 689 (by decide +kernel) (by decide +kernel)⟩
set_option maxRecDepth 20000 in
theorem mcX9_obeyFolds : xMc mX9_obeyFolds 1 := ⟨wG_t 801 (by decide +kernel) (by decide +kernel), wG_t 1 (by decide +kernel) (by decide +kernel), ⟨by decide +kernel, by decide +kernel, by decide +kernel⟩, by decide +kernel, rfl⟩
set_option maxRecDepth 20000 in
theorem mlX9_249 : xMV RX9 249 mX9_obeyFolds 1 9 := ⟨mcX9_obeyFolds, wG_t 798 (by decide +kernel) (by decide +kernel), wG_t 800 (by decide +kernel) (by decide +kernel), wG_p (n := 9) 11 (by decide +kernel) rfl, rfl⟩
set_option maxRecDepth 20000 in
theorem flX9_253 : xGF RX9 253 0 0 := ⟨by decide, wG_t 154 (by decide +kernel) (by decide +kernel)⟩
set_option maxRecDepth 20000 in
theorem flX9_257 : xGF RX9 257 5 0 := ⟨by decide, wG_t 48 (by decide +kernel) (by decide +kernel)⟩
set_option maxRecDepth 20000 in
theorem flX9_262 : xGF RX9 262 5 1 := ⟨by decide, wG_t 51 (by decide +kernel) (by decide +kernel)⟩
set_option maxRecDepth 20000 in
theorem flX9_265 : xGF RX9 265 0 1 := ⟨by decide, wG_t 158 (by decide +kernel) (by decide +kernel)⟩
set_option maxRecDepth 20000 in
theorem flX9_268 : xGF RX9 268 3 5 := ⟨by decide, wG_t 80 (by decide +kernel) (by decide +kernel)⟩
set_option maxRecDepth 20000 in
theorem mlX9_271 : xMV RX9 271 mX3_depth 0 3 := ⟨mcX3_depth, wG_t 809 (by decide +kernel) (by decide +kernel), wG_t 391 (by decide +kernel) (by decide +kernel), wG_t 392 (by decide +kernel) (by decide +kernel), rfl⟩
set_option maxRecDepth 20000 in
theorem flX9_274 : xGF RX9 274 3 4 := ⟨by decide, wG_t 76 (by decide +kernel) (by decide +kernel)⟩
set_option maxRecDepth 20000 in
theorem mlX9_277 : xMV RX9 277 mX3_isBooklet 0 3 := ⟨mcX3_isBooklet, wG_t 810 (by decide +kernel) (by decide +kernel), wG_t 424 (by decide +kernel) (by decide +kernel), wG_t 425 (by decide +kernel) (by decide +kernel), rfl⟩
set_option maxRecDepth 20000 in
theorem mlX9_280 : xMS RX9 280 mX9_asNumber 1 := ⟨mcX9_asNumber, wG_t 811 (by decide +kernel) (by decide +kernel), wG_t 493 (by decide +kernel) (by decide +kernel)⟩
set_option maxRecDepth 20000 in
theorem flX9_284 : xGF RX9 284 0 6 := ⟨by decide, wG_t 168 (by decide +kernel) (by decide +kernel)⟩
set_option maxRecDepth 20000 in
theorem flX9_287 : xGF RX9 287 0 7 := ⟨by decide, wG_t 170 (by decide +kernel) (by decide +kernel)⟩
set_option maxRecDepth 20000 in
theorem mlX9_290 : xMS RX9 290 mJ6_bitCount_0f7a4 1 := ⟨mcJ6_bitCount_0f7a4, wG_t 812 (by decide +kernel) (by decide +kernel), wG_t 538 (by decide +kernel) (by decide +kernel)⟩
set_option maxRecDepth 20000 in
theorem flX9_295 : xGF RX9 295 7 3 := ⟨by decide, wG_t 114 (by decide +kernel) (by decide +kernel)⟩
set_option maxRecDepth 20000 in
theorem flX9_298 : xGF RX9 298 4 1 := ⟨by decide, wG_t 133 (by decide +kernel) (by decide +kernel)⟩
set_option maxRecDepth 20000 in
theorem flX9_299 : xGF RX9 299 8 2 := ⟨by decide, wG_t 202 (by decide +kernel) (by decide +kernel)⟩
set_option maxRecDepth 20000 in
theorem flX9_302 : xGF RX9 302 1 1 := ⟨by decide, wG_t 221 (by decide +kernel) (by decide +kernel)⟩
set_option maxRecDepth 20000 in
theorem flX9_303 : xGF RX9 303 0 9 := ⟨by decide, wG_t 175 (by decide +kernel) (by decide +kernel)⟩
set_option maxRecDepth 20000 in
theorem flX9_305 : xGF RX9 305 0 8 := ⟨by decide, wG_t 172 (by decide +kernel) (by decide +kernel)⟩
set_option maxRecDepth 20000 in
theorem flX9_308 : xGF RX9 308 0 5 := ⟨by decide, wG_t 166 (by decide +kernel) (by decide +kernel)⟩
set_option maxRecDepth 20000 in
theorem mlX9_310 : xMV RX9 310 mX5_hasSide 3 5 := ⟨mcX5_hasSide, wG_t 817 (by decide +kernel) (by decide +kernel), wG_t 444 (by decide +kernel) (by decide +kernel), wG_t 445 (by decide +kernel) (by decide +kernel), rfl⟩
set_option maxRecDepth 20000 in
theorem mlX9_313 : xMS RX9 313 mX9_cellAt 2 := ⟨mcX9_cellAt, wG_t 818 (by decide +kernel) (by decide +kernel), wG_t 151 (by decide +kernel) (by decide +kernel)⟩
set_option maxRecDepth 20000 in
theorem mlX9_316 : xMS RX9 316 mX9_placeOfSide 2 := ⟨mcX9_placeOfSide, wG_t 819 (by decide +kernel) (by decide +kernel), wG_t 454 (by decide +kernel) (by decide +kernel)⟩
set_option maxRecDepth 20000 in
theorem mlX9_319 : xMV RX9 319 mX5_numberAt 1 5 := ⟨mcX5_numberAt, wG_t 820 (by decide +kernel) (by decide +kernel), wG_t 457 (by decide +kernel) (by decide +kernel), wG_t 458 (by decide +kernel) (by decide +kernel), rfl⟩
set_option maxRecDepth 20000 in
theorem mlX9_322 : xMV RX9 322 mX5_turnAt 1 5 := ⟨mcX5_turnAt, wG_t 821 (by decide +kernel) (by decide +kernel), wG_t 822 (by decide +kernel) (by decide +kernel), wG_t 823 (by decide +kernel) (by decide +kernel), rfl⟩
set_option maxRecDepth 20000 in
theorem mcX3_places : xMc mX3_places 0 := ⟨wG_t 832 (by decide +kernel) (by decide +kernel), wG_t 5 (by decide +kernel) (by decide +kernel), ⟨by decide +kernel, by decide +kernel, by decide +kernel⟩, by decide +kernel, rfl⟩
set_option maxRecDepth 20000 in
theorem mlX9_325 : xMV RX9 325 mX3_places 0 3 := ⟨mcX3_places, wG_t 829 (by decide +kernel) (by decide +kernel), wG_t 830 (by decide +kernel) (by decide +kernel), wG_t 831 (by decide +kernel) (by decide +kernel), rfl⟩
set_option maxRecDepth 20000 in
theorem mlX9_328 : xMV RX9 328 mX3_rowAt 1 3 := ⟨mcX3_rowAt, wG_t 833 (by decide +kernel) (by decide +kernel), wG_t 520 (by decide +kernel) (by decide +kernel), wG_t 521 (by decide +kernel) (by decide +kernel), rfl⟩
set_option maxRecDepth 20000 in
theorem mlX9_331 : xMV RX9 331 mX3_columnAt 1 3 := ⟨mcX3_columnAt, wG_t 834 (by decide +kernel) (by decide +kernel), wG_t 510 (by decide +kernel) (by decide +kernel), wG_t 511 (by decide +kernel) (by decide +kernel), rfl⟩
set_option maxRecDepth 20000 in
theorem mlX9_334 : xMV RX9 334 mX3_sideUpAt 1 3 := ⟨mcX3_sideUpAt, wG_t 835 (by decide +kernel) (by decide +kernel), wG_t 836 (by decide +kernel) (by decide +kernel), wG_t 837 (by decide +kernel) (by decide +kernel), rfl⟩
set_option maxRecDepth 20000 in
theorem mlX9_337 : xMV RX9 337 mX3_isUpsideDown 1 3 := ⟨mcX3_isUpsideDown, wG_t 839 (by decide +kernel) (by decide +kernel), wG_t 489 (by decide +kernel) (by decide +kernel), wG_t 490 (by decide +kernel) (by decide +kernel), rfl⟩
set_option maxRecDepth 20000 in
theorem mcX3_isMirrored : xMc mX3_isMirrored 1 := ⟨wG_t 843 (by decide +kernel) (by decide +kernel), wG_t 5 (by decide +kernel) (by decide +kernel), ⟨by decide +kernel, by decide +kernel, by decide +kernel⟩, by decide +kernel, rfl⟩
set_option maxRecDepth 20000 in
theorem mlX9_340 : xMV RX9 340 mX3_isMirrored 1 3 := ⟨mcX3_isMirrored, wG_t 840 (by decide +kernel) (by decide +kernel), wG_t 841 (by decide +kernel) (by decide +kernel), wG_t 842 (by decide +kernel) (by decide +kernel), rfl⟩
set_option maxRecDepth 20000 in
theorem mlX9_343 : xMV RX9 343 mX3_lastPage 0 3 := ⟨mcX3_lastPage, wG_t 848 (by decide +kernel) (by decide +kernel), wG_t 473 (by decide +kernel) (by decide +kernel), wG_t 474 (by decide +kernel) (by decide +kernel), rfl⟩
set_option maxRecDepth 20000 in
theorem mcX3_sideOfPage : xMc mX3_sideOfPage 1 := ⟨wG_t 852 (by decide +kernel) (by decide +kernel), wG_t 5 (by decide +kernel) (by decide +kernel), ⟨by decide +kernel, by decide +kernel, by decide +kernel⟩, by decide +kernel, rfl⟩
set_option maxRecDepth 20000 in
theorem mlX9_346 : xMV RX9 346 mX3_sideOfPage 1 3 := ⟨mcX3_sideOfPage, wG_t 849 (by decide +kernel) (by decide +kernel), wG_t 850 (by decide +kernel) (by decide +kernel), wG_t 851 (by decide +kernel) (by decide +kernel), rfl⟩
set_option maxRecDepth 20000 in
theorem mlX9_349 : xMV RX9 349 mX0_numberOn 2 0 := ⟨mcX0_numberOn, wG_t 854 (by decide +kernel) (by decide +kernel), wG_t 855 (by decide +kernel) (by decide +kernel), wG_t 856 (by decide +kernel) (by decide +kernel), rfl⟩
set_option maxRecDepth 20000 in
theorem mcX9_uprightOn : xMc mX9_uprightOn 2 := ⟨wG_t 860 (by decide +kernel) (by decide +kernel), wG_t 1 (by decide +kernel) (by decide +kernel), ⟨by decide +kernel, by decide +kernel, by decide +kernel⟩, by decide +kernel, rfl⟩
set_option maxRecDepth 20000 in
theorem mlX9_352 : xMS RX9 352 mX9_uprightOn 2 := ⟨mcX9_uprightOn, wG_t 858 (by decide +kernel) (by decide +kernel), wG_t 859 (by decide +kernel) (by decide +kernel)⟩
set_option maxRecDepth 20000 in
theorem mlX9_356 : xMV RX9 356 mX0_isHidden 1 0 := ⟨mcX0_isHidden, wG_t 866 (by decide +kernel) (by decide +kernel), wG_t 867 (by decide +kernel) (by decide +kernel), wG_t 868 (by decide +kernel) (by decide +kernel), rfl⟩
set_option maxRecDepth 20000 in
theorem mcX0_whyNotRead : xMc mX0_whyNotRead 1 := ⟨wG_t 885 (by decide +kernel) (by decide +kernel), wG_t 3 (by decide +kernel) (by decide +kernel), ⟨by decide +kernel, by decide +kernel, by decide +kernel⟩, by decide +kernel, rfl⟩
set_option maxRecDepth 20000 in
theorem mlX9_359 : xMV RX9 359 mX0_whyNotRead 1 0 := ⟨mcX0_whyNotRead, wG_t 882 (by decide +kernel) (by decide +kernel), wG_t 883 (by decide +kernel) (by decide +kernel), wG_t 884 (by decide +kernel) (by decide +kernel), rfl⟩
set_option maxRecDepth 20000 in
theorem flX9_33 : xGF RX9 33 9 3 := ⟨by decide, wG_t 280 (by decide +kernel) (by decide +kernel)⟩
set_option maxRecDepth 20000 in
theorem mcX2_arrange : xMc mX2_arrange 1 := ⟨wG_t 892 (by decide +kernel) (by decide +kernel), wG_t 10 (by decide +kernel) (by decide +kernel), ⟨by decide +kernel, by decide +kernel, by decide +kernel⟩, by decide +kernel, rfl⟩
set_option maxRecDepth 20000 in
theorem mlX9_362 : xMV RX9 362 mX2_arrange 1 2 := ⟨mcX2_arrange, wG_t 889 (by decide +kernel) (by decide +kernel), wG_t 890 (by decide +kernel) (by decide +kernel), wG_t 891 (by decide +kernel) (by decide +kernel), rfl⟩
set_option maxRecDepth 20000 in
theorem mcX2_takenOn : xMc mX2_takenOn 2 := ⟨wG_t 953 (by decide +kernel) (by decide +kernel), wG_t 10 (by decide +kernel) (by decide +kernel), ⟨by decide +kernel, by decide +kernel, by decide +kernel⟩, by decide +kernel, rfl⟩
set_option maxRecDepth 20000 in
theorem mlX9_366 : xMV RX9 366 mX2_takenOn 2 2 := ⟨mcX2_takenOn, wG_t 950 (by decide +kernel) (by decide +kernel), wG_t 951 (by decide +kernel) (by decide +kernel), wG_t 952 (by decide +kernel) (by decide +kernel), rfl⟩
set_option maxRecDepth 20000 in
theorem mlX9_370 : xMV RX9 370 mX0_isUpright 2 0 := ⟨mcX0_isUpright, wG_t 861 (by decide +kernel) (by decide +kernel), wG_t 862 (by decide +kernel) (by decide +kernel), wG_t 863 (by decide +kernel) (by decide +kernel), rfl⟩
set_option maxRecDepth 20000 in
theorem mlX9_374 : xMV RX9 374 mX0_shutEdges 1 0 := ⟨mcX0_shutEdges, wG_t 963 (by decide +kernel) (by decide +kernel), wG_t 871 (by decide +kernel) (by decide +kernel), wG_t 872 (by decide +kernel) (by decide +kernel), rfl⟩
set_option maxRecDepth 20000 in
theorem mlX9_377 : xMV RX9 377 mX0_linesAt 1 0 := ⟨mcX0_linesAt, wG_t 964 (by decide +kernel) (by decide +kernel), wG_t 900 (by decide +kernel) (by decide +kernel), wG_t 901 (by decide +kernel) (by decide +kernel), rfl⟩
set_option maxRecDepth 20000 in
theorem mlX9_380 : xMS RX9 380 mX9_isInSet 2 := ⟨mcX9_isInSet, wG_t 969 (by decide +kernel) (by decide +kernel), wG_t 348 (by decide +kernel) (by decide +kernel)⟩
set_option maxRecDepth 20000 in
theorem mlX9_384 : xMV RX9 384 mX3_pairsAlong 1 3 := ⟨mcX3_pairsAlong, wG_t 970 (by decide +kernel) (by decide +kernel), wG_t 506 (by decide +kernel) (by decide +kernel), wG_t 507 (by decide +kernel) (by decide +kernel), rfl⟩
set_option maxRecDepth 20000 in
theorem mlX9_387 : xMV RX9 387 mX3_edgesBetween 2 3 := ⟨mcX3_edgesBetween, wG_t 975 (by decide +kernel) (by decide +kernel), wG_t 875 (by decide +kernel) (by decide +kernel), wG_t 876 (by decide +kernel) (by decide +kernel), rfl⟩
set_option maxRecDepth 20000 in
theorem mcX0_countPieces : xMc mX0_countPieces 0 := ⟨wG_t 983 (by decide +kernel) (by decide +kernel), wG_t 3 (by decide +kernel) (by decide +kernel), ⟨by decide +kernel, by decide +kernel, by decide +kernel⟩, by decide +kernel, rfl⟩
set_option maxRecDepth 20000 in
theorem mlX9_390 : xMV RX9 390 mX0_countPieces 0 0 := ⟨mcX0_countPieces, wG_t 980 (by decide +kernel) (by decide +kernel), wG_t 981 (by decide +kernel) (by decide +kernel), wG_t 982 (by decide +kernel) (by decide +kernel), rfl⟩
set_option maxRecDepth 20000 in
theorem mlX9_393 : xMV RX9 393 mX4_has 1 4 := ⟨mcX4_has, wG_t 1004 (by decide +kernel) (by decide +kernel), wG_t 602 (by decide +kernel) (by decide +kernel), wG_t 603 (by decide +kernel) (by decide +kernel), rfl⟩
set_option maxRecDepth 20000 in
theorem mcX2_firstLineOf : xMc mX2_firstLineOf 1 := ⟨wG_t 1009 (by decide +kernel) (by decide +kernel), wG_t 10 (by decide +kernel) (by decide +kernel), ⟨by decide +kernel, by decide +kernel, by decide +kernel⟩, by decide +kernel, rfl⟩
set_option maxRecDepth 20000 in
theorem mlX9_399 : xMV RX9 399 mX2_firstLineOf 1 2 := ⟨mcX2_firstLineOf, wG_t 1006 (by decide +kernel) (by decide +kernel), wG_t 1007 (by decide +kernel) (by decide +kernel), wG_t 1008 (by decide +kernel) (by decide +kernel), rfl⟩
set_option maxRecDepth 20000 in
theorem mlX9_402 : xMV RX9 402 mX2_pageOfLine 1 2 := ⟨mcX2_pageOfLine, wG_t 1010 (by decide +kernel) (by decide +kernel), wG_t 955 (by decide +kernel) (by decide +kernel), wG_t 956 (by decide +kernel) (by decide +kernel), rfl⟩
set_option maxRecDepth 20000 in
theorem mcX2_lineOnPage : xMc mX2_lineOnPage 1 := ⟨wG_t 1014 (by decide +kernel) (by decide +kernel), wG_t 10 (by decide +kernel) (by decide +kernel), ⟨by decide +kernel, by decide +kernel, by decide +kernel⟩, by decide +kernel, rfl⟩
set_option maxRecDepth 20000 in
theorem mlX9_405 : xMV RX9 405 mX2_lineOnPage 1 2 := ⟨mcX2_lineOnPage, wG_t 1011 (by decide +kernel) (by decide +kernel), wG_t 1012 (by decide +kernel) (by decide +kernel), wG_t 1013 (by decide +kernel) (by decide +kernel), rfl⟩
set_option maxRecDepth 20000 in
theorem mlX9_408 : xMV RX9 408 mX4_linesOf 1 4 := ⟨mcX4_linesOf, wG_t 1015 (by decide +kernel) (by decide +kernel), wG_t 930 (by decide +kernel) (by decide +kernel), wG_t 931 (by decide +kernel) (by decide +kernel), rfl⟩
set_option maxRecDepth 20000 in
theorem mlX9_396 : xMV RX9 396 mX4_get 2 4 := ⟨mcX4_get, wG_t 1005 (by decide +kernel) (by decide +kernel), wG_t 922 (by decide +kernel) (by decide +kernel), wG_t 923 (by decide +kernel) (by decide +kernel), rfl⟩
set_option maxRecDepth 20000 in
theorem mcX2_firstLineAbout : xMc mX2_firstLineAbout 2 := ⟨wG_t 1023 (by decide +kernel) (by decide +kernel), wG_t 10 (by decide +kernel) (by decide +kernel), ⟨by decide +kernel, by decide +kernel, by decide +kernel⟩, by decide +kernel, rfl⟩
set_option maxRecDepth 20000 in
theorem mlX9_411 : xMV RX9 411 mX2_firstLineAbout 2 2 := ⟨mcX2_firstLineAbout, wG_t 1020 (by decide +kernel) (by decide +kernel), wG_t 1021 (by decide +kernel) (by decide +kernel), wG_t 1022 (by decide +kernel) (by decide +kernel), rfl⟩
set_option maxRecDepth 20000 in
theorem mcX0_effortOf : xMc mX0_effortOf 1 := ⟨wG_t 1032 (by decide +kernel) (by decide +kernel), wG_t 3 (by decide +kernel) (by decide +kernel), ⟨by decide +kernel, by decide +kernel, by decide +kernel⟩, by decide +kernel, rfl⟩
set_option maxRecDepth 20000 in
theorem mlX9_414 : xMV RX9 414 mX0_effortOf 1 0 := ⟨mcX0_effortOf, wG_t 1029 (by decide +kernel) (by decide +kernel), wG_t 1030 (by decide +kernel) (by decide +kernel), wG_t 1031 (by decide +kernel) (by decide +kernel), rfl⟩
set_option maxRecDepth 20000 in
theorem mcX9_rowOfFolds : xMc mX9_rowOfFolds 1 := ⟨wG_t 1039 (by decide +kernel) (by decide +kernel), wG_t 1 (by decide +kernel) (by decide +kernel), ⟨by decide +kernel, by decide +kernel, by decide +kernel⟩, by decide +kernel, rfl⟩
set_option maxRecDepth 20000 in
theorem mlX9_417 : xMS RX9 417 mX9_rowOfFolds 1 := ⟨mcX9_rowOfFolds, wG_t 1037 (by decide +kernel) (by decide +kernel), wG_t 1038 (by decide +kernel) (by decide +kernel)⟩
set_option maxRecDepth 20000 in
theorem mcX9_tryFolds : xMc mX9_tryFolds 1 := ⟨wG_t 1043 (by decide +kernel) (by decide +kernel), wG_t 1 (by decide +kernel) (by decide +kernel), ⟨by decide +kernel, by decide +kernel, by decide +kernel⟩, by decide +kernel, rfl⟩
set_option maxRecDepth 20000 in
theorem mlX9_420 : xMV RX9 420 mX9_tryFolds 1 9 := ⟨mcX9_tryFolds, wG_t 1040 (by decide +kernel) (by decide +kernel), wG_t 1042 (by decide +kernel) (by decide +kernel), wG_p (n := 9) 22 (by decide +kernel) rfl, rfl⟩
set_option maxRecDepth 20000 in
theorem mcX0_showsAllSights : xMc mX0_showsAllSights 1 := ⟨wG_t 1048 (by decide +kernel) (by decide +kernel), wG_t 3 (by decide +kernel) (by decide +kernel), ⟨by decide +kernel, by decide +kernel, by decide +kernel⟩, by decide +kernel, rfl⟩
set_option maxRecDepth 20000 in
theorem mlX9_423 : xMV RX9 423 mX0_showsAllSights 1 0 := ⟨mcX0_showsAllSights, wG_t 1045 (by decide +kernel) (by decide +kernel), wG_t 1046 (by decide +kernel) (by decide +kernel), wG_t 1047 (by decide +kernel) (by decide +kernel), rfl⟩
set_option maxRecDepth 20000 in
theorem mcX0_pagesInOrder : xMc mX0_pagesInOrder 1 := ⟨wG_t 1056 (by decide +kernel) (by decide +kernel), wG_t 3 (by decide +kernel) (by decide +kernel), ⟨by decide +kernel, by decide +kernel, by decide +kernel⟩, by decide +kernel, rfl⟩
set_option maxRecDepth 20000 in
theorem mlX9_427 : xMV RX9 427 mX0_pagesInOrder 1 0 := ⟨mcX0_pagesInOrder, wG_t 1053 (by decide +kernel) (by decide +kernel), wG_t 1054 (by decide +kernel) (by decide +kernel), wG_t 1055 (by decide +kernel) (by decide +kernel), rfl⟩
set_option maxRecDepth 20000 in
theorem mcX0_edgesToCut : xMc mX0_edgesToCut 1 := ⟨wG_t 1064 (by decide +kernel) (by decide +kernel), wG_t 3 (by decide +kernel) (by decide +kernel), ⟨by decide +kernel, by decide +kernel, by decide +kernel⟩, by decide +kernel, rfl⟩
set_option maxRecDepth 20000 in
theorem mlX9_431 : xMV RX9 431 mX0_edgesToCut 1 0 := ⟨mcX0_edgesToCut, wG_t 1061 (by decide +kernel) (by decide +kernel), wG_t 1062 (by decide +kernel) (by decide +kernel), wG_t 1063 (by decide +kernel) (by decide +kernel), rfl⟩
set_option maxRecDepth 20000 in
theorem mcX9_bestFolds : xMc mX9_bestFolds 0 := ⟨wG_t 1072 (by decide +kernel) (by decide +kernel), wG_t 1 (by decide +kernel) (by decide +kernel), ⟨by decide +kernel, by decide +kernel, by decide +kernel⟩, by decide +kernel, rfl⟩
set_option maxRecDepth 20000 in
theorem mlX9_434 : xMV RX9 434 mX9_bestFolds 0 9 := ⟨mcX9_bestFolds, wG_t 1069 (by decide +kernel) (by decide +kernel), wG_t 1071 (by decide +kernel) (by decide +kernel), wG_p (n := 9) 23 (by decide +kernel) rfl, rfl⟩
set_option maxRecDepth 20000 in
theorem mcX9_cutsFor : xMc mX9_cutsFor 1 := ⟨wG_t 1060 (by decide +kernel) (by decide +kernel), wG_t 1 (by decide +kernel) (by decide +kernel), ⟨by decide +kernel, by decide +kernel, by decide +kernel⟩, by decide +kernel, rfl⟩
set_option maxRecDepth 20000 in
theorem mlX9_437 : xMV RX9 437 mX9_cutsFor 1 9 := ⟨mcX9_cutsFor, wG_t 1073 (by decide +kernel) (by decide +kernel), wG_t 1058 (by decide +kernel) (by decide +kernel), wG_t 1059 (by decide +kernel) (by decide +kernel), rfl⟩
set_option maxRecDepth 20000 in
theorem mcX9_readsBy : xMc mX9_readsBy 1 := ⟨wG_t 1052 (by decide +kernel) (by decide +kernel), wG_t 1 (by decide +kernel) (by decide +kernel), ⟨by decide +kernel, by decide +kernel, by decide +kernel⟩, by decide +kernel, rfl⟩
set_option maxRecDepth 20000 in
theorem mlX9_440 : xMV RX9 440 mX9_readsBy 1 9 := ⟨mcX9_readsBy, wG_t 1074 (by decide +kernel) (by decide +kernel), wG_t 1050 (by decide +kernel) (by decide +kernel), wG_t 1051 (by decide +kernel) (by decide +kernel), rfl⟩
set_option maxRecDepth 20000 in
theorem mlX9_443 : xMV RX9 443 mX3_foldBy 3 3 := ⟨mcX3_foldBy, wG_t 1044 (by decide +kernel) (by decide +kernel), wG_t 416 (by decide +kernel) (by decide +kernel), wG_t 417 (by decide +kernel) (by decide +kernel), rfl⟩
set_option maxRecDepth 20000 in
theorem flX10_7 : xGF RX10 7 10 0 := ⟨by decide, wG_t 1085 (by decide +kernel) (by decide +kernel)⟩
set_option maxRecDepth 20000 in
theorem flX10_61 : xGF RX10 61 10 3 := ⟨by decide, wG_t 1088 (by decide +kernel) (by decide +kernel)⟩
set_option maxRecDepth 20000 in
theorem flX10_13 : xGF RX10 13 10 1 := ⟨by decide, wG_t 1086 (by decide +kernel) (by decide +kernel)⟩
set_option maxRecDepth 20000 in
theorem flX10_65 : xGF RX10 65 10 6 := ⟨by decide, wG_t 1091 (by decide +kernel) (by decide +kernel)⟩
set_option maxRecDepth 20000 in
theorem mcX10_record : xMc mX10_record 0 := ⟨wG_t 1193 (by decide +kernel) (by decide +kernel), wG_t 12 (by decide +kernel) (by decide +kernel), ⟨by decide +kernel, by decide +kernel, by decide +kernel⟩, by decide +kernel, rfl⟩
set_option maxRecDepth 20000 in
theorem mlX10_69 : xMV RX10 69 mX10_record 0 10 := ⟨mcX10_record, wG_t 1190 (by decide +kernel) (by decide +kernel), wG_t 1192 (by decide +kernel) (by decide +kernel), wG_p (n := 31) 26 (by decide +kernel) rfl, rfl⟩
set_option maxRecDepth 20000 in
theorem flX10_72 : xGF RX10 72 10 7 := ⟨by decide, wG_t 1092 (by decide +kernel) (by decide +kernel)⟩
set_option maxRecDepth 20000 in
theorem flX10_75 : xGF RX10 75 10 8 := ⟨by decide, wG_t 1093 (by decide +kernel) (by decide +kernel)⟩
set_option maxRecDepth 20000 in
theorem flX10_78 : xGF RX10 78 10 9 := ⟨by decide, wG_t 1094 (by decide +kernel) (by decide +kernel)⟩
set_option maxRecDepth 20000 in
theorem flX10_22 : xGF RX10 22 10 10 := ⟨by decide, wG_t 1095 (by decide +kernel) (by decide +kernel)⟩
set_option maxRecDepth 20000 in
theorem flX10_25 : xGF RX10 25 10 11 := ⟨by decide, wG_t 1096 (by decide +kernel) (by decide +kernel)⟩
set_option maxRecDepth 20000 in
theorem flX10_28 : xGF RX10 28 10 12 := ⟨by decide, wG_t 1097 (by decide +kernel) (by decide +kernel)⟩
set_option maxRecDepth 20000 in
theorem flX10_31 : xGF RX10 31 10 13 := ⟨by decide, wG_t 1098 (by decide +kernel) (by decide +kernel)⟩
set_option maxRecDepth 20000 in
theorem flX10_34 : xGF RX10 34 10 14 := ⟨by decide, wG_t 1099 (by decide +kernel) (by decide +kernel)⟩
set_option maxRecDepth 20000 in
theorem flX10_37 : xGF RX10 37 10 15 := ⟨by decide, wG_t 1100 (by decide +kernel) (by decide +kernel)⟩
set_option maxRecDepth 20000 in
theorem flX10_40 : xGF RX10 40 10 16 := ⟨by decide, wG_t 1101 (by decide +kernel) (by decide +kernel)⟩
set_option maxRecDepth 20000 in
theorem flX10_43 : xGF RX10 43 10 17 := ⟨by decide, wG_t 1102 (by decide +kernel) (by decide +kernel)⟩
set_option maxRecDepth 20000 in
theorem mcX10_takeLayer : xMc mX10_takeLayer 3 := ⟨wG_t 1217 (by decide +kernel) (by decide +kernel), wG_t 12 (by decide +kernel) (by decide +kernel), ⟨by decide +kernel, by decide +kernel, by decide +kernel⟩, by decide +kernel, rfl⟩
set_option maxRecDepth 20000 in
theorem mlX10_81 : xMV RX10 81 mX10_takeLayer 3 10 := ⟨mcX10_takeLayer, wG_t 1214 (by decide +kernel) (by decide +kernel), wG_t 1216 (by decide +kernel) (by decide +kernel), wG_p (n := 31) 30 (by decide +kernel) rfl, rfl⟩
set_option maxRecDepth 20000 in
theorem mcX10_layOpen : xMc mX10_layOpen 0 := ⟨wG_t 1209 (by decide +kernel) (by decide +kernel), wG_t 12 (by decide +kernel) (by decide +kernel), ⟨by decide +kernel, by decide +kernel, by decide +kernel⟩, by decide +kernel, rfl⟩
set_option maxRecDepth 20000 in
theorem mlX10_85 : xMV RX10 85 mX10_layOpen 0 10 := ⟨mcX10_layOpen, wG_t 1206 (by decide +kernel) (by decide +kernel), wG_t 1208 (by decide +kernel) (by decide +kernel), wG_p (n := 31) 28 (by decide +kernel) rfl, rfl⟩
set_option maxRecDepth 20000 in
theorem mcX10_foldBy : xMc mX10_foldBy 1 := ⟨wG_t 1213 (by decide +kernel) (by decide +kernel), wG_t 12 (by decide +kernel) (by decide +kernel), ⟨by decide +kernel, by decide +kernel, by decide +kernel⟩, by decide +kernel, rfl⟩
set_option maxRecDepth 20000 in
theorem mlX10_88 : xMV RX10 88 mX10_foldBy 1 10 := ⟨mcX10_foldBy, wG_t 1210 (by decide +kernel) (by decide +kernel), wG_t 1212 (by decide +kernel) (by decide +kernel), wG_p (n := 31) 29 (by decide +kernel) rfl, rfl⟩
set_option maxRecDepth 20000 in
theorem mcX10_layNow : xMc mX10_layNow 0 := ⟨wG_t 1205 (by decide +kernel) (by decide +kernel), wG_t 12 (by decide +kernel) (by decide +kernel), ⟨by decide +kernel, by decide +kernel, by decide +kernel⟩, by decide +kernel, rfl⟩
set_option maxRecDepth 20000 in
theorem mlX10_92 : xMV RX10 92 mX10_layNow 0 10 := ⟨mcX10_layNow, wG_t 1202 (by decide +kernel) (by decide +kernel), wG_t 1204 (by decide +kernel) (by decide +kernel), wG_p (n := 31) 27 (by decide +kernel) rfl, rfl⟩
set_option maxRecDepth 20000 in
theorem mcX10_cells : xMc mX10_cells 0 := ⟨wG_t 1259 (by decide +kernel) (by decide +kernel), wG_t 12 (by decide +kernel) (by decide +kernel), ⟨by decide +kernel, by decide +kernel, by decide +kernel⟩, by decide +kernel, rfl⟩
set_option maxRecDepth 20000 in
theorem mlX10_95 : xMV RX10 95 mX10_cells 0 10 := ⟨mcX10_cells, wG_t 1256 (by decide +kernel) (by decide +kernel), wG_t 1258 (by decide +kernel) (by decide +kernel), wG_p (n := 31) 36 (by decide +kernel) rfl, rfl⟩
theorem ckX10_99 : Cond.constantLong RX10 99 (Int64.ofInt 4) ∈ wG := wG_t 1198 (by decide +kernel) (by decide +kernel)
set_option maxRecDepth 20000 in
theorem mcX10_in : xMc mX10_in 3 := ⟨wG_t 1201 (by decide +kernel) (by decide +kernel), wG_t 12 (by decide +kernel) (by decide +kernel), ⟨by decide +kernel, by decide +kernel, by decide +kernel⟩, by decide +kernel, rfl⟩
set_option maxRecDepth 20000 in
theorem mlX10_101 : xMS RX10 101 mX10_in 3 := ⟨mcX10_in, wG_t 1199 (by decide +kernel) (by decide +kernel), wG_t 1200 (by decide +kernel) (by decide +kernel)⟩
set_option maxRecDepth 20000 in
theorem mcX10_mayFold : xMc mX10_mayFold 1 := ⟨wG_t 1221 (by decide +kernel) (by decide +kernel), wG_t 12 (by decide +kernel) (by decide +kernel), ⟨by decide +kernel, by decide +kernel, by decide +kernel⟩, by decide +kernel, rfl⟩
set_option maxRecDepth 20000 in
theorem mlX10_105 : xMV RX10 105 mX10_mayFold 1 10 := ⟨mcX10_mayFold, wG_t 1218 (by decide +kernel) (by decide +kernel), wG_t 1220 (by decide +kernel) (by decide +kernel), wG_p (n := 31) 31 (by decide +kernel) rfl, rfl⟩
set_option maxRecDepth 20000 in
theorem mcX10_turnOf : xMc mX10_turnOf 1 := ⟨wG_t 1267 (by decide +kernel) (by decide +kernel), wG_t 12 (by decide +kernel) (by decide +kernel), ⟨by decide +kernel, by decide +kernel, by decide +kernel⟩, by decide +kernel, rfl⟩
set_option maxRecDepth 20000 in
theorem mlX10_109 : xMV RX10 109 mX10_turnOf 1 10 := ⟨mcX10_turnOf, wG_t 1264 (by decide +kernel) (by decide +kernel), wG_t 1266 (by decide +kernel) (by decide +kernel), wG_p (n := 31) 38 (by decide +kernel) rfl, rfl⟩
set_option maxRecDepth 20000 in
theorem mcX10_sideOf : xMc mX10_sideOf 1 := ⟨wG_t 1263 (by decide +kernel) (by decide +kernel), wG_t 12 (by decide +kernel) (by decide +kernel), ⟨by decide +kernel, by decide +kernel, by decide +kernel⟩, by decide +kernel, rfl⟩
set_option maxRecDepth 20000 in
theorem mlX10_113 : xMV RX10 113 mX10_sideOf 1 10 := ⟨mcX10_sideOf, wG_t 1260 (by decide +kernel) (by decide +kernel), wG_t 1262 (by decide +kernel) (by decide +kernel), wG_p (n := 31) 37 (by decide +kernel) rfl, rfl⟩
set_option maxRecDepth 20000 in
theorem mcX10_edgeOf : xMc mX10_edgeOf 2 := ⟨wG_t 1287 (by decide +kernel) (by decide +kernel), wG_t 12 (by decide +kernel) (by decide +kernel), ⟨by decide +kernel, by decide +kernel, by decide +kernel⟩, by decide +kernel, rfl⟩
set_option maxRecDepth 20000 in
theorem mlX10_116 : xMV RX10 116 mX10_edgeOf 2 10 := ⟨mcX10_edgeOf, wG_t 1284 (by decide +kernel) (by decide +kernel), wG_t 1286 (by decide +kernel) (by decide +kernel), wG_p (n := 31) 41 (by decide +kernel) rfl, rfl⟩
set_option maxRecDepth 20000 in
theorem mcX10_has : xMc mX10_has 2 := ⟨wG_t 1279 (by decide +kernel) (by decide +kernel), wG_t 12 (by decide +kernel) (by decide +kernel), ⟨by decide +kernel, by decide +kernel, by decide +kernel⟩, by decide +kernel, rfl⟩
set_option maxRecDepth 20000 in
theorem mlX10_120 : xMS RX10 120 mX10_has 2 := ⟨mcX10_has, wG_t 1277 (by decide +kernel) (by decide +kernel), wG_t 1278 (by decide +kernel) (by decide +kernel)⟩
set_option maxRecDepth 20000 in
theorem mcX10_spineEdge : xMc mX10_spineEdge 0 := ⟨wG_t 1462 (by decide +kernel) (by decide +kernel), wG_t 12 (by decide +kernel) (by decide +kernel), ⟨by decide +kernel, by decide +kernel, by decide +kernel⟩, by decide +kernel, rfl⟩
set_option maxRecDepth 20000 in
theorem mlX10_124 : xMV RX10 124 mX10_spineEdge 0 10 := ⟨mcX10_spineEdge, wG_t 1459 (by decide +kernel) (by decide +kernel), wG_t 1461 (by decide +kernel) (by decide +kernel), wG_p (n := 31) 55 (by decide +kernel) rfl, rfl⟩
set_option maxRecDepth 20000 in
theorem mcX10_shutBy : xMc mX10_shutBy 2 := ⟨wG_t 1458 (by decide +kernel) (by decide +kernel), wG_t 12 (by decide +kernel) (by decide +kernel), ⟨by decide +kernel, by decide +kernel, by decide +kernel⟩, by decide +kernel, rfl⟩
set_option maxRecDepth 20000 in
theorem mlX10_127 : xMV RX10 127 mX10_shutBy 2 10 := ⟨mcX10_shutBy, wG_t 1455 (by decide +kernel) (by decide +kernel), wG_t 1457 (by decide +kernel) (by decide +kernel), wG_p (n := 31) 54 (by decide +kernel) rfl, rfl⟩
set_option maxRecDepth 20000 in
theorem mcX10_printedOn : xMc mX10_printedOn 1 := ⟨wG_t 1470 (by decide +kernel) (by decide +kernel), wG_t 12 (by decide +kernel) (by decide +kernel), ⟨by decide +kernel, by decide +kernel, by decide +kernel⟩, by decide +kernel, rfl⟩
set_option maxRecDepth 20000 in
theorem mlX10_130 : xMV RX10 130 mX10_printedOn 1 10 := ⟨mcX10_printedOn, wG_t 1467 (by decide +kernel) (by decide +kernel), wG_t 1469 (by decide +kernel) (by decide +kernel), wG_p (n := 31) 57 (by decide +kernel) rfl, rfl⟩
set_option maxRecDepth 20000 in
theorem mcX10_isUpright : xMc mX10_isUpright 1 := ⟨wG_t 1450 (by decide +kernel) (by decide +kernel), wG_t 12 (by decide +kernel) (by decide +kernel), ⟨by decide +kernel, by decide +kernel, by decide +kernel⟩, by decide +kernel, rfl⟩
set_option maxRecDepth 20000 in
theorem mlX10_133 : xMV RX10 133 mX10_isUpright 1 10 := ⟨mcX10_isUpright, wG_t 1447 (by decide +kernel) (by decide +kernel), wG_t 1449 (by decide +kernel) (by decide +kernel), wG_p (n := 31) 52 (by decide +kernel) rfl, rfl⟩
set_option maxRecDepth 20000 in
theorem mcX10_isSide : xMc mX10_isSide 1 := ⟨wG_t 1185 (by decide +kernel) (by decide +kernel), wG_t 12 (by decide +kernel) (by decide +kernel), ⟨by decide +kernel, by decide +kernel, by decide +kernel⟩, by decide +kernel, rfl⟩
set_option maxRecDepth 20000 in
theorem mlX10_136 : xMS RX10 136 mX10_isSide 1 := ⟨mcX10_isSide, wG_t 1183 (by decide +kernel) (by decide +kernel), wG_t 1184 (by decide +kernel) (by decide +kernel)⟩
set_option maxRecDepth 20000 in
theorem mcX10_act : xMc mX10_act 0 := ⟨wG_t 1189 (by decide +kernel) (by decide +kernel), wG_t 12 (by decide +kernel) (by decide +kernel), ⟨by decide +kernel, by decide +kernel, by decide +kernel⟩, by decide +kernel, rfl⟩
set_option maxRecDepth 20000 in
theorem mlX10_139 : xMV RX10 139 mX10_act 0 10 := ⟨mcX10_act, wG_t 1186 (by decide +kernel) (by decide +kernel), wG_t 1188 (by decide +kernel) (by decide +kernel), wG_p (n := 31) 25 (by decide +kernel) rfl, rfl⟩
set_option maxRecDepth 20000 in
theorem mcX10_noPrint : xMc mX10_noPrint 0 := ⟨wG_t 1084 (by decide +kernel) (by decide +kernel), wG_t 12 (by decide +kernel) (by decide +kernel), ⟨by decide +kernel, by decide +kernel, by decide +kernel⟩, by decide +kernel, rfl⟩
set_option maxRecDepth 20000 in
theorem mlX10_58 : xMV RX10 58 mX10_noPrint 0 10 := ⟨mcX10_noPrint, wG_t 1081 (by decide +kernel) (by decide +kernel), wG_t 1083 (by decide +kernel) (by decide +kernel), wG_p (n := 31) 24 (by decide +kernel) rfl, rfl⟩
set_option maxRecDepth 20000 in
theorem mcX10_isHeld : xMc mX10_isHeld 0 := ⟨wG_t 1225 (by decide +kernel) (by decide +kernel), wG_t 12 (by decide +kernel) (by decide +kernel), ⟨by decide +kernel, by decide +kernel, by decide +kernel⟩, by decide +kernel, rfl⟩
set_option maxRecDepth 20000 in
theorem mlX10_142 : xMV RX10 142 mX10_isHeld 0 10 := ⟨mcX10_isHeld, wG_t 1222 (by decide +kernel) (by decide +kernel), wG_t 1224 (by decide +kernel) (by decide +kernel), wG_p (n := 31) 32 (by decide +kernel) rfl, rfl⟩
set_option maxRecDepth 20000 in
theorem mcX10_isCell : xMc mX10_isCell 2 := ⟨wG_t 1241 (by decide +kernel) (by decide +kernel), wG_t 12 (by decide +kernel) (by decide +kernel), ⟨by decide +kernel, by decide +kernel, by decide +kernel⟩, by decide +kernel, rfl⟩
set_option maxRecDepth 20000 in
theorem mlX10_146 : xMV RX10 146 mX10_isCell 2 10 := ⟨mcX10_isCell, wG_t 1238 (by decide +kernel) (by decide +kernel), wG_t 1240 (by decide +kernel) (by decide +kernel), wG_p (n := 31) 33 (by decide +kernel) rfl, rfl⟩
theorem ckX10_149 : Cond.constantLong RX10 149 (Int64.ofInt (-1)) ∈ wG := wG_t 1242 (by decide +kernel) (by decide +kernel)
theorem ckX10_151 : Cond.constantLong RX10 151 (Int64.ofInt 31) ∈ wG := wG_t 1243 (by decide +kernel) (by decide +kernel)
set_option maxRecDepth 20000 in
theorem mcX10_printOn : xMc mX10_printOn 3 := ⟨wG_t 1247 (by decide +kernel) (by decide +kernel), wG_t 12 (by decide +kernel) (by decide +kernel), ⟨by decide +kernel, by decide +kernel, by decide +kernel⟩, by decide +kernel, rfl⟩
set_option maxRecDepth 20000 in
theorem mlX10_153 : xMV RX10 153 mX10_printOn 3 10 := ⟨mcX10_printOn, wG_t 1244 (by decide +kernel) (by decide +kernel), wG_t 1246 (by decide +kernel) (by decide +kernel), wG_p (n := 31) 34 (by decide +kernel) rfl, rfl⟩
set_option maxRecDepth 20000 in
theorem mcX10_layBy : xMc mX10_layBy 1 := ⟨wG_t 1255 (by decide +kernel) (by decide +kernel), wG_t 12 (by decide +kernel) (by decide +kernel), ⟨by decide +kernel, by decide +kernel, by decide +kernel⟩, by decide +kernel, rfl⟩
set_option maxRecDepth 20000 in
theorem mlX10_157 : xMV RX10 157 mX10_layBy 1 10 := ⟨mcX10_layBy, wG_t 1252 (by decide +kernel) (by decide +kernel), wG_t 1254 (by decide +kernel) (by decide +kernel), wG_p (n := 31) 35 (by decide +kernel) rfl, rfl⟩
theorem ckX10_160 : Cond.constantLong RX10 160 (Int64.ofInt 3) ∈ wG := wG_t 1272 (by decide +kernel) (by decide +kernel)
set_option maxRecDepth 20000 in
theorem mcX10_isBooklet : xMc mX10_isBooklet 0 := ⟨wG_t 1276 (by decide +kernel) (by decide +kernel), wG_t 12 (by decide +kernel) (by decide +kernel), ⟨by decide +kernel, by decide +kernel, by decide +kernel⟩, by decide +kernel, rfl⟩
set_option maxRecDepth 20000 in
theorem mlX10_162 : xMV RX10 162 mX10_isBooklet 0 10 := ⟨mcX10_isBooklet, wG_t 1273 (by decide +kernel) (by decide +kernel), wG_t 1275 (by decide +kernel) (by decide +kernel), wG_p (n := 31) 39 (by decide +kernel) rfl, rfl⟩
set_option maxRecDepth 20000 in
theorem mcX10_pairsAt : xMc mX10_pairsAt 1 := ⟨wG_t 1283 (by decide +kernel) (by decide +kernel), wG_t 12 (by decide +kernel) (by decide +kernel), ⟨by decide +kernel, by decide +kernel, by decide +kernel⟩, by decide +kernel, rfl⟩
set_option maxRecDepth 20000 in
theorem mlX10_165 : xMV RX10 165 mX10_pairsAt 1 10 := ⟨mcX10_pairsAt, wG_t 1280 (by decide +kernel) (by decide +kernel), wG_t 1282 (by decide +kernel) (by decide +kernel), wG_p (n := 31) 40 (by decide +kernel) rfl, rfl⟩
theorem ckX10_168 : Cond.constantLong RX10 168 (Int64.ofInt 9) ∈ wG := wG_t 1292 (by decide +kernel) (by decide +kernel)
set_option maxRecDepth 20000 in
theorem mcX10_ones : xMc mX10_ones 1 := ⟨wG_t 1295 (by decide +kernel) (by decide +kernel), wG_t 12 (by decide +kernel) (by decide +kernel), ⟨by decide +kernel, by decide +kernel, by decide +kernel⟩, by decide +kernel, rfl⟩
set_option maxRecDepth 20000 in
theorem mlX10_170 : xMS RX10 170 mX10_ones 1 := ⟨mcX10_ones, wG_t 1293 (by decide +kernel) (by decide +kernel), wG_t 1294 (by decide +kernel) (by decide +kernel)⟩
theorem ckX10_173 : Cond.constantLong RX10 173 (Int64.ofInt 16) ∈ wG := wG_t 1304 (by decide +kernel) (by decide +kernel)
theorem ckX10_175 : Cond.constantLong RX10 175 (Int64.ofInt 99) ∈ wG := wG_t 1317 (by decide +kernel) (by decide +kernel)
theorem ckX10_177 : Cond.constantLong RX10 177 (Int64.ofInt 20) ∈ wG := wG_t 1318 (by decide +kernel) (by decide +kernel)
theorem ckX10_179 : Cond.constantLong RX10 179 (Int64.ofInt 255) ∈ wG := wG_t 1343 (by decide +kernel) (by decide +kernel)
set_option maxRecDepth 20000 in
theorem flX10_181 : xGF RX10 181 10 4 := ⟨by decide, wG_t 1089 (by decide +kernel) (by decide +kernel)⟩
set_option maxRecDepth 20000 in
theorem flX10_19 : xGF RX10 19 10 5 := ⟨by decide, wG_t 1090 (by decide +kernel) (by decide +kernel)⟩
theorem ckX10_184 : Cond.constantLong RX10 184 (Int64.ofInt 97) ∈ wG := wG_t 1363 (by decide +kernel) (by decide +kernel)
theorem ckX10_186 : Cond.constantLong RX10 186 (Int64.ofInt 122) ∈ wG := wG_t 1364 (by decide +kernel) (by decide +kernel)
theorem ckX10_188 : Cond.constantLong RX10 188 (Int64.ofInt 48) ∈ wG := wG_t 1374 (by decide +kernel) (by decide +kernel)
theorem ckX10_190 : Cond.constantLong RX10 190 (Int64.ofInt 57) ∈ wG := wG_t 1375 (by decide +kernel) (by decide +kernel)
set_option maxRecDepth 20000 in
theorem flX10_192 : xGF RX10 192 10 21 := ⟨by decide, wG_t 1106 (by decide +kernel) (by decide +kernel)⟩
set_option maxRecDepth 20000 in
theorem flX10_196 : xGF RX10 196 10 18 := ⟨by decide, wG_t 1103 (by decide +kernel) (by decide +kernel)⟩
set_option maxRecDepth 20000 in
theorem mcX10_isLetter : xMc mX10_isLetter 1 := ⟨wG_t 1362 (by decide +kernel) (by decide +kernel), wG_t 12 (by decide +kernel) (by decide +kernel), ⟨by decide +kernel, by decide +kernel, by decide +kernel⟩, by decide +kernel, rfl⟩
set_option maxRecDepth 20000 in
theorem mlX10_199 : xMS RX10 199 mX10_isLetter 1 := ⟨mcX10_isLetter, wG_t 1360 (by decide +kernel) (by decide +kernel), wG_t 1361 (by decide +kernel) (by decide +kernel)⟩
theorem ckX10_202 : Cond.constantLong RX10 202 (Int64.ofInt 32) ∈ wG := wG_t 1369 (by decide +kernel) (by decide +kernel)
theorem ckX10_204 : Cond.constantLong RX10 204 (Int64.ofInt 96) ∈ wG := wG_t 1370 (by decide +kernel) (by decide +kernel)
set_option maxRecDepth 20000 in
theorem flX10_206 : xGF RX10 206 10 20 := ⟨by decide, wG_t 1105 (by decide +kernel) (by decide +kernel)⟩
set_option maxRecDepth 20000 in
theorem flX10_209 : xGF RX10 209 10 22 := ⟨by decide, wG_t 1107 (by decide +kernel) (by decide +kernel)⟩
set_option maxRecDepth 20000 in
theorem mcX10_isFigure : xMc mX10_isFigure 1 := ⟨wG_t 1373 (by decide +kernel) (by decide +kernel), wG_t 12 (by decide +kernel) (by decide +kernel), ⟨by decide +kernel, by decide +kernel, by decide +kernel⟩, by decide +kernel, rfl⟩
set_option maxRecDepth 20000 in
theorem mlX10_212 : xMS RX10 212 mX10_isFigure 1 := ⟨mcX10_isFigure, wG_t 1371 (by decide +kernel) (by decide +kernel), wG_t 1372 (by decide +kernel) (by decide +kernel)⟩
set_option maxRecDepth 20000 in
theorem flX10_215 : xGF RX10 215 10 19 := ⟨by decide, wG_t 1104 (by decide +kernel) (by decide +kernel)⟩
set_option maxRecDepth 20000 in
theorem mcX10_readWord : xMc mX10_readWord 0 := ⟨wG_t 1368 (by decide +kernel) (by decide +kernel), wG_t 12 (by decide +kernel) (by decide +kernel), ⟨by decide +kernel, by decide +kernel, by decide +kernel⟩, by decide +kernel, rfl⟩
set_option maxRecDepth 20000 in
theorem mlX10_218 : xMV RX10 218 mX10_readWord 0 10 := ⟨mcX10_readWord, wG_t 1365 (by decide +kernel) (by decide +kernel), wG_t 1367 (by decide +kernel) (by decide +kernel), wG_p (n := 31) 44 (by decide +kernel) rfl, rfl⟩
set_option maxRecDepth 20000 in
theorem mcX10_readNumber : xMc mX10_readNumber 0 := ⟨wG_t 1379 (by decide +kernel) (by decide +kernel), wG_t 12 (by decide +kernel) (by decide +kernel), ⟨by decide +kernel, by decide +kernel, by decide +kernel⟩, by decide +kernel, rfl⟩
set_option maxRecDepth 20000 in
theorem mlX10_221 : xMV RX10 221 mX10_readNumber 0 10 := ⟨mcX10_readNumber, wG_t 1376 (by decide +kernel) (by decide +kernel), wG_t 1378 (by decide +kernel) (by decide +kernel), wG_p (n := 31) 45 (by decide +kernel) rfl, rfl⟩
set_option maxRecDepth 20000 in
theorem flX10_224 : xGF RX10 224 10 24 := ⟨by decide, wG_t 1109 (by decide +kernel) (by decide +kernel)⟩
set_option maxRecDepth 20000 in
theorem mcX10_next : xMc mX10_next 0 := ⟨wG_t 1359 (by decide +kernel) (by decide +kernel), wG_t 12 (by decide +kernel) (by decide +kernel), ⟨by decide +kernel, by decide +kernel, by decide +kernel⟩, by decide +kernel, rfl⟩
set_option maxRecDepth 20000 in
theorem mlX10_227 : xMV RX10 227 mX10_next 0 10 := ⟨mcX10_next, wG_t 1356 (by decide +kernel) (by decide +kernel), wG_t 1358 (by decide +kernel) (by decide +kernel), wG_p (n := 31) 43 (by decide +kernel) rfl, rfl⟩
set_option maxRecDepth 20000 in
theorem flX10_46 : xGF RX10 46 10 23 := ⟨by decide, wG_t 1108 (by decide +kernel) (by decide +kernel)⟩
theorem ckX10_230 : Cond.constantLong RX10 230 (Int64.ofInt 398548) ∈ wG := wG_t 1400 (by decide +kernel) (by decide +kernel)
theorem ckX10_232 : Cond.constantLong RX10 232 (Int64.ofInt 19176724) ∈ wG := wG_t 1401 (by decide +kernel) (by decide +kernel)
theorem ckX10_234 : Cond.constantLong RX10 234 (Int64.ofInt 20976) ∈ wG := wG_t 1402 (by decide +kernel) (by decide +kernel)
theorem ckX10_236 : Cond.constantLong RX10 236 (Int64.ofInt 83513837) ∈ wG := wG_t 1403 (by decide +kernel) (by decide +kernel)
set_option maxRecDepth 20000 in
theorem flX10_238 : xGF RX10 238 10 25 := ⟨by decide, wG_t 1110 (by decide +kernel) (by decide +kernel)⟩
theorem ckX10_241 : Cond.constantLong RX10 241 (Int64.ofInt 3764) ∈ wG := wG_t 1388 (by decide +kernel) (by decide +kernel)
set_option maxRecDepth 20000 in
theorem mcX10_edgeWord : xMc mX10_edgeWord 0 := ⟨wG_t 1399 (by decide +kernel) (by decide +kernel), wG_t 12 (by decide +kernel) (by decide +kernel), ⟨by decide +kernel, by decide +kernel, by decide +kernel⟩, by decide +kernel, rfl⟩
set_option maxRecDepth 20000 in
theorem mlX10_245 : xMV RX10 245 mX10_edgeWord 0 10 := ⟨mcX10_edgeWord, wG_t 1396 (by decide +kernel) (by decide +kernel), wG_t 1398 (by decide +kernel) (by decide +kernel), wG_p (n := 31) 47 (by decide +kernel) rfl, rfl⟩
theorem ckX10_243 : Cond.constantLong RX10 243 (Int64.ofInt 20456901) ∈ wG := wG_t 1386 (by decide +kernel) (by decide +kernel)
theorem ckX10_248 : Cond.constantLong RX10 248 (Int64.ofInt 474757) ∈ wG := wG_t 1390 (by decide +kernel) (by decide +kernel)
set_option maxRecDepth 20000 in
theorem mcX10_numbers : xMc mX10_numbers 2 := ⟨wG_t 1407 (by decide +kernel) (by decide +kernel), wG_t 12 (by decide +kernel) (by decide +kernel), ⟨by decide +kernel, by decide +kernel, by decide +kernel⟩, by decide +kernel, rfl⟩
set_option maxRecDepth 20000 in
theorem mlX10_250 : xMV RX10 250 mX10_numbers 2 10 := ⟨mcX10_numbers, wG_t 1404 (by decide +kernel) (by decide +kernel), wG_t 1406 (by decide +kernel) (by decide +kernel), wG_p (n := 31) 48 (by decide +kernel) rfl, rfl⟩
theorem ckX10_253 : Cond.constantLong RX10 253 (Int64.ofInt 24395141) ∈ wG := wG_t 1408 (by decide +kernel) (by decide +kernel)
theorem ckX10_255 : Cond.constantLong RX10 255 (Int64.ofInt 212356) ∈ wG := wG_t 1384 (by decide +kernel) (by decide +kernel)
theorem ckX10_257 : Cond.constantLong RX10 257 (Int64.ofInt 20190388) ∈ wG := wG_t 1383 (by decide +kernel) (by decide +kernel)
theorem ckX10_259 : Cond.constantLong RX10 259 (Int64.ofInt 719535492) ∈ wG := wG_t 1385 (by decide +kernel) (by decide +kernel)
theorem ckX10_261 : Cond.constantLong RX10 261 (Int64.ofInt 17376724) ∈ wG := wG_t 1387 (by decide +kernel) (by decide +kernel)
theorem ckX10_263 : Cond.constantLong RX10 263 (Int64.ofInt 658555269) ∈ wG := wG_t 1389 (by decide +kernel) (by decide +kernel)
theorem ckX10_265 : Cond.constantLong RX10 265 (Int64.ofInt 12892339) ∈ wG := wG_t 1391 (by decide +kernel) (by decide +kernel)
set_option maxRecDepth 20000 in
theorem mcX10_fold : xMc mX10_fold 1 := ⟨wG_t 1197 (by decide +kernel) (by decide +kernel), wG_t 12 (by decide +kernel) (by decide +kernel), ⟨by decide +kernel, by decide +kernel, by decide +kernel⟩, by decide +kernel, rfl⟩
set_option maxRecDepth 20000 in
theorem mlX10_267 : xMV RX10 267 mX10_fold 1 10 := ⟨mcX10_fold, wG_t 1418 (by decide +kernel) (by decide +kernel), wG_t 1195 (by decide +kernel) (by decide +kernel), wG_t 1196 (by decide +kernel) (by decide +kernel), rfl⟩
set_option maxRecDepth 20000 in
theorem mcX10_setSheet : xMc mX10_setSheet 2 := ⟨wG_t 1182 (by decide +kernel) (by decide +kernel), wG_t 12 (by decide +kernel) (by decide +kernel), ⟨by decide +kernel, by decide +kernel, by decide +kernel⟩, by decide +kernel, rfl⟩
set_option maxRecDepth 20000 in
theorem mlX10_270 : xMV RX10 270 mX10_setSheet 2 10 := ⟨mcX10_setSheet, wG_t 1413 (by decide +kernel) (by decide +kernel), wG_t 1180 (by decide +kernel) (by decide +kernel), wG_t 1181 (by decide +kernel) (by decide +kernel), rfl⟩
set_option maxRecDepth 20000 in
theorem mcX10_doFolds : xMc mX10_doFolds 0 := ⟨wG_t 1417 (by decide +kernel) (by decide +kernel), wG_t 12 (by decide +kernel) (by decide +kernel), ⟨by decide +kernel, by decide +kernel, by decide +kernel⟩, by decide +kernel, rfl⟩
set_option maxRecDepth 20000 in
theorem mlX10_273 : xMV RX10 273 mX10_doFolds 0 10 := ⟨mcX10_doFolds, wG_t 1414 (by decide +kernel) (by decide +kernel), wG_t 1416 (by decide +kernel) (by decide +kernel), wG_p (n := 31) 50 (by decide +kernel) rfl, rfl⟩
set_option maxRecDepth 20000 in
theorem mcX10_unfold : xMc mX10_unfold 0 := ⟨wG_t 1229 (by decide +kernel) (by decide +kernel), wG_t 12 (by decide +kernel) (by decide +kernel), ⟨by decide +kernel, by decide +kernel, by decide +kernel⟩, by decide +kernel, rfl⟩
set_option maxRecDepth 20000 in
theorem mlX10_276 : xMV RX10 276 mX10_unfold 0 10 := ⟨mcX10_unfold, wG_t 1419 (by decide +kernel) (by decide +kernel), wG_t 1227 (by decide +kernel) (by decide +kernel), wG_t 1228 (by decide +kernel) (by decide +kernel), rfl⟩
set_option maxRecDepth 20000 in
theorem mcX10_setSpine : xMc mX10_setSpine 1 := ⟨wG_t 1233 (by decide +kernel) (by decide +kernel), wG_t 12 (by decide +kernel) (by decide +kernel), ⟨by decide +kernel, by decide +kernel, by decide +kernel⟩, by decide +kernel, rfl⟩
set_option maxRecDepth 20000 in
theorem mlX10_279 : xMV RX10 279 mX10_setSpine 1 10 := ⟨mcX10_setSpine, wG_t 1420 (by decide +kernel) (by decide +kernel), wG_t 1231 (by decide +kernel) (by decide +kernel), wG_t 1232 (by decide +kernel) (by decide +kernel), rfl⟩
set_option maxRecDepth 20000 in
theorem mcX10_printAll : xMc mX10_printAll 1 := ⟨wG_t 1251 (by decide +kernel) (by decide +kernel), wG_t 12 (by decide +kernel) (by decide +kernel), ⟨by decide +kernel, by decide +kernel, by decide +kernel⟩, by decide +kernel, rfl⟩
set_option maxRecDepth 20000 in
theorem mlX10_282 : xMV RX10 282 mX10_printAll 1 10 := ⟨mcX10_printAll, wG_t 1421 (by decide +kernel) (by decide +kernel), wG_t 1249 (by decide +kernel) (by decide +kernel), wG_t 1250 (by decide +kernel) (by decide +kernel), rfl⟩
set_option maxRecDepth 20000 in
theorem mcX10_cut : xMc mX10_cut 1 := ⟨wG_t 1271 (by decide +kernel) (by decide +kernel), wG_t 12 (by decide +kernel) (by decide +kernel), ⟨by decide +kernel, by decide +kernel, by decide +kernel⟩, by decide +kernel, rfl⟩
set_option maxRecDepth 20000 in
theorem mlX10_285 : xMV RX10 285 mX10_cut 1 10 := ⟨mcX10_cut, wG_t 1422 (by decide +kernel) (by decide +kernel), wG_t 1269 (by decide +kernel) (by decide +kernel), wG_t 1270 (by decide +kernel) (by decide +kernel), rfl⟩
set_option maxRecDepth 20000 in
theorem mcX10_staple : xMc mX10_staple 1 := ⟨wG_t 1291 (by decide +kernel) (by decide +kernel), wG_t 12 (by decide +kernel) (by decide +kernel), ⟨by decide +kernel, by decide +kernel, by decide +kernel⟩, by decide +kernel, rfl⟩
set_option maxRecDepth 20000 in
theorem mlX10_288 : xMV RX10 288 mX10_staple 1 10 := ⟨mcX10_staple, wG_t 1423 (by decide +kernel) (by decide +kernel), wG_t 1289 (by decide +kernel) (by decide +kernel), wG_t 1290 (by decide +kernel) (by decide +kernel), rfl⟩
set_option maxRecDepth 20000 in
theorem mcX10_addNote : xMc mX10_addNote 4 := ⟨wG_t 1316 (by decide +kernel) (by decide +kernel), wG_t 12 (by decide +kernel) (by decide +kernel), ⟨by decide +kernel, by decide +kernel, by decide +kernel⟩, by decide +kernel, rfl⟩
set_option maxRecDepth 20000 in
theorem mlX10_291 : xMV RX10 291 mX10_addNote 4 10 := ⟨mcX10_addNote, wG_t 1424 (by decide +kernel) (by decide +kernel), wG_t 1314 (by decide +kernel) (by decide +kernel), wG_t 1315 (by decide +kernel) (by decide +kernel), rfl⟩
set_option maxRecDepth 20000 in
theorem mcX10_setLines : xMc mX10_setLines 1 := ⟨wG_t 1326 (by decide +kernel) (by decide +kernel), wG_t 12 (by decide +kernel) (by decide +kernel), ⟨by decide +kernel, by decide +kernel, by decide +kernel⟩, by decide +kernel, rfl⟩
set_option maxRecDepth 20000 in
theorem mlX10_295 : xMV RX10 295 mX10_setLines 1 10 := ⟨mcX10_setLines, wG_t 1425 (by decide +kernel) (by decide +kernel), wG_t 1324 (by decide +kernel) (by decide +kernel), wG_t 1325 (by decide +kernel) (by decide +kernel), rfl⟩
set_option maxRecDepth 20000 in
theorem flX10_298 : xGF RX10 298 10 26 := ⟨by decide, wG_t 1111 (by decide +kernel) (by decide +kernel)⟩
set_option maxRecDepth 20000 in
theorem mcX10_isCommand : xMc mX10_isCommand 1 := ⟨wG_t 1382 (by decide +kernel) (by decide +kernel), wG_t 12 (by decide +kernel) (by decide +kernel), ⟨by decide +kernel, by decide +kernel, by decide +kernel⟩, by decide +kernel, rfl⟩
set_option maxRecDepth 20000 in
theorem mlX10_301 : xMS RX10 301 mX10_isCommand 1 := ⟨mcX10_isCommand, wG_t 1380 (by decide +kernel) (by decide +kernel), wG_t 1381 (by decide +kernel) (by decide +kernel)⟩
set_option maxRecDepth 20000 in
theorem mcX10_readsNeeds : xMc mX10_readsNeeds 1 := ⟨wG_t 1395 (by decide +kernel) (by decide +kernel), wG_t 12 (by decide +kernel) (by decide +kernel), ⟨by decide +kernel, by decide +kernel, by decide +kernel⟩, by decide +kernel, rfl⟩
set_option maxRecDepth 20000 in
theorem mlX10_305 : xMV RX10 305 mX10_readsNeeds 1 10 := ⟨mcX10_readsNeeds, wG_t 1392 (by decide +kernel) (by decide +kernel), wG_t 1394 (by decide +kernel) (by decide +kernel), wG_p (n := 31) 46 (by decide +kernel) rfl, rfl⟩
set_option maxRecDepth 20000 in
theorem mcX10_doCommand : xMc mX10_doCommand 1 := ⟨wG_t 1412 (by decide +kernel) (by decide +kernel), wG_t 12 (by decide +kernel) (by decide +kernel), ⟨by decide +kernel, by decide +kernel, by decide +kernel⟩, by decide +kernel, rfl⟩
set_option maxRecDepth 20000 in
theorem mlX10_308 : xMV RX10 308 mX10_doCommand 1 10 := ⟨mcX10_doCommand, wG_t 1409 (by decide +kernel) (by decide +kernel), wG_t 1411 (by decide +kernel) (by decide +kernel), wG_p (n := 31) 49 (by decide +kernel) rfl, rfl⟩
set_option maxRecDepth 20000 in
theorem flX10_16 : xGF RX10 16 10 2 := ⟨by decide, wG_t 1087 (by decide +kernel) (by decide +kernel)⟩
set_option maxRecDepth 20000 in
theorem mcX10_runAll : xMc mX10_runAll 0 := ⟨wG_t 1355 (by decide +kernel) (by decide +kernel), wG_t 12 (by decide +kernel) (by decide +kernel), ⟨by decide +kernel, by decide +kernel, by decide +kernel⟩, by decide +kernel, rfl⟩
set_option maxRecDepth 20000 in
theorem mlX10_312 : xMV RX10 312 mX10_runAll 0 10 := ⟨mcX10_runAll, wG_t 1352 (by decide +kernel) (by decide +kernel), wG_t 1354 (by decide +kernel) (by decide +kernel), wG_p (n := 31) 42 (by decide +kernel) rfl, rfl⟩
set_option maxRecDepth 20000 in
theorem mcX10_foldsNow : xMc mX10_foldsNow 0 := ⟨wG_t 1433 (by decide +kernel) (by decide +kernel), wG_t 12 (by decide +kernel) (by decide +kernel), ⟨by decide +kernel, by decide +kernel, by decide +kernel⟩, by decide +kernel, rfl⟩
set_option maxRecDepth 20000 in
theorem mlX10_315 : xMV RX10 315 mX10_foldsNow 0 10 := ⟨mcX10_foldsNow, wG_t 1430 (by decide +kernel) (by decide +kernel), wG_t 1432 (by decide +kernel) (by decide +kernel), wG_p (n := 31) 51 (by decide +kernel) rfl, rfl⟩
theorem ckX10_318 : Cond.constantLong RX10 318 (Int64.ofInt 7) ∈ wG := wG_t 1446 (by decide +kernel) (by decide +kernel)
set_option maxRecDepth 20000 in
theorem mcX10_isHidden : xMc mX10_isHidden 1 := ⟨wG_t 1454 (by decide +kernel) (by decide +kernel), wG_t 12 (by decide +kernel) (by decide +kernel), ⟨by decide +kernel, by decide +kernel, by decide +kernel⟩, by decide +kernel, rfl⟩
set_option maxRecDepth 20000 in
theorem mlX10_320 : xMV RX10 320 mX10_isHidden 1 10 := ⟨mcX10_isHidden, wG_t 1451 (by decide +kernel) (by decide +kernel), wG_t 1453 (by decide +kernel) (by decide +kernel), wG_p (n := 31) 53 (by decide +kernel) rfl, rfl⟩
set_option maxRecDepth 20000 in
theorem mcX10_isItsOwn : xMc mX10_isItsOwn 1 := ⟨wG_t 1466 (by decide +kernel) (by decide +kernel), wG_t 12 (by decide +kernel) (by decide +kernel), ⟨by decide +kernel, by decide +kernel, by decide +kernel⟩, by decide +kernel, rfl⟩
set_option maxRecDepth 20000 in
theorem mlX10_323 : xMV RX10 323 mX10_isItsOwn 1 10 := ⟨mcX10_isItsOwn, wG_t 1463 (by decide +kernel) (by decide +kernel), wG_t 1465 (by decide +kernel) (by decide +kernel), wG_p (n := 31) 56 (by decide +kernel) rfl, rfl⟩
set_option maxRecDepth 20000 in
theorem mcX10_linesOn : xMc mX10_linesOn 1 := ⟨wG_t 1474 (by decide +kernel) (by decide +kernel), wG_t 12 (by decide +kernel) (by decide +kernel), ⟨by decide +kernel, by decide +kernel, by decide +kernel⟩, by decide +kernel, rfl⟩
set_option maxRecDepth 20000 in
theorem mlX10_326 : xMV RX10 326 mX10_linesOn 1 10 := ⟨mcX10_linesOn, wG_t 1471 (by decide +kernel) (by decide +kernel), wG_t 1473 (by decide +kernel) (by decide +kernel), wG_p (n := 31) 58 (by decide +kernel) rfl, rfl⟩
theorem ckX10_329 : Cond.constantLong RX10 329 (Int64.ofInt 2) ∈ wG := wG_t 1495 (by decide +kernel) (by decide +kernel)
set_option maxRecDepth 20000 in
theorem flX10_49 : xGF RX10 49 10 27 := ⟨by decide, wG_t 1112 (by decide +kernel) (by decide +kernel)⟩
set_option maxRecDepth 20000 in
theorem mcX10_joins : xMc mX10_joins 2 := ⟨wG_t 1511 (by decide +kernel) (by decide +kernel), wG_t 12 (by decide +kernel) (by decide +kernel), ⟨by decide +kernel, by decide +kernel, by decide +kernel⟩, by decide +kernel, rfl⟩
set_option maxRecDepth 20000 in
theorem mlX10_331 : xMV RX10 331 mX10_joins 2 10 := ⟨mcX10_joins, wG_t 1508 (by decide +kernel) (by decide +kernel), wG_t 1510 (by decide +kernel) (by decide +kernel), wG_p (n := 31) 63 (by decide +kernel) rfl, rfl⟩
set_option maxRecDepth 20000 in
theorem flX10_52 : xGF RX10 52 10 29 := ⟨by decide, wG_t 1114 (by decide +kernel) (by decide +kernel)⟩
set_option maxRecDepth 20000 in
theorem flX10_335 : xGF RX10 335 10 28 := ⟨by decide, wG_t 1113 (by decide +kernel) (by decide +kernel)⟩
set_option maxRecDepth 20000 in
theorem mcX10_openingOf : xMc mX10_openingOf 1 := ⟨wG_t 1490 (by decide +kernel) (by decide +kernel), wG_t 12 (by decide +kernel) (by decide +kernel), ⟨by decide +kernel, by decide +kernel, by decide +kernel⟩, by decide +kernel, rfl⟩
set_option maxRecDepth 20000 in
theorem mlX10_338 : xMV RX10 338 mX10_openingOf 1 10 := ⟨mcX10_openingOf, wG_t 1487 (by decide +kernel) (by decide +kernel), wG_t 1489 (by decide +kernel) (by decide +kernel), wG_p (n := 31) 62 (by decide +kernel) rfl, rfl⟩
set_option maxRecDepth 20000 in
theorem mcX10_comesAhead : xMc mX10_comesAhead 2 := ⟨wG_t 1482 (by decide +kernel) (by decide +kernel), wG_t 12 (by decide +kernel) (by decide +kernel), ⟨by decide +kernel, by decide +kernel, by decide +kernel⟩, by decide +kernel, rfl⟩
set_option maxRecDepth 20000 in
theorem mlX10_341 : xMV RX10 341 mX10_comesAhead 2 10 := ⟨mcX10_comesAhead, wG_t 1479 (by decide +kernel) (by decide +kernel), wG_t 1481 (by decide +kernel) (by decide +kernel), wG_p (n := 31) 60 (by decide +kernel) rfl, rfl⟩
set_option maxRecDepth 20000 in
theorem flX10_55 : xGF RX10 55 10 30 := ⟨by decide, wG_t 1115 (by decide +kernel) (by decide +kernel)⟩
set_option maxRecDepth 20000 in
theorem mcX10_wholeFrom : xMc mX10_wholeFrom 2 := ⟨wG_t 1486 (by decide +kernel) (by decide +kernel), wG_t 12 (by decide +kernel) (by decide +kernel), ⟨by decide +kernel, by decide +kernel, by decide +kernel⟩, by decide +kernel, rfl⟩
set_option maxRecDepth 20000 in
theorem mlX10_344 : xMV RX10 344 mX10_wholeFrom 2 10 := ⟨mcX10_wholeFrom, wG_t 1483 (by decide +kernel) (by decide +kernel), wG_t 1485 (by decide +kernel) (by decide +kernel), wG_p (n := 31) 61 (by decide +kernel) rfl, rfl⟩
set_option maxRecDepth 20000 in
theorem mcX10_layNotes : xMc mX10_layNotes 0 := ⟨wG_t 1478 (by decide +kernel) (by decide +kernel), wG_t 12 (by decide +kernel) (by decide +kernel), ⟨by decide +kernel, by decide +kernel, by decide +kernel⟩, by decide +kernel, rfl⟩
set_option maxRecDepth 20000 in
theorem mlX10_347 : xMV RX10 347 mX10_layNotes 0 10 := ⟨mcX10_layNotes, wG_t 1475 (by decide +kernel) (by decide +kernel), wG_t 1477 (by decide +kernel) (by decide +kernel), wG_p (n := 31) 59 (by decide +kernel) rfl, rfl⟩
theorem ckX10_350 : Cond.constantLong RX10 350 (Int64.ofInt 6) ∈ wG := wG_t 1524 (by decide +kernel) (by decide +kernel)
set_option maxRecDepth 20000 in
theorem mcX10_pageBy : xMc mX10_pageBy 1 := ⟨wG_t 1532 (by decide +kernel) (by decide +kernel), wG_t 12 (by decide +kernel) (by decide +kernel), ⟨by decide +kernel, by decide +kernel, by decide +kernel⟩, by decide +kernel, rfl⟩
set_option maxRecDepth 20000 in
theorem mlX10_352 : xMV RX10 352 mX10_pageBy 1 10 := ⟨mcX10_pageBy, wG_t 1529 (by decide +kernel) (by decide +kernel), wG_t 1531 (by decide +kernel) (by decide +kernel), wG_p (n := 31) 64 (by decide +kernel) rfl, rfl⟩
set_option maxRecDepth 20000 in
theorem mcX10_isSeen : xMc mX10_isSeen 0 := ⟨wG_t 1544 (by decide +kernel) (by decide +kernel), wG_t 12 (by decide +kernel) (by decide +kernel), ⟨by decide +kernel, by decide +kernel, by decide +kernel⟩, by decide +kernel, rfl⟩
set_option maxRecDepth 20000 in
theorem mlX10_355 : xMV RX10 355 mX10_isSeen 0 10 := ⟨mcX10_isSeen, wG_t 1541 (by decide +kernel) (by decide +kernel), wG_t 1543 (by decide +kernel) (by decide +kernel), wG_p (n := 31) 65 (by decide +kernel) rfl, rfl⟩
set_option maxRecDepth 20000 in
theorem mcX10_ownPages : xMc mX10_ownPages 0 := ⟨wG_t 1552 (by decide +kernel) (by decide +kernel), wG_t 12 (by decide +kernel) (by decide +kernel), ⟨by decide +kernel, by decide +kernel, by decide +kernel⟩, by decide +kernel, rfl⟩
set_option maxRecDepth 20000 in
theorem mlX10_358 : xMV RX10 358 mX10_ownPages 0 10 := ⟨mcX10_ownPages, wG_t 1549 (by decide +kernel) (by decide +kernel), wG_t 1551 (by decide +kernel) (by decide +kernel), wG_p (n := 31) 66 (by decide +kernel) rfl, rfl⟩
set_option maxRecDepth 20000 in
theorem mcX10_edgesToCut : xMc mX10_edgesToCut 0 := ⟨wG_t 1560 (by decide +kernel) (by decide +kernel), wG_t 12 (by decide +kernel) (by decide +kernel), ⟨by decide +kernel, by decide +kernel, by decide +kernel⟩, by decide +kernel, rfl⟩
set_option maxRecDepth 20000 in
theorem mlX10_361 : xMV RX10 361 mX10_edgesToCut 0 10 := ⟨mcX10_edgesToCut, wG_t 1557 (by decide +kernel) (by decide +kernel), wG_t 1559 (by decide +kernel) (by decide +kernel), wG_p (n := 31) 67 (by decide +kernel) rfl, rfl⟩
theorem ckJ6_265 : Cond.constant RJ6 265 (Int32.ofInt 1431655765) ∈ wG := wG_t 540 (by decide +kernel) (by decide +kernel)
theorem ckJ6_266 : Cond.constant RJ6 266 (Int32.ofInt 858993459) ∈ wG := wG_t 541 (by decide +kernel) (by decide +kernel)
theorem ckJ6_267 : Cond.constant RJ6 267 (Int32.ofInt 252645135) ∈ wG := wG_t 542 (by decide +kernel) (by decide +kernel)
set_option maxRecDepth 20000 in
theorem mcJ0_coder_7d493 : xMc mJ0_coder_7d493 0 := ⟨wG_t 712 (by decide +kernel) (by decide +kernel), wG_t 16 (by decide +kernel) (by decide +kernel), ⟨by decide +kernel, by decide +kernel, by decide +kernel⟩, by decide +kernel, rfl⟩
set_option maxRecDepth 20000 in
theorem mlJ0_335 : xMVS RJ0 335 mJ0_coder_7d493 0 := ⟨mcJ0_coder_7d493, wG_t 709 (by decide +kernel) (by decide +kernel), wG_t 710 (by decide +kernel) (by decide +kernel), wG_t 711 (by decide +kernel) (by decide +kernel), rfl⟩
set_option maxRecDepth 20000 in
theorem mcJ0_isLatin1_aae02 : xMc mJ0_isLatin1_aae02 0 := ⟨wG_t 722 (by decide +kernel) (by decide +kernel), wG_t 16 (by decide +kernel) (by decide +kernel), ⟨by decide +kernel, by decide +kernel, by decide +kernel⟩, by decide +kernel, rfl⟩
set_option maxRecDepth 20000 in
theorem mlJ0_492 : xMVS RJ0 492 mJ0_isLatin1_aae02 0 := ⟨mcJ0_isLatin1_aae02, wG_t 719 (by decide +kernel) (by decide +kernel), wG_t 720 (by decide +kernel) (by decide +kernel), wG_t 721 (by decide +kernel) (by decide +kernel), rfl⟩
set_option maxRecDepth 20000 in
theorem mcJ1_charAt_3b067 : xMc mJ1_charAt_3b067 2 := ⟨wG_t 725 (by decide +kernel) (by decide +kernel), wG_t 17 (by decide +kernel) (by decide +kernel), ⟨by decide +kernel, by decide +kernel, by decide +kernel⟩, by decide +kernel, rfl⟩
set_option maxRecDepth 20000 in
theorem mlJ0_495 : xMS RJ0 495 mJ1_charAt_3b067 2 := ⟨mcJ1_charAt_3b067, wG_t 723 (by decide +kernel) (by decide +kernel), wG_t 724 (by decide +kernel) (by decide +kernel)⟩
set_option maxRecDepth 20000 in
theorem mcJ0_checkIndex_df160 : xMc mJ0_checkIndex_df160 2 := ⟨wG_t 728 (by decide +kernel) (by decide +kernel), wG_t 16 (by decide +kernel) (by decide +kernel), ⟨by decide +kernel, by decide +kernel, by decide +kernel⟩, by decide +kernel, rfl⟩
set_option maxRecDepth 20000 in
theorem mlJ1_9 : xMS RJ1 9 mJ0_checkIndex_df160 2 := ⟨mcJ0_checkIndex_df160, wG_t 726 (by decide +kernel) (by decide +kernel), wG_t 727 (by decide +kernel) (by decide +kernel)⟩
set_option maxRecDepth 20000 in
theorem mcJ3_checkIndex_8e157 : xMc mJ3_checkIndex_8e157 3 := ⟨wG_t 733 (by decide +kernel) (by decide +kernel), wG_t 18 (by decide +kernel) (by decide +kernel), ⟨by decide +kernel, by decide +kernel, by decide +kernel⟩, by decide +kernel, rfl⟩
set_option maxRecDepth 20000 in
theorem mlJ0_1059 : xMS RJ0 1059 mJ3_checkIndex_8e157 3 := ⟨mcJ3_checkIndex_8e157, wG_t 731 (by decide +kernel) (by decide +kernel), wG_t 732 (by decide +kernel) (by decide +kernel)⟩
theorem cw_fv9 : ((Jvm.Cond.fieldLink "java/lang/String" (9 : Nat) "java/lang/String" "value" "[B") : Cond) ∈ wG := wG_t 1565 (by decide +kernel) (by decide +kernel)
theorem cw_fv15 : ((Jvm.Cond.fieldLink "java/lang/String" (15 : Nat) "java/lang/String" "coder" "B") : Cond) ∈ wG := wG_t 1566 (by decide +kernel) (by decide +kernel)
theorem cw_fv38 : ((Jvm.Cond.fieldLink "java/lang/String" (38 : Nat) "java/lang/String" "COMPACT_STRINGS" "Z") : Cond) ∈ wG := wG_t 713 (by decide +kernel) (by decide +kernel)
theorem cw_fv1053 : ((Jvm.Cond.fieldLink "java/lang/String" (1053 : Nat) "jdk/internal/util/Preconditions" "SIOOBE_FORMATTER" "Ljava/util/function/BiFunction;") : Cond) ∈ wG := wG_t 729 (by decide +kernel) (by decide +kernel)
