/-! The law, from its loop on. -/
abbrev mL_law (nm : String) : xM := (⟨RL, nm, "([I)Z"⟩, cL_law, 4, some .boolean)
set_option maxRecDepth 20000 in
theorem mcX9_setSheet : xMc mX9_setSheet 2 := ⟨wG_t 308 (by decide +kernel) (by decide +kernel), wG_t 1 (by decide +kernel) (by decide +kernel), ⟨by decide +kernel, by decide +kernel, by decide +kernel⟩, by decide +kernel, rfl⟩
set_option maxRecDepth 20000 in
theorem mlL_13 : xMV RL 13 mX9_setSheet 2 9 := ⟨mcX9_setSheet, wG_t 305 (by decide +kernel) (by decide +kernel), wG_t 306 (by decide +kernel) (by decide +kernel), wG_t 307 (by decide +kernel) (by decide +kernel), rfl⟩
set_option maxRecDepth 20000 in
theorem mlL_17 : xMV RL 17 mX10_setSheet 2 10 := ⟨mcX10_setSheet, wG_t 1179 (by decide +kernel) (by decide +kernel), wG_t 1180 (by decide +kernel) (by decide +kernel), wG_t 1181 (by decide +kernel) (by decide +kernel), rfl⟩
set_option maxRecDepth 20000 in
theorem mcX9_fold : xMc mX9_fold 1 := ⟨wG_t 376 (by decide +kernel) (by decide +kernel), wG_t 1 (by decide +kernel) (by decide +kernel), ⟨by decide +kernel, by decide +kernel, by decide +kernel⟩, by decide +kernel, rfl⟩
set_option maxRecDepth 20000 in
theorem mlL_18 : xMV RL 18 mX9_fold 1 9 := ⟨mcX9_fold, wG_t 373 (by decide +kernel) (by decide +kernel), wG_t 374 (by decide +kernel) (by decide +kernel), wG_t 375 (by decide +kernel) (by decide +kernel), rfl⟩
set_option maxRecDepth 20000 in
theorem mlL_22 : xMV RL 22 mX10_fold 1 10 := ⟨mcX10_fold, wG_t 1194 (by decide +kernel) (by decide +kernel), wG_t 1195 (by decide +kernel) (by decide +kernel), wG_t 1196 (by decide +kernel) (by decide +kernel), rfl⟩
set_option maxRecDepth 20000 in
theorem mcX9_unfold : xMc mX9_unfold 0 := ⟨wG_t 410 (by decide +kernel) (by decide +kernel), wG_t 1 (by decide +kernel) (by decide +kernel), ⟨by decide +kernel, by decide +kernel, by decide +kernel⟩, by decide +kernel, rfl⟩
set_option maxRecDepth 20000 in
theorem mlL_23 : xMV RL 23 mX9_unfold 0 9 := ⟨mcX9_unfold, wG_t 407 (by decide +kernel) (by decide +kernel), wG_t 408 (by decide +kernel) (by decide +kernel), wG_t 409 (by decide +kernel) (by decide +kernel), rfl⟩
set_option maxRecDepth 20000 in
theorem mlL_27 : xMV RL 27 mX10_unfold 0 10 := ⟨mcX10_unfold, wG_t 1226 (by decide +kernel) (by decide +kernel), wG_t 1227 (by decide +kernel) (by decide +kernel), wG_t 1228 (by decide +kernel) (by decide +kernel), rfl⟩
set_option maxRecDepth 20000 in
theorem mcX9_setSpine : xMc mX9_setSpine 1 := ⟨wG_t 430 (by decide +kernel) (by decide +kernel), wG_t 1 (by decide +kernel) (by decide +kernel), ⟨by decide +kernel, by decide +kernel, by decide +kernel⟩, by decide +kernel, rfl⟩
set_option maxRecDepth 20000 in
theorem mlL_28 : xMV RL 28 mX9_setSpine 1 9 := ⟨mcX9_setSpine, wG_t 427 (by decide +kernel) (by decide +kernel), wG_t 428 (by decide +kernel) (by decide +kernel), wG_t 429 (by decide +kernel) (by decide +kernel), rfl⟩
set_option maxRecDepth 20000 in
theorem mlL_31 : xMV RL 31 mX10_setSpine 1 10 := ⟨mcX10_setSpine, wG_t 1230 (by decide +kernel) (by decide +kernel), wG_t 1231 (by decide +kernel) (by decide +kernel), wG_t 1232 (by decide +kernel) (by decide +kernel), rfl⟩
set_option maxRecDepth 20000 in
theorem mcX9_print : xMc mX9_print 5 := ⟨wG_t 438 (by decide +kernel) (by decide +kernel), wG_t 1 (by decide +kernel) (by decide +kernel), ⟨by decide +kernel, by decide +kernel, by decide +kernel⟩, by decide +kernel, rfl⟩
set_option maxRecDepth 20000 in
theorem mlL_32 : xMV RL 32 mX9_print 5 9 := ⟨mcX9_print, wG_t 435 (by decide +kernel) (by decide +kernel), wG_t 436 (by decide +kernel) (by decide +kernel), wG_t 437 (by decide +kernel) (by decide +kernel), rfl⟩
set_option maxRecDepth 20000 in
theorem mcX10_print : xMc mX10_print 5 := ⟨wG_t 1237 (by decide +kernel) (by decide +kernel), wG_t 12 (by decide +kernel) (by decide +kernel), ⟨by decide +kernel, by decide +kernel, by decide +kernel⟩, by decide +kernel, rfl⟩
set_option maxRecDepth 20000 in
theorem mlL_36 : xMV RL 36 mX10_print 5 10 := ⟨mcX10_print, wG_t 1234 (by decide +kernel) (by decide +kernel), wG_t 1235 (by decide +kernel) (by decide +kernel), wG_t 1236 (by decide +kernel) (by decide +kernel), rfl⟩
set_option maxRecDepth 20000 in
theorem mcX9_printAll : xMc mX9_printAll 1 := ⟨wG_t 467 (by decide +kernel) (by decide +kernel), wG_t 1 (by decide +kernel) (by decide +kernel), ⟨by decide +kernel, by decide +kernel, by decide +kernel⟩, by decide +kernel, rfl⟩
set_option maxRecDepth 20000 in
theorem mlL_37 : xMV RL 37 mX9_printAll 1 9 := ⟨mcX9_printAll, wG_t 464 (by decide +kernel) (by decide +kernel), wG_t 465 (by decide +kernel) (by decide +kernel), wG_t 466 (by decide +kernel) (by decide +kernel), rfl⟩
set_option maxRecDepth 20000 in
theorem mlL_40 : xMV RL 40 mX10_printAll 1 10 := ⟨mcX10_printAll, wG_t 1248 (by decide +kernel) (by decide +kernel), wG_t 1249 (by decide +kernel) (by decide +kernel), wG_t 1250 (by decide +kernel) (by decide +kernel), rfl⟩
set_option maxRecDepth 20000 in
theorem mcX9_cut : xMc mX9_cut 1 := ⟨wG_t 498 (by decide +kernel) (by decide +kernel), wG_t 1 (by decide +kernel) (by decide +kernel), ⟨by decide +kernel, by decide +kernel, by decide +kernel⟩, by decide +kernel, rfl⟩
set_option maxRecDepth 20000 in
theorem mlL_41 : xMV RL 41 mX9_cut 1 9 := ⟨mcX9_cut, wG_t 495 (by decide +kernel) (by decide +kernel), wG_t 496 (by decide +kernel) (by decide +kernel), wG_t 497 (by decide +kernel) (by decide +kernel), rfl⟩
set_option maxRecDepth 20000 in
theorem mlL_44 : xMV RL 44 mX10_cut 1 10 := ⟨mcX10_cut, wG_t 1268 (by decide +kernel) (by decide +kernel), wG_t 1269 (by decide +kernel) (by decide +kernel), wG_t 1270 (by decide +kernel) (by decide +kernel), rfl⟩
set_option maxRecDepth 20000 in
theorem mcX9_staple : xMc mX9_staple 1 := ⟨wG_t 532 (by decide +kernel) (by decide +kernel), wG_t 1 (by decide +kernel) (by decide +kernel), ⟨by decide +kernel, by decide +kernel, by decide +kernel⟩, by decide +kernel, rfl⟩
set_option maxRecDepth 20000 in
theorem mlL_45 : xMV RL 45 mX9_staple 1 9 := ⟨mcX9_staple, wG_t 529 (by decide +kernel) (by decide +kernel), wG_t 530 (by decide +kernel) (by decide +kernel), wG_t 531 (by decide +kernel) (by decide +kernel), rfl⟩
set_option maxRecDepth 20000 in
theorem mlL_48 : xMV RL 48 mX10_staple 1 10 := ⟨mcX10_staple, wG_t 1288 (by decide +kernel) (by decide +kernel), wG_t 1289 (by decide +kernel) (by decide +kernel), wG_t 1290 (by decide +kernel) (by decide +kernel), rfl⟩
set_option maxRecDepth 20000 in
theorem mcX9_unstaple : xMc mX9_unstaple 1 := ⟨wG_t 549 (by decide +kernel) (by decide +kernel), wG_t 1 (by decide +kernel) (by decide +kernel), ⟨by decide +kernel, by decide +kernel, by decide +kernel⟩, by decide +kernel, rfl⟩
set_option maxRecDepth 20000 in
theorem mlL_49 : xMV RL 49 mX9_unstaple 1 9 := ⟨mcX9_unstaple, wG_t 546 (by decide +kernel) (by decide +kernel), wG_t 547 (by decide +kernel) (by decide +kernel), wG_t 548 (by decide +kernel) (by decide +kernel), rfl⟩
set_option maxRecDepth 20000 in
theorem mcX10_unstaple : xMc mX10_unstaple 1 := ⟨wG_t 1299 (by decide +kernel) (by decide +kernel), wG_t 12 (by decide +kernel) (by decide +kernel), ⟨by decide +kernel, by decide +kernel, by decide +kernel⟩, by decide +kernel, rfl⟩
set_option maxRecDepth 20000 in
theorem mlL_52 : xMV RL 52 mX10_unstaple 1 10 := ⟨mcX10_unstaple, wG_t 1296 (by decide +kernel) (by decide +kernel), wG_t 1297 (by decide +kernel) (by decide +kernel), wG_t 1298 (by decide +kernel) (by decide +kernel), rfl⟩
set_option maxRecDepth 20000 in
theorem mcX9_setLegs : xMc mX9_setLegs 1 := ⟨wG_t 557 (by decide +kernel) (by decide +kernel), wG_t 1 (by decide +kernel) (by decide +kernel), ⟨by decide +kernel, by decide +kernel, by decide +kernel⟩, by decide +kernel, rfl⟩
set_option maxRecDepth 20000 in
theorem mlL_53 : xMV RL 53 mX9_setLegs 1 9 := ⟨mcX9_setLegs, wG_t 554 (by decide +kernel) (by decide +kernel), wG_t 555 (by decide +kernel) (by decide +kernel), wG_t 556 (by decide +kernel) (by decide +kernel), rfl⟩
set_option maxRecDepth 20000 in
theorem mcX10_setLegs : xMc mX10_setLegs 1 := ⟨wG_t 1303 (by decide +kernel) (by decide +kernel), wG_t 12 (by decide +kernel) (by decide +kernel), ⟨by decide +kernel, by decide +kernel, by decide +kernel⟩, by decide +kernel, rfl⟩
set_option maxRecDepth 20000 in
theorem mlL_56 : xMV RL 56 mX10_setLegs 1 10 := ⟨mcX10_setLegs, wG_t 1300 (by decide +kernel) (by decide +kernel), wG_t 1301 (by decide +kernel) (by decide +kernel), wG_t 1302 (by decide +kernel) (by decide +kernel), rfl⟩
set_option maxRecDepth 20000 in
theorem mcX9_see : xMc mX9_see 3 := ⟨wG_t 565 (by decide +kernel) (by decide +kernel), wG_t 1 (by decide +kernel) (by decide +kernel), ⟨by decide +kernel, by decide +kernel, by decide +kernel⟩, by decide +kernel, rfl⟩
set_option maxRecDepth 20000 in
theorem mlL_57 : xMV RL 57 mX9_see 3 9 := ⟨mcX9_see, wG_t 562 (by decide +kernel) (by decide +kernel), wG_t 563 (by decide +kernel) (by decide +kernel), wG_t 564 (by decide +kernel) (by decide +kernel), rfl⟩
set_option maxRecDepth 20000 in
theorem mcX10_see : xMc mX10_see 3 := ⟨wG_t 1308 (by decide +kernel) (by decide +kernel), wG_t 12 (by decide +kernel) (by decide +kernel), ⟨by decide +kernel, by decide +kernel, by decide +kernel⟩, by decide +kernel, rfl⟩
set_option maxRecDepth 20000 in
theorem mlL_61 : xMV RL 61 mX10_see 3 10 := ⟨mcX10_see, wG_t 1305 (by decide +kernel) (by decide +kernel), wG_t 1306 (by decide +kernel) (by decide +kernel), wG_t 1307 (by decide +kernel) (by decide +kernel), rfl⟩
set_option maxRecDepth 20000 in
theorem mcX9_forget : xMc mX9_forget 0 := ⟨wG_t 582 (by decide +kernel) (by decide +kernel), wG_t 1 (by decide +kernel) (by decide +kernel), ⟨by decide +kernel, by decide +kernel, by decide +kernel⟩, by decide +kernel, rfl⟩
set_option maxRecDepth 20000 in
theorem mlL_62 : xMV RL 62 mX9_forget 0 9 := ⟨mcX9_forget, wG_t 579 (by decide +kernel) (by decide +kernel), wG_t 580 (by decide +kernel) (by decide +kernel), wG_t 581 (by decide +kernel) (by decide +kernel), rfl⟩
set_option maxRecDepth 20000 in
theorem mcX10_forget : xMc mX10_forget 0 := ⟨wG_t 1312 (by decide +kernel) (by decide +kernel), wG_t 12 (by decide +kernel) (by decide +kernel), ⟨by decide +kernel, by decide +kernel, by decide +kernel⟩, by decide +kernel, rfl⟩
set_option maxRecDepth 20000 in
theorem mlL_65 : xMV RL 65 mX10_forget 0 10 := ⟨mcX10_forget, wG_t 1309 (by decide +kernel) (by decide +kernel), wG_t 1310 (by decide +kernel) (by decide +kernel), wG_t 1311 (by decide +kernel) (by decide +kernel), rfl⟩
set_option maxRecDepth 20000 in
theorem mcX9_addNote : xMc mX9_addNote 4 := ⟨wG_t 587 (by decide +kernel) (by decide +kernel), wG_t 1 (by decide +kernel) (by decide +kernel), ⟨by decide +kernel, by decide +kernel, by decide +kernel⟩, by decide +kernel, rfl⟩
set_option maxRecDepth 20000 in
theorem mlL_66 : xMV RL 66 mX9_addNote 4 9 := ⟨mcX9_addNote, wG_t 584 (by decide +kernel) (by decide +kernel), wG_t 585 (by decide +kernel) (by decide +kernel), wG_t 586 (by decide +kernel) (by decide +kernel), rfl⟩
set_option maxRecDepth 20000 in
theorem mlL_70 : xMV RL 70 mX10_addNote 4 10 := ⟨mcX10_addNote, wG_t 1313 (by decide +kernel) (by decide +kernel), wG_t 1314 (by decide +kernel) (by decide +kernel), wG_t 1315 (by decide +kernel) (by decide +kernel), rfl⟩
set_option maxRecDepth 20000 in
theorem mcX9_removeNote : xMc mX9_removeNote 1 := ⟨wG_t 596 (by decide +kernel) (by decide +kernel), wG_t 1 (by decide +kernel) (by decide +kernel), ⟨by decide +kernel, by decide +kernel, by decide +kernel⟩, by decide +kernel, rfl⟩
set_option maxRecDepth 20000 in
theorem mlL_71 : xMV RL 71 mX9_removeNote 1 9 := ⟨mcX9_removeNote, wG_t 593 (by decide +kernel) (by decide +kernel), wG_t 594 (by decide +kernel) (by decide +kernel), wG_t 595 (by decide +kernel) (by decide +kernel), rfl⟩
set_option maxRecDepth 20000 in
theorem mcX10_removeNote : xMc mX10_removeNote 1 := ⟨wG_t 1322 (by decide +kernel) (by decide +kernel), wG_t 12 (by decide +kernel) (by decide +kernel), ⟨by decide +kernel, by decide +kernel, by decide +kernel⟩, by decide +kernel, rfl⟩
set_option maxRecDepth 20000 in
theorem mlL_74 : xMV RL 74 mX10_removeNote 1 10 := ⟨mcX10_removeNote, wG_t 1319 (by decide +kernel) (by decide +kernel), wG_t 1320 (by decide +kernel) (by decide +kernel), wG_t 1321 (by decide +kernel) (by decide +kernel), rfl⟩
set_option maxRecDepth 20000 in
theorem mcX9_setLines : xMc mX9_setLines 1 := ⟨wG_t 608 (by decide +kernel) (by decide +kernel), wG_t 1 (by decide +kernel) (by decide +kernel), ⟨by decide +kernel, by decide +kernel, by decide +kernel⟩, by decide +kernel, rfl⟩
set_option maxRecDepth 20000 in
theorem mlL_75 : xMV RL 75 mX9_setLines 1 9 := ⟨mcX9_setLines, wG_t 605 (by decide +kernel) (by decide +kernel), wG_t 606 (by decide +kernel) (by decide +kernel), wG_t 607 (by decide +kernel) (by decide +kernel), rfl⟩
set_option maxRecDepth 20000 in
theorem mlL_78 : xMV RL 78 mX10_setLines 1 10 := ⟨mcX10_setLines, wG_t 1323 (by decide +kernel) (by decide +kernel), wG_t 1324 (by decide +kernel) (by decide +kernel), wG_t 1325 (by decide +kernel) (by decide +kernel), rfl⟩
set_option maxRecDepth 20000 in
theorem mcX9_take : xMc mX9_take 1 := ⟨wG_t 616 (by decide +kernel) (by decide +kernel), wG_t 1 (by decide +kernel) (by decide +kernel), ⟨by decide +kernel, by decide +kernel, by decide +kernel⟩, by decide +kernel, rfl⟩
set_option maxRecDepth 20000 in
theorem mlL_79 : xMV RL 79 mX9_take 1 9 := ⟨mcX9_take, wG_t 613 (by decide +kernel) (by decide +kernel), wG_t 614 (by decide +kernel) (by decide +kernel), wG_t 615 (by decide +kernel) (by decide +kernel), rfl⟩
set_option maxRecDepth 20000 in
theorem mcX10_take : xMc mX10_take 1 := ⟨wG_t 1330 (by decide +kernel) (by decide +kernel), wG_t 12 (by decide +kernel) (by decide +kernel), ⟨by decide +kernel, by decide +kernel, by decide +kernel⟩, by decide +kernel, rfl⟩
set_option maxRecDepth 20000 in
theorem mlL_82 : xMV RL 82 mX10_take 1 10 := ⟨mcX10_take, wG_t 1327 (by decide +kernel) (by decide +kernel), wG_t 1328 (by decide +kernel) (by decide +kernel), wG_t 1329 (by decide +kernel) (by decide +kernel), rfl⟩
set_option maxRecDepth 20000 in
theorem mcX9_restore : xMc mX9_restore 1 := ⟨wG_t 625 (by decide +kernel) (by decide +kernel), wG_t 1 (by decide +kernel) (by decide +kernel), ⟨by decide +kernel, by decide +kernel, by decide +kernel⟩, by decide +kernel, rfl⟩
set_option maxRecDepth 20000 in
theorem mlL_83 : xMV RL 83 mX9_restore 1 9 := ⟨mcX9_restore, wG_t 622 (by decide +kernel) (by decide +kernel), wG_t 623 (by decide +kernel) (by decide +kernel), wG_t 624 (by decide +kernel) (by decide +kernel), rfl⟩
set_option maxRecDepth 20000 in
theorem mcX10_restore : xMc mX10_restore 1 := ⟨wG_t 1334 (by decide +kernel) (by decide +kernel), wG_t 12 (by decide +kernel) (by decide +kernel), ⟨by decide +kernel, by decide +kernel, by decide +kernel⟩, by decide +kernel, rfl⟩
set_option maxRecDepth 20000 in
theorem mlL_86 : xMV RL 86 mX10_restore 1 10 := ⟨mcX10_restore, wG_t 1331 (by decide +kernel) (by decide +kernel), wG_t 1332 (by decide +kernel) (by decide +kernel), wG_t 1333 (by decide +kernel) (by decide +kernel), rfl⟩
set_option maxRecDepth 20000 in
theorem mcX9_undo : xMc mX9_undo 0 := ⟨wG_t 633 (by decide +kernel) (by decide +kernel), wG_t 1 (by decide +kernel) (by decide +kernel), ⟨by decide +kernel, by decide +kernel, by decide +kernel⟩, by decide +kernel, rfl⟩
set_option maxRecDepth 20000 in
theorem mlL_87 : xMV RL 87 mX9_undo 0 9 := ⟨mcX9_undo, wG_t 630 (by decide +kernel) (by decide +kernel), wG_t 631 (by decide +kernel) (by decide +kernel), wG_t 632 (by decide +kernel) (by decide +kernel), rfl⟩
set_option maxRecDepth 20000 in
theorem mcX10_undo : xMc mX10_undo 0 := ⟨wG_t 1338 (by decide +kernel) (by decide +kernel), wG_t 12 (by decide +kernel) (by decide +kernel), ⟨by decide +kernel, by decide +kernel, by decide +kernel⟩, by decide +kernel, rfl⟩
set_option maxRecDepth 20000 in
theorem mlL_90 : xMV RL 90 mX10_undo 0 10 := ⟨mcX10_undo, wG_t 1335 (by decide +kernel) (by decide +kernel), wG_t 1336 (by decide +kernel) (by decide +kernel), wG_t 1337 (by decide +kernel) (by decide +kernel), rfl⟩
set_option maxRecDepth 20000 in
theorem mcX9_append : xMc mX9_append 1 := ⟨wG_t 645 (by decide +kernel) (by decide +kernel), wG_t 1 (by decide +kernel) (by decide +kernel), ⟨by decide +kernel, by decide +kernel, by decide +kernel⟩, by decide +kernel, rfl⟩
set_option maxRecDepth 20000 in
theorem mlL_91 : xMV RL 91 mX9_append 1 9 := ⟨mcX9_append, wG_t 642 (by decide +kernel) (by decide +kernel), wG_t 643 (by decide +kernel) (by decide +kernel), wG_t 644 (by decide +kernel) (by decide +kernel), rfl⟩
set_option maxRecDepth 20000 in
theorem mcX10_append : xMc mX10_append 1 := ⟨wG_t 1342 (by decide +kernel) (by decide +kernel), wG_t 12 (by decide +kernel) (by decide +kernel), ⟨by decide +kernel, by decide +kernel, by decide +kernel⟩, by decide +kernel, rfl⟩
set_option maxRecDepth 20000 in
theorem mlL_94 : xMV RL 94 mX10_append 1 10 := ⟨mcX10_append, wG_t 1339 (by decide +kernel) (by decide +kernel), wG_t 1340 (by decide +kernel) (by decide +kernel), wG_t 1341 (by decide +kernel) (by decide +kernel), rfl⟩
set_option maxRecDepth 20000 in
theorem mcX9_clearText : xMc mX9_clearText 0 := ⟨wG_t 649 (by decide +kernel) (by decide +kernel), wG_t 1 (by decide +kernel) (by decide +kernel), ⟨by decide +kernel, by decide +kernel, by decide +kernel⟩, by decide +kernel, rfl⟩
set_option maxRecDepth 20000 in
theorem mlL_95 : xMV RL 95 mX9_clearText 0 9 := ⟨mcX9_clearText, wG_t 646 (by decide +kernel) (by decide +kernel), wG_t 647 (by decide +kernel) (by decide +kernel), wG_t 648 (by decide +kernel) (by decide +kernel), rfl⟩
set_option maxRecDepth 20000 in
theorem mcX10_clearText : xMc mX10_clearText 0 := ⟨wG_t 1347 (by decide +kernel) (by decide +kernel), wG_t 12 (by decide +kernel) (by decide +kernel), ⟨by decide +kernel, by decide +kernel, by decide +kernel⟩, by decide +kernel, rfl⟩
set_option maxRecDepth 20000 in
theorem mlL_98 : xMV RL 98 mX10_clearText 0 10 := ⟨mcX10_clearText, wG_t 1344 (by decide +kernel) (by decide +kernel), wG_t 1345 (by decide +kernel) (by decide +kernel), wG_t 1346 (by decide +kernel) (by decide +kernel), rfl⟩
set_option maxRecDepth 20000 in
theorem mcX9_run : xMc mX9_run 0 := ⟨wG_t 653 (by decide +kernel) (by decide +kernel), wG_t 1 (by decide +kernel) (by decide +kernel), ⟨by decide +kernel, by decide +kernel, by decide +kernel⟩, by decide +kernel, rfl⟩
set_option maxRecDepth 20000 in
theorem mlL_99 : xMV RL 99 mX9_run 0 9 := ⟨mcX9_run, wG_t 650 (by decide +kernel) (by decide +kernel), wG_t 651 (by decide +kernel) (by decide +kernel), wG_t 652 (by decide +kernel) (by decide +kernel), rfl⟩
set_option maxRecDepth 20000 in
theorem mcX10_run : xMc mX10_run 0 := ⟨wG_t 1351 (by decide +kernel) (by decide +kernel), wG_t 12 (by decide +kernel) (by decide +kernel), ⟨by decide +kernel, by decide +kernel, by decide +kernel⟩, by decide +kernel, rfl⟩
set_option maxRecDepth 20000 in
theorem mlL_102 : xMV RL 102 mX10_run 0 10 := ⟨mcX10_run, wG_t 1348 (by decide +kernel) (by decide +kernel), wG_t 1349 (by decide +kernel) (by decide +kernel), wG_t 1350 (by decide +kernel) (by decide +kernel), rfl⟩
set_option maxRecDepth 20000 in
theorem mcX9_count : xMc mX9_count 1 := ⟨wG_t 808 (by decide +kernel) (by decide +kernel), wG_t 1 (by decide +kernel) (by decide +kernel), ⟨by decide +kernel, by decide +kernel, by decide +kernel⟩, by decide +kernel, rfl⟩
set_option maxRecDepth 20000 in
theorem mlL_103 : xMV RL 103 mX9_count 1 9 := ⟨mcX9_count, wG_t 805 (by decide +kernel) (by decide +kernel), wG_t 806 (by decide +kernel) (by decide +kernel), wG_t 807 (by decide +kernel) (by decide +kernel), rfl⟩
set_option maxRecDepth 20000 in
theorem mcX10_count : xMc mX10_count 1 := ⟨wG_t 1429 (by decide +kernel) (by decide +kernel), wG_t 12 (by decide +kernel) (by decide +kernel), ⟨by decide +kernel, by decide +kernel, by decide +kernel⟩, by decide +kernel, rfl⟩
set_option maxRecDepth 20000 in
theorem mlL_106 : xMV RL 106 mX10_count 1 10 := ⟨mcX10_count, wG_t 1426 (by decide +kernel) (by decide +kernel), wG_t 1427 (by decide +kernel) (by decide +kernel), wG_t 1428 (by decide +kernel) (by decide +kernel), rfl⟩
set_option maxRecDepth 20000 in
theorem mcX9_side : xMc mX9_side 4 := ⟨wG_t 816 (by decide +kernel) (by decide +kernel), wG_t 1 (by decide +kernel) (by decide +kernel), ⟨by decide +kernel, by decide +kernel, by decide +kernel⟩, by decide +kernel, rfl⟩
set_option maxRecDepth 20000 in
theorem mlL_107 : xMV RL 107 mX9_side 4 9 := ⟨mcX9_side, wG_t 813 (by decide +kernel) (by decide +kernel), wG_t 814 (by decide +kernel) (by decide +kernel), wG_t 815 (by decide +kernel) (by decide +kernel), rfl⟩
set_option maxRecDepth 20000 in
theorem mcX10_side : xMc mX10_side 4 := ⟨wG_t 1437 (by decide +kernel) (by decide +kernel), wG_t 12 (by decide +kernel) (by decide +kernel), ⟨by decide +kernel, by decide +kernel, by decide +kernel⟩, by decide +kernel, rfl⟩
set_option maxRecDepth 20000 in
theorem mlL_110 : xMV RL 110 mX10_side 4 10 := ⟨mcX10_side, wG_t 1434 (by decide +kernel) (by decide +kernel), wG_t 1435 (by decide +kernel) (by decide +kernel), wG_t 1436 (by decide +kernel) (by decide +kernel), rfl⟩
set_option maxRecDepth 20000 in
theorem mcX9_layer : xMc mX9_layer 3 := ⟨wG_t 828 (by decide +kernel) (by decide +kernel), wG_t 1 (by decide +kernel) (by decide +kernel), ⟨by decide +kernel, by decide +kernel, by decide +kernel⟩, by decide +kernel, rfl⟩
set_option maxRecDepth 20000 in
theorem mlL_111 : xMV RL 111 mX9_layer 3 9 := ⟨mcX9_layer, wG_t 825 (by decide +kernel) (by decide +kernel), wG_t 826 (by decide +kernel) (by decide +kernel), wG_t 827 (by decide +kernel) (by decide +kernel), rfl⟩
set_option maxRecDepth 20000 in
theorem mcX10_layer : xMc mX10_layer 3 := ⟨wG_t 1441 (by decide +kernel) (by decide +kernel), wG_t 12 (by decide +kernel) (by decide +kernel), ⟨by decide +kernel, by decide +kernel, by decide +kernel⟩, by decide +kernel, rfl⟩
set_option maxRecDepth 20000 in
theorem mlL_114 : xMV RL 114 mX10_layer 3 10 := ⟨mcX10_layer, wG_t 1438 (by decide +kernel) (by decide +kernel), wG_t 1439 (by decide +kernel) (by decide +kernel), wG_t 1440 (by decide +kernel) (by decide +kernel), rfl⟩
set_option maxRecDepth 20000 in
theorem mcX9_page : xMc mX9_page 2 := ⟨wG_t 847 (by decide +kernel) (by decide +kernel), wG_t 1 (by decide +kernel) (by decide +kernel), ⟨by decide +kernel, by decide +kernel, by decide +kernel⟩, by decide +kernel, rfl⟩
set_option maxRecDepth 20000 in
theorem mlL_115 : xMV RL 115 mX9_page 2 9 := ⟨mcX9_page, wG_t 844 (by decide +kernel) (by decide +kernel), wG_t 845 (by decide +kernel) (by decide +kernel), wG_t 846 (by decide +kernel) (by decide +kernel), rfl⟩
set_option maxRecDepth 20000 in
theorem mcX10_page : xMc mX10_page 2 := ⟨wG_t 1445 (by decide +kernel) (by decide +kernel), wG_t 12 (by decide +kernel) (by decide +kernel), ⟨by decide +kernel, by decide +kernel, by decide +kernel⟩, by decide +kernel, rfl⟩
set_option maxRecDepth 20000 in
theorem mlL_118 : xMV RL 118 mX10_page 2 10 := ⟨mcX10_page, wG_t 1442 (by decide +kernel) (by decide +kernel), wG_t 1443 (by decide +kernel) (by decide +kernel), wG_t 1444 (by decide +kernel) (by decide +kernel), rfl⟩
set_option maxRecDepth 20000 in
theorem mcX9_opening : xMc mX9_opening 2 := ⟨wG_t 962 (by decide +kernel) (by decide +kernel), wG_t 1 (by decide +kernel) (by decide +kernel), ⟨by decide +kernel, by decide +kernel, by decide +kernel⟩, by decide +kernel, rfl⟩
set_option maxRecDepth 20000 in
theorem mlL_119 : xMV RL 119 mX9_opening 2 9 := ⟨mcX9_opening, wG_t 959 (by decide +kernel) (by decide +kernel), wG_t 960 (by decide +kernel) (by decide +kernel), wG_t 961 (by decide +kernel) (by decide +kernel), rfl⟩
set_option maxRecDepth 20000 in
theorem mcX10_opening : xMc mX10_opening 2 := ⟨wG_t 1494 (by decide +kernel) (by decide +kernel), wG_t 12 (by decide +kernel) (by decide +kernel), ⟨by decide +kernel, by decide +kernel, by decide +kernel⟩, by decide +kernel, rfl⟩
set_option maxRecDepth 20000 in
theorem mlL_122 : xMV RL 122 mX10_opening 2 10 := ⟨mcX10_opening, wG_t 1491 (by decide +kernel) (by decide +kernel), wG_t 1492 (by decide +kernel) (by decide +kernel), wG_t 1493 (by decide +kernel) (by decide +kernel), rfl⟩
set_option maxRecDepth 20000 in
theorem mcX9_hanging : xMc mX9_hanging 1 := ⟨wG_t 968 (by decide +kernel) (by decide +kernel), wG_t 1 (by decide +kernel) (by decide +kernel), ⟨by decide +kernel, by decide +kernel, by decide +kernel⟩, by decide +kernel, rfl⟩
set_option maxRecDepth 20000 in
theorem mlL_123 : xMV RL 123 mX9_hanging 1 9 := ⟨mcX9_hanging, wG_t 965 (by decide +kernel) (by decide +kernel), wG_t 966 (by decide +kernel) (by decide +kernel), wG_t 967 (by decide +kernel) (by decide +kernel), rfl⟩
set_option maxRecDepth 20000 in
theorem mcX10_hanging : xMc mX10_hanging 1 := ⟨wG_t 1499 (by decide +kernel) (by decide +kernel), wG_t 12 (by decide +kernel) (by decide +kernel), ⟨by decide +kernel, by decide +kernel, by decide +kernel⟩, by decide +kernel, rfl⟩
set_option maxRecDepth 20000 in
theorem mlL_126 : xMV RL 126 mX10_hanging 1 10 := ⟨mcX10_hanging, wG_t 1496 (by decide +kernel) (by decide +kernel), wG_t 1497 (by decide +kernel) (by decide +kernel), wG_t 1498 (by decide +kernel) (by decide +kernel), rfl⟩
set_option maxRecDepth 20000 in
theorem mcX9_together : xMc mX9_together 2 := ⟨wG_t 974 (by decide +kernel) (by decide +kernel), wG_t 1 (by decide +kernel) (by decide +kernel), ⟨by decide +kernel, by decide +kernel, by decide +kernel⟩, by decide +kernel, rfl⟩
set_option maxRecDepth 20000 in
theorem mlL_127 : xMV RL 127 mX9_together 2 9 := ⟨mcX9_together, wG_t 971 (by decide +kernel) (by decide +kernel), wG_t 972 (by decide +kernel) (by decide +kernel), wG_t 973 (by decide +kernel) (by decide +kernel), rfl⟩
set_option maxRecDepth 20000 in
theorem mcX10_together : xMc mX10_together 2 := ⟨wG_t 1503 (by decide +kernel) (by decide +kernel), wG_t 12 (by decide +kernel) (by decide +kernel), ⟨by decide +kernel, by decide +kernel, by decide +kernel⟩, by decide +kernel, rfl⟩
set_option maxRecDepth 20000 in
theorem mlL_130 : xMV RL 130 mX10_together 2 10 := ⟨mcX10_together, wG_t 1500 (by decide +kernel) (by decide +kernel), wG_t 1501 (by decide +kernel) (by decide +kernel), wG_t 1502 (by decide +kernel) (by decide +kernel), rfl⟩
set_option maxRecDepth 20000 in
theorem mcX9_pieces : xMc mX9_pieces 0 := ⟨wG_t 979 (by decide +kernel) (by decide +kernel), wG_t 1 (by decide +kernel) (by decide +kernel), ⟨by decide +kernel, by decide +kernel, by decide +kernel⟩, by decide +kernel, rfl⟩
set_option maxRecDepth 20000 in
theorem mlL_131 : xMV RL 131 mX9_pieces 0 9 := ⟨mcX9_pieces, wG_t 976 (by decide +kernel) (by decide +kernel), wG_t 977 (by decide +kernel) (by decide +kernel), wG_t 978 (by decide +kernel) (by decide +kernel), rfl⟩
set_option maxRecDepth 20000 in
theorem mcX10_pieces : xMc mX10_pieces 0 := ⟨wG_t 1507 (by decide +kernel) (by decide +kernel), wG_t 12 (by decide +kernel) (by decide +kernel), ⟨by decide +kernel, by decide +kernel, by decide +kernel⟩, by decide +kernel, rfl⟩
set_option maxRecDepth 20000 in
theorem mlL_134 : xMV RL 134 mX10_pieces 0 10 := ⟨mcX10_pieces, wG_t 1504 (by decide +kernel) (by decide +kernel), wG_t 1505 (by decide +kernel) (by decide +kernel), wG_t 1506 (by decide +kernel) (by decide +kernel), rfl⟩
set_option maxRecDepth 20000 in
theorem mcX9_reading : xMc mX9_reading 1 := ⟨wG_t 995 (by decide +kernel) (by decide +kernel), wG_t 1 (by decide +kernel) (by decide +kernel), ⟨by decide +kernel, by decide +kernel, by decide +kernel⟩, by decide +kernel, rfl⟩
set_option maxRecDepth 20000 in
theorem mlL_135 : xMV RL 135 mX9_reading 1 9 := ⟨mcX9_reading, wG_t 992 (by decide +kernel) (by decide +kernel), wG_t 993 (by decide +kernel) (by decide +kernel), wG_t 994 (by decide +kernel) (by decide +kernel), rfl⟩
set_option maxRecDepth 20000 in
theorem mcX10_reading : xMc mX10_reading 1 := ⟨wG_t 1515 (by decide +kernel) (by decide +kernel), wG_t 12 (by decide +kernel) (by decide +kernel), ⟨by decide +kernel, by decide +kernel, by decide +kernel⟩, by decide +kernel, rfl⟩
set_option maxRecDepth 20000 in
theorem mlL_138 : xMV RL 138 mX10_reading 1 10 := ⟨mcX10_reading, wG_t 1512 (by decide +kernel) (by decide +kernel), wG_t 1513 (by decide +kernel) (by decide +kernel), wG_t 1514 (by decide +kernel) (by decide +kernel), rfl⟩
set_option maxRecDepth 20000 in
theorem mcX9_pageOf : xMc mX9_pageOf 1 := ⟨wG_t 999 (by decide +kernel) (by decide +kernel), wG_t 1 (by decide +kernel) (by decide +kernel), ⟨by decide +kernel, by decide +kernel, by decide +kernel⟩, by decide +kernel, rfl⟩
set_option maxRecDepth 20000 in
theorem mlL_139 : xMV RL 139 mX9_pageOf 1 9 := ⟨mcX9_pageOf, wG_t 996 (by decide +kernel) (by decide +kernel), wG_t 997 (by decide +kernel) (by decide +kernel), wG_t 998 (by decide +kernel) (by decide +kernel), rfl⟩
set_option maxRecDepth 20000 in
theorem mcX10_pageOf : xMc mX10_pageOf 1 := ⟨wG_t 1519 (by decide +kernel) (by decide +kernel), wG_t 12 (by decide +kernel) (by decide +kernel), ⟨by decide +kernel, by decide +kernel, by decide +kernel⟩, by decide +kernel, rfl⟩
set_option maxRecDepth 20000 in
theorem mlL_142 : xMV RL 142 mX10_pageOf 1 10 := ⟨mcX10_pageOf, wG_t 1516 (by decide +kernel) (by decide +kernel), wG_t 1517 (by decide +kernel) (by decide +kernel), wG_t 1518 (by decide +kernel) (by decide +kernel), rfl⟩
set_option maxRecDepth 20000 in
theorem mcX9_note : xMc mX9_note 2 := ⟨wG_t 1003 (by decide +kernel) (by decide +kernel), wG_t 1 (by decide +kernel) (by decide +kernel), ⟨by decide +kernel, by decide +kernel, by decide +kernel⟩, by decide +kernel, rfl⟩
set_option maxRecDepth 20000 in
theorem mlL_143 : xMV RL 143 mX9_note 2 9 := ⟨mcX9_note, wG_t 1000 (by decide +kernel) (by decide +kernel), wG_t 1001 (by decide +kernel) (by decide +kernel), wG_t 1002 (by decide +kernel) (by decide +kernel), rfl⟩
set_option maxRecDepth 20000 in
theorem mcX10_note : xMc mX10_note 2 := ⟨wG_t 1523 (by decide +kernel) (by decide +kernel), wG_t 12 (by decide +kernel) (by decide +kernel), ⟨by decide +kernel, by decide +kernel, by decide +kernel⟩, by decide +kernel, rfl⟩
set_option maxRecDepth 20000 in
theorem mlL_146 : xMV RL 146 mX10_note 2 10 := ⟨mcX10_note, wG_t 1520 (by decide +kernel) (by decide +kernel), wG_t 1521 (by decide +kernel) (by decide +kernel), wG_t 1522 (by decide +kernel) (by decide +kernel), rfl⟩
set_option maxRecDepth 20000 in
theorem mcX9_index : xMc mX9_index 2 := ⟨wG_t 1019 (by decide +kernel) (by decide +kernel), wG_t 1 (by decide +kernel) (by decide +kernel), ⟨by decide +kernel, by decide +kernel, by decide +kernel⟩, by decide +kernel, rfl⟩
set_option maxRecDepth 20000 in
theorem mlL_147 : xMV RL 147 mX9_index 2 9 := ⟨mcX9_index, wG_t 1016 (by decide +kernel) (by decide +kernel), wG_t 1017 (by decide +kernel) (by decide +kernel), wG_t 1018 (by decide +kernel) (by decide +kernel), rfl⟩
set_option maxRecDepth 20000 in
theorem mcX10_index : xMc mX10_index 2 := ⟨wG_t 1528 (by decide +kernel) (by decide +kernel), wG_t 12 (by decide +kernel) (by decide +kernel), ⟨by decide +kernel, by decide +kernel, by decide +kernel⟩, by decide +kernel, rfl⟩
set_option maxRecDepth 20000 in
theorem mlL_150 : xMV RL 150 mX10_index 2 10 := ⟨mcX10_index, wG_t 1525 (by decide +kernel) (by decide +kernel), wG_t 1526 (by decide +kernel) (by decide +kernel), wG_t 1527 (by decide +kernel) (by decide +kernel), rfl⟩
set_option maxRecDepth 20000 in
theorem mcX9_effort : xMc mX9_effort 1 := ⟨wG_t 1028 (by decide +kernel) (by decide +kernel), wG_t 1 (by decide +kernel) (by decide +kernel), ⟨by decide +kernel, by decide +kernel, by decide +kernel⟩, by decide +kernel, rfl⟩
set_option maxRecDepth 20000 in
theorem mlL_151 : xMV RL 151 mX9_effort 1 9 := ⟨mcX9_effort, wG_t 1025 (by decide +kernel) (by decide +kernel), wG_t 1026 (by decide +kernel) (by decide +kernel), wG_t 1027 (by decide +kernel) (by decide +kernel), rfl⟩
set_option maxRecDepth 20000 in
theorem mcX10_effort : xMc mX10_effort 1 := ⟨wG_t 1536 (by decide +kernel) (by decide +kernel), wG_t 12 (by decide +kernel) (by decide +kernel), ⟨by decide +kernel, by decide +kernel, by decide +kernel⟩, by decide +kernel, rfl⟩
set_option maxRecDepth 20000 in
theorem mlL_154 : xMV RL 154 mX10_effort 1 10 := ⟨mcX10_effort, wG_t 1533 (by decide +kernel) (by decide +kernel), wG_t 1534 (by decide +kernel) (by decide +kernel), wG_t 1535 (by decide +kernel) (by decide +kernel), rfl⟩
set_option maxRecDepth 20000 in
theorem mcX9_fitting : xMc mX9_fitting 1 := ⟨wG_t 1036 (by decide +kernel) (by decide +kernel), wG_t 1 (by decide +kernel) (by decide +kernel), ⟨by decide +kernel, by decide +kernel, by decide +kernel⟩, by decide +kernel, rfl⟩
set_option maxRecDepth 20000 in
theorem mlL_155 : xMV RL 155 mX9_fitting 1 9 := ⟨mcX9_fitting, wG_t 1033 (by decide +kernel) (by decide +kernel), wG_t 1034 (by decide +kernel) (by decide +kernel), wG_t 1035 (by decide +kernel) (by decide +kernel), rfl⟩
set_option maxRecDepth 20000 in
theorem mcX10_fitting : xMc mX10_fitting 1 := ⟨wG_t 1540 (by decide +kernel) (by decide +kernel), wG_t 12 (by decide +kernel) (by decide +kernel), ⟨by decide +kernel, by decide +kernel, by decide +kernel⟩, by decide +kernel, rfl⟩
set_option maxRecDepth 20000 in
theorem mlL_158 : xMV RL 158 mX10_fitting 1 10 := ⟨mcX10_fitting, wG_t 1537 (by decide +kernel) (by decide +kernel), wG_t 1538 (by decide +kernel) (by decide +kernel), wG_t 1539 (by decide +kernel) (by decide +kernel), rfl⟩
set_option maxRecDepth 20000 in
theorem mlL_159 : xMV RL 159 mX9_readsBy 1 9 := ⟨mcX9_readsBy, wG_t 1049 (by decide +kernel) (by decide +kernel), wG_t 1050 (by decide +kernel) (by decide +kernel), wG_t 1051 (by decide +kernel) (by decide +kernel), rfl⟩
set_option maxRecDepth 20000 in
theorem mcX10_readsBy : xMc mX10_readsBy 1 := ⟨wG_t 1548 (by decide +kernel) (by decide +kernel), wG_t 12 (by decide +kernel) (by decide +kernel), ⟨by decide +kernel, by decide +kernel, by decide +kernel⟩, by decide +kernel, rfl⟩
set_option maxRecDepth 20000 in
theorem mlL_162 : xMV RL 162 mX10_readsBy 1 10 := ⟨mcX10_readsBy, wG_t 1545 (by decide +kernel) (by decide +kernel), wG_t 1546 (by decide +kernel) (by decide +kernel), wG_t 1547 (by decide +kernel) (by decide +kernel), rfl⟩
set_option maxRecDepth 20000 in
theorem mlL_163 : xMV RL 163 mX9_cutsFor 1 9 := ⟨mcX9_cutsFor, wG_t 1057 (by decide +kernel) (by decide +kernel), wG_t 1058 (by decide +kernel) (by decide +kernel), wG_t 1059 (by decide +kernel) (by decide +kernel), rfl⟩
set_option maxRecDepth 20000 in
theorem mcX10_cutsFor : xMc mX10_cutsFor 1 := ⟨wG_t 1556 (by decide +kernel) (by decide +kernel), wG_t 12 (by decide +kernel) (by decide +kernel), ⟨by decide +kernel, by decide +kernel, by decide +kernel⟩, by decide +kernel, rfl⟩
set_option maxRecDepth 20000 in
theorem mlL_166 : xMV RL 166 mX10_cutsFor 1 10 := ⟨mcX10_cutsFor, wG_t 1553 (by decide +kernel) (by decide +kernel), wG_t 1554 (by decide +kernel) (by decide +kernel), wG_t 1555 (by decide +kernel) (by decide +kernel), rfl⟩
set_option maxRecDepth 20000 in
theorem mcX9_best : xMc mX9_best 1 := ⟨wG_t 1068 (by decide +kernel) (by decide +kernel), wG_t 1 (by decide +kernel) (by decide +kernel), ⟨by decide +kernel, by decide +kernel, by decide +kernel⟩, by decide +kernel, rfl⟩
set_option maxRecDepth 20000 in
theorem mlL_167 : xMV RL 167 mX9_best 1 9 := ⟨mcX9_best, wG_t 1065 (by decide +kernel) (by decide +kernel), wG_t 1066 (by decide +kernel) (by decide +kernel), wG_t 1067 (by decide +kernel) (by decide +kernel), rfl⟩
set_option maxRecDepth 20000 in
theorem mcX10_best : xMc mX10_best 1 := ⟨wG_t 1564 (by decide +kernel) (by decide +kernel), wG_t 12 (by decide +kernel) (by decide +kernel), ⟨by decide +kernel, by decide +kernel, by decide +kernel⟩, by decide +kernel, rfl⟩
set_option maxRecDepth 20000 in
theorem mlL_170 : xMV RL 170 mX10_best 1 10 := ⟨mcX10_best, wG_t 1561 (by decide +kernel) (by decide +kernel), wG_t 1562 (by decide +kernel) (by decide +kernel), wG_t 1563 (by decide +kernel) (by decide +kernel), rfl⟩
def lp_L_law_18 (xs : Nat → Int) (xn : Int) (a : Nat) (b : Nat) : Nat → Int → xN → (Int → xN → Option (Bool × xN)) → Option (Bool × xN)
  | 0, _, _, _ => none
  | n + 1, y3, R, X =>
    if (w4 (xn - 6)) < y3 then
    X y3 R
    else
    if 0 ≤ y3 ∧ y3 < xn then
    if (b4and (xs (y3).toNat) 63) = 0 then
    if 0 ≤ (w4 (y3 + 1)) ∧ (w4 (y3 + 1)) < xn then
    if 0 ≤ (w4 (y3 + 2)) ∧ (w4 (y3 + 2)) < xn then
    (f_X9_setSheet a (xs ((w4 (y3 + 1))).toNat) (xs ((w4 (y3 + 2))).toNat) R).bind (fun v6 =>
    if 0 ≤ (w4 (y3 + 1)) ∧ (w4 (y3 + 1)) < xn then
    if 0 ≤ (w4 (y3 + 2)) ∧ (w4 (y3 + 2)) < xn then
    (f_X10_setSheet b (xs ((w4 (y3 + 1))).toNat) (xs ((w4 (y3 + 2))).toNat) v6.2).bind (fun v9 =>
    if v6.1 = v9.1 then
    xlet (w4 (y3 + 6)) (fun x11 =>
    lp_L_law_18 xs xn a b n x11 v9.2 X)
    else
    some (false, v9.2))
    else none
    else none)
    else none
    else none
    else
    if (b4and (xs (y3).toNat) 63) = 1 then
    if 0 ≤ (w4 (y3 + 1)) ∧ (w4 (y3 + 1)) < xn then
    (f_X9_fold a (xs ((w4 (y3 + 1))).toNat) R).bind (fun v14 =>
    if 0 ≤ (w4 (y3 + 1)) ∧ (w4 (y3 + 1)) < xn then
    (f_X10_fold b (xs ((w4 (y3 + 1))).toNat) v14.2).bind (fun v16 =>
    if v14.1 = v16.1 then
    xlet (w4 (y3 + 6)) (fun x18 =>
    lp_L_law_18 xs xn a b n x18 v16.2 X)
    else
    some (false, v16.2))
    else none)
    else none
    else
    if (b4and (xs (y3).toNat) 63) = 2 then
    (f_X9_unfold a R).bind (fun v20 =>
    (f_X10_unfold b v20.2).bind (fun v21 =>
    if v20.1 = v21.1 then
    xlet (w4 (y3 + 6)) (fun x23 =>
    lp_L_law_18 xs xn a b n x23 v21.2 X)
    else
    some (false, v21.2)))
    else
    if (b4and (xs (y3).toNat) 63) = 3 then
    if 0 ≤ (w4 (y3 + 1)) ∧ (w4 (y3 + 1)) < xn then
    (f_X9_setSpine a (xs ((w4 (y3 + 1))).toNat) R).bind (fun v26 =>
    if 0 ≤ (w4 (y3 + 1)) ∧ (w4 (y3 + 1)) < xn then
    (f_X10_setSpine b (xs ((w4 (y3 + 1))).toNat) v26.2).bind (fun v28 =>
    if v26.1 = v28.1 then
    xlet (w4 (y3 + 6)) (fun x30 =>
    lp_L_law_18 xs xn a b n x30 v28.2 X)
    else
    some (false, v28.2))
    else none)
    else none
    else
    if (b4and (xs (y3).toNat) 63) = 4 then
    if 0 ≤ (w4 (y3 + 1)) ∧ (w4 (y3 + 1)) < xn then
    if 0 ≤ (w4 (y3 + 2)) ∧ (w4 (y3 + 2)) < xn then
    if 0 ≤ (w4 (y3 + 3)) ∧ (w4 (y3 + 3)) < xn then
    if 0 ≤ (w4 (y3 + 4)) ∧ (w4 (y3 + 4)) < xn then
    if 0 ≤ (w4 (y3 + 5)) ∧ (w4 (y3 + 5)) < xn then
    (f_X9_print a (xs ((w4 (y3 + 1))).toNat) (xs ((w4 (y3 + 2))).toNat) (xs ((w4 (y3 + 3))).toNat) (xs ((w4 (y3 + 4))).toNat) (xs ((w4 (y3 + 5))).toNat) R).bind (fun v37 =>
    if 0 ≤ (w4 (y3 + 1)) ∧ (w4 (y3 + 1)) < xn then
    if 0 ≤ (w4 (y3 + 2)) ∧ (w4 (y3 + 2)) < xn then
    if 0 ≤ (w4 (y3 + 3)) ∧ (w4 (y3 + 3)) < xn then
    if 0 ≤ (w4 (y3 + 4)) ∧ (w4 (y3 + 4)) < xn then
    if 0 ≤ (w4 (y3 + 5)) ∧ (w4 (y3 + 5)) < xn then
    (f_X10_print b (xs ((w4 (y3 + 1))).toNat) (xs ((w4 (y3 + 2))).toNat) (xs ((w4 (y3 + 3))).toNat) (xs ((w4 (y3 + 4))).toNat) (xs ((w4 (y3 + 5))).toNat) v37.2).bind (fun v43 =>
    if v37.1 = v43.1 then
    xlet (w4 (y3 + 6)) (fun x45 =>
    lp_L_law_18 xs xn a b n x45 v43.2 X)
    else
    some (false, v43.2))
    else none
    else none
    else none
    else none
    else none)
    else none
    else none
    else none
    else none
    else none
    else
    if (b4and (xs (y3).toNat) 63) = 5 then
    if 0 ≤ (w4 (y3 + 1)) ∧ (w4 (y3 + 1)) < xn then
    (f_X9_printAll a (xs ((w4 (y3 + 1))).toNat) R).bind (fun v48 =>
    if 0 ≤ (w4 (y3 + 1)) ∧ (w4 (y3 + 1)) < xn then
    (f_X10_printAll b (xs ((w4 (y3 + 1))).toNat) v48.2).bind (fun v50 =>
    if v48.1 = v50.1 then
    xlet (w4 (y3 + 6)) (fun x52 =>
    lp_L_law_18 xs xn a b n x52 v50.2 X)
    else
    some (false, v50.2))
    else none)
    else none
    else
    if (b4and (xs (y3).toNat) 63) = 6 then
    if 0 ≤ (w4 (y3 + 1)) ∧ (w4 (y3 + 1)) < xn then
    (f_X9_cut a (xs ((w4 (y3 + 1))).toNat) R).bind (fun v55 =>
    if 0 ≤ (w4 (y3 + 1)) ∧ (w4 (y3 + 1)) < xn then
    (f_X10_cut b (xs ((w4 (y3 + 1))).toNat) v55.2).bind (fun v57 =>
    if v55.1 = v57.1 then
    xlet (w4 (y3 + 6)) (fun x59 =>
    lp_L_law_18 xs xn a b n x59 v57.2 X)
    else
    some (false, v57.2))
    else none)
    else none
    else
    if (b4and (xs (y3).toNat) 63) = 7 then
    if 0 ≤ (w4 (y3 + 1)) ∧ (w4 (y3 + 1)) < xn then
    (f_X9_staple a (xs ((w4 (y3 + 1))).toNat) R).bind (fun v62 =>
    if 0 ≤ (w4 (y3 + 1)) ∧ (w4 (y3 + 1)) < xn then
    (f_X10_staple b (xs ((w4 (y3 + 1))).toNat) v62.2).bind (fun v64 =>
    if v62.1 = v64.1 then
    xlet (w4 (y3 + 6)) (fun x66 =>
    lp_L_law_18 xs xn a b n x66 v64.2 X)
    else
    some (false, v64.2))
    else none)
    else none
    else
    if (b4and (xs (y3).toNat) 63) = 8 then
    if 0 ≤ (w4 (y3 + 1)) ∧ (w4 (y3 + 1)) < xn then
    (f_X9_unstaple a (xs ((w4 (y3 + 1))).toNat) R).bind (fun v69 =>
    if 0 ≤ (w4 (y3 + 1)) ∧ (w4 (y3 + 1)) < xn then
    (f_X10_unstaple b (xs ((w4 (y3 + 1))).toNat) v69.2).bind (fun v71 =>
    if v69.1 = v71.1 then
    xlet (w4 (y3 + 6)) (fun x73 =>
    lp_L_law_18 xs xn a b n x73 v71.2 X)
    else
    some (false, v71.2))
    else none)
    else none
    else
    if (b4and (xs (y3).toNat) 63) = 9 then
    if 0 ≤ (w4 (y3 + 1)) ∧ (w4 (y3 + 1)) < xn then
    (f_X9_setLegs a (xs ((w4 (y3 + 1))).toNat) R).bind (fun v76 =>
    if 0 ≤ (w4 (y3 + 1)) ∧ (w4 (y3 + 1)) < xn then
    (f_X10_setLegs b (xs ((w4 (y3 + 1))).toNat) v76.2).bind (fun v78 =>
    if v76.1 = v78.1 then
    xlet (w4 (y3 + 6)) (fun x80 =>
    lp_L_law_18 xs xn a b n x80 v78.2 X)
    else
    some (false, v78.2))
    else none)
    else none
    else
    if (b4and (xs (y3).toNat) 63) = 10 then
    if 0 ≤ (w4 (y3 + 1)) ∧ (w4 (y3 + 1)) < xn then
    if 0 ≤ (w4 (y3 + 2)) ∧ (w4 (y3 + 2)) < xn then
    if 0 ≤ (w4 (y3 + 3)) ∧ (w4 (y3 + 3)) < xn then
    (f_X9_see a (xs ((w4 (y3 + 1))).toNat) (xs ((w4 (y3 + 2))).toNat) (xs ((w4 (y3 + 3))).toNat) R).bind (fun v85 =>
    if 0 ≤ (w4 (y3 + 1)) ∧ (w4 (y3 + 1)) < xn then
    if 0 ≤ (w4 (y3 + 2)) ∧ (w4 (y3 + 2)) < xn then
    if 0 ≤ (w4 (y3 + 3)) ∧ (w4 (y3 + 3)) < xn then
    (f_X10_see b (xs ((w4 (y3 + 1))).toNat) (xs ((w4 (y3 + 2))).toNat) (xs ((w4 (y3 + 3))).toNat) v85.2).bind (fun v89 =>
    if v85.1 = v89.1 then
    xlet (w4 (y3 + 6)) (fun x91 =>
    lp_L_law_18 xs xn a b n x91 v89.2 X)
    else
    some (false, v89.2))
    else none
    else none
    else none)
    else none
    else none
    else none
    else
    if (b4and (xs (y3).toNat) 63) = 11 then
    (f_X9_forget a R).bind (fun v93 =>
    (f_X10_forget b v93.2).bind (fun v94 =>
    if v93.1 = v94.1 then
    xlet (w4 (y3 + 6)) (fun x96 =>
    lp_L_law_18 xs xn a b n x96 v94.2 X)
    else
    some (false, v94.2)))
    else
    if (b4and (xs (y3).toNat) 63) = 12 then
    if 0 ≤ (w4 (y3 + 1)) ∧ (w4 (y3 + 1)) < xn then
    if 0 ≤ (w4 (y3 + 2)) ∧ (w4 (y3 + 2)) < xn then
    if 0 ≤ (w4 (y3 + 3)) ∧ (w4 (y3 + 3)) < xn then
    if 0 ≤ (w4 (y3 + 4)) ∧ (w4 (y3 + 4)) < xn then
    (f_X9_addNote a (xs ((w4 (y3 + 1))).toNat) (xs ((w4 (y3 + 2))).toNat) (xs ((w4 (y3 + 3))).toNat) (xs ((w4 (y3 + 4))).toNat) R).bind (fun v102 =>
    if 0 ≤ (w4 (y3 + 1)) ∧ (w4 (y3 + 1)) < xn then
    if 0 ≤ (w4 (y3 + 2)) ∧ (w4 (y3 + 2)) < xn then
    if 0 ≤ (w4 (y3 + 3)) ∧ (w4 (y3 + 3)) < xn then
    if 0 ≤ (w4 (y3 + 4)) ∧ (w4 (y3 + 4)) < xn then
    (f_X10_addNote b (xs ((w4 (y3 + 1))).toNat) (xs ((w4 (y3 + 2))).toNat) (xs ((w4 (y3 + 3))).toNat) (xs ((w4 (y3 + 4))).toNat) v102.2).bind (fun v107 =>
    if v102.1 = v107.1 then
    xlet (w4 (y3 + 6)) (fun x109 =>
    lp_L_law_18 xs xn a b n x109 v107.2 X)
    else
    some (false, v107.2))
    else none
    else none
    else none
    else none)
    else none
    else none
    else none
    else none
    else
    if (b4and (xs (y3).toNat) 63) = 13 then
    if 0 ≤ (w4 (y3 + 1)) ∧ (w4 (y3 + 1)) < xn then
    (f_X9_removeNote a (xs ((w4 (y3 + 1))).toNat) R).bind (fun v112 =>
    if 0 ≤ (w4 (y3 + 1)) ∧ (w4 (y3 + 1)) < xn then
    (f_X10_removeNote b (xs ((w4 (y3 + 1))).toNat) v112.2).bind (fun v114 =>
    if v112.1 = v114.1 then
    xlet (w4 (y3 + 6)) (fun x116 =>
    lp_L_law_18 xs xn a b n x116 v114.2 X)
    else
    some (false, v114.2))
    else none)
    else none
    else
    if (b4and (xs (y3).toNat) 63) = 14 then
    if 0 ≤ (w4 (y3 + 1)) ∧ (w4 (y3 + 1)) < xn then
    (f_X9_setLines a (xs ((w4 (y3 + 1))).toNat) R).bind (fun v119 =>
    if 0 ≤ (w4 (y3 + 1)) ∧ (w4 (y3 + 1)) < xn then
    (f_X10_setLines b (xs ((w4 (y3 + 1))).toNat) v119.2).bind (fun v121 =>
    if v119.1 = v121.1 then
    xlet (w4 (y3 + 6)) (fun x123 =>
    lp_L_law_18 xs xn a b n x123 v121.2 X)
    else
    some (false, v121.2))
    else none)
    else none
    else
    if (b4and (xs (y3).toNat) 63) = 15 then
    if 0 ≤ (w4 (y3 + 1)) ∧ (w4 (y3 + 1)) < xn then
    (f_X9_take a (xs ((w4 (y3 + 1))).toNat) R).bind (fun v126 =>
    if 0 ≤ (w4 (y3 + 1)) ∧ (w4 (y3 + 1)) < xn then
    (f_X10_take b (xs ((w4 (y3 + 1))).toNat) v126.2).bind (fun v128 =>
    if v126.1 = v128.1 then
    xlet (w4 (y3 + 6)) (fun x130 =>
    lp_L_law_18 xs xn a b n x130 v128.2 X)
    else
    some (false, v128.2))
    else none)
    else none
    else
    if (b4and (xs (y3).toNat) 63) = 16 then
    if 0 ≤ (w4 (y3 + 1)) ∧ (w4 (y3 + 1)) < xn then
    (f_X9_restore a (xs ((w4 (y3 + 1))).toNat) R).bind (fun v133 =>
    if 0 ≤ (w4 (y3 + 1)) ∧ (w4 (y3 + 1)) < xn then
    (f_X10_restore b (xs ((w4 (y3 + 1))).toNat) v133.2).bind (fun v135 =>
    if v133.1 = v135.1 then
    xlet (w4 (y3 + 6)) (fun x137 =>
    lp_L_law_18 xs xn a b n x137 v135.2 X)
    else
    some (false, v135.2))
    else none)
    else none
    else
    if (b4and (xs (y3).toNat) 63) = 17 then
    (f_X9_undo a R).bind (fun v139 =>
    (f_X10_undo b v139.2).bind (fun v140 =>
    if v139.1 = v140.1 then
    xlet (w4 (y3 + 6)) (fun x142 =>
    lp_L_law_18 xs xn a b n x142 v140.2 X)
    else
    some (false, v140.2)))
    else
    if (b4and (xs (y3).toNat) 63) = 18 then
    if 0 ≤ (w4 (y3 + 1)) ∧ (w4 (y3 + 1)) < xn then
    (f_X9_append a (xs ((w4 (y3 + 1))).toNat) R).bind (fun v145 =>
    if 0 ≤ (w4 (y3 + 1)) ∧ (w4 (y3 + 1)) < xn then
    (f_X10_append b (xs ((w4 (y3 + 1))).toNat) v145.2).bind (fun v147 =>
    if v145.1 = v147.1 then
    xlet (w4 (y3 + 6)) (fun x149 =>
    lp_L_law_18 xs xn a b n x149 v147.2 X)
    else
    some (false, v147.2))
    else none)
    else none
    else
    if (b4and (xs (y3).toNat) 63) = 19 then
    (f_X9_clearText a R).bind (fun v151 =>
    (f_X10_clearText b v151.2).bind (fun v152 =>
    if v151.1 = v152.1 then
    xlet (w4 (y3 + 6)) (fun x154 =>
    lp_L_law_18 xs xn a b n x154 v152.2 X)
    else
    some (false, v152.2)))
    else
    if (b4and (xs (y3).toNat) 63) = 20 then
    (f_X9_run a R).bind (fun v156 =>
    (f_X10_run b v156.2).bind (fun v157 =>
    if v156.1 = v157.1 then
    xlet (w4 (y3 + 6)) (fun x159 =>
    lp_L_law_18 xs xn a b n x159 v157.2 X)
    else
    some (false, v157.2)))
    else
    if (b4and (xs (y3).toNat) 63) = 21 then
    if 0 ≤ (w4 (y3 + 1)) ∧ (w4 (y3 + 1)) < xn then
    (f_X9_count a (xs ((w4 (y3 + 1))).toNat) R).bind (fun v162 =>
    if 0 ≤ (w4 (y3 + 1)) ∧ (w4 (y3 + 1)) < xn then
    (f_X10_count b (xs ((w4 (y3 + 1))).toNat) R).bind (fun v164 =>
    if v162 = v164.1 then
    xlet (w4 (y3 + 6)) (fun x166 =>
    lp_L_law_18 xs xn a b n x166 v164.2 X)
    else
    some (false, v164.2))
    else none)
    else none
    else
    if (b4and (xs (y3).toNat) 63) = 22 then
    if 0 ≤ (w4 (y3 + 1)) ∧ (w4 (y3 + 1)) < xn then
    if 0 ≤ (w4 (y3 + 2)) ∧ (w4 (y3 + 2)) < xn then
    if 0 ≤ (w4 (y3 + 3)) ∧ (w4 (y3 + 3)) < xn then
    if 0 ≤ (w4 (y3 + 4)) ∧ (w4 (y3 + 4)) < xn then
    (f_X9_side a (xs ((w4 (y3 + 1))).toNat) (xs ((w4 (y3 + 2))).toNat) (xs ((w4 (y3 + 3))).toNat) (xs ((w4 (y3 + 4))).toNat) R).bind (fun v172 =>
    if 0 ≤ (w4 (y3 + 1)) ∧ (w4 (y3 + 1)) < xn then
    if 0 ≤ (w4 (y3 + 2)) ∧ (w4 (y3 + 2)) < xn then
    if 0 ≤ (w4 (y3 + 3)) ∧ (w4 (y3 + 3)) < xn then
    if 0 ≤ (w4 (y3 + 4)) ∧ (w4 (y3 + 4)) < xn then
    (f_X10_side b (xs ((w4 (y3 + 1))).toNat) (xs ((w4 (y3 + 2))).toNat) (xs ((w4 (y3 + 3))).toNat) (xs ((w4 (y3 + 4))).toNat) R).bind (fun v177 =>
    if v172 = v177 then
    xlet (w4 (y3 + 6)) (fun x179 =>
    lp_L_law_18 xs xn a b n x179 R X)
    else
    some (false, R))
    else none
    else none
    else none
    else none)
    else none
    else none
    else none
    else none
    else
    if (b4and (xs (y3).toNat) 63) = 23 then
    if 0 ≤ (w4 (y3 + 1)) ∧ (w4 (y3 + 1)) < xn then
    if 0 ≤ (w4 (y3 + 2)) ∧ (w4 (y3 + 2)) < xn then
    if 0 ≤ (w4 (y3 + 3)) ∧ (w4 (y3 + 3)) < xn then
    (f_X9_layer a (xs ((w4 (y3 + 1))).toNat) (xs ((w4 (y3 + 2))).toNat) (xs ((w4 (y3 + 3))).toNat) R).bind (fun v184 =>
    if 0 ≤ (w4 (y3 + 1)) ∧ (w4 (y3 + 1)) < xn then
    if 0 ≤ (w4 (y3 + 2)) ∧ (w4 (y3 + 2)) < xn then
    if 0 ≤ (w4 (y3 + 3)) ∧ (w4 (y3 + 3)) < xn then
    (f_X10_layer b (xs ((w4 (y3 + 1))).toNat) (xs ((w4 (y3 + 2))).toNat) (xs ((w4 (y3 + 3))).toNat) R).bind (fun v188 =>
    if v184 = v188.1 then
    xlet (w4 (y3 + 6)) (fun x190 =>
    lp_L_law_18 xs xn a b n x190 v188.2 X)
    else
    some (false, v188.2))
    else none
    else none
    else none)
    else none
    else none
    else none
    else
    if (b4and (xs (y3).toNat) 63) = 24 then
    if 0 ≤ (w4 (y3 + 1)) ∧ (w4 (y3 + 1)) < xn then
    if 0 ≤ (w4 (y3 + 2)) ∧ (w4 (y3 + 2)) < xn then
    (f_X9_page a (xs ((w4 (y3 + 1))).toNat) (xs ((w4 (y3 + 2))).toNat) R).bind (fun v194 =>
    if 0 ≤ (w4 (y3 + 1)) ∧ (w4 (y3 + 1)) < xn then
    if 0 ≤ (w4 (y3 + 2)) ∧ (w4 (y3 + 2)) < xn then
    (f_X10_page b (xs ((w4 (y3 + 1))).toNat) (xs ((w4 (y3 + 2))).toNat) v194.2).bind (fun v197 =>
    if v194.1 = v197.1 then
    xlet (w4 (y3 + 6)) (fun x199 =>
    lp_L_law_18 xs xn a b n x199 v197.2 X)
    else
    some (false, v197.2))
    else none
    else none)
    else none
    else none
    else
    if (b4and (xs (y3).toNat) 63) = 25 then
    if 0 ≤ (w4 (y3 + 1)) ∧ (w4 (y3 + 1)) < xn then
    if 0 ≤ (w4 (y3 + 2)) ∧ (w4 (y3 + 2)) < xn then
    (f_X9_opening a (xs ((w4 (y3 + 1))).toNat) (xs ((w4 (y3 + 2))).toNat) R).bind (fun v203 =>
    if 0 ≤ (w4 (y3 + 1)) ∧ (w4 (y3 + 1)) < xn then
    if 0 ≤ (w4 (y3 + 2)) ∧ (w4 (y3 + 2)) < xn then
    (f_X10_opening b (xs ((w4 (y3 + 1))).toNat) (xs ((w4 (y3 + 2))).toNat) R).bind (fun v206 =>
    if v203 = v206.1 then
    xlet (w4 (y3 + 6)) (fun x208 =>
    lp_L_law_18 xs xn a b n x208 v206.2 X)
    else
    some (false, v206.2))
    else none
    else none)
    else none
    else none
    else
    if (b4and (xs (y3).toNat) 63) = 26 then
    if 0 ≤ (w4 (y3 + 1)) ∧ (w4 (y3 + 1)) < xn then
    (f_X9_hanging a (xs ((w4 (y3 + 1))).toNat) R).bind (fun v211 =>
    if 0 ≤ (w4 (y3 + 1)) ∧ (w4 (y3 + 1)) < xn then
    (f_X10_hanging b (xs ((w4 (y3 + 1))).toNat) R).bind (fun v213 =>
    if v211 = v213.1 then
    xlet (w4 (y3 + 6)) (fun x215 =>
    lp_L_law_18 xs xn a b n x215 v213.2 X)
    else
    some (false, v213.2))
    else none)
    else none
    else
    if (b4and (xs (y3).toNat) 63) = 27 then
    if 0 ≤ (w4 (y3 + 1)) ∧ (w4 (y3 + 1)) < xn then
    if 0 ≤ (w4 (y3 + 2)) ∧ (w4 (y3 + 2)) < xn then
    (f_X9_together a (xs ((w4 (y3 + 1))).toNat) (xs ((w4 (y3 + 2))).toNat) R).bind (fun v219 =>
    if 0 ≤ (w4 (y3 + 1)) ∧ (w4 (y3 + 1)) < xn then
    if 0 ≤ (w4 (y3 + 2)) ∧ (w4 (y3 + 2)) < xn then
    (f_X10_together b (xs ((w4 (y3 + 1))).toNat) (xs ((w4 (y3 + 2))).toNat) R).bind (fun v222 =>
    if v219 = v222.1 then
    xlet (w4 (y3 + 6)) (fun x224 =>
    lp_L_law_18 xs xn a b n x224 v222.2 X)
    else
    some (false, v222.2))
    else none
    else none)
    else none
    else none
    else
    if (b4and (xs (y3).toNat) 63) = 28 then
    (f_X9_pieces a R).bind (fun v226 =>
    (f_X10_pieces b R).bind (fun v227 =>
    if v226 = v227.1 then
    xlet (w4 (y3 + 6)) (fun x229 =>
    lp_L_law_18 xs xn a b n x229 v227.2 X)
    else
    some (false, v227.2)))
    else
    if (b4and (xs (y3).toNat) 63) = 29 then
    if 0 ≤ (w4 (y3 + 1)) ∧ (w4 (y3 + 1)) < xn then
    (f_X9_reading a (xs ((w4 (y3 + 1))).toNat) R).bind (fun v232 =>
    if 0 ≤ (w4 (y3 + 1)) ∧ (w4 (y3 + 1)) < xn then
    (f_X10_reading b (xs ((w4 (y3 + 1))).toNat) R).bind (fun v234 =>
    if v232 = v234.1 then
    xlet (w4 (y3 + 6)) (fun x236 =>
    lp_L_law_18 xs xn a b n x236 v234.2 X)
    else
    some (false, v234.2))
    else none)
    else none
    else
    if (b4and (xs (y3).toNat) 63) = 30 then
    if 0 ≤ (w4 (y3 + 1)) ∧ (w4 (y3 + 1)) < xn then
    (f_X9_pageOf a (xs ((w4 (y3 + 1))).toNat) R).bind (fun v239 =>
    if 0 ≤ (w4 (y3 + 1)) ∧ (w4 (y3 + 1)) < xn then
    (f_X10_pageOf b (xs ((w4 (y3 + 1))).toNat) R).bind (fun v241 =>
    if v239 = v241.1 then
    xlet (w4 (y3 + 6)) (fun x243 =>
    lp_L_law_18 xs xn a b n x243 v241.2 X)
    else
    some (false, v241.2))
    else none)
    else none
    else
    if (b4and (xs (y3).toNat) 63) = 31 then
    if 0 ≤ (w4 (y3 + 1)) ∧ (w4 (y3 + 1)) < xn then
    if 0 ≤ (w4 (y3 + 2)) ∧ (w4 (y3 + 2)) < xn then
    (f_X9_note a (xs ((w4 (y3 + 1))).toNat) (xs ((w4 (y3 + 2))).toNat) R).bind (fun v247 =>
    if 0 ≤ (w4 (y3 + 1)) ∧ (w4 (y3 + 1)) < xn then
    if 0 ≤ (w4 (y3 + 2)) ∧ (w4 (y3 + 2)) < xn then
    (f_X10_note b (xs ((w4 (y3 + 1))).toNat) (xs ((w4 (y3 + 2))).toNat) v247.2).bind (fun v250 =>
    if v247.1 = v250.1 then
    xlet (w4 (y3 + 6)) (fun x252 =>
    lp_L_law_18 xs xn a b n x252 v250.2 X)
    else
    some (false, v250.2))
    else none
    else none)
    else none
    else none
    else
    if (b4and (xs (y3).toNat) 63) = 32 then
    if 0 ≤ (w4 (y3 + 1)) ∧ (w4 (y3 + 1)) < xn then
    if 0 ≤ (w4 (y3 + 2)) ∧ (w4 (y3 + 2)) < xn then
    (f_X9_index a (xs ((w4 (y3 + 1))).toNat) (xs ((w4 (y3 + 2))).toNat) R).bind (fun v256 =>
    if 0 ≤ (w4 (y3 + 1)) ∧ (w4 (y3 + 1)) < xn then
    if 0 ≤ (w4 (y3 + 2)) ∧ (w4 (y3 + 2)) < xn then
    (f_X10_index b (xs ((w4 (y3 + 1))).toNat) (xs ((w4 (y3 + 2))).toNat) v256.2).bind (fun v259 =>
    if v256.1 = v259.1 then
    xlet (w4 (y3 + 6)) (fun x261 =>
    lp_L_law_18 xs xn a b n x261 v259.2 X)
    else
    some (false, v259.2))
    else none
    else none)
    else none
    else none
    else
    if (b4and (xs (y3).toNat) 63) = 33 then
    if 0 ≤ (w4 (y3 + 1)) ∧ (w4 (y3 + 1)) < xn then
    (f_X9_effort a (xs ((w4 (y3 + 1))).toNat) R).bind (fun v264 =>
    if 0 ≤ (w4 (y3 + 1)) ∧ (w4 (y3 + 1)) < xn then
    (f_X10_effort b (xs ((w4 (y3 + 1))).toNat) R).bind (fun v266 =>
    if v264 = v266 then
    xlet (w4 (y3 + 6)) (fun x268 =>
    lp_L_law_18 xs xn a b n x268 R X)
    else
    some (false, R))
    else none)
    else none
    else
    if (b4and (xs (y3).toNat) 63) = 34 then
    if 0 ≤ (w4 (y3 + 1)) ∧ (w4 (y3 + 1)) < xn then
    (f_X9_fitting a (xs ((w4 (y3 + 1))).toNat) R).bind (fun v271 =>
    if 0 ≤ (w4 (y3 + 1)) ∧ (w4 (y3 + 1)) < xn then
    (f_X10_fitting b (xs ((w4 (y3 + 1))).toNat) v271.2).bind (fun v273 =>
    if v271.1 = v273.1 then
    xlet (w4 (y3 + 6)) (fun x275 =>
    lp_L_law_18 xs xn a b n x275 v273.2 X)
    else
    some (false, v273.2))
    else none)
    else none
    else
    if (b4and (xs (y3).toNat) 63) = 35 then
    if 0 ≤ (w4 (y3 + 1)) ∧ (w4 (y3 + 1)) < xn then
    (f_X9_readsBy a (xs ((w4 (y3 + 1))).toNat) R).bind (fun v278 =>
    if 0 ≤ (w4 (y3 + 1)) ∧ (w4 (y3 + 1)) < xn then
    (f_X10_readsBy b (xs ((w4 (y3 + 1))).toNat) v278.2).bind (fun v280 =>
    if v278.1 = v280.1 then
    xlet (w4 (y3 + 6)) (fun x282 =>
    lp_L_law_18 xs xn a b n x282 v280.2 X)
    else
    some (false, v280.2))
    else none)
    else none
    else
    if (b4and (xs (y3).toNat) 63) = 36 then
    if 0 ≤ (w4 (y3 + 1)) ∧ (w4 (y3 + 1)) < xn then
    (f_X9_cutsFor a (xs ((w4 (y3 + 1))).toNat) R).bind (fun v285 =>
    if 0 ≤ (w4 (y3 + 1)) ∧ (w4 (y3 + 1)) < xn then
    (f_X10_cutsFor b (xs ((w4 (y3 + 1))).toNat) v285.2).bind (fun v287 =>
    if v285.1 = v287.1 then
    xlet (w4 (y3 + 6)) (fun x289 =>
    lp_L_law_18 xs xn a b n x289 v287.2 X)
    else
    some (false, v287.2))
    else none)
    else none
    else
    if (b4and (xs (y3).toNat) 63) = 37 then
    if 0 ≤ (w4 (y3 + 1)) ∧ (w4 (y3 + 1)) < xn then
    (f_X9_best a (xs ((w4 (y3 + 1))).toNat) R).bind (fun v292 =>
    if 0 ≤ (w4 (y3 + 1)) ∧ (w4 (y3 + 1)) < xn then
    (f_X10_best b (xs ((w4 (y3 + 1))).toNat) v292.2).bind (fun v294 =>
    if v292.1 = v294.1 then
    xlet (w4 (y3 + 6)) (fun x296 =>
    lp_L_law_18 xs xn a b n x296 v294.2 X)
    else
    some (false, v294.2))
    else none)
    else none
    else
    xlet (w4 (y3 + 6)) (fun x297 =>
    lp_L_law_18 xs xn a b n x297 R X)
    else none
set_option maxRecDepth 20000 in
set_option maxHeartbeats 4000000 in
theorem lc_L_law_18 {l : Launch} {g : xG} {d : Nat} {A : xA} {xs : Nat → Int} {xn : Int} {a b : Nat} {nm : String} (h_xs : xscI g = xs) (h_xn : xscN g = xn) (h_4 : i4 xn) (h_a : sh 9 A a) (h_b : sh 10 A b)  {X : Int → xN → Option (Bool × xN)} (hX : ∀ (y3 : Int) (R : xN), Ev l g (d + 10) (mL_law nm) 1220 [xU, xU, xU, xU] [] A R (fun v : Bool × xN => some (xI (xz v.1))) (fun v => v.2) (X y3 R)) (n : Nat) (y3 : Int) (R : xN) : Ev l g (d + 10) (mL_law nm) 18 [xS 300, xR a, xR b, xI y3] [] A R (fun v : Bool × xN => some (xI (xz v.1))) (fun v => v.2) (lp_L_law_18 xs xn a b n y3 R X) := by
  induction n generalizing y3 R with
  | zero => exact ev_none
  | succ n ih =>
    rw [lp_L_law_18]
    refine ev_st (pc' := 24) (L' := [xS 300, xR a, xR b, xI y3]) (st' := [xI (w4 (xn - 6)), xI y3]) (fun _ _ _ k => e_iload_n dL_law_18 rfl (i := 3) (x := y3) rfl (e_aload_nS dL_law_19 rfl (i := 0) (x := 300) rfl rfl (e_xlen dL_law_20 h_xn h_4 (e_bipush dL_law_21 rfl (k4 rfl) (e_isub dL_law_23 k))))) ?_
    refine ev_br2 (P := (w4 (xn - 6)) < y3) (pct := 1220) (pcf := 27) (st' := []) (fun _ _ _ kt kf => e_cgt dL_law_24 (tgt := 1220) rfl kt kf) (fun h1 => ?_) (fun h1 => ?_)
    · refine ev_st (pc' := 1220) (L' := [xU, xU, xU, xU]) (st' := []) (fun _ _ _ k => e_fg [0, 1, 2, 3] k) ?_
      exact hX y3 R
    · refine ev_st (pc' := 29) (L' := [xS 300, xR a, xR b, xI y3]) (st' := [xI y3, xS 300]) (fun _ _ _ k => e_aload_nS dL_law_27 rfl (i := 0) (x := 300) rfl rfl (e_iload_n dL_law_28 rfl (i := 3) (x := y3) rfl k)) ?_
      refine ev_chk (fun h2 => ?_)
      refine ev_st (pc' := 30) (L' := [xS 300, xR a, xR b, xI y3]) (st' := [xI (xs (y3).toNat)]) (fun _ _ _ k => e_xld dL_law_29 h_xs h_xn h2 k) ?_
      refine ev_st (pc' := 33) (L' := [xS 300, xR a, xR b, xI y3]) (st' := [xI (b4and (xs (y3).toNat) 63)]) (fun _ _ _ k => e_bipush dL_law_30 rfl (k4 rfl) (e_iand dL_law_32 k)) ?_
      refine ev_ite (P := (b4and (xs (y3).toNat) 63) = 0) (fun h3 => ?_) (fun h3 => ?_)
      · refine ev_st (pc' := 200) (L' := [xS 300, xR a, xR b, xI y3]) (st' := []) (fun _ _ _ k => e_tin dL_law_33 (tgt := 200) (off := 167) (by omega) (by omega) (by rw [h3]; rfl) rfl k) ?_
        refine ev_st (pc' := 205) (L' := [xS 300, xR a, xR b, xI y3]) (st' := [xI (w4 (y3 + 1)), xS 300, xR a]) (fun _ _ _ k => e_aload_n dL_law_200 rfl (i := 1) (x := a) rfl (e_aload_nS dL_law_201 rfl (i := 0) (x := 300) rfl rfl (e_iload_n dL_law_202 rfl (i := 3) (x := y3) rfl (e_iconst dL_law_203 (k4 rfl) (e_iadd dL_law_204 k))))) ?_
        refine ev_chk (fun h4 => ?_)
        refine ev_st (pc' := 206) (L' := [xS 300, xR a, xR b, xI y3]) (st' := [xI (xs ((w4 (y3 + 1))).toNat), xR a]) (fun _ _ _ k => e_xld dL_law_205 h_xs h_xn h4 k) ?_
        refine ev_st (pc' := 210) (L' := [xS 300, xR a, xR b, xI y3]) (st' := [xI (w4 (y3 + 2)), xS 300, xI (xs ((w4 (y3 + 1))).toNat), xR a]) (fun _ _ _ k => e_aload_nS dL_law_206 rfl (i := 0) (x := 300) rfl rfl (e_iload_n dL_law_207 rfl (i := 3) (x := y3) rfl (e_iconst dL_law_208 (k4 rfl) (e_iadd dL_law_209 k)))) ?_
        refine ev_chk (fun h5 => ?_)
        refine ev_st (pc' := 211) (L' := [xS 300, xR a, xR b, xI y3]) (st' := [xI (xs ((w4 (y3 + 2))).toNat), xI (xs ((w4 (y3 + 1))).toNat), xR a]) (fun _ _ _ k => e_xld dL_law_210 h_xs h_xn h5 k) ?_
        refine ev_callV (As := [xI (xs ((w4 (y3 + 1))).toNat), xI (xs ((w4 (y3 + 2))).toNat)]) (st := []) (fun v6 => [xI v6.1]) dL_law_211 mlL_13 (kd9_0 h_a) rfl rfl rfl rfl rfl rfl (c_X9_setSheet (d := d + 4) h_a (xs ((w4 (y3 + 1))).toNat) (xs ((w4 (y3 + 2))).toNat)) (fun _ => trivial) (fun _ => rfl) (fun v6 => ?_)
        refine ev_st (pc' := 219) (L' := [xS 300, xR a, xR b, xI y3]) (st' := [xI (w4 (y3 + 1)), xS 300, xR b, xI v6.1]) (fun _ _ _ k => e_aload_n dL_law_214 rfl (i := 2) (x := b) rfl (e_aload_nS dL_law_215 rfl (i := 0) (x := 300) rfl rfl (e_iload_n dL_law_216 rfl (i := 3) (x := y3) rfl (e_iconst dL_law_217 (k4 rfl) (e_iadd dL_law_218 k))))) ?_
        refine ev_chk (fun h7 => ?_)
        refine ev_st (pc' := 220) (L' := [xS 300, xR a, xR b, xI y3]) (st' := [xI (xs ((w4 (y3 + 1))).toNat), xR b, xI v6.1]) (fun _ _ _ k => e_xld dL_law_219 h_xs h_xn h7 k) ?_
        refine ev_st (pc' := 224) (L' := [xS 300, xR a, xR b, xI y3]) (st' := [xI (w4 (y3 + 2)), xS 300, xI (xs ((w4 (y3 + 1))).toNat), xR b, xI v6.1]) (fun _ _ _ k => e_aload_nS dL_law_220 rfl (i := 0) (x := 300) rfl rfl (e_iload_n dL_law_221 rfl (i := 3) (x := y3) rfl (e_iconst dL_law_222 (k4 rfl) (e_iadd dL_law_223 k)))) ?_
        refine ev_chk (fun h8 => ?_)
        refine ev_st (pc' := 225) (L' := [xS 300, xR a, xR b, xI y3]) (st' := [xI (xs ((w4 (y3 + 2))).toNat), xI (xs ((w4 (y3 + 1))).toNat), xR b, xI v6.1]) (fun _ _ _ k => e_xld dL_law_224 h_xs h_xn h8 k) ?_
        refine ev_callV (As := [xI (xs ((w4 (y3 + 1))).toNat), xI (xs ((w4 (y3 + 2))).toNat)]) (st := [xI v6.1]) (fun v9 => [xI v9.1, xI v6.1]) dL_law_225 mlL_17 (kd10_0 h_b) rfl rfl rfl rfl rfl rfl (c_X10_setSheet (d := d + 7) h_b (xs ((w4 (y3 + 1))).toNat) (xs ((w4 (y3 + 2))).toNat)) (fun _ => trivial) (fun _ => rfl) (fun v9 => ?_)
        refine ev_br2 (P := v6.1 = v9.1) (pct := 1214) (pcf := 231) (st' := []) (fun _ _ _ kt kf => e_ceq dL_law_228 (tgt := 1214) rfl kt kf) (fun h10 => ?_) (fun h10 => ?_)
        · refine ev_letx (fun x11 ex11 => ?_)
          refine ev_st (pc' := 1217) (L' := [xS 300, xR a, xR b, xI x11]) (st' := []) (fun _ _ _ k => e_iinc dL_law_1214 (i := 3) rfl (x := y3) rfl (y := x11) ex11 (L' := [xS 300, xR a, xR b, xI x11]) rfl k) ?_
          refine ev_st (pc' := 18) (L' := [xS 300, xR a, xR b, xI x11]) (st' := []) (fun _ _ _ k => e_goto dL_law_1217 (tgt := 18) rfl k) ?_
          exact ih x11 v9.2
        · exact ev_ret (e_iconst dL_law_231 (k4 rfl) (e_iret dL_law_232))
      refine ev_ite (P := (b4and (xs (y3).toNat) 63) = 1) (fun h12 => ?_) (fun h12 => ?_)
      · refine ev_st (pc' := 233) (L' := [xS 300, xR a, xR b, xI y3]) (st' := []) (fun _ _ _ k => e_tin dL_law_33 (tgt := 233) (off := 200) (by omega) (by omega) (by rw [h12]; rfl) rfl k) ?_
        refine ev_st (pc' := 238) (L' := [xS 300, xR a, xR b, xI y3]) (st' := [xI (w4 (y3 + 1)), xS 300, xR a]) (fun _ _ _ k => e_aload_n dL_law_233 rfl (i := 1) (x := a) rfl (e_aload_nS dL_law_234 rfl (i := 0) (x := 300) rfl rfl (e_iload_n dL_law_235 rfl (i := 3) (x := y3) rfl (e_iconst dL_law_236 (k4 rfl) (e_iadd dL_law_237 k))))) ?_
        refine ev_chk (fun h13 => ?_)
        refine ev_st (pc' := 239) (L' := [xS 300, xR a, xR b, xI y3]) (st' := [xI (xs ((w4 (y3 + 1))).toNat), xR a]) (fun _ _ _ k => e_xld dL_law_238 h_xs h_xn h13 k) ?_
        refine ev_callV (As := [xI (xs ((w4 (y3 + 1))).toNat)]) (st := []) (fun v14 => [xI v14.1]) dL_law_239 mlL_18 (kd9_0 h_a) rfl rfl rfl rfl rfl rfl (c_X9_fold (d := d + 4) h_a (xs ((w4 (y3 + 1))).toNat)) (fun _ => trivial) (fun _ => rfl) (fun v14 => ?_)
        refine ev_st (pc' := 247) (L' := [xS 300, xR a, xR b, xI y3]) (st' := [xI (w4 (y3 + 1)), xS 300, xR b, xI v14.1]) (fun _ _ _ k => e_aload_n dL_law_242 rfl (i := 2) (x := b) rfl (e_aload_nS dL_law_243 rfl (i := 0) (x := 300) rfl rfl (e_iload_n dL_law_244 rfl (i := 3) (x := y3) rfl (e_iconst dL_law_245 (k4 rfl) (e_iadd dL_law_246 k))))) ?_
        refine ev_chk (fun h15 => ?_)
        refine ev_st (pc' := 248) (L' := [xS 300, xR a, xR b, xI y3]) (st' := [xI (xs ((w4 (y3 + 1))).toNat), xR b, xI v14.1]) (fun _ _ _ k => e_xld dL_law_247 h_xs h_xn h15 k) ?_
        refine ev_callV (As := [xI (xs ((w4 (y3 + 1))).toNat)]) (st := [xI v14.1]) (fun v16 => [xI v16.1, xI v14.1]) dL_law_248 mlL_22 (kd10_0 h_b) rfl rfl rfl rfl rfl rfl (c_X10_fold (d := d + 6) h_b (xs ((w4 (y3 + 1))).toNat)) (fun _ => trivial) (fun _ => rfl) (fun v16 => ?_)
        refine ev_br2 (P := v14.1 = v16.1) (pct := 1214) (pcf := 254) (st' := []) (fun _ _ _ kt kf => e_ceq dL_law_251 (tgt := 1214) rfl kt kf) (fun h17 => ?_) (fun h17 => ?_)
        · refine ev_letx (fun x18 ex18 => ?_)
          refine ev_st (pc' := 1217) (L' := [xS 300, xR a, xR b, xI x18]) (st' := []) (fun _ _ _ k => e_iinc dL_law_1214 (i := 3) rfl (x := y3) rfl (y := x18) ex18 (L' := [xS 300, xR a, xR b, xI x18]) rfl k) ?_
          refine ev_st (pc' := 18) (L' := [xS 300, xR a, xR b, xI x18]) (st' := []) (fun _ _ _ k => e_goto dL_law_1217 (tgt := 18) rfl k) ?_
          exact ih x18 v16.2
        · exact ev_ret (e_iconst dL_law_254 (k4 rfl) (e_iret dL_law_255))
      refine ev_ite (P := (b4and (xs (y3).toNat) 63) = 2) (fun h19 => ?_) (fun h19 => ?_)
      · refine ev_st (pc' := 256) (L' := [xS 300, xR a, xR b, xI y3]) (st' := []) (fun _ _ _ k => e_tin dL_law_33 (tgt := 256) (off := 223) (by omega) (by omega) (by rw [h19]; rfl) rfl k) ?_
        refine ev_st (pc' := 257) (L' := [xS 300, xR a, xR b, xI y3]) (st' := [xR a]) (fun _ _ _ k => e_aload_n dL_law_256 rfl (i := 1) (x := a) rfl k) ?_
        refine ev_callV (As := []) (st := []) (fun v20 => [xI v20.1]) dL_law_257 mlL_23 (kd9_0 h_a) rfl rfl rfl rfl rfl rfl (c_X9_unfold (d := d + 4) h_a) (fun _ => trivial) (fun _ => rfl) (fun v20 => ?_)
        refine ev_st (pc' := 261) (L' := [xS 300, xR a, xR b, xI y3]) (st' := [xR b, xI v20.1]) (fun _ _ _ k => e_aload_n dL_law_260 rfl (i := 2) (x := b) rfl k) ?_
        refine ev_callV (As := []) (st := [xI v20.1]) (fun v21 => [xI v21.1, xI v20.1]) dL_law_261 mlL_27 (kd10_0 h_b) rfl rfl rfl rfl rfl rfl (c_X10_unfold (d := d + 7) h_b) (fun _ => trivial) (fun _ => rfl) (fun v21 => ?_)
        refine ev_br2 (P := v20.1 = v21.1) (pct := 1214) (pcf := 267) (st' := []) (fun _ _ _ kt kf => e_ceq dL_law_264 (tgt := 1214) rfl kt kf) (fun h22 => ?_) (fun h22 => ?_)
        · refine ev_letx (fun x23 ex23 => ?_)
          refine ev_st (pc' := 1217) (L' := [xS 300, xR a, xR b, xI x23]) (st' := []) (fun _ _ _ k => e_iinc dL_law_1214 (i := 3) rfl (x := y3) rfl (y := x23) ex23 (L' := [xS 300, xR a, xR b, xI x23]) rfl k) ?_
          refine ev_st (pc' := 18) (L' := [xS 300, xR a, xR b, xI x23]) (st' := []) (fun _ _ _ k => e_goto dL_law_1217 (tgt := 18) rfl k) ?_
          exact ih x23 v21.2
        · exact ev_ret (e_iconst dL_law_267 (k4 rfl) (e_iret dL_law_268))
      refine ev_ite (P := (b4and (xs (y3).toNat) 63) = 3) (fun h24 => ?_) (fun h24 => ?_)
      · refine ev_st (pc' := 269) (L' := [xS 300, xR a, xR b, xI y3]) (st' := []) (fun _ _ _ k => e_tin dL_law_33 (tgt := 269) (off := 236) (by omega) (by omega) (by rw [h24]; rfl) rfl k) ?_
        refine ev_st (pc' := 274) (L' := [xS 300, xR a, xR b, xI y3]) (st' := [xI (w4 (y3 + 1)), xS 300, xR a]) (fun _ _ _ k => e_aload_n dL_law_269 rfl (i := 1) (x := a) rfl (e_aload_nS dL_law_270 rfl (i := 0) (x := 300) rfl rfl (e_iload_n dL_law_271 rfl (i := 3) (x := y3) rfl (e_iconst dL_law_272 (k4 rfl) (e_iadd dL_law_273 k))))) ?_
        refine ev_chk (fun h25 => ?_)
        refine ev_st (pc' := 275) (L' := [xS 300, xR a, xR b, xI y3]) (st' := [xI (xs ((w4 (y3 + 1))).toNat), xR a]) (fun _ _ _ k => e_xld dL_law_274 h_xs h_xn h25 k) ?_
        refine ev_callV (As := [xI (xs ((w4 (y3 + 1))).toNat)]) (st := []) (fun v26 => [xI v26.1]) dL_law_275 mlL_28 (kd9_0 h_a) rfl rfl rfl rfl rfl rfl (c_X9_setSpine (d := d + 4) h_a (xs ((w4 (y3 + 1))).toNat)) (fun _ => trivial) (fun _ => rfl) (fun v26 => ?_)
        refine ev_st (pc' := 283) (L' := [xS 300, xR a, xR b, xI y3]) (st' := [xI (w4 (y3 + 1)), xS 300, xR b, xI v26.1]) (fun _ _ _ k => e_aload_n dL_law_278 rfl (i := 2) (x := b) rfl (e_aload_nS dL_law_279 rfl (i := 0) (x := 300) rfl rfl (e_iload_n dL_law_280 rfl (i := 3) (x := y3) rfl (e_iconst dL_law_281 (k4 rfl) (e_iadd dL_law_282 k))))) ?_
        refine ev_chk (fun h27 => ?_)
        refine ev_st (pc' := 284) (L' := [xS 300, xR a, xR b, xI y3]) (st' := [xI (xs ((w4 (y3 + 1))).toNat), xR b, xI v26.1]) (fun _ _ _ k => e_xld dL_law_283 h_xs h_xn h27 k) ?_
        refine ev_callV (As := [xI (xs ((w4 (y3 + 1))).toNat)]) (st := [xI v26.1]) (fun v28 => [xI v28.1, xI v26.1]) dL_law_284 mlL_31 (kd10_0 h_b) rfl rfl rfl rfl rfl rfl (c_X10_setSpine (d := d + 7) h_b (xs ((w4 (y3 + 1))).toNat)) (fun _ => trivial) (fun _ => rfl) (fun v28 => ?_)
        refine ev_br2 (P := v26.1 = v28.1) (pct := 1214) (pcf := 290) (st' := []) (fun _ _ _ kt kf => e_ceq dL_law_287 (tgt := 1214) rfl kt kf) (fun h29 => ?_) (fun h29 => ?_)
        · refine ev_letx (fun x30 ex30 => ?_)
          refine ev_st (pc' := 1217) (L' := [xS 300, xR a, xR b, xI x30]) (st' := []) (fun _ _ _ k => e_iinc dL_law_1214 (i := 3) rfl (x := y3) rfl (y := x30) ex30 (L' := [xS 300, xR a, xR b, xI x30]) rfl k) ?_
          refine ev_st (pc' := 18) (L' := [xS 300, xR a, xR b, xI x30]) (st' := []) (fun _ _ _ k => e_goto dL_law_1217 (tgt := 18) rfl k) ?_
          exact ih x30 v28.2
        · exact ev_ret (e_iconst dL_law_290 (k4 rfl) (e_iret dL_law_291))
      refine ev_ite (P := (b4and (xs (y3).toNat) 63) = 4) (fun h31 => ?_) (fun h31 => ?_)
      · refine ev_st (pc' := 292) (L' := [xS 300, xR a, xR b, xI y3]) (st' := []) (fun _ _ _ k => e_tin dL_law_33 (tgt := 292) (off := 259) (by omega) (by omega) (by rw [h31]; rfl) rfl k) ?_
        refine ev_st (pc' := 297) (L' := [xS 300, xR a, xR b, xI y3]) (st' := [xI (w4 (y3 + 1)), xS 300, xR a]) (fun _ _ _ k => e_aload_n dL_law_292 rfl (i := 1) (x := a) rfl (e_aload_nS dL_law_293 rfl (i := 0) (x := 300) rfl rfl (e_iload_n dL_law_294 rfl (i := 3) (x := y3) rfl (e_iconst dL_law_295 (k4 rfl) (e_iadd dL_law_296 k))))) ?_
        refine ev_chk (fun h32 => ?_)
        refine ev_st (pc' := 298) (L' := [xS 300, xR a, xR b, xI y3]) (st' := [xI (xs ((w4 (y3 + 1))).toNat), xR a]) (fun _ _ _ k => e_xld dL_law_297 h_xs h_xn h32 k) ?_
        refine ev_st (pc' := 302) (L' := [xS 300, xR a, xR b, xI y3]) (st' := [xI (w4 (y3 + 2)), xS 300, xI (xs ((w4 (y3 + 1))).toNat), xR a]) (fun _ _ _ k => e_aload_nS dL_law_298 rfl (i := 0) (x := 300) rfl rfl (e_iload_n dL_law_299 rfl (i := 3) (x := y3) rfl (e_iconst dL_law_300 (k4 rfl) (e_iadd dL_law_301 k)))) ?_
        refine ev_chk (fun h33 => ?_)
        refine ev_st (pc' := 303) (L' := [xS 300, xR a, xR b, xI y3]) (st' := [xI (xs ((w4 (y3 + 2))).toNat), xI (xs ((w4 (y3 + 1))).toNat), xR a]) (fun _ _ _ k => e_xld dL_law_302 h_xs h_xn h33 k) ?_
        refine ev_st (pc' := 307) (L' := [xS 300, xR a, xR b, xI y3]) (st' := [xI (w4 (y3 + 3)), xS 300, xI (xs ((w4 (y3 + 2))).toNat), xI (xs ((w4 (y3 + 1))).toNat), xR a]) (fun _ _ _ k => e_aload_nS dL_law_303 rfl (i := 0) (x := 300) rfl rfl (e_iload_n dL_law_304 rfl (i := 3) (x := y3) rfl (e_iconst dL_law_305 (k4 rfl) (e_iadd dL_law_306 k)))) ?_
        refine ev_chk (fun h34 => ?_)
        refine ev_st (pc' := 308) (L' := [xS 300, xR a, xR b, xI y3]) (st' := [xI (xs ((w4 (y3 + 3))).toNat), xI (xs ((w4 (y3 + 2))).toNat), xI (xs ((w4 (y3 + 1))).toNat), xR a]) (fun _ _ _ k => e_xld dL_law_307 h_xs h_xn h34 k) ?_
        refine ev_st (pc' := 312) (L' := [xS 300, xR a, xR b, xI y3]) (st' := [xI (w4 (y3 + 4)), xS 300, xI (xs ((w4 (y3 + 3))).toNat), xI (xs ((w4 (y3 + 2))).toNat), xI (xs ((w4 (y3 + 1))).toNat), xR a]) (fun _ _ _ k => e_aload_nS dL_law_308 rfl (i := 0) (x := 300) rfl rfl (e_iload_n dL_law_309 rfl (i := 3) (x := y3) rfl (e_iconst dL_law_310 (k4 rfl) (e_iadd dL_law_311 k)))) ?_
        refine ev_chk (fun h35 => ?_)
        refine ev_st (pc' := 313) (L' := [xS 300, xR a, xR b, xI y3]) (st' := [xI (xs ((w4 (y3 + 4))).toNat), xI (xs ((w4 (y3 + 3))).toNat), xI (xs ((w4 (y3 + 2))).toNat), xI (xs ((w4 (y3 + 1))).toNat), xR a]) (fun _ _ _ k => e_xld dL_law_312 h_xs h_xn h35 k) ?_
        refine ev_st (pc' := 317) (L' := [xS 300, xR a, xR b, xI y3]) (st' := [xI (w4 (y3 + 5)), xS 300, xI (xs ((w4 (y3 + 4))).toNat), xI (xs ((w4 (y3 + 3))).toNat), xI (xs ((w4 (y3 + 2))).toNat), xI (xs ((w4 (y3 + 1))).toNat), xR a]) (fun _ _ _ k => e_aload_nS dL_law_313 rfl (i := 0) (x := 300) rfl rfl (e_iload_n dL_law_314 rfl (i := 3) (x := y3) rfl (e_iconst dL_law_315 (k4 rfl) (e_iadd dL_law_316 k)))) ?_
        refine ev_chk (fun h36 => ?_)
        refine ev_st (pc' := 318) (L' := [xS 300, xR a, xR b, xI y3]) (st' := [xI (xs ((w4 (y3 + 5))).toNat), xI (xs ((w4 (y3 + 4))).toNat), xI (xs ((w4 (y3 + 3))).toNat), xI (xs ((w4 (y3 + 2))).toNat), xI (xs ((w4 (y3 + 1))).toNat), xR a]) (fun _ _ _ k => e_xld dL_law_317 h_xs h_xn h36 k) ?_
        refine ev_callV (As := [xI (xs ((w4 (y3 + 1))).toNat), xI (xs ((w4 (y3 + 2))).toNat), xI (xs ((w4 (y3 + 3))).toNat), xI (xs ((w4 (y3 + 4))).toNat), xI (xs ((w4 (y3 + 5))).toNat)]) (st := []) (fun v37 => [xI v37.1]) dL_law_318 mlL_32 (kd9_0 h_a) rfl rfl rfl rfl rfl rfl (c_X9_print (d := d + 4) h_a (xs ((w4 (y3 + 1))).toNat) (xs ((w4 (y3 + 2))).toNat) (xs ((w4 (y3 + 3))).toNat) (xs ((w4 (y3 + 4))).toNat) (xs ((w4 (y3 + 5))).toNat)) (fun _ => trivial) (fun _ => rfl) (fun v37 => ?_)
        refine ev_st (pc' := 326) (L' := [xS 300, xR a, xR b, xI y3]) (st' := [xI (w4 (y3 + 1)), xS 300, xR b, xI v37.1]) (fun _ _ _ k => e_aload_n dL_law_321 rfl (i := 2) (x := b) rfl (e_aload_nS dL_law_322 rfl (i := 0) (x := 300) rfl rfl (e_iload_n dL_law_323 rfl (i := 3) (x := y3) rfl (e_iconst dL_law_324 (k4 rfl) (e_iadd dL_law_325 k))))) ?_
        refine ev_chk (fun h38 => ?_)
        refine ev_st (pc' := 327) (L' := [xS 300, xR a, xR b, xI y3]) (st' := [xI (xs ((w4 (y3 + 1))).toNat), xR b, xI v37.1]) (fun _ _ _ k => e_xld dL_law_326 h_xs h_xn h38 k) ?_
        refine ev_st (pc' := 331) (L' := [xS 300, xR a, xR b, xI y3]) (st' := [xI (w4 (y3 + 2)), xS 300, xI (xs ((w4 (y3 + 1))).toNat), xR b, xI v37.1]) (fun _ _ _ k => e_aload_nS dL_law_327 rfl (i := 0) (x := 300) rfl rfl (e_iload_n dL_law_328 rfl (i := 3) (x := y3) rfl (e_iconst dL_law_329 (k4 rfl) (e_iadd dL_law_330 k)))) ?_
        refine ev_chk (fun h39 => ?_)
        refine ev_st (pc' := 332) (L' := [xS 300, xR a, xR b, xI y3]) (st' := [xI (xs ((w4 (y3 + 2))).toNat), xI (xs ((w4 (y3 + 1))).toNat), xR b, xI v37.1]) (fun _ _ _ k => e_xld dL_law_331 h_xs h_xn h39 k) ?_
        refine ev_st (pc' := 336) (L' := [xS 300, xR a, xR b, xI y3]) (st' := [xI (w4 (y3 + 3)), xS 300, xI (xs ((w4 (y3 + 2))).toNat), xI (xs ((w4 (y3 + 1))).toNat), xR b, xI v37.1]) (fun _ _ _ k => e_aload_nS dL_law_332 rfl (i := 0) (x := 300) rfl rfl (e_iload_n dL_law_333 rfl (i := 3) (x := y3) rfl (e_iconst dL_law_334 (k4 rfl) (e_iadd dL_law_335 k)))) ?_
        refine ev_chk (fun h40 => ?_)
        refine ev_st (pc' := 337) (L' := [xS 300, xR a, xR b, xI y3]) (st' := [xI (xs ((w4 (y3 + 3))).toNat), xI (xs ((w4 (y3 + 2))).toNat), xI (xs ((w4 (y3 + 1))).toNat), xR b, xI v37.1]) (fun _ _ _ k => e_xld dL_law_336 h_xs h_xn h40 k) ?_
        refine ev_st (pc' := 341) (L' := [xS 300, xR a, xR b, xI y3]) (st' := [xI (w4 (y3 + 4)), xS 300, xI (xs ((w4 (y3 + 3))).toNat), xI (xs ((w4 (y3 + 2))).toNat), xI (xs ((w4 (y3 + 1))).toNat), xR b, xI v37.1]) (fun _ _ _ k => e_aload_nS dL_law_337 rfl (i := 0) (x := 300) rfl rfl (e_iload_n dL_law_338 rfl (i := 3) (x := y3) rfl (e_iconst dL_law_339 (k4 rfl) (e_iadd dL_law_340 k)))) ?_
        refine ev_chk (fun h41 => ?_)
        refine ev_st (pc' := 342) (L' := [xS 300, xR a, xR b, xI y3]) (st' := [xI (xs ((w4 (y3 + 4))).toNat), xI (xs ((w4 (y3 + 3))).toNat), xI (xs ((w4 (y3 + 2))).toNat), xI (xs ((w4 (y3 + 1))).toNat), xR b, xI v37.1]) (fun _ _ _ k => e_xld dL_law_341 h_xs h_xn h41 k) ?_
        refine ev_st (pc' := 346) (L' := [xS 300, xR a, xR b, xI y3]) (st' := [xI (w4 (y3 + 5)), xS 300, xI (xs ((w4 (y3 + 4))).toNat), xI (xs ((w4 (y3 + 3))).toNat), xI (xs ((w4 (y3 + 2))).toNat), xI (xs ((w4 (y3 + 1))).toNat), xR b, xI v37.1]) (fun _ _ _ k => e_aload_nS dL_law_342 rfl (i := 0) (x := 300) rfl rfl (e_iload_n dL_law_343 rfl (i := 3) (x := y3) rfl (e_iconst dL_law_344 (k4 rfl) (e_iadd dL_law_345 k)))) ?_
        refine ev_chk (fun h42 => ?_)
        refine ev_st (pc' := 347) (L' := [xS 300, xR a, xR b, xI y3]) (st' := [xI (xs ((w4 (y3 + 5))).toNat), xI (xs ((w4 (y3 + 4))).toNat), xI (xs ((w4 (y3 + 3))).toNat), xI (xs ((w4 (y3 + 2))).toNat), xI (xs ((w4 (y3 + 1))).toNat), xR b, xI v37.1]) (fun _ _ _ k => e_xld dL_law_346 h_xs h_xn h42 k) ?_
        refine ev_callV (As := [xI (xs ((w4 (y3 + 1))).toNat), xI (xs ((w4 (y3 + 2))).toNat), xI (xs ((w4 (y3 + 3))).toNat), xI (xs ((w4 (y3 + 4))).toNat), xI (xs ((w4 (y3 + 5))).toNat)]) (st := [xI v37.1]) (fun v43 => [xI v43.1, xI v37.1]) dL_law_347 mlL_36 (kd10_0 h_b) rfl rfl rfl rfl rfl rfl (c_X10_print (d := d + 7) h_b (xs ((w4 (y3 + 1))).toNat) (xs ((w4 (y3 + 2))).toNat) (xs ((w4 (y3 + 3))).toNat) (xs ((w4 (y3 + 4))).toNat) (xs ((w4 (y3 + 5))).toNat)) (fun _ => trivial) (fun _ => rfl) (fun v43 => ?_)
        refine ev_br2 (P := v37.1 = v43.1) (pct := 1214) (pcf := 353) (st' := []) (fun _ _ _ kt kf => e_ceq dL_law_350 (tgt := 1214) rfl kt kf) (fun h44 => ?_) (fun h44 => ?_)
        · refine ev_letx (fun x45 ex45 => ?_)
          refine ev_st (pc' := 1217) (L' := [xS 300, xR a, xR b, xI x45]) (st' := []) (fun _ _ _ k => e_iinc dL_law_1214 (i := 3) rfl (x := y3) rfl (y := x45) ex45 (L' := [xS 300, xR a, xR b, xI x45]) rfl k) ?_
          refine ev_st (pc' := 18) (L' := [xS 300, xR a, xR b, xI x45]) (st' := []) (fun _ _ _ k => e_goto dL_law_1217 (tgt := 18) rfl k) ?_
          exact ih x45 v43.2
        · exact ev_ret (e_iconst dL_law_353 (k4 rfl) (e_iret dL_law_354))
      refine ev_ite (P := (b4and (xs (y3).toNat) 63) = 5) (fun h46 => ?_) (fun h46 => ?_)
      · refine ev_st (pc' := 355) (L' := [xS 300, xR a, xR b, xI y3]) (st' := []) (fun _ _ _ k => e_tin dL_law_33 (tgt := 355) (off := 322) (by omega) (by omega) (by rw [h46]; rfl) rfl k) ?_
        refine ev_st (pc' := 360) (L' := [xS 300, xR a, xR b, xI y3]) (st' := [xI (w4 (y3 + 1)), xS 300, xR a]) (fun _ _ _ k => e_aload_n dL_law_355 rfl (i := 1) (x := a) rfl (e_aload_nS dL_law_356 rfl (i := 0) (x := 300) rfl rfl (e_iload_n dL_law_357 rfl (i := 3) (x := y3) rfl (e_iconst dL_law_358 (k4 rfl) (e_iadd dL_law_359 k))))) ?_
        refine ev_chk (fun h47 => ?_)
        refine ev_st (pc' := 361) (L' := [xS 300, xR a, xR b, xI y3]) (st' := [xI (xs ((w4 (y3 + 1))).toNat), xR a]) (fun _ _ _ k => e_xld dL_law_360 h_xs h_xn h47 k) ?_
        refine ev_callV (As := [xI (xs ((w4 (y3 + 1))).toNat)]) (st := []) (fun v48 => [xI v48.1]) dL_law_361 mlL_37 (kd9_0 h_a) rfl rfl rfl rfl rfl rfl (c_X9_printAll (d := d + 4) h_a (xs ((w4 (y3 + 1))).toNat)) (fun _ => trivial) (fun _ => rfl) (fun v48 => ?_)
        refine ev_st (pc' := 369) (L' := [xS 300, xR a, xR b, xI y3]) (st' := [xI (w4 (y3 + 1)), xS 300, xR b, xI v48.1]) (fun _ _ _ k => e_aload_n dL_law_364 rfl (i := 2) (x := b) rfl (e_aload_nS dL_law_365 rfl (i := 0) (x := 300) rfl rfl (e_iload_n dL_law_366 rfl (i := 3) (x := y3) rfl (e_iconst dL_law_367 (k4 rfl) (e_iadd dL_law_368 k))))) ?_
        refine ev_chk (fun h49 => ?_)
        refine ev_st (pc' := 370) (L' := [xS 300, xR a, xR b, xI y3]) (st' := [xI (xs ((w4 (y3 + 1))).toNat), xR b, xI v48.1]) (fun _ _ _ k => e_xld dL_law_369 h_xs h_xn h49 k) ?_
        refine ev_callV (As := [xI (xs ((w4 (y3 + 1))).toNat)]) (st := [xI v48.1]) (fun v50 => [xI v50.1, xI v48.1]) dL_law_370 mlL_40 (kd10_0 h_b) rfl rfl rfl rfl rfl rfl (c_X10_printAll (d := d + 6) h_b (xs ((w4 (y3 + 1))).toNat)) (fun _ => trivial) (fun _ => rfl) (fun v50 => ?_)
        refine ev_br2 (P := v48.1 = v50.1) (pct := 1214) (pcf := 376) (st' := []) (fun _ _ _ kt kf => e_ceq dL_law_373 (tgt := 1214) rfl kt kf) (fun h51 => ?_) (fun h51 => ?_)
        · refine ev_letx (fun x52 ex52 => ?_)
          refine ev_st (pc' := 1217) (L' := [xS 300, xR a, xR b, xI x52]) (st' := []) (fun _ _ _ k => e_iinc dL_law_1214 (i := 3) rfl (x := y3) rfl (y := x52) ex52 (L' := [xS 300, xR a, xR b, xI x52]) rfl k) ?_
          refine ev_st (pc' := 18) (L' := [xS 300, xR a, xR b, xI x52]) (st' := []) (fun _ _ _ k => e_goto dL_law_1217 (tgt := 18) rfl k) ?_
          exact ih x52 v50.2
        · exact ev_ret (e_iconst dL_law_376 (k4 rfl) (e_iret dL_law_377))
      refine ev_ite (P := (b4and (xs (y3).toNat) 63) = 6) (fun h53 => ?_) (fun h53 => ?_)
      · refine ev_st (pc' := 378) (L' := [xS 300, xR a, xR b, xI y3]) (st' := []) (fun _ _ _ k => e_tin dL_law_33 (tgt := 378) (off := 345) (by omega) (by omega) (by rw [h53]; rfl) rfl k) ?_
        refine ev_st (pc' := 383) (L' := [xS 300, xR a, xR b, xI y3]) (st' := [xI (w4 (y3 + 1)), xS 300, xR a]) (fun _ _ _ k => e_aload_n dL_law_378 rfl (i := 1) (x := a) rfl (e_aload_nS dL_law_379 rfl (i := 0) (x := 300) rfl rfl (e_iload_n dL_law_380 rfl (i := 3) (x := y3) rfl (e_iconst dL_law_381 (k4 rfl) (e_iadd dL_law_382 k))))) ?_
        refine ev_chk (fun h54 => ?_)
        refine ev_st (pc' := 384) (L' := [xS 300, xR a, xR b, xI y3]) (st' := [xI (xs ((w4 (y3 + 1))).toNat), xR a]) (fun _ _ _ k => e_xld dL_law_383 h_xs h_xn h54 k) ?_
        refine ev_callV (As := [xI (xs ((w4 (y3 + 1))).toNat)]) (st := []) (fun v55 => [xI v55.1]) dL_law_384 mlL_41 (kd9_0 h_a) rfl rfl rfl rfl rfl rfl (c_X9_cut (d := d + 4) h_a (xs ((w4 (y3 + 1))).toNat)) (fun _ => trivial) (fun _ => rfl) (fun v55 => ?_)
        refine ev_st (pc' := 392) (L' := [xS 300, xR a, xR b, xI y3]) (st' := [xI (w4 (y3 + 1)), xS 300, xR b, xI v55.1]) (fun _ _ _ k => e_aload_n dL_law_387 rfl (i := 2) (x := b) rfl (e_aload_nS dL_law_388 rfl (i := 0) (x := 300) rfl rfl (e_iload_n dL_law_389 rfl (i := 3) (x := y3) rfl (e_iconst dL_law_390 (k4 rfl) (e_iadd dL_law_391 k))))) ?_
        refine ev_chk (fun h56 => ?_)
        refine ev_st (pc' := 393) (L' := [xS 300, xR a, xR b, xI y3]) (st' := [xI (xs ((w4 (y3 + 1))).toNat), xR b, xI v55.1]) (fun _ _ _ k => e_xld dL_law_392 h_xs h_xn h56 k) ?_
        refine ev_callV (As := [xI (xs ((w4 (y3 + 1))).toNat)]) (st := [xI v55.1]) (fun v57 => [xI v57.1, xI v55.1]) dL_law_393 mlL_44 (kd10_0 h_b) rfl rfl rfl rfl rfl rfl (c_X10_cut (d := d + 5) h_b (xs ((w4 (y3 + 1))).toNat)) (fun _ => trivial) (fun _ => rfl) (fun v57 => ?_)
        refine ev_br2 (P := v55.1 = v57.1) (pct := 1214) (pcf := 399) (st' := []) (fun _ _ _ kt kf => e_ceq dL_law_396 (tgt := 1214) rfl kt kf) (fun h58 => ?_) (fun h58 => ?_)
        · refine ev_letx (fun x59 ex59 => ?_)
          refine ev_st (pc' := 1217) (L' := [xS 300, xR a, xR b, xI x59]) (st' := []) (fun _ _ _ k => e_iinc dL_law_1214 (i := 3) rfl (x := y3) rfl (y := x59) ex59 (L' := [xS 300, xR a, xR b, xI x59]) rfl k) ?_
          refine ev_st (pc' := 18) (L' := [xS 300, xR a, xR b, xI x59]) (st' := []) (fun _ _ _ k => e_goto dL_law_1217 (tgt := 18) rfl k) ?_
          exact ih x59 v57.2
        · exact ev_ret (e_iconst dL_law_399 (k4 rfl) (e_iret dL_law_400))
      refine ev_ite (P := (b4and (xs (y3).toNat) 63) = 7) (fun h60 => ?_) (fun h60 => ?_)
      · refine ev_st (pc' := 401) (L' := [xS 300, xR a, xR b, xI y3]) (st' := []) (fun _ _ _ k => e_tin dL_law_33 (tgt := 401) (off := 368) (by omega) (by omega) (by rw [h60]; rfl) rfl k) ?_
        refine ev_st (pc' := 406) (L' := [xS 300, xR a, xR b, xI y3]) (st' := [xI (w4 (y3 + 1)), xS 300, xR a]) (fun _ _ _ k => e_aload_n dL_law_401 rfl (i := 1) (x := a) rfl (e_aload_nS dL_law_402 rfl (i := 0) (x := 300) rfl rfl (e_iload_n dL_law_403 rfl (i := 3) (x := y3) rfl (e_iconst dL_law_404 (k4 rfl) (e_iadd dL_law_405 k))))) ?_
        refine ev_chk (fun h61 => ?_)
        refine ev_st (pc' := 407) (L' := [xS 300, xR a, xR b, xI y3]) (st' := [xI (xs ((w4 (y3 + 1))).toNat), xR a]) (fun _ _ _ k => e_xld dL_law_406 h_xs h_xn h61 k) ?_
        refine ev_callV (As := [xI (xs ((w4 (y3 + 1))).toNat)]) (st := []) (fun v62 => [xI v62.1]) dL_law_407 mlL_45 (kd9_0 h_a) rfl rfl rfl rfl rfl rfl (c_X9_staple (d := d + 4) h_a (xs ((w4 (y3 + 1))).toNat)) (fun _ => trivial) (fun _ => rfl) (fun v62 => ?_)
        refine ev_st (pc' := 415) (L' := [xS 300, xR a, xR b, xI y3]) (st' := [xI (w4 (y3 + 1)), xS 300, xR b, xI v62.1]) (fun _ _ _ k => e_aload_n dL_law_410 rfl (i := 2) (x := b) rfl (e_aload_nS dL_law_411 rfl (i := 0) (x := 300) rfl rfl (e_iload_n dL_law_412 rfl (i := 3) (x := y3) rfl (e_iconst dL_law_413 (k4 rfl) (e_iadd dL_law_414 k))))) ?_
        refine ev_chk (fun h63 => ?_)
        refine ev_st (pc' := 416) (L' := [xS 300, xR a, xR b, xI y3]) (st' := [xI (xs ((w4 (y3 + 1))).toNat), xR b, xI v62.1]) (fun _ _ _ k => e_xld dL_law_415 h_xs h_xn h63 k) ?_
        refine ev_callV (As := [xI (xs ((w4 (y3 + 1))).toNat)]) (st := [xI v62.1]) (fun v64 => [xI v64.1, xI v62.1]) dL_law_416 mlL_48 (kd10_0 h_b) rfl rfl rfl rfl rfl rfl (c_X10_staple (d := d + 5) h_b (xs ((w4 (y3 + 1))).toNat)) (fun _ => trivial) (fun _ => rfl) (fun v64 => ?_)
        refine ev_br2 (P := v62.1 = v64.1) (pct := 1214) (pcf := 422) (st' := []) (fun _ _ _ kt kf => e_ceq dL_law_419 (tgt := 1214) rfl kt kf) (fun h65 => ?_) (fun h65 => ?_)
        · refine ev_letx (fun x66 ex66 => ?_)
          refine ev_st (pc' := 1217) (L' := [xS 300, xR a, xR b, xI x66]) (st' := []) (fun _ _ _ k => e_iinc dL_law_1214 (i := 3) rfl (x := y3) rfl (y := x66) ex66 (L' := [xS 300, xR a, xR b, xI x66]) rfl k) ?_
          refine ev_st (pc' := 18) (L' := [xS 300, xR a, xR b, xI x66]) (st' := []) (fun _ _ _ k => e_goto dL_law_1217 (tgt := 18) rfl k) ?_
          exact ih x66 v64.2
        · exact ev_ret (e_iconst dL_law_422 (k4 rfl) (e_iret dL_law_423))
      refine ev_ite (P := (b4and (xs (y3).toNat) 63) = 8) (fun h67 => ?_) (fun h67 => ?_)
      · refine ev_st (pc' := 424) (L' := [xS 300, xR a, xR b, xI y3]) (st' := []) (fun _ _ _ k => e_tin dL_law_33 (tgt := 424) (off := 391) (by omega) (by omega) (by rw [h67]; rfl) rfl k) ?_
        refine ev_st (pc' := 429) (L' := [xS 300, xR a, xR b, xI y3]) (st' := [xI (w4 (y3 + 1)), xS 300, xR a]) (fun _ _ _ k => e_aload_n dL_law_424 rfl (i := 1) (x := a) rfl (e_aload_nS dL_law_425 rfl (i := 0) (x := 300) rfl rfl (e_iload_n dL_law_426 rfl (i := 3) (x := y3) rfl (e_iconst dL_law_427 (k4 rfl) (e_iadd dL_law_428 k))))) ?_
        refine ev_chk (fun h68 => ?_)
        refine ev_st (pc' := 430) (L' := [xS 300, xR a, xR b, xI y3]) (st' := [xI (xs ((w4 (y3 + 1))).toNat), xR a]) (fun _ _ _ k => e_xld dL_law_429 h_xs h_xn h68 k) ?_
        refine ev_callV (As := [xI (xs ((w4 (y3 + 1))).toNat)]) (st := []) (fun v69 => [xI v69.1]) dL_law_430 mlL_49 (kd9_0 h_a) rfl rfl rfl rfl rfl rfl (c_X9_unstaple (d := d + 4) h_a (xs ((w4 (y3 + 1))).toNat)) (fun _ => trivial) (fun _ => rfl) (fun v69 => ?_)
        refine ev_st (pc' := 438) (L' := [xS 300, xR a, xR b, xI y3]) (st' := [xI (w4 (y3 + 1)), xS 300, xR b, xI v69.1]) (fun _ _ _ k => e_aload_n dL_law_433 rfl (i := 2) (x := b) rfl (e_aload_nS dL_law_434 rfl (i := 0) (x := 300) rfl rfl (e_iload_n dL_law_435 rfl (i := 3) (x := y3) rfl (e_iconst dL_law_436 (k4 rfl) (e_iadd dL_law_437 k))))) ?_
        refine ev_chk (fun h70 => ?_)
        refine ev_st (pc' := 439) (L' := [xS 300, xR a, xR b, xI y3]) (st' := [xI (xs ((w4 (y3 + 1))).toNat), xR b, xI v69.1]) (fun _ _ _ k => e_xld dL_law_438 h_xs h_xn h70 k) ?_
        refine ev_callV (As := [xI (xs ((w4 (y3 + 1))).toNat)]) (st := [xI v69.1]) (fun v71 => [xI v71.1, xI v69.1]) dL_law_439 mlL_52 (kd10_0 h_b) rfl rfl rfl rfl rfl rfl (c_X10_unstaple (d := d + 7) h_b (xs ((w4 (y3 + 1))).toNat)) (fun _ => trivial) (fun _ => rfl) (fun v71 => ?_)
        refine ev_br2 (P := v69.1 = v71.1) (pct := 1214) (pcf := 445) (st' := []) (fun _ _ _ kt kf => e_ceq dL_law_442 (tgt := 1214) rfl kt kf) (fun h72 => ?_) (fun h72 => ?_)
        · refine ev_letx (fun x73 ex73 => ?_)
          refine ev_st (pc' := 1217) (L' := [xS 300, xR a, xR b, xI x73]) (st' := []) (fun _ _ _ k => e_iinc dL_law_1214 (i := 3) rfl (x := y3) rfl (y := x73) ex73 (L' := [xS 300, xR a, xR b, xI x73]) rfl k) ?_
          refine ev_st (pc' := 18) (L' := [xS 300, xR a, xR b, xI x73]) (st' := []) (fun _ _ _ k => e_goto dL_law_1217 (tgt := 18) rfl k) ?_
          exact ih x73 v71.2
        · exact ev_ret (e_iconst dL_law_445 (k4 rfl) (e_iret dL_law_446))
      refine ev_ite (P := (b4and (xs (y3).toNat) 63) = 9) (fun h74 => ?_) (fun h74 => ?_)
      · refine ev_st (pc' := 447) (L' := [xS 300, xR a, xR b, xI y3]) (st' := []) (fun _ _ _ k => e_tin dL_law_33 (tgt := 447) (off := 414) (by omega) (by omega) (by rw [h74]; rfl) rfl k) ?_
        refine ev_st (pc' := 452) (L' := [xS 300, xR a, xR b, xI y3]) (st' := [xI (w4 (y3 + 1)), xS 300, xR a]) (fun _ _ _ k => e_aload_n dL_law_447 rfl (i := 1) (x := a) rfl (e_aload_nS dL_law_448 rfl (i := 0) (x := 300) rfl rfl (e_iload_n dL_law_449 rfl (i := 3) (x := y3) rfl (e_iconst dL_law_450 (k4 rfl) (e_iadd dL_law_451 k))))) ?_
        refine ev_chk (fun h75 => ?_)
        refine ev_st (pc' := 453) (L' := [xS 300, xR a, xR b, xI y3]) (st' := [xI (xs ((w4 (y3 + 1))).toNat), xR a]) (fun _ _ _ k => e_xld dL_law_452 h_xs h_xn h75 k) ?_
        refine ev_callV (As := [xI (xs ((w4 (y3 + 1))).toNat)]) (st := []) (fun v76 => [xI v76.1]) dL_law_453 mlL_53 (kd9_0 h_a) rfl rfl rfl rfl rfl rfl (c_X9_setLegs (d := d + 4) h_a (xs ((w4 (y3 + 1))).toNat)) (fun _ => trivial) (fun _ => rfl) (fun v76 => ?_)
        refine ev_st (pc' := 461) (L' := [xS 300, xR a, xR b, xI y3]) (st' := [xI (w4 (y3 + 1)), xS 300, xR b, xI v76.1]) (fun _ _ _ k => e_aload_n dL_law_456 rfl (i := 2) (x := b) rfl (e_aload_nS dL_law_457 rfl (i := 0) (x := 300) rfl rfl (e_iload_n dL_law_458 rfl (i := 3) (x := y3) rfl (e_iconst dL_law_459 (k4 rfl) (e_iadd dL_law_460 k))))) ?_
        refine ev_chk (fun h77 => ?_)
        refine ev_st (pc' := 462) (L' := [xS 300, xR a, xR b, xI y3]) (st' := [xI (xs ((w4 (y3 + 1))).toNat), xR b, xI v76.1]) (fun _ _ _ k => e_xld dL_law_461 h_xs h_xn h77 k) ?_
        refine ev_callV (As := [xI (xs ((w4 (y3 + 1))).toNat)]) (st := [xI v76.1]) (fun v78 => [xI v78.1, xI v76.1]) dL_law_462 mlL_56 (kd10_0 h_b) rfl rfl rfl rfl rfl rfl (c_X10_setLegs (d := d + 7) h_b (xs ((w4 (y3 + 1))).toNat)) (fun _ => trivial) (fun _ => rfl) (fun v78 => ?_)
        refine ev_br2 (P := v76.1 = v78.1) (pct := 1214) (pcf := 468) (st' := []) (fun _ _ _ kt kf => e_ceq dL_law_465 (tgt := 1214) rfl kt kf) (fun h79 => ?_) (fun h79 => ?_)
        · refine ev_letx (fun x80 ex80 => ?_)
          refine ev_st (pc' := 1217) (L' := [xS 300, xR a, xR b, xI x80]) (st' := []) (fun _ _ _ k => e_iinc dL_law_1214 (i := 3) rfl (x := y3) rfl (y := x80) ex80 (L' := [xS 300, xR a, xR b, xI x80]) rfl k) ?_
          refine ev_st (pc' := 18) (L' := [xS 300, xR a, xR b, xI x80]) (st' := []) (fun _ _ _ k => e_goto dL_law_1217 (tgt := 18) rfl k) ?_
          exact ih x80 v78.2
        · exact ev_ret (e_iconst dL_law_468 (k4 rfl) (e_iret dL_law_469))
      refine ev_ite (P := (b4and (xs (y3).toNat) 63) = 10) (fun h81 => ?_) (fun h81 => ?_)
      · refine ev_st (pc' := 470) (L' := [xS 300, xR a, xR b, xI y3]) (st' := []) (fun _ _ _ k => e_tin dL_law_33 (tgt := 470) (off := 437) (by omega) (by omega) (by rw [h81]; rfl) rfl k) ?_
        refine ev_st (pc' := 475) (L' := [xS 300, xR a, xR b, xI y3]) (st' := [xI (w4 (y3 + 1)), xS 300, xR a]) (fun _ _ _ k => e_aload_n dL_law_470 rfl (i := 1) (x := a) rfl (e_aload_nS dL_law_471 rfl (i := 0) (x := 300) rfl rfl (e_iload_n dL_law_472 rfl (i := 3) (x := y3) rfl (e_iconst dL_law_473 (k4 rfl) (e_iadd dL_law_474 k))))) ?_
        refine ev_chk (fun h82 => ?_)
        refine ev_st (pc' := 476) (L' := [xS 300, xR a, xR b, xI y3]) (st' := [xI (xs ((w4 (y3 + 1))).toNat), xR a]) (fun _ _ _ k => e_xld dL_law_475 h_xs h_xn h82 k) ?_
        refine ev_st (pc' := 480) (L' := [xS 300, xR a, xR b, xI y3]) (st' := [xI (w4 (y3 + 2)), xS 300, xI (xs ((w4 (y3 + 1))).toNat), xR a]) (fun _ _ _ k => e_aload_nS dL_law_476 rfl (i := 0) (x := 300) rfl rfl (e_iload_n dL_law_477 rfl (i := 3) (x := y3) rfl (e_iconst dL_law_478 (k4 rfl) (e_iadd dL_law_479 k)))) ?_
        refine ev_chk (fun h83 => ?_)
        refine ev_st (pc' := 481) (L' := [xS 300, xR a, xR b, xI y3]) (st' := [xI (xs ((w4 (y3 + 2))).toNat), xI (xs ((w4 (y3 + 1))).toNat), xR a]) (fun _ _ _ k => e_xld dL_law_480 h_xs h_xn h83 k) ?_
        refine ev_st (pc' := 485) (L' := [xS 300, xR a, xR b, xI y3]) (st' := [xI (w4 (y3 + 3)), xS 300, xI (xs ((w4 (y3 + 2))).toNat), xI (xs ((w4 (y3 + 1))).toNat), xR a]) (fun _ _ _ k => e_aload_nS dL_law_481 rfl (i := 0) (x := 300) rfl rfl (e_iload_n dL_law_482 rfl (i := 3) (x := y3) rfl (e_iconst dL_law_483 (k4 rfl) (e_iadd dL_law_484 k)))) ?_
        refine ev_chk (fun h84 => ?_)
        refine ev_st (pc' := 486) (L' := [xS 300, xR a, xR b, xI y3]) (st' := [xI (xs ((w4 (y3 + 3))).toNat), xI (xs ((w4 (y3 + 2))).toNat), xI (xs ((w4 (y3 + 1))).toNat), xR a]) (fun _ _ _ k => e_xld dL_law_485 h_xs h_xn h84 k) ?_
        refine ev_callV (As := [xI (xs ((w4 (y3 + 1))).toNat), xI (xs ((w4 (y3 + 2))).toNat), xI (xs ((w4 (y3 + 3))).toNat)]) (st := []) (fun v85 => [xI v85.1]) dL_law_486 mlL_57 (kd9_0 h_a) rfl rfl rfl rfl rfl rfl (c_X9_see (d := d + 4) h_a (xs ((w4 (y3 + 1))).toNat) (xs ((w4 (y3 + 2))).toNat) (xs ((w4 (y3 + 3))).toNat)) (fun _ => trivial) (fun _ => rfl) (fun v85 => ?_)
        refine ev_st (pc' := 494) (L' := [xS 300, xR a, xR b, xI y3]) (st' := [xI (w4 (y3 + 1)), xS 300, xR b, xI v85.1]) (fun _ _ _ k => e_aload_n dL_law_489 rfl (i := 2) (x := b) rfl (e_aload_nS dL_law_490 rfl (i := 0) (x := 300) rfl rfl (e_iload_n dL_law_491 rfl (i := 3) (x := y3) rfl (e_iconst dL_law_492 (k4 rfl) (e_iadd dL_law_493 k))))) ?_
        refine ev_chk (fun h86 => ?_)
        refine ev_st (pc' := 495) (L' := [xS 300, xR a, xR b, xI y3]) (st' := [xI (xs ((w4 (y3 + 1))).toNat), xR b, xI v85.1]) (fun _ _ _ k => e_xld dL_law_494 h_xs h_xn h86 k) ?_
        refine ev_st (pc' := 499) (L' := [xS 300, xR a, xR b, xI y3]) (st' := [xI (w4 (y3 + 2)), xS 300, xI (xs ((w4 (y3 + 1))).toNat), xR b, xI v85.1]) (fun _ _ _ k => e_aload_nS dL_law_495 rfl (i := 0) (x := 300) rfl rfl (e_iload_n dL_law_496 rfl (i := 3) (x := y3) rfl (e_iconst dL_law_497 (k4 rfl) (e_iadd dL_law_498 k)))) ?_
        refine ev_chk (fun h87 => ?_)
        refine ev_st (pc' := 500) (L' := [xS 300, xR a, xR b, xI y3]) (st' := [xI (xs ((w4 (y3 + 2))).toNat), xI (xs ((w4 (y3 + 1))).toNat), xR b, xI v85.1]) (fun _ _ _ k => e_xld dL_law_499 h_xs h_xn h87 k) ?_
        refine ev_st (pc' := 504) (L' := [xS 300, xR a, xR b, xI y3]) (st' := [xI (w4 (y3 + 3)), xS 300, xI (xs ((w4 (y3 + 2))).toNat), xI (xs ((w4 (y3 + 1))).toNat), xR b, xI v85.1]) (fun _ _ _ k => e_aload_nS dL_law_500 rfl (i := 0) (x := 300) rfl rfl (e_iload_n dL_law_501 rfl (i := 3) (x := y3) rfl (e_iconst dL_law_502 (k4 rfl) (e_iadd dL_law_503 k)))) ?_
        refine ev_chk (fun h88 => ?_)
        refine ev_st (pc' := 505) (L' := [xS 300, xR a, xR b, xI y3]) (st' := [xI (xs ((w4 (y3 + 3))).toNat), xI (xs ((w4 (y3 + 2))).toNat), xI (xs ((w4 (y3 + 1))).toNat), xR b, xI v85.1]) (fun _ _ _ k => e_xld dL_law_504 h_xs h_xn h88 k) ?_
        refine ev_callV (As := [xI (xs ((w4 (y3 + 1))).toNat), xI (xs ((w4 (y3 + 2))).toNat), xI (xs ((w4 (y3 + 3))).toNat)]) (st := [xI v85.1]) (fun v89 => [xI v89.1, xI v85.1]) dL_law_505 mlL_61 (kd10_0 h_b) rfl rfl rfl rfl rfl rfl (c_X10_see (d := d + 7) h_b (xs ((w4 (y3 + 1))).toNat) (xs ((w4 (y3 + 2))).toNat) (xs ((w4 (y3 + 3))).toNat)) (fun _ => trivial) (fun _ => rfl) (fun v89 => ?_)
        refine ev_br2 (P := v85.1 = v89.1) (pct := 1214) (pcf := 511) (st' := []) (fun _ _ _ kt kf => e_ceq dL_law_508 (tgt := 1214) rfl kt kf) (fun h90 => ?_) (fun h90 => ?_)
        · refine ev_letx (fun x91 ex91 => ?_)
          refine ev_st (pc' := 1217) (L' := [xS 300, xR a, xR b, xI x91]) (st' := []) (fun _ _ _ k => e_iinc dL_law_1214 (i := 3) rfl (x := y3) rfl (y := x91) ex91 (L' := [xS 300, xR a, xR b, xI x91]) rfl k) ?_
          refine ev_st (pc' := 18) (L' := [xS 300, xR a, xR b, xI x91]) (st' := []) (fun _ _ _ k => e_goto dL_law_1217 (tgt := 18) rfl k) ?_
          exact ih x91 v89.2
        · exact ev_ret (e_iconst dL_law_511 (k4 rfl) (e_iret dL_law_512))
      refine ev_ite (P := (b4and (xs (y3).toNat) 63) = 11) (fun h92 => ?_) (fun h92 => ?_)
      · refine ev_st (pc' := 513) (L' := [xS 300, xR a, xR b, xI y3]) (st' := []) (fun _ _ _ k => e_tin dL_law_33 (tgt := 513) (off := 480) (by omega) (by omega) (by rw [h92]; rfl) rfl k) ?_
        refine ev_st (pc' := 514) (L' := [xS 300, xR a, xR b, xI y3]) (st' := [xR a]) (fun _ _ _ k => e_aload_n dL_law_513 rfl (i := 1) (x := a) rfl k) ?_
        refine ev_callV (As := []) (st := []) (fun v93 => [xI v93.1]) dL_law_514 mlL_62 (kd9_0 h_a) rfl rfl rfl rfl rfl rfl (c_X9_forget (d := d + 4) h_a) (fun _ => trivial) (fun _ => rfl) (fun v93 => ?_)
        refine ev_st (pc' := 518) (L' := [xS 300, xR a, xR b, xI y3]) (st' := [xR b, xI v93.1]) (fun _ _ _ k => e_aload_n dL_law_517 rfl (i := 2) (x := b) rfl k) ?_
        refine ev_callV (As := []) (st := [xI v93.1]) (fun v94 => [xI v94.1, xI v93.1]) dL_law_518 mlL_65 (kd10_0 h_b) rfl rfl rfl rfl rfl rfl (c_X10_forget (d := d + 7) h_b) (fun _ => trivial) (fun _ => rfl) (fun v94 => ?_)
        refine ev_br2 (P := v93.1 = v94.1) (pct := 1214) (pcf := 524) (st' := []) (fun _ _ _ kt kf => e_ceq dL_law_521 (tgt := 1214) rfl kt kf) (fun h95 => ?_) (fun h95 => ?_)
        · refine ev_letx (fun x96 ex96 => ?_)
          refine ev_st (pc' := 1217) (L' := [xS 300, xR a, xR b, xI x96]) (st' := []) (fun _ _ _ k => e_iinc dL_law_1214 (i := 3) rfl (x := y3) rfl (y := x96) ex96 (L' := [xS 300, xR a, xR b, xI x96]) rfl k) ?_
          refine ev_st (pc' := 18) (L' := [xS 300, xR a, xR b, xI x96]) (st' := []) (fun _ _ _ k => e_goto dL_law_1217 (tgt := 18) rfl k) ?_
          exact ih x96 v94.2
        · exact ev_ret (e_iconst dL_law_524 (k4 rfl) (e_iret dL_law_525))
      refine ev_ite (P := (b4and (xs (y3).toNat) 63) = 12) (fun h97 => ?_) (fun h97 => ?_)
      · refine ev_st (pc' := 526) (L' := [xS 300, xR a, xR b, xI y3]) (st' := []) (fun _ _ _ k => e_tin dL_law_33 (tgt := 526) (off := 493) (by omega) (by omega) (by rw [h97]; rfl) rfl k) ?_
        refine ev_st (pc' := 531) (L' := [xS 300, xR a, xR b, xI y3]) (st' := [xI (w4 (y3 + 1)), xS 300, xR a]) (fun _ _ _ k => e_aload_n dL_law_526 rfl (i := 1) (x := a) rfl (e_aload_nS dL_law_527 rfl (i := 0) (x := 300) rfl rfl (e_iload_n dL_law_528 rfl (i := 3) (x := y3) rfl (e_iconst dL_law_529 (k4 rfl) (e_iadd dL_law_530 k))))) ?_
        refine ev_chk (fun h98 => ?_)
        refine ev_st (pc' := 532) (L' := [xS 300, xR a, xR b, xI y3]) (st' := [xI (xs ((w4 (y3 + 1))).toNat), xR a]) (fun _ _ _ k => e_xld dL_law_531 h_xs h_xn h98 k) ?_
        refine ev_st (pc' := 536) (L' := [xS 300, xR a, xR b, xI y3]) (st' := [xI (w4 (y3 + 2)), xS 300, xI (xs ((w4 (y3 + 1))).toNat), xR a]) (fun _ _ _ k => e_aload_nS dL_law_532 rfl (i := 0) (x := 300) rfl rfl (e_iload_n dL_law_533 rfl (i := 3) (x := y3) rfl (e_iconst dL_law_534 (k4 rfl) (e_iadd dL_law_535 k)))) ?_
        refine ev_chk (fun h99 => ?_)
        refine ev_st (pc' := 537) (L' := [xS 300, xR a, xR b, xI y3]) (st' := [xI (xs ((w4 (y3 + 2))).toNat), xI (xs ((w4 (y3 + 1))).toNat), xR a]) (fun _ _ _ k => e_xld dL_law_536 h_xs h_xn h99 k) ?_
        refine ev_st (pc' := 541) (L' := [xS 300, xR a, xR b, xI y3]) (st' := [xI (w4 (y3 + 3)), xS 300, xI (xs ((w4 (y3 + 2))).toNat), xI (xs ((w4 (y3 + 1))).toNat), xR a]) (fun _ _ _ k => e_aload_nS dL_law_537 rfl (i := 0) (x := 300) rfl rfl (e_iload_n dL_law_538 rfl (i := 3) (x := y3) rfl (e_iconst dL_law_539 (k4 rfl) (e_iadd dL_law_540 k)))) ?_
        refine ev_chk (fun h100 => ?_)
        refine ev_st (pc' := 542) (L' := [xS 300, xR a, xR b, xI y3]) (st' := [xI (xs ((w4 (y3 + 3))).toNat), xI (xs ((w4 (y3 + 2))).toNat), xI (xs ((w4 (y3 + 1))).toNat), xR a]) (fun _ _ _ k => e_xld dL_law_541 h_xs h_xn h100 k) ?_
        refine ev_st (pc' := 546) (L' := [xS 300, xR a, xR b, xI y3]) (st' := [xI (w4 (y3 + 4)), xS 300, xI (xs ((w4 (y3 + 3))).toNat), xI (xs ((w4 (y3 + 2))).toNat), xI (xs ((w4 (y3 + 1))).toNat), xR a]) (fun _ _ _ k => e_aload_nS dL_law_542 rfl (i := 0) (x := 300) rfl rfl (e_iload_n dL_law_543 rfl (i := 3) (x := y3) rfl (e_iconst dL_law_544 (k4 rfl) (e_iadd dL_law_545 k)))) ?_
        refine ev_chk (fun h101 => ?_)
        refine ev_st (pc' := 547) (L' := [xS 300, xR a, xR b, xI y3]) (st' := [xI (xs ((w4 (y3 + 4))).toNat), xI (xs ((w4 (y3 + 3))).toNat), xI (xs ((w4 (y3 + 2))).toNat), xI (xs ((w4 (y3 + 1))).toNat), xR a]) (fun _ _ _ k => e_xld dL_law_546 h_xs h_xn h101 k) ?_
        refine ev_callV (As := [xI (xs ((w4 (y3 + 1))).toNat), xI (xs ((w4 (y3 + 2))).toNat), xI (xs ((w4 (y3 + 3))).toNat), xI (xs ((w4 (y3 + 4))).toNat)]) (st := []) (fun v102 => [xI v102.1]) dL_law_547 mlL_66 (kd9_0 h_a) rfl rfl rfl rfl rfl rfl (c_X9_addNote (d := d + 4) h_a (xs ((w4 (y3 + 1))).toNat) (xs ((w4 (y3 + 2))).toNat) (xs ((w4 (y3 + 3))).toNat) (xs ((w4 (y3 + 4))).toNat)) (fun _ => trivial) (fun _ => rfl) (fun v102 => ?_)
        refine ev_st (pc' := 555) (L' := [xS 300, xR a, xR b, xI y3]) (st' := [xI (w4 (y3 + 1)), xS 300, xR b, xI v102.1]) (fun _ _ _ k => e_aload_n dL_law_550 rfl (i := 2) (x := b) rfl (e_aload_nS dL_law_551 rfl (i := 0) (x := 300) rfl rfl (e_iload_n dL_law_552 rfl (i := 3) (x := y3) rfl (e_iconst dL_law_553 (k4 rfl) (e_iadd dL_law_554 k))))) ?_
        refine ev_chk (fun h103 => ?_)
        refine ev_st (pc' := 556) (L' := [xS 300, xR a, xR b, xI y3]) (st' := [xI (xs ((w4 (y3 + 1))).toNat), xR b, xI v102.1]) (fun _ _ _ k => e_xld dL_law_555 h_xs h_xn h103 k) ?_
        refine ev_st (pc' := 560) (L' := [xS 300, xR a, xR b, xI y3]) (st' := [xI (w4 (y3 + 2)), xS 300, xI (xs ((w4 (y3 + 1))).toNat), xR b, xI v102.1]) (fun _ _ _ k => e_aload_nS dL_law_556 rfl (i := 0) (x := 300) rfl rfl (e_iload_n dL_law_557 rfl (i := 3) (x := y3) rfl (e_iconst dL_law_558 (k4 rfl) (e_iadd dL_law_559 k)))) ?_
        refine ev_chk (fun h104 => ?_)
        refine ev_st (pc' := 561) (L' := [xS 300, xR a, xR b, xI y3]) (st' := [xI (xs ((w4 (y3 + 2))).toNat), xI (xs ((w4 (y3 + 1))).toNat), xR b, xI v102.1]) (fun _ _ _ k => e_xld dL_law_560 h_xs h_xn h104 k) ?_
        refine ev_st (pc' := 565) (L' := [xS 300, xR a, xR b, xI y3]) (st' := [xI (w4 (y3 + 3)), xS 300, xI (xs ((w4 (y3 + 2))).toNat), xI (xs ((w4 (y3 + 1))).toNat), xR b, xI v102.1]) (fun _ _ _ k => e_aload_nS dL_law_561 rfl (i := 0) (x := 300) rfl rfl (e_iload_n dL_law_562 rfl (i := 3) (x := y3) rfl (e_iconst dL_law_563 (k4 rfl) (e_iadd dL_law_564 k)))) ?_
        refine ev_chk (fun h105 => ?_)
        refine ev_st (pc' := 566) (L' := [xS 300, xR a, xR b, xI y3]) (st' := [xI (xs ((w4 (y3 + 3))).toNat), xI (xs ((w4 (y3 + 2))).toNat), xI (xs ((w4 (y3 + 1))).toNat), xR b, xI v102.1]) (fun _ _ _ k => e_xld dL_law_565 h_xs h_xn h105 k) ?_
        refine ev_st (pc' := 570) (L' := [xS 300, xR a, xR b, xI y3]) (st' := [xI (w4 (y3 + 4)), xS 300, xI (xs ((w4 (y3 + 3))).toNat), xI (xs ((w4 (y3 + 2))).toNat), xI (xs ((w4 (y3 + 1))).toNat), xR b, xI v102.1]) (fun _ _ _ k => e_aload_nS dL_law_566 rfl (i := 0) (x := 300) rfl rfl (e_iload_n dL_law_567 rfl (i := 3) (x := y3) rfl (e_iconst dL_law_568 (k4 rfl) (e_iadd dL_law_569 k)))) ?_
        refine ev_chk (fun h106 => ?_)
        refine ev_st (pc' := 571) (L' := [xS 300, xR a, xR b, xI y3]) (st' := [xI (xs ((w4 (y3 + 4))).toNat), xI (xs ((w4 (y3 + 3))).toNat), xI (xs ((w4 (y3 + 2))).toNat), xI (xs ((w4 (y3 + 1))).toNat), xR b, xI v102.1]) (fun _ _ _ k => e_xld dL_law_570 h_xs h_xn h106 k) ?_
        refine ev_callV (As := [xI (xs ((w4 (y3 + 1))).toNat), xI (xs ((w4 (y3 + 2))).toNat), xI (xs ((w4 (y3 + 3))).toNat), xI (xs ((w4 (y3 + 4))).toNat)]) (st := [xI v102.1]) (fun v107 => [xI v107.1, xI v102.1]) dL_law_571 mlL_70 (kd10_0 h_b) rfl rfl rfl rfl rfl rfl (c_X10_addNote (d := d + 7) h_b (xs ((w4 (y3 + 1))).toNat) (xs ((w4 (y3 + 2))).toNat) (xs ((w4 (y3 + 3))).toNat) (xs ((w4 (y3 + 4))).toNat)) (fun _ => trivial) (fun _ => rfl) (fun v107 => ?_)
        refine ev_br2 (P := v102.1 = v107.1) (pct := 1214) (pcf := 577) (st' := []) (fun _ _ _ kt kf => e_ceq dL_law_574 (tgt := 1214) rfl kt kf) (fun h108 => ?_) (fun h108 => ?_)
        · refine ev_letx (fun x109 ex109 => ?_)
          refine ev_st (pc' := 1217) (L' := [xS 300, xR a, xR b, xI x109]) (st' := []) (fun _ _ _ k => e_iinc dL_law_1214 (i := 3) rfl (x := y3) rfl (y := x109) ex109 (L' := [xS 300, xR a, xR b, xI x109]) rfl k) ?_
          refine ev_st (pc' := 18) (L' := [xS 300, xR a, xR b, xI x109]) (st' := []) (fun _ _ _ k => e_goto dL_law_1217 (tgt := 18) rfl k) ?_
          exact ih x109 v107.2
        · exact ev_ret (e_iconst dL_law_577 (k4 rfl) (e_iret dL_law_578))
      refine ev_ite (P := (b4and (xs (y3).toNat) 63) = 13) (fun h110 => ?_) (fun h110 => ?_)
      · refine ev_st (pc' := 579) (L' := [xS 300, xR a, xR b, xI y3]) (st' := []) (fun _ _ _ k => e_tin dL_law_33 (tgt := 579) (off := 546) (by omega) (by omega) (by rw [h110]; rfl) rfl k) ?_
        refine ev_st (pc' := 584) (L' := [xS 300, xR a, xR b, xI y3]) (st' := [xI (w4 (y3 + 1)), xS 300, xR a]) (fun _ _ _ k => e_aload_n dL_law_579 rfl (i := 1) (x := a) rfl (e_aload_nS dL_law_580 rfl (i := 0) (x := 300) rfl rfl (e_iload_n dL_law_581 rfl (i := 3) (x := y3) rfl (e_iconst dL_law_582 (k4 rfl) (e_iadd dL_law_583 k))))) ?_
        refine ev_chk (fun h111 => ?_)
        refine ev_st (pc' := 585) (L' := [xS 300, xR a, xR b, xI y3]) (st' := [xI (xs ((w4 (y3 + 1))).toNat), xR a]) (fun _ _ _ k => e_xld dL_law_584 h_xs h_xn h111 k) ?_
        refine ev_callV (As := [xI (xs ((w4 (y3 + 1))).toNat)]) (st := []) (fun v112 => [xI v112.1]) dL_law_585 mlL_71 (kd9_0 h_a) rfl rfl rfl rfl rfl rfl (c_X9_removeNote (d := d + 4) h_a (xs ((w4 (y3 + 1))).toNat)) (fun _ => trivial) (fun _ => rfl) (fun v112 => ?_)
        refine ev_st (pc' := 593) (L' := [xS 300, xR a, xR b, xI y3]) (st' := [xI (w4 (y3 + 1)), xS 300, xR b, xI v112.1]) (fun _ _ _ k => e_aload_n dL_law_588 rfl (i := 2) (x := b) rfl (e_aload_nS dL_law_589 rfl (i := 0) (x := 300) rfl rfl (e_iload_n dL_law_590 rfl (i := 3) (x := y3) rfl (e_iconst dL_law_591 (k4 rfl) (e_iadd dL_law_592 k))))) ?_
        refine ev_chk (fun h113 => ?_)
        refine ev_st (pc' := 594) (L' := [xS 300, xR a, xR b, xI y3]) (st' := [xI (xs ((w4 (y3 + 1))).toNat), xR b, xI v112.1]) (fun _ _ _ k => e_xld dL_law_593 h_xs h_xn h113 k) ?_
        refine ev_callV (As := [xI (xs ((w4 (y3 + 1))).toNat)]) (st := [xI v112.1]) (fun v114 => [xI v114.1, xI v112.1]) dL_law_594 mlL_74 (kd10_0 h_b) rfl rfl rfl rfl rfl rfl (c_X10_removeNote (d := d + 7) h_b (xs ((w4 (y3 + 1))).toNat)) (fun _ => trivial) (fun _ => rfl) (fun v114 => ?_)
        refine ev_br2 (P := v112.1 = v114.1) (pct := 1214) (pcf := 600) (st' := []) (fun _ _ _ kt kf => e_ceq dL_law_597 (tgt := 1214) rfl kt kf) (fun h115 => ?_) (fun h115 => ?_)
        · refine ev_letx (fun x116 ex116 => ?_)
          refine ev_st (pc' := 1217) (L' := [xS 300, xR a, xR b, xI x116]) (st' := []) (fun _ _ _ k => e_iinc dL_law_1214 (i := 3) rfl (x := y3) rfl (y := x116) ex116 (L' := [xS 300, xR a, xR b, xI x116]) rfl k) ?_
          refine ev_st (pc' := 18) (L' := [xS 300, xR a, xR b, xI x116]) (st' := []) (fun _ _ _ k => e_goto dL_law_1217 (tgt := 18) rfl k) ?_
          exact ih x116 v114.2
        · exact ev_ret (e_iconst dL_law_600 (k4 rfl) (e_iret dL_law_601))
      refine ev_ite (P := (b4and (xs (y3).toNat) 63) = 14) (fun h117 => ?_) (fun h117 => ?_)
      · refine ev_st (pc' := 602) (L' := [xS 300, xR a, xR b, xI y3]) (st' := []) (fun _ _ _ k => e_tin dL_law_33 (tgt := 602) (off := 569) (by omega) (by omega) (by rw [h117]; rfl) rfl k) ?_
        refine ev_st (pc' := 607) (L' := [xS 300, xR a, xR b, xI y3]) (st' := [xI (w4 (y3 + 1)), xS 300, xR a]) (fun _ _ _ k => e_aload_n dL_law_602 rfl (i := 1) (x := a) rfl (e_aload_nS dL_law_603 rfl (i := 0) (x := 300) rfl rfl (e_iload_n dL_law_604 rfl (i := 3) (x := y3) rfl (e_iconst dL_law_605 (k4 rfl) (e_iadd dL_law_606 k))))) ?_
        refine ev_chk (fun h118 => ?_)
        refine ev_st (pc' := 608) (L' := [xS 300, xR a, xR b, xI y3]) (st' := [xI (xs ((w4 (y3 + 1))).toNat), xR a]) (fun _ _ _ k => e_xld dL_law_607 h_xs h_xn h118 k) ?_
        refine ev_callV (As := [xI (xs ((w4 (y3 + 1))).toNat)]) (st := []) (fun v119 => [xI v119.1]) dL_law_608 mlL_75 (kd9_0 h_a) rfl rfl rfl rfl rfl rfl (c_X9_setLines (d := d + 4) h_a (xs ((w4 (y3 + 1))).toNat)) (fun _ => trivial) (fun _ => rfl) (fun v119 => ?_)
        refine ev_st (pc' := 616) (L' := [xS 300, xR a, xR b, xI y3]) (st' := [xI (w4 (y3 + 1)), xS 300, xR b, xI v119.1]) (fun _ _ _ k => e_aload_n dL_law_611 rfl (i := 2) (x := b) rfl (e_aload_nS dL_law_612 rfl (i := 0) (x := 300) rfl rfl (e_iload_n dL_law_613 rfl (i := 3) (x := y3) rfl (e_iconst dL_law_614 (k4 rfl) (e_iadd dL_law_615 k))))) ?_
        refine ev_chk (fun h120 => ?_)
        refine ev_st (pc' := 617) (L' := [xS 300, xR a, xR b, xI y3]) (st' := [xI (xs ((w4 (y3 + 1))).toNat), xR b, xI v119.1]) (fun _ _ _ k => e_xld dL_law_616 h_xs h_xn h120 k) ?_
        refine ev_callV (As := [xI (xs ((w4 (y3 + 1))).toNat)]) (st := [xI v119.1]) (fun v121 => [xI v121.1, xI v119.1]) dL_law_617 mlL_78 (kd10_0 h_b) rfl rfl rfl rfl rfl rfl (c_X10_setLines (d := d + 7) h_b (xs ((w4 (y3 + 1))).toNat)) (fun _ => trivial) (fun _ => rfl) (fun v121 => ?_)
        refine ev_br2 (P := v119.1 = v121.1) (pct := 1214) (pcf := 623) (st' := []) (fun _ _ _ kt kf => e_ceq dL_law_620 (tgt := 1214) rfl kt kf) (fun h122 => ?_) (fun h122 => ?_)
        · refine ev_letx (fun x123 ex123 => ?_)
          refine ev_st (pc' := 1217) (L' := [xS 300, xR a, xR b, xI x123]) (st' := []) (fun _ _ _ k => e_iinc dL_law_1214 (i := 3) rfl (x := y3) rfl (y := x123) ex123 (L' := [xS 300, xR a, xR b, xI x123]) rfl k) ?_
          refine ev_st (pc' := 18) (L' := [xS 300, xR a, xR b, xI x123]) (st' := []) (fun _ _ _ k => e_goto dL_law_1217 (tgt := 18) rfl k) ?_
          exact ih x123 v121.2
        · exact ev_ret (e_iconst dL_law_623 (k4 rfl) (e_iret dL_law_624))
      refine ev_ite (P := (b4and (xs (y3).toNat) 63) = 15) (fun h124 => ?_) (fun h124 => ?_)
      · refine ev_st (pc' := 625) (L' := [xS 300, xR a, xR b, xI y3]) (st' := []) (fun _ _ _ k => e_tin dL_law_33 (tgt := 625) (off := 592) (by omega) (by omega) (by rw [h124]; rfl) rfl k) ?_
        refine ev_st (pc' := 630) (L' := [xS 300, xR a, xR b, xI y3]) (st' := [xI (w4 (y3 + 1)), xS 300, xR a]) (fun _ _ _ k => e_aload_n dL_law_625 rfl (i := 1) (x := a) rfl (e_aload_nS dL_law_626 rfl (i := 0) (x := 300) rfl rfl (e_iload_n dL_law_627 rfl (i := 3) (x := y3) rfl (e_iconst dL_law_628 (k4 rfl) (e_iadd dL_law_629 k))))) ?_
        refine ev_chk (fun h125 => ?_)
        refine ev_st (pc' := 631) (L' := [xS 300, xR a, xR b, xI y3]) (st' := [xI (xs ((w4 (y3 + 1))).toNat), xR a]) (fun _ _ _ k => e_xld dL_law_630 h_xs h_xn h125 k) ?_
        refine ev_callV (As := [xI (xs ((w4 (y3 + 1))).toNat)]) (st := []) (fun v126 => [xI v126.1]) dL_law_631 mlL_79 (kd9_0 h_a) rfl rfl rfl rfl rfl rfl (c_X9_take (d := d + 4) h_a (xs ((w4 (y3 + 1))).toNat)) (fun _ => trivial) (fun _ => rfl) (fun v126 => ?_)
        refine ev_st (pc' := 639) (L' := [xS 300, xR a, xR b, xI y3]) (st' := [xI (w4 (y3 + 1)), xS 300, xR b, xI v126.1]) (fun _ _ _ k => e_aload_n dL_law_634 rfl (i := 2) (x := b) rfl (e_aload_nS dL_law_635 rfl (i := 0) (x := 300) rfl rfl (e_iload_n dL_law_636 rfl (i := 3) (x := y3) rfl (e_iconst dL_law_637 (k4 rfl) (e_iadd dL_law_638 k))))) ?_
        refine ev_chk (fun h127 => ?_)
        refine ev_st (pc' := 640) (L' := [xS 300, xR a, xR b, xI y3]) (st' := [xI (xs ((w4 (y3 + 1))).toNat), xR b, xI v126.1]) (fun _ _ _ k => e_xld dL_law_639 h_xs h_xn h127 k) ?_
        refine ev_callV (As := [xI (xs ((w4 (y3 + 1))).toNat)]) (st := [xI v126.1]) (fun v128 => [xI v128.1, xI v126.1]) dL_law_640 mlL_82 (kd10_0 h_b) rfl rfl rfl rfl rfl rfl (c_X10_take (d := d + 7) h_b (xs ((w4 (y3 + 1))).toNat)) (fun _ => trivial) (fun _ => rfl) (fun v128 => ?_)
        refine ev_br2 (P := v126.1 = v128.1) (pct := 1214) (pcf := 646) (st' := []) (fun _ _ _ kt kf => e_ceq dL_law_643 (tgt := 1214) rfl kt kf) (fun h129 => ?_) (fun h129 => ?_)
        · refine ev_letx (fun x130 ex130 => ?_)
          refine ev_st (pc' := 1217) (L' := [xS 300, xR a, xR b, xI x130]) (st' := []) (fun _ _ _ k => e_iinc dL_law_1214 (i := 3) rfl (x := y3) rfl (y := x130) ex130 (L' := [xS 300, xR a, xR b, xI x130]) rfl k) ?_
          refine ev_st (pc' := 18) (L' := [xS 300, xR a, xR b, xI x130]) (st' := []) (fun _ _ _ k => e_goto dL_law_1217 (tgt := 18) rfl k) ?_
          exact ih x130 v128.2
        · exact ev_ret (e_iconst dL_law_646 (k4 rfl) (e_iret dL_law_647))
      refine ev_ite (P := (b4and (xs (y3).toNat) 63) = 16) (fun h131 => ?_) (fun h131 => ?_)
      · refine ev_st (pc' := 648) (L' := [xS 300, xR a, xR b, xI y3]) (st' := []) (fun _ _ _ k => e_tin dL_law_33 (tgt := 648) (off := 615) (by omega) (by omega) (by rw [h131]; rfl) rfl k) ?_
        refine ev_st (pc' := 653) (L' := [xS 300, xR a, xR b, xI y3]) (st' := [xI (w4 (y3 + 1)), xS 300, xR a]) (fun _ _ _ k => e_aload_n dL_law_648 rfl (i := 1) (x := a) rfl (e_aload_nS dL_law_649 rfl (i := 0) (x := 300) rfl rfl (e_iload_n dL_law_650 rfl (i := 3) (x := y3) rfl (e_iconst dL_law_651 (k4 rfl) (e_iadd dL_law_652 k))))) ?_
        refine ev_chk (fun h132 => ?_)
        refine ev_st (pc' := 654) (L' := [xS 300, xR a, xR b, xI y3]) (st' := [xI (xs ((w4 (y3 + 1))).toNat), xR a]) (fun _ _ _ k => e_xld dL_law_653 h_xs h_xn h132 k) ?_
        refine ev_callV (As := [xI (xs ((w4 (y3 + 1))).toNat)]) (st := []) (fun v133 => [xI v133.1]) dL_law_654 mlL_83 (kd9_0 h_a) rfl rfl rfl rfl rfl rfl (c_X9_restore (d := d + 4) h_a (xs ((w4 (y3 + 1))).toNat)) (fun _ => trivial) (fun _ => rfl) (fun v133 => ?_)
        refine ev_st (pc' := 662) (L' := [xS 300, xR a, xR b, xI y3]) (st' := [xI (w4 (y3 + 1)), xS 300, xR b, xI v133.1]) (fun _ _ _ k => e_aload_n dL_law_657 rfl (i := 2) (x := b) rfl (e_aload_nS dL_law_658 rfl (i := 0) (x := 300) rfl rfl (e_iload_n dL_law_659 rfl (i := 3) (x := y3) rfl (e_iconst dL_law_660 (k4 rfl) (e_iadd dL_law_661 k))))) ?_
        refine ev_chk (fun h134 => ?_)
        refine ev_st (pc' := 663) (L' := [xS 300, xR a, xR b, xI y3]) (st' := [xI (xs ((w4 (y3 + 1))).toNat), xR b, xI v133.1]) (fun _ _ _ k => e_xld dL_law_662 h_xs h_xn h134 k) ?_
        refine ev_callV (As := [xI (xs ((w4 (y3 + 1))).toNat)]) (st := [xI v133.1]) (fun v135 => [xI v135.1, xI v133.1]) dL_law_663 mlL_86 (kd10_0 h_b) rfl rfl rfl rfl rfl rfl (c_X10_restore (d := d + 7) h_b (xs ((w4 (y3 + 1))).toNat)) (fun _ => trivial) (fun _ => rfl) (fun v135 => ?_)
        refine ev_br2 (P := v133.1 = v135.1) (pct := 1214) (pcf := 669) (st' := []) (fun _ _ _ kt kf => e_ceq dL_law_666 (tgt := 1214) rfl kt kf) (fun h136 => ?_) (fun h136 => ?_)
        · refine ev_letx (fun x137 ex137 => ?_)
          refine ev_st (pc' := 1217) (L' := [xS 300, xR a, xR b, xI x137]) (st' := []) (fun _ _ _ k => e_iinc dL_law_1214 (i := 3) rfl (x := y3) rfl (y := x137) ex137 (L' := [xS 300, xR a, xR b, xI x137]) rfl k) ?_
          refine ev_st (pc' := 18) (L' := [xS 300, xR a, xR b, xI x137]) (st' := []) (fun _ _ _ k => e_goto dL_law_1217 (tgt := 18) rfl k) ?_
          exact ih x137 v135.2
        · exact ev_ret (e_iconst dL_law_669 (k4 rfl) (e_iret dL_law_670))
      refine ev_ite (P := (b4and (xs (y3).toNat) 63) = 17) (fun h138 => ?_) (fun h138 => ?_)
      · refine ev_st (pc' := 671) (L' := [xS 300, xR a, xR b, xI y3]) (st' := []) (fun _ _ _ k => e_tin dL_law_33 (tgt := 671) (off := 638) (by omega) (by omega) (by rw [h138]; rfl) rfl k) ?_
        refine ev_st (pc' := 672) (L' := [xS 300, xR a, xR b, xI y3]) (st' := [xR a]) (fun _ _ _ k => e_aload_n dL_law_671 rfl (i := 1) (x := a) rfl k) ?_
        refine ev_callV (As := []) (st := []) (fun v139 => [xI v139.1]) dL_law_672 mlL_87 (kd9_0 h_a) rfl rfl rfl rfl rfl rfl (c_X9_undo (d := d + 3) h_a) (fun _ => trivial) (fun _ => rfl) (fun v139 => ?_)
        refine ev_st (pc' := 676) (L' := [xS 300, xR a, xR b, xI y3]) (st' := [xR b, xI v139.1]) (fun _ _ _ k => e_aload_n dL_law_675 rfl (i := 2) (x := b) rfl k) ?_
        refine ev_callV (As := []) (st := [xI v139.1]) (fun v140 => [xI v140.1, xI v139.1]) dL_law_676 mlL_90 (kd10_0 h_b) rfl rfl rfl rfl rfl rfl (c_X10_undo (d := d + 9) h_b) (fun _ => trivial) (fun _ => rfl) (fun v140 => ?_)
        refine ev_br2 (P := v139.1 = v140.1) (pct := 1214) (pcf := 682) (st' := []) (fun _ _ _ kt kf => e_ceq dL_law_679 (tgt := 1214) rfl kt kf) (fun h141 => ?_) (fun h141 => ?_)
        · refine ev_letx (fun x142 ex142 => ?_)
          refine ev_st (pc' := 1217) (L' := [xS 300, xR a, xR b, xI x142]) (st' := []) (fun _ _ _ k => e_iinc dL_law_1214 (i := 3) rfl (x := y3) rfl (y := x142) ex142 (L' := [xS 300, xR a, xR b, xI x142]) rfl k) ?_
          refine ev_st (pc' := 18) (L' := [xS 300, xR a, xR b, xI x142]) (st' := []) (fun _ _ _ k => e_goto dL_law_1217 (tgt := 18) rfl k) ?_
          exact ih x142 v140.2
        · exact ev_ret (e_iconst dL_law_682 (k4 rfl) (e_iret dL_law_683))
      refine ev_ite (P := (b4and (xs (y3).toNat) 63) = 18) (fun h143 => ?_) (fun h143 => ?_)
      · refine ev_st (pc' := 684) (L' := [xS 300, xR a, xR b, xI y3]) (st' := []) (fun _ _ _ k => e_tin dL_law_33 (tgt := 684) (off := 651) (by omega) (by omega) (by rw [h143]; rfl) rfl k) ?_
        refine ev_st (pc' := 689) (L' := [xS 300, xR a, xR b, xI y3]) (st' := [xI (w4 (y3 + 1)), xS 300, xR a]) (fun _ _ _ k => e_aload_n dL_law_684 rfl (i := 1) (x := a) rfl (e_aload_nS dL_law_685 rfl (i := 0) (x := 300) rfl rfl (e_iload_n dL_law_686 rfl (i := 3) (x := y3) rfl (e_iconst dL_law_687 (k4 rfl) (e_iadd dL_law_688 k))))) ?_
        refine ev_chk (fun h144 => ?_)
        refine ev_st (pc' := 690) (L' := [xS 300, xR a, xR b, xI y3]) (st' := [xI (xs ((w4 (y3 + 1))).toNat), xR a]) (fun _ _ _ k => e_xld dL_law_689 h_xs h_xn h144 k) ?_
        refine ev_callV (As := [xI (xs ((w4 (y3 + 1))).toNat)]) (st := []) (fun v145 => [xI v145.1]) dL_law_690 mlL_91 (kd9_0 h_a) rfl rfl rfl rfl rfl rfl (c_X9_append (d := d + 8) h_a (xs ((w4 (y3 + 1))).toNat)) (fun _ => trivial) (fun _ => rfl) (fun v145 => ?_)
        refine ev_st (pc' := 698) (L' := [xS 300, xR a, xR b, xI y3]) (st' := [xI (w4 (y3 + 1)), xS 300, xR b, xI v145.1]) (fun _ _ _ k => e_aload_n dL_law_693 rfl (i := 2) (x := b) rfl (e_aload_nS dL_law_694 rfl (i := 0) (x := 300) rfl rfl (e_iload_n dL_law_695 rfl (i := 3) (x := y3) rfl (e_iconst dL_law_696 (k4 rfl) (e_iadd dL_law_697 k))))) ?_
        refine ev_chk (fun h146 => ?_)
        refine ev_st (pc' := 699) (L' := [xS 300, xR a, xR b, xI y3]) (st' := [xI (xs ((w4 (y3 + 1))).toNat), xR b, xI v145.1]) (fun _ _ _ k => e_xld dL_law_698 h_xs h_xn h146 k) ?_
        refine ev_callV (As := [xI (xs ((w4 (y3 + 1))).toNat)]) (st := [xI v145.1]) (fun v147 => [xI v147.1, xI v145.1]) dL_law_699 mlL_94 (kd10_0 h_b) rfl rfl rfl rfl rfl rfl (c_X10_append (d := d + 8) h_b (xs ((w4 (y3 + 1))).toNat)) (fun _ => trivial) (fun _ => rfl) (fun v147 => ?_)
        refine ev_br2 (P := v145.1 = v147.1) (pct := 1214) (pcf := 705) (st' := []) (fun _ _ _ kt kf => e_ceq dL_law_702 (tgt := 1214) rfl kt kf) (fun h148 => ?_) (fun h148 => ?_)
        · refine ev_letx (fun x149 ex149 => ?_)
          refine ev_st (pc' := 1217) (L' := [xS 300, xR a, xR b, xI x149]) (st' := []) (fun _ _ _ k => e_iinc dL_law_1214 (i := 3) rfl (x := y3) rfl (y := x149) ex149 (L' := [xS 300, xR a, xR b, xI x149]) rfl k) ?_
          refine ev_st (pc' := 18) (L' := [xS 300, xR a, xR b, xI x149]) (st' := []) (fun _ _ _ k => e_goto dL_law_1217 (tgt := 18) rfl k) ?_
          exact ih x149 v147.2
        · exact ev_ret (e_iconst dL_law_705 (k4 rfl) (e_iret dL_law_706))
      refine ev_ite (P := (b4and (xs (y3).toNat) 63) = 19) (fun h150 => ?_) (fun h150 => ?_)
      · refine ev_st (pc' := 707) (L' := [xS 300, xR a, xR b, xI y3]) (st' := []) (fun _ _ _ k => e_tin dL_law_33 (tgt := 707) (off := 674) (by omega) (by omega) (by rw [h150]; rfl) rfl k) ?_
        refine ev_st (pc' := 708) (L' := [xS 300, xR a, xR b, xI y3]) (st' := [xR a]) (fun _ _ _ k => e_aload_n dL_law_707 rfl (i := 1) (x := a) rfl k) ?_
        refine ev_callV (As := []) (st := []) (fun v151 => [xI v151.1]) dL_law_708 mlL_95 (kd9_0 h_a) rfl rfl rfl rfl rfl rfl (c_X9_clearText (d := d + 9) h_a) (fun _ => trivial) (fun _ => rfl) (fun v151 => ?_)
        refine ev_st (pc' := 712) (L' := [xS 300, xR a, xR b, xI y3]) (st' := [xR b, xI v151.1]) (fun _ _ _ k => e_aload_n dL_law_711 rfl (i := 2) (x := b) rfl k) ?_
        refine ev_callV (As := []) (st := [xI v151.1]) (fun v152 => [xI v152.1, xI v151.1]) dL_law_712 mlL_98 (kd10_0 h_b) rfl rfl rfl rfl rfl rfl (c_X10_clearText (d := d + 9) h_b) (fun _ => trivial) (fun _ => rfl) (fun v152 => ?_)
        refine ev_br2 (P := v151.1 = v152.1) (pct := 1214) (pcf := 718) (st' := []) (fun _ _ _ kt kf => e_ceq dL_law_715 (tgt := 1214) rfl kt kf) (fun h153 => ?_) (fun h153 => ?_)
        · refine ev_letx (fun x154 ex154 => ?_)
          refine ev_st (pc' := 1217) (L' := [xS 300, xR a, xR b, xI x154]) (st' := []) (fun _ _ _ k => e_iinc dL_law_1214 (i := 3) rfl (x := y3) rfl (y := x154) ex154 (L' := [xS 300, xR a, xR b, xI x154]) rfl k) ?_
          refine ev_st (pc' := 18) (L' := [xS 300, xR a, xR b, xI x154]) (st' := []) (fun _ _ _ k => e_goto dL_law_1217 (tgt := 18) rfl k) ?_
          exact ih x154 v152.2
        · exact ev_ret (e_iconst dL_law_718 (k4 rfl) (e_iret dL_law_719))
      refine ev_ite (P := (b4and (xs (y3).toNat) 63) = 20) (fun h155 => ?_) (fun h155 => ?_)
      · refine ev_st (pc' := 720) (L' := [xS 300, xR a, xR b, xI y3]) (st' := []) (fun _ _ _ k => e_tin dL_law_33 (tgt := 720) (off := 687) (by omega) (by omega) (by rw [h155]; rfl) rfl k) ?_
        refine ev_st (pc' := 721) (L' := [xS 300, xR a, xR b, xI y3]) (st' := [xR a]) (fun _ _ _ k => e_aload_n dL_law_720 rfl (i := 1) (x := a) rfl k) ?_
        refine ev_callV (As := []) (st := []) (fun v156 => [xI v156.1]) dL_law_721 mlL_99 (kd9_0 h_a) rfl rfl rfl rfl rfl rfl (c_X9_run (d := d) h_a) (fun _ => trivial) (fun _ => rfl) (fun v156 => ?_)
        refine ev_st (pc' := 725) (L' := [xS 300, xR a, xR b, xI y3]) (st' := [xR b, xI v156.1]) (fun _ _ _ k => e_aload_n dL_law_724 rfl (i := 2) (x := b) rfl k) ?_
        refine ev_callV (As := []) (st := [xI v156.1]) (fun v157 => [xI v157.1, xI v156.1]) dL_law_725 mlL_102 (kd10_0 h_b) rfl rfl rfl rfl rfl rfl (c_X10_run (d := d + 2) h_b) (fun _ => trivial) (fun _ => rfl) (fun v157 => ?_)
        refine ev_br2 (P := v156.1 = v157.1) (pct := 1214) (pcf := 731) (st' := []) (fun _ _ _ kt kf => e_ceq dL_law_728 (tgt := 1214) rfl kt kf) (fun h158 => ?_) (fun h158 => ?_)
        · refine ev_letx (fun x159 ex159 => ?_)
          refine ev_st (pc' := 1217) (L' := [xS 300, xR a, xR b, xI x159]) (st' := []) (fun _ _ _ k => e_iinc dL_law_1214 (i := 3) rfl (x := y3) rfl (y := x159) ex159 (L' := [xS 300, xR a, xR b, xI x159]) rfl k) ?_
          refine ev_st (pc' := 18) (L' := [xS 300, xR a, xR b, xI x159]) (st' := []) (fun _ _ _ k => e_goto dL_law_1217 (tgt := 18) rfl k) ?_
          exact ih x159 v157.2
        · exact ev_ret (e_iconst dL_law_731 (k4 rfl) (e_iret dL_law_732))
      refine ev_ite (P := (b4and (xs (y3).toNat) 63) = 21) (fun h160 => ?_) (fun h160 => ?_)
      · refine ev_st (pc' := 733) (L' := [xS 300, xR a, xR b, xI y3]) (st' := []) (fun _ _ _ k => e_tin dL_law_33 (tgt := 733) (off := 700) (by omega) (by omega) (by rw [h160]; rfl) rfl k) ?_
        refine ev_st (pc' := 738) (L' := [xS 300, xR a, xR b, xI y3]) (st' := [xI (w4 (y3 + 1)), xS 300, xR a]) (fun _ _ _ k => e_aload_n dL_law_733 rfl (i := 1) (x := a) rfl (e_aload_nS dL_law_734 rfl (i := 0) (x := 300) rfl rfl (e_iload_n dL_law_735 rfl (i := 3) (x := y3) rfl (e_iconst dL_law_736 (k4 rfl) (e_iadd dL_law_737 k))))) ?_
        refine ev_chk (fun h161 => ?_)
        refine ev_st (pc' := 739) (L' := [xS 300, xR a, xR b, xI y3]) (st' := [xI (xs ((w4 (y3 + 1))).toNat), xR a]) (fun _ _ _ k => e_xld dL_law_738 h_xs h_xn h161 k) ?_
        refine ev_callV (As := [xI (xs ((w4 (y3 + 1))).toNat)]) (st := []) (fun v162 => [xI v162]) dL_law_739 mlL_103 (kd9_0 h_a) rfl rfl rfl rfl rfl rfl (c_X9_count (d := d + 8) h_a (xs ((w4 (y3 + 1))).toNat)) (fun _ => trivial) (fun _ => rfl) (fun v162 => ?_)
        refine ev_st (pc' := 747) (L' := [xS 300, xR a, xR b, xI y3]) (st' := [xI (w4 (y3 + 1)), xS 300, xR b, xI v162]) (fun _ _ _ k => e_aload_n dL_law_742 rfl (i := 2) (x := b) rfl (e_aload_nS dL_law_743 rfl (i := 0) (x := 300) rfl rfl (e_iload_n dL_law_744 rfl (i := 3) (x := y3) rfl (e_iconst dL_law_745 (k4 rfl) (e_iadd dL_law_746 k))))) ?_
        refine ev_chk (fun h163 => ?_)
        refine ev_st (pc' := 748) (L' := [xS 300, xR a, xR b, xI y3]) (st' := [xI (xs ((w4 (y3 + 1))).toNat), xR b, xI v162]) (fun _ _ _ k => e_xld dL_law_747 h_xs h_xn h163 k) ?_
        refine ev_callV (As := [xI (xs ((w4 (y3 + 1))).toNat)]) (st := [xI v162]) (fun v164 => [xI v164.1, xI v162]) dL_law_748 mlL_106 (kd10_0 h_b) rfl rfl rfl rfl rfl rfl (c_X10_count (d := d + 5) h_b (xs ((w4 (y3 + 1))).toNat)) (fun _ => trivial) (fun _ => rfl) (fun v164 => ?_)
        refine ev_br2 (P := v162 = v164.1) (pct := 1214) (pcf := 754) (st' := []) (fun _ _ _ kt kf => e_ceq dL_law_751 (tgt := 1214) rfl kt kf) (fun h165 => ?_) (fun h165 => ?_)
        · refine ev_letx (fun x166 ex166 => ?_)
          refine ev_st (pc' := 1217) (L' := [xS 300, xR a, xR b, xI x166]) (st' := []) (fun _ _ _ k => e_iinc dL_law_1214 (i := 3) rfl (x := y3) rfl (y := x166) ex166 (L' := [xS 300, xR a, xR b, xI x166]) rfl k) ?_
          refine ev_st (pc' := 18) (L' := [xS 300, xR a, xR b, xI x166]) (st' := []) (fun _ _ _ k => e_goto dL_law_1217 (tgt := 18) rfl k) ?_
          exact ih x166 v164.2
        · exact ev_ret (e_iconst dL_law_754 (k4 rfl) (e_iret dL_law_755))
      refine ev_ite (P := (b4and (xs (y3).toNat) 63) = 22) (fun h167 => ?_) (fun h167 => ?_)
      · refine ev_st (pc' := 756) (L' := [xS 300, xR a, xR b, xI y3]) (st' := []) (fun _ _ _ k => e_tin dL_law_33 (tgt := 756) (off := 723) (by omega) (by omega) (by rw [h167]; rfl) rfl k) ?_
        refine ev_st (pc' := 761) (L' := [xS 300, xR a, xR b, xI y3]) (st' := [xI (w4 (y3 + 1)), xS 300, xR a]) (fun _ _ _ k => e_aload_n dL_law_756 rfl (i := 1) (x := a) rfl (e_aload_nS dL_law_757 rfl (i := 0) (x := 300) rfl rfl (e_iload_n dL_law_758 rfl (i := 3) (x := y3) rfl (e_iconst dL_law_759 (k4 rfl) (e_iadd dL_law_760 k))))) ?_
        refine ev_chk (fun h168 => ?_)
        refine ev_st (pc' := 762) (L' := [xS 300, xR a, xR b, xI y3]) (st' := [xI (xs ((w4 (y3 + 1))).toNat), xR a]) (fun _ _ _ k => e_xld dL_law_761 h_xs h_xn h168 k) ?_
        refine ev_st (pc' := 766) (L' := [xS 300, xR a, xR b, xI y3]) (st' := [xI (w4 (y3 + 2)), xS 300, xI (xs ((w4 (y3 + 1))).toNat), xR a]) (fun _ _ _ k => e_aload_nS dL_law_762 rfl (i := 0) (x := 300) rfl rfl (e_iload_n dL_law_763 rfl (i := 3) (x := y3) rfl (e_iconst dL_law_764 (k4 rfl) (e_iadd dL_law_765 k)))) ?_
        refine ev_chk (fun h169 => ?_)
        refine ev_st (pc' := 767) (L' := [xS 300, xR a, xR b, xI y3]) (st' := [xI (xs ((w4 (y3 + 2))).toNat), xI (xs ((w4 (y3 + 1))).toNat), xR a]) (fun _ _ _ k => e_xld dL_law_766 h_xs h_xn h169 k) ?_
        refine ev_st (pc' := 771) (L' := [xS 300, xR a, xR b, xI y3]) (st' := [xI (w4 (y3 + 3)), xS 300, xI (xs ((w4 (y3 + 2))).toNat), xI (xs ((w4 (y3 + 1))).toNat), xR a]) (fun _ _ _ k => e_aload_nS dL_law_767 rfl (i := 0) (x := 300) rfl rfl (e_iload_n dL_law_768 rfl (i := 3) (x := y3) rfl (e_iconst dL_law_769 (k4 rfl) (e_iadd dL_law_770 k)))) ?_
        refine ev_chk (fun h170 => ?_)
        refine ev_st (pc' := 772) (L' := [xS 300, xR a, xR b, xI y3]) (st' := [xI (xs ((w4 (y3 + 3))).toNat), xI (xs ((w4 (y3 + 2))).toNat), xI (xs ((w4 (y3 + 1))).toNat), xR a]) (fun _ _ _ k => e_xld dL_law_771 h_xs h_xn h170 k) ?_
        refine ev_st (pc' := 776) (L' := [xS 300, xR a, xR b, xI y3]) (st' := [xI (w4 (y3 + 4)), xS 300, xI (xs ((w4 (y3 + 3))).toNat), xI (xs ((w4 (y3 + 2))).toNat), xI (xs ((w4 (y3 + 1))).toNat), xR a]) (fun _ _ _ k => e_aload_nS dL_law_772 rfl (i := 0) (x := 300) rfl rfl (e_iload_n dL_law_773 rfl (i := 3) (x := y3) rfl (e_iconst dL_law_774 (k4 rfl) (e_iadd dL_law_775 k)))) ?_
        refine ev_chk (fun h171 => ?_)
        refine ev_st (pc' := 777) (L' := [xS 300, xR a, xR b, xI y3]) (st' := [xI (xs ((w4 (y3 + 4))).toNat), xI (xs ((w4 (y3 + 3))).toNat), xI (xs ((w4 (y3 + 2))).toNat), xI (xs ((w4 (y3 + 1))).toNat), xR a]) (fun _ _ _ k => e_xld dL_law_776 h_xs h_xn h171 k) ?_
        refine ev_callV (As := [xI (xs ((w4 (y3 + 1))).toNat), xI (xs ((w4 (y3 + 2))).toNat), xI (xs ((w4 (y3 + 3))).toNat), xI (xs ((w4 (y3 + 4))).toNat)]) (st := []) (fun v172 => [xI v172]) dL_law_777 mlL_107 (kd9_0 h_a) rfl rfl rfl rfl rfl rfl (c_X9_side (d := d + 7) h_a (xs ((w4 (y3 + 1))).toNat) (xs ((w4 (y3 + 2))).toNat) (xs ((w4 (y3 + 3))).toNat) (xs ((w4 (y3 + 4))).toNat)) (fun _ => trivial) (fun _ => rfl) (fun v172 => ?_)
        refine ev_st (pc' := 785) (L' := [xS 300, xR a, xR b, xI y3]) (st' := [xI (w4 (y3 + 1)), xS 300, xR b, xI v172]) (fun _ _ _ k => e_aload_n dL_law_780 rfl (i := 2) (x := b) rfl (e_aload_nS dL_law_781 rfl (i := 0) (x := 300) rfl rfl (e_iload_n dL_law_782 rfl (i := 3) (x := y3) rfl (e_iconst dL_law_783 (k4 rfl) (e_iadd dL_law_784 k))))) ?_
        refine ev_chk (fun h173 => ?_)
        refine ev_st (pc' := 786) (L' := [xS 300, xR a, xR b, xI y3]) (st' := [xI (xs ((w4 (y3 + 1))).toNat), xR b, xI v172]) (fun _ _ _ k => e_xld dL_law_785 h_xs h_xn h173 k) ?_
        refine ev_st (pc' := 790) (L' := [xS 300, xR a, xR b, xI y3]) (st' := [xI (w4 (y3 + 2)), xS 300, xI (xs ((w4 (y3 + 1))).toNat), xR b, xI v172]) (fun _ _ _ k => e_aload_nS dL_law_786 rfl (i := 0) (x := 300) rfl rfl (e_iload_n dL_law_787 rfl (i := 3) (x := y3) rfl (e_iconst dL_law_788 (k4 rfl) (e_iadd dL_law_789 k)))) ?_
        refine ev_chk (fun h174 => ?_)
        refine ev_st (pc' := 791) (L' := [xS 300, xR a, xR b, xI y3]) (st' := [xI (xs ((w4 (y3 + 2))).toNat), xI (xs ((w4 (y3 + 1))).toNat), xR b, xI v172]) (fun _ _ _ k => e_xld dL_law_790 h_xs h_xn h174 k) ?_
        refine ev_st (pc' := 795) (L' := [xS 300, xR a, xR b, xI y3]) (st' := [xI (w4 (y3 + 3)), xS 300, xI (xs ((w4 (y3 + 2))).toNat), xI (xs ((w4 (y3 + 1))).toNat), xR b, xI v172]) (fun _ _ _ k => e_aload_nS dL_law_791 rfl (i := 0) (x := 300) rfl rfl (e_iload_n dL_law_792 rfl (i := 3) (x := y3) rfl (e_iconst dL_law_793 (k4 rfl) (e_iadd dL_law_794 k)))) ?_
        refine ev_chk (fun h175 => ?_)
        refine ev_st (pc' := 796) (L' := [xS 300, xR a, xR b, xI y3]) (st' := [xI (xs ((w4 (y3 + 3))).toNat), xI (xs ((w4 (y3 + 2))).toNat), xI (xs ((w4 (y3 + 1))).toNat), xR b, xI v172]) (fun _ _ _ k => e_xld dL_law_795 h_xs h_xn h175 k) ?_
        refine ev_st (pc' := 800) (L' := [xS 300, xR a, xR b, xI y3]) (st' := [xI (w4 (y3 + 4)), xS 300, xI (xs ((w4 (y3 + 3))).toNat), xI (xs ((w4 (y3 + 2))).toNat), xI (xs ((w4 (y3 + 1))).toNat), xR b, xI v172]) (fun _ _ _ k => e_aload_nS dL_law_796 rfl (i := 0) (x := 300) rfl rfl (e_iload_n dL_law_797 rfl (i := 3) (x := y3) rfl (e_iconst dL_law_798 (k4 rfl) (e_iadd dL_law_799 k)))) ?_
        refine ev_chk (fun h176 => ?_)
        refine ev_st (pc' := 801) (L' := [xS 300, xR a, xR b, xI y3]) (st' := [xI (xs ((w4 (y3 + 4))).toNat), xI (xs ((w4 (y3 + 3))).toNat), xI (xs ((w4 (y3 + 2))).toNat), xI (xs ((w4 (y3 + 1))).toNat), xR b, xI v172]) (fun _ _ _ k => e_xld dL_law_800 h_xs h_xn h176 k) ?_
        refine ev_callV (As := [xI (xs ((w4 (y3 + 1))).toNat), xI (xs ((w4 (y3 + 2))).toNat), xI (xs ((w4 (y3 + 3))).toNat), xI (xs ((w4 (y3 + 4))).toNat)]) (st := [xI v172]) (fun v177 => [xI v177, xI v172]) dL_law_801 mlL_110 (kd10_0 h_b) rfl rfl rfl rfl rfl rfl (c_X10_side (d := d + 7) h_b (xs ((w4 (y3 + 1))).toNat) (xs ((w4 (y3 + 2))).toNat) (xs ((w4 (y3 + 3))).toNat) (xs ((w4 (y3 + 4))).toNat)) (fun _ => trivial) (fun _ => rfl) (fun v177 => ?_)
        refine ev_br2 (P := v172 = v177) (pct := 1214) (pcf := 807) (st' := []) (fun _ _ _ kt kf => e_ceq dL_law_804 (tgt := 1214) rfl kt kf) (fun h178 => ?_) (fun h178 => ?_)
        · refine ev_letx (fun x179 ex179 => ?_)
          refine ev_st (pc' := 1217) (L' := [xS 300, xR a, xR b, xI x179]) (st' := []) (fun _ _ _ k => e_iinc dL_law_1214 (i := 3) rfl (x := y3) rfl (y := x179) ex179 (L' := [xS 300, xR a, xR b, xI x179]) rfl k) ?_
          refine ev_st (pc' := 18) (L' := [xS 300, xR a, xR b, xI x179]) (st' := []) (fun _ _ _ k => e_goto dL_law_1217 (tgt := 18) rfl k) ?_
          exact ih x179 R
        · exact ev_ret (e_iconst dL_law_807 (k4 rfl) (e_iret dL_law_808))
      refine ev_ite (P := (b4and (xs (y3).toNat) 63) = 23) (fun h180 => ?_) (fun h180 => ?_)
      · refine ev_st (pc' := 809) (L' := [xS 300, xR a, xR b, xI y3]) (st' := []) (fun _ _ _ k => e_tin dL_law_33 (tgt := 809) (off := 776) (by omega) (by omega) (by rw [h180]; rfl) rfl k) ?_
        refine ev_st (pc' := 814) (L' := [xS 300, xR a, xR b, xI y3]) (st' := [xI (w4 (y3 + 1)), xS 300, xR a]) (fun _ _ _ k => e_aload_n dL_law_809 rfl (i := 1) (x := a) rfl (e_aload_nS dL_law_810 rfl (i := 0) (x := 300) rfl rfl (e_iload_n dL_law_811 rfl (i := 3) (x := y3) rfl (e_iconst dL_law_812 (k4 rfl) (e_iadd dL_law_813 k))))) ?_
        refine ev_chk (fun h181 => ?_)
        refine ev_st (pc' := 815) (L' := [xS 300, xR a, xR b, xI y3]) (st' := [xI (xs ((w4 (y3 + 1))).toNat), xR a]) (fun _ _ _ k => e_xld dL_law_814 h_xs h_xn h181 k) ?_
        refine ev_st (pc' := 819) (L' := [xS 300, xR a, xR b, xI y3]) (st' := [xI (w4 (y3 + 2)), xS 300, xI (xs ((w4 (y3 + 1))).toNat), xR a]) (fun _ _ _ k => e_aload_nS dL_law_815 rfl (i := 0) (x := 300) rfl rfl (e_iload_n dL_law_816 rfl (i := 3) (x := y3) rfl (e_iconst dL_law_817 (k4 rfl) (e_iadd dL_law_818 k)))) ?_
        refine ev_chk (fun h182 => ?_)
        refine ev_st (pc' := 820) (L' := [xS 300, xR a, xR b, xI y3]) (st' := [xI (xs ((w4 (y3 + 2))).toNat), xI (xs ((w4 (y3 + 1))).toNat), xR a]) (fun _ _ _ k => e_xld dL_law_819 h_xs h_xn h182 k) ?_
        refine ev_st (pc' := 824) (L' := [xS 300, xR a, xR b, xI y3]) (st' := [xI (w4 (y3 + 3)), xS 300, xI (xs ((w4 (y3 + 2))).toNat), xI (xs ((w4 (y3 + 1))).toNat), xR a]) (fun _ _ _ k => e_aload_nS dL_law_820 rfl (i := 0) (x := 300) rfl rfl (e_iload_n dL_law_821 rfl (i := 3) (x := y3) rfl (e_iconst dL_law_822 (k4 rfl) (e_iadd dL_law_823 k)))) ?_
        refine ev_chk (fun h183 => ?_)
        refine ev_st (pc' := 825) (L' := [xS 300, xR a, xR b, xI y3]) (st' := [xI (xs ((w4 (y3 + 3))).toNat), xI (xs ((w4 (y3 + 2))).toNat), xI (xs ((w4 (y3 + 1))).toNat), xR a]) (fun _ _ _ k => e_xld dL_law_824 h_xs h_xn h183 k) ?_
        refine ev_callV (As := [xI (xs ((w4 (y3 + 1))).toNat), xI (xs ((w4 (y3 + 2))).toNat), xI (xs ((w4 (y3 + 3))).toNat)]) (st := []) (fun v184 => [xI v184]) dL_law_825 mlL_111 (kd9_0 h_a) rfl rfl rfl rfl rfl rfl (c_X9_layer (d := d + 7) h_a (xs ((w4 (y3 + 1))).toNat) (xs ((w4 (y3 + 2))).toNat) (xs ((w4 (y3 + 3))).toNat)) (fun _ => trivial) (fun _ => rfl) (fun v184 => ?_)
        refine ev_st (pc' := 833) (L' := [xS 300, xR a, xR b, xI y3]) (st' := [xI (w4 (y3 + 1)), xS 300, xR b, xI v184]) (fun _ _ _ k => e_aload_n dL_law_828 rfl (i := 2) (x := b) rfl (e_aload_nS dL_law_829 rfl (i := 0) (x := 300) rfl rfl (e_iload_n dL_law_830 rfl (i := 3) (x := y3) rfl (e_iconst dL_law_831 (k4 rfl) (e_iadd dL_law_832 k))))) ?_
        refine ev_chk (fun h185 => ?_)
        refine ev_st (pc' := 834) (L' := [xS 300, xR a, xR b, xI y3]) (st' := [xI (xs ((w4 (y3 + 1))).toNat), xR b, xI v184]) (fun _ _ _ k => e_xld dL_law_833 h_xs h_xn h185 k) ?_
        refine ev_st (pc' := 838) (L' := [xS 300, xR a, xR b, xI y3]) (st' := [xI (w4 (y3 + 2)), xS 300, xI (xs ((w4 (y3 + 1))).toNat), xR b, xI v184]) (fun _ _ _ k => e_aload_nS dL_law_834 rfl (i := 0) (x := 300) rfl rfl (e_iload_n dL_law_835 rfl (i := 3) (x := y3) rfl (e_iconst dL_law_836 (k4 rfl) (e_iadd dL_law_837 k)))) ?_
        refine ev_chk (fun h186 => ?_)
        refine ev_st (pc' := 839) (L' := [xS 300, xR a, xR b, xI y3]) (st' := [xI (xs ((w4 (y3 + 2))).toNat), xI (xs ((w4 (y3 + 1))).toNat), xR b, xI v184]) (fun _ _ _ k => e_xld dL_law_838 h_xs h_xn h186 k) ?_
        refine ev_st (pc' := 843) (L' := [xS 300, xR a, xR b, xI y3]) (st' := [xI (w4 (y3 + 3)), xS 300, xI (xs ((w4 (y3 + 2))).toNat), xI (xs ((w4 (y3 + 1))).toNat), xR b, xI v184]) (fun _ _ _ k => e_aload_nS dL_law_839 rfl (i := 0) (x := 300) rfl rfl (e_iload_n dL_law_840 rfl (i := 3) (x := y3) rfl (e_iconst dL_law_841 (k4 rfl) (e_iadd dL_law_842 k)))) ?_
        refine ev_chk (fun h187 => ?_)
        refine ev_st (pc' := 844) (L' := [xS 300, xR a, xR b, xI y3]) (st' := [xI (xs ((w4 (y3 + 3))).toNat), xI (xs ((w4 (y3 + 2))).toNat), xI (xs ((w4 (y3 + 1))).toNat), xR b, xI v184]) (fun _ _ _ k => e_xld dL_law_843 h_xs h_xn h187 k) ?_
        refine ev_callV (As := [xI (xs ((w4 (y3 + 1))).toNat), xI (xs ((w4 (y3 + 2))).toNat), xI (xs ((w4 (y3 + 3))).toNat)]) (st := [xI v184]) (fun v188 => [xI v188.1, xI v184]) dL_law_844 mlL_114 (kd10_0 h_b) rfl rfl rfl rfl rfl rfl (c_X10_layer (d := d + 6) h_b (xs ((w4 (y3 + 1))).toNat) (xs ((w4 (y3 + 2))).toNat) (xs ((w4 (y3 + 3))).toNat)) (fun _ => trivial) (fun _ => rfl) (fun v188 => ?_)
        refine ev_br2 (P := v184 = v188.1) (pct := 1214) (pcf := 850) (st' := []) (fun _ _ _ kt kf => e_ceq dL_law_847 (tgt := 1214) rfl kt kf) (fun h189 => ?_) (fun h189 => ?_)
        · refine ev_letx (fun x190 ex190 => ?_)
          refine ev_st (pc' := 1217) (L' := [xS 300, xR a, xR b, xI x190]) (st' := []) (fun _ _ _ k => e_iinc dL_law_1214 (i := 3) rfl (x := y3) rfl (y := x190) ex190 (L' := [xS 300, xR a, xR b, xI x190]) rfl k) ?_
          refine ev_st (pc' := 18) (L' := [xS 300, xR a, xR b, xI x190]) (st' := []) (fun _ _ _ k => e_goto dL_law_1217 (tgt := 18) rfl k) ?_
          exact ih x190 v188.2
        · exact ev_ret (e_iconst dL_law_850 (k4 rfl) (e_iret dL_law_851))
      refine ev_ite (P := (b4and (xs (y3).toNat) 63) = 24) (fun h191 => ?_) (fun h191 => ?_)
      · refine ev_st (pc' := 852) (L' := [xS 300, xR a, xR b, xI y3]) (st' := []) (fun _ _ _ k => e_tin dL_law_33 (tgt := 852) (off := 819) (by omega) (by omega) (by rw [h191]; rfl) rfl k) ?_
        refine ev_st (pc' := 857) (L' := [xS 300, xR a, xR b, xI y3]) (st' := [xI (w4 (y3 + 1)), xS 300, xR a]) (fun _ _ _ k => e_aload_n dL_law_852 rfl (i := 1) (x := a) rfl (e_aload_nS dL_law_853 rfl (i := 0) (x := 300) rfl rfl (e_iload_n dL_law_854 rfl (i := 3) (x := y3) rfl (e_iconst dL_law_855 (k4 rfl) (e_iadd dL_law_856 k))))) ?_
        refine ev_chk (fun h192 => ?_)
        refine ev_st (pc' := 858) (L' := [xS 300, xR a, xR b, xI y3]) (st' := [xI (xs ((w4 (y3 + 1))).toNat), xR a]) (fun _ _ _ k => e_xld dL_law_857 h_xs h_xn h192 k) ?_
        refine ev_st (pc' := 862) (L' := [xS 300, xR a, xR b, xI y3]) (st' := [xI (w4 (y3 + 2)), xS 300, xI (xs ((w4 (y3 + 1))).toNat), xR a]) (fun _ _ _ k => e_aload_nS dL_law_858 rfl (i := 0) (x := 300) rfl rfl (e_iload_n dL_law_859 rfl (i := 3) (x := y3) rfl (e_iconst dL_law_860 (k4 rfl) (e_iadd dL_law_861 k)))) ?_
        refine ev_chk (fun h193 => ?_)
        refine ev_st (pc' := 863) (L' := [xS 300, xR a, xR b, xI y3]) (st' := [xI (xs ((w4 (y3 + 2))).toNat), xI (xs ((w4 (y3 + 1))).toNat), xR a]) (fun _ _ _ k => e_xld dL_law_862 h_xs h_xn h193 k) ?_
        refine ev_callV (As := [xI (xs ((w4 (y3 + 1))).toNat), xI (xs ((w4 (y3 + 2))).toNat)]) (st := []) (fun v194 => [xI v194.1]) dL_law_863 mlL_115 (kd9_0 h_a) rfl rfl rfl rfl rfl rfl (c_X9_page (d := d + 3) h_a (xs ((w4 (y3 + 1))).toNat) (xs ((w4 (y3 + 2))).toNat)) (fun _ => trivial) (fun _ => rfl) (fun v194 => ?_)
        refine ev_st (pc' := 871) (L' := [xS 300, xR a, xR b, xI y3]) (st' := [xI (w4 (y3 + 1)), xS 300, xR b, xI v194.1]) (fun _ _ _ k => e_aload_n dL_law_866 rfl (i := 2) (x := b) rfl (e_aload_nS dL_law_867 rfl (i := 0) (x := 300) rfl rfl (e_iload_n dL_law_868 rfl (i := 3) (x := y3) rfl (e_iconst dL_law_869 (k4 rfl) (e_iadd dL_law_870 k))))) ?_
        refine ev_chk (fun h195 => ?_)
        refine ev_st (pc' := 872) (L' := [xS 300, xR a, xR b, xI y3]) (st' := [xI (xs ((w4 (y3 + 1))).toNat), xR b, xI v194.1]) (fun _ _ _ k => e_xld dL_law_871 h_xs h_xn h195 k) ?_
        refine ev_st (pc' := 876) (L' := [xS 300, xR a, xR b, xI y3]) (st' := [xI (w4 (y3 + 2)), xS 300, xI (xs ((w4 (y3 + 1))).toNat), xR b, xI v194.1]) (fun _ _ _ k => e_aload_nS dL_law_872 rfl (i := 0) (x := 300) rfl rfl (e_iload_n dL_law_873 rfl (i := 3) (x := y3) rfl (e_iconst dL_law_874 (k4 rfl) (e_iadd dL_law_875 k)))) ?_
        refine ev_chk (fun h196 => ?_)
        refine ev_st (pc' := 877) (L' := [xS 300, xR a, xR b, xI y3]) (st' := [xI (xs ((w4 (y3 + 2))).toNat), xI (xs ((w4 (y3 + 1))).toNat), xR b, xI v194.1]) (fun _ _ _ k => e_xld dL_law_876 h_xs h_xn h196 k) ?_
        refine ev_callV (As := [xI (xs ((w4 (y3 + 1))).toNat), xI (xs ((w4 (y3 + 2))).toNat)]) (st := [xI v194.1]) (fun v197 => [xI v197.1, xI v194.1]) dL_law_877 mlL_118 (kd10_0 h_b) rfl rfl rfl rfl rfl rfl (c_X10_page (d := d + 4) h_b (xs ((w4 (y3 + 1))).toNat) (xs ((w4 (y3 + 2))).toNat)) (fun _ => trivial) (fun _ => rfl) (fun v197 => ?_)
        refine ev_br2 (P := v194.1 = v197.1) (pct := 1214) (pcf := 883) (st' := []) (fun _ _ _ kt kf => e_ceq dL_law_880 (tgt := 1214) rfl kt kf) (fun h198 => ?_) (fun h198 => ?_)
        · refine ev_letx (fun x199 ex199 => ?_)
          refine ev_st (pc' := 1217) (L' := [xS 300, xR a, xR b, xI x199]) (st' := []) (fun _ _ _ k => e_iinc dL_law_1214 (i := 3) rfl (x := y3) rfl (y := x199) ex199 (L' := [xS 300, xR a, xR b, xI x199]) rfl k) ?_
          refine ev_st (pc' := 18) (L' := [xS 300, xR a, xR b, xI x199]) (st' := []) (fun _ _ _ k => e_goto dL_law_1217 (tgt := 18) rfl k) ?_
          exact ih x199 v197.2
        · exact ev_ret (e_iconst dL_law_883 (k4 rfl) (e_iret dL_law_884))
      refine ev_ite (P := (b4and (xs (y3).toNat) 63) = 25) (fun h200 => ?_) (fun h200 => ?_)
      · refine ev_st (pc' := 885) (L' := [xS 300, xR a, xR b, xI y3]) (st' := []) (fun _ _ _ k => e_tin dL_law_33 (tgt := 885) (off := 852) (by omega) (by omega) (by rw [h200]; rfl) rfl k) ?_
        refine ev_st (pc' := 890) (L' := [xS 300, xR a, xR b, xI y3]) (st' := [xI (w4 (y3 + 1)), xS 300, xR a]) (fun _ _ _ k => e_aload_n dL_law_885 rfl (i := 1) (x := a) rfl (e_aload_nS dL_law_886 rfl (i := 0) (x := 300) rfl rfl (e_iload_n dL_law_887 rfl (i := 3) (x := y3) rfl (e_iconst dL_law_888 (k4 rfl) (e_iadd dL_law_889 k))))) ?_
        refine ev_chk (fun h201 => ?_)
        refine ev_st (pc' := 891) (L' := [xS 300, xR a, xR b, xI y3]) (st' := [xI (xs ((w4 (y3 + 1))).toNat), xR a]) (fun _ _ _ k => e_xld dL_law_890 h_xs h_xn h201 k) ?_
        refine ev_st (pc' := 895) (L' := [xS 300, xR a, xR b, xI y3]) (st' := [xI (w4 (y3 + 2)), xS 300, xI (xs ((w4 (y3 + 1))).toNat), xR a]) (fun _ _ _ k => e_aload_nS dL_law_891 rfl (i := 0) (x := 300) rfl rfl (e_iload_n dL_law_892 rfl (i := 3) (x := y3) rfl (e_iconst dL_law_893 (k4 rfl) (e_iadd dL_law_894 k)))) ?_
        refine ev_chk (fun h202 => ?_)
        refine ev_st (pc' := 896) (L' := [xS 300, xR a, xR b, xI y3]) (st' := [xI (xs ((w4 (y3 + 2))).toNat), xI (xs ((w4 (y3 + 1))).toNat), xR a]) (fun _ _ _ k => e_xld dL_law_895 h_xs h_xn h202 k) ?_
        refine ev_callV (As := [xI (xs ((w4 (y3 + 1))).toNat), xI (xs ((w4 (y3 + 2))).toNat)]) (st := []) (fun v203 => [xI v203]) dL_law_896 mlL_119 (kd9_0 h_a) rfl rfl rfl rfl rfl rfl (c_X9_opening (d := d + 5) h_a (xs ((w4 (y3 + 1))).toNat) (xs ((w4 (y3 + 2))).toNat)) (fun _ => trivial) (fun _ => rfl) (fun v203 => ?_)
        refine ev_st (pc' := 904) (L' := [xS 300, xR a, xR b, xI y3]) (st' := [xI (w4 (y3 + 1)), xS 300, xR b, xI v203]) (fun _ _ _ k => e_aload_n dL_law_899 rfl (i := 2) (x := b) rfl (e_aload_nS dL_law_900 rfl (i := 0) (x := 300) rfl rfl (e_iload_n dL_law_901 rfl (i := 3) (x := y3) rfl (e_iconst dL_law_902 (k4 rfl) (e_iadd dL_law_903 k))))) ?_
        refine ev_chk (fun h204 => ?_)
        refine ev_st (pc' := 905) (L' := [xS 300, xR a, xR b, xI y3]) (st' := [xI (xs ((w4 (y3 + 1))).toNat), xR b, xI v203]) (fun _ _ _ k => e_xld dL_law_904 h_xs h_xn h204 k) ?_
        refine ev_st (pc' := 909) (L' := [xS 300, xR a, xR b, xI y3]) (st' := [xI (w4 (y3 + 2)), xS 300, xI (xs ((w4 (y3 + 1))).toNat), xR b, xI v203]) (fun _ _ _ k => e_aload_nS dL_law_905 rfl (i := 0) (x := 300) rfl rfl (e_iload_n dL_law_906 rfl (i := 3) (x := y3) rfl (e_iconst dL_law_907 (k4 rfl) (e_iadd dL_law_908 k)))) ?_
        refine ev_chk (fun h205 => ?_)
        refine ev_st (pc' := 910) (L' := [xS 300, xR a, xR b, xI y3]) (st' := [xI (xs ((w4 (y3 + 2))).toNat), xI (xs ((w4 (y3 + 1))).toNat), xR b, xI v203]) (fun _ _ _ k => e_xld dL_law_909 h_xs h_xn h205 k) ?_
        refine ev_callV (As := [xI (xs ((w4 (y3 + 1))).toNat), xI (xs ((w4 (y3 + 2))).toNat)]) (st := [xI v203]) (fun v206 => [xI v206.1, xI v203]) dL_law_910 mlL_122 (kd10_0 h_b) rfl rfl rfl rfl rfl rfl (c_X10_opening (d := d + 5) h_b (xs ((w4 (y3 + 1))).toNat) (xs ((w4 (y3 + 2))).toNat)) (fun _ => trivial) (fun _ => rfl) (fun v206 => ?_)
        refine ev_br2 (P := v203 = v206.1) (pct := 1214) (pcf := 916) (st' := []) (fun _ _ _ kt kf => e_ceq dL_law_913 (tgt := 1214) rfl kt kf) (fun h207 => ?_) (fun h207 => ?_)
        · refine ev_letx (fun x208 ex208 => ?_)
          refine ev_st (pc' := 1217) (L' := [xS 300, xR a, xR b, xI x208]) (st' := []) (fun _ _ _ k => e_iinc dL_law_1214 (i := 3) rfl (x := y3) rfl (y := x208) ex208 (L' := [xS 300, xR a, xR b, xI x208]) rfl k) ?_
          refine ev_st (pc' := 18) (L' := [xS 300, xR a, xR b, xI x208]) (st' := []) (fun _ _ _ k => e_goto dL_law_1217 (tgt := 18) rfl k) ?_
          exact ih x208 v206.2
        · exact ev_ret (e_iconst dL_law_916 (k4 rfl) (e_iret dL_law_917))
      refine ev_ite (P := (b4and (xs (y3).toNat) 63) = 26) (fun h209 => ?_) (fun h209 => ?_)
      · refine ev_st (pc' := 918) (L' := [xS 300, xR a, xR b, xI y3]) (st' := []) (fun _ _ _ k => e_tin dL_law_33 (tgt := 918) (off := 885) (by omega) (by omega) (by rw [h209]; rfl) rfl k) ?_
        refine ev_st (pc' := 923) (L' := [xS 300, xR a, xR b, xI y3]) (st' := [xI (w4 (y3 + 1)), xS 300, xR a]) (fun _ _ _ k => e_aload_n dL_law_918 rfl (i := 1) (x := a) rfl (e_aload_nS dL_law_919 rfl (i := 0) (x := 300) rfl rfl (e_iload_n dL_law_920 rfl (i := 3) (x := y3) rfl (e_iconst dL_law_921 (k4 rfl) (e_iadd dL_law_922 k))))) ?_
        refine ev_chk (fun h210 => ?_)
        refine ev_st (pc' := 924) (L' := [xS 300, xR a, xR b, xI y3]) (st' := [xI (xs ((w4 (y3 + 1))).toNat), xR a]) (fun _ _ _ k => e_xld dL_law_923 h_xs h_xn h210 k) ?_
        refine ev_callV (As := [xI (xs ((w4 (y3 + 1))).toNat)]) (st := []) (fun v211 => [xI v211]) dL_law_924 mlL_123 (kd9_0 h_a) rfl rfl rfl rfl rfl rfl (c_X9_hanging (d := d + 6) h_a (xs ((w4 (y3 + 1))).toNat)) (fun _ => trivial) (fun _ => rfl) (fun v211 => ?_)
        refine ev_st (pc' := 932) (L' := [xS 300, xR a, xR b, xI y3]) (st' := [xI (w4 (y3 + 1)), xS 300, xR b, xI v211]) (fun _ _ _ k => e_aload_n dL_law_927 rfl (i := 2) (x := b) rfl (e_aload_nS dL_law_928 rfl (i := 0) (x := 300) rfl rfl (e_iload_n dL_law_929 rfl (i := 3) (x := y3) rfl (e_iconst dL_law_930 (k4 rfl) (e_iadd dL_law_931 k))))) ?_
        refine ev_chk (fun h212 => ?_)
        refine ev_st (pc' := 933) (L' := [xS 300, xR a, xR b, xI y3]) (st' := [xI (xs ((w4 (y3 + 1))).toNat), xR b, xI v211]) (fun _ _ _ k => e_xld dL_law_932 h_xs h_xn h212 k) ?_
        refine ev_callV (As := [xI (xs ((w4 (y3 + 1))).toNat)]) (st := [xI v211]) (fun v213 => [xI v213.1, xI v211]) dL_law_933 mlL_126 (kd10_0 h_b) rfl rfl rfl rfl rfl rfl (c_X10_hanging (d := d + 5) h_b (xs ((w4 (y3 + 1))).toNat)) (fun _ => trivial) (fun _ => rfl) (fun v213 => ?_)
        refine ev_br2 (P := v211 = v213.1) (pct := 1214) (pcf := 939) (st' := []) (fun _ _ _ kt kf => e_ceq dL_law_936 (tgt := 1214) rfl kt kf) (fun h214 => ?_) (fun h214 => ?_)
        · refine ev_letx (fun x215 ex215 => ?_)
          refine ev_st (pc' := 1217) (L' := [xS 300, xR a, xR b, xI x215]) (st' := []) (fun _ _ _ k => e_iinc dL_law_1214 (i := 3) rfl (x := y3) rfl (y := x215) ex215 (L' := [xS 300, xR a, xR b, xI x215]) rfl k) ?_
          refine ev_st (pc' := 18) (L' := [xS 300, xR a, xR b, xI x215]) (st' := []) (fun _ _ _ k => e_goto dL_law_1217 (tgt := 18) rfl k) ?_
          exact ih x215 v213.2
        · exact ev_ret (e_iconst dL_law_939 (k4 rfl) (e_iret dL_law_940))
      refine ev_ite (P := (b4and (xs (y3).toNat) 63) = 27) (fun h216 => ?_) (fun h216 => ?_)
      · refine ev_st (pc' := 941) (L' := [xS 300, xR a, xR b, xI y3]) (st' := []) (fun _ _ _ k => e_tin dL_law_33 (tgt := 941) (off := 908) (by omega) (by omega) (by rw [h216]; rfl) rfl k) ?_
        refine ev_st (pc' := 946) (L' := [xS 300, xR a, xR b, xI y3]) (st' := [xI (w4 (y3 + 1)), xS 300, xR a]) (fun _ _ _ k => e_aload_n dL_law_941 rfl (i := 1) (x := a) rfl (e_aload_nS dL_law_942 rfl (i := 0) (x := 300) rfl rfl (e_iload_n dL_law_943 rfl (i := 3) (x := y3) rfl (e_iconst dL_law_944 (k4 rfl) (e_iadd dL_law_945 k))))) ?_
        refine ev_chk (fun h217 => ?_)
        refine ev_st (pc' := 947) (L' := [xS 300, xR a, xR b, xI y3]) (st' := [xI (xs ((w4 (y3 + 1))).toNat), xR a]) (fun _ _ _ k => e_xld dL_law_946 h_xs h_xn h217 k) ?_
        refine ev_st (pc' := 951) (L' := [xS 300, xR a, xR b, xI y3]) (st' := [xI (w4 (y3 + 2)), xS 300, xI (xs ((w4 (y3 + 1))).toNat), xR a]) (fun _ _ _ k => e_aload_nS dL_law_947 rfl (i := 0) (x := 300) rfl rfl (e_iload_n dL_law_948 rfl (i := 3) (x := y3) rfl (e_iconst dL_law_949 (k4 rfl) (e_iadd dL_law_950 k)))) ?_
        refine ev_chk (fun h218 => ?_)
        refine ev_st (pc' := 952) (L' := [xS 300, xR a, xR b, xI y3]) (st' := [xI (xs ((w4 (y3 + 2))).toNat), xI (xs ((w4 (y3 + 1))).toNat), xR a]) (fun _ _ _ k => e_xld dL_law_951 h_xs h_xn h218 k) ?_
        refine ev_callV (As := [xI (xs ((w4 (y3 + 1))).toNat), xI (xs ((w4 (y3 + 2))).toNat)]) (st := []) (fun v219 => [xI v219]) dL_law_952 mlL_127 (kd9_0 h_a) rfl rfl rfl rfl rfl rfl (c_X9_together (d := d + 7) h_a (xs ((w4 (y3 + 1))).toNat) (xs ((w4 (y3 + 2))).toNat)) (fun _ => trivial) (fun _ => rfl) (fun v219 => ?_)
        refine ev_st (pc' := 960) (L' := [xS 300, xR a, xR b, xI y3]) (st' := [xI (w4 (y3 + 1)), xS 300, xR b, xI v219]) (fun _ _ _ k => e_aload_n dL_law_955 rfl (i := 2) (x := b) rfl (e_aload_nS dL_law_956 rfl (i := 0) (x := 300) rfl rfl (e_iload_n dL_law_957 rfl (i := 3) (x := y3) rfl (e_iconst dL_law_958 (k4 rfl) (e_iadd dL_law_959 k))))) ?_
        refine ev_chk (fun h220 => ?_)
        refine ev_st (pc' := 961) (L' := [xS 300, xR a, xR b, xI y3]) (st' := [xI (xs ((w4 (y3 + 1))).toNat), xR b, xI v219]) (fun _ _ _ k => e_xld dL_law_960 h_xs h_xn h220 k) ?_
        refine ev_st (pc' := 965) (L' := [xS 300, xR a, xR b, xI y3]) (st' := [xI (w4 (y3 + 2)), xS 300, xI (xs ((w4 (y3 + 1))).toNat), xR b, xI v219]) (fun _ _ _ k => e_aload_nS dL_law_961 rfl (i := 0) (x := 300) rfl rfl (e_iload_n dL_law_962 rfl (i := 3) (x := y3) rfl (e_iconst dL_law_963 (k4 rfl) (e_iadd dL_law_964 k)))) ?_
        refine ev_chk (fun h221 => ?_)
        refine ev_st (pc' := 966) (L' := [xS 300, xR a, xR b, xI y3]) (st' := [xI (xs ((w4 (y3 + 2))).toNat), xI (xs ((w4 (y3 + 1))).toNat), xR b, xI v219]) (fun _ _ _ k => e_xld dL_law_965 h_xs h_xn h221 k) ?_
        refine ev_callV (As := [xI (xs ((w4 (y3 + 1))).toNat), xI (xs ((w4 (y3 + 2))).toNat)]) (st := [xI v219]) (fun v222 => [xI v222.1, xI v219]) dL_law_966 mlL_130 (kd10_0 h_b) rfl rfl rfl rfl rfl rfl (c_X10_together (d := d + 5) h_b (xs ((w4 (y3 + 1))).toNat) (xs ((w4 (y3 + 2))).toNat)) (fun _ => trivial) (fun _ => rfl) (fun v222 => ?_)
        refine ev_br2 (P := v219 = v222.1) (pct := 1214) (pcf := 972) (st' := []) (fun _ _ _ kt kf => e_ceq dL_law_969 (tgt := 1214) rfl kt kf) (fun h223 => ?_) (fun h223 => ?_)
        · refine ev_letx (fun x224 ex224 => ?_)
          refine ev_st (pc' := 1217) (L' := [xS 300, xR a, xR b, xI x224]) (st' := []) (fun _ _ _ k => e_iinc dL_law_1214 (i := 3) rfl (x := y3) rfl (y := x224) ex224 (L' := [xS 300, xR a, xR b, xI x224]) rfl k) ?_
          refine ev_st (pc' := 18) (L' := [xS 300, xR a, xR b, xI x224]) (st' := []) (fun _ _ _ k => e_goto dL_law_1217 (tgt := 18) rfl k) ?_
          exact ih x224 v222.2
        · exact ev_ret (e_iconst dL_law_972 (k4 rfl) (e_iret dL_law_973))
      refine ev_ite (P := (b4and (xs (y3).toNat) 63) = 28) (fun h225 => ?_) (fun h225 => ?_)
      · refine ev_st (pc' := 974) (L' := [xS 300, xR a, xR b, xI y3]) (st' := []) (fun _ _ _ k => e_tin dL_law_33 (tgt := 974) (off := 941) (by omega) (by omega) (by rw [h225]; rfl) rfl k) ?_
        refine ev_st (pc' := 975) (L' := [xS 300, xR a, xR b, xI y3]) (st' := [xR a]) (fun _ _ _ k => e_aload_n dL_law_974 rfl (i := 1) (x := a) rfl k) ?_
        refine ev_callV (As := []) (st := []) (fun v226 => [xI v226]) dL_law_975 mlL_131 (kd9_0 h_a) rfl rfl rfl rfl rfl rfl (c_X9_pieces (d := d + 4) h_a) (fun _ => trivial) (fun _ => rfl) (fun v226 => ?_)
        refine ev_st (pc' := 979) (L' := [xS 300, xR a, xR b, xI y3]) (st' := [xR b, xI v226]) (fun _ _ _ k => e_aload_n dL_law_978 rfl (i := 2) (x := b) rfl k) ?_
        refine ev_callV (As := []) (st := [xI v226]) (fun v227 => [xI v227.1, xI v226]) dL_law_979 mlL_134 (kd10_0 h_b) rfl rfl rfl rfl rfl rfl (c_X10_pieces (d := d + 5) h_b) (fun _ => trivial) (fun _ => rfl) (fun v227 => ?_)
        refine ev_br2 (P := v226 = v227.1) (pct := 1214) (pcf := 985) (st' := []) (fun _ _ _ kt kf => e_ceq dL_law_982 (tgt := 1214) rfl kt kf) (fun h228 => ?_) (fun h228 => ?_)
        · refine ev_letx (fun x229 ex229 => ?_)
          refine ev_st (pc' := 1217) (L' := [xS 300, xR a, xR b, xI x229]) (st' := []) (fun _ _ _ k => e_iinc dL_law_1214 (i := 3) rfl (x := y3) rfl (y := x229) ex229 (L' := [xS 300, xR a, xR b, xI x229]) rfl k) ?_
          refine ev_st (pc' := 18) (L' := [xS 300, xR a, xR b, xI x229]) (st' := []) (fun _ _ _ k => e_goto dL_law_1217 (tgt := 18) rfl k) ?_
          exact ih x229 v227.2
        · exact ev_ret (e_iconst dL_law_985 (k4 rfl) (e_iret dL_law_986))
      refine ev_ite (P := (b4and (xs (y3).toNat) 63) = 29) (fun h230 => ?_) (fun h230 => ?_)
      · refine ev_st (pc' := 987) (L' := [xS 300, xR a, xR b, xI y3]) (st' := []) (fun _ _ _ k => e_tin dL_law_33 (tgt := 987) (off := 954) (by omega) (by omega) (by rw [h230]; rfl) rfl k) ?_
        refine ev_st (pc' := 992) (L' := [xS 300, xR a, xR b, xI y3]) (st' := [xI (w4 (y3 + 1)), xS 300, xR a]) (fun _ _ _ k => e_aload_n dL_law_987 rfl (i := 1) (x := a) rfl (e_aload_nS dL_law_988 rfl (i := 0) (x := 300) rfl rfl (e_iload_n dL_law_989 rfl (i := 3) (x := y3) rfl (e_iconst dL_law_990 (k4 rfl) (e_iadd dL_law_991 k))))) ?_
        refine ev_chk (fun h231 => ?_)
        refine ev_st (pc' := 993) (L' := [xS 300, xR a, xR b, xI y3]) (st' := [xI (xs ((w4 (y3 + 1))).toNat), xR a]) (fun _ _ _ k => e_xld dL_law_992 h_xs h_xn h231 k) ?_
        refine ev_callV (As := [xI (xs ((w4 (y3 + 1))).toNat)]) (st := []) (fun v232 => [xI v232]) dL_law_993 mlL_135 (kd9_0 h_a) rfl rfl rfl rfl rfl rfl (c_X9_reading (d := d + 4) h_a (xs ((w4 (y3 + 1))).toNat)) (fun _ => trivial) (fun _ => rfl) (fun v232 => ?_)
        refine ev_st (pc' := 1001) (L' := [xS 300, xR a, xR b, xI y3]) (st' := [xI (w4 (y3 + 1)), xS 300, xR b, xI v232]) (fun _ _ _ k => e_aload_n dL_law_996 rfl (i := 2) (x := b) rfl (e_aload_nS dL_law_997 rfl (i := 0) (x := 300) rfl rfl (e_iload_n dL_law_998 rfl (i := 3) (x := y3) rfl (e_iconst dL_law_999 (k4 rfl) (e_iadd dL_law_1000 k))))) ?_
        refine ev_chk (fun h233 => ?_)
        refine ev_st (pc' := 1002) (L' := [xS 300, xR a, xR b, xI y3]) (st' := [xI (xs ((w4 (y3 + 1))).toNat), xR b, xI v232]) (fun _ _ _ k => e_xld dL_law_1001 h_xs h_xn h233 k) ?_
        refine ev_callV (As := [xI (xs ((w4 (y3 + 1))).toNat)]) (st := [xI v232]) (fun v234 => [xI v234.1, xI v232]) dL_law_1002 mlL_138 (kd10_0 h_b) rfl rfl rfl rfl rfl rfl (c_X10_reading (d := d + 5) h_b (xs ((w4 (y3 + 1))).toNat)) (fun _ => trivial) (fun _ => rfl) (fun v234 => ?_)
        refine ev_br2 (P := v232 = v234.1) (pct := 1214) (pcf := 1008) (st' := []) (fun _ _ _ kt kf => e_ceq dL_law_1005 (tgt := 1214) rfl kt kf) (fun h235 => ?_) (fun h235 => ?_)
        · refine ev_letx (fun x236 ex236 => ?_)
          refine ev_st (pc' := 1217) (L' := [xS 300, xR a, xR b, xI x236]) (st' := []) (fun _ _ _ k => e_iinc dL_law_1214 (i := 3) rfl (x := y3) rfl (y := x236) ex236 (L' := [xS 300, xR a, xR b, xI x236]) rfl k) ?_
          refine ev_st (pc' := 18) (L' := [xS 300, xR a, xR b, xI x236]) (st' := []) (fun _ _ _ k => e_goto dL_law_1217 (tgt := 18) rfl k) ?_
          exact ih x236 v234.2
        · exact ev_ret (e_iconst dL_law_1008 (k4 rfl) (e_iret dL_law_1009))
      refine ev_ite (P := (b4and (xs (y3).toNat) 63) = 30) (fun h237 => ?_) (fun h237 => ?_)
      · refine ev_st (pc' := 1010) (L' := [xS 300, xR a, xR b, xI y3]) (st' := []) (fun _ _ _ k => e_tin dL_law_33 (tgt := 1010) (off := 977) (by omega) (by omega) (by rw [h237]; rfl) rfl k) ?_
        refine ev_st (pc' := 1015) (L' := [xS 300, xR a, xR b, xI y3]) (st' := [xI (w4 (y3 + 1)), xS 300, xR a]) (fun _ _ _ k => e_aload_n dL_law_1010 rfl (i := 1) (x := a) rfl (e_aload_nS dL_law_1011 rfl (i := 0) (x := 300) rfl rfl (e_iload_n dL_law_1012 rfl (i := 3) (x := y3) rfl (e_iconst dL_law_1013 (k4 rfl) (e_iadd dL_law_1014 k))))) ?_
        refine ev_chk (fun h238 => ?_)
        refine ev_st (pc' := 1016) (L' := [xS 300, xR a, xR b, xI y3]) (st' := [xI (xs ((w4 (y3 + 1))).toNat), xR a]) (fun _ _ _ k => e_xld dL_law_1015 h_xs h_xn h238 k) ?_
        refine ev_callV (As := [xI (xs ((w4 (y3 + 1))).toNat)]) (st := []) (fun v239 => [xI v239]) dL_law_1016 mlL_139 (kd9_0 h_a) rfl rfl rfl rfl rfl rfl (c_X9_pageOf (d := d + 6) h_a (xs ((w4 (y3 + 1))).toNat)) (fun _ => trivial) (fun _ => rfl) (fun v239 => ?_)
        refine ev_st (pc' := 1024) (L' := [xS 300, xR a, xR b, xI y3]) (st' := [xI (w4 (y3 + 1)), xS 300, xR b, xI v239]) (fun _ _ _ k => e_aload_n dL_law_1019 rfl (i := 2) (x := b) rfl (e_aload_nS dL_law_1020 rfl (i := 0) (x := 300) rfl rfl (e_iload_n dL_law_1021 rfl (i := 3) (x := y3) rfl (e_iconst dL_law_1022 (k4 rfl) (e_iadd dL_law_1023 k))))) ?_
        refine ev_chk (fun h240 => ?_)
        refine ev_st (pc' := 1025) (L' := [xS 300, xR a, xR b, xI y3]) (st' := [xI (xs ((w4 (y3 + 1))).toNat), xR b, xI v239]) (fun _ _ _ k => e_xld dL_law_1024 h_xs h_xn h240 k) ?_
        refine ev_callV (As := [xI (xs ((w4 (y3 + 1))).toNat)]) (st := [xI v239]) (fun v241 => [xI v241.1, xI v239]) dL_law_1025 mlL_142 (kd10_0 h_b) rfl rfl rfl rfl rfl rfl (c_X10_pageOf (d := d + 5) h_b (xs ((w4 (y3 + 1))).toNat)) (fun _ => trivial) (fun _ => rfl) (fun v241 => ?_)
        refine ev_br2 (P := v239 = v241.1) (pct := 1214) (pcf := 1031) (st' := []) (fun _ _ _ kt kf => e_ceq dL_law_1028 (tgt := 1214) rfl kt kf) (fun h242 => ?_) (fun h242 => ?_)
        · refine ev_letx (fun x243 ex243 => ?_)
          refine ev_st (pc' := 1217) (L' := [xS 300, xR a, xR b, xI x243]) (st' := []) (fun _ _ _ k => e_iinc dL_law_1214 (i := 3) rfl (x := y3) rfl (y := x243) ex243 (L' := [xS 300, xR a, xR b, xI x243]) rfl k) ?_
          refine ev_st (pc' := 18) (L' := [xS 300, xR a, xR b, xI x243]) (st' := []) (fun _ _ _ k => e_goto dL_law_1217 (tgt := 18) rfl k) ?_
          exact ih x243 v241.2
        · exact ev_ret (e_iconst dL_law_1031 (k4 rfl) (e_iret dL_law_1032))
      refine ev_ite (P := (b4and (xs (y3).toNat) 63) = 31) (fun h244 => ?_) (fun h244 => ?_)
      · refine ev_st (pc' := 1033) (L' := [xS 300, xR a, xR b, xI y3]) (st' := []) (fun _ _ _ k => e_tin dL_law_33 (tgt := 1033) (off := 1000) (by omega) (by omega) (by rw [h244]; rfl) rfl k) ?_
        refine ev_st (pc' := 1038) (L' := [xS 300, xR a, xR b, xI y3]) (st' := [xI (w4 (y3 + 1)), xS 300, xR a]) (fun _ _ _ k => e_aload_n dL_law_1033 rfl (i := 1) (x := a) rfl (e_aload_nS dL_law_1034 rfl (i := 0) (x := 300) rfl rfl (e_iload_n dL_law_1035 rfl (i := 3) (x := y3) rfl (e_iconst dL_law_1036 (k4 rfl) (e_iadd dL_law_1037 k))))) ?_
        refine ev_chk (fun h245 => ?_)
        refine ev_st (pc' := 1039) (L' := [xS 300, xR a, xR b, xI y3]) (st' := [xI (xs ((w4 (y3 + 1))).toNat), xR a]) (fun _ _ _ k => e_xld dL_law_1038 h_xs h_xn h245 k) ?_
        refine ev_st (pc' := 1043) (L' := [xS 300, xR a, xR b, xI y3]) (st' := [xI (w4 (y3 + 2)), xS 300, xI (xs ((w4 (y3 + 1))).toNat), xR a]) (fun _ _ _ k => e_aload_nS dL_law_1039 rfl (i := 0) (x := 300) rfl rfl (e_iload_n dL_law_1040 rfl (i := 3) (x := y3) rfl (e_iconst dL_law_1041 (k4 rfl) (e_iadd dL_law_1042 k)))) ?_
        refine ev_chk (fun h246 => ?_)
        refine ev_st (pc' := 1044) (L' := [xS 300, xR a, xR b, xI y3]) (st' := [xI (xs ((w4 (y3 + 2))).toNat), xI (xs ((w4 (y3 + 1))).toNat), xR a]) (fun _ _ _ k => e_xld dL_law_1043 h_xs h_xn h246 k) ?_
        refine ev_callV (As := [xI (xs ((w4 (y3 + 1))).toNat), xI (xs ((w4 (y3 + 2))).toNat)]) (st := []) (fun v247 => [xI v247.1]) dL_law_1044 mlL_143 (kd9_0 h_a) rfl rfl rfl rfl rfl rfl (c_X9_note (d := d + 3) h_a (xs ((w4 (y3 + 1))).toNat) (xs ((w4 (y3 + 2))).toNat)) (fun _ => trivial) (fun _ => rfl) (fun v247 => ?_)
        refine ev_st (pc' := 1052) (L' := [xS 300, xR a, xR b, xI y3]) (st' := [xI (w4 (y3 + 1)), xS 300, xR b, xI v247.1]) (fun _ _ _ k => e_aload_n dL_law_1047 rfl (i := 2) (x := b) rfl (e_aload_nS dL_law_1048 rfl (i := 0) (x := 300) rfl rfl (e_iload_n dL_law_1049 rfl (i := 3) (x := y3) rfl (e_iconst dL_law_1050 (k4 rfl) (e_iadd dL_law_1051 k))))) ?_
        refine ev_chk (fun h248 => ?_)
        refine ev_st (pc' := 1053) (L' := [xS 300, xR a, xR b, xI y3]) (st' := [xI (xs ((w4 (y3 + 1))).toNat), xR b, xI v247.1]) (fun _ _ _ k => e_xld dL_law_1052 h_xs h_xn h248 k) ?_
        refine ev_st (pc' := 1057) (L' := [xS 300, xR a, xR b, xI y3]) (st' := [xI (w4 (y3 + 2)), xS 300, xI (xs ((w4 (y3 + 1))).toNat), xR b, xI v247.1]) (fun _ _ _ k => e_aload_nS dL_law_1053 rfl (i := 0) (x := 300) rfl rfl (e_iload_n dL_law_1054 rfl (i := 3) (x := y3) rfl (e_iconst dL_law_1055 (k4 rfl) (e_iadd dL_law_1056 k)))) ?_
        refine ev_chk (fun h249 => ?_)
        refine ev_st (pc' := 1058) (L' := [xS 300, xR a, xR b, xI y3]) (st' := [xI (xs ((w4 (y3 + 2))).toNat), xI (xs ((w4 (y3 + 1))).toNat), xR b, xI v247.1]) (fun _ _ _ k => e_xld dL_law_1057 h_xs h_xn h249 k) ?_
        refine ev_callV (As := [xI (xs ((w4 (y3 + 1))).toNat), xI (xs ((w4 (y3 + 2))).toNat)]) (st := [xI v247.1]) (fun v250 => [xI v250.1, xI v247.1]) dL_law_1058 mlL_146 (kd10_0 h_b) rfl rfl rfl rfl rfl rfl (c_X10_note (d := d + 5) h_b (xs ((w4 (y3 + 1))).toNat) (xs ((w4 (y3 + 2))).toNat)) (fun _ => trivial) (fun _ => rfl) (fun v250 => ?_)
        refine ev_br2 (P := v247.1 = v250.1) (pct := 1214) (pcf := 1064) (st' := []) (fun _ _ _ kt kf => e_ceq dL_law_1061 (tgt := 1214) rfl kt kf) (fun h251 => ?_) (fun h251 => ?_)
        · refine ev_letx (fun x252 ex252 => ?_)
          refine ev_st (pc' := 1217) (L' := [xS 300, xR a, xR b, xI x252]) (st' := []) (fun _ _ _ k => e_iinc dL_law_1214 (i := 3) rfl (x := y3) rfl (y := x252) ex252 (L' := [xS 300, xR a, xR b, xI x252]) rfl k) ?_
          refine ev_st (pc' := 18) (L' := [xS 300, xR a, xR b, xI x252]) (st' := []) (fun _ _ _ k => e_goto dL_law_1217 (tgt := 18) rfl k) ?_
          exact ih x252 v250.2
        · exact ev_ret (e_iconst dL_law_1064 (k4 rfl) (e_iret dL_law_1065))
      refine ev_ite (P := (b4and (xs (y3).toNat) 63) = 32) (fun h253 => ?_) (fun h253 => ?_)
      · refine ev_st (pc' := 1066) (L' := [xS 300, xR a, xR b, xI y3]) (st' := []) (fun _ _ _ k => e_tin dL_law_33 (tgt := 1066) (off := 1033) (by omega) (by omega) (by rw [h253]; rfl) rfl k) ?_
        refine ev_st (pc' := 1071) (L' := [xS 300, xR a, xR b, xI y3]) (st' := [xI (w4 (y3 + 1)), xS 300, xR a]) (fun _ _ _ k => e_aload_n dL_law_1066 rfl (i := 1) (x := a) rfl (e_aload_nS dL_law_1067 rfl (i := 0) (x := 300) rfl rfl (e_iload_n dL_law_1068 rfl (i := 3) (x := y3) rfl (e_iconst dL_law_1069 (k4 rfl) (e_iadd dL_law_1070 k))))) ?_
        refine ev_chk (fun h254 => ?_)
        refine ev_st (pc' := 1072) (L' := [xS 300, xR a, xR b, xI y3]) (st' := [xI (xs ((w4 (y3 + 1))).toNat), xR a]) (fun _ _ _ k => e_xld dL_law_1071 h_xs h_xn h254 k) ?_
        refine ev_st (pc' := 1076) (L' := [xS 300, xR a, xR b, xI y3]) (st' := [xI (w4 (y3 + 2)), xS 300, xI (xs ((w4 (y3 + 1))).toNat), xR a]) (fun _ _ _ k => e_aload_nS dL_law_1072 rfl (i := 0) (x := 300) rfl rfl (e_iload_n dL_law_1073 rfl (i := 3) (x := y3) rfl (e_iconst dL_law_1074 (k4 rfl) (e_iadd dL_law_1075 k)))) ?_
        refine ev_chk (fun h255 => ?_)
        refine ev_st (pc' := 1077) (L' := [xS 300, xR a, xR b, xI y3]) (st' := [xI (xs ((w4 (y3 + 2))).toNat), xI (xs ((w4 (y3 + 1))).toNat), xR a]) (fun _ _ _ k => e_xld dL_law_1076 h_xs h_xn h255 k) ?_
        refine ev_callV (As := [xI (xs ((w4 (y3 + 1))).toNat), xI (xs ((w4 (y3 + 2))).toNat)]) (st := []) (fun v256 => [xI v256.1]) dL_law_1077 mlL_147 (kd9_0 h_a) rfl rfl rfl rfl rfl rfl (c_X9_index (d := d + 3) h_a (xs ((w4 (y3 + 1))).toNat) (xs ((w4 (y3 + 2))).toNat)) (fun _ => trivial) (fun _ => rfl) (fun v256 => ?_)
        refine ev_st (pc' := 1085) (L' := [xS 300, xR a, xR b, xI y3]) (st' := [xI (w4 (y3 + 1)), xS 300, xR b, xI v256.1]) (fun _ _ _ k => e_aload_n dL_law_1080 rfl (i := 2) (x := b) rfl (e_aload_nS dL_law_1081 rfl (i := 0) (x := 300) rfl rfl (e_iload_n dL_law_1082 rfl (i := 3) (x := y3) rfl (e_iconst dL_law_1083 (k4 rfl) (e_iadd dL_law_1084 k))))) ?_
        refine ev_chk (fun h257 => ?_)
        refine ev_st (pc' := 1086) (L' := [xS 300, xR a, xR b, xI y3]) (st' := [xI (xs ((w4 (y3 + 1))).toNat), xR b, xI v256.1]) (fun _ _ _ k => e_xld dL_law_1085 h_xs h_xn h257 k) ?_
        refine ev_st (pc' := 1090) (L' := [xS 300, xR a, xR b, xI y3]) (st' := [xI (w4 (y3 + 2)), xS 300, xI (xs ((w4 (y3 + 1))).toNat), xR b, xI v256.1]) (fun _ _ _ k => e_aload_nS dL_law_1086 rfl (i := 0) (x := 300) rfl rfl (e_iload_n dL_law_1087 rfl (i := 3) (x := y3) rfl (e_iconst dL_law_1088 (k4 rfl) (e_iadd dL_law_1089 k)))) ?_
        refine ev_chk (fun h258 => ?_)
        refine ev_st (pc' := 1091) (L' := [xS 300, xR a, xR b, xI y3]) (st' := [xI (xs ((w4 (y3 + 2))).toNat), xI (xs ((w4 (y3 + 1))).toNat), xR b, xI v256.1]) (fun _ _ _ k => e_xld dL_law_1090 h_xs h_xn h258 k) ?_
        refine ev_callV (As := [xI (xs ((w4 (y3 + 1))).toNat), xI (xs ((w4 (y3 + 2))).toNat)]) (st := [xI v256.1]) (fun v259 => [xI v259.1, xI v256.1]) dL_law_1091 mlL_150 (kd10_0 h_b) rfl rfl rfl rfl rfl rfl (c_X10_index (d := d + 5) h_b (xs ((w4 (y3 + 1))).toNat) (xs ((w4 (y3 + 2))).toNat)) (fun _ => trivial) (fun _ => rfl) (fun v259 => ?_)
        refine ev_br2 (P := v256.1 = v259.1) (pct := 1214) (pcf := 1097) (st' := []) (fun _ _ _ kt kf => e_ceq dL_law_1094 (tgt := 1214) rfl kt kf) (fun h260 => ?_) (fun h260 => ?_)
        · refine ev_letx (fun x261 ex261 => ?_)
          refine ev_st (pc' := 1217) (L' := [xS 300, xR a, xR b, xI x261]) (st' := []) (fun _ _ _ k => e_iinc dL_law_1214 (i := 3) rfl (x := y3) rfl (y := x261) ex261 (L' := [xS 300, xR a, xR b, xI x261]) rfl k) ?_
          refine ev_st (pc' := 18) (L' := [xS 300, xR a, xR b, xI x261]) (st' := []) (fun _ _ _ k => e_goto dL_law_1217 (tgt := 18) rfl k) ?_
          exact ih x261 v259.2
        · exact ev_ret (e_iconst dL_law_1097 (k4 rfl) (e_iret dL_law_1098))
      refine ev_ite (P := (b4and (xs (y3).toNat) 63) = 33) (fun h262 => ?_) (fun h262 => ?_)
      · refine ev_st (pc' := 1099) (L' := [xS 300, xR a, xR b, xI y3]) (st' := []) (fun _ _ _ k => e_tin dL_law_33 (tgt := 1099) (off := 1066) (by omega) (by omega) (by rw [h262]; rfl) rfl k) ?_
        refine ev_st (pc' := 1104) (L' := [xS 300, xR a, xR b, xI y3]) (st' := [xI (w4 (y3 + 1)), xS 300, xR a]) (fun _ _ _ k => e_aload_n dL_law_1099 rfl (i := 1) (x := a) rfl (e_aload_nS dL_law_1100 rfl (i := 0) (x := 300) rfl rfl (e_iload_n dL_law_1101 rfl (i := 3) (x := y3) rfl (e_iconst dL_law_1102 (k4 rfl) (e_iadd dL_law_1103 k))))) ?_
        refine ev_chk (fun h263 => ?_)
        refine ev_st (pc' := 1105) (L' := [xS 300, xR a, xR b, xI y3]) (st' := [xI (xs ((w4 (y3 + 1))).toNat), xR a]) (fun _ _ _ k => e_xld dL_law_1104 h_xs h_xn h263 k) ?_
        refine ev_callV (As := [xI (xs ((w4 (y3 + 1))).toNat)]) (st := []) (fun v264 => [xI v264]) dL_law_1105 mlL_151 (kd9_0 h_a) rfl rfl rfl rfl rfl rfl (c_X9_effort (d := d + 7) h_a (xs ((w4 (y3 + 1))).toNat)) (fun _ => trivial) (fun _ => rfl) (fun v264 => ?_)
        refine ev_st (pc' := 1113) (L' := [xS 300, xR a, xR b, xI y3]) (st' := [xI (w4 (y3 + 1)), xS 300, xR b, xI v264]) (fun _ _ _ k => e_aload_n dL_law_1108 rfl (i := 2) (x := b) rfl (e_aload_nS dL_law_1109 rfl (i := 0) (x := 300) rfl rfl (e_iload_n dL_law_1110 rfl (i := 3) (x := y3) rfl (e_iconst dL_law_1111 (k4 rfl) (e_iadd dL_law_1112 k))))) ?_
        refine ev_chk (fun h265 => ?_)
        refine ev_st (pc' := 1114) (L' := [xS 300, xR a, xR b, xI y3]) (st' := [xI (xs ((w4 (y3 + 1))).toNat), xR b, xI v264]) (fun _ _ _ k => e_xld dL_law_1113 h_xs h_xn h265 k) ?_
        refine ev_callV (As := [xI (xs ((w4 (y3 + 1))).toNat)]) (st := [xI v264]) (fun v266 => [xI v266, xI v264]) dL_law_1114 mlL_154 (kd10_0 h_b) rfl rfl rfl rfl rfl rfl (c_X10_effort (d := d + 8) h_b (xs ((w4 (y3 + 1))).toNat)) (fun _ => trivial) (fun _ => rfl) (fun v266 => ?_)
        refine ev_br2 (P := v264 = v266) (pct := 1214) (pcf := 1120) (st' := []) (fun _ _ _ kt kf => e_ceq dL_law_1117 (tgt := 1214) rfl kt kf) (fun h267 => ?_) (fun h267 => ?_)
        · refine ev_letx (fun x268 ex268 => ?_)
          refine ev_st (pc' := 1217) (L' := [xS 300, xR a, xR b, xI x268]) (st' := []) (fun _ _ _ k => e_iinc dL_law_1214 (i := 3) rfl (x := y3) rfl (y := x268) ex268 (L' := [xS 300, xR a, xR b, xI x268]) rfl k) ?_
          refine ev_st (pc' := 18) (L' := [xS 300, xR a, xR b, xI x268]) (st' := []) (fun _ _ _ k => e_goto dL_law_1217 (tgt := 18) rfl k) ?_
          exact ih x268 R
        · exact ev_ret (e_iconst dL_law_1120 (k4 rfl) (e_iret dL_law_1121))
      refine ev_ite (P := (b4and (xs (y3).toNat) 63) = 34) (fun h269 => ?_) (fun h269 => ?_)
      · refine ev_st (pc' := 1122) (L' := [xS 300, xR a, xR b, xI y3]) (st' := []) (fun _ _ _ k => e_tin dL_law_33 (tgt := 1122) (off := 1089) (by omega) (by omega) (by rw [h269]; rfl) rfl k) ?_
        refine ev_st (pc' := 1127) (L' := [xS 300, xR a, xR b, xI y3]) (st' := [xI (w4 (y3 + 1)), xS 300, xR a]) (fun _ _ _ k => e_aload_n dL_law_1122 rfl (i := 1) (x := a) rfl (e_aload_nS dL_law_1123 rfl (i := 0) (x := 300) rfl rfl (e_iload_n dL_law_1124 rfl (i := 3) (x := y3) rfl (e_iconst dL_law_1125 (k4 rfl) (e_iadd dL_law_1126 k))))) ?_
        refine ev_chk (fun h270 => ?_)
        refine ev_st (pc' := 1128) (L' := [xS 300, xR a, xR b, xI y3]) (st' := [xI (xs ((w4 (y3 + 1))).toNat), xR a]) (fun _ _ _ k => e_xld dL_law_1127 h_xs h_xn h270 k) ?_
        refine ev_callV (As := [xI (xs ((w4 (y3 + 1))).toNat)]) (st := []) (fun v271 => [xI v271.1]) dL_law_1128 mlL_155 (kd9_0 h_a) rfl rfl rfl rfl rfl rfl (c_X9_fitting (d := d + 4) h_a (xs ((w4 (y3 + 1))).toNat)) (fun _ => trivial) (fun _ => rfl) (fun v271 => ?_)
        refine ev_st (pc' := 1136) (L' := [xS 300, xR a, xR b, xI y3]) (st' := [xI (w4 (y3 + 1)), xS 300, xR b, xI v271.1]) (fun _ _ _ k => e_aload_n dL_law_1131 rfl (i := 2) (x := b) rfl (e_aload_nS dL_law_1132 rfl (i := 0) (x := 300) rfl rfl (e_iload_n dL_law_1133 rfl (i := 3) (x := y3) rfl (e_iconst dL_law_1134 (k4 rfl) (e_iadd dL_law_1135 k))))) ?_
        refine ev_chk (fun h272 => ?_)
        refine ev_st (pc' := 1137) (L' := [xS 300, xR a, xR b, xI y3]) (st' := [xI (xs ((w4 (y3 + 1))).toNat), xR b, xI v271.1]) (fun _ _ _ k => e_xld dL_law_1136 h_xs h_xn h272 k) ?_
        refine ev_callV (As := [xI (xs ((w4 (y3 + 1))).toNat)]) (st := [xI v271.1]) (fun v273 => [xI v273.1, xI v271.1]) dL_law_1137 mlL_158 (kd10_0 h_b) rfl rfl rfl rfl rfl rfl (c_X10_fitting (d := d + 6) h_b (xs ((w4 (y3 + 1))).toNat)) (fun _ => trivial) (fun _ => rfl) (fun v273 => ?_)
        refine ev_br2 (P := v271.1 = v273.1) (pct := 1214) (pcf := 1143) (st' := []) (fun _ _ _ kt kf => e_ceq dL_law_1140 (tgt := 1214) rfl kt kf) (fun h274 => ?_) (fun h274 => ?_)
        · refine ev_letx (fun x275 ex275 => ?_)
          refine ev_st (pc' := 1217) (L' := [xS 300, xR a, xR b, xI x275]) (st' := []) (fun _ _ _ k => e_iinc dL_law_1214 (i := 3) rfl (x := y3) rfl (y := x275) ex275 (L' := [xS 300, xR a, xR b, xI x275]) rfl k) ?_
          refine ev_st (pc' := 18) (L' := [xS 300, xR a, xR b, xI x275]) (st' := []) (fun _ _ _ k => e_goto dL_law_1217 (tgt := 18) rfl k) ?_
          exact ih x275 v273.2
        · exact ev_ret (e_iconst dL_law_1143 (k4 rfl) (e_iret dL_law_1144))
      refine ev_ite (P := (b4and (xs (y3).toNat) 63) = 35) (fun h276 => ?_) (fun h276 => ?_)
      · refine ev_st (pc' := 1145) (L' := [xS 300, xR a, xR b, xI y3]) (st' := []) (fun _ _ _ k => e_tin dL_law_33 (tgt := 1145) (off := 1112) (by omega) (by omega) (by rw [h276]; rfl) rfl k) ?_
        refine ev_st (pc' := 1150) (L' := [xS 300, xR a, xR b, xI y3]) (st' := [xI (w4 (y3 + 1)), xS 300, xR a]) (fun _ _ _ k => e_aload_n dL_law_1145 rfl (i := 1) (x := a) rfl (e_aload_nS dL_law_1146 rfl (i := 0) (x := 300) rfl rfl (e_iload_n dL_law_1147 rfl (i := 3) (x := y3) rfl (e_iconst dL_law_1148 (k4 rfl) (e_iadd dL_law_1149 k))))) ?_
        refine ev_chk (fun h277 => ?_)
        refine ev_st (pc' := 1151) (L' := [xS 300, xR a, xR b, xI y3]) (st' := [xI (xs ((w4 (y3 + 1))).toNat), xR a]) (fun _ _ _ k => e_xld dL_law_1150 h_xs h_xn h277 k) ?_
        refine ev_callV (As := [xI (xs ((w4 (y3 + 1))).toNat)]) (st := []) (fun v278 => [xI v278.1]) dL_law_1151 mlL_159 (kd9_0 h_a) rfl rfl rfl rfl rfl rfl (c_X9_readsBy (d := d + 4) h_a (xs ((w4 (y3 + 1))).toNat)) (fun _ => trivial) (fun _ => rfl) (fun v278 => ?_)
        refine ev_st (pc' := 1159) (L' := [xS 300, xR a, xR b, xI y3]) (st' := [xI (w4 (y3 + 1)), xS 300, xR b, xI v278.1]) (fun _ _ _ k => e_aload_n dL_law_1154 rfl (i := 2) (x := b) rfl (e_aload_nS dL_law_1155 rfl (i := 0) (x := 300) rfl rfl (e_iload_n dL_law_1156 rfl (i := 3) (x := y3) rfl (e_iconst dL_law_1157 (k4 rfl) (e_iadd dL_law_1158 k))))) ?_
        refine ev_chk (fun h279 => ?_)
        refine ev_st (pc' := 1160) (L' := [xS 300, xR a, xR b, xI y3]) (st' := [xI (xs ((w4 (y3 + 1))).toNat), xR b, xI v278.1]) (fun _ _ _ k => e_xld dL_law_1159 h_xs h_xn h279 k) ?_
        refine ev_callV (As := [xI (xs ((w4 (y3 + 1))).toNat)]) (st := [xI v278.1]) (fun v280 => [xI v280.1, xI v278.1]) dL_law_1160 mlL_162 (kd10_0 h_b) rfl rfl rfl rfl rfl rfl (c_X10_readsBy (d := d + 5) h_b (xs ((w4 (y3 + 1))).toNat)) (fun _ => trivial) (fun _ => rfl) (fun v280 => ?_)
        refine ev_br2 (P := v278.1 = v280.1) (pct := 1214) (pcf := 1166) (st' := []) (fun _ _ _ kt kf => e_ceq dL_law_1163 (tgt := 1214) rfl kt kf) (fun h281 => ?_) (fun h281 => ?_)
        · refine ev_letx (fun x282 ex282 => ?_)
          refine ev_st (pc' := 1217) (L' := [xS 300, xR a, xR b, xI x282]) (st' := []) (fun _ _ _ k => e_iinc dL_law_1214 (i := 3) rfl (x := y3) rfl (y := x282) ex282 (L' := [xS 300, xR a, xR b, xI x282]) rfl k) ?_
          refine ev_st (pc' := 18) (L' := [xS 300, xR a, xR b, xI x282]) (st' := []) (fun _ _ _ k => e_goto dL_law_1217 (tgt := 18) rfl k) ?_
          exact ih x282 v280.2
        · exact ev_ret (e_iconst dL_law_1166 (k4 rfl) (e_iret dL_law_1167))
      refine ev_ite (P := (b4and (xs (y3).toNat) 63) = 36) (fun h283 => ?_) (fun h283 => ?_)
      · refine ev_st (pc' := 1168) (L' := [xS 300, xR a, xR b, xI y3]) (st' := []) (fun _ _ _ k => e_tin dL_law_33 (tgt := 1168) (off := 1135) (by omega) (by omega) (by rw [h283]; rfl) rfl k) ?_
        refine ev_st (pc' := 1173) (L' := [xS 300, xR a, xR b, xI y3]) (st' := [xI (w4 (y3 + 1)), xS 300, xR a]) (fun _ _ _ k => e_aload_n dL_law_1168 rfl (i := 1) (x := a) rfl (e_aload_nS dL_law_1169 rfl (i := 0) (x := 300) rfl rfl (e_iload_n dL_law_1170 rfl (i := 3) (x := y3) rfl (e_iconst dL_law_1171 (k4 rfl) (e_iadd dL_law_1172 k))))) ?_
        refine ev_chk (fun h284 => ?_)
        refine ev_st (pc' := 1174) (L' := [xS 300, xR a, xR b, xI y3]) (st' := [xI (xs ((w4 (y3 + 1))).toNat), xR a]) (fun _ _ _ k => e_xld dL_law_1173 h_xs h_xn h284 k) ?_
        refine ev_callV (As := [xI (xs ((w4 (y3 + 1))).toNat)]) (st := []) (fun v285 => [xI v285.1]) dL_law_1174 mlL_163 (kd9_0 h_a) rfl rfl rfl rfl rfl rfl (c_X9_cutsFor (d := d + 4) h_a (xs ((w4 (y3 + 1))).toNat)) (fun _ => trivial) (fun _ => rfl) (fun v285 => ?_)
        refine ev_st (pc' := 1182) (L' := [xS 300, xR a, xR b, xI y3]) (st' := [xI (w4 (y3 + 1)), xS 300, xR b, xI v285.1]) (fun _ _ _ k => e_aload_n dL_law_1177 rfl (i := 2) (x := b) rfl (e_aload_nS dL_law_1178 rfl (i := 0) (x := 300) rfl rfl (e_iload_n dL_law_1179 rfl (i := 3) (x := y3) rfl (e_iconst dL_law_1180 (k4 rfl) (e_iadd dL_law_1181 k))))) ?_
        refine ev_chk (fun h286 => ?_)
        refine ev_st (pc' := 1183) (L' := [xS 300, xR a, xR b, xI y3]) (st' := [xI (xs ((w4 (y3 + 1))).toNat), xR b, xI v285.1]) (fun _ _ _ k => e_xld dL_law_1182 h_xs h_xn h286 k) ?_
        refine ev_callV (As := [xI (xs ((w4 (y3 + 1))).toNat)]) (st := [xI v285.1]) (fun v287 => [xI v287.1, xI v285.1]) dL_law_1183 mlL_166 (kd10_0 h_b) rfl rfl rfl rfl rfl rfl (c_X10_cutsFor (d := d + 6) h_b (xs ((w4 (y3 + 1))).toNat)) (fun _ => trivial) (fun _ => rfl) (fun v287 => ?_)
        refine ev_br2 (P := v285.1 = v287.1) (pct := 1214) (pcf := 1189) (st' := []) (fun _ _ _ kt kf => e_ceq dL_law_1186 (tgt := 1214) rfl kt kf) (fun h288 => ?_) (fun h288 => ?_)
        · refine ev_letx (fun x289 ex289 => ?_)
          refine ev_st (pc' := 1217) (L' := [xS 300, xR a, xR b, xI x289]) (st' := []) (fun _ _ _ k => e_iinc dL_law_1214 (i := 3) rfl (x := y3) rfl (y := x289) ex289 (L' := [xS 300, xR a, xR b, xI x289]) rfl k) ?_
          refine ev_st (pc' := 18) (L' := [xS 300, xR a, xR b, xI x289]) (st' := []) (fun _ _ _ k => e_goto dL_law_1217 (tgt := 18) rfl k) ?_
          exact ih x289 v287.2
        · exact ev_ret (e_iconst dL_law_1189 (k4 rfl) (e_iret dL_law_1190))
      refine ev_ite (P := (b4and (xs (y3).toNat) 63) = 37) (fun h290 => ?_) (fun h290 => ?_)
      · refine ev_st (pc' := 1191) (L' := [xS 300, xR a, xR b, xI y3]) (st' := []) (fun _ _ _ k => e_tin dL_law_33 (tgt := 1191) (off := 1158) (by omega) (by omega) (by rw [h290]; rfl) rfl k) ?_
        refine ev_st (pc' := 1196) (L' := [xS 300, xR a, xR b, xI y3]) (st' := [xI (w4 (y3 + 1)), xS 300, xR a]) (fun _ _ _ k => e_aload_n dL_law_1191 rfl (i := 1) (x := a) rfl (e_aload_nS dL_law_1192 rfl (i := 0) (x := 300) rfl rfl (e_iload_n dL_law_1193 rfl (i := 3) (x := y3) rfl (e_iconst dL_law_1194 (k4 rfl) (e_iadd dL_law_1195 k))))) ?_
        refine ev_chk (fun h291 => ?_)
        refine ev_st (pc' := 1197) (L' := [xS 300, xR a, xR b, xI y3]) (st' := [xI (xs ((w4 (y3 + 1))).toNat), xR a]) (fun _ _ _ k => e_xld dL_law_1196 h_xs h_xn h291 k) ?_
        refine ev_callV (As := [xI (xs ((w4 (y3 + 1))).toNat)]) (st := []) (fun v292 => [xI v292.1]) dL_law_1197 mlL_167 (kd9_0 h_a) rfl rfl rfl rfl rfl rfl (c_X9_best (d := d + 3) h_a (xs ((w4 (y3 + 1))).toNat)) (fun _ => trivial) (fun _ => rfl) (fun v292 => ?_)
        refine ev_st (pc' := 1205) (L' := [xS 300, xR a, xR b, xI y3]) (st' := [xI (w4 (y3 + 1)), xS 300, xR b, xI v292.1]) (fun _ _ _ k => e_aload_n dL_law_1200 rfl (i := 2) (x := b) rfl (e_aload_nS dL_law_1201 rfl (i := 0) (x := 300) rfl rfl (e_iload_n dL_law_1202 rfl (i := 3) (x := y3) rfl (e_iconst dL_law_1203 (k4 rfl) (e_iadd dL_law_1204 k))))) ?_
        refine ev_chk (fun h293 => ?_)
        refine ev_st (pc' := 1206) (L' := [xS 300, xR a, xR b, xI y3]) (st' := [xI (xs ((w4 (y3 + 1))).toNat), xR b, xI v292.1]) (fun _ _ _ k => e_xld dL_law_1205 h_xs h_xn h293 k) ?_
        refine ev_callV (As := [xI (xs ((w4 (y3 + 1))).toNat)]) (st := [xI v292.1]) (fun v294 => [xI v294.1, xI v292.1]) dL_law_1206 mlL_170 (kd10_0 h_b) rfl rfl rfl rfl rfl rfl (c_X10_best (d := d + 5) h_b (xs ((w4 (y3 + 1))).toNat)) (fun _ => trivial) (fun _ => rfl) (fun v294 => ?_)
        refine ev_br2 (P := v292.1 = v294.1) (pct := 1214) (pcf := 1212) (st' := []) (fun _ _ _ kt kf => e_ceq dL_law_1209 (tgt := 1214) rfl kt kf) (fun h295 => ?_) (fun h295 => ?_)
        · refine ev_letx (fun x296 ex296 => ?_)
          refine ev_st (pc' := 1217) (L' := [xS 300, xR a, xR b, xI x296]) (st' := []) (fun _ _ _ k => e_iinc dL_law_1214 (i := 3) rfl (x := y3) rfl (y := x296) ex296 (L' := [xS 300, xR a, xR b, xI x296]) rfl k) ?_
          refine ev_st (pc' := 18) (L' := [xS 300, xR a, xR b, xI x296]) (st' := []) (fun _ _ _ k => e_goto dL_law_1217 (tgt := 18) rfl k) ?_
          exact ih x296 v294.2
        · exact ev_ret (e_iconst dL_law_1212 (k4 rfl) (e_iret dL_law_1213))
      refine ev_st (pc' := 1214) (L' := [xS 300, xR a, xR b, xI y3]) (st' := []) (fun _ _ _ k => e_tout dL_law_33 (tgt := 1214) (by omega) rfl k) ?_
      refine ev_letx (fun x297 ex297 => ?_)
      refine ev_st (pc' := 1217) (L' := [xS 300, xR a, xR b, xI x297]) (st' := []) (fun _ _ _ k => e_iinc dL_law_1214 (i := 3) rfl (x := y3) rfl (y := x297) ex297 (L' := [xS 300, xR a, xR b, xI x297]) rfl k) ?_
      refine ev_st (pc' := 18) (L' := [xS 300, xR a, xR b, xI x297]) (st' := []) (fun _ _ _ k => e_goto dL_law_1217 (tgt := 18) rfl k) ?_
      exact ih x297 R
