/-! ===== BEGIN words of one list among another's, by their places ===== -/
theorem goodIn_r {big : List Cond} (ws : List Cond) (ps : List Nat) (hp : ws = ps.filterMap (fun i => big[i]?)) (h : ws.all goodWord = true) : GoodIn big ws := by
  intro w hw
  have h1 := List.all_eq_true.mp h w hw
  rw [hp] at hw
  obtain ⟨i, -, hi⟩ := List.mem_filterMap.mp hw
  have hm : w ∈ big := by first | exact List.mem_of_getElem? hi | exact List.getElem?_mem hi
  exact ⟨hm, good_of_word h1⟩
theorem goodIn_app {big a b : List Cond} (ha : GoodIn big a) (hb : GoodIn big b) : GoodIn big (a ++ b) := fun w h => (List.mem_append.mp h).elim (ha w) (hb w)
theorem goodIn_ca {big a b : List Cond} {c : Cond} (ha : GoodIn big (c :: a)) (hb : GoodIn big b) : GoodIn big (c :: (a ++ b)) := fun w h => (List.mem_cons.mp h).elim (fun e => ha w (List.mem_cons.mpr (Or.inl e))) (fun h => (List.mem_append.mp h).elim (fun h => ha w (List.mem_cons.mpr (Or.inr h))) (hb w))
theorem goodIn_sub {big ws : List Cond} (hm : ∀ w ∈ ws, w ∈ big) (h : ws.all goodWord = true) : GoodIn big ws := fun w hw => ⟨hm w hw, good_of_word (List.all_eq_true.mp h w hw)⟩
/-! ===== END ===== -/

/-! ===== BEGIN printed: names, fields, word lists, decode rows ===== -/
def RX0 : String := "CribBooklet$Desk"
def TX0 : u_T := fun k => match k with
  | 0 => ("CribBooklet$Desk", "paper", "LCribBooklet$Paper;", true)
  | 1 => ("CribBooklet$Desk", "leaves", "LCribBooklet$Leaves;", true)
  | 2 => ("CribBooklet$Desk", "sights", "LCribBooklet$Sights;", true)
  | 3 => ("CribBooklet$Desk", "notes", "LCribBooklet$Notes;", true)
  | 4 => ("CribBooklet$Desk", "efforts", "[I", true)
  | 5 => ("CribBooklet$Desk", "spine", "I", false)
  | 6 => ("CribBooklet$Desk", "cuts", "I", false)
  | 7 => ("CribBooklet$Desk", "staples", "I", false)
  | 8 => ("CribBooklet$Desk", "legs", "I", false)
  | _ => ("CribBooklet$Desk", "lines", "I", false)
def tyX0 : Nat → FieldType := fun k => match k with
  | 0 => .object "CribBooklet$Paper"
  | 1 => .object "CribBooklet$Leaves"
  | 2 => .object "CribBooklet$Sights"
  | 3 => .object "CribBooklet$Notes"
  | 4 => .array .int
  | 5 => .int
  | 6 => .int
  | 7 => .int
  | 8 => .int
  | _ => .int
abbrev wsX00 : List Cond := u_ws RX0 TX0 10
theorem nmX0 : ∀ a, a < 10 → ∀ b, b < 10 → a ≠ b → (TX0 a).2.1 ≠ (TX0 b).2.1 := by decide +kernel
theorem tyX0_ok : ∀ k, k < 10 → parseFieldDescriptor (TX0 k).2.2.1 = some (tyX0 k) := by decide +kernel
abbrev cX0_init : ByteArray := prog_2_method_1_code
def yX0_init : MethodName := ⟨RX0, "<init>", "()V"⟩
abbrev cX0_copyFrom : ByteArray := prog_2_method_2_code
def yX0_copyFrom : MethodName := ⟨RX0, "copyFrom", "(LCribBooklet$Desk;)V"⟩
abbrev cX0_isFixed : ByteArray := prog_2_method_3_code
def yX0_isFixed : MethodName := ⟨RX0, "isFixed", "()Z"⟩
abbrev cX0_isOpenAndFree : ByteArray := prog_2_method_4_code
def yX0_isOpenAndFree : MethodName := ⟨RX0, "isOpenAndFree", "()Z"⟩
abbrev cX0_effortOf : ByteArray := prog_2_method_5_code
def yX0_effortOf : MethodName := ⟨RX0, "effortOf", "(I)I"⟩
abbrev cX0_isLength : ByteArray := prog_2_method_6_code
def yX0_isLength : MethodName := ⟨RX0, "isLength", "(I)Z"⟩
abbrev cX0_takeSheet : ByteArray := prog_2_method_7_code
def yX0_takeSheet : MethodName := ⟨RX0, "takeSheet", "(II)I"⟩
abbrev cX0_foldOnce : ByteArray := prog_2_method_8_code
def yX0_foldOnce : MethodName := ⟨RX0, "foldOnce", "(I)I"⟩
abbrev cX0_foldBack : ByteArray := prog_2_method_9_code
def yX0_foldBack : MethodName := ⟨RX0, "foldBack", "()I"⟩
abbrev cX0_moveSpine : ByteArray := prog_2_method_10_code
def yX0_moveSpine : MethodName := ⟨RX0, "moveSpine", "(I)I"⟩
abbrev cX0_printSheet : ByteArray := prog_2_method_12_code
def yX0_printSheet : MethodName := ⟨RX0, "printSheet", "(LCribBooklet$Leaves;I)I"⟩
abbrev cX0_cutAlong : ByteArray := prog_2_method_13_code
def yX0_cutAlong : MethodName := ⟨RX0, "cutAlong", "(I)I"⟩
abbrev cX0_setStaple : ByteArray := prog_2_method_14_code
def yX0_setStaple : MethodName := ⟨RX0, "setStaple", "(I)I"⟩
abbrev cX0_drawStaple : ByteArray := prog_2_method_15_code
def yX0_drawStaple : MethodName := ⟨RX0, "drawStaple", "(I)I"⟩
abbrev cX0_changeLegs : ByteArray := prog_2_method_16_code
def yX0_changeLegs : MethodName := ⟨RX0, "changeLegs", "(I)I"⟩
abbrev cX0_keepSight : ByteArray := prog_2_method_18_code
def yX0_keepSight : MethodName := ⟨RX0, "keepSight", "(III)I"⟩
abbrev cX0_numberOn : ByteArray := prog_2_method_19_code
def yX0_numberOn : MethodName := ⟨RX0, "numberOn", "(LCribBooklet$Leaves;I)I"⟩
abbrev cX0_turnForUpright : ByteArray := prog_2_method_20_code
def yX0_turnForUpright : MethodName := ⟨RX0, "turnForUpright", "(LCribBooklet$Leaves;I)I"⟩
abbrev cX0_isUpright : ByteArray := prog_2_method_21_code
def yX0_isUpright : MethodName := ⟨RX0, "isUpright", "(LCribBooklet$Leaves;I)Z"⟩
abbrev cX0_shutEdges : ByteArray := prog_2_method_22_code
def yX0_shutEdges : MethodName := ⟨RX0, "shutEdges", "(I)I"⟩
abbrev cX0_spineEdge : ByteArray := prog_2_method_23_code
def yX0_spineEdge : MethodName := ⟨RX0, "spineEdge", "()I"⟩
abbrev cX0_linesAt : ByteArray := prog_2_method_24_code
def yX0_linesAt : MethodName := ⟨RX0, "linesAt", "(I)I"⟩
abbrev cX0_isHidden : ByteArray := prog_2_method_25_code
def yX0_isHidden : MethodName := ⟨RX0, "isHidden", "(I)Z"⟩
abbrev cX0_whyNotRead : ByteArray := prog_2_method_26_code
def yX0_whyNotRead : MethodName := ⟨RX0, "whyNotRead", "(I)I"⟩
abbrev cX0_countPieces : ByteArray := prog_2_method_27_code
def yX0_countPieces : MethodName := ⟨RX0, "countPieces", "()I"⟩
abbrev cX0_pieceWith : ByteArray := prog_2_method_28_code
def yX0_pieceWith : MethodName := ⟨RX0, "pieceWith", "(I)I"⟩
abbrev cX0_heldWith : ByteArray := prog_2_method_29_code
def yX0_heldWith : MethodName := ⟨RX0, "heldWith", "(I)I"⟩
abbrev cX0_showsAllSights : ByteArray := prog_2_method_30_code
def yX0_showsAllSights : MethodName := ⟨RX0, "showsAllSights", "(LCribBooklet$Leaves;)Z"⟩
abbrev cX0_pagesInOrder : ByteArray := prog_2_method_31_code
def yX0_pagesInOrder : MethodName := ⟨RX0, "pagesInOrder", "(LCribBooklet$Leaves;)I"⟩
abbrev cX0_edgesToCut : ByteArray := prog_2_method_32_code
def yX0_edgesToCut : MethodName := ⟨RX0, "edgesToCut", "(LCribBooklet$Leaves;)I"⟩
def RX1 : String := "CribBooklet$History"
def TX1 : u_T := fun k => match k with
  | 0 => ("CribBooklet$History", "states", "[LCribBooklet$State;", true)
  | _ => ("CribBooklet$History", "size", "I", false)
def tyX1 : Nat → FieldType := fun k => match k with
  | 0 => .array (.object "CribBooklet$State")
  | _ => .int
abbrev wsX10 : List Cond := u_ws RX1 TX1 2
theorem nmX1 : ∀ a, a < 2 → ∀ b, b < 2 → a ≠ b → (TX1 a).2.1 ≠ (TX1 b).2.1 := by decide +kernel
theorem tyX1_ok : ∀ k, k < 2 → parseFieldDescriptor (TX1 k).2.2.1 = some (tyX1 k) := by decide +kernel
abbrev cX1_init : ByteArray := prog_3_method_1_code
def yX1_init : MethodName := ⟨RX1, "<init>", "()V"⟩
abbrev cX1_keep : ByteArray := prog_3_method_2_code
def yX1_keep : MethodName := ⟨RX1, "keep", "(LCribBooklet$State;)V"⟩
abbrev cX1_bringBack : ByteArray := prog_3_method_3_code
def yX1_bringBack : MethodName := ⟨RX1, "bringBack", "(LCribBooklet$State;)V"⟩
abbrev cX1_settle : ByteArray := prog_3_method_4_code
def yX1_settle : MethodName := ⟨RX1, "settle", "(I)I"⟩
abbrev cX1_dropOldest : ByteArray := prog_3_method_5_code
def yX1_dropOldest : MethodName := ⟨RX1, "dropOldest", "()V"⟩
abbrev cX1_goBack : ByteArray := prog_3_method_6_code
def yX1_goBack : MethodName := ⟨RX1, "goBack", "(LCribBooklet$State;)I"⟩
def RX2 : String := "CribBooklet$Layout"
def TX2 : u_T := fun k => match k with
  | 0 => ("CribBooklet$Layout", "order", "[I", true)
  | 1 => ("CribBooklet$Layout", "firstLines", "[I", true)
  | 2 => ("CribBooklet$Layout", "pages", "[I", true)
  | 3 => ("CribBooklet$Layout", "pageCount", "I", false)
  | 4 => ("CribBooklet$Layout", "starts", "[I", true)
  | 5 => ("CribBooklet$Layout", "openings", "I", false)
  | _ => ("CribBooklet$Layout", "lines", "I", false)
def tyX2 : Nat → FieldType := fun k => match k with
  | 0 => .array .int
  | 1 => .array .int
  | 2 => .array .int
  | 3 => .int
  | 4 => .array .int
  | 5 => .int
  | _ => .int
abbrev wsX20 : List Cond := u_ws RX2 TX2 7
theorem nmX2 : ∀ a, a < 7 → ∀ b, b < 7 → a ≠ b → (TX2 a).2.1 ≠ (TX2 b).2.1 := by decide +kernel
theorem tyX2_ok : ∀ k, k < 7 → parseFieldDescriptor (TX2 k).2.2.1 = some (tyX2 k) := by decide +kernel
abbrev cX2_init : ByteArray := prog_4_method_1_code
def yX2_init : MethodName := ⟨RX2, "<init>", "()V"⟩
abbrev cX2_arrange : ByteArray := prog_4_method_2_code
def yX2_arrange : MethodName := ⟨RX2, "arrange", "(LCribBooklet$Desk;)V"⟩
abbrev cX2_countLines : ByteArray := prog_4_method_3_code
def yX2_countLines : MethodName := ⟨RX2, "countLines", "(LCribBooklet$Desk;)V"⟩
abbrev cX2_listPages : ByteArray := prog_4_method_4_code
def yX2_listPages : MethodName := ⟨RX2, "listPages", "(LCribBooklet$Desk;)V"⟩
abbrev cX2_sort : ByteArray := prog_4_method_5_code
def yX2_sort : MethodName := ⟨RX2, "sort", "(LCribBooklet$Notes;)V"⟩
abbrev cX2_keepFirstLine : ByteArray := prog_4_method_6_code
def yX2_keepFirstLine : MethodName := ⟨RX2, "keepFirstLine", "(II)V"⟩
abbrev cX2_linesOf : ByteArray := prog_4_method_7_code
def yX2_linesOf : MethodName := ⟨RX2, "linesOf", "(I)I"⟩
abbrev cX2_roomFor : ByteArray := prog_4_method_8_code
def yX2_roomFor : MethodName := ⟨RX2, "roomFor", "(II)I"⟩
abbrev cX2_roomForWhole : ByteArray := prog_4_method_9_code
def yX2_roomForWhole : MethodName := ⟨RX2, "roomForWhole", "(II)I"⟩
abbrev cX2_pageOfLine : ByteArray := prog_4_method_11_code
def yX2_pageOfLine : MethodName := ⟨RX2, "pageOfLine", "(I)I"⟩
abbrev cX2_takenOn : ByteArray := prog_4_method_14_code
def yX2_takenOn : MethodName := ⟨RX2, "takenOn", "(ILCribBooklet$Notes;)I"⟩
def RX3 : String := "CribBooklet$Leaves"
def TX3 : u_T := fun k => match k with
  | 0 => ("CribBooklet$Leaves", "sheetRows", "I", false)
  | 1 => ("CribBooklet$Leaves", "sheetColumns", "I", false)
  | 2 => ("CribBooklet$Leaves", "rows", "I", false)
  | 3 => ("CribBooklet$Leaves", "columns", "I", false)
  | 4 => ("CribBooklet$Leaves", "folds", "I", false)
  | 5 => ("CribBooklet$Leaves", "foldCount", "I", false)
  | 6 => ("CribBooklet$Leaves", "layers", "[I", true)
  | _ => ("CribBooklet$Leaves", "folded", "[I", true)
def tyX3 : Nat → FieldType := fun k => match k with
  | 0 => .int
  | 1 => .int
  | 2 => .int
  | 3 => .int
  | 4 => .int
  | 5 => .int
  | 6 => .array .int
  | _ => .array .int
abbrev wsX30 : List Cond := u_ws RX3 TX3 8
theorem nmX3 : ∀ a, a < 8 → ∀ b, b < 8 → a ≠ b → (TX3 a).2.1 ≠ (TX3 b).2.1 := by decide +kernel
theorem tyX3_ok : ∀ k, k < 8 → parseFieldDescriptor (TX3 k).2.2.1 = some (tyX3 k) := by decide +kernel
abbrev cX3_init : ByteArray := prog_5_method_1_code
def yX3_init : MethodName := ⟨RX3, "<init>", "()V"⟩
abbrev cX3_copyFrom : ByteArray := prog_5_method_2_code
def yX3_copyFrom : MethodName := ⟨RX3, "copyFrom", "(LCribBooklet$Leaves;)V"⟩
abbrev cX3_spread : ByteArray := prog_5_method_3_code
def yX3_spread : MethodName := ⟨RX3, "spread", "(II)V"⟩
abbrev cX3_depth : ByteArray := prog_5_method_5_code
def yX3_depth : MethodName := ⟨RX3, "depth", "()I"⟩
abbrev cX3_isBooklet : ByteArray := prog_5_method_6_code
def yX3_isBooklet : MethodName := ⟨RX3, "isBooklet", "()Z"⟩
abbrev cX3_lastPage : ByteArray := prog_5_method_7_code
def yX3_lastPage : MethodName := ⟨RX3, "lastPage", "()I"⟩
abbrev cX3_canFold : ByteArray := prog_5_method_8_code
def yX3_canFold : MethodName := ⟨RX3, "canFold", "(I)Z"⟩
abbrev cX3_lay : ByteArray := prog_5_method_9_code
def yX3_lay : MethodName := ⟨RX3, "lay", "(I)V"⟩
abbrev cX3_pile : ByteArray := prog_5_method_10_code
def yX3_pile : MethodName := ⟨RX3, "pile", "(IIII)V"⟩
abbrev cX3_foldBy : ByteArray := prog_5_method_11_code
def yX3_foldBy : MethodName := ⟨RX3, "foldBy", "(III)Z"⟩
abbrev cX3_at : ByteArray := prog_5_method_12_code
def yX3_at : MethodName := ⟨RX3, "at", "(I)I"⟩
abbrev cX3_rowAt : ByteArray := prog_5_method_13_code
def yX3_rowAt : MethodName := ⟨RX3, "rowAt", "(I)I"⟩
abbrev cX3_columnAt : ByteArray := prog_5_method_14_code
def yX3_columnAt : MethodName := ⟨RX3, "columnAt", "(I)I"⟩
abbrev cX3_rowOf : ByteArray := prog_5_method_15_code
def yX3_rowOf : MethodName := ⟨RX3, "rowOf", "(I)I"⟩
abbrev cX3_columnOf : ByteArray := prog_5_method_16_code
def yX3_columnOf : MethodName := ⟨RX3, "columnOf", "(I)I"⟩
abbrev cX3_isUpsideDown : ByteArray := prog_5_method_18_code
def yX3_isUpsideDown : MethodName := ⟨RX3, "isUpsideDown", "(I)Z"⟩
abbrev cX3_sideUpAt : ByteArray := prog_5_method_19_code
def yX3_sideUpAt : MethodName := ⟨RX3, "sideUpAt", "(I)I"⟩
abbrev cX3_sideOfPage : ByteArray := prog_5_method_20_code
def yX3_sideOfPage : MethodName := ⟨RX3, "sideOfPage", "(I)I"⟩
abbrev cX3_paperPlace : ByteArray := prog_5_method_21_code
def yX3_paperPlace : MethodName := ⟨RX3, "paperPlace", "(I)I"⟩
abbrev cX3_sideUp : ByteArray := prog_5_method_22_code
def yX3_sideUp : MethodName := ⟨RX3, "sideUp", "(I)I"⟩
abbrev cX3_edgesBetween : ByteArray := prog_5_method_23_code
def yX3_edgesBetween : MethodName := ⟨RX3, "edgesBetween", "(II)I"⟩
abbrev cX3_edgeToRight : ByteArray := prog_5_method_24_code
def yX3_edgeToRight : MethodName := ⟨RX3, "edgeToRight", "(I)I"⟩
abbrev cX3_edgeBelow : ByteArray := prog_5_method_25_code
def yX3_edgeBelow : MethodName := ⟨RX3, "edgeBelow", "(I)I"⟩
abbrev cX3_pairsAlong : ByteArray := prog_5_method_26_code
def yX3_pairsAlong : MethodName := ⟨RX3, "pairsAlong", "(I)I"⟩
def RX4 : String := "CribBooklet$Notes"
def TX4 : u_T := fun k => match k with
  | 0 => ("CribBooklet$Notes", "fields", "[I", true)
  | _ => ("CribBooklet$Notes", "size", "I", false)
def tyX4 : Nat → FieldType := fun k => match k with
  | 0 => .array .int
  | _ => .int
abbrev wsX40 : List Cond := u_ws RX4 TX4 2
theorem nmX4 : ∀ a, a < 2 → ∀ b, b < 2 → a ≠ b → (TX4 a).2.1 ≠ (TX4 b).2.1 := by decide +kernel
theorem tyX4_ok : ∀ k, k < 2 → parseFieldDescriptor (TX4 k).2.2.1 = some (tyX4 k) := by decide +kernel
abbrev cX4_init : ByteArray := prog_6_method_1_code
def yX4_init : MethodName := ⟨RX4, "<init>", "()V"⟩
abbrev cX4_copyFrom : ByteArray := prog_6_method_2_code
def yX4_copyFrom : MethodName := ⟨RX4, "copyFrom", "(LCribBooklet$Notes;)V"⟩
abbrev cX4_get : ByteArray := prog_6_method_6_code
def yX4_get : MethodName := ⟨RX4, "get", "(II)I"⟩
abbrev cX4_subjectOf : ByteArray := prog_6_method_7_code
def yX4_subjectOf : MethodName := ⟨RX4, "subjectOf", "(I)I"⟩
abbrev cX4_linesOf : ByteArray := prog_6_method_8_code
def yX4_linesOf : MethodName := ⟨RX4, "linesOf", "(I)I"⟩
abbrev cX4_isWhole : ByteArray := prog_6_method_9_code
def yX4_isWhole : MethodName := ⟨RX4, "isWhole", "(I)Z"⟩
abbrev cX4_comesBefore : ByteArray := prog_6_method_10_code
def yX4_comesBefore : MethodName := ⟨RX4, "comesBefore", "(II)Z"⟩
def RX5 : String := "CribBooklet$Paper"
def TX5 : u_T := fun k => match k with
  | 0 => ("CribBooklet$Paper", "rows", "I", false)
  | 1 => ("CribBooklet$Paper", "columns", "I", false)
  | 2 => ("CribBooklet$Paper", "numbers", "[I", true)
  | _ => ("CribBooklet$Paper", "turns", "[I", true)
def tyX5 : Nat → FieldType := fun k => match k with
  | 0 => .int
  | 1 => .int
  | 2 => .array .int
  | _ => .array .int
abbrev wsX50 : List Cond := u_ws RX5 TX5 4
theorem nmX5 : ∀ a, a < 4 → ∀ b, b < 4 → a ≠ b → (TX5 a).2.1 ≠ (TX5 b).2.1 := by decide +kernel
theorem tyX5_ok : ∀ k, k < 4 → parseFieldDescriptor (TX5 k).2.2.1 = some (tyX5 k) := by decide +kernel
abbrev cX5_init : ByteArray := prog_7_method_1_code
def yX5_init : MethodName := ⟨RX5, "<init>", "()V"⟩
abbrev cX5_copyFrom : ByteArray := prog_7_method_2_code
def yX5_copyFrom : MethodName := ⟨RX5, "copyFrom", "(LCribBooklet$Paper;)V"⟩
abbrev cX5_renew : ByteArray := prog_7_method_3_code
def yX5_renew : MethodName := ⟨RX5, "renew", "(II)V"⟩
abbrev cX5_cells : ByteArray := prog_7_method_4_code
def yX5_cells : MethodName := ⟨RX5, "cells", "()I"⟩
abbrev cX5_hasSide : ByteArray := prog_7_method_5_code
def yX5_hasSide : MethodName := ⟨RX5, "hasSide", "(III)Z"⟩
abbrev cX5_numberAt : ByteArray := prog_7_method_6_code
def yX5_numberAt : MethodName := ⟨RX5, "numberAt", "(I)I"⟩
abbrev cX5_turnAt : ByteArray := prog_7_method_7_code
def yX5_turnAt : MethodName := ⟨RX5, "turnAt", "(I)I"⟩
abbrev cX5_stamp : ByteArray := prog_7_method_8_code
def yX5_stamp : MethodName := ⟨RX5, "stamp", "(III)I"⟩
def RX6 : String := "CribBooklet$Reader"
def TX6 : u_T := fun k => match k with
  | 0 => ("CribBooklet$Reader", "text", "[I", true)
  | 1 => ("CribBooklet$Reader", "length", "I", false)
  | 2 => ("CribBooklet$Reader", "tokenStart", "I", false)
  | _ => ("CribBooklet$Reader", "tokenEnd", "I", false)
def tyX6 : Nat → FieldType := fun k => match k with
  | 0 => .array .int
  | 1 => .int
  | 2 => .int
  | _ => .int
abbrev wsX60 : List Cond := u_ws RX6 TX6 4
theorem nmX6 : ∀ a, a < 4 → ∀ b, b < 4 → a ≠ b → (TX6 a).2.1 ≠ (TX6 b).2.1 := by decide +kernel
theorem tyX6_ok : ∀ k, k < 4 → parseFieldDescriptor (TX6 k).2.2.1 = some (tyX6 k) := by decide +kernel
abbrev cX6_init : ByteArray := prog_8_method_1_code
def yX6_init : MethodName := ⟨RX6, "<init>", "()V"⟩
def RX7 : String := "CribBooklet$Sights"
def TX7 : u_T := fun k => match k with
  | 0 => ("CribBooklet$Sights", "pages", "[I", true)
  | 1 => ("CribBooklet$Sights", "numbers", "[I", true)
  | 2 => ("CribBooklet$Sights", "turns", "[I", true)
  | _ => ("CribBooklet$Sights", "size", "I", false)
def tyX7 : Nat → FieldType := fun k => match k with
  | 0 => .array .int
  | 1 => .array .int
  | 2 => .array .int
  | _ => .int
abbrev wsX70 : List Cond := u_ws RX7 TX7 4
theorem nmX7 : ∀ a, a < 4 → ∀ b, b < 4 → a ≠ b → (TX7 a).2.1 ≠ (TX7 b).2.1 := by decide +kernel
theorem tyX7_ok : ∀ k, k < 4 → parseFieldDescriptor (TX7 k).2.2.1 = some (tyX7 k) := by decide +kernel
abbrev cX7_init : ByteArray := prog_9_method_1_code
def yX7_init : MethodName := ⟨RX7, "<init>", "()V"⟩
abbrev cX7_copyFrom : ByteArray := prog_9_method_2_code
def yX7_copyFrom : MethodName := ⟨RX7, "copyFrom", "(LCribBooklet$Sights;)V"⟩
abbrev cX7_dropAll : ByteArray := prog_9_method_3_code
def yX7_dropAll : MethodName := ⟨RX7, "dropAll", "()I"⟩
abbrev cX7_put : ByteArray := prog_9_method_4_code
def yX7_put : MethodName := ⟨RX7, "put", "(III)I"⟩
def RX8 : String := "CribBooklet$State"
def TX8 : u_T := fun k => match k with
  | 0 => ("CribBooklet$State", "desk", "LCribBooklet$Desk;", true)
  | 1 => ("CribBooklet$State", "slots", "[LCribBooklet$Desk;", true)
  | _ => ("CribBooklet$State", "filled", "I", false)
def tyX8 : Nat → FieldType := fun k => match k with
  | 0 => .object "CribBooklet$Desk"
  | 1 => .array (.object "CribBooklet$Desk")
  | _ => .int
abbrev wsX80 : List Cond := u_ws RX8 TX8 3
theorem nmX8 : ∀ a, a < 3 → ∀ b, b < 3 → a ≠ b → (TX8 a).2.1 ≠ (TX8 b).2.1 := by decide +kernel
theorem tyX8_ok : ∀ k, k < 3 → parseFieldDescriptor (TX8 k).2.2.1 = some (tyX8 k) := by decide +kernel
abbrev cX8_init : ByteArray := prog_10_method_1_code
def yX8_init : MethodName := ⟨RX8, "<init>", "()V"⟩
abbrev cX8_copyFrom : ByteArray := prog_10_method_2_code
def yX8_copyFrom : MethodName := ⟨RX8, "copyFrom", "(LCribBooklet$State;)V"⟩
abbrev cX8_fillSlot : ByteArray := prog_10_method_3_code
def yX8_fillSlot : MethodName := ⟨RX8, "fillSlot", "(I)I"⟩
abbrev cX8_useSlot : ByteArray := prog_10_method_4_code
def yX8_useSlot : MethodName := ⟨RX8, "useSlot", "(I)I"⟩
def RX9 : String := "CribBooklet"
def TX9 : u_T := fun k => match k with
  | 0 => ("CribBooklet", "now", "LCribBooklet$State;", true)
  | 1 => ("CribBooklet", "past", "LCribBooklet$History;", true)
  | 2 => ("CribBooklet", "trial", "LCribBooklet$Leaves;", true)
  | 3 => ("CribBooklet", "layout", "LCribBooklet$Layout;", true)
  | 4 => ("CribBooklet", "text", "[I", true)
  | 5 => ("CribBooklet", "textLength", "I", false)
  | 6 => ("CribBooklet", "reader", "LCribBooklet$Reader;", true)
  | 7 => ("CribBooklet", "arguments", "[I", true)
  | _ => ("CribBooklet", "argumentCount", "I", false)
def tyX9 : Nat → FieldType := fun k => match k with
  | 0 => .object "CribBooklet$State"
  | 1 => .object "CribBooklet$History"
  | 2 => .object "CribBooklet$Leaves"
  | 3 => .object "CribBooklet$Layout"
  | 4 => .array .int
  | 5 => .int
  | 6 => .object "CribBooklet$Reader"
  | 7 => .array .int
  | _ => .int
abbrev wsX90 : List Cond := u_ws RX9 TX9 9
theorem nmX9 : ∀ a, a < 9 → ∀ b, b < 9 → a ≠ b → (TX9 a).2.1 ≠ (TX9 b).2.1 := by decide +kernel
theorem tyX9_ok : ∀ k, k < 9 → parseFieldDescriptor (TX9 k).2.2.1 = some (tyX9 k) := by decide +kernel
abbrev cX9_init : ByteArray := prog_1_method_1_code
def yX9_init : MethodName := ⟨RX9, "<init>", "()V"⟩
abbrev cX9_setSheet : ByteArray := prog_1_method_2_code
def yX9_setSheet : MethodName := ⟨RX9, "setSheet", "(II)I"⟩
abbrev cX9_fold : ByteArray := prog_1_method_3_code
def yX9_fold : MethodName := ⟨RX9, "fold", "(I)I"⟩
abbrev cX9_unfold : ByteArray := prog_1_method_4_code
def yX9_unfold : MethodName := ⟨RX9, "unfold", "()I"⟩
abbrev cX9_setSpine : ByteArray := prog_1_method_5_code
def yX9_setSpine : MethodName := ⟨RX9, "setSpine", "(I)I"⟩
abbrev cX9_printAll : ByteArray := prog_1_method_7_code
def yX9_printAll : MethodName := ⟨RX9, "printAll", "(I)I"⟩
abbrev cX9_cut : ByteArray := prog_1_method_8_code
def yX9_cut : MethodName := ⟨RX9, "cut", "(I)I"⟩
abbrev cX9_staple : ByteArray := prog_1_method_9_code
def yX9_staple : MethodName := ⟨RX9, "staple", "(I)I"⟩
abbrev cX9_unstaple : ByteArray := prog_1_method_10_code
def yX9_unstaple : MethodName := ⟨RX9, "unstaple", "(I)I"⟩
abbrev cX9_setLegs : ByteArray := prog_1_method_11_code
def yX9_setLegs : MethodName := ⟨RX9, "setLegs", "(I)I"⟩
abbrev cX9_see : ByteArray := prog_1_method_12_code
def yX9_see : MethodName := ⟨RX9, "see", "(III)I"⟩
abbrev cX9_forget : ByteArray := prog_1_method_13_code
def yX9_forget : MethodName := ⟨RX9, "forget", "()I"⟩
abbrev cX9_take : ByteArray := prog_1_method_17_code
def yX9_take : MethodName := ⟨RX9, "take", "(I)I"⟩
abbrev cX9_restore : ByteArray := prog_1_method_18_code
def yX9_restore : MethodName := ⟨RX9, "restore", "(I)I"⟩
abbrev cX9_undo : ByteArray := prog_1_method_19_code
def yX9_undo : MethodName := ⟨RX9, "undo", "()I"⟩
abbrev cX9_count : ByteArray := prog_1_method_33_code
def yX9_count : MethodName := ⟨RX9, "count", "(I)I"⟩
abbrev cX9_side : ByteArray := prog_1_method_34_code
def yX9_side : MethodName := ⟨RX9, "side", "(IIII)I"⟩
abbrev cX9_page : ByteArray := prog_1_method_36_code
def yX9_page : MethodName := ⟨RX9, "page", "(II)I"⟩
abbrev cX9_uprightOn : ByteArray := prog_1_method_37_code
def yX9_uprightOn : MethodName := ⟨RX9, "uprightOn", "(LCribBooklet$Desk;I)I"⟩
abbrev cX9_opening : ByteArray := prog_1_method_38_code
def yX9_opening : MethodName := ⟨RX9, "opening", "(II)I"⟩
abbrev cX9_hanging : ByteArray := prog_1_method_39_code
def yX9_hanging : MethodName := ⟨RX9, "hanging", "(I)I"⟩
abbrev cX9_pieces : ByteArray := prog_1_method_41_code
def yX9_pieces : MethodName := ⟨RX9, "pieces", "()I"⟩
abbrev cX9_reading : ByteArray := prog_1_method_42_code
def yX9_reading : MethodName := ⟨RX9, "reading", "(I)I"⟩
abbrev cX9_pageOf : ByteArray := prog_1_method_43_code
def yX9_pageOf : MethodName := ⟨RX9, "pageOf", "(I)I"⟩
abbrev cX9_effort : ByteArray := prog_1_method_46_code
def yX9_effort : MethodName := ⟨RX9, "effort", "(I)I"⟩
abbrev cX9_fitting : ByteArray := prog_1_method_47_code
def yX9_fitting : MethodName := ⟨RX9, "fitting", "(I)I"⟩
abbrev cX9_readsBy : ByteArray := prog_1_method_48_code
def yX9_readsBy : MethodName := ⟨RX9, "readsBy", "(I)I"⟩
abbrev cX9_cutsFor : ByteArray := prog_1_method_49_code
def yX9_cutsFor : MethodName := ⟨RX9, "cutsFor", "(I)I"⟩
abbrev cX9_best : ByteArray := prog_1_method_50_code
def yX9_best : MethodName := ⟨RX9, "best", "(I)I"⟩
abbrev cX9_bestFolds : ByteArray := prog_1_method_51_code
def yX9_bestFolds : MethodName := ⟨RX9, "bestFolds", "()I"⟩
abbrev cX9_tryFolds : ByteArray := prog_1_method_52_code
def yX9_tryFolds : MethodName := ⟨RX9, "tryFolds", "(I)Z"⟩
abbrev cX9_rowOfFolds : ByteArray := prog_1_method_53_code
def yX9_rowOfFolds : MethodName := ⟨RX9, "rowOfFolds", "(I)I"⟩
abbrev cX9_isIn : ByteArray := prog_1_method_54_code
def yX9_isIn : MethodName := ⟨RX9, "isIn", "(III)Z"⟩
abbrev cX9_isInSet : ByteArray := prog_1_method_55_code
def yX9_isInSet : MethodName := ⟨RX9, "isInSet", "(II)Z"⟩
abbrev cX9_asNumber : ByteArray := prog_1_method_56_code
def yX9_asNumber : MethodName := ⟨RX9, "asNumber", "(Z)I"⟩
abbrev cX9_isError : ByteArray := prog_1_method_57_code
def yX9_isError : MethodName := ⟨RX9, "isError", "(I)Z"⟩
abbrev cX9_cellAt : ByteArray := prog_1_method_58_code
def yX9_cellAt : MethodName := ⟨RX9, "cellAt", "(II)I"⟩
abbrev cX9_placeOfSide : ByteArray := prog_1_method_59_code
def yX9_placeOfSide : MethodName := ⟨RX9, "placeOfSide", "(II)I"⟩
def RX10 : String := "CribBookletModel"
def TX10 : u_T := fun k => match k with
  | _ => ("", "", "", false)
def tyX10 : Nat → FieldType := fun k => match k with
  | _ => .int
abbrev wsX100 : List Cond := u_ws RX10 TX10 0
theorem nmX10 : ∀ a, a < 0 → ∀ b, b < 0 → a ≠ b → (TX10 a).2.1 ≠ (TX10 b).2.1 := by decide +kernel
theorem tyX10_ok : ∀ k, k < 0 → parseFieldDescriptor (TX10 k).2.2.1 = some (tyX10 k) := by decide +kernel
def RJ6 : String := "java/lang/Integer"
def TJ6 : u_T := fun k => match k with
  | _ => ("", "", "", false)
def tyJ6 : Nat → FieldType := fun k => match k with
  | _ => .int
abbrev wsJ60 : List Cond := u_ws RJ6 TJ6 0
theorem nmJ6 : ∀ a, a < 0 → ∀ b, b < 0 → a ≠ b → (TJ6 a).2.1 ≠ (TJ6 b).2.1 := by decide +kernel
theorem tyJ6_ok : ∀ k, k < 0 → parseFieldDescriptor (TJ6 k).2.2.1 = some (tyJ6 k) := by decide +kernel
abbrev cJ6_bitCount_0f7a4 : ByteArray := prog_13_method_49_code
def yJ6_bitCount_0f7a4 : MethodName := ⟨RJ6, "bitCount", "(I)I"⟩
def RJ9 : String := "java/lang/Math"
def TJ9 : u_T := fun k => match k with
  | _ => ("", "", "", false)
def tyJ9 : Nat → FieldType := fun k => match k with
  | _ => .int
abbrev wsJ90 : List Cond := u_ws RJ9 TJ9 0
theorem nmJ9 : ∀ a, a < 0 → ∀ b, b < 0 → a ≠ b → (TJ9 a).2.1 ≠ (TJ9 b).2.1 := by decide +kernel
theorem tyJ9_ok : ∀ k, k < 0 → parseFieldDescriptor (TJ9 k).2.2.1 = some (tyJ9 k) := by decide +kernel
abbrev cJ9_max_7cf53 : ByteArray := prog_14_method_65_code
def yJ9_max_7cf53 : MethodName := ⟨RJ9, "max", "(II)I"⟩
abbrev cJ9_min_7cf53 : ByteArray := prog_14_method_69_code
def yJ9_min_7cf53 : MethodName := ⟨RJ9, "min", "(II)I"⟩
def RJ10 : String := "java/lang/System"
def TJ10 : u_T := fun k => match k with
  | _ => ("", "", "", false)
def tyJ10 : Nat → FieldType := fun k => match k with
  | _ => .int
abbrev wsJ100 : List Cond := u_ws RJ10 TJ10 0
theorem nmJ10 : ∀ a, a < 0 → ∀ b, b < 0 → a ≠ b → (TJ10 a).2.1 ≠ (TJ10 b).2.1 := by decide +kernel
theorem tyJ10_ok : ∀ k, k < 0 → parseFieldDescriptor (TJ10 k).2.2.1 = some (tyJ10 k) := by decide +kernel
def RJ7 : String := "java/util/Arrays"
def TJ7 : u_T := fun k => match k with
  | _ => ("", "", "", false)
def tyJ7 : Nat → FieldType := fun k => match k with
  | _ => .int
abbrev wsJ70 : List Cond := u_ws RJ7 TJ7 0
theorem nmJ7 : ∀ a, a < 0 → ∀ b, b < 0 → a ≠ b → (TJ7 a).2.1 ≠ (TJ7 b).2.1 := by decide +kernel
theorem tyJ7_ok : ∀ k, k < 0 → parseFieldDescriptor (TJ7 k).2.2.1 = some (tyJ7 k) := by decide +kernel
abbrev cJ7_fill_53178 : ByteArray := prog_16_method_103_code
def yJ7_fill_53178 : MethodName := ⟨RJ7, "fill", "([II)V"⟩
def RL : String := "CribBookletLaw"
abbrev cL_cell : ByteArray := method_2_code
def yL_cell : MethodName := ⟨RL, "cell", "([II)I"⟩
abbrev cL_foldsBy : ByteArray := method_3_code
def yL_foldsBy : MethodName := ⟨RL, "foldsBy", "(III)I"⟩
abbrev cL_ones : ByteArray := method_4_code
def yL_ones : MethodName := ⟨RL, "ones", "(I)I"⟩
abbrev cL_folds : ByteArray := method_5_code
def yL_folds : MethodName := ⟨RL, "folds", "(LCribBooklet;II)Z"⟩
abbrev cL_isRead : ByteArray := method_6_code
def yL_isRead : MethodName := ⟨RL, "isRead", "(LCribBooklet;I)Z"⟩
abbrev cL_isCut : ByteArray := method_7_code
def yL_isCut : MethodName := ⟨RL, "isCut", "(LCribBooklet;III)Z"⟩
abbrev cL_isHeld : ByteArray := method_8_code
def yL_isHeld : MethodName := ⟨RL, "isHeld", "(LCribBooklet;II)Z"⟩
abbrev cL_law : ByteArray := code
def yL_law : MethodName := ⟨RL, "law", "([I)Z"⟩
abbrev vwCl : List vw_C := [(RX0, TX0, 10), (RX1, TX1, 2), (RX2, TX2, 7), (RX3, TX3, 8), (RX4, TX4, 2), (RX5, TX5, 4), (RX6, TX6, 4), (RX7, TX7, 4), (RX8, TX8, 3), (RX9, TX9, 9)]
