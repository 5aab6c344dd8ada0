def RX0 : String := "LeadlightHall$Frame"
def TX0 : u_T := fun k => match k with
  | 0 => ("LeadlightHall$Frame", "bars", "I", false)
  | 1 => ("LeadlightHall$Frame", "profile", "I", false)
  | _ => ("LeadlightHall$Frame", "wind", "I", false)
def tyX0 : Nat → FieldType := fun k => match k with
  | 0 => .int
  | 1 => .int
  | _ => .int
abbrev wsX00 : List Cond := u_ws RX0 TX0 3
theorem nmX0 : ∀ a, a < 3 → ∀ b, b < 3 → a ≠ b → (TX0 a).2.1 ≠ (TX0 b).2.1 := by decide +kernel
theorem tyX0_ok : ∀ k, k < 3 → parseFieldDescriptor (TX0 k).2.2.1 = some (tyX0 k) := by decide +kernel
abbrev cX0_init : ByteArray := prog_2_method_1_code
def yX0_init : MethodName := ⟨RX0, "<init>", "()V"⟩
abbrev cX0_hasBar : ByteArray := prog_2_method_2_code
def yX0_hasBar : MethodName := ⟨RX0, "hasBar", "(I)Z"⟩
abbrev cX0_setBar : ByteArray := prog_2_method_3_code
def yX0_setBar : MethodName := ⟨RX0, "setBar", "(IZ)V"⟩
abbrev cX0_mostBorne : ByteArray := prog_2_method_4_code
def yX0_mostBorne : MethodName := ⟨RX0, "mostBorne", "(I)I"⟩
def RX1 : String := "LeadlightHall$Paint"
def TX1 : u_T := fun k => match k with
  | 0 => ("LeadlightHall$Paint", "raw", "[I", true)
  | _ => ("LeadlightHall$Paint", "fixed", "[I", true)
def tyX1 : Nat → FieldType := fun k => match k with
  | 0 => .array .int
  | _ => .array .int
abbrev wsX10 : List Cond := u_ws RX1 TX1 2
theorem nmX1 : ∀ a, a < 2 → ∀ b, b < 2 → a ≠ b → (TX1 a).2.1 ≠ (TX1 b).2.1 := by decide +kernel
theorem tyX1_ok : ∀ k, k < 2 → parseFieldDescriptor (TX1 k).2.2.1 = some (tyX1 k) := by decide +kernel
abbrev cX1_init : ByteArray := prog_3_method_1_code
def yX1_init : MethodName := ⟨RX1, "<init>", "()V"⟩
abbrev cX1_numberOf : ByteArray := prog_3_method_2_code
def yX1_numberOf : MethodName := ⟨RX1, "numberOf", "(C)I"⟩
abbrev cX1_clear : ByteArray := prog_3_method_3_code
def yX1_clear : MethodName := ⟨RX1, "clear", "()V"⟩
abbrev cX1_hasStain : ByteArray := prog_3_method_4_code
def yX1_hasStain : MethodName := ⟨RX1, "hasStain", "()Z"⟩
abbrev cX1_add : ByteArray := prog_3_method_5_code
def yX1_add : MethodName := ⟨RX1, "add", "(I)V"⟩
abbrev cX1_keptLayers : ByteArray := prog_3_method_6_code
def yX1_keptLayers : MethodName := ⟨RX1, "keptLayers", "()I"⟩
abbrev cX1_rawLayers : ByteArray := prog_3_method_7_code
def yX1_rawLayers : MethodName := ⟨RX1, "rawLayers", "()I"⟩
abbrev cX1_fixedLayers : ByteArray := prog_3_method_8_code
def yX1_fixedLayers : MethodName := ⟨RX1, "fixedLayers", "()I"⟩
abbrev cX1_heat : ByteArray := prog_3_method_9_code
def yX1_heat : MethodName := ⟨RX1, "heat", "(I)I"⟩
def RX2 : String := "LeadlightHall$Pane"
def TX2 : u_T := fun k => match k with
  | 0 => ("LeadlightHall$Pane", "wantedColour", "I", false)
  | 1 => ("LeadlightHall$Pane", "wantedStreaks", "C", false)
  | 2 => ("LeadlightHall$Pane", "state", "C", false)
  | 3 => ("LeadlightHall$Pane", "colour", "I", false)
  | 4 => ("LeadlightHall$Pane", "year", "I", false)
  | 5 => ("LeadlightHall$Pane", "paint", "LLeadlightHall$Paint;", true)
  | _ => ("LeadlightHall$Pane", "leadYears", "LLeadlightHall$YearSet;", true)
def tyX2 : Nat → FieldType := fun k => match k with
  | 0 => .int
  | 1 => .char
  | 2 => .char
  | 3 => .int
  | 4 => .int
  | 5 => .object "LeadlightHall$Paint"
  | _ => .object "LeadlightHall$YearSet"
abbrev wsX20 : List Cond := u_ws RX2 TX2 7
theorem nmX2 : ∀ a, a < 7 → ∀ b, b < 7 → a ≠ b → (TX2 a).2.1 ≠ (TX2 b).2.1 := by decide +kernel
theorem tyX2_ok : ∀ k, k < 7 → parseFieldDescriptor (TX2 k).2.2.1 = some (tyX2 k) := by decide +kernel
abbrev cX2_init : ByteArray := prog_4_method_1_code
def yX2_init : MethodName := ⟨RX2, "<init>", "()V"⟩
abbrev cX2_hasGlass : ByteArray := prog_4_method_2_code
def yX2_hasGlass : MethodName := ⟨RX2, "hasGlass", "()Z"⟩
abbrev cX2_lacksGlass : ByteArray := prog_4_method_3_code
def yX2_lacksGlass : MethodName := ⟨RX2, "lacksGlass", "()Z"⟩
abbrev cX2_wantLike : ByteArray := prog_4_method_4_code
def yX2_wantLike : MethodName := ⟨RX2, "wantLike", "(LLeadlightHall$Pane;)V"⟩
abbrev cX2_wants : ByteArray := prog_4_method_5_code
def yX2_wants : MethodName := ⟨RX2, "wants", "(LLeadlightHall$Sheet;Z)Z"⟩
abbrev cX2_glaze : ByteArray := prog_4_method_6_code
def yX2_glaze : MethodName := ⟨RX2, "glaze", "(CII)V"⟩
def RX3 : String := "LeadlightHall$Shape"
def TX3 : u_T := fun k => match k with
  | 0 => ("LeadlightHall$Shape", "rows", "[I", true)
  | _ => ("LeadlightHall$Shape", "reached", "[I", true)
def tyX3 : Nat → FieldType := fun k => match k with
  | 0 => .array .int
  | _ => .array .int
abbrev wsX30 : List Cond := u_ws RX3 TX3 2
theorem nmX3 : ∀ a, a < 2 → ∀ b, b < 2 → a ≠ b → (TX3 a).2.1 ≠ (TX3 b).2.1 := by decide +kernel
theorem tyX3_ok : ∀ k, k < 2 → parseFieldDescriptor (TX3 k).2.2.1 = some (tyX3 k) := by decide +kernel
abbrev cX3_init : ByteArray := prog_5_method_1_code
def yX3_init : MethodName := ⟨RX3, "<init>", "()V"⟩
abbrev cX3_clear : ByteArray := prog_5_method_2_code
def yX3_clear : MethodName := ⟨RX3, "clear", "()V"⟩
abbrev cX3_add : ByteArray := prog_5_method_3_code
def yX3_add : MethodName := ⟨RX3, "add", "(II)V"⟩
abbrev cX3_has : ByteArray := prog_5_method_4_code
def yX3_has : MethodName := ⟨RX3, "has", "(II)Z"⟩
abbrev cX3_row : ByteArray := prog_5_method_5_code
def yX3_row : MethodName := ⟨RX3, "row", "(I)I"⟩
abbrev cX3_cellCount : ByteArray := prog_5_method_6_code
def yX3_cellCount : MethodName := ⟨RX3, "cellCount", "()I"⟩
abbrev cX3_hindrance : ByteArray := prog_5_method_7_code
def yX3_hindrance : MethodName := ⟨RX3, "hindrance", "()C"⟩
abbrev cX3_isWhole : ByteArray := prog_5_method_8_code
def yX3_isWhole : MethodName := ⟨RX3, "isWhole", "()Z"⟩
abbrev cX3_grow : ByteArray := prog_5_method_9_code
def yX3_grow : MethodName := ⟨RX3, "grow", "()Z"⟩
abbrev cX3_innerCorners : ByteArray := prog_5_method_10_code
def yX3_innerCorners : MethodName := ⟨RX3, "innerCorners", "()I"⟩
abbrev cX3_longestNarrow : ByteArray := prog_5_method_11_code
def yX3_longestNarrow : MethodName := ⟨RX3, "longestNarrow", "()I"⟩
abbrev cX3_narrowInRow : ByteArray := prog_5_method_12_code
def yX3_narrowInRow : MethodName := ⟨RX3, "narrowInRow", "(I)I"⟩
abbrev cX3_narrowInColumn : ByteArray := prog_5_method_13_code
def yX3_narrowInColumn : MethodName := ⟨RX3, "narrowInColumn", "(I)I"⟩
abbrev cX3_longestRun : ByteArray := prog_5_method_14_code
def yX3_longestRun : MethodName := ⟨RX3, "longestRun", "(I)I"⟩
abbrev cX3_bestLead : ByteArray := prog_5_method_15_code
def yX3_bestLead : MethodName := ⟨RX3, "bestLead", "(LLeadlightHall$Shape;LLeadlightHall$Shape;)I"⟩
abbrev cX3_partBy : ByteArray := prog_5_method_16_code
def yX3_partBy : MethodName := ⟨RX3, "partBy", "(ILLeadlightHall$Shape;LLeadlightHall$Shape;)V"⟩
abbrev cX3_touchesOver : ByteArray := prog_5_method_17_code
def yX3_touchesOver : MethodName := ⟨RX3, "touchesOver", "(I)I"⟩
abbrev cX3_moveToCorner : ByteArray := prog_5_method_18_code
def yX3_moveToCorner : MethodName := ⟨RX3, "moveToCorner", "()V"⟩
abbrev cX3_turnInto : ByteArray := prog_5_method_19_code
def yX3_turnInto : MethodName := ⟨RX3, "turnInto", "(LLeadlightHall$Shape;)V"⟩
abbrev cX3_height : ByteArray := prog_5_method_20_code
def yX3_height : MethodName := ⟨RX3, "height", "()I"⟩
abbrev cX3_width : ByteArray := prog_5_method_21_code
def yX3_width : MethodName := ⟨RX3, "width", "()I"⟩
abbrev cX3_columnsUsed : ByteArray := prog_5_method_22_code
def yX3_columnsUsed : MethodName := ⟨RX3, "columnsUsed", "()I"⟩
abbrev cX3_isLike : ByteArray := prog_5_method_23_code
def yX3_isLike : MethodName := ⟨RX3, "isLike", "(LLeadlightHall$Shape;)Z"⟩
def RX4 : String := "LeadlightHall$Sheet"
def TX4 : u_T := fun k => match k with
  | 0 => ("LeadlightHall$Sheet", "colour", "I", false)
  | 1 => ("LeadlightHall$Sheet", "width", "I", false)
  | 2 => ("LeadlightHall$Sheet", "height", "I", false)
  | 3 => ("LeadlightHall$Sheet", "streaks", "C", false)
  | _ => ("LeadlightHall$Sheet", "used", "[I", true)
def tyX4 : Nat → FieldType := fun k => match k with
  | 0 => .int
  | 1 => .int
  | 2 => .int
  | 3 => .char
  | _ => .array .int
abbrev wsX40 : List Cond := u_ws RX4 TX4 5
theorem nmX4 : ∀ a, a < 5 → ∀ b, b < 5 → a ≠ b → (TX4 a).2.1 ≠ (TX4 b).2.1 := by decide +kernel
theorem tyX4_ok : ∀ k, k < 5 → parseFieldDescriptor (TX4 k).2.2.1 = some (tyX4 k) := by decide +kernel
abbrev cX4_init : ByteArray := prog_6_method_1_code
def yX4_init : MethodName := ⟨RX4, "<init>", "()V"⟩
abbrev cX4_become : ByteArray := prog_6_method_2_code
def yX4_become : MethodName := ⟨RX4, "become", "(IIIC)V"⟩
abbrev cX4_usedCells : ByteArray := prog_6_method_3_code
def yX4_usedCells : MethodName := ⟨RX4, "usedCells", "()I"⟩
abbrev cX4_freeCells : ByteArray := prog_6_method_4_code
def yX4_freeCells : MethodName := ⟨RX4, "freeCells", "()I"⟩
abbrev cX4_streaksOf : ByteArray := prog_6_method_5_code
def yX4_streaksOf : MethodName := ⟨RX4, "streaksOf", "(Z)C"⟩
abbrev cX4_placeFor : ByteArray := prog_6_method_6_code
def yX4_placeFor : MethodName := ⟨RX4, "placeFor", "(LLeadlightHall$Shape;)I"⟩
abbrev cX4_isFreeAt : ByteArray := prog_6_method_7_code
def yX4_isFreeAt : MethodName := ⟨RX4, "isFreeAt", "(LLeadlightHall$Shape;II)Z"⟩
abbrev cX4_use : ByteArray := prog_6_method_8_code
def yX4_use : MethodName := ⟨RX4, "use", "(LLeadlightHall$Shape;I)V"⟩
def RX5 : String := "LeadlightHall$Wall"
def TX5 : u_T := fun k => match k with
  | _ => ("LeadlightHall$Wall", "cells", "[I", true)
def tyX5 : Nat → FieldType := fun k => match k with
  | _ => .array .int
abbrev wsX50 : List Cond := u_ws RX5 TX5 1
theorem nmX5 : ∀ a, a < 1 → ∀ b, b < 1 → a ≠ b → (TX5 a).2.1 ≠ (TX5 b).2.1 := by decide +kernel
theorem tyX5_ok : ∀ k, k < 1 → parseFieldDescriptor (TX5 k).2.2.1 = some (tyX5 k) := by decide +kernel
abbrev cX5_init : ByteArray := prog_7_method_1_code
def yX5_init : MethodName := ⟨RX5, "<init>", "()V"⟩
abbrev cX5_at : ByteArray := prog_7_method_2_code
def yX5_at : MethodName := ⟨RX5, "at", "(II)I"⟩
abbrev cX5_put : ByteArray := prog_7_method_3_code
def yX5_put : MethodName := ⟨RX5, "put", "(III)V"⟩
abbrev cX5_putShape : ByteArray := prog_7_method_4_code
def yX5_putShape : MethodName := ⟨RX5, "putShape", "(LLeadlightHall$Shape;I)V"⟩
abbrev cX5_cellsOf : ByteArray := prog_7_method_5_code
def yX5_cellsOf : MethodName := ⟨RX5, "cellsOf", "(I)I"⟩
abbrev cX5_piecesWithCells : ByteArray := prog_7_method_6_code
def yX5_piecesWithCells : MethodName := ⟨RX5, "piecesWithCells", "()I"⟩
abbrev cX5_shapeInto : ByteArray := prog_7_method_7_code
def yX5_shapeInto : MethodName := ⟨RX5, "shapeInto", "(ILLeadlightHall$Shape;)V"⟩
abbrev cX5_leadedSides : ByteArray := prog_7_method_8_code
def yX5_leadedSides : MethodName := ⟨RX5, "leadedSides", "()I"⟩
abbrev cX5_meetingPoints : ByteArray := prog_7_method_9_code
def yX5_meetingPoints : MethodName := ⟨RX5, "meetingPoints", "()I"⟩
abbrev cX5_waitsInto : ByteArray := prog_7_method_10_code
def yX5_waitsInto : MethodName := ⟨RX5, "waitsInto", "([I)V"⟩
abbrev cX5_bitOf : ByteArray := prog_7_method_11_code
def yX5_bitOf : MethodName := ⟨RX5, "bitOf", "(II)I"⟩
abbrev cX5_leadBetween : ByteArray := prog_7_method_12_code
def yX5_leadBetween : MethodName := ⟨RX5, "leadBetween", "(II)I"⟩
def RX6 : String := "LeadlightHall$YearSet"
def TX6 : u_T := fun k => match k with
  | _ => ("LeadlightHall$YearSet", "words", "[J", true)
def tyX6 : Nat → FieldType := fun k => match k with
  | _ => .array .long
abbrev wsX60 : List Cond := u_ws RX6 TX6 1
theorem nmX6 : ∀ a, a < 1 → ∀ b, b < 1 → a ≠ b → (TX6 a).2.1 ≠ (TX6 b).2.1 := by decide +kernel
theorem tyX6_ok : ∀ k, k < 1 → parseFieldDescriptor (TX6 k).2.2.1 = some (tyX6 k) := by decide +kernel
abbrev cX6_init : ByteArray := prog_8_method_1_code
def yX6_init : MethodName := ⟨RX6, "<init>", "()V"⟩
abbrev cX6_clear : ByteArray := prog_8_method_2_code
def yX6_clear : MethodName := ⟨RX6, "clear", "()V"⟩
abbrev cX6_add : ByteArray := prog_8_method_3_code
def yX6_add : MethodName := ⟨RX6, "add", "(I)V"⟩
abbrev cX6_addAll : ByteArray := prog_8_method_4_code
def yX6_addAll : MethodName := ⟨RX6, "addAll", "(LLeadlightHall$YearSet;)V"⟩
abbrev cX6_count : ByteArray := prog_8_method_5_code
def yX6_count : MethodName := ⟨RX6, "count", "()I"⟩
def RX7 : String := "LeadlightHall"
def TX7 : u_T := fun k => match k with
  | 0 => ("LeadlightHall", "wall", "LLeadlightHall$Wall;", true)
  | 1 => ("LeadlightHall", "panes", "[LLeadlightHall$Pane;", true)
  | 2 => ("LeadlightHall", "sheets", "[LLeadlightHall$Sheet;", true)
  | 3 => ("LeadlightHall", "frame", "LLeadlightHall$Frame;", true)
  | 4 => ("LeadlightHall", "sheetCount", "I", false)
  | 5 => ("LeadlightHall", "cellsTaken", "I", false)
  | 6 => ("LeadlightHall", "z", "I", false)
  | 7 => ("LeadlightHall", "isSoldered", "Z", false)
  | 8 => ("LeadlightHall", "upYear", "I", false)
  | 9 => ("LeadlightHall", "now", "I", false)
  | 10 => ("LeadlightHall", "mends", "I", false)
  | 11 => ("LeadlightHall", "shape", "LLeadlightHall$Shape;", true)
  | 12 => ("LeadlightHall", "near", "LLeadlightHall$Shape;", true)
  | 13 => ("LeadlightHall", "far", "LLeadlightHall$Shape;", true)
  | 14 => ("LeadlightHall", "waits", "[I", true)
  | _ => ("LeadlightHall", "unlike", "LLeadlightHall$YearSet;", true)
def tyX7 : Nat → FieldType := fun k => match k with
  | 0 => .object "LeadlightHall$Wall"
  | 1 => .array (.object "LeadlightHall$Pane")
  | 2 => .array (.object "LeadlightHall$Sheet")
  | 3 => .object "LeadlightHall$Frame"
  | 4 => .int
  | 5 => .int
  | 6 => .int
  | 7 => .boolean
  | 8 => .int
  | 9 => .int
  | 10 => .int
  | 11 => .object "LeadlightHall$Shape"
  | 12 => .object "LeadlightHall$Shape"
  | 13 => .object "LeadlightHall$Shape"
  | 14 => .array .int
  | _ => .object "LeadlightHall$YearSet"
abbrev wsX70 : List Cond := u_ws RX7 TX7 16
theorem nmX7 : ∀ a, a < 16 → ∀ b, b < 16 → a ≠ b → (TX7 a).2.1 ≠ (TX7 b).2.1 := by decide +kernel
theorem tyX7_ok : ∀ k, k < 16 → parseFieldDescriptor (TX7 k).2.2.1 = some (tyX7 k) := by decide +kernel
abbrev cX7_init : ByteArray := prog_1_method_1_code
def yX7_init : MethodName := ⟨RX7, "<init>", "()V"⟩
abbrev cX7_open : ByteArray := prog_1_method_2_code
def yX7_open : MethodName := ⟨RX7, "open", "(IIIIZ)I"⟩
abbrev cX7_lay : ByteArray := prog_1_method_3_code
def yX7_lay : MethodName := ⟨RX7, "lay", "(IIIII)I"⟩
abbrev cX7_pieceAt : ByteArray := prog_1_method_4_code
def yX7_pieceAt : MethodName := ⟨RX7, "pieceAt", "(II)I"⟩
abbrev cX7_size : ByteArray := prog_1_method_5_code
def yX7_size : MethodName := ⟨RX7, "size", "(I)I"⟩
abbrev cX7_corners : ByteArray := prog_1_method_6_code
def yX7_corners : MethodName := ⟨RX7, "corners", "(I)I"⟩
abbrev cX7_point : ByteArray := prog_1_method_7_code
def yX7_point : MethodName := ⟨RX7, "point", "(I)I"⟩
abbrev cX7_hinders : ByteArray := prog_1_method_8_code
def yX7_hinders : MethodName := ⟨RX7, "hinders", "(I)C"⟩
abbrev cX7_split : ByteArray := prog_1_method_9_code
def yX7_split : MethodName := ⟨RX7, "split", "(I)I"⟩
abbrev cX7_lead : ByteArray := prog_1_method_10_code
def yX7_lead : MethodName := ⟨RX7, "lead", "()I"⟩
abbrev cX7_joints : ByteArray := prog_1_method_11_code
def yX7_joints : MethodName := ⟨RX7, "joints", "()I"⟩
abbrev cX7_sheet : ByteArray := prog_1_method_12_code
def yX7_sheet : MethodName := ⟨RX7, "sheet", "(IIIC)I"⟩
abbrev cX7_free : ByteArray := prog_1_method_13_code
def yX7_free : MethodName := ⟨RX7, "free", "(I)I"⟩
abbrev cX7_want : ByteArray := prog_1_method_14_code
def yX7_want : MethodName := ⟨RX7, "want", "(IIC)Z"⟩
abbrev cX7_cut : ByteArray := prog_1_method_15_code
def yX7_cut : MethodName := ⟨RX7, "cut", "(IIZ)Z"⟩
abbrev cX7_glass : ByteArray := prog_1_method_16_code
def yX7_glass : MethodName := ⟨RX7, "glass", "(I)C"⟩
abbrev cX7_colour : ByteArray := prog_1_method_17_code
def yX7_colour : MethodName := ⟨RX7, "colour", "(I)I"⟩
abbrev cX7_paint : ByteArray := prog_1_method_18_code
def yX7_paint : MethodName := ⟨RX7, "paint", "(IC)I"⟩
abbrev cX7_fire : ByteArray := prog_1_method_19_code
def yX7_fire : MethodName := ⟨RX7, "fire", "(II)I"⟩
abbrev cX7_layers : ByteArray := prog_1_method_20_code
def yX7_layers : MethodName := ⟨RX7, "layers", "(IC)I"⟩
abbrev cX7_seed : ByteArray := prog_1_method_21_code
def yX7_seed : MethodName := ⟨RX7, "seed", "(I)I"⟩
abbrev cX7_isOrderly : ByteArray := prog_1_method_22_code
def yX7_isOrderly : MethodName := ⟨RX7, "isOrderly", "()Z"⟩
abbrev cX7_next : ByteArray := prog_1_method_23_code
def yX7_next : MethodName := ⟨RX7, "next", "()I"⟩
abbrev cX7_comes : ByteArray := prog_1_method_24_code
def yX7_comes : MethodName := ⟨RX7, "comes", "()I"⟩
abbrev cX7_solder : ByteArray := prog_1_method_25_code
def yX7_solder : MethodName := ⟨RX7, "solder", "()I"⟩
abbrev cX7_isUp : ByteArray := prog_1_method_26_code
def yX7_isUp : MethodName := ⟨RX7, "isUp", "()Z"⟩
abbrev cX7_bar : ByteArray := prog_1_method_27_code
def yX7_bar : MethodName := ⟨RX7, "bar", "(IZ)Z"⟩
abbrev cX7_profile : ByteArray := prog_1_method_28_code
def yX7_profile : MethodName := ⟨RX7, "profile", "(I)I"⟩
abbrev cX7_wind : ByteArray := prog_1_method_29_code
def yX7_wind : MethodName := ⟨RX7, "wind", "(I)I"⟩
abbrev cX7_bears : ByteArray := prog_1_method_30_code
def yX7_bears : MethodName := ⟨RX7, "bears", "()I"⟩
abbrev cX7_stands : ByteArray := prog_1_method_31_code
def yX7_stands : MethodName := ⟨RX7, "stands", "()Z"⟩
abbrev cX7_years : ByteArray := prog_1_method_32_code
def yX7_years : MethodName := ⟨RX7, "years", "(I)I"⟩
abbrev cX7_looks : ByteArray := prog_1_method_33_code
def yX7_looks : MethodName := ⟨RX7, "looks", "(III)I"⟩
abbrev cX7_hit : ByteArray := prog_1_method_34_code
def yX7_hit : MethodName := ⟨RX7, "hit", "(II)Z"⟩
abbrev cX7_mend : ByteArray := prog_1_method_35_code
def yX7_mend : MethodName := ⟨RX7, "mend", "(I)I"⟩
abbrev cX7_stopgap : ByteArray := prog_1_method_36_code
def yX7_stopgap : MethodName := ⟨RX7, "stopgap", "(II)I"⟩
abbrev cX7_year : ByteArray := prog_1_method_37_code
def yX7_year : MethodName := ⟨RX7, "year", "(I)I"⟩
abbrev cX7_hands : ByteArray := prog_1_method_38_code
def yX7_hands : MethodName := ⟨RX7, "hands", "()I"⟩
abbrev cX7_fits : ByteArray := prog_1_method_39_code
def yX7_fits : MethodName := ⟨RX7, "fits", "(I)I"⟩
abbrev cX7_price : ByteArray := prog_1_method_40_code
def yX7_price : MethodName := ⟨RX7, "price", "()I"⟩
abbrev cX7_checksum : ByteArray := prog_1_method_41_code
def yX7_checksum : MethodName := ⟨RX7, "checksum", "()J"⟩
abbrev cX7_litShare : ByteArray := prog_1_method_42_code
def yX7_litShare : MethodName := ⟨RX7, "litShare", "()F"⟩
abbrev cX7_meanCells : ByteArray := prog_1_method_43_code
def yX7_meanCells : MethodName := ⟨RX7, "meanCells", "()D"⟩
abbrev cX7_isSound : ByteArray := prog_1_method_44_code
def yX7_isSound : MethodName := ⟨RX7, "isSound", "()Z"⟩
abbrev cX7_isWithin : ByteArray := prog_1_method_45_code
def yX7_isWithin : MethodName := ⟨RX7, "isWithin", "(III)Z"⟩
abbrev cX7_isInside : ByteArray := prog_1_method_46_code
def yX7_isInside : MethodName := ⟨RX7, "isInside", "(II)Z"⟩
abbrev cX7_isPiece : ByteArray := prog_1_method_47_code
def yX7_isPiece : MethodName := ⟨RX7, "isPiece", "(I)Z"⟩
abbrev cX7_isColour : ByteArray := prog_1_method_48_code
def yX7_isColour : MethodName := ⟨RX7, "isColour", "(I)Z"⟩
abbrev cX7_isDirection : ByteArray := prog_1_method_49_code
def yX7_isDirection : MethodName := ⟨RX7, "isDirection", "(C)Z"⟩
abbrev cX7_requirePiece : ByteArray := prog_1_method_50_code
def yX7_requirePiece : MethodName := ⟨RX7, "requirePiece", "(I)V"⟩
abbrev cX7_requireSheet : ByteArray := prog_1_method_51_code
def yX7_requireSheet : MethodName := ⟨RX7, "requireSheet", "(I)V"⟩
abbrev cX7_requireCell : ByteArray := prog_1_method_52_code
def yX7_requireCell : MethodName := ⟨RX7, "requireCell", "(II)V"⟩
abbrev cX7_requireCells : ByteArray := prog_1_method_53_code
def yX7_requireCells : MethodName := ⟨RX7, "requireCells", "(IIII)V"⟩
abbrev cX7_requireGlass : ByteArray := prog_1_method_54_code
def yX7_requireGlass : MethodName := ⟨RX7, "requireGlass", "(I)V"⟩
abbrev cX7_yearsUp : ByteArray := prog_1_method_55_code
def yX7_yearsUp : MethodName := ⟨RX7, "yearsUp", "()I"⟩
abbrev cX7_requireNext : ByteArray := prog_1_method_56_code
def yX7_requireNext : MethodName := ⟨RX7, "requireNext", "()I"⟩
abbrev cX7_lowestFreeOf : ByteArray := prog_1_method_57_code
def yX7_lowestFreeOf : MethodName := ⟨RX7, "lowestFreeOf", "(II)I"⟩
abbrev cX7_panesThatAre : ByteArray := prog_1_method_58_code
def yX7_panesThatAre : MethodName := ⟨RX7, "panesThatAre", "(C)I"⟩
abbrev cX7_lowestWithoutCells : ByteArray := prog_1_method_59_code
def yX7_lowestWithoutCells : MethodName := ⟨RX7, "lowestWithoutCells", "()I"⟩
abbrev cX7_isGlassWithin : ByteArray := prog_1_method_60_code
def yX7_isGlassWithin : MethodName := ⟨RX7, "isGlassWithin", "(IIII)Z"⟩
abbrev cX7_isOpenWithin : ByteArray := prog_1_method_61_code
def yX7_isOpenWithin : MethodName := ⟨RX7, "isOpenWithin", "(IIII)Z"⟩
abbrev cX7_take : ByteArray := prog_1_method_62_code
def yX7_take : MethodName := ⟨RX7, "take", "(LLeadlightHall$Sheet;LLeadlightHall$Shape;I)V"⟩
abbrev cX7_isCuttable : ByteArray := prog_1_method_63_code
def yX7_isCuttable : MethodName := ⟨RX7, "isCuttable", "(I)Z"⟩
abbrev cX7_brightness : ByteArray := prog_1_method_64_code
def yX7_brightness : MethodName := ⟨RX7, "brightness", "(III)I"⟩
def RX8 : String := "LeadlightHallModel"
def TX8 : u_T := fun k => match k with
  | 0 => ("LeadlightHallModel", "cells", "[I", true)
  | 1 => ("LeadlightHallModel", "wantColours", "[I", true)
  | 2 => ("LeadlightHallModel", "wantStreaks", "[C", true)
  | 3 => ("LeadlightHallModel", "glass", "[C", true)
  | 4 => ("LeadlightHallModel", "colours", "[I", true)
  | 5 => ("LeadlightHallModel", "years", "[I", true)
  | 6 => ("LeadlightHallModel", "layerKinds", "[[C", true)
  | 7 => ("LeadlightHallModel", "areFixed", "[[Z", true)
  | 8 => ("LeadlightHallModel", "layerMany", "[I", true)
  | 9 => ("LeadlightHallModel", "sheets", "[[I", true)
  | 10 => ("LeadlightHallModel", "sheetStreaks", "[C", true)
  | 11 => ("LeadlightHallModel", "areUsed", "[[Z", true)
  | 12 => ("LeadlightHallModel", "bars", "[Z", true)
  | 13 => ("LeadlightHallModel", "leadYears", "[[Z", true)
  | 14 => ("LeadlightHallModel", "sheetMany", "I", false)
  | 15 => ("LeadlightHallModel", "mends", "I", false)
  | 16 => ("LeadlightHallModel", "profile", "I", false)
  | 17 => ("LeadlightHallModel", "wind", "I", false)
  | 18 => ("LeadlightHallModel", "year", "I", false)
  | 19 => ("LeadlightHallModel", "upSince", "I", false)
  | 20 => ("LeadlightHallModel", "z", "J", false)
  | _ => ("LeadlightHallModel", "thrown", "I", false)
def tyX8 : Nat → FieldType := fun k => match k with
  | 0 => .array .int
  | 1 => .array .int
  | 2 => .array .char
  | 3 => .array .char
  | 4 => .array .int
  | 5 => .array .int
  | 6 => .array (.array .char)
  | 7 => .array (.array .boolean)
  | 8 => .array .int
  | 9 => .array (.array .int)
  | 10 => .array .char
  | 11 => .array (.array .boolean)
  | 12 => .array .boolean
  | 13 => .array (.array .boolean)
  | 14 => .int
  | 15 => .int
  | 16 => .int
  | 17 => .int
  | 18 => .int
  | 19 => .int
  | 20 => .long
  | _ => .int
abbrev wsX80 : List Cond := u_ws RX8 TX8 22
theorem nmX8 : ∀ a, a < 22 → ∀ b, b < 22 → a ≠ b → (TX8 a).2.1 ≠ (TX8 b).2.1 := by decide +kernel
theorem tyX8_ok : ∀ k, k < 22 → parseFieldDescriptor (TX8 k).2.2.1 = some (tyX8 k) := by decide +kernel
abbrev cX8_init : ByteArray := prog_10_method_1_code
def yX8_init : MethodName := ⟨RX8, "<init>", "()V"⟩
abbrev cX8_thrown : ByteArray := prog_10_method_2_code
def yX8_thrown : MethodName := ⟨RX8, "thrown", "()I"⟩
abbrev cX8_isThrown : ByteArray := prog_10_method_3_code
def yX8_isThrown : MethodName := ⟨RX8, "isThrown", "(ZI)Z"⟩
abbrev cX8_isIn : ByteArray := prog_10_method_4_code
def yX8_isIn : MethodName := ⟨RX8, "isIn", "(III)Z"⟩
abbrev cX8_isUpNow : ByteArray := prog_10_method_5_code
def yX8_isUpNow : MethodName := ⟨RX8, "isUpNow", "()Z"⟩
abbrev cX8_hasGlass : ByteArray := prog_10_method_6_code
def yX8_hasGlass : MethodName := ⟨RX8, "hasGlass", "(I)Z"⟩
abbrev cX8_isOf : ByteArray := prog_10_method_7_code
def yX8_isOf : MethodName := ⟨RX8, "isOf", "(II)Z"⟩
abbrev cX8_at : ByteArray := prog_10_method_8_code
def yX8_at : MethodName := ⟨RX8, "at", "(II)I"⟩
abbrev cX8_isNoRange : ByteArray := prog_10_method_9_code
def yX8_isNoRange : MethodName := ⟨RX8, "isNoRange", "(IIII)Z"⟩
abbrev cX8_isNoPiece : ByteArray := prog_10_method_10_code
def yX8_isNoPiece : MethodName := ⟨RX8, "isNoPiece", "(I)Z"⟩
abbrev cX8_open : ByteArray := prog_10_method_11_code
def yX8_open : MethodName := ⟨RX8, "open", "(IIIIZ)I"⟩
abbrev cX8_lay : ByteArray := prog_10_method_12_code
def yX8_lay : MethodName := ⟨RX8, "lay", "(IIIII)I"⟩
abbrev cX8_pieceAt : ByteArray := prog_10_method_13_code
def yX8_pieceAt : MethodName := ⟨RX8, "pieceAt", "(II)I"⟩
abbrev cX8_sizeOf : ByteArray := prog_10_method_14_code
def yX8_sizeOf : MethodName := ⟨RX8, "sizeOf", "(I)I"⟩
abbrev cX8_size : ByteArray := prog_10_method_15_code
def yX8_size : MethodName := ⟨RX8, "size", "(I)I"⟩
abbrev cX8_shapeOf : ByteArray := prog_10_method_16_code
def yX8_shapeOf : MethodName := ⟨RX8, "shapeOf", "(I)[Z"⟩
abbrev cX8_is : ByteArray := prog_10_method_17_code
def yX8_is : MethodName := ⟨RX8, "is", "([ZII)Z"⟩
abbrev cX8_many : ByteArray := prog_10_method_18_code
def yX8_many : MethodName := ⟨RX8, "many", "([Z)I"⟩
abbrev cX8_cornersOf : ByteArray := prog_10_method_19_code
def yX8_cornersOf : MethodName := ⟨RX8, "cornersOf", "([Z)I"⟩
abbrev cX8_pointOf : ByteArray := prog_10_method_20_code
def yX8_pointOf : MethodName := ⟨RX8, "pointOf", "([Z)I"⟩
abbrev cX8_walk : ByteArray := prog_10_method_21_code
def yX8_walk : MethodName := ⟨RX8, "walk", "([ZII)V"⟩
abbrev cX8_isWhole : ByteArray := prog_10_method_22_code
def yX8_isWhole : MethodName := ⟨RX8, "isWhole", "([Z)Z"⟩
abbrev cX8_hindersOf : ByteArray := prog_10_method_23_code
def yX8_hindersOf : MethodName := ⟨RX8, "hindersOf", "([Z)C"⟩
abbrev cX8_corners : ByteArray := prog_10_method_24_code
def yX8_corners : MethodName := ⟨RX8, "corners", "(I)I"⟩
abbrev cX8_point : ByteArray := prog_10_method_25_code
def yX8_point : MethodName := ⟨RX8, "point", "(I)I"⟩
abbrev cX8_hinders : ByteArray := prog_10_method_26_code
def yX8_hinders : MethodName := ⟨RX8, "hinders", "(I)C"⟩
abbrev cX8_side : ByteArray := prog_10_method_27_code
def yX8_side : MethodName := ⟨RX8, "side", "([ZZIZ)[Z"⟩
abbrev cX8_leadOver : ByteArray := prog_10_method_28_code
def yX8_leadOver : MethodName := ⟨RX8, "leadOver", "([ZZI)I"⟩
abbrev cX8_split : ByteArray := prog_10_method_29_code
def yX8_split : MethodName := ⟨RX8, "split", "(I)I"⟩
abbrev cX8_isLead : ByteArray := prog_10_method_30_code
def yX8_isLead : MethodName := ⟨RX8, "isLead", "(IIII)Z"⟩
abbrev cX8_leadNow : ByteArray := prog_10_method_31_code
def yX8_leadNow : MethodName := ⟨RX8, "leadNow", "()I"⟩
abbrev cX8_lead : ByteArray := prog_10_method_32_code
def yX8_lead : MethodName := ⟨RX8, "lead", "()I"⟩
abbrev cX8_jointsNow : ByteArray := prog_10_method_33_code
def yX8_jointsNow : MethodName := ⟨RX8, "jointsNow", "()I"⟩
abbrev cX8_joints : ByteArray := prog_10_method_34_code
def yX8_joints : MethodName := ⟨RX8, "joints", "()I"⟩
abbrev cX8_sheet : ByteArray := prog_10_method_35_code
def yX8_sheet : MethodName := ⟨RX8, "sheet", "(IIIC)I"⟩
abbrev cX8_isNoSheet : ByteArray := prog_10_method_36_code
def yX8_isNoSheet : MethodName := ⟨RX8, "isNoSheet", "(I)Z"⟩
abbrev cX8_free : ByteArray := prog_10_method_37_code
def yX8_free : MethodName := ⟨RX8, "free", "(I)I"⟩
abbrev cX8_want : ByteArray := prog_10_method_38_code
def yX8_want : MethodName := ⟨RX8, "want", "(IIC)Z"⟩
abbrev cX8_brought : ByteArray := prog_10_method_39_code
def yX8_brought : MethodName := ⟨RX8, "brought", "([ZZ)[Z"⟩
abbrev cX8_isFreeAt : ByteArray := prog_10_method_40_code
def yX8_isFreeAt : MethodName := ⟨RX8, "isFreeAt", "(I[ZI)Z"⟩
abbrev cX8_placeOn : ByteArray := prog_10_method_41_code
def yX8_placeOn : MethodName := ⟨RX8, "placeOn", "(I[Z)I"⟩
abbrev cX8_uses : ByteArray := prog_10_method_42_code
def yX8_uses : MethodName := ⟨RX8, "uses", "(II[Z)V"⟩
abbrev cX8_comesNew : ByteArray := prog_10_method_43_code
def yX8_comesNew : MethodName := ⟨RX8, "comesNew", "(IIC)V"⟩
abbrev cX8_cut : ByteArray := prog_10_method_44_code
def yX8_cut : MethodName := ⟨RX8, "cut", "(IIZ)Z"⟩
abbrev cX8_glass : ByteArray := prog_10_method_45_code
def yX8_glass : MethodName := ⟨RX8, "glass", "(I)C"⟩
abbrev cX8_colour : ByteArray := prog_10_method_46_code
def yX8_colour : MethodName := ⟨RX8, "colour", "(I)I"⟩
abbrev cX8_seed : ByteArray := prog_10_method_47_code
def yX8_seed : MethodName := ⟨RX8, "seed", "(I)I"⟩
abbrev cX8_hasStain : ByteArray := prog_10_method_48_code
def yX8_hasStain : MethodName := ⟨RX8, "hasStain", "(I)Z"⟩
abbrev cX8_paint : ByteArray := prog_10_method_49_code
def yX8_paint : MethodName := ⟨RX8, "paint", "(IC)I"⟩
abbrev cX8_fires : ByteArray := prog_10_method_50_code
def yX8_fires : MethodName := ⟨RX8, "fires", "(II)I"⟩
abbrev cX8_fire : ByteArray := prog_10_method_51_code
def yX8_fire : MethodName := ⟨RX8, "fire", "(II)I"⟩
abbrev cX8_layersOf : ByteArray := prog_10_method_52_code
def yX8_layersOf : MethodName := ⟨RX8, "layersOf", "(IZ)I"⟩
abbrev cX8_layers : ByteArray := prog_10_method_53_code
def yX8_layers : MethodName := ⟨RX8, "layers", "(IC)I"⟩
abbrev cX8_isClear : ByteArray := prog_10_method_54_code
def yX8_isClear : MethodName := ⟨RX8, "isClear", "(I[Z)Z"⟩
abbrev cX8_nextNow : ByteArray := prog_10_method_55_code
def yX8_nextNow : MethodName := ⟨RX8, "nextNow", "()I"⟩
abbrev cX8_hasBare : ByteArray := prog_10_method_56_code
def yX8_hasBare : MethodName := ⟨RX8, "hasBare", "()Z"⟩
abbrev cX8_isOrderly : ByteArray := prog_10_method_57_code
def yX8_isOrderly : MethodName := ⟨RX8, "isOrderly", "()Z"⟩
abbrev cX8_next : ByteArray := prog_10_method_58_code
def yX8_next : MethodName := ⟨RX8, "next", "()I"⟩
abbrev cX8_comes : ByteArray := prog_10_method_59_code
def yX8_comes : MethodName := ⟨RX8, "comes", "()I"⟩
abbrev cX8_solder : ByteArray := prog_10_method_60_code
def yX8_solder : MethodName := ⟨RX8, "solder", "()I"⟩
abbrev cX8_isUp : ByteArray := prog_10_method_61_code
def yX8_isUp : MethodName := ⟨RX8, "isUp", "()Z"⟩
abbrev cX8_bar : ByteArray := prog_10_method_62_code
def yX8_bar : MethodName := ⟨RX8, "bar", "(IZ)Z"⟩
abbrev cX8_profile : ByteArray := prog_10_method_63_code
def yX8_profile : MethodName := ⟨RX8, "profile", "(I)I"⟩
abbrev cX8_wind : ByteArray := prog_10_method_64_code
def yX8_wind : MethodName := ⟨RX8, "wind", "(I)I"⟩
abbrev cX8_bearsNow : ByteArray := prog_10_method_65_code
def yX8_bearsNow : MethodName := ⟨RX8, "bearsNow", "()I"⟩
abbrev cX8_bears : ByteArray := prog_10_method_66_code
def yX8_bears : MethodName := ⟨RX8, "bears", "()I"⟩
abbrev cX8_stands : ByteArray := prog_10_method_67_code
def yX8_stands : MethodName := ⟨RX8, "stands", "()Z"⟩
abbrev cX8_years : ByteArray := prog_10_method_68_code
def yX8_years : MethodName := ⟨RX8, "years", "(I)I"⟩
abbrev cX8_light : ByteArray := prog_10_method_69_code
def yX8_light : MethodName := ⟨RX8, "light", "(III)I"⟩
abbrev cX8_looks : ByteArray := prog_10_method_70_code
def yX8_looks : MethodName := ⟨RX8, "looks", "(III)I"⟩
abbrev cX8_hit : ByteArray := prog_10_method_71_code
def yX8_hit : MethodName := ⟨RX8, "hit", "(II)Z"⟩
abbrev cX8_mend : ByteArray := prog_10_method_72_code
def yX8_mend : MethodName := ⟨RX8, "mend", "(I)I"⟩
abbrev cX8_stopgap : ByteArray := prog_10_method_73_code
def yX8_stopgap : MethodName := ⟨RX8, "stopgap", "(II)I"⟩
abbrev cX8_year : ByteArray := prog_10_method_74_code
def yX8_year : MethodName := ⟨RX8, "year", "(I)I"⟩
abbrev cX8_hands : ByteArray := prog_10_method_75_code
def yX8_hands : MethodName := ⟨RX8, "hands", "()I"⟩
abbrev cX8_areSame : ByteArray := prog_10_method_76_code
def yX8_areSame : MethodName := ⟨RX8, "areSame", "([Z[Z)Z"⟩
abbrev cX8_fits : ByteArray := prog_10_method_77_code
def yX8_fits : MethodName := ⟨RX8, "fits", "(I)I"⟩
abbrev cX8_price : ByteArray := prog_10_method_78_code
def yX8_price : MethodName := ⟨RX8, "price", "()I"⟩
abbrev cX8_checksum : ByteArray := prog_10_method_79_code
def yX8_checksum : MethodName := ⟨RX8, "checksum", "()J"⟩
abbrev cX8_litShare : ByteArray := prog_10_method_80_code
def yX8_litShare : MethodName := ⟨RX8, "litShare", "()F"⟩
abbrev cX8_meanCells : ByteArray := prog_10_method_81_code
def yX8_meanCells : MethodName := ⟨RX8, "meanCells", "()D"⟩
abbrev cX8_isSound : ByteArray := prog_10_method_82_code
def yX8_isSound : MethodName := ⟨RX8, "isSound", "()Z"⟩
def RJx145de : String := "java/io/Serializable"
def TJx145de : u_T := fun k => match k with
  | _ => ("", "", "", false)
def tyJx145de : Nat → FieldType := fun k => match k with
  | _ => .int
theorem nmJx145de : ∀ a, a < 0 → ∀ b, b < 0 → a ≠ b → (TJx145de a).2.1 ≠ (TJx145de b).2.1 := by decide +kernel
def RJx9f9b0 : String := "java/lang/CharSequence"
def TJx9f9b0 : u_T := fun k => match k with
  | _ => ("", "", "", false)
def tyJx9f9b0 : Nat → FieldType := fun k => match k with
  | _ => .int
theorem nmJx9f9b0 : ∀ a, a < 0 → ∀ b, b < 0 → a ≠ b → (TJx9f9b0 a).2.1 ≠ (TJx9f9b0 b).2.1 := by decide +kernel
def RJ11 : String := "java/lang/Character"
def TJ11 : u_T := fun k => match k with
  | _ => ("", "", "", false)
def tyJ11 : Nat → FieldType := fun k => match k with
  | _ => .int
theorem nmJ11 : ∀ a, a < 0 → ∀ b, b < 0 → a ≠ b → (TJ11 a).2.1 ≠ (TJ11 b).2.1 := by decide +kernel
theorem tyJ11_ok : ∀ k, k < 0 → parseFieldDescriptor (TJ11 k).2.2.1 = some (tyJ11 k) := by decide +kernel
abbrev cJ11_isValidCodePoint_9a6ad : ByteArray := prog_13_method_11_code
def yJ11_isValidCodePoint_9a6ad : MethodName := ⟨RJ11, "isValidCodePoint", "(I)Z"⟩
abbrev cJ11_highSurrogate_5068e : ByteArray := prog_13_method_28_code
def yJ11_highSurrogate_5068e : MethodName := ⟨RJ11, "highSurrogate", "(I)C"⟩
abbrev cJ11_lowSurrogate_5068e : ByteArray := prog_13_method_29_code
def yJ11_lowSurrogate_5068e : MethodName := ⟨RJ11, "lowSurrogate", "(I)C"⟩
def RJx8e188 : String := "java/lang/Cloneable"
def TJx8e188 : u_T := fun k => match k with
  | _ => ("", "", "", false)
def tyJx8e188 : Nat → FieldType := fun k => match k with
  | _ => .int
theorem nmJx8e188 : ∀ a, a < 0 → ∀ b, b < 0 → a ≠ b → (TJx8e188 a).2.1 ≠ (TJx8e188 b).2.1 := by decide +kernel
def RJxb160c : String := "java/lang/Comparable"
def TJxb160c : u_T := fun k => match k with
  | _ => ("", "", "", false)
def tyJxb160c : Nat → FieldType := fun k => match k with
  | _ => .int
theorem nmJxb160c : ∀ a, a < 0 → ∀ b, b < 0 → a ≠ b → (TJxb160c a).2.1 ≠ (TJxb160c b).2.1 := by decide +kernel
def RJ6 : String := "java/lang/Integer"
def TJ6 : u_T := fun k => match k with
  | _ => ("", "", "", false)
def tyJ6 : Nat → FieldType := fun k => match k with
  | _ => .int
abbrev wsJ60 : List Cond := u_ws RJ6 TJ6 0
theorem nmJ6 : ∀ a, a < 0 → ∀ b, b < 0 → a ≠ b → (TJ6 a).2.1 ≠ (TJ6 b).2.1 := by decide +kernel
theorem tyJ6_ok : ∀ k, k < 0 → parseFieldDescriptor (TJ6 k).2.2.1 = some (tyJ6 k) := by decide +kernel
abbrev cJ6_bitCount_0f7a4 : ByteArray := prog_20_method_49_code
def yJ6_bitCount_0f7a4 : MethodName := ⟨RJ6, "bitCount", "(I)I"⟩
def RJ13 : String := "java/lang/Long"
def TJ13 : u_T := fun k => match k with
  | _ => ("", "", "", false)
def tyJ13 : Nat → FieldType := fun k => match k with
  | _ => .int
theorem nmJ13 : ∀ a, a < 0 → ∀ b, b < 0 → a ≠ b → (TJ13 a).2.1 ≠ (TJ13 b).2.1 := by decide +kernel
theorem tyJ13_ok : ∀ k, k < 0 → parseFieldDescriptor (TJ13 k).2.2.1 = some (tyJ13 k) := by decide +kernel
abbrev cJ13_bitCount_95d88 : ByteArray := prog_21_method_50_code
def yJ13_bitCount_95d88 : MethodName := ⟨RJ13, "bitCount", "(J)I"⟩
def RJ9 : String := "java/lang/Math"
def TJ9 : u_T := fun k => match k with
  | _ => ("", "", "", false)
def tyJ9 : Nat → FieldType := fun k => match k with
  | _ => .int
abbrev wsJ90 : List Cond := u_ws RJ9 TJ9 0
theorem nmJ9 : ∀ a, a < 0 → ∀ b, b < 0 → a ≠ b → (TJ9 a).2.1 ≠ (TJ9 b).2.1 := by decide +kernel
theorem tyJ9_ok : ∀ k, k < 0 → parseFieldDescriptor (TJ9 k).2.2.1 = some (tyJ9 k) := by decide +kernel
abbrev cJ9_abs_0f7a4 : ByteArray := prog_22_method_59_code
def yJ9_abs_0f7a4 : MethodName := ⟨RJ9, "abs", "(I)I"⟩
abbrev cJ9_max_7cf53 : ByteArray := prog_22_method_65_code
def yJ9_max_7cf53 : MethodName := ⟨RJ9, "max", "(II)I"⟩
abbrev cJ9_min_7cf53 : ByteArray := prog_22_method_69_code
def yJ9_min_7cf53 : MethodName := ⟨RJ9, "min", "(II)I"⟩
def RJ0 : String := "java/lang/String"
def TJ0 : u_T := fun k => match k with
  | _ => ("", "", "", false)
def tyJ0 : Nat → FieldType := fun k => match k with
  | _ => .int
abbrev wsJ00 : List Cond := u_ws RJ0 TJ0 0
theorem nmJ0 : ∀ a, a < 0 → ∀ b, b < 0 → a ≠ b → (TJ0 a).2.1 ≠ (TJ0 b).2.1 := by decide +kernel
theorem tyJ0_ok : ∀ k, k < 0 → parseFieldDescriptor (TJ0 k).2.2.1 = some (tyJ0 k) := by decide +kernel
abbrev cJ0_length_8abf5 : ByteArray := prog_24_method_54_code
def yJ0_length_8abf5 : MethodName := ⟨RJ0, "length", "()I"⟩
abbrev cJ0_indexOf_0f7a4 : ByteArray := prog_24_method_79_code
def yJ0_indexOf_0f7a4 : MethodName := ⟨RJ0, "indexOf", "(I)I"⟩
abbrev cJ0_indexOf_7cf53 : ByteArray := prog_24_method_80_code
def yJ0_indexOf_7cf53 : MethodName := ⟨RJ0, "indexOf", "(II)I"⟩
abbrev cJ0_coder_7d493 : ByteArray := prog_24_method_152_code
def yJ0_coder_7d493 : MethodName := ⟨RJ0, "coder", "()B"⟩
abbrev cJ0_isLatin1_aae02 : ByteArray := prog_24_method_154_code
def yJ0_isLatin1_aae02 : MethodName := ⟨RJ0, "isLatin1", "()Z"⟩
abbrev cJ0_checkBoundsBeginEnd_23922 : ByteArray := prog_24_method_158_code
def yJ0_checkBoundsBeginEnd_23922 : MethodName := ⟨RJ0, "checkBoundsBeginEnd", "(III)V"⟩
def RJ1 : String := "java/lang/StringLatin1"
def TJ1 : u_T := fun k => match k with
  | _ => ("", "", "", false)
def tyJ1 : Nat → FieldType := fun k => match k with
  | _ => .int
abbrev wsJ10 : List Cond := u_ws RJ1 TJ1 0
theorem nmJ1 : ∀ a, a < 0 → ∀ b, b < 0 → a ≠ b → (TJ1 a).2.1 ≠ (TJ1 b).2.1 := by decide +kernel
theorem tyJ1_ok : ∀ k, k < 0 → parseFieldDescriptor (TJ1 k).2.2.1 = some (tyJ1 k) := by decide +kernel
abbrev cJ1_canEncode_9a6ad : ByteArray := prog_25_method_4_code
def yJ1_canEncode_9a6ad : MethodName := ⟨RJ1, "canEncode", "(I)Z"⟩
abbrev cJ1_indexOf_4cfef : ByteArray := prog_25_method_22_code
def yJ1_indexOf_4cfef : MethodName := ⟨RJ1, "indexOf", "([BIII)I"⟩
abbrev cJ1_indexOfChar_4cfef : ByteArray := prog_25_method_23_code
def yJ1_indexOfChar_4cfef : MethodName := ⟨RJ1, "indexOfChar", "([BIII)I"⟩
def RJ2 : String := "java/lang/StringUTF16"
def TJ2 : u_T := fun k => match k with
  | _ => ("", "", "", false)
def tyJ2 : Nat → FieldType := fun k => match k with
  | _ => .int
abbrev wsJ20 : List Cond := u_ws RJ2 TJ2 0
theorem nmJ2 : ∀ a, a < 0 → ∀ b, b < 0 → a ≠ b → (TJ2 a).2.1 ≠ (TJ2 b).2.1 := by decide +kernel
theorem tyJ2_ok : ∀ k, k < 0 → parseFieldDescriptor (TJ2 k).2.2.1 = some (tyJ2 k) := by decide +kernel
abbrev cJ2_getChar_3b067 : ByteArray := prog_26_method_5_code
def yJ2_getChar_3b067 : MethodName := ⟨RJ2, "getChar", "([BI)C"⟩
abbrev cJ2_length_9d52b : ByteArray := prog_26_method_6_code
def yJ2_length_9d52b : MethodName := ⟨RJ2, "length", "([B)I"⟩
abbrev cJ2_indexOf_4cfef : ByteArray := prog_26_method_40_code
def yJ2_indexOf_4cfef : MethodName := ⟨RJ2, "indexOf", "([BIII)I"⟩
abbrev cJ2_indexOfChar_4cfef : ByteArray := prog_26_method_47_code
def yJ2_indexOfChar_4cfef : MethodName := ⟨RJ2, "indexOfChar", "([BIII)I"⟩
abbrev cJ2_indexOfCharUnsafe_4cfef : ByteArray := prog_26_method_48_code
def yJ2_indexOfCharUnsafe_4cfef : MethodName := ⟨RJ2, "indexOfCharUnsafe", "([BIII)I"⟩
abbrev cJ2_indexOfSupplementary_4cfef : ByteArray := prog_26_method_49_code
def yJ2_indexOfSupplementary_4cfef : MethodName := ⟨RJ2, "indexOfSupplementary", "([BIII)I"⟩
abbrev cJ2_checkBoundsBeginEnd_d044e : ByteArray := prog_26_method_93_code
def yJ2_checkBoundsBeginEnd_d044e : MethodName := ⟨RJ2, "checkBoundsBeginEnd", "(II[B)V"⟩
def RJxfd54e : String := "java/lang/constant/Constable"
def TJxfd54e : u_T := fun k => match k with
  | _ => ("", "", "", false)
def tyJxfd54e : Nat → FieldType := fun k => match k with
  | _ => .int
theorem nmJxfd54e : ∀ a, a < 0 → ∀ b, b < 0 → a ≠ b → (TJxfd54e a).2.1 ≠ (TJxfd54e b).2.1 := by decide +kernel
def RJx3cf43 : String := "java/lang/constant/ConstantDesc"
def TJx3cf43 : u_T := fun k => match k with
  | _ => ("", "", "", false)
def tyJx3cf43 : Nat → FieldType := fun k => match k with
  | _ => .int
theorem nmJx3cf43 : ∀ a, a < 0 → ∀ b, b < 0 → a ≠ b → (TJx3cf43 a).2.1 ≠ (TJx3cf43 b).2.1 := by decide +kernel
def RJ3 : String := "jdk/internal/util/Preconditions"
def TJ3 : u_T := fun k => match k with
  | _ => ("", "", "", false)
def tyJ3 : Nat → FieldType := fun k => match k with
  | _ => .int
abbrev wsJ30 : List Cond := u_ws RJ3 TJ3 0
theorem nmJ3 : ∀ a, a < 0 → ∀ b, b < 0 → a ≠ b → (TJ3 a).2.1 ≠ (TJ3 b).2.1 := by decide +kernel
theorem tyJ3_ok : ∀ k, k < 0 → parseFieldDescriptor (TJ3 k).2.2.1 = some (tyJ3 k) := by decide +kernel
abbrev cJ3_checkFromToIndex_8c36e : ByteArray := prog_32_method_12_code
def yJ3_checkFromToIndex_8c36e : MethodName := ⟨RJ3, "checkFromToIndex", "(IIILjava/util/function/BiFunction;)I"⟩
def RL : String := "LeadlightHallLaw"
abbrev cL_open : ByteArray := method_3_code
def yL_open : MethodName := ⟨RL, "open", "(LLeadlightHall;IIIIZ[J)I"⟩
abbrev cL_lay : ByteArray := method_4_code
def yL_lay : MethodName := ⟨RL, "lay", "(LLeadlightHall;IIIII[J)I"⟩
abbrev cL_pieceAt : ByteArray := method_5_code
def yL_pieceAt : MethodName := ⟨RL, "pieceAt", "(LLeadlightHall;II[J)I"⟩
abbrev cL_size : ByteArray := method_6_code
def yL_size : MethodName := ⟨RL, "size", "(LLeadlightHall;I[J)I"⟩
abbrev cL_corners : ByteArray := method_7_code
def yL_corners : MethodName := ⟨RL, "corners", "(LLeadlightHall;I[J)I"⟩
abbrev cL_point : ByteArray := method_8_code
def yL_point : MethodName := ⟨RL, "point", "(LLeadlightHall;I[J)I"⟩
abbrev cL_hinders : ByteArray := method_9_code
def yL_hinders : MethodName := ⟨RL, "hinders", "(LLeadlightHall;I[J)I"⟩
abbrev cL_split : ByteArray := method_10_code
def yL_split : MethodName := ⟨RL, "split", "(LLeadlightHall;I[J)I"⟩
abbrev cL_sheet : ByteArray := method_11_code
def yL_sheet : MethodName := ⟨RL, "sheet", "(LLeadlightHall;IIIC[J)I"⟩
abbrev cL_free : ByteArray := method_12_code
def yL_free : MethodName := ⟨RL, "free", "(LLeadlightHall;I[J)I"⟩
abbrev cL_want : ByteArray := method_13_code
def yL_want : MethodName := ⟨RL, "want", "(LLeadlightHall;IIC[J)I"⟩
abbrev cL_cut : ByteArray := method_14_code
def yL_cut : MethodName := ⟨RL, "cut", "(LLeadlightHall;IIZ[J)I"⟩
abbrev cL_glass : ByteArray := method_15_code
def yL_glass : MethodName := ⟨RL, "glass", "(LLeadlightHall;I[J)I"⟩
abbrev cL_colour : ByteArray := method_16_code
def yL_colour : MethodName := ⟨RL, "colour", "(LLeadlightHall;I[J)I"⟩
abbrev cL_paint : ByteArray := method_17_code
def yL_paint : MethodName := ⟨RL, "paint", "(LLeadlightHall;IC[J)I"⟩
abbrev cL_fire : ByteArray := method_18_code
def yL_fire : MethodName := ⟨RL, "fire", "(LLeadlightHall;II[J)I"⟩
abbrev cL_layers : ByteArray := method_19_code
def yL_layers : MethodName := ⟨RL, "layers", "(LLeadlightHall;IC[J)I"⟩
abbrev cL_seed : ByteArray := method_20_code
def yL_seed : MethodName := ⟨RL, "seed", "(LLeadlightHall;I[J)I"⟩
abbrev cL_next : ByteArray := method_21_code
def yL_next : MethodName := ⟨RL, "next", "(LLeadlightHall;[J)I"⟩
abbrev cL_comes : ByteArray := method_22_code
def yL_comes : MethodName := ⟨RL, "comes", "(LLeadlightHall;[J)I"⟩
abbrev cL_solder : ByteArray := method_23_code
def yL_solder : MethodName := ⟨RL, "solder", "(LLeadlightHall;[J)I"⟩
abbrev cL_bar : ByteArray := method_24_code
def yL_bar : MethodName := ⟨RL, "bar", "(LLeadlightHall;IZ[J)I"⟩
abbrev cL_profile : ByteArray := method_25_code
def yL_profile : MethodName := ⟨RL, "profile", "(LLeadlightHall;I[J)I"⟩
abbrev cL_wind : ByteArray := method_26_code
def yL_wind : MethodName := ⟨RL, "wind", "(LLeadlightHall;I[J)I"⟩
abbrev cL_years : ByteArray := method_27_code
def yL_years : MethodName := ⟨RL, "years", "(LLeadlightHall;I[J)I"⟩
abbrev cL_looks : ByteArray := method_28_code
def yL_looks : MethodName := ⟨RL, "looks", "(LLeadlightHall;III[J)I"⟩
abbrev cL_hit : ByteArray := method_29_code
def yL_hit : MethodName := ⟨RL, "hit", "(LLeadlightHall;II[J)I"⟩
abbrev cL_mend : ByteArray := method_30_code
def yL_mend : MethodName := ⟨RL, "mend", "(LLeadlightHall;I[J)I"⟩
abbrev cL_stopgap : ByteArray := method_31_code
def yL_stopgap : MethodName := ⟨RL, "stopgap", "(LLeadlightHall;II[J)I"⟩
abbrev cL_year : ByteArray := method_32_code
def yL_year : MethodName := ⟨RL, "year", "(LLeadlightHall;I[J)I"⟩
abbrev cL_fits : ByteArray := method_33_code
def yL_fits : MethodName := ⟨RL, "fits", "(LLeadlightHall;I[J)I"⟩
abbrev cL_litShare : ByteArray := method_34_code
def yL_litShare : MethodName := ⟨RL, "litShare", "(LLeadlightHall;[D)I"⟩
abbrev cL_meanCells : ByteArray := method_35_code
def yL_meanCells : MethodName := ⟨RL, "meanCells", "(LLeadlightHall;[D)I"⟩
abbrev cL_law : ByteArray := code
def yL_law : MethodName := ⟨RL, "law", "([I)Z"⟩
abbrev vwCl : List vw_C := [(RX0, TX0, 3), (RX1, TX1, 2), (RX2, TX2, 7), (RX3, TX3, 2), (RX4, TX4, 5), (RX5, TX5, 1), (RX6, TX6, 1), (RX7, TX7, 16), (RX8, TX8, 22)]
def dl_X0_init_0 : List (Nat × Instr × Nat) := [(0, .aload_n 0, 1), (1, .invokespecial 3, 3), (4, .aload_n 0, 1), (5, .iconst 0, 1), (6, .putfield 9, 3), (9, .aload_n 0, 1), (10, .iconst 1, 1), (11, .putfield 15, 3), (14, .aload_n 0, 1), (15, .iconst 0, 1), (16, .putfield 18, 3), (19, .return_, 1)]
set_option maxRecDepth 20000 in
theorem dk_X0_init_0 : dl_X0_init_0.all (fun q => decide (decode cX0_init q.1 = .ok (q.2.1, q.2.2))) = true := dq_all 0 (by decide +kernel)
def dl_X0_hasBar_0 : List (Nat × Instr × Nat) := [(0, .aload_n 0, 1), (1, .getfield 9, 3), (4, .iload_n 1, 1), (5, .ishr, 1), (6, .iconst 1, 1), (7, .iand, 1), (8, .iconst 1, 1), (9, .if_icmp .ne 7, 3), (12, .iconst 1, 1), (13, .goto 4, 3), (16, .iconst 0, 1), (17, .ireturn, 1)]
set_option maxRecDepth 20000 in
theorem dk_X0_hasBar_0 : dl_X0_hasBar_0.all (fun q => decide (decode cX0_hasBar q.1 = .ok (q.2.1, q.2.2))) = true := dq_all 0 (by decide +kernel)
def dl_X0_setBar_0 : List (Nat × Instr × Nat) := [(0, .aload_n 0, 1), (1, .iload_n 2, 1), (2, .ifCond .eq 14, 3), (5, .aload_n 0, 1), (6, .getfield 9, 3), (9, .iconst 1, 1), (10, .iload_n 1, 1), (11, .ishl, 1), (12, .ior, 1), (13, .goto 13, 3), (16, .aload_n 0, 1), (17, .getfield 9, 3), (20, .iconst 1, 1), (21, .iload_n 1, 1), (22, .ishl, 1), (23, .iconst (-1), 1)]
set_option maxRecDepth 20000 in
theorem dk_X0_setBar_0 : dl_X0_setBar_0.all (fun q => decide (decode cX0_setBar q.1 = .ok (q.2.1, q.2.2))) = true := dq_all 0 (by decide +kernel)
def dl_X0_setBar_1 : List (Nat × Instr × Nat) := [(24, .ixor, 1), (25, .iand, 1), (26, .putfield 9, 3), (29, .return_, 1)]
set_option maxRecDepth 20000 in
theorem dk_X0_setBar_1 : dl_X0_setBar_1.all (fun q => decide (decode cX0_setBar q.1 = .ok (q.2.1, q.2.2))) = true := dq_all 24 (by decide +kernel)
def dl_X0_mostBorne_0 : List (Nat × Instr × Nat) := [(0, .iconst 0, 1), (1, .istore_n 2, 1), (2, .iconst 0, 1), (3, .istore_n 3, 1), (4, .iconst 1, 1), (5, .istore 4, 2), (7, .iload 4, 2), (9, .bipush 12, 2), (11, .if_icmp .gt 60, 3), (14, .iload 4, 2), (16, .bipush 12, 2), (18, .if_icmp .eq 12, 3), (21, .aload_n 0, 1), (22, .iload 4, 2), (24, .invokevirtual 21, 3), (27, .ifCond .eq 38, 3)]
set_option maxRecDepth 20000 in
theorem dk_X0_mostBorne_0 : dl_X0_mostBorne_0.all (fun q => decide (decode cX0_mostBorne q.1 = .ok (q.2.1, q.2.2))) = true := dq_all 0 (by decide +kernel)
def dl_X0_mostBorne_1 : List (Nat × Instr × Nat) := [(30, .iload 4, 2), (32, .iload_n 3, 1), (33, .isub, 1), (34, .istore 5, 2), (36, .iload_n 2, 1), (37, .aload_n 0, 1), (38, .getfield 18, 3), (41, .iload 5, 2), (43, .imul, 1), (44, .iload 5, 2), (46, .imul, 1), (47, .iconst 4, 1), (48, .iconst 1, 1), (49, .aload_n 0, 1), (50, .getfield 15, 3), (53, .invokestatic 25, 3)]
set_option maxRecDepth 20000 in
theorem dk_X0_mostBorne_1 : dl_X0_mostBorne_1.all (fun q => decide (decode cX0_mostBorne q.1 = .ok (q.2.1, q.2.2))) = true := dq_all 30 (by decide +kernel)
def dl_X0_mostBorne_2 : List (Nat × Instr × Nat) := [(56, .imul, 1), (57, .idiv, 1), (58, .invokestatic 25, 3), (61, .istore_n 2, 1), (62, .iload 4, 2), (64, .istore_n 3, 1), (65, .iinc 4 1, 3), (68, .goto (-61), 3), (71, .iload_n 2, 1), (72, .iload_n 1, 1), (73, .bipush 10, 2), (75, .idiv, 1), (76, .iadd, 1), (77, .ireturn, 1)]
set_option maxRecDepth 20000 in
theorem dk_X0_mostBorne_2 : dl_X0_mostBorne_2.all (fun q => decide (decode cX0_mostBorne q.1 = .ok (q.2.1, q.2.2))) = true := dq_all 56 (by decide +kernel)
def dl_X1_init_0 : List (Nat × Instr × Nat) := [(0, .aload_n 0, 1), (1, .invokespecial 1, 3), (4, .aload_n 0, 1), (5, .iconst 4, 1), (6, .newarray .int, 2), (8, .putfield 9, 3), (11, .aload_n 0, 1), (12, .iconst 4, 1), (13, .newarray .int, 2), (15, .putfield 13, 3), (18, .return_, 1)]
set_option maxRecDepth 20000 in
theorem dk_X1_init_0 : dl_X1_init_0.all (fun q => decide (decode cX1_init q.1 = .ok (q.2.1, q.2.2))) = true := dq_all 0 (by decide +kernel)
def dl_X1_numberOf_0 : List (Nat × Instr × Nat) := [(0, .iconst 0, 1), (1, .istore_n 1, 1), (2, .iload_n 1, 1), (3, .iconst 4, 1), (4, .if_icmp .ge 20, 3), (7, .getstatic 16, 3), (10, .iload_n 1, 1), (11, .caload, 1), (12, .iload_n 0, 1), (13, .if_icmp .ne 5, 3), (16, .iload_n 1, 1), (17, .ireturn, 1), (18, .iinc 1 1, 3), (21, .goto (-19), 3), (24, .iconst (-1), 1), (25, .ireturn, 1)]
set_option maxRecDepth 20000 in
theorem dk_X1_numberOf_0 : dl_X1_numberOf_0.all (fun q => decide (decode cX1_numberOf q.1 = .ok (q.2.1, q.2.2))) = true := dq_all 0 (by decide +kernel)
def dl_X1_clear_0 : List (Nat × Instr × Nat) := [(0, .iconst 0, 1), (1, .istore_n 1, 1), (2, .iload_n 1, 1), (3, .iconst 4, 1), (4, .if_icmp .ge 23, 3), (7, .aload_n 0, 1), (8, .getfield 9, 3), (11, .iload_n 1, 1), (12, .iconst 0, 1), (13, .iastore, 1), (14, .aload_n 0, 1), (15, .getfield 13, 3), (18, .iload_n 1, 1), (19, .iconst 0, 1), (20, .iastore, 1), (21, .iinc 1 1, 3)]
set_option maxRecDepth 20000 in
theorem dk_X1_clear_0 : dl_X1_clear_0.all (fun q => decide (decode cX1_clear q.1 = .ok (q.2.1, q.2.2))) = true := dq_all 0 (by decide +kernel)
def dl_X1_clear_1 : List (Nat × Instr × Nat) := [(24, .goto (-22), 3), (27, .return_, 1)]
set_option maxRecDepth 20000 in
theorem dk_X1_clear_1 : dl_X1_clear_1.all (fun q => decide (decode cX1_clear q.1 = .ok (q.2.1, q.2.2))) = true := dq_all 24 (by decide +kernel)
def dl_X1_hasStain_0 : List (Nat × Instr × Nat) := [(0, .aload_n 0, 1), (1, .getfield 9, 3), (4, .iconst 2, 1), (5, .iaload, 1), (6, .aload_n 0, 1), (7, .getfield 13, 3), (10, .iconst 2, 1), (11, .iaload, 1), (12, .iadd, 1), (13, .ifCond .le 7, 3), (16, .iconst 1, 1), (17, .goto 4, 3), (20, .iconst 0, 1), (21, .ireturn, 1)]
set_option maxRecDepth 20000 in
theorem dk_X1_hasStain_0 : dl_X1_hasStain_0.all (fun q => decide (decode cX1_hasStain q.1 = .ok (q.2.1, q.2.2))) = true := dq_all 0 (by decide +kernel)
def dl_X1_add_0 : List (Nat × Instr × Nat) := [(0, .iload_n 1, 1), (1, .ifCond .lt 18, 3), (4, .iload_n 1, 1), (5, .iconst 4, 1), (6, .if_icmp .ge 13, 3), (9, .aload_n 0, 1), (10, .getfield 9, 3), (13, .iload_n 1, 1), (14, .dup2, 1), (15, .iaload, 1), (16, .iconst 1, 1), (17, .iadd, 1), (18, .iastore, 1), (19, .return_, 1)]
set_option maxRecDepth 20000 in
theorem dk_X1_add_0 : dl_X1_add_0.all (fun q => decide (decode cX1_add q.1 = .ok (q.2.1, q.2.2))) = true := dq_all 0 (by decide +kernel)
def dl_X1_keptLayers_0 : List (Nat × Instr × Nat) := [(0, .aload_n 0, 1), (1, .invokevirtual 20, 3), (4, .aload_n 0, 1), (5, .invokevirtual 24, 3), (8, .iadd, 1), (9, .ireturn, 1)]
set_option maxRecDepth 20000 in
theorem dk_X1_keptLayers_0 : dl_X1_keptLayers_0.all (fun q => decide (decode cX1_keptLayers q.1 = .ok (q.2.1, q.2.2))) = true := dq_all 0 (by decide +kernel)
def dl_X1_rawLayers_0 : List (Nat × Instr × Nat) := [(0, .iconst 0, 1), (1, .istore_n 1, 1), (2, .iconst 0, 1), (3, .istore_n 2, 1), (4, .iload_n 2, 1), (5, .iconst 4, 1), (6, .if_icmp .ge 18, 3), (9, .iload_n 1, 1), (10, .aload_n 0, 1), (11, .getfield 9, 3), (14, .iload_n 2, 1), (15, .iaload, 1), (16, .iadd, 1), (17, .istore_n 1, 1), (18, .iinc 2 1, 3), (21, .goto (-17), 3)]
set_option maxRecDepth 20000 in
theorem dk_X1_rawLayers_0 : dl_X1_rawLayers_0.all (fun q => decide (decode cX1_rawLayers q.1 = .ok (q.2.1, q.2.2))) = true := dq_all 0 (by decide +kernel)
def dl_X1_rawLayers_1 : List (Nat × Instr × Nat) := [(24, .iload_n 1, 1), (25, .ireturn, 1)]
set_option maxRecDepth 20000 in
theorem dk_X1_rawLayers_1 : dl_X1_rawLayers_1.all (fun q => decide (decode cX1_rawLayers q.1 = .ok (q.2.1, q.2.2))) = true := dq_all 24 (by decide +kernel)
def dl_X1_fixedLayers_0 : List (Nat × Instr × Nat) := [(0, .iconst 0, 1), (1, .istore_n 1, 1), (2, .iconst 0, 1), (3, .istore_n 2, 1), (4, .iload_n 2, 1), (5, .iconst 4, 1), (6, .if_icmp .ge 18, 3), (9, .iload_n 1, 1), (10, .aload_n 0, 1), (11, .getfield 13, 3), (14, .iload_n 2, 1), (15, .iaload, 1), (16, .iadd, 1), (17, .istore_n 1, 1), (18, .iinc 2 1, 3), (21, .goto (-17), 3)]
set_option maxRecDepth 20000 in
theorem dk_X1_fixedLayers_0 : dl_X1_fixedLayers_0.all (fun q => decide (decode cX1_fixedLayers q.1 = .ok (q.2.1, q.2.2))) = true := dq_all 0 (by decide +kernel)
def dl_X1_fixedLayers_1 : List (Nat × Instr × Nat) := [(24, .iload_n 1, 1), (25, .ireturn, 1)]
set_option maxRecDepth 20000 in
theorem dk_X1_fixedLayers_1 : dl_X1_fixedLayers_1.all (fun q => decide (decode cX1_fixedLayers q.1 = .ok (q.2.1, q.2.2))) = true := dq_all 24 (by decide +kernel)
def dl_X1_heat_0 : List (Nat × Instr × Nat) := [(0, .iconst 0, 1), (1, .istore_n 2, 1), (2, .iconst 0, 1), (3, .istore_n 3, 1), (4, .iload_n 3, 1), (5, .iconst 4, 1), (6, .if_icmp .ge 80, 3), (9, .iload_n 1, 1), (10, .getstatic 27, 3), (13, .iload_n 3, 1), (14, .iaload, 1), (15, .isub, 1), (16, .istore 4, 2), (18, .iload 4, 2), (20, .bipush 15, 2), (22, .if_icmp .le 20, 3)]
set_option maxRecDepth 20000 in
theorem dk_X1_heat_0 : dl_X1_heat_0.all (fun q => decide (decode cX1_heat q.1 = .ok (q.2.1, q.2.2))) = true := dq_all 0 (by decide +kernel)
def dl_X1_heat_1 : List (Nat × Instr × Nat) := [(25, .aload_n 0, 1), (26, .getfield 9, 3), (29, .iload_n 3, 1), (30, .iconst 0, 1), (31, .iastore, 1), (32, .aload_n 0, 1), (33, .getfield 13, 3), (36, .iload_n 3, 1), (37, .iconst 0, 1), (38, .iastore, 1), (39, .goto 41, 3), (42, .iload 4, 2), (44, .bipush (-15), 2), (46, .if_icmp .lt 34, 3), (49, .iload_n 2, 1), (50, .aload_n 0, 1)]
set_option maxRecDepth 20000 in
theorem dk_X1_heat_1 : dl_X1_heat_1.all (fun q => decide (decode cX1_heat q.1 = .ok (q.2.1, q.2.2))) = true := dq_all 25 (by decide +kernel)
def dl_X1_heat_2 : List (Nat × Instr × Nat) := [(51, .getfield 9, 3), (54, .iload_n 3, 1), (55, .iaload, 1), (56, .iadd, 1), (57, .istore_n 2, 1), (58, .aload_n 0, 1), (59, .getfield 13, 3), (62, .iload_n 3, 1), (63, .dup2, 1), (64, .iaload, 1), (65, .aload_n 0, 1), (66, .getfield 9, 3), (69, .iload_n 3, 1), (70, .iaload, 1), (71, .iadd, 1), (72, .iastore, 1)]
set_option maxRecDepth 20000 in
theorem dk_X1_heat_2 : dl_X1_heat_2.all (fun q => decide (decode cX1_heat q.1 = .ok (q.2.1, q.2.2))) = true := dq_all 51 (by decide +kernel)
def dl_X1_heat_3 : List (Nat × Instr × Nat) := [(73, .aload_n 0, 1), (74, .getfield 9, 3), (77, .iload_n 3, 1), (78, .iconst 0, 1), (79, .iastore, 1), (80, .iinc 3 1, 3), (83, .goto (-79), 3), (86, .iload_n 2, 1), (87, .ireturn, 1)]
set_option maxRecDepth 20000 in
theorem dk_X1_heat_3 : dl_X1_heat_3.all (fun q => decide (decode cX1_heat q.1 = .ok (q.2.1, q.2.2))) = true := dq_all 73 (by decide +kernel)
def dl_X2_init_0 : List (Nat × Instr × Nat) := [(0, .aload_n 0, 1), (1, .invokespecial 3, 3), (4, .aload_n 0, 1), (5, .iconst 0, 1), (6, .putfield 9, 3), (9, .aload_n 0, 1), (10, .bipush 45, 2), (12, .putfield 15, 3), (15, .aload_n 0, 1), (16, .bipush 45, 2), (18, .putfield 19, 3), (21, .aload_n 0, 1), (22, .iconst 0, 1), (23, .putfield 22, 3), (26, .aload_n 0, 1), (27, .iconst 0, 1)]
set_option maxRecDepth 20000 in
theorem dk_X2_init_0 : dl_X2_init_0.all (fun q => decide (decode cX2_init q.1 = .ok (q.2.1, q.2.2))) = true := dq_all 0 (by decide +kernel)
def dl_X2_init_1 : List (Nat × Instr × Nat) := [(28, .putfield 25, 3), (31, .aload_n 0, 1), (32, .new 28, 3), (35, .dup, 1), (36, .invokespecial 30, 3), (39, .putfield 31, 3), (42, .aload_n 0, 1), (43, .new 35, 3), (46, .dup, 1), (47, .invokespecial 37, 3), (50, .putfield 38, 3), (53, .return_, 1)]
set_option maxRecDepth 20000 in
theorem dk_X2_init_1 : dl_X2_init_1.all (fun q => decide (decode cX2_init q.1 = .ok (q.2.1, q.2.2))) = true := dq_all 28 (by decide +kernel)
def dl_X2_hasGlass_0 : List (Nat × Instr × Nat) := [(0, .aload_n 0, 1), (1, .getfield 19, 3), (4, .bipush 45, 2), (6, .if_icmp .eq 7, 3), (9, .iconst 1, 1), (10, .goto 4, 3), (13, .iconst 0, 1), (14, .ireturn, 1)]
set_option maxRecDepth 20000 in
theorem dk_X2_hasGlass_0 : dl_X2_hasGlass_0.all (fun q => decide (decode cX2_hasGlass q.1 = .ok (q.2.1, q.2.2))) = true := dq_all 0 (by decide +kernel)
def dl_X2_lacksGlass_0 : List (Nat × Instr × Nat) := [(0, .aload_n 0, 1), (1, .getfield 19, 3), (4, .bipush 45, 2), (6, .if_icmp .eq 12, 3), (9, .aload_n 0, 1), (10, .getfield 19, 3), (13, .bipush 98, 2), (15, .if_icmp .ne 7, 3), (18, .iconst 1, 1), (19, .goto 4, 3), (22, .iconst 0, 1), (23, .ireturn, 1)]
set_option maxRecDepth 20000 in
theorem dk_X2_lacksGlass_0 : dl_X2_lacksGlass_0.all (fun q => decide (decode cX2_lacksGlass q.1 = .ok (q.2.1, q.2.2))) = true := dq_all 0 (by decide +kernel)
def dl_X2_wantLike_0 : List (Nat × Instr × Nat) := [(0, .aload_n 0, 1), (1, .aload_n 1, 1), (2, .getfield 9, 3), (5, .putfield 9, 3), (8, .aload_n 0, 1), (9, .aload_n 1, 1), (10, .getfield 15, 3), (13, .putfield 15, 3), (16, .return_, 1)]
set_option maxRecDepth 20000 in
theorem dk_X2_wantLike_0 : dl_X2_wantLike_0.all (fun q => decide (decode cX2_wantLike q.1 = .ok (q.2.1, q.2.2))) = true := dq_all 0 (by decide +kernel)
def dl_X2_wants_0 : List (Nat × Instr × Nat) := [(0, .aload_n 1, 1), (1, .getfield 42, 3), (4, .aload_n 0, 1), (5, .getfield 9, 3), (8, .if_icmp .ne 28, 3), (11, .aload_n 0, 1), (12, .getfield 15, 3), (15, .bipush 45, 2), (17, .if_icmp .eq 15, 3), (20, .aload_n 0, 1), (21, .getfield 15, 3), (24, .aload_n 1, 1), (25, .iload_n 2, 1), (26, .invokevirtual 45, 3), (29, .if_icmp .ne 7, 3), (32, .iconst 1, 1)]
set_option maxRecDepth 20000 in
theorem dk_X2_wants_0 : dl_X2_wants_0.all (fun q => decide (decode cX2_wants q.1 = .ok (q.2.1, q.2.2))) = true := dq_all 0 (by decide +kernel)
def dl_X2_wants_1 : List (Nat × Instr × Nat) := [(33, .goto 4, 3), (36, .iconst 0, 1), (37, .ireturn, 1)]
set_option maxRecDepth 20000 in
theorem dk_X2_wants_1 : dl_X2_wants_1.all (fun q => decide (decode cX2_wants q.1 = .ok (q.2.1, q.2.2))) = true := dq_all 33 (by decide +kernel)
def dl_X2_glaze_0 : List (Nat × Instr × Nat) := [(0, .aload_n 0, 1), (1, .iload_n 1, 1), (2, .putfield 19, 3), (5, .aload_n 0, 1), (6, .iload_n 2, 1), (7, .putfield 22, 3), (10, .aload_n 0, 1), (11, .iload_n 3, 1), (12, .putfield 25, 3), (15, .aload_n 0, 1), (16, .getfield 31, 3), (19, .invokevirtual 49, 3), (22, .aload_n 0, 1), (23, .getfield 38, 3), (26, .invokevirtual 52, 3), (29, .return_, 1)]
set_option maxRecDepth 20000 in
theorem dk_X2_glaze_0 : dl_X2_glaze_0.all (fun q => decide (decode cX2_glaze q.1 = .ok (q.2.1, q.2.2))) = true := dq_all 0 (by decide +kernel)
def dl_X3_init_0 : List (Nat × Instr × Nat) := [(0, .aload_n 0, 1), (1, .invokespecial 3, 3), (4, .aload_n 0, 1), (5, .bipush 12, 2), (7, .newarray .int, 2), (9, .putfield 9, 3), (12, .aload_n 0, 1), (13, .bipush 12, 2), (15, .newarray .int, 2), (17, .putfield 15, 3), (20, .return_, 1)]
set_option maxRecDepth 20000 in
theorem dk_X3_init_0 : dl_X3_init_0.all (fun q => decide (decode cX3_init q.1 = .ok (q.2.1, q.2.2))) = true := dq_all 0 (by decide +kernel)
def dl_X3_clear_0 : List (Nat × Instr × Nat) := [(0, .iconst 0, 1), (1, .istore_n 1, 1), (2, .iload_n 1, 1), (3, .bipush 12, 2), (5, .if_icmp .ge 16, 3), (8, .aload_n 0, 1), (9, .getfield 9, 3), (12, .iload_n 1, 1), (13, .iconst 0, 1), (14, .iastore, 1), (15, .iinc 1 1, 3), (18, .goto (-16), 3), (21, .return_, 1)]
set_option maxRecDepth 20000 in
theorem dk_X3_clear_0 : dl_X3_clear_0.all (fun q => decide (decode cX3_clear q.1 = .ok (q.2.1, q.2.2))) = true := dq_all 0 (by decide +kernel)
def dl_X3_add_0 : List (Nat × Instr × Nat) := [(0, .iload_n 1, 1), (1, .iload_n 2, 1), (2, .invokestatic 18, 3), (5, .ifCond .eq 15, 3), (8, .aload_n 0, 1), (9, .getfield 9, 3), (12, .iload_n 2, 1), (13, .dup2, 1), (14, .iaload, 1), (15, .iconst 1, 1), (16, .iload_n 1, 1), (17, .ishl, 1), (18, .ior, 1), (19, .iastore, 1), (20, .return_, 1)]
set_option maxRecDepth 20000 in
theorem dk_X3_add_0 : dl_X3_add_0.all (fun q => decide (decode cX3_add q.1 = .ok (q.2.1, q.2.2))) = true := dq_all 0 (by decide +kernel)
def dl_X3_has_0 : List (Nat × Instr × Nat) := [(0, .iload_n 1, 1), (1, .iload_n 2, 1), (2, .invokestatic 18, 3), (5, .ifCond .eq 21, 3), (8, .aload_n 0, 1), (9, .getfield 9, 3), (12, .iload_n 2, 1), (13, .iaload, 1), (14, .iload_n 1, 1), (15, .ishr, 1), (16, .iconst 1, 1), (17, .iand, 1), (18, .iconst 1, 1), (19, .if_icmp .ne 7, 3), (22, .iconst 1, 1), (23, .goto 4, 3)]
set_option maxRecDepth 20000 in
theorem dk_X3_has_0 : dl_X3_has_0.all (fun q => decide (decode cX3_has q.1 = .ok (q.2.1, q.2.2))) = true := dq_all 0 (by decide +kernel)
def dl_X3_has_1 : List (Nat × Instr × Nat) := [(26, .iconst 0, 1), (27, .ireturn, 1)]
set_option maxRecDepth 20000 in
theorem dk_X3_has_1 : dl_X3_has_1.all (fun q => decide (decode cX3_has q.1 = .ok (q.2.1, q.2.2))) = true := dq_all 26 (by decide +kernel)
def dl_X3_row_0 : List (Nat × Instr × Nat) := [(0, .iload_n 1, 1), (1, .ifCond .lt 18, 3), (4, .iload_n 1, 1), (5, .bipush 12, 2), (7, .if_icmp .ge 12, 3), (10, .aload_n 0, 1), (11, .getfield 9, 3), (14, .iload_n 1, 1), (15, .iaload, 1), (16, .goto 4, 3), (19, .iconst 0, 1), (20, .ireturn, 1)]
set_option maxRecDepth 20000 in
theorem dk_X3_row_0 : dl_X3_row_0.all (fun q => decide (decode cX3_row q.1 = .ok (q.2.1, q.2.2))) = true := dq_all 0 (by decide +kernel)
def dl_X3_cellCount_0 : List (Nat × Instr × Nat) := [(0, .iconst 0, 1), (1, .istore_n 1, 1), (2, .iconst 0, 1), (3, .istore_n 2, 1), (4, .iload_n 2, 1), (5, .bipush 12, 2), (7, .if_icmp .ge 21, 3), (10, .iload_n 1, 1), (11, .aload_n 0, 1), (12, .getfield 9, 3), (15, .iload_n 2, 1), (16, .iaload, 1), (17, .invokestatic 22, 3), (20, .iadd, 1), (21, .istore_n 1, 1), (22, .iinc 2 1, 3)]
set_option maxRecDepth 20000 in
theorem dk_X3_cellCount_0 : dl_X3_cellCount_0.all (fun q => decide (decode cX3_cellCount q.1 = .ok (q.2.1, q.2.2))) = true := dq_all 0 (by decide +kernel)
def dl_X3_cellCount_1 : List (Nat × Instr × Nat) := [(25, .goto (-21), 3), (28, .iload_n 1, 1), (29, .ireturn, 1)]
set_option maxRecDepth 20000 in
theorem dk_X3_cellCount_1 : dl_X3_cellCount_1.all (fun q => decide (decode cX3_cellCount q.1 = .ok (q.2.1, q.2.2))) = true := dq_all 25 (by decide +kernel)
def dl_X3_hindrance_0 : List (Nat × Instr × Nat) := [(0, .aload_n 0, 1), (1, .invokevirtual 28, 3), (4, .ifCond .ne 6, 3), (7, .bipush 101, 2), (9, .ireturn, 1), (10, .aload_n 0, 1), (11, .invokevirtual 32, 3), (14, .ifCond .ne 6, 3), (17, .bipush 119, 2), (19, .ireturn, 1), (20, .aload_n 0, 1), (21, .invokevirtual 36, 3), (24, .iconst 2, 1), (25, .if_icmp .le 6, 3), (28, .bipush 99, 2), (30, .ireturn, 1)]
set_option maxRecDepth 20000 in
theorem dk_X3_hindrance_0 : dl_X3_hindrance_0.all (fun q => decide (decode cX3_hindrance q.1 = .ok (q.2.1, q.2.2))) = true := dq_all 0 (by decide +kernel)
def dl_X3_hindrance_1 : List (Nat × Instr × Nat) := [(31, .aload_n 0, 1), (32, .invokevirtual 39, 3), (35, .iconst 4, 1), (36, .if_icmp .le 8, 3), (39, .bipush 112, 2), (41, .goto 5, 3), (44, .bipush 45, 2), (46, .ireturn, 1)]
set_option maxRecDepth 20000 in
theorem dk_X3_hindrance_1 : dl_X3_hindrance_1.all (fun q => decide (decode cX3_hindrance q.1 = .ok (q.2.1, q.2.2))) = true := dq_all 31 (by decide +kernel)
def dl_X3_isWhole_0 : List (Nat × Instr × Nat) := [(0, .iconst 0, 1), (1, .istore_n 1, 1), (2, .iconst 0, 1), (3, .istore_n 2, 1), (4, .iload_n 2, 1), (5, .bipush 12, 2), (7, .if_icmp .ge 56, 3), (10, .aload_n 0, 1), (11, .getfield 15, 3), (14, .iload_n 2, 1), (15, .iload_n 1, 1), (16, .ifCond .eq 7, 3), (19, .iconst 0, 1), (20, .goto 17, 3), (23, .aload_n 0, 1), (24, .getfield 9, 3)]
set_option maxRecDepth 20000 in
theorem dk_X3_isWhole_0 : dl_X3_isWhole_0.all (fun q => decide (decode cX3_isWhole q.1 = .ok (q.2.1, q.2.2))) = true := dq_all 0 (by decide +kernel)
def dl_X3_isWhole_1 : List (Nat × Instr × Nat) := [(27, .iload_n 2, 1), (28, .iaload, 1), (29, .aload_n 0, 1), (30, .getfield 9, 3), (33, .iload_n 2, 1), (34, .iaload, 1), (35, .ineg, 1), (36, .iand, 1), (37, .iastore, 1), (38, .iload_n 1, 1), (39, .ifCond .ne 12, 3), (42, .aload_n 0, 1), (43, .getfield 9, 3), (46, .iload_n 2, 1), (47, .iaload, 1), (48, .ifCond .eq 7, 3)]
set_option maxRecDepth 20000 in
theorem dk_X3_isWhole_1 : dl_X3_isWhole_1.all (fun q => decide (decode cX3_isWhole q.1 = .ok (q.2.1, q.2.2))) = true := dq_all 27 (by decide +kernel)
def dl_X3_isWhole_2 : List (Nat × Instr × Nat) := [(51, .iconst 1, 1), (52, .goto 4, 3), (55, .iconst 0, 1), (56, .istore_n 1, 1), (57, .iinc 2 1, 3), (60, .goto (-56), 3), (63, .iconst 1, 1), (64, .istore_n 2, 1), (65, .iconst 0, 1), (66, .istore_n 3, 1), (67, .iload_n 3, 1), (68, .sipush 144, 3), (71, .if_icmp .ge 18, 3), (74, .iload_n 2, 1), (75, .ifCond .eq 14, 3), (78, .aload_n 0, 1)]
set_option maxRecDepth 20000 in
theorem dk_X3_isWhole_2 : dl_X3_isWhole_2.all (fun q => decide (decode cX3_isWhole q.1 = .ok (q.2.1, q.2.2))) = true := dq_all 51 (by decide +kernel)
def dl_X3_isWhole_3 : List (Nat × Instr × Nat) := [(79, .invokevirtual 42, 3), (82, .istore_n 2, 1), (83, .iinc 3 1, 3), (86, .goto (-19), 3), (89, .iconst 0, 1), (90, .istore_n 3, 1), (91, .iload_n 3, 1), (92, .bipush 12, 2), (94, .if_icmp .ge 26, 3), (97, .aload_n 0, 1), (98, .getfield 15, 3), (101, .iload_n 3, 1), (102, .iaload, 1), (103, .aload_n 0, 1), (104, .getfield 9, 3), (107, .iload_n 3, 1)]
set_option maxRecDepth 20000 in
theorem dk_X3_isWhole_3 : dl_X3_isWhole_3.all (fun q => decide (decode cX3_isWhole q.1 = .ok (q.2.1, q.2.2))) = true := dq_all 79 (by decide +kernel)
def dl_X3_isWhole_4 : List (Nat × Instr × Nat) := [(108, .iaload, 1), (109, .if_icmp .eq 5, 3), (112, .iconst 0, 1), (113, .ireturn, 1), (114, .iinc 3 1, 3), (117, .goto (-26), 3), (120, .iconst 1, 1), (121, .ireturn, 1)]
set_option maxRecDepth 20000 in
theorem dk_X3_isWhole_4 : dl_X3_isWhole_4.all (fun q => decide (decode cX3_isWhole q.1 = .ok (q.2.1, q.2.2))) = true := dq_all 108 (by decide +kernel)
def dl_X3_grow_0 : List (Nat × Instr × Nat) := [(0, .iconst 0, 1), (1, .istore_n 1, 1), (2, .iconst 0, 1), (3, .istore_n 2, 1), (4, .iload_n 2, 1), (5, .bipush 12, 2), (7, .if_icmp .ge 113, 3), (10, .iload_n 2, 1), (11, .ifCond .le 14, 3), (14, .aload_n 0, 1), (15, .getfield 15, 3), (18, .iload_n 2, 1), (19, .iconst 1, 1), (20, .isub, 1), (21, .iaload, 1), (22, .goto 4, 3)]
set_option maxRecDepth 20000 in
theorem dk_X3_grow_0 : dl_X3_grow_0.all (fun q => decide (decode cX3_grow q.1 = .ok (q.2.1, q.2.2))) = true := dq_all 0 (by decide +kernel)
def dl_X3_grow_1 : List (Nat × Instr × Nat) := [(25, .iconst 0, 1), (26, .istore_n 3, 1), (27, .iload_n 2, 1), (28, .bipush 11, 2), (30, .if_icmp .ge 14, 3), (33, .aload_n 0, 1), (34, .getfield 15, 3), (37, .iload_n 2, 1), (38, .iconst 1, 1), (39, .iadd, 1), (40, .iaload, 1), (41, .goto 4, 3), (44, .iconst 0, 1), (45, .istore 4, 2), (47, .aload_n 0, 1), (48, .getfield 9, 3)]
set_option maxRecDepth 20000 in
theorem dk_X3_grow_1 : dl_X3_grow_1.all (fun q => decide (decode cX3_grow q.1 = .ok (q.2.1, q.2.2))) = true := dq_all 25 (by decide +kernel)
def dl_X3_grow_2 : List (Nat × Instr × Nat) := [(51, .iload_n 2, 1), (52, .iaload, 1), (53, .aload_n 0, 1), (54, .getfield 15, 3), (57, .iload_n 2, 1), (58, .iaload, 1), (59, .aload_n 0, 1), (60, .getfield 15, 3), (63, .iload_n 2, 1), (64, .iaload, 1), (65, .iconst 1, 1), (66, .ishl, 1), (67, .ior, 1), (68, .aload_n 0, 1), (69, .getfield 15, 3), (72, .iload_n 2, 1)]
set_option maxRecDepth 20000 in
theorem dk_X3_grow_2 : dl_X3_grow_2.all (fun q => decide (decode cX3_grow q.1 = .ok (q.2.1, q.2.2))) = true := dq_all 51 (by decide +kernel)
def dl_X3_grow_3 : List (Nat × Instr × Nat) := [(73, .iaload, 1), (74, .iconst 1, 1), (75, .ishr, 1), (76, .ior, 1), (77, .iload_n 3, 1), (78, .ior, 1), (79, .iload 4, 2), (81, .ior, 1), (82, .iand, 1), (83, .istore 5, 2), (85, .iload_n 1, 1), (86, .ifCond .ne 14, 3), (89, .iload 5, 2), (91, .aload_n 0, 1), (92, .getfield 15, 3), (95, .iload_n 2, 1)]
set_option maxRecDepth 20000 in
theorem dk_X3_grow_3 : dl_X3_grow_3.all (fun q => decide (decode cX3_grow q.1 = .ok (q.2.1, q.2.2))) = true := dq_all 73 (by decide +kernel)
def dl_X3_grow_4 : List (Nat × Instr × Nat) := [(96, .iaload, 1), (97, .if_icmp .eq 7, 3), (100, .iconst 1, 1), (101, .goto 4, 3), (104, .iconst 0, 1), (105, .istore_n 1, 1), (106, .aload_n 0, 1), (107, .getfield 15, 3), (110, .iload_n 2, 1), (111, .iload 5, 2), (113, .iastore, 1), (114, .iinc 2 1, 3), (117, .goto (-113), 3), (120, .iload_n 1, 1), (121, .ireturn, 1)]
set_option maxRecDepth 20000 in
theorem dk_X3_grow_4 : dl_X3_grow_4.all (fun q => decide (decode cX3_grow q.1 = .ok (q.2.1, q.2.2))) = true := dq_all 96 (by decide +kernel)
def dl_X3_innerCorners_0 : List (Nat × Instr × Nat) := [(0, .iconst 0, 1), (1, .istore_n 1, 1), (2, .iconst 1, 1), (3, .istore_n 2, 1), (4, .iload_n 2, 1), (5, .bipush 12, 2), (7, .if_icmp .ge 71, 3), (10, .iconst 1, 1), (11, .istore_n 3, 1), (12, .iload_n 3, 1), (13, .bipush 12, 2), (15, .if_icmp .ge 57, 3), (18, .aload_n 0, 1), (19, .getfield 9, 3), (22, .iload_n 2, 1), (23, .iconst 1, 1)]
set_option maxRecDepth 20000 in
theorem dk_X3_innerCorners_0 : dl_X3_innerCorners_0.all (fun q => decide (decode cX3_innerCorners q.1 = .ok (q.2.1, q.2.2))) = true := dq_all 0 (by decide +kernel)
def dl_X3_innerCorners_1 : List (Nat × Instr × Nat) := [(24, .isub, 1), (25, .iaload, 1), (26, .iload_n 3, 1), (27, .iconst 1, 1), (28, .isub, 1), (29, .ishr, 1), (30, .iconst 3, 1), (31, .iand, 1), (32, .aload_n 0, 1), (33, .getfield 9, 3), (36, .iload_n 2, 1), (37, .iaload, 1), (38, .iload_n 3, 1), (39, .iconst 1, 1), (40, .isub, 1), (41, .ishr, 1)]
set_option maxRecDepth 20000 in
theorem dk_X3_innerCorners_1 : dl_X3_innerCorners_1.all (fun q => decide (decode cX3_innerCorners q.1 = .ok (q.2.1, q.2.2))) = true := dq_all 24 (by decide +kernel)
def dl_X3_innerCorners_2 : List (Nat × Instr × Nat) := [(42, .iconst 3, 1), (43, .iand, 1), (44, .iconst 2, 1), (45, .ishl, 1), (46, .ior, 1), (47, .istore 4, 2), (49, .iload_n 1, 1), (50, .iload 4, 2), (52, .invokestatic 22, 3), (55, .iconst 3, 1), (56, .if_icmp .ne 7, 3), (59, .iconst 1, 1), (60, .goto 4, 3), (63, .iconst 0, 1), (64, .iadd, 1), (65, .istore_n 1, 1)]
set_option maxRecDepth 20000 in
theorem dk_X3_innerCorners_2 : dl_X3_innerCorners_2.all (fun q => decide (decode cX3_innerCorners q.1 = .ok (q.2.1, q.2.2))) = true := dq_all 42 (by decide +kernel)
def dl_X3_innerCorners_3 : List (Nat × Instr × Nat) := [(66, .iinc 3 1, 3), (69, .goto (-57), 3), (72, .iinc 2 1, 3), (75, .goto (-71), 3), (78, .iload_n 1, 1), (79, .ireturn, 1)]
set_option maxRecDepth 20000 in
theorem dk_X3_innerCorners_3 : dl_X3_innerCorners_3.all (fun q => decide (decode cX3_innerCorners q.1 = .ok (q.2.1, q.2.2))) = true := dq_all 66 (by decide +kernel)
def dl_X3_longestNarrow_0 : List (Nat × Instr × Nat) := [(0, .iconst 0, 1), (1, .istore_n 1, 1), (2, .iconst 0, 1), (3, .istore_n 2, 1), (4, .iload_n 2, 1), (5, .bipush 12, 2), (7, .if_icmp .ge 35, 3), (10, .iload_n 1, 1), (11, .aload_n 0, 1), (12, .iload_n 2, 1), (13, .invokevirtual 45, 3), (16, .invokestatic 48, 3), (19, .invokestatic 51, 3), (22, .istore_n 1, 1), (23, .iload_n 1, 1), (24, .aload_n 0, 1)]
set_option maxRecDepth 20000 in
theorem dk_X3_longestNarrow_0 : dl_X3_longestNarrow_0.all (fun q => decide (decode cX3_longestNarrow q.1 = .ok (q.2.1, q.2.2))) = true := dq_all 0 (by decide +kernel)
def dl_X3_longestNarrow_1 : List (Nat × Instr × Nat) := [(25, .iload_n 2, 1), (26, .invokevirtual 57, 3), (29, .invokestatic 48, 3), (32, .invokestatic 51, 3), (35, .istore_n 1, 1), (36, .iinc 2 1, 3), (39, .goto (-35), 3), (42, .iload_n 1, 1), (43, .ireturn, 1)]
set_option maxRecDepth 20000 in
theorem dk_X3_longestNarrow_1 : dl_X3_longestNarrow_1.all (fun q => decide (decode cX3_longestNarrow q.1 = .ok (q.2.1, q.2.2))) = true := dq_all 25 (by decide +kernel)
def dl_X3_narrowInRow_0 : List (Nat × Instr × Nat) := [(0, .aload_n 0, 1), (1, .iload_n 1, 1), (2, .invokevirtual 60, 3), (5, .aload_n 0, 1), (6, .iload_n 1, 1), (7, .iconst 1, 1), (8, .isub, 1), (9, .invokevirtual 60, 3), (12, .iconst (-1), 1), (13, .ixor, 1), (14, .iand, 1), (15, .aload_n 0, 1), (16, .iload_n 1, 1), (17, .iconst 1, 1), (18, .iadd, 1), (19, .invokevirtual 60, 3)]
set_option maxRecDepth 20000 in
theorem dk_X3_narrowInRow_0 : dl_X3_narrowInRow_0.all (fun q => decide (decode cX3_narrowInRow q.1 = .ok (q.2.1, q.2.2))) = true := dq_all 0 (by decide +kernel)
def dl_X3_narrowInRow_1 : List (Nat × Instr × Nat) := [(22, .iconst (-1), 1), (23, .ixor, 1), (24, .iand, 1), (25, .ireturn, 1)]
set_option maxRecDepth 20000 in
theorem dk_X3_narrowInRow_1 : dl_X3_narrowInRow_1.all (fun q => decide (decode cX3_narrowInRow q.1 = .ok (q.2.1, q.2.2))) = true := dq_all 22 (by decide +kernel)
def dl_X3_narrowInColumn_0 : List (Nat × Instr × Nat) := [(0, .iconst 0, 1), (1, .istore_n 2, 1), (2, .iconst 0, 1), (3, .istore_n 3, 1), (4, .iload_n 3, 1), (5, .bipush 12, 2), (7, .if_icmp .ge 50, 3), (10, .iload_n 2, 1), (11, .aload_n 0, 1), (12, .iload_n 1, 1), (13, .iload_n 3, 1), (14, .invokevirtual 63, 3), (17, .ifCond .eq 31, 3), (20, .aload_n 0, 1), (21, .iload_n 1, 1), (22, .iconst 1, 1)]
set_option maxRecDepth 20000 in
theorem dk_X3_narrowInColumn_0 : dl_X3_narrowInColumn_0.all (fun q => decide (decode cX3_narrowInColumn q.1 = .ok (q.2.1, q.2.2))) = true := dq_all 0 (by decide +kernel)
def dl_X3_narrowInColumn_1 : List (Nat × Instr × Nat) := [(23, .isub, 1), (24, .iload_n 3, 1), (25, .invokevirtual 63, 3), (28, .ifCond .ne 20, 3), (31, .aload_n 0, 1), (32, .iload_n 1, 1), (33, .iconst 1, 1), (34, .iadd, 1), (35, .iload_n 3, 1), (36, .invokevirtual 63, 3), (39, .ifCond .ne 9, 3), (42, .iconst 1, 1), (43, .iload_n 3, 1), (44, .ishl, 1), (45, .goto 4, 3), (48, .iconst 0, 1)]
set_option maxRecDepth 20000 in
theorem dk_X3_narrowInColumn_1 : dl_X3_narrowInColumn_1.all (fun q => decide (decode cX3_narrowInColumn q.1 = .ok (q.2.1, q.2.2))) = true := dq_all 23 (by decide +kernel)
def dl_X3_narrowInColumn_2 : List (Nat × Instr × Nat) := [(49, .ior, 1), (50, .istore_n 2, 1), (51, .iinc 3 1, 3), (54, .goto (-50), 3), (57, .iload_n 2, 1), (58, .ireturn, 1)]
set_option maxRecDepth 20000 in
theorem dk_X3_narrowInColumn_2 : dl_X3_narrowInColumn_2.all (fun q => decide (decode cX3_narrowInColumn q.1 = .ok (q.2.1, q.2.2))) = true := dq_all 49 (by decide +kernel)
def dl_X3_longestRun_0 : List (Nat × Instr × Nat) := [(0, .iconst 0, 1), (1, .istore_n 1, 1), (2, .iconst 0, 1), (3, .istore_n 2, 1), (4, .iconst 0, 1), (5, .istore_n 3, 1), (6, .iload_n 3, 1), (7, .bipush 12, 2), (9, .if_icmp .ge 32, 3), (12, .iload_n 0, 1), (13, .iload_n 3, 1), (14, .ishr, 1), (15, .iconst 1, 1), (16, .iand, 1), (17, .iconst 1, 1), (18, .if_icmp .ne 9, 3)]
set_option maxRecDepth 20000 in
theorem dk_X3_longestRun_0 : dl_X3_longestRun_0.all (fun q => decide (decode cX3_longestRun q.1 = .ok (q.2.1, q.2.2))) = true := dq_all 0 (by decide +kernel)
def dl_X3_longestRun_1 : List (Nat × Instr × Nat) := [(21, .iload_n 2, 1), (22, .iconst 1, 1), (23, .iadd, 1), (24, .goto 4, 3), (27, .iconst 0, 1), (28, .istore_n 2, 1), (29, .iload_n 1, 1), (30, .iload_n 2, 1), (31, .invokestatic 51, 3), (34, .istore_n 1, 1), (35, .iinc 3 1, 3), (38, .goto (-32), 3), (41, .iload_n 1, 1), (42, .ireturn, 1)]
set_option maxRecDepth 20000 in
theorem dk_X3_longestRun_1 : dl_X3_longestRun_1.all (fun q => decide (decode cX3_longestRun q.1 = .ok (q.2.1, q.2.2))) = true := dq_all 21 (by decide +kernel)
def dl_X3_bestLead_0 : List (Nat × Instr × Nat) := [(0, .iconst (-1), 1), (1, .istore_n 3, 1), (2, .bipush 13, 2), (4, .istore 4, 2), (6, .iconst 1, 1), (7, .istore 5, 2), (9, .iload 5, 2), (11, .bipush 24, 2), (13, .if_icmp .ge 57, 3), (16, .aload_n 0, 1), (17, .iload 5, 2), (19, .aload_n 1, 1), (20, .aload_n 2, 1), (21, .invokevirtual 66, 3), (24, .aload_n 1, 1), (25, .invokevirtual 70, 3)]
set_option maxRecDepth 20000 in
theorem dk_X3_bestLead_0 : dl_X3_bestLead_0.all (fun q => decide (decode cX3_bestLead q.1 = .ok (q.2.1, q.2.2))) = true := dq_all 0 (by decide +kernel)
def dl_X3_bestLead_1 : List (Nat × Instr × Nat) := [(28, .bipush 45, 2), (30, .if_icmp .ne 34, 3), (33, .aload_n 2, 1), (34, .invokevirtual 70, 3), (37, .bipush 45, 2), (39, .if_icmp .ne 25, 3), (42, .aload_n 0, 1), (43, .iload 5, 2), (45, .invokevirtual 74, 3), (48, .iload 4, 2), (50, .if_icmp .ge 14, 3), (53, .iload 5, 2), (55, .istore_n 3, 1), (56, .aload_n 0, 1), (57, .iload 5, 2), (59, .invokevirtual 74, 3)]
set_option maxRecDepth 20000 in
theorem dk_X3_bestLead_1 : dl_X3_bestLead_1.all (fun q => decide (decode cX3_bestLead q.1 = .ok (q.2.1, q.2.2))) = true := dq_all 28 (by decide +kernel)
def dl_X3_bestLead_2 : List (Nat × Instr × Nat) := [(62, .istore 4, 2), (64, .iinc 5 1, 3), (67, .goto (-58), 3), (70, .iload_n 3, 1), (71, .ireturn, 1)]
set_option maxRecDepth 20000 in
theorem dk_X3_bestLead_2 : dl_X3_bestLead_2.all (fun q => decide (decode cX3_bestLead q.1 = .ok (q.2.1, q.2.2))) = true := dq_all 62 (by decide +kernel)
def dl_X3_partBy_0 : List (Nat × Instr × Nat) := [(0, .iconst 0, 1), (1, .istore 4, 2), (3, .iload 4, 2), (5, .bipush 12, 2), (7, .if_icmp .ge 81, 3), (10, .iload_n 1, 1), (11, .bipush 12, 2), (13, .if_icmp .ge 19, 3), (16, .aload_n 0, 1), (17, .getfield 9, 3), (20, .iload 4, 2), (22, .iaload, 1), (23, .iconst 1, 1), (24, .iload_n 1, 1), (25, .ishl, 1), (26, .iconst 1, 1)]
set_option maxRecDepth 20000 in
theorem dk_X3_partBy_0 : dl_X3_partBy_0.all (fun q => decide (decode cX3_partBy q.1 = .ok (q.2.1, q.2.2))) = true := dq_all 0 (by decide +kernel)
def dl_X3_partBy_1 : List (Nat × Instr × Nat) := [(27, .isub, 1), (28, .iand, 1), (29, .goto 23, 3), (32, .iload 4, 2), (34, .iload_n 1, 1), (35, .bipush 12, 2), (37, .isub, 1), (38, .if_icmp .ge 13, 3), (41, .aload_n 0, 1), (42, .getfield 9, 3), (45, .iload 4, 2), (47, .iaload, 1), (48, .goto 4, 3), (51, .iconst 0, 1), (52, .istore 5, 2), (54, .aload_n 2, 1)]
set_option maxRecDepth 20000 in
theorem dk_X3_partBy_1 : dl_X3_partBy_1.all (fun q => decide (decode cX3_partBy q.1 = .ok (q.2.1, q.2.2))) = true := dq_all 27 (by decide +kernel)
def dl_X3_partBy_2 : List (Nat × Instr × Nat) := [(55, .getfield 9, 3), (58, .iload 4, 2), (60, .iload 5, 2), (62, .iastore, 1), (63, .aload_n 3, 1), (64, .getfield 9, 3), (67, .iload 4, 2), (69, .aload_n 0, 1), (70, .getfield 9, 3), (73, .iload 4, 2), (75, .iaload, 1), (76, .iload 5, 2), (78, .iconst (-1), 1), (79, .ixor, 1), (80, .iand, 1), (81, .iastore, 1)]
set_option maxRecDepth 20000 in
theorem dk_X3_partBy_2 : dl_X3_partBy_2.all (fun q => decide (decode cX3_partBy q.1 = .ok (q.2.1, q.2.2))) = true := dq_all 55 (by decide +kernel)
def dl_X3_partBy_3 : List (Nat × Instr × Nat) := [(82, .iinc 4 1, 3), (85, .goto (-82), 3), (88, .return_, 1)]
set_option maxRecDepth 20000 in
theorem dk_X3_partBy_3 : dl_X3_partBy_3.all (fun q => decide (decode cX3_partBy q.1 = .ok (q.2.1, q.2.2))) = true := dq_all 82 (by decide +kernel)
def dl_X3_touchesOver_0 : List (Nat × Instr × Nat) := [(0, .iload_n 1, 1), (1, .bipush 12, 2), (3, .if_icmp .lt 26, 3), (6, .aload_n 0, 1), (7, .iload_n 1, 1), (8, .bipush 12, 2), (10, .isub, 1), (11, .iconst 1, 1), (12, .isub, 1), (13, .invokevirtual 60, 3), (16, .aload_n 0, 1), (17, .iload_n 1, 1), (18, .bipush 12, 2), (20, .isub, 1), (21, .invokevirtual 60, 3), (24, .iand, 1)]
set_option maxRecDepth 20000 in
theorem dk_X3_touchesOver_0 : dl_X3_touchesOver_0.all (fun q => decide (decode cX3_touchesOver q.1 = .ok (q.2.1, q.2.2))) = true := dq_all 0 (by decide +kernel)
def dl_X3_touchesOver_1 : List (Nat × Instr × Nat) := [(25, .invokestatic 22, 3), (28, .ireturn, 1), (29, .iconst 0, 1), (30, .istore_n 2, 1), (31, .iconst 0, 1), (32, .istore_n 3, 1), (33, .iload_n 3, 1), (34, .bipush 12, 2), (36, .if_icmp .ge 37, 3), (39, .iload_n 2, 1), (40, .aload_n 0, 1), (41, .iload_n 1, 1), (42, .iconst 1, 1), (43, .isub, 1), (44, .iload_n 3, 1), (45, .invokevirtual 63, 3)]
set_option maxRecDepth 20000 in
theorem dk_X3_touchesOver_1 : dl_X3_touchesOver_1.all (fun q => decide (decode cX3_touchesOver q.1 = .ok (q.2.1, q.2.2))) = true := dq_all 25 (by decide +kernel)
def dl_X3_touchesOver_2 : List (Nat × Instr × Nat) := [(48, .ifCond .eq 16, 3), (51, .aload_n 0, 1), (52, .iload_n 1, 1), (53, .iload_n 3, 1), (54, .invokevirtual 63, 3), (57, .ifCond .eq 7, 3), (60, .iconst 1, 1), (61, .goto 4, 3), (64, .iconst 0, 1), (65, .iadd, 1), (66, .istore_n 2, 1), (67, .iinc 3 1, 3), (70, .goto (-37), 3), (73, .iload_n 2, 1), (74, .ireturn, 1)]
set_option maxRecDepth 20000 in
theorem dk_X3_touchesOver_2 : dl_X3_touchesOver_2.all (fun q => decide (decode cX3_touchesOver q.1 = .ok (q.2.1, q.2.2))) = true := dq_all 48 (by decide +kernel)
def dl_X3_moveToCorner_0 : List (Nat × Instr × Nat) := [(0, .aload_n 0, 1), (1, .invokevirtual 77, 3), (4, .istore_n 1, 1), (5, .iconst 0, 1), (6, .istore_n 2, 1), (7, .iload_n 2, 1), (8, .bipush 12, 2), (10, .if_icmp .ge 17, 3), (13, .iload_n 1, 1), (14, .iload_n 2, 1), (15, .ishr, 1), (16, .iconst 1, 1), (17, .iand, 1), (18, .ifCond .ne 9, 3), (21, .iinc 2 1, 3), (24, .goto (-17), 3)]
set_option maxRecDepth 20000 in
theorem dk_X3_moveToCorner_0 : dl_X3_moveToCorner_0.all (fun q => decide (decode cX3_moveToCorner q.1 = .ok (q.2.1, q.2.2))) = true := dq_all 0 (by decide +kernel)
def dl_X3_moveToCorner_1 : List (Nat × Instr × Nat) := [(27, .iconst 0, 1), (28, .istore_n 3, 1), (29, .iload_n 3, 1), (30, .bipush 12, 2), (32, .if_icmp .ge 18, 3), (35, .aload_n 0, 1), (36, .getfield 9, 3), (39, .iload_n 3, 1), (40, .iaload, 1), (41, .ifCond .ne 9, 3), (44, .iinc 3 1, 3), (47, .goto (-18), 3), (50, .iconst 0, 1), (51, .istore 4, 2), (53, .iload 4, 2), (55, .bipush 12, 2)]
set_option maxRecDepth 20000 in
theorem dk_X3_moveToCorner_1 : dl_X3_moveToCorner_1.all (fun q => decide (decode cX3_moveToCorner q.1 = .ok (q.2.1, q.2.2))) = true := dq_all 27 (by decide +kernel)
def dl_X3_moveToCorner_2 : List (Nat × Instr × Nat) := [(57, .if_icmp .ge 26, 3), (60, .aload_n 0, 1), (61, .getfield 9, 3), (64, .iload 4, 2), (66, .aload_n 0, 1), (67, .iload 4, 2), (69, .iload_n 3, 1), (70, .iadd, 1), (71, .invokevirtual 60, 3), (74, .iload_n 2, 1), (75, .ishr, 1), (76, .iastore, 1), (77, .iinc 4 1, 3), (80, .goto (-27), 3), (83, .return_, 1)]
set_option maxRecDepth 20000 in
theorem dk_X3_moveToCorner_2 : dl_X3_moveToCorner_2.all (fun q => decide (decode cX3_moveToCorner q.1 = .ok (q.2.1, q.2.2))) = true := dq_all 57 (by decide +kernel)
def dl_X3_turnInto_0 : List (Nat × Instr × Nat) := [(0, .aload_n 1, 1), (1, .invokevirtual 80, 3), (4, .aload_n 0, 1), (5, .invokevirtual 83, 3), (8, .istore_n 2, 1), (9, .iconst 0, 1), (10, .istore_n 3, 1), (11, .iload_n 3, 1), (12, .iload_n 2, 1), (13, .if_icmp .ge 46, 3), (16, .iconst 0, 1), (17, .istore 4, 2), (19, .iload 4, 2), (21, .bipush 12, 2), (23, .if_icmp .ge 30, 3), (26, .aload_n 0, 1)]
set_option maxRecDepth 20000 in
theorem dk_X3_turnInto_0 : dl_X3_turnInto_0.all (fun q => decide (decode cX3_turnInto q.1 = .ok (q.2.1, q.2.2))) = true := dq_all 0 (by decide +kernel)
def dl_X3_turnInto_1 : List (Nat × Instr × Nat) := [(27, .iload 4, 2), (29, .iload_n 3, 1), (30, .invokevirtual 63, 3), (33, .ifCond .eq 14, 3), (36, .aload_n 1, 1), (37, .iload_n 2, 1), (38, .iconst 1, 1), (39, .isub, 1), (40, .iload_n 3, 1), (41, .isub, 1), (42, .iload 4, 2), (44, .invokevirtual 86, 3), (47, .iinc 4 1, 3), (50, .goto (-31), 3), (53, .iinc 3 1, 3), (56, .goto (-45), 3)]
set_option maxRecDepth 20000 in
theorem dk_X3_turnInto_1 : dl_X3_turnInto_1.all (fun q => decide (decode cX3_turnInto q.1 = .ok (q.2.1, q.2.2))) = true := dq_all 27 (by decide +kernel)
def dl_X3_turnInto_2 : List (Nat × Instr × Nat) := [(59, .return_, 1)]
set_option maxRecDepth 20000 in
theorem dk_X3_turnInto_2 : dl_X3_turnInto_2.all (fun q => decide (decode cX3_turnInto q.1 = .ok (q.2.1, q.2.2))) = true := dq_all 59 (by decide +kernel)
def dl_X3_height_0 : List (Nat × Instr × Nat) := [(0, .bipush 12, 2), (2, .istore_n 1, 1), (3, .iload_n 1, 1), (4, .ifCond .le 20, 3), (7, .aload_n 0, 1), (8, .getfield 9, 3), (11, .iload_n 1, 1), (12, .iconst 1, 1), (13, .isub, 1), (14, .iaload, 1), (15, .ifCond .ne 9, 3), (18, .iinc 1 (-1), 3), (21, .goto (-18), 3), (24, .iload_n 1, 1), (25, .ireturn, 1)]
set_option maxRecDepth 20000 in
theorem dk_X3_height_0 : dl_X3_height_0.all (fun q => decide (decode cX3_height q.1 = .ok (q.2.1, q.2.2))) = true := dq_all 0 (by decide +kernel)
def dl_X3_width_0 : List (Nat × Instr × Nat) := [(0, .aload_n 0, 1), (1, .invokevirtual 77, 3), (4, .istore_n 1, 1), (5, .bipush 12, 2), (7, .istore_n 2, 1), (8, .iload_n 2, 1), (9, .ifCond .le 19, 3), (12, .iload_n 1, 1), (13, .iload_n 2, 1), (14, .iconst 1, 1), (15, .isub, 1), (16, .ishr, 1), (17, .iconst 1, 1), (18, .iand, 1), (19, .ifCond .ne 9, 3), (22, .iinc 2 (-1), 3)]
set_option maxRecDepth 20000 in
theorem dk_X3_width_0 : dl_X3_width_0.all (fun q => decide (decode cX3_width q.1 = .ok (q.2.1, q.2.2))) = true := dq_all 0 (by decide +kernel)
def dl_X3_width_1 : List (Nat × Instr × Nat) := [(25, .goto (-17), 3), (28, .iload_n 2, 1), (29, .ireturn, 1)]
set_option maxRecDepth 20000 in
theorem dk_X3_width_1 : dl_X3_width_1.all (fun q => decide (decode cX3_width q.1 = .ok (q.2.1, q.2.2))) = true := dq_all 25 (by decide +kernel)
def dl_X3_columnsUsed_0 : List (Nat × Instr × Nat) := [(0, .iconst 0, 1), (1, .istore_n 1, 1), (2, .iconst 0, 1), (3, .istore_n 2, 1), (4, .iload_n 2, 1), (5, .bipush 12, 2), (7, .if_icmp .ge 18, 3), (10, .iload_n 1, 1), (11, .aload_n 0, 1), (12, .getfield 9, 3), (15, .iload_n 2, 1), (16, .iaload, 1), (17, .ior, 1), (18, .istore_n 1, 1), (19, .iinc 2 1, 3), (22, .goto (-18), 3)]
set_option maxRecDepth 20000 in
theorem dk_X3_columnsUsed_0 : dl_X3_columnsUsed_0.all (fun q => decide (decode cX3_columnsUsed q.1 = .ok (q.2.1, q.2.2))) = true := dq_all 0 (by decide +kernel)
def dl_X3_columnsUsed_1 : List (Nat × Instr × Nat) := [(25, .iload_n 1, 1), (26, .ireturn, 1)]
set_option maxRecDepth 20000 in
theorem dk_X3_columnsUsed_1 : dl_X3_columnsUsed_1.all (fun q => decide (decode cX3_columnsUsed q.1 = .ok (q.2.1, q.2.2))) = true := dq_all 25 (by decide +kernel)
def dl_X3_isLike_0 : List (Nat × Instr × Nat) := [(0, .iconst 0, 1), (1, .istore_n 2, 1), (2, .iload_n 2, 1), (3, .bipush 12, 2), (5, .if_icmp .ge 26, 3), (8, .aload_n 0, 1), (9, .getfield 9, 3), (12, .iload_n 2, 1), (13, .iaload, 1), (14, .aload_n 1, 1), (15, .getfield 9, 3), (18, .iload_n 2, 1), (19, .iaload, 1), (20, .if_icmp .eq 5, 3), (23, .iconst 0, 1), (24, .ireturn, 1)]
set_option maxRecDepth 20000 in
theorem dk_X3_isLike_0 : dl_X3_isLike_0.all (fun q => decide (decode cX3_isLike q.1 = .ok (q.2.1, q.2.2))) = true := dq_all 0 (by decide +kernel)
def dl_X3_isLike_1 : List (Nat × Instr × Nat) := [(25, .iinc 2 1, 3), (28, .goto (-26), 3), (31, .iconst 1, 1), (32, .ireturn, 1)]
set_option maxRecDepth 20000 in
theorem dk_X3_isLike_1 : dl_X3_isLike_1.all (fun q => decide (decode cX3_isLike q.1 = .ok (q.2.1, q.2.2))) = true := dq_all 25 (by decide +kernel)
def dl_X4_init_0 : List (Nat × Instr × Nat) := [(0, .aload_n 0, 1), (1, .invokespecial 3, 3), (4, .aload_n 0, 1), (5, .iconst 0, 1), (6, .putfield 9, 3), (9, .aload_n 0, 1), (10, .iconst 0, 1), (11, .putfield 15, 3), (14, .aload_n 0, 1), (15, .iconst 0, 1), (16, .putfield 18, 3), (19, .aload_n 0, 1), (20, .bipush 104, 2), (22, .putfield 21, 3), (25, .aload_n 0, 1), (26, .bipush 12, 2)]
set_option maxRecDepth 20000 in
theorem dk_X4_init_0 : dl_X4_init_0.all (fun q => decide (decode cX4_init q.1 = .ok (q.2.1, q.2.2))) = true := dq_all 0 (by decide +kernel)
def dl_X4_init_1 : List (Nat × Instr × Nat) := [(28, .newarray .int, 2), (30, .putfield 25, 3), (33, .return_, 1)]
set_option maxRecDepth 20000 in
theorem dk_X4_init_1 : dl_X4_init_1.all (fun q => decide (decode cX4_init q.1 = .ok (q.2.1, q.2.2))) = true := dq_all 28 (by decide +kernel)
def dl_X4_become_0 : List (Nat × Instr × Nat) := [(0, .aload_n 0, 1), (1, .iload_n 1, 1), (2, .putfield 9, 3), (5, .aload_n 0, 1), (6, .iload_n 2, 1), (7, .putfield 15, 3), (10, .aload_n 0, 1), (11, .iload_n 3, 1), (12, .putfield 18, 3), (15, .aload_n 0, 1), (16, .iload 4, 2), (18, .putfield 21, 3), (21, .return_, 1)]
set_option maxRecDepth 20000 in
theorem dk_X4_become_0 : dl_X4_become_0.all (fun q => decide (decode cX4_become q.1 = .ok (q.2.1, q.2.2))) = true := dq_all 0 (by decide +kernel)
def dl_X4_usedCells_0 : List (Nat × Instr × Nat) := [(0, .iconst 0, 1), (1, .istore_n 1, 1), (2, .iconst 0, 1), (3, .istore_n 2, 1), (4, .iload_n 2, 1), (5, .bipush 12, 2), (7, .if_icmp .ge 21, 3), (10, .iload_n 1, 1), (11, .aload_n 0, 1), (12, .getfield 25, 3), (15, .iload_n 2, 1), (16, .iaload, 1), (17, .invokestatic 29, 3), (20, .iadd, 1), (21, .istore_n 1, 1), (22, .iinc 2 1, 3)]
set_option maxRecDepth 20000 in
theorem dk_X4_usedCells_0 : dl_X4_usedCells_0.all (fun q => decide (decode cX4_usedCells q.1 = .ok (q.2.1, q.2.2))) = true := dq_all 0 (by decide +kernel)
def dl_X4_usedCells_1 : List (Nat × Instr × Nat) := [(25, .goto (-21), 3), (28, .iload_n 1, 1), (29, .ireturn, 1)]
set_option maxRecDepth 20000 in
theorem dk_X4_usedCells_1 : dl_X4_usedCells_1.all (fun q => decide (decode cX4_usedCells q.1 = .ok (q.2.1, q.2.2))) = true := dq_all 25 (by decide +kernel)
def dl_X4_freeCells_0 : List (Nat × Instr × Nat) := [(0, .aload_n 0, 1), (1, .getfield 15, 3), (4, .aload_n 0, 1), (5, .getfield 18, 3), (8, .imul, 1), (9, .aload_n 0, 1), (10, .invokevirtual 35, 3), (13, .isub, 1), (14, .ireturn, 1)]
set_option maxRecDepth 20000 in
theorem dk_X4_freeCells_0 : dl_X4_freeCells_0.all (fun q => decide (decode cX4_freeCells q.1 = .ok (q.2.1, q.2.2))) = true := dq_all 0 (by decide +kernel)
def dl_X4_streaksOf_0 : List (Nat × Instr × Nat) := [(0, .iload_n 1, 1), (1, .ifCond .ne 8, 3), (4, .aload_n 0, 1), (5, .getfield 21, 3), (8, .ireturn, 1), (9, .aload_n 0, 1), (10, .getfield 21, 3), (13, .bipush 104, 2), (15, .if_icmp .ne 8, 3), (18, .bipush 118, 2), (20, .goto 5, 3), (23, .bipush 104, 2), (25, .ireturn, 1)]
set_option maxRecDepth 20000 in
theorem dk_X4_streaksOf_0 : dl_X4_streaksOf_0.all (fun q => decide (decode cX4_streaksOf q.1 = .ok (q.2.1, q.2.2))) = true := dq_all 0 (by decide +kernel)
def dl_X4_placeFor_0 : List (Nat × Instr × Nat) := [(0, .aload_n 0, 1), (1, .getfield 18, 3), (4, .aload_n 1, 1), (5, .invokevirtual 39, 3), (8, .isub, 1), (9, .istore_n 2, 1), (10, .aload_n 0, 1), (11, .getfield 15, 3), (14, .aload_n 1, 1), (15, .invokevirtual 43, 3), (18, .isub, 1), (19, .istore_n 3, 1), (20, .iconst 0, 1), (21, .istore 4, 2), (23, .iload 4, 2), (25, .iload_n 2, 1)]
set_option maxRecDepth 20000 in
theorem dk_X4_placeFor_0 : dl_X4_placeFor_0.all (fun q => decide (decode cX4_placeFor q.1 = .ok (q.2.1, q.2.2))) = true := dq_all 0 (by decide +kernel)
def dl_X4_placeFor_1 : List (Nat × Instr × Nat) := [(26, .if_icmp .gt 45, 3), (29, .iconst 0, 1), (30, .istore 5, 2), (32, .iload 5, 2), (34, .iload_n 3, 1), (35, .if_icmp .gt 30, 3), (38, .aload_n 0, 1), (39, .aload_n 1, 1), (40, .iload 5, 2), (42, .iload 4, 2), (44, .invokevirtual 45, 3), (47, .ifCond .eq 12, 3), (50, .iload 4, 2), (52, .bipush 12, 2), (54, .imul, 1), (55, .iload 5, 2)]
set_option maxRecDepth 20000 in
theorem dk_X4_placeFor_1 : dl_X4_placeFor_1.all (fun q => decide (decode cX4_placeFor q.1 = .ok (q.2.1, q.2.2))) = true := dq_all 26 (by decide +kernel)
def dl_X4_placeFor_2 : List (Nat × Instr × Nat) := [(57, .iadd, 1), (58, .ireturn, 1), (59, .iinc 5 1, 3), (62, .goto (-30), 3), (65, .iinc 4 1, 3), (68, .goto (-45), 3), (71, .iconst (-1), 1), (72, .ireturn, 1)]
set_option maxRecDepth 20000 in
theorem dk_X4_placeFor_2 : dl_X4_placeFor_2.all (fun q => decide (decode cX4_placeFor q.1 = .ok (q.2.1, q.2.2))) = true := dq_all 57 (by decide +kernel)
def dl_X4_isFreeAt_0 : List (Nat × Instr × Nat) := [(0, .iload_n 3, 1), (1, .istore 4, 2), (3, .iload 4, 2), (5, .aload_n 0, 1), (6, .getfield 18, 3), (9, .if_icmp .ge 32, 3), (12, .aload_n 0, 1), (13, .getfield 25, 3), (16, .iload 4, 2), (18, .iaload, 1), (19, .aload_n 1, 1), (20, .iload 4, 2), (22, .iload_n 3, 1), (23, .isub, 1), (24, .invokevirtual 49, 3), (27, .iload_n 2, 1)]
set_option maxRecDepth 20000 in
theorem dk_X4_isFreeAt_0 : dl_X4_isFreeAt_0.all (fun q => decide (decode cX4_isFreeAt q.1 = .ok (q.2.1, q.2.2))) = true := dq_all 0 (by decide +kernel)
def dl_X4_isFreeAt_1 : List (Nat × Instr × Nat) := [(28, .ishl, 1), (29, .iand, 1), (30, .ifCond .eq 5, 3), (33, .iconst 0, 1), (34, .ireturn, 1), (35, .iinc 4 1, 3), (38, .goto (-35), 3), (41, .iconst 1, 1), (42, .ireturn, 1)]
set_option maxRecDepth 20000 in
theorem dk_X4_isFreeAt_1 : dl_X4_isFreeAt_1.all (fun q => decide (decode cX4_isFreeAt q.1 = .ok (q.2.1, q.2.2))) = true := dq_all 28 (by decide +kernel)
def dl_X4_use_0 : List (Nat × Instr × Nat) := [(0, .iload_n 2, 1), (1, .bipush 12, 2), (3, .idiv, 1), (4, .istore_n 3, 1), (5, .iload_n 2, 1), (6, .bipush 12, 2), (8, .irem, 1), (9, .istore 4, 2), (11, .iload_n 3, 1), (12, .istore 5, 2), (14, .iload 5, 2), (16, .aload_n 0, 1), (17, .getfield 18, 3), (20, .if_icmp .ge 30, 3), (23, .aload_n 0, 1), (24, .getfield 25, 3)]
set_option maxRecDepth 20000 in
theorem dk_X4_use_0 : dl_X4_use_0.all (fun q => decide (decode cX4_use q.1 = .ok (q.2.1, q.2.2))) = true := dq_all 0 (by decide +kernel)
def dl_X4_use_1 : List (Nat × Instr × Nat) := [(27, .iload 5, 2), (29, .dup2, 1), (30, .iaload, 1), (31, .aload_n 1, 1), (32, .iload 5, 2), (34, .iload_n 3, 1), (35, .isub, 1), (36, .invokevirtual 49, 3), (39, .iload 4, 2), (41, .ishl, 1), (42, .ior, 1), (43, .iastore, 1), (44, .iinc 5 1, 3), (47, .goto (-33), 3), (50, .return_, 1)]
set_option maxRecDepth 20000 in
theorem dk_X4_use_1 : dl_X4_use_1.all (fun q => decide (decode cX4_use q.1 = .ok (q.2.1, q.2.2))) = true := dq_all 27 (by decide +kernel)
def dl_X5_init_0 : List (Nat × Instr × Nat) := [(0, .aload_n 0, 1), (1, .invokespecial 3, 3), (4, .aload_n 0, 1), (5, .sipush 144, 3), (8, .newarray .int, 2), (10, .putfield 9, 3), (13, .iconst 0, 1), (14, .istore_n 1, 1), (15, .iload_n 1, 1), (16, .sipush 144, 3), (19, .if_icmp .ge 17, 3), (22, .aload_n 0, 1), (23, .getfield 9, 3), (26, .iload_n 1, 1), (27, .bipush (-2), 2), (29, .iastore, 1)]
set_option maxRecDepth 20000 in
theorem dk_X5_init_0 : dl_X5_init_0.all (fun q => decide (decode cX5_init q.1 = .ok (q.2.1, q.2.2))) = true := dq_all 0 (by decide +kernel)
def dl_X5_init_1 : List (Nat × Instr × Nat) := [(30, .iinc 1 1, 3), (33, .goto (-18), 3), (36, .return_, 1)]
set_option maxRecDepth 20000 in
theorem dk_X5_init_1 : dl_X5_init_1.all (fun q => decide (decode cX5_init q.1 = .ok (q.2.1, q.2.2))) = true := dq_all 30 (by decide +kernel)
def dl_X5_at_0 : List (Nat × Instr × Nat) := [(0, .iload_n 1, 1), (1, .iload_n 2, 1), (2, .invokestatic 15, 3), (5, .ifCond .eq 17, 3), (8, .aload_n 0, 1), (9, .getfield 9, 3), (12, .iload_n 2, 1), (13, .bipush 12, 2), (15, .imul, 1), (16, .iload_n 1, 1), (17, .iadd, 1), (18, .iaload, 1), (19, .goto 5, 3), (22, .bipush (-2), 2), (24, .ireturn, 1)]
set_option maxRecDepth 20000 in
theorem dk_X5_at_0 : dl_X5_at_0.all (fun q => decide (decode cX5_at q.1 = .ok (q.2.1, q.2.2))) = true := dq_all 0 (by decide +kernel)
def dl_X5_put_0 : List (Nat × Instr × Nat) := [(0, .iload_n 1, 1), (1, .iload_n 2, 1), (2, .invokestatic 15, 3), (5, .ifCond .eq 15, 3), (8, .aload_n 0, 1), (9, .getfield 9, 3), (12, .iload_n 2, 1), (13, .bipush 12, 2), (15, .imul, 1), (16, .iload_n 1, 1), (17, .iadd, 1), (18, .iload_n 3, 1), (19, .iastore, 1), (20, .return_, 1)]
set_option maxRecDepth 20000 in
theorem dk_X5_put_0 : dl_X5_put_0.all (fun q => decide (decode cX5_put q.1 = .ok (q.2.1, q.2.2))) = true := dq_all 0 (by decide +kernel)
def dl_X5_putShape_0 : List (Nat × Instr × Nat) := [(0, .iconst 0, 1), (1, .istore_n 3, 1), (2, .iload_n 3, 1), (3, .bipush 12, 2), (5, .if_icmp .ge 43, 3), (8, .iconst 0, 1), (9, .istore 4, 2), (11, .iload 4, 2), (13, .bipush 12, 2), (15, .if_icmp .ge 27, 3), (18, .aload_n 1, 1), (19, .iload 4, 2), (21, .iload_n 3, 1), (22, .invokevirtual 19, 3), (25, .ifCond .eq 11, 3), (28, .aload_n 0, 1)]
set_option maxRecDepth 20000 in
theorem dk_X5_putShape_0 : dl_X5_putShape_0.all (fun q => decide (decode cX5_putShape q.1 = .ok (q.2.1, q.2.2))) = true := dq_all 0 (by decide +kernel)
def dl_X5_putShape_1 : List (Nat × Instr × Nat) := [(29, .iload 4, 2), (31, .iload_n 3, 1), (32, .iload_n 2, 1), (33, .invokevirtual 24, 3), (36, .iinc 4 1, 3), (39, .goto (-28), 3), (42, .iinc 3 1, 3), (45, .goto (-43), 3), (48, .return_, 1)]
set_option maxRecDepth 20000 in
theorem dk_X5_putShape_1 : dl_X5_putShape_1.all (fun q => decide (decode cX5_putShape q.1 = .ok (q.2.1, q.2.2))) = true := dq_all 29 (by decide +kernel)
def dl_X5_cellsOf_0 : List (Nat × Instr × Nat) := [(0, .iconst 0, 1), (1, .istore_n 2, 1), (2, .iconst 0, 1), (3, .istore_n 3, 1), (4, .iload_n 3, 1), (5, .sipush 144, 3), (8, .if_icmp .ge 27, 3), (11, .iload_n 2, 1), (12, .aload_n 0, 1), (13, .getfield 9, 3), (16, .iload_n 3, 1), (17, .iaload, 1), (18, .iload_n 1, 1), (19, .if_icmp .ne 7, 3), (22, .iconst 1, 1), (23, .goto 4, 3)]
set_option maxRecDepth 20000 in
theorem dk_X5_cellsOf_0 : dl_X5_cellsOf_0.all (fun q => decide (decode cX5_cellsOf q.1 = .ok (q.2.1, q.2.2))) = true := dq_all 0 (by decide +kernel)
def dl_X5_cellsOf_1 : List (Nat × Instr × Nat) := [(26, .iconst 0, 1), (27, .iadd, 1), (28, .istore_n 2, 1), (29, .iinc 3 1, 3), (32, .goto (-28), 3), (35, .iload_n 2, 1), (36, .ireturn, 1)]
set_option maxRecDepth 20000 in
theorem dk_X5_cellsOf_1 : dl_X5_cellsOf_1.all (fun q => decide (decode cX5_cellsOf q.1 = .ok (q.2.1, q.2.2))) = true := dq_all 26 (by decide +kernel)
def dl_X5_piecesWithCells_0 : List (Nat × Instr × Nat) := [(0, .iconst 0, 1), (1, .istore_n 1, 1), (2, .iconst 0, 1), (3, .istore_n 2, 1), (4, .iload_n 2, 1), (5, .sipush 144, 3), (8, .if_icmp .ge 33, 3), (11, .iload_n 1, 1), (12, .aload_n 0, 1), (13, .getfield 9, 3), (16, .iload_n 2, 1), (17, .iaload, 1), (18, .ifCond .lt 14, 3), (21, .iconst 1, 1), (22, .aload_n 0, 1), (23, .getfield 9, 3)]
set_option maxRecDepth 20000 in
theorem dk_X5_piecesWithCells_0 : dl_X5_piecesWithCells_0.all (fun q => decide (decode cX5_piecesWithCells q.1 = .ok (q.2.1, q.2.2))) = true := dq_all 0 (by decide +kernel)
def dl_X5_piecesWithCells_1 : List (Nat × Instr × Nat) := [(26, .iload_n 2, 1), (27, .iaload, 1), (28, .ishl, 1), (29, .goto 4, 3), (32, .iconst 0, 1), (33, .ior, 1), (34, .istore_n 1, 1), (35, .iinc 2 1, 3), (38, .goto (-34), 3), (41, .iload_n 1, 1), (42, .ireturn, 1)]
set_option maxRecDepth 20000 in
theorem dk_X5_piecesWithCells_1 : dl_X5_piecesWithCells_1.all (fun q => decide (decode cX5_piecesWithCells q.1 = .ok (q.2.1, q.2.2))) = true := dq_all 26 (by decide +kernel)
def dl_X5_shapeInto_0 : List (Nat × Instr × Nat) := [(0, .aload_n 2, 1), (1, .invokevirtual 28, 3), (4, .iconst 0, 1), (5, .istore_n 3, 1), (6, .iload_n 3, 1), (7, .bipush 12, 2), (9, .if_icmp .ge 43, 3), (12, .iconst 0, 1), (13, .istore 4, 2), (15, .iload 4, 2), (17, .bipush 12, 2), (19, .if_icmp .ge 27, 3), (22, .aload_n 0, 1), (23, .iload 4, 2), (25, .iload_n 3, 1), (26, .invokevirtual 31, 3)]
set_option maxRecDepth 20000 in
theorem dk_X5_shapeInto_0 : dl_X5_shapeInto_0.all (fun q => decide (decode cX5_shapeInto q.1 = .ok (q.2.1, q.2.2))) = true := dq_all 0 (by decide +kernel)
def dl_X5_shapeInto_1 : List (Nat × Instr × Nat) := [(29, .iload_n 1, 1), (30, .if_icmp .ne 10, 3), (33, .aload_n 2, 1), (34, .iload 4, 2), (36, .iload_n 3, 1), (37, .invokevirtual 35, 3), (40, .iinc 4 1, 3), (43, .goto (-28), 3), (46, .iinc 3 1, 3), (49, .goto (-43), 3), (52, .return_, 1)]
set_option maxRecDepth 20000 in
theorem dk_X5_shapeInto_1 : dl_X5_shapeInto_1.all (fun q => decide (decode cX5_shapeInto q.1 = .ok (q.2.1, q.2.2))) = true := dq_all 29 (by decide +kernel)
def dl_X5_leadedSides_0 : List (Nat × Instr × Nat) := [(0, .iconst 0, 1), (1, .istore_n 1, 1), (2, .iconst 0, 1), (3, .istore_n 2, 1), (4, .iload_n 2, 1), (5, .bipush 12, 2), (7, .if_icmp .gt 63, 3), (10, .iconst 0, 1), (11, .istore_n 3, 1), (12, .iload_n 3, 1), (13, .bipush 12, 2), (15, .if_icmp .gt 49, 3), (18, .iload_n 1, 1), (19, .aload_n 0, 1), (20, .iload_n 3, 1), (21, .iconst 1, 1)]
set_option maxRecDepth 20000 in
theorem dk_X5_leadedSides_0 : dl_X5_leadedSides_0.all (fun q => decide (decode cX5_leadedSides q.1 = .ok (q.2.1, q.2.2))) = true := dq_all 0 (by decide +kernel)
def dl_X5_leadedSides_1 : List (Nat × Instr × Nat) := [(22, .isub, 1), (23, .iload_n 2, 1), (24, .invokevirtual 31, 3), (27, .aload_n 0, 1), (28, .iload_n 3, 1), (29, .iload_n 2, 1), (30, .invokevirtual 31, 3), (33, .invokestatic 39, 3), (36, .iadd, 1), (37, .istore_n 1, 1), (38, .iload_n 1, 1), (39, .aload_n 0, 1), (40, .iload_n 3, 1), (41, .iload_n 2, 1), (42, .iconst 1, 1), (43, .isub, 1)]
set_option maxRecDepth 20000 in
theorem dk_X5_leadedSides_1 : dl_X5_leadedSides_1.all (fun q => decide (decode cX5_leadedSides q.1 = .ok (q.2.1, q.2.2))) = true := dq_all 22 (by decide +kernel)
def dl_X5_leadedSides_2 : List (Nat × Instr × Nat) := [(44, .invokevirtual 31, 3), (47, .aload_n 0, 1), (48, .iload_n 3, 1), (49, .iload_n 2, 1), (50, .invokevirtual 31, 3), (53, .invokestatic 39, 3), (56, .iadd, 1), (57, .istore_n 1, 1), (58, .iinc 3 1, 3), (61, .goto (-49), 3), (64, .iinc 2 1, 3), (67, .goto (-63), 3), (70, .iload_n 1, 1), (71, .ireturn, 1)]
set_option maxRecDepth 20000 in
theorem dk_X5_leadedSides_2 : dl_X5_leadedSides_2.all (fun q => decide (decode cX5_leadedSides q.1 = .ok (q.2.1, q.2.2))) = true := dq_all 44 (by decide +kernel)
def dl_X5_meetingPoints_0 : List (Nat × Instr × Nat) := [(0, .iconst 0, 1), (1, .istore_n 1, 1), (2, .iconst 0, 1), (3, .istore_n 2, 1), (4, .iload_n 2, 1), (5, .bipush 12, 2), (7, .if_icmp .gt 118, 3), (10, .iconst 0, 1), (11, .istore_n 3, 1), (12, .iload_n 3, 1), (13, .bipush 12, 2), (15, .if_icmp .gt 104, 3), (18, .aload_n 0, 1), (19, .iload_n 3, 1), (20, .iconst 1, 1), (21, .isub, 1)]
set_option maxRecDepth 20000 in
theorem dk_X5_meetingPoints_0 : dl_X5_meetingPoints_0.all (fun q => decide (decode cX5_meetingPoints q.1 = .ok (q.2.1, q.2.2))) = true := dq_all 0 (by decide +kernel)
def dl_X5_meetingPoints_1 : List (Nat × Instr × Nat) := [(22, .iload_n 2, 1), (23, .iconst 1, 1), (24, .isub, 1), (25, .invokevirtual 31, 3), (28, .aload_n 0, 1), (29, .iload_n 3, 1), (30, .iload_n 2, 1), (31, .iconst 1, 1), (32, .isub, 1), (33, .invokevirtual 31, 3), (36, .invokestatic 39, 3), (39, .aload_n 0, 1), (40, .iload_n 3, 1), (41, .iconst 1, 1), (42, .isub, 1), (43, .iload_n 2, 1)]
set_option maxRecDepth 20000 in
theorem dk_X5_meetingPoints_1 : dl_X5_meetingPoints_1.all (fun q => decide (decode cX5_meetingPoints q.1 = .ok (q.2.1, q.2.2))) = true := dq_all 22 (by decide +kernel)
def dl_X5_meetingPoints_2 : List (Nat × Instr × Nat) := [(44, .invokevirtual 31, 3), (47, .aload_n 0, 1), (48, .iload_n 3, 1), (49, .iload_n 2, 1), (50, .invokevirtual 31, 3), (53, .invokestatic 39, 3), (56, .iadd, 1), (57, .aload_n 0, 1), (58, .iload_n 3, 1), (59, .iconst 1, 1), (60, .isub, 1), (61, .iload_n 2, 1), (62, .iconst 1, 1), (63, .isub, 1), (64, .invokevirtual 31, 3), (67, .aload_n 0, 1)]
set_option maxRecDepth 20000 in
theorem dk_X5_meetingPoints_2 : dl_X5_meetingPoints_2.all (fun q => decide (decode cX5_meetingPoints q.1 = .ok (q.2.1, q.2.2))) = true := dq_all 44 (by decide +kernel)
def dl_X5_meetingPoints_3 : List (Nat × Instr × Nat) := [(68, .iload_n 3, 1), (69, .iconst 1, 1), (70, .isub, 1), (71, .iload_n 2, 1), (72, .invokevirtual 31, 3), (75, .invokestatic 39, 3), (78, .iadd, 1), (79, .aload_n 0, 1), (80, .iload_n 3, 1), (81, .iload_n 2, 1), (82, .iconst 1, 1), (83, .isub, 1), (84, .invokevirtual 31, 3), (87, .aload_n 0, 1), (88, .iload_n 3, 1), (89, .iload_n 2, 1)]
set_option maxRecDepth 20000 in
theorem dk_X5_meetingPoints_3 : dl_X5_meetingPoints_3.all (fun q => decide (decode cX5_meetingPoints q.1 = .ok (q.2.1, q.2.2))) = true := dq_all 68 (by decide +kernel)
def dl_X5_meetingPoints_4 : List (Nat × Instr × Nat) := [(90, .invokevirtual 31, 3), (93, .invokestatic 39, 3), (96, .iadd, 1), (97, .istore 4, 2), (99, .iload_n 1, 1), (100, .iload 4, 2), (102, .iconst 3, 1), (103, .if_icmp .lt 7, 3), (106, .iconst 1, 1), (107, .goto 4, 3), (110, .iconst 0, 1), (111, .iadd, 1), (112, .istore_n 1, 1), (113, .iinc 3 1, 3), (116, .goto (-104), 3), (119, .iinc 2 1, 3)]
set_option maxRecDepth 20000 in
theorem dk_X5_meetingPoints_4 : dl_X5_meetingPoints_4.all (fun q => decide (decode cX5_meetingPoints q.1 = .ok (q.2.1, q.2.2))) = true := dq_all 90 (by decide +kernel)
def dl_X5_meetingPoints_5 : List (Nat × Instr × Nat) := [(122, .goto (-118), 3), (125, .iload_n 1, 1), (126, .ireturn, 1)]
set_option maxRecDepth 20000 in
theorem dk_X5_meetingPoints_5 : dl_X5_meetingPoints_5.all (fun q => decide (decode cX5_meetingPoints q.1 = .ok (q.2.1, q.2.2))) = true := dq_all 122 (by decide +kernel)
def dl_X5_waitsInto_0 : List (Nat × Instr × Nat) := [(0, .iconst 0, 1), (1, .istore_n 2, 1), (2, .iload_n 2, 1), (3, .aload_n 1, 1), (4, .arraylength, 1), (5, .if_icmp .ge 13, 3), (8, .aload_n 1, 1), (9, .iload_n 2, 1), (10, .iconst 0, 1), (11, .iastore, 1), (12, .iinc 2 1, 3), (15, .goto (-13), 3), (18, .iconst 0, 1), (19, .istore_n 2, 1), (20, .iload_n 2, 1), (21, .bipush 12, 2)]
set_option maxRecDepth 20000 in
theorem dk_X5_waitsInto_0 : dl_X5_waitsInto_0.all (fun q => decide (decode cX5_waitsInto q.1 = .ok (q.2.1, q.2.2))) = true := dq_all 0 (by decide +kernel)
def dl_X5_waitsInto_1 : List (Nat × Instr × Nat) := [(23, .if_icmp .ge 77, 3), (26, .iconst 0, 1), (27, .istore_n 3, 1), (28, .iload_n 3, 1), (29, .bipush 12, 2), (31, .if_icmp .ge 63, 3), (34, .aload_n 0, 1), (35, .iload_n 3, 1), (36, .iload_n 2, 1), (37, .invokevirtual 31, 3), (40, .istore 4, 2), (42, .iload 4, 2), (44, .ifCond .lt 44, 3), (47, .iload 4, 2), (49, .aload_n 1, 1), (50, .arraylength, 1)]
set_option maxRecDepth 20000 in
theorem dk_X5_waitsInto_1 : dl_X5_waitsInto_1.all (fun q => decide (decode cX5_waitsInto q.1 = .ok (q.2.1, q.2.2))) = true := dq_all 23 (by decide +kernel)
def dl_X5_waitsInto_2 : List (Nat × Instr × Nat) := [(51, .if_icmp .ge 37, 3), (54, .aload_n 1, 1), (55, .iload 4, 2), (57, .dup2, 1), (58, .iaload, 1), (59, .aload_n 0, 1), (60, .iload_n 3, 1), (61, .iconst 1, 1), (62, .isub, 1), (63, .iload_n 2, 1), (64, .invokevirtual 31, 3), (67, .iload 4, 2), (69, .invokestatic 42, 3), (72, .aload_n 0, 1), (73, .iload_n 3, 1), (74, .iload_n 2, 1)]
set_option maxRecDepth 20000 in
theorem dk_X5_waitsInto_2 : dl_X5_waitsInto_2.all (fun q => decide (decode cX5_waitsInto q.1 = .ok (q.2.1, q.2.2))) = true := dq_all 51 (by decide +kernel)
def dl_X5_waitsInto_3 : List (Nat × Instr × Nat) := [(75, .iconst 1, 1), (76, .isub, 1), (77, .invokevirtual 31, 3), (80, .iload 4, 2), (82, .invokestatic 42, 3), (85, .ior, 1), (86, .ior, 1), (87, .iastore, 1), (88, .iinc 3 1, 3), (91, .goto (-63), 3), (94, .iinc 2 1, 3), (97, .goto (-77), 3), (100, .return_, 1)]
set_option maxRecDepth 20000 in
theorem dk_X5_waitsInto_3 : dl_X5_waitsInto_3.all (fun q => decide (decode cX5_waitsInto q.1 = .ok (q.2.1, q.2.2))) = true := dq_all 75 (by decide +kernel)
def dl_X5_bitOf_0 : List (Nat × Instr × Nat) := [(0, .iload_n 0, 1), (1, .bipush (-2), 2), (3, .if_icmp .eq 8, 3), (6, .iload_n 0, 1), (7, .iload_n 1, 1), (8, .if_icmp .ne 5, 3), (11, .iconst 0, 1), (12, .ireturn, 1), (13, .iload_n 0, 1), (14, .iconst (-1), 1), (15, .if_icmp .ne 8, 3), (18, .ldc 45, 2), (20, .goto 6, 3), (23, .iconst 1, 1), (24, .iload_n 0, 1), (25, .ishl, 1)]
set_option maxRecDepth 20000 in
theorem dk_X5_bitOf_0 : dl_X5_bitOf_0.all (fun q => decide (decode cX5_bitOf q.1 = .ok (q.2.1, q.2.2))) = true := dq_all 0 (by decide +kernel)
def dl_X5_bitOf_1 : List (Nat × Instr × Nat) := [(26, .ireturn, 1)]
set_option maxRecDepth 20000 in
theorem dk_X5_bitOf_1 : dl_X5_bitOf_1.all (fun q => decide (decode cX5_bitOf q.1 = .ok (q.2.1, q.2.2))) = true := dq_all 26 (by decide +kernel)
def dl_X5_leadBetween_0 : List (Nat × Instr × Nat) := [(0, .iload_n 0, 1), (1, .iload_n 1, 1), (2, .if_icmp .eq 15, 3), (5, .iload_n 0, 1), (6, .ifCond .ge 7, 3), (9, .iload_n 1, 1), (10, .ifCond .lt 7, 3), (13, .iconst 1, 1), (14, .goto 4, 3), (17, .iconst 0, 1), (18, .ireturn, 1)]
set_option maxRecDepth 20000 in
theorem dk_X5_leadBetween_0 : dl_X5_leadBetween_0.all (fun q => decide (decode cX5_leadBetween q.1 = .ok (q.2.1, q.2.2))) = true := dq_all 0 (by decide +kernel)
def dl_X6_init_0 : List (Nat × Instr × Nat) := [(0, .aload_n 0, 1), (1, .invokespecial 3, 3), (4, .aload_n 0, 1), (5, .bipush 32, 2), (7, .newarray .long, 2), (9, .putfield 11, 3), (12, .return_, 1)]
set_option maxRecDepth 20000 in
theorem dk_X6_init_0 : dl_X6_init_0.all (fun q => decide (decode cX6_init q.1 = .ok (q.2.1, q.2.2))) = true := dq_all 0 (by decide +kernel)
def dl_X6_clear_0 : List (Nat × Instr × Nat) := [(0, .iconst 0, 1), (1, .istore_n 1, 1), (2, .iload_n 1, 1), (3, .bipush 32, 2), (5, .if_icmp .ge 16, 3), (8, .aload_n 0, 1), (9, .getfield 11, 3), (12, .iload_n 1, 1), (13, .lconst 0, 1), (14, .lastore, 1), (15, .iinc 1 1, 3), (18, .goto (-16), 3), (21, .return_, 1)]
set_option maxRecDepth 20000 in
theorem dk_X6_clear_0 : dl_X6_clear_0.all (fun q => decide (decode cX6_clear q.1 = .ok (q.2.1, q.2.2))) = true := dq_all 0 (by decide +kernel)
def dl_X6_add_0 : List (Nat × Instr × Nat) := [(0, .iload_n 1, 1), (1, .iconst 0, 1), (2, .sipush 2000, 3), (5, .invokestatic 15, 3), (8, .ifCond .eq 21, 3), (11, .aload_n 0, 1), (12, .getfield 11, 3), (15, .iload_n 1, 1), (16, .bipush 64, 2), (18, .idiv, 1), (19, .dup2, 1), (20, .laload, 1), (21, .lconst 1, 1), (22, .iload_n 1, 1), (23, .bipush 64, 2), (25, .irem, 1)]
set_option maxRecDepth 20000 in
theorem dk_X6_add_0 : dl_X6_add_0.all (fun q => decide (decode cX6_add q.1 = .ok (q.2.1, q.2.2))) = true := dq_all 0 (by decide +kernel)
def dl_X6_add_1 : List (Nat × Instr × Nat) := [(26, .lshl, 1), (27, .lor, 1), (28, .lastore, 1), (29, .return_, 1)]
set_option maxRecDepth 20000 in
theorem dk_X6_add_1 : dl_X6_add_1.all (fun q => decide (decode cX6_add q.1 = .ok (q.2.1, q.2.2))) = true := dq_all 26 (by decide +kernel)
def dl_X6_addAll_0 : List (Nat × Instr × Nat) := [(0, .iconst 0, 1), (1, .istore_n 2, 1), (2, .iload_n 2, 1), (3, .bipush 32, 2), (5, .if_icmp .ge 24, 3), (8, .aload_n 0, 1), (9, .getfield 11, 3), (12, .iload_n 2, 1), (13, .dup2, 1), (14, .laload, 1), (15, .aload_n 1, 1), (16, .getfield 11, 3), (19, .iload_n 2, 1), (20, .laload, 1), (21, .lor, 1), (22, .lastore, 1)]
set_option maxRecDepth 20000 in
theorem dk_X6_addAll_0 : dl_X6_addAll_0.all (fun q => decide (decode cX6_addAll q.1 = .ok (q.2.1, q.2.2))) = true := dq_all 0 (by decide +kernel)
def dl_X6_addAll_1 : List (Nat × Instr × Nat) := [(23, .iinc 2 1, 3), (26, .goto (-24), 3), (29, .return_, 1)]
set_option maxRecDepth 20000 in
theorem dk_X6_addAll_1 : dl_X6_addAll_1.all (fun q => decide (decode cX6_addAll q.1 = .ok (q.2.1, q.2.2))) = true := dq_all 23 (by decide +kernel)
def dl_X6_count_0 : List (Nat × Instr × Nat) := [(0, .iconst 0, 1), (1, .istore_n 1, 1), (2, .iconst 0, 1), (3, .istore_n 2, 1), (4, .iload_n 2, 1), (5, .bipush 32, 2), (7, .if_icmp .ge 21, 3), (10, .iload_n 1, 1), (11, .aload_n 0, 1), (12, .getfield 11, 3), (15, .iload_n 2, 1), (16, .laload, 1), (17, .invokestatic 19, 3), (20, .iadd, 1), (21, .istore_n 1, 1), (22, .iinc 2 1, 3)]
set_option maxRecDepth 20000 in
theorem dk_X6_count_0 : dl_X6_count_0.all (fun q => decide (decode cX6_count q.1 = .ok (q.2.1, q.2.2))) = true := dq_all 0 (by decide +kernel)
def dl_X6_count_1 : List (Nat × Instr × Nat) := [(25, .goto (-21), 3), (28, .iload_n 1, 1), (29, .ireturn, 1)]
set_option maxRecDepth 20000 in
theorem dk_X6_count_1 : dl_X6_count_1.all (fun q => decide (decode cX6_count q.1 = .ok (q.2.1, q.2.2))) = true := dq_all 25 (by decide +kernel)
def dl_X7_init_0 : List (Nat × Instr × Nat) := [(0, .aload_n 0, 1), (1, .invokespecial 3, 3), (4, .aload_n 0, 1), (5, .new 9, 3), (8, .dup, 1), (9, .invokespecial 11, 3), (12, .putfield 12, 3), (15, .aload_n 0, 1), (16, .bipush 30, 2), (18, .anewarray 16, 3), (21, .putfield 18, 3), (24, .aload_n 0, 1), (25, .bipush 8, 2), (27, .anewarray 22, 3), (30, .putfield 24, 3), (33, .aload_n 0, 1)]
set_option maxRecDepth 20000 in
theorem dk_X7_init_0 : dl_X7_init_0.all (fun q => decide (decode cX7_init q.1 = .ok (q.2.1, q.2.2))) = true := dq_all 0 (by decide +kernel)
def dl_X7_init_1 : List (Nat × Instr × Nat) := [(34, .new 28, 3), (37, .dup, 1), (38, .invokespecial 30, 3), (41, .putfield 31, 3), (44, .aload_n 0, 1), (45, .iconst 0, 1), (46, .putfield 35, 3), (49, .aload_n 0, 1), (50, .iconst 0, 1), (51, .putfield 39, 3), (54, .aload_n 0, 1), (55, .iconst 1, 1), (56, .putfield 42, 3), (59, .aload_n 0, 1), (60, .iconst 0, 1), (61, .putfield 45, 3)]
set_option maxRecDepth 20000 in
theorem dk_X7_init_1 : dl_X7_init_1.all (fun q => decide (decode cX7_init q.1 = .ok (q.2.1, q.2.2))) = true := dq_all 34 (by decide +kernel)
def dl_X7_init_2 : List (Nat × Instr × Nat) := [(64, .aload_n 0, 1), (65, .iconst 0, 1), (66, .putfield 49, 3), (69, .aload_n 0, 1), (70, .iconst 0, 1), (71, .putfield 52, 3), (74, .aload_n 0, 1), (75, .iconst 0, 1), (76, .putfield 55, 3), (79, .aload_n 0, 1), (80, .new 58, 3), (83, .dup, 1), (84, .invokespecial 60, 3), (87, .putfield 61, 3), (90, .aload_n 0, 1), (91, .new 58, 3)]
set_option maxRecDepth 20000 in
theorem dk_X7_init_2 : dl_X7_init_2.all (fun q => decide (decode cX7_init q.1 = .ok (q.2.1, q.2.2))) = true := dq_all 64 (by decide +kernel)
def dl_X7_init_3 : List (Nat × Instr × Nat) := [(94, .dup, 1), (95, .invokespecial 60, 3), (98, .putfield 65, 3), (101, .aload_n 0, 1), (102, .new 58, 3), (105, .dup, 1), (106, .invokespecial 60, 3), (109, .putfield 68, 3), (112, .aload_n 0, 1), (113, .bipush 30, 2), (115, .newarray .int, 2), (117, .putfield 71, 3), (120, .aload_n 0, 1), (121, .new 75, 3), (124, .dup, 1), (125, .invokespecial 77, 3)]
set_option maxRecDepth 20000 in
theorem dk_X7_init_3 : dl_X7_init_3.all (fun q => decide (decode cX7_init q.1 = .ok (q.2.1, q.2.2))) = true := dq_all 94 (by decide +kernel)
def dl_X7_init_4 : List (Nat × Instr × Nat) := [(128, .putfield 78, 3), (131, .iconst 0, 1), (132, .istore_n 1, 1), (133, .iload_n 1, 1), (134, .bipush 30, 2), (136, .if_icmp .ge 22, 3), (139, .aload_n 0, 1), (140, .getfield 18, 3), (143, .iload_n 1, 1), (144, .new 16, 3), (147, .dup, 1), (148, .invokespecial 82, 3), (151, .aastore, 1), (152, .iinc 1 1, 3), (155, .goto (-22), 3), (158, .iconst 0, 1)]
set_option maxRecDepth 20000 in
theorem dk_X7_init_4 : dl_X7_init_4.all (fun q => decide (decode cX7_init q.1 = .ok (q.2.1, q.2.2))) = true := dq_all 128 (by decide +kernel)
def dl_X7_init_5 : List (Nat × Instr × Nat) := [(159, .istore_n 1, 1), (160, .iload_n 1, 1), (161, .bipush 8, 2), (163, .if_icmp .ge 22, 3), (166, .aload_n 0, 1), (167, .getfield 24, 3), (170, .iload_n 1, 1), (171, .new 22, 3), (174, .dup, 1), (175, .invokespecial 83, 3), (178, .aastore, 1), (179, .iinc 1 1, 3), (182, .goto (-22), 3), (185, .return_, 1)]
set_option maxRecDepth 20000 in
theorem dk_X7_init_5 : dl_X7_init_5.all (fun q => decide (decode cX7_init q.1 = .ok (q.2.1, q.2.2))) = true := dq_all 159 (by decide +kernel)
def dl_X7_open_0 : List (Nat × Instr × Nat) := [(0, .iload_n 1, 1), (1, .iload_n 2, 1), (2, .iload_n 3, 1), (3, .iload 4, 2), (5, .invokestatic 84, 3), (8, .aload_n 0, 1), (9, .getfield 45, 3), (12, .ifCond .ne 15, 3), (15, .aload_n 0, 1), (16, .iload_n 1, 1), (17, .iload_n 2, 1), (18, .iload_n 3, 1), (19, .iload 4, 2), (21, .invokevirtual 88, 3), (24, .ifCond .eq 13, 3), (27, .new 92, 3)]
set_option maxRecDepth 20000 in
theorem dk_X7_open_0 : dl_X7_open_0.all (fun q => decide (decode cX7_open q.1 = .ok (q.2.1, q.2.2))) = true := dq_all 0 (by decide +kernel)
def dl_X7_open_1 : List (Nat × Instr × Nat) := [(30, .dup, 1), (31, .ldc 94, 2), (33, .invokespecial 96, 3), (36, .athrow, 1), (37, .iconst 0, 1), (38, .istore 6, 2), (40, .iload_n 2, 1), (41, .istore 7, 2), (43, .iload 7, 2), (45, .iload 4, 2), (47, .if_icmp .gt 79, 3), (50, .iload_n 1, 1), (51, .istore 8, 2), (53, .iload 8, 2), (55, .iload_n 3, 1), (56, .if_icmp .gt 64, 3)]
set_option maxRecDepth 20000 in
theorem dk_X7_open_1 : dl_X7_open_1.all (fun q => decide (decode cX7_open q.1 = .ok (q.2.1, q.2.2))) = true := dq_all 30 (by decide +kernel)
def dl_X7_open_2 : List (Nat × Instr × Nat) := [(59, .aload_n 0, 1), (60, .getfield 12, 3), (63, .iload 8, 2), (65, .iload 7, 2), (67, .invokevirtual 99, 3), (70, .bipush (-2), 2), (72, .if_icmp .eq 7, 3), (75, .iconst 1, 1), (76, .goto 4, 3), (79, .iconst 0, 1), (80, .istore 9, 2), (82, .iload 9, 2), (84, .iload 5, 2), (86, .if_icmp .eq 28, 3), (89, .aload_n 0, 1), (90, .getfield 12, 3)]
set_option maxRecDepth 20000 in
theorem dk_X7_open_2 : dl_X7_open_2.all (fun q => decide (decode cX7_open q.1 = .ok (q.2.1, q.2.2))) = true := dq_all 59 (by decide +kernel)
def dl_X7_open_3 : List (Nat × Instr × Nat) := [(93, .iload 8, 2), (95, .iload 7, 2), (97, .iload 5, 2), (99, .ifCond .eq 7, 3), (102, .iconst (-1), 1), (103, .goto 5, 3), (106, .bipush (-2), 2), (108, .invokevirtual 103, 3), (111, .iinc 6 1, 3), (114, .iinc 8 1, 3), (117, .goto (-64), 3), (120, .iinc 7 1, 3), (123, .goto (-80), 3), (126, .iload 6, 2), (128, .ireturn, 1)]
set_option maxRecDepth 20000 in
theorem dk_X7_open_3 : dl_X7_open_3.all (fun q => decide (decode cX7_open q.1 = .ok (q.2.1, q.2.2))) = true := dq_all 93 (by decide +kernel)
def dl_X7_lay_0 : List (Nat × Instr × Nat) := [(0, .iload_n 1, 1), (1, .invokestatic 107, 3), (4, .iload_n 2, 1), (5, .iload_n 3, 1), (6, .iload 4, 2), (8, .iload 5, 2), (10, .invokestatic 84, 3), (13, .aload_n 0, 1), (14, .getfield 45, 3), (17, .ifCond .ne 28, 3), (20, .aload_n 0, 1), (21, .getfield 18, 3), (24, .iload_n 1, 1), (25, .aaload, 1), (26, .invokevirtual 111, 3), (29, .ifCond .ne 16, 3)]
set_option maxRecDepth 20000 in
theorem dk_X7_lay_0 : dl_X7_lay_0.all (fun q => decide (decode cX7_lay q.1 = .ok (q.2.1, q.2.2))) = true := dq_all 0 (by decide +kernel)
def dl_X7_lay_1 : List (Nat × Instr × Nat) := [(32, .aload_n 0, 1), (33, .iload_n 2, 1), (34, .iload_n 3, 1), (35, .iload 4, 2), (37, .iload 5, 2), (39, .invokevirtual 88, 3), (42, .ifCond .eq 13, 3), (45, .new 92, 3), (48, .dup, 1), (49, .ldc 94, 2), (51, .invokespecial 96, 3), (54, .athrow, 1), (55, .aload_n 0, 1), (56, .iload_n 2, 1), (57, .iload_n 3, 1), (58, .iload 4, 2)]
set_option maxRecDepth 20000 in
theorem dk_X7_lay_1 : dl_X7_lay_1.all (fun q => decide (decode cX7_lay q.1 = .ok (q.2.1, q.2.2))) = true := dq_all 32 (by decide +kernel)
def dl_X7_lay_2 : List (Nat × Instr × Nat) := [(60, .iload 5, 2), (62, .invokevirtual 115, 3), (65, .ifCond .ne 13, 3), (68, .new 92, 3), (71, .dup, 1), (72, .ldc 118, 2), (74, .invokespecial 96, 3), (77, .athrow, 1), (78, .iload_n 3, 1), (79, .istore 6, 2), (81, .iload 6, 2), (83, .iload 5, 2), (85, .if_icmp .gt 53, 3), (88, .iload_n 2, 1), (89, .istore 7, 2), (91, .iload 7, 2)]
set_option maxRecDepth 20000 in
theorem dk_X7_lay_2 : dl_X7_lay_2.all (fun q => decide (decode cX7_lay q.1 = .ok (q.2.1, q.2.2))) = true := dq_all 60 (by decide +kernel)
def dl_X7_lay_3 : List (Nat × Instr × Nat) := [(93, .iload 4, 2), (95, .if_icmp .gt 37, 3), (98, .aload_n 0, 1), (99, .getfield 12, 3), (102, .iload 7, 2), (104, .iload 6, 2), (106, .invokevirtual 99, 3), (109, .bipush (-2), 2), (111, .if_icmp .eq 15, 3), (114, .aload_n 0, 1), (115, .getfield 12, 3), (118, .iload 7, 2), (120, .iload 6, 2), (122, .iload_n 1, 1), (123, .invokevirtual 103, 3), (126, .iinc 7 1, 3)]
set_option maxRecDepth 20000 in
theorem dk_X7_lay_3 : dl_X7_lay_3.all (fun q => decide (decode cX7_lay q.1 = .ok (q.2.1, q.2.2))) = true := dq_all 93 (by decide +kernel)
def dl_X7_lay_4 : List (Nat × Instr × Nat) := [(129, .goto (-38), 3), (132, .iinc 6 1, 3), (135, .goto (-54), 3), (138, .aload_n 0, 1), (139, .getfield 12, 3), (142, .iload_n 1, 1), (143, .invokevirtual 120, 3), (146, .ireturn, 1)]
set_option maxRecDepth 20000 in
theorem dk_X7_lay_4 : dl_X7_lay_4.all (fun q => decide (decode cX7_lay q.1 = .ok (q.2.1, q.2.2))) = true := dq_all 129 (by decide +kernel)
def dl_X7_pieceAt_0 : List (Nat × Instr × Nat) := [(0, .iload_n 1, 1), (1, .iload_n 2, 1), (2, .invokestatic 124, 3), (5, .aload_n 0, 1), (6, .getfield 12, 3), (9, .iload_n 1, 1), (10, .iload_n 2, 1), (11, .invokevirtual 99, 3), (14, .ireturn, 1)]
set_option maxRecDepth 20000 in
theorem dk_X7_pieceAt_0 : dl_X7_pieceAt_0.all (fun q => decide (decode cX7_pieceAt q.1 = .ok (q.2.1, q.2.2))) = true := dq_all 0 (by decide +kernel)
def dl_X7_size_0 : List (Nat × Instr × Nat) := [(0, .iload_n 1, 1), (1, .invokestatic 107, 3), (4, .aload_n 0, 1), (5, .getfield 12, 3), (8, .iload_n 1, 1), (9, .invokevirtual 120, 3), (12, .ireturn, 1)]
set_option maxRecDepth 20000 in
theorem dk_X7_size_0 : dl_X7_size_0.all (fun q => decide (decode cX7_size q.1 = .ok (q.2.1, q.2.2))) = true := dq_all 0 (by decide +kernel)
def dl_X7_corners_0 : List (Nat × Instr × Nat) := [(0, .iload_n 1, 1), (1, .invokestatic 107, 3), (4, .aload_n 0, 1), (5, .getfield 12, 3), (8, .iload_n 1, 1), (9, .aload_n 0, 1), (10, .getfield 61, 3), (13, .invokevirtual 128, 3), (16, .aload_n 0, 1), (17, .getfield 61, 3), (20, .invokevirtual 132, 3), (23, .ireturn, 1)]
set_option maxRecDepth 20000 in
theorem dk_X7_corners_0 : dl_X7_corners_0.all (fun q => decide (decode cX7_corners q.1 = .ok (q.2.1, q.2.2))) = true := dq_all 0 (by decide +kernel)
def dl_X7_point_0 : List (Nat × Instr × Nat) := [(0, .iload_n 1, 1), (1, .invokestatic 107, 3), (4, .aload_n 0, 1), (5, .getfield 12, 3), (8, .iload_n 1, 1), (9, .aload_n 0, 1), (10, .getfield 61, 3), (13, .invokevirtual 128, 3), (16, .aload_n 0, 1), (17, .getfield 61, 3), (20, .invokevirtual 136, 3), (23, .ireturn, 1)]
set_option maxRecDepth 20000 in
theorem dk_X7_point_0 : dl_X7_point_0.all (fun q => decide (decode cX7_point q.1 = .ok (q.2.1, q.2.2))) = true := dq_all 0 (by decide +kernel)
def dl_X7_hinders_0 : List (Nat × Instr × Nat) := [(0, .iload_n 1, 1), (1, .invokestatic 107, 3), (4, .aload_n 0, 1), (5, .getfield 12, 3), (8, .iload_n 1, 1), (9, .aload_n 0, 1), (10, .getfield 61, 3), (13, .invokevirtual 128, 3), (16, .aload_n 0, 1), (17, .getfield 61, 3), (20, .invokevirtual 139, 3), (23, .ireturn, 1)]
set_option maxRecDepth 20000 in
theorem dk_X7_hinders_0 : dl_X7_hinders_0.all (fun q => decide (decode cX7_hinders q.1 = .ok (q.2.1, q.2.2))) = true := dq_all 0 (by decide +kernel)
def dl_X7_split_0 : List (Nat × Instr × Nat) := [(0, .iload_n 1, 1), (1, .invokestatic 107, 3), (4, .aload_n 0, 1), (5, .getfield 45, 3), (8, .ifCond .ne 15, 3), (11, .aload_n 0, 1), (12, .getfield 18, 3), (15, .iload_n 1, 1), (16, .aaload, 1), (17, .invokevirtual 111, 3), (20, .ifCond .eq 13, 3), (23, .new 92, 3), (26, .dup, 1), (27, .ldc 94, 2), (29, .invokespecial 96, 3), (32, .athrow, 1)]
set_option maxRecDepth 20000 in
theorem dk_X7_split_0 : dl_X7_split_0.all (fun q => decide (decode cX7_split q.1 = .ok (q.2.1, q.2.2))) = true := dq_all 0 (by decide +kernel)
def dl_X7_split_1 : List (Nat × Instr × Nat) := [(33, .aload_n 0, 1), (34, .getfield 12, 3), (37, .iload_n 1, 1), (38, .aload_n 0, 1), (39, .getfield 61, 3), (42, .invokevirtual 128, 3), (45, .aload_n 0, 1), (46, .getfield 61, 3), (49, .aload_n 0, 1), (50, .getfield 65, 3), (53, .aload_n 0, 1), (54, .getfield 68, 3), (57, .invokevirtual 143, 3), (60, .istore_n 2, 1), (61, .iload_n 2, 1), (62, .ifCond .ge 13, 3)]
set_option maxRecDepth 20000 in
theorem dk_X7_split_1 : dl_X7_split_1.all (fun q => decide (decode cX7_split q.1 = .ok (q.2.1, q.2.2))) = true := dq_all 33 (by decide +kernel)
def dl_X7_split_2 : List (Nat × Instr × Nat) := [(65, .new 92, 3), (68, .dup, 1), (69, .ldc 147, 2), (71, .invokespecial 96, 3), (74, .athrow, 1), (75, .aload_n 0, 1), (76, .invokevirtual 149, 3), (79, .istore_n 3, 1), (80, .iload_n 3, 1), (81, .ifCond .ge 13, 3), (84, .new 152, 3), (87, .dup, 1), (88, .ldc 154, 2), (90, .invokespecial 156, 3), (93, .athrow, 1), (94, .aload_n 0, 1)]
set_option maxRecDepth 20000 in
theorem dk_X7_split_2 : dl_X7_split_2.all (fun q => decide (decode cX7_split q.1 = .ok (q.2.1, q.2.2))) = true := dq_all 65 (by decide +kernel)
def dl_X7_split_3 : List (Nat × Instr × Nat) := [(95, .getfield 61, 3), (98, .iload_n 2, 1), (99, .aload_n 0, 1), (100, .getfield 65, 3), (103, .aload_n 0, 1), (104, .getfield 68, 3), (107, .invokevirtual 157, 3), (110, .aload_n 0, 1), (111, .getfield 12, 3), (114, .aload_n 0, 1), (115, .getfield 68, 3), (118, .iload_n 3, 1), (119, .invokevirtual 161, 3), (122, .aload_n 0, 1), (123, .getfield 18, 3), (126, .iload_n 3, 1)]
set_option maxRecDepth 20000 in
theorem dk_X7_split_3 : dl_X7_split_3.all (fun q => decide (decode cX7_split q.1 = .ok (q.2.1, q.2.2))) = true := dq_all 95 (by decide +kernel)
def dl_X7_split_4 : List (Nat × Instr × Nat) := [(127, .aaload, 1), (128, .aload_n 0, 1), (129, .getfield 18, 3), (132, .iload_n 1, 1), (133, .aaload, 1), (134, .invokevirtual 165, 3), (137, .iload_n 3, 1), (138, .ireturn, 1)]
set_option maxRecDepth 20000 in
theorem dk_X7_split_4 : dl_X7_split_4.all (fun q => decide (decode cX7_split q.1 = .ok (q.2.1, q.2.2))) = true := dq_all 127 (by decide +kernel)
def dl_X7_lead_0 : List (Nat × Instr × Nat) := [(0, .aload_n 0, 1), (1, .getfield 12, 3), (4, .invokevirtual 169, 3), (7, .ireturn, 1)]
set_option maxRecDepth 20000 in
theorem dk_X7_lead_0 : dl_X7_lead_0.all (fun q => decide (decode cX7_lead q.1 = .ok (q.2.1, q.2.2))) = true := dq_all 0 (by decide +kernel)
def dl_X7_joints_0 : List (Nat × Instr × Nat) := [(0, .aload_n 0, 1), (1, .getfield 12, 3), (4, .invokevirtual 172, 3), (7, .ireturn, 1)]
set_option maxRecDepth 20000 in
theorem dk_X7_joints_0 : dl_X7_joints_0.all (fun q => decide (decode cX7_joints q.1 = .ok (q.2.1, q.2.2))) = true := dq_all 0 (by decide +kernel)
def dl_X7_sheet_0 : List (Nat × Instr × Nat) := [(0, .iload_n 1, 1), (1, .invokestatic 175, 3), (4, .ifCond .eq 31, 3), (7, .iload_n 2, 1), (8, .iconst 1, 1), (9, .bipush 12, 2), (11, .invokestatic 179, 3), (14, .ifCond .eq 21, 3), (17, .iload_n 3, 1), (18, .iconst 1, 1), (19, .bipush 12, 2), (21, .invokestatic 179, 3), (24, .ifCond .eq 11, 3), (27, .iload 4, 2), (29, .invokestatic 183, 3), (32, .ifCond .ne 13, 3)]
set_option maxRecDepth 20000 in
theorem dk_X7_sheet_0 : dl_X7_sheet_0.all (fun q => decide (decode cX7_sheet q.1 = .ok (q.2.1, q.2.2))) = true := dq_all 0 (by decide +kernel)
def dl_X7_sheet_1 : List (Nat × Instr × Nat) := [(35, .new 187, 3), (38, .dup, 1), (39, .ldc 189, 2), (41, .invokespecial 191, 3), (44, .athrow, 1), (45, .aload_n 0, 1), (46, .getfield 35, 3), (49, .bipush 8, 2), (51, .if_icmp .lt 13, 3), (54, .new 152, 3), (57, .dup, 1), (58, .ldc 192, 2), (60, .invokespecial 156, 3), (63, .athrow, 1), (64, .aload_n 0, 1), (65, .getfield 24, 3)]
set_option maxRecDepth 20000 in
theorem dk_X7_sheet_1 : dl_X7_sheet_1.all (fun q => decide (decode cX7_sheet q.1 = .ok (q.2.1, q.2.2))) = true := dq_all 35 (by decide +kernel)
def dl_X7_sheet_2 : List (Nat × Instr × Nat) := [(68, .aload_n 0, 1), (69, .getfield 35, 3), (72, .aaload, 1), (73, .iload_n 1, 1), (74, .iload_n 2, 1), (75, .iload_n 3, 1), (76, .iload 4, 2), (78, .invokevirtual 194, 3), (81, .aload_n 0, 1), (82, .dup, 1), (83, .getfield 35, 3), (86, .iconst 1, 1), (87, .iadd, 1), (88, .putfield 35, 3), (91, .aload_n 0, 1), (92, .getfield 35, 3)]
set_option maxRecDepth 20000 in
theorem dk_X7_sheet_2 : dl_X7_sheet_2.all (fun q => decide (decode cX7_sheet q.1 = .ok (q.2.1, q.2.2))) = true := dq_all 68 (by decide +kernel)
def dl_X7_sheet_3 : List (Nat × Instr × Nat) := [(95, .iconst 1, 1), (96, .isub, 1), (97, .ireturn, 1)]
set_option maxRecDepth 20000 in
theorem dk_X7_sheet_3 : dl_X7_sheet_3.all (fun q => decide (decode cX7_sheet q.1 = .ok (q.2.1, q.2.2))) = true := dq_all 95 (by decide +kernel)
def dl_X7_free_0 : List (Nat × Instr × Nat) := [(0, .aload_n 0, 1), (1, .iload_n 1, 1), (2, .invokevirtual 198, 3), (5, .aload_n 0, 1), (6, .getfield 24, 3), (9, .iload_n 1, 1), (10, .aaload, 1), (11, .invokevirtual 201, 3), (14, .ireturn, 1)]
set_option maxRecDepth 20000 in
theorem dk_X7_free_0 : dl_X7_free_0.all (fun q => decide (decode cX7_free q.1 = .ok (q.2.1, q.2.2))) = true := dq_all 0 (by decide +kernel)
def dl_X7_want_0 : List (Nat × Instr × Nat) := [(0, .iload_n 1, 1), (1, .invokestatic 107, 3), (4, .iload_n 2, 1), (5, .invokestatic 175, 3), (8, .ifCond .eq 16, 3), (11, .iload_n 3, 1), (12, .bipush 45, 2), (14, .if_icmp .eq 20, 3), (17, .iload_n 3, 1), (18, .invokestatic 183, 3), (21, .ifCond .ne 13, 3), (24, .new 187, 3), (27, .dup, 1), (28, .ldc 204, 2), (30, .invokespecial 191, 3), (33, .athrow, 1)]
set_option maxRecDepth 20000 in
theorem dk_X7_want_0 : dl_X7_want_0.all (fun q => decide (decode cX7_want q.1 = .ok (q.2.1, q.2.2))) = true := dq_all 0 (by decide +kernel)
def dl_X7_want_1 : List (Nat × Instr × Nat) := [(34, .aload_n 0, 1), (35, .getfield 18, 3), (38, .iload_n 1, 1), (39, .aaload, 1), (40, .astore 4, 2), (42, .aload_n 0, 1), (43, .getfield 45, 3), (46, .ifCond .ne 11, 3), (49, .aload 4, 2), (51, .invokevirtual 111, 3), (54, .ifCond .eq 13, 3), (57, .new 92, 3), (60, .dup, 1), (61, .ldc 94, 2), (63, .invokespecial 96, 3), (66, .athrow, 1)]
set_option maxRecDepth 20000 in
theorem dk_X7_want_1 : dl_X7_want_1.all (fun q => decide (decode cX7_want q.1 = .ok (q.2.1, q.2.2))) = true := dq_all 34 (by decide +kernel)
def dl_X7_want_2 : List (Nat × Instr × Nat) := [(67, .aload 4, 2), (69, .getfield 206, 3), (72, .iload_n 2, 1), (73, .if_icmp .ne 16, 3), (76, .aload 4, 2), (78, .getfield 209, 3), (81, .iload_n 3, 1), (82, .if_icmp .ne 7, 3), (85, .iconst 1, 1), (86, .goto 4, 3), (89, .iconst 0, 1), (90, .istore 5, 2), (92, .aload 4, 2), (94, .iload_n 2, 1), (95, .putfield 206, 3), (98, .aload 4, 2)]
set_option maxRecDepth 20000 in
theorem dk_X7_want_2 : dl_X7_want_2.all (fun q => decide (decode cX7_want q.1 = .ok (q.2.1, q.2.2))) = true := dq_all 67 (by decide +kernel)
def dl_X7_want_3 : List (Nat × Instr × Nat) := [(100, .iload_n 3, 1), (101, .putfield 209, 3), (104, .iload 5, 2), (106, .ireturn, 1)]
set_option maxRecDepth 20000 in
theorem dk_X7_want_3 : dl_X7_want_3.all (fun q => decide (decode cX7_want q.1 = .ok (q.2.1, q.2.2))) = true := dq_all 100 (by decide +kernel)
def dl_X7_cut_0 : List (Nat × Instr × Nat) := [(0, .aload_n 0, 1), (1, .iload_n 1, 1), (2, .invokevirtual 198, 3), (5, .iload_n 2, 1), (6, .invokestatic 107, 3), (9, .aload_n 0, 1), (10, .getfield 18, 3), (13, .iload_n 2, 1), (14, .aaload, 1), (15, .astore 4, 2), (17, .aload_n 0, 1), (18, .getfield 24, 3), (21, .iload_n 1, 1), (22, .aaload, 1), (23, .astore 5, 2), (25, .aload_n 0, 1)]
set_option maxRecDepth 20000 in
theorem dk_X7_cut_0 : dl_X7_cut_0.all (fun q => decide (decode cX7_cut q.1 = .ok (q.2.1, q.2.2))) = true := dq_all 0 (by decide +kernel)
def dl_X7_cut_1 : List (Nat × Instr × Nat) := [(26, .getfield 12, 3), (29, .iload_n 2, 1), (30, .aload_n 0, 1), (31, .getfield 61, 3), (34, .invokevirtual 128, 3), (37, .aload 4, 2), (39, .invokevirtual 111, 3), (42, .ifCond .ne 26, 3), (45, .aload 4, 2), (47, .aload 5, 2), (49, .iload_n 3, 1), (50, .invokevirtual 213, 3), (53, .ifCond .eq 15, 3), (56, .aload_n 0, 1), (57, .getfield 61, 3), (60, .invokevirtual 139, 3)]
set_option maxRecDepth 20000 in
theorem dk_X7_cut_1 : dl_X7_cut_1.all (fun q => decide (decode cX7_cut q.1 = .ok (q.2.1, q.2.2))) = true := dq_all 26 (by decide +kernel)
def dl_X7_cut_2 : List (Nat × Instr × Nat) := [(63, .bipush 45, 2), (65, .if_icmp .eq 13, 3), (68, .new 187, 3), (71, .dup, 1), (72, .ldc 217, 2), (74, .invokespecial 191, 3), (77, .athrow, 1), (78, .aload_n 0, 1), (79, .getfield 61, 3), (82, .invokevirtual 219, 3), (85, .aload_n 0, 1), (86, .getfield 61, 3), (89, .astore 6, 2), (91, .iload_n 3, 1), (92, .ifCond .eq 20, 3), (95, .aload_n 0, 1)]
set_option maxRecDepth 20000 in
theorem dk_X7_cut_2 : dl_X7_cut_2.all (fun q => decide (decode cX7_cut q.1 = .ok (q.2.1, q.2.2))) = true := dq_all 63 (by decide +kernel)
def dl_X7_cut_3 : List (Nat × Instr × Nat) := [(96, .getfield 61, 3), (99, .aload_n 0, 1), (100, .getfield 65, 3), (103, .invokevirtual 222, 3), (106, .aload_n 0, 1), (107, .getfield 65, 3), (110, .astore 6, 2), (112, .aload 5, 2), (114, .aload 6, 2), (116, .invokevirtual 226, 3), (119, .istore 7, 2), (121, .aload_n 0, 1), (122, .getfield 45, 3), (125, .ifCond .ne 8, 3), (128, .iload 7, 2), (130, .ifCond .ge 13, 3)]
set_option maxRecDepth 20000 in
theorem dk_X7_cut_3 : dl_X7_cut_3.all (fun q => decide (decode cX7_cut q.1 = .ok (q.2.1, q.2.2))) = true := dq_all 96 (by decide +kernel)
def dl_X7_cut_4 : List (Nat × Instr × Nat) := [(133, .new 92, 3), (136, .dup, 1), (137, .ldc 230, 2), (139, .invokespecial 96, 3), (142, .athrow, 1), (143, .aload_n 0, 1), (144, .aload 5, 2), (146, .aload 6, 2), (148, .iload 7, 2), (150, .invokevirtual 232, 3), (153, .aload_n 0, 1), (154, .aload_n 0, 1), (155, .getfield 42, 3), (158, .i2l, 1), (159, .ldc2_w 236, 3), (162, .lmul, 1)]
set_option maxRecDepth 20000 in
theorem dk_X7_cut_4 : dl_X7_cut_4.all (fun q => decide (decode cX7_cut q.1 = .ok (q.2.1, q.2.2))) = true := dq_all 133 (by decide +kernel)
def dl_X7_cut_5 : List (Nat × Instr × Nat) := [(163, .ldc2_w 238, 3), (166, .lrem, 1), (167, .l2i, 1), (168, .putfield 42, 3), (171, .aload_n 0, 1), (172, .getfield 42, 3), (175, .bipush 100, 2), (177, .irem, 1), (178, .bipush 10, 2), (180, .aload 6, 2), (182, .invokevirtual 132, 3), (185, .imul, 1), (186, .if_icmp .ge 5, 3), (189, .iconst 0, 1), (190, .ireturn, 1), (191, .aload 4, 2)]
set_option maxRecDepth 20000 in
theorem dk_X7_cut_5 : dl_X7_cut_5.all (fun q => decide (decode cX7_cut q.1 = .ok (q.2.1, q.2.2))) = true := dq_all 163 (by decide +kernel)
def dl_X7_cut_6 : List (Nat × Instr × Nat) := [(193, .bipush 99, 2), (195, .aload 5, 2), (197, .getfield 240, 3), (200, .aload_n 0, 1), (201, .getfield 52, 3), (204, .invokevirtual 243, 3), (207, .iconst 1, 1), (208, .ireturn, 1)]
set_option maxRecDepth 20000 in
theorem dk_X7_cut_6 : dl_X7_cut_6.all (fun q => decide (decode cX7_cut q.1 = .ok (q.2.1, q.2.2))) = true := dq_all 193 (by decide +kernel)
def dl_X7_glass_0 : List (Nat × Instr × Nat) := [(0, .iload_n 1, 1), (1, .invokestatic 107, 3), (4, .aload_n 0, 1), (5, .getfield 18, 3), (8, .iload_n 1, 1), (9, .aaload, 1), (10, .getfield 247, 3), (13, .ireturn, 1)]
set_option maxRecDepth 20000 in
theorem dk_X7_glass_0 : dl_X7_glass_0.all (fun q => decide (decode cX7_glass q.1 = .ok (q.2.1, q.2.2))) = true := dq_all 0 (by decide +kernel)
def dl_X7_colour_0 : List (Nat × Instr × Nat) := [(0, .iload_n 1, 1), (1, .invokestatic 107, 3), (4, .aload_n 0, 1), (5, .iload_n 1, 1), (6, .invokevirtual 250, 3), (9, .aload_n 0, 1), (10, .getfield 18, 3), (13, .iload_n 1, 1), (14, .aaload, 1), (15, .getfield 253, 3), (18, .ireturn, 1)]
set_option maxRecDepth 20000 in
theorem dk_X7_colour_0 : dl_X7_colour_0.all (fun q => decide (decode cX7_colour q.1 = .ok (q.2.1, q.2.2))) = true := dq_all 0 (by decide +kernel)
def dl_X7_paint_0 : List (Nat × Instr × Nat) := [(0, .iload_n 1, 1), (1, .invokestatic 107, 3), (4, .iload_n 2, 1), (5, .invokestatic 254, 3), (8, .istore_n 3, 1), (9, .iload_n 3, 1), (10, .ifCond .ge 14, 3), (13, .new 187, 3), (16, .dup, 1), (17, .ldc_w 260, 3), (20, .invokespecial 191, 3), (23, .athrow, 1), (24, .aload_n 0, 1), (25, .getfield 18, 3), (28, .iload_n 1, 1), (29, .aaload, 1)]
set_option maxRecDepth 20000 in
theorem dk_X7_paint_0 : dl_X7_paint_0.all (fun q => decide (decode cX7_paint q.1 = .ok (q.2.1, q.2.2))) = true := dq_all 0 (by decide +kernel)
def dl_X7_paint_1 : List (Nat × Instr × Nat) := [(30, .astore 4, 2), (32, .aload_n 0, 1), (33, .getfield 45, 3), (36, .ifCond .ne 29, 3), (39, .aload 4, 2), (41, .getfield 247, 3), (44, .bipush 99, 2), (46, .if_icmp .ne 19, 3), (49, .iload_n 3, 1), (50, .iconst 2, 1), (51, .if_icmp .ne 25, 3), (54, .aload 4, 2), (56, .getfield 262, 3), (59, .invokevirtual 266, 3), (62, .ifCond .eq 14, 3), (65, .new 92, 3)]
set_option maxRecDepth 20000 in
theorem dk_X7_paint_1 : dl_X7_paint_1.all (fun q => decide (decode cX7_paint q.1 = .ok (q.2.1, q.2.2))) = true := dq_all 30 (by decide +kernel)
def dl_X7_paint_2 : List (Nat × Instr × Nat) := [(68, .dup, 1), (69, .ldc_w 269, 3), (72, .invokespecial 96, 3), (75, .athrow, 1), (76, .aload 4, 2), (78, .getfield 262, 3), (81, .invokevirtual 271, 3), (84, .iconst 5, 1), (85, .if_icmp .lt 14, 3), (88, .new 152, 3), (91, .dup, 1), (92, .ldc_w 274, 3), (95, .invokespecial 156, 3), (98, .athrow, 1), (99, .aload 4, 2), (101, .getfield 262, 3)]
set_option maxRecDepth 20000 in
theorem dk_X7_paint_2 : dl_X7_paint_2.all (fun q => decide (decode cX7_paint q.1 = .ok (q.2.1, q.2.2))) = true := dq_all 68 (by decide +kernel)
def dl_X7_paint_3 : List (Nat × Instr × Nat) := [(104, .iload_n 3, 1), (105, .invokevirtual 276, 3), (108, .aload 4, 2), (110, .getfield 262, 3), (113, .invokevirtual 271, 3), (116, .ireturn, 1)]
set_option maxRecDepth 20000 in
theorem dk_X7_paint_3 : dl_X7_paint_3.all (fun q => decide (decode cX7_paint q.1 = .ok (q.2.1, q.2.2))) = true := dq_all 104 (by decide +kernel)
def dl_X7_fire_0 : List (Nat × Instr × Nat) := [(0, .iload_n 1, 1), (1, .ifCond .eq 32, 3), (4, .iload_n 1, 1), (5, .invokestatic 279, 3), (8, .bipush 6, 2), (10, .if_icmp .gt 23, 3), (13, .iload_n 1, 1), (14, .bipush 30, 2), (16, .iushr, 1), (17, .ifCond .ne 16, 3), (20, .iload_n 2, 1), (21, .sipush 500, 3), (24, .sipush 700, 3), (27, .invokestatic 179, 3), (30, .ifCond .ne 14, 3), (33, .new 187, 3)]
set_option maxRecDepth 20000 in
theorem dk_X7_fire_0 : dl_X7_fire_0.all (fun q => decide (decode cX7_fire q.1 = .ok (q.2.1, q.2.2))) = true := dq_all 0 (by decide +kernel)
def dl_X7_fire_1 : List (Nat × Instr × Nat) := [(36, .dup, 1), (37, .ldc_w 284, 3), (40, .invokespecial 191, 3), (43, .athrow, 1), (44, .aload_n 0, 1), (45, .getfield 45, 3), (48, .ifCond .ne 16, 3), (51, .iload_n 1, 1), (52, .aload_n 0, 1), (53, .bipush 99, 2), (55, .invokevirtual 286, 3), (58, .iconst (-1), 1), (59, .ixor, 1), (60, .iand, 1), (61, .ifCond .eq 14, 3), (64, .new 92, 3)]
set_option maxRecDepth 20000 in
theorem dk_X7_fire_1 : dl_X7_fire_1.all (fun q => decide (decode cX7_fire q.1 = .ok (q.2.1, q.2.2))) = true := dq_all 36 (by decide +kernel)
def dl_X7_fire_2 : List (Nat × Instr × Nat) := [(67, .dup, 1), (68, .ldc_w 289, 3), (71, .invokespecial 96, 3), (74, .athrow, 1), (75, .iconst 0, 1), (76, .istore_n 3, 1), (77, .iconst 0, 1), (78, .istore 4, 2), (80, .iload 4, 2), (82, .bipush 30, 2), (84, .if_icmp .ge 36, 3), (87, .iload_n 1, 1), (88, .iload 4, 2), (90, .ishr, 1), (91, .iconst 1, 1), (92, .iand, 1)]
set_option maxRecDepth 20000 in
theorem dk_X7_fire_2 : dl_X7_fire_2.all (fun q => decide (decode cX7_fire q.1 = .ok (q.2.1, q.2.2))) = true := dq_all 67 (by decide +kernel)
def dl_X7_fire_3 : List (Nat × Instr × Nat) := [(93, .iconst 1, 1), (94, .if_icmp .ne 20, 3), (97, .iload_n 3, 1), (98, .aload_n 0, 1), (99, .getfield 18, 3), (102, .iload 4, 2), (104, .aaload, 1), (105, .getfield 262, 3), (108, .iload_n 2, 1), (109, .invokevirtual 291, 3), (112, .iadd, 1), (113, .istore_n 3, 1), (114, .iinc 4 1, 3), (117, .goto (-37), 3), (120, .iload_n 3, 1), (121, .ireturn, 1)]
set_option maxRecDepth 20000 in
theorem dk_X7_fire_3 : dl_X7_fire_3.all (fun q => decide (decode cX7_fire q.1 = .ok (q.2.1, q.2.2))) = true := dq_all 93 (by decide +kernel)
def dl_X7_layers_0 : List (Nat × Instr × Nat) := [(0, .iload_n 1, 1), (1, .invokestatic 107, 3), (4, .iload_n 2, 1), (5, .bipush 114, 2), (7, .if_icmp .eq 20, 3), (10, .iload_n 2, 1), (11, .bipush 102, 2), (13, .if_icmp .eq 14, 3), (16, .new 187, 3), (19, .dup, 1), (20, .ldc_w 294, 3), (23, .invokespecial 191, 3), (26, .athrow, 1), (27, .aload_n 0, 1), (28, .getfield 18, 3), (31, .iload_n 1, 1)]
set_option maxRecDepth 20000 in
theorem dk_X7_layers_0 : dl_X7_layers_0.all (fun q => decide (decode cX7_layers q.1 = .ok (q.2.1, q.2.2))) = true := dq_all 0 (by decide +kernel)
def dl_X7_layers_1 : List (Nat × Instr × Nat) := [(32, .aaload, 1), (33, .getfield 262, 3), (36, .astore_n 3, 1), (37, .iload_n 2, 1), (38, .bipush 114, 2), (40, .if_icmp .ne 10, 3), (43, .aload_n 3, 1), (44, .invokevirtual 296, 3), (47, .goto 7, 3), (50, .aload_n 3, 1), (51, .invokevirtual 299, 3), (54, .ireturn, 1)]
set_option maxRecDepth 20000 in
theorem dk_X7_layers_1 : dl_X7_layers_1.all (fun q => decide (decode cX7_layers q.1 = .ok (q.2.1, q.2.2))) = true := dq_all 32 (by decide +kernel)
def dl_X7_seed_0 : List (Nat × Instr × Nat) := [(0, .iload_n 1, 1), (1, .iconst 1, 1), (2, .ldc_w 302, 3), (5, .invokestatic 179, 3), (8, .ifCond .ne 14, 3), (11, .new 187, 3), (14, .dup, 1), (15, .ldc_w 303, 3), (18, .invokespecial 191, 3), (21, .athrow, 1), (22, .aload_n 0, 1), (23, .getfield 42, 3), (26, .istore_n 2, 1), (27, .aload_n 0, 1), (28, .iload_n 1, 1), (29, .putfield 42, 3)]
set_option maxRecDepth 20000 in
theorem dk_X7_seed_0 : dl_X7_seed_0.all (fun q => decide (decode cX7_seed q.1 = .ok (q.2.1, q.2.2))) = true := dq_all 0 (by decide +kernel)
def dl_X7_seed_1 : List (Nat × Instr × Nat) := [(32, .iload_n 2, 1), (33, .ireturn, 1)]
set_option maxRecDepth 20000 in
theorem dk_X7_seed_1 : dl_X7_seed_1.all (fun q => decide (decode cX7_seed q.1 = .ok (q.2.1, q.2.2))) = true := dq_all 32 (by decide +kernel)
def dl_X7_isOrderly_0 : List (Nat × Instr × Nat) := [(0, .aload_n 0, 1), (1, .getfield 12, 3), (4, .iconst (-1), 1), (5, .invokevirtual 120, 3), (8, .ifCond .le 5, 3), (11, .iconst 0, 1), (12, .ireturn, 1), (13, .aload_n 0, 1), (14, .getfield 12, 3), (17, .aload_n 0, 1), (18, .getfield 71, 3), (21, .invokevirtual 305, 3), (24, .aload_n 0, 1), (25, .getfield 12, 3), (28, .invokevirtual 309, 3), (31, .istore_n 1, 1)]
set_option maxRecDepth 20000 in
theorem dk_X7_isOrderly_0 : dl_X7_isOrderly_0.all (fun q => decide (decode cX7_isOrderly q.1 = .ok (q.2.1, q.2.2))) = true := dq_all 0 (by decide +kernel)
def dl_X7_isOrderly_1 : List (Nat × Instr × Nat) := [(32, .iconst 0, 1), (33, .istore_n 2, 1), (34, .iconst 0, 1), (35, .istore_n 3, 1), (36, .iload_n 3, 1), (37, .bipush 30, 2), (39, .if_icmp .ge 41, 3), (42, .iload_n 1, 1), (43, .ifCond .eq 37, 3), (46, .aload_n 0, 1), (47, .iload_n 1, 1), (48, .iload_n 2, 1), (49, .invokevirtual 312, 3), (52, .istore 4, 2), (54, .iload 4, 2), (56, .ifCond .ge 5, 3)]
set_option maxRecDepth 20000 in
theorem dk_X7_isOrderly_1 : dl_X7_isOrderly_1.all (fun q => decide (decode cX7_isOrderly q.1 = .ok (q.2.1, q.2.2))) = true := dq_all 32 (by decide +kernel)
def dl_X7_isOrderly_2 : List (Nat × Instr × Nat) := [(59, .iconst 0, 1), (60, .ireturn, 1), (61, .iload_n 2, 1), (62, .iconst 1, 1), (63, .iload 4, 2), (65, .ishl, 1), (66, .ior, 1), (67, .istore_n 2, 1), (68, .iload_n 1, 1), (69, .iload_n 2, 1), (70, .iconst (-1), 1), (71, .ixor, 1), (72, .iand, 1), (73, .istore_n 1, 1), (74, .iinc 3 1, 3), (77, .goto (-41), 3)]
set_option maxRecDepth 20000 in
theorem dk_X7_isOrderly_2 : dl_X7_isOrderly_2.all (fun q => decide (decode cX7_isOrderly q.1 = .ok (q.2.1, q.2.2))) = true := dq_all 59 (by decide +kernel)
def dl_X7_isOrderly_3 : List (Nat × Instr × Nat) := [(80, .iload_n 1, 1), (81, .ifCond .ne 7, 3), (84, .iconst 1, 1), (85, .goto 4, 3), (88, .iconst 0, 1), (89, .ireturn, 1)]
set_option maxRecDepth 20000 in
theorem dk_X7_isOrderly_3 : dl_X7_isOrderly_3.all (fun q => decide (decode cX7_isOrderly q.1 = .ok (q.2.1, q.2.2))) = true := dq_all 80 (by decide +kernel)
def dl_X7_next_0 : List (Nat × Instr × Nat) := [(0, .aload_n 0, 1), (1, .invokevirtual 315, 3), (4, .ireturn, 1)]
set_option maxRecDepth 20000 in
theorem dk_X7_next_0 : dl_X7_next_0.all (fun q => decide (decode cX7_next q.1 = .ok (q.2.1, q.2.2))) = true := dq_all 0 (by decide +kernel)
def dl_X7_comes_0 : List (Nat × Instr × Nat) := [(0, .aload_n 0, 1), (1, .invokevirtual 315, 3), (4, .istore_n 1, 1), (5, .aload_n 0, 1), (6, .getfield 18, 3), (9, .iload_n 1, 1), (10, .aaload, 1), (11, .bipush 108, 2), (13, .putfield 247, 3), (16, .iload_n 1, 1), (17, .ireturn, 1)]
set_option maxRecDepth 20000 in
theorem dk_X7_comes_0 : dl_X7_comes_0.all (fun q => decide (decode cX7_comes q.1 = .ok (q.2.1, q.2.2))) = true := dq_all 0 (by decide +kernel)
def dl_X7_solder_0 : List (Nat × Instr × Nat) := [(0, .aload_n 0, 1), (1, .getfield 12, 3), (4, .invokevirtual 309, 3), (7, .istore_n 1, 1), (8, .aload_n 0, 1), (9, .getfield 45, 3), (12, .ifCond .ne 28, 3), (15, .iload_n 1, 1), (16, .ifCond .eq 24, 3), (19, .iload_n 1, 1), (20, .aload_n 0, 1), (21, .bipush 108, 2), (23, .invokevirtual 286, 3), (26, .if_icmp .ne 14, 3), (29, .aload_n 0, 1), (30, .getfield 12, 3)]
set_option maxRecDepth 20000 in
theorem dk_X7_solder_0 : dl_X7_solder_0.all (fun q => decide (decode cX7_solder q.1 = .ok (q.2.1, q.2.2))) = true := dq_all 0 (by decide +kernel)
def dl_X7_solder_1 : List (Nat × Instr × Nat) := [(33, .iconst (-1), 1), (34, .invokevirtual 120, 3), (37, .ifCond .le 14, 3), (40, .new 92, 3), (43, .dup, 1), (44, .ldc_w 318, 3), (47, .invokespecial 96, 3), (50, .athrow, 1), (51, .aload_n 0, 1), (52, .iconst 1, 1), (53, .putfield 45, 3), (56, .aload_n 0, 1), (57, .aload_n 0, 1), (58, .getfield 52, 3), (61, .putfield 49, 3), (64, .aload_n 0, 1)]
set_option maxRecDepth 20000 in
theorem dk_X7_solder_1 : dl_X7_solder_1.all (fun q => decide (decode cX7_solder q.1 = .ok (q.2.1, q.2.2))) = true := dq_all 33 (by decide +kernel)
def dl_X7_solder_2 : List (Nat × Instr × Nat) := [(65, .getfield 12, 3), (68, .invokevirtual 172, 3), (71, .ireturn, 1)]
set_option maxRecDepth 20000 in
theorem dk_X7_solder_2 : dl_X7_solder_2.all (fun q => decide (decode cX7_solder q.1 = .ok (q.2.1, q.2.2))) = true := dq_all 65 (by decide +kernel)
def dl_X7_isUp_0 : List (Nat × Instr × Nat) := [(0, .aload_n 0, 1), (1, .getfield 45, 3), (4, .ireturn, 1)]
set_option maxRecDepth 20000 in
theorem dk_X7_isUp_0 : dl_X7_isUp_0.all (fun q => decide (decode cX7_isUp q.1 = .ok (q.2.1, q.2.2))) = true := dq_all 0 (by decide +kernel)
def dl_X7_bar_0 : List (Nat × Instr × Nat) := [(0, .iload_n 1, 1), (1, .iconst 1, 1), (2, .bipush 11, 2), (4, .invokestatic 179, 3), (7, .ifCond .ne 14, 3), (10, .new 187, 3), (13, .dup, 1), (14, .ldc_w 320, 3), (17, .invokespecial 191, 3), (20, .athrow, 1), (21, .aload_n 0, 1), (22, .getfield 31, 3), (25, .iload_n 1, 1), (26, .invokevirtual 322, 3), (29, .istore_n 3, 1), (30, .aload_n 0, 1)]
set_option maxRecDepth 20000 in
theorem dk_X7_bar_0 : dl_X7_bar_0.all (fun q => decide (decode cX7_bar q.1 = .ok (q.2.1, q.2.2))) = true := dq_all 0 (by decide +kernel)
def dl_X7_bar_1 : List (Nat × Instr × Nat) := [(31, .getfield 31, 3), (34, .iload_n 1, 1), (35, .iload_n 2, 1), (36, .invokevirtual 325, 3), (39, .iload_n 3, 1), (40, .ireturn, 1)]
set_option maxRecDepth 20000 in
theorem dk_X7_bar_1 : dl_X7_bar_1.all (fun q => decide (decode cX7_bar q.1 = .ok (q.2.1, q.2.2))) = true := dq_all 31 (by decide +kernel)
def dl_X7_profile_0 : List (Nat × Instr × Nat) := [(0, .iload_n 1, 1), (1, .iconst 1, 1), (2, .iconst 4, 1), (3, .invokestatic 179, 3), (6, .ifCond .ne 14, 3), (9, .new 187, 3), (12, .dup, 1), (13, .ldc_w 329, 3), (16, .invokespecial 191, 3), (19, .athrow, 1), (20, .aload_n 0, 1), (21, .getfield 45, 3), (24, .ifCond .eq 14, 3), (27, .new 92, 3), (30, .dup, 1), (31, .ldc_w 331, 3)]
set_option maxRecDepth 20000 in
theorem dk_X7_profile_0 : dl_X7_profile_0.all (fun q => decide (decode cX7_profile q.1 = .ok (q.2.1, q.2.2))) = true := dq_all 0 (by decide +kernel)
def dl_X7_profile_1 : List (Nat × Instr × Nat) := [(34, .invokespecial 96, 3), (37, .athrow, 1), (38, .aload_n 0, 1), (39, .getfield 31, 3), (42, .getfield 333, 3), (45, .istore_n 2, 1), (46, .aload_n 0, 1), (47, .getfield 31, 3), (50, .iload_n 1, 1), (51, .putfield 333, 3), (54, .iload_n 2, 1), (55, .ireturn, 1)]
set_option maxRecDepth 20000 in
theorem dk_X7_profile_1 : dl_X7_profile_1.all (fun q => decide (decode cX7_profile q.1 = .ok (q.2.1, q.2.2))) = true := dq_all 34 (by decide +kernel)
def dl_X7_wind_0 : List (Nat × Instr × Nat) := [(0, .iload_n 1, 1), (1, .iconst 0, 1), (2, .bipush 100, 2), (4, .invokestatic 179, 3), (7, .ifCond .ne 14, 3), (10, .new 187, 3), (13, .dup, 1), (14, .ldc_w 336, 3), (17, .invokespecial 191, 3), (20, .athrow, 1), (21, .aload_n 0, 1), (22, .getfield 31, 3), (25, .getfield 338, 3), (28, .istore_n 2, 1), (29, .aload_n 0, 1), (30, .getfield 31, 3)]
set_option maxRecDepth 20000 in
theorem dk_X7_wind_0 : dl_X7_wind_0.all (fun q => decide (decode cX7_wind q.1 = .ok (q.2.1, q.2.2))) = true := dq_all 0 (by decide +kernel)
def dl_X7_wind_1 : List (Nat × Instr × Nat) := [(33, .iload_n 1, 1), (34, .putfield 338, 3), (37, .iload_n 2, 1), (38, .ireturn, 1)]
set_option maxRecDepth 20000 in
theorem dk_X7_wind_1 : dl_X7_wind_1.all (fun q => decide (decode cX7_wind q.1 = .ok (q.2.1, q.2.2))) = true := dq_all 33 (by decide +kernel)
def dl_X7_bears_0 : List (Nat × Instr × Nat) := [(0, .aload_n 0, 1), (1, .getfield 31, 3), (4, .aload_n 0, 1), (5, .invokevirtual 341, 3), (8, .invokevirtual 344, 3), (11, .ireturn, 1)]
set_option maxRecDepth 20000 in
theorem dk_X7_bears_0 : dl_X7_bears_0.all (fun q => decide (decode cX7_bears q.1 = .ok (q.2.1, q.2.2))) = true := dq_all 0 (by decide +kernel)
def dl_X7_stands_0 : List (Nat × Instr × Nat) := [(0, .aload_n 0, 1), (1, .getfield 31, 3), (4, .aload_n 0, 1), (5, .invokevirtual 341, 3), (8, .invokevirtual 344, 3), (11, .bipush 100, 2), (13, .if_icmp .gt 7, 3), (16, .iconst 1, 1), (17, .goto 4, 3), (20, .iconst 0, 1), (21, .ireturn, 1)]
set_option maxRecDepth 20000 in
theorem dk_X7_stands_0 : dl_X7_stands_0.all (fun q => decide (decode cX7_stands q.1 = .ok (q.2.1, q.2.2))) = true := dq_all 0 (by decide +kernel)
def dl_X7_years_0 : List (Nat × Instr × Nat) := [(0, .iload_n 1, 1), (1, .iconst 1, 1), (2, .sipush 500, 3), (5, .invokestatic 179, 3), (8, .ifCond .ne 14, 3), (11, .new 187, 3), (14, .dup, 1), (15, .ldc_w 347, 3), (18, .invokespecial 191, 3), (21, .athrow, 1), (22, .aload_n 0, 1), (23, .getfield 52, 3), (26, .iload_n 1, 1), (27, .iadd, 1), (28, .sipush 2000, 3), (31, .if_icmp .le 14, 3)]
set_option maxRecDepth 20000 in
theorem dk_X7_years_0 : dl_X7_years_0.all (fun q => decide (decode cX7_years q.1 = .ok (q.2.1, q.2.2))) = true := dq_all 0 (by decide +kernel)
def dl_X7_years_1 : List (Nat × Instr × Nat) := [(34, .new 152, 3), (37, .dup, 1), (38, .ldc_w 349, 3), (41, .invokespecial 156, 3), (44, .athrow, 1), (45, .aload_n 0, 1), (46, .dup, 1), (47, .getfield 52, 3), (50, .iload_n 1, 1), (51, .iadd, 1), (52, .putfield 52, 3), (55, .aload_n 0, 1), (56, .getfield 52, 3), (59, .ireturn, 1)]
set_option maxRecDepth 20000 in
theorem dk_X7_years_1 : dl_X7_years_1.all (fun q => decide (decode cX7_years q.1 = .ok (q.2.1, q.2.2))) = true := dq_all 34 (by decide +kernel)
def dl_X7_looks_0 : List (Nat × Instr × Nat) := [(0, .iload_n 1, 1), (1, .iload_n 2, 1), (2, .invokestatic 124, 3), (5, .iload_n 3, 1), (6, .iconst 0, 1), (7, .bipush 23, 2), (9, .invokestatic 179, 3), (12, .ifCond .ne 14, 3), (15, .new 187, 3), (18, .dup, 1), (19, .ldc_w 351, 3), (22, .invokespecial 191, 3), (25, .athrow, 1), (26, .iconst 0, 1), (27, .bipush 100, 2), (29, .bipush 14, 2)]
set_option maxRecDepth 20000 in
theorem dk_X7_looks_0 : dl_X7_looks_0.all (fun q => decide (decode cX7_looks q.1 = .ok (q.2.1, q.2.2))) = true := dq_all 0 (by decide +kernel)
def dl_X7_looks_1 : List (Nat × Instr × Nat) := [(31, .iload_n 3, 1), (32, .bipush 12, 2), (34, .isub, 1), (35, .invokestatic 353, 3), (38, .imul, 1), (39, .isub, 1), (40, .invokestatic 358, 3), (43, .istore 4, 2), (45, .aload_n 0, 1), (46, .iload_n 1, 1), (47, .iload_n 2, 1), (48, .iload 4, 2), (50, .invokevirtual 361, 3), (53, .istore 5, 2), (55, .iconst 0, 1), (56, .istore 6, 2)]
set_option maxRecDepth 20000 in
theorem dk_X7_looks_1 : dl_X7_looks_1.all (fun q => decide (decode cX7_looks q.1 = .ok (q.2.1, q.2.2))) = true := dq_all 31 (by decide +kernel)
def dl_X7_looks_2 : List (Nat × Instr × Nat) := [(58, .iload 6, 2), (60, .aload_n 0, 1), (61, .iload_n 1, 1), (62, .iconst 1, 1), (63, .isub, 1), (64, .iload_n 2, 1), (65, .iload 4, 2), (67, .invokevirtual 361, 3), (70, .iload 5, 2), (72, .bipush 30, 2), (74, .iadd, 1), (75, .if_icmp .lt 7, 3), (78, .iconst 1, 1), (79, .goto 4, 3), (82, .iconst 0, 1), (83, .iadd, 1)]
set_option maxRecDepth 20000 in
theorem dk_X7_looks_2 : dl_X7_looks_2.all (fun q => decide (decode cX7_looks q.1 = .ok (q.2.1, q.2.2))) = true := dq_all 58 (by decide +kernel)
def dl_X7_looks_3 : List (Nat × Instr × Nat) := [(84, .istore 6, 2), (86, .iload 6, 2), (88, .aload_n 0, 1), (89, .iload_n 1, 1), (90, .iconst 1, 1), (91, .iadd, 1), (92, .iload_n 2, 1), (93, .iload 4, 2), (95, .invokevirtual 361, 3), (98, .iload 5, 2), (100, .bipush 30, 2), (102, .iadd, 1), (103, .if_icmp .lt 7, 3), (106, .iconst 1, 1), (107, .goto 4, 3), (110, .iconst 0, 1)]
set_option maxRecDepth 20000 in
theorem dk_X7_looks_3 : dl_X7_looks_3.all (fun q => decide (decode cX7_looks q.1 = .ok (q.2.1, q.2.2))) = true := dq_all 84 (by decide +kernel)
def dl_X7_looks_4 : List (Nat × Instr × Nat) := [(111, .iadd, 1), (112, .istore 6, 2), (114, .iload 6, 2), (116, .aload_n 0, 1), (117, .iload_n 1, 1), (118, .iload_n 2, 1), (119, .iconst 1, 1), (120, .isub, 1), (121, .iload 4, 2), (123, .invokevirtual 361, 3), (126, .iload 5, 2), (128, .bipush 30, 2), (130, .iadd, 1), (131, .if_icmp .lt 7, 3), (134, .iconst 1, 1), (135, .goto 4, 3)]
set_option maxRecDepth 20000 in
theorem dk_X7_looks_4 : dl_X7_looks_4.all (fun q => decide (decode cX7_looks q.1 = .ok (q.2.1, q.2.2))) = true := dq_all 111 (by decide +kernel)
def dl_X7_looks_5 : List (Nat × Instr × Nat) := [(138, .iconst 0, 1), (139, .iadd, 1), (140, .istore 6, 2), (142, .iload 6, 2), (144, .aload_n 0, 1), (145, .iload_n 1, 1), (146, .iload_n 2, 1), (147, .iconst 1, 1), (148, .iadd, 1), (149, .iload 4, 2), (151, .invokevirtual 361, 3), (154, .iload 5, 2), (156, .bipush 30, 2), (158, .iadd, 1), (159, .if_icmp .lt 7, 3), (162, .iconst 1, 1)]
set_option maxRecDepth 20000 in
theorem dk_X7_looks_5 : dl_X7_looks_5.all (fun q => decide (decode cX7_looks q.1 = .ok (q.2.1, q.2.2))) = true := dq_all 138 (by decide +kernel)
def dl_X7_looks_6 : List (Nat × Instr × Nat) := [(163, .goto 4, 3), (166, .iconst 0, 1), (167, .iadd, 1), (168, .istore 6, 2), (170, .iconst 0, 1), (171, .iload 5, 2), (173, .iconst 5, 1), (174, .iload 6, 2), (176, .imul, 1), (177, .isub, 1), (178, .invokestatic 358, 3), (181, .ireturn, 1)]
set_option maxRecDepth 20000 in
theorem dk_X7_looks_6 : dl_X7_looks_6.all (fun q => decide (decode cX7_looks q.1 = .ok (q.2.1, q.2.2))) = true := dq_all 163 (by decide +kernel)
def dl_X7_hit_0 : List (Nat × Instr × Nat) := [(0, .iload_n 1, 1), (1, .iload_n 2, 1), (2, .invokestatic 124, 3), (5, .aload_n 0, 1), (6, .getfield 45, 3), (9, .ifCond .ne 14, 3), (12, .new 92, 3), (15, .dup, 1), (16, .ldc_w 365, 3), (19, .invokespecial 96, 3), (22, .athrow, 1), (23, .aload_n 0, 1), (24, .getfield 12, 3), (27, .iload_n 1, 1), (28, .iload_n 2, 1), (29, .invokevirtual 99, 3)]
set_option maxRecDepth 20000 in
theorem dk_X7_hit_0 : dl_X7_hit_0.all (fun q => decide (decode cX7_hit q.1 = .ok (q.2.1, q.2.2))) = true := dq_all 0 (by decide +kernel)
def dl_X7_hit_1 : List (Nat × Instr × Nat) := [(32, .istore_n 3, 1), (33, .iload_n 3, 1), (34, .invokestatic 367, 3), (37, .ifCond .eq 17, 3), (40, .aload_n 0, 1), (41, .getfield 18, 3), (44, .iload_n 3, 1), (45, .aaload, 1), (46, .getfield 247, 3), (49, .bipush 108, 2), (51, .if_icmp .eq 5, 3), (54, .iconst 0, 1), (55, .ireturn, 1), (56, .aload_n 0, 1), (57, .getfield 18, 3), (60, .iload_n 3, 1)]
set_option maxRecDepth 20000 in
theorem dk_X7_hit_1 : dl_X7_hit_1.all (fun q => decide (decode cX7_hit q.1 = .ok (q.2.1, q.2.2))) = true := dq_all 32 (by decide +kernel)
def dl_X7_hit_2 : List (Nat × Instr × Nat) := [(61, .aaload, 1), (62, .bipush 98, 2), (64, .putfield 247, 3), (67, .iconst 1, 1), (68, .ireturn, 1)]
set_option maxRecDepth 20000 in
theorem dk_X7_hit_2 : dl_X7_hit_2.all (fun q => decide (decode cX7_hit q.1 = .ok (q.2.1, q.2.2))) = true := dq_all 61 (by decide +kernel)
def dl_X7_mend_0 : List (Nat × Instr × Nat) := [(0, .iload_n 1, 1), (1, .invokestatic 107, 3), (4, .aload_n 0, 1), (5, .getfield 18, 3), (8, .iload_n 1, 1), (9, .aaload, 1), (10, .astore_n 2, 1), (11, .aload_n 2, 1), (12, .getfield 247, 3), (15, .bipush 98, 2), (17, .if_icmp .eq 14, 3), (20, .new 92, 3), (23, .dup, 1), (24, .ldc_w 370, 3), (27, .invokespecial 96, 3), (30, .athrow, 1)]
set_option maxRecDepth 20000 in
theorem dk_X7_mend_0 : dl_X7_mend_0.all (fun q => decide (decode cX7_mend q.1 = .ok (q.2.1, q.2.2))) = true := dq_all 0 (by decide +kernel)
def dl_X7_mend_1 : List (Nat × Instr × Nat) := [(31, .aload_n 2, 1), (32, .bipush 108, 2), (34, .putfield 247, 3), (37, .aload_n 2, 1), (38, .getfield 372, 3), (41, .aload_n 0, 1), (42, .getfield 52, 3), (45, .invokevirtual 375, 3), (48, .aload_n 0, 1), (49, .dup, 1), (50, .getfield 55, 3), (53, .iconst 1, 1), (54, .iadd, 1), (55, .putfield 55, 3), (58, .aload_n 0, 1), (59, .getfield 55, 3)]
set_option maxRecDepth 20000 in
theorem dk_X7_mend_1 : dl_X7_mend_1.all (fun q => decide (decode cX7_mend q.1 = .ok (q.2.1, q.2.2))) = true := dq_all 31 (by decide +kernel)
def dl_X7_mend_2 : List (Nat × Instr × Nat) := [(62, .ireturn, 1)]
set_option maxRecDepth 20000 in
theorem dk_X7_mend_2 : dl_X7_mend_2.all (fun q => decide (decode cX7_mend q.1 = .ok (q.2.1, q.2.2))) = true := dq_all 62 (by decide +kernel)
def dl_X7_stopgap_0 : List (Nat × Instr × Nat) := [(0, .aload_n 0, 1), (1, .iload_n 2, 1), (2, .invokevirtual 198, 3), (5, .iload_n 1, 1), (6, .invokestatic 107, 3), (9, .aload_n 0, 1), (10, .getfield 18, 3), (13, .iload_n 1, 1), (14, .aaload, 1), (15, .astore_n 3, 1), (16, .aload_n 0, 1), (17, .getfield 24, 3), (20, .iload_n 2, 1), (21, .aaload, 1), (22, .astore 4, 2), (24, .aload_n 3, 1)]
set_option maxRecDepth 20000 in
theorem dk_X7_stopgap_0 : dl_X7_stopgap_0.all (fun q => decide (decode cX7_stopgap q.1 = .ok (q.2.1, q.2.2))) = true := dq_all 0 (by decide +kernel)
def dl_X7_stopgap_1 : List (Nat × Instr × Nat) := [(25, .getfield 247, 3), (28, .bipush 98, 2), (30, .if_icmp .ne 17, 3), (33, .aload_n 0, 1), (34, .getfield 52, 3), (37, .aload_n 3, 1), (38, .getfield 376, 3), (41, .isub, 1), (42, .bipush 100, 2), (44, .if_icmp .lt 14, 3), (47, .new 92, 3), (50, .dup, 1), (51, .ldc_w 379, 3), (54, .invokespecial 96, 3), (57, .athrow, 1), (58, .aload_n 0, 1)]
set_option maxRecDepth 20000 in
theorem dk_X7_stopgap_1 : dl_X7_stopgap_1.all (fun q => decide (decode cX7_stopgap q.1 = .ok (q.2.1, q.2.2))) = true := dq_all 25 (by decide +kernel)
def dl_X7_stopgap_2 : List (Nat × Instr × Nat) := [(59, .getfield 12, 3), (62, .iload_n 1, 1), (63, .aload_n 0, 1), (64, .getfield 61, 3), (67, .invokevirtual 128, 3), (70, .aload_n 0, 1), (71, .getfield 61, 3), (74, .invokevirtual 219, 3), (77, .aload 4, 2), (79, .aload_n 0, 1), (80, .getfield 61, 3), (83, .invokevirtual 226, 3), (86, .istore 5, 2), (88, .iload 5, 2), (90, .ifCond .ge 14, 3), (93, .new 92, 3)]
set_option maxRecDepth 20000 in
theorem dk_X7_stopgap_2 : dl_X7_stopgap_2.all (fun q => decide (decode cX7_stopgap q.1 = .ok (q.2.1, q.2.2))) = true := dq_all 59 (by decide +kernel)
def dl_X7_stopgap_3 : List (Nat × Instr × Nat) := [(96, .dup, 1), (97, .ldc_w 381, 3), (100, .invokespecial 96, 3), (103, .athrow, 1), (104, .aload_n 0, 1), (105, .aload 4, 2), (107, .aload_n 0, 1), (108, .getfield 61, 3), (111, .iload 5, 2), (113, .invokevirtual 232, 3), (116, .aload_n 3, 1), (117, .bipush 108, 2), (119, .aload 4, 2), (121, .getfield 240, 3), (124, .aload_n 0, 1), (125, .getfield 52, 3)]
set_option maxRecDepth 20000 in
theorem dk_X7_stopgap_3 : dl_X7_stopgap_3.all (fun q => decide (decode cX7_stopgap q.1 = .ok (q.2.1, q.2.2))) = true := dq_all 96 (by decide +kernel)
def dl_X7_stopgap_4 : List (Nat × Instr × Nat) := [(128, .invokevirtual 243, 3), (131, .aload_n 0, 1), (132, .dup, 1), (133, .getfield 55, 3), (136, .iconst 1, 1), (137, .iadd, 1), (138, .putfield 55, 3), (141, .aload_n 0, 1), (142, .getfield 55, 3), (145, .ireturn, 1)]
set_option maxRecDepth 20000 in
theorem dk_X7_stopgap_4 : dl_X7_stopgap_4.all (fun q => decide (decode cX7_stopgap q.1 = .ok (q.2.1, q.2.2))) = true := dq_all 128 (by decide +kernel)
def dl_X7_year_0 : List (Nat × Instr × Nat) := [(0, .iload_n 1, 1), (1, .invokestatic 107, 3), (4, .aload_n 0, 1), (5, .iload_n 1, 1), (6, .invokevirtual 250, 3), (9, .aload_n 0, 1), (10, .getfield 18, 3), (13, .iload_n 1, 1), (14, .aaload, 1), (15, .getfield 376, 3), (18, .ireturn, 1)]
set_option maxRecDepth 20000 in
theorem dk_X7_year_0 : dl_X7_year_0.all (fun q => decide (decode cX7_year q.1 = .ok (q.2.1, q.2.2))) = true := dq_all 0 (by decide +kernel)
def dl_X7_hands_0 : List (Nat × Instr × Nat) := [(0, .aload_n 0, 1), (1, .getfield 78, 3), (4, .invokevirtual 383, 3), (7, .iconst 0, 1), (8, .istore_n 1, 1), (9, .iload_n 1, 1), (10, .bipush 30, 2), (12, .if_icmp .ge 45, 3), (15, .aload_n 0, 1), (16, .getfield 18, 3), (19, .iload_n 1, 1), (20, .aaload, 1), (21, .astore_n 2, 1), (22, .aload_n 2, 1), (23, .invokevirtual 111, 3), (26, .ifCond .eq 25, 3)]
set_option maxRecDepth 20000 in
theorem dk_X7_hands_0 : dl_X7_hands_0.all (fun q => decide (decode cX7_hands q.1 = .ok (q.2.1, q.2.2))) = true := dq_all 0 (by decide +kernel)
def dl_X7_hands_1 : List (Nat × Instr × Nat) := [(29, .aload_n 0, 1), (30, .getfield 78, 3), (33, .aload_n 2, 1), (34, .getfield 376, 3), (37, .invokevirtual 375, 3), (40, .aload_n 0, 1), (41, .getfield 78, 3), (44, .aload_n 2, 1), (45, .getfield 372, 3), (48, .invokevirtual 386, 3), (51, .iinc 1 1, 3), (54, .goto (-45), 3), (57, .aload_n 0, 1), (58, .getfield 78, 3), (61, .invokevirtual 390, 3), (64, .ireturn, 1)]
set_option maxRecDepth 20000 in
theorem dk_X7_hands_1 : dl_X7_hands_1.all (fun q => decide (decode cX7_hands q.1 = .ok (q.2.1, q.2.2))) = true := dq_all 29 (by decide +kernel)
def dl_X7_fits_0 : List (Nat × Instr × Nat) := [(0, .iload_n 1, 1), (1, .invokestatic 107, 3), (4, .aload_n 0, 1), (5, .iload_n 1, 1), (6, .invokevirtual 250, 3), (9, .aload_n 0, 1), (10, .getfield 12, 3), (13, .iload_n 1, 1), (14, .aload_n 0, 1), (15, .getfield 61, 3), (18, .invokevirtual 128, 3), (21, .aload_n 0, 1), (22, .getfield 61, 3), (25, .invokevirtual 219, 3), (28, .aload_n 0, 1), (29, .getfield 18, 3)]
set_option maxRecDepth 20000 in
theorem dk_X7_fits_0 : dl_X7_fits_0.all (fun q => decide (decode cX7_fits q.1 = .ok (q.2.1, q.2.2))) = true := dq_all 0 (by decide +kernel)
def dl_X7_fits_1 : List (Nat × Instr × Nat) := [(32, .iload_n 1, 1), (33, .aaload, 1), (34, .getfield 253, 3), (37, .istore_n 2, 1), (38, .iconst 0, 1), (39, .istore_n 3, 1), (40, .iconst 0, 1), (41, .istore 4, 2), (43, .iload 4, 2), (45, .bipush 30, 2), (47, .if_icmp .ge 84, 3), (50, .iload 4, 2), (52, .iload_n 1, 1), (53, .if_icmp .eq 72, 3), (56, .aload_n 0, 1), (57, .getfield 18, 3)]
set_option maxRecDepth 20000 in
theorem dk_X7_fits_1 : dl_X7_fits_1.all (fun q => decide (decode cX7_fits q.1 = .ok (q.2.1, q.2.2))) = true := dq_all 32 (by decide +kernel)
def dl_X7_fits_2 : List (Nat × Instr × Nat) := [(60, .iload 4, 2), (62, .aaload, 1), (63, .invokevirtual 393, 3), (66, .ifCond .eq 59, 3), (69, .aload_n 0, 1), (70, .getfield 18, 3), (73, .iload 4, 2), (75, .aaload, 1), (76, .getfield 206, 3), (79, .iload_n 2, 1), (80, .if_icmp .ne 45, 3), (83, .aload_n 0, 1), (84, .getfield 12, 3), (87, .iload 4, 2), (89, .aload_n 0, 1), (90, .getfield 65, 3)]
set_option maxRecDepth 20000 in
theorem dk_X7_fits_2 : dl_X7_fits_2.all (fun q => decide (decode cX7_fits q.1 = .ok (q.2.1, q.2.2))) = true := dq_all 60 (by decide +kernel)
def dl_X7_fits_3 : List (Nat × Instr × Nat) := [(93, .invokevirtual 128, 3), (96, .aload_n 0, 1), (97, .getfield 65, 3), (100, .invokevirtual 219, 3), (103, .iload_n 3, 1), (104, .aload_n 0, 1), (105, .getfield 65, 3), (108, .aload_n 0, 1), (109, .getfield 61, 3), (112, .invokevirtual 396, 3), (115, .ifCond .eq 7, 3), (118, .iconst 1, 1), (119, .goto 4, 3), (122, .iconst 0, 1), (123, .iadd, 1), (124, .istore_n 3, 1)]
set_option maxRecDepth 20000 in
theorem dk_X7_fits_3 : dl_X7_fits_3.all (fun q => decide (decode cX7_fits q.1 = .ok (q.2.1, q.2.2))) = true := dq_all 93 (by decide +kernel)
def dl_X7_fits_4 : List (Nat × Instr × Nat) := [(125, .iinc 4 1, 3), (128, .goto (-85), 3), (131, .iload_n 3, 1), (132, .ireturn, 1)]
set_option maxRecDepth 20000 in
theorem dk_X7_fits_4 : dl_X7_fits_4.all (fun q => decide (decode cX7_fits q.1 = .ok (q.2.1, q.2.2))) = true := dq_all 125 (by decide +kernel)
def dl_X7_price_0 : List (Nat × Instr × Nat) := [(0, .iconst 3, 1), (1, .aload_n 0, 1), (2, .getfield 12, 3), (5, .invokevirtual 169, 3), (8, .imul, 1), (9, .bipush 7, 2), (11, .aload_n 0, 1), (12, .getfield 55, 3), (15, .imul, 1), (16, .iadd, 1), (17, .istore_n 1, 1), (18, .iconst 0, 1), (19, .istore_n 2, 1), (20, .iload_n 2, 1), (21, .bipush 30, 2), (23, .if_icmp .ge 43, 3)]
set_option maxRecDepth 20000 in
theorem dk_X7_price_0 : dl_X7_price_0.all (fun q => decide (decode cX7_price q.1 = .ok (q.2.1, q.2.2))) = true := dq_all 0 (by decide +kernel)
def dl_X7_price_1 : List (Nat × Instr × Nat) := [(26, .aload_n 0, 1), (27, .getfield 18, 3), (30, .iload_n 2, 1), (31, .aaload, 1), (32, .astore_n 3, 1), (33, .iload_n 1, 1), (34, .aload_n 3, 1), (35, .invokevirtual 111, 3), (38, .ifCond .eq 7, 3), (41, .iconst 5, 1), (42, .goto 4, 3), (45, .iconst 0, 1), (46, .iadd, 1), (47, .istore_n 1, 1), (48, .iload_n 1, 1), (49, .iconst 2, 1)]
set_option maxRecDepth 20000 in
theorem dk_X7_price_1 : dl_X7_price_1.all (fun q => decide (decode cX7_price q.1 = .ok (q.2.1, q.2.2))) = true := dq_all 26 (by decide +kernel)
def dl_X7_price_2 : List (Nat × Instr × Nat) := [(50, .aload_n 3, 1), (51, .getfield 262, 3), (54, .invokevirtual 299, 3), (57, .imul, 1), (58, .iadd, 1), (59, .istore_n 1, 1), (60, .iinc 2 1, 3), (63, .goto (-43), 3), (66, .iload_n 1, 1), (67, .ireturn, 1)]
set_option maxRecDepth 20000 in
theorem dk_X7_price_2 : dl_X7_price_2.all (fun q => decide (decode cX7_price q.1 = .ok (q.2.1, q.2.2))) = true := dq_all 50 (by decide +kernel)
def dl_X7_checksum_0 : List (Nat × Instr × Nat) := [(0, .ldc2_w 400, 3), (3, .lstore_n 1, 1), (4, .iconst 0, 1), (5, .istore_n 3, 1), (6, .iload_n 3, 1), (7, .bipush 12, 2), (9, .if_icmp .ge 43, 3), (12, .iconst 0, 1), (13, .istore 4, 2), (15, .iload 4, 2), (17, .bipush 12, 2), (19, .if_icmp .ge 27, 3), (22, .ldc2_w 402, 3), (25, .lload_n 1, 1), (26, .lmul, 1), (27, .aload_n 0, 1)]
set_option maxRecDepth 20000 in
theorem dk_X7_checksum_0 : dl_X7_checksum_0.all (fun q => decide (decode cX7_checksum q.1 = .ok (q.2.1, q.2.2))) = true := dq_all 0 (by decide +kernel)
def dl_X7_checksum_1 : List (Nat × Instr × Nat) := [(28, .getfield 12, 3), (31, .iload 4, 2), (33, .iload_n 3, 1), (34, .invokevirtual 99, 3), (37, .i2l, 1), (38, .ladd, 1), (39, .lstore_n 1, 1), (40, .iinc 4 1, 3), (43, .goto (-28), 3), (46, .iinc 3 1, 3), (49, .goto (-43), 3), (52, .iconst 0, 1), (53, .istore_n 3, 1), (54, .iload_n 3, 1), (55, .bipush 30, 2), (57, .if_icmp .ge 46, 3)]
set_option maxRecDepth 20000 in
theorem dk_X7_checksum_1 : dl_X7_checksum_1.all (fun q => decide (decode cX7_checksum q.1 = .ok (q.2.1, q.2.2))) = true := dq_all 28 (by decide +kernel)
def dl_X7_checksum_2 : List (Nat × Instr × Nat) := [(60, .ldc2_w 402, 3), (63, .lload_n 1, 1), (64, .lmul, 1), (65, .aload_n 0, 1), (66, .getfield 18, 3), (69, .iload_n 3, 1), (70, .aaload, 1), (71, .getfield 247, 3), (74, .i2l, 1), (75, .ladd, 1), (76, .lstore_n 1, 1), (77, .ldc2_w 402, 3), (80, .lload_n 1, 1), (81, .lmul, 1), (82, .aload_n 0, 1), (83, .getfield 18, 3)]
set_option maxRecDepth 20000 in
theorem dk_X7_checksum_2 : dl_X7_checksum_2.all (fun q => decide (decode cX7_checksum q.1 = .ok (q.2.1, q.2.2))) = true := dq_all 60 (by decide +kernel)
def dl_X7_checksum_3 : List (Nat × Instr × Nat) := [(86, .iload_n 3, 1), (87, .aaload, 1), (88, .getfield 262, 3), (91, .invokevirtual 299, 3), (94, .i2l, 1), (95, .ladd, 1), (96, .lstore_n 1, 1), (97, .iinc 3 1, 3), (100, .goto (-46), 3), (103, .lload_n 1, 1), (104, .lreturn, 1)]
set_option maxRecDepth 20000 in
theorem dk_X7_checksum_3 : dl_X7_checksum_3.all (fun q => decide (decode cX7_checksum q.1 = .ok (q.2.1, q.2.2))) = true := dq_all 86 (by decide +kernel)
def dl_X7_litShare_0 : List (Nat × Instr × Nat) := [(0, .sipush 144, 3), (3, .aload_n 0, 1), (4, .getfield 12, 3), (7, .bipush (-2), 2), (9, .invokevirtual 120, 3), (12, .isub, 1), (13, .istore_n 1, 1), (14, .iload_n 1, 1), (15, .ifCond .ne 13, 3), (18, .new 404, 3), (21, .dup, 1), (22, .ldc 118, 2), (24, .invokespecial 406, 3), (27, .athrow, 1), (28, .iconst 0, 1), (29, .istore_n 2, 1)]
set_option maxRecDepth 20000 in
theorem dk_X7_litShare_0 : dl_X7_litShare_0.all (fun q => decide (decode cX7_litShare q.1 = .ok (q.2.1, q.2.2))) = true := dq_all 0 (by decide +kernel)
def dl_X7_litShare_1 : List (Nat × Instr × Nat) := [(30, .iconst 0, 1), (31, .istore_n 3, 1), (32, .iload_n 3, 1), (33, .bipush 30, 2), (35, .if_icmp .ge 36, 3), (38, .iload_n 2, 1), (39, .aload_n 0, 1), (40, .getfield 18, 3), (43, .iload_n 3, 1), (44, .aaload, 1), (45, .invokevirtual 111, 3), (48, .ifCond .eq 14, 3), (51, .aload_n 0, 1), (52, .getfield 12, 3), (55, .iload_n 3, 1), (56, .invokevirtual 120, 3)]
set_option maxRecDepth 20000 in
theorem dk_X7_litShare_1 : dl_X7_litShare_1.all (fun q => decide (decode cX7_litShare q.1 = .ok (q.2.1, q.2.2))) = true := dq_all 30 (by decide +kernel)
def dl_X7_litShare_2 : List (Nat × Instr × Nat) := [(59, .goto 4, 3), (62, .iconst 0, 1), (63, .iadd, 1), (64, .istore_n 2, 1), (65, .iinc 3 1, 3), (68, .goto (-36), 3), (71, .iload_n 2, 1), (72, .i2f, 1), (73, .iload_n 1, 1), (74, .i2f, 1), (75, .fdiv, 1), (76, .freturn, 1)]
set_option maxRecDepth 20000 in
theorem dk_X7_litShare_2 : dl_X7_litShare_2.all (fun q => decide (decode cX7_litShare q.1 = .ok (q.2.1, q.2.2))) = true := dq_all 59 (by decide +kernel)
def dl_X7_meanCells_0 : List (Nat × Instr × Nat) := [(0, .aload_n 0, 1), (1, .getfield 12, 3), (4, .invokevirtual 309, 3), (7, .invokestatic 279, 3), (10, .istore_n 1, 1), (11, .iload_n 1, 1), (12, .ifCond .ne 14, 3), (15, .new 404, 3), (18, .dup, 1), (19, .ldc_w 407, 3), (22, .invokespecial 406, 3), (25, .athrow, 1), (26, .sipush 144, 3), (29, .aload_n 0, 1), (30, .getfield 12, 3), (33, .bipush (-2), 2)]
set_option maxRecDepth 20000 in
theorem dk_X7_meanCells_0 : dl_X7_meanCells_0.all (fun q => decide (decode cX7_meanCells q.1 = .ok (q.2.1, q.2.2))) = true := dq_all 0 (by decide +kernel)
def dl_X7_meanCells_1 : List (Nat × Instr × Nat) := [(35, .invokevirtual 120, 3), (38, .isub, 1), (39, .aload_n 0, 1), (40, .getfield 12, 3), (43, .iconst (-1), 1), (44, .invokevirtual 120, 3), (47, .isub, 1), (48, .istore_n 2, 1), (49, .iload_n 2, 1), (50, .i2d, 1), (51, .iload_n 1, 1), (52, .i2d, 1), (53, .ddiv, 1), (54, .dreturn, 1)]
set_option maxRecDepth 20000 in
theorem dk_X7_meanCells_1 : dl_X7_meanCells_1.all (fun q => decide (decode cX7_meanCells q.1 = .ok (q.2.1, q.2.2))) = true := dq_all 35 (by decide +kernel)
def dl_X7_isSound_0 : List (Nat × Instr × Nat) := [(0, .iconst 0, 1), (1, .istore_n 1, 1), (2, .iconst 0, 1), (3, .istore_n 2, 1), (4, .iload_n 2, 1), (5, .aload_n 0, 1), (6, .getfield 35, 3), (9, .if_icmp .ge 21, 3), (12, .iload_n 1, 1), (13, .aload_n 0, 1), (14, .getfield 24, 3), (17, .iload_n 2, 1), (18, .aaload, 1), (19, .invokevirtual 409, 3), (22, .iadd, 1), (23, .istore_n 1, 1)]
set_option maxRecDepth 20000 in
theorem dk_X7_isSound_0 : dl_X7_isSound_0.all (fun q => decide (decode cX7_isSound q.1 = .ok (q.2.1, q.2.2))) = true := dq_all 0 (by decide +kernel)
def dl_X7_isSound_1 : List (Nat × Instr × Nat) := [(24, .iinc 2 1, 3), (27, .goto (-23), 3), (30, .iload_n 1, 1), (31, .aload_n 0, 1), (32, .getfield 39, 3), (35, .if_icmp .eq 5, 3), (38, .iconst 0, 1), (39, .ireturn, 1), (40, .aload_n 0, 1), (41, .getfield 12, 3), (44, .aload_n 0, 1), (45, .getfield 71, 3), (48, .invokevirtual 305, 3), (51, .aload_n 0, 1), (52, .bipush 108, 2), (54, .invokevirtual 286, 3)]
set_option maxRecDepth 20000 in
theorem dk_X7_isSound_1 : dl_X7_isSound_1.all (fun q => decide (decode cX7_isSound q.1 = .ok (q.2.1, q.2.2))) = true := dq_all 24 (by decide +kernel)
def dl_X7_isSound_2 : List (Nat × Instr × Nat) := [(57, .aload_n 0, 1), (58, .bipush 98, 2), (60, .invokevirtual 286, 3), (63, .ior, 1), (64, .istore_n 2, 1), (65, .iconst 0, 1), (66, .istore_n 3, 1), (67, .iload_n 3, 1), (68, .bipush 30, 2), (70, .if_icmp .ge 71, 3), (73, .aload_n 0, 1), (74, .getfield 18, 3), (77, .iload_n 3, 1), (78, .aaload, 1), (79, .astore 4, 2), (81, .aload 4, 2)]
set_option maxRecDepth 20000 in
theorem dk_X7_isSound_2 : dl_X7_isSound_2.all (fun q => decide (decode cX7_isSound q.1 = .ok (q.2.1, q.2.2))) = true := dq_all 57 (by decide +kernel)
def dl_X7_isSound_3 : List (Nat × Instr × Nat) := [(83, .invokevirtual 111, 3), (86, .ifCond .eq 13, 3), (89, .aload_n 0, 1), (90, .iload_n 3, 1), (91, .invokevirtual 412, 3), (94, .ifCond .ne 5, 3), (97, .iconst 0, 1), (98, .ireturn, 1), (99, .aload 4, 2), (101, .getfield 247, 3), (104, .bipush 108, 2), (106, .if_icmp .ne 29, 3), (109, .aload_n 0, 1), (110, .getfield 71, 3), (113, .iload_n 3, 1), (114, .iaload, 1)]
set_option maxRecDepth 20000 in
theorem dk_X7_isSound_3 : dl_X7_isSound_3.all (fun q => decide (decode cX7_isSound q.1 = .ok (q.2.1, q.2.2))) = true := dq_all 83 (by decide +kernel)
def dl_X7_isSound_4 : List (Nat × Instr × Nat) := [(115, .iload_n 2, 1), (116, .iconst (-1), 1), (117, .ixor, 1), (118, .iand, 1), (119, .ifCond .ne 14, 3), (122, .aload 4, 2), (124, .getfield 262, 3), (127, .invokevirtual 296, 3), (130, .ifCond .le 5, 3), (133, .iconst 0, 1), (134, .ireturn, 1), (135, .iinc 3 1, 3), (138, .goto (-71), 3), (141, .iconst 1, 1), (142, .ireturn, 1)]
set_option maxRecDepth 20000 in
theorem dk_X7_isSound_4 : dl_X7_isSound_4.all (fun q => decide (decode cX7_isSound q.1 = .ok (q.2.1, q.2.2))) = true := dq_all 115 (by decide +kernel)
def dl_X7_isWithin_0 : List (Nat × Instr × Nat) := [(0, .iload_n 0, 1), (1, .iload_n 1, 1), (2, .if_icmp .lt 12, 3), (5, .iload_n 0, 1), (6, .iload_n 2, 1), (7, .if_icmp .gt 7, 3), (10, .iconst 1, 1), (11, .goto 4, 3), (14, .iconst 0, 1), (15, .ireturn, 1)]
set_option maxRecDepth 20000 in
theorem dk_X7_isWithin_0 : dl_X7_isWithin_0.all (fun q => decide (decode cX7_isWithin q.1 = .ok (q.2.1, q.2.2))) = true := dq_all 0 (by decide +kernel)
def dl_X7_isInside_0 : List (Nat × Instr × Nat) := [(0, .iload_n 0, 1), (1, .ifCond .lt 23, 3), (4, .iload_n 0, 1), (5, .bipush 12, 2), (7, .if_icmp .ge 17, 3), (10, .iload_n 1, 1), (11, .ifCond .lt 13, 3), (14, .iload_n 1, 1), (15, .bipush 12, 2), (17, .if_icmp .ge 7, 3), (20, .iconst 1, 1), (21, .goto 4, 3), (24, .iconst 0, 1), (25, .ireturn, 1)]
set_option maxRecDepth 20000 in
theorem dk_X7_isInside_0 : dl_X7_isInside_0.all (fun q => decide (decode cX7_isInside q.1 = .ok (q.2.1, q.2.2))) = true := dq_all 0 (by decide +kernel)
def dl_X7_isPiece_0 : List (Nat × Instr × Nat) := [(0, .iload_n 0, 1), (1, .iconst 0, 1), (2, .bipush 29, 2), (4, .invokestatic 179, 3), (7, .ireturn, 1)]
set_option maxRecDepth 20000 in
theorem dk_X7_isPiece_0 : dl_X7_isPiece_0.all (fun q => decide (decode cX7_isPiece q.1 = .ok (q.2.1, q.2.2))) = true := dq_all 0 (by decide +kernel)
def dl_X7_isColour_0 : List (Nat × Instr × Nat) := [(0, .iload_n 0, 1), (1, .ifCond .lt 13, 3), (4, .iload_n 0, 1), (5, .bipush 10, 2), (7, .if_icmp .ge 7, 3), (10, .iconst 1, 1), (11, .goto 4, 3), (14, .iconst 0, 1), (15, .ireturn, 1)]
set_option maxRecDepth 20000 in
theorem dk_X7_isColour_0 : dl_X7_isColour_0.all (fun q => decide (decode cX7_isColour q.1 = .ok (q.2.1, q.2.2))) = true := dq_all 0 (by decide +kernel)
def dl_X7_isDirection_0 : List (Nat × Instr × Nat) := [(0, .iload_n 0, 1), (1, .bipush 104, 2), (3, .if_icmp .eq 9, 3), (6, .iload_n 0, 1), (7, .bipush 118, 2), (9, .if_icmp .ne 7, 3), (12, .iconst 1, 1), (13, .goto 4, 3), (16, .iconst 0, 1), (17, .ireturn, 1)]
set_option maxRecDepth 20000 in
theorem dk_X7_isDirection_0 : dl_X7_isDirection_0.all (fun q => decide (decode cX7_isDirection q.1 = .ok (q.2.1, q.2.2))) = true := dq_all 0 (by decide +kernel)
def dl_X7_requirePiece_0 : List (Nat × Instr × Nat) := [(0, .iload_n 0, 1), (1, .invokestatic 367, 3), (4, .ifCond .ne 14, 3), (7, .new 415, 3), (10, .dup, 1), (11, .ldc_w 417, 3), (14, .invokespecial 419, 3), (17, .athrow, 1), (18, .return_, 1)]
set_option maxRecDepth 20000 in
theorem dk_X7_requirePiece_0 : dl_X7_requirePiece_0.all (fun q => decide (decode cX7_requirePiece q.1 = .ok (q.2.1, q.2.2))) = true := dq_all 0 (by decide +kernel)
def dl_X7_requireSheet_0 : List (Nat × Instr × Nat) := [(0, .iload_n 1, 1), (1, .ifCond .lt 11, 3), (4, .iload_n 1, 1), (5, .aload_n 0, 1), (6, .getfield 35, 3), (9, .if_icmp .lt 13, 3), (12, .new 415, 3), (15, .dup, 1), (16, .ldc 189, 2), (18, .invokespecial 419, 3), (21, .athrow, 1), (22, .return_, 1)]
set_option maxRecDepth 20000 in
theorem dk_X7_requireSheet_0 : dl_X7_requireSheet_0.all (fun q => decide (decode cX7_requireSheet q.1 = .ok (q.2.1, q.2.2))) = true := dq_all 0 (by decide +kernel)
def dl_X7_requireCell_0 : List (Nat × Instr × Nat) := [(0, .iload_n 0, 1), (1, .iload_n 1, 1), (2, .invokestatic 420, 3), (5, .ifCond .ne 14, 3), (8, .new 187, 3), (11, .dup, 1), (12, .ldc_w 424, 3), (15, .invokespecial 191, 3), (18, .athrow, 1), (19, .return_, 1)]
set_option maxRecDepth 20000 in
theorem dk_X7_requireCell_0 : dl_X7_requireCell_0.all (fun q => decide (decode cX7_requireCell q.1 = .ok (q.2.1, q.2.2))) = true := dq_all 0 (by decide +kernel)
def dl_X7_requireCells_0 : List (Nat × Instr × Nat) := [(0, .iload_n 0, 1), (1, .iload_n 1, 1), (2, .invokestatic 420, 3), (5, .ifCond .eq 21, 3), (8, .iload_n 2, 1), (9, .iload_n 3, 1), (10, .invokestatic 420, 3), (13, .ifCond .eq 13, 3), (16, .iload_n 2, 1), (17, .iload_n 0, 1), (18, .if_icmp .lt 8, 3), (21, .iload_n 3, 1), (22, .iload_n 1, 1), (23, .if_icmp .ge 14, 3), (26, .new 187, 3), (29, .dup, 1)]
set_option maxRecDepth 20000 in
theorem dk_X7_requireCells_0 : dl_X7_requireCells_0.all (fun q => decide (decode cX7_requireCells q.1 = .ok (q.2.1, q.2.2))) = true := dq_all 0 (by decide +kernel)
def dl_X7_requireCells_1 : List (Nat × Instr × Nat) := [(30, .ldc_w 426, 3), (33, .invokespecial 191, 3), (36, .athrow, 1), (37, .return_, 1)]
set_option maxRecDepth 20000 in
theorem dk_X7_requireCells_1 : dl_X7_requireCells_1.all (fun q => decide (decode cX7_requireCells q.1 = .ok (q.2.1, q.2.2))) = true := dq_all 30 (by decide +kernel)
def dl_X7_requireGlass_0 : List (Nat × Instr × Nat) := [(0, .iload_n 1, 1), (1, .invokestatic 367, 3), (4, .ifCond .eq 15, 3), (7, .aload_n 0, 1), (8, .getfield 18, 3), (11, .iload_n 1, 1), (12, .aaload, 1), (13, .invokevirtual 111, 3), (16, .ifCond .ne 14, 3), (19, .new 404, 3), (22, .dup, 1), (23, .ldc_w 428, 3), (26, .invokespecial 406, 3), (29, .athrow, 1), (30, .return_, 1)]
set_option maxRecDepth 20000 in
theorem dk_X7_requireGlass_0 : dl_X7_requireGlass_0.all (fun q => decide (decode cX7_requireGlass q.1 = .ok (q.2.1, q.2.2))) = true := dq_all 0 (by decide +kernel)
def dl_X7_yearsUp_0 : List (Nat × Instr × Nat) := [(0, .aload_n 0, 1), (1, .getfield 45, 3), (4, .ifCond .eq 15, 3), (7, .aload_n 0, 1), (8, .getfield 52, 3), (11, .aload_n 0, 1), (12, .getfield 49, 3), (15, .isub, 1), (16, .goto 4, 3), (19, .iconst 0, 1), (20, .ireturn, 1)]
set_option maxRecDepth 20000 in
theorem dk_X7_yearsUp_0 : dl_X7_yearsUp_0.all (fun q => decide (decode cX7_yearsUp q.1 = .ok (q.2.1, q.2.2))) = true := dq_all 0 (by decide +kernel)
def dl_X7_requireNext_0 : List (Nat × Instr × Nat) := [(0, .iconst 0, 1), (1, .istore_n 1, 1), (2, .iconst 0, 1), (3, .istore_n 2, 1), (4, .iload_n 2, 1), (5, .bipush 30, 2), (7, .if_icmp .ge 34, 3), (10, .iload_n 1, 1), (11, .aload_n 0, 1), (12, .getfield 18, 3), (15, .iload_n 2, 1), (16, .aaload, 1), (17, .getfield 262, 3), (20, .invokevirtual 296, 3), (23, .ifCond .le 9, 3), (26, .iconst 1, 1)]
set_option maxRecDepth 20000 in
theorem dk_X7_requireNext_0 : dl_X7_requireNext_0.all (fun q => decide (decode cX7_requireNext q.1 = .ok (q.2.1, q.2.2))) = true := dq_all 0 (by decide +kernel)
def dl_X7_requireNext_1 : List (Nat × Instr × Nat) := [(27, .iload_n 2, 1), (28, .ishl, 1), (29, .goto 4, 3), (32, .iconst 0, 1), (33, .ior, 1), (34, .istore_n 1, 1), (35, .iinc 2 1, 3), (38, .goto (-34), 3), (41, .aload_n 0, 1), (42, .getfield 12, 3), (45, .aload_n 0, 1), (46, .getfield 71, 3), (49, .invokevirtual 305, 3), (52, .aload_n 0, 1), (53, .aload_n 0, 1), (54, .bipush 99, 2)]
set_option maxRecDepth 20000 in
theorem dk_X7_requireNext_1 : dl_X7_requireNext_1.all (fun q => decide (decode cX7_requireNext q.1 = .ok (q.2.1, q.2.2))) = true := dq_all 27 (by decide +kernel)
def dl_X7_requireNext_2 : List (Nat × Instr × Nat) := [(56, .invokevirtual 286, 3), (59, .iload_n 1, 1), (60, .iconst (-1), 1), (61, .ixor, 1), (62, .iand, 1), (63, .aload_n 0, 1), (64, .bipush 108, 2), (66, .invokevirtual 286, 3), (69, .invokevirtual 312, 3), (72, .istore_n 2, 1), (73, .iload_n 2, 1), (74, .ifCond .ge 14, 3), (77, .new 404, 3), (80, .dup, 1), (81, .ldc_w 430, 3), (84, .invokespecial 406, 3)]
set_option maxRecDepth 20000 in
theorem dk_X7_requireNext_2 : dl_X7_requireNext_2.all (fun q => decide (decode cX7_requireNext q.1 = .ok (q.2.1, q.2.2))) = true := dq_all 56 (by decide +kernel)
def dl_X7_requireNext_3 : List (Nat × Instr × Nat) := [(87, .athrow, 1), (88, .iload_n 2, 1), (89, .ireturn, 1)]
set_option maxRecDepth 20000 in
theorem dk_X7_requireNext_3 : dl_X7_requireNext_3.all (fun q => decide (decode cX7_requireNext q.1 = .ok (q.2.1, q.2.2))) = true := dq_all 87 (by decide +kernel)
def dl_X7_lowestFreeOf_0 : List (Nat × Instr × Nat) := [(0, .iconst 0, 1), (1, .istore_n 3, 1), (2, .iload_n 3, 1), (3, .bipush 30, 2), (5, .if_icmp .ge 33, 3), (8, .iload_n 1, 1), (9, .iload_n 3, 1), (10, .ishr, 1), (11, .iconst 1, 1), (12, .iand, 1), (13, .iconst 1, 1), (14, .if_icmp .ne 18, 3), (17, .aload_n 0, 1), (18, .getfield 71, 3), (21, .iload_n 3, 1), (22, .iaload, 1)]
set_option maxRecDepth 20000 in
theorem dk_X7_lowestFreeOf_0 : dl_X7_lowestFreeOf_0.all (fun q => decide (decode cX7_lowestFreeOf q.1 = .ok (q.2.1, q.2.2))) = true := dq_all 0 (by decide +kernel)
def dl_X7_lowestFreeOf_1 : List (Nat × Instr × Nat) := [(23, .iload_n 2, 1), (24, .iconst (-1), 1), (25, .ixor, 1), (26, .iand, 1), (27, .ifCond .ne 5, 3), (30, .iload_n 3, 1), (31, .ireturn, 1), (32, .iinc 3 1, 3), (35, .goto (-33), 3), (38, .iconst (-1), 1), (39, .ireturn, 1)]
set_option maxRecDepth 20000 in
theorem dk_X7_lowestFreeOf_1 : dl_X7_lowestFreeOf_1.all (fun q => decide (decode cX7_lowestFreeOf q.1 = .ok (q.2.1, q.2.2))) = true := dq_all 23 (by decide +kernel)
def dl_X7_panesThatAre_0 : List (Nat × Instr × Nat) := [(0, .iconst 0, 1), (1, .istore_n 2, 1), (2, .iconst 0, 1), (3, .istore_n 3, 1), (4, .iload_n 3, 1), (5, .bipush 30, 2), (7, .if_icmp .ge 32, 3), (10, .iload_n 2, 1), (11, .aload_n 0, 1), (12, .getfield 18, 3), (15, .iload_n 3, 1), (16, .aaload, 1), (17, .getfield 247, 3), (20, .iload_n 1, 1), (21, .if_icmp .ne 9, 3), (24, .iconst 1, 1)]
set_option maxRecDepth 20000 in
theorem dk_X7_panesThatAre_0 : dl_X7_panesThatAre_0.all (fun q => decide (decode cX7_panesThatAre q.1 = .ok (q.2.1, q.2.2))) = true := dq_all 0 (by decide +kernel)
def dl_X7_panesThatAre_1 : List (Nat × Instr × Nat) := [(25, .iload_n 3, 1), (26, .ishl, 1), (27, .goto 4, 3), (30, .iconst 0, 1), (31, .ior, 1), (32, .istore_n 2, 1), (33, .iinc 3 1, 3), (36, .goto (-32), 3), (39, .iload_n 2, 1), (40, .ireturn, 1)]
set_option maxRecDepth 20000 in
theorem dk_X7_panesThatAre_1 : dl_X7_panesThatAre_1.all (fun q => decide (decode cX7_panesThatAre q.1 = .ok (q.2.1, q.2.2))) = true := dq_all 25 (by decide +kernel)
def dl_X7_lowestWithoutCells_0 : List (Nat × Instr × Nat) := [(0, .aload_n 0, 1), (1, .getfield 12, 3), (4, .invokevirtual 309, 3), (7, .istore_n 1, 1), (8, .iconst 0, 1), (9, .istore_n 2, 1), (10, .iload_n 2, 1), (11, .bipush 30, 2), (13, .if_icmp .ge 19, 3), (16, .iload_n 1, 1), (17, .iload_n 2, 1), (18, .ishr, 1), (19, .iconst 1, 1), (20, .iand, 1), (21, .ifCond .ne 5, 3), (24, .iload_n 2, 1)]
set_option maxRecDepth 20000 in
theorem dk_X7_lowestWithoutCells_0 : dl_X7_lowestWithoutCells_0.all (fun q => decide (decode cX7_lowestWithoutCells q.1 = .ok (q.2.1, q.2.2))) = true := dq_all 0 (by decide +kernel)
def dl_X7_lowestWithoutCells_1 : List (Nat × Instr × Nat) := [(25, .ireturn, 1), (26, .iinc 2 1, 3), (29, .goto (-19), 3), (32, .iconst (-1), 1), (33, .ireturn, 1)]
set_option maxRecDepth 20000 in
theorem dk_X7_lowestWithoutCells_1 : dl_X7_lowestWithoutCells_1.all (fun q => decide (decode cX7_lowestWithoutCells q.1 = .ok (q.2.1, q.2.2))) = true := dq_all 25 (by decide +kernel)
def dl_X7_isGlassWithin_0 : List (Nat × Instr × Nat) := [(0, .iload_n 2, 1), (1, .istore 5, 2), (3, .iload 5, 2), (5, .iload 4, 2), (7, .if_icmp .gt 60, 3), (10, .iload_n 1, 1), (11, .istore 6, 2), (13, .iload 6, 2), (15, .iload_n 3, 1), (16, .if_icmp .gt 45, 3), (19, .aload_n 0, 1), (20, .getfield 12, 3), (23, .iload 6, 2), (25, .iload 5, 2), (27, .invokevirtual 99, 3), (30, .istore 7, 2)]
set_option maxRecDepth 20000 in
theorem dk_X7_isGlassWithin_0 : dl_X7_isGlassWithin_0.all (fun q => decide (decode cX7_isGlassWithin q.1 = .ok (q.2.1, q.2.2))) = true := dq_all 0 (by decide +kernel)
def dl_X7_isGlassWithin_1 : List (Nat × Instr × Nat) := [(32, .iload 7, 2), (34, .invokestatic 367, 3), (37, .ifCond .eq 18, 3), (40, .aload_n 0, 1), (41, .getfield 18, 3), (44, .iload 7, 2), (46, .aaload, 1), (47, .invokevirtual 111, 3), (50, .ifCond .eq 5, 3), (53, .iconst 1, 1), (54, .ireturn, 1), (55, .iinc 6 1, 3), (58, .goto (-45), 3), (61, .iinc 5 1, 3), (64, .goto (-61), 3), (67, .iconst 0, 1)]
set_option maxRecDepth 20000 in
theorem dk_X7_isGlassWithin_1 : dl_X7_isGlassWithin_1.all (fun q => decide (decode cX7_isGlassWithin q.1 = .ok (q.2.1, q.2.2))) = true := dq_all 32 (by decide +kernel)
def dl_X7_isGlassWithin_2 : List (Nat × Instr × Nat) := [(68, .ireturn, 1)]
set_option maxRecDepth 20000 in
theorem dk_X7_isGlassWithin_2 : dl_X7_isGlassWithin_2.all (fun q => decide (decode cX7_isGlassWithin q.1 = .ok (q.2.1, q.2.2))) = true := dq_all 68 (by decide +kernel)
def dl_X7_isOpenWithin_0 : List (Nat × Instr × Nat) := [(0, .iload_n 2, 1), (1, .istore 5, 2), (3, .iload 5, 2), (5, .iload 4, 2), (7, .if_icmp .gt 42, 3), (10, .iload_n 1, 1), (11, .istore 6, 2), (13, .iload 6, 2), (15, .iload_n 3, 1), (16, .if_icmp .gt 27, 3), (19, .aload_n 0, 1), (20, .getfield 12, 3), (23, .iload 6, 2), (25, .iload 5, 2), (27, .invokevirtual 99, 3), (30, .bipush (-2), 2)]
set_option maxRecDepth 20000 in
theorem dk_X7_isOpenWithin_0 : dl_X7_isOpenWithin_0.all (fun q => decide (decode cX7_isOpenWithin q.1 = .ok (q.2.1, q.2.2))) = true := dq_all 0 (by decide +kernel)
def dl_X7_isOpenWithin_1 : List (Nat × Instr × Nat) := [(32, .if_icmp .eq 5, 3), (35, .iconst 1, 1), (36, .ireturn, 1), (37, .iinc 6 1, 3), (40, .goto (-27), 3), (43, .iinc 5 1, 3), (46, .goto (-43), 3), (49, .iconst 0, 1), (50, .ireturn, 1)]
set_option maxRecDepth 20000 in
theorem dk_X7_isOpenWithin_1 : dl_X7_isOpenWithin_1.all (fun q => decide (decode cX7_isOpenWithin q.1 = .ok (q.2.1, q.2.2))) = true := dq_all 32 (by decide +kernel)
def dl_X7_take_0 : List (Nat × Instr × Nat) := [(0, .aload_n 1, 1), (1, .aload_n 2, 1), (2, .iload_n 3, 1), (3, .invokevirtual 432, 3), (6, .aload_n 0, 1), (7, .dup, 1), (8, .getfield 39, 3), (11, .aload_n 2, 1), (12, .invokevirtual 435, 3), (15, .iadd, 1), (16, .putfield 39, 3), (19, .return_, 1)]
set_option maxRecDepth 20000 in
theorem dk_X7_take_0 : dl_X7_take_0.all (fun q => decide (decode cX7_take q.1 = .ok (q.2.1, q.2.2))) = true := dq_all 0 (by decide +kernel)
def dl_X7_isCuttable_0 : List (Nat × Instr × Nat) := [(0, .aload_n 0, 1), (1, .getfield 12, 3), (4, .iload_n 1, 1), (5, .aload_n 0, 1), (6, .getfield 61, 3), (9, .invokevirtual 128, 3), (12, .aload_n 0, 1), (13, .getfield 61, 3), (16, .invokevirtual 438, 3), (19, .ifCond .eq 18, 3), (22, .aload_n 0, 1), (23, .getfield 61, 3), (26, .invokevirtual 132, 3), (29, .iconst 2, 1), (30, .if_icmp .gt 7, 3), (33, .iconst 1, 1)]
set_option maxRecDepth 20000 in
theorem dk_X7_isCuttable_0 : dl_X7_isCuttable_0.all (fun q => decide (decode cX7_isCuttable q.1 = .ok (q.2.1, q.2.2))) = true := dq_all 0 (by decide +kernel)
def dl_X7_isCuttable_1 : List (Nat × Instr × Nat) := [(34, .goto 4, 3), (37, .iconst 0, 1), (38, .ireturn, 1)]
set_option maxRecDepth 20000 in
theorem dk_X7_isCuttable_1 : dl_X7_isCuttable_1.all (fun q => decide (decode cX7_isCuttable q.1 = .ok (q.2.1, q.2.2))) = true := dq_all 34 (by decide +kernel)
def dl_X7_brightness_0 : List (Nat × Instr × Nat) := [(0, .aload_n 0, 1), (1, .getfield 12, 3), (4, .iload_n 1, 1), (5, .iload_n 2, 1), (6, .invokevirtual 99, 3), (9, .istore 4, 2), (11, .iload 4, 2), (13, .bipush (-2), 2), (15, .if_icmp .ne 5, 3), (18, .iconst 0, 1), (19, .ireturn, 1), (20, .iload 4, 2), (22, .invokestatic 367, 3), (25, .ifCond .eq 16, 3), (28, .aload_n 0, 1), (29, .getfield 18, 3)]
set_option maxRecDepth 20000 in
theorem dk_X7_brightness_0 : dl_X7_brightness_0.all (fun q => decide (decode cX7_brightness q.1 = .ok (q.2.1, q.2.2))) = true := dq_all 0 (by decide +kernel)
def dl_X7_brightness_1 : List (Nat × Instr × Nat) := [(32, .iload 4, 2), (34, .aaload, 1), (35, .invokevirtual 393, 3), (38, .ifCond .eq 5, 3), (41, .iload_n 3, 1), (42, .ireturn, 1), (43, .aload_n 0, 1), (44, .getfield 18, 3), (47, .iload 4, 2), (49, .aaload, 1), (50, .getfield 253, 3), (53, .istore 5, 2), (55, .iload 5, 2), (57, .ifCond .ne 8, 3), (60, .bipush 100, 2), (62, .goto 11, 3)]
set_option maxRecDepth 20000 in
theorem dk_X7_brightness_1 : dl_X7_brightness_1.all (fun q => decide (decode cX7_brightness q.1 = .ok (q.2.1, q.2.2))) = true := dq_all 32 (by decide +kernel)
def dl_X7_brightness_2 : List (Nat × Instr × Nat) := [(65, .bipush 90, 2), (67, .bipush 8, 2), (69, .iload 5, 2), (71, .imul, 1), (72, .isub, 1), (73, .istore 6, 2), (75, .iconst 0, 1), (76, .iload_n 3, 1), (77, .iload 6, 2), (79, .imul, 1), (80, .bipush 100, 2), (82, .idiv, 1), (83, .bipush 10, 2), (85, .aload_n 0, 1), (86, .getfield 18, 3), (89, .iload 4, 2)]
set_option maxRecDepth 20000 in
theorem dk_X7_brightness_2 : dl_X7_brightness_2.all (fun q => decide (decode cX7_brightness q.1 = .ok (q.2.1, q.2.2))) = true := dq_all 65 (by decide +kernel)
def dl_X7_brightness_3 : List (Nat × Instr × Nat) := [(91, .aaload, 1), (92, .getfield 262, 3), (95, .invokevirtual 299, 3), (98, .imul, 1), (99, .isub, 1), (100, .invokestatic 358, 3), (103, .ireturn, 1)]
set_option maxRecDepth 20000 in
theorem dk_X7_brightness_3 : dl_X7_brightness_3.all (fun q => decide (decode cX7_brightness q.1 = .ok (q.2.1, q.2.2))) = true := dq_all 91 (by decide +kernel)
def dl_X8_init_0 : List (Nat × Instr × Nat) := [(0, .aload_n 0, 1), (1, .invokespecial 1, 3), (4, .aload_n 0, 1), (5, .sipush 144, 3), (8, .newarray .int, 2), (10, .putfield 9, 3), (13, .aload_n 0, 1), (14, .bipush 30, 2), (16, .newarray .int, 2), (18, .putfield 13, 3), (21, .aload_n 0, 1), (22, .bipush 30, 2), (24, .newarray .char, 2), (26, .putfield 16, 3), (29, .aload_n 0, 1), (30, .bipush 30, 2)]
set_option maxRecDepth 20000 in
theorem dk_X8_init_0 : dl_X8_init_0.all (fun q => decide (decode cX8_init q.1 = .ok (q.2.1, q.2.2))) = true := dq_all 0 (by decide +kernel)
def dl_X8_init_1 : List (Nat × Instr × Nat) := [(32, .newarray .char, 2), (34, .putfield 20, 3), (37, .aload_n 0, 1), (38, .bipush 30, 2), (40, .newarray .int, 2), (42, .putfield 23, 3), (45, .aload_n 0, 1), (46, .bipush 30, 2), (48, .newarray .int, 2), (50, .putfield 26, 3), (53, .aload_n 0, 1), (54, .bipush 30, 2), (56, .iconst 5, 1), (57, .multianewarray 29 2, 4), (61, .putfield 31, 3), (64, .aload_n 0, 1)]
set_option maxRecDepth 20000 in
theorem dk_X8_init_1 : dl_X8_init_1.all (fun q => decide (decode cX8_init q.1 = .ok (q.2.1, q.2.2))) = true := by decide +kernel
def dl_X8_init_2 : List (Nat × Instr × Nat) := [(65, .bipush 30, 2), (67, .iconst 5, 1), (68, .multianewarray 34 2, 4), (72, .putfield 36, 3), (75, .aload_n 0, 1), (76, .bipush 30, 2), (78, .newarray .int, 2), (80, .putfield 39, 3), (83, .aload_n 0, 1), (84, .bipush 8, 2), (86, .iconst 3, 1), (87, .multianewarray 42 2, 4), (91, .putfield 44, 3), (94, .aload_n 0, 1), (95, .bipush 8, 2), (97, .newarray .char, 2)]
set_option maxRecDepth 20000 in
theorem dk_X8_init_2 : dl_X8_init_2.all (fun q => decide (decode cX8_init q.1 = .ok (q.2.1, q.2.2))) = true := by decide +kernel
def dl_X8_init_3 : List (Nat × Instr × Nat) := [(99, .putfield 47, 3), (102, .aload_n 0, 1), (103, .bipush 8, 2), (105, .sipush 144, 3), (108, .multianewarray 34 2, 4), (112, .putfield 50, 3), (115, .aload_n 0, 1), (116, .bipush 13, 2), (118, .newarray .boolean, 2), (120, .putfield 53, 3), (123, .aload_n 0, 1), (124, .bipush 30, 2), (126, .sipush 2001, 3), (129, .multianewarray 34 2, 4), (133, .putfield 57, 3), (136, .aload_n 0, 1)]
set_option maxRecDepth 20000 in
theorem dk_X8_init_3 : dl_X8_init_3.all (fun q => decide (decode cX8_init q.1 = .ok (q.2.1, q.2.2))) = true := by decide +kernel
def dl_X8_init_4 : List (Nat × Instr × Nat) := [(137, .iconst 1, 1), (138, .putfield 60, 3), (141, .aload_n 0, 1), (142, .iconst (-1), 1), (143, .putfield 64, 3), (146, .aload_n 0, 1), (147, .lconst 1, 1), (148, .putfield 67, 3), (151, .iconst 0, 1), (152, .istore_n 1, 1), (153, .iload_n 1, 1), (154, .sipush 144, 3), (157, .if_icmp .ge 17, 3), (160, .aload_n 0, 1), (161, .getfield 9, 3), (164, .iload_n 1, 1)]
set_option maxRecDepth 20000 in
theorem dk_X8_init_4 : dl_X8_init_4.all (fun q => decide (decode cX8_init q.1 = .ok (q.2.1, q.2.2))) = true := dq_all 137 (by decide +kernel)
def dl_X8_init_5 : List (Nat × Instr × Nat) := [(165, .bipush (-2), 2), (167, .iastore, 1), (168, .iinc 1 1, 3), (171, .goto (-18), 3), (174, .iconst 0, 1), (175, .istore_n 1, 1), (176, .iload_n 1, 1), (177, .bipush 30, 2), (179, .if_icmp .ge 25, 3), (182, .aload_n 0, 1), (183, .getfield 16, 3), (186, .iload_n 1, 1), (187, .bipush 45, 2), (189, .castore, 1), (190, .aload_n 0, 1), (191, .getfield 20, 3)]
set_option maxRecDepth 20000 in
theorem dk_X8_init_5 : dl_X8_init_5.all (fun q => decide (decode cX8_init q.1 = .ok (q.2.1, q.2.2))) = true := dq_all 165 (by decide +kernel)
def dl_X8_init_6 : List (Nat × Instr × Nat) := [(194, .iload_n 1, 1), (195, .bipush 45, 2), (197, .castore, 1), (198, .iinc 1 1, 3), (201, .goto (-25), 3), (204, .return_, 1)]
set_option maxRecDepth 20000 in
theorem dk_X8_init_6 : dl_X8_init_6.all (fun q => decide (decode cX8_init q.1 = .ok (q.2.1, q.2.2))) = true := dq_all 194 (by decide +kernel)
def dl_X8_thrown_0 : List (Nat × Instr × Nat) := [(0, .aload_n 0, 1), (1, .getfield 71, 3), (4, .ireturn, 1)]
set_option maxRecDepth 20000 in
theorem dk_X8_thrown_0 : dl_X8_thrown_0.all (fun q => decide (decode cX8_thrown q.1 = .ok (q.2.1, q.2.2))) = true := dq_all 0 (by decide +kernel)
def dl_X8_isThrown_0 : List (Nat × Instr × Nat) := [(0, .aload_n 0, 1), (1, .iload_n 1, 1), (2, .ifCond .eq 7, 3), (5, .iload_n 2, 1), (6, .goto 4, 3), (9, .iconst 0, 1), (10, .putfield 71, 3), (13, .iload_n 1, 1), (14, .ireturn, 1)]
set_option maxRecDepth 20000 in
theorem dk_X8_isThrown_0 : dl_X8_isThrown_0.all (fun q => decide (decode cX8_isThrown q.1 = .ok (q.2.1, q.2.2))) = true := dq_all 0 (by decide +kernel)
def dl_X8_isIn_0 : List (Nat × Instr × Nat) := [(0, .iload_n 0, 1), (1, .iload_n 1, 1), (2, .if_icmp .lt 12, 3), (5, .iload_n 0, 1), (6, .iload_n 2, 1), (7, .if_icmp .gt 7, 3), (10, .iconst 1, 1), (11, .goto 4, 3), (14, .iconst 0, 1), (15, .ireturn, 1)]
set_option maxRecDepth 20000 in
theorem dk_X8_isIn_0 : dl_X8_isIn_0.all (fun q => decide (decode cX8_isIn q.1 = .ok (q.2.1, q.2.2))) = true := dq_all 0 (by decide +kernel)
def dl_X8_isUpNow_0 : List (Nat × Instr × Nat) := [(0, .aload_n 0, 1), (1, .getfield 64, 3), (4, .iconst (-1), 1), (5, .if_icmp .eq 7, 3), (8, .iconst 1, 1), (9, .goto 4, 3), (12, .iconst 0, 1), (13, .ireturn, 1)]
set_option maxRecDepth 20000 in
theorem dk_X8_isUpNow_0 : dl_X8_isUpNow_0.all (fun q => decide (decode cX8_isUpNow q.1 = .ok (q.2.1, q.2.2))) = true := dq_all 0 (by decide +kernel)
def dl_X8_hasGlass_0 : List (Nat × Instr × Nat) := [(0, .iload_n 1, 1), (1, .ifCond .lt 18, 3), (4, .aload_n 0, 1), (5, .getfield 20, 3), (8, .iload_n 1, 1), (9, .caload, 1), (10, .bipush 45, 2), (12, .if_icmp .eq 7, 3), (15, .iconst 1, 1), (16, .goto 4, 3), (19, .iconst 0, 1), (20, .ireturn, 1)]
set_option maxRecDepth 20000 in
theorem dk_X8_hasGlass_0 : dl_X8_hasGlass_0.all (fun q => decide (decode cX8_hasGlass q.1 = .ok (q.2.1, q.2.2))) = true := dq_all 0 (by decide +kernel)
def dl_X8_isOf_0 : List (Nat × Instr × Nat) := [(0, .iload_n 0, 1), (1, .iconst 0, 1), (2, .bipush 11, 2), (4, .invokestatic 74, 3), (7, .ifCond .eq 17, 3), (10, .iload_n 1, 1), (11, .iconst 0, 1), (12, .bipush 11, 2), (14, .invokestatic 74, 3), (17, .ifCond .eq 7, 3), (20, .iconst 1, 1), (21, .goto 4, 3), (24, .iconst 0, 1), (25, .ireturn, 1)]
set_option maxRecDepth 20000 in
theorem dk_X8_isOf_0 : dl_X8_isOf_0.all (fun q => decide (decode cX8_isOf q.1 = .ok (q.2.1, q.2.2))) = true := dq_all 0 (by decide +kernel)
def dl_X8_at_0 : List (Nat × Instr × Nat) := [(0, .iload_n 1, 1), (1, .iload_n 2, 1), (2, .invokestatic 78, 3), (5, .ifCond .eq 17, 3), (8, .aload_n 0, 1), (9, .getfield 9, 3), (12, .bipush 12, 2), (14, .iload_n 2, 1), (15, .imul, 1), (16, .iload_n 1, 1), (17, .iadd, 1), (18, .iaload, 1), (19, .goto 5, 3), (22, .bipush (-2), 2), (24, .ireturn, 1)]
set_option maxRecDepth 20000 in
theorem dk_X8_at_0 : dl_X8_at_0.all (fun q => decide (decode cX8_at q.1 = .ok (q.2.1, q.2.2))) = true := dq_all 0 (by decide +kernel)
def dl_X8_isNoRange_0 : List (Nat × Instr × Nat) := [(0, .iload_n 0, 1), (1, .iload_n 1, 1), (2, .invokestatic 78, 3), (5, .ifCond .eq 21, 3), (8, .iload_n 2, 1), (9, .iload_n 3, 1), (10, .invokestatic 78, 3), (13, .ifCond .eq 13, 3), (16, .iload_n 2, 1), (17, .iload_n 0, 1), (18, .if_icmp .lt 8, 3), (21, .iload_n 3, 1), (22, .iload_n 1, 1), (23, .if_icmp .ge 7, 3), (26, .iconst 1, 1), (27, .goto 4, 3)]
set_option maxRecDepth 20000 in
theorem dk_X8_isNoRange_0 : dl_X8_isNoRange_0.all (fun q => decide (decode cX8_isNoRange q.1 = .ok (q.2.1, q.2.2))) = true := dq_all 0 (by decide +kernel)
def dl_X8_isNoRange_1 : List (Nat × Instr × Nat) := [(30, .iconst 0, 1), (31, .ireturn, 1)]
set_option maxRecDepth 20000 in
theorem dk_X8_isNoRange_1 : dl_X8_isNoRange_1.all (fun q => decide (decode cX8_isNoRange q.1 = .ok (q.2.1, q.2.2))) = true := dq_all 30 (by decide +kernel)
def dl_X8_isNoPiece_0 : List (Nat × Instr × Nat) := [(0, .iload_n 0, 1), (1, .iconst 0, 1), (2, .bipush 29, 2), (4, .invokestatic 74, 3), (7, .ifCond .ne 7, 3), (10, .iconst 1, 1), (11, .goto 4, 3), (14, .iconst 0, 1), (15, .ireturn, 1)]
set_option maxRecDepth 20000 in
theorem dk_X8_isNoPiece_0 : dl_X8_isNoPiece_0.all (fun q => decide (decode cX8_isNoPiece q.1 = .ok (q.2.1, q.2.2))) = true := dq_all 0 (by decide +kernel)
def dl_X8_open_0 : List (Nat × Instr × Nat) := [(0, .aload_n 0, 1), (1, .iload_n 1, 1), (2, .iload_n 2, 1), (3, .iload_n 3, 1), (4, .iload 4, 2), (6, .invokestatic 82, 3), (9, .iconst 1, 1), (10, .invokevirtual 86, 3), (13, .ifCond .eq 5, 3), (16, .iconst 0, 1), (17, .ireturn, 1), (18, .aload_n 0, 1), (19, .invokevirtual 90, 3), (22, .istore 6, 2), (24, .iconst 0, 1), (25, .istore 7, 2)]
set_option maxRecDepth 20000 in
theorem dk_X8_open_0 : dl_X8_open_0.all (fun q => decide (decode cX8_open q.1 = .ok (q.2.1, q.2.2))) = true := dq_all 0 (by decide +kernel)
def dl_X8_open_1 : List (Nat × Instr × Nat) := [(27, .iload_n 2, 1), (28, .istore 8, 2), (30, .iload 8, 2), (32, .iload 4, 2), (34, .if_icmp .gt 74, 3), (37, .iload_n 1, 1), (38, .istore 9, 2), (40, .iload 9, 2), (42, .iload_n 3, 1), (43, .if_icmp .gt 59, 3), (46, .iload 6, 2), (48, .aload_n 0, 1), (49, .aload_n 0, 1), (50, .iload 9, 2), (52, .iload 8, 2), (54, .invokevirtual 94, 3)]
set_option maxRecDepth 20000 in
theorem dk_X8_open_1 : dl_X8_open_1.all (fun q => decide (decode cX8_open q.1 = .ok (q.2.1, q.2.2))) = true := dq_all 27 (by decide +kernel)
def dl_X8_open_2 : List (Nat × Instr × Nat) := [(57, .invokevirtual 98, 3), (60, .ior, 1), (61, .istore 6, 2), (63, .iload 7, 2), (65, .aload_n 0, 1), (66, .iload 9, 2), (68, .iload 8, 2), (70, .invokevirtual 94, 3), (73, .bipush (-2), 2), (75, .if_icmp .eq 7, 3), (78, .iconst 1, 1), (79, .goto 4, 3), (82, .iconst 0, 1), (83, .iload 5, 2), (85, .if_icmp .ne 7, 3), (88, .iconst 0, 1)]
set_option maxRecDepth 20000 in
theorem dk_X8_open_2 : dl_X8_open_2.all (fun q => decide (decode cX8_open q.1 = .ok (q.2.1, q.2.2))) = true := dq_all 57 (by decide +kernel)
def dl_X8_open_3 : List (Nat × Instr × Nat) := [(89, .goto 4, 3), (92, .iconst 1, 1), (93, .iadd, 1), (94, .istore 7, 2), (96, .iinc 9 1, 3), (99, .goto (-59), 3), (102, .iinc 8 1, 3), (105, .goto (-75), 3), (108, .aload_n 0, 1), (109, .iload 6, 2), (111, .iconst 2, 1), (112, .invokevirtual 86, 3), (115, .ifCond .eq 5, 3), (118, .iconst 0, 1), (119, .ireturn, 1), (120, .iload_n 2, 1)]
set_option maxRecDepth 20000 in
theorem dk_X8_open_3 : dl_X8_open_3.all (fun q => decide (decode cX8_open q.1 = .ok (q.2.1, q.2.2))) = true := dq_all 89 (by decide +kernel)
def dl_X8_open_4 : List (Nat × Instr × Nat) := [(121, .istore 8, 2), (123, .iload 8, 2), (125, .iload 4, 2), (127, .if_icmp .gt 84, 3), (130, .iload_n 1, 1), (131, .istore 9, 2), (133, .iload 9, 2), (135, .iload_n 3, 1), (136, .if_icmp .gt 69, 3), (139, .aload_n 0, 1), (140, .iload 9, 2), (142, .iload 8, 2), (144, .invokevirtual 94, 3), (147, .bipush (-2), 2), (149, .if_icmp .eq 7, 3), (152, .iconst 1, 1)]
set_option maxRecDepth 20000 in
theorem dk_X8_open_4 : dl_X8_open_4.all (fun q => decide (decode cX8_open q.1 = .ok (q.2.1, q.2.2))) = true := dq_all 121 (by decide +kernel)
def dl_X8_open_5 : List (Nat × Instr × Nat) := [(153, .goto 4, 3), (156, .iconst 0, 1), (157, .istore 10, 2), (159, .aload_n 0, 1), (160, .getfield 9, 3), (163, .bipush 12, 2), (165, .iload 8, 2), (167, .imul, 1), (168, .iload 9, 2), (170, .iadd, 1), (171, .iload 5, 2), (173, .ifCond .ne 8, 3), (176, .bipush (-2), 2), (178, .goto 20, 3), (181, .iload 10, 2), (183, .ifCond .eq 14, 3)]
set_option maxRecDepth 20000 in
theorem dk_X8_open_5 : dl_X8_open_5.all (fun q => decide (decode cX8_open q.1 = .ok (q.2.1, q.2.2))) = true := dq_all 153 (by decide +kernel)
def dl_X8_open_6 : List (Nat × Instr × Nat) := [(186, .aload_n 0, 1), (187, .iload 9, 2), (189, .iload 8, 2), (191, .invokevirtual 94, 3), (194, .goto 4, 3), (197, .iconst (-1), 1), (198, .iastore, 1), (199, .iinc 9 1, 3), (202, .goto (-69), 3), (205, .iinc 8 1, 3), (208, .goto (-85), 3), (211, .iload 7, 2), (213, .ireturn, 1)]
set_option maxRecDepth 20000 in
theorem dk_X8_open_6 : dl_X8_open_6.all (fun q => decide (decode cX8_open q.1 = .ok (q.2.1, q.2.2))) = true := dq_all 186 (by decide +kernel)
def dl_X8_lay_0 : List (Nat × Instr × Nat) := [(0, .aload_n 0, 1), (1, .iload_n 1, 1), (2, .invokestatic 102, 3), (5, .iconst 1, 1), (6, .invokevirtual 86, 3), (9, .ifCond .ne 20, 3), (12, .aload_n 0, 1), (13, .iload_n 2, 1), (14, .iload_n 3, 1), (15, .iload 4, 2), (17, .iload 5, 2), (19, .invokestatic 82, 3), (22, .iconst 2, 1), (23, .invokevirtual 86, 3), (26, .ifCond .eq 5, 3), (29, .iconst 0, 1)]
set_option maxRecDepth 20000 in
theorem dk_X8_lay_0 : dl_X8_lay_0.all (fun q => decide (decode cX8_lay q.1 = .ok (q.2.1, q.2.2))) = true := dq_all 0 (by decide +kernel)
def dl_X8_lay_1 : List (Nat × Instr × Nat) := [(30, .ireturn, 1), (31, .aload_n 0, 1), (32, .invokevirtual 90, 3), (35, .ifCond .ne 11, 3), (38, .aload_n 0, 1), (39, .iload_n 1, 1), (40, .invokevirtual 98, 3), (43, .ifCond .eq 7, 3), (46, .iconst 1, 1), (47, .goto 4, 3), (50, .iconst 0, 1), (51, .istore 6, 2), (53, .iconst 0, 1), (54, .istore 7, 2), (56, .iload_n 3, 1), (57, .istore 8, 2)]
set_option maxRecDepth 20000 in
theorem dk_X8_lay_1 : dl_X8_lay_1.all (fun q => decide (decode cX8_lay q.1 = .ok (q.2.1, q.2.2))) = true := dq_all 30 (by decide +kernel)
def dl_X8_lay_2 : List (Nat × Instr × Nat) := [(59, .iload 8, 2), (61, .iload 5, 2), (63, .if_icmp .gt 65, 3), (66, .iload_n 2, 1), (67, .istore 9, 2), (69, .iload 9, 2), (71, .iload 4, 2), (73, .if_icmp .gt 49, 3), (76, .iload 6, 2), (78, .aload_n 0, 1), (79, .aload_n 0, 1), (80, .iload 9, 2), (82, .iload 8, 2), (84, .invokevirtual 94, 3), (87, .invokevirtual 98, 3), (90, .ior, 1)]
set_option maxRecDepth 20000 in
theorem dk_X8_lay_2 : dl_X8_lay_2.all (fun q => decide (decode cX8_lay q.1 = .ok (q.2.1, q.2.2))) = true := dq_all 59 (by decide +kernel)
def dl_X8_lay_3 : List (Nat × Instr × Nat) := [(91, .istore 6, 2), (93, .iload 7, 2), (95, .aload_n 0, 1), (96, .iload 9, 2), (98, .iload 8, 2), (100, .invokevirtual 94, 3), (103, .bipush (-2), 2), (105, .if_icmp .eq 7, 3), (108, .iconst 1, 1), (109, .goto 4, 3), (112, .iconst 0, 1), (113, .ior, 1), (114, .istore 7, 2), (116, .iinc 9 1, 3), (119, .goto (-50), 3), (122, .iinc 8 1, 3)]
set_option maxRecDepth 20000 in
theorem dk_X8_lay_3 : dl_X8_lay_3.all (fun q => decide (decode cX8_lay q.1 = .ok (q.2.1, q.2.2))) = true := dq_all 91 (by decide +kernel)
def dl_X8_lay_4 : List (Nat × Instr × Nat) := [(125, .goto (-66), 3), (128, .aload_n 0, 1), (129, .iload 6, 2), (131, .ifCond .ne 8, 3), (134, .iload 7, 2), (136, .ifCond .ne 7, 3), (139, .iconst 1, 1), (140, .goto 4, 3), (143, .iconst 0, 1), (144, .iconst 3, 1), (145, .invokevirtual 86, 3), (148, .ifCond .eq 5, 3), (151, .iconst 0, 1), (152, .ireturn, 1), (153, .iload_n 3, 1), (154, .istore 8, 2)]
set_option maxRecDepth 20000 in
theorem dk_X8_lay_4 : dl_X8_lay_4.all (fun q => decide (decode cX8_lay q.1 = .ok (q.2.1, q.2.2))) = true := dq_all 125 (by decide +kernel)
def dl_X8_lay_5 : List (Nat × Instr × Nat) := [(156, .iload 8, 2), (158, .iload 5, 2), (160, .if_icmp .gt 57, 3), (163, .iload_n 2, 1), (164, .istore 9, 2), (166, .iload 9, 2), (168, .iload 4, 2), (170, .if_icmp .gt 41, 3), (173, .aload_n 0, 1), (174, .getfield 9, 3), (177, .bipush 12, 2), (179, .iload 8, 2), (181, .imul, 1), (182, .iload 9, 2), (184, .iadd, 1), (185, .aload_n 0, 1)]
set_option maxRecDepth 20000 in
theorem dk_X8_lay_5 : dl_X8_lay_5.all (fun q => decide (decode cX8_lay q.1 = .ok (q.2.1, q.2.2))) = true := dq_all 156 (by decide +kernel)
def dl_X8_lay_6 : List (Nat × Instr × Nat) := [(186, .iload 9, 2), (188, .iload 8, 2), (190, .invokevirtual 94, 3), (193, .bipush (-2), 2), (195, .if_icmp .ne 8, 3), (198, .bipush (-2), 2), (200, .goto 4, 3), (203, .iload_n 1, 1), (204, .iastore, 1), (205, .iinc 9 1, 3), (208, .goto (-42), 3), (211, .iinc 8 1, 3), (214, .goto (-58), 3), (217, .aload_n 0, 1), (218, .iload_n 1, 1), (219, .invokevirtual 105, 3)]
set_option maxRecDepth 20000 in
theorem dk_X8_lay_6 : dl_X8_lay_6.all (fun q => decide (decode cX8_lay q.1 = .ok (q.2.1, q.2.2))) = true := dq_all 186 (by decide +kernel)
def dl_X8_lay_7 : List (Nat × Instr × Nat) := [(222, .ireturn, 1)]
set_option maxRecDepth 20000 in
theorem dk_X8_lay_7 : dl_X8_lay_7.all (fun q => decide (decode cX8_lay q.1 = .ok (q.2.1, q.2.2))) = true := dq_all 222 (by decide +kernel)
def dl_X8_pieceAt_0 : List (Nat × Instr × Nat) := [(0, .aload_n 0, 1), (1, .iload_n 1, 1), (2, .iload_n 2, 1), (3, .invokestatic 78, 3), (6, .ifCond .ne 7, 3), (9, .iconst 1, 1), (10, .goto 4, 3), (13, .iconst 0, 1), (14, .iconst 1, 1), (15, .invokevirtual 86, 3), (18, .ifCond .eq 7, 3), (21, .iconst 0, 1), (22, .goto 9, 3), (25, .aload_n 0, 1), (26, .iload_n 1, 1), (27, .iload_n 2, 1)]
set_option maxRecDepth 20000 in
theorem dk_X8_pieceAt_0 : dl_X8_pieceAt_0.all (fun q => decide (decode cX8_pieceAt q.1 = .ok (q.2.1, q.2.2))) = true := dq_all 0 (by decide +kernel)
def dl_X8_pieceAt_1 : List (Nat × Instr × Nat) := [(28, .invokevirtual 94, 3), (31, .ireturn, 1)]
set_option maxRecDepth 20000 in
theorem dk_X8_pieceAt_1 : dl_X8_pieceAt_1.all (fun q => decide (decode cX8_pieceAt q.1 = .ok (q.2.1, q.2.2))) = true := dq_all 28 (by decide +kernel)
def dl_X8_sizeOf_0 : List (Nat × Instr × Nat) := [(0, .iconst 0, 1), (1, .istore_n 2, 1), (2, .aload_n 0, 1), (3, .getfield 9, 3), (6, .astore_n 3, 1), (7, .aload_n 3, 1), (8, .arraylength, 1), (9, .istore 4, 2), (11, .iconst 0, 1), (12, .istore 5, 2), (14, .iload 5, 2), (16, .iload 4, 2), (18, .if_icmp .ge 29, 3), (21, .aload_n 3, 1), (22, .iload 5, 2), (24, .iaload, 1)]
set_option maxRecDepth 20000 in
theorem dk_X8_sizeOf_0 : dl_X8_sizeOf_0.all (fun q => decide (decode cX8_sizeOf q.1 = .ok (q.2.1, q.2.2))) = true := dq_all 0 (by decide +kernel)
def dl_X8_sizeOf_1 : List (Nat × Instr × Nat) := [(25, .istore 6, 2), (27, .iload_n 2, 1), (28, .iload 6, 2), (30, .iload_n 1, 1), (31, .if_icmp .ne 7, 3), (34, .iconst 1, 1), (35, .goto 4, 3), (38, .iconst 0, 1), (39, .iadd, 1), (40, .istore_n 2, 1), (41, .iinc 5 1, 3), (44, .goto (-30), 3), (47, .iload_n 2, 1), (48, .ireturn, 1)]
set_option maxRecDepth 20000 in
theorem dk_X8_sizeOf_1 : dl_X8_sizeOf_1.all (fun q => decide (decode cX8_sizeOf q.1 = .ok (q.2.1, q.2.2))) = true := dq_all 25 (by decide +kernel)
def dl_X8_size_0 : List (Nat × Instr × Nat) := [(0, .aload_n 0, 1), (1, .iload_n 1, 1), (2, .invokestatic 102, 3), (5, .iconst 1, 1), (6, .invokevirtual 86, 3), (9, .ifCond .eq 7, 3), (12, .iconst 0, 1), (13, .goto 8, 3), (16, .aload_n 0, 1), (17, .iload_n 1, 1), (18, .invokevirtual 105, 3), (21, .ireturn, 1)]
set_option maxRecDepth 20000 in
theorem dk_X8_size_0 : dl_X8_size_0.all (fun q => decide (decode cX8_size q.1 = .ok (q.2.1, q.2.2))) = true := dq_all 0 (by decide +kernel)
def dl_X8_shapeOf_0 : List (Nat × Instr × Nat) := [(0, .sipush 144, 3), (3, .newarray .boolean, 2), (5, .astore_n 2, 1), (6, .iconst 0, 1), (7, .istore_n 3, 1), (8, .iload_n 3, 1), (9, .sipush 144, 3), (12, .if_icmp .ge 27, 3), (15, .aload_n 2, 1), (16, .iload_n 3, 1), (17, .aload_n 0, 1), (18, .getfield 9, 3), (21, .iload_n 3, 1), (22, .iaload, 1), (23, .iload_n 1, 1), (24, .if_icmp .ne 7, 3)]
set_option maxRecDepth 20000 in
theorem dk_X8_shapeOf_0 : dl_X8_shapeOf_0.all (fun q => decide (decode cX8_shapeOf q.1 = .ok (q.2.1, q.2.2))) = true := dq_all 0 (by decide +kernel)
def dl_X8_shapeOf_1 : List (Nat × Instr × Nat) := [(27, .iconst 1, 1), (28, .goto 4, 3), (31, .iconst 0, 1), (32, .bastore, 1), (33, .iinc 3 1, 3), (36, .goto (-28), 3), (39, .aload_n 2, 1), (40, .areturn, 1)]
set_option maxRecDepth 20000 in
theorem dk_X8_shapeOf_1 : dl_X8_shapeOf_1.all (fun q => decide (decode cX8_shapeOf q.1 = .ok (q.2.1, q.2.2))) = true := dq_all 27 (by decide +kernel)
def dl_X8_is_0 : List (Nat × Instr × Nat) := [(0, .iload_n 1, 1), (1, .iload_n 2, 1), (2, .invokestatic 78, 3), (5, .ifCond .eq 18, 3), (8, .aload_n 0, 1), (9, .bipush 12, 2), (11, .iload_n 2, 1), (12, .imul, 1), (13, .iload_n 1, 1), (14, .iadd, 1), (15, .baload, 1), (16, .ifCond .eq 7, 3), (19, .iconst 1, 1), (20, .goto 4, 3), (23, .iconst 0, 1), (24, .ireturn, 1)]
set_option maxRecDepth 20000 in
theorem dk_X8_is_0 : dl_X8_is_0.all (fun q => decide (decode cX8_is q.1 = .ok (q.2.1, q.2.2))) = true := dq_all 0 (by decide +kernel)
def dl_X8_many_0 : List (Nat × Instr × Nat) := [(0, .iconst 0, 1), (1, .istore_n 1, 1), (2, .aload_n 0, 1), (3, .astore_n 2, 1), (4, .aload_n 2, 1), (5, .arraylength, 1), (6, .istore_n 3, 1), (7, .iconst 0, 1), (8, .istore 4, 2), (10, .iload 4, 2), (12, .iload_n 3, 1), (13, .if_icmp .ge 28, 3), (16, .aload_n 2, 1), (17, .iload 4, 2), (19, .baload, 1), (20, .istore 5, 2)]
set_option maxRecDepth 20000 in
theorem dk_X8_many_0 : dl_X8_many_0.all (fun q => decide (decode cX8_many q.1 = .ok (q.2.1, q.2.2))) = true := dq_all 0 (by decide +kernel)
def dl_X8_many_1 : List (Nat × Instr × Nat) := [(22, .iload_n 1, 1), (23, .iload 5, 2), (25, .ifCond .eq 7, 3), (28, .iconst 1, 1), (29, .goto 4, 3), (32, .iconst 0, 1), (33, .iadd, 1), (34, .istore_n 1, 1), (35, .iinc 4 1, 3), (38, .goto (-28), 3), (41, .iload_n 1, 1), (42, .ireturn, 1)]
set_option maxRecDepth 20000 in
theorem dk_X8_many_1 : dl_X8_many_1.all (fun q => decide (decode cX8_many q.1 = .ok (q.2.1, q.2.2))) = true := dq_all 22 (by decide +kernel)
def dl_X8_cornersOf_0 : List (Nat × Instr × Nat) := [(0, .iconst 0, 1), (1, .istore_n 1, 1), (2, .iconst 0, 1), (3, .istore_n 2, 1), (4, .iload_n 2, 1), (5, .bipush 12, 2), (7, .if_icmp .gt 106, 3), (10, .iconst 0, 1), (11, .istore_n 3, 1), (12, .iload_n 3, 1), (13, .bipush 12, 2), (15, .if_icmp .gt 92, 3), (18, .aload_n 0, 1), (19, .iload_n 3, 1), (20, .iload_n 2, 1), (21, .invokestatic 109, 3)]
set_option maxRecDepth 20000 in
theorem dk_X8_cornersOf_0 : dl_X8_cornersOf_0.all (fun q => decide (decode cX8_cornersOf q.1 = .ok (q.2.1, q.2.2))) = true := dq_all 0 (by decide +kernel)
def dl_X8_cornersOf_1 : List (Nat × Instr × Nat) := [(24, .ifCond .eq 7, 3), (27, .iconst 1, 1), (28, .goto 4, 3), (31, .iconst 0, 1), (32, .aload_n 0, 1), (33, .iload_n 3, 1), (34, .iconst 1, 1), (35, .isub, 1), (36, .iload_n 2, 1), (37, .invokestatic 109, 3), (40, .ifCond .eq 7, 3), (43, .iconst 1, 1), (44, .goto 4, 3), (47, .iconst 0, 1), (48, .iadd, 1), (49, .aload_n 0, 1)]
set_option maxRecDepth 20000 in
theorem dk_X8_cornersOf_1 : dl_X8_cornersOf_1.all (fun q => decide (decode cX8_cornersOf q.1 = .ok (q.2.1, q.2.2))) = true := dq_all 24 (by decide +kernel)
def dl_X8_cornersOf_2 : List (Nat × Instr × Nat) := [(50, .iload_n 3, 1), (51, .iload_n 2, 1), (52, .iconst 1, 1), (53, .isub, 1), (54, .invokestatic 109, 3), (57, .ifCond .eq 7, 3), (60, .iconst 1, 1), (61, .goto 4, 3), (64, .iconst 0, 1), (65, .iadd, 1), (66, .aload_n 0, 1), (67, .iload_n 3, 1), (68, .iconst 1, 1), (69, .isub, 1), (70, .iload_n 2, 1), (71, .iconst 1, 1)]
set_option maxRecDepth 20000 in
theorem dk_X8_cornersOf_2 : dl_X8_cornersOf_2.all (fun q => decide (decode cX8_cornersOf q.1 = .ok (q.2.1, q.2.2))) = true := dq_all 50 (by decide +kernel)
def dl_X8_cornersOf_3 : List (Nat × Instr × Nat) := [(72, .isub, 1), (73, .invokestatic 109, 3), (76, .ifCond .eq 7, 3), (79, .iconst 1, 1), (80, .goto 4, 3), (83, .iconst 0, 1), (84, .iadd, 1), (85, .istore 4, 2), (87, .iload_n 1, 1), (88, .iload 4, 2), (90, .iconst 3, 1), (91, .if_icmp .ne 7, 3), (94, .iconst 1, 1), (95, .goto 4, 3), (98, .iconst 0, 1), (99, .iadd, 1)]
set_option maxRecDepth 20000 in
theorem dk_X8_cornersOf_3 : dl_X8_cornersOf_3.all (fun q => decide (decode cX8_cornersOf q.1 = .ok (q.2.1, q.2.2))) = true := dq_all 72 (by decide +kernel)
def dl_X8_cornersOf_4 : List (Nat × Instr × Nat) := [(100, .istore_n 1, 1), (101, .iinc 3 1, 3), (104, .goto (-92), 3), (107, .iinc 2 1, 3), (110, .goto (-106), 3), (113, .iload_n 1, 1), (114, .ireturn, 1)]
set_option maxRecDepth 20000 in
theorem dk_X8_cornersOf_4 : dl_X8_cornersOf_4.all (fun q => decide (decode cX8_cornersOf q.1 = .ok (q.2.1, q.2.2))) = true := dq_all 100 (by decide +kernel)
def dl_X8_pointOf_0 : List (Nat × Instr × Nat) := [(0, .iconst 0, 1), (1, .istore_n 1, 1), (2, .iconst 0, 1), (3, .istore_n 2, 1), (4, .iload_n 2, 1), (5, .bipush 12, 2), (7, .if_icmp .ge 151, 3), (10, .iconst 0, 1), (11, .istore_n 3, 1), (12, .iconst 0, 1), (13, .istore 4, 2), (15, .iconst 0, 1), (16, .istore 5, 2), (18, .iload 5, 2), (20, .bipush 12, 2), (22, .if_icmp .ge 130, 3)]
set_option maxRecDepth 20000 in
theorem dk_X8_pointOf_0 : dl_X8_pointOf_0.all (fun q => decide (decode cX8_pointOf q.1 = .ok (q.2.1, q.2.2))) = true := dq_all 0 (by decide +kernel)
def dl_X8_pointOf_1 : List (Nat × Instr × Nat) := [(25, .aload_n 0, 1), (26, .iload 5, 2), (28, .iload_n 2, 1), (29, .invokestatic 109, 3), (32, .ifCond .eq 31, 3), (35, .aload_n 0, 1), (36, .iload 5, 2), (38, .iload_n 2, 1), (39, .iconst 1, 1), (40, .isub, 1), (41, .invokestatic 109, 3), (44, .ifCond .ne 19, 3), (47, .aload_n 0, 1), (48, .iload 5, 2), (50, .iload_n 2, 1), (51, .iconst 1, 1)]
set_option maxRecDepth 20000 in
theorem dk_X8_pointOf_1 : dl_X8_pointOf_1.all (fun q => decide (decode cX8_pointOf q.1 = .ok (q.2.1, q.2.2))) = true := dq_all 25 (by decide +kernel)
def dl_X8_pointOf_2 : List (Nat × Instr × Nat) := [(52, .iadd, 1), (53, .invokestatic 109, 3), (56, .ifCond .ne 7, 3), (59, .iconst 1, 1), (60, .goto 4, 3), (63, .iconst 0, 1), (64, .istore 6, 2), (66, .aload_n 0, 1), (67, .iload_n 2, 1), (68, .iload 5, 2), (70, .invokestatic 109, 3), (73, .ifCond .eq 31, 3), (76, .aload_n 0, 1), (77, .iload_n 2, 1), (78, .iconst 1, 1), (79, .isub, 1)]
set_option maxRecDepth 20000 in
theorem dk_X8_pointOf_2 : dl_X8_pointOf_2.all (fun q => decide (decode cX8_pointOf q.1 = .ok (q.2.1, q.2.2))) = true := dq_all 52 (by decide +kernel)
def dl_X8_pointOf_3 : List (Nat × Instr × Nat) := [(80, .iload 5, 2), (82, .invokestatic 109, 3), (85, .ifCond .ne 19, 3), (88, .aload_n 0, 1), (89, .iload_n 2, 1), (90, .iconst 1, 1), (91, .iadd, 1), (92, .iload 5, 2), (94, .invokestatic 109, 3), (97, .ifCond .ne 7, 3), (100, .iconst 1, 1), (101, .goto 4, 3), (104, .iconst 0, 1), (105, .istore 7, 2), (107, .iload 6, 2), (109, .ifCond .eq 9, 3)]
set_option maxRecDepth 20000 in
theorem dk_X8_pointOf_3 : dl_X8_pointOf_3.all (fun q => decide (decode cX8_pointOf q.1 = .ok (q.2.1, q.2.2))) = true := dq_all 80 (by decide +kernel)
def dl_X8_pointOf_4 : List (Nat × Instr × Nat) := [(112, .iload_n 3, 1), (113, .iconst 1, 1), (114, .iadd, 1), (115, .goto 4, 3), (118, .iconst 0, 1), (119, .istore_n 3, 1), (120, .iload 7, 2), (122, .ifCond .eq 10, 3), (125, .iload 4, 2), (127, .iconst 1, 1), (128, .iadd, 1), (129, .goto 4, 3), (132, .iconst 0, 1), (133, .istore 4, 2), (135, .iload_n 1, 1), (136, .iload_n 3, 1)]
set_option maxRecDepth 20000 in
theorem dk_X8_pointOf_4 : dl_X8_pointOf_4.all (fun q => decide (decode cX8_pointOf q.1 = .ok (q.2.1, q.2.2))) = true := dq_all 112 (by decide +kernel)
def dl_X8_pointOf_5 : List (Nat × Instr × Nat) := [(137, .iload 4, 2), (139, .invokestatic 113, 3), (142, .invokestatic 113, 3), (145, .istore_n 1, 1), (146, .iinc 5 1, 3), (149, .goto (-131), 3), (152, .iinc 2 1, 3), (155, .goto (-151), 3), (158, .iload_n 1, 1), (159, .ireturn, 1)]
set_option maxRecDepth 20000 in
theorem dk_X8_pointOf_5 : dl_X8_pointOf_5.all (fun q => decide (decode cX8_pointOf q.1 = .ok (q.2.1, q.2.2))) = true := dq_all 137 (by decide +kernel)
def dl_X8_walk_0 : List (Nat × Instr × Nat) := [(0, .aload_n 0, 1), (1, .iload_n 1, 1), (2, .iload_n 2, 1), (3, .invokestatic 109, 3), (6, .ifCond .eq 43, 3), (9, .aload_n 0, 1), (10, .bipush 12, 2), (12, .iload_n 2, 1), (13, .imul, 1), (14, .iload_n 1, 1), (15, .iadd, 1), (16, .iconst 0, 1), (17, .bastore, 1), (18, .iconst 0, 1), (19, .istore_n 3, 1), (20, .iload_n 3, 1)]
set_option maxRecDepth 20000 in
theorem dk_X8_walk_0 : dl_X8_walk_0.all (fun q => decide (decode cX8_walk q.1 = .ok (q.2.1, q.2.2))) = true := dq_all 0 (by decide +kernel)
def dl_X8_walk_1 : List (Nat × Instr × Nat) := [(21, .iconst 4, 1), (22, .if_icmp .ge 27, 3), (25, .aload_n 0, 1), (26, .iload_n 1, 1), (27, .getstatic 118, 3), (30, .iload_n 3, 1), (31, .iaload, 1), (32, .iadd, 1), (33, .iload_n 2, 1), (34, .getstatic 121, 3), (37, .iload_n 3, 1), (38, .iaload, 1), (39, .iadd, 1), (40, .invokestatic 124, 3), (43, .iinc 3 1, 3), (46, .goto (-26), 3)]
set_option maxRecDepth 20000 in
theorem dk_X8_walk_1 : dl_X8_walk_1.all (fun q => decide (decode cX8_walk q.1 = .ok (q.2.1, q.2.2))) = true := dq_all 21 (by decide +kernel)
def dl_X8_walk_2 : List (Nat × Instr × Nat) := [(49, .return_, 1)]
set_option maxRecDepth 20000 in
theorem dk_X8_walk_2 : dl_X8_walk_2.all (fun q => decide (decode cX8_walk q.1 = .ok (q.2.1, q.2.2))) = true := dq_all 49 (by decide +kernel)
def dl_X8_isWhole_0 : List (Nat × Instr × Nat) := [(0, .aload_n 0, 1), (1, .invokevirtual 128, 3), (4, .checkcast 129, 3), (7, .astore_n 1, 1), (8, .iconst 0, 1), (9, .istore_n 2, 1), (10, .iload_n 2, 1), (11, .sipush 143, 3), (14, .if_icmp .ge 15, 3), (17, .aload_n 1, 1), (18, .iload_n 2, 1), (19, .baload, 1), (20, .ifCond .ne 9, 3), (23, .iinc 2 1, 3), (26, .goto (-16), 3), (29, .aload_n 1, 1)]
set_option maxRecDepth 20000 in
theorem dk_X8_isWhole_0 : dl_X8_isWhole_0.all (fun q => decide (decode cX8_isWhole q.1 = .ok (q.2.1, q.2.2))) = true := dq_all 0 (by decide +kernel)
def dl_X8_isWhole_1 : List (Nat × Instr × Nat) := [(30, .iload_n 2, 1), (31, .bipush 12, 2), (33, .irem, 1), (34, .iload_n 2, 1), (35, .bipush 12, 2), (37, .idiv, 1), (38, .invokestatic 124, 3), (41, .aload_n 1, 1), (42, .invokestatic 133, 3), (45, .ifCond .ne 7, 3), (48, .iconst 1, 1), (49, .goto 4, 3), (52, .iconst 0, 1), (53, .ireturn, 1)]
set_option maxRecDepth 20000 in
theorem dk_X8_isWhole_1 : dl_X8_isWhole_1.all (fun q => decide (decode cX8_isWhole q.1 = .ok (q.2.1, q.2.2))) = true := dq_all 30 (by decide +kernel)
def dl_X8_hindersOf_0 : List (Nat × Instr × Nat) := [(0, .aload_n 0, 1), (1, .invokestatic 133, 3), (4, .ifCond .ne 6, 3), (7, .bipush 101, 2), (9, .ireturn, 1), (10, .aload_n 0, 1), (11, .invokestatic 137, 3), (14, .ifCond .ne 6, 3), (17, .bipush 119, 2), (19, .ireturn, 1), (20, .aload_n 0, 1), (21, .invokestatic 141, 3), (24, .iconst 2, 1), (25, .if_icmp .le 8, 3), (28, .bipush 99, 2), (30, .goto 18, 3)]
set_option maxRecDepth 20000 in
theorem dk_X8_hindersOf_0 : dl_X8_hindersOf_0.all (fun q => decide (decode cX8_hindersOf q.1 = .ok (q.2.1, q.2.2))) = true := dq_all 0 (by decide +kernel)
def dl_X8_hindersOf_1 : List (Nat × Instr × Nat) := [(33, .aload_n 0, 1), (34, .invokestatic 144, 3), (37, .iconst 4, 1), (38, .if_icmp .le 8, 3), (41, .bipush 112, 2), (43, .goto 5, 3), (46, .bipush 45, 2), (48, .ireturn, 1)]
set_option maxRecDepth 20000 in
theorem dk_X8_hindersOf_1 : dl_X8_hindersOf_1.all (fun q => decide (decode cX8_hindersOf q.1 = .ok (q.2.1, q.2.2))) = true := dq_all 33 (by decide +kernel)
def dl_X8_corners_0 : List (Nat × Instr × Nat) := [(0, .aload_n 0, 1), (1, .iload_n 1, 1), (2, .invokestatic 102, 3), (5, .iconst 1, 1), (6, .invokevirtual 86, 3), (9, .ifCond .eq 7, 3), (12, .iconst 0, 1), (13, .goto 11, 3), (16, .aload_n 0, 1), (17, .iload_n 1, 1), (18, .invokevirtual 147, 3), (21, .invokestatic 141, 3), (24, .ireturn, 1)]
set_option maxRecDepth 20000 in
theorem dk_X8_corners_0 : dl_X8_corners_0.all (fun q => decide (decode cX8_corners q.1 = .ok (q.2.1, q.2.2))) = true := dq_all 0 (by decide +kernel)
def dl_X8_point_0 : List (Nat × Instr × Nat) := [(0, .aload_n 0, 1), (1, .iload_n 1, 1), (2, .invokestatic 102, 3), (5, .iconst 1, 1), (6, .invokevirtual 86, 3), (9, .ifCond .eq 7, 3), (12, .iconst 0, 1), (13, .goto 11, 3), (16, .aload_n 0, 1), (17, .iload_n 1, 1), (18, .invokevirtual 147, 3), (21, .invokestatic 144, 3), (24, .ireturn, 1)]
set_option maxRecDepth 20000 in
theorem dk_X8_point_0 : dl_X8_point_0.all (fun q => decide (decode cX8_point q.1 = .ok (q.2.1, q.2.2))) = true := dq_all 0 (by decide +kernel)
def dl_X8_hinders_0 : List (Nat × Instr × Nat) := [(0, .aload_n 0, 1), (1, .iload_n 1, 1), (2, .invokestatic 102, 3), (5, .iconst 1, 1), (6, .invokevirtual 86, 3), (9, .ifCond .eq 8, 3), (12, .bipush 32, 2), (14, .goto 11, 3), (17, .aload_n 0, 1), (18, .iload_n 1, 1), (19, .invokevirtual 147, 3), (22, .invokestatic 151, 3), (25, .ireturn, 1)]
set_option maxRecDepth 20000 in
theorem dk_X8_hinders_0 : dl_X8_hinders_0.all (fun q => decide (decode cX8_hinders q.1 = .ok (q.2.1, q.2.2))) = true := dq_all 0 (by decide +kernel)
def dl_X8_side_0 : List (Nat × Instr × Nat) := [(0, .sipush 144, 3), (3, .newarray .boolean, 2), (5, .astore 4, 2), (7, .iconst 0, 1), (8, .istore 5, 2), (10, .iload 5, 2), (12, .sipush 144, 3), (15, .if_icmp .ge 60, 3), (18, .iload_n 1, 1), (19, .ifCond .eq 11, 3), (22, .iload 5, 2), (24, .bipush 12, 2), (26, .irem, 1), (27, .goto 8, 3), (30, .iload 5, 2), (32, .bipush 12, 2)]
set_option maxRecDepth 20000 in
theorem dk_X8_side_0 : dl_X8_side_0.all (fun q => decide (decode cX8_side q.1 = .ok (q.2.1, q.2.2))) = true := dq_all 0 (by decide +kernel)
def dl_X8_side_1 : List (Nat × Instr × Nat) := [(34, .idiv, 1), (35, .istore 6, 2), (37, .aload 4, 2), (39, .iload 5, 2), (41, .aload_n 0, 1), (42, .iload 5, 2), (44, .baload, 1), (45, .ifCond .eq 22, 3), (48, .iload 6, 2), (50, .iload_n 2, 1), (51, .if_icmp .lt 7, 3), (54, .iconst 1, 1), (55, .goto 4, 3), (58, .iconst 0, 1), (59, .iload_n 3, 1), (60, .if_icmp .ne 7, 3)]
set_option maxRecDepth 20000 in
theorem dk_X8_side_1 : dl_X8_side_1.all (fun q => decide (decode cX8_side q.1 = .ok (q.2.1, q.2.2))) = true := dq_all 34 (by decide +kernel)
def dl_X8_side_2 : List (Nat × Instr × Nat) := [(63, .iconst 1, 1), (64, .goto 4, 3), (67, .iconst 0, 1), (68, .bastore, 1), (69, .iinc 5 1, 3), (72, .goto (-62), 3), (75, .aload 4, 2), (77, .areturn, 1)]
set_option maxRecDepth 20000 in
theorem dk_X8_side_2 : dl_X8_side_2.all (fun q => decide (decode cX8_side q.1 = .ok (q.2.1, q.2.2))) = true := dq_all 63 (by decide +kernel)
def dl_X8_leadOver_0 : List (Nat × Instr × Nat) := [(0, .iconst 0, 1), (1, .istore_n 3, 1), (2, .iconst 0, 1), (3, .istore 4, 2), (5, .iload 4, 2), (7, .bipush 12, 2), (9, .if_icmp .ge 85, 3), (12, .iload_n 1, 1), (13, .ifCond .eq 33, 3), (16, .aload_n 0, 1), (17, .iload_n 2, 1), (18, .iconst 1, 1), (19, .isub, 1), (20, .iload 4, 2), (22, .invokestatic 109, 3), (25, .ifCond .eq 17, 3)]
set_option maxRecDepth 20000 in
theorem dk_X8_leadOver_0 : dl_X8_leadOver_0.all (fun q => decide (decode cX8_leadOver q.1 = .ok (q.2.1, q.2.2))) = true := dq_all 0 (by decide +kernel)
def dl_X8_leadOver_1 : List (Nat × Instr × Nat) := [(28, .aload_n 0, 1), (29, .iload_n 2, 1), (30, .iload 4, 2), (32, .invokestatic 109, 3), (35, .ifCond .eq 7, 3), (38, .iconst 1, 1), (39, .goto 34, 3), (42, .iconst 0, 1), (43, .goto 30, 3), (46, .aload_n 0, 1), (47, .iload 4, 2), (49, .iload_n 2, 1), (50, .iconst 1, 1), (51, .isub, 1), (52, .invokestatic 109, 3), (55, .ifCond .eq 17, 3)]
set_option maxRecDepth 20000 in
theorem dk_X8_leadOver_1 : dl_X8_leadOver_1.all (fun q => decide (decode cX8_leadOver q.1 = .ok (q.2.1, q.2.2))) = true := dq_all 28 (by decide +kernel)
def dl_X8_leadOver_2 : List (Nat × Instr × Nat) := [(58, .aload_n 0, 1), (59, .iload 4, 2), (61, .iload_n 2, 1), (62, .invokestatic 109, 3), (65, .ifCond .eq 7, 3), (68, .iconst 1, 1), (69, .goto 4, 3), (72, .iconst 0, 1), (73, .istore 5, 2), (75, .iload_n 3, 1), (76, .iload 5, 2), (78, .ifCond .eq 7, 3), (81, .iconst 1, 1), (82, .goto 4, 3), (85, .iconst 0, 1), (86, .iadd, 1)]
set_option maxRecDepth 20000 in
theorem dk_X8_leadOver_2 : dl_X8_leadOver_2.all (fun q => decide (decode cX8_leadOver q.1 = .ok (q.2.1, q.2.2))) = true := dq_all 58 (by decide +kernel)
def dl_X8_leadOver_3 : List (Nat × Instr × Nat) := [(87, .istore_n 3, 1), (88, .iinc 4 1, 3), (91, .goto (-86), 3), (94, .iload_n 3, 1), (95, .ireturn, 1)]
set_option maxRecDepth 20000 in
theorem dk_X8_leadOver_3 : dl_X8_leadOver_3.all (fun q => decide (decode cX8_leadOver q.1 = .ok (q.2.1, q.2.2))) = true := dq_all 87 (by decide +kernel)
def dl_X8_split_0 : List (Nat × Instr × Nat) := [(0, .aload_n 0, 1), (1, .iload_n 1, 1), (2, .invokestatic 102, 3), (5, .iconst 1, 1), (6, .invokevirtual 86, 3), (9, .ifCond .eq 5, 3), (12, .iconst 0, 1), (13, .ireturn, 1), (14, .aload_n 0, 1), (15, .iload_n 1, 1), (16, .invokevirtual 147, 3), (19, .astore_n 2, 1), (20, .iconst (-1), 1), (21, .istore_n 3, 1), (22, .iconst 0, 1), (23, .istore 4, 2)]
set_option maxRecDepth 20000 in
theorem dk_X8_split_0 : dl_X8_split_0.all (fun q => decide (decode cX8_split q.1 = .ok (q.2.1, q.2.2))) = true := dq_all 0 (by decide +kernel)
def dl_X8_split_1 : List (Nat × Instr × Nat) := [(25, .iconst 0, 1), (26, .istore 5, 2), (28, .iload 5, 2), (30, .bipush 22, 2), (32, .if_icmp .ge 133, 3), (35, .iload 5, 2), (37, .bipush 11, 2), (39, .if_icmp .ge 7, 3), (42, .iconst 1, 1), (43, .goto 4, 3), (46, .iconst 0, 1), (47, .istore 6, 2), (49, .iconst 1, 1), (50, .iload 5, 2), (52, .bipush 11, 2), (54, .irem, 1)]
set_option maxRecDepth 20000 in
theorem dk_X8_split_1 : dl_X8_split_1.all (fun q => decide (decode cX8_split q.1 = .ok (q.2.1, q.2.2))) = true := dq_all 25 (by decide +kernel)
def dl_X8_split_2 : List (Nat × Instr × Nat) := [(55, .iadd, 1), (56, .istore 7, 2), (58, .aload_n 2, 1), (59, .iload 6, 2), (61, .iload 7, 2), (63, .iconst 0, 1), (64, .invokestatic 155, 3), (67, .invokestatic 151, 3), (70, .bipush 45, 2), (72, .if_icmp .ne 24, 3), (75, .aload_n 2, 1), (76, .iload 6, 2), (78, .iload 7, 2), (80, .iconst 1, 1), (81, .invokestatic 155, 3), (84, .invokestatic 151, 3)]
set_option maxRecDepth 20000 in
theorem dk_X8_split_2 : dl_X8_split_2.all (fun q => decide (decode cX8_split q.1 = .ok (q.2.1, q.2.2))) = true := dq_all 55 (by decide +kernel)
def dl_X8_split_3 : List (Nat × Instr × Nat) := [(87, .bipush 45, 2), (89, .if_icmp .ne 7, 3), (92, .iconst 1, 1), (93, .goto 4, 3), (96, .iconst 0, 1), (97, .istore 8, 2), (99, .aload_n 2, 1), (100, .iload 6, 2), (102, .iload 7, 2), (104, .invokestatic 159, 3), (107, .istore 9, 2), (109, .iload 8, 2), (111, .ifCond .eq 19, 3), (114, .iload_n 3, 1), (115, .iconst (-1), 1), (116, .if_icmp .eq 10, 3)]
set_option maxRecDepth 20000 in
theorem dk_X8_split_3 : dl_X8_split_3.all (fun q => decide (decode cX8_split q.1 = .ok (q.2.1, q.2.2))) = true := dq_all 87 (by decide +kernel)
def dl_X8_split_4 : List (Nat × Instr × Nat) := [(119, .iload 9, 2), (121, .iload 4, 2), (123, .if_icmp .ge 7, 3), (126, .iconst 1, 1), (127, .goto 4, 3), (130, .iconst 0, 1), (131, .istore 10, 2), (133, .iload 10, 2), (135, .ifCond .eq 8, 3), (138, .iload 5, 2), (140, .goto 4, 3), (143, .iload_n 3, 1), (144, .istore_n 3, 1), (145, .iload 10, 2), (147, .ifCond .eq 8, 3), (150, .iload 9, 2)]
set_option maxRecDepth 20000 in
theorem dk_X8_split_4 : dl_X8_split_4.all (fun q => decide (decode cX8_split q.1 = .ok (q.2.1, q.2.2))) = true := dq_all 119 (by decide +kernel)
def dl_X8_split_5 : List (Nat × Instr × Nat) := [(152, .goto 5, 3), (155, .iload 4, 2), (157, .istore 4, 2), (159, .iinc 5 1, 3), (162, .goto (-134), 3), (165, .iconst 0, 1), (166, .istore 5, 2), (168, .iload 5, 2), (170, .bipush 30, 2), (172, .if_icmp .ge 18, 3), (175, .aload_n 0, 1), (176, .iload 5, 2), (178, .invokevirtual 105, 3), (181, .ifCond .le 9, 3), (184, .iinc 5 1, 3), (187, .goto (-19), 3)]
set_option maxRecDepth 20000 in
theorem dk_X8_split_5 : dl_X8_split_5.all (fun q => decide (decode cX8_split q.1 = .ok (q.2.1, q.2.2))) = true := dq_all 152 (by decide +kernel)
def dl_X8_split_6 : List (Nat × Instr × Nat) := [(190, .aload_n 0, 1), (191, .aload_n 0, 1), (192, .iload_n 1, 1), (193, .invokevirtual 98, 3), (196, .ifCond .ne 15, 3), (199, .iload_n 3, 1), (200, .iconst (-1), 1), (201, .if_icmp .eq 10, 3), (204, .aload_n 0, 1), (205, .invokevirtual 90, 3), (208, .ifCond .eq 7, 3), (211, .iconst 1, 1), (212, .goto 4, 3), (215, .iconst 0, 1), (216, .iconst 2, 1), (217, .invokevirtual 86, 3)]
set_option maxRecDepth 20000 in
theorem dk_X8_split_6 : dl_X8_split_6.all (fun q => decide (decode cX8_split q.1 = .ok (q.2.1, q.2.2))) = true := dq_all 190 (by decide +kernel)
def dl_X8_split_7 : List (Nat × Instr × Nat) := [(220, .ifCond .ne 23, 3), (223, .aload_n 0, 1), (224, .iload 5, 2), (226, .bipush 30, 2), (228, .if_icmp .ne 7, 3), (231, .iconst 1, 1), (232, .goto 4, 3), (235, .iconst 0, 1), (236, .iconst 3, 1), (237, .invokevirtual 86, 3), (240, .ifCond .eq 5, 3), (243, .iconst 0, 1), (244, .ireturn, 1), (245, .aload_n 2, 1), (246, .iload_n 3, 1), (247, .bipush 11, 2)]
set_option maxRecDepth 20000 in
theorem dk_X8_split_7 : dl_X8_split_7.all (fun q => decide (decode cX8_split q.1 = .ok (q.2.1, q.2.2))) = true := dq_all 220 (by decide +kernel)
def dl_X8_split_8 : List (Nat × Instr × Nat) := [(249, .if_icmp .ge 7, 3), (252, .iconst 1, 1), (253, .goto 4, 3), (256, .iconst 0, 1), (257, .iconst 1, 1), (258, .iload_n 3, 1), (259, .bipush 11, 2), (261, .irem, 1), (262, .iadd, 1), (263, .iconst 1, 1), (264, .invokestatic 155, 3), (267, .astore 6, 2), (269, .iconst 0, 1), (270, .istore 7, 2), (272, .iload 7, 2), (274, .sipush 144, 3)]
set_option maxRecDepth 20000 in
theorem dk_X8_split_8 : dl_X8_split_8.all (fun q => decide (decode cX8_split q.1 = .ok (q.2.1, q.2.2))) = true := dq_all 249 (by decide +kernel)
def dl_X8_split_9 : List (Nat × Instr × Nat) := [(277, .if_icmp .ge 36, 3), (280, .aload_n 0, 1), (281, .getfield 9, 3), (284, .iload 7, 2), (286, .aload 6, 2), (288, .iload 7, 2), (290, .baload, 1), (291, .ifCond .eq 8, 3), (294, .iload 5, 2), (296, .goto 10, 3), (299, .aload_n 0, 1), (300, .getfield 9, 3), (303, .iload 7, 2), (305, .iaload, 1), (306, .iastore, 1), (307, .iinc 7 1, 3)]
set_option maxRecDepth 20000 in
theorem dk_X8_split_9 : dl_X8_split_9.all (fun q => decide (decode cX8_split q.1 = .ok (q.2.1, q.2.2))) = true := dq_all 277 (by decide +kernel)
def dl_X8_split_10 : List (Nat × Instr × Nat) := [(310, .goto (-38), 3), (313, .aload_n 0, 1), (314, .getfield 13, 3), (317, .iload 5, 2), (319, .aload_n 0, 1), (320, .getfield 13, 3), (323, .iload_n 1, 1), (324, .iaload, 1), (325, .iastore, 1), (326, .aload_n 0, 1), (327, .getfield 16, 3), (330, .iload 5, 2), (332, .aload_n 0, 1), (333, .getfield 16, 3), (336, .iload_n 1, 1), (337, .caload, 1)]
set_option maxRecDepth 20000 in
theorem dk_X8_split_10 : dl_X8_split_10.all (fun q => decide (decode cX8_split q.1 = .ok (q.2.1, q.2.2))) = true := dq_all 310 (by decide +kernel)
def dl_X8_split_11 : List (Nat × Instr × Nat) := [(338, .castore, 1), (339, .iload 5, 2), (341, .ireturn, 1)]
set_option maxRecDepth 20000 in
theorem dk_X8_split_11 : dl_X8_split_11.all (fun q => decide (decode cX8_split q.1 = .ok (q.2.1, q.2.2))) = true := dq_all 338 (by decide +kernel)
def dl_X8_isLead_0 : List (Nat × Instr × Nat) := [(0, .aload_n 0, 1), (1, .iload_n 1, 1), (2, .iload_n 2, 1), (3, .invokevirtual 94, 3), (6, .istore 5, 2), (8, .aload_n 0, 1), (9, .iload_n 3, 1), (10, .iload 4, 2), (12, .invokevirtual 94, 3), (15, .istore 6, 2), (17, .iload 5, 2), (19, .iload 6, 2), (21, .if_icmp .eq 17, 3), (24, .iload 5, 2), (26, .ifCond .ge 8, 3), (29, .iload 6, 2)]
set_option maxRecDepth 20000 in
theorem dk_X8_isLead_0 : dl_X8_isLead_0.all (fun q => decide (decode cX8_isLead q.1 = .ok (q.2.1, q.2.2))) = true := dq_all 0 (by decide +kernel)
def dl_X8_isLead_1 : List (Nat × Instr × Nat) := [(31, .ifCond .lt 7, 3), (34, .iconst 1, 1), (35, .goto 4, 3), (38, .iconst 0, 1), (39, .ireturn, 1)]
set_option maxRecDepth 20000 in
theorem dk_X8_isLead_1 : dl_X8_isLead_1.all (fun q => decide (decode cX8_isLead q.1 = .ok (q.2.1, q.2.2))) = true := dq_all 31 (by decide +kernel)
def dl_X8_leadNow_0 : List (Nat × Instr × Nat) := [(0, .iconst 0, 1), (1, .istore_n 1, 1), (2, .iconst 0, 1), (3, .istore_n 2, 1), (4, .iload_n 2, 1), (5, .bipush 12, 2), (7, .if_icmp .gt 65, 3), (10, .iconst 0, 1), (11, .istore_n 3, 1), (12, .iload_n 3, 1), (13, .bipush 12, 2), (15, .if_icmp .ge 51, 3), (18, .iload_n 1, 1), (19, .aload_n 0, 1), (20, .iload_n 2, 1), (21, .iconst 1, 1)]
set_option maxRecDepth 20000 in
theorem dk_X8_leadNow_0 : dl_X8_leadNow_0.all (fun q => decide (decode cX8_leadNow q.1 = .ok (q.2.1, q.2.2))) = true := dq_all 0 (by decide +kernel)
def dl_X8_leadNow_1 : List (Nat × Instr × Nat) := [(22, .isub, 1), (23, .iload_n 3, 1), (24, .iload_n 2, 1), (25, .iload_n 3, 1), (26, .invokevirtual 163, 3), (29, .ifCond .eq 7, 3), (32, .iconst 1, 1), (33, .goto 4, 3), (36, .iconst 0, 1), (37, .iadd, 1), (38, .istore_n 1, 1), (39, .iload_n 1, 1), (40, .aload_n 0, 1), (41, .iload_n 3, 1), (42, .iload_n 2, 1), (43, .iconst 1, 1)]
set_option maxRecDepth 20000 in
theorem dk_X8_leadNow_1 : dl_X8_leadNow_1.all (fun q => decide (decode cX8_leadNow q.1 = .ok (q.2.1, q.2.2))) = true := dq_all 22 (by decide +kernel)
def dl_X8_leadNow_2 : List (Nat × Instr × Nat) := [(44, .isub, 1), (45, .iload_n 3, 1), (46, .iload_n 2, 1), (47, .invokevirtual 163, 3), (50, .ifCond .eq 7, 3), (53, .iconst 1, 1), (54, .goto 4, 3), (57, .iconst 0, 1), (58, .iadd, 1), (59, .istore_n 1, 1), (60, .iinc 3 1, 3), (63, .goto (-51), 3), (66, .iinc 2 1, 3), (69, .goto (-65), 3), (72, .iload_n 1, 1), (73, .ireturn, 1)]
set_option maxRecDepth 20000 in
theorem dk_X8_leadNow_2 : dl_X8_leadNow_2.all (fun q => decide (decode cX8_leadNow q.1 = .ok (q.2.1, q.2.2))) = true := dq_all 44 (by decide +kernel)
def dl_X8_lead_0 : List (Nat × Instr × Nat) := [(0, .aload_n 0, 1), (1, .iconst 0, 1), (2, .putfield 71, 3), (5, .aload_n 0, 1), (6, .invokevirtual 166, 3), (9, .ireturn, 1)]
set_option maxRecDepth 20000 in
theorem dk_X8_lead_0 : dl_X8_lead_0.all (fun q => decide (decode cX8_lead q.1 = .ok (q.2.1, q.2.2))) = true := dq_all 0 (by decide +kernel)
def dl_X8_jointsNow_0 : List (Nat × Instr × Nat) := [(0, .iconst 0, 1), (1, .istore_n 1, 1), (2, .iconst 0, 1), (3, .istore_n 2, 1), (4, .iload_n 2, 1), (5, .bipush 12, 2), (7, .if_icmp .gt 126, 3), (10, .iconst 0, 1), (11, .istore_n 3, 1), (12, .iload_n 3, 1), (13, .bipush 12, 2), (15, .if_icmp .gt 112, 3), (18, .aload_n 0, 1), (19, .iload_n 3, 1), (20, .iconst 1, 1), (21, .isub, 1)]
set_option maxRecDepth 20000 in
theorem dk_X8_jointsNow_0 : dl_X8_jointsNow_0.all (fun q => decide (decode cX8_jointsNow q.1 = .ok (q.2.1, q.2.2))) = true := dq_all 0 (by decide +kernel)
def dl_X8_jointsNow_1 : List (Nat × Instr × Nat) := [(22, .iload_n 2, 1), (23, .iload_n 3, 1), (24, .iload_n 2, 1), (25, .invokevirtual 163, 3), (28, .ifCond .eq 7, 3), (31, .iconst 1, 1), (32, .goto 4, 3), (35, .iconst 0, 1), (36, .aload_n 0, 1), (37, .iload_n 3, 1), (38, .iconst 1, 1), (39, .isub, 1), (40, .iload_n 2, 1), (41, .iconst 1, 1), (42, .isub, 1), (43, .iload_n 3, 1)]
set_option maxRecDepth 20000 in
theorem dk_X8_jointsNow_1 : dl_X8_jointsNow_1.all (fun q => decide (decode cX8_jointsNow q.1 = .ok (q.2.1, q.2.2))) = true := dq_all 22 (by decide +kernel)
def dl_X8_jointsNow_2 : List (Nat × Instr × Nat) := [(44, .iload_n 2, 1), (45, .iconst 1, 1), (46, .isub, 1), (47, .invokevirtual 163, 3), (50, .ifCond .eq 7, 3), (53, .iconst 1, 1), (54, .goto 4, 3), (57, .iconst 0, 1), (58, .iadd, 1), (59, .istore 4, 2), (61, .iload 4, 2), (63, .aload_n 0, 1), (64, .iload_n 3, 1), (65, .iload_n 2, 1), (66, .iconst 1, 1), (67, .isub, 1)]
set_option maxRecDepth 20000 in
theorem dk_X8_jointsNow_2 : dl_X8_jointsNow_2.all (fun q => decide (decode cX8_jointsNow q.1 = .ok (q.2.1, q.2.2))) = true := dq_all 44 (by decide +kernel)
def dl_X8_jointsNow_3 : List (Nat × Instr × Nat) := [(68, .iload_n 3, 1), (69, .iload_n 2, 1), (70, .invokevirtual 163, 3), (73, .ifCond .eq 7, 3), (76, .iconst 1, 1), (77, .goto 4, 3), (80, .iconst 0, 1), (81, .aload_n 0, 1), (82, .iload_n 3, 1), (83, .iconst 1, 1), (84, .isub, 1), (85, .iload_n 2, 1), (86, .iconst 1, 1), (87, .isub, 1), (88, .iload_n 3, 1), (89, .iconst 1, 1)]
set_option maxRecDepth 20000 in
theorem dk_X8_jointsNow_3 : dl_X8_jointsNow_3.all (fun q => decide (decode cX8_jointsNow q.1 = .ok (q.2.1, q.2.2))) = true := dq_all 68 (by decide +kernel)
def dl_X8_jointsNow_4 : List (Nat × Instr × Nat) := [(90, .isub, 1), (91, .iload_n 2, 1), (92, .invokevirtual 163, 3), (95, .ifCond .eq 7, 3), (98, .iconst 1, 1), (99, .goto 4, 3), (102, .iconst 0, 1), (103, .iadd, 1), (104, .iadd, 1), (105, .istore 4, 2), (107, .iload_n 1, 1), (108, .iload 4, 2), (110, .iconst 3, 1), (111, .if_icmp .lt 7, 3), (114, .iconst 1, 1), (115, .goto 4, 3)]
set_option maxRecDepth 20000 in
theorem dk_X8_jointsNow_4 : dl_X8_jointsNow_4.all (fun q => decide (decode cX8_jointsNow q.1 = .ok (q.2.1, q.2.2))) = true := dq_all 90 (by decide +kernel)
def dl_X8_jointsNow_5 : List (Nat × Instr × Nat) := [(118, .iconst 0, 1), (119, .iadd, 1), (120, .istore_n 1, 1), (121, .iinc 3 1, 3), (124, .goto (-112), 3), (127, .iinc 2 1, 3), (130, .goto (-126), 3), (133, .iload_n 1, 1), (134, .ireturn, 1)]
set_option maxRecDepth 20000 in
theorem dk_X8_jointsNow_5 : dl_X8_jointsNow_5.all (fun q => decide (decode cX8_jointsNow q.1 = .ok (q.2.1, q.2.2))) = true := dq_all 118 (by decide +kernel)
def dl_X8_joints_0 : List (Nat × Instr × Nat) := [(0, .aload_n 0, 1), (1, .iconst 0, 1), (2, .putfield 71, 3), (5, .aload_n 0, 1), (6, .invokevirtual 170, 3), (9, .ireturn, 1)]
set_option maxRecDepth 20000 in
theorem dk_X8_joints_0 : dl_X8_joints_0.all (fun q => decide (decode cX8_joints q.1 = .ok (q.2.1, q.2.2))) = true := dq_all 0 (by decide +kernel)
def dl_X8_sheet_0 : List (Nat × Instr × Nat) := [(0, .aload_n 0, 1), (1, .iload_n 1, 1), (2, .iconst 0, 1), (3, .bipush 9, 2), (5, .invokestatic 74, 3), (8, .ifCond .eq 37, 3), (11, .iload_n 2, 1), (12, .iconst 1, 1), (13, .bipush 12, 2), (15, .invokestatic 74, 3), (18, .ifCond .eq 27, 3), (21, .iload_n 3, 1), (22, .iconst 1, 1), (23, .bipush 12, 2), (25, .invokestatic 74, 3), (28, .ifCond .eq 17, 3)]
set_option maxRecDepth 20000 in
theorem dk_X8_sheet_0 : dl_X8_sheet_0.all (fun q => decide (decode cX8_sheet q.1 = .ok (q.2.1, q.2.2))) = true := dq_all 0 (by decide +kernel)
def dl_X8_sheet_1 : List (Nat × Instr × Nat) := [(31, .iload 4, 2), (33, .bipush 104, 2), (35, .if_icmp .eq 14, 3), (38, .iload 4, 2), (40, .bipush 118, 2), (42, .if_icmp .eq 7, 3), (45, .iconst 1, 1), (46, .goto 4, 3), (49, .iconst 0, 1), (50, .iconst 1, 1), (51, .invokevirtual 86, 3), (54, .ifCond .ne 25, 3), (57, .aload_n 0, 1), (58, .aload_n 0, 1), (59, .getfield 173, 3), (62, .bipush 8, 2)]
set_option maxRecDepth 20000 in
theorem dk_X8_sheet_1 : dl_X8_sheet_1.all (fun q => decide (decode cX8_sheet q.1 = .ok (q.2.1, q.2.2))) = true := dq_all 31 (by decide +kernel)
def dl_X8_sheet_2 : List (Nat × Instr × Nat) := [(64, .if_icmp .ne 7, 3), (67, .iconst 1, 1), (68, .goto 4, 3), (71, .iconst 0, 1), (72, .iconst 2, 1), (73, .invokevirtual 86, 3), (76, .ifCond .eq 5, 3), (79, .iconst 0, 1), (80, .ireturn, 1), (81, .aload_n 0, 1), (82, .getfield 44, 3), (85, .aload_n 0, 1), (86, .getfield 173, 3), (89, .aaload, 1), (90, .iconst 0, 1), (91, .iload_n 1, 1)]
set_option maxRecDepth 20000 in
theorem dk_X8_sheet_2 : dl_X8_sheet_2.all (fun q => decide (decode cX8_sheet q.1 = .ok (q.2.1, q.2.2))) = true := dq_all 64 (by decide +kernel)
def dl_X8_sheet_3 : List (Nat × Instr × Nat) := [(92, .iastore, 1), (93, .aload_n 0, 1), (94, .getfield 44, 3), (97, .aload_n 0, 1), (98, .getfield 173, 3), (101, .aaload, 1), (102, .iconst 1, 1), (103, .iload_n 2, 1), (104, .iastore, 1), (105, .aload_n 0, 1), (106, .getfield 44, 3), (109, .aload_n 0, 1), (110, .getfield 173, 3), (113, .aaload, 1), (114, .iconst 2, 1), (115, .iload_n 3, 1)]
set_option maxRecDepth 20000 in
theorem dk_X8_sheet_3 : dl_X8_sheet_3.all (fun q => decide (decode cX8_sheet q.1 = .ok (q.2.1, q.2.2))) = true := dq_all 92 (by decide +kernel)
def dl_X8_sheet_4 : List (Nat × Instr × Nat) := [(116, .iastore, 1), (117, .aload_n 0, 1), (118, .getfield 47, 3), (121, .aload_n 0, 1), (122, .getfield 173, 3), (125, .iload 4, 2), (127, .castore, 1), (128, .aload_n 0, 1), (129, .dup, 1), (130, .getfield 173, 3), (133, .iconst 1, 1), (134, .iadd, 1), (135, .putfield 173, 3), (138, .aload_n 0, 1), (139, .getfield 173, 3), (142, .iconst 1, 1)]
set_option maxRecDepth 20000 in
theorem dk_X8_sheet_4 : dl_X8_sheet_4.all (fun q => decide (decode cX8_sheet q.1 = .ok (q.2.1, q.2.2))) = true := dq_all 116 (by decide +kernel)
def dl_X8_sheet_5 : List (Nat × Instr × Nat) := [(143, .isub, 1), (144, .ireturn, 1)]
set_option maxRecDepth 20000 in
theorem dk_X8_sheet_5 : dl_X8_sheet_5.all (fun q => decide (decode cX8_sheet q.1 = .ok (q.2.1, q.2.2))) = true := dq_all 143 (by decide +kernel)
def dl_X8_isNoSheet_0 : List (Nat × Instr × Nat) := [(0, .iload_n 1, 1), (1, .iconst 0, 1), (2, .aload_n 0, 1), (3, .getfield 173, 3), (6, .iconst 1, 1), (7, .isub, 1), (8, .invokestatic 74, 3), (11, .ifCond .ne 7, 3), (14, .iconst 1, 1), (15, .goto 4, 3), (18, .iconst 0, 1), (19, .ireturn, 1)]
set_option maxRecDepth 20000 in
theorem dk_X8_isNoSheet_0 : dl_X8_isNoSheet_0.all (fun q => decide (decode cX8_isNoSheet q.1 = .ok (q.2.1, q.2.2))) = true := dq_all 0 (by decide +kernel)
def dl_X8_free_0 : List (Nat × Instr × Nat) := [(0, .aload_n 0, 1), (1, .aload_n 0, 1), (2, .iload_n 1, 1), (3, .invokevirtual 176, 3), (6, .iconst 1, 1), (7, .invokevirtual 86, 3), (10, .ifCond .eq 7, 3), (13, .iconst 0, 1), (14, .goto 30, 3), (17, .aload_n 0, 1), (18, .getfield 44, 3), (21, .iload_n 1, 1), (22, .aaload, 1), (23, .iconst 1, 1), (24, .iaload, 1), (25, .aload_n 0, 1)]
set_option maxRecDepth 20000 in
theorem dk_X8_free_0 : dl_X8_free_0.all (fun q => decide (decode cX8_free q.1 = .ok (q.2.1, q.2.2))) = true := dq_all 0 (by decide +kernel)
def dl_X8_free_1 : List (Nat × Instr × Nat) := [(26, .getfield 44, 3), (29, .iload_n 1, 1), (30, .aaload, 1), (31, .iconst 2, 1), (32, .iaload, 1), (33, .imul, 1), (34, .aload_n 0, 1), (35, .getfield 50, 3), (38, .iload_n 1, 1), (39, .aaload, 1), (40, .invokestatic 133, 3), (43, .isub, 1), (44, .ireturn, 1)]
set_option maxRecDepth 20000 in
theorem dk_X8_free_1 : dl_X8_free_1.all (fun q => decide (decode cX8_free q.1 = .ok (q.2.1, q.2.2))) = true := dq_all 26 (by decide +kernel)
def dl_X8_want_0 : List (Nat × Instr × Nat) := [(0, .aload_n 0, 1), (1, .iload_n 1, 1), (2, .invokestatic 102, 3), (5, .iconst 1, 1), (6, .invokevirtual 86, 3), (9, .ifCond .ne 72, 3), (12, .aload_n 0, 1), (13, .iload_n 2, 1), (14, .iconst 0, 1), (15, .bipush 9, 2), (17, .invokestatic 74, 3), (20, .ifCond .eq 21, 3), (23, .iload_n 3, 1), (24, .bipush 104, 2), (26, .if_icmp .eq 19, 3), (29, .iload_n 3, 1)]
set_option maxRecDepth 20000 in
theorem dk_X8_want_0 : dl_X8_want_0.all (fun q => decide (decode cX8_want q.1 = .ok (q.2.1, q.2.2))) = true := dq_all 0 (by decide +kernel)
def dl_X8_want_1 : List (Nat × Instr × Nat) := [(30, .bipush 118, 2), (32, .if_icmp .eq 13, 3), (35, .iload_n 3, 1), (36, .bipush 45, 2), (38, .if_icmp .eq 7, 3), (41, .iconst 1, 1), (42, .goto 4, 3), (45, .iconst 0, 1), (46, .iconst 2, 1), (47, .invokevirtual 86, 3), (50, .ifCond .ne 31, 3), (53, .aload_n 0, 1), (54, .aload_n 0, 1), (55, .iload_n 1, 1), (56, .invokevirtual 98, 3), (59, .ifCond .ne 10, 3)]
set_option maxRecDepth 20000 in
theorem dk_X8_want_1 : dl_X8_want_1.all (fun q => decide (decode cX8_want q.1 = .ok (q.2.1, q.2.2))) = true := dq_all 30 (by decide +kernel)
def dl_X8_want_2 : List (Nat × Instr × Nat) := [(62, .aload_n 0, 1), (63, .invokevirtual 90, 3), (66, .ifCond .eq 7, 3), (69, .iconst 1, 1), (70, .goto 4, 3), (73, .iconst 0, 1), (74, .iconst 3, 1), (75, .invokevirtual 86, 3), (78, .ifCond .eq 5, 3), (81, .iconst 0, 1), (82, .ireturn, 1), (83, .aload_n 0, 1), (84, .getfield 13, 3), (87, .iload_n 1, 1), (88, .iaload, 1), (89, .iload_n 2, 1)]
set_option maxRecDepth 20000 in
theorem dk_X8_want_2 : dl_X8_want_2.all (fun q => decide (decode cX8_want q.1 = .ok (q.2.1, q.2.2))) = true := dq_all 62 (by decide +kernel)
def dl_X8_want_3 : List (Nat × Instr × Nat) := [(90, .if_icmp .ne 17, 3), (93, .aload_n 0, 1), (94, .getfield 16, 3), (97, .iload_n 1, 1), (98, .caload, 1), (99, .iload_n 3, 1), (100, .if_icmp .ne 7, 3), (103, .iconst 1, 1), (104, .goto 4, 3), (107, .iconst 0, 1), (108, .istore 4, 2), (110, .aload_n 0, 1), (111, .getfield 13, 3), (114, .iload_n 1, 1), (115, .iload_n 2, 1), (116, .iastore, 1)]
set_option maxRecDepth 20000 in
theorem dk_X8_want_3 : dl_X8_want_3.all (fun q => decide (decode cX8_want q.1 = .ok (q.2.1, q.2.2))) = true := dq_all 90 (by decide +kernel)
def dl_X8_want_4 : List (Nat × Instr × Nat) := [(117, .aload_n 0, 1), (118, .getfield 16, 3), (121, .iload_n 1, 1), (122, .iload_n 3, 1), (123, .castore, 1), (124, .iload 4, 2), (126, .ireturn, 1)]
set_option maxRecDepth 20000 in
theorem dk_X8_want_4 : dl_X8_want_4.all (fun q => decide (decode cX8_want q.1 = .ok (q.2.1, q.2.2))) = true := dq_all 117 (by decide +kernel)
def dl_X8_brought_0 : List (Nat × Instr × Nat) := [(0, .bipush 12, 2), (2, .istore_n 2, 1), (3, .bipush 12, 2), (5, .istore_n 3, 1), (6, .iconst 0, 1), (7, .istore 4, 2), (9, .iload 4, 2), (11, .sipush 144, 3), (14, .if_icmp .ge 86, 3), (17, .iload_n 1, 1), (18, .ifCond .eq 14, 3), (21, .bipush 11, 2), (23, .iload 4, 2), (25, .bipush 12, 2), (27, .idiv, 1), (28, .isub, 1)]
set_option maxRecDepth 20000 in
theorem dk_X8_brought_0 : dl_X8_brought_0.all (fun q => decide (decode cX8_brought q.1 = .ok (q.2.1, q.2.2))) = true := dq_all 0 (by decide +kernel)
def dl_X8_brought_1 : List (Nat × Instr × Nat) := [(29, .goto 8, 3), (32, .iload 4, 2), (34, .bipush 12, 2), (36, .irem, 1), (37, .istore 5, 2), (39, .iload_n 1, 1), (40, .ifCond .eq 11, 3), (43, .iload 4, 2), (45, .bipush 12, 2), (47, .irem, 1), (48, .goto 8, 3), (51, .iload 4, 2), (53, .bipush 12, 2), (55, .idiv, 1), (56, .istore 6, 2), (58, .aload_n 0, 1)]
set_option maxRecDepth 20000 in
theorem dk_X8_brought_1 : dl_X8_brought_1.all (fun q => decide (decode cX8_brought q.1 = .ok (q.2.1, q.2.2))) = true := dq_all 29 (by decide +kernel)
def dl_X8_brought_2 : List (Nat × Instr × Nat) := [(59, .iload 4, 2), (61, .baload, 1), (62, .ifCond .eq 12, 3), (65, .iload_n 2, 1), (66, .iload 5, 2), (68, .invokestatic 179, 3), (71, .goto 4, 3), (74, .iload_n 2, 1), (75, .istore_n 2, 1), (76, .aload_n 0, 1), (77, .iload 4, 2), (79, .baload, 1), (80, .ifCond .eq 12, 3), (83, .iload_n 3, 1), (84, .iload 6, 2), (86, .invokestatic 179, 3)]
set_option maxRecDepth 20000 in
theorem dk_X8_brought_2 : dl_X8_brought_2.all (fun q => decide (decode cX8_brought q.1 = .ok (q.2.1, q.2.2))) = true := dq_all 59 (by decide +kernel)
def dl_X8_brought_3 : List (Nat × Instr × Nat) := [(89, .goto 4, 3), (92, .iload_n 3, 1), (93, .istore_n 3, 1), (94, .iinc 4 1, 3), (97, .goto (-88), 3), (100, .sipush 144, 3), (103, .newarray .boolean, 2), (105, .astore 4, 2), (107, .iconst 0, 1), (108, .istore 5, 2), (110, .iload 5, 2), (112, .sipush 144, 3), (115, .if_icmp .ge 73, 3), (118, .iload_n 1, 1), (119, .ifCond .eq 14, 3), (122, .bipush 11, 2)]
set_option maxRecDepth 20000 in
theorem dk_X8_brought_3 : dl_X8_brought_3.all (fun q => decide (decode cX8_brought q.1 = .ok (q.2.1, q.2.2))) = true := dq_all 89 (by decide +kernel)
def dl_X8_brought_4 : List (Nat × Instr × Nat) := [(124, .iload 5, 2), (126, .bipush 12, 2), (128, .idiv, 1), (129, .isub, 1), (130, .goto 8, 3), (133, .iload 5, 2), (135, .bipush 12, 2), (137, .irem, 1), (138, .istore 6, 2), (140, .iload_n 1, 1), (141, .ifCond .eq 11, 3), (144, .iload 5, 2), (146, .bipush 12, 2), (148, .irem, 1), (149, .goto 8, 3), (152, .iload 5, 2)]
set_option maxRecDepth 20000 in
theorem dk_X8_brought_4 : dl_X8_brought_4.all (fun q => decide (decode cX8_brought q.1 = .ok (q.2.1, q.2.2))) = true := dq_all 124 (by decide +kernel)
def dl_X8_brought_5 : List (Nat × Instr × Nat) := [(154, .bipush 12, 2), (156, .idiv, 1), (157, .istore 7, 2), (159, .aload_n 0, 1), (160, .iload 5, 2), (162, .baload, 1), (163, .ifCond .eq 19, 3), (166, .aload 4, 2), (168, .bipush 12, 2), (170, .iload 7, 2), (172, .iload_n 3, 1), (173, .isub, 1), (174, .imul, 1), (175, .iload 6, 2), (177, .iadd, 1), (178, .iload_n 2, 1)]
set_option maxRecDepth 20000 in
theorem dk_X8_brought_5 : dl_X8_brought_5.all (fun q => decide (decode cX8_brought q.1 = .ok (q.2.1, q.2.2))) = true := dq_all 154 (by decide +kernel)
def dl_X8_brought_6 : List (Nat × Instr × Nat) := [(179, .isub, 1), (180, .iconst 1, 1), (181, .bastore, 1), (182, .iinc 5 1, 3), (185, .goto (-75), 3), (188, .aload 4, 2), (190, .areturn, 1)]
set_option maxRecDepth 20000 in
theorem dk_X8_brought_6 : dl_X8_brought_6.all (fun q => decide (decode cX8_brought q.1 = .ok (q.2.1, q.2.2))) = true := dq_all 179 (by decide +kernel)
def dl_X8_isFreeAt_0 : List (Nat × Instr × Nat) := [(0, .iconst 1, 1), (1, .istore 4, 2), (3, .iconst 0, 1), (4, .istore 5, 2), (6, .iload 5, 2), (8, .sipush 144, 3), (11, .if_icmp .ge 94, 3), (14, .iload 5, 2), (16, .bipush 12, 2), (18, .irem, 1), (19, .iload_n 3, 1), (20, .bipush 12, 2), (22, .irem, 1), (23, .iadd, 1), (24, .istore 6, 2), (26, .iload 5, 2)]
set_option maxRecDepth 20000 in
theorem dk_X8_isFreeAt_0 : dl_X8_isFreeAt_0.all (fun q => decide (decode cX8_isFreeAt q.1 = .ok (q.2.1, q.2.2))) = true := dq_all 0 (by decide +kernel)
def dl_X8_isFreeAt_1 : List (Nat × Instr × Nat) := [(28, .bipush 12, 2), (30, .idiv, 1), (31, .iload_n 3, 1), (32, .bipush 12, 2), (34, .idiv, 1), (35, .iadd, 1), (36, .istore 7, 2), (38, .iload 4, 2), (40, .aload_n 2, 1), (41, .iload 5, 2), (43, .baload, 1), (44, .ifCond .eq 47, 3), (47, .iload 6, 2), (49, .aload_n 0, 1), (50, .getfield 44, 3), (53, .iload_n 1, 1)]
set_option maxRecDepth 20000 in
theorem dk_X8_isFreeAt_1 : dl_X8_isFreeAt_1.all (fun q => decide (decode cX8_isFreeAt q.1 = .ok (q.2.1, q.2.2))) = true := dq_all 28 (by decide +kernel)
def dl_X8_isFreeAt_2 : List (Nat × Instr × Nat) := [(54, .aaload, 1), (55, .iconst 1, 1), (56, .iaload, 1), (57, .if_icmp .ge 38, 3), (60, .iload 7, 2), (62, .aload_n 0, 1), (63, .getfield 44, 3), (66, .iload_n 1, 1), (67, .aaload, 1), (68, .iconst 2, 1), (69, .iaload, 1), (70, .if_icmp .ge 25, 3), (73, .aload_n 0, 1), (74, .getfield 50, 3), (77, .iload_n 1, 1), (78, .aaload, 1)]
set_option maxRecDepth 20000 in
theorem dk_X8_isFreeAt_2 : dl_X8_isFreeAt_2.all (fun q => decide (decode cX8_isFreeAt q.1 = .ok (q.2.1, q.2.2))) = true := dq_all 54 (by decide +kernel)
def dl_X8_isFreeAt_3 : List (Nat × Instr × Nat) := [(79, .bipush 12, 2), (81, .iload 7, 2), (83, .imul, 1), (84, .iload 6, 2), (86, .iadd, 1), (87, .baload, 1), (88, .ifCond .ne 7, 3), (91, .iconst 1, 1), (92, .goto 4, 3), (95, .iconst 0, 1), (96, .iand, 1), (97, .istore 4, 2), (99, .iinc 5 1, 3), (102, .goto (-96), 3), (105, .iload 4, 2), (107, .ireturn, 1)]
set_option maxRecDepth 20000 in
theorem dk_X8_isFreeAt_3 : dl_X8_isFreeAt_3.all (fun q => decide (decode cX8_isFreeAt q.1 = .ok (q.2.1, q.2.2))) = true := dq_all 79 (by decide +kernel)
def dl_X8_placeOn_0 : List (Nat × Instr × Nat) := [(0, .iconst 0, 1), (1, .istore_n 3, 1), (2, .iload_n 3, 1), (3, .sipush 144, 3), (6, .if_icmp .ge 19, 3), (9, .aload_n 0, 1), (10, .iload_n 1, 1), (11, .aload_n 2, 1), (12, .iload_n 3, 1), (13, .invokevirtual 182, 3), (16, .ifCond .ne 9, 3), (19, .iinc 3 1, 3), (22, .goto (-20), 3), (25, .iload_n 3, 1), (26, .sipush 144, 3), (29, .if_icmp .ge 7, 3)]
set_option maxRecDepth 20000 in
theorem dk_X8_placeOn_0 : dl_X8_placeOn_0.all (fun q => decide (decode cX8_placeOn q.1 = .ok (q.2.1, q.2.2))) = true := dq_all 0 (by decide +kernel)
def dl_X8_placeOn_1 : List (Nat × Instr × Nat) := [(32, .iload_n 3, 1), (33, .goto 4, 3), (36, .iconst (-1), 1), (37, .ireturn, 1)]
set_option maxRecDepth 20000 in
theorem dk_X8_placeOn_1 : dl_X8_placeOn_1.all (fun q => decide (decode cX8_placeOn q.1 = .ok (q.2.1, q.2.2))) = true := dq_all 32 (by decide +kernel)
def dl_X8_uses_0 : List (Nat × Instr × Nat) := [(0, .iconst 0, 1), (1, .istore 4, 2), (3, .iload 4, 2), (5, .sipush 144, 3), (8, .if_icmp .ge 28, 3), (11, .aload_n 3, 1), (12, .iload 4, 2), (14, .baload, 1), (15, .ifCond .eq 15, 3), (18, .aload_n 0, 1), (19, .getfield 50, 3), (22, .iload_n 1, 1), (23, .aaload, 1), (24, .iload 4, 2), (26, .iload_n 2, 1), (27, .iadd, 1)]
set_option maxRecDepth 20000 in
theorem dk_X8_uses_0 : dl_X8_uses_0.all (fun q => decide (decode cX8_uses q.1 = .ok (q.2.1, q.2.2))) = true := dq_all 0 (by decide +kernel)
def dl_X8_uses_1 : List (Nat × Instr × Nat) := [(28, .iconst 1, 1), (29, .bastore, 1), (30, .iinc 4 1, 3), (33, .goto (-30), 3), (36, .return_, 1)]
set_option maxRecDepth 20000 in
theorem dk_X8_uses_1 : dl_X8_uses_1.all (fun q => decide (decode cX8_uses q.1 = .ok (q.2.1, q.2.2))) = true := dq_all 28 (by decide +kernel)
def dl_X8_comesNew_0 : List (Nat × Instr × Nat) := [(0, .aload_n 0, 1), (1, .getfield 20, 3), (4, .iload_n 1, 1), (5, .iload_n 3, 1), (6, .castore, 1), (7, .aload_n 0, 1), (8, .getfield 23, 3), (11, .iload_n 1, 1), (12, .iload_n 2, 1), (13, .iastore, 1), (14, .aload_n 0, 1), (15, .getfield 26, 3), (18, .iload_n 1, 1), (19, .aload_n 0, 1), (20, .getfield 186, 3), (23, .iastore, 1)]
set_option maxRecDepth 20000 in
theorem dk_X8_comesNew_0 : dl_X8_comesNew_0.all (fun q => decide (decode cX8_comesNew q.1 = .ok (q.2.1, q.2.2))) = true := dq_all 0 (by decide +kernel)
def dl_X8_comesNew_1 : List (Nat × Instr × Nat) := [(24, .aload_n 0, 1), (25, .getfield 39, 3), (28, .iload_n 1, 1), (29, .iconst 0, 1), (30, .iastore, 1), (31, .iconst 0, 1), (32, .istore 4, 2), (34, .iload 4, 2), (36, .sipush 2000, 3), (39, .if_icmp .gt 19, 3), (42, .aload_n 0, 1), (43, .getfield 57, 3), (46, .iload_n 1, 1), (47, .aaload, 1), (48, .iload 4, 2), (50, .iconst 0, 1)]
set_option maxRecDepth 20000 in
theorem dk_X8_comesNew_1 : dl_X8_comesNew_1.all (fun q => decide (decode cX8_comesNew q.1 = .ok (q.2.1, q.2.2))) = true := dq_all 24 (by decide +kernel)
def dl_X8_comesNew_2 : List (Nat × Instr × Nat) := [(51, .bastore, 1), (52, .iinc 4 1, 3), (55, .goto (-21), 3), (58, .return_, 1)]
set_option maxRecDepth 20000 in
theorem dk_X8_comesNew_2 : dl_X8_comesNew_2.all (fun q => decide (decode cX8_comesNew q.1 = .ok (q.2.1, q.2.2))) = true := dq_all 51 (by decide +kernel)
def dl_X8_cut_0 : List (Nat × Instr × Nat) := [(0, .aload_n 0, 1), (1, .aload_n 0, 1), (2, .iload_n 1, 1), (3, .invokevirtual 176, 3), (6, .ifCond .ne 10, 3), (9, .iload_n 2, 1), (10, .invokestatic 102, 3), (13, .ifCond .eq 7, 3), (16, .iconst 1, 1), (17, .goto 4, 3), (20, .iconst 0, 1), (21, .iconst 1, 1), (22, .invokevirtual 86, 3), (25, .ifCond .eq 5, 3), (28, .iconst 0, 1), (29, .ireturn, 1)]
set_option maxRecDepth 20000 in
theorem dk_X8_cut_0 : dl_X8_cut_0.all (fun q => decide (decode cX8_cut q.1 = .ok (q.2.1, q.2.2))) = true := dq_all 0 (by decide +kernel)
def dl_X8_cut_1 : List (Nat × Instr × Nat) := [(30, .aload_n 0, 1), (31, .iload_n 2, 1), (32, .invokevirtual 147, 3), (35, .astore 4, 2), (37, .iload_n 3, 1), (38, .ifCond .eq 24, 3), (41, .aload_n 0, 1), (42, .getfield 47, 3), (45, .iload_n 1, 1), (46, .caload, 1), (47, .bipush 104, 2), (49, .if_icmp .ne 8, 3), (52, .bipush 118, 2), (54, .goto 14, 3), (57, .bipush 104, 2), (59, .goto 9, 3)]
set_option maxRecDepth 20000 in
theorem dk_X8_cut_1 : dl_X8_cut_1.all (fun q => decide (decode cX8_cut q.1 = .ok (q.2.1, q.2.2))) = true := dq_all 30 (by decide +kernel)
def dl_X8_cut_2 : List (Nat × Instr × Nat) := [(62, .aload_n 0, 1), (63, .getfield 47, 3), (66, .iload_n 1, 1), (67, .caload, 1), (68, .istore 5, 2), (70, .aload_n 0, 1), (71, .getfield 13, 3), (74, .iload_n 2, 1), (75, .iaload, 1), (76, .aload_n 0, 1), (77, .getfield 44, 3), (80, .iload_n 1, 1), (81, .aaload, 1), (82, .iconst 0, 1), (83, .iaload, 1), (84, .if_icmp .ne 25, 3)]
set_option maxRecDepth 20000 in
theorem dk_X8_cut_2 : dl_X8_cut_2.all (fun q => decide (decode cX8_cut q.1 = .ok (q.2.1, q.2.2))) = true := dq_all 62 (by decide +kernel)
def dl_X8_cut_3 : List (Nat × Instr × Nat) := [(87, .aload_n 0, 1), (88, .getfield 16, 3), (91, .iload_n 2, 1), (92, .caload, 1), (93, .bipush 45, 2), (95, .if_icmp .eq 18, 3), (98, .aload_n 0, 1), (99, .getfield 16, 3), (102, .iload_n 2, 1), (103, .caload, 1), (104, .iload 5, 2), (106, .if_icmp .eq 7, 3), (109, .iconst 1, 1), (110, .goto 4, 3), (113, .iconst 0, 1), (114, .istore 6, 2)]
set_option maxRecDepth 20000 in
theorem dk_X8_cut_3 : dl_X8_cut_3.all (fun q => decide (decode cX8_cut q.1 = .ok (q.2.1, q.2.2))) = true := dq_all 87 (by decide +kernel)
def dl_X8_cut_4 : List (Nat × Instr × Nat) := [(116, .aload_n 0, 1), (117, .aload_n 0, 1), (118, .iload_n 2, 1), (119, .invokevirtual 98, 3), (122, .ifCond .ne 18, 3), (125, .iload 6, 2), (127, .ifCond .ne 13, 3), (130, .aload 4, 2), (132, .invokestatic 151, 3), (135, .bipush 45, 2), (137, .if_icmp .eq 7, 3), (140, .iconst 1, 1), (141, .goto 4, 3), (144, .iconst 0, 1), (145, .iconst 2, 1), (146, .invokevirtual 86, 3)]
set_option maxRecDepth 20000 in
theorem dk_X8_cut_4 : dl_X8_cut_4.all (fun q => decide (decode cX8_cut q.1 = .ok (q.2.1, q.2.2))) = true := dq_all 116 (by decide +kernel)
def dl_X8_cut_5 : List (Nat × Instr × Nat) := [(149, .ifCond .eq 5, 3), (152, .iconst 0, 1), (153, .ireturn, 1), (154, .aload 4, 2), (156, .iload_n 3, 1), (157, .invokestatic 189, 3), (160, .astore 7, 2), (162, .aload_n 0, 1), (163, .iload_n 1, 1), (164, .aload 7, 2), (166, .invokevirtual 193, 3), (169, .istore 8, 2), (171, .aload_n 0, 1), (172, .iload 8, 2), (174, .iconst (-1), 1), (175, .if_icmp .eq 10, 3)]
set_option maxRecDepth 20000 in
theorem dk_X8_cut_5 : dl_X8_cut_5.all (fun q => decide (decode cX8_cut q.1 = .ok (q.2.1, q.2.2))) = true := dq_all 149 (by decide +kernel)
def dl_X8_cut_6 : List (Nat × Instr × Nat) := [(178, .aload_n 0, 1), (179, .invokevirtual 90, 3), (182, .ifCond .eq 7, 3), (185, .iconst 1, 1), (186, .goto 4, 3), (189, .iconst 0, 1), (190, .iconst 3, 1), (191, .invokevirtual 86, 3), (194, .ifCond .eq 5, 3), (197, .iconst 0, 1), (198, .ireturn, 1), (199, .aload_n 0, 1), (200, .iload_n 1, 1), (201, .iload 8, 2), (203, .aload 7, 2), (205, .invokevirtual 197, 3)]
set_option maxRecDepth 20000 in
theorem dk_X8_cut_6 : dl_X8_cut_6.all (fun q => decide (decode cX8_cut q.1 = .ok (q.2.1, q.2.2))) = true := dq_all 178 (by decide +kernel)
def dl_X8_cut_7 : List (Nat × Instr × Nat) := [(208, .aload_n 0, 1), (209, .aload_n 0, 1), (210, .getfield 67, 3), (213, .ldc2_w 201, 3), (216, .lmul, 1), (217, .ldc2_w 203, 3), (220, .lrem, 1), (221, .putfield 67, 3), (224, .aload_n 0, 1), (225, .getfield 67, 3), (228, .ldc2_w 205, 3), (231, .lrem, 1), (232, .ldc2_w 207, 3), (235, .aload 4, 2), (237, .invokestatic 141, 3), (240, .i2l, 1)]
set_option maxRecDepth 20000 in
theorem dk_X8_cut_7 : dl_X8_cut_7.all (fun q => decide (decode cX8_cut q.1 = .ok (q.2.1, q.2.2))) = true := dq_all 208 (by decide +kernel)
def dl_X8_cut_8 : List (Nat × Instr × Nat) := [(241, .lmul, 1), (242, .lcmp, 1), (243, .ifCond .ge 5, 3), (246, .iconst 0, 1), (247, .ireturn, 1), (248, .aload_n 0, 1), (249, .iload_n 2, 1), (250, .aload_n 0, 1), (251, .getfield 44, 3), (254, .iload_n 1, 1), (255, .aaload, 1), (256, .iconst 0, 1), (257, .iaload, 1), (258, .bipush 99, 2), (260, .invokevirtual 209, 3), (263, .iconst 1, 1)]
set_option maxRecDepth 20000 in
theorem dk_X8_cut_8 : dl_X8_cut_8.all (fun q => decide (decode cX8_cut q.1 = .ok (q.2.1, q.2.2))) = true := dq_all 241 (by decide +kernel)
def dl_X8_cut_9 : List (Nat × Instr × Nat) := [(264, .ireturn, 1)]
set_option maxRecDepth 20000 in
theorem dk_X8_cut_9 : dl_X8_cut_9.all (fun q => decide (decode cX8_cut q.1 = .ok (q.2.1, q.2.2))) = true := dq_all 264 (by decide +kernel)
def dl_X8_glass_0 : List (Nat × Instr × Nat) := [(0, .aload_n 0, 1), (1, .iload_n 1, 1), (2, .invokestatic 102, 3), (5, .iconst 1, 1), (6, .invokevirtual 86, 3), (9, .ifCond .eq 8, 3), (12, .bipush 32, 2), (14, .goto 9, 3), (17, .aload_n 0, 1), (18, .getfield 20, 3), (21, .iload_n 1, 1), (22, .caload, 1), (23, .ireturn, 1)]
set_option maxRecDepth 20000 in
theorem dk_X8_glass_0 : dl_X8_glass_0.all (fun q => decide (decode cX8_glass q.1 = .ok (q.2.1, q.2.2))) = true := dq_all 0 (by decide +kernel)
def dl_X8_colour_0 : List (Nat × Instr × Nat) := [(0, .aload_n 0, 1), (1, .iload_n 1, 1), (2, .invokestatic 102, 3), (5, .iconst 1, 1), (6, .invokevirtual 86, 3), (9, .ifCond .ne 24, 3), (12, .aload_n 0, 1), (13, .aload_n 0, 1), (14, .iload_n 1, 1), (15, .invokevirtual 98, 3), (18, .ifCond .ne 7, 3), (21, .iconst 1, 1), (22, .goto 4, 3), (25, .iconst 0, 1), (26, .iconst 2, 1), (27, .invokevirtual 86, 3)]
set_option maxRecDepth 20000 in
theorem dk_X8_colour_0 : dl_X8_colour_0.all (fun q => decide (decode cX8_colour q.1 = .ok (q.2.1, q.2.2))) = true := dq_all 0 (by decide +kernel)
def dl_X8_colour_1 : List (Nat × Instr × Nat) := [(30, .ifCond .eq 7, 3), (33, .iconst 0, 1), (34, .goto 9, 3), (37, .aload_n 0, 1), (38, .getfield 23, 3), (41, .iload_n 1, 1), (42, .iaload, 1), (43, .ireturn, 1)]
set_option maxRecDepth 20000 in
theorem dk_X8_colour_1 : dl_X8_colour_1.all (fun q => decide (decode cX8_colour q.1 = .ok (q.2.1, q.2.2))) = true := dq_all 30 (by decide +kernel)
def dl_X8_seed_0 : List (Nat × Instr × Nat) := [(0, .aload_n 0, 1), (1, .iload_n 1, 1), (2, .iconst 1, 1), (3, .ldc 213, 2), (5, .invokestatic 74, 3), (8, .ifCond .ne 7, 3), (11, .iconst 1, 1), (12, .goto 4, 3), (15, .iconst 0, 1), (16, .iconst 1, 1), (17, .invokevirtual 86, 3), (20, .ifCond .eq 5, 3), (23, .iconst 0, 1), (24, .ireturn, 1), (25, .aload_n 0, 1), (26, .getfield 67, 3)]
set_option maxRecDepth 20000 in
theorem dk_X8_seed_0 : dl_X8_seed_0.all (fun q => decide (decode cX8_seed q.1 = .ok (q.2.1, q.2.2))) = true := dq_all 0 (by decide +kernel)
def dl_X8_seed_1 : List (Nat × Instr × Nat) := [(29, .l2i, 1), (30, .istore_n 2, 1), (31, .aload_n 0, 1), (32, .iload_n 1, 1), (33, .i2l, 1), (34, .putfield 67, 3), (37, .iload_n 2, 1), (38, .ireturn, 1)]
set_option maxRecDepth 20000 in
theorem dk_X8_seed_1 : dl_X8_seed_1.all (fun q => decide (decode cX8_seed q.1 = .ok (q.2.1, q.2.2))) = true := dq_all 29 (by decide +kernel)
def dl_X8_hasStain_0 : List (Nat × Instr × Nat) := [(0, .iconst 0, 1), (1, .istore_n 2, 1), (2, .iconst 0, 1), (3, .istore_n 3, 1), (4, .iload_n 3, 1), (5, .aload_n 0, 1), (6, .getfield 39, 3), (9, .iload_n 1, 1), (10, .iaload, 1), (11, .if_icmp .ge 30, 3), (14, .iload_n 2, 1), (15, .aload_n 0, 1), (16, .getfield 31, 3), (19, .iload_n 1, 1), (20, .aaload, 1), (21, .iload_n 3, 1)]
set_option maxRecDepth 20000 in
theorem dk_X8_hasStain_0 : dl_X8_hasStain_0.all (fun q => decide (decode cX8_hasStain q.1 = .ok (q.2.1, q.2.2))) = true := dq_all 0 (by decide +kernel)
def dl_X8_hasStain_1 : List (Nat × Instr × Nat) := [(22, .caload, 1), (23, .bipush 115, 2), (25, .if_icmp .ne 7, 3), (28, .iconst 1, 1), (29, .goto 4, 3), (32, .iconst 0, 1), (33, .ior, 1), (34, .istore_n 2, 1), (35, .iinc 3 1, 3), (38, .goto (-34), 3), (41, .iload_n 2, 1), (42, .ireturn, 1)]
set_option maxRecDepth 20000 in
theorem dk_X8_hasStain_1 : dl_X8_hasStain_1.all (fun q => decide (decode cX8_hasStain q.1 = .ok (q.2.1, q.2.2))) = true := dq_all 22 (by decide +kernel)
def dl_X8_paint_0 : List (Nat × Instr × Nat) := [(0, .aload_n 0, 1), (1, .iload_n 1, 1), (2, .invokestatic 102, 3), (5, .iconst 1, 1), (6, .invokevirtual 86, 3), (9, .ifCond .ne 93, 3), (12, .aload_n 0, 1), (13, .ldc 214, 2), (15, .iload_n 2, 1), (16, .invokevirtual 216, 3), (19, .ifCond .ge 7, 3), (22, .iconst 1, 1), (23, .goto 4, 3), (26, .iconst 0, 1), (27, .iconst 2, 1), (28, .invokevirtual 86, 3)]
set_option maxRecDepth 20000 in
theorem dk_X8_paint_0 : dl_X8_paint_0.all (fun q => decide (decode cX8_paint q.1 = .ok (q.2.1, q.2.2))) = true := dq_all 0 (by decide +kernel)
def dl_X8_paint_1 : List (Nat × Instr × Nat) := [(31, .ifCond .ne 71, 3), (34, .aload_n 0, 1), (35, .aload_n 0, 1), (36, .getfield 20, 3), (39, .iload_n 1, 1), (40, .caload, 1), (41, .bipush 99, 2), (43, .if_icmp .ne 24, 3), (46, .iload_n 2, 1), (47, .bipush 115, 2), (49, .if_icmp .ne 11, 3), (52, .aload_n 0, 1), (53, .iload_n 1, 1), (54, .invokevirtual 221, 3), (57, .ifCond .ne 10, 3), (60, .aload_n 0, 1)]
set_option maxRecDepth 20000 in
theorem dk_X8_paint_1 : dl_X8_paint_1.all (fun q => decide (decode cX8_paint q.1 = .ok (q.2.1, q.2.2))) = true := dq_all 31 (by decide +kernel)
def dl_X8_paint_2 : List (Nat × Instr × Nat) := [(61, .invokevirtual 90, 3), (64, .ifCond .eq 7, 3), (67, .iconst 1, 1), (68, .goto 4, 3), (71, .iconst 0, 1), (72, .iconst 3, 1), (73, .invokevirtual 86, 3), (76, .ifCond .ne 26, 3), (79, .aload_n 0, 1), (80, .aload_n 0, 1), (81, .getfield 39, 3), (84, .iload_n 1, 1), (85, .iaload, 1), (86, .iconst 5, 1), (87, .if_icmp .ne 7, 3), (90, .iconst 1, 1)]
set_option maxRecDepth 20000 in
theorem dk_X8_paint_2 : dl_X8_paint_2.all (fun q => decide (decode cX8_paint q.1 = .ok (q.2.1, q.2.2))) = true := dq_all 61 (by decide +kernel)
def dl_X8_paint_3 : List (Nat × Instr × Nat) := [(91, .goto 4, 3), (94, .iconst 0, 1), (95, .iconst 4, 1), (96, .invokevirtual 86, 3), (99, .ifCond .eq 5, 3), (102, .iconst 0, 1), (103, .ireturn, 1), (104, .aload_n 0, 1), (105, .getfield 31, 3), (108, .iload_n 1, 1), (109, .aaload, 1), (110, .aload_n 0, 1), (111, .getfield 39, 3), (114, .iload_n 1, 1), (115, .iaload, 1), (116, .iload_n 2, 1)]
set_option maxRecDepth 20000 in
theorem dk_X8_paint_3 : dl_X8_paint_3.all (fun q => decide (decode cX8_paint q.1 = .ok (q.2.1, q.2.2))) = true := dq_all 91 (by decide +kernel)
def dl_X8_paint_4 : List (Nat × Instr × Nat) := [(117, .castore, 1), (118, .aload_n 0, 1), (119, .getfield 36, 3), (122, .iload_n 1, 1), (123, .aaload, 1), (124, .aload_n 0, 1), (125, .getfield 39, 3), (128, .iload_n 1, 1), (129, .iaload, 1), (130, .iconst 0, 1), (131, .bastore, 1), (132, .aload_n 0, 1), (133, .getfield 39, 3), (136, .iload_n 1, 1), (137, .dup2, 1), (138, .iaload, 1)]
set_option maxRecDepth 20000 in
theorem dk_X8_paint_4 : dl_X8_paint_4.all (fun q => decide (decode cX8_paint q.1 = .ok (q.2.1, q.2.2))) = true := dq_all 117 (by decide +kernel)
def dl_X8_paint_5 : List (Nat × Instr × Nat) := [(139, .iconst 1, 1), (140, .iadd, 1), (141, .iastore, 1), (142, .aload_n 0, 1), (143, .getfield 39, 3), (146, .iload_n 1, 1), (147, .iaload, 1), (148, .ireturn, 1)]
set_option maxRecDepth 20000 in
theorem dk_X8_paint_5 : dl_X8_paint_5.all (fun q => decide (decode cX8_paint q.1 = .ok (q.2.1, q.2.2))) = true := dq_all 139 (by decide +kernel)
def dl_X8_fires_0 : List (Nat × Instr × Nat) := [(0, .iconst 0, 1), (1, .istore_n 3, 1), (2, .iconst 0, 1), (3, .istore 4, 2), (5, .iconst 0, 1), (6, .istore 5, 2), (8, .iload 5, 2), (10, .aload_n 0, 1), (11, .getfield 39, 3), (14, .iload_n 1, 1), (15, .iaload, 1), (16, .if_icmp .ge 120, 3), (19, .aload_n 0, 1), (20, .getfield 31, 3), (23, .iload_n 1, 1), (24, .aaload, 1)]
set_option maxRecDepth 20000 in
theorem dk_X8_fires_0 : dl_X8_fires_0.all (fun q => decide (decode cX8_fires q.1 = .ok (q.2.1, q.2.2))) = true := dq_all 0 (by decide +kernel)
def dl_X8_fires_1 : List (Nat × Instr × Nat) := [(25, .iload 5, 2), (27, .caload, 1), (28, .istore 6, 2), (30, .aload_n 0, 1), (31, .getfield 36, 3), (34, .iload_n 1, 1), (35, .aaload, 1), (36, .iload 5, 2), (38, .baload, 1), (39, .istore 7, 2), (41, .getstatic 224, 3), (44, .ldc 214, 2), (46, .iload 6, 2), (48, .invokevirtual 216, 3), (51, .iaload, 1), (52, .istore 8, 2)]
set_option maxRecDepth 20000 in
theorem dk_X8_fires_1 : dl_X8_fires_1.all (fun q => decide (decode cX8_fires q.1 = .ok (q.2.1, q.2.2))) = true := dq_all 25 (by decide +kernel)
def dl_X8_fires_2 : List (Nat × Instr × Nat) := [(54, .iload 7, 2), (56, .ifCond .ne 15, 3), (59, .iload 8, 2), (61, .iload_n 2, 1), (62, .isub, 1), (63, .invokestatic 227, 3), (66, .bipush 15, 2), (68, .if_icmp .gt 7, 3), (71, .iconst 1, 1), (72, .goto 4, 3), (75, .iconst 0, 1), (76, .istore 9, 2), (78, .iload 8, 2), (80, .iload_n 2, 1), (81, .bipush 15, 2), (83, .isub, 1)]
set_option maxRecDepth 20000 in
theorem dk_X8_fires_2 : dl_X8_fires_2.all (fun q => decide (decode cX8_fires q.1 = .ok (q.2.1, q.2.2))) = true := dq_all 54 (by decide +kernel)
def dl_X8_fires_3 : List (Nat × Instr × Nat) := [(84, .if_icmp .lt 46, 3), (87, .aload_n 0, 1), (88, .getfield 31, 3), (91, .iload_n 1, 1), (92, .aaload, 1), (93, .iload 4, 2), (95, .iload 6, 2), (97, .castore, 1), (98, .aload_n 0, 1), (99, .getfield 36, 3), (102, .iload_n 1, 1), (103, .aaload, 1), (104, .iload 4, 2), (106, .iload 9, 2), (108, .bastore, 1), (109, .iload_n 3, 1)]
set_option maxRecDepth 20000 in
theorem dk_X8_fires_3 : dl_X8_fires_3.all (fun q => decide (decode cX8_fires q.1 = .ok (q.2.1, q.2.2))) = true := dq_all 84 (by decide +kernel)
def dl_X8_fires_4 : List (Nat × Instr × Nat) := [(110, .iload 9, 2), (112, .ifCond .eq 12, 3), (115, .iload 7, 2), (117, .ifCond .ne 7, 3), (120, .iconst 1, 1), (121, .goto 4, 3), (124, .iconst 0, 1), (125, .iadd, 1), (126, .istore_n 3, 1), (127, .iinc 4 1, 3), (130, .iinc 5 1, 3), (133, .goto (-125), 3), (136, .aload_n 0, 1), (137, .getfield 39, 3), (140, .iload_n 1, 1), (141, .iload 4, 2)]
set_option maxRecDepth 20000 in
theorem dk_X8_fires_4 : dl_X8_fires_4.all (fun q => decide (decode cX8_fires q.1 = .ok (q.2.1, q.2.2))) = true := dq_all 110 (by decide +kernel)
def dl_X8_fires_5 : List (Nat × Instr × Nat) := [(143, .iastore, 1), (144, .iload_n 3, 1), (145, .ireturn, 1)]
set_option maxRecDepth 20000 in
theorem dk_X8_fires_5 : dl_X8_fires_5.all (fun q => decide (decode cX8_fires q.1 = .ok (q.2.1, q.2.2))) = true := dq_all 143 (by decide +kernel)
def dl_X8_fire_0 : List (Nat × Instr × Nat) := [(0, .iload_n 1, 1), (1, .ifCond .le 35, 3), (4, .iload_n 1, 1), (5, .ldc 230, 2), (7, .if_icmp .ge 29, 3), (10, .iload_n 1, 1), (11, .invokestatic 231, 3), (14, .bipush 6, 2), (16, .if_icmp .gt 20, 3), (19, .iload_n 2, 1), (20, .sipush 500, 3), (23, .sipush 700, 3), (26, .invokestatic 74, 3), (29, .ifCond .eq 7, 3), (32, .iconst 1, 1), (33, .goto 4, 3)]
set_option maxRecDepth 20000 in
theorem dk_X8_fire_0 : dl_X8_fire_0.all (fun q => decide (decode cX8_fire q.1 = .ok (q.2.1, q.2.2))) = true := dq_all 0 (by decide +kernel)
def dl_X8_fire_1 : List (Nat × Instr × Nat) := [(36, .iconst 0, 1), (37, .istore_n 3, 1), (38, .aload_n 0, 1), (39, .iload_n 3, 1), (40, .ifCond .ne 7, 3), (43, .iconst 1, 1), (44, .goto 4, 3), (47, .iconst 0, 1), (48, .iconst 1, 1), (49, .invokevirtual 86, 3), (52, .ifCond .eq 5, 3), (55, .iconst 0, 1), (56, .ireturn, 1), (57, .aload_n 0, 1), (58, .invokevirtual 90, 3), (61, .ifCond .ne 7, 3)]
set_option maxRecDepth 20000 in
theorem dk_X8_fire_1 : dl_X8_fire_1.all (fun q => decide (decode cX8_fire q.1 = .ok (q.2.1, q.2.2))) = true := dq_all 36 (by decide +kernel)
def dl_X8_fire_2 : List (Nat × Instr × Nat) := [(64, .iconst 1, 1), (65, .goto 4, 3), (68, .iconst 0, 1), (69, .istore 4, 2), (71, .iconst 0, 1), (72, .istore 5, 2), (74, .iload 5, 2), (76, .bipush 30, 2), (78, .if_icmp .ge 40, 3), (81, .iload 4, 2), (83, .iload_n 1, 1), (84, .iload 5, 2), (86, .ishr, 1), (87, .iconst 1, 1), (88, .iand, 1), (89, .ifCond .eq 15, 3)]
set_option maxRecDepth 20000 in
theorem dk_X8_fire_2 : dl_X8_fire_2.all (fun q => decide (decode cX8_fire q.1 = .ok (q.2.1, q.2.2))) = true := dq_all 64 (by decide +kernel)
def dl_X8_fire_3 : List (Nat × Instr × Nat) := [(92, .aload_n 0, 1), (93, .getfield 20, 3), (96, .iload 5, 2), (98, .caload, 1), (99, .bipush 99, 2), (101, .if_icmp .ne 7, 3), (104, .iconst 1, 1), (105, .goto 4, 3), (108, .iconst 0, 1), (109, .iand, 1), (110, .istore 4, 2), (112, .iinc 5 1, 3), (115, .goto (-41), 3), (118, .aload_n 0, 1), (119, .iload 4, 2), (121, .ifCond .ne 7, 3)]
set_option maxRecDepth 20000 in
theorem dk_X8_fire_3 : dl_X8_fire_3.all (fun q => decide (decode cX8_fire q.1 = .ok (q.2.1, q.2.2))) = true := dq_all 92 (by decide +kernel)
def dl_X8_fire_4 : List (Nat × Instr × Nat) := [(124, .iconst 1, 1), (125, .goto 4, 3), (128, .iconst 0, 1), (129, .iconst 2, 1), (130, .invokevirtual 86, 3), (133, .ifCond .eq 5, 3), (136, .iconst 0, 1), (137, .ireturn, 1), (138, .iconst 0, 1), (139, .istore 5, 2), (141, .iconst 0, 1), (142, .istore 6, 2), (144, .iload 6, 2), (146, .bipush 30, 2), (148, .if_icmp .ge 35, 3), (151, .iload 5, 2)]
set_option maxRecDepth 20000 in
theorem dk_X8_fire_4 : dl_X8_fire_4.all (fun q => decide (decode cX8_fire q.1 = .ok (q.2.1, q.2.2))) = true := dq_all 124 (by decide +kernel)
def dl_X8_fire_5 : List (Nat × Instr × Nat) := [(153, .iload_n 1, 1), (154, .iload 6, 2), (156, .ishr, 1), (157, .iconst 1, 1), (158, .iand, 1), (159, .iconst 1, 1), (160, .if_icmp .ne 13, 3), (163, .aload_n 0, 1), (164, .iload 6, 2), (166, .iload_n 2, 1), (167, .invokevirtual 236, 3), (170, .goto 4, 3), (173, .iconst 0, 1), (174, .iadd, 1), (175, .istore 5, 2), (177, .iinc 6 1, 3)]
set_option maxRecDepth 20000 in
theorem dk_X8_fire_5 : dl_X8_fire_5.all (fun q => decide (decode cX8_fire q.1 = .ok (q.2.1, q.2.2))) = true := dq_all 153 (by decide +kernel)
def dl_X8_fire_6 : List (Nat × Instr × Nat) := [(180, .goto (-36), 3), (183, .iload 5, 2), (185, .ireturn, 1)]
set_option maxRecDepth 20000 in
theorem dk_X8_fire_6 : dl_X8_fire_6.all (fun q => decide (decode cX8_fire q.1 = .ok (q.2.1, q.2.2))) = true := dq_all 180 (by decide +kernel)
def dl_X8_layersOf_0 : List (Nat × Instr × Nat) := [(0, .iconst 0, 1), (1, .istore_n 3, 1), (2, .iconst 0, 1), (3, .istore 4, 2), (5, .iload 4, 2), (7, .aload_n 0, 1), (8, .getfield 39, 3), (11, .iload_n 1, 1), (12, .iaload, 1), (13, .if_icmp .ge 30, 3), (16, .iload_n 3, 1), (17, .aload_n 0, 1), (18, .getfield 36, 3), (21, .iload_n 1, 1), (22, .aaload, 1), (23, .iload 4, 2)]
set_option maxRecDepth 20000 in
theorem dk_X8_layersOf_0 : dl_X8_layersOf_0.all (fun q => decide (decode cX8_layersOf q.1 = .ok (q.2.1, q.2.2))) = true := dq_all 0 (by decide +kernel)
def dl_X8_layersOf_1 : List (Nat × Instr × Nat) := [(25, .baload, 1), (26, .iload_n 2, 1), (27, .if_icmp .ne 7, 3), (30, .iconst 1, 1), (31, .goto 4, 3), (34, .iconst 0, 1), (35, .iadd, 1), (36, .istore_n 3, 1), (37, .iinc 4 1, 3), (40, .goto (-35), 3), (43, .iload_n 3, 1), (44, .ireturn, 1)]
set_option maxRecDepth 20000 in
theorem dk_X8_layersOf_1 : dl_X8_layersOf_1.all (fun q => decide (decode cX8_layersOf q.1 = .ok (q.2.1, q.2.2))) = true := dq_all 25 (by decide +kernel)
def dl_X8_layers_0 : List (Nat × Instr × Nat) := [(0, .aload_n 0, 1), (1, .iload_n 1, 1), (2, .invokestatic 102, 3), (5, .iconst 1, 1), (6, .invokevirtual 86, 3), (9, .ifCond .ne 28, 3), (12, .aload_n 0, 1), (13, .iload_n 2, 1), (14, .bipush 114, 2), (16, .if_icmp .eq 13, 3), (19, .iload_n 2, 1), (20, .bipush 102, 2), (22, .if_icmp .eq 7, 3), (25, .iconst 1, 1), (26, .goto 4, 3), (29, .iconst 0, 1)]
set_option maxRecDepth 20000 in
theorem dk_X8_layers_0 : dl_X8_layers_0.all (fun q => decide (decode cX8_layers q.1 = .ok (q.2.1, q.2.2))) = true := dq_all 0 (by decide +kernel)
def dl_X8_layers_1 : List (Nat × Instr × Nat) := [(30, .iconst 2, 1), (31, .invokevirtual 86, 3), (34, .ifCond .eq 7, 3), (37, .iconst 0, 1), (38, .goto 19, 3), (41, .aload_n 0, 1), (42, .iload_n 1, 1), (43, .iload_n 2, 1), (44, .bipush 102, 2), (46, .if_icmp .ne 7, 3), (49, .iconst 1, 1), (50, .goto 4, 3), (53, .iconst 0, 1), (54, .invokevirtual 239, 3), (57, .ireturn, 1)]
set_option maxRecDepth 20000 in
theorem dk_X8_layers_1 : dl_X8_layers_1.all (fun q => decide (decode cX8_layers q.1 = .ok (q.2.1, q.2.2))) = true := dq_all 30 (by decide +kernel)
def dl_X8_isClear_0 : List (Nat × Instr × Nat) := [(0, .iconst 1, 1), (1, .istore_n 3, 1), (2, .iconst 0, 1), (3, .istore 4, 2), (5, .iload 4, 2), (7, .sipush 144, 3), (10, .if_icmp .ge 138, 3), (13, .aload_n 0, 1), (14, .iload 4, 2), (16, .bipush 12, 2), (18, .irem, 1), (19, .iconst 1, 1), (20, .isub, 1), (21, .iload 4, 2), (23, .bipush 12, 2), (25, .idiv, 1)]
set_option maxRecDepth 20000 in
theorem dk_X8_isClear_0 : dl_X8_isClear_0.all (fun q => decide (decode cX8_isClear q.1 = .ok (q.2.1, q.2.2))) = true := dq_all 0 (by decide +kernel)
def dl_X8_isClear_1 : List (Nat × Instr × Nat) := [(26, .invokevirtual 94, 3), (29, .istore 5, 2), (31, .aload_n 0, 1), (32, .iload 4, 2), (34, .bipush 12, 2), (36, .irem, 1), (37, .iload 4, 2), (39, .bipush 12, 2), (41, .idiv, 1), (42, .iconst 1, 1), (43, .isub, 1), (44, .invokevirtual 94, 3), (47, .istore 6, 2), (49, .iload 5, 2), (51, .iload_n 1, 1), (52, .if_icmp .eq 22, 3)]
set_option maxRecDepth 20000 in
theorem dk_X8_isClear_1 : dl_X8_isClear_1.all (fun q => decide (decode cX8_isClear q.1 = .ok (q.2.1, q.2.2))) = true := dq_all 26 (by decide +kernel)
def dl_X8_isClear_2 : List (Nat × Instr × Nat) := [(55, .iload 5, 2), (57, .bipush (-2), 2), (59, .if_icmp .eq 15, 3), (62, .iload 5, 2), (64, .ifCond .lt 14, 3), (67, .aload_n 2, 1), (68, .iload 5, 2), (70, .baload, 1), (71, .ifCond .eq 7, 3), (74, .iconst 1, 1), (75, .goto 4, 3), (78, .iconst 0, 1), (79, .istore 7, 2), (81, .iload 6, 2), (83, .iload_n 1, 1), (84, .if_icmp .eq 22, 3)]
set_option maxRecDepth 20000 in
theorem dk_X8_isClear_2 : dl_X8_isClear_2.all (fun q => decide (decode cX8_isClear q.1 = .ok (q.2.1, q.2.2))) = true := dq_all 55 (by decide +kernel)
def dl_X8_isClear_3 : List (Nat × Instr × Nat) := [(87, .iload 6, 2), (89, .bipush (-2), 2), (91, .if_icmp .eq 15, 3), (94, .iload 6, 2), (96, .ifCond .lt 14, 3), (99, .aload_n 2, 1), (100, .iload 6, 2), (102, .baload, 1), (103, .ifCond .eq 7, 3), (106, .iconst 1, 1), (107, .goto 4, 3), (110, .iconst 0, 1), (111, .istore 8, 2), (113, .iload_n 3, 1), (114, .aload_n 0, 1), (115, .getfield 9, 3)]
set_option maxRecDepth 20000 in
theorem dk_X8_isClear_3 : dl_X8_isClear_3.all (fun q => decide (decode cX8_isClear q.1 = .ok (q.2.1, q.2.2))) = true := dq_all 87 (by decide +kernel)
def dl_X8_isClear_4 : List (Nat × Instr × Nat) := [(118, .iload 4, 2), (120, .iaload, 1), (121, .iload_n 1, 1), (122, .if_icmp .ne 13, 3), (125, .iload 7, 2), (127, .ifCond .eq 12, 3), (130, .iload 8, 2), (132, .ifCond .eq 7, 3), (135, .iconst 1, 1), (136, .goto 4, 3), (139, .iconst 0, 1), (140, .iand, 1), (141, .istore_n 3, 1), (142, .iinc 4 1, 3), (145, .goto (-140), 3), (148, .iload_n 3, 1)]
set_option maxRecDepth 20000 in
theorem dk_X8_isClear_4 : dl_X8_isClear_4.all (fun q => decide (decode cX8_isClear q.1 = .ok (q.2.1, q.2.2))) = true := dq_all 118 (by decide +kernel)
def dl_X8_isClear_5 : List (Nat × Instr × Nat) := [(149, .ireturn, 1)]
set_option maxRecDepth 20000 in
theorem dk_X8_isClear_5 : dl_X8_isClear_5.all (fun q => decide (decode cX8_isClear q.1 = .ok (q.2.1, q.2.2))) = true := dq_all 149 (by decide +kernel)
def dl_X8_nextNow_0 : List (Nat × Instr × Nat) := [(0, .bipush 30, 2), (2, .newarray .boolean, 2), (4, .astore_n 1, 1), (5, .iconst 0, 1), (6, .istore_n 2, 1), (7, .iload_n 2, 1), (8, .bipush 30, 2), (10, .if_icmp .ge 28, 3), (13, .aload_n 1, 1), (14, .iload_n 2, 1), (15, .aload_n 0, 1), (16, .getfield 20, 3), (19, .iload_n 2, 1), (20, .caload, 1), (21, .bipush 108, 2), (23, .if_icmp .ne 7, 3)]
set_option maxRecDepth 20000 in
theorem dk_X8_nextNow_0 : dl_X8_nextNow_0.all (fun q => decide (decode cX8_nextNow q.1 = .ok (q.2.1, q.2.2))) = true := dq_all 0 (by decide +kernel)
def dl_X8_nextNow_1 : List (Nat × Instr × Nat) := [(26, .iconst 1, 1), (27, .goto 4, 3), (30, .iconst 0, 1), (31, .bastore, 1), (32, .iinc 2 1, 3), (35, .goto (-28), 3), (38, .iconst (-1), 1), (39, .istore_n 2, 1), (40, .bipush 29, 2), (42, .istore_n 3, 1), (43, .iload_n 3, 1), (44, .ifCond .lt 56, 3), (47, .aload_n 0, 1), (48, .getfield 20, 3), (51, .iload_n 3, 1), (52, .caload, 1)]
set_option maxRecDepth 20000 in
theorem dk_X8_nextNow_1 : dl_X8_nextNow_1.all (fun q => decide (decode cX8_nextNow q.1 = .ok (q.2.1, q.2.2))) = true := dq_all 26 (by decide +kernel)
def dl_X8_nextNow_2 : List (Nat × Instr × Nat) := [(53, .bipush 99, 2), (55, .if_icmp .ne 25, 3), (58, .aload_n 0, 1), (59, .iload_n 3, 1), (60, .iconst 0, 1), (61, .invokevirtual 239, 3), (64, .ifCond .ne 16, 3), (67, .aload_n 0, 1), (68, .iload_n 3, 1), (69, .aload_n 1, 1), (70, .invokevirtual 243, 3), (73, .ifCond .eq 7, 3), (76, .iconst 1, 1), (77, .goto 4, 3), (80, .iconst 0, 1), (81, .istore 4, 2)]
set_option maxRecDepth 20000 in
theorem dk_X8_nextNow_2 : dl_X8_nextNow_2.all (fun q => decide (decode cX8_nextNow q.1 = .ok (q.2.1, q.2.2))) = true := dq_all 53 (by decide +kernel)
def dl_X8_nextNow_3 : List (Nat × Instr × Nat) := [(83, .iload 4, 2), (85, .ifCond .eq 7, 3), (88, .iload_n 3, 1), (89, .goto 4, 3), (92, .iload_n 2, 1), (93, .istore_n 2, 1), (94, .iinc 3 (-1), 3), (97, .goto (-54), 3), (100, .iload_n 2, 1), (101, .ireturn, 1)]
set_option maxRecDepth 20000 in
theorem dk_X8_nextNow_3 : dl_X8_nextNow_3.all (fun q => decide (decode cX8_nextNow q.1 = .ok (q.2.1, q.2.2))) = true := dq_all 83 (by decide +kernel)
def dl_X8_hasBare_0 : List (Nat × Instr × Nat) := [(0, .iconst 0, 1), (1, .istore_n 1, 1), (2, .aload_n 0, 1), (3, .getfield 9, 3), (6, .astore_n 2, 1), (7, .aload_n 2, 1), (8, .arraylength, 1), (9, .istore_n 3, 1), (10, .iconst 0, 1), (11, .istore 4, 2), (13, .iload 4, 2), (15, .iload_n 3, 1), (16, .if_icmp .ge 29, 3), (19, .aload_n 2, 1), (20, .iload 4, 2), (22, .iaload, 1)]
set_option maxRecDepth 20000 in
theorem dk_X8_hasBare_0 : dl_X8_hasBare_0.all (fun q => decide (decode cX8_hasBare q.1 = .ok (q.2.1, q.2.2))) = true := dq_all 0 (by decide +kernel)
def dl_X8_hasBare_1 : List (Nat × Instr × Nat) := [(23, .istore 5, 2), (25, .iload_n 1, 1), (26, .iload 5, 2), (28, .iconst (-1), 1), (29, .if_icmp .ne 7, 3), (32, .iconst 1, 1), (33, .goto 4, 3), (36, .iconst 0, 1), (37, .ior, 1), (38, .istore_n 1, 1), (39, .iinc 4 1, 3), (42, .goto (-29), 3), (45, .iload_n 1, 1), (46, .ireturn, 1)]
set_option maxRecDepth 20000 in
theorem dk_X8_hasBare_1 : dl_X8_hasBare_1.all (fun q => decide (decode cX8_hasBare q.1 = .ok (q.2.1, q.2.2))) = true := dq_all 23 (by decide +kernel)
def dl_X8_isOrderly_0 : List (Nat × Instr × Nat) := [(0, .aload_n 0, 1), (1, .iconst 0, 1), (2, .putfield 71, 3), (5, .bipush 30, 2), (7, .newarray .boolean, 2), (9, .astore_n 1, 1), (10, .iconst 1, 1), (11, .istore_n 2, 1), (12, .iload_n 2, 1), (13, .ifCond .eq 65, 3), (16, .iconst 0, 1), (17, .istore_n 2, 1), (18, .iconst 0, 1), (19, .istore_n 3, 1), (20, .iload_n 3, 1), (21, .bipush 30, 2)]
set_option maxRecDepth 20000 in
theorem dk_X8_isOrderly_0 : dl_X8_isOrderly_0.all (fun q => decide (decode cX8_isOrderly q.1 = .ok (q.2.1, q.2.2))) = true := dq_all 0 (by decide +kernel)
def dl_X8_isOrderly_1 : List (Nat × Instr × Nat) := [(23, .if_icmp .ge 52, 3), (26, .aload_n 1, 1), (27, .iload_n 3, 1), (28, .baload, 1), (29, .ifCond .ne 24, 3), (32, .aload_n 0, 1), (33, .iload_n 3, 1), (34, .invokevirtual 105, 3), (37, .ifCond .le 16, 3), (40, .aload_n 0, 1), (41, .iload_n 3, 1), (42, .aload_n 1, 1), (43, .invokevirtual 243, 3), (46, .ifCond .eq 7, 3), (49, .iconst 1, 1), (50, .goto 4, 3)]
set_option maxRecDepth 20000 in
theorem dk_X8_isOrderly_1 : dl_X8_isOrderly_1.all (fun q => decide (decode cX8_isOrderly q.1 = .ok (q.2.1, q.2.2))) = true := dq_all 23 (by decide +kernel)
def dl_X8_isOrderly_2 : List (Nat × Instr × Nat) := [(53, .iconst 0, 1), (54, .istore 4, 2), (56, .aload_n 1, 1), (57, .iload_n 3, 1), (58, .dup2, 1), (59, .baload, 1), (60, .iload 4, 2), (62, .ior, 1), (63, .bastore, 1), (64, .iload_n 2, 1), (65, .iload 4, 2), (67, .ior, 1), (68, .istore_n 2, 1), (69, .iinc 3 1, 3), (72, .goto (-52), 3), (75, .goto (-63), 3)]
set_option maxRecDepth 20000 in
theorem dk_X8_isOrderly_2 : dl_X8_isOrderly_2.all (fun q => decide (decode cX8_isOrderly q.1 = .ok (q.2.1, q.2.2))) = true := dq_all 53 (by decide +kernel)
def dl_X8_isOrderly_3 : List (Nat × Instr × Nat) := [(78, .aload_n 0, 1), (79, .invokevirtual 247, 3), (82, .ifCond .ne 7, 3), (85, .iconst 1, 1), (86, .goto 4, 3), (89, .iconst 0, 1), (90, .istore_n 3, 1), (91, .iconst 0, 1), (92, .istore 4, 2), (94, .iload 4, 2), (96, .bipush 30, 2), (98, .if_icmp .ge 33, 3), (101, .iload_n 3, 1), (102, .aload_n 1, 1), (103, .iload 4, 2), (105, .baload, 1)]
set_option maxRecDepth 20000 in
theorem dk_X8_isOrderly_3 : dl_X8_isOrderly_3.all (fun q => decide (decode cX8_isOrderly q.1 = .ok (q.2.1, q.2.2))) = true := dq_all 78 (by decide +kernel)
def dl_X8_isOrderly_4 : List (Nat × Instr × Nat) := [(106, .ifCond .ne 12, 3), (109, .aload_n 0, 1), (110, .iload 4, 2), (112, .invokevirtual 105, 3), (115, .ifCond .ne 7, 3), (118, .iconst 1, 1), (119, .goto 4, 3), (122, .iconst 0, 1), (123, .iand, 1), (124, .istore_n 3, 1), (125, .iinc 4 1, 3), (128, .goto (-34), 3), (131, .iload_n 3, 1), (132, .ireturn, 1)]
set_option maxRecDepth 20000 in
theorem dk_X8_isOrderly_4 : dl_X8_isOrderly_4.all (fun q => decide (decode cX8_isOrderly q.1 = .ok (q.2.1, q.2.2))) = true := dq_all 106 (by decide +kernel)
def dl_X8_next_0 : List (Nat × Instr × Nat) := [(0, .aload_n 0, 1), (1, .aload_n 0, 1), (2, .invokevirtual 250, 3), (5, .iconst (-1), 1), (6, .if_icmp .ne 7, 3), (9, .iconst 1, 1), (10, .goto 4, 3), (13, .iconst 0, 1), (14, .iconst 1, 1), (15, .invokevirtual 86, 3), (18, .ifCond .eq 7, 3), (21, .iconst 0, 1), (22, .goto 7, 3), (25, .aload_n 0, 1), (26, .invokevirtual 250, 3), (29, .ireturn, 1)]
set_option maxRecDepth 20000 in
theorem dk_X8_next_0 : dl_X8_next_0.all (fun q => decide (decode cX8_next q.1 = .ok (q.2.1, q.2.2))) = true := dq_all 0 (by decide +kernel)
def dl_X8_comes_0 : List (Nat × Instr × Nat) := [(0, .aload_n 0, 1), (1, .invokevirtual 250, 3), (4, .istore_n 1, 1), (5, .aload_n 0, 1), (6, .iload_n 1, 1), (7, .iconst (-1), 1), (8, .if_icmp .ne 7, 3), (11, .iconst 1, 1), (12, .goto 4, 3), (15, .iconst 0, 1), (16, .iconst 1, 1), (17, .invokevirtual 86, 3), (20, .ifCond .eq 5, 3), (23, .iconst 0, 1), (24, .ireturn, 1), (25, .aload_n 0, 1)]
set_option maxRecDepth 20000 in
theorem dk_X8_comes_0 : dl_X8_comes_0.all (fun q => decide (decode cX8_comes q.1 = .ok (q.2.1, q.2.2))) = true := dq_all 0 (by decide +kernel)
def dl_X8_comes_1 : List (Nat × Instr × Nat) := [(26, .getfield 20, 3), (29, .iload_n 1, 1), (30, .bipush 108, 2), (32, .castore, 1), (33, .iload_n 1, 1), (34, .ireturn, 1)]
set_option maxRecDepth 20000 in
theorem dk_X8_comes_1 : dl_X8_comes_1.all (fun q => decide (decode cX8_comes q.1 = .ok (q.2.1, q.2.2))) = true := dq_all 26 (by decide +kernel)
def dl_X8_solder_0 : List (Nat × Instr × Nat) := [(0, .aload_n 0, 1), (1, .invokevirtual 90, 3), (4, .ifCond .ne 14, 3), (7, .aload_n 0, 1), (8, .invokevirtual 247, 3), (11, .ifCond .ne 7, 3), (14, .iconst 1, 1), (15, .goto 4, 3), (18, .iconst 0, 1), (19, .istore_n 1, 1), (20, .iconst 0, 1), (21, .istore_n 2, 1), (22, .iconst 0, 1), (23, .istore_n 3, 1), (24, .iload_n 3, 1), (25, .bipush 30, 2)]
set_option maxRecDepth 20000 in
theorem dk_X8_solder_0 : dl_X8_solder_0.all (fun q => decide (decode cX8_solder q.1 = .ok (q.2.1, q.2.2))) = true := dq_all 0 (by decide +kernel)
def dl_X8_solder_1 : List (Nat × Instr × Nat) := [(27, .if_icmp .ge 61, 3), (30, .aload_n 0, 1), (31, .iload_n 3, 1), (32, .invokevirtual 105, 3), (35, .ifCond .le 7, 3), (38, .iconst 1, 1), (39, .goto 4, 3), (42, .iconst 0, 1), (43, .istore 4, 2), (45, .iload_n 1, 1), (46, .iload 4, 2), (48, .ifCond .eq 14, 3), (51, .aload_n 0, 1), (52, .getfield 20, 3), (55, .iload_n 3, 1), (56, .caload, 1)]
set_option maxRecDepth 20000 in
theorem dk_X8_solder_1 : dl_X8_solder_1.all (fun q => decide (decode cX8_solder q.1 = .ok (q.2.1, q.2.2))) = true := dq_all 27 (by decide +kernel)
def dl_X8_solder_2 : List (Nat × Instr × Nat) := [(57, .bipush 108, 2), (59, .if_icmp .ne 7, 3), (62, .iconst 1, 1), (63, .goto 4, 3), (66, .iconst 0, 1), (67, .iand, 1), (68, .istore_n 1, 1), (69, .iload_n 2, 1), (70, .iload 4, 2), (72, .ifCond .eq 7, 3), (75, .iconst 1, 1), (76, .goto 4, 3), (79, .iconst 0, 1), (80, .iadd, 1), (81, .istore_n 2, 1), (82, .iinc 3 1, 3)]
set_option maxRecDepth 20000 in
theorem dk_X8_solder_2 : dl_X8_solder_2.all (fun q => decide (decode cX8_solder q.1 = .ok (q.2.1, q.2.2))) = true := dq_all 57 (by decide +kernel)
def dl_X8_solder_3 : List (Nat × Instr × Nat) := [(85, .goto (-61), 3), (88, .aload_n 0, 1), (89, .iload_n 1, 1), (90, .ifCond .eq 7, 3), (93, .iload_n 2, 1), (94, .ifCond .ne 7, 3), (97, .iconst 1, 1), (98, .goto 4, 3), (101, .iconst 0, 1), (102, .iconst 1, 1), (103, .invokevirtual 86, 3), (106, .ifCond .eq 5, 3), (109, .iconst 0, 1), (110, .ireturn, 1), (111, .aload_n 0, 1), (112, .aload_n 0, 1)]
set_option maxRecDepth 20000 in
theorem dk_X8_solder_3 : dl_X8_solder_3.all (fun q => decide (decode cX8_solder q.1 = .ok (q.2.1, q.2.2))) = true := dq_all 85 (by decide +kernel)
def dl_X8_solder_4 : List (Nat × Instr × Nat) := [(113, .getfield 186, 3), (116, .putfield 64, 3), (119, .aload_n 0, 1), (120, .invokevirtual 170, 3), (123, .ireturn, 1)]
set_option maxRecDepth 20000 in
theorem dk_X8_solder_4 : dl_X8_solder_4.all (fun q => decide (decode cX8_solder q.1 = .ok (q.2.1, q.2.2))) = true := dq_all 113 (by decide +kernel)
def dl_X8_isUp_0 : List (Nat × Instr × Nat) := [(0, .aload_n 0, 1), (1, .iconst 0, 1), (2, .putfield 71, 3), (5, .aload_n 0, 1), (6, .invokevirtual 90, 3), (9, .ireturn, 1)]
set_option maxRecDepth 20000 in
theorem dk_X8_isUp_0 : dl_X8_isUp_0.all (fun q => decide (decode cX8_isUp q.1 = .ok (q.2.1, q.2.2))) = true := dq_all 0 (by decide +kernel)
def dl_X8_bar_0 : List (Nat × Instr × Nat) := [(0, .aload_n 0, 1), (1, .iload_n 1, 1), (2, .iconst 1, 1), (3, .bipush 11, 2), (5, .invokestatic 74, 3), (8, .ifCond .ne 7, 3), (11, .iconst 1, 1), (12, .goto 4, 3), (15, .iconst 0, 1), (16, .iconst 1, 1), (17, .invokevirtual 86, 3), (20, .ifCond .eq 5, 3), (23, .iconst 0, 1), (24, .ireturn, 1), (25, .aload_n 0, 1), (26, .getfield 53, 3)]
set_option maxRecDepth 20000 in
theorem dk_X8_bar_0 : dl_X8_bar_0.all (fun q => decide (decode cX8_bar q.1 = .ok (q.2.1, q.2.2))) = true := dq_all 0 (by decide +kernel)
def dl_X8_bar_1 : List (Nat × Instr × Nat) := [(29, .iload_n 1, 1), (30, .baload, 1), (31, .istore_n 3, 1), (32, .aload_n 0, 1), (33, .getfield 53, 3), (36, .iload_n 1, 1), (37, .iload_n 2, 1), (38, .bastore, 1), (39, .iload_n 3, 1), (40, .ireturn, 1)]
set_option maxRecDepth 20000 in
theorem dk_X8_bar_1 : dl_X8_bar_1.all (fun q => decide (decode cX8_bar q.1 = .ok (q.2.1, q.2.2))) = true := dq_all 29 (by decide +kernel)
def dl_X8_profile_0 : List (Nat × Instr × Nat) := [(0, .aload_n 0, 1), (1, .iload_n 1, 1), (2, .iconst 1, 1), (3, .iconst 4, 1), (4, .invokestatic 74, 3), (7, .ifCond .ne 7, 3), (10, .iconst 1, 1), (11, .goto 4, 3), (14, .iconst 0, 1), (15, .iconst 1, 1), (16, .invokevirtual 86, 3), (19, .ifCond .ne 15, 3), (22, .aload_n 0, 1), (23, .aload_n 0, 1), (24, .invokevirtual 90, 3), (27, .iconst 2, 1)]
set_option maxRecDepth 20000 in
theorem dk_X8_profile_0 : dl_X8_profile_0.all (fun q => decide (decode cX8_profile q.1 = .ok (q.2.1, q.2.2))) = true := dq_all 0 (by decide +kernel)
def dl_X8_profile_1 : List (Nat × Instr × Nat) := [(28, .invokevirtual 86, 3), (31, .ifCond .eq 5, 3), (34, .iconst 0, 1), (35, .ireturn, 1), (36, .aload_n 0, 1), (37, .getfield 60, 3), (40, .istore_n 2, 1), (41, .aload_n 0, 1), (42, .iload_n 1, 1), (43, .putfield 60, 3), (46, .iload_n 2, 1), (47, .ireturn, 1)]
set_option maxRecDepth 20000 in
theorem dk_X8_profile_1 : dl_X8_profile_1.all (fun q => decide (decode cX8_profile q.1 = .ok (q.2.1, q.2.2))) = true := dq_all 28 (by decide +kernel)
def dl_X8_wind_0 : List (Nat × Instr × Nat) := [(0, .aload_n 0, 1), (1, .iload_n 1, 1), (2, .iconst 0, 1), (3, .bipush 100, 2), (5, .invokestatic 74, 3), (8, .ifCond .ne 7, 3), (11, .iconst 1, 1), (12, .goto 4, 3), (15, .iconst 0, 1), (16, .iconst 1, 1), (17, .invokevirtual 86, 3), (20, .ifCond .eq 5, 3), (23, .iconst 0, 1), (24, .ireturn, 1), (25, .aload_n 0, 1), (26, .getfield 253, 3)]
set_option maxRecDepth 20000 in
theorem dk_X8_wind_0 : dl_X8_wind_0.all (fun q => decide (decode cX8_wind q.1 = .ok (q.2.1, q.2.2))) = true := dq_all 0 (by decide +kernel)
def dl_X8_wind_1 : List (Nat × Instr × Nat) := [(29, .istore_n 2, 1), (30, .aload_n 0, 1), (31, .iload_n 1, 1), (32, .putfield 253, 3), (35, .iload_n 2, 1), (36, .ireturn, 1)]
set_option maxRecDepth 20000 in
theorem dk_X8_wind_1 : dl_X8_wind_1.all (fun q => decide (decode cX8_wind q.1 = .ok (q.2.1, q.2.2))) = true := dq_all 29 (by decide +kernel)
def dl_X8_bearsNow_0 : List (Nat × Instr × Nat) := [(0, .iconst 0, 1), (1, .istore_n 1, 1), (2, .iconst 0, 1), (3, .istore_n 2, 1), (4, .iconst 1, 1), (5, .istore_n 3, 1), (6, .iload_n 3, 1), (7, .bipush 12, 2), (9, .if_icmp .gt 34, 3), (12, .iload_n 3, 1), (13, .bipush 12, 2), (15, .if_icmp .eq 12, 3), (18, .aload_n 0, 1), (19, .getfield 53, 3), (22, .iload_n 3, 1), (23, .baload, 1)]
set_option maxRecDepth 20000 in
theorem dk_X8_bearsNow_0 : dl_X8_bearsNow_0.all (fun q => decide (decode cX8_bearsNow q.1 = .ok (q.2.1, q.2.2))) = true := dq_all 0 (by decide +kernel)
def dl_X8_bearsNow_1 : List (Nat × Instr × Nat) := [(24, .ifCond .eq 13, 3), (27, .iload_n 1, 1), (28, .iload_n 3, 1), (29, .iload_n 2, 1), (30, .isub, 1), (31, .invokestatic 113, 3), (34, .istore_n 1, 1), (35, .iload_n 3, 1), (36, .istore_n 2, 1), (37, .iinc 3 1, 3), (40, .goto (-34), 3), (43, .aload_n 0, 1), (44, .getfield 253, 3), (47, .iload_n 1, 1), (48, .imul, 1), (49, .iload_n 1, 1)]
set_option maxRecDepth 20000 in
theorem dk_X8_bearsNow_1 : dl_X8_bearsNow_1.all (fun q => decide (decode cX8_bearsNow q.1 = .ok (q.2.1, q.2.2))) = true := dq_all 24 (by decide +kernel)
def dl_X8_bearsNow_2 : List (Nat × Instr × Nat) := [(50, .imul, 1), (51, .iconst 4, 1), (52, .aload_n 0, 1), (53, .getfield 60, 3), (56, .imul, 1), (57, .idiv, 1), (58, .aload_n 0, 1), (59, .invokevirtual 90, 3), (62, .ifCond .eq 18, 3), (65, .aload_n 0, 1), (66, .getfield 186, 3), (69, .aload_n 0, 1), (70, .getfield 64, 3), (73, .isub, 1), (74, .bipush 10, 2), (76, .idiv, 1)]
set_option maxRecDepth 20000 in
theorem dk_X8_bearsNow_2 : dl_X8_bearsNow_2.all (fun q => decide (decode cX8_bearsNow q.1 = .ok (q.2.1, q.2.2))) = true := dq_all 50 (by decide +kernel)
def dl_X8_bearsNow_3 : List (Nat × Instr × Nat) := [(77, .goto 4, 3), (80, .iconst 0, 1), (81, .iadd, 1), (82, .ireturn, 1)]
set_option maxRecDepth 20000 in
theorem dk_X8_bearsNow_3 : dl_X8_bearsNow_3.all (fun q => decide (decode cX8_bearsNow q.1 = .ok (q.2.1, q.2.2))) = true := dq_all 77 (by decide +kernel)
def dl_X8_bears_0 : List (Nat × Instr × Nat) := [(0, .aload_n 0, 1), (1, .iconst 0, 1), (2, .putfield 71, 3), (5, .aload_n 0, 1), (6, .invokevirtual 256, 3), (9, .ireturn, 1)]
set_option maxRecDepth 20000 in
theorem dk_X8_bears_0 : dl_X8_bears_0.all (fun q => decide (decode cX8_bears q.1 = .ok (q.2.1, q.2.2))) = true := dq_all 0 (by decide +kernel)
def dl_X8_stands_0 : List (Nat × Instr × Nat) := [(0, .aload_n 0, 1), (1, .iconst 0, 1), (2, .putfield 71, 3), (5, .aload_n 0, 1), (6, .invokevirtual 256, 3), (9, .bipush 100, 2), (11, .if_icmp .gt 7, 3), (14, .iconst 1, 1), (15, .goto 4, 3), (18, .iconst 0, 1), (19, .ireturn, 1)]
set_option maxRecDepth 20000 in
theorem dk_X8_stands_0 : dl_X8_stands_0.all (fun q => decide (decode cX8_stands q.1 = .ok (q.2.1, q.2.2))) = true := dq_all 0 (by decide +kernel)
def dl_X8_years_0 : List (Nat × Instr × Nat) := [(0, .aload_n 0, 1), (1, .iload_n 1, 1), (2, .iconst 1, 1), (3, .sipush 500, 3), (6, .invokestatic 74, 3), (9, .ifCond .ne 7, 3), (12, .iconst 1, 1), (13, .goto 4, 3), (16, .iconst 0, 1), (17, .iconst 1, 1), (18, .invokevirtual 86, 3), (21, .ifCond .ne 28, 3), (24, .aload_n 0, 1), (25, .aload_n 0, 1), (26, .getfield 186, 3), (29, .iload_n 1, 1)]
set_option maxRecDepth 20000 in
theorem dk_X8_years_0 : dl_X8_years_0.all (fun q => decide (decode cX8_years q.1 = .ok (q.2.1, q.2.2))) = true := dq_all 0 (by decide +kernel)
def dl_X8_years_1 : List (Nat × Instr × Nat) := [(30, .iadd, 1), (31, .sipush 2000, 3), (34, .if_icmp .le 7, 3), (37, .iconst 1, 1), (38, .goto 4, 3), (41, .iconst 0, 1), (42, .iconst 2, 1), (43, .invokevirtual 86, 3), (46, .ifCond .eq 5, 3), (49, .iconst 0, 1), (50, .ireturn, 1), (51, .aload_n 0, 1), (52, .dup, 1), (53, .getfield 186, 3), (56, .iload_n 1, 1), (57, .iadd, 1)]
set_option maxRecDepth 20000 in
theorem dk_X8_years_1 : dl_X8_years_1.all (fun q => decide (decode cX8_years q.1 = .ok (q.2.1, q.2.2))) = true := dq_all 30 (by decide +kernel)
def dl_X8_years_2 : List (Nat × Instr × Nat) := [(58, .putfield 186, 3), (61, .aload_n 0, 1), (62, .getfield 186, 3), (65, .ireturn, 1)]
set_option maxRecDepth 20000 in
theorem dk_X8_years_2 : dl_X8_years_2.all (fun q => decide (decode cX8_years q.1 = .ok (q.2.1, q.2.2))) = true := dq_all 58 (by decide +kernel)
def dl_X8_light_0 : List (Nat × Instr × Nat) := [(0, .aload_n 0, 1), (1, .iload_n 1, 1), (2, .iload_n 2, 1), (3, .invokevirtual 94, 3), (6, .istore 4, 2), (8, .iload 4, 2), (10, .bipush (-2), 2), (12, .if_icmp .ne 5, 3), (15, .iconst 0, 1), (16, .ireturn, 1), (17, .iload 4, 2), (19, .iconst (-1), 1), (20, .if_icmp .eq 27, 3), (23, .aload_n 0, 1), (24, .getfield 20, 3), (27, .iload 4, 2)]
set_option maxRecDepth 20000 in
theorem dk_X8_light_0 : dl_X8_light_0.all (fun q => decide (decode cX8_light q.1 = .ok (q.2.1, q.2.2))) = true := dq_all 0 (by decide +kernel)
def dl_X8_light_1 : List (Nat × Instr × Nat) := [(29, .caload, 1), (30, .bipush 99, 2), (32, .if_icmp .eq 17, 3), (35, .aload_n 0, 1), (36, .getfield 20, 3), (39, .iload 4, 2), (41, .caload, 1), (42, .bipush 108, 2), (44, .if_icmp .eq 5, 3), (47, .iload_n 3, 1), (48, .ireturn, 1), (49, .aload_n 0, 1), (50, .getfield 23, 3), (53, .iload 4, 2), (55, .iaload, 1), (56, .ifCond .ne 8, 3)]
set_option maxRecDepth 20000 in
theorem dk_X8_light_1 : dl_X8_light_1.all (fun q => decide (decode cX8_light q.1 = .ok (q.2.1, q.2.2))) = true := dq_all 29 (by decide +kernel)
def dl_X8_light_2 : List (Nat × Instr × Nat) := [(59, .bipush 100, 2), (61, .goto 16, 3), (64, .bipush 90, 2), (66, .bipush 8, 2), (68, .aload_n 0, 1), (69, .getfield 23, 3), (72, .iload 4, 2), (74, .iaload, 1), (75, .imul, 1), (76, .isub, 1), (77, .istore 5, 2), (79, .iconst 0, 1), (80, .iload_n 3, 1), (81, .iload 5, 2), (83, .imul, 1), (84, .bipush 100, 2)]
set_option maxRecDepth 20000 in
theorem dk_X8_light_2 : dl_X8_light_2.all (fun q => decide (decode cX8_light q.1 = .ok (q.2.1, q.2.2))) = true := dq_all 59 (by decide +kernel)
def dl_X8_light_3 : List (Nat × Instr × Nat) := [(86, .idiv, 1), (87, .bipush 10, 2), (89, .aload_n 0, 1), (90, .iload 4, 2), (92, .iconst 1, 1), (93, .invokevirtual 239, 3), (96, .imul, 1), (97, .isub, 1), (98, .invokestatic 113, 3), (101, .ireturn, 1)]
set_option maxRecDepth 20000 in
theorem dk_X8_light_3 : dl_X8_light_3.all (fun q => decide (decode cX8_light q.1 = .ok (q.2.1, q.2.2))) = true := dq_all 86 (by decide +kernel)
def dl_X8_looks_0 : List (Nat × Instr × Nat) := [(0, .aload_n 0, 1), (1, .iload_n 1, 1), (2, .iload_n 2, 1), (3, .invokestatic 78, 3), (6, .ifCond .eq 13, 3), (9, .iload_n 3, 1), (10, .iconst 0, 1), (11, .bipush 23, 2), (13, .invokestatic 74, 3), (16, .ifCond .ne 7, 3), (19, .iconst 1, 1), (20, .goto 4, 3), (23, .iconst 0, 1), (24, .iconst 1, 1), (25, .invokevirtual 86, 3), (28, .ifCond .eq 5, 3)]
set_option maxRecDepth 20000 in
theorem dk_X8_looks_0 : dl_X8_looks_0.all (fun q => decide (decode cX8_looks q.1 = .ok (q.2.1, q.2.2))) = true := dq_all 0 (by decide +kernel)
def dl_X8_looks_1 : List (Nat × Instr × Nat) := [(31, .iconst 0, 1), (32, .ireturn, 1), (33, .iconst 0, 1), (34, .bipush 100, 2), (36, .bipush 14, 2), (38, .iload_n 3, 1), (39, .bipush 12, 2), (41, .isub, 1), (42, .invokestatic 227, 3), (45, .imul, 1), (46, .isub, 1), (47, .invokestatic 113, 3), (50, .istore 4, 2), (52, .aload_n 0, 1), (53, .iload_n 1, 1), (54, .iload_n 2, 1)]
set_option maxRecDepth 20000 in
theorem dk_X8_looks_1 : dl_X8_looks_1.all (fun q => decide (decode cX8_looks q.1 = .ok (q.2.1, q.2.2))) = true := dq_all 31 (by decide +kernel)
def dl_X8_looks_2 : List (Nat × Instr × Nat) := [(55, .iload 4, 2), (57, .invokevirtual 259, 3), (60, .istore 5, 2), (62, .iload 5, 2), (64, .istore 6, 2), (66, .iconst 0, 1), (67, .istore 7, 2), (69, .iload 7, 2), (71, .iconst 4, 1), (72, .if_icmp .ge 49, 3), (75, .iload 6, 2), (77, .aload_n 0, 1), (78, .iload_n 1, 1), (79, .getstatic 118, 3), (82, .iload 7, 2), (84, .iaload, 1)]
set_option maxRecDepth 20000 in
theorem dk_X8_looks_2 : dl_X8_looks_2.all (fun q => decide (decode cX8_looks q.1 = .ok (q.2.1, q.2.2))) = true := dq_all 55 (by decide +kernel)
def dl_X8_looks_3 : List (Nat × Instr × Nat) := [(85, .iadd, 1), (86, .iload_n 2, 1), (87, .getstatic 121, 3), (90, .iload 7, 2), (92, .iaload, 1), (93, .iadd, 1), (94, .iload 4, 2), (96, .invokevirtual 259, 3), (99, .iload 5, 2), (101, .bipush 30, 2), (103, .iadd, 1), (104, .if_icmp .lt 7, 3), (107, .iconst 5, 1), (108, .goto 4, 3), (111, .iconst 0, 1), (112, .isub, 1)]
set_option maxRecDepth 20000 in
theorem dk_X8_looks_3 : dl_X8_looks_3.all (fun q => decide (decode cX8_looks q.1 = .ok (q.2.1, q.2.2))) = true := dq_all 85 (by decide +kernel)
def dl_X8_looks_4 : List (Nat × Instr × Nat) := [(113, .istore 6, 2), (115, .iinc 7 1, 3), (118, .goto (-49), 3), (121, .iconst 0, 1), (122, .iload 6, 2), (124, .invokestatic 113, 3), (127, .ireturn, 1)]
set_option maxRecDepth 20000 in
theorem dk_X8_looks_4 : dl_X8_looks_4.all (fun q => decide (decode cX8_looks q.1 = .ok (q.2.1, q.2.2))) = true := dq_all 113 (by decide +kernel)
def dl_X8_hit_0 : List (Nat × Instr × Nat) := [(0, .aload_n 0, 1), (1, .iload_n 1, 1), (2, .iload_n 2, 1), (3, .invokestatic 78, 3), (6, .ifCond .ne 7, 3), (9, .iconst 1, 1), (10, .goto 4, 3), (13, .iconst 0, 1), (14, .iconst 1, 1), (15, .invokevirtual 86, 3), (18, .ifCond .ne 23, 3), (21, .aload_n 0, 1), (22, .aload_n 0, 1), (23, .invokevirtual 90, 3), (26, .ifCond .ne 7, 3), (29, .iconst 1, 1)]
set_option maxRecDepth 20000 in
theorem dk_X8_hit_0 : dl_X8_hit_0.all (fun q => decide (decode cX8_hit q.1 = .ok (q.2.1, q.2.2))) = true := dq_all 0 (by decide +kernel)
def dl_X8_hit_1 : List (Nat × Instr × Nat) := [(30, .goto 4, 3), (33, .iconst 0, 1), (34, .iconst 2, 1), (35, .invokevirtual 86, 3), (38, .ifCond .eq 5, 3), (41, .iconst 0, 1), (42, .ireturn, 1), (43, .aload_n 0, 1), (44, .iload_n 1, 1), (45, .iload_n 2, 1), (46, .invokevirtual 94, 3), (49, .istore_n 3, 1), (50, .iload_n 3, 1), (51, .ifCond .lt 18, 3), (54, .aload_n 0, 1), (55, .getfield 20, 3)]
set_option maxRecDepth 20000 in
theorem dk_X8_hit_1 : dl_X8_hit_1.all (fun q => decide (decode cX8_hit q.1 = .ok (q.2.1, q.2.2))) = true := dq_all 30 (by decide +kernel)
def dl_X8_hit_2 : List (Nat × Instr × Nat) := [(58, .iload_n 3, 1), (59, .caload, 1), (60, .bipush 108, 2), (62, .if_icmp .ne 7, 3), (65, .iconst 1, 1), (66, .goto 4, 3), (69, .iconst 0, 1), (70, .istore 4, 2), (72, .iload 4, 2), (74, .ifCond .eq 11, 3), (77, .aload_n 0, 1), (78, .getfield 20, 3), (81, .iload_n 3, 1), (82, .bipush 98, 2), (84, .castore, 1), (85, .iload 4, 2)]
set_option maxRecDepth 20000 in
theorem dk_X8_hit_2 : dl_X8_hit_2.all (fun q => decide (decode cX8_hit q.1 = .ok (q.2.1, q.2.2))) = true := dq_all 58 (by decide +kernel)
def dl_X8_hit_3 : List (Nat × Instr × Nat) := [(87, .ireturn, 1)]
set_option maxRecDepth 20000 in
theorem dk_X8_hit_3 : dl_X8_hit_3.all (fun q => decide (decode cX8_hit q.1 = .ok (q.2.1, q.2.2))) = true := dq_all 87 (by decide +kernel)
def dl_X8_mend_0 : List (Nat × Instr × Nat) := [(0, .aload_n 0, 1), (1, .iload_n 1, 1), (2, .invokestatic 102, 3), (5, .iconst 1, 1), (6, .invokevirtual 86, 3), (9, .ifCond .ne 27, 3), (12, .aload_n 0, 1), (13, .aload_n 0, 1), (14, .getfield 20, 3), (17, .iload_n 1, 1), (18, .caload, 1), (19, .bipush 98, 2), (21, .if_icmp .eq 7, 3), (24, .iconst 1, 1), (25, .goto 4, 3), (28, .iconst 0, 1)]
set_option maxRecDepth 20000 in
theorem dk_X8_mend_0 : dl_X8_mend_0.all (fun q => decide (decode cX8_mend q.1 = .ok (q.2.1, q.2.2))) = true := dq_all 0 (by decide +kernel)
def dl_X8_mend_1 : List (Nat × Instr × Nat) := [(29, .iconst 2, 1), (30, .invokevirtual 86, 3), (33, .ifCond .eq 5, 3), (36, .iconst 0, 1), (37, .ireturn, 1), (38, .aload_n 0, 1), (39, .getfield 20, 3), (42, .iload_n 1, 1), (43, .bipush 108, 2), (45, .castore, 1), (46, .aload_n 0, 1), (47, .getfield 57, 3), (50, .iload_n 1, 1), (51, .aaload, 1), (52, .aload_n 0, 1), (53, .getfield 186, 3)]
set_option maxRecDepth 20000 in
theorem dk_X8_mend_1 : dl_X8_mend_1.all (fun q => decide (decode cX8_mend q.1 = .ok (q.2.1, q.2.2))) = true := dq_all 29 (by decide +kernel)
def dl_X8_mend_2 : List (Nat × Instr × Nat) := [(56, .iconst 1, 1), (57, .bastore, 1), (58, .aload_n 0, 1), (59, .dup, 1), (60, .getfield 263, 3), (63, .iconst 1, 1), (64, .iadd, 1), (65, .putfield 263, 3), (68, .aload_n 0, 1), (69, .getfield 263, 3), (72, .ireturn, 1)]
set_option maxRecDepth 20000 in
theorem dk_X8_mend_2 : dl_X8_mend_2.all (fun q => decide (decode cX8_mend q.1 = .ok (q.2.1, q.2.2))) = true := dq_all 56 (by decide +kernel)
def dl_X8_stopgap_0 : List (Nat × Instr × Nat) := [(0, .aload_n 0, 1), (1, .aload_n 0, 1), (2, .iload_n 2, 1), (3, .invokevirtual 176, 3), (6, .ifCond .ne 10, 3), (9, .iload_n 1, 1), (10, .invokestatic 102, 3), (13, .ifCond .eq 7, 3), (16, .iconst 1, 1), (17, .goto 4, 3), (20, .iconst 0, 1), (21, .iconst 1, 1), (22, .invokevirtual 86, 3), (25, .ifCond .eq 5, 3), (28, .iconst 0, 1), (29, .ireturn, 1)]
set_option maxRecDepth 20000 in
theorem dk_X8_stopgap_0 : dl_X8_stopgap_0.all (fun q => decide (decode cX8_stopgap q.1 = .ok (q.2.1, q.2.2))) = true := dq_all 0 (by decide +kernel)
def dl_X8_stopgap_1 : List (Nat × Instr × Nat) := [(30, .aload_n 0, 1), (31, .iload_n 1, 1), (32, .invokevirtual 147, 3), (35, .iconst 0, 1), (36, .invokestatic 189, 3), (39, .astore_n 3, 1), (40, .aload_n 0, 1), (41, .iload_n 2, 1), (42, .aload_n 3, 1), (43, .invokevirtual 193, 3), (46, .istore 4, 2), (48, .aload_n 0, 1), (49, .aload_n 0, 1), (50, .getfield 20, 3), (53, .iload_n 1, 1), (54, .caload, 1)]
set_option maxRecDepth 20000 in
theorem dk_X8_stopgap_1 : dl_X8_stopgap_1.all (fun q => decide (decode cX8_stopgap q.1 = .ok (q.2.1, q.2.2))) = true := dq_all 30 (by decide +kernel)
def dl_X8_stopgap_2 : List (Nat × Instr × Nat) := [(55, .bipush 98, 2), (57, .if_icmp .ne 25, 3), (60, .aload_n 0, 1), (61, .getfield 186, 3), (64, .aload_n 0, 1), (65, .getfield 26, 3), (68, .iload_n 1, 1), (69, .iaload, 1), (70, .isub, 1), (71, .bipush 100, 2), (73, .if_icmp .ge 9, 3), (76, .iload 4, 2), (78, .iconst (-1), 1), (79, .if_icmp .ne 7, 3), (82, .iconst 1, 1), (83, .goto 4, 3)]
set_option maxRecDepth 20000 in
theorem dk_X8_stopgap_2 : dl_X8_stopgap_2.all (fun q => decide (decode cX8_stopgap q.1 = .ok (q.2.1, q.2.2))) = true := dq_all 55 (by decide +kernel)
def dl_X8_stopgap_3 : List (Nat × Instr × Nat) := [(86, .iconst 0, 1), (87, .iconst 2, 1), (88, .invokevirtual 86, 3), (91, .ifCond .eq 5, 3), (94, .iconst 0, 1), (95, .ireturn, 1), (96, .aload_n 0, 1), (97, .iload_n 2, 1), (98, .iload 4, 2), (100, .aload_n 3, 1), (101, .invokevirtual 197, 3), (104, .aload_n 0, 1), (105, .iload_n 1, 1), (106, .aload_n 0, 1), (107, .getfield 44, 3), (110, .iload_n 2, 1)]
set_option maxRecDepth 20000 in
theorem dk_X8_stopgap_3 : dl_X8_stopgap_3.all (fun q => decide (decode cX8_stopgap q.1 = .ok (q.2.1, q.2.2))) = true := dq_all 86 (by decide +kernel)
def dl_X8_stopgap_4 : List (Nat × Instr × Nat) := [(111, .aaload, 1), (112, .iconst 0, 1), (113, .iaload, 1), (114, .bipush 108, 2), (116, .invokevirtual 209, 3), (119, .aload_n 0, 1), (120, .dup, 1), (121, .getfield 263, 3), (124, .iconst 1, 1), (125, .iadd, 1), (126, .putfield 263, 3), (129, .aload_n 0, 1), (130, .getfield 263, 3), (133, .ireturn, 1)]
set_option maxRecDepth 20000 in
theorem dk_X8_stopgap_4 : dl_X8_stopgap_4.all (fun q => decide (decode cX8_stopgap q.1 = .ok (q.2.1, q.2.2))) = true := dq_all 111 (by decide +kernel)
def dl_X8_year_0 : List (Nat × Instr × Nat) := [(0, .aload_n 0, 1), (1, .iload_n 1, 1), (2, .invokestatic 102, 3), (5, .iconst 1, 1), (6, .invokevirtual 86, 3), (9, .ifCond .ne 24, 3), (12, .aload_n 0, 1), (13, .aload_n 0, 1), (14, .iload_n 1, 1), (15, .invokevirtual 98, 3), (18, .ifCond .ne 7, 3), (21, .iconst 1, 1), (22, .goto 4, 3), (25, .iconst 0, 1), (26, .iconst 2, 1), (27, .invokevirtual 86, 3)]
set_option maxRecDepth 20000 in
theorem dk_X8_year_0 : dl_X8_year_0.all (fun q => decide (decode cX8_year q.1 = .ok (q.2.1, q.2.2))) = true := dq_all 0 (by decide +kernel)
def dl_X8_year_1 : List (Nat × Instr × Nat) := [(30, .ifCond .eq 7, 3), (33, .iconst 0, 1), (34, .goto 9, 3), (37, .aload_n 0, 1), (38, .getfield 26, 3), (41, .iload_n 1, 1), (42, .iaload, 1), (43, .ireturn, 1)]
set_option maxRecDepth 20000 in
theorem dk_X8_year_1 : dl_X8_year_1.all (fun q => decide (decode cX8_year q.1 = .ok (q.2.1, q.2.2))) = true := dq_all 30 (by decide +kernel)
def dl_X8_hands_0 : List (Nat × Instr × Nat) := [(0, .aload_n 0, 1), (1, .iconst 0, 1), (2, .putfield 71, 3), (5, .iconst 0, 1), (6, .istore_n 1, 1), (7, .iconst 0, 1), (8, .istore_n 2, 1), (9, .iload_n 2, 1), (10, .sipush 2000, 3), (13, .if_icmp .gt 79, 3), (16, .iconst 0, 1), (17, .istore_n 3, 1), (18, .iconst 0, 1), (19, .istore 4, 2), (21, .iload 4, 2), (23, .bipush 30, 2)]
set_option maxRecDepth 20000 in
theorem dk_X8_hands_0 : dl_X8_hands_0.all (fun q => decide (decode cX8_hands q.1 = .ok (q.2.1, q.2.2))) = true := dq_all 0 (by decide +kernel)
def dl_X8_hands_1 : List (Nat × Instr × Nat) := [(25, .if_icmp .ge 49, 3), (28, .iload_n 3, 1), (29, .aload_n 0, 1), (30, .iload 4, 2), (32, .invokevirtual 98, 3), (35, .ifCond .eq 30, 3), (38, .aload_n 0, 1), (39, .getfield 26, 3), (42, .iload 4, 2), (44, .iaload, 1), (45, .iload_n 2, 1), (46, .if_icmp .eq 15, 3), (49, .aload_n 0, 1), (50, .getfield 57, 3), (53, .iload 4, 2), (55, .aaload, 1)]
set_option maxRecDepth 20000 in
theorem dk_X8_hands_1 : dl_X8_hands_1.all (fun q => decide (decode cX8_hands q.1 = .ok (q.2.1, q.2.2))) = true := dq_all 25 (by decide +kernel)
def dl_X8_hands_2 : List (Nat × Instr × Nat) := [(56, .iload_n 2, 1), (57, .baload, 1), (58, .ifCond .eq 7, 3), (61, .iconst 1, 1), (62, .goto 4, 3), (65, .iconst 0, 1), (66, .ior, 1), (67, .istore_n 3, 1), (68, .iinc 4 1, 3), (71, .goto (-50), 3), (74, .iload_n 1, 1), (75, .iload_n 3, 1), (76, .ifCond .eq 7, 3), (79, .iconst 1, 1), (80, .goto 4, 3), (83, .iconst 0, 1)]
set_option maxRecDepth 20000 in
theorem dk_X8_hands_2 : dl_X8_hands_2.all (fun q => decide (decode cX8_hands q.1 = .ok (q.2.1, q.2.2))) = true := dq_all 56 (by decide +kernel)
def dl_X8_hands_3 : List (Nat × Instr × Nat) := [(84, .iadd, 1), (85, .istore_n 1, 1), (86, .iinc 2 1, 3), (89, .goto (-80), 3), (92, .iload_n 1, 1), (93, .ireturn, 1)]
set_option maxRecDepth 20000 in
theorem dk_X8_hands_3 : dl_X8_hands_3.all (fun q => decide (decode cX8_hands q.1 = .ok (q.2.1, q.2.2))) = true := dq_all 84 (by decide +kernel)
def dl_X8_areSame_0 : List (Nat × Instr × Nat) := [(0, .iconst 1, 1), (1, .istore_n 2, 1), (2, .iconst 0, 1), (3, .istore_n 3, 1), (4, .iload_n 3, 1), (5, .sipush 144, 3), (8, .if_icmp .ge 26, 3), (11, .iload_n 2, 1), (12, .aload_n 0, 1), (13, .iload_n 3, 1), (14, .baload, 1), (15, .aload_n 1, 1), (16, .iload_n 3, 1), (17, .baload, 1), (18, .if_icmp .ne 7, 3), (21, .iconst 1, 1)]
set_option maxRecDepth 20000 in
theorem dk_X8_areSame_0 : dl_X8_areSame_0.all (fun q => decide (decode cX8_areSame q.1 = .ok (q.2.1, q.2.2))) = true := dq_all 0 (by decide +kernel)
def dl_X8_areSame_1 : List (Nat × Instr × Nat) := [(22, .goto 4, 3), (25, .iconst 0, 1), (26, .iand, 1), (27, .istore_n 2, 1), (28, .iinc 3 1, 3), (31, .goto (-27), 3), (34, .iload_n 2, 1), (35, .ireturn, 1)]
set_option maxRecDepth 20000 in
theorem dk_X8_areSame_1 : dl_X8_areSame_1.all (fun q => decide (decode cX8_areSame q.1 = .ok (q.2.1, q.2.2))) = true := dq_all 22 (by decide +kernel)
def dl_X8_fits_0 : List (Nat × Instr × Nat) := [(0, .aload_n 0, 1), (1, .iload_n 1, 1), (2, .invokestatic 102, 3), (5, .iconst 1, 1), (6, .invokevirtual 86, 3), (9, .ifCond .ne 24, 3), (12, .aload_n 0, 1), (13, .aload_n 0, 1), (14, .iload_n 1, 1), (15, .invokevirtual 98, 3), (18, .ifCond .ne 7, 3), (21, .iconst 1, 1), (22, .goto 4, 3), (25, .iconst 0, 1), (26, .iconst 2, 1), (27, .invokevirtual 86, 3)]
set_option maxRecDepth 20000 in
theorem dk_X8_fits_0 : dl_X8_fits_0.all (fun q => decide (decode cX8_fits q.1 = .ok (q.2.1, q.2.2))) = true := dq_all 0 (by decide +kernel)
def dl_X8_fits_1 : List (Nat × Instr × Nat) := [(30, .ifCond .eq 5, 3), (33, .iconst 0, 1), (34, .ireturn, 1), (35, .aload_n 0, 1), (36, .iload_n 1, 1), (37, .invokevirtual 147, 3), (40, .iconst 0, 1), (41, .invokestatic 189, 3), (44, .astore_n 2, 1), (45, .iconst 0, 1), (46, .istore_n 3, 1), (47, .iconst 0, 1), (48, .istore 4, 2), (50, .iload 4, 2), (52, .bipush 30, 2), (54, .if_icmp .ge 101, 3)]
set_option maxRecDepth 20000 in
theorem dk_X8_fits_1 : dl_X8_fits_1.all (fun q => decide (decode cX8_fits q.1 = .ok (q.2.1, q.2.2))) = true := dq_all 30 (by decide +kernel)
def dl_X8_fits_2 : List (Nat × Instr × Nat) := [(57, .iload 4, 2), (59, .iload_n 1, 1), (60, .if_icmp .eq 56, 3), (63, .aload_n 0, 1), (64, .iload 4, 2), (66, .invokevirtual 105, 3), (69, .ifCond .le 47, 3), (72, .aload_n 0, 1), (73, .getfield 20, 3), (76, .iload 4, 2), (78, .caload, 1), (79, .bipush 45, 2), (81, .if_icmp .eq 15, 3), (84, .aload_n 0, 1), (85, .getfield 20, 3), (88, .iload 4, 2)]
set_option maxRecDepth 20000 in
theorem dk_X8_fits_2 : dl_X8_fits_2.all (fun q => decide (decode cX8_fits q.1 = .ok (q.2.1, q.2.2))) = true := dq_all 57 (by decide +kernel)
def dl_X8_fits_3 : List (Nat × Instr × Nat) := [(90, .caload, 1), (91, .bipush 98, 2), (93, .if_icmp .ne 23, 3), (96, .aload_n 0, 1), (97, .getfield 13, 3), (100, .iload 4, 2), (102, .iaload, 1), (103, .aload_n 0, 1), (104, .getfield 23, 3), (107, .iload_n 1, 1), (108, .iaload, 1), (109, .if_icmp .ne 7, 3), (112, .iconst 1, 1), (113, .goto 4, 3), (116, .iconst 0, 1), (117, .istore 5, 2)]
set_option maxRecDepth 20000 in
theorem dk_X8_fits_3 : dl_X8_fits_3.all (fun q => decide (decode cX8_fits q.1 = .ok (q.2.1, q.2.2))) = true := dq_all 90 (by decide +kernel)
def dl_X8_fits_4 : List (Nat × Instr × Nat) := [(119, .iload_n 3, 1), (120, .iload 5, 2), (122, .ifCond .eq 24, 3), (125, .aload_n 2, 1), (126, .aload_n 0, 1), (127, .iload 4, 2), (129, .invokevirtual 147, 3), (132, .iconst 0, 1), (133, .invokestatic 189, 3), (136, .invokestatic 266, 3), (139, .ifCond .eq 7, 3), (142, .iconst 1, 1), (143, .goto 4, 3), (146, .iconst 0, 1), (147, .iadd, 1), (148, .istore_n 3, 1)]
set_option maxRecDepth 20000 in
theorem dk_X8_fits_4 : dl_X8_fits_4.all (fun q => decide (decode cX8_fits q.1 = .ok (q.2.1, q.2.2))) = true := dq_all 119 (by decide +kernel)
def dl_X8_fits_5 : List (Nat × Instr × Nat) := [(149, .iinc 4 1, 3), (152, .goto (-102), 3), (155, .iload_n 3, 1), (156, .ireturn, 1)]
set_option maxRecDepth 20000 in
theorem dk_X8_fits_5 : dl_X8_fits_5.all (fun q => decide (decode cX8_fits q.1 = .ok (q.2.1, q.2.2))) = true := dq_all 149 (by decide +kernel)
def dl_X8_price_0 : List (Nat × Instr × Nat) := [(0, .aload_n 0, 1), (1, .iconst 0, 1), (2, .putfield 71, 3), (5, .iconst 3, 1), (6, .aload_n 0, 1), (7, .invokevirtual 166, 3), (10, .imul, 1), (11, .bipush 7, 2), (13, .aload_n 0, 1), (14, .getfield 263, 3), (17, .imul, 1), (18, .iadd, 1), (19, .istore_n 1, 1), (20, .iconst 0, 1), (21, .istore_n 2, 1), (22, .iload_n 2, 1)]
set_option maxRecDepth 20000 in
theorem dk_X8_price_0 : dl_X8_price_0.all (fun q => decide (decode cX8_price q.1 = .ok (q.2.1, q.2.2))) = true := dq_all 0 (by decide +kernel)
def dl_X8_price_1 : List (Nat × Instr × Nat) := [(23, .bipush 30, 2), (25, .if_icmp .ge 34, 3), (28, .iload_n 1, 1), (29, .aload_n 0, 1), (30, .iload_n 2, 1), (31, .invokevirtual 98, 3), (34, .ifCond .eq 16, 3), (37, .iconst 5, 1), (38, .iconst 2, 1), (39, .aload_n 0, 1), (40, .iload_n 2, 1), (41, .iconst 1, 1), (42, .invokevirtual 239, 3), (45, .imul, 1), (46, .iadd, 1), (47, .goto 4, 3)]
set_option maxRecDepth 20000 in
theorem dk_X8_price_1 : dl_X8_price_1.all (fun q => decide (decode cX8_price q.1 = .ok (q.2.1, q.2.2))) = true := dq_all 23 (by decide +kernel)
def dl_X8_price_2 : List (Nat × Instr × Nat) := [(50, .iconst 0, 1), (51, .iadd, 1), (52, .istore_n 1, 1), (53, .iinc 2 1, 3), (56, .goto (-34), 3), (59, .iload_n 1, 1), (60, .ireturn, 1)]
set_option maxRecDepth 20000 in
theorem dk_X8_price_2 : dl_X8_price_2.all (fun q => decide (decode cX8_price q.1 = .ok (q.2.1, q.2.2))) = true := dq_all 50 (by decide +kernel)
def dl_X8_checksum_0 : List (Nat × Instr × Nat) := [(0, .aload_n 0, 1), (1, .iconst 0, 1), (2, .putfield 71, 3), (5, .ldc2_w 270, 3), (8, .lstore_n 1, 1), (9, .aload_n 0, 1), (10, .getfield 9, 3), (13, .astore_n 3, 1), (14, .aload_n 3, 1), (15, .arraylength, 1), (16, .istore 4, 2), (18, .iconst 0, 1), (19, .istore 5, 2), (21, .iload 5, 2), (23, .iload 4, 2), (25, .if_icmp .ge 25, 3)]
set_option maxRecDepth 20000 in
theorem dk_X8_checksum_0 : dl_X8_checksum_0.all (fun q => decide (decode cX8_checksum q.1 = .ok (q.2.1, q.2.2))) = true := dq_all 0 (by decide +kernel)
def dl_X8_checksum_1 : List (Nat × Instr × Nat) := [(28, .aload_n 3, 1), (29, .iload 5, 2), (31, .iaload, 1), (32, .istore 6, 2), (34, .ldc2_w 272, 3), (37, .lload_n 1, 1), (38, .lmul, 1), (39, .iload 6, 2), (41, .i2l, 1), (42, .ladd, 1), (43, .lstore_n 1, 1), (44, .iinc 5 1, 3), (47, .goto (-26), 3), (50, .iconst 0, 1), (51, .istore_n 3, 1), (52, .iload_n 3, 1)]
set_option maxRecDepth 20000 in
theorem dk_X8_checksum_1 : dl_X8_checksum_1.all (fun q => decide (decode cX8_checksum q.1 = .ok (q.2.1, q.2.2))) = true := dq_all 28 (by decide +kernel)
def dl_X8_checksum_2 : List (Nat × Instr × Nat) := [(53, .bipush 30, 2), (55, .if_icmp .ge 37, 3), (58, .ldc2_w 272, 3), (61, .lload_n 1, 1), (62, .lmul, 1), (63, .aload_n 0, 1), (64, .getfield 20, 3), (67, .iload_n 3, 1), (68, .caload, 1), (69, .i2l, 1), (70, .ladd, 1), (71, .lstore_n 1, 1), (72, .ldc2_w 272, 3), (75, .lload_n 1, 1), (76, .lmul, 1), (77, .aload_n 0, 1)]
set_option maxRecDepth 20000 in
theorem dk_X8_checksum_2 : dl_X8_checksum_2.all (fun q => decide (decode cX8_checksum q.1 = .ok (q.2.1, q.2.2))) = true := dq_all 53 (by decide +kernel)
def dl_X8_checksum_3 : List (Nat × Instr × Nat) := [(78, .iload_n 3, 1), (79, .iconst 1, 1), (80, .invokevirtual 239, 3), (83, .i2l, 1), (84, .ladd, 1), (85, .lstore_n 1, 1), (86, .iinc 3 1, 3), (89, .goto (-37), 3), (92, .lload_n 1, 1), (93, .lreturn, 1)]
set_option maxRecDepth 20000 in
theorem dk_X8_checksum_3 : dl_X8_checksum_3.all (fun q => decide (decode cX8_checksum q.1 = .ok (q.2.1, q.2.2))) = true := dq_all 78 (by decide +kernel)
def dl_X8_litShare_0 : List (Nat × Instr × Nat) := [(0, .iconst 0, 1), (1, .istore_n 1, 1), (2, .iconst 0, 1), (3, .istore_n 2, 1), (4, .aload_n 0, 1), (5, .getfield 9, 3), (8, .astore_n 3, 1), (9, .aload_n 3, 1), (10, .arraylength, 1), (11, .istore 4, 2), (13, .iconst 0, 1), (14, .istore 5, 2), (16, .iload 5, 2), (18, .iload 4, 2), (20, .if_icmp .ge 47, 3), (23, .aload_n 3, 1)]
set_option maxRecDepth 20000 in
theorem dk_X8_litShare_0 : dl_X8_litShare_0.all (fun q => decide (decode cX8_litShare q.1 = .ok (q.2.1, q.2.2))) = true := dq_all 0 (by decide +kernel)
def dl_X8_litShare_1 : List (Nat × Instr × Nat) := [(24, .iload 5, 2), (26, .iaload, 1), (27, .istore 6, 2), (29, .iload_n 1, 1), (30, .iload 6, 2), (32, .bipush (-2), 2), (34, .if_icmp .ne 7, 3), (37, .iconst 0, 1), (38, .goto 4, 3), (41, .iconst 1, 1), (42, .iadd, 1), (43, .istore_n 1, 1), (44, .iload_n 2, 1), (45, .aload_n 0, 1), (46, .iload 6, 2), (48, .invokevirtual 98, 3)]
set_option maxRecDepth 20000 in
theorem dk_X8_litShare_1 : dl_X8_litShare_1.all (fun q => decide (decode cX8_litShare q.1 = .ok (q.2.1, q.2.2))) = true := dq_all 24 (by decide +kernel)
def dl_X8_litShare_2 : List (Nat × Instr × Nat) := [(51, .ifCond .eq 7, 3), (54, .iconst 1, 1), (55, .goto 4, 3), (58, .iconst 0, 1), (59, .iadd, 1), (60, .istore_n 2, 1), (61, .iinc 5 1, 3), (64, .goto (-48), 3), (67, .aload_n 0, 1), (68, .iload_n 1, 1), (69, .ifCond .ne 7, 3), (72, .iconst 1, 1), (73, .goto 4, 3), (76, .iconst 0, 1), (77, .iconst 1, 1), (78, .invokevirtual 86, 3)]
set_option maxRecDepth 20000 in
theorem dk_X8_litShare_2 : dl_X8_litShare_2.all (fun q => decide (decode cX8_litShare q.1 = .ok (q.2.1, q.2.2))) = true := dq_all 51 (by decide +kernel)
def dl_X8_litShare_3 : List (Nat × Instr × Nat) := [(81, .ifCond .eq 7, 3), (84, .fconst 0, 1), (85, .goto 8, 3), (88, .iload_n 2, 1), (89, .i2f, 1), (90, .iload_n 1, 1), (91, .i2f, 1), (92, .fdiv, 1), (93, .freturn, 1)]
set_option maxRecDepth 20000 in
theorem dk_X8_litShare_3 : dl_X8_litShare_3.all (fun q => decide (decode cX8_litShare q.1 = .ok (q.2.1, q.2.2))) = true := dq_all 81 (by decide +kernel)
def dl_X8_meanCells_0 : List (Nat × Instr × Nat) := [(0, .iconst 0, 1), (1, .istore_n 1, 1), (2, .iconst 0, 1), (3, .istore_n 2, 1), (4, .iconst 0, 1), (5, .istore_n 3, 1), (6, .iload_n 3, 1), (7, .bipush 30, 2), (9, .if_icmp .ge 33, 3), (12, .iload_n 1, 1), (13, .aload_n 0, 1), (14, .iload_n 3, 1), (15, .invokevirtual 105, 3), (18, .iadd, 1), (19, .istore_n 1, 1), (20, .iload_n 2, 1)]
set_option maxRecDepth 20000 in
theorem dk_X8_meanCells_0 : dl_X8_meanCells_0.all (fun q => decide (decode cX8_meanCells q.1 = .ok (q.2.1, q.2.2))) = true := dq_all 0 (by decide +kernel)
def dl_X8_meanCells_1 : List (Nat × Instr × Nat) := [(21, .aload_n 0, 1), (22, .iload_n 3, 1), (23, .invokevirtual 105, 3), (26, .ifCond .le 7, 3), (29, .iconst 1, 1), (30, .goto 4, 3), (33, .iconst 0, 1), (34, .iadd, 1), (35, .istore_n 2, 1), (36, .iinc 3 1, 3), (39, .goto (-33), 3), (42, .aload_n 0, 1), (43, .iload_n 2, 1), (44, .ifCond .ne 7, 3), (47, .iconst 1, 1), (48, .goto 4, 3)]
set_option maxRecDepth 20000 in
theorem dk_X8_meanCells_1 : dl_X8_meanCells_1.all (fun q => decide (decode cX8_meanCells q.1 = .ok (q.2.1, q.2.2))) = true := dq_all 21 (by decide +kernel)
def dl_X8_meanCells_2 : List (Nat × Instr × Nat) := [(51, .iconst 0, 1), (52, .iconst 1, 1), (53, .invokevirtual 86, 3), (56, .ifCond .eq 7, 3), (59, .dconst 0, 1), (60, .goto 8, 3), (63, .iload_n 1, 1), (64, .i2d, 1), (65, .iload_n 2, 1), (66, .i2d, 1), (67, .ddiv, 1), (68, .dreturn, 1)]
set_option maxRecDepth 20000 in
theorem dk_X8_meanCells_2 : dl_X8_meanCells_2.all (fun q => decide (decode cX8_meanCells q.1 = .ok (q.2.1, q.2.2))) = true := dq_all 51 (by decide +kernel)
def dl_X8_isSound_0 : List (Nat × Instr × Nat) := [(0, .aload_n 0, 1), (1, .iconst 0, 1), (2, .putfield 71, 3), (5, .iconst 1, 1), (6, .ireturn, 1)]
set_option maxRecDepth 20000 in
theorem dk_X8_isSound_0 : dl_X8_isSound_0.all (fun q => decide (decode cX8_isSound q.1 = .ok (q.2.1, q.2.2))) = true := dq_all 0 (by decide +kernel)
def dl_J11_isValidCodePoint_9a6ad_0 : List (Nat × Instr × Nat) := [(0, .iload_n 0, 1), (1, .bipush 16, 2), (3, .iushr, 1), (4, .istore_n 1, 1), (5, .iload_n 1, 1), (6, .bipush 17, 2), (8, .if_icmp .ge 7, 3), (11, .iconst 1, 1), (12, .goto 4, 3), (15, .iconst 0, 1), (16, .ireturn, 1)]
set_option maxRecDepth 20000 in
theorem dk_J11_isValidCodePoint_9a6ad_0 : dl_J11_isValidCodePoint_9a6ad_0.all (fun q => decide (decode cJ11_isValidCodePoint_9a6ad q.1 = .ok (q.2.1, q.2.2))) = true := dq_all 0 (by decide +kernel)
def dl_J11_highSurrogate_5068e_0 : List (Nat × Instr × Nat) := [(0, .iload_n 0, 1), (1, .bipush 10, 2), (3, .iushr, 1), (4, .ldc 110, 2), (6, .iadd, 1), (7, .i2c, 1), (8, .ireturn, 1)]
set_option maxRecDepth 20000 in
theorem dk_J11_highSurrogate_5068e_0 : dl_J11_highSurrogate_5068e_0.all (fun q => decide (decode cJ11_highSurrogate_5068e q.1 = .ok (q.2.1, q.2.2))) = true := dq_all 0 (by decide +kernel)
def dl_J11_lowSurrogate_5068e_0 : List (Nat × Instr × Nat) := [(0, .iload_n 0, 1), (1, .sipush 1023, 3), (4, .iand, 1), (5, .ldc 76, 2), (7, .iadd, 1), (8, .i2c, 1), (9, .ireturn, 1)]
set_option maxRecDepth 20000 in
theorem dk_J11_lowSurrogate_5068e_0 : dl_J11_lowSurrogate_5068e_0.all (fun q => decide (decode cJ11_lowSurrogate_5068e q.1 = .ok (q.2.1, q.2.2))) = true := dq_all 0 (by decide +kernel)
def dl_J6_bitCount_0f7a4_0 : List (Nat × Instr × Nat) := [(0, .iload_n 0, 1), (1, .iload_n 0, 1), (2, .iconst 1, 1), (3, .iushr, 1), (4, .ldc_w 265, 3), (7, .iand, 1), (8, .isub, 1), (9, .istore_n 0, 1), (10, .iload_n 0, 1), (11, .ldc_w 266, 3), (14, .iand, 1), (15, .iload_n 0, 1), (16, .iconst 2, 1), (17, .iushr, 1), (18, .ldc_w 266, 3), (21, .iand, 1)]
set_option maxRecDepth 20000 in
theorem dk_J6_bitCount_0f7a4_0 : dl_J6_bitCount_0f7a4_0.all (fun q => decide (decode cJ6_bitCount_0f7a4 q.1 = .ok (q.2.1, q.2.2))) = true := dq_all 0 (by decide +kernel)
def dl_J6_bitCount_0f7a4_1 : List (Nat × Instr × Nat) := [(22, .iadd, 1), (23, .istore_n 0, 1), (24, .iload_n 0, 1), (25, .iload_n 0, 1), (26, .iconst 4, 1), (27, .iushr, 1), (28, .iadd, 1), (29, .ldc_w 267, 3), (32, .iand, 1), (33, .istore_n 0, 1), (34, .iload_n 0, 1), (35, .iload_n 0, 1), (36, .bipush 8, 2), (38, .iushr, 1), (39, .iadd, 1), (40, .istore_n 0, 1)]
set_option maxRecDepth 20000 in
theorem dk_J6_bitCount_0f7a4_1 : dl_J6_bitCount_0f7a4_1.all (fun q => decide (decode cJ6_bitCount_0f7a4 q.1 = .ok (q.2.1, q.2.2))) = true := dq_all 22 (by decide +kernel)
def dl_J6_bitCount_0f7a4_2 : List (Nat × Instr × Nat) := [(41, .iload_n 0, 1), (42, .iload_n 0, 1), (43, .bipush 16, 2), (45, .iushr, 1), (46, .iadd, 1), (47, .istore_n 0, 1), (48, .iload_n 0, 1), (49, .bipush 63, 2), (51, .iand, 1), (52, .ireturn, 1)]
set_option maxRecDepth 20000 in
theorem dk_J6_bitCount_0f7a4_2 : dl_J6_bitCount_0f7a4_2.all (fun q => decide (decode cJ6_bitCount_0f7a4 q.1 = .ok (q.2.1, q.2.2))) = true := dq_all 41 (by decide +kernel)
def dl_J13_bitCount_95d88_0 : List (Nat × Instr × Nat) := [(0, .lload_n 0, 1), (1, .lload_n 0, 1), (2, .iconst 1, 1), (3, .lushr, 1), (4, .ldc2_w 314, 3), (7, .land, 1), (8, .lsub, 1), (9, .lstore_n 0, 1), (10, .lload_n 0, 1), (11, .ldc2_w 316, 3), (14, .land, 1), (15, .lload_n 0, 1), (16, .iconst 2, 1), (17, .lushr, 1), (18, .ldc2_w 316, 3), (21, .land, 1)]
set_option maxRecDepth 20000 in
theorem dk_J13_bitCount_95d88_0 : dl_J13_bitCount_95d88_0.all (fun q => decide (decode cJ13_bitCount_95d88 q.1 = .ok (q.2.1, q.2.2))) = true := dq_all 0 (by decide +kernel)
def dl_J13_bitCount_95d88_1 : List (Nat × Instr × Nat) := [(22, .ladd, 1), (23, .lstore_n 0, 1), (24, .lload_n 0, 1), (25, .lload_n 0, 1), (26, .iconst 4, 1), (27, .lushr, 1), (28, .ladd, 1), (29, .ldc2_w 318, 3), (32, .land, 1), (33, .lstore_n 0, 1), (34, .lload_n 0, 1), (35, .lload_n 0, 1), (36, .bipush 8, 2), (38, .lushr, 1), (39, .ladd, 1), (40, .lstore_n 0, 1)]
set_option maxRecDepth 20000 in
theorem dk_J13_bitCount_95d88_1 : dl_J13_bitCount_95d88_1.all (fun q => decide (decode cJ13_bitCount_95d88 q.1 = .ok (q.2.1, q.2.2))) = true := dq_all 22 (by decide +kernel)
def dl_J13_bitCount_95d88_2 : List (Nat × Instr × Nat) := [(41, .lload_n 0, 1), (42, .lload_n 0, 1), (43, .bipush 16, 2), (45, .lushr, 1), (46, .ladd, 1), (47, .lstore_n 0, 1), (48, .lload_n 0, 1), (49, .lload_n 0, 1), (50, .bipush 32, 2), (52, .lushr, 1), (53, .ladd, 1), (54, .lstore_n 0, 1), (55, .lload_n 0, 1), (56, .l2i, 1), (57, .bipush 127, 2), (59, .iand, 1)]
set_option maxRecDepth 20000 in
theorem dk_J13_bitCount_95d88_2 : dl_J13_bitCount_95d88_2.all (fun q => decide (decode cJ13_bitCount_95d88 q.1 = .ok (q.2.1, q.2.2))) = true := dq_all 41 (by decide +kernel)
def dl_J13_bitCount_95d88_3 : List (Nat × Instr × Nat) := [(60, .ireturn, 1)]
set_option maxRecDepth 20000 in
theorem dk_J13_bitCount_95d88_3 : dl_J13_bitCount_95d88_3.all (fun q => decide (decode cJ13_bitCount_95d88 q.1 = .ok (q.2.1, q.2.2))) = true := dq_all 60 (by decide +kernel)
def dl_J9_abs_0f7a4_0 : List (Nat × Instr × Nat) := [(0, .iload_n 0, 1), (1, .ifCond .ge 8, 3), (4, .iload_n 0, 1), (5, .ineg, 1), (6, .goto 4, 3), (9, .iload_n 0, 1), (10, .ireturn, 1)]
set_option maxRecDepth 20000 in
theorem dk_J9_abs_0f7a4_0 : dl_J9_abs_0f7a4_0.all (fun q => decide (decode cJ9_abs_0f7a4 q.1 = .ok (q.2.1, q.2.2))) = true := dq_all 0 (by decide +kernel)
def dl_J9_max_7cf53_0 : List (Nat × Instr × Nat) := [(0, .iload_n 0, 1), (1, .iload_n 1, 1), (2, .if_icmp .lt 7, 3), (5, .iload_n 0, 1), (6, .goto 4, 3), (9, .iload_n 1, 1), (10, .ireturn, 1)]
set_option maxRecDepth 20000 in
theorem dk_J9_max_7cf53_0 : dl_J9_max_7cf53_0.all (fun q => decide (decode cJ9_max_7cf53 q.1 = .ok (q.2.1, q.2.2))) = true := dq_all 0 (by decide +kernel)
def dl_J9_min_7cf53_0 : List (Nat × Instr × Nat) := [(0, .iload_n 0, 1), (1, .iload_n 1, 1), (2, .if_icmp .gt 7, 3), (5, .iload_n 0, 1), (6, .goto 4, 3), (9, .iload_n 1, 1), (10, .ireturn, 1)]
set_option maxRecDepth 20000 in
theorem dk_J9_min_7cf53_0 : dl_J9_min_7cf53_0.all (fun q => decide (decode cJ9_min_7cf53 q.1 = .ok (q.2.1, q.2.2))) = true := dq_all 0 (by decide +kernel)
def dl_J0_length_8abf5_0 : List (Nat × Instr × Nat) := [(0, .aload_n 0, 1), (1, .getfield 9, 3), (4, .arraylength, 1), (5, .aload_n 0, 1), (6, .invokevirtual 335, 3), (9, .ishr, 1), (10, .ireturn, 1)]
set_option maxRecDepth 20000 in
theorem dk_J0_length_8abf5_0 : dl_J0_length_8abf5_0.all (fun q => decide (decode cJ0_length_8abf5 q.1 = .ok (q.2.1, q.2.2))) = true := dq_all 0 (by decide +kernel)
def dl_J0_indexOf_0f7a4_0 : List (Nat × Instr × Nat) := [(0, .aload_n 0, 1), (1, .iload_n 1, 1), (2, .iconst 0, 1), (3, .invokevirtual 633, 3), (6, .ireturn, 1)]
set_option maxRecDepth 20000 in
theorem dk_J0_indexOf_0f7a4_0 : dl_J0_indexOf_0f7a4_0.all (fun q => decide (decode cJ0_indexOf_0f7a4 q.1 = .ok (q.2.1, q.2.2))) = true := dq_all 0 (by decide +kernel)
def dl_J0_indexOf_7cf53_0 : List (Nat × Instr × Nat) := [(0, .aload_n 0, 1), (1, .invokevirtual 492, 3), (4, .ifCond .eq 19, 3), (7, .aload_n 0, 1), (8, .getfield 9, 3), (11, .iload_n 1, 1), (12, .iload_n 2, 1), (13, .aload_n 0, 1), (14, .invokevirtual 505, 3), (17, .invokestatic 637, 3), (20, .goto 16, 3), (23, .aload_n 0, 1), (24, .getfield 9, 3), (27, .iload_n 1, 1), (28, .iload_n 2, 1), (29, .aload_n 0, 1)]
set_option maxRecDepth 20000 in
theorem dk_J0_indexOf_7cf53_0 : dl_J0_indexOf_7cf53_0.all (fun q => decide (decode cJ0_indexOf_7cf53 q.1 = .ok (q.2.1, q.2.2))) = true := dq_all 0 (by decide +kernel)
def dl_J0_indexOf_7cf53_1 : List (Nat × Instr × Nat) := [(30, .invokevirtual 505, 3), (33, .invokestatic 640, 3), (36, .ireturn, 1)]
set_option maxRecDepth 20000 in
theorem dk_J0_indexOf_7cf53_1 : dl_J0_indexOf_7cf53_1.all (fun q => decide (decode cJ0_indexOf_7cf53 q.1 = .ok (q.2.1, q.2.2))) = true := dq_all 30 (by decide +kernel)
def dl_J0_coder_7d493_0 : List (Nat × Instr × Nat) := [(0, .getstatic 38, 3), (3, .ifCond .eq 10, 3), (6, .aload_n 0, 1), (7, .getfield 15, 3), (10, .goto 4, 3), (13, .iconst 1, 1), (14, .ireturn, 1)]
set_option maxRecDepth 20000 in
theorem dk_J0_coder_7d493_0 : dl_J0_coder_7d493_0.all (fun q => decide (decode cJ0_coder_7d493 q.1 = .ok (q.2.1, q.2.2))) = true := dq_all 0 (by decide +kernel)
def dl_J0_isLatin1_aae02_0 : List (Nat × Instr × Nat) := [(0, .getstatic 38, 3), (3, .ifCond .eq 14, 3), (6, .aload_n 0, 1), (7, .getfield 15, 3), (10, .ifCond .ne 7, 3), (13, .iconst 1, 1), (14, .goto 4, 3), (17, .iconst 0, 1), (18, .ireturn, 1)]
set_option maxRecDepth 20000 in
theorem dk_J0_isLatin1_aae02_0 : dl_J0_isLatin1_aae02_0.all (fun q => decide (decode cJ0_isLatin1_aae02 q.1 = .ok (q.2.1, q.2.2))) = true := dq_all 0 (by decide +kernel)
def dl_J0_checkBoundsBeginEnd_23922_0 : List (Nat × Instr × Nat) := [(0, .iload_n 0, 1), (1, .iload_n 1, 1), (2, .iload_n 2, 1), (3, .getstatic 1053, 3), (6, .invokestatic 1062, 3), (9, .pop, 1), (10, .return_, 1)]
set_option maxRecDepth 20000 in
theorem dk_J0_checkBoundsBeginEnd_23922_0 : dl_J0_checkBoundsBeginEnd_23922_0.all (fun q => decide (decode cJ0_checkBoundsBeginEnd_23922 q.1 = .ok (q.2.1, q.2.2))) = true := dq_all 0 (by decide +kernel)
def dl_J1_canEncode_9a6ad_0 : List (Nat × Instr × Nat) := [(0, .iload_n 0, 1), (1, .ifCond .lt 14, 3), (4, .iload_n 0, 1), (5, .sipush 255, 3), (8, .if_icmp .gt 7, 3), (11, .iconst 1, 1), (12, .goto 4, 3), (15, .iconst 0, 1), (16, .ireturn, 1)]
set_option maxRecDepth 20000 in
theorem dk_J1_canEncode_9a6ad_0 : dl_J1_canEncode_9a6ad_0.all (fun q => decide (decode cJ1_canEncode_9a6ad q.1 = .ok (q.2.1, q.2.2))) = true := dq_all 0 (by decide +kernel)
def dl_J1_indexOf_4cfef_0 : List (Nat × Instr × Nat) := [(0, .iload_n 1, 1), (1, .invokestatic 88, 3), (4, .ifCond .ne 5, 3), (7, .iconst (-1), 1), (8, .ireturn, 1), (9, .iload_n 2, 1), (10, .iconst 0, 1), (11, .invokestatic 92, 3), (14, .istore_n 2, 1), (15, .iload_n 3, 1), (16, .aload_n 0, 1), (17, .arraylength, 1), (18, .invokestatic 38, 3), (21, .istore_n 3, 1), (22, .iload_n 2, 1), (23, .iload_n 3, 1)]
set_option maxRecDepth 20000 in
theorem dk_J1_indexOf_4cfef_0 : dl_J1_indexOf_4cfef_0.all (fun q => decide (decode cJ1_indexOf_4cfef q.1 = .ok (q.2.1, q.2.2))) = true := dq_all 0 (by decide +kernel)
def dl_J1_indexOf_4cfef_1 : List (Nat × Instr × Nat) := [(24, .if_icmp .lt 5, 3), (27, .iconst (-1), 1), (28, .ireturn, 1), (29, .aload_n 0, 1), (30, .iload_n 1, 1), (31, .iload_n 2, 1), (32, .iload_n 3, 1), (33, .invokestatic 95, 3), (36, .ireturn, 1)]
set_option maxRecDepth 20000 in
theorem dk_J1_indexOf_4cfef_1 : dl_J1_indexOf_4cfef_1.all (fun q => decide (decode cJ1_indexOf_4cfef q.1 = .ok (q.2.1, q.2.2))) = true := dq_all 24 (by decide +kernel)
def dl_J1_indexOfChar_4cfef_0 : List (Nat × Instr × Nat) := [(0, .iload_n 1, 1), (1, .i2b, 1), (2, .istore 4, 2), (4, .iload_n 2, 1), (5, .istore 5, 2), (7, .iload 5, 2), (9, .iload_n 3, 1), (10, .if_icmp .ge 21, 3), (13, .aload_n 0, 1), (14, .iload 5, 2), (16, .baload, 1), (17, .iload 4, 2), (19, .if_icmp .ne 6, 3), (22, .iload 5, 2), (24, .ireturn, 1), (25, .iinc 5 1, 3)]
set_option maxRecDepth 20000 in
theorem dk_J1_indexOfChar_4cfef_0 : dl_J1_indexOfChar_4cfef_0.all (fun q => decide (decode cJ1_indexOfChar_4cfef q.1 = .ok (q.2.1, q.2.2))) = true := dq_all 0 (by decide +kernel)
def dl_J1_indexOfChar_4cfef_1 : List (Nat × Instr × Nat) := [(28, .goto (-21), 3), (31, .iconst (-1), 1), (32, .ireturn, 1)]
set_option maxRecDepth 20000 in
theorem dk_J1_indexOfChar_4cfef_1 : dl_J1_indexOfChar_4cfef_1.all (fun q => decide (decode cJ1_indexOfChar_4cfef q.1 = .ok (q.2.1, q.2.2))) = true := dq_all 28 (by decide +kernel)
def dl_J2_getChar_3b067_0 : List (Nat × Instr × Nat) := [(0, .getstatic 44, 3), (3, .ifCond .ne 25, 3), (6, .iload_n 1, 1), (7, .ifCond .lt 11, 3), (10, .iload_n 1, 1), (11, .aload_n 0, 1), (12, .invokestatic 48, 3), (15, .if_icmp .lt 13, 3), (18, .new 52, 3), (21, .dup, 1), (22, .ldc 54, 2), (24, .invokespecial 56, 3), (27, .athrow, 1), (28, .iload_n 1, 1), (29, .iconst 1, 1), (30, .ishl, 1)]
set_option maxRecDepth 20000 in
theorem dk_J2_getChar_3b067_0 : dl_J2_getChar_3b067_0.all (fun q => decide (decode cJ2_getChar_3b067 q.1 = .ok (q.2.1, q.2.2))) = true := dq_all 0 (by decide +kernel)
def dl_J2_getChar_3b067_1 : List (Nat × Instr × Nat) := [(31, .istore_n 1, 1), (32, .aload_n 0, 1), (33, .iload_n 1, 1), (34, .iinc 1 1, 3), (37, .baload, 1), (38, .sipush 255, 3), (41, .iand, 1), (42, .getstatic 59, 3), (45, .ishl, 1), (46, .aload_n 0, 1), (47, .iload_n 1, 1), (48, .baload, 1), (49, .sipush 255, 3), (52, .iand, 1), (53, .getstatic 63, 3), (56, .ishl, 1)]
set_option maxRecDepth 20000 in
theorem dk_J2_getChar_3b067_1 : dl_J2_getChar_3b067_1.all (fun q => decide (decode cJ2_getChar_3b067 q.1 = .ok (q.2.1, q.2.2))) = true := dq_all 31 (by decide +kernel)
def dl_J2_getChar_3b067_2 : List (Nat × Instr × Nat) := [(57, .ior, 1), (58, .i2c, 1), (59, .ireturn, 1)]
set_option maxRecDepth 20000 in
theorem dk_J2_getChar_3b067_2 : dl_J2_getChar_3b067_2.all (fun q => decide (decode cJ2_getChar_3b067 q.1 = .ok (q.2.1, q.2.2))) = true := dq_all 57 (by decide +kernel)
def dl_J2_length_9d52b_0 : List (Nat × Instr × Nat) := [(0, .aload_n 0, 1), (1, .arraylength, 1), (2, .iconst 1, 1), (3, .ishr, 1), (4, .ireturn, 1)]
set_option maxRecDepth 20000 in
theorem dk_J2_length_9d52b_0 : dl_J2_length_9d52b_0.all (fun q => decide (decode cJ2_length_9d52b q.1 = .ok (q.2.1, q.2.2))) = true := dq_all 0 (by decide +kernel)
def dl_J2_indexOf_4cfef_0 : List (Nat × Instr × Nat) := [(0, .iload_n 2, 1), (1, .iconst 0, 1), (2, .invokestatic 224, 3), (5, .istore_n 2, 1), (6, .iload_n 3, 1), (7, .aload_n 0, 1), (8, .arraylength, 1), (9, .iconst 1, 1), (10, .ishr, 1), (11, .invokestatic 183, 3), (14, .istore_n 3, 1), (15, .iload_n 2, 1), (16, .iload_n 3, 1), (17, .if_icmp .lt 5, 3), (20, .iconst (-1), 1), (21, .ireturn, 1)]
set_option maxRecDepth 20000 in
theorem dk_J2_indexOf_4cfef_0 : dl_J2_indexOf_4cfef_0.all (fun q => decide (decode cJ2_indexOf_4cfef q.1 = .ok (q.2.1, q.2.2))) = true := dq_all 0 (by decide +kernel)
def dl_J2_indexOf_4cfef_1 : List (Nat × Instr × Nat) := [(22, .iload_n 1, 1), (23, .ldc 227, 2), (25, .if_icmp .ge 11, 3), (28, .aload_n 0, 1), (29, .iload_n 1, 1), (30, .iload_n 2, 1), (31, .iload_n 3, 1), (32, .invokestatic 228, 3), (35, .ireturn, 1), (36, .aload_n 0, 1), (37, .iload_n 1, 1), (38, .iload_n 2, 1), (39, .iload_n 3, 1), (40, .invokestatic 232, 3), (43, .ireturn, 1)]
set_option maxRecDepth 20000 in
theorem dk_J2_indexOf_4cfef_1 : dl_J2_indexOf_4cfef_1.all (fun q => decide (decode cJ2_indexOf_4cfef q.1 = .ok (q.2.1, q.2.2))) = true := dq_all 22 (by decide +kernel)
def dl_J2_indexOfChar_4cfef_0 : List (Nat × Instr × Nat) := [(0, .iload_n 2, 1), (1, .iload_n 3, 1), (2, .aload_n 0, 1), (3, .invokestatic 96, 3), (6, .aload_n 0, 1), (7, .iload_n 1, 1), (8, .iload_n 2, 1), (9, .iload_n 3, 1), (10, .invokestatic 244, 3), (13, .ireturn, 1)]
set_option maxRecDepth 20000 in
theorem dk_J2_indexOfChar_4cfef_0 : dl_J2_indexOfChar_4cfef_0.all (fun q => decide (decode cJ2_indexOfChar_4cfef q.1 = .ok (q.2.1, q.2.2))) = true := dq_all 0 (by decide +kernel)
def dl_J2_indexOfCharUnsafe_4cfef_0 : List (Nat × Instr × Nat) := [(0, .iload_n 2, 1), (1, .istore 4, 2), (3, .iload 4, 2), (5, .iload_n 3, 1), (6, .if_icmp .ge 22, 3), (9, .aload_n 0, 1), (10, .iload 4, 2), (12, .invokestatic 71, 3), (15, .iload_n 1, 1), (16, .if_icmp .ne 6, 3), (19, .iload 4, 2), (21, .ireturn, 1), (22, .iinc 4 1, 3), (25, .goto (-22), 3), (28, .iconst (-1), 1), (29, .ireturn, 1)]
set_option maxRecDepth 20000 in
theorem dk_J2_indexOfCharUnsafe_4cfef_0 : dl_J2_indexOfCharUnsafe_4cfef_0.all (fun q => decide (decode cJ2_indexOfCharUnsafe_4cfef q.1 = .ok (q.2.1, q.2.2))) = true := dq_all 0 (by decide +kernel)
def dl_J2_indexOfSupplementary_4cfef_0 : List (Nat × Instr × Nat) := [(0, .iload_n 1, 1), (1, .invokestatic 164, 3), (4, .ifCond .eq 65, 3), (7, .iload_n 1, 1), (8, .invokestatic 157, 3), (11, .istore 4, 2), (13, .iload_n 1, 1), (14, .invokestatic 161, 3), (17, .istore 5, 2), (19, .iload_n 2, 1), (20, .iload_n 3, 1), (21, .aload_n 0, 1), (22, .invokestatic 96, 3), (25, .iload_n 2, 1), (26, .istore 6, 2), (28, .iload 6, 2)]
set_option maxRecDepth 20000 in
theorem dk_J2_indexOfSupplementary_4cfef_0 : dl_J2_indexOfSupplementary_4cfef_0.all (fun q => decide (decode cJ2_indexOfSupplementary_4cfef q.1 = .ok (q.2.1, q.2.2))) = true := dq_all 0 (by decide +kernel)
def dl_J2_indexOfSupplementary_4cfef_1 : List (Nat × Instr × Nat) := [(30, .iload_n 3, 1), (31, .iconst 1, 1), (32, .isub, 1), (33, .if_icmp .ge 36, 3), (36, .aload_n 0, 1), (37, .iload 6, 2), (39, .invokestatic 71, 3), (42, .iload 4, 2), (44, .if_icmp .ne 19, 3), (47, .aload_n 0, 1), (48, .iload 6, 2), (50, .iconst 1, 1), (51, .iadd, 1), (52, .invokestatic 71, 3), (55, .iload 5, 2), (57, .if_icmp .ne 6, 3)]
set_option maxRecDepth 20000 in
theorem dk_J2_indexOfSupplementary_4cfef_1 : dl_J2_indexOfSupplementary_4cfef_1.all (fun q => decide (decode cJ2_indexOfSupplementary_4cfef q.1 = .ok (q.2.1, q.2.2))) = true := dq_all 30 (by decide +kernel)
def dl_J2_indexOfSupplementary_4cfef_2 : List (Nat × Instr × Nat) := [(60, .iload 6, 2), (62, .ireturn, 1), (63, .iinc 6 1, 3), (66, .goto (-38), 3), (69, .iconst (-1), 1), (70, .ireturn, 1)]
set_option maxRecDepth 20000 in
theorem dk_J2_indexOfSupplementary_4cfef_2 : dl_J2_indexOfSupplementary_4cfef_2.all (fun q => decide (decode cJ2_indexOfSupplementary_4cfef q.1 = .ok (q.2.1, q.2.2))) = true := dq_all 60 (by decide +kernel)
def dl_J2_checkBoundsBeginEnd_d044e_0 : List (Nat × Instr × Nat) := [(0, .iload_n 0, 1), (1, .iload_n 1, 1), (2, .aload_n 2, 1), (3, .invokestatic 48, 3), (6, .invokestatic 241, 3), (9, .return_, 1)]
set_option maxRecDepth 20000 in
theorem dk_J2_checkBoundsBeginEnd_d044e_0 : dl_J2_checkBoundsBeginEnd_d044e_0.all (fun q => decide (decode cJ2_checkBoundsBeginEnd_d044e q.1 = .ok (q.2.1, q.2.2))) = true := dq_all 0 (by decide +kernel)
def dl_J3_checkFromToIndex_8c36e_0 : List (Nat × Instr × Nat) := [(0, .iload_n 0, 1), (1, .ifCond .lt 13, 3), (4, .iload_n 0, 1), (5, .iload_n 1, 1), (6, .if_icmp .gt 8, 3), (9, .iload_n 1, 1), (10, .iload_n 2, 1), (11, .if_icmp .le 11, 3), (14, .aload_n 3, 1), (15, .iload_n 0, 1), (16, .iload_n 1, 1), (17, .iload_n 2, 1), (18, .invokestatic 99, 3), (21, .athrow, 1), (22, .iload_n 0, 1), (23, .ireturn, 1)]
set_option maxRecDepth 20000 in
theorem dk_J3_checkFromToIndex_8c36e_0 : dl_J3_checkFromToIndex_8c36e_0.all (fun q => decide (decode cJ3_checkFromToIndex_8c36e q.1 = .ok (q.2.1, q.2.2))) = true := dq_all 0 (by decide +kernel)
def dl_L_open_0 : List (Nat × Instr × Nat) := [(0, .aload 6, 2), (2, .iconst 0, 1), (3, .aload_n 0, 1), (4, .iload_n 1, 1), (5, .iload_n 2, 1), (6, .iload_n 3, 1), (7, .iload 4, 2), (9, .iload 5, 2), (11, .invokevirtual 7, 3), (14, .i2l, 1), (15, .lastore, 1), (16, .goto 11, 3), (19, .astore 7, 2), (21, .iconst 1, 1), (22, .ireturn, 1), (23, .astore 7, 2)]
set_option maxRecDepth 20000 in
theorem dk_L_open_0 : dl_L_open_0.all (fun q => decide (decode cL_open q.1 = .ok (q.2.1, q.2.2))) = true := dq_all 0 (by decide +kernel)
def dl_L_open_1 : List (Nat × Instr × Nat) := [(25, .iconst 2, 1), (26, .ireturn, 1), (27, .iconst 0, 1), (28, .ireturn, 1)]
set_option maxRecDepth 20000 in
theorem dk_L_open_1 : dl_L_open_1.all (fun q => decide (decode cL_open q.1 = .ok (q.2.1, q.2.2))) = true := dq_all 25 (by decide +kernel)
def dl_L_lay_0 : List (Nat × Instr × Nat) := [(0, .aload 6, 2), (2, .iconst 0, 1), (3, .aload_n 0, 1), (4, .iload_n 1, 1), (5, .iload_n 2, 1), (6, .iload_n 3, 1), (7, .iload 4, 2), (9, .iload 5, 2), (11, .invokevirtual 17, 3), (14, .i2l, 1), (15, .lastore, 1), (16, .goto 15, 3), (19, .astore 7, 2), (21, .iconst 1, 1), (22, .ireturn, 1), (23, .astore 7, 2)]
set_option maxRecDepth 20000 in
theorem dk_L_lay_0 : dl_L_lay_0.all (fun q => decide (decode cL_lay q.1 = .ok (q.2.1, q.2.2))) = true := dq_all 0 (by decide +kernel)
def dl_L_lay_1 : List (Nat × Instr × Nat) := [(25, .iconst 2, 1), (26, .ireturn, 1), (27, .astore 7, 2), (29, .iconst 3, 1), (30, .ireturn, 1), (31, .iconst 0, 1), (32, .ireturn, 1)]
set_option maxRecDepth 20000 in
theorem dk_L_lay_1 : dl_L_lay_1.all (fun q => decide (decode cL_lay q.1 = .ok (q.2.1, q.2.2))) = true := dq_all 25 (by decide +kernel)
def dl_L_pieceAt_0 : List (Nat × Instr × Nat) := [(0, .aload_n 3, 1), (1, .iconst 0, 1), (2, .aload_n 0, 1), (3, .iload_n 1, 1), (4, .iload_n 2, 1), (5, .invokevirtual 23, 3), (8, .i2l, 1), (9, .lastore, 1), (10, .goto 7, 3), (13, .astore 4, 2), (15, .iconst 1, 1), (16, .ireturn, 1), (17, .iconst 0, 1), (18, .ireturn, 1)]
set_option maxRecDepth 20000 in
theorem dk_L_pieceAt_0 : dl_L_pieceAt_0.all (fun q => decide (decode cL_pieceAt q.1 = .ok (q.2.1, q.2.2))) = true := dq_all 0 (by decide +kernel)
def dl_L_size_0 : List (Nat × Instr × Nat) := [(0, .aload_n 2, 1), (1, .iconst 0, 1), (2, .aload_n 0, 1), (3, .iload_n 1, 1), (4, .invokevirtual 27, 3), (7, .i2l, 1), (8, .lastore, 1), (9, .goto 6, 3), (12, .astore_n 3, 1), (13, .iconst 1, 1), (14, .ireturn, 1), (15, .iconst 0, 1), (16, .ireturn, 1)]
set_option maxRecDepth 20000 in
theorem dk_L_size_0 : dl_L_size_0.all (fun q => decide (decode cL_size q.1 = .ok (q.2.1, q.2.2))) = true := dq_all 0 (by decide +kernel)
def dl_L_corners_0 : List (Nat × Instr × Nat) := [(0, .aload_n 2, 1), (1, .iconst 0, 1), (2, .aload_n 0, 1), (3, .iload_n 1, 1), (4, .invokevirtual 31, 3), (7, .i2l, 1), (8, .lastore, 1), (9, .goto 6, 3), (12, .astore_n 3, 1), (13, .iconst 1, 1), (14, .ireturn, 1), (15, .iconst 0, 1), (16, .ireturn, 1)]
set_option maxRecDepth 20000 in
theorem dk_L_corners_0 : dl_L_corners_0.all (fun q => decide (decode cL_corners q.1 = .ok (q.2.1, q.2.2))) = true := dq_all 0 (by decide +kernel)
def dl_L_point_0 : List (Nat × Instr × Nat) := [(0, .aload_n 2, 1), (1, .iconst 0, 1), (2, .aload_n 0, 1), (3, .iload_n 1, 1), (4, .invokevirtual 34, 3), (7, .i2l, 1), (8, .lastore, 1), (9, .goto 6, 3), (12, .astore_n 3, 1), (13, .iconst 1, 1), (14, .ireturn, 1), (15, .iconst 0, 1), (16, .ireturn, 1)]
set_option maxRecDepth 20000 in
theorem dk_L_point_0 : dl_L_point_0.all (fun q => decide (decode cL_point q.1 = .ok (q.2.1, q.2.2))) = true := dq_all 0 (by decide +kernel)
def dl_L_hinders_0 : List (Nat × Instr × Nat) := [(0, .aload_n 2, 1), (1, .iconst 0, 1), (2, .aload_n 0, 1), (3, .iload_n 1, 1), (4, .invokevirtual 37, 3), (7, .i2l, 1), (8, .lastore, 1), (9, .goto 6, 3), (12, .astore_n 3, 1), (13, .iconst 1, 1), (14, .ireturn, 1), (15, .iconst 0, 1), (16, .ireturn, 1)]
set_option maxRecDepth 20000 in
theorem dk_L_hinders_0 : dl_L_hinders_0.all (fun q => decide (decode cL_hinders q.1 = .ok (q.2.1, q.2.2))) = true := dq_all 0 (by decide +kernel)
def dl_L_split_0 : List (Nat × Instr × Nat) := [(0, .aload_n 2, 1), (1, .iconst 0, 1), (2, .aload_n 0, 1), (3, .iload_n 1, 1), (4, .invokevirtual 41, 3), (7, .i2l, 1), (8, .lastore, 1), (9, .goto 12, 3), (12, .astore_n 3, 1), (13, .iconst 1, 1), (14, .ireturn, 1), (15, .astore_n 3, 1), (16, .iconst 2, 1), (17, .ireturn, 1), (18, .astore_n 3, 1), (19, .iconst 3, 1)]
set_option maxRecDepth 20000 in
theorem dk_L_split_0 : dl_L_split_0.all (fun q => decide (decode cL_split q.1 = .ok (q.2.1, q.2.2))) = true := dq_all 0 (by decide +kernel)
def dl_L_split_1 : List (Nat × Instr × Nat) := [(20, .ireturn, 1), (21, .iconst 0, 1), (22, .ireturn, 1)]
set_option maxRecDepth 20000 in
theorem dk_L_split_1 : dl_L_split_1.all (fun q => decide (decode cL_split q.1 = .ok (q.2.1, q.2.2))) = true := dq_all 20 (by decide +kernel)
def dl_L_sheet_0 : List (Nat × Instr × Nat) := [(0, .aload 5, 2), (2, .iconst 0, 1), (3, .aload_n 0, 1), (4, .iload_n 1, 1), (5, .iload_n 2, 1), (6, .iload_n 3, 1), (7, .iload 4, 2), (9, .invokevirtual 46, 3), (12, .i2l, 1), (13, .lastore, 1), (14, .goto 11, 3), (17, .astore 6, 2), (19, .iconst 1, 1), (20, .ireturn, 1), (21, .astore 6, 2), (23, .iconst 2, 1)]
set_option maxRecDepth 20000 in
theorem dk_L_sheet_0 : dl_L_sheet_0.all (fun q => decide (decode cL_sheet q.1 = .ok (q.2.1, q.2.2))) = true := dq_all 0 (by decide +kernel)
def dl_L_sheet_1 : List (Nat × Instr × Nat) := [(24, .ireturn, 1), (25, .iconst 0, 1), (26, .ireturn, 1)]
set_option maxRecDepth 20000 in
theorem dk_L_sheet_1 : dl_L_sheet_1.all (fun q => decide (decode cL_sheet q.1 = .ok (q.2.1, q.2.2))) = true := dq_all 24 (by decide +kernel)
def dl_L_free_0 : List (Nat × Instr × Nat) := [(0, .aload_n 2, 1), (1, .iconst 0, 1), (2, .aload_n 0, 1), (3, .iload_n 1, 1), (4, .invokevirtual 50, 3), (7, .i2l, 1), (8, .lastore, 1), (9, .goto 6, 3), (12, .astore_n 3, 1), (13, .iconst 1, 1), (14, .ireturn, 1), (15, .iconst 0, 1), (16, .ireturn, 1)]
set_option maxRecDepth 20000 in
theorem dk_L_free_0 : dl_L_free_0.all (fun q => decide (decode cL_free q.1 = .ok (q.2.1, q.2.2))) = true := dq_all 0 (by decide +kernel)
def dl_L_want_0 : List (Nat × Instr × Nat) := [(0, .aload 4, 2), (2, .iconst 0, 1), (3, .aload_n 0, 1), (4, .iload_n 1, 1), (5, .iload_n 2, 1), (6, .iload_n 3, 1), (7, .invokevirtual 53, 3), (10, .ifCond .eq 7, 3), (13, .lconst 1, 1), (14, .goto 4, 3), (17, .lconst 0, 1), (18, .lastore, 1), (19, .goto 15, 3), (22, .astore 5, 2), (24, .iconst 1, 1), (25, .ireturn, 1)]
set_option maxRecDepth 20000 in
theorem dk_L_want_0 : dl_L_want_0.all (fun q => decide (decode cL_want q.1 = .ok (q.2.1, q.2.2))) = true := dq_all 0 (by decide +kernel)
def dl_L_want_1 : List (Nat × Instr × Nat) := [(26, .astore 5, 2), (28, .iconst 2, 1), (29, .ireturn, 1), (30, .astore 5, 2), (32, .iconst 3, 1), (33, .ireturn, 1), (34, .iconst 0, 1), (35, .ireturn, 1)]
set_option maxRecDepth 20000 in
theorem dk_L_want_1 : dl_L_want_1.all (fun q => decide (decode cL_want q.1 = .ok (q.2.1, q.2.2))) = true := dq_all 26 (by decide +kernel)
def dl_L_cut_0 : List (Nat × Instr × Nat) := [(0, .aload 4, 2), (2, .iconst 0, 1), (3, .aload_n 0, 1), (4, .iload_n 1, 1), (5, .iload_n 2, 1), (6, .iload_n 3, 1), (7, .invokevirtual 57, 3), (10, .ifCond .eq 7, 3), (13, .lconst 1, 1), (14, .goto 4, 3), (17, .lconst 0, 1), (18, .lastore, 1), (19, .goto 15, 3), (22, .astore 5, 2), (24, .iconst 1, 1), (25, .ireturn, 1)]
set_option maxRecDepth 20000 in
theorem dk_L_cut_0 : dl_L_cut_0.all (fun q => decide (decode cL_cut q.1 = .ok (q.2.1, q.2.2))) = true := dq_all 0 (by decide +kernel)
def dl_L_cut_1 : List (Nat × Instr × Nat) := [(26, .astore 5, 2), (28, .iconst 2, 1), (29, .ireturn, 1), (30, .astore 5, 2), (32, .iconst 3, 1), (33, .ireturn, 1), (34, .iconst 0, 1), (35, .ireturn, 1)]
set_option maxRecDepth 20000 in
theorem dk_L_cut_1 : dl_L_cut_1.all (fun q => decide (decode cL_cut q.1 = .ok (q.2.1, q.2.2))) = true := dq_all 26 (by decide +kernel)
def dl_L_glass_0 : List (Nat × Instr × Nat) := [(0, .aload_n 2, 1), (1, .iconst 0, 1), (2, .aload_n 0, 1), (3, .iload_n 1, 1), (4, .invokevirtual 61, 3), (7, .i2l, 1), (8, .lastore, 1), (9, .goto 6, 3), (12, .astore_n 3, 1), (13, .iconst 1, 1), (14, .ireturn, 1), (15, .iconst 0, 1), (16, .ireturn, 1)]
set_option maxRecDepth 20000 in
theorem dk_L_glass_0 : dl_L_glass_0.all (fun q => decide (decode cL_glass q.1 = .ok (q.2.1, q.2.2))) = true := dq_all 0 (by decide +kernel)
def dl_L_colour_0 : List (Nat × Instr × Nat) := [(0, .aload_n 2, 1), (1, .iconst 0, 1), (2, .aload_n 0, 1), (3, .iload_n 1, 1), (4, .invokevirtual 64, 3), (7, .i2l, 1), (8, .lastore, 1), (9, .goto 9, 3), (12, .astore_n 3, 1), (13, .iconst 1, 1), (14, .ireturn, 1), (15, .astore_n 3, 1), (16, .iconst 2, 1), (17, .ireturn, 1), (18, .iconst 0, 1), (19, .ireturn, 1)]
set_option maxRecDepth 20000 in
theorem dk_L_colour_0 : dl_L_colour_0.all (fun q => decide (decode cL_colour q.1 = .ok (q.2.1, q.2.2))) = true := dq_all 0 (by decide +kernel)
def dl_L_paint_0 : List (Nat × Instr × Nat) := [(0, .aload_n 3, 1), (1, .iconst 0, 1), (2, .aload_n 0, 1), (3, .iload_n 1, 1), (4, .iload_n 2, 1), (5, .invokevirtual 69, 3), (8, .i2l, 1), (9, .lastore, 1), (10, .goto 19, 3), (13, .astore 4, 2), (15, .iconst 1, 1), (16, .ireturn, 1), (17, .astore 4, 2), (19, .iconst 2, 1), (20, .ireturn, 1), (21, .astore 4, 2)]
set_option maxRecDepth 20000 in
theorem dk_L_paint_0 : dl_L_paint_0.all (fun q => decide (decode cL_paint q.1 = .ok (q.2.1, q.2.2))) = true := dq_all 0 (by decide +kernel)
def dl_L_paint_1 : List (Nat × Instr × Nat) := [(23, .iconst 3, 1), (24, .ireturn, 1), (25, .astore 4, 2), (27, .iconst 4, 1), (28, .ireturn, 1), (29, .iconst 0, 1), (30, .ireturn, 1)]
set_option maxRecDepth 20000 in
theorem dk_L_paint_1 : dl_L_paint_1.all (fun q => decide (decode cL_paint q.1 = .ok (q.2.1, q.2.2))) = true := dq_all 23 (by decide +kernel)
def dl_L_fire_0 : List (Nat × Instr × Nat) := [(0, .aload_n 3, 1), (1, .iconst 0, 1), (2, .aload_n 0, 1), (3, .iload_n 1, 1), (4, .iload_n 2, 1), (5, .invokevirtual 73, 3), (8, .i2l, 1), (9, .lastore, 1), (10, .goto 11, 3), (13, .astore 4, 2), (15, .iconst 1, 1), (16, .ireturn, 1), (17, .astore 4, 2), (19, .iconst 2, 1), (20, .ireturn, 1), (21, .iconst 0, 1)]
set_option maxRecDepth 20000 in
theorem dk_L_fire_0 : dl_L_fire_0.all (fun q => decide (decode cL_fire q.1 = .ok (q.2.1, q.2.2))) = true := dq_all 0 (by decide +kernel)
def dl_L_fire_1 : List (Nat × Instr × Nat) := [(22, .ireturn, 1)]
set_option maxRecDepth 20000 in
theorem dk_L_fire_1 : dl_L_fire_1.all (fun q => decide (decode cL_fire q.1 = .ok (q.2.1, q.2.2))) = true := dq_all 22 (by decide +kernel)
def dl_L_layers_0 : List (Nat × Instr × Nat) := [(0, .aload_n 3, 1), (1, .iconst 0, 1), (2, .aload_n 0, 1), (3, .iload_n 1, 1), (4, .iload_n 2, 1), (5, .invokevirtual 76, 3), (8, .i2l, 1), (9, .lastore, 1), (10, .goto 11, 3), (13, .astore 4, 2), (15, .iconst 1, 1), (16, .ireturn, 1), (17, .astore 4, 2), (19, .iconst 2, 1), (20, .ireturn, 1), (21, .iconst 0, 1)]
set_option maxRecDepth 20000 in
theorem dk_L_layers_0 : dl_L_layers_0.all (fun q => decide (decode cL_layers q.1 = .ok (q.2.1, q.2.2))) = true := dq_all 0 (by decide +kernel)
def dl_L_layers_1 : List (Nat × Instr × Nat) := [(22, .ireturn, 1)]
set_option maxRecDepth 20000 in
theorem dk_L_layers_1 : dl_L_layers_1.all (fun q => decide (decode cL_layers q.1 = .ok (q.2.1, q.2.2))) = true := dq_all 22 (by decide +kernel)
def dl_L_seed_0 : List (Nat × Instr × Nat) := [(0, .aload_n 2, 1), (1, .iconst 0, 1), (2, .aload_n 0, 1), (3, .iload_n 1, 1), (4, .invokevirtual 79, 3), (7, .i2l, 1), (8, .lastore, 1), (9, .goto 6, 3), (12, .astore_n 3, 1), (13, .iconst 1, 1), (14, .ireturn, 1), (15, .iconst 0, 1), (16, .ireturn, 1)]
set_option maxRecDepth 20000 in
theorem dk_L_seed_0 : dl_L_seed_0.all (fun q => decide (decode cL_seed q.1 = .ok (q.2.1, q.2.2))) = true := dq_all 0 (by decide +kernel)
def dl_L_next_0 : List (Nat × Instr × Nat) := [(0, .aload_n 1, 1), (1, .iconst 0, 1), (2, .aload_n 0, 1), (3, .invokevirtual 82, 3), (6, .i2l, 1), (7, .lastore, 1), (8, .goto 6, 3), (11, .astore_n 2, 1), (12, .iconst 1, 1), (13, .ireturn, 1), (14, .iconst 0, 1), (15, .ireturn, 1)]
set_option maxRecDepth 20000 in
theorem dk_L_next_0 : dl_L_next_0.all (fun q => decide (decode cL_next q.1 = .ok (q.2.1, q.2.2))) = true := dq_all 0 (by decide +kernel)
def dl_L_comes_0 : List (Nat × Instr × Nat) := [(0, .aload_n 1, 1), (1, .iconst 0, 1), (2, .aload_n 0, 1), (3, .invokevirtual 86, 3), (6, .i2l, 1), (7, .lastore, 1), (8, .goto 6, 3), (11, .astore_n 2, 1), (12, .iconst 1, 1), (13, .ireturn, 1), (14, .iconst 0, 1), (15, .ireturn, 1)]
set_option maxRecDepth 20000 in
theorem dk_L_comes_0 : dl_L_comes_0.all (fun q => decide (decode cL_comes q.1 = .ok (q.2.1, q.2.2))) = true := dq_all 0 (by decide +kernel)
def dl_L_solder_0 : List (Nat × Instr × Nat) := [(0, .aload_n 1, 1), (1, .iconst 0, 1), (2, .aload_n 0, 1), (3, .invokevirtual 89, 3), (6, .i2l, 1), (7, .lastore, 1), (8, .goto 6, 3), (11, .astore_n 2, 1), (12, .iconst 1, 1), (13, .ireturn, 1), (14, .iconst 0, 1), (15, .ireturn, 1)]
set_option maxRecDepth 20000 in
theorem dk_L_solder_0 : dl_L_solder_0.all (fun q => decide (decode cL_solder q.1 = .ok (q.2.1, q.2.2))) = true := dq_all 0 (by decide +kernel)
def dl_L_bar_0 : List (Nat × Instr × Nat) := [(0, .aload_n 3, 1), (1, .iconst 0, 1), (2, .aload_n 0, 1), (3, .iload_n 1, 1), (4, .iload_n 2, 1), (5, .invokevirtual 92, 3), (8, .ifCond .eq 7, 3), (11, .lconst 1, 1), (12, .goto 4, 3), (15, .lconst 0, 1), (16, .lastore, 1), (17, .goto 7, 3), (20, .astore 4, 2), (22, .iconst 1, 1), (23, .ireturn, 1), (24, .iconst 0, 1)]
set_option maxRecDepth 20000 in
theorem dk_L_bar_0 : dl_L_bar_0.all (fun q => decide (decode cL_bar q.1 = .ok (q.2.1, q.2.2))) = true := dq_all 0 (by decide +kernel)
def dl_L_bar_1 : List (Nat × Instr × Nat) := [(25, .ireturn, 1)]
set_option maxRecDepth 20000 in
theorem dk_L_bar_1 : dl_L_bar_1.all (fun q => decide (decode cL_bar q.1 = .ok (q.2.1, q.2.2))) = true := dq_all 25 (by decide +kernel)
def dl_L_profile_0 : List (Nat × Instr × Nat) := [(0, .aload_n 2, 1), (1, .iconst 0, 1), (2, .aload_n 0, 1), (3, .iload_n 1, 1), (4, .invokevirtual 96, 3), (7, .i2l, 1), (8, .lastore, 1), (9, .goto 9, 3), (12, .astore_n 3, 1), (13, .iconst 1, 1), (14, .ireturn, 1), (15, .astore_n 3, 1), (16, .iconst 2, 1), (17, .ireturn, 1), (18, .iconst 0, 1), (19, .ireturn, 1)]
set_option maxRecDepth 20000 in
theorem dk_L_profile_0 : dl_L_profile_0.all (fun q => decide (decode cL_profile q.1 = .ok (q.2.1, q.2.2))) = true := dq_all 0 (by decide +kernel)
def dl_L_wind_0 : List (Nat × Instr × Nat) := [(0, .aload_n 2, 1), (1, .iconst 0, 1), (2, .aload_n 0, 1), (3, .iload_n 1, 1), (4, .invokevirtual 99, 3), (7, .i2l, 1), (8, .lastore, 1), (9, .goto 6, 3), (12, .astore_n 3, 1), (13, .iconst 1, 1), (14, .ireturn, 1), (15, .iconst 0, 1), (16, .ireturn, 1)]
set_option maxRecDepth 20000 in
theorem dk_L_wind_0 : dl_L_wind_0.all (fun q => decide (decode cL_wind q.1 = .ok (q.2.1, q.2.2))) = true := dq_all 0 (by decide +kernel)
def dl_L_years_0 : List (Nat × Instr × Nat) := [(0, .aload_n 2, 1), (1, .iconst 0, 1), (2, .aload_n 0, 1), (3, .iload_n 1, 1), (4, .invokevirtual 102, 3), (7, .i2l, 1), (8, .lastore, 1), (9, .goto 9, 3), (12, .astore_n 3, 1), (13, .iconst 1, 1), (14, .ireturn, 1), (15, .astore_n 3, 1), (16, .iconst 2, 1), (17, .ireturn, 1), (18, .iconst 0, 1), (19, .ireturn, 1)]
set_option maxRecDepth 20000 in
theorem dk_L_years_0 : dl_L_years_0.all (fun q => decide (decode cL_years q.1 = .ok (q.2.1, q.2.2))) = true := dq_all 0 (by decide +kernel)
def dl_L_looks_0 : List (Nat × Instr × Nat) := [(0, .aload 4, 2), (2, .iconst 0, 1), (3, .aload_n 0, 1), (4, .iload_n 1, 1), (5, .iload_n 2, 1), (6, .iload_n 3, 1), (7, .invokevirtual 105, 3), (10, .i2l, 1), (11, .lastore, 1), (12, .goto 7, 3), (15, .astore 5, 2), (17, .iconst 1, 1), (18, .ireturn, 1), (19, .iconst 0, 1), (20, .ireturn, 1)]
set_option maxRecDepth 20000 in
theorem dk_L_looks_0 : dl_L_looks_0.all (fun q => decide (decode cL_looks q.1 = .ok (q.2.1, q.2.2))) = true := dq_all 0 (by decide +kernel)
def dl_L_hit_0 : List (Nat × Instr × Nat) := [(0, .aload_n 3, 1), (1, .iconst 0, 1), (2, .aload_n 0, 1), (3, .iload_n 1, 1), (4, .iload_n 2, 1), (5, .invokevirtual 109, 3), (8, .ifCond .eq 7, 3), (11, .lconst 1, 1), (12, .goto 4, 3), (15, .lconst 0, 1), (16, .lastore, 1), (17, .goto 11, 3), (20, .astore 4, 2), (22, .iconst 1, 1), (23, .ireturn, 1), (24, .astore 4, 2)]
set_option maxRecDepth 20000 in
theorem dk_L_hit_0 : dl_L_hit_0.all (fun q => decide (decode cL_hit q.1 = .ok (q.2.1, q.2.2))) = true := dq_all 0 (by decide +kernel)
def dl_L_hit_1 : List (Nat × Instr × Nat) := [(26, .iconst 2, 1), (27, .ireturn, 1), (28, .iconst 0, 1), (29, .ireturn, 1)]
set_option maxRecDepth 20000 in
theorem dk_L_hit_1 : dl_L_hit_1.all (fun q => decide (decode cL_hit q.1 = .ok (q.2.1, q.2.2))) = true := dq_all 26 (by decide +kernel)
def dl_L_mend_0 : List (Nat × Instr × Nat) := [(0, .aload_n 2, 1), (1, .iconst 0, 1), (2, .aload_n 0, 1), (3, .iload_n 1, 1), (4, .invokevirtual 113, 3), (7, .i2l, 1), (8, .lastore, 1), (9, .goto 9, 3), (12, .astore_n 3, 1), (13, .iconst 1, 1), (14, .ireturn, 1), (15, .astore_n 3, 1), (16, .iconst 2, 1), (17, .ireturn, 1), (18, .iconst 0, 1), (19, .ireturn, 1)]
set_option maxRecDepth 20000 in
theorem dk_L_mend_0 : dl_L_mend_0.all (fun q => decide (decode cL_mend q.1 = .ok (q.2.1, q.2.2))) = true := dq_all 0 (by decide +kernel)
def dl_L_stopgap_0 : List (Nat × Instr × Nat) := [(0, .aload_n 3, 1), (1, .iconst 0, 1), (2, .aload_n 0, 1), (3, .iload_n 1, 1), (4, .iload_n 2, 1), (5, .invokevirtual 116, 3), (8, .i2l, 1), (9, .lastore, 1), (10, .goto 11, 3), (13, .astore 4, 2), (15, .iconst 1, 1), (16, .ireturn, 1), (17, .astore 4, 2), (19, .iconst 2, 1), (20, .ireturn, 1), (21, .iconst 0, 1)]
set_option maxRecDepth 20000 in
theorem dk_L_stopgap_0 : dl_L_stopgap_0.all (fun q => decide (decode cL_stopgap q.1 = .ok (q.2.1, q.2.2))) = true := dq_all 0 (by decide +kernel)
def dl_L_stopgap_1 : List (Nat × Instr × Nat) := [(22, .ireturn, 1)]
set_option maxRecDepth 20000 in
theorem dk_L_stopgap_1 : dl_L_stopgap_1.all (fun q => decide (decode cL_stopgap q.1 = .ok (q.2.1, q.2.2))) = true := dq_all 22 (by decide +kernel)
def dl_L_year_0 : List (Nat × Instr × Nat) := [(0, .aload_n 2, 1), (1, .iconst 0, 1), (2, .aload_n 0, 1), (3, .iload_n 1, 1), (4, .invokevirtual 119, 3), (7, .i2l, 1), (8, .lastore, 1), (9, .goto 9, 3), (12, .astore_n 3, 1), (13, .iconst 1, 1), (14, .ireturn, 1), (15, .astore_n 3, 1), (16, .iconst 2, 1), (17, .ireturn, 1), (18, .iconst 0, 1), (19, .ireturn, 1)]
set_option maxRecDepth 20000 in
theorem dk_L_year_0 : dl_L_year_0.all (fun q => decide (decode cL_year q.1 = .ok (q.2.1, q.2.2))) = true := dq_all 0 (by decide +kernel)
def dl_L_fits_0 : List (Nat × Instr × Nat) := [(0, .aload_n 2, 1), (1, .iconst 0, 1), (2, .aload_n 0, 1), (3, .iload_n 1, 1), (4, .invokevirtual 122, 3), (7, .i2l, 1), (8, .lastore, 1), (9, .goto 9, 3), (12, .astore_n 3, 1), (13, .iconst 1, 1), (14, .ireturn, 1), (15, .astore_n 3, 1), (16, .iconst 2, 1), (17, .ireturn, 1), (18, .iconst 0, 1), (19, .ireturn, 1)]
set_option maxRecDepth 20000 in
theorem dk_L_fits_0 : dl_L_fits_0.all (fun q => decide (decode cL_fits q.1 = .ok (q.2.1, q.2.2))) = true := dq_all 0 (by decide +kernel)
def dl_L_litShare_0 : List (Nat × Instr × Nat) := [(0, .aload_n 1, 1), (1, .iconst 0, 1), (2, .aload_n 0, 1), (3, .invokevirtual 125, 3), (6, .f2d, 1), (7, .dastore, 1), (8, .goto 6, 3), (11, .astore_n 2, 1), (12, .iconst 1, 1), (13, .ireturn, 1), (14, .iconst 0, 1), (15, .ireturn, 1)]
set_option maxRecDepth 20000 in
theorem dk_L_litShare_0 : dl_L_litShare_0.all (fun q => decide (decode cL_litShare q.1 = .ok (q.2.1, q.2.2))) = true := dq_all 0 (by decide +kernel)
def dl_L_meanCells_0 : List (Nat × Instr × Nat) := [(0, .aload_n 1, 1), (1, .iconst 0, 1), (2, .aload_n 0, 1), (3, .invokevirtual 129, 3), (6, .dastore, 1), (7, .goto 6, 3), (10, .astore_n 2, 1), (11, .iconst 1, 1), (12, .ireturn, 1), (13, .iconst 0, 1), (14, .ireturn, 1)]
set_option maxRecDepth 20000 in
theorem dk_L_meanCells_0 : dl_L_meanCells_0.all (fun q => decide (decode cL_meanCells q.1 = .ok (q.2.1, q.2.2))) = true := dq_all 0 (by decide +kernel)
def dl_L_law_0 : List (Nat × Instr × Nat) := [(0, .new 8, 3), (3, .dup, 1), (4, .invokespecial 133, 3), (7, .astore_n 1, 1), (8, .new 134, 3), (11, .dup, 1), (12, .invokespecial 136, 3), (15, .astore_n 2, 1), (16, .iconst 1, 1), (17, .newarray .long, 2), (19, .astore_n 3, 1), (20, .iconst 1, 1), (21, .newarray .double, 2), (23, .astore 4, 2), (25, .iconst 0, 1), (26, .istore 5, 2)]
set_option maxRecDepth 20000 in
theorem dk_L_law_0 : dl_L_law_0.all (fun q => decide (decode cL_law q.1 = .ok (q.2.1, q.2.2))) = true := dq_all 0 (by decide +kernel)
def dl_L_law_1 : List (Nat × Instr × Nat) := [(28, .iload 5, 2), (30, .aload_n 0, 1), (31, .arraylength, 1), (32, .bipush 6, 2), (34, .isub, 1), (35, .if_icmp .gt 1571, 3), (38, .aload_n 0, 1), (39, .iload 5, 2), (41, .iaload, 1), (42, .bipush 63, 2), (44, .iand, 1), (45, .tableswitch 1555 0 42 #[187, 279, 355, 395, 423, 451, 479, 507, 535, 548, 561, 627, 655, 709, 777, 805, 833, 875, 915, 957, 985, 998, 1014, 1030, 1046, 1059, 1115, 1143, 1171, 1184, 1197, 1225, 1305, 1345, 1373, 1413, 1441, 1454, 1482, 1495, 1508, 1525, 1542], 187), (232, .aload_n 1, 1), (233, .aload_n 0, 1), (234, .iload 5, 2), (236, .iconst 1, 1)]
set_option maxRecDepth 20000 in
theorem dk_L_law_1 : dl_L_law_1.all (fun q => decide (decode cL_law q.1 = .ok (q.2.1, q.2.2))) = true := by decide +kernel
def dl_L_law_2 : List (Nat × Instr × Nat) := [(237, .iadd, 1), (238, .iaload, 1), (239, .aload_n 0, 1), (240, .iload 5, 2), (242, .iconst 2, 1), (243, .iadd, 1), (244, .iaload, 1), (245, .aload_n 0, 1), (246, .iload 5, 2), (248, .iconst 3, 1), (249, .iadd, 1), (250, .iaload, 1), (251, .aload_n 0, 1), (252, .iload 5, 2), (254, .iconst 4, 1), (255, .iadd, 1)]
set_option maxRecDepth 20000 in
theorem dk_L_law_2 : dl_L_law_2.all (fun q => decide (decode cL_law q.1 = .ok (q.2.1, q.2.2))) = true := dq_all 237 (by decide +kernel)
def dl_L_law_3 : List (Nat × Instr × Nat) := [(256, .iaload, 1), (257, .aload_n 0, 1), (258, .iload 5, 2), (260, .iconst 5, 1), (261, .iadd, 1), (262, .iaload, 1), (263, .ifCond .eq 7, 3), (266, .iconst 1, 1), (267, .goto 4, 3), (270, .iconst 0, 1), (271, .aload_n 3, 1), (272, .invokestatic 137, 3), (275, .istore 6, 2), (277, .aload_n 2, 1), (278, .aload_n 0, 1), (279, .iload 5, 2)]
set_option maxRecDepth 20000 in
theorem dk_L_law_3 : dl_L_law_3.all (fun q => decide (decode cL_law q.1 = .ok (q.2.1, q.2.2))) = true := dq_all 256 (by decide +kernel)
def dl_L_law_4 : List (Nat × Instr × Nat) := [(281, .iconst 1, 1), (282, .iadd, 1), (283, .iaload, 1), (284, .aload_n 0, 1), (285, .iload 5, 2), (287, .iconst 2, 1), (288, .iadd, 1), (289, .iaload, 1), (290, .aload_n 0, 1), (291, .iload 5, 2), (293, .iconst 3, 1), (294, .iadd, 1), (295, .iaload, 1), (296, .aload_n 0, 1), (297, .iload 5, 2), (299, .iconst 4, 1)]
set_option maxRecDepth 20000 in
theorem dk_L_law_4 : dl_L_law_4.all (fun q => decide (decode cL_law q.1 = .ok (q.2.1, q.2.2))) = true := dq_all 281 (by decide +kernel)
def dl_L_law_5 : List (Nat × Instr × Nat) := [(300, .iadd, 1), (301, .iaload, 1), (302, .aload_n 0, 1), (303, .iload 5, 2), (305, .iconst 5, 1), (306, .iadd, 1), (307, .iaload, 1), (308, .ifCond .eq 7, 3), (311, .iconst 1, 1), (312, .goto 4, 3), (315, .iconst 0, 1), (316, .invokevirtual 142, 3), (319, .istore 7, 2), (321, .goto 1279, 3), (324, .aload_n 1, 1), (325, .aload_n 0, 1)]
set_option maxRecDepth 20000 in
theorem dk_L_law_5 : dl_L_law_5.all (fun q => decide (decode cL_law q.1 = .ok (q.2.1, q.2.2))) = true := dq_all 300 (by decide +kernel)
def dl_L_law_6 : List (Nat × Instr × Nat) := [(326, .iload 5, 2), (328, .iconst 1, 1), (329, .iadd, 1), (330, .iaload, 1), (331, .aload_n 0, 1), (332, .iload 5, 2), (334, .iconst 2, 1), (335, .iadd, 1), (336, .iaload, 1), (337, .aload_n 0, 1), (338, .iload 5, 2), (340, .iconst 3, 1), (341, .iadd, 1), (342, .iaload, 1), (343, .aload_n 0, 1), (344, .iload 5, 2)]
set_option maxRecDepth 20000 in
theorem dk_L_law_6 : dl_L_law_6.all (fun q => decide (decode cL_law q.1 = .ok (q.2.1, q.2.2))) = true := dq_all 326 (by decide +kernel)
def dl_L_law_7 : List (Nat × Instr × Nat) := [(346, .iconst 4, 1), (347, .iadd, 1), (348, .iaload, 1), (349, .aload_n 0, 1), (350, .iload 5, 2), (352, .iconst 5, 1), (353, .iadd, 1), (354, .iaload, 1), (355, .aload_n 3, 1), (356, .invokestatic 143, 3), (359, .istore 6, 2), (361, .aload_n 2, 1), (362, .aload_n 0, 1), (363, .iload 5, 2), (365, .iconst 1, 1), (366, .iadd, 1)]
set_option maxRecDepth 20000 in
theorem dk_L_law_7 : dl_L_law_7.all (fun q => decide (decode cL_law q.1 = .ok (q.2.1, q.2.2))) = true := dq_all 346 (by decide +kernel)
def dl_L_law_8 : List (Nat × Instr × Nat) := [(367, .iaload, 1), (368, .aload_n 0, 1), (369, .iload 5, 2), (371, .iconst 2, 1), (372, .iadd, 1), (373, .iaload, 1), (374, .aload_n 0, 1), (375, .iload 5, 2), (377, .iconst 3, 1), (378, .iadd, 1), (379, .iaload, 1), (380, .aload_n 0, 1), (381, .iload 5, 2), (383, .iconst 4, 1), (384, .iadd, 1), (385, .iaload, 1)]
set_option maxRecDepth 20000 in
theorem dk_L_law_8 : dl_L_law_8.all (fun q => decide (decode cL_law q.1 = .ok (q.2.1, q.2.2))) = true := dq_all 367 (by decide +kernel)
def dl_L_law_9 : List (Nat × Instr × Nat) := [(386, .aload_n 0, 1), (387, .iload 5, 2), (389, .iconst 5, 1), (390, .iadd, 1), (391, .iaload, 1), (392, .invokevirtual 146, 3), (395, .istore 7, 2), (397, .goto 1203, 3), (400, .aload_n 1, 1), (401, .aload_n 0, 1), (402, .iload 5, 2), (404, .iconst 1, 1), (405, .iadd, 1), (406, .iaload, 1), (407, .aload_n 0, 1), (408, .iload 5, 2)]
set_option maxRecDepth 20000 in
theorem dk_L_law_9 : dl_L_law_9.all (fun q => decide (decode cL_law q.1 = .ok (q.2.1, q.2.2))) = true := dq_all 386 (by decide +kernel)
def dl_L_law_10 : List (Nat × Instr × Nat) := [(410, .iconst 2, 1), (411, .iadd, 1), (412, .iaload, 1), (413, .aload_n 3, 1), (414, .invokestatic 147, 3), (417, .istore 6, 2), (419, .aload_n 2, 1), (420, .aload_n 0, 1), (421, .iload 5, 2), (423, .iconst 1, 1), (424, .iadd, 1), (425, .iaload, 1), (426, .aload_n 0, 1), (427, .iload 5, 2), (429, .iconst 2, 1), (430, .iadd, 1)]
set_option maxRecDepth 20000 in
theorem dk_L_law_10 : dl_L_law_10.all (fun q => decide (decode cL_law q.1 = .ok (q.2.1, q.2.2))) = true := dq_all 410 (by decide +kernel)
def dl_L_law_11 : List (Nat × Instr × Nat) := [(431, .iaload, 1), (432, .invokevirtual 150, 3), (435, .istore 7, 2), (437, .goto 1163, 3), (440, .aload_n 1, 1), (441, .aload_n 0, 1), (442, .iload 5, 2), (444, .iconst 1, 1), (445, .iadd, 1), (446, .iaload, 1), (447, .aload_n 3, 1), (448, .invokestatic 151, 3), (451, .istore 6, 2), (453, .aload_n 2, 1), (454, .aload_n 0, 1), (455, .iload 5, 2)]
set_option maxRecDepth 20000 in
theorem dk_L_law_11 : dl_L_law_11.all (fun q => decide (decode cL_law q.1 = .ok (q.2.1, q.2.2))) = true := dq_all 431 (by decide +kernel)
def dl_L_law_12 : List (Nat × Instr × Nat) := [(457, .iconst 1, 1), (458, .iadd, 1), (459, .iaload, 1), (460, .invokevirtual 154, 3), (463, .istore 7, 2), (465, .goto 1135, 3), (468, .aload_n 1, 1), (469, .aload_n 0, 1), (470, .iload 5, 2), (472, .iconst 1, 1), (473, .iadd, 1), (474, .iaload, 1), (475, .aload_n 3, 1), (476, .invokestatic 155, 3), (479, .istore 6, 2), (481, .aload_n 2, 1)]
set_option maxRecDepth 20000 in
theorem dk_L_law_12 : dl_L_law_12.all (fun q => decide (decode cL_law q.1 = .ok (q.2.1, q.2.2))) = true := dq_all 457 (by decide +kernel)
def dl_L_law_13 : List (Nat × Instr × Nat) := [(482, .aload_n 0, 1), (483, .iload 5, 2), (485, .iconst 1, 1), (486, .iadd, 1), (487, .iaload, 1), (488, .invokevirtual 157, 3), (491, .istore 7, 2), (493, .goto 1107, 3), (496, .aload_n 1, 1), (497, .aload_n 0, 1), (498, .iload 5, 2), (500, .iconst 1, 1), (501, .iadd, 1), (502, .iaload, 1), (503, .aload_n 3, 1), (504, .invokestatic 158, 3)]
set_option maxRecDepth 20000 in
theorem dk_L_law_13 : dl_L_law_13.all (fun q => decide (decode cL_law q.1 = .ok (q.2.1, q.2.2))) = true := dq_all 482 (by decide +kernel)
def dl_L_law_14 : List (Nat × Instr × Nat) := [(507, .istore 6, 2), (509, .aload_n 2, 1), (510, .aload_n 0, 1), (511, .iload 5, 2), (513, .iconst 1, 1), (514, .iadd, 1), (515, .iaload, 1), (516, .invokevirtual 160, 3), (519, .istore 7, 2), (521, .goto 1079, 3), (524, .aload_n 1, 1), (525, .aload_n 0, 1), (526, .iload 5, 2), (528, .iconst 1, 1), (529, .iadd, 1), (530, .iaload, 1)]
set_option maxRecDepth 20000 in
theorem dk_L_law_14 : dl_L_law_14.all (fun q => decide (decode cL_law q.1 = .ok (q.2.1, q.2.2))) = true := dq_all 507 (by decide +kernel)
def dl_L_law_15 : List (Nat × Instr × Nat) := [(531, .aload_n 3, 1), (532, .invokestatic 161, 3), (535, .istore 6, 2), (537, .aload_n 2, 1), (538, .aload_n 0, 1), (539, .iload 5, 2), (541, .iconst 1, 1), (542, .iadd, 1), (543, .iaload, 1), (544, .invokevirtual 163, 3), (547, .istore 7, 2), (549, .goto 1051, 3), (552, .aload_n 1, 1), (553, .aload_n 0, 1), (554, .iload 5, 2), (556, .iconst 1, 1)]
set_option maxRecDepth 20000 in
theorem dk_L_law_15 : dl_L_law_15.all (fun q => decide (decode cL_law q.1 = .ok (q.2.1, q.2.2))) = true := dq_all 531 (by decide +kernel)
def dl_L_law_16 : List (Nat × Instr × Nat) := [(557, .iadd, 1), (558, .iaload, 1), (559, .aload_n 3, 1), (560, .invokestatic 164, 3), (563, .istore 6, 2), (565, .aload_n 2, 1), (566, .aload_n 0, 1), (567, .iload 5, 2), (569, .iconst 1, 1), (570, .iadd, 1), (571, .iaload, 1), (572, .invokevirtual 166, 3), (575, .istore 7, 2), (577, .goto 1023, 3), (580, .aload_n 1, 1), (581, .invokevirtual 167, 3)]
set_option maxRecDepth 20000 in
theorem dk_L_law_16 : dl_L_law_16.all (fun q => decide (decode cL_law q.1 = .ok (q.2.1, q.2.2))) = true := dq_all 557 (by decide +kernel)
def dl_L_law_17 : List (Nat × Instr × Nat) := [(584, .pop, 1), (585, .aload_n 2, 1), (586, .invokevirtual 170, 3), (589, .pop, 1), (590, .goto 1010, 3), (593, .aload_n 1, 1), (594, .invokevirtual 171, 3), (597, .pop, 1), (598, .aload_n 2, 1), (599, .invokevirtual 174, 3), (602, .pop, 1), (603, .goto 997, 3), (606, .aload_n 1, 1), (607, .aload_n 0, 1), (608, .iload 5, 2), (610, .iconst 1, 1)]
set_option maxRecDepth 20000 in
theorem dk_L_law_17 : dl_L_law_17.all (fun q => decide (decode cL_law q.1 = .ok (q.2.1, q.2.2))) = true := dq_all 584 (by decide +kernel)
def dl_L_law_18 : List (Nat × Instr × Nat) := [(611, .iadd, 1), (612, .iaload, 1), (613, .aload_n 0, 1), (614, .iload 5, 2), (616, .iconst 2, 1), (617, .iadd, 1), (618, .iaload, 1), (619, .aload_n 0, 1), (620, .iload 5, 2), (622, .iconst 3, 1), (623, .iadd, 1), (624, .iaload, 1), (625, .aload_n 0, 1), (626, .iload 5, 2), (628, .iconst 4, 1), (629, .iadd, 1)]
set_option maxRecDepth 20000 in
theorem dk_L_law_18 : dl_L_law_18.all (fun q => decide (decode cL_law q.1 = .ok (q.2.1, q.2.2))) = true := dq_all 611 (by decide +kernel)
def dl_L_law_19 : List (Nat × Instr × Nat) := [(630, .iaload, 1), (631, .i2c, 1), (632, .aload_n 3, 1), (633, .invokestatic 175, 3), (636, .istore 6, 2), (638, .aload_n 2, 1), (639, .aload_n 0, 1), (640, .iload 5, 2), (642, .iconst 1, 1), (643, .iadd, 1), (644, .iaload, 1), (645, .aload_n 0, 1), (646, .iload 5, 2), (648, .iconst 2, 1), (649, .iadd, 1), (650, .iaload, 1)]
set_option maxRecDepth 20000 in
theorem dk_L_law_19 : dl_L_law_19.all (fun q => decide (decode cL_law q.1 = .ok (q.2.1, q.2.2))) = true := dq_all 630 (by decide +kernel)
def dl_L_law_20 : List (Nat × Instr × Nat) := [(651, .aload_n 0, 1), (652, .iload 5, 2), (654, .iconst 3, 1), (655, .iadd, 1), (656, .iaload, 1), (657, .aload_n 0, 1), (658, .iload 5, 2), (660, .iconst 4, 1), (661, .iadd, 1), (662, .iaload, 1), (663, .i2c, 1), (664, .invokevirtual 178, 3), (667, .istore 7, 2), (669, .goto 931, 3), (672, .aload_n 1, 1), (673, .aload_n 0, 1)]
set_option maxRecDepth 20000 in
theorem dk_L_law_20 : dl_L_law_20.all (fun q => decide (decode cL_law q.1 = .ok (q.2.1, q.2.2))) = true := dq_all 651 (by decide +kernel)
def dl_L_law_21 : List (Nat × Instr × Nat) := [(674, .iload 5, 2), (676, .iconst 1, 1), (677, .iadd, 1), (678, .iaload, 1), (679, .aload_n 3, 1), (680, .invokestatic 179, 3), (683, .istore 6, 2), (685, .aload_n 2, 1), (686, .aload_n 0, 1), (687, .iload 5, 2), (689, .iconst 1, 1), (690, .iadd, 1), (691, .iaload, 1), (692, .invokevirtual 181, 3), (695, .istore 7, 2), (697, .goto 903, 3)]
set_option maxRecDepth 20000 in
theorem dk_L_law_21 : dl_L_law_21.all (fun q => decide (decode cL_law q.1 = .ok (q.2.1, q.2.2))) = true := dq_all 674 (by decide +kernel)
def dl_L_law_22 : List (Nat × Instr × Nat) := [(700, .aload_n 1, 1), (701, .aload_n 0, 1), (702, .iload 5, 2), (704, .iconst 1, 1), (705, .iadd, 1), (706, .iaload, 1), (707, .aload_n 0, 1), (708, .iload 5, 2), (710, .iconst 2, 1), (711, .iadd, 1), (712, .iaload, 1), (713, .aload_n 0, 1), (714, .iload 5, 2), (716, .iconst 3, 1), (717, .iadd, 1), (718, .iaload, 1)]
set_option maxRecDepth 20000 in
theorem dk_L_law_22 : dl_L_law_22.all (fun q => decide (decode cL_law q.1 = .ok (q.2.1, q.2.2))) = true := dq_all 700 (by decide +kernel)
def dl_L_law_23 : List (Nat × Instr × Nat) := [(719, .i2c, 1), (720, .aload_n 3, 1), (721, .invokestatic 182, 3), (724, .istore 6, 2), (726, .aload_n 2, 1), (727, .aload_n 0, 1), (728, .iload 5, 2), (730, .iconst 1, 1), (731, .iadd, 1), (732, .iaload, 1), (733, .aload_n 0, 1), (734, .iload 5, 2), (736, .iconst 2, 1), (737, .iadd, 1), (738, .iaload, 1), (739, .aload_n 0, 1)]
set_option maxRecDepth 20000 in
theorem dk_L_law_23 : dl_L_law_23.all (fun q => decide (decode cL_law q.1 = .ok (q.2.1, q.2.2))) = true := dq_all 719 (by decide +kernel)
def dl_L_law_24 : List (Nat × Instr × Nat) := [(740, .iload 5, 2), (742, .iconst 3, 1), (743, .iadd, 1), (744, .iaload, 1), (745, .i2c, 1), (746, .invokevirtual 185, 3), (749, .istore 7, 2), (751, .goto 849, 3), (754, .aload_n 1, 1), (755, .aload_n 0, 1), (756, .iload 5, 2), (758, .iconst 1, 1), (759, .iadd, 1), (760, .iaload, 1), (761, .aload_n 0, 1), (762, .iload 5, 2)]
set_option maxRecDepth 20000 in
theorem dk_L_law_24 : dl_L_law_24.all (fun q => decide (decode cL_law q.1 = .ok (q.2.1, q.2.2))) = true := dq_all 740 (by decide +kernel)
def dl_L_law_25 : List (Nat × Instr × Nat) := [(764, .iconst 2, 1), (765, .iadd, 1), (766, .iaload, 1), (767, .aload_n 0, 1), (768, .iload 5, 2), (770, .iconst 3, 1), (771, .iadd, 1), (772, .iaload, 1), (773, .ifCond .eq 7, 3), (776, .iconst 1, 1), (777, .goto 4, 3), (780, .iconst 0, 1), (781, .aload_n 3, 1), (782, .invokestatic 186, 3), (785, .istore 6, 2), (787, .aload_n 2, 1)]
set_option maxRecDepth 20000 in
theorem dk_L_law_25 : dl_L_law_25.all (fun q => decide (decode cL_law q.1 = .ok (q.2.1, q.2.2))) = true := dq_all 764 (by decide +kernel)
def dl_L_law_26 : List (Nat × Instr × Nat) := [(788, .aload_n 0, 1), (789, .iload 5, 2), (791, .iconst 1, 1), (792, .iadd, 1), (793, .iaload, 1), (794, .aload_n 0, 1), (795, .iload 5, 2), (797, .iconst 2, 1), (798, .iadd, 1), (799, .iaload, 1), (800, .aload_n 0, 1), (801, .iload 5, 2), (803, .iconst 3, 1), (804, .iadd, 1), (805, .iaload, 1), (806, .ifCond .eq 7, 3)]
set_option maxRecDepth 20000 in
theorem dk_L_law_26 : dl_L_law_26.all (fun q => decide (decode cL_law q.1 = .ok (q.2.1, q.2.2))) = true := dq_all 788 (by decide +kernel)
def dl_L_law_27 : List (Nat × Instr × Nat) := [(809, .iconst 1, 1), (810, .goto 4, 3), (813, .iconst 0, 1), (814, .invokevirtual 189, 3), (817, .istore 7, 2), (819, .goto 781, 3), (822, .aload_n 1, 1), (823, .aload_n 0, 1), (824, .iload 5, 2), (826, .iconst 1, 1), (827, .iadd, 1), (828, .iaload, 1), (829, .aload_n 3, 1), (830, .invokestatic 190, 3), (833, .istore 6, 2), (835, .aload_n 2, 1)]
set_option maxRecDepth 20000 in
theorem dk_L_law_27 : dl_L_law_27.all (fun q => decide (decode cL_law q.1 = .ok (q.2.1, q.2.2))) = true := dq_all 809 (by decide +kernel)
def dl_L_law_28 : List (Nat × Instr × Nat) := [(836, .aload_n 0, 1), (837, .iload 5, 2), (839, .iconst 1, 1), (840, .iadd, 1), (841, .iaload, 1), (842, .invokevirtual 192, 3), (845, .istore 7, 2), (847, .goto 753, 3), (850, .aload_n 1, 1), (851, .aload_n 0, 1), (852, .iload 5, 2), (854, .iconst 1, 1), (855, .iadd, 1), (856, .iaload, 1), (857, .aload_n 3, 1), (858, .invokestatic 193, 3)]
set_option maxRecDepth 20000 in
theorem dk_L_law_28 : dl_L_law_28.all (fun q => decide (decode cL_law q.1 = .ok (q.2.1, q.2.2))) = true := dq_all 836 (by decide +kernel)
def dl_L_law_29 : List (Nat × Instr × Nat) := [(861, .istore 6, 2), (863, .aload_n 2, 1), (864, .aload_n 0, 1), (865, .iload 5, 2), (867, .iconst 1, 1), (868, .iadd, 1), (869, .iaload, 1), (870, .invokevirtual 195, 3), (873, .istore 7, 2), (875, .goto 725, 3), (878, .aload_n 1, 1), (879, .aload_n 0, 1), (880, .iload 5, 2), (882, .iconst 1, 1), (883, .iadd, 1), (884, .iaload, 1)]
set_option maxRecDepth 20000 in
theorem dk_L_law_29 : dl_L_law_29.all (fun q => decide (decode cL_law q.1 = .ok (q.2.1, q.2.2))) = true := dq_all 861 (by decide +kernel)
def dl_L_law_30 : List (Nat × Instr × Nat) := [(885, .aload_n 0, 1), (886, .iload 5, 2), (888, .iconst 2, 1), (889, .iadd, 1), (890, .iaload, 1), (891, .i2c, 1), (892, .aload_n 3, 1), (893, .invokestatic 196, 3), (896, .istore 6, 2), (898, .aload_n 2, 1), (899, .aload_n 0, 1), (900, .iload 5, 2), (902, .iconst 1, 1), (903, .iadd, 1), (904, .iaload, 1), (905, .aload_n 0, 1)]
set_option maxRecDepth 20000 in
theorem dk_L_law_30 : dl_L_law_30.all (fun q => decide (decode cL_law q.1 = .ok (q.2.1, q.2.2))) = true := dq_all 885 (by decide +kernel)
def dl_L_law_31 : List (Nat × Instr × Nat) := [(906, .iload 5, 2), (908, .iconst 2, 1), (909, .iadd, 1), (910, .iaload, 1), (911, .i2c, 1), (912, .invokevirtual 199, 3), (915, .istore 7, 2), (917, .goto 683, 3), (920, .aload_n 1, 1), (921, .aload_n 0, 1), (922, .iload 5, 2), (924, .iconst 1, 1), (925, .iadd, 1), (926, .iaload, 1), (927, .aload_n 0, 1), (928, .iload 5, 2)]
set_option maxRecDepth 20000 in
theorem dk_L_law_31 : dl_L_law_31.all (fun q => decide (decode cL_law q.1 = .ok (q.2.1, q.2.2))) = true := dq_all 906 (by decide +kernel)
def dl_L_law_32 : List (Nat × Instr × Nat) := [(930, .iconst 2, 1), (931, .iadd, 1), (932, .iaload, 1), (933, .aload_n 3, 1), (934, .invokestatic 200, 3), (937, .istore 6, 2), (939, .aload_n 2, 1), (940, .aload_n 0, 1), (941, .iload 5, 2), (943, .iconst 1, 1), (944, .iadd, 1), (945, .iaload, 1), (946, .aload_n 0, 1), (947, .iload 5, 2), (949, .iconst 2, 1), (950, .iadd, 1)]
set_option maxRecDepth 20000 in
theorem dk_L_law_32 : dl_L_law_32.all (fun q => decide (decode cL_law q.1 = .ok (q.2.1, q.2.2))) = true := dq_all 930 (by decide +kernel)
def dl_L_law_33 : List (Nat × Instr × Nat) := [(951, .iaload, 1), (952, .invokevirtual 202, 3), (955, .istore 7, 2), (957, .goto 643, 3), (960, .aload_n 1, 1), (961, .aload_n 0, 1), (962, .iload 5, 2), (964, .iconst 1, 1), (965, .iadd, 1), (966, .iaload, 1), (967, .aload_n 0, 1), (968, .iload 5, 2), (970, .iconst 2, 1), (971, .iadd, 1), (972, .iaload, 1), (973, .i2c, 1)]
set_option maxRecDepth 20000 in
theorem dk_L_law_33 : dl_L_law_33.all (fun q => decide (decode cL_law q.1 = .ok (q.2.1, q.2.2))) = true := dq_all 951 (by decide +kernel)
def dl_L_law_34 : List (Nat × Instr × Nat) := [(974, .aload_n 3, 1), (975, .invokestatic 203, 3), (978, .istore 6, 2), (980, .aload_n 2, 1), (981, .aload_n 0, 1), (982, .iload 5, 2), (984, .iconst 1, 1), (985, .iadd, 1), (986, .iaload, 1), (987, .aload_n 0, 1), (988, .iload 5, 2), (990, .iconst 2, 1), (991, .iadd, 1), (992, .iaload, 1), (993, .i2c, 1), (994, .invokevirtual 205, 3)]
set_option maxRecDepth 20000 in
theorem dk_L_law_34 : dl_L_law_34.all (fun q => decide (decode cL_law q.1 = .ok (q.2.1, q.2.2))) = true := dq_all 974 (by decide +kernel)
def dl_L_law_35 : List (Nat × Instr × Nat) := [(997, .istore 7, 2), (999, .goto 601, 3), (1002, .aload_n 1, 1), (1003, .aload_n 0, 1), (1004, .iload 5, 2), (1006, .iconst 1, 1), (1007, .iadd, 1), (1008, .iaload, 1), (1009, .aload_n 3, 1), (1010, .invokestatic 206, 3), (1013, .istore 6, 2), (1015, .aload_n 2, 1), (1016, .aload_n 0, 1), (1017, .iload 5, 2), (1019, .iconst 1, 1), (1020, .iadd, 1)]
set_option maxRecDepth 20000 in
theorem dk_L_law_35 : dl_L_law_35.all (fun q => decide (decode cL_law q.1 = .ok (q.2.1, q.2.2))) = true := dq_all 997 (by decide +kernel)
def dl_L_law_36 : List (Nat × Instr × Nat) := [(1021, .iaload, 1), (1022, .invokevirtual 208, 3), (1025, .istore 7, 2), (1027, .goto 573, 3), (1030, .aload_n 1, 1), (1031, .invokevirtual 209, 3), (1034, .pop, 1), (1035, .aload_n 2, 1), (1036, .invokevirtual 213, 3), (1039, .pop, 1), (1040, .goto 560, 3), (1043, .aload_n 1, 1), (1044, .aload_n 3, 1), (1045, .invokestatic 214, 3), (1048, .istore 6, 2), (1050, .aload_n 2, 1)]
set_option maxRecDepth 20000 in
theorem dk_L_law_36 : dl_L_law_36.all (fun q => decide (decode cL_law q.1 = .ok (q.2.1, q.2.2))) = true := dq_all 1021 (by decide +kernel)
def dl_L_law_37 : List (Nat × Instr × Nat) := [(1051, .invokevirtual 217, 3), (1054, .istore 7, 2), (1056, .goto 544, 3), (1059, .aload_n 1, 1), (1060, .aload_n 3, 1), (1061, .invokestatic 218, 3), (1064, .istore 6, 2), (1066, .aload_n 2, 1), (1067, .invokevirtual 220, 3), (1070, .istore 7, 2), (1072, .goto 528, 3), (1075, .aload_n 1, 1), (1076, .aload_n 3, 1), (1077, .invokestatic 221, 3), (1080, .istore 6, 2), (1082, .aload_n 2, 1)]
set_option maxRecDepth 20000 in
theorem dk_L_law_37 : dl_L_law_37.all (fun q => decide (decode cL_law q.1 = .ok (q.2.1, q.2.2))) = true := dq_all 1051 (by decide +kernel)
def dl_L_law_38 : List (Nat × Instr × Nat) := [(1083, .invokevirtual 223, 3), (1086, .istore 7, 2), (1088, .goto 512, 3), (1091, .aload_n 1, 1), (1092, .invokevirtual 224, 3), (1095, .pop, 1), (1096, .aload_n 2, 1), (1097, .invokevirtual 227, 3), (1100, .pop, 1), (1101, .goto 499, 3), (1104, .aload_n 1, 1), (1105, .aload_n 0, 1), (1106, .iload 5, 2), (1108, .iconst 1, 1), (1109, .iadd, 1), (1110, .iaload, 1)]
set_option maxRecDepth 20000 in
theorem dk_L_law_38 : dl_L_law_38.all (fun q => decide (decode cL_law q.1 = .ok (q.2.1, q.2.2))) = true := dq_all 1083 (by decide +kernel)
def dl_L_law_39 : List (Nat × Instr × Nat) := [(1111, .aload_n 0, 1), (1112, .iload 5, 2), (1114, .iconst 2, 1), (1115, .iadd, 1), (1116, .iaload, 1), (1117, .ifCond .eq 7, 3), (1120, .iconst 1, 1), (1121, .goto 4, 3), (1124, .iconst 0, 1), (1125, .aload_n 3, 1), (1126, .invokestatic 228, 3), (1129, .istore 6, 2), (1131, .aload_n 2, 1), (1132, .aload_n 0, 1), (1133, .iload 5, 2), (1135, .iconst 1, 1)]
set_option maxRecDepth 20000 in
theorem dk_L_law_39 : dl_L_law_39.all (fun q => decide (decode cL_law q.1 = .ok (q.2.1, q.2.2))) = true := dq_all 1111 (by decide +kernel)
def dl_L_law_40 : List (Nat × Instr × Nat) := [(1136, .iadd, 1), (1137, .iaload, 1), (1138, .aload_n 0, 1), (1139, .iload 5, 2), (1141, .iconst 2, 1), (1142, .iadd, 1), (1143, .iaload, 1), (1144, .ifCond .eq 7, 3), (1147, .iconst 1, 1), (1148, .goto 4, 3), (1151, .iconst 0, 1), (1152, .invokevirtual 231, 3), (1155, .istore 7, 2), (1157, .goto 443, 3), (1160, .aload_n 1, 1), (1161, .aload_n 0, 1)]
set_option maxRecDepth 20000 in
theorem dk_L_law_40 : dl_L_law_40.all (fun q => decide (decode cL_law q.1 = .ok (q.2.1, q.2.2))) = true := dq_all 1136 (by decide +kernel)
def dl_L_law_41 : List (Nat × Instr × Nat) := [(1162, .iload 5, 2), (1164, .iconst 1, 1), (1165, .iadd, 1), (1166, .iaload, 1), (1167, .aload_n 3, 1), (1168, .invokestatic 232, 3), (1171, .istore 6, 2), (1173, .aload_n 2, 1), (1174, .aload_n 0, 1), (1175, .iload 5, 2), (1177, .iconst 1, 1), (1178, .iadd, 1), (1179, .iaload, 1), (1180, .invokevirtual 234, 3), (1183, .istore 7, 2), (1185, .goto 415, 3)]
set_option maxRecDepth 20000 in
theorem dk_L_law_41 : dl_L_law_41.all (fun q => decide (decode cL_law q.1 = .ok (q.2.1, q.2.2))) = true := dq_all 1162 (by decide +kernel)
def dl_L_law_42 : List (Nat × Instr × Nat) := [(1188, .aload_n 1, 1), (1189, .aload_n 0, 1), (1190, .iload 5, 2), (1192, .iconst 1, 1), (1193, .iadd, 1), (1194, .iaload, 1), (1195, .aload_n 3, 1), (1196, .invokestatic 235, 3), (1199, .istore 6, 2), (1201, .aload_n 2, 1), (1202, .aload_n 0, 1), (1203, .iload 5, 2), (1205, .iconst 1, 1), (1206, .iadd, 1), (1207, .iaload, 1), (1208, .invokevirtual 237, 3)]
set_option maxRecDepth 20000 in
theorem dk_L_law_42 : dl_L_law_42.all (fun q => decide (decode cL_law q.1 = .ok (q.2.1, q.2.2))) = true := dq_all 1188 (by decide +kernel)
def dl_L_law_43 : List (Nat × Instr × Nat) := [(1211, .istore 7, 2), (1213, .goto 387, 3), (1216, .aload_n 1, 1), (1217, .invokevirtual 238, 3), (1220, .pop, 1), (1221, .aload_n 2, 1), (1222, .invokevirtual 241, 3), (1225, .pop, 1), (1226, .goto 374, 3), (1229, .aload_n 1, 1), (1230, .invokevirtual 242, 3), (1233, .pop, 1), (1234, .aload_n 2, 1), (1235, .invokevirtual 245, 3), (1238, .pop, 1), (1239, .goto 361, 3)]
set_option maxRecDepth 20000 in
theorem dk_L_law_43 : dl_L_law_43.all (fun q => decide (decode cL_law q.1 = .ok (q.2.1, q.2.2))) = true := dq_all 1211 (by decide +kernel)
def dl_L_law_44 : List (Nat × Instr × Nat) := [(1242, .aload_n 1, 1), (1243, .aload_n 0, 1), (1244, .iload 5, 2), (1246, .iconst 1, 1), (1247, .iadd, 1), (1248, .iaload, 1), (1249, .aload_n 3, 1), (1250, .invokestatic 246, 3), (1253, .istore 6, 2), (1255, .aload_n 2, 1), (1256, .aload_n 0, 1), (1257, .iload 5, 2), (1259, .iconst 1, 1), (1260, .iadd, 1), (1261, .iaload, 1), (1262, .invokevirtual 248, 3)]
set_option maxRecDepth 20000 in
theorem dk_L_law_44 : dl_L_law_44.all (fun q => decide (decode cL_law q.1 = .ok (q.2.1, q.2.2))) = true := dq_all 1242 (by decide +kernel)
def dl_L_law_45 : List (Nat × Instr × Nat) := [(1265, .istore 7, 2), (1267, .goto 333, 3), (1270, .aload_n 1, 1), (1271, .aload_n 0, 1), (1272, .iload 5, 2), (1274, .iconst 1, 1), (1275, .iadd, 1), (1276, .iaload, 1), (1277, .aload_n 0, 1), (1278, .iload 5, 2), (1280, .iconst 2, 1), (1281, .iadd, 1), (1282, .iaload, 1), (1283, .aload_n 0, 1), (1284, .iload 5, 2), (1286, .iconst 3, 1)]
set_option maxRecDepth 20000 in
theorem dk_L_law_45 : dl_L_law_45.all (fun q => decide (decode cL_law q.1 = .ok (q.2.1, q.2.2))) = true := dq_all 1265 (by decide +kernel)
def dl_L_law_46 : List (Nat × Instr × Nat) := [(1287, .iadd, 1), (1288, .iaload, 1), (1289, .aload_n 3, 1), (1290, .invokestatic 249, 3), (1293, .istore 6, 2), (1295, .aload_n 2, 1), (1296, .aload_n 0, 1), (1297, .iload 5, 2), (1299, .iconst 1, 1), (1300, .iadd, 1), (1301, .iaload, 1), (1302, .aload_n 0, 1), (1303, .iload 5, 2), (1305, .iconst 2, 1), (1306, .iadd, 1), (1307, .iaload, 1)]
set_option maxRecDepth 20000 in
theorem dk_L_law_46 : dl_L_law_46.all (fun q => decide (decode cL_law q.1 = .ok (q.2.1, q.2.2))) = true := dq_all 1287 (by decide +kernel)
def dl_L_law_47 : List (Nat × Instr × Nat) := [(1308, .aload_n 0, 1), (1309, .iload 5, 2), (1311, .iconst 3, 1), (1312, .iadd, 1), (1313, .iaload, 1), (1314, .invokevirtual 252, 3), (1317, .istore 7, 2), (1319, .aload_n 2, 1), (1320, .invokevirtual 253, 3), (1323, .iload 6, 2), (1325, .if_icmp .eq 5, 3), (1328, .iconst 0, 1), (1329, .ireturn, 1), (1330, .iload 6, 2), (1332, .ifCond .ne 15, 3), (1335, .aload_n 3, 1)]
set_option maxRecDepth 20000 in
theorem dk_L_law_47 : dl_L_law_47.all (fun q => decide (decode cL_law q.1 = .ok (q.2.1, q.2.2))) = true := dq_all 1308 (by decide +kernel)
def dl_L_law_48 : List (Nat × Instr × Nat) := [(1336, .iconst 0, 1), (1337, .laload, 1), (1338, .iload 7, 2), (1340, .i2l, 1), (1341, .lcmp, 1), (1342, .ifCond .eq 5, 3), (1345, .iconst 0, 1), (1346, .ireturn, 1), (1347, .goto 253, 3), (1350, .aload_n 1, 1), (1351, .aload_n 0, 1), (1352, .iload 5, 2), (1354, .iconst 1, 1), (1355, .iadd, 1), (1356, .iaload, 1), (1357, .aload_n 0, 1)]
set_option maxRecDepth 20000 in
theorem dk_L_law_48 : dl_L_law_48.all (fun q => decide (decode cL_law q.1 = .ok (q.2.1, q.2.2))) = true := dq_all 1336 (by decide +kernel)
def dl_L_law_49 : List (Nat × Instr × Nat) := [(1358, .iload 5, 2), (1360, .iconst 2, 1), (1361, .iadd, 1), (1362, .iaload, 1), (1363, .aload_n 3, 1), (1364, .invokestatic 256, 3), (1367, .istore 6, 2), (1369, .aload_n 2, 1), (1370, .aload_n 0, 1), (1371, .iload 5, 2), (1373, .iconst 1, 1), (1374, .iadd, 1), (1375, .iaload, 1), (1376, .aload_n 0, 1), (1377, .iload 5, 2), (1379, .iconst 2, 1)]
set_option maxRecDepth 20000 in
theorem dk_L_law_49 : dl_L_law_49.all (fun q => decide (decode cL_law q.1 = .ok (q.2.1, q.2.2))) = true := dq_all 1358 (by decide +kernel)
def dl_L_law_50 : List (Nat × Instr × Nat) := [(1380, .iadd, 1), (1381, .iaload, 1), (1382, .invokevirtual 258, 3), (1385, .istore 7, 2), (1387, .goto 213, 3), (1390, .aload_n 1, 1), (1391, .aload_n 0, 1), (1392, .iload 5, 2), (1394, .iconst 1, 1), (1395, .iadd, 1), (1396, .iaload, 1), (1397, .aload_n 3, 1), (1398, .invokestatic 259, 3), (1401, .istore 6, 2), (1403, .aload_n 2, 1), (1404, .aload_n 0, 1)]
set_option maxRecDepth 20000 in
theorem dk_L_law_50 : dl_L_law_50.all (fun q => decide (decode cL_law q.1 = .ok (q.2.1, q.2.2))) = true := dq_all 1380 (by decide +kernel)
def dl_L_law_51 : List (Nat × Instr × Nat) := [(1405, .iload 5, 2), (1407, .iconst 1, 1), (1408, .iadd, 1), (1409, .iaload, 1), (1410, .invokevirtual 261, 3), (1413, .istore 7, 2), (1415, .goto 185, 3), (1418, .aload_n 1, 1), (1419, .aload_n 0, 1), (1420, .iload 5, 2), (1422, .iconst 1, 1), (1423, .iadd, 1), (1424, .iaload, 1), (1425, .aload_n 0, 1), (1426, .iload 5, 2), (1428, .iconst 2, 1)]
set_option maxRecDepth 20000 in
theorem dk_L_law_51 : dl_L_law_51.all (fun q => decide (decode cL_law q.1 = .ok (q.2.1, q.2.2))) = true := dq_all 1405 (by decide +kernel)
def dl_L_law_52 : List (Nat × Instr × Nat) := [(1429, .iadd, 1), (1430, .iaload, 1), (1431, .aload_n 3, 1), (1432, .invokestatic 262, 3), (1435, .istore 6, 2), (1437, .aload_n 2, 1), (1438, .aload_n 0, 1), (1439, .iload 5, 2), (1441, .iconst 1, 1), (1442, .iadd, 1), (1443, .iaload, 1), (1444, .aload_n 0, 1), (1445, .iload 5, 2), (1447, .iconst 2, 1), (1448, .iadd, 1), (1449, .iaload, 1)]
set_option maxRecDepth 20000 in
theorem dk_L_law_52 : dl_L_law_52.all (fun q => decide (decode cL_law q.1 = .ok (q.2.1, q.2.2))) = true := dq_all 1429 (by decide +kernel)
def dl_L_law_53 : List (Nat × Instr × Nat) := [(1450, .invokevirtual 264, 3), (1453, .istore 7, 2), (1455, .goto 145, 3), (1458, .aload_n 1, 1), (1459, .aload_n 0, 1), (1460, .iload 5, 2), (1462, .iconst 1, 1), (1463, .iadd, 1), (1464, .iaload, 1), (1465, .aload_n 3, 1), (1466, .invokestatic 265, 3), (1469, .istore 6, 2), (1471, .aload_n 2, 1), (1472, .aload_n 0, 1), (1473, .iload 5, 2), (1475, .iconst 1, 1)]
set_option maxRecDepth 20000 in
theorem dk_L_law_53 : dl_L_law_53.all (fun q => decide (decode cL_law q.1 = .ok (q.2.1, q.2.2))) = true := dq_all 1450 (by decide +kernel)
def dl_L_law_54 : List (Nat × Instr × Nat) := [(1476, .iadd, 1), (1477, .iaload, 1), (1478, .invokevirtual 267, 3), (1481, .istore 7, 2), (1483, .goto 117, 3), (1486, .aload_n 1, 1), (1487, .invokevirtual 268, 3), (1490, .pop, 1), (1491, .aload_n 2, 1), (1492, .invokevirtual 271, 3), (1495, .pop, 1), (1496, .goto 104, 3), (1499, .aload_n 1, 1), (1500, .aload_n 0, 1), (1501, .iload 5, 2), (1503, .iconst 1, 1)]
set_option maxRecDepth 20000 in
theorem dk_L_law_54 : dl_L_law_54.all (fun q => decide (decode cL_law q.1 = .ok (q.2.1, q.2.2))) = true := dq_all 1476 (by decide +kernel)
def dl_L_law_55 : List (Nat × Instr × Nat) := [(1504, .iadd, 1), (1505, .iaload, 1), (1506, .aload_n 3, 1), (1507, .invokestatic 272, 3), (1510, .istore 6, 2), (1512, .aload_n 2, 1), (1513, .aload_n 0, 1), (1514, .iload 5, 2), (1516, .iconst 1, 1), (1517, .iadd, 1), (1518, .iaload, 1), (1519, .invokevirtual 274, 3), (1522, .istore 7, 2), (1524, .goto 76, 3), (1527, .aload_n 1, 1), (1528, .invokevirtual 275, 3)]
set_option maxRecDepth 20000 in
theorem dk_L_law_55 : dl_L_law_55.all (fun q => decide (decode cL_law q.1 = .ok (q.2.1, q.2.2))) = true := dq_all 1504 (by decide +kernel)
def dl_L_law_56 : List (Nat × Instr × Nat) := [(1531, .pop, 1), (1532, .aload_n 2, 1), (1533, .invokevirtual 278, 3), (1536, .pop, 1), (1537, .goto 63, 3), (1540, .aload_n 1, 1), (1541, .invokevirtual 279, 3), (1544, .pop2, 1), (1545, .aload_n 2, 1), (1546, .invokevirtual 283, 3), (1549, .pop2, 1), (1550, .goto 50, 3), (1553, .aload_n 1, 1), (1554, .aload 4, 2), (1556, .invokestatic 284, 3), (1559, .istore 6, 2)]
set_option maxRecDepth 20000 in
theorem dk_L_law_56 : dl_L_law_56.all (fun q => decide (decode cL_law q.1 = .ok (q.2.1, q.2.2))) = true := dq_all 1531 (by decide +kernel)
def dl_L_law_57 : List (Nat × Instr × Nat) := [(1561, .aload_n 2, 1), (1562, .invokevirtual 287, 3), (1565, .fstore 7, 2), (1567, .goto 33, 3), (1570, .aload_n 1, 1), (1571, .aload 4, 2), (1573, .invokestatic 288, 3), (1576, .istore 6, 2), (1578, .aload_n 2, 1), (1579, .invokevirtual 290, 3), (1582, .dstore 7, 2), (1584, .goto 16, 3), (1587, .aload_n 1, 1), (1588, .invokevirtual 291, 3), (1591, .pop, 1), (1592, .aload_n 2, 1)]
set_option maxRecDepth 20000 in
theorem dk_L_law_57 : dl_L_law_57.all (fun q => decide (decode cL_law q.1 = .ok (q.2.1, q.2.2))) = true := dq_all 1561 (by decide +kernel)
def dl_L_law_58 : List (Nat × Instr × Nat) := [(1593, .invokevirtual 294, 3), (1596, .pop, 1), (1597, .goto 3, 3), (1600, .iinc 5 6, 3), (1603, .goto (-1575), 3), (1606, .iconst 1, 1), (1607, .ireturn, 1)]
set_option maxRecDepth 20000 in
theorem dk_L_law_58 : dl_L_law_58.all (fun q => decide (decode cL_law q.1 = .ok (q.2.1, q.2.2))) = true := dq_all 1593 (by decide +kernel)
