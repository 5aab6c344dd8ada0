def RX0 : String := "LeadlightHall$Frame"
def TX0 : u_T := fun k => match k with
  | 0 => ("LeadlightHall$Frame", "bars", "I", false)
  | 1 => ("LeadlightHall$Frame", "profile", "I", false)
  | _ => ("LeadlightHall$Frame", "wind", "I", false)
def tyX0 : Nat → FieldType := fun k => match k with
  | 0 => .int
  | 1 => .int
  | _ => .int
abbrev wsX00 : List Cond := u_ws RX0 TX0 3
theorem nmX0 : ∀ a, a < 3 → ∀ b, b < 3 → a ≠ b → (TX0 a).2.1 ≠ (TX0 b).2.1 := by decide +kernel
theorem tyX0_ok : ∀ k, k < 3 → parseFieldDescriptor (TX0 k).2.2.1 = some (tyX0 k) := by decide +kernel
abbrev cX0_init : ByteArray := prog_2_method_1_code
def yX0_init : MethodName := ⟨RX0, "<init>", "()V"⟩
def RX1 : String := "LeadlightHall$Paint"
def TX1 : u_T := fun k => match k with
  | 0 => ("LeadlightHall$Paint", "raw", "[I", true)
  | _ => ("LeadlightHall$Paint", "fixed", "[I", true)
def tyX1 : Nat → FieldType := fun k => match k with
  | 0 => .array .int
  | _ => .array .int
abbrev wsX10 : List Cond := u_ws RX1 TX1 2
theorem nmX1 : ∀ a, a < 2 → ∀ b, b < 2 → a ≠ b → (TX1 a).2.1 ≠ (TX1 b).2.1 := by decide +kernel
theorem tyX1_ok : ∀ k, k < 2 → parseFieldDescriptor (TX1 k).2.2.1 = some (tyX1 k) := by decide +kernel
abbrev cX1_init : ByteArray := prog_3_method_1_code
def yX1_init : MethodName := ⟨RX1, "<init>", "()V"⟩
abbrev cX1_rawLayers : ByteArray := prog_3_method_7_code
def yX1_rawLayers : MethodName := ⟨RX1, "rawLayers", "()I"⟩
def RX2 : String := "LeadlightHall$Pane"
def TX2 : u_T := fun k => match k with
  | 0 => ("LeadlightHall$Pane", "wantedColour", "I", false)
  | 1 => ("LeadlightHall$Pane", "wantedStreaks", "C", false)
  | 2 => ("LeadlightHall$Pane", "state", "C", false)
  | 3 => ("LeadlightHall$Pane", "colour", "I", false)
  | 4 => ("LeadlightHall$Pane", "year", "I", false)
  | 5 => ("LeadlightHall$Pane", "paint", "LLeadlightHall$Paint;", true)
  | _ => ("LeadlightHall$Pane", "leadYears", "LLeadlightHall$YearSet;", true)
def tyX2 : Nat → FieldType := fun k => match k with
  | 0 => .int
  | 1 => .char
  | 2 => .char
  | 3 => .int
  | 4 => .int
  | 5 => .object "LeadlightHall$Paint"
  | _ => .object "LeadlightHall$YearSet"
abbrev wsX20 : List Cond := u_ws RX2 TX2 7
theorem nmX2 : ∀ a, a < 7 → ∀ b, b < 7 → a ≠ b → (TX2 a).2.1 ≠ (TX2 b).2.1 := by decide +kernel
theorem tyX2_ok : ∀ k, k < 7 → parseFieldDescriptor (TX2 k).2.2.1 = some (tyX2 k) := by decide +kernel
abbrev cX2_init : ByteArray := prog_4_method_1_code
def yX2_init : MethodName := ⟨RX2, "<init>", "()V"⟩
abbrev cX2_hasGlass : ByteArray := prog_4_method_2_code
def yX2_hasGlass : MethodName := ⟨RX2, "hasGlass", "()Z"⟩
abbrev cX2_wantLike : ByteArray := prog_4_method_4_code
def yX2_wantLike : MethodName := ⟨RX2, "wantLike", "(LLeadlightHall$Pane;)V"⟩
def RX3 : String := "LeadlightHall$Shape"
def TX3 : u_T := fun k => match k with
  | 0 => ("LeadlightHall$Shape", "rows", "[I", true)
  | _ => ("LeadlightHall$Shape", "reached", "[I", true)
def tyX3 : Nat → FieldType := fun k => match k with
  | 0 => .array .int
  | _ => .array .int
abbrev wsX30 : List Cond := u_ws RX3 TX3 2
theorem nmX3 : ∀ a, a < 2 → ∀ b, b < 2 → a ≠ b → (TX3 a).2.1 ≠ (TX3 b).2.1 := by decide +kernel
theorem tyX3_ok : ∀ k, k < 2 → parseFieldDescriptor (TX3 k).2.2.1 = some (tyX3 k) := by decide +kernel
abbrev cX3_init : ByteArray := prog_5_method_1_code
def yX3_init : MethodName := ⟨RX3, "<init>", "()V"⟩
abbrev cX3_clear : ByteArray := prog_5_method_2_code
def yX3_clear : MethodName := ⟨RX3, "clear", "()V"⟩
abbrev cX3_add : ByteArray := prog_5_method_3_code
def yX3_add : MethodName := ⟨RX3, "add", "(II)V"⟩
abbrev cX3_has : ByteArray := prog_5_method_4_code
def yX3_has : MethodName := ⟨RX3, "has", "(II)Z"⟩
abbrev cX3_row : ByteArray := prog_5_method_5_code
def yX3_row : MethodName := ⟨RX3, "row", "(I)I"⟩
abbrev cX3_cellCount : ByteArray := prog_5_method_6_code
def yX3_cellCount : MethodName := ⟨RX3, "cellCount", "()I"⟩
abbrev cX3_hindrance : ByteArray := prog_5_method_7_code
def yX3_hindrance : MethodName := ⟨RX3, "hindrance", "()C"⟩
abbrev cX3_isWhole : ByteArray := prog_5_method_8_code
def yX3_isWhole : MethodName := ⟨RX3, "isWhole", "()Z"⟩
abbrev cX3_grow : ByteArray := prog_5_method_9_code
def yX3_grow : MethodName := ⟨RX3, "grow", "()Z"⟩
abbrev cX3_innerCorners : ByteArray := prog_5_method_10_code
def yX3_innerCorners : MethodName := ⟨RX3, "innerCorners", "()I"⟩
abbrev cX3_longestNarrow : ByteArray := prog_5_method_11_code
def yX3_longestNarrow : MethodName := ⟨RX3, "longestNarrow", "()I"⟩
abbrev cX3_narrowInRow : ByteArray := prog_5_method_12_code
def yX3_narrowInRow : MethodName := ⟨RX3, "narrowInRow", "(I)I"⟩
abbrev cX3_narrowInColumn : ByteArray := prog_5_method_13_code
def yX3_narrowInColumn : MethodName := ⟨RX3, "narrowInColumn", "(I)I"⟩
abbrev cX3_longestRun : ByteArray := prog_5_method_14_code
def yX3_longestRun : MethodName := ⟨RX3, "longestRun", "(I)I"⟩
abbrev cX3_bestLead : ByteArray := prog_5_method_15_code
def yX3_bestLead : MethodName := ⟨RX3, "bestLead", "(LLeadlightHall$Shape;LLeadlightHall$Shape;)I"⟩
abbrev cX3_partBy : ByteArray := prog_5_method_16_code
def yX3_partBy : MethodName := ⟨RX3, "partBy", "(ILLeadlightHall$Shape;LLeadlightHall$Shape;)V"⟩
abbrev cX3_touchesOver : ByteArray := prog_5_method_17_code
def yX3_touchesOver : MethodName := ⟨RX3, "touchesOver", "(I)I"⟩
def RX4 : String := "LeadlightHall$Sheet"
def TX4 : u_T := fun k => match k with
  | 0 => ("LeadlightHall$Sheet", "colour", "I", false)
  | 1 => ("LeadlightHall$Sheet", "width", "I", false)
  | 2 => ("LeadlightHall$Sheet", "height", "I", false)
  | 3 => ("LeadlightHall$Sheet", "streaks", "C", false)
  | _ => ("LeadlightHall$Sheet", "used", "[I", true)
def tyX4 : Nat → FieldType := fun k => match k with
  | 0 => .int
  | 1 => .int
  | 2 => .int
  | 3 => .char
  | _ => .array .int
abbrev wsX40 : List Cond := u_ws RX4 TX4 5
theorem nmX4 : ∀ a, a < 5 → ∀ b, b < 5 → a ≠ b → (TX4 a).2.1 ≠ (TX4 b).2.1 := by decide +kernel
theorem tyX4_ok : ∀ k, k < 5 → parseFieldDescriptor (TX4 k).2.2.1 = some (tyX4 k) := by decide +kernel
abbrev cX4_init : ByteArray := prog_6_method_1_code
def yX4_init : MethodName := ⟨RX4, "<init>", "()V"⟩
abbrev cX4_usedCells : ByteArray := prog_6_method_3_code
def yX4_usedCells : MethodName := ⟨RX4, "usedCells", "()I"⟩
def RX5 : String := "LeadlightHall$Wall"
def TX5 : u_T := fun k => match k with
  | _ => ("LeadlightHall$Wall", "cells", "[I", true)
def tyX5 : Nat → FieldType := fun k => match k with
  | _ => .array .int
abbrev wsX50 : List Cond := u_ws RX5 TX5 1
theorem nmX5 : ∀ a, a < 1 → ∀ b, b < 1 → a ≠ b → (TX5 a).2.1 ≠ (TX5 b).2.1 := by decide +kernel
theorem tyX5_ok : ∀ k, k < 1 → parseFieldDescriptor (TX5 k).2.2.1 = some (tyX5 k) := by decide +kernel
abbrev cX5_init : ByteArray := prog_7_method_1_code
def yX5_init : MethodName := ⟨RX5, "<init>", "()V"⟩
abbrev cX5_at : ByteArray := prog_7_method_2_code
def yX5_at : MethodName := ⟨RX5, "at", "(II)I"⟩
abbrev cX5_put : ByteArray := prog_7_method_3_code
def yX5_put : MethodName := ⟨RX5, "put", "(III)V"⟩
abbrev cX5_putShape : ByteArray := prog_7_method_4_code
def yX5_putShape : MethodName := ⟨RX5, "putShape", "(LLeadlightHall$Shape;I)V"⟩
abbrev cX5_cellsOf : ByteArray := prog_7_method_5_code
def yX5_cellsOf : MethodName := ⟨RX5, "cellsOf", "(I)I"⟩
abbrev cX5_piecesWithCells : ByteArray := prog_7_method_6_code
def yX5_piecesWithCells : MethodName := ⟨RX5, "piecesWithCells", "()I"⟩
abbrev cX5_shapeInto : ByteArray := prog_7_method_7_code
def yX5_shapeInto : MethodName := ⟨RX5, "shapeInto", "(ILLeadlightHall$Shape;)V"⟩
abbrev cX5_leadedSides : ByteArray := prog_7_method_8_code
def yX5_leadedSides : MethodName := ⟨RX5, "leadedSides", "()I"⟩
abbrev cX5_meetingPoints : ByteArray := prog_7_method_9_code
def yX5_meetingPoints : MethodName := ⟨RX5, "meetingPoints", "()I"⟩
abbrev cX5_waitsInto : ByteArray := prog_7_method_10_code
def yX5_waitsInto : MethodName := ⟨RX5, "waitsInto", "([I)V"⟩
abbrev cX5_bitOf : ByteArray := prog_7_method_11_code
def yX5_bitOf : MethodName := ⟨RX5, "bitOf", "(II)I"⟩
abbrev cX5_leadBetween : ByteArray := prog_7_method_12_code
def yX5_leadBetween : MethodName := ⟨RX5, "leadBetween", "(II)I"⟩
def RX6 : String := "LeadlightHall$YearSet"
def TX6 : u_T := fun k => match k with
  | _ => ("LeadlightHall$YearSet", "words", "[J", true)
def tyX6 : Nat → FieldType := fun k => match k with
  | _ => .array .long
abbrev wsX60 : List Cond := u_ws RX6 TX6 1
theorem nmX6 : ∀ a, a < 1 → ∀ b, b < 1 → a ≠ b → (TX6 a).2.1 ≠ (TX6 b).2.1 := by decide +kernel
theorem tyX6_ok : ∀ k, k < 1 → parseFieldDescriptor (TX6 k).2.2.1 = some (tyX6 k) := by decide +kernel
abbrev cX6_init : ByteArray := prog_8_method_1_code
def yX6_init : MethodName := ⟨RX6, "<init>", "()V"⟩
def RX7 : String := "LeadlightHall"
def TX7 : u_T := fun k => match k with
  | 0 => ("LeadlightHall", "wall", "LLeadlightHall$Wall;", true)
  | 1 => ("LeadlightHall", "panes", "[LLeadlightHall$Pane;", true)
  | 2 => ("LeadlightHall", "sheets", "[LLeadlightHall$Sheet;", true)
  | 3 => ("LeadlightHall", "frame", "LLeadlightHall$Frame;", true)
  | 4 => ("LeadlightHall", "sheetCount", "I", false)
  | 5 => ("LeadlightHall", "cellsTaken", "I", false)
  | 6 => ("LeadlightHall", "z", "I", false)
  | 7 => ("LeadlightHall", "isSoldered", "Z", false)
  | 8 => ("LeadlightHall", "upYear", "I", false)
  | 9 => ("LeadlightHall", "now", "I", false)
  | 10 => ("LeadlightHall", "mends", "I", false)
  | 11 => ("LeadlightHall", "shape", "LLeadlightHall$Shape;", true)
  | 12 => ("LeadlightHall", "near", "LLeadlightHall$Shape;", true)
  | 13 => ("LeadlightHall", "far", "LLeadlightHall$Shape;", true)
  | 14 => ("LeadlightHall", "waits", "[I", true)
  | _ => ("LeadlightHall", "unlike", "LLeadlightHall$YearSet;", true)
def tyX7 : Nat → FieldType := fun k => match k with
  | 0 => .object "LeadlightHall$Wall"
  | 1 => .array (.object "LeadlightHall$Pane")
  | 2 => .array (.object "LeadlightHall$Sheet")
  | 3 => .object "LeadlightHall$Frame"
  | 4 => .int
  | 5 => .int
  | 6 => .int
  | 7 => .boolean
  | 8 => .int
  | 9 => .int
  | 10 => .int
  | 11 => .object "LeadlightHall$Shape"
  | 12 => .object "LeadlightHall$Shape"
  | 13 => .object "LeadlightHall$Shape"
  | 14 => .array .int
  | _ => .object "LeadlightHall$YearSet"
abbrev wsX70 : List Cond := u_ws RX7 TX7 16
theorem nmX7 : ∀ a, a < 16 → ∀ b, b < 16 → a ≠ b → (TX7 a).2.1 ≠ (TX7 b).2.1 := by decide +kernel
theorem tyX7_ok : ∀ k, k < 16 → parseFieldDescriptor (TX7 k).2.2.1 = some (tyX7 k) := by decide +kernel
abbrev cX7_init : ByteArray := prog_1_method_1_code
def yX7_init : MethodName := ⟨RX7, "<init>", "()V"⟩
abbrev cX7_open : ByteArray := prog_1_method_2_code
def yX7_open : MethodName := ⟨RX7, "open", "(IIIIZ)I"⟩
abbrev cX7_lay : ByteArray := prog_1_method_3_code
def yX7_lay : MethodName := ⟨RX7, "lay", "(IIIII)I"⟩
abbrev cX7_pieceAt : ByteArray := prog_1_method_4_code
def yX7_pieceAt : MethodName := ⟨RX7, "pieceAt", "(II)I"⟩
abbrev cX7_size : ByteArray := prog_1_method_5_code
def yX7_size : MethodName := ⟨RX7, "size", "(I)I"⟩
abbrev cX7_corners : ByteArray := prog_1_method_6_code
def yX7_corners : MethodName := ⟨RX7, "corners", "(I)I"⟩
abbrev cX7_point : ByteArray := prog_1_method_7_code
def yX7_point : MethodName := ⟨RX7, "point", "(I)I"⟩
abbrev cX7_hinders : ByteArray := prog_1_method_8_code
def yX7_hinders : MethodName := ⟨RX7, "hinders", "(I)C"⟩
abbrev cX7_split : ByteArray := prog_1_method_9_code
def yX7_split : MethodName := ⟨RX7, "split", "(I)I"⟩
abbrev cX7_lead : ByteArray := prog_1_method_10_code
def yX7_lead : MethodName := ⟨RX7, "lead", "()I"⟩
abbrev cX7_joints : ByteArray := prog_1_method_11_code
def yX7_joints : MethodName := ⟨RX7, "joints", "()I"⟩
abbrev cX7_meanCells : ByteArray := prog_1_method_43_code
def yX7_meanCells : MethodName := ⟨RX7, "meanCells", "()D"⟩
abbrev cX7_isSound : ByteArray := prog_1_method_44_code
def yX7_isSound : MethodName := ⟨RX7, "isSound", "()Z"⟩
abbrev cX7_isWithin : ByteArray := prog_1_method_45_code
def yX7_isWithin : MethodName := ⟨RX7, "isWithin", "(III)Z"⟩
abbrev cX7_isInside : ByteArray := prog_1_method_46_code
def yX7_isInside : MethodName := ⟨RX7, "isInside", "(II)Z"⟩
abbrev cX7_isPiece : ByteArray := prog_1_method_47_code
def yX7_isPiece : MethodName := ⟨RX7, "isPiece", "(I)Z"⟩
abbrev cX7_requirePiece : ByteArray := prog_1_method_50_code
def yX7_requirePiece : MethodName := ⟨RX7, "requirePiece", "(I)V"⟩
abbrev cX7_requireCell : ByteArray := prog_1_method_52_code
def yX7_requireCell : MethodName := ⟨RX7, "requireCell", "(II)V"⟩
abbrev cX7_requireCells : ByteArray := prog_1_method_53_code
def yX7_requireCells : MethodName := ⟨RX7, "requireCells", "(IIII)V"⟩
abbrev cX7_panesThatAre : ByteArray := prog_1_method_58_code
def yX7_panesThatAre : MethodName := ⟨RX7, "panesThatAre", "(C)I"⟩
abbrev cX7_lowestWithoutCells : ByteArray := prog_1_method_59_code
def yX7_lowestWithoutCells : MethodName := ⟨RX7, "lowestWithoutCells", "()I"⟩
abbrev cX7_isGlassWithin : ByteArray := prog_1_method_60_code
def yX7_isGlassWithin : MethodName := ⟨RX7, "isGlassWithin", "(IIII)Z"⟩
abbrev cX7_isOpenWithin : ByteArray := prog_1_method_61_code
def yX7_isOpenWithin : MethodName := ⟨RX7, "isOpenWithin", "(IIII)Z"⟩
abbrev cX7_isCuttable : ByteArray := prog_1_method_63_code
def yX7_isCuttable : MethodName := ⟨RX7, "isCuttable", "(I)Z"⟩
def RX8 : String := "LeadlightHallModel"
def TX8 : u_T := fun k => match k with
  | _ => ("", "", "", false)
def tyX8 : Nat → FieldType := fun k => match k with
  | _ => .int
abbrev wsX80 : List Cond := u_ws RX8 TX8 0
theorem nmX8 : ∀ a, a < 0 → ∀ b, b < 0 → a ≠ b → (TX8 a).2.1 ≠ (TX8 b).2.1 := by decide +kernel
theorem tyX8_ok : ∀ k, k < 0 → parseFieldDescriptor (TX8 k).2.2.1 = some (tyX8 k) := by decide +kernel
def RJx145de : String := "java/io/Serializable"
def TJx145de : u_T := fun k => match k with
  | _ => ("", "", "", false)
def tyJx145de : Nat → FieldType := fun k => match k with
  | _ => .int
theorem nmJx145de : ∀ a, a < 0 → ∀ b, b < 0 → a ≠ b → (TJx145de a).2.1 ≠ (TJx145de b).2.1 := by decide +kernel
def RJ6 : String := "java/lang/Integer"
def TJ6 : u_T := fun k => match k with
  | _ => ("", "", "", false)
def tyJ6 : Nat → FieldType := fun k => match k with
  | _ => .int
abbrev wsJ60 : List Cond := u_ws RJ6 TJ6 0
theorem nmJ6 : ∀ a, a < 0 → ∀ b, b < 0 → a ≠ b → (TJ6 a).2.1 ≠ (TJ6 b).2.1 := by decide +kernel
theorem tyJ6_ok : ∀ k, k < 0 → parseFieldDescriptor (TJ6 k).2.2.1 = some (tyJ6 k) := by decide +kernel
abbrev cJ6_bitCount_0f7a4 : ByteArray := prog_16_method_49_code
def yJ6_bitCount_0f7a4 : MethodName := ⟨RJ6, "bitCount", "(I)I"⟩
def RJ9 : String := "java/lang/Math"
def TJ9 : u_T := fun k => match k with
  | _ => ("", "", "", false)
def tyJ9 : Nat → FieldType := fun k => match k with
  | _ => .int
abbrev wsJ90 : List Cond := u_ws RJ9 TJ9 0
theorem nmJ9 : ∀ a, a < 0 → ∀ b, b < 0 → a ≠ b → (TJ9 a).2.1 ≠ (TJ9 b).2.1 := by decide +kernel
theorem tyJ9_ok : ∀ k, k < 0 → parseFieldDescriptor (TJ9 k).2.2.1 = some (tyJ9 k) := by decide +kernel
abbrev cJ9_max_7cf53 : ByteArray := prog_17_method_65_code
def yJ9_max_7cf53 : MethodName := ⟨RJ9, "max", "(II)I"⟩
def RJ0 : String := "java/lang/String"
def TJ0 : u_T := fun k => match k with
  | _ => ("", "", "", false)
def tyJ0 : Nat → FieldType := fun k => match k with
  | _ => .int
abbrev wsJ00 : List Cond := u_ws RJ0 TJ0 0
theorem nmJ0 : ∀ a, a < 0 → ∀ b, b < 0 → a ≠ b → (TJ0 a).2.1 ≠ (TJ0 b).2.1 := by decide +kernel
theorem tyJ0_ok : ∀ k, k < 0 → parseFieldDescriptor (TJ0 k).2.2.1 = some (tyJ0 k) := by decide +kernel
def RL : String := "LeadlightHallLaw"
abbrev cL_cell : ByteArray := method_2_code
def yL_cell : MethodName := ⟨RL, "cell", "([II)I"⟩
abbrev cL_open : ByteArray := method_3_code
def yL_open : MethodName := ⟨RL, "open", "(LLeadlightHall;IIIIZ)I"⟩
abbrev cL_lay : ByteArray := method_4_code
def yL_lay : MethodName := ⟨RL, "lay", "(LLeadlightHall;IIIII)I"⟩
abbrev cL_pieceAt : ByteArray := method_5_code
def yL_pieceAt : MethodName := ⟨RL, "pieceAt", "(LLeadlightHall;II)I"⟩
abbrev cL_size : ByteArray := method_6_code
def yL_size : MethodName := ⟨RL, "size", "(LLeadlightHall;I)I"⟩
abbrev cL_corners : ByteArray := method_7_code
def yL_corners : MethodName := ⟨RL, "corners", "(LLeadlightHall;I)I"⟩
abbrev cL_point : ByteArray := method_8_code
def yL_point : MethodName := ⟨RL, "point", "(LLeadlightHall;I)I"⟩
abbrev cL_hinders : ByteArray := method_9_code
def yL_hinders : MethodName := ⟨RL, "hinders", "(LLeadlightHall;I)I"⟩
abbrev cL_split : ByteArray := method_10_code
def yL_split : MethodName := ⟨RL, "split", "(LLeadlightHall;I)I"⟩
abbrev cL_in : ByteArray := method_11_code
def yL_in : MethodName := ⟨RL, "in", "([III)I"⟩
abbrev cL_at : ByteArray := method_12_code
def yL_at : MethodName := ⟨RL, "at", "([[III)I"⟩
abbrev cL_law : ByteArray := code
def yL_law : MethodName := ⟨RL, "law", "([I)Z"⟩
abbrev vwCl : List vw_C := [(RX0, TX0, 3), (RX1, TX1, 2), (RX2, TX2, 7), (RX3, TX3, 2), (RX4, TX4, 5), (RX5, TX5, 1), (RX6, TX6, 1), (RX7, TX7, 16)]
def dl_X0_init_0 : List (Nat × Instr × Nat) := [(0, .aload_n 0, 1), (1, .invokespecial 3, 3), (4, .aload_n 0, 1), (5, .iconst 0, 1), (6, .putfield 9, 3), (9, .aload_n 0, 1), (10, .iconst 1, 1), (11, .putfield 15, 3), (14, .aload_n 0, 1), (15, .iconst 0, 1), (16, .putfield 18, 3), (19, .return_, 1)]
set_option maxRecDepth 20000 in
theorem dk_X0_init_0 : dl_X0_init_0.all (fun q => decide (decode cX0_init q.1 = .ok (q.2.1, q.2.2))) = true := dq_all 0 (by decide +kernel)
def dl_X1_init_0 : List (Nat × Instr × Nat) := [(0, .aload_n 0, 1), (1, .invokespecial 1, 3), (4, .aload_n 0, 1), (5, .iconst 4, 1), (6, .newarray .int, 2), (8, .putfield 9, 3), (11, .aload_n 0, 1), (12, .iconst 4, 1), (13, .newarray .int, 2), (15, .putfield 13, 3), (18, .return_, 1)]
set_option maxRecDepth 20000 in
theorem dk_X1_init_0 : dl_X1_init_0.all (fun q => decide (decode cX1_init q.1 = .ok (q.2.1, q.2.2))) = true := dq_all 0 (by decide +kernel)
def dl_X1_rawLayers_0 : List (Nat × Instr × Nat) := [(0, .iconst 0, 1), (1, .istore_n 1, 1), (2, .iconst 0, 1), (3, .istore_n 2, 1), (4, .iload_n 2, 1), (5, .iconst 4, 1), (6, .if_icmp .ge 18, 3), (9, .iload_n 1, 1), (10, .aload_n 0, 1), (11, .getfield 9, 3), (14, .iload_n 2, 1), (15, .iaload, 1), (16, .iadd, 1), (17, .istore_n 1, 1), (18, .iinc 2 1, 3), (21, .goto (-17), 3), (24, .iload_n 1, 1), (25, .ireturn, 1)]
set_option maxRecDepth 20000 in
theorem dk_X1_rawLayers_0 : dl_X1_rawLayers_0.all (fun q => decide (decode cX1_rawLayers q.1 = .ok (q.2.1, q.2.2))) = true := dq_all 0 (by decide +kernel)
def dl_X2_init_0 : List (Nat × Instr × Nat) := [(0, .aload_n 0, 1), (1, .invokespecial 3, 3), (4, .aload_n 0, 1), (5, .iconst 0, 1), (6, .putfield 9, 3), (9, .aload_n 0, 1), (10, .bipush 45, 2), (12, .putfield 15, 3), (15, .aload_n 0, 1), (16, .bipush 45, 2), (18, .putfield 19, 3), (21, .aload_n 0, 1), (22, .iconst 0, 1), (23, .putfield 22, 3), (26, .aload_n 0, 1), (27, .iconst 0, 1), (28, .putfield 25, 3), (31, .aload_n 0, 1), (32, .new 28, 3), (35, .dup, 1), (36, .invokespecial 30, 3), (39, .putfield 31, 3), (42, .aload_n 0, 1), (43, .new 35, 3), (46, .dup, 1), (47, .invokespecial 37, 3), (50, .putfield 38, 3), (53, .return_, 1)]
set_option maxRecDepth 20000 in
theorem dk_X2_init_0 : dl_X2_init_0.all (fun q => decide (decode cX2_init q.1 = .ok (q.2.1, q.2.2))) = true := dq_all 0 (by decide +kernel)
def dl_X2_hasGlass_0 : List (Nat × Instr × Nat) := [(0, .aload_n 0, 1), (1, .getfield 19, 3), (4, .bipush 45, 2), (6, .if_icmp .eq 7, 3), (9, .iconst 1, 1), (10, .goto 4, 3), (13, .iconst 0, 1), (14, .ireturn, 1)]
set_option maxRecDepth 20000 in
theorem dk_X2_hasGlass_0 : dl_X2_hasGlass_0.all (fun q => decide (decode cX2_hasGlass q.1 = .ok (q.2.1, q.2.2))) = true := dq_all 0 (by decide +kernel)
def dl_X2_wantLike_0 : List (Nat × Instr × Nat) := [(0, .aload_n 0, 1), (1, .aload_n 1, 1), (2, .getfield 9, 3), (5, .putfield 9, 3), (8, .aload_n 0, 1), (9, .aload_n 1, 1), (10, .getfield 15, 3), (13, .putfield 15, 3), (16, .return_, 1)]
set_option maxRecDepth 20000 in
theorem dk_X2_wantLike_0 : dl_X2_wantLike_0.all (fun q => decide (decode cX2_wantLike q.1 = .ok (q.2.1, q.2.2))) = true := dq_all 0 (by decide +kernel)
def dl_X3_init_0 : List (Nat × Instr × Nat) := [(0, .aload_n 0, 1), (1, .invokespecial 3, 3), (4, .aload_n 0, 1), (5, .bipush 12, 2), (7, .newarray .int, 2), (9, .putfield 9, 3), (12, .aload_n 0, 1), (13, .bipush 12, 2), (15, .newarray .int, 2), (17, .putfield 15, 3), (20, .return_, 1)]
set_option maxRecDepth 20000 in
theorem dk_X3_init_0 : dl_X3_init_0.all (fun q => decide (decode cX3_init q.1 = .ok (q.2.1, q.2.2))) = true := dq_all 0 (by decide +kernel)
def dl_X3_clear_0 : List (Nat × Instr × Nat) := [(0, .iconst 0, 1), (1, .istore_n 1, 1), (2, .iload_n 1, 1), (3, .bipush 12, 2), (5, .if_icmp .ge 16, 3), (8, .aload_n 0, 1), (9, .getfield 9, 3), (12, .iload_n 1, 1), (13, .iconst 0, 1), (14, .iastore, 1), (15, .iinc 1 1, 3), (18, .goto (-16), 3), (21, .return_, 1)]
set_option maxRecDepth 20000 in
theorem dk_X3_clear_0 : dl_X3_clear_0.all (fun q => decide (decode cX3_clear q.1 = .ok (q.2.1, q.2.2))) = true := dq_all 0 (by decide +kernel)
def dl_X3_add_0 : List (Nat × Instr × Nat) := [(0, .iload_n 1, 1), (1, .iload_n 2, 1), (2, .invokestatic 18, 3), (5, .ifCond .eq 15, 3), (8, .aload_n 0, 1), (9, .getfield 9, 3), (12, .iload_n 2, 1), (13, .dup2, 1), (14, .iaload, 1), (15, .iconst 1, 1), (16, .iload_n 1, 1), (17, .ishl, 1), (18, .ior, 1), (19, .iastore, 1), (20, .return_, 1)]
set_option maxRecDepth 20000 in
theorem dk_X3_add_0 : dl_X3_add_0.all (fun q => decide (decode cX3_add q.1 = .ok (q.2.1, q.2.2))) = true := dq_all 0 (by decide +kernel)
def dl_X3_has_0 : List (Nat × Instr × Nat) := [(0, .iload_n 1, 1), (1, .iload_n 2, 1), (2, .invokestatic 18, 3), (5, .ifCond .eq 21, 3), (8, .aload_n 0, 1), (9, .getfield 9, 3), (12, .iload_n 2, 1), (13, .iaload, 1), (14, .iload_n 1, 1), (15, .ishr, 1), (16, .iconst 1, 1), (17, .iand, 1), (18, .iconst 1, 1), (19, .if_icmp .ne 7, 3), (22, .iconst 1, 1), (23, .goto 4, 3), (26, .iconst 0, 1), (27, .ireturn, 1)]
set_option maxRecDepth 20000 in
theorem dk_X3_has_0 : dl_X3_has_0.all (fun q => decide (decode cX3_has q.1 = .ok (q.2.1, q.2.2))) = true := dq_all 0 (by decide +kernel)
def dl_X3_row_0 : List (Nat × Instr × Nat) := [(0, .iload_n 1, 1), (1, .ifCond .lt 18, 3), (4, .iload_n 1, 1), (5, .bipush 12, 2), (7, .if_icmp .ge 12, 3), (10, .aload_n 0, 1), (11, .getfield 9, 3), (14, .iload_n 1, 1), (15, .iaload, 1), (16, .goto 4, 3), (19, .iconst 0, 1), (20, .ireturn, 1)]
set_option maxRecDepth 20000 in
theorem dk_X3_row_0 : dl_X3_row_0.all (fun q => decide (decode cX3_row q.1 = .ok (q.2.1, q.2.2))) = true := dq_all 0 (by decide +kernel)
def dl_X3_cellCount_0 : List (Nat × Instr × Nat) := [(0, .iconst 0, 1), (1, .istore_n 1, 1), (2, .iconst 0, 1), (3, .istore_n 2, 1), (4, .iload_n 2, 1), (5, .bipush 12, 2), (7, .if_icmp .ge 21, 3), (10, .iload_n 1, 1), (11, .aload_n 0, 1), (12, .getfield 9, 3), (15, .iload_n 2, 1), (16, .iaload, 1), (17, .invokestatic 22, 3), (20, .iadd, 1), (21, .istore_n 1, 1), (22, .iinc 2 1, 3), (25, .goto (-21), 3), (28, .iload_n 1, 1), (29, .ireturn, 1)]
set_option maxRecDepth 20000 in
theorem dk_X3_cellCount_0 : dl_X3_cellCount_0.all (fun q => decide (decode cX3_cellCount q.1 = .ok (q.2.1, q.2.2))) = true := dq_all 0 (by decide +kernel)
def dl_X3_hindrance_0 : List (Nat × Instr × Nat) := [(0, .aload_n 0, 1), (1, .invokevirtual 28, 3), (4, .ifCond .ne 6, 3), (7, .bipush 101, 2), (9, .ireturn, 1), (10, .aload_n 0, 1), (11, .invokevirtual 32, 3), (14, .ifCond .ne 6, 3), (17, .bipush 119, 2), (19, .ireturn, 1), (20, .aload_n 0, 1), (21, .invokevirtual 36, 3), (24, .iconst 2, 1), (25, .if_icmp .le 6, 3), (28, .bipush 99, 2), (30, .ireturn, 1), (31, .aload_n 0, 1), (32, .invokevirtual 39, 3), (35, .iconst 4, 1), (36, .if_icmp .le 8, 3), (39, .bipush 112, 2), (41, .goto 5, 3), (44, .bipush 45, 2), (46, .ireturn, 1)]
set_option maxRecDepth 20000 in
theorem dk_X3_hindrance_0 : dl_X3_hindrance_0.all (fun q => decide (decode cX3_hindrance q.1 = .ok (q.2.1, q.2.2))) = true := dq_all 0 (by decide +kernel)
def dl_X3_isWhole_0 : List (Nat × Instr × Nat) := [(0, .iconst 0, 1), (1, .istore_n 1, 1), (2, .iconst 0, 1), (3, .istore_n 2, 1), (4, .iload_n 2, 1), (5, .bipush 12, 2), (7, .if_icmp .ge 56, 3), (10, .aload_n 0, 1), (11, .getfield 15, 3), (14, .iload_n 2, 1), (15, .iload_n 1, 1), (16, .ifCond .eq 7, 3), (19, .iconst 0, 1), (20, .goto 17, 3), (23, .aload_n 0, 1), (24, .getfield 9, 3), (27, .iload_n 2, 1), (28, .iaload, 1), (29, .aload_n 0, 1), (30, .getfield 9, 3), (33, .iload_n 2, 1), (34, .iaload, 1), (35, .ineg, 1), (36, .iand, 1), (37, .iastore, 1), (38, .iload_n 1, 1), (39, .ifCond .ne 12, 3), (42, .aload_n 0, 1), (43, .getfield 9, 3), (46, .iload_n 2, 1), (47, .iaload, 1), (48, .ifCond .eq 7, 3), (51, .iconst 1, 1), (52, .goto 4, 3), (55, .iconst 0, 1), (56, .istore_n 1, 1), (57, .iinc 2 1, 3), (60, .goto (-56), 3), (63, .iconst 1, 1), (64, .istore_n 2, 1), (65, .iconst 0, 1), (66, .istore_n 3, 1), (67, .iload_n 3, 1), (68, .sipush 144, 3), (71, .if_icmp .ge 18, 3), (74, .iload_n 2, 1), (75, .ifCond .eq 14, 3), (78, .aload_n 0, 1), (79, .invokevirtual 42, 3), (82, .istore_n 2, 1), (83, .iinc 3 1, 3), (86, .goto (-19), 3), (89, .iconst 0, 1), (90, .istore_n 3, 1), (91, .iload_n 3, 1), (92, .bipush 12, 2), (94, .if_icmp .ge 26, 3), (97, .aload_n 0, 1), (98, .getfield 15, 3), (101, .iload_n 3, 1)]
set_option maxRecDepth 20000 in
theorem dk_X3_isWhole_0 : dl_X3_isWhole_0.all (fun q => decide (decode cX3_isWhole q.1 = .ok (q.2.1, q.2.2))) = true := dq_all 0 (by decide +kernel)
def dl_X3_isWhole_1 : List (Nat × Instr × Nat) := [(102, .iaload, 1), (103, .aload_n 0, 1), (104, .getfield 9, 3), (107, .iload_n 3, 1), (108, .iaload, 1), (109, .if_icmp .eq 5, 3), (112, .iconst 0, 1), (113, .ireturn, 1), (114, .iinc 3 1, 3), (117, .goto (-26), 3), (120, .iconst 1, 1), (121, .ireturn, 1)]
set_option maxRecDepth 20000 in
theorem dk_X3_isWhole_1 : dl_X3_isWhole_1.all (fun q => decide (decode cX3_isWhole q.1 = .ok (q.2.1, q.2.2))) = true := dq_all 102 (by decide +kernel)
def dl_X3_grow_0 : List (Nat × Instr × Nat) := [(0, .iconst 0, 1), (1, .istore_n 1, 1), (2, .iconst 0, 1), (3, .istore_n 2, 1), (4, .iload_n 2, 1), (5, .bipush 12, 2), (7, .if_icmp .ge 113, 3), (10, .iload_n 2, 1), (11, .ifCond .le 14, 3), (14, .aload_n 0, 1), (15, .getfield 15, 3), (18, .iload_n 2, 1), (19, .iconst 1, 1), (20, .isub, 1), (21, .iaload, 1), (22, .goto 4, 3), (25, .iconst 0, 1), (26, .istore_n 3, 1), (27, .iload_n 2, 1), (28, .bipush 11, 2), (30, .if_icmp .ge 14, 3), (33, .aload_n 0, 1), (34, .getfield 15, 3), (37, .iload_n 2, 1), (38, .iconst 1, 1), (39, .iadd, 1), (40, .iaload, 1), (41, .goto 4, 3), (44, .iconst 0, 1), (45, .istore 4, 2), (47, .aload_n 0, 1), (48, .getfield 9, 3), (51, .iload_n 2, 1), (52, .iaload, 1), (53, .aload_n 0, 1), (54, .getfield 15, 3), (57, .iload_n 2, 1), (58, .iaload, 1), (59, .aload_n 0, 1), (60, .getfield 15, 3), (63, .iload_n 2, 1), (64, .iaload, 1), (65, .iconst 1, 1), (66, .ishl, 1), (67, .ior, 1), (68, .aload_n 0, 1), (69, .getfield 15, 3), (72, .iload_n 2, 1), (73, .iaload, 1), (74, .iconst 1, 1), (75, .ishr, 1), (76, .ior, 1), (77, .iload_n 3, 1), (78, .ior, 1), (79, .iload 4, 2), (81, .ior, 1), (82, .iand, 1), (83, .istore 5, 2), (85, .iload_n 1, 1), (86, .ifCond .ne 14, 3)]
set_option maxRecDepth 20000 in
theorem dk_X3_grow_0 : dl_X3_grow_0.all (fun q => decide (decode cX3_grow q.1 = .ok (q.2.1, q.2.2))) = true := dq_all 0 (by decide +kernel)
def dl_X3_grow_1 : List (Nat × Instr × Nat) := [(89, .iload 5, 2), (91, .aload_n 0, 1), (92, .getfield 15, 3), (95, .iload_n 2, 1), (96, .iaload, 1), (97, .if_icmp .eq 7, 3), (100, .iconst 1, 1), (101, .goto 4, 3), (104, .iconst 0, 1), (105, .istore_n 1, 1), (106, .aload_n 0, 1), (107, .getfield 15, 3), (110, .iload_n 2, 1), (111, .iload 5, 2), (113, .iastore, 1), (114, .iinc 2 1, 3), (117, .goto (-113), 3), (120, .iload_n 1, 1), (121, .ireturn, 1)]
set_option maxRecDepth 20000 in
theorem dk_X3_grow_1 : dl_X3_grow_1.all (fun q => decide (decode cX3_grow q.1 = .ok (q.2.1, q.2.2))) = true := dq_all 89 (by decide +kernel)
def dl_X3_innerCorners_0 : List (Nat × Instr × Nat) := [(0, .iconst 0, 1), (1, .istore_n 1, 1), (2, .iconst 1, 1), (3, .istore_n 2, 1), (4, .iload_n 2, 1), (5, .bipush 12, 2), (7, .if_icmp .ge 71, 3), (10, .iconst 1, 1), (11, .istore_n 3, 1), (12, .iload_n 3, 1), (13, .bipush 12, 2), (15, .if_icmp .ge 57, 3), (18, .aload_n 0, 1), (19, .getfield 9, 3), (22, .iload_n 2, 1), (23, .iconst 1, 1), (24, .isub, 1), (25, .iaload, 1), (26, .iload_n 3, 1), (27, .iconst 1, 1), (28, .isub, 1), (29, .ishr, 1), (30, .iconst 3, 1), (31, .iand, 1), (32, .aload_n 0, 1), (33, .getfield 9, 3), (36, .iload_n 2, 1), (37, .iaload, 1), (38, .iload_n 3, 1), (39, .iconst 1, 1), (40, .isub, 1), (41, .ishr, 1), (42, .iconst 3, 1), (43, .iand, 1), (44, .iconst 2, 1), (45, .ishl, 1), (46, .ior, 1), (47, .istore 4, 2), (49, .iload_n 1, 1), (50, .iload 4, 2), (52, .invokestatic 22, 3), (55, .iconst 3, 1), (56, .if_icmp .ne 7, 3), (59, .iconst 1, 1), (60, .goto 4, 3), (63, .iconst 0, 1), (64, .iadd, 1), (65, .istore_n 1, 1), (66, .iinc 3 1, 3), (69, .goto (-57), 3), (72, .iinc 2 1, 3), (75, .goto (-71), 3), (78, .iload_n 1, 1), (79, .ireturn, 1)]
set_option maxRecDepth 20000 in
theorem dk_X3_innerCorners_0 : dl_X3_innerCorners_0.all (fun q => decide (decode cX3_innerCorners q.1 = .ok (q.2.1, q.2.2))) = true := dq_all 0 (by decide +kernel)
def dl_X3_longestNarrow_0 : List (Nat × Instr × Nat) := [(0, .iconst 0, 1), (1, .istore_n 1, 1), (2, .iconst 0, 1), (3, .istore_n 2, 1), (4, .iload_n 2, 1), (5, .bipush 12, 2), (7, .if_icmp .ge 35, 3), (10, .iload_n 1, 1), (11, .aload_n 0, 1), (12, .iload_n 2, 1), (13, .invokevirtual 45, 3), (16, .invokestatic 48, 3), (19, .invokestatic 51, 3), (22, .istore_n 1, 1), (23, .iload_n 1, 1), (24, .aload_n 0, 1), (25, .iload_n 2, 1), (26, .invokevirtual 57, 3), (29, .invokestatic 48, 3), (32, .invokestatic 51, 3), (35, .istore_n 1, 1), (36, .iinc 2 1, 3), (39, .goto (-35), 3), (42, .iload_n 1, 1), (43, .ireturn, 1)]
set_option maxRecDepth 20000 in
theorem dk_X3_longestNarrow_0 : dl_X3_longestNarrow_0.all (fun q => decide (decode cX3_longestNarrow q.1 = .ok (q.2.1, q.2.2))) = true := dq_all 0 (by decide +kernel)
def dl_X3_narrowInRow_0 : List (Nat × Instr × Nat) := [(0, .aload_n 0, 1), (1, .iload_n 1, 1), (2, .invokevirtual 60, 3), (5, .aload_n 0, 1), (6, .iload_n 1, 1), (7, .iconst 1, 1), (8, .isub, 1), (9, .invokevirtual 60, 3), (12, .iconst (-1), 1), (13, .ixor, 1), (14, .iand, 1), (15, .aload_n 0, 1), (16, .iload_n 1, 1), (17, .iconst 1, 1), (18, .iadd, 1), (19, .invokevirtual 60, 3), (22, .iconst (-1), 1), (23, .ixor, 1), (24, .iand, 1), (25, .ireturn, 1)]
set_option maxRecDepth 20000 in
theorem dk_X3_narrowInRow_0 : dl_X3_narrowInRow_0.all (fun q => decide (decode cX3_narrowInRow q.1 = .ok (q.2.1, q.2.2))) = true := dq_all 0 (by decide +kernel)
def dl_X3_narrowInColumn_0 : List (Nat × Instr × Nat) := [(0, .iconst 0, 1), (1, .istore_n 2, 1), (2, .iconst 0, 1), (3, .istore_n 3, 1), (4, .iload_n 3, 1), (5, .bipush 12, 2), (7, .if_icmp .ge 50, 3), (10, .iload_n 2, 1), (11, .aload_n 0, 1), (12, .iload_n 1, 1), (13, .iload_n 3, 1), (14, .invokevirtual 63, 3), (17, .ifCond .eq 31, 3), (20, .aload_n 0, 1), (21, .iload_n 1, 1), (22, .iconst 1, 1), (23, .isub, 1), (24, .iload_n 3, 1), (25, .invokevirtual 63, 3), (28, .ifCond .ne 20, 3), (31, .aload_n 0, 1), (32, .iload_n 1, 1), (33, .iconst 1, 1), (34, .iadd, 1), (35, .iload_n 3, 1), (36, .invokevirtual 63, 3), (39, .ifCond .ne 9, 3), (42, .iconst 1, 1), (43, .iload_n 3, 1), (44, .ishl, 1), (45, .goto 4, 3), (48, .iconst 0, 1), (49, .ior, 1), (50, .istore_n 2, 1), (51, .iinc 3 1, 3), (54, .goto (-50), 3), (57, .iload_n 2, 1), (58, .ireturn, 1)]
set_option maxRecDepth 20000 in
theorem dk_X3_narrowInColumn_0 : dl_X3_narrowInColumn_0.all (fun q => decide (decode cX3_narrowInColumn q.1 = .ok (q.2.1, q.2.2))) = true := dq_all 0 (by decide +kernel)
def dl_X3_longestRun_0 : List (Nat × Instr × Nat) := [(0, .iconst 0, 1), (1, .istore_n 1, 1), (2, .iconst 0, 1), (3, .istore_n 2, 1), (4, .iconst 0, 1), (5, .istore_n 3, 1), (6, .iload_n 3, 1), (7, .bipush 12, 2), (9, .if_icmp .ge 32, 3), (12, .iload_n 0, 1), (13, .iload_n 3, 1), (14, .ishr, 1), (15, .iconst 1, 1), (16, .iand, 1), (17, .iconst 1, 1), (18, .if_icmp .ne 9, 3), (21, .iload_n 2, 1), (22, .iconst 1, 1), (23, .iadd, 1), (24, .goto 4, 3), (27, .iconst 0, 1), (28, .istore_n 2, 1), (29, .iload_n 1, 1), (30, .iload_n 2, 1), (31, .invokestatic 51, 3), (34, .istore_n 1, 1), (35, .iinc 3 1, 3), (38, .goto (-32), 3), (41, .iload_n 1, 1), (42, .ireturn, 1)]
set_option maxRecDepth 20000 in
theorem dk_X3_longestRun_0 : dl_X3_longestRun_0.all (fun q => decide (decode cX3_longestRun q.1 = .ok (q.2.1, q.2.2))) = true := dq_all 0 (by decide +kernel)
def dl_X3_bestLead_0 : List (Nat × Instr × Nat) := [(0, .iconst (-1), 1), (1, .istore_n 3, 1), (2, .bipush 13, 2), (4, .istore 4, 2), (6, .iconst 1, 1), (7, .istore 5, 2), (9, .iload 5, 2), (11, .bipush 24, 2), (13, .if_icmp .ge 57, 3), (16, .aload_n 0, 1), (17, .iload 5, 2), (19, .aload_n 1, 1), (20, .aload_n 2, 1), (21, .invokevirtual 66, 3), (24, .aload_n 1, 1), (25, .invokevirtual 70, 3), (28, .bipush 45, 2), (30, .if_icmp .ne 34, 3), (33, .aload_n 2, 1), (34, .invokevirtual 70, 3), (37, .bipush 45, 2), (39, .if_icmp .ne 25, 3), (42, .aload_n 0, 1), (43, .iload 5, 2), (45, .invokevirtual 74, 3), (48, .iload 4, 2), (50, .if_icmp .ge 14, 3), (53, .iload 5, 2), (55, .istore_n 3, 1), (56, .aload_n 0, 1), (57, .iload 5, 2), (59, .invokevirtual 74, 3), (62, .istore 4, 2), (64, .iinc 5 1, 3), (67, .goto (-58), 3), (70, .iload_n 3, 1), (71, .ireturn, 1)]
set_option maxRecDepth 20000 in
theorem dk_X3_bestLead_0 : dl_X3_bestLead_0.all (fun q => decide (decode cX3_bestLead q.1 = .ok (q.2.1, q.2.2))) = true := dq_all 0 (by decide +kernel)
def dl_X3_partBy_0 : List (Nat × Instr × Nat) := [(0, .iconst 0, 1), (1, .istore 4, 2), (3, .iload 4, 2), (5, .bipush 12, 2), (7, .if_icmp .ge 81, 3), (10, .iload_n 1, 1), (11, .bipush 12, 2), (13, .if_icmp .ge 19, 3), (16, .aload_n 0, 1), (17, .getfield 9, 3), (20, .iload 4, 2), (22, .iaload, 1), (23, .iconst 1, 1), (24, .iload_n 1, 1), (25, .ishl, 1), (26, .iconst 1, 1), (27, .isub, 1), (28, .iand, 1), (29, .goto 23, 3), (32, .iload 4, 2), (34, .iload_n 1, 1), (35, .bipush 12, 2), (37, .isub, 1), (38, .if_icmp .ge 13, 3), (41, .aload_n 0, 1), (42, .getfield 9, 3), (45, .iload 4, 2), (47, .iaload, 1), (48, .goto 4, 3), (51, .iconst 0, 1), (52, .istore 5, 2), (54, .aload_n 2, 1), (55, .getfield 9, 3), (58, .iload 4, 2), (60, .iload 5, 2), (62, .iastore, 1), (63, .aload_n 3, 1), (64, .getfield 9, 3), (67, .iload 4, 2), (69, .aload_n 0, 1), (70, .getfield 9, 3), (73, .iload 4, 2), (75, .iaload, 1), (76, .iload 5, 2), (78, .iconst (-1), 1), (79, .ixor, 1), (80, .iand, 1), (81, .iastore, 1), (82, .iinc 4 1, 3), (85, .goto (-82), 3), (88, .return_, 1)]
set_option maxRecDepth 20000 in
theorem dk_X3_partBy_0 : dl_X3_partBy_0.all (fun q => decide (decode cX3_partBy q.1 = .ok (q.2.1, q.2.2))) = true := dq_all 0 (by decide +kernel)
def dl_X3_touchesOver_0 : List (Nat × Instr × Nat) := [(0, .iload_n 1, 1), (1, .bipush 12, 2), (3, .if_icmp .lt 26, 3), (6, .aload_n 0, 1), (7, .iload_n 1, 1), (8, .bipush 12, 2), (10, .isub, 1), (11, .iconst 1, 1), (12, .isub, 1), (13, .invokevirtual 60, 3), (16, .aload_n 0, 1), (17, .iload_n 1, 1), (18, .bipush 12, 2), (20, .isub, 1), (21, .invokevirtual 60, 3), (24, .iand, 1), (25, .invokestatic 22, 3), (28, .ireturn, 1), (29, .iconst 0, 1), (30, .istore_n 2, 1), (31, .iconst 0, 1), (32, .istore_n 3, 1), (33, .iload_n 3, 1), (34, .bipush 12, 2), (36, .if_icmp .ge 37, 3), (39, .iload_n 2, 1), (40, .aload_n 0, 1), (41, .iload_n 1, 1), (42, .iconst 1, 1), (43, .isub, 1), (44, .iload_n 3, 1), (45, .invokevirtual 63, 3), (48, .ifCond .eq 16, 3), (51, .aload_n 0, 1), (52, .iload_n 1, 1), (53, .iload_n 3, 1), (54, .invokevirtual 63, 3), (57, .ifCond .eq 7, 3), (60, .iconst 1, 1), (61, .goto 4, 3), (64, .iconst 0, 1), (65, .iadd, 1), (66, .istore_n 2, 1), (67, .iinc 3 1, 3), (70, .goto (-37), 3), (73, .iload_n 2, 1), (74, .ireturn, 1)]
set_option maxRecDepth 20000 in
theorem dk_X3_touchesOver_0 : dl_X3_touchesOver_0.all (fun q => decide (decode cX3_touchesOver q.1 = .ok (q.2.1, q.2.2))) = true := dq_all 0 (by decide +kernel)
def dl_X4_init_0 : List (Nat × Instr × Nat) := [(0, .aload_n 0, 1), (1, .invokespecial 3, 3), (4, .aload_n 0, 1), (5, .iconst 0, 1), (6, .putfield 9, 3), (9, .aload_n 0, 1), (10, .iconst 0, 1), (11, .putfield 15, 3), (14, .aload_n 0, 1), (15, .iconst 0, 1), (16, .putfield 18, 3), (19, .aload_n 0, 1), (20, .bipush 104, 2), (22, .putfield 21, 3), (25, .aload_n 0, 1), (26, .bipush 12, 2), (28, .newarray .int, 2), (30, .putfield 25, 3), (33, .return_, 1)]
set_option maxRecDepth 20000 in
theorem dk_X4_init_0 : dl_X4_init_0.all (fun q => decide (decode cX4_init q.1 = .ok (q.2.1, q.2.2))) = true := dq_all 0 (by decide +kernel)
def dl_X4_usedCells_0 : List (Nat × Instr × Nat) := [(0, .iconst 0, 1), (1, .istore_n 1, 1), (2, .iconst 0, 1), (3, .istore_n 2, 1), (4, .iload_n 2, 1), (5, .bipush 12, 2), (7, .if_icmp .ge 21, 3), (10, .iload_n 1, 1), (11, .aload_n 0, 1), (12, .getfield 25, 3), (15, .iload_n 2, 1), (16, .iaload, 1), (17, .invokestatic 29, 3), (20, .iadd, 1), (21, .istore_n 1, 1), (22, .iinc 2 1, 3), (25, .goto (-21), 3), (28, .iload_n 1, 1), (29, .ireturn, 1)]
set_option maxRecDepth 20000 in
theorem dk_X4_usedCells_0 : dl_X4_usedCells_0.all (fun q => decide (decode cX4_usedCells q.1 = .ok (q.2.1, q.2.2))) = true := dq_all 0 (by decide +kernel)
def dl_X5_init_0 : List (Nat × Instr × Nat) := [(0, .aload_n 0, 1), (1, .invokespecial 3, 3), (4, .aload_n 0, 1), (5, .sipush 144, 3), (8, .newarray .int, 2), (10, .putfield 9, 3), (13, .iconst 0, 1), (14, .istore_n 1, 1), (15, .iload_n 1, 1), (16, .sipush 144, 3), (19, .if_icmp .ge 17, 3), (22, .aload_n 0, 1), (23, .getfield 9, 3), (26, .iload_n 1, 1), (27, .bipush (-2), 2), (29, .iastore, 1), (30, .iinc 1 1, 3), (33, .goto (-18), 3), (36, .return_, 1)]
set_option maxRecDepth 20000 in
theorem dk_X5_init_0 : dl_X5_init_0.all (fun q => decide (decode cX5_init q.1 = .ok (q.2.1, q.2.2))) = true := dq_all 0 (by decide +kernel)
def dl_X5_at_0 : List (Nat × Instr × Nat) := [(0, .iload_n 1, 1), (1, .iload_n 2, 1), (2, .invokestatic 15, 3), (5, .ifCond .eq 17, 3), (8, .aload_n 0, 1), (9, .getfield 9, 3), (12, .iload_n 2, 1), (13, .bipush 12, 2), (15, .imul, 1), (16, .iload_n 1, 1), (17, .iadd, 1), (18, .iaload, 1), (19, .goto 5, 3), (22, .bipush (-2), 2), (24, .ireturn, 1)]
set_option maxRecDepth 20000 in
theorem dk_X5_at_0 : dl_X5_at_0.all (fun q => decide (decode cX5_at q.1 = .ok (q.2.1, q.2.2))) = true := dq_all 0 (by decide +kernel)
def dl_X5_put_0 : List (Nat × Instr × Nat) := [(0, .iload_n 1, 1), (1, .iload_n 2, 1), (2, .invokestatic 15, 3), (5, .ifCond .eq 15, 3), (8, .aload_n 0, 1), (9, .getfield 9, 3), (12, .iload_n 2, 1), (13, .bipush 12, 2), (15, .imul, 1), (16, .iload_n 1, 1), (17, .iadd, 1), (18, .iload_n 3, 1), (19, .iastore, 1), (20, .return_, 1)]
set_option maxRecDepth 20000 in
theorem dk_X5_put_0 : dl_X5_put_0.all (fun q => decide (decode cX5_put q.1 = .ok (q.2.1, q.2.2))) = true := dq_all 0 (by decide +kernel)
def dl_X5_putShape_0 : List (Nat × Instr × Nat) := [(0, .iconst 0, 1), (1, .istore_n 3, 1), (2, .iload_n 3, 1), (3, .bipush 12, 2), (5, .if_icmp .ge 43, 3), (8, .iconst 0, 1), (9, .istore 4, 2), (11, .iload 4, 2), (13, .bipush 12, 2), (15, .if_icmp .ge 27, 3), (18, .aload_n 1, 1), (19, .iload 4, 2), (21, .iload_n 3, 1), (22, .invokevirtual 19, 3), (25, .ifCond .eq 11, 3), (28, .aload_n 0, 1), (29, .iload 4, 2), (31, .iload_n 3, 1), (32, .iload_n 2, 1), (33, .invokevirtual 24, 3), (36, .iinc 4 1, 3), (39, .goto (-28), 3), (42, .iinc 3 1, 3), (45, .goto (-43), 3), (48, .return_, 1)]
set_option maxRecDepth 20000 in
theorem dk_X5_putShape_0 : dl_X5_putShape_0.all (fun q => decide (decode cX5_putShape q.1 = .ok (q.2.1, q.2.2))) = true := dq_all 0 (by decide +kernel)
def dl_X5_cellsOf_0 : List (Nat × Instr × Nat) := [(0, .iconst 0, 1), (1, .istore_n 2, 1), (2, .iconst 0, 1), (3, .istore_n 3, 1), (4, .iload_n 3, 1), (5, .sipush 144, 3), (8, .if_icmp .ge 27, 3), (11, .iload_n 2, 1), (12, .aload_n 0, 1), (13, .getfield 9, 3), (16, .iload_n 3, 1), (17, .iaload, 1), (18, .iload_n 1, 1), (19, .if_icmp .ne 7, 3), (22, .iconst 1, 1), (23, .goto 4, 3), (26, .iconst 0, 1), (27, .iadd, 1), (28, .istore_n 2, 1), (29, .iinc 3 1, 3), (32, .goto (-28), 3), (35, .iload_n 2, 1), (36, .ireturn, 1)]
set_option maxRecDepth 20000 in
theorem dk_X5_cellsOf_0 : dl_X5_cellsOf_0.all (fun q => decide (decode cX5_cellsOf q.1 = .ok (q.2.1, q.2.2))) = true := dq_all 0 (by decide +kernel)
def dl_X5_piecesWithCells_0 : List (Nat × Instr × Nat) := [(0, .iconst 0, 1), (1, .istore_n 1, 1), (2, .iconst 0, 1), (3, .istore_n 2, 1), (4, .iload_n 2, 1), (5, .sipush 144, 3), (8, .if_icmp .ge 33, 3), (11, .iload_n 1, 1), (12, .aload_n 0, 1), (13, .getfield 9, 3), (16, .iload_n 2, 1), (17, .iaload, 1), (18, .ifCond .lt 14, 3), (21, .iconst 1, 1), (22, .aload_n 0, 1), (23, .getfield 9, 3), (26, .iload_n 2, 1), (27, .iaload, 1), (28, .ishl, 1), (29, .goto 4, 3), (32, .iconst 0, 1), (33, .ior, 1), (34, .istore_n 1, 1), (35, .iinc 2 1, 3), (38, .goto (-34), 3), (41, .iload_n 1, 1), (42, .ireturn, 1)]
set_option maxRecDepth 20000 in
theorem dk_X5_piecesWithCells_0 : dl_X5_piecesWithCells_0.all (fun q => decide (decode cX5_piecesWithCells q.1 = .ok (q.2.1, q.2.2))) = true := dq_all 0 (by decide +kernel)
def dl_X5_shapeInto_0 : List (Nat × Instr × Nat) := [(0, .aload_n 2, 1), (1, .invokevirtual 28, 3), (4, .iconst 0, 1), (5, .istore_n 3, 1), (6, .iload_n 3, 1), (7, .bipush 12, 2), (9, .if_icmp .ge 43, 3), (12, .iconst 0, 1), (13, .istore 4, 2), (15, .iload 4, 2), (17, .bipush 12, 2), (19, .if_icmp .ge 27, 3), (22, .aload_n 0, 1), (23, .iload 4, 2), (25, .iload_n 3, 1), (26, .invokevirtual 31, 3), (29, .iload_n 1, 1), (30, .if_icmp .ne 10, 3), (33, .aload_n 2, 1), (34, .iload 4, 2), (36, .iload_n 3, 1), (37, .invokevirtual 35, 3), (40, .iinc 4 1, 3), (43, .goto (-28), 3), (46, .iinc 3 1, 3), (49, .goto (-43), 3), (52, .return_, 1)]
set_option maxRecDepth 20000 in
theorem dk_X5_shapeInto_0 : dl_X5_shapeInto_0.all (fun q => decide (decode cX5_shapeInto q.1 = .ok (q.2.1, q.2.2))) = true := dq_all 0 (by decide +kernel)
def dl_X5_leadedSides_0 : List (Nat × Instr × Nat) := [(0, .iconst 0, 1), (1, .istore_n 1, 1), (2, .iconst 0, 1), (3, .istore_n 2, 1), (4, .iload_n 2, 1), (5, .bipush 12, 2), (7, .if_icmp .gt 63, 3), (10, .iconst 0, 1), (11, .istore_n 3, 1), (12, .iload_n 3, 1), (13, .bipush 12, 2), (15, .if_icmp .gt 49, 3), (18, .iload_n 1, 1), (19, .aload_n 0, 1), (20, .iload_n 3, 1), (21, .iconst 1, 1), (22, .isub, 1), (23, .iload_n 2, 1), (24, .invokevirtual 31, 3), (27, .aload_n 0, 1), (28, .iload_n 3, 1), (29, .iload_n 2, 1), (30, .invokevirtual 31, 3), (33, .invokestatic 39, 3), (36, .iadd, 1), (37, .istore_n 1, 1), (38, .iload_n 1, 1), (39, .aload_n 0, 1), (40, .iload_n 3, 1), (41, .iload_n 2, 1), (42, .iconst 1, 1), (43, .isub, 1), (44, .invokevirtual 31, 3), (47, .aload_n 0, 1), (48, .iload_n 3, 1), (49, .iload_n 2, 1), (50, .invokevirtual 31, 3), (53, .invokestatic 39, 3), (56, .iadd, 1), (57, .istore_n 1, 1), (58, .iinc 3 1, 3), (61, .goto (-49), 3), (64, .iinc 2 1, 3), (67, .goto (-63), 3), (70, .iload_n 1, 1), (71, .ireturn, 1)]
set_option maxRecDepth 20000 in
theorem dk_X5_leadedSides_0 : dl_X5_leadedSides_0.all (fun q => decide (decode cX5_leadedSides q.1 = .ok (q.2.1, q.2.2))) = true := dq_all 0 (by decide +kernel)
def dl_X5_meetingPoints_0 : List (Nat × Instr × Nat) := [(0, .iconst 0, 1), (1, .istore_n 1, 1), (2, .iconst 0, 1), (3, .istore_n 2, 1), (4, .iload_n 2, 1), (5, .bipush 12, 2), (7, .if_icmp .gt 118, 3), (10, .iconst 0, 1), (11, .istore_n 3, 1), (12, .iload_n 3, 1), (13, .bipush 12, 2), (15, .if_icmp .gt 104, 3), (18, .aload_n 0, 1), (19, .iload_n 3, 1), (20, .iconst 1, 1), (21, .isub, 1), (22, .iload_n 2, 1), (23, .iconst 1, 1), (24, .isub, 1), (25, .invokevirtual 31, 3), (28, .aload_n 0, 1), (29, .iload_n 3, 1), (30, .iload_n 2, 1), (31, .iconst 1, 1), (32, .isub, 1), (33, .invokevirtual 31, 3), (36, .invokestatic 39, 3), (39, .aload_n 0, 1), (40, .iload_n 3, 1), (41, .iconst 1, 1), (42, .isub, 1), (43, .iload_n 2, 1), (44, .invokevirtual 31, 3), (47, .aload_n 0, 1), (48, .iload_n 3, 1), (49, .iload_n 2, 1), (50, .invokevirtual 31, 3), (53, .invokestatic 39, 3), (56, .iadd, 1), (57, .aload_n 0, 1), (58, .iload_n 3, 1), (59, .iconst 1, 1), (60, .isub, 1), (61, .iload_n 2, 1), (62, .iconst 1, 1), (63, .isub, 1), (64, .invokevirtual 31, 3), (67, .aload_n 0, 1), (68, .iload_n 3, 1), (69, .iconst 1, 1), (70, .isub, 1), (71, .iload_n 2, 1), (72, .invokevirtual 31, 3), (75, .invokestatic 39, 3), (78, .iadd, 1), (79, .aload_n 0, 1), (80, .iload_n 3, 1), (81, .iload_n 2, 1), (82, .iconst 1, 1), (83, .isub, 1)]
set_option maxRecDepth 20000 in
theorem dk_X5_meetingPoints_0 : dl_X5_meetingPoints_0.all (fun q => decide (decode cX5_meetingPoints q.1 = .ok (q.2.1, q.2.2))) = true := dq_all 0 (by decide +kernel)
def dl_X5_meetingPoints_1 : List (Nat × Instr × Nat) := [(84, .invokevirtual 31, 3), (87, .aload_n 0, 1), (88, .iload_n 3, 1), (89, .iload_n 2, 1), (90, .invokevirtual 31, 3), (93, .invokestatic 39, 3), (96, .iadd, 1), (97, .istore 4, 2), (99, .iload_n 1, 1), (100, .iload 4, 2), (102, .iconst 3, 1), (103, .if_icmp .lt 7, 3), (106, .iconst 1, 1), (107, .goto 4, 3), (110, .iconst 0, 1), (111, .iadd, 1), (112, .istore_n 1, 1), (113, .iinc 3 1, 3), (116, .goto (-104), 3), (119, .iinc 2 1, 3), (122, .goto (-118), 3), (125, .iload_n 1, 1), (126, .ireturn, 1)]
set_option maxRecDepth 20000 in
theorem dk_X5_meetingPoints_1 : dl_X5_meetingPoints_1.all (fun q => decide (decode cX5_meetingPoints q.1 = .ok (q.2.1, q.2.2))) = true := dq_all 84 (by decide +kernel)
def dl_X5_waitsInto_0 : List (Nat × Instr × Nat) := [(0, .iconst 0, 1), (1, .istore_n 2, 1), (2, .iload_n 2, 1), (3, .aload_n 1, 1), (4, .arraylength, 1), (5, .if_icmp .ge 13, 3), (8, .aload_n 1, 1), (9, .iload_n 2, 1), (10, .iconst 0, 1), (11, .iastore, 1), (12, .iinc 2 1, 3), (15, .goto (-13), 3), (18, .iconst 0, 1), (19, .istore_n 2, 1), (20, .iload_n 2, 1), (21, .bipush 12, 2), (23, .if_icmp .ge 77, 3), (26, .iconst 0, 1), (27, .istore_n 3, 1), (28, .iload_n 3, 1), (29, .bipush 12, 2), (31, .if_icmp .ge 63, 3), (34, .aload_n 0, 1), (35, .iload_n 3, 1), (36, .iload_n 2, 1), (37, .invokevirtual 31, 3), (40, .istore 4, 2), (42, .iload 4, 2), (44, .ifCond .lt 44, 3), (47, .iload 4, 2), (49, .aload_n 1, 1), (50, .arraylength, 1), (51, .if_icmp .ge 37, 3), (54, .aload_n 1, 1), (55, .iload 4, 2), (57, .dup2, 1), (58, .iaload, 1), (59, .aload_n 0, 1), (60, .iload_n 3, 1), (61, .iconst 1, 1), (62, .isub, 1), (63, .iload_n 2, 1), (64, .invokevirtual 31, 3), (67, .iload 4, 2), (69, .invokestatic 42, 3), (72, .aload_n 0, 1), (73, .iload_n 3, 1), (74, .iload_n 2, 1), (75, .iconst 1, 1), (76, .isub, 1), (77, .invokevirtual 31, 3), (80, .iload 4, 2), (82, .invokestatic 42, 3), (85, .ior, 1), (86, .ior, 1), (87, .iastore, 1), (88, .iinc 3 1, 3), (91, .goto (-63), 3), (94, .iinc 2 1, 3), (97, .goto (-77), 3)]
set_option maxRecDepth 20000 in
theorem dk_X5_waitsInto_0 : dl_X5_waitsInto_0.all (fun q => decide (decode cX5_waitsInto q.1 = .ok (q.2.1, q.2.2))) = true := dq_all 0 (by decide +kernel)
def dl_X5_waitsInto_1 : List (Nat × Instr × Nat) := [(100, .return_, 1)]
set_option maxRecDepth 20000 in
theorem dk_X5_waitsInto_1 : dl_X5_waitsInto_1.all (fun q => decide (decode cX5_waitsInto q.1 = .ok (q.2.1, q.2.2))) = true := dq_all 100 (by decide +kernel)
def dl_X5_bitOf_0 : List (Nat × Instr × Nat) := [(0, .iload_n 0, 1), (1, .bipush (-2), 2), (3, .if_icmp .eq 8, 3), (6, .iload_n 0, 1), (7, .iload_n 1, 1), (8, .if_icmp .ne 5, 3), (11, .iconst 0, 1), (12, .ireturn, 1), (13, .iload_n 0, 1), (14, .iconst (-1), 1), (15, .if_icmp .ne 8, 3), (18, .ldc 45, 2), (20, .goto 6, 3), (23, .iconst 1, 1), (24, .iload_n 0, 1), (25, .ishl, 1), (26, .ireturn, 1)]
set_option maxRecDepth 20000 in
theorem dk_X5_bitOf_0 : dl_X5_bitOf_0.all (fun q => decide (decode cX5_bitOf q.1 = .ok (q.2.1, q.2.2))) = true := dq_all 0 (by decide +kernel)
def dl_X5_leadBetween_0 : List (Nat × Instr × Nat) := [(0, .iload_n 0, 1), (1, .iload_n 1, 1), (2, .if_icmp .eq 15, 3), (5, .iload_n 0, 1), (6, .ifCond .ge 7, 3), (9, .iload_n 1, 1), (10, .ifCond .lt 7, 3), (13, .iconst 1, 1), (14, .goto 4, 3), (17, .iconst 0, 1), (18, .ireturn, 1)]
set_option maxRecDepth 20000 in
theorem dk_X5_leadBetween_0 : dl_X5_leadBetween_0.all (fun q => decide (decode cX5_leadBetween q.1 = .ok (q.2.1, q.2.2))) = true := dq_all 0 (by decide +kernel)
def dl_X6_init_0 : List (Nat × Instr × Nat) := [(0, .aload_n 0, 1), (1, .invokespecial 3, 3), (4, .aload_n 0, 1), (5, .bipush 32, 2), (7, .newarray .long, 2), (9, .putfield 11, 3), (12, .return_, 1)]
set_option maxRecDepth 20000 in
theorem dk_X6_init_0 : dl_X6_init_0.all (fun q => decide (decode cX6_init q.1 = .ok (q.2.1, q.2.2))) = true := dq_all 0 (by decide +kernel)
def dl_X7_init_0 : List (Nat × Instr × Nat) := [(0, .aload_n 0, 1), (1, .invokespecial 3, 3), (4, .aload_n 0, 1), (5, .new 9, 3), (8, .dup, 1), (9, .invokespecial 11, 3), (12, .putfield 12, 3), (15, .aload_n 0, 1), (16, .bipush 30, 2), (18, .anewarray 16, 3), (21, .putfield 18, 3), (24, .aload_n 0, 1), (25, .bipush 8, 2), (27, .anewarray 22, 3), (30, .putfield 24, 3), (33, .aload_n 0, 1), (34, .new 28, 3), (37, .dup, 1), (38, .invokespecial 30, 3), (41, .putfield 31, 3), (44, .aload_n 0, 1), (45, .iconst 0, 1), (46, .putfield 35, 3), (49, .aload_n 0, 1), (50, .iconst 0, 1), (51, .putfield 39, 3), (54, .aload_n 0, 1), (55, .iconst 1, 1), (56, .putfield 42, 3), (59, .aload_n 0, 1), (60, .iconst 0, 1), (61, .putfield 45, 3), (64, .aload_n 0, 1), (65, .iconst 0, 1), (66, .putfield 49, 3), (69, .aload_n 0, 1), (70, .iconst 0, 1), (71, .putfield 52, 3), (74, .aload_n 0, 1), (75, .iconst 0, 1), (76, .putfield 55, 3), (79, .aload_n 0, 1), (80, .new 58, 3), (83, .dup, 1), (84, .invokespecial 60, 3), (87, .putfield 61, 3), (90, .aload_n 0, 1), (91, .new 58, 3), (94, .dup, 1), (95, .invokespecial 60, 3), (98, .putfield 65, 3), (101, .aload_n 0, 1), (102, .new 58, 3), (105, .dup, 1), (106, .invokespecial 60, 3), (109, .putfield 68, 3), (112, .aload_n 0, 1), (113, .bipush 30, 2), (115, .newarray .int, 2), (117, .putfield 71, 3)]
set_option maxRecDepth 20000 in
theorem dk_X7_init_0 : dl_X7_init_0.all (fun q => decide (decode cX7_init q.1 = .ok (q.2.1, q.2.2))) = true := dq_all 0 (by decide +kernel)
def dl_X7_init_1 : List (Nat × Instr × Nat) := [(120, .aload_n 0, 1), (121, .new 75, 3), (124, .dup, 1), (125, .invokespecial 77, 3), (128, .putfield 78, 3), (131, .iconst 0, 1), (132, .istore_n 1, 1), (133, .iload_n 1, 1), (134, .bipush 30, 2), (136, .if_icmp .ge 22, 3), (139, .aload_n 0, 1), (140, .getfield 18, 3), (143, .iload_n 1, 1), (144, .new 16, 3), (147, .dup, 1), (148, .invokespecial 82, 3), (151, .aastore, 1), (152, .iinc 1 1, 3), (155, .goto (-22), 3), (158, .iconst 0, 1), (159, .istore_n 1, 1), (160, .iload_n 1, 1), (161, .bipush 8, 2), (163, .if_icmp .ge 22, 3), (166, .aload_n 0, 1), (167, .getfield 24, 3), (170, .iload_n 1, 1), (171, .new 22, 3), (174, .dup, 1), (175, .invokespecial 83, 3), (178, .aastore, 1), (179, .iinc 1 1, 3), (182, .goto (-22), 3), (185, .return_, 1)]
set_option maxRecDepth 20000 in
theorem dk_X7_init_1 : dl_X7_init_1.all (fun q => decide (decode cX7_init q.1 = .ok (q.2.1, q.2.2))) = true := dq_all 120 (by decide +kernel)
def dl_X7_open_0 : List (Nat × Instr × Nat) := [(0, .iload_n 1, 1), (1, .iload_n 2, 1), (2, .iload_n 3, 1), (3, .iload 4, 2), (5, .invokestatic 84, 3), (8, .aload_n 0, 1), (9, .getfield 45, 3), (12, .ifCond .ne 15, 3), (15, .aload_n 0, 1), (16, .iload_n 1, 1), (17, .iload_n 2, 1), (18, .iload_n 3, 1), (19, .iload 4, 2), (21, .invokevirtual 88, 3), (24, .ifCond .eq 13, 3), (27, .new 92, 3), (30, .dup, 1), (31, .ldc 94, 2), (33, .invokespecial 96, 3), (36, .athrow, 1), (37, .iconst 0, 1), (38, .istore 6, 2), (40, .iload_n 2, 1), (41, .istore 7, 2), (43, .iload 7, 2), (45, .iload 4, 2), (47, .if_icmp .gt 79, 3), (50, .iload_n 1, 1), (51, .istore 8, 2), (53, .iload 8, 2), (55, .iload_n 3, 1), (56, .if_icmp .gt 64, 3), (59, .aload_n 0, 1), (60, .getfield 12, 3), (63, .iload 8, 2), (65, .iload 7, 2), (67, .invokevirtual 99, 3), (70, .bipush (-2), 2), (72, .if_icmp .eq 7, 3), (75, .iconst 1, 1), (76, .goto 4, 3), (79, .iconst 0, 1), (80, .istore 9, 2), (82, .iload 9, 2), (84, .iload 5, 2), (86, .if_icmp .eq 28, 3), (89, .aload_n 0, 1), (90, .getfield 12, 3), (93, .iload 8, 2), (95, .iload 7, 2), (97, .iload 5, 2), (99, .ifCond .eq 7, 3), (102, .iconst (-1), 1), (103, .goto 5, 3), (106, .bipush (-2), 2), (108, .invokevirtual 103, 3), (111, .iinc 6 1, 3), (114, .iinc 8 1, 3), (117, .goto (-64), 3), (120, .iinc 7 1, 3)]
set_option maxRecDepth 20000 in
theorem dk_X7_open_0 : dl_X7_open_0.all (fun q => decide (decode cX7_open q.1 = .ok (q.2.1, q.2.2))) = true := dq_all 0 (by decide +kernel)
def dl_X7_open_1 : List (Nat × Instr × Nat) := [(123, .goto (-80), 3), (126, .iload 6, 2), (128, .ireturn, 1)]
set_option maxRecDepth 20000 in
theorem dk_X7_open_1 : dl_X7_open_1.all (fun q => decide (decode cX7_open q.1 = .ok (q.2.1, q.2.2))) = true := dq_all 123 (by decide +kernel)
def dl_X7_lay_0 : List (Nat × Instr × Nat) := [(0, .iload_n 1, 1), (1, .invokestatic 107, 3), (4, .iload_n 2, 1), (5, .iload_n 3, 1), (6, .iload 4, 2), (8, .iload 5, 2), (10, .invokestatic 84, 3), (13, .aload_n 0, 1), (14, .getfield 45, 3), (17, .ifCond .ne 28, 3), (20, .aload_n 0, 1), (21, .getfield 18, 3), (24, .iload_n 1, 1), (25, .aaload, 1), (26, .invokevirtual 111, 3), (29, .ifCond .ne 16, 3), (32, .aload_n 0, 1), (33, .iload_n 2, 1), (34, .iload_n 3, 1), (35, .iload 4, 2), (37, .iload 5, 2), (39, .invokevirtual 88, 3), (42, .ifCond .eq 13, 3), (45, .new 92, 3), (48, .dup, 1), (49, .ldc 94, 2), (51, .invokespecial 96, 3), (54, .athrow, 1), (55, .aload_n 0, 1), (56, .iload_n 2, 1), (57, .iload_n 3, 1), (58, .iload 4, 2), (60, .iload 5, 2), (62, .invokevirtual 115, 3), (65, .ifCond .ne 13, 3), (68, .new 92, 3), (71, .dup, 1), (72, .ldc 118, 2), (74, .invokespecial 96, 3), (77, .athrow, 1), (78, .iload_n 3, 1), (79, .istore 6, 2), (81, .iload 6, 2), (83, .iload 5, 2), (85, .if_icmp .gt 53, 3), (88, .iload_n 2, 1), (89, .istore 7, 2), (91, .iload 7, 2), (93, .iload 4, 2), (95, .if_icmp .gt 37, 3), (98, .aload_n 0, 1), (99, .getfield 12, 3), (102, .iload 7, 2), (104, .iload 6, 2), (106, .invokevirtual 99, 3), (109, .bipush (-2), 2), (111, .if_icmp .eq 15, 3), (114, .aload_n 0, 1), (115, .getfield 12, 3), (118, .iload 7, 2)]
set_option maxRecDepth 20000 in
theorem dk_X7_lay_0 : dl_X7_lay_0.all (fun q => decide (decode cX7_lay q.1 = .ok (q.2.1, q.2.2))) = true := dq_all 0 (by decide +kernel)
def dl_X7_lay_1 : List (Nat × Instr × Nat) := [(120, .iload 6, 2), (122, .iload_n 1, 1), (123, .invokevirtual 103, 3), (126, .iinc 7 1, 3), (129, .goto (-38), 3), (132, .iinc 6 1, 3), (135, .goto (-54), 3), (138, .aload_n 0, 1), (139, .getfield 12, 3), (142, .iload_n 1, 1), (143, .invokevirtual 120, 3), (146, .ireturn, 1)]
set_option maxRecDepth 20000 in
theorem dk_X7_lay_1 : dl_X7_lay_1.all (fun q => decide (decode cX7_lay q.1 = .ok (q.2.1, q.2.2))) = true := dq_all 120 (by decide +kernel)
def dl_X7_pieceAt_0 : List (Nat × Instr × Nat) := [(0, .iload_n 1, 1), (1, .iload_n 2, 1), (2, .invokestatic 124, 3), (5, .aload_n 0, 1), (6, .getfield 12, 3), (9, .iload_n 1, 1), (10, .iload_n 2, 1), (11, .invokevirtual 99, 3), (14, .ireturn, 1)]
set_option maxRecDepth 20000 in
theorem dk_X7_pieceAt_0 : dl_X7_pieceAt_0.all (fun q => decide (decode cX7_pieceAt q.1 = .ok (q.2.1, q.2.2))) = true := dq_all 0 (by decide +kernel)
def dl_X7_size_0 : List (Nat × Instr × Nat) := [(0, .iload_n 1, 1), (1, .invokestatic 107, 3), (4, .aload_n 0, 1), (5, .getfield 12, 3), (8, .iload_n 1, 1), (9, .invokevirtual 120, 3), (12, .ireturn, 1)]
set_option maxRecDepth 20000 in
theorem dk_X7_size_0 : dl_X7_size_0.all (fun q => decide (decode cX7_size q.1 = .ok (q.2.1, q.2.2))) = true := dq_all 0 (by decide +kernel)
def dl_X7_corners_0 : List (Nat × Instr × Nat) := [(0, .iload_n 1, 1), (1, .invokestatic 107, 3), (4, .aload_n 0, 1), (5, .getfield 12, 3), (8, .iload_n 1, 1), (9, .aload_n 0, 1), (10, .getfield 61, 3), (13, .invokevirtual 128, 3), (16, .aload_n 0, 1), (17, .getfield 61, 3), (20, .invokevirtual 132, 3), (23, .ireturn, 1)]
set_option maxRecDepth 20000 in
theorem dk_X7_corners_0 : dl_X7_corners_0.all (fun q => decide (decode cX7_corners q.1 = .ok (q.2.1, q.2.2))) = true := dq_all 0 (by decide +kernel)
def dl_X7_point_0 : List (Nat × Instr × Nat) := [(0, .iload_n 1, 1), (1, .invokestatic 107, 3), (4, .aload_n 0, 1), (5, .getfield 12, 3), (8, .iload_n 1, 1), (9, .aload_n 0, 1), (10, .getfield 61, 3), (13, .invokevirtual 128, 3), (16, .aload_n 0, 1), (17, .getfield 61, 3), (20, .invokevirtual 136, 3), (23, .ireturn, 1)]
set_option maxRecDepth 20000 in
theorem dk_X7_point_0 : dl_X7_point_0.all (fun q => decide (decode cX7_point q.1 = .ok (q.2.1, q.2.2))) = true := dq_all 0 (by decide +kernel)
def dl_X7_hinders_0 : List (Nat × Instr × Nat) := [(0, .iload_n 1, 1), (1, .invokestatic 107, 3), (4, .aload_n 0, 1), (5, .getfield 12, 3), (8, .iload_n 1, 1), (9, .aload_n 0, 1), (10, .getfield 61, 3), (13, .invokevirtual 128, 3), (16, .aload_n 0, 1), (17, .getfield 61, 3), (20, .invokevirtual 139, 3), (23, .ireturn, 1)]
set_option maxRecDepth 20000 in
theorem dk_X7_hinders_0 : dl_X7_hinders_0.all (fun q => decide (decode cX7_hinders q.1 = .ok (q.2.1, q.2.2))) = true := dq_all 0 (by decide +kernel)
def dl_X7_split_0 : List (Nat × Instr × Nat) := [(0, .iload_n 1, 1), (1, .invokestatic 107, 3), (4, .aload_n 0, 1), (5, .getfield 45, 3), (8, .ifCond .ne 15, 3), (11, .aload_n 0, 1), (12, .getfield 18, 3), (15, .iload_n 1, 1), (16, .aaload, 1), (17, .invokevirtual 111, 3), (20, .ifCond .eq 13, 3), (23, .new 92, 3), (26, .dup, 1), (27, .ldc 94, 2), (29, .invokespecial 96, 3), (32, .athrow, 1), (33, .aload_n 0, 1), (34, .getfield 12, 3), (37, .iload_n 1, 1), (38, .aload_n 0, 1), (39, .getfield 61, 3), (42, .invokevirtual 128, 3), (45, .aload_n 0, 1), (46, .getfield 61, 3), (49, .aload_n 0, 1), (50, .getfield 65, 3), (53, .aload_n 0, 1), (54, .getfield 68, 3), (57, .invokevirtual 143, 3), (60, .istore_n 2, 1), (61, .iload_n 2, 1), (62, .ifCond .ge 13, 3), (65, .new 92, 3), (68, .dup, 1), (69, .ldc 147, 2), (71, .invokespecial 96, 3), (74, .athrow, 1), (75, .aload_n 0, 1), (76, .invokevirtual 149, 3), (79, .istore_n 3, 1), (80, .iload_n 3, 1), (81, .ifCond .ge 13, 3), (84, .new 152, 3), (87, .dup, 1), (88, .ldc 154, 2), (90, .invokespecial 156, 3), (93, .athrow, 1), (94, .aload_n 0, 1), (95, .getfield 61, 3), (98, .iload_n 2, 1), (99, .aload_n 0, 1), (100, .getfield 65, 3), (103, .aload_n 0, 1), (104, .getfield 68, 3), (107, .invokevirtual 157, 3), (110, .aload_n 0, 1), (111, .getfield 12, 3), (114, .aload_n 0, 1), (115, .getfield 68, 3), (118, .iload_n 3, 1)]
set_option maxRecDepth 20000 in
theorem dk_X7_split_0 : dl_X7_split_0.all (fun q => decide (decode cX7_split q.1 = .ok (q.2.1, q.2.2))) = true := dq_all 0 (by decide +kernel)
def dl_X7_split_1 : List (Nat × Instr × Nat) := [(119, .invokevirtual 161, 3), (122, .aload_n 0, 1), (123, .getfield 18, 3), (126, .iload_n 3, 1), (127, .aaload, 1), (128, .aload_n 0, 1), (129, .getfield 18, 3), (132, .iload_n 1, 1), (133, .aaload, 1), (134, .invokevirtual 165, 3), (137, .iload_n 3, 1), (138, .ireturn, 1)]
set_option maxRecDepth 20000 in
theorem dk_X7_split_1 : dl_X7_split_1.all (fun q => decide (decode cX7_split q.1 = .ok (q.2.1, q.2.2))) = true := dq_all 119 (by decide +kernel)
def dl_X7_lead_0 : List (Nat × Instr × Nat) := [(0, .aload_n 0, 1), (1, .getfield 12, 3), (4, .invokevirtual 169, 3), (7, .ireturn, 1)]
set_option maxRecDepth 20000 in
theorem dk_X7_lead_0 : dl_X7_lead_0.all (fun q => decide (decode cX7_lead q.1 = .ok (q.2.1, q.2.2))) = true := dq_all 0 (by decide +kernel)
def dl_X7_joints_0 : List (Nat × Instr × Nat) := [(0, .aload_n 0, 1), (1, .getfield 12, 3), (4, .invokevirtual 172, 3), (7, .ireturn, 1)]
set_option maxRecDepth 20000 in
theorem dk_X7_joints_0 : dl_X7_joints_0.all (fun q => decide (decode cX7_joints q.1 = .ok (q.2.1, q.2.2))) = true := dq_all 0 (by decide +kernel)
def dl_X7_meanCells_0 : List (Nat × Instr × Nat) := [(0, .aload_n 0, 1), (1, .getfield 12, 3), (4, .invokevirtual 309, 3), (7, .invokestatic 279, 3), (10, .istore_n 1, 1), (11, .iload_n 1, 1), (12, .ifCond .ne 14, 3), (15, .new 404, 3), (18, .dup, 1), (19, .ldc_w 407, 3), (22, .invokespecial 406, 3), (25, .athrow, 1), (26, .sipush 144, 3), (29, .aload_n 0, 1), (30, .getfield 12, 3), (33, .bipush (-2), 2), (35, .invokevirtual 120, 3), (38, .isub, 1), (39, .aload_n 0, 1), (40, .getfield 12, 3), (43, .iconst (-1), 1), (44, .invokevirtual 120, 3), (47, .isub, 1), (48, .istore_n 2, 1), (49, .iload_n 2, 1), (50, .i2d, 1), (51, .iload_n 1, 1), (52, .i2d, 1), (53, .ddiv, 1), (54, .dreturn, 1)]
set_option maxRecDepth 20000 in
theorem dk_X7_meanCells_0 : dl_X7_meanCells_0.all (fun q => decide (decode cX7_meanCells q.1 = .ok (q.2.1, q.2.2))) = true := dq_all 0 (by decide +kernel)
def dl_X7_isSound_0 : List (Nat × Instr × Nat) := [(0, .iconst 0, 1), (1, .istore_n 1, 1), (2, .iconst 0, 1), (3, .istore_n 2, 1), (4, .iload_n 2, 1), (5, .aload_n 0, 1), (6, .getfield 35, 3), (9, .if_icmp .ge 21, 3), (12, .iload_n 1, 1), (13, .aload_n 0, 1), (14, .getfield 24, 3), (17, .iload_n 2, 1), (18, .aaload, 1), (19, .invokevirtual 409, 3), (22, .iadd, 1), (23, .istore_n 1, 1), (24, .iinc 2 1, 3), (27, .goto (-23), 3), (30, .iload_n 1, 1), (31, .aload_n 0, 1), (32, .getfield 39, 3), (35, .if_icmp .eq 5, 3), (38, .iconst 0, 1), (39, .ireturn, 1), (40, .aload_n 0, 1), (41, .getfield 12, 3), (44, .aload_n 0, 1), (45, .getfield 71, 3), (48, .invokevirtual 305, 3), (51, .aload_n 0, 1), (52, .bipush 108, 2), (54, .invokevirtual 286, 3), (57, .aload_n 0, 1), (58, .bipush 98, 2), (60, .invokevirtual 286, 3), (63, .ior, 1), (64, .istore_n 2, 1), (65, .iconst 0, 1), (66, .istore_n 3, 1), (67, .iload_n 3, 1), (68, .bipush 30, 2), (70, .if_icmp .ge 71, 3), (73, .aload_n 0, 1), (74, .getfield 18, 3), (77, .iload_n 3, 1), (78, .aaload, 1), (79, .astore 4, 2), (81, .aload 4, 2), (83, .invokevirtual 111, 3), (86, .ifCond .eq 13, 3), (89, .aload_n 0, 1), (90, .iload_n 3, 1), (91, .invokevirtual 412, 3), (94, .ifCond .ne 5, 3), (97, .iconst 0, 1), (98, .ireturn, 1), (99, .aload 4, 2), (101, .getfield 247, 3), (104, .bipush 108, 2), (106, .if_icmp .ne 29, 3)]
set_option maxRecDepth 20000 in
theorem dk_X7_isSound_0 : dl_X7_isSound_0.all (fun q => decide (decode cX7_isSound q.1 = .ok (q.2.1, q.2.2))) = true := dq_all 0 (by decide +kernel)
def dl_X7_isSound_1 : List (Nat × Instr × Nat) := [(109, .aload_n 0, 1), (110, .getfield 71, 3), (113, .iload_n 3, 1), (114, .iaload, 1), (115, .iload_n 2, 1), (116, .iconst (-1), 1), (117, .ixor, 1), (118, .iand, 1), (119, .ifCond .ne 14, 3), (122, .aload 4, 2), (124, .getfield 262, 3), (127, .invokevirtual 296, 3), (130, .ifCond .le 5, 3), (133, .iconst 0, 1), (134, .ireturn, 1), (135, .iinc 3 1, 3), (138, .goto (-71), 3), (141, .iconst 1, 1), (142, .ireturn, 1)]
set_option maxRecDepth 20000 in
theorem dk_X7_isSound_1 : dl_X7_isSound_1.all (fun q => decide (decode cX7_isSound q.1 = .ok (q.2.1, q.2.2))) = true := dq_all 109 (by decide +kernel)
def dl_X7_isWithin_0 : List (Nat × Instr × Nat) := [(0, .iload_n 0, 1), (1, .iload_n 1, 1), (2, .if_icmp .lt 12, 3), (5, .iload_n 0, 1), (6, .iload_n 2, 1), (7, .if_icmp .gt 7, 3), (10, .iconst 1, 1), (11, .goto 4, 3), (14, .iconst 0, 1), (15, .ireturn, 1)]
set_option maxRecDepth 20000 in
theorem dk_X7_isWithin_0 : dl_X7_isWithin_0.all (fun q => decide (decode cX7_isWithin q.1 = .ok (q.2.1, q.2.2))) = true := dq_all 0 (by decide +kernel)
def dl_X7_isInside_0 : List (Nat × Instr × Nat) := [(0, .iload_n 0, 1), (1, .ifCond .lt 23, 3), (4, .iload_n 0, 1), (5, .bipush 12, 2), (7, .if_icmp .ge 17, 3), (10, .iload_n 1, 1), (11, .ifCond .lt 13, 3), (14, .iload_n 1, 1), (15, .bipush 12, 2), (17, .if_icmp .ge 7, 3), (20, .iconst 1, 1), (21, .goto 4, 3), (24, .iconst 0, 1), (25, .ireturn, 1)]
set_option maxRecDepth 20000 in
theorem dk_X7_isInside_0 : dl_X7_isInside_0.all (fun q => decide (decode cX7_isInside q.1 = .ok (q.2.1, q.2.2))) = true := dq_all 0 (by decide +kernel)
def dl_X7_isPiece_0 : List (Nat × Instr × Nat) := [(0, .iload_n 0, 1), (1, .iconst 0, 1), (2, .bipush 29, 2), (4, .invokestatic 179, 3), (7, .ireturn, 1)]
set_option maxRecDepth 20000 in
theorem dk_X7_isPiece_0 : dl_X7_isPiece_0.all (fun q => decide (decode cX7_isPiece q.1 = .ok (q.2.1, q.2.2))) = true := dq_all 0 (by decide +kernel)
def dl_X7_requirePiece_0 : List (Nat × Instr × Nat) := [(0, .iload_n 0, 1), (1, .invokestatic 367, 3), (4, .ifCond .ne 14, 3), (7, .new 415, 3), (10, .dup, 1), (11, .ldc_w 417, 3), (14, .invokespecial 419, 3), (17, .athrow, 1), (18, .return_, 1)]
set_option maxRecDepth 20000 in
theorem dk_X7_requirePiece_0 : dl_X7_requirePiece_0.all (fun q => decide (decode cX7_requirePiece q.1 = .ok (q.2.1, q.2.2))) = true := dq_all 0 (by decide +kernel)
def dl_X7_requireCell_0 : List (Nat × Instr × Nat) := [(0, .iload_n 0, 1), (1, .iload_n 1, 1), (2, .invokestatic 420, 3), (5, .ifCond .ne 14, 3), (8, .new 187, 3), (11, .dup, 1), (12, .ldc_w 424, 3), (15, .invokespecial 191, 3), (18, .athrow, 1), (19, .return_, 1)]
set_option maxRecDepth 20000 in
theorem dk_X7_requireCell_0 : dl_X7_requireCell_0.all (fun q => decide (decode cX7_requireCell q.1 = .ok (q.2.1, q.2.2))) = true := dq_all 0 (by decide +kernel)
def dl_X7_requireCells_0 : List (Nat × Instr × Nat) := [(0, .iload_n 0, 1), (1, .iload_n 1, 1), (2, .invokestatic 420, 3), (5, .ifCond .eq 21, 3), (8, .iload_n 2, 1), (9, .iload_n 3, 1), (10, .invokestatic 420, 3), (13, .ifCond .eq 13, 3), (16, .iload_n 2, 1), (17, .iload_n 0, 1), (18, .if_icmp .lt 8, 3), (21, .iload_n 3, 1), (22, .iload_n 1, 1), (23, .if_icmp .ge 14, 3), (26, .new 187, 3), (29, .dup, 1), (30, .ldc_w 426, 3), (33, .invokespecial 191, 3), (36, .athrow, 1), (37, .return_, 1)]
set_option maxRecDepth 20000 in
theorem dk_X7_requireCells_0 : dl_X7_requireCells_0.all (fun q => decide (decode cX7_requireCells q.1 = .ok (q.2.1, q.2.2))) = true := dq_all 0 (by decide +kernel)
def dl_X7_panesThatAre_0 : List (Nat × Instr × Nat) := [(0, .iconst 0, 1), (1, .istore_n 2, 1), (2, .iconst 0, 1), (3, .istore_n 3, 1), (4, .iload_n 3, 1), (5, .bipush 30, 2), (7, .if_icmp .ge 32, 3), (10, .iload_n 2, 1), (11, .aload_n 0, 1), (12, .getfield 18, 3), (15, .iload_n 3, 1), (16, .aaload, 1), (17, .getfield 247, 3), (20, .iload_n 1, 1), (21, .if_icmp .ne 9, 3), (24, .iconst 1, 1), (25, .iload_n 3, 1), (26, .ishl, 1), (27, .goto 4, 3), (30, .iconst 0, 1), (31, .ior, 1), (32, .istore_n 2, 1), (33, .iinc 3 1, 3), (36, .goto (-32), 3), (39, .iload_n 2, 1), (40, .ireturn, 1)]
set_option maxRecDepth 20000 in
theorem dk_X7_panesThatAre_0 : dl_X7_panesThatAre_0.all (fun q => decide (decode cX7_panesThatAre q.1 = .ok (q.2.1, q.2.2))) = true := dq_all 0 (by decide +kernel)
def dl_X7_lowestWithoutCells_0 : List (Nat × Instr × Nat) := [(0, .aload_n 0, 1), (1, .getfield 12, 3), (4, .invokevirtual 309, 3), (7, .istore_n 1, 1), (8, .iconst 0, 1), (9, .istore_n 2, 1), (10, .iload_n 2, 1), (11, .bipush 30, 2), (13, .if_icmp .ge 19, 3), (16, .iload_n 1, 1), (17, .iload_n 2, 1), (18, .ishr, 1), (19, .iconst 1, 1), (20, .iand, 1), (21, .ifCond .ne 5, 3), (24, .iload_n 2, 1), (25, .ireturn, 1), (26, .iinc 2 1, 3), (29, .goto (-19), 3), (32, .iconst (-1), 1), (33, .ireturn, 1)]
set_option maxRecDepth 20000 in
theorem dk_X7_lowestWithoutCells_0 : dl_X7_lowestWithoutCells_0.all (fun q => decide (decode cX7_lowestWithoutCells q.1 = .ok (q.2.1, q.2.2))) = true := dq_all 0 (by decide +kernel)
def dl_X7_isGlassWithin_0 : List (Nat × Instr × Nat) := [(0, .iload_n 2, 1), (1, .istore 5, 2), (3, .iload 5, 2), (5, .iload 4, 2), (7, .if_icmp .gt 60, 3), (10, .iload_n 1, 1), (11, .istore 6, 2), (13, .iload 6, 2), (15, .iload_n 3, 1), (16, .if_icmp .gt 45, 3), (19, .aload_n 0, 1), (20, .getfield 12, 3), (23, .iload 6, 2), (25, .iload 5, 2), (27, .invokevirtual 99, 3), (30, .istore 7, 2), (32, .iload 7, 2), (34, .invokestatic 367, 3), (37, .ifCond .eq 18, 3), (40, .aload_n 0, 1), (41, .getfield 18, 3), (44, .iload 7, 2), (46, .aaload, 1), (47, .invokevirtual 111, 3), (50, .ifCond .eq 5, 3), (53, .iconst 1, 1), (54, .ireturn, 1), (55, .iinc 6 1, 3), (58, .goto (-45), 3), (61, .iinc 5 1, 3), (64, .goto (-61), 3), (67, .iconst 0, 1), (68, .ireturn, 1)]
set_option maxRecDepth 20000 in
theorem dk_X7_isGlassWithin_0 : dl_X7_isGlassWithin_0.all (fun q => decide (decode cX7_isGlassWithin q.1 = .ok (q.2.1, q.2.2))) = true := dq_all 0 (by decide +kernel)
def dl_X7_isOpenWithin_0 : List (Nat × Instr × Nat) := [(0, .iload_n 2, 1), (1, .istore 5, 2), (3, .iload 5, 2), (5, .iload 4, 2), (7, .if_icmp .gt 42, 3), (10, .iload_n 1, 1), (11, .istore 6, 2), (13, .iload 6, 2), (15, .iload_n 3, 1), (16, .if_icmp .gt 27, 3), (19, .aload_n 0, 1), (20, .getfield 12, 3), (23, .iload 6, 2), (25, .iload 5, 2), (27, .invokevirtual 99, 3), (30, .bipush (-2), 2), (32, .if_icmp .eq 5, 3), (35, .iconst 1, 1), (36, .ireturn, 1), (37, .iinc 6 1, 3), (40, .goto (-27), 3), (43, .iinc 5 1, 3), (46, .goto (-43), 3), (49, .iconst 0, 1), (50, .ireturn, 1)]
set_option maxRecDepth 20000 in
theorem dk_X7_isOpenWithin_0 : dl_X7_isOpenWithin_0.all (fun q => decide (decode cX7_isOpenWithin q.1 = .ok (q.2.1, q.2.2))) = true := dq_all 0 (by decide +kernel)
def dl_X7_isCuttable_0 : List (Nat × Instr × Nat) := [(0, .aload_n 0, 1), (1, .getfield 12, 3), (4, .iload_n 1, 1), (5, .aload_n 0, 1), (6, .getfield 61, 3), (9, .invokevirtual 128, 3), (12, .aload_n 0, 1), (13, .getfield 61, 3), (16, .invokevirtual 438, 3), (19, .ifCond .eq 18, 3), (22, .aload_n 0, 1), (23, .getfield 61, 3), (26, .invokevirtual 132, 3), (29, .iconst 2, 1), (30, .if_icmp .gt 7, 3), (33, .iconst 1, 1), (34, .goto 4, 3), (37, .iconst 0, 1), (38, .ireturn, 1)]
set_option maxRecDepth 20000 in
theorem dk_X7_isCuttable_0 : dl_X7_isCuttable_0.all (fun q => decide (decode cX7_isCuttable q.1 = .ok (q.2.1, q.2.2))) = true := dq_all 0 (by decide +kernel)
def dl_J6_bitCount_0f7a4_0 : List (Nat × Instr × Nat) := [(0, .iload_n 0, 1), (1, .iload_n 0, 1), (2, .iconst 1, 1), (3, .iushr, 1), (4, .ldc_w 265, 3), (7, .iand, 1), (8, .isub, 1), (9, .istore_n 0, 1), (10, .iload_n 0, 1), (11, .ldc_w 266, 3), (14, .iand, 1), (15, .iload_n 0, 1), (16, .iconst 2, 1), (17, .iushr, 1), (18, .ldc_w 266, 3), (21, .iand, 1), (22, .iadd, 1), (23, .istore_n 0, 1), (24, .iload_n 0, 1), (25, .iload_n 0, 1), (26, .iconst 4, 1), (27, .iushr, 1), (28, .iadd, 1), (29, .ldc_w 267, 3), (32, .iand, 1), (33, .istore_n 0, 1), (34, .iload_n 0, 1), (35, .iload_n 0, 1), (36, .bipush 8, 2), (38, .iushr, 1), (39, .iadd, 1), (40, .istore_n 0, 1), (41, .iload_n 0, 1), (42, .iload_n 0, 1), (43, .bipush 16, 2), (45, .iushr, 1), (46, .iadd, 1), (47, .istore_n 0, 1), (48, .iload_n 0, 1), (49, .bipush 63, 2), (51, .iand, 1), (52, .ireturn, 1)]
set_option maxRecDepth 20000 in
theorem dk_J6_bitCount_0f7a4_0 : dl_J6_bitCount_0f7a4_0.all (fun q => decide (decode cJ6_bitCount_0f7a4 q.1 = .ok (q.2.1, q.2.2))) = true := dq_all 0 (by decide +kernel)
def dl_J9_max_7cf53_0 : List (Nat × Instr × Nat) := [(0, .iload_n 0, 1), (1, .iload_n 1, 1), (2, .if_icmp .lt 7, 3), (5, .iload_n 0, 1), (6, .goto 4, 3), (9, .iload_n 1, 1), (10, .ireturn, 1)]
set_option maxRecDepth 20000 in
theorem dk_J9_max_7cf53_0 : dl_J9_max_7cf53_0.all (fun q => decide (decode cJ9_max_7cf53 q.1 = .ok (q.2.1, q.2.2))) = true := dq_all 0 (by decide +kernel)
def dl_L_cell_0 : List (Nat × Instr × Nat) := [(0, .ldc 7, 2), (2, .iload_n 1, 1), (3, .aload_n 0, 1), (4, .arraylength, 1), (5, .if_icmp .ge 9, 3), (8, .aload_n 0, 1), (9, .iload_n 1, 1), (10, .iaload, 1), (11, .goto 4, 3), (14, .iconst 0, 1), (15, .sipush 1009, 3), (18, .iload_n 1, 1), (19, .imul, 1), (20, .iadd, 1), (21, .imul, 1), (22, .sipush 12345, 3), (25, .iadd, 1), (26, .istore_n 2, 1), (27, .iload_n 2, 1), (28, .iload_n 2, 1), (29, .bipush 13, 2), (31, .iushr, 1), (32, .ixor, 1), (33, .ldc 8, 2), (35, .imul, 1), (36, .istore_n 2, 1), (37, .iload_n 2, 1), (38, .iload_n 2, 1), (39, .bipush 16, 2), (41, .iushr, 1), (42, .ixor, 1), (43, .ireturn, 1)]
set_option maxRecDepth 20000 in
theorem dk_L_cell_0 : dl_L_cell_0.all (fun q => decide (decode cL_cell q.1 = .ok (q.2.1, q.2.2))) = true := dq_all 0 (by decide +kernel)
def dl_L_open_0 : List (Nat × Instr × Nat) := [(0, .aload_n 0, 1), (1, .iload_n 1, 1), (2, .iload_n 2, 1), (3, .iload_n 3, 1), (4, .iload 4, 2), (6, .iload 5, 2), (8, .invokevirtual 9, 3), (11, .ireturn, 1), (12, .astore 6, 2), (14, .ldc 17, 2), (16, .ireturn, 1), (17, .astore 6, 2), (19, .ldc 20, 2), (21, .ireturn, 1)]
set_option maxRecDepth 20000 in
theorem dk_L_open_0 : dl_L_open_0.all (fun q => decide (decode cL_open q.1 = .ok (q.2.1, q.2.2))) = true := dq_all 0 (by decide +kernel)
def dl_L_lay_0 : List (Nat × Instr × Nat) := [(0, .aload_n 0, 1), (1, .iload_n 1, 1), (2, .iload_n 2, 1), (3, .iload_n 3, 1), (4, .iload 4, 2), (6, .iload 5, 2), (8, .invokevirtual 21, 3), (11, .ireturn, 1), (12, .astore 6, 2), (14, .ldc 17, 2), (16, .ireturn, 1), (17, .astore 6, 2), (19, .ldc 20, 2), (21, .ireturn, 1), (22, .astore 6, 2), (24, .ldc 27, 2), (26, .ireturn, 1)]
set_option maxRecDepth 20000 in
theorem dk_L_lay_0 : dl_L_lay_0.all (fun q => decide (decode cL_lay q.1 = .ok (q.2.1, q.2.2))) = true := dq_all 0 (by decide +kernel)
def dl_L_pieceAt_0 : List (Nat × Instr × Nat) := [(0, .aload_n 0, 1), (1, .iload_n 1, 1), (2, .iload_n 2, 1), (3, .invokevirtual 28, 3), (6, .ireturn, 1), (7, .astore_n 3, 1), (8, .ldc 17, 2), (10, .ireturn, 1)]
set_option maxRecDepth 20000 in
theorem dk_L_pieceAt_0 : dl_L_pieceAt_0.all (fun q => decide (decode cL_pieceAt q.1 = .ok (q.2.1, q.2.2))) = true := dq_all 0 (by decide +kernel)
def dl_L_size_0 : List (Nat × Instr × Nat) := [(0, .aload_n 0, 1), (1, .iload_n 1, 1), (2, .invokevirtual 32, 3), (5, .ireturn, 1), (6, .astore_n 2, 1), (7, .ldc 17, 2), (9, .ireturn, 1)]
set_option maxRecDepth 20000 in
theorem dk_L_size_0 : dl_L_size_0.all (fun q => decide (decode cL_size q.1 = .ok (q.2.1, q.2.2))) = true := dq_all 0 (by decide +kernel)
def dl_L_corners_0 : List (Nat × Instr × Nat) := [(0, .aload_n 0, 1), (1, .iload_n 1, 1), (2, .invokevirtual 36, 3), (5, .ireturn, 1), (6, .astore_n 2, 1), (7, .ldc 17, 2), (9, .ireturn, 1)]
set_option maxRecDepth 20000 in
theorem dk_L_corners_0 : dl_L_corners_0.all (fun q => decide (decode cL_corners q.1 = .ok (q.2.1, q.2.2))) = true := dq_all 0 (by decide +kernel)
def dl_L_point_0 : List (Nat × Instr × Nat) := [(0, .aload_n 0, 1), (1, .iload_n 1, 1), (2, .invokevirtual 39, 3), (5, .ireturn, 1), (6, .astore_n 2, 1), (7, .ldc 17, 2), (9, .ireturn, 1)]
set_option maxRecDepth 20000 in
theorem dk_L_point_0 : dl_L_point_0.all (fun q => decide (decode cL_point q.1 = .ok (q.2.1, q.2.2))) = true := dq_all 0 (by decide +kernel)
def dl_L_hinders_0 : List (Nat × Instr × Nat) := [(0, .aload_n 0, 1), (1, .iload_n 1, 1), (2, .invokevirtual 42, 3), (5, .ireturn, 1), (6, .astore_n 2, 1), (7, .ldc 17, 2), (9, .ireturn, 1)]
set_option maxRecDepth 20000 in
theorem dk_L_hinders_0 : dl_L_hinders_0.all (fun q => decide (decode cL_hinders q.1 = .ok (q.2.1, q.2.2))) = true := dq_all 0 (by decide +kernel)
def dl_L_split_0 : List (Nat × Instr × Nat) := [(0, .aload_n 0, 1), (1, .iload_n 1, 1), (2, .invokevirtual 46, 3), (5, .ireturn, 1), (6, .astore_n 2, 1), (7, .ldc 17, 2), (9, .ireturn, 1), (10, .astore_n 2, 1), (11, .ldc 20, 2), (13, .ireturn, 1), (14, .astore_n 2, 1), (15, .ldc 27, 2), (17, .ireturn, 1)]
set_option maxRecDepth 20000 in
theorem dk_L_split_0 : dl_L_split_0.all (fun q => decide (decode cL_split q.1 = .ok (q.2.1, q.2.2))) = true := dq_all 0 (by decide +kernel)
def dl_L_in_0 : List (Nat × Instr × Nat) := [(0, .aload_n 0, 1), (1, .iload_n 1, 1), (2, .invokestatic 51, 3), (5, .ldc 57, 2), (7, .iand, 1), (8, .iload_n 2, 1), (9, .irem, 1), (10, .ireturn, 1)]
set_option maxRecDepth 20000 in
theorem dk_L_in_0 : dl_L_in_0.all (fun q => decide (decode cL_in q.1 = .ok (q.2.1, q.2.2))) = true := dq_all 0 (by decide +kernel)
def dl_L_at_0 : List (Nat × Instr × Nat) := [(0, .iload_n 1, 1), (1, .ifCond .lt 19, 3), (4, .iload_n 1, 1), (5, .bipush 11, 2), (7, .if_icmp .gt 13, 3), (10, .iload_n 2, 1), (11, .ifCond .lt 9, 3), (14, .iload_n 2, 1), (15, .bipush 11, 2), (17, .if_icmp .le 8, 3), (20, .bipush (-2), 2), (22, .goto 8, 3), (25, .aload_n 0, 1), (26, .iload_n 2, 1), (27, .aaload, 1), (28, .iload_n 1, 1), (29, .iaload, 1), (30, .ireturn, 1)]
set_option maxRecDepth 20000 in
theorem dk_L_at_0 : dl_L_at_0.all (fun q => decide (decode cL_at q.1 = .ok (q.2.1, q.2.2))) = true := dq_all 0 (by decide +kernel)
def dl_L_law_0 : List (Nat × Instr × Nat) := [(0, .new 10, 3), (3, .dup, 1), (4, .invokespecial 58, 3), (7, .astore_n 1, 1), (8, .bipush 12, 2), (10, .bipush 12, 2), (12, .multianewarray 59 2, 4), (16, .astore_n 2, 1), (17, .iconst 0, 1), (18, .istore_n 3, 1), (19, .iload_n 3, 1), (20, .bipush 12, 2), (22, .if_icmp .ge 33, 3), (25, .iconst 0, 1), (26, .istore 4, 2), (28, .iload 4, 2), (30, .bipush 12, 2), (32, .if_icmp .ge 17, 3), (35, .aload_n 2, 1), (36, .iload_n 3, 1), (37, .aaload, 1), (38, .iload 4, 2), (40, .bipush (-2), 2), (42, .iastore, 1), (43, .iinc 4 1, 3), (46, .goto (-18), 3), (49, .iinc 3 1, 3), (52, .goto (-33), 3), (55, .aload_n 1, 1), (56, .iconst 0, 1), (57, .iconst 0, 1), (58, .bipush 12, 2), (60, .iconst 1, 1), (61, .iconst 1, 1), (62, .invokestatic 61, 3), (65, .ldc 17, 2), (67, .if_icmp .ne 72, 3), (70, .aload_n 1, 1), (71, .iconst 3, 1), (72, .iconst 0, 1), (73, .iconst 2, 1), (74, .iconst 0, 1), (75, .iconst 1, 1), (76, .invokestatic 61, 3), (79, .ldc 17, 2), (81, .if_icmp .ne 58, 3), (84, .aload_n 1, 1), (85, .bipush 30, 2), (87, .iconst 0, 1), (88, .iconst 0, 1), (89, .iconst 1, 1), (90, .iconst 1, 1), (91, .invokestatic 64, 3), (94, .ldc 17, 2), (96, .if_icmp .ne 43, 3), (99, .aload_n 1, 1), (100, .iconst 0, 1), (101, .iconst 0, 1), (102, .iconst 0, 1), (103, .iconst 1, 1)]
set_option maxRecDepth 20000 in
theorem dk_L_law_0 : dl_L_law_0.all (fun q => decide (decode cL_law q.1 = .ok (q.2.1, q.2.2))) = true := by decide +kernel
def dl_L_law_1 : List (Nat × Instr × Nat) := [(104, .iconst 1, 1), (105, .invokestatic 64, 3), (108, .ldc 27, 2), (110, .if_icmp .ne 29, 3), (113, .aload_n 1, 1), (114, .bipush 12, 2), (116, .iconst 0, 1), (117, .invokestatic 67, 3), (120, .ldc 17, 2), (122, .if_icmp .ne 17, 3), (125, .aload_n 1, 1), (126, .iconst (-1), 1), (127, .invokestatic 70, 3), (130, .ldc 17, 2), (132, .if_icmp .ne 7, 3), (135, .iconst 1, 1), (136, .goto 4, 3), (139, .iconst 0, 1), (140, .istore_n 3, 1), (141, .iconst 0, 1), (142, .istore 4, 2), (144, .iload 4, 2), (146, .bipush 9, 2), (148, .if_icmp .ge 1181, 3), (151, .aload_n 0, 1), (152, .bipush 10, 2), (154, .iload 4, 2), (156, .imul, 1), (157, .bipush 12, 2), (159, .invokestatic 73, 3), (162, .istore 5, 2), (164, .aload_n 0, 1), (165, .bipush 10, 2), (167, .iload 4, 2), (169, .imul, 1), (170, .iconst 1, 1), (171, .iadd, 1), (172, .bipush 12, 2), (174, .invokestatic 73, 3), (177, .istore 6, 2), (179, .iload 5, 2), (181, .aload_n 0, 1), (182, .bipush 10, 2), (184, .iload 4, 2), (186, .imul, 1), (187, .iconst 2, 1), (188, .iadd, 1), (189, .bipush 12, 2), (191, .iload 5, 2), (193, .isub, 1), (194, .invokestatic 73, 3), (197, .iadd, 1), (198, .istore 7, 2), (200, .iload 6, 2), (202, .aload_n 0, 1), (203, .bipush 10, 2), (205, .iload 4, 2), (207, .imul, 1), (208, .iconst 3, 1), (209, .iadd, 1)]
set_option maxRecDepth 20000 in
theorem dk_L_law_1 : dl_L_law_1.all (fun q => decide (decode cL_law q.1 = .ok (q.2.1, q.2.2))) = true := dq_all 104 (by decide +kernel)
def dl_L_law_2 : List (Nat × Instr × Nat) := [(210, .bipush 12, 2), (212, .iload 6, 2), (214, .isub, 1), (215, .invokestatic 73, 3), (218, .iadd, 1), (219, .istore 8, 2), (221, .iload 4, 2), (223, .ifCond .ne 7, 3), (226, .iconst 0, 1), (227, .goto 15, 3), (230, .aload_n 0, 1), (231, .bipush 10, 2), (233, .iload 4, 2), (235, .imul, 1), (236, .iconst 4, 1), (237, .iadd, 1), (238, .iconst 5, 1), (239, .invokestatic 73, 3), (242, .istore 9, 2), (244, .aload_n 0, 1), (245, .bipush 10, 2), (247, .iload 4, 2), (249, .imul, 1), (250, .iconst 5, 1), (251, .iadd, 1), (252, .iconst 4, 1), (253, .invokestatic 73, 3), (256, .istore 10, 2), (258, .iconst 0, 1), (259, .istore 11, 2), (261, .iconst 0, 1), (262, .istore 12, 2), (264, .iload 6, 2), (266, .istore 13, 2), (268, .iload 13, 2), (270, .iload 8, 2), (272, .if_icmp .gt 147, 3), (275, .iload 5, 2), (277, .istore 14, 2), (279, .iload 14, 2), (281, .iload 7, 2), (283, .if_icmp .gt 130, 3), (286, .aload_n 2, 1), (287, .iload 13, 2), (289, .aaload, 1), (290, .iload 14, 2), (292, .iaload, 1), (293, .bipush (-2), 2), (295, .if_icmp .eq 7, 3), (298, .iconst 1, 1), (299, .goto 4, 3), (302, .iconst 0, 1), (303, .istore 15, 2), (305, .iload 12, 2), (307, .iload 15, 2), (309, .ifCond .eq 7, 3), (312, .iconst 1, 1), (313, .goto 4, 3), (316, .iconst 0, 1), (317, .iadd, 1)]
set_option maxRecDepth 20000 in
theorem dk_L_law_2 : dl_L_law_2.all (fun q => decide (decode cL_law q.1 = .ok (q.2.1, q.2.2))) = true := dq_all 210 (by decide +kernel)
def dl_L_law_3 : List (Nat × Instr × Nat) := [(318, .istore 12, 2), (320, .iload 9, 2), (322, .iconst 2, 1), (323, .if_icmp .ge 65, 3), (326, .iload 11, 2), (328, .iload 15, 2), (330, .iload 9, 2), (332, .ifCond .ne 7, 3), (335, .iconst 1, 1), (336, .goto 4, 3), (339, .iconst 0, 1), (340, .if_icmp .ne 7, 3), (343, .iconst 0, 1), (344, .goto 4, 3), (347, .iconst 1, 1), (348, .iadd, 1), (349, .istore 11, 2), (351, .aload_n 2, 1), (352, .iload 13, 2), (354, .aaload, 1), (355, .iload 14, 2), (357, .iload 9, 2), (359, .iconst 1, 1), (360, .if_icmp .ne 8, 3), (363, .bipush (-2), 2), (365, .goto 19, 3), (368, .iload 15, 2), (370, .ifCond .eq 13, 3), (373, .aload_n 2, 1), (374, .iload 13, 2), (376, .aaload, 1), (377, .iload 14, 2), (379, .iaload, 1), (380, .goto 4, 3), (383, .iconst (-1), 1), (384, .iastore, 1), (385, .goto 22, 3), (388, .aload_n 2, 1), (389, .iload 13, 2), (391, .aaload, 1), (392, .iload 14, 2), (394, .iload 15, 2), (396, .ifCond .eq 8, 3), (399, .iload 10, 2), (401, .goto 5, 3), (404, .bipush (-2), 2), (406, .iastore, 1), (407, .iinc 14 1, 3), (410, .goto (-131), 3), (413, .iinc 13 1, 3), (416, .goto (-148), 3), (419, .iload 9, 2), (421, .iconst 2, 1), (422, .if_icmp .ge 41, 3), (425, .iload_n 3, 1), (426, .aload_n 1, 1), (427, .iload 5, 2), (429, .iload 6, 2), (431, .iload 7, 2), (433, .iload 8, 2)]
set_option maxRecDepth 20000 in
theorem dk_L_law_3 : dl_L_law_3.all (fun q => decide (decode cL_law q.1 = .ok (q.2.1, q.2.2))) = true := dq_all 318 (by decide +kernel)
def dl_L_law_4 : List (Nat × Instr × Nat) := [(435, .iload 9, 2), (437, .ifCond .ne 7, 3), (440, .iconst 1, 1), (441, .goto 4, 3), (444, .iconst 0, 1), (445, .invokestatic 61, 3), (448, .iload 11, 2), (450, .if_icmp .ne 7, 3), (453, .iconst 1, 1), (454, .goto 4, 3), (457, .iconst 0, 1), (458, .iand, 1), (459, .istore_n 3, 1), (460, .goto 88, 3), (463, .iconst 0, 1), (464, .istore 13, 2), (466, .iconst 0, 1), (467, .istore 14, 2), (469, .iload 14, 2), (471, .sipush 144, 3), (474, .if_icmp .ge 37, 3), (477, .iload 13, 2), (479, .aload_n 2, 1), (480, .iload 14, 2), (482, .bipush 12, 2), (484, .idiv, 1), (485, .aaload, 1), (486, .iload 14, 2), (488, .bipush 12, 2), (490, .irem, 1), (491, .iaload, 1), (492, .iload 10, 2), (494, .if_icmp .ne 7, 3), (497, .iconst 1, 1), (498, .goto 4, 3), (501, .iconst 0, 1), (502, .iadd, 1), (503, .istore 13, 2), (505, .iinc 14 1, 3), (508, .goto (-39), 3), (511, .iload_n 3, 1), (512, .aload_n 1, 1), (513, .iload 10, 2), (515, .iload 5, 2), (517, .iload 6, 2), (519, .iload 7, 2), (521, .iload 8, 2), (523, .invokestatic 64, 3), (526, .iload 12, 2), (528, .ifCond .ne 8, 3), (531, .ldc 27, 2), (533, .goto 5, 3), (536, .iload 13, 2), (538, .if_icmp .ne 7, 3), (541, .iconst 1, 1), (542, .goto 4, 3), (545, .iconst 0, 1), (546, .iand, 1), (547, .istore_n 3, 1), (548, .iconst 0, 1)]
set_option maxRecDepth 20000 in
theorem dk_L_law_4 : dl_L_law_4.all (fun q => decide (decode cL_law q.1 = .ok (q.2.1, q.2.2))) = true := dq_all 435 (by decide +kernel)
def dl_L_law_5 : List (Nat × Instr × Nat) := [(549, .istore 13, 2), (551, .iconst 0, 1), (552, .istore 14, 2), (554, .iconst 0, 1), (555, .istore 15, 2), (557, .iload 15, 2), (559, .bipush 12, 2), (561, .if_icmp .gt 295, 3), (564, .iconst 0, 1), (565, .istore 16, 2), (567, .iload 16, 2), (569, .bipush 12, 2), (571, .if_icmp .gt 279, 3), (574, .aload_n 2, 1), (575, .iload 16, 2), (577, .iconst 1, 1), (578, .isub, 1), (579, .iload 15, 2), (581, .iconst 1, 1), (582, .isub, 1), (583, .invokestatic 77, 3), (586, .istore 17, 2), (588, .aload_n 2, 1), (589, .iload 16, 2), (591, .iload 15, 2), (593, .iconst 1, 1), (594, .isub, 1), (595, .invokestatic 77, 3), (598, .istore 18, 2), (600, .aload_n 2, 1), (601, .iload 16, 2), (603, .iconst 1, 1), (604, .isub, 1), (605, .iload 15, 2), (607, .invokestatic 77, 3), (610, .istore 19, 2), (612, .aload_n 2, 1), (613, .iload 16, 2), (615, .iload 15, 2), (617, .invokestatic 77, 3), (620, .istore 20, 2), (622, .iload 17, 2), (624, .iload 18, 2), (626, .if_icmp .eq 17, 3), (629, .iload 17, 2), (631, .ifCond .ge 8, 3), (634, .iload 18, 2), (636, .ifCond .lt 7, 3), (639, .iconst 1, 1), (640, .goto 4, 3), (643, .iconst 0, 1), (644, .istore 21, 2), (646, .iload 19, 2), (648, .iload 20, 2), (650, .if_icmp .eq 17, 3), (653, .iload 19, 2), (655, .ifCond .ge 8, 3), (658, .iload 20, 2), (660, .ifCond .lt 7, 3), (663, .iconst 1, 1)]
set_option maxRecDepth 20000 in
theorem dk_L_law_5 : dl_L_law_5.all (fun q => decide (decode cL_law q.1 = .ok (q.2.1, q.2.2))) = true := dq_all 549 (by decide +kernel)
def dl_L_law_6 : List (Nat × Instr × Nat) := [(664, .goto 4, 3), (667, .iconst 0, 1), (668, .istore 22, 2), (670, .iload 17, 2), (672, .iload 19, 2), (674, .if_icmp .eq 17, 3), (677, .iload 17, 2), (679, .ifCond .ge 8, 3), (682, .iload 19, 2), (684, .ifCond .lt 7, 3), (687, .iconst 1, 1), (688, .goto 4, 3), (691, .iconst 0, 1), (692, .istore 23, 2), (694, .iload 18, 2), (696, .iload 20, 2), (698, .if_icmp .eq 17, 3), (701, .iload 18, 2), (703, .ifCond .ge 8, 3), (706, .iload 20, 2), (708, .ifCond .lt 7, 3), (711, .iconst 1, 1), (712, .goto 4, 3), (715, .iconst 0, 1), (716, .istore 24, 2), (718, .iload 13, 2), (720, .iload 22, 2), (722, .ifCond .eq 7, 3), (725, .iconst 1, 1), (726, .goto 4, 3), (729, .iconst 0, 1), (730, .iadd, 1), (731, .istore 13, 2), (733, .iload 13, 2), (735, .iload 24, 2), (737, .ifCond .eq 7, 3), (740, .iconst 1, 1), (741, .goto 4, 3), (744, .iconst 0, 1), (745, .iadd, 1), (746, .istore 13, 2), (748, .iload 21, 2), (750, .ifCond .eq 7, 3), (753, .iconst 1, 1), (754, .goto 4, 3), (757, .iconst 0, 1), (758, .iload 22, 2), (760, .ifCond .eq 7, 3), (763, .iconst 1, 1), (764, .goto 4, 3), (767, .iconst 0, 1), (768, .iadd, 1), (769, .iload 23, 2), (771, .ifCond .eq 7, 3), (774, .iconst 1, 1), (775, .goto 4, 3), (778, .iconst 0, 1), (779, .iadd, 1), (780, .iload 24, 2), (782, .ifCond .eq 7, 3)]
set_option maxRecDepth 20000 in
theorem dk_L_law_6 : dl_L_law_6.all (fun q => decide (decode cL_law q.1 = .ok (q.2.1, q.2.2))) = true := dq_all 664 (by decide +kernel)
def dl_L_law_7 : List (Nat × Instr × Nat) := [(785, .iconst 1, 1), (786, .goto 4, 3), (789, .iconst 0, 1), (790, .iadd, 1), (791, .istore 25, 2), (793, .iload 14, 2), (795, .iload 25, 2), (797, .iconst 3, 1), (798, .if_icmp .lt 7, 3), (801, .iconst 1, 1), (802, .goto 4, 3), (805, .iconst 0, 1), (806, .iadd, 1), (807, .istore 14, 2), (809, .iload_n 3, 1), (810, .iload 16, 2), (812, .bipush 11, 2), (814, .if_icmp .gt 23, 3), (817, .iload 15, 2), (819, .bipush 11, 2), (821, .if_icmp .gt 16, 3), (824, .aload_n 1, 1), (825, .iload 16, 2), (827, .iload 15, 2), (829, .invokestatic 67, 3), (832, .iload 20, 2), (834, .if_icmp .ne 7, 3), (837, .iconst 1, 1), (838, .goto 4, 3), (841, .iconst 0, 1), (842, .iand, 1), (843, .istore_n 3, 1), (844, .iinc 16 1, 3), (847, .goto (-280), 3), (850, .iinc 15 1, 3), (853, .goto (-296), 3), (856, .iload_n 3, 1), (857, .aload_n 1, 1), (858, .invokevirtual 81, 3), (861, .iload 13, 2), (863, .if_icmp .ne 16, 3), (866, .aload_n 1, 1), (867, .invokevirtual 85, 3), (870, .iload 14, 2), (872, .if_icmp .ne 7, 3), (875, .iconst 1, 1), (876, .goto 4, 3), (879, .iconst 0, 1), (880, .iand, 1), (881, .istore_n 3, 1), (882, .iconst 0, 1), (883, .istore 15, 2), (885, .iload 15, 2), (887, .iconst 4, 1), (888, .if_icmp .ge 435, 3), (891, .iconst 0, 1), (892, .istore 16, 2), (894, .iconst 0, 1), (895, .istore 17, 2), (897, .iconst 0, 1)]
set_option maxRecDepth 20000 in
theorem dk_L_law_7 : dl_L_law_7.all (fun q => decide (decode cL_law q.1 = .ok (q.2.1, q.2.2))) = true := dq_all 785 (by decide +kernel)
def dl_L_law_8 : List (Nat × Instr × Nat) := [(898, .istore 18, 2), (900, .iconst 0, 1), (901, .istore 19, 2), (903, .iload 19, 2), (905, .bipush 12, 2), (907, .if_icmp .gt 293, 3), (910, .iconst 0, 1), (911, .istore 20, 2), (913, .iconst 0, 1), (914, .istore 21, 2), (916, .iconst 0, 1), (917, .istore 22, 2), (919, .iload 22, 2), (921, .bipush 12, 2), (923, .if_icmp .gt 271, 3), (926, .aload_n 2, 1), (927, .iload 22, 2), (929, .iconst 1, 1), (930, .isub, 1), (931, .iload 19, 2), (933, .iconst 1, 1), (934, .isub, 1), (935, .invokestatic 77, 3), (938, .iload 15, 2), (940, .if_icmp .ne 7, 3), (943, .iconst 1, 1), (944, .goto 4, 3), (947, .iconst 0, 1), (948, .aload_n 2, 1), (949, .iload 22, 2), (951, .iload 19, 2), (953, .iconst 1, 1), (954, .isub, 1), (955, .invokestatic 77, 3), (958, .iload 15, 2), (960, .if_icmp .ne 7, 3), (963, .iconst 1, 1), (964, .goto 4, 3), (967, .iconst 0, 1), (968, .iadd, 1), (969, .aload_n 2, 1), (970, .iload 22, 2), (972, .iconst 1, 1), (973, .isub, 1), (974, .iload 19, 2), (976, .invokestatic 77, 3), (979, .iload 15, 2), (981, .if_icmp .ne 7, 3), (984, .iconst 1, 1), (985, .goto 4, 3), (988, .iconst 0, 1), (989, .iadd, 1), (990, .aload_n 2, 1), (991, .iload 22, 2), (993, .iload 19, 2), (995, .invokestatic 77, 3), (998, .iload 15, 2), (1000, .if_icmp .ne 7, 3), (1003, .iconst 1, 1), (1004, .goto 4, 3)]
set_option maxRecDepth 20000 in
theorem dk_L_law_8 : dl_L_law_8.all (fun q => decide (decode cL_law q.1 = .ok (q.2.1, q.2.2))) = true := dq_all 898 (by decide +kernel)
def dl_L_law_9 : List (Nat × Instr × Nat) := [(1007, .iconst 0, 1), (1008, .iadd, 1), (1009, .istore 23, 2), (1011, .iload 17, 2), (1013, .iload 23, 2), (1015, .iconst 3, 1), (1016, .if_icmp .ne 7, 3), (1019, .iconst 1, 1), (1020, .goto 4, 3), (1023, .iconst 0, 1), (1024, .iadd, 1), (1025, .istore 17, 2), (1027, .iload 16, 2), (1029, .aload_n 2, 1), (1030, .iload 22, 2), (1032, .iload 19, 2), (1034, .invokestatic 77, 3), (1037, .iload 15, 2), (1039, .if_icmp .ne 7, 3), (1042, .iconst 1, 1), (1043, .goto 4, 3), (1046, .iconst 0, 1), (1047, .iadd, 1), (1048, .istore 16, 2), (1050, .aload_n 2, 1), (1051, .iload 22, 2), (1053, .iload 19, 2), (1055, .invokestatic 77, 3), (1058, .iload 15, 2), (1060, .if_icmp .ne 40, 3), (1063, .aload_n 2, 1), (1064, .iload 22, 2), (1066, .iload 19, 2), (1068, .iconst 1, 1), (1069, .isub, 1), (1070, .invokestatic 77, 3), (1073, .iload 15, 2), (1075, .if_icmp .eq 25, 3), (1078, .aload_n 2, 1), (1079, .iload 22, 2), (1081, .iload 19, 2), (1083, .iconst 1, 1), (1084, .iadd, 1), (1085, .invokestatic 77, 3), (1088, .iload 15, 2), (1090, .if_icmp .eq 10, 3), (1093, .iload 20, 2), (1095, .iconst 1, 1), (1096, .iadd, 1), (1097, .goto 4, 3), (1100, .iconst 0, 1), (1101, .istore 20, 2), (1103, .aload_n 2, 1), (1104, .iload 19, 2), (1106, .iload 22, 2), (1108, .invokestatic 77, 3), (1111, .iload 15, 2), (1113, .if_icmp .ne 40, 3), (1116, .aload_n 2, 1), (1117, .iload 19, 2)]
set_option maxRecDepth 20000 in
theorem dk_L_law_9 : dl_L_law_9.all (fun q => decide (decode cL_law q.1 = .ok (q.2.1, q.2.2))) = true := dq_all 1007 (by decide +kernel)
def dl_L_law_10 : List (Nat × Instr × Nat) := [(1119, .iconst 1, 1), (1120, .isub, 1), (1121, .iload 22, 2), (1123, .invokestatic 77, 3), (1126, .iload 15, 2), (1128, .if_icmp .eq 25, 3), (1131, .aload_n 2, 1), (1132, .iload 19, 2), (1134, .iconst 1, 1), (1135, .iadd, 1), (1136, .iload 22, 2), (1138, .invokestatic 77, 3), (1141, .iload 15, 2), (1143, .if_icmp .eq 10, 3), (1146, .iload 21, 2), (1148, .iconst 1, 1), (1149, .iadd, 1), (1150, .goto 4, 3), (1153, .iconst 0, 1), (1154, .istore 21, 2), (1156, .iload 20, 2), (1158, .iload 18, 2), (1160, .if_icmp .le 8, 3), (1163, .iload 20, 2), (1165, .goto 5, 3), (1168, .iload 18, 2), (1170, .istore 18, 2), (1172, .iload 21, 2), (1174, .iload 18, 2), (1176, .if_icmp .le 8, 3), (1179, .iload 21, 2), (1181, .goto 5, 3), (1184, .iload 18, 2), (1186, .istore 18, 2), (1188, .iinc 22 1, 3), (1191, .goto (-272), 3), (1194, .iinc 19 1, 3), (1197, .goto (-294), 3), (1200, .iload_n 3, 1), (1201, .aload_n 1, 1), (1202, .iload 15, 2), (1204, .invokestatic 70, 3), (1207, .iload 16, 2), (1209, .if_icmp .ne 29, 3), (1212, .aload_n 1, 1), (1213, .iload 15, 2), (1215, .invokestatic 88, 3), (1218, .iload 17, 2), (1220, .if_icmp .ne 18, 3), (1223, .aload_n 1, 1), (1224, .iload 15, 2), (1226, .invokestatic 90, 3), (1229, .iload 18, 2), (1231, .if_icmp .ne 7, 3), (1234, .iconst 1, 1), (1235, .goto 4, 3), (1238, .iconst 0, 1), (1239, .iand, 1), (1240, .istore_n 3, 1), (1241, .aload_n 1, 1)]
set_option maxRecDepth 20000 in
theorem dk_L_law_10 : dl_L_law_10.all (fun q => decide (decode cL_law q.1 = .ok (q.2.1, q.2.2))) = true := dq_all 1119 (by decide +kernel)
def dl_L_law_11 : List (Nat × Instr × Nat) := [(1242, .iload 15, 2), (1244, .invokestatic 92, 3), (1247, .istore 19, 2), (1249, .iload 16, 2), (1251, .ifCond .ne 18, 3), (1254, .iload 19, 2), (1256, .bipush 101, 2), (1258, .if_icmp .ne 7, 3), (1261, .iconst 1, 1), (1262, .goto 48, 3), (1265, .iconst 0, 1), (1266, .goto 44, 3), (1269, .iload 19, 2), (1271, .bipush 119, 2), (1273, .if_icmp .eq 32, 3), (1276, .iload 19, 2), (1278, .iload 17, 2), (1280, .iconst 2, 1), (1281, .if_icmp .le 8, 3), (1284, .bipush 99, 2), (1286, .goto 16, 3), (1289, .iload 18, 2), (1291, .iconst 4, 1), (1292, .if_icmp .le 8, 3), (1295, .bipush 112, 2), (1297, .goto 5, 3), (1300, .bipush 45, 2), (1302, .if_icmp .ne 7, 3), (1305, .iconst 1, 1), (1306, .goto 4, 3), (1309, .iconst 0, 1), (1310, .istore 20, 2), (1312, .iload_n 3, 1), (1313, .iload 20, 2), (1315, .iand, 1), (1316, .istore_n 3, 1), (1317, .iinc 15 1, 3), (1320, .goto (-435), 3), (1323, .iinc 4 1, 3), (1326, .goto (-1182), 3), (1329, .new 10, 3), (1332, .dup, 1), (1333, .invokespecial 58, 3), (1336, .astore 4, 2), (1338, .iconst 1, 1), (1339, .aload_n 0, 1), (1340, .bipush 100, 2), (1342, .bipush 8, 2), (1344, .invokestatic 73, 3), (1347, .iadd, 1), (1348, .istore 5, 2), (1350, .iconst 1, 1), (1351, .aload_n 0, 1), (1352, .bipush 101, 2), (1354, .bipush 8, 2), (1356, .invokestatic 73, 3), (1359, .iadd, 1), (1360, .istore 6, 2), (1362, .aload_n 0, 1), (1363, .bipush 102, 2)]
set_option maxRecDepth 20000 in
theorem dk_L_law_11 : dl_L_law_11.all (fun q => decide (decode cL_law q.1 = .ok (q.2.1, q.2.2))) = true := dq_all 1242 (by decide +kernel)
def dl_L_law_12 : List (Nat × Instr × Nat) := [(1365, .bipush 12, 2), (1367, .iload 5, 2), (1369, .isub, 1), (1370, .invokestatic 73, 3), (1373, .istore 7, 2), (1375, .aload_n 0, 1), (1376, .bipush 103, 2), (1378, .bipush 12, 2), (1380, .iload 6, 2), (1382, .isub, 1), (1383, .invokestatic 73, 3), (1386, .istore 8, 2), (1388, .iload_n 3, 1), (1389, .aload 4, 2), (1391, .iload 7, 2), (1393, .iload 8, 2), (1395, .iload 7, 2), (1397, .iload 5, 2), (1399, .iadd, 1), (1400, .iconst 1, 1), (1401, .isub, 1), (1402, .iload 8, 2), (1404, .iload 6, 2), (1406, .iadd, 1), (1407, .iconst 1, 1), (1408, .isub, 1), (1409, .iconst 1, 1), (1410, .invokestatic 61, 3), (1413, .iload 5, 2), (1415, .iload 6, 2), (1417, .imul, 1), (1418, .if_icmp .ne 40, 3), (1421, .aload 4, 2), (1423, .bipush 7, 2), (1425, .iload 7, 2), (1427, .iload 8, 2), (1429, .iload 7, 2), (1431, .iload 5, 2), (1433, .iadd, 1), (1434, .iconst 1, 1), (1435, .isub, 1), (1436, .iload 8, 2), (1438, .iload 6, 2), (1440, .iadd, 1), (1441, .iconst 1, 1), (1442, .isub, 1), (1443, .invokestatic 64, 3), (1446, .iload 5, 2), (1448, .iload 6, 2), (1450, .imul, 1), (1451, .if_icmp .ne 7, 3), (1454, .iconst 1, 1), (1455, .goto 4, 3), (1458, .iconst 0, 1), (1459, .iand, 1), (1460, .istore_n 3, 1), (1461, .iload 5, 2), (1463, .iconst 1, 1), (1464, .if_icmp .ne 8, 3), (1467, .iload 6, 2)]
set_option maxRecDepth 20000 in
theorem dk_L_law_12 : dl_L_law_12.all (fun q => decide (decode cL_law q.1 = .ok (q.2.1, q.2.2))) = true := dq_all 1365 (by decide +kernel)
def dl_L_law_13 : List (Nat × Instr × Nat) := [(1469, .goto 15, 3), (1472, .iload 6, 2), (1474, .iconst 1, 1), (1475, .if_icmp .ne 8, 3), (1478, .iload 5, 2), (1480, .goto 4, 3), (1483, .iconst 0, 1), (1484, .istore 9, 2), (1486, .iload_n 3, 1), (1487, .aload 4, 2), (1489, .bipush 7, 2), (1491, .invokestatic 92, 3), (1494, .iload 9, 2), (1496, .iconst 4, 1), (1497, .if_icmp .le 8, 3), (1500, .bipush 112, 2), (1502, .goto 5, 3), (1505, .bipush 45, 2), (1507, .if_icmp .ne 42, 3), (1510, .aload 4, 2), (1512, .bipush 7, 2), (1514, .invokestatic 88, 3), (1517, .ifCond .ne 32, 3), (1520, .aload 4, 2), (1522, .invokevirtual 81, 3), (1525, .iconst 2, 1), (1526, .iload 5, 2), (1528, .imul, 1), (1529, .iconst 2, 1), (1530, .iload 6, 2), (1532, .imul, 1), (1533, .iadd, 1), (1534, .if_icmp .ne 15, 3), (1537, .aload 4, 2), (1539, .invokevirtual 85, 3), (1542, .ifCond .ne 7, 3), (1545, .iconst 1, 1), (1546, .goto 4, 3), (1549, .iconst 0, 1), (1550, .iand, 1), (1551, .istore_n 3, 1), (1552, .iconst 0, 1), (1553, .istore 10, 2), (1555, .bipush 99, 2), (1557, .istore 11, 2), (1559, .iconst 0, 1), (1560, .istore 12, 2), (1562, .iload 12, 2), (1564, .bipush 14, 2), (1566, .if_icmp .ge 256, 3), (1569, .iload 12, 2), (1571, .bipush 7, 2), (1573, .if_icmp .ge 7, 3), (1576, .iconst 1, 1), (1577, .goto 4, 3), (1580, .iconst 0, 1), (1581, .istore 13, 2), (1583, .iconst 1, 1), (1584, .iload 12, 2), (1586, .bipush 7, 2)]
set_option maxRecDepth 20000 in
theorem dk_L_law_13 : dl_L_law_13.all (fun q => decide (decode cL_law q.1 = .ok (q.2.1, q.2.2))) = true := dq_all 1469 (by decide +kernel)
def dl_L_law_14 : List (Nat × Instr × Nat) := [(1588, .irem, 1), (1589, .iadd, 1), (1590, .istore 14, 2), (1592, .iload 13, 2), (1594, .ifCond .eq 8, 3), (1597, .iload 14, 2), (1599, .goto 5, 3), (1602, .iload 5, 2), (1604, .istore 15, 2), (1606, .iload 13, 2), (1608, .ifCond .eq 11, 3), (1611, .iload 5, 2), (1613, .iload 14, 2), (1615, .isub, 1), (1616, .goto 5, 3), (1619, .iload 5, 2), (1621, .istore 16, 2), (1623, .iload 13, 2), (1625, .ifCond .eq 8, 3), (1628, .iload 6, 2), (1630, .goto 5, 3), (1633, .iload 14, 2), (1635, .istore 17, 2), (1637, .iload 13, 2), (1639, .ifCond .eq 8, 3), (1642, .iload 6, 2), (1644, .goto 8, 3), (1647, .iload 6, 2), (1649, .iload 14, 2), (1651, .isub, 1), (1652, .istore 18, 2), (1654, .iload 16, 2), (1656, .ifCond .le 12, 3), (1659, .iload 18, 2), (1661, .ifCond .le 7, 3), (1664, .iconst 1, 1), (1665, .goto 4, 3), (1668, .iconst 0, 1), (1669, .istore 19, 2), (1671, .iload 15, 2), (1673, .iconst 1, 1), (1674, .if_icmp .ne 8, 3), (1677, .iload 17, 2), (1679, .goto 15, 3), (1682, .iload 17, 2), (1684, .iconst 1, 1), (1685, .if_icmp .ne 8, 3), (1688, .iload 15, 2), (1690, .goto 4, 3), (1693, .iconst 0, 1), (1694, .istore 20, 2), (1696, .iload 16, 2), (1698, .iconst 1, 1), (1699, .if_icmp .ne 8, 3), (1702, .iload 18, 2), (1704, .goto 15, 3), (1707, .iload 18, 2), (1709, .iconst 1, 1), (1710, .if_icmp .ne 8, 3), (1713, .iload 16, 2)]
set_option maxRecDepth 20000 in
theorem dk_L_law_14 : dl_L_law_14.all (fun q => decide (decode cL_law q.1 = .ok (q.2.1, q.2.2))) = true := dq_all 1588 (by decide +kernel)
def dl_L_law_15 : List (Nat × Instr × Nat) := [(1715, .goto 4, 3), (1718, .iconst 0, 1), (1719, .istore 21, 2), (1721, .iload 13, 2), (1723, .ifCond .eq 8, 3), (1726, .iload 6, 2), (1728, .goto 5, 3), (1731, .iload 5, 2), (1733, .istore 22, 2), (1735, .iload 19, 2), (1737, .ifCond .eq 26, 3), (1740, .iload 20, 2), (1742, .iconst 4, 1), (1743, .if_icmp .gt 20, 3), (1746, .iload 21, 2), (1748, .iconst 4, 1), (1749, .if_icmp .gt 14, 3), (1752, .iload 22, 2), (1754, .iload 11, 2), (1756, .if_icmp .ge 7, 3), (1759, .iconst 1, 1), (1760, .goto 4, 3), (1763, .iconst 0, 1), (1764, .istore 23, 2), (1766, .iload 23, 2), (1768, .ifCond .eq 30, 3), (1771, .iload 13, 2), (1773, .ifCond .eq 14, 3), (1776, .iload 5, 2), (1778, .iload 14, 2), (1780, .isub, 1), (1781, .iload 6, 2), (1783, .imul, 1), (1784, .goto 16, 3), (1787, .iload 5, 2), (1789, .iload 6, 2), (1791, .iload 14, 2), (1793, .isub, 1), (1794, .imul, 1), (1795, .goto 5, 3), (1798, .iload 10, 2), (1800, .istore 10, 2), (1802, .iload 23, 2), (1804, .ifCond .eq 8, 3), (1807, .iload 22, 2), (1809, .goto 5, 3), (1812, .iload 11, 2), (1814, .istore 11, 2), (1816, .iinc 12 1, 3), (1819, .goto (-257), 3), (1822, .iload_n 3, 1), (1823, .aload 4, 2), (1825, .bipush 7, 2), (1827, .invokestatic 94, 3), (1830, .iload 11, 2), (1832, .bipush 99, 2), (1834, .if_icmp .ne 8, 3), (1837, .ldc 20, 2), (1839, .goto 4, 3), (1842, .iconst 0, 1)]
set_option maxRecDepth 20000 in
theorem dk_L_law_15 : dl_L_law_15.all (fun q => decide (decode cL_law q.1 = .ok (q.2.1, q.2.2))) = true := dq_all 1715 (by decide +kernel)
def dl_L_law_16 : List (Nat × Instr × Nat) := [(1843, .if_icmp .ne 48, 3), (1846, .aload 4, 2), (1848, .bipush 6, 2), (1850, .invokestatic 94, 3), (1853, .ldc 20, 2), (1855, .if_icmp .ne 36, 3), (1858, .aload 4, 2), (1860, .iconst 0, 1), (1861, .invokestatic 70, 3), (1864, .iload 10, 2), (1866, .if_icmp .ne 25, 3), (1869, .aload 4, 2), (1871, .bipush 7, 2), (1873, .invokestatic 70, 3), (1876, .iload 5, 2), (1878, .iload 6, 2), (1880, .imul, 1), (1881, .iload 10, 2), (1883, .isub, 1), (1884, .if_icmp .ne 7, 3), (1887, .iconst 1, 1), (1888, .goto 4, 3), (1891, .iconst 0, 1), (1892, .iand, 1), (1893, .istore_n 3, 1), (1894, .iload_n 3, 1), (1895, .ifCond .eq 50, 3), (1898, .aload 4, 2), (1900, .invokevirtual 96, 3), (1903, .iload 5, 2), (1905, .iload 6, 2), (1907, .imul, 1), (1908, .i2d, 1), (1909, .iload 10, 2), (1911, .ifCond .ne 7, 3), (1914, .dconst 1, 1), (1915, .goto 6, 3), (1918, .ldc2_w 100, 3), (1921, .ddiv, 1), (1922, .dcmp .l, 1), (1923, .ifCond .ne 22, 3), (1926, .aload 4, 2), (1928, .invokevirtual 102, 3), (1931, .ifCond .eq 14, 3), (1934, .aload_n 1, 1), (1935, .invokevirtual 102, 3), (1938, .ifCond .eq 7, 3), (1941, .iconst 1, 1), (1942, .goto 4, 3), (1945, .iconst 0, 1), (1946, .ireturn, 1)]
set_option maxRecDepth 20000 in
theorem dk_L_law_16 : dl_L_law_16.all (fun q => decide (decode cL_law q.1 = .ok (q.2.1, q.2.2))) = true := dq_all 1843 (by decide +kernel)
