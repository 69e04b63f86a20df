/-! ===== BEGIN printed: names, fields, word lists, decode rows ===== -/
def RX0 : String := "StraightPages$Change"
def TX0 : u_T := fun k => match k with
  | 0 => ("StraightPages$Change", "page", "I", false)
  | 1 => ("StraightPages$Change", "made", "I", false)
  | _ => ("StraightPages$Change", "before", "LStraightPages$Sheet;", true)
def tyX0 : Nat → FieldType := fun k => match k with
  | 0 => .int
  | 1 => .int
  | _ => .object "StraightPages$Sheet"
abbrev wsX00 : List Cond := u_ws RX0 TX0 3
theorem nmX0 : ∀ a, a < 3 → ∀ b, b < 3 → a ≠ b → (TX0 a).2.1 ≠ (TX0 b).2.1 := by decide +kernel
theorem tyX0_ok : ∀ k, k < 3 → parseFieldDescriptor (TX0 k).2.2.1 = some (tyX0 k) := by decide +kernel
abbrev cX0_init : ByteArray := prog_2_method_1_code
def yX0_init : MethodName := ⟨RX0, "<init>", "()V"⟩
def RX1 : String := "StraightPages$History"
def TX1 : u_T := fun k => match k with
  | 0 => ("StraightPages$History", "ring", "[LStraightPages$Change;", true)
  | 1 => ("StraightPages$History", "next", "I", false)
  | _ => ("StraightPages$History", "kept", "I", false)
def tyX1 : Nat → FieldType := fun k => match k with
  | 0 => .array (.object "StraightPages$Change")
  | 1 => .int
  | _ => .int
abbrev wsX10 : List Cond := u_ws RX1 TX1 3
theorem nmX1 : ∀ a, a < 3 → ∀ b, b < 3 → a ≠ b → (TX1 a).2.1 ≠ (TX1 b).2.1 := by decide +kernel
theorem tyX1_ok : ∀ k, k < 3 → parseFieldDescriptor (TX1 k).2.2.1 = some (tyX1 k) := by decide +kernel
abbrev cX1_init : ByteArray := prog_3_method_1_code
def yX1_init : MethodName := ⟨RX1, "<init>", "()V"⟩
abbrev cX1_remember : ByteArray := prog_3_method_2_code
def yX1_remember : MethodName := ⟨RX1, "remember", "(ILStraightPages$Sheet;I)V"⟩
abbrev cX1_takeLatest : ByteArray := prog_3_method_3_code
def yX1_takeLatest : MethodName := ⟨RX1, "takeLatest", "()LStraightPages$Change;"⟩
abbrev cX1_forget : ByteArray := prog_3_method_4_code
def yX1_forget : MethodName := ⟨RX1, "forget", "()V"⟩
def RX2 : String := "StraightPages$Sheet"
def TX2 : u_T := fun k => match k with
  | 0 => ("StraightPages$Sheet", "wide", "I", false)
  | 1 => ("StraightPages$Sheet", "high", "I", false)
  | _ => ("StraightPages$Sheet", "rows", "[J", true)
def tyX2 : Nat → FieldType := fun k => match k with
  | 0 => .int
  | 1 => .int
  | _ => .array .long
abbrev wsX20 : List Cond := u_ws RX2 TX2 3
theorem nmX2 : ∀ a, a < 3 → ∀ b, b < 3 → a ≠ b → (TX2 a).2.1 ≠ (TX2 b).2.1 := by decide +kernel
theorem tyX2_ok : ∀ k, k < 3 → parseFieldDescriptor (TX2 k).2.2.1 = some (tyX2 k) := by decide +kernel
abbrev cX2_init : ByteArray := prog_4_method_1_code
def yX2_init : MethodName := ⟨RX2, "<init>", "(I)V"⟩
abbrev cX2_empty : ByteArray := prog_4_method_2_code
def yX2_empty : MethodName := ⟨RX2, "empty", "(II)V"⟩
abbrev cX2_become : ByteArray := prog_4_method_3_code
def yX2_become : MethodName := ⟨RX2, "become", "(LStraightPages$Sheet;)V"⟩
abbrev cX2_hasRow : ByteArray := prog_4_method_4_code
def yX2_hasRow : MethodName := ⟨RX2, "hasRow", "(I)Z"⟩
abbrev cX2_hasPoint : ByteArray := prog_4_method_5_code
def yX2_hasPoint : MethodName := ⟨RX2, "hasPoint", "(II)Z"⟩
abbrev cX2_allColumns : ByteArray := prog_4_method_6_code
def yX2_allColumns : MethodName := ⟨RX2, "allColumns", "()J"⟩
abbrev cX2_ink : ByteArray := prog_4_method_7_code
def yX2_ink : MethodName := ⟨RX2, "ink", "()I"⟩
abbrev cX2_columnInk : ByteArray := prog_4_method_8_code
def yX2_columnInk : MethodName := ⟨RX2, "columnInk", "(I)I"⟩
abbrev cX2_inkedColumns : ByteArray := prog_4_method_9_code
def yX2_inkedColumns : MethodName := ⟨RX2, "inkedColumns", "()J"⟩
abbrev cX2_inkedRows : ByteArray := prog_4_method_10_code
def yX2_inkedRows : MethodName := ⟨RX2, "inkedRows", "()J"⟩
abbrev cX2_hasInk : ByteArray := prog_4_method_11_code
def yX2_hasInk : MethodName := ⟨RX2, "hasInk", "()Z"⟩
abbrev cX2_steps : ByteArray := prog_4_method_12_code
def yX2_steps : MethodName := ⟨RX2, "steps", "()I"⟩
abbrev cX2_footOf : ByteArray := prog_4_method_13_code
def yX2_footOf : MethodName := ⟨RX2, "footOf", "(I)I"⟩
abbrev cX2_shearAcross : ByteArray := prog_4_method_14_code
def yX2_shearAcross : MethodName := ⟨RX2, "shearAcross", "(I)V"⟩
abbrev cX2_becomeShearedUp : ByteArray := prog_4_method_15_code
def yX2_becomeShearedUp : MethodName := ⟨RX2, "becomeShearedUp", "(LStraightPages$Sheet;I)V"⟩
abbrev cX2_addDropped : ByteArray := prog_4_method_16_code
def yX2_addDropped : MethodName := ⟨RX2, "addDropped", "(LStraightPages$Sheet;JI)V"⟩
abbrev cX2_isDark : ByteArray := prog_4_method_17_code
def yX2_isDark : MethodName := ⟨RX2, "isDark", "(II)Z"⟩
abbrev cX2_shadowColumns : ByteArray := prog_4_method_18_code
def yX2_shadowColumns : MethodName := ⟨RX2, "shadowColumns", "(I)J"⟩
abbrev cX2_faintestColumn : ByteArray := prog_4_method_19_code
def yX2_faintestColumn : MethodName := ⟨RX2, "faintestColumn", "(II)I"⟩
abbrev cX2_moveRightPart : ByteArray := prog_4_method_20_code
def yX2_moveRightPart : MethodName := ⟨RX2, "moveRightPart", "(ILStraightPages$Sheet;)V"⟩
def RX3 : String := "StraightPages$Spots"
def TX3 : u_T := fun k => match k with
  | 0 => ("StraightPages$Spots", "specks", "LStraightPages$Sheet;", true)
  | 1 => ("StraightPages$Spots", "left", "LStraightPages$Sheet;", true)
  | 2 => ("StraightPages$Spots", "spot", "LStraightPages$Sheet;", true)
  | 3 => ("StraightPages$Spots", "near", "LStraightPages$Sheet;", true)
  | 4 => ("StraightPages$Spots", "waiting", "[J", true)
  | 5 => ("StraightPages$Spots", "waitingRows", "J", false)
  | 6 => ("StraightPages$Spots", "points", "I", false)
  | 7 => ("StraightPages$Spots", "top", "I", false)
  | 8 => ("StraightPages$Spots", "bottom", "I", false)
  | _ => ("StraightPages$Spots", "firstLeft", "I", false)
def tyX3 : Nat → FieldType := fun k => match k with
  | 0 => .object "StraightPages$Sheet"
  | 1 => .object "StraightPages$Sheet"
  | 2 => .object "StraightPages$Sheet"
  | 3 => .object "StraightPages$Sheet"
  | 4 => .array .long
  | 5 => .long
  | 6 => .int
  | 7 => .int
  | 8 => .int
  | _ => .int
abbrev wsX30 : List Cond := u_ws RX3 TX3 10
theorem nmX3 : ∀ a, a < 10 → ∀ b, b < 10 → a ≠ b → (TX3 a).2.1 ≠ (TX3 b).2.1 := by decide +kernel
theorem tyX3_ok : ∀ k, k < 10 → parseFieldDescriptor (TX3 k).2.2.1 = some (tyX3 k) := by decide +kernel
abbrev cX3_init : ByteArray := prog_5_method_1_code
def yX3_init : MethodName := ⟨RX3, "<init>", "()V"⟩
abbrev cX3_number : ByteArray := prog_5_method_2_code
def yX3_number : MethodName := ⟨RX3, "number", "(LStraightPages$Sheet;)I"⟩
abbrev cX3_largest : ByteArray := prog_5_method_3_code
def yX3_largest : MethodName := ⟨RX3, "largest", "(LStraightPages$Sheet;)I"⟩
abbrev cX3_findSpecks : ByteArray := prog_5_method_4_code
def yX3_findSpecks : MethodName := ⟨RX3, "findSpecks", "(LStraightPages$Sheet;II)I"⟩
abbrev cX3_markNearLarge : ByteArray := prog_5_method_5_code
def yX3_markNearLarge : MethodName := ⟨RX3, "markNearLarge", "(LStraightPages$Sheet;II)V"⟩
abbrev cX3_widenNear : ByteArray := prog_5_method_6_code
def yX3_widenNear : MethodName := ⟨RX3, "widenNear", "()V"⟩
abbrev cX3_touchesNear : ByteArray := prog_5_method_7_code
def yX3_touchesNear : MethodName := ⟨RX3, "touchesNear", "()Z"⟩
abbrev cX3_addSpotTo : ByteArray := prog_5_method_8_code
def yX3_addSpotTo : MethodName := ⟨RX3, "addSpotTo", "(LStraightPages$Sheet;)V"⟩
abbrev cX3_begin : ByteArray := prog_5_method_9_code
def yX3_begin : MethodName := ⟨RX3, "begin", "(LStraightPages$Sheet;)V"⟩
abbrev cX3_next : ByteArray := prog_5_method_10_code
def yX3_next : MethodName := ⟨RX3, "next", "()Z"⟩
abbrev cX3_clearSpot : ByteArray := prog_5_method_11_code
def yX3_clearSpot : MethodName := ⟨RX3, "clearSpot", "()V"⟩
abbrev cX3_growFrom : ByteArray := prog_5_method_12_code
def yX3_growFrom : MethodName := ⟨RX3, "growFrom", "(I)V"⟩
abbrev cX3_admit : ByteArray := prog_5_method_13_code
def yX3_admit : MethodName := ⟨RX3, nm_38, "(IJ)V"⟩
abbrev cX3_widened : ByteArray := prog_5_method_14_code
def yX3_widened : MethodName := ⟨RX3, "widened", "(J)J"⟩
abbrev cX3_runsAt : ByteArray := prog_5_method_15_code
def yX3_runsAt : MethodName := ⟨RX3, "runsAt", "(JJ)J"⟩
def RX4 : String := "StraightPages"
def TX4 : u_T := fun k => match k with
  | 0 => ("StraightPages", "sheets", "[LStraightPages$Sheet;", true)
  | 1 => ("StraightPages", "sheetCount", "I", false)
  | 2 => ("StraightPages", "history", "LStraightPages$History;", true)
  | 3 => ("StraightPages", "spots", "LStraightPages$Spots;", true)
  | 4 => ("StraightPages", "list", "LStraightPages$Sheet;", true)
  | 5 => ("StraightPages", "bench", "LStraightPages$Sheet;", true)
  | 6 => ("StraightPages", "numbers", "[I", true)
  | _ => ("StraightPages", "numberCount", "I", false)
def tyX4 : Nat → FieldType := fun k => match k with
  | 0 => .array (.object "StraightPages$Sheet")
  | 1 => .int
  | 2 => .object "StraightPages$History"
  | 3 => .object "StraightPages$Spots"
  | 4 => .object "StraightPages$Sheet"
  | 5 => .object "StraightPages$Sheet"
  | 6 => .array .int
  | _ => .int
abbrev wsX40 : List Cond := u_ws RX4 TX4 8
theorem nmX4 : ∀ a, a < 8 → ∀ b, b < 8 → a ≠ b → (TX4 a).2.1 ≠ (TX4 b).2.1 := by decide +kernel
theorem tyX4_ok : ∀ k, k < 8 → parseFieldDescriptor (TX4 k).2.2.1 = some (tyX4 k) := by decide +kernel
abbrev cX4_init : ByteArray := prog_1_method_1_code
def yX4_init : MethodName := ⟨RX4, "<init>", "()V"⟩
abbrev cX4_page : ByteArray := prog_1_method_2_code
def yX4_page : MethodName := ⟨RX4, "page", "(II)I"⟩
abbrev cX4_copy : ByteArray := prog_1_method_3_code
def yX4_copy : MethodName := ⟨RX4, "copy", "(I)I"⟩
abbrev cX4_set : ByteArray := prog_1_method_4_code
def yX4_set : MethodName := ⟨RX4, "set", "(IIIZ)Z"⟩
abbrev cX4_line : ByteArray := prog_1_method_5_code
def yX4_line : MethodName := ⟨RX4, "line", "(IIJ)I"⟩
abbrev cX4_lay : ByteArray := prog_1_method_6_code
def yX4_lay : MethodName := ⟨RX4, "lay", "(IIIIJJ)I"⟩
abbrev cX4_at : ByteArray := prog_1_method_7_code
def yX4_at : MethodName := ⟨RX4, "at", "(III)I"⟩
abbrev cX4_row : ByteArray := prog_1_method_8_code
def yX4_row : MethodName := ⟨RX4, "row", "(II)J"⟩
abbrev cX4_of : ByteArray := prog_1_method_9_code
def yX4_of : MethodName := ⟨RX4, "of", "(II)I"⟩
abbrev cX4_count : ByteArray := prog_1_method_10_code
def yX4_count : MethodName := ⟨RX4, "count", "(I)I"⟩
abbrev cX4_unlike : ByteArray := prog_1_method_11_code
def yX4_unlike : MethodName := ⟨RX4, "unlike", "(II)I"⟩
abbrev cX4_across : ByteArray := prog_1_method_12_code
def yX4_across : MethodName := ⟨RX4, "across", "(II)I"⟩
abbrev cX4_upright : ByteArray := prog_1_method_13_code
def yX4_upright : MethodName := ⟨RX4, "upright", "(II)I"⟩
abbrev cX4_turn : ByteArray := prog_1_method_14_code
def yX4_turn : MethodName := ⟨RX4, "turn", "(III)Z"⟩
abbrev cX4_sharp : ByteArray := prog_1_method_15_code
def yX4_sharp : MethodName := ⟨RX4, "sharp", "(II)I"⟩
abbrev cX4_angle : ByteArray := prog_1_method_16_code
def yX4_angle : MethodName := ⟨RX4, "angle", "(I)I"⟩
abbrev cX4_bend : ByteArray := prog_1_method_17_code
def yX4_bend : MethodName := ⟨RX4, "bend", "(I)I"⟩
abbrev cX4_foot : ByteArray := prog_1_method_18_code
def yX4_foot : MethodName := ⟨RX4, "foot", "(II)I"⟩
abbrev cX4_specks : ByteArray := prog_1_method_19_code
def yX4_specks : MethodName := ⟨RX4, "specks", "(III)I"⟩
abbrev cX4_take : ByteArray := prog_1_method_20_code
def yX4_take : MethodName := ⟨RX4, "take", "(III)I"⟩
abbrev cX4_shadow : ByteArray := prog_1_method_21_code
def yX4_shadow : MethodName := ⟨RX4, "shadow", "(II)I"⟩
abbrev cX4_listed : ByteArray := prog_1_method_22_code
def yX4_listed : MethodName := ⟨RX4, "listed", "(II)I"⟩
abbrev cX4_box : ByteArray := prog_1_method_23_code
def yX4_box : MethodName := ⟨RX4, "box", "(II)I"⟩
abbrev cX4_cut : ByteArray := prog_1_method_24_code
def yX4_cut : MethodName := ⟨RX4, "cut", "(II)Z"⟩
abbrev cX4_spans : ByteArray := prog_1_method_25_code
def yX4_spans : MethodName := ⟨RX4, "spans", "(III)I"⟩
abbrev cX4_part : ByteArray := prog_1_method_26_code
def yX4_part : MethodName := ⟨RX4, "part", "(IIII)I"⟩
abbrev cX4_back : ByteArray := prog_1_method_27_code
def yX4_back : MethodName := ⟨RX4, "back", "()I"⟩
abbrev cX4_told : ByteArray := prog_1_method_28_code
def yX4_told : MethodName := ⟨RX4, "told", "(I)I"⟩
abbrev cX4_find : ByteArray := prog_1_method_29_code
def yX4_find : MethodName := ⟨RX4, "find", "(I)LStraightPages$Sheet;"⟩
abbrev cX4_within : ByteArray := prog_1_method_30_code
def yX4_within : MethodName := ⟨RX4, "within", "(III)Z"⟩
abbrev cX4_isShear : ByteArray := prog_1_method_31_code
def yX4_isShear : MethodName := ⟨RX4, "isShear", "(I)Z"⟩
abbrev cX4_isSpeckRule : ByteArray := prog_1_method_32_code
def yX4_isSpeckRule : MethodName := ⟨RX4, "isSpeckRule", "(II)Z"⟩
abbrev cX4_entryBits : ByteArray := prog_1_method_33_code
def yX4_entryBits : MethodName := ⟨RX4, "entryBits", "(I)J"⟩
abbrev cX4_canTurn : ByteArray := prog_1_method_34_code
def yX4_canTurn : MethodName := ⟨RX4, "canTurn", "(LStraightPages$Sheet;II)Z"⟩
abbrev cX4_shearUp : ByteArray := prog_1_method_35_code
def yX4_shearUp : MethodName := ⟨RX4, "shearUp", "(LStraightPages$Sheet;I)V"⟩
abbrev cX4_sharpness : ByteArray := prog_1_method_36_code
def yX4_sharpness : MethodName := ⟨RX4, "sharpness", "(LStraightPages$Sheet;I)I"⟩
abbrev cX4_takeListed : ByteArray := prog_1_method_37_code
def yX4_takeListed : MethodName := ⟨RX4, "takeListed", "(ILStraightPages$Sheet;)V"⟩
abbrev cX4_tellSpans : ByteArray := prog_1_method_38_code
def yX4_tellSpans : MethodName := ⟨RX4, "tellSpans", "(JI)V"⟩
abbrev cX4_slide : ByteArray := prog_1_method_39_code
def yX4_slide : MethodName := ⟨RX4, "slide", "(II)I"⟩
abbrev cX4_leastSlide : ByteArray := prog_1_method_40_code
def yX4_leastSlide : MethodName := ⟨RX4, "leastSlide", "(II)I"⟩
abbrev cX4_spread : ByteArray := prog_1_method_41_code
def yX4_spread : MethodName := ⟨RX4, "spread", "(II)I"⟩
abbrev cX4_stepColumns : ByteArray := prog_1_method_42_code
def yX4_stepColumns : MethodName := ⟨RX4, "stepColumns", "(I)J"⟩
abbrev cX4_lowestBit : ByteArray := prog_1_method_43_code
def yX4_lowestBit : MethodName := ⟨RX4, "lowestBit", "(J)I"⟩
abbrev cX4_highestBit : ByteArray := prog_1_method_44_code
def yX4_highestBit : MethodName := ⟨RX4, "highestBit", "(J)I"⟩
abbrev cX4_bitAfter : ByteArray := prog_1_method_45_code
def yX4_bitAfter : MethodName := ⟨RX4, "bitAfter", "(JI)I"⟩
def RX5 : String := "StraightPagesModel"
def TX5 : u_T := fun k => match k with
  | 0 => ("StraightPagesModel", "thrown", "I", false)
  | 1 => ("StraightPagesModel", "pages", "I", false)
  | 2 => ("StraightPagesModel", "wide", "[I", true)
  | 3 => ("StraightPagesModel", "high", "[I", true)
  | 4 => ("StraightPagesModel", "ink", "[Z", true)
  | 5 => ("StraightPagesModel", "made", "[Z", true)
  | 6 => ("StraightPagesModel", "changes", "I", false)
  | 7 => ("StraightPagesModel", "newest", "I", false)
  | 8 => ("StraightPagesModel", "changePage", "[I", true)
  | 9 => ("StraightPagesModel", "changeWide", "[I", true)
  | 10 => ("StraightPagesModel", "changeHigh", "[I", true)
  | 11 => ("StraightPagesModel", "changeMade", "[I", true)
  | 12 => ("StraightPagesModel", "changeInk", "[Z", true)
  | 13 => ("StraightPagesModel", "spot", "[I", true)
  | 14 => ("StraightPagesModel", "spotSize", "[I", true)
  | 15 => ("StraightPagesModel", "queue", "[I", true)
  | 16 => ("StraightPagesModel", "spots", "I", false)
  | 17 => ("StraightPagesModel", "sums", "[I", true)
  | 18 => ("StraightPagesModel", "isSpeck", "[Z", true)
  | 19 => ("StraightPagesModel", "listed", "I", false)
  | 20 => ("StraightPagesModel", "listX", "[I", true)
  | 21 => ("StraightPagesModel", "listY", "[I", true)
  | 22 => ("StraightPagesModel", "rows", "I", false)
  | _ => ("StraightPagesModel", "row", "[I", true)
def tyX5 : Nat → FieldType := fun k => match k with
  | 0 => .int
  | 1 => .int
  | 2 => .array .int
  | 3 => .array .int
  | 4 => .array .boolean
  | 5 => .array .boolean
  | 6 => .int
  | 7 => .int
  | 8 => .array .int
  | 9 => .array .int
  | 10 => .array .int
  | 11 => .array .int
  | 12 => .array .boolean
  | 13 => .array .int
  | 14 => .array .int
  | 15 => .array .int
  | 16 => .int
  | 17 => .array .int
  | 18 => .array .boolean
  | 19 => .int
  | 20 => .array .int
  | 21 => .array .int
  | 22 => .int
  | _ => .array .int
abbrev wsX50 : List Cond := u_ws RX5 TX5 24
theorem nmX5 : ∀ a, a < 24 → ∀ b, b < 24 → a ≠ b → (TX5 a).2.1 ≠ (TX5 b).2.1 := by decide +kernel
theorem tyX5_ok : ∀ k, k < 24 → parseFieldDescriptor (TX5 k).2.2.1 = some (tyX5 k) := by decide +kernel
abbrev cX5_init : ByteArray := prog_7_method_1_code
def yX5_init : MethodName := ⟨RX5, "<init>", "()V"⟩
abbrev cX5_thrown : ByteArray := prog_7_method_2_code
def yX5_thrown : MethodName := ⟨RX5, "thrown", "()I"⟩
abbrev cX5_in : ByteArray := prog_7_method_3_code
def yX5_in : MethodName := ⟨RX5, "in", "(JJJ)Z"⟩
abbrev cX5_refuse : ByteArray := prog_7_method_4_code
def yX5_refuse : MethodName := ⟨RX5, "refuse", "()I"⟩
abbrev cX5_isPage : ByteArray := prog_7_method_5_code
def yX5_isPage : MethodName := ⟨RX5, "isPage", "(I)Z"⟩
abbrev cX5_has : ByteArray := prog_7_method_6_code
def yX5_has : MethodName := ⟨RX5, "has", "(III)Z"⟩
abbrev cX5_inks : ByteArray := prog_7_method_7_code
def yX5_inks : MethodName := ⟨RX5, "inks", "(IIIZ)V"⟩
abbrev cX5_clears : ByteArray := prog_7_method_8_code
def yX5_clears : MethodName := ⟨RX5, "clears", "(III)V"⟩
abbrev cX5_blank : ByteArray := prog_7_method_9_code
def yX5_blank : MethodName := ⟨RX5, "blank", "()V"⟩
abbrev cX5_becomes : ByteArray := prog_7_method_10_code
def yX5_becomes : MethodName := ⟨RX5, "becomes", "(III)V"⟩
abbrev cX5_page : ByteArray := prog_7_method_11_code
def yX5_page : MethodName := ⟨RX5, "page", "(II)I"⟩
abbrev cX5_copy : ByteArray := prog_7_method_12_code
def yX5_copy : MethodName := ⟨RX5, "copy", "(I)I"⟩
abbrev cX5_changing : ByteArray := prog_7_method_13_code
def yX5_changing : MethodName := ⟨RX5, "changing", "(I)V"⟩
abbrev cX5_back : ByteArray := prog_7_method_14_code
def yX5_back : MethodName := ⟨RX5, "back", "()I"⟩
abbrev cX5_isPoint : ByteArray := prog_7_method_15_code
def yX5_isPoint : MethodName := ⟨RX5, "isPoint", "(III)Z"⟩
abbrev cX5_set : ByteArray := prog_7_method_16_code
def yX5_set : MethodName := ⟨RX5, "set", "(IIIZ)Z"⟩
abbrev cX5_rowInk : ByteArray := prog_7_method_17_code
def yX5_rowInk : MethodName := ⟨RX5, "rowInk", "(II)I"⟩
abbrev cX5_columnInk : ByteArray := prog_7_method_18_code
def yX5_columnInk : MethodName := ⟨RX5, "columnInk", "(II)I"⟩
abbrev cX5_lays : ByteArray := prog_7_method_19_code
def yX5_lays : MethodName := ⟨RX5, "lays", "(IIJ)V"⟩
abbrev cX5_line : ByteArray := prog_7_method_20_code
def yX5_line : MethodName := ⟨RX5, "line", "(IIJ)I"⟩
abbrev cX5_lay : ByteArray := prog_7_method_21_code
def yX5_lay : MethodName := ⟨RX5, "lay", "(IIIIJJ)I"⟩
abbrev cX5_at : ByteArray := prog_7_method_22_code
def yX5_at : MethodName := ⟨RX5, "at", "(III)I"⟩
abbrev cX5_row : ByteArray := prog_7_method_23_code
def yX5_row : MethodName := ⟨RX5, "row", "(II)J"⟩
abbrev cX5_findsSpots : ByteArray := prog_7_method_24_code
def yX5_findsSpots : MethodName := ⟨RX5, "findsSpots", "(I)V"⟩
abbrev cX5_spreads : ByteArray := prog_7_method_25_code
def yX5_spreads : MethodName := ⟨RX5, "spreads", "(III)I"⟩
abbrev cX5_of : ByteArray := prog_7_method_26_code
def yX5_of : MethodName := ⟨RX5, "of", "(II)I"⟩
abbrev cX5_count : ByteArray := prog_7_method_27_code
def yX5_count : MethodName := ⟨RX5, "count", "(I)I"⟩
abbrev cX5_unlike : ByteArray := prog_7_method_28_code
def yX5_unlike : MethodName := ⟨RX5, "unlike", "(II)I"⟩
abbrev cX5_least : ByteArray := prog_7_method_29_code
def yX5_least : MethodName := ⟨RX5, "least", "(II)I"⟩
abbrev cX5_most : ByteArray := prog_7_method_30_code
def yX5_most : MethodName := ⟨RX5, "most", "(II)I"⟩
abbrev cX5_isShear : ByteArray := prog_7_method_31_code
def yX5_isShear : MethodName := ⟨RX5, "isShear", "(I)Z"⟩
abbrev cX5_goesAcross : ByteArray := prog_7_method_32_code
def yX5_goesAcross : MethodName := ⟨RX5, "goesAcross", "(II)Z"⟩
abbrev cX5_goesUp : ByteArray := prog_7_method_33_code
def yX5_goesUp : MethodName := ⟨RX5, "goesUp", "(II)Z"⟩
abbrev cX5_across : ByteArray := prog_7_method_34_code
def yX5_across : MethodName := ⟨RX5, "across", "(II)I"⟩
abbrev cX5_upright : ByteArray := prog_7_method_35_code
def yX5_upright : MethodName := ⟨RX5, "upright", "(II)I"⟩
abbrev cX5_turn : ByteArray := prog_7_method_36_code
def yX5_turn : MethodName := ⟨RX5, "turn", "(III)Z"⟩
abbrev cX5_sharpness : ByteArray := prog_7_method_37_code
def yX5_sharpness : MethodName := ⟨RX5, "sharpness", "(II)I"⟩
abbrev cX5_sharp : ByteArray := prog_7_method_38_code
def yX5_sharp : MethodName := ⟨RX5, "sharp", "(II)I"⟩
abbrev cX5_angle : ByteArray := prog_7_method_39_code
def yX5_angle : MethodName := ⟨RX5, "angle", "(I)I"⟩
abbrev cX5_steps : ByteArray := prog_7_method_40_code
def yX5_steps : MethodName := ⟨RX5, "steps", "(I)I"⟩
abbrev cX5_footOf : ByteArray := prog_7_method_41_code
def yX5_footOf : MethodName := ⟨RX5, "footOf", "(II)I"⟩
abbrev cX5_foot : ByteArray := prog_7_method_42_code
def yX5_foot : MethodName := ⟨RX5, "foot", "(II)I"⟩
abbrev cX5_bend : ByteArray := prog_7_method_43_code
def yX5_bend : MethodName := ⟨RX5, "bend", "(I)I"⟩
abbrev cX5_areSpecks : ByteArray := prog_7_method_44_code
def yX5_areSpecks : MethodName := ⟨RX5, "areSpecks", "(II)Z"⟩
abbrev cX5_findsSpecks : ByteArray := prog_7_method_45_code
def yX5_findsSpecks : MethodName := ⟨RX5, "findsSpecks", "(III)I"⟩
abbrev cX5_isNear : ByteArray := prog_7_method_46_code
def yX5_isNear : MethodName := ⟨RX5, "isNear", "(IIIII)Z"⟩
abbrev cX5_specks : ByteArray := prog_7_method_47_code
def yX5_specks : MethodName := ⟨RX5, "specks", "(III)I"⟩
abbrev cX5_takes : ByteArray := prog_7_method_48_code
def yX5_takes : MethodName := ⟨RX5, "takes", "(III)V"⟩
abbrev cX5_take : ByteArray := prog_7_method_49_code
def yX5_take : MethodName := ⟨RX5, "take", "(III)I"⟩
abbrev cX5_isDark : ByteArray := prog_7_method_50_code
def yX5_isDark : MethodName := ⟨RX5, "isDark", "(III)Z"⟩
abbrev cX5_shadow : ByteArray := prog_7_method_51_code
def yX5_shadow : MethodName := ⟨RX5, "shadow", "(II)I"⟩
abbrev cX5_listed : ByteArray := prog_7_method_52_code
def yX5_listed : MethodName := ⟨RX5, "listed", "(II)I"⟩
abbrev cX5_firstColumn : ByteArray := prog_7_method_53_code
def yX5_firstColumn : MethodName := ⟨RX5, "firstColumn", "(I)I"⟩
abbrev cX5_firstRow : ByteArray := prog_7_method_54_code
def yX5_firstRow : MethodName := ⟨RX5, "firstRow", "(I)I"⟩
abbrev cX5_lastColumn : ByteArray := prog_7_method_55_code
def yX5_lastColumn : MethodName := ⟨RX5, "lastColumn", "(I)I"⟩
abbrev cX5_lastRow : ByteArray := prog_7_method_56_code
def yX5_lastRow : MethodName := ⟨RX5, "lastRow", "(I)I"⟩
abbrev cX5_hasInk : ByteArray := prog_7_method_57_code
def yX5_hasInk : MethodName := ⟨RX5, "hasInk", "(I)Z"⟩
abbrev cX5_box : ByteArray := prog_7_method_58_code
def yX5_box : MethodName := ⟨RX5, "box", "(II)I"⟩
abbrev cX5_cut : ByteArray := prog_7_method_59_code
def yX5_cut : MethodName := ⟨RX5, "cut", "(II)Z"⟩
abbrev cX5_spans : ByteArray := prog_7_method_60_code
def yX5_spans : MethodName := ⟨RX5, "spans", "(III)I"⟩
abbrev cX5_told : ByteArray := prog_7_method_61_code
def yX5_told : MethodName := ⟨RX5, "told", "(I)I"⟩
abbrev cX5_part : ByteArray := prog_7_method_62_code
def yX5_part : MethodName := ⟨RX5, "part", "(IIII)I"⟩
def RJ13 : String := "java/lang/Long"
def TJ13 : u_T := fun k => match k with
  | _ => ("", "", "", false)
def tyJ13 : Nat → FieldType := fun k => match k with
  | _ => .int
abbrev wsJ130 : List Cond := u_ws RJ13 TJ13 0
theorem nmJ13 : ∀ a, a < 0 → ∀ b, b < 0 → a ≠ b → (TJ13 a).2.1 ≠ (TJ13 b).2.1 := by decide +kernel
theorem tyJ13_ok : ∀ k, k < 0 → parseFieldDescriptor (TJ13 k).2.2.1 = some (tyJ13 k) := by decide +kernel
abbrev cJ13_bitCount_95d88 : ByteArray := prog_9_method_50_code
def yJ13_bitCount_95d88 : MethodName := ⟨RJ13, "bitCount", "(J)I"⟩
def RJ9 : String := "java/lang/Math"
def TJ9 : u_T := fun k => match k with
  | _ => ("", "", "", false)
def tyJ9 : Nat → FieldType := fun k => match k with
  | _ => .int
abbrev wsJ90 : List Cond := u_ws RJ9 TJ9 0
theorem nmJ9 : ∀ a, a < 0 → ∀ b, b < 0 → a ≠ b → (TJ9 a).2.1 ≠ (TJ9 b).2.1 := by decide +kernel
theorem tyJ9_ok : ∀ k, k < 0 → parseFieldDescriptor (TJ9 k).2.2.1 = some (tyJ9 k) := by decide +kernel
abbrev cJ9_floorDiv_7cf53 : ByteArray := prog_10_method_47_code
def yJ9_floorDiv_7cf53 : MethodName := ⟨RJ9, "floorDiv", "(II)I"⟩
abbrev cJ9_abs_0f7a4 : ByteArray := prog_10_method_59_code
def yJ9_abs_0f7a4 : MethodName := ⟨RJ9, "abs", "(I)I"⟩
abbrev cJ9_max_7cf53 : ByteArray := prog_10_method_65_code
def yJ9_max_7cf53 : MethodName := ⟨RJ9, "max", "(II)I"⟩
abbrev cJ9_min_7cf53 : ByteArray := prog_10_method_69_code
def yJ9_min_7cf53 : MethodName := ⟨RJ9, "min", "(II)I"⟩
def RJ0 : String := "java/lang/String"
def TJ0 : u_T := fun k => match k with
  | _ => ("", "", "", false)
def tyJ0 : Nat → FieldType := fun k => match k with
  | _ => .int
abbrev wsJ00 : List Cond := u_ws RJ0 TJ0 0
theorem nmJ0 : ∀ a, a < 0 → ∀ b, b < 0 → a ≠ b → (TJ0 a).2.1 ≠ (TJ0 b).2.1 := by decide +kernel
theorem tyJ0_ok : ∀ k, k < 0 → parseFieldDescriptor (TJ0 k).2.2.1 = some (tyJ0 k) := by decide +kernel
def RJ10 : String := "java/lang/System"
def TJ10 : u_T := fun k => match k with
  | _ => ("", "", "", false)
def tyJ10 : Nat → FieldType := fun k => match k with
  | _ => .int
abbrev wsJ100 : List Cond := u_ws RJ10 TJ10 0
theorem nmJ10 : ∀ a, a < 0 → ∀ b, b < 0 → a ≠ b → (TJ10 a).2.1 ≠ (TJ10 b).2.1 := by decide +kernel
theorem tyJ10_ok : ∀ k, k < 0 → parseFieldDescriptor (TJ10 k).2.2.1 = some (tyJ10 k) := by decide +kernel
def RJ7 : String := "java/util/Arrays"
def TJ7 : u_T := fun k => match k with
  | _ => ("", "", "", false)
def tyJ7 : Nat → FieldType := fun k => match k with
  | _ => .int
abbrev wsJ70 : List Cond := u_ws RJ7 TJ7 0
theorem nmJ7 : ∀ a, a < 0 → ∀ b, b < 0 → a ≠ b → (TJ7 a).2.1 ≠ (TJ7 b).2.1 := by decide +kernel
theorem tyJ7_ok : ∀ k, k < 0 → parseFieldDescriptor (TJ7 k).2.2.1 = some (tyJ7 k) := by decide +kernel
abbrev cJ7_fill_d0a16 : ByteArray := prog_15_method_101_code
def yJ7_fill_d0a16 : MethodName := ⟨RJ7, "fill", "([JJ)V"⟩
def RL : String := "StraightPagesLaw"
abbrev cL_row : ByteArray := method_3_code
def yL_row : MethodName := ⟨RL, "row", "(LStraightPages;II[J)I"⟩
abbrev cL_listed : ByteArray := method_4_code
def yL_listed : MethodName := ⟨RL, "listed", "(LStraightPages;II[J)I"⟩
abbrev cL_told : ByteArray := method_5_code
def yL_told : MethodName := ⟨RL, "told", "(LStraightPages;I[J)I"⟩
abbrev cL_law : ByteArray := code
def yL_law : MethodName := ⟨RL, "law", "([I)Z"⟩
def wsX2_init : List Cond := .code yX2_init cX2_init 2 none :: ([.methodLink RX2 3 objectInit, .instanceMethod objectInit, .code objectInit ⟨#[0xb1]⟩ 1 none, .fieldLink RX2 9 "StraightPages$Sheet" "wide" "I", .fieldLink RX2 15 "StraightPages$Sheet" "high" "I", .arrayClass .long, .fieldLink RX2 18 "StraightPages$Sheet" "rows" "[J"] ++ wsX20)
def wsX0_init : List Cond := .code yX0_init cX0_init 1 none :: ([.methodLink RX0 3 objectInit, .instanceMethod objectInit, .code objectInit ⟨#[0xb1]⟩ 1 none, .fieldLink RX0 9 "StraightPages$Change" "page" "I", .fieldLink RX0 15 "StraightPages$Change" "made" "I", .classLink RX0 18 RX2, .instantiable RX2 3, .initialized RX2, .fieldLink RX0 23 "StraightPages$Change" "before" "LStraightPages$Sheet;", .methodLink RX0 20 yX2_init, .instanceMethod yX2_init, .code yX2_init cX2_init 2 none, .methodLink RX2 3 objectInit, .fieldLink RX2 9 "StraightPages$Sheet" "wide" "I", .fieldLink RX2 15 "StraightPages$Sheet" "high" "I", .arrayClass .long, .fieldLink RX2 18 "StraightPages$Sheet" "rows" "[J"] ++ wsX00 ++ wsX20)
def wsX1_init_r1 : List Cond := [Cond.methodLink RX1 3 objectInit, Cond.instanceMethod objectInit, Cond.code objectInit ⟨#[0xb1]⟩ 1 none, Cond.classLink RX1 9 RX0, Cond.fieldLink RX1 11 "StraightPages$History" "ring" "[LStraightPages$Change;", Cond.instantiable RX0 3, Cond.initialized RX0, Cond.fieldLink RX1 18 "StraightPages$History" "next" "I", Cond.fieldLink RX1 22 "StraightPages$History" "kept" "I", Cond.methodLink RX1 17 yX0_init, Cond.instanceMethod yX0_init, Cond.code yX0_init cX0_init 1 none, Cond.methodLink RX0 3 objectInit, Cond.fieldLink RX0 9 "StraightPages$Change" "page" "I", Cond.fieldLink RX0 15 "StraightPages$Change" "made" "I", Cond.classLink RX0 18 RX2, Cond.instantiable RX2 3, Cond.initialized RX2, Cond.fieldLink RX0 23 "StraightPages$Change" "before" "LStraightPages$Sheet;", Cond.methodLink RX0 20 yX2_init, Cond.instanceMethod yX2_init, Cond.code yX2_init cX2_init 2 none, Cond.methodLink RX2 3 objectInit, Cond.fieldLink RX2 9 "StraightPages$Sheet" "wide" "I"]
def wsX1_init_r2 : List Cond := [Cond.fieldLink RX2 15 "StraightPages$Sheet" "high" "I", Cond.arrayClass .long, Cond.fieldLink RX2 18 "StraightPages$Sheet" "rows" "[J"]
def wsX1_init : List Cond := .code yX1_init cX1_init 2 none :: ((wsX1_init_r1 ++ wsX1_init_r2) ++ wsX10 ++ wsX00 ++ wsX20)
def wsJ7_fill_d0a16 : List Cond := .code yJ7_fill_d0a16 cJ7_fill_d0a16 5 none :: ([])
def wsX2_empty : List Cond := .code yX2_empty cX2_empty 3 none :: ([.fieldLink RX2 9 "StraightPages$Sheet" "wide" "I", .fieldLink RX2 15 "StraightPages$Sheet" "high" "I", .fieldLink RX2 18 "StraightPages$Sheet" "rows" "[J", .methodLink RX2 22 yJ7_fill_d0a16, .static yJ7_fill_d0a16, .initialized RJ7, .code yJ7_fill_d0a16 cJ7_fill_d0a16 5 none] ++ wsX20)
def wsX2_become : List Cond := .code yX2_become cX2_become 2 none :: ([.fieldLink RX2 9 "StraightPages$Sheet" "wide" "I", .fieldLink RX2 15 "StraightPages$Sheet" "high" "I", .fieldLink RX2 18 "StraightPages$Sheet" "rows" "[J", .methodLink RX2 32 arraycopyName, .native arraycopyName, .static arraycopyName, .initialized "java/lang/System", .methodLink RX2 28 yX2_empty, .instanceMethod yX2_empty, .selects RX2 yX2_empty yX2_empty, .initialized RX2, .code yX2_empty cX2_empty 3 none, .methodLink RX2 22 yJ7_fill_d0a16, .static yJ7_fill_d0a16, .initialized RJ7, .code yJ7_fill_d0a16 cJ7_fill_d0a16 5 none] ++ wsX20)
def wsX1_remember_r1 : List Cond := [Cond.fieldLink RX1 11 "StraightPages$History" "ring" "[LStraightPages$Change;", Cond.fieldLink RX1 18 "StraightPages$History" "next" "I", Cond.fieldLink RX1 25 "StraightPages$Change" "page" "I", Cond.fieldLink RX1 28 "StraightPages$Change" "made" "I", Cond.fieldLink RX1 31 "StraightPages$Change" "before" "LStraightPages$Sheet;", Cond.fieldLink RX1 22 "StraightPages$History" "kept" "I", Cond.methodLink RX1 41 Lib.Math.min.name, Cond.static Lib.Math.min.name, Cond.initialized "java/lang/Math", Cond.code Lib.Math.min.name Lib.Math.min.code 2 (some .int), Cond.methodLink RX1 35 yX2_become, Cond.instanceMethod yX2_become, Cond.selects RX2 yX2_become yX2_become, Cond.initialized RX2, Cond.code yX2_become cX2_become 2 none, Cond.fieldLink RX2 9 "StraightPages$Sheet" "wide" "I", Cond.fieldLink RX2 15 "StraightPages$Sheet" "high" "I", Cond.fieldLink RX2 18 "StraightPages$Sheet" "rows" "[J", Cond.methodLink RX2 32 arraycopyName, Cond.native arraycopyName, Cond.static arraycopyName, Cond.initialized "java/lang/System", Cond.methodLink RX2 28 yX2_empty, Cond.instanceMethod yX2_empty]
def wsX1_remember_r2 : List Cond := [Cond.selects RX2 yX2_empty yX2_empty, Cond.code yX2_empty cX2_empty 3 none, Cond.methodLink RX2 22 yJ7_fill_d0a16, Cond.static yJ7_fill_d0a16, Cond.initialized RJ7, Cond.code yJ7_fill_d0a16 cJ7_fill_d0a16 5 none]
def wsX1_remember : List Cond := .code yX1_remember cX1_remember 5 none :: ((wsX1_remember_r1 ++ wsX1_remember_r2) ++ wsX10 ++ wsX00 ++ wsX20)
def wsX1_takeLatest : List Cond := .code yX1_takeLatest cX1_takeLatest 1 (some (.object "StraightPages$Change")) :: ([.fieldLink RX1 22 "StraightPages$History" "kept" "I", .fieldLink RX1 18 "StraightPages$History" "next" "I", .fieldLink RX1 11 "StraightPages$History" "ring" "[LStraightPages$Change;"] ++ wsX10)
def wsX1_forget : List Cond := .code yX1_forget cX1_forget 1 none :: ([.fieldLink RX1 22 "StraightPages$History" "kept" "I"] ++ wsX10)
def wsX2_hasRow : List Cond := .code yX2_hasRow cX2_hasRow 2 (some .boolean) :: ([.fieldLink RX2 15 "StraightPages$Sheet" "high" "I"] ++ wsX20)
def wsX4_within : List Cond := .code yX4_within cX4_within 3 (some .boolean) :: ([])
def wsX2_hasPoint : List Cond := .code yX2_hasPoint cX2_hasPoint 3 (some .boolean) :: ([.fieldLink RX2 9 "StraightPages$Sheet" "wide" "I", .static yX4_within, .initialized RX4, .code yX4_within cX4_within 3 (some .boolean), .methodLink RX2 42 yX2_hasRow, .instanceMethod yX2_hasRow, .selects RX2 yX2_hasRow yX2_hasRow, .initialized RX2, .code yX2_hasRow cX2_hasRow 2 (some .boolean), .fieldLink RX2 15 "StraightPages$Sheet" "high" "I"] ++ wsX20)
def wsX2_allColumns : List Cond := .code yX2_allColumns cX2_allColumns 1 (some .long) :: ([.fieldLink RX2 9 "StraightPages$Sheet" "wide" "I", .constantLong RX2 46 (-1)] ++ wsX20)
def wsJ13_bitCount_95d88 : List Cond := .code yJ13_bitCount_95d88 cJ13_bitCount_95d88 2 (some .int) :: ([.constantLong RJ13 314 (6148914691236517205), .constantLong RJ13 316 (3689348814741910323), .constantLong RJ13 318 (1085102592571150095)])
def wsX2_ink : List Cond := .code yX2_ink cX2_ink 3 (some .int) :: ([.fieldLink RX2 15 "StraightPages$Sheet" "high" "I", .fieldLink RX2 18 "StraightPages$Sheet" "rows" "[J", .methodLink RX2 48 yJ13_bitCount_95d88, .static yJ13_bitCount_95d88, .initialized RJ13, .code yJ13_bitCount_95d88 cJ13_bitCount_95d88 2 (some .int), .constantLong RJ13 314 (6148914691236517205), .constantLong RJ13 316 (3689348814741910323), .constantLong RJ13 318 (1085102592571150095)] ++ wsX20)
def wsX2_columnInk : List Cond := .code yX2_columnInk cX2_columnInk 4 (some .int) :: ([.fieldLink RX2 15 "StraightPages$Sheet" "high" "I", .fieldLink RX2 18 "StraightPages$Sheet" "rows" "[J"] ++ wsX20)
def wsX2_inkedColumns : List Cond := .code yX2_inkedColumns cX2_inkedColumns 4 (some .long) :: ([.fieldLink RX2 15 "StraightPages$Sheet" "high" "I", .fieldLink RX2 18 "StraightPages$Sheet" "rows" "[J"] ++ wsX20)
def wsX2_inkedRows : List Cond := .code yX2_inkedRows cX2_inkedRows 4 (some .long) :: ([.fieldLink RX2 15 "StraightPages$Sheet" "high" "I", .fieldLink RX2 18 "StraightPages$Sheet" "rows" "[J"] ++ wsX20)
def wsX2_hasInk : List Cond := .code yX2_hasInk cX2_hasInk 1 (some .boolean) :: ([.methodLink RX2 54 yX2_inkedColumns, .instanceMethod yX2_inkedColumns, .selects RX2 yX2_inkedColumns yX2_inkedColumns, .initialized RX2, .code yX2_inkedColumns cX2_inkedColumns 4 (some .long), .fieldLink RX2 15 "StraightPages$Sheet" "high" "I", .fieldLink RX2 18 "StraightPages$Sheet" "rows" "[J"] ++ wsX20)
def wsX2_steps : List Cond := .code yX2_steps cX2_steps 1 (some .int) :: ([.fieldLink RX2 9 "StraightPages$Sheet" "wide" "I"] ++ wsX20)
def wsX4_stepColumns : List Cond := .code yX4_stepColumns cX4_stepColumns 1 (some .long) :: ([.constantLong RX4 238 (255)])
def wsX2_footOf : List Cond := .code yX2_footOf cX2_footOf 3 (some .int) :: ([.fieldLink RX2 15 "StraightPages$Sheet" "high" "I", .fieldLink RX2 18 "StraightPages$Sheet" "rows" "[J", .static yX4_stepColumns, .initialized RX4, .code yX4_stepColumns cX4_stepColumns 1 (some .long), .constantLong RX4 238 (255)] ++ wsX20)
def wsJ9_floorDiv_7cf53 : List Cond := .code yJ9_floorDiv_7cf53 cJ9_floorDiv_7cf53 3 (some .int) :: ([])
def wsX4_slide : List Cond := .code yX4_slide cX4_slide 2 (some .int) :: ([.methodLink RX4 247 yJ9_floorDiv_7cf53, .static yJ9_floorDiv_7cf53, .initialized RJ9, .code yJ9_floorDiv_7cf53 cJ9_floorDiv_7cf53 3 (some .int)])
def wsX4_leastSlide : List Cond := .code yX4_leastSlide cX4_leastSlide 2 (some .int) :: ([.methodLink RX4 100 Lib.Math.min.name, .static Lib.Math.min.name, .initialized "java/lang/Math", .code Lib.Math.min.name Lib.Math.min.code 2 (some .int), .methodLink RX4 250 yX4_slide, .static yX4_slide, .initialized RX4, .code yX4_slide cX4_slide 2 (some .int), .methodLink RX4 247 yJ9_floorDiv_7cf53, .static yJ9_floorDiv_7cf53, .initialized RJ9, .code yJ9_floorDiv_7cf53 cJ9_floorDiv_7cf53 3 (some .int)])
def wsX4_spread : List Cond := .code yX4_spread cX4_spread 2 (some .int) :: ([.methodLink RX4 253 Lib.Math.abs.name, .static Lib.Math.abs.name, .initialized "java/lang/Math", .code Lib.Math.abs.name Lib.Math.abs.code 1 (some .int), .methodLink RX4 250 yX4_slide, .static yX4_slide, .initialized RX4, .code yX4_slide cX4_slide 2 (some .int), .methodLink RX4 247 yJ9_floorDiv_7cf53, .static yJ9_floorDiv_7cf53, .initialized RJ9, .code yJ9_floorDiv_7cf53 cJ9_floorDiv_7cf53 3 (some .int)])
def wsX2_shearAcross : List Cond := .code yX2_shearAcross cX2_shearAcross 4 none :: ([.fieldLink RX2 15 "StraightPages$Sheet" "high" "I", .fieldLink RX2 18 "StraightPages$Sheet" "rows" "[J", .fieldLink RX2 9 "StraightPages$Sheet" "wide" "I", .static yX4_leastSlide, .initialized RX4, .code yX4_leastSlide cX4_leastSlide 2 (some .int), .methodLink RX4 100 Lib.Math.min.name, .static Lib.Math.min.name, .initialized "java/lang/Math", .code Lib.Math.min.name Lib.Math.min.code 2 (some .int), .methodLink RX4 250 yX4_slide, .static yX4_slide, .code yX4_slide cX4_slide 2 (some .int), .methodLink RX4 247 yJ9_floorDiv_7cf53, .static yJ9_floorDiv_7cf53, .initialized RJ9, .code yJ9_floorDiv_7cf53 cJ9_floorDiv_7cf53 3 (some .int), .static yX4_spread, .code yX4_spread cX4_spread 2 (some .int), .methodLink RX4 253 Lib.Math.abs.name, .static Lib.Math.abs.name, .code Lib.Math.abs.name Lib.Math.abs.code 1 (some .int)] ++ wsX20)
def wsX2_addDropped : List Cond := .code yX2_addDropped cX2_addDropped 6 none :: ([.fieldLink RX2 15 "StraightPages$Sheet" "high" "I", .fieldLink RX2 18 "StraightPages$Sheet" "rows" "[J"] ++ wsX20)
def wsX2_becomeShearedUp_r1 : List Cond := [Cond.fieldLink RX2 9 "StraightPages$Sheet" "wide" "I", Cond.fieldLink RX2 15 "StraightPages$Sheet" "high" "I", Cond.static yX4_spread, Cond.initialized RX4, Cond.code yX4_spread cX4_spread 2 (some .int), Cond.methodLink RX4 253 Lib.Math.abs.name, Cond.static Lib.Math.abs.name, Cond.initialized "java/lang/Math", Cond.code Lib.Math.abs.name Lib.Math.abs.code 1 (some .int), Cond.methodLink RX4 250 yX4_slide, Cond.static yX4_slide, Cond.code yX4_slide cX4_slide 2 (some .int), Cond.methodLink RX4 247 yJ9_floorDiv_7cf53, Cond.static yJ9_floorDiv_7cf53, Cond.initialized RJ9, Cond.code yJ9_floorDiv_7cf53 cJ9_floorDiv_7cf53 3 (some .int), Cond.methodLink RX2 28 yX2_empty, Cond.instanceMethod yX2_empty, Cond.selects RX2 yX2_empty yX2_empty, Cond.initialized RX2, Cond.code yX2_empty cX2_empty 3 none, Cond.fieldLink RX2 18 "StraightPages$Sheet" "rows" "[J", Cond.methodLink RX2 22 yJ7_fill_d0a16, Cond.static yJ7_fill_d0a16]
def wsX2_becomeShearedUp_r2 : List Cond := [Cond.initialized RJ7, Cond.code yJ7_fill_d0a16 cJ7_fill_d0a16 5 none, Cond.static yX4_leastSlide, Cond.code yX4_leastSlide cX4_leastSlide 2 (some .int), Cond.methodLink RX4 100 Lib.Math.min.name, Cond.static Lib.Math.min.name, Cond.code Lib.Math.min.name Lib.Math.min.code 2 (some .int), Cond.methodLink RX2 72 yX2_addDropped, Cond.instanceMethod yX2_addDropped, Cond.selects RX2 yX2_addDropped yX2_addDropped, Cond.code yX2_addDropped cX2_addDropped 6 none]
def wsX2_becomeShearedUp : List Cond := .code yX2_becomeShearedUp cX2_becomeShearedUp 7 none :: ((wsX2_becomeShearedUp_r1 ++ wsX2_becomeShearedUp_r2) ++ wsX20)
def wsX2_isDark : List Cond := .code yX2_isDark cX2_isDark 3 (some .boolean) :: ([.fieldLink RX2 15 "StraightPages$Sheet" "high" "I", .methodLink RX2 76 yX2_columnInk, .instanceMethod yX2_columnInk, .selects RX2 yX2_columnInk yX2_columnInk, .initialized RX2, .code yX2_columnInk cX2_columnInk 4 (some .int), .fieldLink RX2 18 "StraightPages$Sheet" "rows" "[J"] ++ wsX20)
def wsX2_shadowColumns : List Cond := .code yX2_shadowColumns cX2_shadowColumns 5 (some .long) :: ([.fieldLink RX2 9 "StraightPages$Sheet" "wide" "I", .methodLink RX2 80 yX2_isDark, .instanceMethod yX2_isDark, .selects RX2 yX2_isDark yX2_isDark, .initialized RX2, .code yX2_isDark cX2_isDark 3 (some .boolean), .fieldLink RX2 15 "StraightPages$Sheet" "high" "I", .methodLink RX2 76 yX2_columnInk, .instanceMethod yX2_columnInk, .selects RX2 yX2_columnInk yX2_columnInk, .code yX2_columnInk cX2_columnInk 4 (some .int), .fieldLink RX2 18 "StraightPages$Sheet" "rows" "[J", .methodLink RX2 84 yX2_allColumns, .instanceMethod yX2_allColumns, .selects RX2 yX2_allColumns yX2_allColumns, .code yX2_allColumns cX2_allColumns 1 (some .long), .constantLong RX2 46 (-1)] ++ wsX20)
def wsX2_faintestColumn : List Cond := .code yX2_faintestColumn cX2_faintestColumn 8 (some .int) :: ([.methodLink RX2 87 Lib.Math.abs.name, .static Lib.Math.abs.name, .initialized "java/lang/Math", .code Lib.Math.abs.name Lib.Math.abs.code 1 (some .int), .methodLink RX2 76 yX2_columnInk, .instanceMethod yX2_columnInk, .selects RX2 yX2_columnInk yX2_columnInk, .initialized RX2, .code yX2_columnInk cX2_columnInk 4 (some .int), .fieldLink RX2 15 "StraightPages$Sheet" "high" "I", .fieldLink RX2 18 "StraightPages$Sheet" "rows" "[J"] ++ wsX20)
def wsX2_moveRightPart : List Cond := .code yX2_moveRightPart cX2_moveRightPart 4 none :: ([.fieldLink RX2 9 "StraightPages$Sheet" "wide" "I", .fieldLink RX2 15 "StraightPages$Sheet" "high" "I", .fieldLink RX2 18 "StraightPages$Sheet" "rows" "[J", .methodLink RX2 28 yX2_empty, .instanceMethod yX2_empty, .selects RX2 yX2_empty yX2_empty, .initialized RX2, .code yX2_empty cX2_empty 3 none, .methodLink RX2 22 yJ7_fill_d0a16, .static yJ7_fill_d0a16, .initialized RJ7, .code yJ7_fill_d0a16 cJ7_fill_d0a16 5 none, .methodLink RX2 84 yX2_allColumns, .instanceMethod yX2_allColumns, .selects RX2 yX2_allColumns yX2_allColumns, .code yX2_allColumns cX2_allColumns 1 (some .long), .constantLong RX2 46 (-1)] ++ wsX20)
def wsX3_init : List Cond := .code yX3_init cX3_init 1 none :: ([.methodLink RX3 3 objectInit, .instanceMethod objectInit, .code objectInit ⟨#[0xb1]⟩ 1 none, .classLink RX3 9 RX2, .instantiable RX2 3, .initialized RX2, .fieldLink RX3 14 "StraightPages$Spots" "specks" "LStraightPages$Sheet;", .fieldLink RX3 20 "StraightPages$Spots" "left" "LStraightPages$Sheet;", .fieldLink RX3 23 "StraightPages$Spots" "spot" "LStraightPages$Sheet;", .fieldLink RX3 26 "StraightPages$Spots" "near" "LStraightPages$Sheet;", .arrayClass .long, .fieldLink RX3 29 "StraightPages$Spots" "waiting" "[J", .fieldLink RX3 33 "StraightPages$Spots" "waitingRows" "J", .fieldLink RX3 37 "StraightPages$Spots" "points" "I", .fieldLink RX3 41 "StraightPages$Spots" "top" "I", .fieldLink RX3 44 "StraightPages$Spots" "bottom" "I", .fieldLink RX3 47 "StraightPages$Spots" "firstLeft" "I", .methodLink RX3 11 yX2_init, .instanceMethod yX2_init, .code yX2_init cX2_init 2 none, .methodLink RX2 3 objectInit, .fieldLink RX2 9 "StraightPages$Sheet" "wide" "I", .fieldLink RX2 15 "StraightPages$Sheet" "high" "I", .fieldLink RX2 18 "StraightPages$Sheet" "rows" "[J"] ++ wsX20 ++ wsX30)
def wsX3_begin_r1 : List Cond := [Cond.fieldLink RX3 20 "StraightPages$Spots" "left" "LStraightPages$Sheet;", Cond.fieldLink RX3 23 "StraightPages$Spots" "spot" "LStraightPages$Sheet;", Cond.fieldLink RX3 68 "StraightPages$Sheet" "wide" "I", Cond.fieldLink RX3 71 "StraightPages$Sheet" "high" "I", Cond.fieldLink RX3 41 "StraightPages$Spots" "top" "I", Cond.fieldLink RX3 44 "StraightPages$Spots" "bottom" "I", Cond.fieldLink RX3 47 "StraightPages$Spots" "firstLeft" "I", Cond.methodLink RX3 98 yX2_become, Cond.instanceMethod yX2_become, Cond.selects RX2 yX2_become yX2_become, Cond.initialized RX2, Cond.code yX2_become cX2_become 2 none, Cond.fieldLink RX2 9 "StraightPages$Sheet" "wide" "I", Cond.fieldLink RX2 15 "StraightPages$Sheet" "high" "I", Cond.fieldLink RX2 18 "StraightPages$Sheet" "rows" "[J", Cond.methodLink RX2 32 arraycopyName, Cond.native arraycopyName, Cond.static arraycopyName, Cond.initialized "java/lang/System", Cond.methodLink RX2 28 yX2_empty, Cond.instanceMethod yX2_empty, Cond.selects RX2 yX2_empty yX2_empty, Cond.code yX2_empty cX2_empty 3 none, Cond.methodLink RX2 22 yJ7_fill_d0a16]
def wsX3_begin_r2 : List Cond := [Cond.static yJ7_fill_d0a16, Cond.initialized RJ7, Cond.code yJ7_fill_d0a16 cJ7_fill_d0a16 5 none, Cond.methodLink RX3 74 yX2_empty]
def wsX3_begin : List Cond := .code yX3_begin cX3_begin 2 none :: ((wsX3_begin_r1 ++ wsX3_begin_r2) ++ wsX30 ++ wsX20)
def wsX3_clearSpot : List Cond := .code yX3_clearSpot cX3_clearSpot 2 none :: ([.fieldLink RX3 41 "StraightPages$Spots" "top" "I", .fieldLink RX3 44 "StraightPages$Spots" "bottom" "I", .fieldLink RX3 23 "StraightPages$Spots" "spot" "LStraightPages$Sheet;", .fieldLink RX3 87 "StraightPages$Sheet" "rows" "[J", .fieldLink RX3 37 "StraightPages$Spots" "points" "I"] ++ wsX30 ++ wsX20)
def wsX3_runsAt : List Cond := .code yX3_runsAt cX3_runsAt 13 (some .long) :: ([])
def wsX3_admit_r1 : List Cond := [Cond.fieldLink RX3 20 "StraightPages$Spots" "left" "LStraightPages$Sheet;", Cond.fieldLink RX3 87 "StraightPages$Sheet" "rows" "[J", Cond.constantLong RX3 115 (-1), Cond.fieldLink RX3 23 "StraightPages$Spots" "spot" "LStraightPages$Sheet;", Cond.fieldLink RX3 29 "StraightPages$Spots" "waiting" "[J", Cond.fieldLink RX3 33 "StraightPages$Spots" "waitingRows" "J", Cond.fieldLink RX3 37 "StraightPages$Spots" "points" "I", Cond.fieldLink RX3 41 "StraightPages$Spots" "top" "I", Cond.methodLink RX3 130 Lib.Math.min.name, Cond.static Lib.Math.min.name, Cond.initialized "java/lang/Math", Cond.code Lib.Math.min.name Lib.Math.min.code 2 (some .int), Cond.fieldLink RX3 44 "StraightPages$Spots" "bottom" "I", Cond.methodLink RX3 58 Lib.Math.max.name, Cond.static Lib.Math.max.name, Cond.code Lib.Math.max.name Lib.Math.max.code 2 (some .int), Cond.methodLink RX3 117 yX2_hasRow, Cond.instanceMethod yX2_hasRow, Cond.selects RX2 yX2_hasRow yX2_hasRow, Cond.initialized RX2, Cond.code yX2_hasRow cX2_hasRow 2 (some .boolean), Cond.fieldLink RX2 15 "StraightPages$Sheet" "high" "I", Cond.methodLink RX3 121 yX3_runsAt, Cond.static yX3_runsAt]
def wsX3_admit_r2 : List Cond := [Cond.initialized RX3, Cond.code yX3_runsAt cX3_runsAt 13 (some .long), Cond.methodLink RX3 125 yJ13_bitCount_95d88, Cond.static yJ13_bitCount_95d88, Cond.initialized RJ13, Cond.code yJ13_bitCount_95d88 cJ13_bitCount_95d88 2 (some .int), Cond.constantLong RJ13 314 (6148914691236517205), Cond.constantLong RJ13 316 (3689348814741910323), Cond.constantLong RJ13 318 (1085102592571150095)]
def wsX3_admit : List Cond := .code yX3_admit cX3_admit 6 none :: ((wsX3_admit_r1 ++ wsX3_admit_r2) ++ wsX30 ++ wsX20)
def wsX4_lowestBit : List Cond := .code yX4_lowestBit cX4_lowestBit 2 (some .int) :: ([.methodLink RX4 88 yJ13_bitCount_95d88, .static yJ13_bitCount_95d88, .initialized RJ13, .code yJ13_bitCount_95d88 cJ13_bitCount_95d88 2 (some .int), .constantLong RJ13 314 (6148914691236517205), .constantLong RJ13 316 (3689348814741910323), .constantLong RJ13 318 (1085102592571150095)])
def wsX3_widened : List Cond := .code yX3_widened cX3_widened 2 (some .long) :: ([])
def wsX3_growFrom_r1 : List Cond := [Cond.fieldLink RX3 29 "StraightPages$Spots" "waiting" "[J", Cond.fieldLink RX3 33 "StraightPages$Spots" "waitingRows" "J", Cond.constantLong RX3 115 (-1), Cond.methodLink RX3 90 yX3_widened, Cond.static yX3_widened, Cond.initialized RX3, Cond.code yX3_widened cX3_widened 2 (some .long), Cond.methodLink RX3 104 yX3_admit, Cond.instanceMethod yX3_admit, Cond.selects RX3 yX3_admit yX3_admit, Cond.code yX3_admit cX3_admit 6 none, Cond.fieldLink RX3 20 "StraightPages$Spots" "left" "LStraightPages$Sheet;", Cond.fieldLink RX3 87 "StraightPages$Sheet" "rows" "[J", Cond.fieldLink RX3 23 "StraightPages$Spots" "spot" "LStraightPages$Sheet;", Cond.fieldLink RX3 37 "StraightPages$Spots" "points" "I", Cond.fieldLink RX3 41 "StraightPages$Spots" "top" "I", Cond.methodLink RX3 130 Lib.Math.min.name, Cond.static Lib.Math.min.name, Cond.initialized "java/lang/Math", Cond.code Lib.Math.min.name Lib.Math.min.code 2 (some .int), Cond.fieldLink RX3 44 "StraightPages$Spots" "bottom" "I", Cond.methodLink RX3 58 Lib.Math.max.name, Cond.static Lib.Math.max.name, Cond.code Lib.Math.max.name Lib.Math.max.code 2 (some .int)]
def wsX3_growFrom_r2 : List Cond := [Cond.methodLink RX3 117 yX2_hasRow, Cond.instanceMethod yX2_hasRow, Cond.selects RX2 yX2_hasRow yX2_hasRow, Cond.initialized RX2, Cond.code yX2_hasRow cX2_hasRow 2 (some .boolean), Cond.fieldLink RX2 15 "StraightPages$Sheet" "high" "I", Cond.methodLink RX3 121 yX3_runsAt, Cond.static yX3_runsAt, Cond.code yX3_runsAt cX3_runsAt 13 (some .long), Cond.methodLink RX3 125 yJ13_bitCount_95d88, Cond.static yJ13_bitCount_95d88, Cond.initialized RJ13, Cond.code yJ13_bitCount_95d88 cJ13_bitCount_95d88 2 (some .int), Cond.constantLong RJ13 314 (6148914691236517205), Cond.constantLong RJ13 316 (3689348814741910323), Cond.constantLong RJ13 318 (1085102592571150095)]
def wsX3_growFrom : List Cond := .code yX3_growFrom cX3_growFrom 4 none :: ((wsX3_growFrom_r1 ++ wsX3_growFrom_r2) ++ wsX30 ++ wsX20)
def wsX3_next_r1 : List Cond := [Cond.fieldLink RX3 47 "StraightPages$Spots" "firstLeft" "I", Cond.fieldLink RX3 20 "StraightPages$Spots" "left" "LStraightPages$Sheet;", Cond.fieldLink RX3 71 "StraightPages$Sheet" "high" "I", Cond.fieldLink RX3 87 "StraightPages$Sheet" "rows" "[J", Cond.fieldLink RX3 41 "StraightPages$Spots" "top" "I", Cond.fieldLink RX3 44 "StraightPages$Spots" "bottom" "I", Cond.fieldLink RX3 33 "StraightPages$Spots" "waitingRows" "J", Cond.methodLink RX3 101 yX3_clearSpot, Cond.instanceMethod yX3_clearSpot, Cond.selects RX3 yX3_clearSpot yX3_clearSpot, Cond.initialized RX3, Cond.code yX3_clearSpot cX3_clearSpot 2 none, Cond.fieldLink RX3 23 "StraightPages$Spots" "spot" "LStraightPages$Sheet;", Cond.fieldLink RX3 37 "StraightPages$Spots" "points" "I", Cond.methodLink RX3 104 yX3_admit, Cond.instanceMethod yX3_admit, Cond.selects RX3 yX3_admit yX3_admit, Cond.code yX3_admit cX3_admit 6 none, Cond.constantLong RX3 115 (-1), Cond.fieldLink RX3 29 "StraightPages$Spots" "waiting" "[J", Cond.methodLink RX3 130 Lib.Math.min.name, Cond.static Lib.Math.min.name, Cond.initialized "java/lang/Math", Cond.code Lib.Math.min.name Lib.Math.min.code 2 (some .int)]
def wsX3_next_r2 : List Cond := [Cond.methodLink RX3 58 Lib.Math.max.name, Cond.static Lib.Math.max.name, Cond.code Lib.Math.max.name Lib.Math.max.code 2 (some .int), Cond.methodLink RX3 117 yX2_hasRow, Cond.instanceMethod yX2_hasRow, Cond.selects RX2 yX2_hasRow yX2_hasRow, Cond.initialized RX2, Cond.code yX2_hasRow cX2_hasRow 2 (some .boolean), Cond.fieldLink RX2 15 "StraightPages$Sheet" "high" "I", Cond.methodLink RX3 121 yX3_runsAt, Cond.static yX3_runsAt, Cond.code yX3_runsAt cX3_runsAt 13 (some .long), Cond.methodLink RX3 125 yJ13_bitCount_95d88, Cond.static yJ13_bitCount_95d88, Cond.initialized RJ13, Cond.code yJ13_bitCount_95d88 cJ13_bitCount_95d88 2 (some .int), Cond.constantLong RJ13 314 (6148914691236517205), Cond.constantLong RJ13 316 (3689348814741910323), Cond.constantLong RJ13 318 (1085102592571150095), Cond.static yX4_lowestBit, Cond.initialized RX4, Cond.code yX4_lowestBit cX4_lowestBit 2 (some .int), Cond.methodLink RX4 88 yJ13_bitCount_95d88, Cond.methodLink RX3 112 yX3_growFrom]
def wsX3_next_r3 : List Cond := [Cond.instanceMethod yX3_growFrom, Cond.selects RX3 yX3_growFrom yX3_growFrom, Cond.code yX3_growFrom cX3_growFrom 4 none, Cond.methodLink RX3 90 yX3_widened, Cond.static yX3_widened, Cond.code yX3_widened cX3_widened 2 (some .long)]
def wsX3_next : List Cond := .code yX3_next cX3_next 2 (some .boolean) :: ((wsX3_next_r1 ++ (wsX3_next_r2 ++ wsX3_next_r3)) ++ wsX30 ++ wsX20)
def wsX3_number_r1 : List Cond := [Cond.methodLink RX3 50 yX3_begin, Cond.instanceMethod yX3_begin, Cond.selects RX3 yX3_begin yX3_begin, Cond.initialized RX3, Cond.code yX3_begin cX3_begin 2 none, Cond.fieldLink RX3 20 "StraightPages$Spots" "left" "LStraightPages$Sheet;", Cond.fieldLink RX3 23 "StraightPages$Spots" "spot" "LStraightPages$Sheet;", Cond.fieldLink RX3 68 "StraightPages$Sheet" "wide" "I", Cond.fieldLink RX3 71 "StraightPages$Sheet" "high" "I", Cond.fieldLink RX3 41 "StraightPages$Spots" "top" "I", Cond.fieldLink RX3 44 "StraightPages$Spots" "bottom" "I", Cond.fieldLink RX3 47 "StraightPages$Spots" "firstLeft" "I", Cond.methodLink RX3 98 yX2_become, Cond.instanceMethod yX2_become, Cond.selects RX2 yX2_become yX2_become, Cond.initialized RX2, Cond.code yX2_become cX2_become 2 none, Cond.fieldLink RX2 9 "StraightPages$Sheet" "wide" "I", Cond.fieldLink RX2 15 "StraightPages$Sheet" "high" "I", Cond.fieldLink RX2 18 "StraightPages$Sheet" "rows" "[J", Cond.methodLink RX2 32 arraycopyName, Cond.native arraycopyName, Cond.static arraycopyName, Cond.initialized "java/lang/System"]
def wsX3_number_r2 : List Cond := [Cond.methodLink RX2 28 yX2_empty, Cond.instanceMethod yX2_empty, Cond.selects RX2 yX2_empty yX2_empty, Cond.code yX2_empty cX2_empty 3 none, Cond.methodLink RX2 22 yJ7_fill_d0a16, Cond.static yJ7_fill_d0a16, Cond.initialized RJ7, Cond.code yJ7_fill_d0a16 cJ7_fill_d0a16 5 none, Cond.methodLink RX3 74 yX2_empty, Cond.methodLink RX3 54 yX3_next, Cond.instanceMethod yX3_next, Cond.selects RX3 yX3_next yX3_next, Cond.code yX3_next cX3_next 2 (some .boolean), Cond.fieldLink RX3 87 "StraightPages$Sheet" "rows" "[J", Cond.fieldLink RX3 33 "StraightPages$Spots" "waitingRows" "J", Cond.methodLink RX3 101 yX3_clearSpot, Cond.instanceMethod yX3_clearSpot, Cond.selects RX3 yX3_clearSpot yX3_clearSpot, Cond.code yX3_clearSpot cX3_clearSpot 2 none, Cond.fieldLink RX3 37 "StraightPages$Spots" "points" "I", Cond.methodLink RX3 104 yX3_admit, Cond.instanceMethod yX3_admit, Cond.selects RX3 yX3_admit yX3_admit, Cond.code yX3_admit cX3_admit 6 none]
def wsX3_number_r3 : List Cond := [Cond.constantLong RX3 115 (-1), Cond.fieldLink RX3 29 "StraightPages$Spots" "waiting" "[J", Cond.methodLink RX3 130 Lib.Math.min.name, Cond.static Lib.Math.min.name, Cond.initialized "java/lang/Math", Cond.code Lib.Math.min.name Lib.Math.min.code 2 (some .int), Cond.methodLink RX3 58 Lib.Math.max.name, Cond.static Lib.Math.max.name, Cond.code Lib.Math.max.name Lib.Math.max.code 2 (some .int), Cond.methodLink RX3 117 yX2_hasRow, Cond.instanceMethod yX2_hasRow, Cond.selects RX2 yX2_hasRow yX2_hasRow, Cond.code yX2_hasRow cX2_hasRow 2 (some .boolean), Cond.methodLink RX3 121 yX3_runsAt, Cond.static yX3_runsAt, Cond.code yX3_runsAt cX3_runsAt 13 (some .long), Cond.methodLink RX3 125 yJ13_bitCount_95d88, Cond.static yJ13_bitCount_95d88, Cond.initialized RJ13, Cond.code yJ13_bitCount_95d88 cJ13_bitCount_95d88 2 (some .int), Cond.constantLong RJ13 314 (6148914691236517205), Cond.constantLong RJ13 316 (3689348814741910323), Cond.constantLong RJ13 318 (1085102592571150095), Cond.static yX4_lowestBit]
def wsX3_number_r4 : List Cond := [Cond.initialized RX4, Cond.code yX4_lowestBit cX4_lowestBit 2 (some .int), Cond.methodLink RX4 88 yJ13_bitCount_95d88, Cond.methodLink RX3 112 yX3_growFrom, Cond.instanceMethod yX3_growFrom, Cond.selects RX3 yX3_growFrom yX3_growFrom, Cond.code yX3_growFrom cX3_growFrom 4 none, Cond.methodLink RX3 90 yX3_widened, Cond.static yX3_widened, Cond.code yX3_widened cX3_widened 2 (some .long)]
def wsX3_number : List Cond := .code yX3_number cX3_number 3 (some .int) :: ((wsX3_number_r1 ++ (wsX3_number_r2 ++ (wsX3_number_r3 ++ wsX3_number_r4))) ++ wsX30 ++ wsX20)
def wsX3_largest_r1 : List Cond := [Cond.fieldLink RX3 37 "StraightPages$Spots" "points" "I", Cond.methodLink RX3 58 Lib.Math.max.name, Cond.static Lib.Math.max.name, Cond.initialized "java/lang/Math", Cond.code Lib.Math.max.name Lib.Math.max.code 2 (some .int), Cond.methodLink RX3 50 yX3_begin, Cond.instanceMethod yX3_begin, Cond.selects RX3 yX3_begin yX3_begin, Cond.initialized RX3, Cond.code yX3_begin cX3_begin 2 none, Cond.fieldLink RX3 20 "StraightPages$Spots" "left" "LStraightPages$Sheet;", Cond.fieldLink RX3 23 "StraightPages$Spots" "spot" "LStraightPages$Sheet;", Cond.fieldLink RX3 68 "StraightPages$Sheet" "wide" "I", Cond.fieldLink RX3 71 "StraightPages$Sheet" "high" "I", Cond.fieldLink RX3 41 "StraightPages$Spots" "top" "I", Cond.fieldLink RX3 44 "StraightPages$Spots" "bottom" "I", Cond.fieldLink RX3 47 "StraightPages$Spots" "firstLeft" "I", Cond.methodLink RX3 98 yX2_become, Cond.instanceMethod yX2_become, Cond.selects RX2 yX2_become yX2_become, Cond.initialized RX2, Cond.code yX2_become cX2_become 2 none, Cond.fieldLink RX2 9 "StraightPages$Sheet" "wide" "I", Cond.fieldLink RX2 15 "StraightPages$Sheet" "high" "I"]
def wsX3_largest_r2 : List Cond := [Cond.fieldLink RX2 18 "StraightPages$Sheet" "rows" "[J", Cond.methodLink RX2 32 arraycopyName, Cond.native arraycopyName, Cond.static arraycopyName, Cond.initialized "java/lang/System", Cond.methodLink RX2 28 yX2_empty, Cond.instanceMethod yX2_empty, Cond.selects RX2 yX2_empty yX2_empty, Cond.code yX2_empty cX2_empty 3 none, Cond.methodLink RX2 22 yJ7_fill_d0a16, Cond.static yJ7_fill_d0a16, Cond.initialized RJ7, Cond.code yJ7_fill_d0a16 cJ7_fill_d0a16 5 none, Cond.methodLink RX3 74 yX2_empty, Cond.methodLink RX3 54 yX3_next, Cond.instanceMethod yX3_next, Cond.selects RX3 yX3_next yX3_next, Cond.code yX3_next cX3_next 2 (some .boolean), Cond.fieldLink RX3 87 "StraightPages$Sheet" "rows" "[J", Cond.fieldLink RX3 33 "StraightPages$Spots" "waitingRows" "J", Cond.methodLink RX3 101 yX3_clearSpot, Cond.instanceMethod yX3_clearSpot, Cond.selects RX3 yX3_clearSpot yX3_clearSpot, Cond.code yX3_clearSpot cX3_clearSpot 2 none]
def wsX3_largest_r3 : List Cond := [Cond.methodLink RX3 104 yX3_admit, Cond.instanceMethod yX3_admit, Cond.selects RX3 yX3_admit yX3_admit, Cond.code yX3_admit cX3_admit 6 none, Cond.constantLong RX3 115 (-1), Cond.fieldLink RX3 29 "StraightPages$Spots" "waiting" "[J", Cond.methodLink RX3 130 Lib.Math.min.name, Cond.static Lib.Math.min.name, Cond.code Lib.Math.min.name Lib.Math.min.code 2 (some .int), Cond.methodLink RX3 117 yX2_hasRow, Cond.instanceMethod yX2_hasRow, Cond.selects RX2 yX2_hasRow yX2_hasRow, Cond.code yX2_hasRow cX2_hasRow 2 (some .boolean), Cond.methodLink RX3 121 yX3_runsAt, Cond.static yX3_runsAt, Cond.code yX3_runsAt cX3_runsAt 13 (some .long), Cond.methodLink RX3 125 yJ13_bitCount_95d88, Cond.static yJ13_bitCount_95d88, Cond.initialized RJ13, Cond.code yJ13_bitCount_95d88 cJ13_bitCount_95d88 2 (some .int), Cond.constantLong RJ13 314 (6148914691236517205), Cond.constantLong RJ13 316 (3689348814741910323), Cond.constantLong RJ13 318 (1085102592571150095), Cond.static yX4_lowestBit]
def wsX3_largest_r4 : List Cond := [Cond.initialized RX4, Cond.code yX4_lowestBit cX4_lowestBit 2 (some .int), Cond.methodLink RX4 88 yJ13_bitCount_95d88, Cond.methodLink RX3 112 yX3_growFrom, Cond.instanceMethod yX3_growFrom, Cond.selects RX3 yX3_growFrom yX3_growFrom, Cond.code yX3_growFrom cX3_growFrom 4 none, Cond.methodLink RX3 90 yX3_widened, Cond.static yX3_widened, Cond.code yX3_widened cX3_widened 2 (some .long)]
def wsX3_largest : List Cond := .code yX3_largest cX3_largest 4 (some .int) :: ((wsX3_largest_r1 ++ (wsX3_largest_r2 ++ (wsX3_largest_r3 ++ wsX3_largest_r4))) ++ wsX30 ++ wsX20)
def wsX3_addSpotTo : List Cond := .code yX3_addSpotTo cX3_addSpotTo 3 none :: ([.fieldLink RX3 41 "StraightPages$Spots" "top" "I", .fieldLink RX3 44 "StraightPages$Spots" "bottom" "I", .fieldLink RX3 87 "StraightPages$Sheet" "rows" "[J", .fieldLink RX3 23 "StraightPages$Spots" "spot" "LStraightPages$Sheet;"] ++ wsX30 ++ wsX20)
def wsX3_widenNear : List Cond := .code yX3_widenNear cX3_widenNear 8 none :: ([.fieldLink RX3 26 "StraightPages$Spots" "near" "LStraightPages$Sheet;", .fieldLink RX3 71 "StraightPages$Sheet" "high" "I", .fieldLink RX3 87 "StraightPages$Sheet" "rows" "[J", .methodLink RX3 90 yX3_widened, .static yX3_widened, .initialized RX3, .code yX3_widened cX3_widened 2 (some .long), .methodLink RX3 94 yX2_allColumns, .instanceMethod yX2_allColumns, .selects RX2 yX2_allColumns yX2_allColumns, .initialized RX2, .code yX2_allColumns cX2_allColumns 1 (some .long), .fieldLink RX2 9 "StraightPages$Sheet" "wide" "I", .constantLong RX2 46 (-1)] ++ wsX30 ++ wsX20)
def wsX3_markNearLarge_r1 : List Cond := [Cond.fieldLink RX3 26 "StraightPages$Spots" "near" "LStraightPages$Sheet;", Cond.fieldLink RX3 68 "StraightPages$Sheet" "wide" "I", Cond.fieldLink RX3 71 "StraightPages$Sheet" "high" "I", Cond.fieldLink RX3 37 "StraightPages$Spots" "points" "I", Cond.methodLink RX3 74 yX2_empty, Cond.instanceMethod yX2_empty, Cond.selects RX2 yX2_empty yX2_empty, Cond.initialized RX2, Cond.code yX2_empty cX2_empty 3 none, Cond.fieldLink RX2 9 "StraightPages$Sheet" "wide" "I", Cond.fieldLink RX2 15 "StraightPages$Sheet" "high" "I", Cond.fieldLink RX2 18 "StraightPages$Sheet" "rows" "[J", Cond.methodLink RX2 22 yJ7_fill_d0a16, Cond.static yJ7_fill_d0a16, Cond.initialized RJ7, Cond.code yJ7_fill_d0a16 cJ7_fill_d0a16 5 none, Cond.methodLink RX3 50 yX3_begin, Cond.instanceMethod yX3_begin, Cond.selects RX3 yX3_begin yX3_begin, Cond.initialized RX3, Cond.code yX3_begin cX3_begin 2 none, Cond.fieldLink RX3 20 "StraightPages$Spots" "left" "LStraightPages$Sheet;", Cond.fieldLink RX3 23 "StraightPages$Spots" "spot" "LStraightPages$Sheet;", Cond.fieldLink RX3 41 "StraightPages$Spots" "top" "I"]
def wsX3_markNearLarge_r2 : List Cond := [Cond.fieldLink RX3 44 "StraightPages$Spots" "bottom" "I", Cond.fieldLink RX3 47 "StraightPages$Spots" "firstLeft" "I", Cond.methodLink RX3 98 yX2_become, Cond.instanceMethod yX2_become, Cond.selects RX2 yX2_become yX2_become, Cond.code yX2_become cX2_become 2 none, Cond.methodLink RX2 32 arraycopyName, Cond.native arraycopyName, Cond.static arraycopyName, Cond.initialized "java/lang/System", Cond.methodLink RX2 28 yX2_empty, Cond.methodLink RX3 54 yX3_next, Cond.instanceMethod yX3_next, Cond.selects RX3 yX3_next yX3_next, Cond.code yX3_next cX3_next 2 (some .boolean), Cond.fieldLink RX3 87 "StraightPages$Sheet" "rows" "[J", Cond.fieldLink RX3 33 "StraightPages$Spots" "waitingRows" "J", Cond.methodLink RX3 101 yX3_clearSpot, Cond.instanceMethod yX3_clearSpot, Cond.selects RX3 yX3_clearSpot yX3_clearSpot, Cond.code yX3_clearSpot cX3_clearSpot 2 none, Cond.methodLink RX3 104 yX3_admit, Cond.instanceMethod yX3_admit, Cond.selects RX3 yX3_admit yX3_admit]
def wsX3_markNearLarge_r3 : List Cond := [Cond.code yX3_admit cX3_admit 6 none, Cond.constantLong RX3 115 (-1), Cond.fieldLink RX3 29 "StraightPages$Spots" "waiting" "[J", Cond.methodLink RX3 130 Lib.Math.min.name, Cond.static Lib.Math.min.name, Cond.initialized "java/lang/Math", Cond.code Lib.Math.min.name Lib.Math.min.code 2 (some .int), Cond.methodLink RX3 58 Lib.Math.max.name, Cond.static Lib.Math.max.name, Cond.code Lib.Math.max.name Lib.Math.max.code 2 (some .int), Cond.methodLink RX3 117 yX2_hasRow, Cond.instanceMethod yX2_hasRow, Cond.selects RX2 yX2_hasRow yX2_hasRow, Cond.code yX2_hasRow cX2_hasRow 2 (some .boolean), Cond.methodLink RX3 121 yX3_runsAt, Cond.static yX3_runsAt, Cond.code yX3_runsAt cX3_runsAt 13 (some .long), Cond.methodLink RX3 125 yJ13_bitCount_95d88, Cond.static yJ13_bitCount_95d88, Cond.initialized RJ13, Cond.code yJ13_bitCount_95d88 cJ13_bitCount_95d88 2 (some .int), Cond.constantLong RJ13 314 (6148914691236517205), Cond.constantLong RJ13 316 (3689348814741910323), Cond.constantLong RJ13 318 (1085102592571150095)]
def wsX3_markNearLarge_r4 : List Cond := [Cond.static yX4_lowestBit, Cond.initialized RX4, Cond.code yX4_lowestBit cX4_lowestBit 2 (some .int), Cond.methodLink RX4 88 yJ13_bitCount_95d88, Cond.methodLink RX3 112 yX3_growFrom, Cond.instanceMethod yX3_growFrom, Cond.selects RX3 yX3_growFrom yX3_growFrom, Cond.code yX3_growFrom cX3_growFrom 4 none, Cond.methodLink RX3 90 yX3_widened, Cond.static yX3_widened, Cond.code yX3_widened cX3_widened 2 (some .long), Cond.methodLink RX3 81 yX3_addSpotTo, Cond.instanceMethod yX3_addSpotTo, Cond.selects RX3 yX3_addSpotTo yX3_addSpotTo, Cond.code yX3_addSpotTo cX3_addSpotTo 3 none, Cond.methodLink RX3 84 yX3_widenNear, Cond.instanceMethod yX3_widenNear, Cond.selects RX3 yX3_widenNear yX3_widenNear, Cond.code yX3_widenNear cX3_widenNear 8 none, Cond.methodLink RX3 94 yX2_allColumns, Cond.instanceMethod yX2_allColumns, Cond.selects RX2 yX2_allColumns yX2_allColumns, Cond.code yX2_allColumns cX2_allColumns 1 (some .long), Cond.constantLong RX2 46 (-1)]
def wsX3_markNearLarge : List Cond := .code yX3_markNearLarge cX3_markNearLarge 5 none :: ((wsX3_markNearLarge_r1 ++ (wsX3_markNearLarge_r2 ++ (wsX3_markNearLarge_r3 ++ wsX3_markNearLarge_r4))) ++ wsX30 ++ wsX20)
def wsX3_touchesNear : List Cond := .code yX3_touchesNear cX3_touchesNear 3 (some .boolean) :: ([.fieldLink RX3 41 "StraightPages$Spots" "top" "I", .fieldLink RX3 44 "StraightPages$Spots" "bottom" "I", .fieldLink RX3 23 "StraightPages$Spots" "spot" "LStraightPages$Sheet;", .fieldLink RX3 87 "StraightPages$Sheet" "rows" "[J", .fieldLink RX3 26 "StraightPages$Spots" "near" "LStraightPages$Sheet;"] ++ wsX30 ++ wsX20)
def wsX3_findSpecks_r1 : List Cond := [Cond.fieldLink RX3 14 "StraightPages$Spots" "specks" "LStraightPages$Sheet;", Cond.fieldLink RX3 68 "StraightPages$Sheet" "wide" "I", Cond.fieldLink RX3 71 "StraightPages$Sheet" "high" "I", Cond.methodLink RX3 64 yX3_markNearLarge, Cond.instanceMethod yX3_markNearLarge, Cond.selects RX3 yX3_markNearLarge yX3_markNearLarge, Cond.initialized RX3, Cond.code yX3_markNearLarge cX3_markNearLarge 5 none, Cond.fieldLink RX3 26 "StraightPages$Spots" "near" "LStraightPages$Sheet;", Cond.fieldLink RX3 37 "StraightPages$Spots" "points" "I", Cond.methodLink RX3 74 yX2_empty, Cond.instanceMethod yX2_empty, Cond.selects RX2 yX2_empty yX2_empty, Cond.initialized RX2, Cond.code yX2_empty cX2_empty 3 none, Cond.fieldLink RX2 9 "StraightPages$Sheet" "wide" "I", Cond.fieldLink RX2 15 "StraightPages$Sheet" "high" "I", Cond.fieldLink RX2 18 "StraightPages$Sheet" "rows" "[J", Cond.methodLink RX2 22 yJ7_fill_d0a16, Cond.static yJ7_fill_d0a16, Cond.initialized RJ7, Cond.code yJ7_fill_d0a16 cJ7_fill_d0a16 5 none, Cond.methodLink RX3 50 yX3_begin, Cond.instanceMethod yX3_begin]
def wsX3_findSpecks_r2 : List Cond := [Cond.selects RX3 yX3_begin yX3_begin, Cond.code yX3_begin cX3_begin 2 none, Cond.fieldLink RX3 20 "StraightPages$Spots" "left" "LStraightPages$Sheet;", Cond.fieldLink RX3 23 "StraightPages$Spots" "spot" "LStraightPages$Sheet;", Cond.fieldLink RX3 41 "StraightPages$Spots" "top" "I", Cond.fieldLink RX3 44 "StraightPages$Spots" "bottom" "I", Cond.fieldLink RX3 47 "StraightPages$Spots" "firstLeft" "I", Cond.methodLink RX3 98 yX2_become, Cond.instanceMethod yX2_become, Cond.selects RX2 yX2_become yX2_become, Cond.code yX2_become cX2_become 2 none, Cond.methodLink RX2 32 arraycopyName, Cond.native arraycopyName, Cond.static arraycopyName, Cond.initialized "java/lang/System", Cond.methodLink RX2 28 yX2_empty, Cond.methodLink RX3 54 yX3_next, Cond.instanceMethod yX3_next, Cond.selects RX3 yX3_next yX3_next, Cond.code yX3_next cX3_next 2 (some .boolean), Cond.fieldLink RX3 87 "StraightPages$Sheet" "rows" "[J", Cond.fieldLink RX3 33 "StraightPages$Spots" "waitingRows" "J", Cond.methodLink RX3 101 yX3_clearSpot, Cond.instanceMethod yX3_clearSpot]
def wsX3_findSpecks_r3 : List Cond := [Cond.selects RX3 yX3_clearSpot yX3_clearSpot, Cond.code yX3_clearSpot cX3_clearSpot 2 none, Cond.methodLink RX3 104 yX3_admit, Cond.instanceMethod yX3_admit, Cond.selects RX3 yX3_admit yX3_admit, Cond.code yX3_admit cX3_admit 6 none, Cond.constantLong RX3 115 (-1), Cond.fieldLink RX3 29 "StraightPages$Spots" "waiting" "[J", Cond.methodLink RX3 130 Lib.Math.min.name, Cond.static Lib.Math.min.name, Cond.initialized "java/lang/Math", Cond.code Lib.Math.min.name Lib.Math.min.code 2 (some .int), Cond.methodLink RX3 58 Lib.Math.max.name, Cond.static Lib.Math.max.name, Cond.code Lib.Math.max.name Lib.Math.max.code 2 (some .int), Cond.methodLink RX3 117 yX2_hasRow, Cond.instanceMethod yX2_hasRow, Cond.selects RX2 yX2_hasRow yX2_hasRow, Cond.code yX2_hasRow cX2_hasRow 2 (some .boolean), Cond.methodLink RX3 121 yX3_runsAt, Cond.static yX3_runsAt, Cond.code yX3_runsAt cX3_runsAt 13 (some .long), Cond.methodLink RX3 125 yJ13_bitCount_95d88, Cond.static yJ13_bitCount_95d88]
def wsX3_findSpecks_r4 : List Cond := [Cond.initialized RJ13, Cond.code yJ13_bitCount_95d88 cJ13_bitCount_95d88 2 (some .int), Cond.constantLong RJ13 314 (6148914691236517205), Cond.constantLong RJ13 316 (3689348814741910323), Cond.constantLong RJ13 318 (1085102592571150095), Cond.static yX4_lowestBit, Cond.initialized RX4, Cond.code yX4_lowestBit cX4_lowestBit 2 (some .int), Cond.methodLink RX4 88 yJ13_bitCount_95d88, Cond.methodLink RX3 112 yX3_growFrom, Cond.instanceMethod yX3_growFrom, Cond.selects RX3 yX3_growFrom yX3_growFrom, Cond.code yX3_growFrom cX3_growFrom 4 none, Cond.methodLink RX3 90 yX3_widened, Cond.static yX3_widened, Cond.code yX3_widened cX3_widened 2 (some .long), Cond.methodLink RX3 81 yX3_addSpotTo, Cond.instanceMethod yX3_addSpotTo, Cond.selects RX3 yX3_addSpotTo yX3_addSpotTo, Cond.code yX3_addSpotTo cX3_addSpotTo 3 none, Cond.methodLink RX3 84 yX3_widenNear, Cond.instanceMethod yX3_widenNear, Cond.selects RX3 yX3_widenNear yX3_widenNear, Cond.code yX3_widenNear cX3_widenNear 8 none]
def wsX3_findSpecks_r5 : List Cond := [Cond.methodLink RX3 94 yX2_allColumns, Cond.instanceMethod yX2_allColumns, Cond.selects RX2 yX2_allColumns yX2_allColumns, Cond.code yX2_allColumns cX2_allColumns 1 (some .long), Cond.constantLong RX2 46 (-1), Cond.methodLink RX3 78 yX3_touchesNear, Cond.instanceMethod yX3_touchesNear, Cond.selects RX3 yX3_touchesNear yX3_touchesNear, Cond.code yX3_touchesNear cX3_touchesNear 3 (some .boolean)]
def wsX3_findSpecks : List Cond := .code yX3_findSpecks cX3_findSpecks 6 (some .int) :: ((wsX3_findSpecks_r1 ++ (wsX3_findSpecks_r2 ++ (wsX3_findSpecks_r3 ++ (wsX3_findSpecks_r4 ++ wsX3_findSpecks_r5)))) ++ wsX30 ++ wsX20)
def wsX4_init_r1 : List Cond := [Cond.methodLink RX4 1 objectInit, Cond.instanceMethod objectInit, Cond.code objectInit ⟨#[0xb1]⟩ 1 none, Cond.classLink RX4 9 RX2, Cond.fieldLink RX4 11 "StraightPages" "sheets" "[LStraightPages$Sheet;", Cond.instantiable RX2 3, Cond.initialized RX2, Cond.fieldLink RX4 18 "StraightPages" "sheetCount" "I", Cond.classLink RX4 22 RX1, Cond.instantiable RX1 3, Cond.initialized RX1, Cond.fieldLink RX4 25 "StraightPages" "history" "LStraightPages$History;", Cond.classLink RX4 29 RX3, Cond.instantiable RX3 10, Cond.initialized RX3, Cond.fieldLink RX4 32 "StraightPages" "spots" "LStraightPages$Spots;", Cond.fieldLink RX4 36 "StraightPages" "list" "LStraightPages$Sheet;", Cond.fieldLink RX4 40 "StraightPages" "bench" "LStraightPages$Sheet;", Cond.arrayClass .int, Cond.fieldLink RX4 43 "StraightPages" "numbers" "[I", Cond.fieldLink RX4 47 "StraightPages" "numberCount" "I", Cond.methodLink RX4 15 yX2_init, Cond.instanceMethod yX2_init, Cond.code yX2_init cX2_init 2 none]
def wsX4_init_r2 : List Cond := [Cond.methodLink RX2 3 objectInit, Cond.fieldLink RX2 9 "StraightPages$Sheet" "wide" "I", Cond.fieldLink RX2 15 "StraightPages$Sheet" "high" "I", Cond.arrayClass .long, Cond.fieldLink RX2 18 "StraightPages$Sheet" "rows" "[J", Cond.methodLink RX4 24 yX1_init, Cond.instanceMethod yX1_init, Cond.code yX1_init cX1_init 2 none, Cond.methodLink RX1 3 objectInit, Cond.classLink RX1 9 RX0, Cond.fieldLink RX1 11 "StraightPages$History" "ring" "[LStraightPages$Change;", Cond.instantiable RX0 3, Cond.initialized RX0, Cond.fieldLink RX1 18 "StraightPages$History" "next" "I", Cond.fieldLink RX1 22 "StraightPages$History" "kept" "I", Cond.methodLink RX1 17 yX0_init, Cond.instanceMethod yX0_init, Cond.code yX0_init cX0_init 1 none, Cond.methodLink RX0 3 objectInit, Cond.fieldLink RX0 9 "StraightPages$Change" "page" "I", Cond.fieldLink RX0 15 "StraightPages$Change" "made" "I", Cond.classLink RX0 18 RX2, Cond.fieldLink RX0 23 "StraightPages$Change" "before" "LStraightPages$Sheet;", Cond.methodLink RX0 20 yX2_init]
def wsX4_init_r3 : List Cond := [Cond.methodLink RX4 31 yX3_init, Cond.instanceMethod yX3_init, Cond.code yX3_init cX3_init 1 none, Cond.methodLink RX3 3 objectInit, Cond.classLink RX3 9 RX2, Cond.fieldLink RX3 14 "StraightPages$Spots" "specks" "LStraightPages$Sheet;", Cond.fieldLink RX3 20 "StraightPages$Spots" "left" "LStraightPages$Sheet;", Cond.fieldLink RX3 23 "StraightPages$Spots" "spot" "LStraightPages$Sheet;", Cond.fieldLink RX3 26 "StraightPages$Spots" "near" "LStraightPages$Sheet;", Cond.fieldLink RX3 29 "StraightPages$Spots" "waiting" "[J", Cond.fieldLink RX3 33 "StraightPages$Spots" "waitingRows" "J", Cond.fieldLink RX3 37 "StraightPages$Spots" "points" "I", Cond.fieldLink RX3 41 "StraightPages$Spots" "top" "I", Cond.fieldLink RX3 44 "StraightPages$Spots" "bottom" "I", Cond.fieldLink RX3 47 "StraightPages$Spots" "firstLeft" "I", Cond.methodLink RX3 11 yX2_init]
def wsX4_init : List Cond := .code yX4_init cX4_init 2 none :: ((wsX4_init_r1 ++ (wsX4_init_r2 ++ wsX4_init_r3)) ++ wsX40 ++ wsX20 ++ wsX10 ++ wsX30 ++ wsX00)
def wsX4_page : List Cond := .code yX4_page cX4_page 3 (some .int) :: ([.fieldLink RX4 18 "StraightPages" "sheetCount" "I", .fieldLink RX4 11 "StraightPages" "sheets" "[LStraightPages$Sheet;", .methodLink RX4 50 yX4_within, .static yX4_within, .initialized RX4, .code yX4_within cX4_within 3 (some .boolean), .methodLink RX4 54 yX2_empty, .instanceMethod yX2_empty, .selects RX2 yX2_empty yX2_empty, .initialized RX2, .code yX2_empty cX2_empty 3 none, .fieldLink RX2 9 "StraightPages$Sheet" "wide" "I", .fieldLink RX2 15 "StraightPages$Sheet" "high" "I", .fieldLink RX2 18 "StraightPages$Sheet" "rows" "[J", .methodLink RX2 22 yJ7_fill_d0a16, .static yJ7_fill_d0a16, .initialized RJ7, .code yJ7_fill_d0a16 cJ7_fill_d0a16 5 none] ++ wsX40 ++ wsX20)
def wsX4_find : List Cond := .code yX4_find cX4_find 2 (some (.object "StraightPages$Sheet")) :: ([.fieldLink RX4 18 "StraightPages" "sheetCount" "I", .fieldLink RX4 11 "StraightPages" "sheets" "[LStraightPages$Sheet;", .methodLink RX4 50 yX4_within, .static yX4_within, .initialized RX4, .code yX4_within cX4_within 3 (some .boolean)] ++ wsX40)
def wsX4_copy_r1 : List Cond := [Cond.fieldLink RX4 18 "StraightPages" "sheetCount" "I", Cond.fieldLink RX4 11 "StraightPages" "sheets" "[LStraightPages$Sheet;", Cond.methodLink RX4 58 yX4_find, Cond.instanceMethod yX4_find, Cond.selects RX4 yX4_find yX4_find, Cond.initialized RX4, Cond.code yX4_find cX4_find 2 (some (.object "StraightPages$Sheet")), Cond.methodLink RX4 50 yX4_within, Cond.static yX4_within, Cond.code yX4_within cX4_within 3 (some .boolean), Cond.methodLink RX4 62 yX2_become, Cond.instanceMethod yX2_become, Cond.selects RX2 yX2_become yX2_become, Cond.initialized RX2, Cond.code yX2_become cX2_become 2 none, Cond.fieldLink RX2 9 "StraightPages$Sheet" "wide" "I", Cond.fieldLink RX2 15 "StraightPages$Sheet" "high" "I", Cond.fieldLink RX2 18 "StraightPages$Sheet" "rows" "[J", Cond.methodLink RX2 32 arraycopyName, Cond.native arraycopyName, Cond.static arraycopyName, Cond.initialized "java/lang/System", Cond.methodLink RX2 28 yX2_empty, Cond.instanceMethod yX2_empty]
def wsX4_copy_r2 : List Cond := [Cond.selects RX2 yX2_empty yX2_empty, Cond.code yX2_empty cX2_empty 3 none, Cond.methodLink RX2 22 yJ7_fill_d0a16, Cond.static yJ7_fill_d0a16, Cond.initialized RJ7, Cond.code yJ7_fill_d0a16 cJ7_fill_d0a16 5 none]
def wsX4_copy : List Cond := .code yX4_copy cX4_copy 3 (some .int) :: ((wsX4_copy_r1 ++ wsX4_copy_r2) ++ wsX40 ++ wsX20)
def wsX4_set_r1 : List Cond := [Cond.fieldLink RX4 25 "StraightPages" "history" "LStraightPages$History;", Cond.fieldLink RX4 74 "StraightPages$Sheet" "rows" "[J", Cond.constantLong RX4 78 (-1), Cond.methodLink RX4 58 yX4_find, Cond.instanceMethod yX4_find, Cond.selects RX4 yX4_find yX4_find, Cond.initialized RX4, Cond.code yX4_find cX4_find 2 (some (.object "StraightPages$Sheet")), Cond.fieldLink RX4 18 "StraightPages" "sheetCount" "I", Cond.fieldLink RX4 11 "StraightPages" "sheets" "[LStraightPages$Sheet;", Cond.methodLink RX4 50 yX4_within, Cond.static yX4_within, Cond.code yX4_within cX4_within 3 (some .boolean), Cond.methodLink RX4 66 yX2_hasPoint, Cond.instanceMethod yX2_hasPoint, Cond.selects RX2 yX2_hasPoint yX2_hasPoint, Cond.initialized RX2, Cond.code yX2_hasPoint cX2_hasPoint 3 (some .boolean), Cond.fieldLink RX2 9 "StraightPages$Sheet" "wide" "I", Cond.methodLink RX2 42 yX2_hasRow, Cond.instanceMethod yX2_hasRow, Cond.selects RX2 yX2_hasRow yX2_hasRow, Cond.code yX2_hasRow cX2_hasRow 2 (some .boolean), Cond.fieldLink RX2 15 "StraightPages$Sheet" "high" "I"]
def wsX4_set_r2 : List Cond := [Cond.methodLink RX4 70 yX1_remember, Cond.instanceMethod yX1_remember, Cond.selects RX1 yX1_remember yX1_remember, Cond.initialized RX1, Cond.code yX1_remember cX1_remember 5 none, Cond.fieldLink RX1 11 "StraightPages$History" "ring" "[LStraightPages$Change;", Cond.fieldLink RX1 18 "StraightPages$History" "next" "I", Cond.fieldLink RX1 25 "StraightPages$Change" "page" "I", Cond.fieldLink RX1 28 "StraightPages$Change" "made" "I", Cond.fieldLink RX1 31 "StraightPages$Change" "before" "LStraightPages$Sheet;", Cond.fieldLink RX1 22 "StraightPages$History" "kept" "I", Cond.methodLink RX1 41 Lib.Math.min.name, Cond.static Lib.Math.min.name, Cond.initialized "java/lang/Math", Cond.code Lib.Math.min.name Lib.Math.min.code 2 (some .int), Cond.methodLink RX1 35 yX2_become, Cond.instanceMethod yX2_become, Cond.selects RX2 yX2_become yX2_become, Cond.code yX2_become cX2_become 2 none, Cond.fieldLink RX2 18 "StraightPages$Sheet" "rows" "[J", Cond.methodLink RX2 32 arraycopyName, Cond.native arraycopyName, Cond.static arraycopyName, Cond.initialized "java/lang/System"]
def wsX4_set_r3 : List Cond := [Cond.methodLink RX2 28 yX2_empty, Cond.instanceMethod yX2_empty, Cond.selects RX2 yX2_empty yX2_empty, Cond.code yX2_empty cX2_empty 3 none, Cond.methodLink RX2 22 yJ7_fill_d0a16, Cond.static yJ7_fill_d0a16, Cond.initialized RJ7, Cond.code yJ7_fill_d0a16 cJ7_fill_d0a16 5 none]
def wsX4_set : List Cond := .code yX4_set cX4_set 8 (some .boolean) :: ((wsX4_set_r1 ++ (wsX4_set_r2 ++ wsX4_set_r3)) ++ wsX40 ++ wsX20 ++ wsX10 ++ wsX00)
def wsX4_line_r1 : List Cond := [Cond.fieldLink RX4 25 "StraightPages" "history" "LStraightPages$History;", Cond.fieldLink RX4 74 "StraightPages$Sheet" "rows" "[J", Cond.methodLink RX4 58 yX4_find, Cond.instanceMethod yX4_find, Cond.selects RX4 yX4_find yX4_find, Cond.initialized RX4, Cond.code yX4_find cX4_find 2 (some (.object "StraightPages$Sheet")), Cond.fieldLink RX4 18 "StraightPages" "sheetCount" "I", Cond.fieldLink RX4 11 "StraightPages" "sheets" "[LStraightPages$Sheet;", Cond.methodLink RX4 50 yX4_within, Cond.static yX4_within, Cond.code yX4_within cX4_within 3 (some .boolean), Cond.methodLink RX4 80 yX2_hasRow, Cond.instanceMethod yX2_hasRow, Cond.selects RX2 yX2_hasRow yX2_hasRow, Cond.initialized RX2, Cond.code yX2_hasRow cX2_hasRow 2 (some .boolean), Cond.fieldLink RX2 15 "StraightPages$Sheet" "high" "I", Cond.methodLink RX4 70 yX1_remember, Cond.instanceMethod yX1_remember, Cond.selects RX1 yX1_remember yX1_remember, Cond.initialized RX1, Cond.code yX1_remember cX1_remember 5 none, Cond.fieldLink RX1 11 "StraightPages$History" "ring" "[LStraightPages$Change;"]
def wsX4_line_r2 : List Cond := [Cond.fieldLink RX1 18 "StraightPages$History" "next" "I", Cond.fieldLink RX1 25 "StraightPages$Change" "page" "I", Cond.fieldLink RX1 28 "StraightPages$Change" "made" "I", Cond.fieldLink RX1 31 "StraightPages$Change" "before" "LStraightPages$Sheet;", Cond.fieldLink RX1 22 "StraightPages$History" "kept" "I", Cond.methodLink RX1 41 Lib.Math.min.name, Cond.static Lib.Math.min.name, Cond.initialized "java/lang/Math", Cond.code Lib.Math.min.name Lib.Math.min.code 2 (some .int), Cond.methodLink RX1 35 yX2_become, Cond.instanceMethod yX2_become, Cond.selects RX2 yX2_become yX2_become, Cond.code yX2_become cX2_become 2 none, Cond.fieldLink RX2 9 "StraightPages$Sheet" "wide" "I", Cond.fieldLink RX2 18 "StraightPages$Sheet" "rows" "[J", Cond.methodLink RX2 32 arraycopyName, Cond.native arraycopyName, Cond.static arraycopyName, Cond.initialized "java/lang/System", Cond.methodLink RX2 28 yX2_empty, Cond.instanceMethod yX2_empty, Cond.selects RX2 yX2_empty yX2_empty, Cond.code yX2_empty cX2_empty 3 none, Cond.methodLink RX2 22 yJ7_fill_d0a16]
def wsX4_line_r3 : List Cond := [Cond.static yJ7_fill_d0a16, Cond.initialized RJ7, Cond.code yJ7_fill_d0a16 cJ7_fill_d0a16 5 none, Cond.methodLink RX4 84 yX2_allColumns, Cond.instanceMethod yX2_allColumns, Cond.selects RX2 yX2_allColumns yX2_allColumns, Cond.code yX2_allColumns cX2_allColumns 1 (some .long), Cond.constantLong RX2 46 (-1), Cond.methodLink RX4 88 yJ13_bitCount_95d88, Cond.static yJ13_bitCount_95d88, Cond.initialized RJ13, Cond.code yJ13_bitCount_95d88 cJ13_bitCount_95d88 2 (some .int), Cond.constantLong RJ13 314 (6148914691236517205), Cond.constantLong RJ13 316 (3689348814741910323), Cond.constantLong RJ13 318 (1085102592571150095)]
def wsX4_line : List Cond := .code yX4_line cX4_line 6 (some .int) :: ((wsX4_line_r1 ++ (wsX4_line_r2 ++ wsX4_line_r3)) ++ wsX40 ++ wsX20 ++ wsX10 ++ wsX00)
def wsX4_entryBits : List Cond := .code yX4_entryBits cX4_entryBits 1 (some .long) :: ([.constantLong RX4 238 (255), .constantLong RX4 240 (65535), .constantLong RX4 242 (4294967295), .constantLong RX4 78 (-1)])
def wsX4_lay_r1 : List Cond := [Cond.fieldLink RX4 25 "StraightPages" "history" "LStraightPages$History;", Cond.fieldLink RX4 97 "StraightPages$Sheet" "high" "I", Cond.methodLink RX4 100 Lib.Math.min.name, Cond.static Lib.Math.min.name, Cond.initialized "java/lang/Math", Cond.code Lib.Math.min.name Lib.Math.min.code 2 (some .int), Cond.fieldLink RX4 74 "StraightPages$Sheet" "rows" "[J", Cond.methodLink RX4 58 yX4_find, Cond.instanceMethod yX4_find, Cond.selects RX4 yX4_find yX4_find, Cond.initialized RX4, Cond.code yX4_find cX4_find 2 (some (.object "StraightPages$Sheet")), Cond.fieldLink RX4 18 "StraightPages" "sheetCount" "I", Cond.fieldLink RX4 11 "StraightPages" "sheets" "[LStraightPages$Sheet;", Cond.methodLink RX4 50 yX4_within, Cond.static yX4_within, Cond.code yX4_within cX4_within 3 (some .boolean), Cond.methodLink RX4 80 yX2_hasRow, Cond.instanceMethod yX2_hasRow, Cond.selects RX2 yX2_hasRow yX2_hasRow, Cond.initialized RX2, Cond.code yX2_hasRow cX2_hasRow 2 (some .boolean), Cond.fieldLink RX2 15 "StraightPages$Sheet" "high" "I", Cond.methodLink RX4 94 yX1_forget]
def wsX4_lay_r2 : List Cond := [Cond.instanceMethod yX1_forget, Cond.selects RX1 yX1_forget yX1_forget, Cond.initialized RX1, Cond.code yX1_forget cX1_forget 1 none, Cond.fieldLink RX1 22 "StraightPages$History" "kept" "I", Cond.methodLink RX4 106 yX4_entryBits, Cond.static yX4_entryBits, Cond.code yX4_entryBits cX4_entryBits 1 (some .long), Cond.constantLong RX4 238 (255), Cond.constantLong RX4 240 (65535), Cond.constantLong RX4 242 (4294967295), Cond.constantLong RX4 78 (-1), Cond.methodLink RX4 84 yX2_allColumns, Cond.instanceMethod yX2_allColumns, Cond.selects RX2 yX2_allColumns yX2_allColumns, Cond.code yX2_allColumns cX2_allColumns 1 (some .long), Cond.fieldLink RX2 9 "StraightPages$Sheet" "wide" "I", Cond.constantLong RX2 46 (-1)]
def wsX4_lay : List Cond := .code yX4_lay cX4_lay 14 (some .int) :: ((wsX4_lay_r1 ++ wsX4_lay_r2) ++ wsX40 ++ wsX20 ++ wsX10)
def wsX4_at : List Cond := .code yX4_at cX4_at 5 (some .int) :: ([.fieldLink RX4 74 "StraightPages$Sheet" "rows" "[J", .methodLink RX4 58 yX4_find, .instanceMethod yX4_find, .selects RX4 yX4_find yX4_find, .initialized RX4, .code yX4_find cX4_find 2 (some (.object "StraightPages$Sheet")), .fieldLink RX4 18 "StraightPages" "sheetCount" "I", .fieldLink RX4 11 "StraightPages" "sheets" "[LStraightPages$Sheet;", .methodLink RX4 50 yX4_within, .static yX4_within, .code yX4_within cX4_within 3 (some .boolean), .methodLink RX4 66 yX2_hasPoint, .instanceMethod yX2_hasPoint, .selects RX2 yX2_hasPoint yX2_hasPoint, .initialized RX2, .code yX2_hasPoint cX2_hasPoint 3 (some .boolean), .fieldLink RX2 9 "StraightPages$Sheet" "wide" "I", .methodLink RX2 42 yX2_hasRow, .instanceMethod yX2_hasRow, .selects RX2 yX2_hasRow yX2_hasRow, .code yX2_hasRow cX2_hasRow 2 (some .boolean), .fieldLink RX2 15 "StraightPages$Sheet" "high" "I"] ++ wsX20 ++ wsX40)
def wsX4_row : List Cond := .code yX4_row cX4_row 4 (some .long) :: ([.classLink RX4 110 "java/util/NoSuchElementException", .initialized "java/util/NoSuchElementException", .fieldLink RX4 74 "StraightPages$Sheet" "rows" "[J", .methodLink RX4 58 yX4_find, .instanceMethod yX4_find, .selects RX4 yX4_find yX4_find, .initialized RX4, .code yX4_find cX4_find 2 (some (.object "StraightPages$Sheet")), .fieldLink RX4 18 "StraightPages" "sheetCount" "I", .fieldLink RX4 11 "StraightPages" "sheets" "[LStraightPages$Sheet;", .methodLink RX4 50 yX4_within, .static yX4_within, .code yX4_within cX4_within 3 (some .boolean), .methodLink RX4 80 yX2_hasRow, .instanceMethod yX2_hasRow, .selects RX2 yX2_hasRow yX2_hasRow, .initialized RX2, .code yX2_hasRow cX2_hasRow 2 (some .boolean), .fieldLink RX2 15 "StraightPages$Sheet" "high" "I"] ++ wsX20 ++ wsX40 ++ (nsAt RX4 114).filter goodWord)
def wsX4_of_r1 : List Cond := [Cond.fieldLink RX4 117 "StraightPages$Sheet" "wide" "I", Cond.fieldLink RX4 97 "StraightPages$Sheet" "high" "I", Cond.fieldLink RX4 32 "StraightPages" "spots" "LStraightPages$Spots;", Cond.methodLink RX4 58 yX4_find, Cond.instanceMethod yX4_find, Cond.selects RX4 yX4_find yX4_find, Cond.initialized RX4, Cond.code yX4_find cX4_find 2 (some (.object "StraightPages$Sheet")), Cond.fieldLink RX4 18 "StraightPages" "sheetCount" "I", Cond.fieldLink RX4 11 "StraightPages" "sheets" "[LStraightPages$Sheet;", Cond.methodLink RX4 50 yX4_within, Cond.static yX4_within, Cond.code yX4_within cX4_within 3 (some .boolean), Cond.methodLink RX4 120 yX2_ink, Cond.instanceMethod yX2_ink, Cond.selects RX2 yX2_ink yX2_ink, Cond.initialized RX2, Cond.code yX2_ink cX2_ink 3 (some .int), Cond.fieldLink RX2 15 "StraightPages$Sheet" "high" "I", Cond.fieldLink RX2 18 "StraightPages$Sheet" "rows" "[J", Cond.methodLink RX2 48 yJ13_bitCount_95d88, Cond.static yJ13_bitCount_95d88, Cond.initialized RJ13, Cond.code yJ13_bitCount_95d88 cJ13_bitCount_95d88 2 (some .int)]
def wsX4_of_r2 : List Cond := [Cond.constantLong RJ13 314 (6148914691236517205), Cond.constantLong RJ13 316 (3689348814741910323), Cond.constantLong RJ13 318 (1085102592571150095), Cond.methodLink RX4 124 yX2_inkedRows, Cond.instanceMethod yX2_inkedRows, Cond.selects RX2 yX2_inkedRows yX2_inkedRows, Cond.code yX2_inkedRows cX2_inkedRows 4 (some .long), Cond.methodLink RX4 88 yJ13_bitCount_95d88, Cond.methodLink RX4 127 yX2_inkedColumns, Cond.instanceMethod yX2_inkedColumns, Cond.selects RX2 yX2_inkedColumns yX2_inkedColumns, Cond.code yX2_inkedColumns cX2_inkedColumns 4 (some .long), Cond.methodLink RX4 130 yX3_number, Cond.instanceMethod yX3_number, Cond.selects RX3 yX3_number yX3_number, Cond.initialized RX3, Cond.code yX3_number cX3_number 3 (some .int), Cond.methodLink RX3 50 yX3_begin, Cond.instanceMethod yX3_begin, Cond.selects RX3 yX3_begin yX3_begin, Cond.code yX3_begin cX3_begin 2 none, Cond.fieldLink RX3 20 "StraightPages$Spots" "left" "LStraightPages$Sheet;", Cond.fieldLink RX3 23 "StraightPages$Spots" "spot" "LStraightPages$Sheet;", Cond.fieldLink RX3 68 "StraightPages$Sheet" "wide" "I"]
def wsX4_of_r3 : List Cond := [Cond.fieldLink RX3 71 "StraightPages$Sheet" "high" "I", Cond.fieldLink RX3 41 "StraightPages$Spots" "top" "I", Cond.fieldLink RX3 44 "StraightPages$Spots" "bottom" "I", Cond.fieldLink RX3 47 "StraightPages$Spots" "firstLeft" "I", Cond.methodLink RX3 98 yX2_become, Cond.instanceMethod yX2_become, Cond.selects RX2 yX2_become yX2_become, Cond.code yX2_become cX2_become 2 none, Cond.fieldLink RX2 9 "StraightPages$Sheet" "wide" "I", Cond.methodLink RX2 32 arraycopyName, Cond.native arraycopyName, Cond.static arraycopyName, Cond.initialized "java/lang/System", Cond.methodLink RX2 28 yX2_empty, Cond.instanceMethod yX2_empty, Cond.selects RX2 yX2_empty yX2_empty, Cond.code yX2_empty cX2_empty 3 none, Cond.methodLink RX2 22 yJ7_fill_d0a16, Cond.static yJ7_fill_d0a16, Cond.initialized RJ7, Cond.code yJ7_fill_d0a16 cJ7_fill_d0a16 5 none, Cond.methodLink RX3 74 yX2_empty, Cond.methodLink RX3 54 yX3_next, Cond.instanceMethod yX3_next]
def wsX4_of_r4 : List Cond := [Cond.selects RX3 yX3_next yX3_next, Cond.code yX3_next cX3_next 2 (some .boolean), Cond.fieldLink RX3 87 "StraightPages$Sheet" "rows" "[J", Cond.fieldLink RX3 33 "StraightPages$Spots" "waitingRows" "J", Cond.methodLink RX3 101 yX3_clearSpot, Cond.instanceMethod yX3_clearSpot, Cond.selects RX3 yX3_clearSpot yX3_clearSpot, Cond.code yX3_clearSpot cX3_clearSpot 2 none, Cond.fieldLink RX3 37 "StraightPages$Spots" "points" "I", Cond.methodLink RX3 104 yX3_admit, Cond.instanceMethod yX3_admit, Cond.selects RX3 yX3_admit yX3_admit, Cond.code yX3_admit cX3_admit 6 none, Cond.constantLong RX3 115 (-1), Cond.fieldLink RX3 29 "StraightPages$Spots" "waiting" "[J", Cond.methodLink RX3 130 Lib.Math.min.name, Cond.static Lib.Math.min.name, Cond.initialized "java/lang/Math", Cond.code Lib.Math.min.name Lib.Math.min.code 2 (some .int), Cond.methodLink RX3 58 Lib.Math.max.name, Cond.static Lib.Math.max.name, Cond.code Lib.Math.max.name Lib.Math.max.code 2 (some .int), Cond.methodLink RX3 117 yX2_hasRow, Cond.instanceMethod yX2_hasRow]
def wsX4_of_r5 : List Cond := [Cond.selects RX2 yX2_hasRow yX2_hasRow, Cond.code yX2_hasRow cX2_hasRow 2 (some .boolean), Cond.methodLink RX3 121 yX3_runsAt, Cond.static yX3_runsAt, Cond.code yX3_runsAt cX3_runsAt 13 (some .long), Cond.methodLink RX3 125 yJ13_bitCount_95d88, Cond.static yX4_lowestBit, Cond.code yX4_lowestBit cX4_lowestBit 2 (some .int), Cond.methodLink RX3 112 yX3_growFrom, Cond.instanceMethod yX3_growFrom, Cond.selects RX3 yX3_growFrom yX3_growFrom, Cond.code yX3_growFrom cX3_growFrom 4 none, Cond.methodLink RX3 90 yX3_widened, Cond.static yX3_widened, Cond.code yX3_widened cX3_widened 2 (some .long), Cond.methodLink RX4 134 yX3_largest, Cond.instanceMethod yX3_largest, Cond.selects RX3 yX3_largest yX3_largest, Cond.code yX3_largest cX3_largest 4 (some .int)]
def wsX4_of : List Cond := .code yX4_of cX4_of 4 (some .int) :: ((wsX4_of_r1 ++ (wsX4_of_r2 ++ (wsX4_of_r3 ++ (wsX4_of_r4 ++ wsX4_of_r5)))) ++ wsX20 ++ wsX40 ++ wsX30)
def wsX4_count : List Cond := .code yX4_count cX4_count 2 (some .int) :: ([.fieldLink RX4 18 "StraightPages" "sheetCount" "I", .fieldLink RX4 25 "StraightPages" "history" "LStraightPages$History;", .fieldLink RX4 137 "StraightPages$History" "kept" "I", .fieldLink RX4 36 "StraightPages" "list" "LStraightPages$Sheet;", .fieldLink RX4 47 "StraightPages" "numberCount" "I", .methodLink RX4 120 yX2_ink, .instanceMethod yX2_ink, .selects RX2 yX2_ink yX2_ink, .initialized RX2, .code yX2_ink cX2_ink 3 (some .int), .fieldLink RX2 15 "StraightPages$Sheet" "high" "I", .fieldLink RX2 18 "StraightPages$Sheet" "rows" "[J", .methodLink RX2 48 yJ13_bitCount_95d88, .static yJ13_bitCount_95d88, .initialized RJ13, .code yJ13_bitCount_95d88 cJ13_bitCount_95d88 2 (some .int), .constantLong RJ13 314 (6148914691236517205), .constantLong RJ13 316 (3689348814741910323), .constantLong RJ13 318 (1085102592571150095)] ++ wsX40 ++ wsX10 ++ wsX20)
def wsX4_unlike : List Cond := .code yX4_unlike cX4_unlike 6 (some .int) :: ([.fieldLink RX4 117 "StraightPages$Sheet" "wide" "I", .fieldLink RX4 97 "StraightPages$Sheet" "high" "I", .fieldLink RX4 74 "StraightPages$Sheet" "rows" "[J", .methodLink RX4 58 yX4_find, .instanceMethod yX4_find, .selects RX4 yX4_find yX4_find, .initialized RX4, .code yX4_find cX4_find 2 (some (.object "StraightPages$Sheet")), .fieldLink RX4 18 "StraightPages" "sheetCount" "I", .fieldLink RX4 11 "StraightPages" "sheets" "[LStraightPages$Sheet;", .methodLink RX4 50 yX4_within, .static yX4_within, .code yX4_within cX4_within 3 (some .boolean)] ++ wsX20 ++ wsX40)
def wsX4_isShear : List Cond := .code yX4_isShear cX4_isShear 1 (some .boolean) :: ([.methodLink RX4 50 yX4_within, .static yX4_within, .initialized RX4, .code yX4_within cX4_within 3 (some .boolean)])
def wsX4_across_r1 : List Cond := [Cond.fieldLink RX4 117 "StraightPages$Sheet" "wide" "I", Cond.fieldLink RX4 97 "StraightPages$Sheet" "high" "I", Cond.fieldLink RX4 25 "StraightPages" "history" "LStraightPages$History;", Cond.methodLink RX4 58 yX4_find, Cond.instanceMethod yX4_find, Cond.selects RX4 yX4_find yX4_find, Cond.initialized RX4, Cond.code yX4_find cX4_find 2 (some (.object "StraightPages$Sheet")), Cond.fieldLink RX4 18 "StraightPages" "sheetCount" "I", Cond.fieldLink RX4 11 "StraightPages" "sheets" "[LStraightPages$Sheet;", Cond.methodLink RX4 50 yX4_within, Cond.static yX4_within, Cond.code yX4_within cX4_within 3 (some .boolean), Cond.methodLink RX4 140 yX4_isShear, Cond.static yX4_isShear, Cond.code yX4_isShear cX4_isShear 1 (some .boolean), Cond.methodLink RX4 143 yX4_spread, Cond.static yX4_spread, Cond.code yX4_spread cX4_spread 2 (some .int), Cond.methodLink RX4 253 Lib.Math.abs.name, Cond.static Lib.Math.abs.name, Cond.initialized "java/lang/Math", Cond.code Lib.Math.abs.name Lib.Math.abs.code 1 (some .int), Cond.methodLink RX4 250 yX4_slide]
def wsX4_across_r2 : List Cond := [Cond.static yX4_slide, Cond.code yX4_slide cX4_slide 2 (some .int), Cond.methodLink RX4 247 yJ9_floorDiv_7cf53, Cond.static yJ9_floorDiv_7cf53, Cond.initialized RJ9, Cond.code yJ9_floorDiv_7cf53 cJ9_floorDiv_7cf53 3 (some .int), Cond.methodLink RX4 70 yX1_remember, Cond.instanceMethod yX1_remember, Cond.selects RX1 yX1_remember yX1_remember, Cond.initialized RX1, Cond.code yX1_remember cX1_remember 5 none, Cond.fieldLink RX1 11 "StraightPages$History" "ring" "[LStraightPages$Change;", Cond.fieldLink RX1 18 "StraightPages$History" "next" "I", Cond.fieldLink RX1 25 "StraightPages$Change" "page" "I", Cond.fieldLink RX1 28 "StraightPages$Change" "made" "I", Cond.fieldLink RX1 31 "StraightPages$Change" "before" "LStraightPages$Sheet;", Cond.fieldLink RX1 22 "StraightPages$History" "kept" "I", Cond.methodLink RX1 41 Lib.Math.min.name, Cond.static Lib.Math.min.name, Cond.code Lib.Math.min.name Lib.Math.min.code 2 (some .int), Cond.methodLink RX1 35 yX2_become, Cond.instanceMethod yX2_become, Cond.selects RX2 yX2_become yX2_become, Cond.initialized RX2]
def wsX4_across_r3 : List Cond := [Cond.code yX2_become cX2_become 2 none, Cond.fieldLink RX2 9 "StraightPages$Sheet" "wide" "I", Cond.fieldLink RX2 15 "StraightPages$Sheet" "high" "I", Cond.fieldLink RX2 18 "StraightPages$Sheet" "rows" "[J", Cond.methodLink RX2 32 arraycopyName, Cond.native arraycopyName, Cond.static arraycopyName, Cond.initialized "java/lang/System", Cond.methodLink RX2 28 yX2_empty, Cond.instanceMethod yX2_empty, Cond.selects RX2 yX2_empty yX2_empty, Cond.code yX2_empty cX2_empty 3 none, Cond.methodLink RX2 22 yJ7_fill_d0a16, Cond.static yJ7_fill_d0a16, Cond.initialized RJ7, Cond.code yJ7_fill_d0a16 cJ7_fill_d0a16 5 none, Cond.methodLink RX4 146 yX2_shearAcross, Cond.instanceMethod yX2_shearAcross, Cond.selects RX2 yX2_shearAcross yX2_shearAcross, Cond.code yX2_shearAcross cX2_shearAcross 4 none, Cond.static yX4_leastSlide, Cond.code yX4_leastSlide cX4_leastSlide 2 (some .int), Cond.methodLink RX4 100 Lib.Math.min.name]
def wsX4_across : List Cond := .code yX4_across cX4_across 4 (some .int) :: ((wsX4_across_r1 ++ (wsX4_across_r2 ++ wsX4_across_r3)) ++ wsX20 ++ wsX40 ++ wsX10 ++ wsX00)
def wsX4_shearUp_r1 : List Cond := [Cond.fieldLink RX4 40 "StraightPages" "bench" "LStraightPages$Sheet;", Cond.methodLink RX4 244 yX2_becomeShearedUp, Cond.instanceMethod yX2_becomeShearedUp, Cond.selects RX2 yX2_becomeShearedUp yX2_becomeShearedUp, Cond.initialized RX2, Cond.code yX2_becomeShearedUp cX2_becomeShearedUp 7 none, Cond.fieldLink RX2 9 "StraightPages$Sheet" "wide" "I", Cond.fieldLink RX2 15 "StraightPages$Sheet" "high" "I", Cond.static yX4_spread, Cond.initialized RX4, Cond.code yX4_spread cX4_spread 2 (some .int), Cond.methodLink RX4 253 Lib.Math.abs.name, Cond.static Lib.Math.abs.name, Cond.initialized "java/lang/Math", Cond.code Lib.Math.abs.name Lib.Math.abs.code 1 (some .int), Cond.methodLink RX4 250 yX4_slide, Cond.static yX4_slide, Cond.code yX4_slide cX4_slide 2 (some .int), Cond.methodLink RX4 247 yJ9_floorDiv_7cf53, Cond.static yJ9_floorDiv_7cf53, Cond.initialized RJ9, Cond.code yJ9_floorDiv_7cf53 cJ9_floorDiv_7cf53 3 (some .int), Cond.methodLink RX2 28 yX2_empty, Cond.instanceMethod yX2_empty]
def wsX4_shearUp_r2 : List Cond := [Cond.selects RX2 yX2_empty yX2_empty, Cond.code yX2_empty cX2_empty 3 none, Cond.fieldLink RX2 18 "StraightPages$Sheet" "rows" "[J", Cond.methodLink RX2 22 yJ7_fill_d0a16, Cond.static yJ7_fill_d0a16, Cond.initialized RJ7, Cond.code yJ7_fill_d0a16 cJ7_fill_d0a16 5 none, Cond.static yX4_leastSlide, Cond.code yX4_leastSlide cX4_leastSlide 2 (some .int), Cond.methodLink RX4 100 Lib.Math.min.name, Cond.static Lib.Math.min.name, Cond.code Lib.Math.min.name Lib.Math.min.code 2 (some .int), Cond.methodLink RX2 72 yX2_addDropped, Cond.instanceMethod yX2_addDropped, Cond.selects RX2 yX2_addDropped yX2_addDropped, Cond.code yX2_addDropped cX2_addDropped 6 none, Cond.methodLink RX4 62 yX2_become, Cond.instanceMethod yX2_become, Cond.selects RX2 yX2_become yX2_become, Cond.code yX2_become cX2_become 2 none, Cond.methodLink RX2 32 arraycopyName, Cond.native arraycopyName, Cond.static arraycopyName, Cond.initialized "java/lang/System"]
def wsX4_shearUp : List Cond := .code yX4_shearUp cX4_shearUp 3 none :: ((wsX4_shearUp_r1 ++ wsX4_shearUp_r2) ++ wsX40 ++ wsX20)
def wsX4_upright_r1 : List Cond := [Cond.fieldLink RX4 97 "StraightPages$Sheet" "high" "I", Cond.fieldLink RX4 117 "StraightPages$Sheet" "wide" "I", Cond.fieldLink RX4 25 "StraightPages" "history" "LStraightPages$History;", Cond.methodLink RX4 58 yX4_find, Cond.instanceMethod yX4_find, Cond.selects RX4 yX4_find yX4_find, Cond.initialized RX4, Cond.code yX4_find cX4_find 2 (some (.object "StraightPages$Sheet")), Cond.fieldLink RX4 18 "StraightPages" "sheetCount" "I", Cond.fieldLink RX4 11 "StraightPages" "sheets" "[LStraightPages$Sheet;", Cond.methodLink RX4 50 yX4_within, Cond.static yX4_within, Cond.code yX4_within cX4_within 3 (some .boolean), Cond.methodLink RX4 140 yX4_isShear, Cond.static yX4_isShear, Cond.code yX4_isShear cX4_isShear 1 (some .boolean), Cond.methodLink RX4 143 yX4_spread, Cond.static yX4_spread, Cond.code yX4_spread cX4_spread 2 (some .int), Cond.methodLink RX4 253 Lib.Math.abs.name, Cond.static Lib.Math.abs.name, Cond.initialized "java/lang/Math", Cond.code Lib.Math.abs.name Lib.Math.abs.code 1 (some .int), Cond.methodLink RX4 250 yX4_slide]
def wsX4_upright_r2 : List Cond := [Cond.static yX4_slide, Cond.code yX4_slide cX4_slide 2 (some .int), Cond.methodLink RX4 247 yJ9_floorDiv_7cf53, Cond.static yJ9_floorDiv_7cf53, Cond.initialized RJ9, Cond.code yJ9_floorDiv_7cf53 cJ9_floorDiv_7cf53 3 (some .int), Cond.methodLink RX4 70 yX1_remember, Cond.instanceMethod yX1_remember, Cond.selects RX1 yX1_remember yX1_remember, Cond.initialized RX1, Cond.code yX1_remember cX1_remember 5 none, Cond.fieldLink RX1 11 "StraightPages$History" "ring" "[LStraightPages$Change;", Cond.fieldLink RX1 18 "StraightPages$History" "next" "I", Cond.fieldLink RX1 25 "StraightPages$Change" "page" "I", Cond.fieldLink RX1 28 "StraightPages$Change" "made" "I", Cond.fieldLink RX1 31 "StraightPages$Change" "before" "LStraightPages$Sheet;", Cond.fieldLink RX1 22 "StraightPages$History" "kept" "I", Cond.methodLink RX1 41 Lib.Math.min.name, Cond.static Lib.Math.min.name, Cond.code Lib.Math.min.name Lib.Math.min.code 2 (some .int), Cond.methodLink RX1 35 yX2_become, Cond.instanceMethod yX2_become, Cond.selects RX2 yX2_become yX2_become, Cond.initialized RX2]
def wsX4_upright_r3 : List Cond := [Cond.code yX2_become cX2_become 2 none, Cond.fieldLink RX2 9 "StraightPages$Sheet" "wide" "I", Cond.fieldLink RX2 15 "StraightPages$Sheet" "high" "I", Cond.fieldLink RX2 18 "StraightPages$Sheet" "rows" "[J", Cond.methodLink RX2 32 arraycopyName, Cond.native arraycopyName, Cond.static arraycopyName, Cond.initialized "java/lang/System", Cond.methodLink RX2 28 yX2_empty, Cond.instanceMethod yX2_empty, Cond.selects RX2 yX2_empty yX2_empty, Cond.code yX2_empty cX2_empty 3 none, Cond.methodLink RX2 22 yJ7_fill_d0a16, Cond.static yJ7_fill_d0a16, Cond.initialized RJ7, Cond.code yJ7_fill_d0a16 cJ7_fill_d0a16 5 none, Cond.methodLink RX4 149 yX4_shearUp, Cond.instanceMethod yX4_shearUp, Cond.selects RX4 yX4_shearUp yX4_shearUp, Cond.code yX4_shearUp cX4_shearUp 3 none, Cond.fieldLink RX4 40 "StraightPages" "bench" "LStraightPages$Sheet;", Cond.methodLink RX4 244 yX2_becomeShearedUp, Cond.instanceMethod yX2_becomeShearedUp, Cond.selects RX2 yX2_becomeShearedUp yX2_becomeShearedUp]
def wsX4_upright_r4 : List Cond := [Cond.code yX2_becomeShearedUp cX2_becomeShearedUp 7 none, Cond.static yX4_leastSlide, Cond.code yX4_leastSlide cX4_leastSlide 2 (some .int), Cond.methodLink RX4 100 Lib.Math.min.name, Cond.methodLink RX2 72 yX2_addDropped, Cond.instanceMethod yX2_addDropped, Cond.selects RX2 yX2_addDropped yX2_addDropped, Cond.code yX2_addDropped cX2_addDropped 6 none, Cond.methodLink RX4 62 yX2_become]
def wsX4_upright : List Cond := .code yX4_upright cX4_upright 4 (some .int) :: ((wsX4_upright_r1 ++ (wsX4_upright_r2 ++ (wsX4_upright_r3 ++ wsX4_upright_r4))) ++ wsX20 ++ wsX40 ++ wsX10 ++ wsX00)
def wsX4_canTurn : List Cond := .code yX4_canTurn cX4_canTurn 5 (some .boolean) :: ([.fieldLink RX4 117 "StraightPages$Sheet" "wide" "I", .fieldLink RX4 97 "StraightPages$Sheet" "high" "I", .methodLink RX4 143 yX4_spread, .static yX4_spread, .initialized RX4, .code yX4_spread cX4_spread 2 (some .int), .methodLink RX4 253 Lib.Math.abs.name, .static Lib.Math.abs.name, .initialized "java/lang/Math", .code Lib.Math.abs.name Lib.Math.abs.code 1 (some .int), .methodLink RX4 250 yX4_slide, .static yX4_slide, .code yX4_slide cX4_slide 2 (some .int), .methodLink RX4 247 yJ9_floorDiv_7cf53, .static yJ9_floorDiv_7cf53, .initialized RJ9, .code yJ9_floorDiv_7cf53 cJ9_floorDiv_7cf53 3 (some .int)] ++ wsX20)
def wsX4_turn_r1 : List Cond := [Cond.fieldLink RX4 25 "StraightPages" "history" "LStraightPages$History;", Cond.methodLink RX4 58 yX4_find, Cond.instanceMethod yX4_find, Cond.selects RX4 yX4_find yX4_find, Cond.initialized RX4, Cond.code yX4_find cX4_find 2 (some (.object "StraightPages$Sheet")), Cond.fieldLink RX4 18 "StraightPages" "sheetCount" "I", Cond.fieldLink RX4 11 "StraightPages" "sheets" "[LStraightPages$Sheet;", Cond.methodLink RX4 50 yX4_within, Cond.static yX4_within, Cond.code yX4_within cX4_within 3 (some .boolean), Cond.methodLink RX4 140 yX4_isShear, Cond.static yX4_isShear, Cond.code yX4_isShear cX4_isShear 1 (some .boolean), Cond.methodLink RX4 153 yX4_canTurn, Cond.static yX4_canTurn, Cond.code yX4_canTurn cX4_canTurn 5 (some .boolean), Cond.fieldLink RX4 117 "StraightPages$Sheet" "wide" "I", Cond.fieldLink RX4 97 "StraightPages$Sheet" "high" "I", Cond.methodLink RX4 143 yX4_spread, Cond.static yX4_spread, Cond.code yX4_spread cX4_spread 2 (some .int), Cond.methodLink RX4 253 Lib.Math.abs.name, Cond.static Lib.Math.abs.name]
def wsX4_turn_r2 : List Cond := [Cond.initialized "java/lang/Math", Cond.code Lib.Math.abs.name Lib.Math.abs.code 1 (some .int), Cond.methodLink RX4 250 yX4_slide, Cond.static yX4_slide, Cond.code yX4_slide cX4_slide 2 (some .int), Cond.methodLink RX4 247 yJ9_floorDiv_7cf53, Cond.static yJ9_floorDiv_7cf53, Cond.initialized RJ9, Cond.code yJ9_floorDiv_7cf53 cJ9_floorDiv_7cf53 3 (some .int), Cond.methodLink RX4 70 yX1_remember, Cond.instanceMethod yX1_remember, Cond.selects RX1 yX1_remember yX1_remember, Cond.initialized RX1, Cond.code yX1_remember cX1_remember 5 none, Cond.fieldLink RX1 11 "StraightPages$History" "ring" "[LStraightPages$Change;", Cond.fieldLink RX1 18 "StraightPages$History" "next" "I", Cond.fieldLink RX1 25 "StraightPages$Change" "page" "I", Cond.fieldLink RX1 28 "StraightPages$Change" "made" "I", Cond.fieldLink RX1 31 "StraightPages$Change" "before" "LStraightPages$Sheet;", Cond.fieldLink RX1 22 "StraightPages$History" "kept" "I", Cond.methodLink RX1 41 Lib.Math.min.name, Cond.static Lib.Math.min.name, Cond.code Lib.Math.min.name Lib.Math.min.code 2 (some .int), Cond.methodLink RX1 35 yX2_become]
def wsX4_turn_r3 : List Cond := [Cond.instanceMethod yX2_become, Cond.selects RX2 yX2_become yX2_become, Cond.initialized RX2, Cond.code yX2_become cX2_become 2 none, Cond.fieldLink RX2 9 "StraightPages$Sheet" "wide" "I", Cond.fieldLink RX2 15 "StraightPages$Sheet" "high" "I", Cond.fieldLink RX2 18 "StraightPages$Sheet" "rows" "[J", Cond.methodLink RX2 32 arraycopyName, Cond.native arraycopyName, Cond.static arraycopyName, Cond.initialized "java/lang/System", Cond.methodLink RX2 28 yX2_empty, Cond.instanceMethod yX2_empty, Cond.selects RX2 yX2_empty yX2_empty, Cond.code yX2_empty cX2_empty 3 none, Cond.methodLink RX2 22 yJ7_fill_d0a16, Cond.static yJ7_fill_d0a16, Cond.initialized RJ7, Cond.code yJ7_fill_d0a16 cJ7_fill_d0a16 5 none, Cond.methodLink RX4 146 yX2_shearAcross, Cond.instanceMethod yX2_shearAcross, Cond.selects RX2 yX2_shearAcross yX2_shearAcross, Cond.code yX2_shearAcross cX2_shearAcross 4 none, Cond.static yX4_leastSlide]
def wsX4_turn_r4 : List Cond := [Cond.code yX4_leastSlide cX4_leastSlide 2 (some .int), Cond.methodLink RX4 100 Lib.Math.min.name, Cond.methodLink RX4 149 yX4_shearUp, Cond.instanceMethod yX4_shearUp, Cond.selects RX4 yX4_shearUp yX4_shearUp, Cond.code yX4_shearUp cX4_shearUp 3 none, Cond.fieldLink RX4 40 "StraightPages" "bench" "LStraightPages$Sheet;", Cond.methodLink RX4 244 yX2_becomeShearedUp, Cond.instanceMethod yX2_becomeShearedUp, Cond.selects RX2 yX2_becomeShearedUp yX2_becomeShearedUp, Cond.code yX2_becomeShearedUp cX2_becomeShearedUp 7 none, Cond.methodLink RX2 72 yX2_addDropped, Cond.instanceMethod yX2_addDropped, Cond.selects RX2 yX2_addDropped yX2_addDropped, Cond.code yX2_addDropped cX2_addDropped 6 none, Cond.methodLink RX4 62 yX2_become]
def wsX4_turn : List Cond := .code yX4_turn cX4_turn 5 (some .boolean) :: ((wsX4_turn_r1 ++ (wsX4_turn_r2 ++ (wsX4_turn_r3 ++ wsX4_turn_r4))) ++ wsX40 ++ wsX20 ++ wsX10 ++ wsX00)
def wsX4_sharpness_r1 : List Cond := [Cond.fieldLink RX4 40 "StraightPages" "bench" "LStraightPages$Sheet;", Cond.fieldLink RX4 97 "StraightPages$Sheet" "high" "I", Cond.fieldLink RX4 74 "StraightPages$Sheet" "rows" "[J", Cond.methodLink RX4 244 yX2_becomeShearedUp, Cond.instanceMethod yX2_becomeShearedUp, Cond.selects RX2 yX2_becomeShearedUp yX2_becomeShearedUp, Cond.initialized RX2, Cond.code yX2_becomeShearedUp cX2_becomeShearedUp 7 none, Cond.fieldLink RX2 9 "StraightPages$Sheet" "wide" "I", Cond.fieldLink RX2 15 "StraightPages$Sheet" "high" "I", Cond.static yX4_spread, Cond.initialized RX4, Cond.code yX4_spread cX4_spread 2 (some .int), Cond.methodLink RX4 253 Lib.Math.abs.name, Cond.static Lib.Math.abs.name, Cond.initialized "java/lang/Math", Cond.code Lib.Math.abs.name Lib.Math.abs.code 1 (some .int), Cond.methodLink RX4 250 yX4_slide, Cond.static yX4_slide, Cond.code yX4_slide cX4_slide 2 (some .int), Cond.methodLink RX4 247 yJ9_floorDiv_7cf53, Cond.static yJ9_floorDiv_7cf53, Cond.initialized RJ9, Cond.code yJ9_floorDiv_7cf53 cJ9_floorDiv_7cf53 3 (some .int)]
def wsX4_sharpness_r2 : List Cond := [Cond.methodLink RX2 28 yX2_empty, Cond.instanceMethod yX2_empty, Cond.selects RX2 yX2_empty yX2_empty, Cond.code yX2_empty cX2_empty 3 none, Cond.fieldLink RX2 18 "StraightPages$Sheet" "rows" "[J", Cond.methodLink RX2 22 yJ7_fill_d0a16, Cond.static yJ7_fill_d0a16, Cond.initialized RJ7, Cond.code yJ7_fill_d0a16 cJ7_fill_d0a16 5 none, Cond.static yX4_leastSlide, Cond.code yX4_leastSlide cX4_leastSlide 2 (some .int), Cond.methodLink RX4 100 Lib.Math.min.name, Cond.static Lib.Math.min.name, Cond.code Lib.Math.min.name Lib.Math.min.code 2 (some .int), Cond.methodLink RX2 72 yX2_addDropped, Cond.instanceMethod yX2_addDropped, Cond.selects RX2 yX2_addDropped yX2_addDropped, Cond.code yX2_addDropped cX2_addDropped 6 none, Cond.methodLink RX4 88 yJ13_bitCount_95d88, Cond.static yJ13_bitCount_95d88, Cond.initialized RJ13, Cond.code yJ13_bitCount_95d88 cJ13_bitCount_95d88 2 (some .int), Cond.constantLong RJ13 314 (6148914691236517205), Cond.constantLong RJ13 316 (3689348814741910323)]
def wsX4_sharpness_r3 : List Cond := [Cond.constantLong RJ13 318 (1085102592571150095)]
def wsX4_sharpness : List Cond := .code yX4_sharpness cX4_sharpness 6 (some .int) :: ((wsX4_sharpness_r1 ++ (wsX4_sharpness_r2 ++ wsX4_sharpness_r3)) ++ wsX40 ++ wsX20)
def wsX4_sharp_r1 : List Cond := [Cond.methodLink RX4 58 yX4_find, Cond.instanceMethod yX4_find, Cond.selects RX4 yX4_find yX4_find, Cond.initialized RX4, Cond.code yX4_find cX4_find 2 (some (.object "StraightPages$Sheet")), Cond.fieldLink RX4 18 "StraightPages" "sheetCount" "I", Cond.fieldLink RX4 11 "StraightPages" "sheets" "[LStraightPages$Sheet;", Cond.methodLink RX4 50 yX4_within, Cond.static yX4_within, Cond.code yX4_within cX4_within 3 (some .boolean), Cond.methodLink RX4 157 yX4_sharpness, Cond.instanceMethod yX4_sharpness, Cond.selects RX4 yX4_sharpness yX4_sharpness, Cond.code yX4_sharpness cX4_sharpness 6 (some .int), Cond.fieldLink RX4 40 "StraightPages" "bench" "LStraightPages$Sheet;", Cond.fieldLink RX4 97 "StraightPages$Sheet" "high" "I", Cond.fieldLink RX4 74 "StraightPages$Sheet" "rows" "[J", Cond.methodLink RX4 244 yX2_becomeShearedUp, Cond.instanceMethod yX2_becomeShearedUp, Cond.selects RX2 yX2_becomeShearedUp yX2_becomeShearedUp, Cond.initialized RX2, Cond.code yX2_becomeShearedUp cX2_becomeShearedUp 7 none, Cond.fieldLink RX2 9 "StraightPages$Sheet" "wide" "I", Cond.fieldLink RX2 15 "StraightPages$Sheet" "high" "I"]
def wsX4_sharp_r2 : List Cond := [Cond.static yX4_spread, Cond.code yX4_spread cX4_spread 2 (some .int), Cond.methodLink RX4 253 Lib.Math.abs.name, Cond.static Lib.Math.abs.name, Cond.initialized "java/lang/Math", Cond.code Lib.Math.abs.name Lib.Math.abs.code 1 (some .int), Cond.methodLink RX4 250 yX4_slide, Cond.static yX4_slide, Cond.code yX4_slide cX4_slide 2 (some .int), Cond.methodLink RX4 247 yJ9_floorDiv_7cf53, Cond.static yJ9_floorDiv_7cf53, Cond.initialized RJ9, Cond.code yJ9_floorDiv_7cf53 cJ9_floorDiv_7cf53 3 (some .int), Cond.methodLink RX2 28 yX2_empty, Cond.instanceMethod yX2_empty, Cond.selects RX2 yX2_empty yX2_empty, Cond.code yX2_empty cX2_empty 3 none, Cond.fieldLink RX2 18 "StraightPages$Sheet" "rows" "[J", Cond.methodLink RX2 22 yJ7_fill_d0a16, Cond.static yJ7_fill_d0a16, Cond.initialized RJ7, Cond.code yJ7_fill_d0a16 cJ7_fill_d0a16 5 none, Cond.static yX4_leastSlide, Cond.code yX4_leastSlide cX4_leastSlide 2 (some .int)]
def wsX4_sharp_r3 : List Cond := [Cond.methodLink RX4 100 Lib.Math.min.name, Cond.static Lib.Math.min.name, Cond.code Lib.Math.min.name Lib.Math.min.code 2 (some .int), Cond.methodLink RX2 72 yX2_addDropped, Cond.instanceMethod yX2_addDropped, Cond.selects RX2 yX2_addDropped yX2_addDropped, Cond.code yX2_addDropped cX2_addDropped 6 none, Cond.methodLink RX4 88 yJ13_bitCount_95d88, Cond.static yJ13_bitCount_95d88, Cond.initialized RJ13, Cond.code yJ13_bitCount_95d88 cJ13_bitCount_95d88 2 (some .int), Cond.constantLong RJ13 314 (6148914691236517205), Cond.constantLong RJ13 316 (3689348814741910323), Cond.constantLong RJ13 318 (1085102592571150095)]
def wsX4_sharp : List Cond := .code yX4_sharp cX4_sharp 4 (some .int) :: ((wsX4_sharp_r1 ++ (wsX4_sharp_r2 ++ wsX4_sharp_r3)) ++ wsX40 ++ wsX20)
def wsX4_angle_r1 : List Cond := [Cond.methodLink RX4 58 yX4_find, Cond.instanceMethod yX4_find, Cond.selects RX4 yX4_find yX4_find, Cond.initialized RX4, Cond.code yX4_find cX4_find 2 (some (.object "StraightPages$Sheet")), Cond.fieldLink RX4 18 "StraightPages" "sheetCount" "I", Cond.fieldLink RX4 11 "StraightPages" "sheets" "[LStraightPages$Sheet;", Cond.methodLink RX4 50 yX4_within, Cond.static yX4_within, Cond.code yX4_within cX4_within 3 (some .boolean), Cond.methodLink RX4 124 yX2_inkedRows, Cond.instanceMethod yX2_inkedRows, Cond.selects RX2 yX2_inkedRows yX2_inkedRows, Cond.initialized RX2, Cond.code yX2_inkedRows cX2_inkedRows 4 (some .long), Cond.fieldLink RX2 15 "StraightPages$Sheet" "high" "I", Cond.fieldLink RX2 18 "StraightPages$Sheet" "rows" "[J", Cond.methodLink RX4 88 yJ13_bitCount_95d88, Cond.static yJ13_bitCount_95d88, Cond.initialized RJ13, Cond.code yJ13_bitCount_95d88 cJ13_bitCount_95d88 2 (some .int), Cond.constantLong RJ13 314 (6148914691236517205), Cond.constantLong RJ13 316 (3689348814741910323), Cond.constantLong RJ13 318 (1085102592571150095)]
def wsX4_angle_r2 : List Cond := [Cond.methodLink RX4 157 yX4_sharpness, Cond.instanceMethod yX4_sharpness, Cond.selects RX4 yX4_sharpness yX4_sharpness, Cond.code yX4_sharpness cX4_sharpness 6 (some .int), Cond.fieldLink RX4 40 "StraightPages" "bench" "LStraightPages$Sheet;", Cond.fieldLink RX4 97 "StraightPages$Sheet" "high" "I", Cond.fieldLink RX4 74 "StraightPages$Sheet" "rows" "[J", Cond.methodLink RX4 244 yX2_becomeShearedUp, Cond.instanceMethod yX2_becomeShearedUp, Cond.selects RX2 yX2_becomeShearedUp yX2_becomeShearedUp, Cond.code yX2_becomeShearedUp cX2_becomeShearedUp 7 none, Cond.fieldLink RX2 9 "StraightPages$Sheet" "wide" "I", Cond.static yX4_spread, Cond.code yX4_spread cX4_spread 2 (some .int), Cond.methodLink RX4 253 Lib.Math.abs.name, Cond.static Lib.Math.abs.name, Cond.initialized "java/lang/Math", Cond.code Lib.Math.abs.name Lib.Math.abs.code 1 (some .int), Cond.methodLink RX4 250 yX4_slide, Cond.static yX4_slide, Cond.code yX4_slide cX4_slide 2 (some .int), Cond.methodLink RX4 247 yJ9_floorDiv_7cf53, Cond.static yJ9_floorDiv_7cf53, Cond.initialized RJ9]
def wsX4_angle_r3 : List Cond := [Cond.code yJ9_floorDiv_7cf53 cJ9_floorDiv_7cf53 3 (some .int), Cond.methodLink RX2 28 yX2_empty, Cond.instanceMethod yX2_empty, Cond.selects RX2 yX2_empty yX2_empty, Cond.code yX2_empty cX2_empty 3 none, Cond.methodLink RX2 22 yJ7_fill_d0a16, Cond.static yJ7_fill_d0a16, Cond.initialized RJ7, Cond.code yJ7_fill_d0a16 cJ7_fill_d0a16 5 none, Cond.static yX4_leastSlide, Cond.code yX4_leastSlide cX4_leastSlide 2 (some .int), Cond.methodLink RX4 100 Lib.Math.min.name, Cond.static Lib.Math.min.name, Cond.code Lib.Math.min.name Lib.Math.min.code 2 (some .int), Cond.methodLink RX2 72 yX2_addDropped, Cond.instanceMethod yX2_addDropped, Cond.selects RX2 yX2_addDropped yX2_addDropped, Cond.code yX2_addDropped cX2_addDropped 6 none]
def wsX4_angle : List Cond := .code yX4_angle cX4_angle 8 (some .int) :: ((wsX4_angle_r1 ++ (wsX4_angle_r2 ++ wsX4_angle_r3)) ++ wsX40 ++ wsX20)
def wsX4_highestBit : List Cond := .code yX4_highestBit cX4_highestBit 3 (some .int) :: ([])
def wsX4_bend_r1 : List Cond := [Cond.fieldLink RX4 25 "StraightPages" "history" "LStraightPages$History;", Cond.fieldLink RX4 40 "StraightPages" "bench" "LStraightPages$Sheet;", Cond.fieldLink RX4 117 "StraightPages$Sheet" "wide" "I", Cond.fieldLink RX4 97 "StraightPages$Sheet" "high" "I", Cond.methodLink RX4 58 yX4_find, Cond.instanceMethod yX4_find, Cond.selects RX4 yX4_find yX4_find, Cond.initialized RX4, Cond.code yX4_find cX4_find 2 (some (.object "StraightPages$Sheet")), Cond.fieldLink RX4 18 "StraightPages" "sheetCount" "I", Cond.fieldLink RX4 11 "StraightPages" "sheets" "[LStraightPages$Sheet;", Cond.methodLink RX4 50 yX4_within, Cond.static yX4_within, Cond.code yX4_within cX4_within 3 (some .boolean), Cond.methodLink RX4 70 yX1_remember, Cond.instanceMethod yX1_remember, Cond.selects RX1 yX1_remember yX1_remember, Cond.initialized RX1, Cond.code yX1_remember cX1_remember 5 none, Cond.fieldLink RX1 11 "StraightPages$History" "ring" "[LStraightPages$Change;", Cond.fieldLink RX1 18 "StraightPages$History" "next" "I", Cond.fieldLink RX1 25 "StraightPages$Change" "page" "I", Cond.fieldLink RX1 28 "StraightPages$Change" "made" "I", Cond.fieldLink RX1 31 "StraightPages$Change" "before" "LStraightPages$Sheet;"]
def wsX4_bend_r2 : List Cond := [Cond.fieldLink RX1 22 "StraightPages$History" "kept" "I", Cond.methodLink RX1 41 Lib.Math.min.name, Cond.static Lib.Math.min.name, Cond.initialized "java/lang/Math", Cond.code Lib.Math.min.name Lib.Math.min.code 2 (some .int), Cond.methodLink RX1 35 yX2_become, Cond.instanceMethod yX2_become, Cond.selects RX2 yX2_become yX2_become, Cond.initialized RX2, Cond.code yX2_become cX2_become 2 none, Cond.fieldLink RX2 9 "StraightPages$Sheet" "wide" "I", Cond.fieldLink RX2 15 "StraightPages$Sheet" "high" "I", Cond.fieldLink RX2 18 "StraightPages$Sheet" "rows" "[J", Cond.methodLink RX2 32 arraycopyName, Cond.native arraycopyName, Cond.static arraycopyName, Cond.initialized "java/lang/System", Cond.methodLink RX2 28 yX2_empty, Cond.instanceMethod yX2_empty, Cond.selects RX2 yX2_empty yX2_empty, Cond.code yX2_empty cX2_empty 3 none, Cond.methodLink RX2 22 yJ7_fill_d0a16, Cond.static yJ7_fill_d0a16, Cond.initialized RJ7]
def wsX4_bend_r3 : List Cond := [Cond.code yJ7_fill_d0a16 cJ7_fill_d0a16 5 none, Cond.methodLink RX4 124 yX2_inkedRows, Cond.instanceMethod yX2_inkedRows, Cond.selects RX2 yX2_inkedRows yX2_inkedRows, Cond.code yX2_inkedRows cX2_inkedRows 4 (some .long), Cond.methodLink RX4 161 yX4_highestBit, Cond.static yX4_highestBit, Cond.code yX4_highestBit cX4_highestBit 3 (some .int), Cond.methodLink RX4 54 yX2_empty, Cond.methodLink RX4 164 yX2_steps, Cond.instanceMethod yX2_steps, Cond.selects RX2 yX2_steps yX2_steps, Cond.code yX2_steps cX2_steps 1 (some .int), Cond.methodLink RX4 167 yX2_footOf, Cond.instanceMethod yX2_footOf, Cond.selects RX2 yX2_footOf yX2_footOf, Cond.code yX2_footOf cX2_footOf 3 (some .int), Cond.static yX4_stepColumns, Cond.code yX4_stepColumns cX4_stepColumns 1 (some .long), Cond.constantLong RX4 238 (255), Cond.methodLink RX4 171 yX4_stepColumns, Cond.methodLink RX4 174 yX2_addDropped, Cond.instanceMethod yX2_addDropped, Cond.selects RX2 yX2_addDropped yX2_addDropped]
def wsX4_bend_r4 : List Cond := [Cond.code yX2_addDropped cX2_addDropped 6 none, Cond.methodLink RX4 62 yX2_become]
def wsX4_bend : List Cond := .code yX4_bend cX4_bend 7 (some .int) :: ((wsX4_bend_r1 ++ (wsX4_bend_r2 ++ (wsX4_bend_r3 ++ wsX4_bend_r4))) ++ wsX40 ++ wsX20 ++ wsX10 ++ wsX00)
def wsX4_foot_r1 : List Cond := [Cond.methodLink RX4 58 yX4_find, Cond.instanceMethod yX4_find, Cond.selects RX4 yX4_find yX4_find, Cond.initialized RX4, Cond.code yX4_find cX4_find 2 (some (.object "StraightPages$Sheet")), Cond.fieldLink RX4 18 "StraightPages" "sheetCount" "I", Cond.fieldLink RX4 11 "StraightPages" "sheets" "[LStraightPages$Sheet;", Cond.methodLink RX4 50 yX4_within, Cond.static yX4_within, Cond.code yX4_within cX4_within 3 (some .boolean), Cond.methodLink RX4 164 yX2_steps, Cond.instanceMethod yX2_steps, Cond.selects RX2 yX2_steps yX2_steps, Cond.initialized RX2, Cond.code yX2_steps cX2_steps 1 (some .int), Cond.fieldLink RX2 9 "StraightPages$Sheet" "wide" "I", Cond.methodLink RX4 167 yX2_footOf, Cond.instanceMethod yX2_footOf, Cond.selects RX2 yX2_footOf yX2_footOf, Cond.code yX2_footOf cX2_footOf 3 (some .int), Cond.fieldLink RX2 15 "StraightPages$Sheet" "high" "I", Cond.fieldLink RX2 18 "StraightPages$Sheet" "rows" "[J", Cond.static yX4_stepColumns, Cond.code yX4_stepColumns cX4_stepColumns 1 (some .long)]
def wsX4_foot_r2 : List Cond := [Cond.constantLong RX4 238 (255)]
def wsX4_foot : List Cond := .code yX4_foot cX4_foot 5 (some .int) :: ((wsX4_foot_r1 ++ wsX4_foot_r2) ++ wsX40 ++ wsX20)
def wsX4_isSpeckRule : List Cond := .code yX4_isSpeckRule cX4_isSpeckRule 2 (some .boolean) :: ([.methodLink RX4 50 yX4_within, .static yX4_within, .initialized RX4, .code yX4_within cX4_within 3 (some .boolean)])
def wsX4_specks_r1 : List Cond := [Cond.fieldLink RX4 32 "StraightPages" "spots" "LStraightPages$Spots;", Cond.methodLink RX4 58 yX4_find, Cond.instanceMethod yX4_find, Cond.selects RX4 yX4_find yX4_find, Cond.initialized RX4, Cond.code yX4_find cX4_find 2 (some (.object "StraightPages$Sheet")), Cond.fieldLink RX4 18 "StraightPages" "sheetCount" "I", Cond.fieldLink RX4 11 "StraightPages" "sheets" "[LStraightPages$Sheet;", Cond.methodLink RX4 50 yX4_within, Cond.static yX4_within, Cond.code yX4_within cX4_within 3 (some .boolean), Cond.methodLink RX4 178 yX4_isSpeckRule, Cond.static yX4_isSpeckRule, Cond.code yX4_isSpeckRule cX4_isSpeckRule 2 (some .boolean), Cond.methodLink RX4 181 yX3_findSpecks, Cond.instanceMethod yX3_findSpecks, Cond.selects RX3 yX3_findSpecks yX3_findSpecks, Cond.initialized RX3, Cond.code yX3_findSpecks cX3_findSpecks 6 (some .int), Cond.fieldLink RX3 14 "StraightPages$Spots" "specks" "LStraightPages$Sheet;", Cond.fieldLink RX3 68 "StraightPages$Sheet" "wide" "I", Cond.fieldLink RX3 71 "StraightPages$Sheet" "high" "I", Cond.methodLink RX3 64 yX3_markNearLarge, Cond.instanceMethod yX3_markNearLarge]
def wsX4_specks_r2 : List Cond := [Cond.selects RX3 yX3_markNearLarge yX3_markNearLarge, Cond.code yX3_markNearLarge cX3_markNearLarge 5 none, Cond.fieldLink RX3 26 "StraightPages$Spots" "near" "LStraightPages$Sheet;", Cond.fieldLink RX3 37 "StraightPages$Spots" "points" "I", Cond.methodLink RX3 74 yX2_empty, Cond.instanceMethod yX2_empty, Cond.selects RX2 yX2_empty yX2_empty, Cond.initialized RX2, Cond.code yX2_empty cX2_empty 3 none, Cond.fieldLink RX2 9 "StraightPages$Sheet" "wide" "I", Cond.fieldLink RX2 15 "StraightPages$Sheet" "high" "I", Cond.fieldLink RX2 18 "StraightPages$Sheet" "rows" "[J", Cond.methodLink RX2 22 yJ7_fill_d0a16, Cond.static yJ7_fill_d0a16, Cond.initialized RJ7, Cond.code yJ7_fill_d0a16 cJ7_fill_d0a16 5 none, Cond.methodLink RX3 50 yX3_begin, Cond.instanceMethod yX3_begin, Cond.selects RX3 yX3_begin yX3_begin, Cond.code yX3_begin cX3_begin 2 none, Cond.fieldLink RX3 20 "StraightPages$Spots" "left" "LStraightPages$Sheet;", Cond.fieldLink RX3 23 "StraightPages$Spots" "spot" "LStraightPages$Sheet;", Cond.fieldLink RX3 41 "StraightPages$Spots" "top" "I", Cond.fieldLink RX3 44 "StraightPages$Spots" "bottom" "I"]
def wsX4_specks_r3 : List Cond := [Cond.fieldLink RX3 47 "StraightPages$Spots" "firstLeft" "I", Cond.methodLink RX3 98 yX2_become, Cond.instanceMethod yX2_become, Cond.selects RX2 yX2_become yX2_become, Cond.code yX2_become cX2_become 2 none, Cond.methodLink RX2 32 arraycopyName, Cond.native arraycopyName, Cond.static arraycopyName, Cond.initialized "java/lang/System", Cond.methodLink RX2 28 yX2_empty, Cond.methodLink RX3 54 yX3_next, Cond.instanceMethod yX3_next, Cond.selects RX3 yX3_next yX3_next, Cond.code yX3_next cX3_next 2 (some .boolean), Cond.fieldLink RX3 87 "StraightPages$Sheet" "rows" "[J", Cond.fieldLink RX3 33 "StraightPages$Spots" "waitingRows" "J", Cond.methodLink RX3 101 yX3_clearSpot, Cond.instanceMethod yX3_clearSpot, Cond.selects RX3 yX3_clearSpot yX3_clearSpot, Cond.code yX3_clearSpot cX3_clearSpot 2 none, Cond.methodLink RX3 104 yX3_admit, Cond.instanceMethod yX3_admit, Cond.selects RX3 yX3_admit yX3_admit, Cond.code yX3_admit cX3_admit 6 none]
def wsX4_specks_r4 : List Cond := [Cond.constantLong RX3 115 (-1), Cond.fieldLink RX3 29 "StraightPages$Spots" "waiting" "[J", Cond.methodLink RX3 130 Lib.Math.min.name, Cond.static Lib.Math.min.name, Cond.initialized "java/lang/Math", Cond.code Lib.Math.min.name Lib.Math.min.code 2 (some .int), Cond.methodLink RX3 58 Lib.Math.max.name, Cond.static Lib.Math.max.name, Cond.code Lib.Math.max.name Lib.Math.max.code 2 (some .int), Cond.methodLink RX3 117 yX2_hasRow, Cond.instanceMethod yX2_hasRow, Cond.selects RX2 yX2_hasRow yX2_hasRow, Cond.code yX2_hasRow cX2_hasRow 2 (some .boolean), Cond.methodLink RX3 121 yX3_runsAt, Cond.static yX3_runsAt, Cond.code yX3_runsAt cX3_runsAt 13 (some .long), Cond.methodLink RX3 125 yJ13_bitCount_95d88, Cond.static yJ13_bitCount_95d88, Cond.initialized RJ13, Cond.code yJ13_bitCount_95d88 cJ13_bitCount_95d88 2 (some .int), Cond.constantLong RJ13 314 (6148914691236517205), Cond.constantLong RJ13 316 (3689348814741910323), Cond.constantLong RJ13 318 (1085102592571150095), Cond.static yX4_lowestBit]
def wsX4_specks_r5 : List Cond := [Cond.code yX4_lowestBit cX4_lowestBit 2 (some .int), Cond.methodLink RX4 88 yJ13_bitCount_95d88, Cond.methodLink RX3 112 yX3_growFrom, Cond.instanceMethod yX3_growFrom, Cond.selects RX3 yX3_growFrom yX3_growFrom, Cond.code yX3_growFrom cX3_growFrom 4 none, Cond.methodLink RX3 90 yX3_widened, Cond.static yX3_widened, Cond.code yX3_widened cX3_widened 2 (some .long), Cond.methodLink RX3 81 yX3_addSpotTo, Cond.instanceMethod yX3_addSpotTo, Cond.selects RX3 yX3_addSpotTo yX3_addSpotTo, Cond.code yX3_addSpotTo cX3_addSpotTo 3 none, Cond.methodLink RX3 84 yX3_widenNear, Cond.instanceMethod yX3_widenNear, Cond.selects RX3 yX3_widenNear yX3_widenNear, Cond.code yX3_widenNear cX3_widenNear 8 none, Cond.methodLink RX3 94 yX2_allColumns, Cond.instanceMethod yX2_allColumns, Cond.selects RX2 yX2_allColumns yX2_allColumns, Cond.code yX2_allColumns cX2_allColumns 1 (some .long), Cond.constantLong RX2 46 (-1), Cond.methodLink RX3 78 yX3_touchesNear, Cond.instanceMethod yX3_touchesNear]
def wsX4_specks_r6 : List Cond := [Cond.selects RX3 yX3_touchesNear yX3_touchesNear, Cond.code yX3_touchesNear cX3_touchesNear 3 (some .boolean)]
def wsX4_specks : List Cond := .code yX4_specks cX4_specks 5 (some .int) :: ((wsX4_specks_r1 ++ (wsX4_specks_r2 ++ (wsX4_specks_r3 ++ (wsX4_specks_r4 ++ (wsX4_specks_r5 ++ wsX4_specks_r6))))) ++ wsX40 ++ wsX30 ++ wsX20)
def wsX4_takeListed_r1 : List Cond := [Cond.fieldLink RX4 25 "StraightPages" "history" "LStraightPages$History;", Cond.fieldLink RX4 97 "StraightPages$Sheet" "high" "I", Cond.fieldLink RX4 74 "StraightPages$Sheet" "rows" "[J", Cond.fieldLink RX4 36 "StraightPages" "list" "LStraightPages$Sheet;", Cond.constantLong RX4 78 (-1), Cond.methodLink RX4 70 yX1_remember, Cond.instanceMethod yX1_remember, Cond.selects RX1 yX1_remember yX1_remember, Cond.initialized RX1, Cond.code yX1_remember cX1_remember 5 none, Cond.fieldLink RX1 11 "StraightPages$History" "ring" "[LStraightPages$Change;", Cond.fieldLink RX1 18 "StraightPages$History" "next" "I", Cond.fieldLink RX1 25 "StraightPages$Change" "page" "I", Cond.fieldLink RX1 28 "StraightPages$Change" "made" "I", Cond.fieldLink RX1 31 "StraightPages$Change" "before" "LStraightPages$Sheet;", Cond.fieldLink RX1 22 "StraightPages$History" "kept" "I", Cond.methodLink RX1 41 Lib.Math.min.name, Cond.static Lib.Math.min.name, Cond.initialized "java/lang/Math", Cond.code Lib.Math.min.name Lib.Math.min.code 2 (some .int), Cond.methodLink RX1 35 yX2_become, Cond.instanceMethod yX2_become, Cond.selects RX2 yX2_become yX2_become, Cond.initialized RX2]
def wsX4_takeListed_r2 : List Cond := [Cond.code yX2_become cX2_become 2 none, Cond.fieldLink RX2 9 "StraightPages$Sheet" "wide" "I", Cond.fieldLink RX2 15 "StraightPages$Sheet" "high" "I", Cond.fieldLink RX2 18 "StraightPages$Sheet" "rows" "[J", Cond.methodLink RX2 32 arraycopyName, Cond.native arraycopyName, Cond.static arraycopyName, Cond.initialized "java/lang/System", Cond.methodLink RX2 28 yX2_empty, Cond.instanceMethod yX2_empty, Cond.selects RX2 yX2_empty yX2_empty, Cond.code yX2_empty cX2_empty 3 none, Cond.methodLink RX2 22 yJ7_fill_d0a16, Cond.static yJ7_fill_d0a16, Cond.initialized RJ7, Cond.code yJ7_fill_d0a16 cJ7_fill_d0a16 5 none]
def wsX4_takeListed : List Cond := .code yX4_takeListed cX4_takeListed 4 none :: ((wsX4_takeListed_r1 ++ wsX4_takeListed_r2) ++ wsX40 ++ wsX20 ++ wsX10 ++ wsX00)
def wsX4_take_r1 : List Cond := [Cond.fieldLink RX4 32 "StraightPages" "spots" "LStraightPages$Spots;", Cond.fieldLink RX4 36 "StraightPages" "list" "LStraightPages$Sheet;", Cond.fieldLink RX4 185 "StraightPages$Spots" "specks" "LStraightPages$Sheet;", Cond.methodLink RX4 58 yX4_find, Cond.instanceMethod yX4_find, Cond.selects RX4 yX4_find yX4_find, Cond.initialized RX4, Cond.code yX4_find cX4_find 2 (some (.object "StraightPages$Sheet")), Cond.fieldLink RX4 18 "StraightPages" "sheetCount" "I", Cond.fieldLink RX4 11 "StraightPages" "sheets" "[LStraightPages$Sheet;", Cond.methodLink RX4 50 yX4_within, Cond.static yX4_within, Cond.code yX4_within cX4_within 3 (some .boolean), Cond.methodLink RX4 178 yX4_isSpeckRule, Cond.static yX4_isSpeckRule, Cond.code yX4_isSpeckRule cX4_isSpeckRule 2 (some .boolean), Cond.methodLink RX4 181 yX3_findSpecks, Cond.instanceMethod yX3_findSpecks, Cond.selects RX3 yX3_findSpecks yX3_findSpecks, Cond.initialized RX3, Cond.code yX3_findSpecks cX3_findSpecks 6 (some .int), Cond.fieldLink RX3 14 "StraightPages$Spots" "specks" "LStraightPages$Sheet;", Cond.fieldLink RX3 68 "StraightPages$Sheet" "wide" "I", Cond.fieldLink RX3 71 "StraightPages$Sheet" "high" "I"]
def wsX4_take_r2 : List Cond := [Cond.methodLink RX3 64 yX3_markNearLarge, Cond.instanceMethod yX3_markNearLarge, Cond.selects RX3 yX3_markNearLarge yX3_markNearLarge, Cond.code yX3_markNearLarge cX3_markNearLarge 5 none, Cond.fieldLink RX3 26 "StraightPages$Spots" "near" "LStraightPages$Sheet;", Cond.fieldLink RX3 37 "StraightPages$Spots" "points" "I", Cond.methodLink RX3 74 yX2_empty, Cond.instanceMethod yX2_empty, Cond.selects RX2 yX2_empty yX2_empty, Cond.initialized RX2, Cond.code yX2_empty cX2_empty 3 none, Cond.fieldLink RX2 9 "StraightPages$Sheet" "wide" "I", Cond.fieldLink RX2 15 "StraightPages$Sheet" "high" "I", Cond.fieldLink RX2 18 "StraightPages$Sheet" "rows" "[J", Cond.methodLink RX2 22 yJ7_fill_d0a16, Cond.static yJ7_fill_d0a16, Cond.initialized RJ7, Cond.code yJ7_fill_d0a16 cJ7_fill_d0a16 5 none, Cond.methodLink RX3 50 yX3_begin, Cond.instanceMethod yX3_begin, Cond.selects RX3 yX3_begin yX3_begin, Cond.code yX3_begin cX3_begin 2 none, Cond.fieldLink RX3 20 "StraightPages$Spots" "left" "LStraightPages$Sheet;", Cond.fieldLink RX3 23 "StraightPages$Spots" "spot" "LStraightPages$Sheet;"]
def wsX4_take_r3 : List Cond := [Cond.fieldLink RX3 41 "StraightPages$Spots" "top" "I", Cond.fieldLink RX3 44 "StraightPages$Spots" "bottom" "I", Cond.fieldLink RX3 47 "StraightPages$Spots" "firstLeft" "I", Cond.methodLink RX3 98 yX2_become, Cond.instanceMethod yX2_become, Cond.selects RX2 yX2_become yX2_become, Cond.code yX2_become cX2_become 2 none, Cond.methodLink RX2 32 arraycopyName, Cond.native arraycopyName, Cond.static arraycopyName, Cond.initialized "java/lang/System", Cond.methodLink RX2 28 yX2_empty, Cond.methodLink RX3 54 yX3_next, Cond.instanceMethod yX3_next, Cond.selects RX3 yX3_next yX3_next, Cond.code yX3_next cX3_next 2 (some .boolean), Cond.fieldLink RX3 87 "StraightPages$Sheet" "rows" "[J", Cond.fieldLink RX3 33 "StraightPages$Spots" "waitingRows" "J", Cond.methodLink RX3 101 yX3_clearSpot, Cond.instanceMethod yX3_clearSpot, Cond.selects RX3 yX3_clearSpot yX3_clearSpot, Cond.code yX3_clearSpot cX3_clearSpot 2 none, Cond.methodLink RX3 104 yX3_admit, Cond.instanceMethod yX3_admit]
def wsX4_take_r4 : List Cond := [Cond.selects RX3 yX3_admit yX3_admit, Cond.code yX3_admit cX3_admit 6 none, Cond.constantLong RX3 115 (-1), Cond.fieldLink RX3 29 "StraightPages$Spots" "waiting" "[J", Cond.methodLink RX3 130 Lib.Math.min.name, Cond.static Lib.Math.min.name, Cond.initialized "java/lang/Math", Cond.code Lib.Math.min.name Lib.Math.min.code 2 (some .int), Cond.methodLink RX3 58 Lib.Math.max.name, Cond.static Lib.Math.max.name, Cond.code Lib.Math.max.name Lib.Math.max.code 2 (some .int), Cond.methodLink RX3 117 yX2_hasRow, Cond.instanceMethod yX2_hasRow, Cond.selects RX2 yX2_hasRow yX2_hasRow, Cond.code yX2_hasRow cX2_hasRow 2 (some .boolean), Cond.methodLink RX3 121 yX3_runsAt, Cond.static yX3_runsAt, Cond.code yX3_runsAt cX3_runsAt 13 (some .long), Cond.methodLink RX3 125 yJ13_bitCount_95d88, Cond.static yJ13_bitCount_95d88, Cond.initialized RJ13, Cond.code yJ13_bitCount_95d88 cJ13_bitCount_95d88 2 (some .int), Cond.constantLong RJ13 314 (6148914691236517205), Cond.constantLong RJ13 316 (3689348814741910323)]
def wsX4_take_r5 : List Cond := [Cond.constantLong RJ13 318 (1085102592571150095), Cond.static yX4_lowestBit, Cond.code yX4_lowestBit cX4_lowestBit 2 (some .int), Cond.methodLink RX4 88 yJ13_bitCount_95d88, Cond.methodLink RX3 112 yX3_growFrom, Cond.instanceMethod yX3_growFrom, Cond.selects RX3 yX3_growFrom yX3_growFrom, Cond.code yX3_growFrom cX3_growFrom 4 none, Cond.methodLink RX3 90 yX3_widened, Cond.static yX3_widened, Cond.code yX3_widened cX3_widened 2 (some .long), Cond.methodLink RX3 81 yX3_addSpotTo, Cond.instanceMethod yX3_addSpotTo, Cond.selects RX3 yX3_addSpotTo yX3_addSpotTo, Cond.code yX3_addSpotTo cX3_addSpotTo 3 none, Cond.methodLink RX3 84 yX3_widenNear, Cond.instanceMethod yX3_widenNear, Cond.selects RX3 yX3_widenNear yX3_widenNear, Cond.code yX3_widenNear cX3_widenNear 8 none, Cond.methodLink RX3 94 yX2_allColumns, Cond.instanceMethod yX2_allColumns, Cond.selects RX2 yX2_allColumns yX2_allColumns, Cond.code yX2_allColumns cX2_allColumns 1 (some .long), Cond.constantLong RX2 46 (-1)]
def wsX4_take_r6 : List Cond := [Cond.methodLink RX3 78 yX3_touchesNear, Cond.instanceMethod yX3_touchesNear, Cond.selects RX3 yX3_touchesNear yX3_touchesNear, Cond.code yX3_touchesNear cX3_touchesNear 3 (some .boolean), Cond.methodLink RX4 62 yX2_become, Cond.methodLink RX4 188 yX4_takeListed, Cond.instanceMethod yX4_takeListed, Cond.selects RX4 yX4_takeListed yX4_takeListed, Cond.code yX4_takeListed cX4_takeListed 4 none, Cond.fieldLink RX4 25 "StraightPages" "history" "LStraightPages$History;", Cond.fieldLink RX4 97 "StraightPages$Sheet" "high" "I", Cond.fieldLink RX4 74 "StraightPages$Sheet" "rows" "[J", Cond.constantLong RX4 78 (-1), Cond.methodLink RX4 70 yX1_remember, Cond.instanceMethod yX1_remember, Cond.selects RX1 yX1_remember yX1_remember, Cond.initialized RX1, Cond.code yX1_remember cX1_remember 5 none, Cond.fieldLink RX1 11 "StraightPages$History" "ring" "[LStraightPages$Change;", Cond.fieldLink RX1 18 "StraightPages$History" "next" "I", Cond.fieldLink RX1 25 "StraightPages$Change" "page" "I", Cond.fieldLink RX1 28 "StraightPages$Change" "made" "I", Cond.fieldLink RX1 31 "StraightPages$Change" "before" "LStraightPages$Sheet;", Cond.fieldLink RX1 22 "StraightPages$History" "kept" "I"]
def wsX4_take_r7 : List Cond := [Cond.methodLink RX1 41 Lib.Math.min.name, Cond.methodLink RX1 35 yX2_become, Cond.methodLink RX4 120 yX2_ink, Cond.instanceMethod yX2_ink, Cond.selects RX2 yX2_ink yX2_ink, Cond.code yX2_ink cX2_ink 3 (some .int), Cond.methodLink RX2 48 yJ13_bitCount_95d88]
def wsX4_take : List Cond := .code yX4_take cX4_take 5 (some .int) :: ((wsX4_take_r1 ++ (wsX4_take_r2 ++ (wsX4_take_r3 ++ (wsX4_take_r4 ++ (wsX4_take_r5 ++ (wsX4_take_r6 ++ wsX4_take_r7)))))) ++ wsX40 ++ wsX30 ++ wsX20 ++ wsX10 ++ wsX00)
def wsX4_shadow_r1 : List Cond := [Cond.fieldLink RX4 36 "StraightPages" "list" "LStraightPages$Sheet;", Cond.fieldLink RX4 117 "StraightPages$Sheet" "wide" "I", Cond.fieldLink RX4 97 "StraightPages$Sheet" "high" "I", Cond.methodLink RX4 58 yX4_find, Cond.instanceMethod yX4_find, Cond.selects RX4 yX4_find yX4_find, Cond.initialized RX4, Cond.code yX4_find cX4_find 2 (some (.object "StraightPages$Sheet")), Cond.fieldLink RX4 18 "StraightPages" "sheetCount" "I", Cond.fieldLink RX4 11 "StraightPages" "sheets" "[LStraightPages$Sheet;", Cond.methodLink RX4 50 yX4_within, Cond.static yX4_within, Cond.code yX4_within cX4_within 3 (some .boolean), Cond.methodLink RX4 192 yX2_shadowColumns, Cond.instanceMethod yX2_shadowColumns, Cond.selects RX2 yX2_shadowColumns yX2_shadowColumns, Cond.initialized RX2, Cond.code yX2_shadowColumns cX2_shadowColumns 5 (some .long), Cond.fieldLink RX2 9 "StraightPages$Sheet" "wide" "I", Cond.methodLink RX2 80 yX2_isDark, Cond.instanceMethod yX2_isDark, Cond.selects RX2 yX2_isDark yX2_isDark, Cond.code yX2_isDark cX2_isDark 3 (some .boolean), Cond.fieldLink RX2 15 "StraightPages$Sheet" "high" "I"]
def wsX4_shadow_r2 : List Cond := [Cond.methodLink RX2 76 yX2_columnInk, Cond.instanceMethod yX2_columnInk, Cond.selects RX2 yX2_columnInk yX2_columnInk, Cond.code yX2_columnInk cX2_columnInk 4 (some .int), Cond.fieldLink RX2 18 "StraightPages$Sheet" "rows" "[J", Cond.methodLink RX2 84 yX2_allColumns, Cond.instanceMethod yX2_allColumns, Cond.selects RX2 yX2_allColumns yX2_allColumns, Cond.code yX2_allColumns cX2_allColumns 1 (some .long), Cond.constantLong RX2 46 (-1), Cond.methodLink RX4 54 yX2_empty, Cond.instanceMethod yX2_empty, Cond.selects RX2 yX2_empty yX2_empty, Cond.code yX2_empty cX2_empty 3 none, Cond.methodLink RX2 22 yJ7_fill_d0a16, Cond.static yJ7_fill_d0a16, Cond.initialized RJ7, Cond.code yJ7_fill_d0a16 cJ7_fill_d0a16 5 none, Cond.methodLink RX4 174 yX2_addDropped, Cond.instanceMethod yX2_addDropped, Cond.selects RX2 yX2_addDropped yX2_addDropped, Cond.code yX2_addDropped cX2_addDropped 6 none, Cond.methodLink RX4 188 yX4_takeListed, Cond.instanceMethod yX4_takeListed]
def wsX4_shadow_r3 : List Cond := [Cond.selects RX4 yX4_takeListed yX4_takeListed, Cond.code yX4_takeListed cX4_takeListed 4 none, Cond.fieldLink RX4 25 "StraightPages" "history" "LStraightPages$History;", Cond.fieldLink RX4 74 "StraightPages$Sheet" "rows" "[J", Cond.constantLong RX4 78 (-1), Cond.methodLink RX4 70 yX1_remember, Cond.instanceMethod yX1_remember, Cond.selects RX1 yX1_remember yX1_remember, Cond.initialized RX1, Cond.code yX1_remember cX1_remember 5 none, Cond.fieldLink RX1 11 "StraightPages$History" "ring" "[LStraightPages$Change;", Cond.fieldLink RX1 18 "StraightPages$History" "next" "I", Cond.fieldLink RX1 25 "StraightPages$Change" "page" "I", Cond.fieldLink RX1 28 "StraightPages$Change" "made" "I", Cond.fieldLink RX1 31 "StraightPages$Change" "before" "LStraightPages$Sheet;", Cond.fieldLink RX1 22 "StraightPages$History" "kept" "I", Cond.methodLink RX1 41 Lib.Math.min.name, Cond.static Lib.Math.min.name, Cond.initialized "java/lang/Math", Cond.code Lib.Math.min.name Lib.Math.min.code 2 (some .int), Cond.methodLink RX1 35 yX2_become, Cond.instanceMethod yX2_become, Cond.selects RX2 yX2_become yX2_become, Cond.code yX2_become cX2_become 2 none]
def wsX4_shadow_r4 : List Cond := [Cond.methodLink RX2 32 arraycopyName, Cond.native arraycopyName, Cond.static arraycopyName, Cond.initialized "java/lang/System", Cond.methodLink RX2 28 yX2_empty, Cond.methodLink RX4 88 yJ13_bitCount_95d88, Cond.static yJ13_bitCount_95d88, Cond.initialized RJ13, Cond.code yJ13_bitCount_95d88 cJ13_bitCount_95d88 2 (some .int), Cond.constantLong RJ13 314 (6148914691236517205), Cond.constantLong RJ13 316 (3689348814741910323), Cond.constantLong RJ13 318 (1085102592571150095)]
def wsX4_shadow : List Cond := .code yX4_shadow cX4_shadow 6 (some .int) :: ((wsX4_shadow_r1 ++ (wsX4_shadow_r2 ++ (wsX4_shadow_r3 ++ wsX4_shadow_r4))) ++ wsX40 ++ wsX20 ++ wsX10 ++ wsX00)
def wsX4_bitAfter : List Cond := .code yX4_bitAfter cX4_bitAfter 6 (some .int) :: ([.methodLink RX4 205 yX4_lowestBit, .static yX4_lowestBit, .initialized RX4, .code yX4_lowestBit cX4_lowestBit 2 (some .int), .methodLink RX4 88 yJ13_bitCount_95d88, .static yJ13_bitCount_95d88, .initialized RJ13, .code yJ13_bitCount_95d88 cJ13_bitCount_95d88 2 (some .int), .constantLong RJ13 314 (6148914691236517205), .constantLong RJ13 316 (3689348814741910323), .constantLong RJ13 318 (1085102592571150095)])
def wsX4_listed_r1 : List Cond := [Cond.classLink RX4 110 "java/util/NoSuchElementException", Cond.initialized "java/util/NoSuchElementException", Cond.fieldLink RX4 36 "StraightPages" "list" "LStraightPages$Sheet;", Cond.fieldLink RX4 97 "StraightPages$Sheet" "high" "I", Cond.fieldLink RX4 74 "StraightPages$Sheet" "rows" "[J", Cond.methodLink RX4 50 yX4_within, Cond.static yX4_within, Cond.initialized RX4, Cond.code yX4_within cX4_within 3 (some .boolean), Cond.methodLink RX4 120 yX2_ink, Cond.instanceMethod yX2_ink, Cond.selects RX2 yX2_ink yX2_ink, Cond.initialized RX2, Cond.code yX2_ink cX2_ink 3 (some .int), Cond.fieldLink RX2 15 "StraightPages$Sheet" "high" "I", Cond.fieldLink RX2 18 "StraightPages$Sheet" "rows" "[J", Cond.methodLink RX2 48 yJ13_bitCount_95d88, Cond.static yJ13_bitCount_95d88, Cond.initialized RJ13, Cond.code yJ13_bitCount_95d88 cJ13_bitCount_95d88 2 (some .int), Cond.constantLong RJ13 314 (6148914691236517205), Cond.constantLong RJ13 316 (3689348814741910323), Cond.constantLong RJ13 318 (1085102592571150095), Cond.methodLink RX4 88 yJ13_bitCount_95d88]
def wsX4_listed_r2 : List Cond := [Cond.methodLink RX4 197 yX4_bitAfter, Cond.static yX4_bitAfter, Cond.code yX4_bitAfter cX4_bitAfter 6 (some .int), Cond.methodLink RX4 205 yX4_lowestBit, Cond.static yX4_lowestBit, Cond.code yX4_lowestBit cX4_lowestBit 2 (some .int)]
def wsX4_listed : List Cond := .code yX4_listed cX4_listed 5 (some .int) :: ((wsX4_listed_r1 ++ wsX4_listed_r2) ++ wsX40 ++ wsX20 ++ (nsAt RX4 114).filter goodWord)
def wsX4_box_r1 : List Cond := [Cond.methodLink RX4 58 yX4_find, Cond.instanceMethod yX4_find, Cond.selects RX4 yX4_find yX4_find, Cond.initialized RX4, Cond.code yX4_find cX4_find 2 (some (.object "StraightPages$Sheet")), Cond.fieldLink RX4 18 "StraightPages" "sheetCount" "I", Cond.fieldLink RX4 11 "StraightPages" "sheets" "[LStraightPages$Sheet;", Cond.methodLink RX4 50 yX4_within, Cond.static yX4_within, Cond.code yX4_within cX4_within 3 (some .boolean), Cond.methodLink RX4 201 yX2_hasInk, Cond.instanceMethod yX2_hasInk, Cond.selects RX2 yX2_hasInk yX2_hasInk, Cond.initialized RX2, Cond.code yX2_hasInk cX2_hasInk 1 (some .boolean), Cond.methodLink RX2 54 yX2_inkedColumns, Cond.instanceMethod yX2_inkedColumns, Cond.selects RX2 yX2_inkedColumns yX2_inkedColumns, Cond.code yX2_inkedColumns cX2_inkedColumns 4 (some .long), Cond.fieldLink RX2 15 "StraightPages$Sheet" "high" "I", Cond.fieldLink RX2 18 "StraightPages$Sheet" "rows" "[J", Cond.methodLink RX4 127 yX2_inkedColumns, Cond.methodLink RX4 205 yX4_lowestBit, Cond.static yX4_lowestBit]
def wsX4_box_r2 : List Cond := [Cond.code yX4_lowestBit cX4_lowestBit 2 (some .int), Cond.methodLink RX4 88 yJ13_bitCount_95d88, Cond.static yJ13_bitCount_95d88, Cond.initialized RJ13, Cond.code yJ13_bitCount_95d88 cJ13_bitCount_95d88 2 (some .int), Cond.constantLong RJ13 314 (6148914691236517205), Cond.constantLong RJ13 316 (3689348814741910323), Cond.constantLong RJ13 318 (1085102592571150095), Cond.methodLink RX4 124 yX2_inkedRows, Cond.instanceMethod yX2_inkedRows, Cond.selects RX2 yX2_inkedRows yX2_inkedRows, Cond.code yX2_inkedRows cX2_inkedRows 4 (some .long), Cond.methodLink RX4 161 yX4_highestBit, Cond.static yX4_highestBit, Cond.code yX4_highestBit cX4_highestBit 3 (some .int)]
def wsX4_box : List Cond := .code yX4_box cX4_box 4 (some .int) :: ((wsX4_box_r1 ++ wsX4_box_r2) ++ wsX40 ++ wsX20)
def wsX4_cut_r1 : List Cond := [Cond.fieldLink RX4 25 "StraightPages" "history" "LStraightPages$History;", Cond.fieldLink RX4 40 "StraightPages" "bench" "LStraightPages$Sheet;", Cond.fieldLink RX4 74 "StraightPages$Sheet" "rows" "[J", Cond.methodLink RX4 58 yX4_find, Cond.instanceMethod yX4_find, Cond.selects RX4 yX4_find yX4_find, Cond.initialized RX4, Cond.code yX4_find cX4_find 2 (some (.object "StraightPages$Sheet")), Cond.fieldLink RX4 18 "StraightPages" "sheetCount" "I", Cond.fieldLink RX4 11 "StraightPages" "sheets" "[LStraightPages$Sheet;", Cond.methodLink RX4 50 yX4_within, Cond.static yX4_within, Cond.code yX4_within cX4_within 3 (some .boolean), Cond.methodLink RX4 201 yX2_hasInk, Cond.instanceMethod yX2_hasInk, Cond.selects RX2 yX2_hasInk yX2_hasInk, Cond.initialized RX2, Cond.code yX2_hasInk cX2_hasInk 1 (some .boolean), Cond.methodLink RX2 54 yX2_inkedColumns, Cond.instanceMethod yX2_inkedColumns, Cond.selects RX2 yX2_inkedColumns yX2_inkedColumns, Cond.code yX2_inkedColumns cX2_inkedColumns 4 (some .long), Cond.fieldLink RX2 15 "StraightPages$Sheet" "high" "I", Cond.fieldLink RX2 18 "StraightPages$Sheet" "rows" "[J"]
def wsX4_cut_r2 : List Cond := [Cond.methodLink RX4 127 yX2_inkedColumns, Cond.methodLink RX4 205 yX4_lowestBit, Cond.static yX4_lowestBit, Cond.code yX4_lowestBit cX4_lowestBit 2 (some .int), Cond.methodLink RX4 88 yJ13_bitCount_95d88, Cond.static yJ13_bitCount_95d88, Cond.initialized RJ13, Cond.code yJ13_bitCount_95d88 cJ13_bitCount_95d88 2 (some .int), Cond.constantLong RJ13 314 (6148914691236517205), Cond.constantLong RJ13 316 (3689348814741910323), Cond.constantLong RJ13 318 (1085102592571150095), Cond.methodLink RX4 124 yX2_inkedRows, Cond.instanceMethod yX2_inkedRows, Cond.selects RX2 yX2_inkedRows yX2_inkedRows, Cond.code yX2_inkedRows cX2_inkedRows 4 (some .long), Cond.methodLink RX4 161 yX4_highestBit, Cond.static yX4_highestBit, Cond.code yX4_highestBit cX4_highestBit 3 (some .int), Cond.methodLink RX4 70 yX1_remember, Cond.instanceMethod yX1_remember, Cond.selects RX1 yX1_remember yX1_remember, Cond.initialized RX1, Cond.code yX1_remember cX1_remember 5 none, Cond.fieldLink RX1 11 "StraightPages$History" "ring" "[LStraightPages$Change;"]
def wsX4_cut_r3 : List Cond := [Cond.fieldLink RX1 18 "StraightPages$History" "next" "I", Cond.fieldLink RX1 25 "StraightPages$Change" "page" "I", Cond.fieldLink RX1 28 "StraightPages$Change" "made" "I", Cond.fieldLink RX1 31 "StraightPages$Change" "before" "LStraightPages$Sheet;", Cond.fieldLink RX1 22 "StraightPages$History" "kept" "I", Cond.methodLink RX1 41 Lib.Math.min.name, Cond.static Lib.Math.min.name, Cond.initialized "java/lang/Math", Cond.code Lib.Math.min.name Lib.Math.min.code 2 (some .int), Cond.methodLink RX1 35 yX2_become, Cond.instanceMethod yX2_become, Cond.selects RX2 yX2_become yX2_become, Cond.code yX2_become cX2_become 2 none, Cond.fieldLink RX2 9 "StraightPages$Sheet" "wide" "I", Cond.methodLink RX2 32 arraycopyName, Cond.native arraycopyName, Cond.static arraycopyName, Cond.initialized "java/lang/System", Cond.methodLink RX2 28 yX2_empty, Cond.instanceMethod yX2_empty, Cond.selects RX2 yX2_empty yX2_empty, Cond.code yX2_empty cX2_empty 3 none, Cond.methodLink RX2 22 yJ7_fill_d0a16, Cond.static yJ7_fill_d0a16]
def wsX4_cut_r4 : List Cond := [Cond.initialized RJ7, Cond.code yJ7_fill_d0a16 cJ7_fill_d0a16 5 none, Cond.methodLink RX4 54 yX2_empty, Cond.methodLink RX4 62 yX2_become]
def wsX4_cut : List Cond := .code yX4_cut cX4_cut 9 (some .boolean) :: ((wsX4_cut_r1 ++ (wsX4_cut_r2 ++ (wsX4_cut_r3 ++ wsX4_cut_r4))) ++ wsX40 ++ wsX20 ++ wsX10 ++ wsX00)
def wsX4_tellSpans : List Cond := .code yX4_tellSpans cX4_tellSpans 5 none :: ([.fieldLink RX4 47 "StraightPages" "numberCount" "I", .fieldLink RX4 43 "StraightPages" "numbers" "[I"] ++ wsX40)
def wsX4_spans_r1 : List Cond := [Cond.fieldLink RX4 47 "StraightPages" "numberCount" "I", Cond.methodLink RX4 58 yX4_find, Cond.instanceMethod yX4_find, Cond.selects RX4 yX4_find yX4_find, Cond.initialized RX4, Cond.code yX4_find cX4_find 2 (some (.object "StraightPages$Sheet")), Cond.fieldLink RX4 18 "StraightPages" "sheetCount" "I", Cond.fieldLink RX4 11 "StraightPages" "sheets" "[LStraightPages$Sheet;", Cond.methodLink RX4 50 yX4_within, Cond.static yX4_within, Cond.code yX4_within cX4_within 3 (some .boolean), Cond.methodLink RX4 127 yX2_inkedColumns, Cond.instanceMethod yX2_inkedColumns, Cond.selects RX2 yX2_inkedColumns yX2_inkedColumns, Cond.initialized RX2, Cond.code yX2_inkedColumns cX2_inkedColumns 4 (some .long), Cond.fieldLink RX2 15 "StraightPages$Sheet" "high" "I", Cond.fieldLink RX2 18 "StraightPages$Sheet" "rows" "[J", Cond.methodLink RX4 124 yX2_inkedRows, Cond.instanceMethod yX2_inkedRows, Cond.selects RX2 yX2_inkedRows yX2_inkedRows, Cond.code yX2_inkedRows cX2_inkedRows 4 (some .long), Cond.methodLink RX4 208 yX4_tellSpans, Cond.instanceMethod yX4_tellSpans]
def wsX4_spans_r2 : List Cond := [Cond.selects RX4 yX4_tellSpans yX4_tellSpans, Cond.code yX4_tellSpans cX4_tellSpans 5 none, Cond.fieldLink RX4 43 "StraightPages" "numbers" "[I"]
def wsX4_spans : List Cond := .code yX4_spans cX4_spans 5 (some .int) :: ((wsX4_spans_r1 ++ wsX4_spans_r2) ++ wsX40 ++ wsX20)
def wsX4_part_r1 : List Cond := [Cond.fieldLink RX4 117 "StraightPages$Sheet" "wide" "I", Cond.fieldLink RX4 18 "StraightPages" "sheetCount" "I", Cond.fieldLink RX4 25 "StraightPages" "history" "LStraightPages$History;", Cond.fieldLink RX4 11 "StraightPages" "sheets" "[LStraightPages$Sheet;", Cond.methodLink RX4 58 yX4_find, Cond.instanceMethod yX4_find, Cond.selects RX4 yX4_find yX4_find, Cond.initialized RX4, Cond.code yX4_find cX4_find 2 (some (.object "StraightPages$Sheet")), Cond.methodLink RX4 50 yX4_within, Cond.static yX4_within, Cond.code yX4_within cX4_within 3 (some .boolean), Cond.methodLink RX4 212 yX2_faintestColumn, Cond.instanceMethod yX2_faintestColumn, Cond.selects RX2 yX2_faintestColumn yX2_faintestColumn, Cond.initialized RX2, Cond.code yX2_faintestColumn cX2_faintestColumn 8 (some .int), Cond.methodLink RX2 87 Lib.Math.abs.name, Cond.static Lib.Math.abs.name, Cond.initialized "java/lang/Math", Cond.code Lib.Math.abs.name Lib.Math.abs.code 1 (some .int), Cond.methodLink RX2 76 yX2_columnInk, Cond.instanceMethod yX2_columnInk, Cond.selects RX2 yX2_columnInk yX2_columnInk]
def wsX4_part_r2 : List Cond := [Cond.code yX2_columnInk cX2_columnInk 4 (some .int), Cond.fieldLink RX2 15 "StraightPages$Sheet" "high" "I", Cond.fieldLink RX2 18 "StraightPages$Sheet" "rows" "[J", Cond.methodLink RX4 215 yX2_columnInk, Cond.methodLink RX4 70 yX1_remember, Cond.instanceMethod yX1_remember, Cond.selects RX1 yX1_remember yX1_remember, Cond.initialized RX1, Cond.code yX1_remember cX1_remember 5 none, Cond.fieldLink RX1 11 "StraightPages$History" "ring" "[LStraightPages$Change;", Cond.fieldLink RX1 18 "StraightPages$History" "next" "I", Cond.fieldLink RX1 25 "StraightPages$Change" "page" "I", Cond.fieldLink RX1 28 "StraightPages$Change" "made" "I", Cond.fieldLink RX1 31 "StraightPages$Change" "before" "LStraightPages$Sheet;", Cond.fieldLink RX1 22 "StraightPages$History" "kept" "I", Cond.methodLink RX1 41 Lib.Math.min.name, Cond.static Lib.Math.min.name, Cond.code Lib.Math.min.name Lib.Math.min.code 2 (some .int), Cond.methodLink RX1 35 yX2_become, Cond.instanceMethod yX2_become, Cond.selects RX2 yX2_become yX2_become, Cond.code yX2_become cX2_become 2 none, Cond.fieldLink RX2 9 "StraightPages$Sheet" "wide" "I", Cond.methodLink RX2 32 arraycopyName]
def wsX4_part_r3 : List Cond := [Cond.native arraycopyName, Cond.static arraycopyName, Cond.initialized "java/lang/System", Cond.methodLink RX2 28 yX2_empty, Cond.instanceMethod yX2_empty, Cond.selects RX2 yX2_empty yX2_empty, Cond.code yX2_empty cX2_empty 3 none, Cond.methodLink RX2 22 yJ7_fill_d0a16, Cond.static yJ7_fill_d0a16, Cond.initialized RJ7, Cond.code yJ7_fill_d0a16 cJ7_fill_d0a16 5 none, Cond.methodLink RX4 218 yX2_moveRightPart, Cond.instanceMethod yX2_moveRightPart, Cond.selects RX2 yX2_moveRightPart yX2_moveRightPart, Cond.code yX2_moveRightPart cX2_moveRightPart 4 none, Cond.methodLink RX2 84 yX2_allColumns, Cond.instanceMethod yX2_allColumns, Cond.selects RX2 yX2_allColumns yX2_allColumns, Cond.code yX2_allColumns cX2_allColumns 1 (some .long), Cond.constantLong RX2 46 (-1)]
def wsX4_part : List Cond := .code yX4_part cX4_part 7 (some .int) :: ((wsX4_part_r1 ++ (wsX4_part_r2 ++ wsX4_part_r3)) ++ wsX20 ++ wsX40 ++ wsX10 ++ wsX00)
def wsX4_back_r1 : List Cond := [Cond.fieldLink RX4 25 "StraightPages" "history" "LStraightPages$History;", Cond.fieldLink RX4 225 "StraightPages$Change" "page" "I", Cond.fieldLink RX4 230 "StraightPages$Change" "before" "LStraightPages$Sheet;", Cond.fieldLink RX4 233 "StraightPages$Change" "made" "I", Cond.fieldLink RX4 18 "StraightPages" "sheetCount" "I", Cond.methodLink RX4 221 yX1_takeLatest, Cond.instanceMethod yX1_takeLatest, Cond.selects RX1 yX1_takeLatest yX1_takeLatest, Cond.initialized RX1, Cond.code yX1_takeLatest cX1_takeLatest 1 (some (.object "StraightPages$Change")), Cond.fieldLink RX1 22 "StraightPages$History" "kept" "I", Cond.fieldLink RX1 18 "StraightPages$History" "next" "I", Cond.fieldLink RX1 11 "StraightPages$History" "ring" "[LStraightPages$Change;", Cond.methodLink RX4 58 yX4_find, Cond.instanceMethod yX4_find, Cond.selects RX4 yX4_find yX4_find, Cond.initialized RX4, Cond.code yX4_find cX4_find 2 (some (.object "StraightPages$Sheet")), Cond.fieldLink RX4 11 "StraightPages" "sheets" "[LStraightPages$Sheet;", Cond.methodLink RX4 50 yX4_within, Cond.static yX4_within, Cond.code yX4_within cX4_within 3 (some .boolean), Cond.methodLink RX4 62 yX2_become, Cond.instanceMethod yX2_become]
def wsX4_back_r2 : List Cond := [Cond.selects RX2 yX2_become yX2_become, Cond.initialized RX2, Cond.code yX2_become cX2_become 2 none, Cond.fieldLink RX2 9 "StraightPages$Sheet" "wide" "I", Cond.fieldLink RX2 15 "StraightPages$Sheet" "high" "I", Cond.fieldLink RX2 18 "StraightPages$Sheet" "rows" "[J", Cond.methodLink RX2 32 arraycopyName, Cond.native arraycopyName, Cond.static arraycopyName, Cond.initialized "java/lang/System", Cond.methodLink RX2 28 yX2_empty, Cond.instanceMethod yX2_empty, Cond.selects RX2 yX2_empty yX2_empty, Cond.code yX2_empty cX2_empty 3 none, Cond.methodLink RX2 22 yJ7_fill_d0a16, Cond.static yJ7_fill_d0a16, Cond.initialized RJ7, Cond.code yJ7_fill_d0a16 cJ7_fill_d0a16 5 none]
def wsX4_back : List Cond := .code yX4_back cX4_back 3 (some .int) :: ((wsX4_back_r1 ++ wsX4_back_r2) ++ wsX40 ++ wsX00 ++ wsX10 ++ wsX20)
def wsX4_told : List Cond := .code yX4_told cX4_told 2 (some .int) :: ([.classLink RX4 110 "java/util/NoSuchElementException", .initialized "java/util/NoSuchElementException", .fieldLink RX4 47 "StraightPages" "numberCount" "I", .fieldLink RX4 43 "StraightPages" "numbers" "[I", .methodLink RX4 50 yX4_within, .static yX4_within, .initialized RX4, .code yX4_within cX4_within 3 (some .boolean)] ++ wsX40 ++ (nsAt RX4 114).filter goodWord)
def wsX5_init : List Cond := .code yX5_init cX5_init 1 none :: ([.methodLink RX5 3 objectInit, .instanceMethod objectInit, .code objectInit ⟨#[0xb1]⟩ 1 none, .arrayClass .int, .fieldLink RX5 9 "StraightPagesModel" "wide" "[I", .fieldLink RX5 13 "StraightPagesModel" "high" "[I", .constant RX5 16 (32768), .arrayClass .boolean, .fieldLink RX5 17 "StraightPagesModel" "ink" "[Z", .fieldLink RX5 21 "StraightPagesModel" "made" "[Z", .fieldLink RX5 24 "StraightPagesModel" "changePage" "[I", .fieldLink RX5 27 "StraightPagesModel" "changeWide" "[I", .fieldLink RX5 30 "StraightPagesModel" "changeHigh" "[I", .fieldLink RX5 33 "StraightPagesModel" "changeMade" "[I", .constant RX5 36 (40960), .fieldLink RX5 37 "StraightPagesModel" "changeInk" "[Z", .fieldLink RX5 40 "StraightPagesModel" "spot" "[I", .fieldLink RX5 43 "StraightPagesModel" "spotSize" "[I", .fieldLink RX5 46 "StraightPagesModel" "queue" "[I", .fieldLink RX5 49 "StraightPagesModel" "sums" "[I", .fieldLink RX5 52 "StraightPagesModel" "isSpeck" "[Z", .fieldLink RX5 55 "StraightPagesModel" "listX" "[I", .fieldLink RX5 58 "StraightPagesModel" "listY" "[I", .fieldLink RX5 61 "StraightPagesModel" "row" "[I"] ++ wsX50)
def wsX5_thrown : List Cond := .code yX5_thrown cX5_thrown 1 (some .int) :: ([.fieldLink RX5 64 "StraightPagesModel" "thrown" "I"] ++ wsX50)
def wsX5_in : List Cond := .code yX5_in cX5_in 6 (some .boolean) :: ([])
def wsX5_refuse : List Cond := .code yX5_refuse cX5_refuse 1 (some .int) :: ([.fieldLink RX5 64 "StraightPagesModel" "thrown" "I"] ++ wsX50)
def wsX5_isPage : List Cond := .code yX5_isPage cX5_isPage 2 (some .boolean) :: ([.fieldLink RX5 68 "StraightPagesModel" "pages" "I", .methodLink RX5 71 yX5_in, .static yX5_in, .initialized RX5, .code yX5_in cX5_in 6 (some .boolean)] ++ wsX50)
def wsX5_has : List Cond := .code yX5_has cX5_has 4 (some .boolean) :: ([.fieldLink RX5 17 "StraightPagesModel" "ink" "[Z"] ++ wsX50)
def wsX5_inks : List Cond := .code yX5_inks cX5_inks 5 none :: ([.fieldLink RX5 17 "StraightPagesModel" "ink" "[Z"] ++ wsX50)
def wsX5_clears : List Cond := .code yX5_clears cX5_clears 5 none :: ([.fieldLink RX5 9 "StraightPagesModel" "wide" "[I", .fieldLink RX5 13 "StraightPagesModel" "high" "[I", .fieldLink RX5 17 "StraightPagesModel" "ink" "[Z"] ++ wsX50)
def wsX5_blank : List Cond := .code yX5_blank cX5_blank 2 none :: ([.fieldLink RX5 21 "StraightPagesModel" "made" "[Z"] ++ wsX50)
def wsX5_becomes : List Cond := .code yX5_becomes cX5_becomes 5 none :: ([.fieldLink RX5 9 "StraightPagesModel" "wide" "[I", .fieldLink RX5 13 "StraightPagesModel" "high" "[I", .fieldLink RX5 17 "StraightPagesModel" "ink" "[Z", .fieldLink RX5 21 "StraightPagesModel" "made" "[Z"] ++ wsX50)
def wsX5_page : List Cond := .code yX5_page cX5_page 3 (some .int) :: ([.fieldLink RX5 64 "StraightPagesModel" "thrown" "I", .constantLong RX5 75 (64), .fieldLink RX5 68 "StraightPagesModel" "pages" "I", .methodLink RX5 71 yX5_in, .static yX5_in, .initialized RX5, .code yX5_in cX5_in 6 (some .boolean), .methodLink RX5 77 yX5_clears, .instanceMethod yX5_clears, .selects RX5 yX5_clears yX5_clears, .code yX5_clears cX5_clears 5 none, .fieldLink RX5 9 "StraightPagesModel" "wide" "[I", .fieldLink RX5 13 "StraightPagesModel" "high" "[I", .fieldLink RX5 17 "StraightPagesModel" "ink" "[Z"] ++ wsX50)
def wsX5_copy : List Cond := .code yX5_copy cX5_copy 3 (some .int) :: ([.fieldLink RX5 64 "StraightPagesModel" "thrown" "I", .fieldLink RX5 68 "StraightPagesModel" "pages" "I", .fieldLink RX5 9 "StraightPagesModel" "wide" "[I", .fieldLink RX5 13 "StraightPagesModel" "high" "[I", .fieldLink RX5 17 "StraightPagesModel" "ink" "[Z", .methodLink RX5 81 yX5_isPage, .instanceMethod yX5_isPage, .selects RX5 yX5_isPage yX5_isPage, .initialized RX5, .code yX5_isPage cX5_isPage 2 (some .boolean), .methodLink RX5 71 yX5_in, .static yX5_in, .code yX5_in cX5_in 6 (some .boolean), .methodLink RX5 77 yX5_clears, .instanceMethod yX5_clears, .selects RX5 yX5_clears yX5_clears, .code yX5_clears cX5_clears 5 none] ++ wsX50)
def wsX5_changing : List Cond := .code yX5_changing cX5_changing 3 none :: ([.fieldLink RX5 85 "StraightPagesModel" "newest" "I", .fieldLink RX5 88 "StraightPagesModel" "changes" "I", .methodLink RX5 91 Lib.Math.min.name, .static Lib.Math.min.name, .initialized "java/lang/Math", .code Lib.Math.min.name Lib.Math.min.code 2 (some .int), .fieldLink RX5 24 "StraightPagesModel" "changePage" "[I", .fieldLink RX5 27 "StraightPagesModel" "changeWide" "[I", .fieldLink RX5 9 "StraightPagesModel" "wide" "[I", .fieldLink RX5 30 "StraightPagesModel" "changeHigh" "[I", .fieldLink RX5 13 "StraightPagesModel" "high" "[I", .fieldLink RX5 33 "StraightPagesModel" "changeMade" "[I", .fieldLink RX5 37 "StraightPagesModel" "changeInk" "[Z", .fieldLink RX5 17 "StraightPagesModel" "ink" "[Z"] ++ wsX50)
def wsX5_back : List Cond := .code yX5_back cX5_back 3 (some .int) :: ([.fieldLink RX5 64 "StraightPagesModel" "thrown" "I", .fieldLink RX5 88 "StraightPagesModel" "changes" "I", .fieldLink RX5 24 "StraightPagesModel" "changePage" "[I", .fieldLink RX5 85 "StraightPagesModel" "newest" "I", .fieldLink RX5 9 "StraightPagesModel" "wide" "[I", .fieldLink RX5 27 "StraightPagesModel" "changeWide" "[I", .fieldLink RX5 13 "StraightPagesModel" "high" "[I", .fieldLink RX5 30 "StraightPagesModel" "changeHigh" "[I", .fieldLink RX5 17 "StraightPagesModel" "ink" "[Z", .fieldLink RX5 37 "StraightPagesModel" "changeInk" "[Z", .fieldLink RX5 33 "StraightPagesModel" "changeMade" "[I", .fieldLink RX5 68 "StraightPagesModel" "pages" "I"] ++ wsX50)
def wsX5_isPoint : List Cond := .code yX5_isPoint cX5_isPoint 4 (some .boolean) :: ([.fieldLink RX5 9 "StraightPagesModel" "wide" "[I", .fieldLink RX5 13 "StraightPagesModel" "high" "[I", .methodLink RX5 81 yX5_isPage, .instanceMethod yX5_isPage, .selects RX5 yX5_isPage yX5_isPage, .initialized RX5, .code yX5_isPage cX5_isPage 2 (some .boolean), .fieldLink RX5 68 "StraightPagesModel" "pages" "I", .methodLink RX5 71 yX5_in, .static yX5_in, .code yX5_in cX5_in 6 (some .boolean)] ++ wsX50)
def wsX5_set_r1 : List Cond := [Cond.fieldLink RX5 64 "StraightPagesModel" "thrown" "I", Cond.methodLink RX5 97 yX5_isPoint, Cond.instanceMethod yX5_isPoint, Cond.selects RX5 yX5_isPoint yX5_isPoint, Cond.initialized RX5, Cond.code yX5_isPoint cX5_isPoint 4 (some .boolean), Cond.fieldLink RX5 9 "StraightPagesModel" "wide" "[I", Cond.fieldLink RX5 13 "StraightPagesModel" "high" "[I", Cond.methodLink RX5 81 yX5_isPage, Cond.instanceMethod yX5_isPage, Cond.selects RX5 yX5_isPage yX5_isPage, Cond.code yX5_isPage cX5_isPage 2 (some .boolean), Cond.fieldLink RX5 68 "StraightPagesModel" "pages" "I", Cond.methodLink RX5 71 yX5_in, Cond.static yX5_in, Cond.code yX5_in cX5_in 6 (some .boolean), Cond.methodLink RX5 101 yX5_changing, Cond.instanceMethod yX5_changing, Cond.selects RX5 yX5_changing yX5_changing, Cond.code yX5_changing cX5_changing 3 none, Cond.fieldLink RX5 85 "StraightPagesModel" "newest" "I", Cond.fieldLink RX5 88 "StraightPagesModel" "changes" "I", Cond.methodLink RX5 91 Lib.Math.min.name, Cond.static Lib.Math.min.name]
def wsX5_set_r2 : List Cond := [Cond.initialized "java/lang/Math", Cond.code Lib.Math.min.name Lib.Math.min.code 2 (some .int), Cond.fieldLink RX5 24 "StraightPagesModel" "changePage" "[I", Cond.fieldLink RX5 27 "StraightPagesModel" "changeWide" "[I", Cond.fieldLink RX5 30 "StraightPagesModel" "changeHigh" "[I", Cond.fieldLink RX5 33 "StraightPagesModel" "changeMade" "[I", Cond.fieldLink RX5 37 "StraightPagesModel" "changeInk" "[Z", Cond.fieldLink RX5 17 "StraightPagesModel" "ink" "[Z", Cond.methodLink RX5 105 yX5_inks, Cond.instanceMethod yX5_inks, Cond.selects RX5 yX5_inks yX5_inks, Cond.code yX5_inks cX5_inks 5 none]
def wsX5_set : List Cond := .code yX5_set cX5_set 5 (some .boolean) :: ((wsX5_set_r1 ++ wsX5_set_r2) ++ wsX50)
def wsX5_rowInk : List Cond := .code yX5_rowInk cX5_rowInk 5 (some .int) :: ([.fieldLink RX5 9 "StraightPagesModel" "wide" "[I", .methodLink RX5 109 yX5_has, .instanceMethod yX5_has, .selects RX5 yX5_has yX5_has, .initialized RX5, .code yX5_has cX5_has 4 (some .boolean), .fieldLink RX5 17 "StraightPagesModel" "ink" "[Z"] ++ wsX50)
def wsX5_columnInk : List Cond := .code yX5_columnInk cX5_columnInk 5 (some .int) :: ([.fieldLink RX5 13 "StraightPagesModel" "high" "[I", .methodLink RX5 109 yX5_has, .instanceMethod yX5_has, .selects RX5 yX5_has yX5_has, .initialized RX5, .code yX5_has cX5_has 4 (some .boolean), .fieldLink RX5 17 "StraightPagesModel" "ink" "[Z"] ++ wsX50)
def wsX5_lays : List Cond := .code yX5_lays cX5_lays 6 none :: ([.fieldLink RX5 9 "StraightPagesModel" "wide" "[I", .methodLink RX5 105 yX5_inks, .instanceMethod yX5_inks, .selects RX5 yX5_inks yX5_inks, .initialized RX5, .code yX5_inks cX5_inks 5 none, .fieldLink RX5 17 "StraightPagesModel" "ink" "[Z"] ++ wsX50)
def wsX5_line_r1 : List Cond := [Cond.fieldLink RX5 64 "StraightPagesModel" "thrown" "I", Cond.methodLink RX5 97 yX5_isPoint, Cond.instanceMethod yX5_isPoint, Cond.selects RX5 yX5_isPoint yX5_isPoint, Cond.initialized RX5, Cond.code yX5_isPoint cX5_isPoint 4 (some .boolean), Cond.fieldLink RX5 9 "StraightPagesModel" "wide" "[I", Cond.fieldLink RX5 13 "StraightPagesModel" "high" "[I", Cond.methodLink RX5 81 yX5_isPage, Cond.instanceMethod yX5_isPage, Cond.selects RX5 yX5_isPage yX5_isPage, Cond.code yX5_isPage cX5_isPage 2 (some .boolean), Cond.fieldLink RX5 68 "StraightPagesModel" "pages" "I", Cond.methodLink RX5 71 yX5_in, Cond.static yX5_in, Cond.code yX5_in cX5_in 6 (some .boolean), Cond.methodLink RX5 101 yX5_changing, Cond.instanceMethod yX5_changing, Cond.selects RX5 yX5_changing yX5_changing, Cond.code yX5_changing cX5_changing 3 none, Cond.fieldLink RX5 85 "StraightPagesModel" "newest" "I", Cond.fieldLink RX5 88 "StraightPagesModel" "changes" "I", Cond.methodLink RX5 91 Lib.Math.min.name, Cond.static Lib.Math.min.name]
def wsX5_line_r2 : List Cond := [Cond.initialized "java/lang/Math", Cond.code Lib.Math.min.name Lib.Math.min.code 2 (some .int), Cond.fieldLink RX5 24 "StraightPagesModel" "changePage" "[I", Cond.fieldLink RX5 27 "StraightPagesModel" "changeWide" "[I", Cond.fieldLink RX5 30 "StraightPagesModel" "changeHigh" "[I", Cond.fieldLink RX5 33 "StraightPagesModel" "changeMade" "[I", Cond.fieldLink RX5 37 "StraightPagesModel" "changeInk" "[Z", Cond.fieldLink RX5 17 "StraightPagesModel" "ink" "[Z", Cond.methodLink RX5 112 yX5_lays, Cond.instanceMethod yX5_lays, Cond.selects RX5 yX5_lays yX5_lays, Cond.code yX5_lays cX5_lays 6 none, Cond.methodLink RX5 105 yX5_inks, Cond.instanceMethod yX5_inks, Cond.selects RX5 yX5_inks yX5_inks, Cond.code yX5_inks cX5_inks 5 none, Cond.methodLink RX5 116 yX5_rowInk, Cond.instanceMethod yX5_rowInk, Cond.selects RX5 yX5_rowInk yX5_rowInk, Cond.code yX5_rowInk cX5_rowInk 5 (some .int), Cond.methodLink RX5 109 yX5_has, Cond.instanceMethod yX5_has, Cond.selects RX5 yX5_has yX5_has, Cond.code yX5_has cX5_has 4 (some .boolean)]
def wsX5_line : List Cond := .code yX5_line cX5_line 5 (some .int) :: ((wsX5_line_r1 ++ wsX5_line_r2) ++ wsX50)
def wsX5_lay_r1 : List Cond := [Cond.fieldLink RX5 64 "StraightPagesModel" "thrown" "I", Cond.constantLong RX5 119 (4), Cond.fieldLink RX5 88 "StraightPagesModel" "changes" "I", Cond.fieldLink RX5 13 "StraightPagesModel" "high" "[I", Cond.methodLink RX5 91 Lib.Math.min.name, Cond.static Lib.Math.min.name, Cond.initialized "java/lang/Math", Cond.code Lib.Math.min.name Lib.Math.min.code 2 (some .int), Cond.constantLong RX5 121 (255), Cond.constantLong RX5 123 (65535), Cond.constantLong RX5 125 (4294967295), Cond.methodLink RX5 97 yX5_isPoint, Cond.instanceMethod yX5_isPoint, Cond.selects RX5 yX5_isPoint yX5_isPoint, Cond.initialized RX5, Cond.code yX5_isPoint cX5_isPoint 4 (some .boolean), Cond.fieldLink RX5 9 "StraightPagesModel" "wide" "[I", Cond.methodLink RX5 81 yX5_isPage, Cond.instanceMethod yX5_isPage, Cond.selects RX5 yX5_isPage yX5_isPage, Cond.code yX5_isPage cX5_isPage 2 (some .boolean), Cond.fieldLink RX5 68 "StraightPagesModel" "pages" "I", Cond.methodLink RX5 71 yX5_in, Cond.static yX5_in]
def wsX5_lay_r2 : List Cond := [Cond.code yX5_in cX5_in 6 (some .boolean), Cond.methodLink RX5 112 yX5_lays, Cond.instanceMethod yX5_lays, Cond.selects RX5 yX5_lays yX5_lays, Cond.code yX5_lays cX5_lays 6 none, Cond.methodLink RX5 105 yX5_inks, Cond.instanceMethod yX5_inks, Cond.selects RX5 yX5_inks yX5_inks, Cond.code yX5_inks cX5_inks 5 none, Cond.fieldLink RX5 17 "StraightPagesModel" "ink" "[Z"]
def wsX5_lay : List Cond := .code yX5_lay cX5_lay 13 (some .int) :: ((wsX5_lay_r1 ++ wsX5_lay_r2) ++ wsX50)
def wsX5_at : List Cond := .code yX5_at cX5_at 4 (some .int) :: ([.fieldLink RX5 64 "StraightPagesModel" "thrown" "I", .methodLink RX5 97 yX5_isPoint, .instanceMethod yX5_isPoint, .selects RX5 yX5_isPoint yX5_isPoint, .initialized RX5, .code yX5_isPoint cX5_isPoint 4 (some .boolean), .fieldLink RX5 9 "StraightPagesModel" "wide" "[I", .fieldLink RX5 13 "StraightPagesModel" "high" "[I", .methodLink RX5 81 yX5_isPage, .instanceMethod yX5_isPage, .selects RX5 yX5_isPage yX5_isPage, .code yX5_isPage cX5_isPage 2 (some .boolean), .fieldLink RX5 68 "StraightPagesModel" "pages" "I", .methodLink RX5 71 yX5_in, .static yX5_in, .code yX5_in cX5_in 6 (some .boolean), .methodLink RX5 109 yX5_has, .instanceMethod yX5_has, .selects RX5 yX5_has yX5_has, .code yX5_has cX5_has 4 (some .boolean), .fieldLink RX5 17 "StraightPagesModel" "ink" "[Z"] ++ wsX50)
def wsX5_row_r1 : List Cond := [Cond.fieldLink RX5 64 "StraightPagesModel" "thrown" "I", Cond.fieldLink RX5 9 "StraightPagesModel" "wide" "[I", Cond.methodLink RX5 97 yX5_isPoint, Cond.instanceMethod yX5_isPoint, Cond.selects RX5 yX5_isPoint yX5_isPoint, Cond.initialized RX5, Cond.code yX5_isPoint cX5_isPoint 4 (some .boolean), Cond.fieldLink RX5 13 "StraightPagesModel" "high" "[I", Cond.methodLink RX5 81 yX5_isPage, Cond.instanceMethod yX5_isPage, Cond.selects RX5 yX5_isPage yX5_isPage, Cond.code yX5_isPage cX5_isPage 2 (some .boolean), Cond.fieldLink RX5 68 "StraightPagesModel" "pages" "I", Cond.methodLink RX5 71 yX5_in, Cond.static yX5_in, Cond.code yX5_in cX5_in 6 (some .boolean), Cond.methodLink RX5 127 yX5_refuse, Cond.instanceMethod yX5_refuse, Cond.selects RX5 yX5_refuse yX5_refuse, Cond.code yX5_refuse cX5_refuse 1 (some .int), Cond.methodLink RX5 109 yX5_has, Cond.instanceMethod yX5_has, Cond.selects RX5 yX5_has yX5_has, Cond.code yX5_has cX5_has 4 (some .boolean)]
def wsX5_row_r2 : List Cond := [Cond.fieldLink RX5 17 "StraightPagesModel" "ink" "[Z"]
def wsX5_row : List Cond := .code yX5_row cX5_row 6 (some .long) :: ((wsX5_row_r1 ++ wsX5_row_r2) ++ wsX50)
def wsX5_spreads : List Cond := .code yX5_spreads cX5_spreads 11 (some .int) :: ([.fieldLink RX5 46 "StraightPagesModel" "queue" "[I", .fieldLink RX5 40 "StraightPagesModel" "spot" "[I", .fieldLink RX5 131 "StraightPagesModel" "spots" "I", .methodLink RX5 97 yX5_isPoint, .instanceMethod yX5_isPoint, .selects RX5 yX5_isPoint yX5_isPoint, .initialized RX5, .code yX5_isPoint cX5_isPoint 4 (some .boolean), .fieldLink RX5 9 "StraightPagesModel" "wide" "[I", .fieldLink RX5 13 "StraightPagesModel" "high" "[I", .methodLink RX5 81 yX5_isPage, .instanceMethod yX5_isPage, .selects RX5 yX5_isPage yX5_isPage, .code yX5_isPage cX5_isPage 2 (some .boolean), .fieldLink RX5 68 "StraightPagesModel" "pages" "I", .methodLink RX5 71 yX5_in, .static yX5_in, .code yX5_in cX5_in 6 (some .boolean), .methodLink RX5 109 yX5_has, .instanceMethod yX5_has, .selects RX5 yX5_has yX5_has, .code yX5_has cX5_has 4 (some .boolean), .fieldLink RX5 17 "StraightPagesModel" "ink" "[Z"] ++ wsX50)
def wsX5_findsSpots_r1 : List Cond := [Cond.fieldLink RX5 131 "StraightPagesModel" "spots" "I", Cond.fieldLink RX5 40 "StraightPagesModel" "spot" "[I", Cond.fieldLink RX5 13 "StraightPagesModel" "high" "[I", Cond.fieldLink RX5 9 "StraightPagesModel" "wide" "[I", Cond.fieldLink RX5 43 "StraightPagesModel" "spotSize" "[I", Cond.methodLink RX5 109 yX5_has, Cond.instanceMethod yX5_has, Cond.selects RX5 yX5_has yX5_has, Cond.initialized RX5, Cond.code yX5_has cX5_has 4 (some .boolean), Cond.fieldLink RX5 17 "StraightPagesModel" "ink" "[Z", Cond.methodLink RX5 134 yX5_spreads, Cond.instanceMethod yX5_spreads, Cond.selects RX5 yX5_spreads yX5_spreads, Cond.code yX5_spreads cX5_spreads 11 (some .int), Cond.fieldLink RX5 46 "StraightPagesModel" "queue" "[I", Cond.methodLink RX5 97 yX5_isPoint, Cond.instanceMethod yX5_isPoint, Cond.selects RX5 yX5_isPoint yX5_isPoint, Cond.code yX5_isPoint cX5_isPoint 4 (some .boolean), Cond.methodLink RX5 81 yX5_isPage, Cond.instanceMethod yX5_isPage, Cond.selects RX5 yX5_isPage yX5_isPage, Cond.code yX5_isPage cX5_isPage 2 (some .boolean)]
def wsX5_findsSpots_r2 : List Cond := [Cond.fieldLink RX5 68 "StraightPagesModel" "pages" "I", Cond.methodLink RX5 71 yX5_in, Cond.static yX5_in, Cond.code yX5_in cX5_in 6 (some .boolean)]
def wsX5_findsSpots : List Cond := .code yX5_findsSpots cX5_findsSpots 4 none :: ((wsX5_findsSpots_r1 ++ wsX5_findsSpots_r2) ++ wsX50)
def wsX5_of_r1 : List Cond := [Cond.fieldLink RX5 64 "StraightPagesModel" "thrown" "I", Cond.constantLong RX5 138 (6), Cond.fieldLink RX5 13 "StraightPagesModel" "high" "[I", Cond.fieldLink RX5 9 "StraightPagesModel" "wide" "[I", Cond.fieldLink RX5 131 "StraightPagesModel" "spots" "I", Cond.fieldLink RX5 43 "StraightPagesModel" "spotSize" "[I", Cond.methodLink RX5 146 Lib.Math.max.name, Cond.static Lib.Math.max.name, Cond.initialized "java/lang/Math", Cond.code Lib.Math.max.name Lib.Math.max.code 2 (some .int), Cond.methodLink RX5 81 yX5_isPage, Cond.instanceMethod yX5_isPage, Cond.selects RX5 yX5_isPage yX5_isPage, Cond.initialized RX5, Cond.code yX5_isPage cX5_isPage 2 (some .boolean), Cond.fieldLink RX5 68 "StraightPagesModel" "pages" "I", Cond.methodLink RX5 71 yX5_in, Cond.static yX5_in, Cond.code yX5_in cX5_in 6 (some .boolean), Cond.methodLink RX5 116 yX5_rowInk, Cond.instanceMethod yX5_rowInk, Cond.selects RX5 yX5_rowInk yX5_rowInk, Cond.code yX5_rowInk cX5_rowInk 5 (some .int), Cond.methodLink RX5 109 yX5_has]
def wsX5_of_r2 : List Cond := [Cond.instanceMethod yX5_has, Cond.selects RX5 yX5_has yX5_has, Cond.code yX5_has cX5_has 4 (some .boolean), Cond.fieldLink RX5 17 "StraightPagesModel" "ink" "[Z", Cond.methodLink RX5 140 yX5_columnInk, Cond.instanceMethod yX5_columnInk, Cond.selects RX5 yX5_columnInk yX5_columnInk, Cond.code yX5_columnInk cX5_columnInk 5 (some .int), Cond.methodLink RX5 143 yX5_findsSpots, Cond.instanceMethod yX5_findsSpots, Cond.selects RX5 yX5_findsSpots yX5_findsSpots, Cond.code yX5_findsSpots cX5_findsSpots 4 none, Cond.fieldLink RX5 40 "StraightPagesModel" "spot" "[I", Cond.methodLink RX5 134 yX5_spreads, Cond.instanceMethod yX5_spreads, Cond.selects RX5 yX5_spreads yX5_spreads, Cond.code yX5_spreads cX5_spreads 11 (some .int), Cond.fieldLink RX5 46 "StraightPagesModel" "queue" "[I", Cond.methodLink RX5 97 yX5_isPoint, Cond.instanceMethod yX5_isPoint, Cond.selects RX5 yX5_isPoint yX5_isPoint, Cond.code yX5_isPoint cX5_isPoint 4 (some .boolean)]
def wsX5_of : List Cond := .code yX5_of cX5_of 8 (some .int) :: ((wsX5_of_r1 ++ wsX5_of_r2) ++ wsX50)
def wsX5_count : List Cond := .code yX5_count cX5_count 2 (some .int) :: ([.fieldLink RX5 64 "StraightPagesModel" "thrown" "I", .fieldLink RX5 68 "StraightPagesModel" "pages" "I", .fieldLink RX5 88 "StraightPagesModel" "changes" "I", .fieldLink RX5 149 "StraightPagesModel" "listed" "I", .fieldLink RX5 152 "StraightPagesModel" "rows" "I"] ++ wsX50)
def wsX5_unlike : List Cond := .code yX5_unlike cX5_unlike 5 (some .int) :: ([.fieldLink RX5 64 "StraightPagesModel" "thrown" "I", .fieldLink RX5 9 "StraightPagesModel" "wide" "[I", .fieldLink RX5 13 "StraightPagesModel" "high" "[I", .methodLink RX5 81 yX5_isPage, .instanceMethod yX5_isPage, .selects RX5 yX5_isPage yX5_isPage, .initialized RX5, .code yX5_isPage cX5_isPage 2 (some .boolean), .fieldLink RX5 68 "StraightPagesModel" "pages" "I", .methodLink RX5 71 yX5_in, .static yX5_in, .code yX5_in cX5_in 6 (some .boolean), .methodLink RX5 109 yX5_has, .instanceMethod yX5_has, .selects RX5 yX5_has yX5_has, .code yX5_has cX5_has 4 (some .boolean), .fieldLink RX5 17 "StraightPagesModel" "ink" "[Z"] ++ wsX50)
def wsX5_least : List Cond := .code yX5_least cX5_least 4 (some .int) :: ([.methodLink RX5 91 Lib.Math.min.name, .static Lib.Math.min.name, .initialized "java/lang/Math", .code Lib.Math.min.name Lib.Math.min.code 2 (some .int), .methodLink RX5 155 yJ9_floorDiv_7cf53, .static yJ9_floorDiv_7cf53, .initialized RJ9, .code yJ9_floorDiv_7cf53 cJ9_floorDiv_7cf53 3 (some .int)])
def wsX5_most : List Cond := .code yX5_most cX5_most 4 (some .int) :: ([.methodLink RX5 146 Lib.Math.max.name, .static Lib.Math.max.name, .initialized "java/lang/Math", .code Lib.Math.max.name Lib.Math.max.code 2 (some .int), .methodLink RX5 155 yJ9_floorDiv_7cf53, .static yJ9_floorDiv_7cf53, .initialized RJ9, .code yJ9_floorDiv_7cf53 cJ9_floorDiv_7cf53 3 (some .int), .methodLink RX5 158 yX5_least, .static yX5_least, .initialized RX5, .code yX5_least cX5_least 4 (some .int), .methodLink RX5 91 Lib.Math.min.name, .static Lib.Math.min.name, .code Lib.Math.min.name Lib.Math.min.code 2 (some .int)])
def wsX5_isShear : List Cond := .code yX5_isShear cX5_isShear 1 (some .boolean) :: ([.constantLong RX5 161 (-16), .constantLong RX5 163 (16), .methodLink RX5 71 yX5_in, .static yX5_in, .initialized RX5, .code yX5_in cX5_in 6 (some .boolean)])
def wsX5_goesAcross_r1 : List Cond := [Cond.fieldLink RX5 9 "StraightPagesModel" "wide" "[I", Cond.fieldLink RX5 13 "StraightPagesModel" "high" "[I", Cond.fieldLink RX5 21 "StraightPagesModel" "made" "[Z", Cond.methodLink RX5 165 yX5_most, Cond.static yX5_most, Cond.initialized RX5, Cond.code yX5_most cX5_most 4 (some .int), Cond.methodLink RX5 146 Lib.Math.max.name, Cond.static Lib.Math.max.name, Cond.initialized "java/lang/Math", Cond.code Lib.Math.max.name Lib.Math.max.code 2 (some .int), Cond.methodLink RX5 155 yJ9_floorDiv_7cf53, Cond.static yJ9_floorDiv_7cf53, Cond.initialized RJ9, Cond.code yJ9_floorDiv_7cf53 cJ9_floorDiv_7cf53 3 (some .int), Cond.methodLink RX5 158 yX5_least, Cond.static yX5_least, Cond.code yX5_least cX5_least 4 (some .int), Cond.methodLink RX5 91 Lib.Math.min.name, Cond.static Lib.Math.min.name, Cond.code Lib.Math.min.name Lib.Math.min.code 2 (some .int), Cond.methodLink RX5 168 yX5_blank, Cond.instanceMethod yX5_blank, Cond.selects RX5 yX5_blank yX5_blank]
def wsX5_goesAcross_r2 : List Cond := [Cond.code yX5_blank cX5_blank 2 none, Cond.methodLink RX5 109 yX5_has, Cond.instanceMethod yX5_has, Cond.selects RX5 yX5_has yX5_has, Cond.code yX5_has cX5_has 4 (some .boolean), Cond.fieldLink RX5 17 "StraightPagesModel" "ink" "[Z", Cond.methodLink RX5 171 yX5_becomes, Cond.instanceMethod yX5_becomes, Cond.selects RX5 yX5_becomes yX5_becomes, Cond.code yX5_becomes cX5_becomes 5 none]
def wsX5_goesAcross : List Cond := .code yX5_goesAcross cX5_goesAcross 7 (some .boolean) :: ((wsX5_goesAcross_r1 ++ wsX5_goesAcross_r2) ++ wsX50)
def wsX5_goesUp_r1 : List Cond := [Cond.fieldLink RX5 13 "StraightPagesModel" "high" "[I", Cond.fieldLink RX5 9 "StraightPagesModel" "wide" "[I", Cond.fieldLink RX5 21 "StraightPagesModel" "made" "[Z", Cond.methodLink RX5 165 yX5_most, Cond.static yX5_most, Cond.initialized RX5, Cond.code yX5_most cX5_most 4 (some .int), Cond.methodLink RX5 146 Lib.Math.max.name, Cond.static Lib.Math.max.name, Cond.initialized "java/lang/Math", Cond.code Lib.Math.max.name Lib.Math.max.code 2 (some .int), Cond.methodLink RX5 155 yJ9_floorDiv_7cf53, Cond.static yJ9_floorDiv_7cf53, Cond.initialized RJ9, Cond.code yJ9_floorDiv_7cf53 cJ9_floorDiv_7cf53 3 (some .int), Cond.methodLink RX5 158 yX5_least, Cond.static yX5_least, Cond.code yX5_least cX5_least 4 (some .int), Cond.methodLink RX5 91 Lib.Math.min.name, Cond.static Lib.Math.min.name, Cond.code Lib.Math.min.name Lib.Math.min.code 2 (some .int), Cond.methodLink RX5 168 yX5_blank, Cond.instanceMethod yX5_blank, Cond.selects RX5 yX5_blank yX5_blank]
def wsX5_goesUp_r2 : List Cond := [Cond.code yX5_blank cX5_blank 2 none, Cond.methodLink RX5 109 yX5_has, Cond.instanceMethod yX5_has, Cond.selects RX5 yX5_has yX5_has, Cond.code yX5_has cX5_has 4 (some .boolean), Cond.fieldLink RX5 17 "StraightPagesModel" "ink" "[Z", Cond.methodLink RX5 171 yX5_becomes, Cond.instanceMethod yX5_becomes, Cond.selects RX5 yX5_becomes yX5_becomes, Cond.code yX5_becomes cX5_becomes 5 none]
def wsX5_goesUp : List Cond := .code yX5_goesUp cX5_goesUp 7 (some .boolean) :: ((wsX5_goesUp_r1 ++ wsX5_goesUp_r2) ++ wsX50)
def wsX5_across_r1 : List Cond := [Cond.fieldLink RX5 64 "StraightPagesModel" "thrown" "I", Cond.fieldLink RX5 9 "StraightPagesModel" "wide" "[I", Cond.fieldLink RX5 13 "StraightPagesModel" "high" "[I", Cond.methodLink RX5 81 yX5_isPage, Cond.instanceMethod yX5_isPage, Cond.selects RX5 yX5_isPage yX5_isPage, Cond.initialized RX5, Cond.code yX5_isPage cX5_isPage 2 (some .boolean), Cond.fieldLink RX5 68 "StraightPagesModel" "pages" "I", Cond.methodLink RX5 71 yX5_in, Cond.static yX5_in, Cond.code yX5_in cX5_in 6 (some .boolean), Cond.methodLink RX5 174 yX5_isShear, Cond.static yX5_isShear, Cond.code yX5_isShear cX5_isShear 1 (some .boolean), Cond.constantLong RX5 161 (-16), Cond.constantLong RX5 163 (16), Cond.methodLink RX5 165 yX5_most, Cond.static yX5_most, Cond.code yX5_most cX5_most 4 (some .int), Cond.methodLink RX5 146 Lib.Math.max.name, Cond.static Lib.Math.max.name, Cond.initialized "java/lang/Math", Cond.code Lib.Math.max.name Lib.Math.max.code 2 (some .int)]
def wsX5_across_r2 : List Cond := [Cond.methodLink RX5 155 yJ9_floorDiv_7cf53, Cond.static yJ9_floorDiv_7cf53, Cond.initialized RJ9, Cond.code yJ9_floorDiv_7cf53 cJ9_floorDiv_7cf53 3 (some .int), Cond.methodLink RX5 158 yX5_least, Cond.static yX5_least, Cond.code yX5_least cX5_least 4 (some .int), Cond.methodLink RX5 91 Lib.Math.min.name, Cond.static Lib.Math.min.name, Cond.code Lib.Math.min.name Lib.Math.min.code 2 (some .int), Cond.methodLink RX5 101 yX5_changing, Cond.instanceMethod yX5_changing, Cond.selects RX5 yX5_changing yX5_changing, Cond.code yX5_changing cX5_changing 3 none, Cond.fieldLink RX5 85 "StraightPagesModel" "newest" "I", Cond.fieldLink RX5 88 "StraightPagesModel" "changes" "I", Cond.fieldLink RX5 24 "StraightPagesModel" "changePage" "[I", Cond.fieldLink RX5 27 "StraightPagesModel" "changeWide" "[I", Cond.fieldLink RX5 30 "StraightPagesModel" "changeHigh" "[I", Cond.fieldLink RX5 33 "StraightPagesModel" "changeMade" "[I", Cond.fieldLink RX5 37 "StraightPagesModel" "changeInk" "[Z", Cond.fieldLink RX5 17 "StraightPagesModel" "ink" "[Z", Cond.methodLink RX5 177 yX5_goesAcross, Cond.instanceMethod yX5_goesAcross]
def wsX5_across_r3 : List Cond := [Cond.selects RX5 yX5_goesAcross yX5_goesAcross, Cond.code yX5_goesAcross cX5_goesAcross 7 (some .boolean), Cond.fieldLink RX5 21 "StraightPagesModel" "made" "[Z", Cond.methodLink RX5 168 yX5_blank, Cond.instanceMethod yX5_blank, Cond.selects RX5 yX5_blank yX5_blank, Cond.code yX5_blank cX5_blank 2 none, Cond.methodLink RX5 109 yX5_has, Cond.instanceMethod yX5_has, Cond.selects RX5 yX5_has yX5_has, Cond.code yX5_has cX5_has 4 (some .boolean), Cond.methodLink RX5 171 yX5_becomes, Cond.instanceMethod yX5_becomes, Cond.selects RX5 yX5_becomes yX5_becomes, Cond.code yX5_becomes cX5_becomes 5 none]
def wsX5_across : List Cond := .code yX5_across cX5_across 4 (some .int) :: ((wsX5_across_r1 ++ (wsX5_across_r2 ++ wsX5_across_r3)) ++ wsX50)
def wsX5_upright_r1 : List Cond := [Cond.fieldLink RX5 64 "StraightPagesModel" "thrown" "I", Cond.fieldLink RX5 13 "StraightPagesModel" "high" "[I", Cond.fieldLink RX5 9 "StraightPagesModel" "wide" "[I", Cond.methodLink RX5 81 yX5_isPage, Cond.instanceMethod yX5_isPage, Cond.selects RX5 yX5_isPage yX5_isPage, Cond.initialized RX5, Cond.code yX5_isPage cX5_isPage 2 (some .boolean), Cond.fieldLink RX5 68 "StraightPagesModel" "pages" "I", Cond.methodLink RX5 71 yX5_in, Cond.static yX5_in, Cond.code yX5_in cX5_in 6 (some .boolean), Cond.methodLink RX5 174 yX5_isShear, Cond.static yX5_isShear, Cond.code yX5_isShear cX5_isShear 1 (some .boolean), Cond.constantLong RX5 161 (-16), Cond.constantLong RX5 163 (16), Cond.methodLink RX5 165 yX5_most, Cond.static yX5_most, Cond.code yX5_most cX5_most 4 (some .int), Cond.methodLink RX5 146 Lib.Math.max.name, Cond.static Lib.Math.max.name, Cond.initialized "java/lang/Math", Cond.code Lib.Math.max.name Lib.Math.max.code 2 (some .int)]
def wsX5_upright_r2 : List Cond := [Cond.methodLink RX5 155 yJ9_floorDiv_7cf53, Cond.static yJ9_floorDiv_7cf53, Cond.initialized RJ9, Cond.code yJ9_floorDiv_7cf53 cJ9_floorDiv_7cf53 3 (some .int), Cond.methodLink RX5 158 yX5_least, Cond.static yX5_least, Cond.code yX5_least cX5_least 4 (some .int), Cond.methodLink RX5 91 Lib.Math.min.name, Cond.static Lib.Math.min.name, Cond.code Lib.Math.min.name Lib.Math.min.code 2 (some .int), Cond.methodLink RX5 101 yX5_changing, Cond.instanceMethod yX5_changing, Cond.selects RX5 yX5_changing yX5_changing, Cond.code yX5_changing cX5_changing 3 none, Cond.fieldLink RX5 85 "StraightPagesModel" "newest" "I", Cond.fieldLink RX5 88 "StraightPagesModel" "changes" "I", Cond.fieldLink RX5 24 "StraightPagesModel" "changePage" "[I", Cond.fieldLink RX5 27 "StraightPagesModel" "changeWide" "[I", Cond.fieldLink RX5 30 "StraightPagesModel" "changeHigh" "[I", Cond.fieldLink RX5 33 "StraightPagesModel" "changeMade" "[I", Cond.fieldLink RX5 37 "StraightPagesModel" "changeInk" "[Z", Cond.fieldLink RX5 17 "StraightPagesModel" "ink" "[Z", Cond.methodLink RX5 181 yX5_goesUp, Cond.instanceMethod yX5_goesUp]
def wsX5_upright_r3 : List Cond := [Cond.selects RX5 yX5_goesUp yX5_goesUp, Cond.code yX5_goesUp cX5_goesUp 7 (some .boolean), Cond.fieldLink RX5 21 "StraightPagesModel" "made" "[Z", Cond.methodLink RX5 168 yX5_blank, Cond.instanceMethod yX5_blank, Cond.selects RX5 yX5_blank yX5_blank, Cond.code yX5_blank cX5_blank 2 none, Cond.methodLink RX5 109 yX5_has, Cond.instanceMethod yX5_has, Cond.selects RX5 yX5_has yX5_has, Cond.code yX5_has cX5_has 4 (some .boolean), Cond.methodLink RX5 171 yX5_becomes, Cond.instanceMethod yX5_becomes, Cond.selects RX5 yX5_becomes yX5_becomes, Cond.code yX5_becomes cX5_becomes 5 none]
def wsX5_upright : List Cond := .code yX5_upright cX5_upright 4 (some .int) :: ((wsX5_upright_r1 ++ (wsX5_upright_r2 ++ wsX5_upright_r3)) ++ wsX50)
def wsX5_turn_r1 : List Cond := [Cond.fieldLink RX5 64 "StraightPagesModel" "thrown" "I", Cond.fieldLink RX5 9 "StraightPagesModel" "wide" "[I", Cond.fieldLink RX5 13 "StraightPagesModel" "high" "[I", Cond.methodLink RX5 81 yX5_isPage, Cond.instanceMethod yX5_isPage, Cond.selects RX5 yX5_isPage yX5_isPage, Cond.initialized RX5, Cond.code yX5_isPage cX5_isPage 2 (some .boolean), Cond.fieldLink RX5 68 "StraightPagesModel" "pages" "I", Cond.methodLink RX5 71 yX5_in, Cond.static yX5_in, Cond.code yX5_in cX5_in 6 (some .boolean), Cond.methodLink RX5 174 yX5_isShear, Cond.static yX5_isShear, Cond.code yX5_isShear cX5_isShear 1 (some .boolean), Cond.constantLong RX5 161 (-16), Cond.constantLong RX5 163 (16), Cond.methodLink RX5 165 yX5_most, Cond.static yX5_most, Cond.code yX5_most cX5_most 4 (some .int), Cond.methodLink RX5 146 Lib.Math.max.name, Cond.static Lib.Math.max.name, Cond.initialized "java/lang/Math", Cond.code Lib.Math.max.name Lib.Math.max.code 2 (some .int)]
def wsX5_turn_r2 : List Cond := [Cond.methodLink RX5 155 yJ9_floorDiv_7cf53, Cond.static yJ9_floorDiv_7cf53, Cond.initialized RJ9, Cond.code yJ9_floorDiv_7cf53 cJ9_floorDiv_7cf53 3 (some .int), Cond.methodLink RX5 158 yX5_least, Cond.static yX5_least, Cond.code yX5_least cX5_least 4 (some .int), Cond.methodLink RX5 91 Lib.Math.min.name, Cond.static Lib.Math.min.name, Cond.code Lib.Math.min.name Lib.Math.min.code 2 (some .int), Cond.methodLink RX5 101 yX5_changing, Cond.instanceMethod yX5_changing, Cond.selects RX5 yX5_changing yX5_changing, Cond.code yX5_changing cX5_changing 3 none, Cond.fieldLink RX5 85 "StraightPagesModel" "newest" "I", Cond.fieldLink RX5 88 "StraightPagesModel" "changes" "I", Cond.fieldLink RX5 24 "StraightPagesModel" "changePage" "[I", Cond.fieldLink RX5 27 "StraightPagesModel" "changeWide" "[I", Cond.fieldLink RX5 30 "StraightPagesModel" "changeHigh" "[I", Cond.fieldLink RX5 33 "StraightPagesModel" "changeMade" "[I", Cond.fieldLink RX5 37 "StraightPagesModel" "changeInk" "[Z", Cond.fieldLink RX5 17 "StraightPagesModel" "ink" "[Z", Cond.methodLink RX5 177 yX5_goesAcross, Cond.instanceMethod yX5_goesAcross]
def wsX5_turn_r3 : List Cond := [Cond.selects RX5 yX5_goesAcross yX5_goesAcross, Cond.code yX5_goesAcross cX5_goesAcross 7 (some .boolean), Cond.fieldLink RX5 21 "StraightPagesModel" "made" "[Z", Cond.methodLink RX5 168 yX5_blank, Cond.instanceMethod yX5_blank, Cond.selects RX5 yX5_blank yX5_blank, Cond.code yX5_blank cX5_blank 2 none, Cond.methodLink RX5 109 yX5_has, Cond.instanceMethod yX5_has, Cond.selects RX5 yX5_has yX5_has, Cond.code yX5_has cX5_has 4 (some .boolean), Cond.methodLink RX5 171 yX5_becomes, Cond.instanceMethod yX5_becomes, Cond.selects RX5 yX5_becomes yX5_becomes, Cond.code yX5_becomes cX5_becomes 5 none, Cond.methodLink RX5 181 yX5_goesUp, Cond.instanceMethod yX5_goesUp, Cond.selects RX5 yX5_goesUp yX5_goesUp, Cond.code yX5_goesUp cX5_goesUp 7 (some .boolean)]
def wsX5_turn : List Cond := .code yX5_turn cX5_turn 6 (some .boolean) :: ((wsX5_turn_r1 ++ (wsX5_turn_r2 ++ wsX5_turn_r3)) ++ wsX50)
def wsX5_sharpness : List Cond := .code yX5_sharpness cX5_sharpness 6 (some .int) :: ([.fieldLink RX5 49 "StraightPagesModel" "sums" "[I", .fieldLink RX5 9 "StraightPagesModel" "wide" "[I", .fieldLink RX5 13 "StraightPagesModel" "high" "[I", .methodLink RX5 155 yJ9_floorDiv_7cf53, .static yJ9_floorDiv_7cf53, .initialized RJ9, .code yJ9_floorDiv_7cf53 cJ9_floorDiv_7cf53 3 (some .int), .methodLink RX5 158 yX5_least, .static yX5_least, .initialized RX5, .code yX5_least cX5_least 4 (some .int), .methodLink RX5 91 Lib.Math.min.name, .static Lib.Math.min.name, .initialized "java/lang/Math", .code Lib.Math.min.name Lib.Math.min.code 2 (some .int), .methodLink RX5 109 yX5_has, .instanceMethod yX5_has, .selects RX5 yX5_has yX5_has, .code yX5_has cX5_has 4 (some .boolean), .fieldLink RX5 17 "StraightPagesModel" "ink" "[Z"] ++ wsX50)
def wsX5_sharp_r1 : List Cond := [Cond.fieldLink RX5 64 "StraightPagesModel" "thrown" "I", Cond.constantLong RX5 184 (-12), Cond.constantLong RX5 186 (12), Cond.methodLink RX5 81 yX5_isPage, Cond.instanceMethod yX5_isPage, Cond.selects RX5 yX5_isPage yX5_isPage, Cond.initialized RX5, Cond.code yX5_isPage cX5_isPage 2 (some .boolean), Cond.fieldLink RX5 68 "StraightPagesModel" "pages" "I", Cond.methodLink RX5 71 yX5_in, Cond.static yX5_in, Cond.code yX5_in cX5_in 6 (some .boolean), Cond.methodLink RX5 188 yX5_sharpness, Cond.instanceMethod yX5_sharpness, Cond.selects RX5 yX5_sharpness yX5_sharpness, Cond.code yX5_sharpness cX5_sharpness 6 (some .int), Cond.fieldLink RX5 49 "StraightPagesModel" "sums" "[I", Cond.fieldLink RX5 9 "StraightPagesModel" "wide" "[I", Cond.fieldLink RX5 13 "StraightPagesModel" "high" "[I", Cond.methodLink RX5 155 yJ9_floorDiv_7cf53, Cond.static yJ9_floorDiv_7cf53, Cond.initialized RJ9, Cond.code yJ9_floorDiv_7cf53 cJ9_floorDiv_7cf53 3 (some .int), Cond.methodLink RX5 158 yX5_least]
def wsX5_sharp_r2 : List Cond := [Cond.static yX5_least, Cond.code yX5_least cX5_least 4 (some .int), Cond.methodLink RX5 91 Lib.Math.min.name, Cond.static Lib.Math.min.name, Cond.initialized "java/lang/Math", Cond.code Lib.Math.min.name Lib.Math.min.code 2 (some .int), Cond.methodLink RX5 109 yX5_has, Cond.instanceMethod yX5_has, Cond.selects RX5 yX5_has yX5_has, Cond.code yX5_has cX5_has 4 (some .boolean), Cond.fieldLink RX5 17 "StraightPagesModel" "ink" "[Z"]
def wsX5_sharp : List Cond := .code yX5_sharp cX5_sharp 3 (some .int) :: ((wsX5_sharp_r1 ++ wsX5_sharp_r2) ++ wsX50)
def wsX5_angle_r1 : List Cond := [Cond.fieldLink RX5 64 "StraightPagesModel" "thrown" "I", Cond.fieldLink RX5 13 "StraightPagesModel" "high" "[I", Cond.methodLink RX5 81 yX5_isPage, Cond.instanceMethod yX5_isPage, Cond.selects RX5 yX5_isPage yX5_isPage, Cond.initialized RX5, Cond.code yX5_isPage cX5_isPage 2 (some .boolean), Cond.fieldLink RX5 68 "StraightPagesModel" "pages" "I", Cond.methodLink RX5 71 yX5_in, Cond.static yX5_in, Cond.code yX5_in cX5_in 6 (some .boolean), Cond.methodLink RX5 116 yX5_rowInk, Cond.instanceMethod yX5_rowInk, Cond.selects RX5 yX5_rowInk yX5_rowInk, Cond.code yX5_rowInk cX5_rowInk 5 (some .int), Cond.fieldLink RX5 9 "StraightPagesModel" "wide" "[I", Cond.methodLink RX5 109 yX5_has, Cond.instanceMethod yX5_has, Cond.selects RX5 yX5_has yX5_has, Cond.code yX5_has cX5_has 4 (some .boolean), Cond.fieldLink RX5 17 "StraightPagesModel" "ink" "[Z", Cond.methodLink RX5 188 yX5_sharpness, Cond.instanceMethod yX5_sharpness, Cond.selects RX5 yX5_sharpness yX5_sharpness]
def wsX5_angle_r2 : List Cond := [Cond.code yX5_sharpness cX5_sharpness 6 (some .int), Cond.fieldLink RX5 49 "StraightPagesModel" "sums" "[I", Cond.methodLink RX5 155 yJ9_floorDiv_7cf53, Cond.static yJ9_floorDiv_7cf53, Cond.initialized RJ9, Cond.code yJ9_floorDiv_7cf53 cJ9_floorDiv_7cf53 3 (some .int), Cond.methodLink RX5 158 yX5_least, Cond.static yX5_least, Cond.code yX5_least cX5_least 4 (some .int), Cond.methodLink RX5 91 Lib.Math.min.name, Cond.static Lib.Math.min.name, Cond.initialized "java/lang/Math", Cond.code Lib.Math.min.name Lib.Math.min.code 2 (some .int)]
def wsX5_angle : List Cond := .code yX5_angle cX5_angle 8 (some .int) :: ((wsX5_angle_r1 ++ wsX5_angle_r2) ++ wsX50)
def wsX5_steps : List Cond := .code yX5_steps cX5_steps 2 (some .int) :: ([.fieldLink RX5 9 "StraightPagesModel" "wide" "[I"] ++ wsX50)
def wsX5_footOf : List Cond := .code yX5_footOf cX5_footOf 5 (some .int) :: ([.fieldLink RX5 13 "StraightPagesModel" "high" "[I", .fieldLink RX5 9 "StraightPagesModel" "wide" "[I", .methodLink RX5 109 yX5_has, .instanceMethod yX5_has, .selects RX5 yX5_has yX5_has, .initialized RX5, .code yX5_has cX5_has 4 (some .boolean), .fieldLink RX5 17 "StraightPagesModel" "ink" "[Z"] ++ wsX50)
def wsX5_foot_r1 : List Cond := [Cond.fieldLink RX5 64 "StraightPagesModel" "thrown" "I", Cond.methodLink RX5 81 yX5_isPage, Cond.instanceMethod yX5_isPage, Cond.selects RX5 yX5_isPage yX5_isPage, Cond.initialized RX5, Cond.code yX5_isPage cX5_isPage 2 (some .boolean), Cond.fieldLink RX5 68 "StraightPagesModel" "pages" "I", Cond.methodLink RX5 71 yX5_in, Cond.static yX5_in, Cond.code yX5_in cX5_in 6 (some .boolean), Cond.methodLink RX5 191 yX5_steps, Cond.instanceMethod yX5_steps, Cond.selects RX5 yX5_steps yX5_steps, Cond.code yX5_steps cX5_steps 2 (some .int), Cond.fieldLink RX5 9 "StraightPagesModel" "wide" "[I", Cond.methodLink RX5 195 yX5_footOf, Cond.instanceMethod yX5_footOf, Cond.selects RX5 yX5_footOf yX5_footOf, Cond.code yX5_footOf cX5_footOf 5 (some .int), Cond.fieldLink RX5 13 "StraightPagesModel" "high" "[I", Cond.methodLink RX5 109 yX5_has, Cond.instanceMethod yX5_has, Cond.selects RX5 yX5_has yX5_has, Cond.code yX5_has cX5_has 4 (some .boolean)]
def wsX5_foot_r2 : List Cond := [Cond.fieldLink RX5 17 "StraightPagesModel" "ink" "[Z"]
def wsX5_foot : List Cond := .code yX5_foot cX5_foot 3 (some .int) :: ((wsX5_foot_r1 ++ wsX5_foot_r2) ++ wsX50)
def wsX5_bend_r1 : List Cond := [Cond.fieldLink RX5 64 "StraightPagesModel" "thrown" "I", Cond.methodLink RX5 146 Lib.Math.max.name, Cond.static Lib.Math.max.name, Cond.initialized "java/lang/Math", Cond.code Lib.Math.max.name Lib.Math.max.code 2 (some .int), Cond.fieldLink RX5 9 "StraightPagesModel" "wide" "[I", Cond.fieldLink RX5 21 "StraightPagesModel" "made" "[Z", Cond.fieldLink RX5 13 "StraightPagesModel" "high" "[I", Cond.methodLink RX5 81 yX5_isPage, Cond.instanceMethod yX5_isPage, Cond.selects RX5 yX5_isPage yX5_isPage, Cond.initialized RX5, Cond.code yX5_isPage cX5_isPage 2 (some .boolean), Cond.fieldLink RX5 68 "StraightPagesModel" "pages" "I", Cond.methodLink RX5 71 yX5_in, Cond.static yX5_in, Cond.code yX5_in cX5_in 6 (some .boolean), Cond.methodLink RX5 101 yX5_changing, Cond.instanceMethod yX5_changing, Cond.selects RX5 yX5_changing yX5_changing, Cond.code yX5_changing cX5_changing 3 none, Cond.fieldLink RX5 85 "StraightPagesModel" "newest" "I", Cond.fieldLink RX5 88 "StraightPagesModel" "changes" "I", Cond.methodLink RX5 91 Lib.Math.min.name]
def wsX5_bend_r2 : List Cond := [Cond.static Lib.Math.min.name, Cond.code Lib.Math.min.name Lib.Math.min.code 2 (some .int), Cond.fieldLink RX5 24 "StraightPagesModel" "changePage" "[I", Cond.fieldLink RX5 27 "StraightPagesModel" "changeWide" "[I", Cond.fieldLink RX5 30 "StraightPagesModel" "changeHigh" "[I", Cond.fieldLink RX5 33 "StraightPagesModel" "changeMade" "[I", Cond.fieldLink RX5 37 "StraightPagesModel" "changeInk" "[Z", Cond.fieldLink RX5 17 "StraightPagesModel" "ink" "[Z", Cond.methodLink RX5 191 yX5_steps, Cond.instanceMethod yX5_steps, Cond.selects RX5 yX5_steps yX5_steps, Cond.code yX5_steps cX5_steps 2 (some .int), Cond.methodLink RX5 195 yX5_footOf, Cond.instanceMethod yX5_footOf, Cond.selects RX5 yX5_footOf yX5_footOf, Cond.code yX5_footOf cX5_footOf 5 (some .int), Cond.methodLink RX5 109 yX5_has, Cond.instanceMethod yX5_has, Cond.selects RX5 yX5_has yX5_has, Cond.code yX5_has cX5_has 4 (some .boolean), Cond.methodLink RX5 168 yX5_blank, Cond.instanceMethod yX5_blank, Cond.selects RX5 yX5_blank yX5_blank, Cond.code yX5_blank cX5_blank 2 none]
def wsX5_bend_r3 : List Cond := [Cond.methodLink RX5 171 yX5_becomes, Cond.instanceMethod yX5_becomes, Cond.selects RX5 yX5_becomes yX5_becomes, Cond.code yX5_becomes cX5_becomes 5 none]
def wsX5_bend : List Cond := .code yX5_bend cX5_bend 8 (some .int) :: ((wsX5_bend_r1 ++ (wsX5_bend_r2 ++ wsX5_bend_r3)) ++ wsX50)
def wsX5_areSpecks : List Cond := .code yX5_areSpecks cX5_areSpecks 2 (some .boolean) :: ([.constantLong RX5 198 (100), .constantLong RX5 200 (20), .methodLink RX5 71 yX5_in, .static yX5_in, .initialized RX5, .code yX5_in cX5_in 6 (some .boolean)])
def wsX5_isNear : List Cond := .code yX5_isNear cX5_isNear 9 (some .boolean) :: ([.methodLink RX5 146 Lib.Math.max.name, .static Lib.Math.max.name, .initialized "java/lang/Math", .code Lib.Math.max.name Lib.Math.max.code 2 (some .int), .fieldLink RX5 13 "StraightPagesModel" "high" "[I", .methodLink RX5 91 Lib.Math.min.name, .static Lib.Math.min.name, .code Lib.Math.min.name Lib.Math.min.code 2 (some .int), .fieldLink RX5 9 "StraightPagesModel" "wide" "[I", .fieldLink RX5 40 "StraightPagesModel" "spot" "[I", .fieldLink RX5 43 "StraightPagesModel" "spotSize" "[I"] ++ wsX50)
def wsX5_findsSpecks_r1 : List Cond := [Cond.fieldLink RX5 131 "StraightPagesModel" "spots" "I", Cond.fieldLink RX5 52 "StraightPagesModel" "isSpeck" "[Z", Cond.fieldLink RX5 43 "StraightPagesModel" "spotSize" "[I", Cond.fieldLink RX5 13 "StraightPagesModel" "high" "[I", Cond.fieldLink RX5 9 "StraightPagesModel" "wide" "[I", Cond.fieldLink RX5 40 "StraightPagesModel" "spot" "[I", Cond.methodLink RX5 143 yX5_findsSpots, Cond.instanceMethod yX5_findsSpots, Cond.selects RX5 yX5_findsSpots yX5_findsSpots, Cond.initialized RX5, Cond.code yX5_findsSpots cX5_findsSpots 4 none, Cond.methodLink RX5 109 yX5_has, Cond.instanceMethod yX5_has, Cond.selects RX5 yX5_has yX5_has, Cond.code yX5_has cX5_has 4 (some .boolean), Cond.fieldLink RX5 17 "StraightPagesModel" "ink" "[Z", Cond.methodLink RX5 134 yX5_spreads, Cond.instanceMethod yX5_spreads, Cond.selects RX5 yX5_spreads yX5_spreads, Cond.code yX5_spreads cX5_spreads 11 (some .int), Cond.fieldLink RX5 46 "StraightPagesModel" "queue" "[I", Cond.methodLink RX5 97 yX5_isPoint, Cond.instanceMethod yX5_isPoint, Cond.selects RX5 yX5_isPoint yX5_isPoint]
def wsX5_findsSpecks_r2 : List Cond := [Cond.code yX5_isPoint cX5_isPoint 4 (some .boolean), Cond.methodLink RX5 81 yX5_isPage, Cond.instanceMethod yX5_isPage, Cond.selects RX5 yX5_isPage yX5_isPage, Cond.code yX5_isPage cX5_isPage 2 (some .boolean), Cond.fieldLink RX5 68 "StraightPagesModel" "pages" "I", Cond.methodLink RX5 71 yX5_in, Cond.static yX5_in, Cond.code yX5_in cX5_in 6 (some .boolean), Cond.methodLink RX5 202 yX5_isNear, Cond.instanceMethod yX5_isNear, Cond.selects RX5 yX5_isNear yX5_isNear, Cond.code yX5_isNear cX5_isNear 9 (some .boolean), Cond.methodLink RX5 146 Lib.Math.max.name, Cond.static Lib.Math.max.name, Cond.initialized "java/lang/Math", Cond.code Lib.Math.max.name Lib.Math.max.code 2 (some .int), Cond.methodLink RX5 91 Lib.Math.min.name, Cond.static Lib.Math.min.name, Cond.code Lib.Math.min.name Lib.Math.min.code 2 (some .int)]
def wsX5_findsSpecks : List Cond := .code yX5_findsSpecks cX5_findsSpecks 7 (some .int) :: ((wsX5_findsSpecks_r1 ++ wsX5_findsSpecks_r2) ++ wsX50)
def wsX5_specks_r1 : List Cond := [Cond.fieldLink RX5 64 "StraightPagesModel" "thrown" "I", Cond.methodLink RX5 81 yX5_isPage, Cond.instanceMethod yX5_isPage, Cond.selects RX5 yX5_isPage yX5_isPage, Cond.initialized RX5, Cond.code yX5_isPage cX5_isPage 2 (some .boolean), Cond.fieldLink RX5 68 "StraightPagesModel" "pages" "I", Cond.methodLink RX5 71 yX5_in, Cond.static yX5_in, Cond.code yX5_in cX5_in 6 (some .boolean), Cond.methodLink RX5 206 yX5_areSpecks, Cond.static yX5_areSpecks, Cond.code yX5_areSpecks cX5_areSpecks 2 (some .boolean), Cond.constantLong RX5 198 (100), Cond.constantLong RX5 200 (20), Cond.methodLink RX5 209 yX5_findsSpecks, Cond.instanceMethod yX5_findsSpecks, Cond.selects RX5 yX5_findsSpecks yX5_findsSpecks, Cond.code yX5_findsSpecks cX5_findsSpecks 7 (some .int), Cond.fieldLink RX5 131 "StraightPagesModel" "spots" "I", Cond.fieldLink RX5 52 "StraightPagesModel" "isSpeck" "[Z", Cond.fieldLink RX5 43 "StraightPagesModel" "spotSize" "[I", Cond.fieldLink RX5 13 "StraightPagesModel" "high" "[I", Cond.fieldLink RX5 9 "StraightPagesModel" "wide" "[I"]
def wsX5_specks_r2 : List Cond := [Cond.fieldLink RX5 40 "StraightPagesModel" "spot" "[I", Cond.methodLink RX5 143 yX5_findsSpots, Cond.instanceMethod yX5_findsSpots, Cond.selects RX5 yX5_findsSpots yX5_findsSpots, Cond.code yX5_findsSpots cX5_findsSpots 4 none, Cond.methodLink RX5 109 yX5_has, Cond.instanceMethod yX5_has, Cond.selects RX5 yX5_has yX5_has, Cond.code yX5_has cX5_has 4 (some .boolean), Cond.fieldLink RX5 17 "StraightPagesModel" "ink" "[Z", Cond.methodLink RX5 134 yX5_spreads, Cond.instanceMethod yX5_spreads, Cond.selects RX5 yX5_spreads yX5_spreads, Cond.code yX5_spreads cX5_spreads 11 (some .int), Cond.fieldLink RX5 46 "StraightPagesModel" "queue" "[I", Cond.methodLink RX5 97 yX5_isPoint, Cond.instanceMethod yX5_isPoint, Cond.selects RX5 yX5_isPoint yX5_isPoint, Cond.code yX5_isPoint cX5_isPoint 4 (some .boolean), Cond.methodLink RX5 202 yX5_isNear, Cond.instanceMethod yX5_isNear, Cond.selects RX5 yX5_isNear yX5_isNear, Cond.code yX5_isNear cX5_isNear 9 (some .boolean), Cond.methodLink RX5 146 Lib.Math.max.name]
def wsX5_specks_r3 : List Cond := [Cond.static Lib.Math.max.name, Cond.initialized "java/lang/Math", Cond.code Lib.Math.max.name Lib.Math.max.code 2 (some .int), Cond.methodLink RX5 91 Lib.Math.min.name, Cond.static Lib.Math.min.name, Cond.code Lib.Math.min.name Lib.Math.min.code 2 (some .int)]
def wsX5_specks : List Cond := .code yX5_specks cX5_specks 4 (some .int) :: ((wsX5_specks_r1 ++ (wsX5_specks_r2 ++ wsX5_specks_r3)) ++ wsX50)
def wsX5_takes : List Cond := .code yX5_takes cX5_takes 4 none :: ([.fieldLink RX5 55 "StraightPagesModel" "listX" "[I", .fieldLink RX5 149 "StraightPagesModel" "listed" "I", .fieldLink RX5 58 "StraightPagesModel" "listY" "[I", .methodLink RX5 105 yX5_inks, .instanceMethod yX5_inks, .selects RX5 yX5_inks yX5_inks, .initialized RX5, .code yX5_inks cX5_inks 5 none, .fieldLink RX5 17 "StraightPagesModel" "ink" "[Z"] ++ wsX50)
def wsX5_take_r1 : List Cond := [Cond.fieldLink RX5 64 "StraightPagesModel" "thrown" "I", Cond.fieldLink RX5 149 "StraightPagesModel" "listed" "I", Cond.fieldLink RX5 13 "StraightPagesModel" "high" "[I", Cond.fieldLink RX5 9 "StraightPagesModel" "wide" "[I", Cond.fieldLink RX5 40 "StraightPagesModel" "spot" "[I", Cond.fieldLink RX5 52 "StraightPagesModel" "isSpeck" "[Z", Cond.methodLink RX5 81 yX5_isPage, Cond.instanceMethod yX5_isPage, Cond.selects RX5 yX5_isPage yX5_isPage, Cond.initialized RX5, Cond.code yX5_isPage cX5_isPage 2 (some .boolean), Cond.fieldLink RX5 68 "StraightPagesModel" "pages" "I", Cond.methodLink RX5 71 yX5_in, Cond.static yX5_in, Cond.code yX5_in cX5_in 6 (some .boolean), Cond.methodLink RX5 206 yX5_areSpecks, Cond.static yX5_areSpecks, Cond.code yX5_areSpecks cX5_areSpecks 2 (some .boolean), Cond.constantLong RX5 198 (100), Cond.constantLong RX5 200 (20), Cond.methodLink RX5 101 yX5_changing, Cond.instanceMethod yX5_changing, Cond.selects RX5 yX5_changing yX5_changing, Cond.code yX5_changing cX5_changing 3 none]
def wsX5_take_r2 : List Cond := [Cond.fieldLink RX5 85 "StraightPagesModel" "newest" "I", Cond.fieldLink RX5 88 "StraightPagesModel" "changes" "I", Cond.methodLink RX5 91 Lib.Math.min.name, Cond.static Lib.Math.min.name, Cond.initialized "java/lang/Math", Cond.code Lib.Math.min.name Lib.Math.min.code 2 (some .int), Cond.fieldLink RX5 24 "StraightPagesModel" "changePage" "[I", Cond.fieldLink RX5 27 "StraightPagesModel" "changeWide" "[I", Cond.fieldLink RX5 30 "StraightPagesModel" "changeHigh" "[I", Cond.fieldLink RX5 33 "StraightPagesModel" "changeMade" "[I", Cond.fieldLink RX5 37 "StraightPagesModel" "changeInk" "[Z", Cond.fieldLink RX5 17 "StraightPagesModel" "ink" "[Z", Cond.methodLink RX5 209 yX5_findsSpecks, Cond.instanceMethod yX5_findsSpecks, Cond.selects RX5 yX5_findsSpecks yX5_findsSpecks, Cond.code yX5_findsSpecks cX5_findsSpecks 7 (some .int), Cond.fieldLink RX5 131 "StraightPagesModel" "spots" "I", Cond.fieldLink RX5 43 "StraightPagesModel" "spotSize" "[I", Cond.methodLink RX5 143 yX5_findsSpots, Cond.instanceMethod yX5_findsSpots, Cond.selects RX5 yX5_findsSpots yX5_findsSpots, Cond.code yX5_findsSpots cX5_findsSpots 4 none, Cond.methodLink RX5 109 yX5_has, Cond.instanceMethod yX5_has]
def wsX5_take_r3 : List Cond := [Cond.selects RX5 yX5_has yX5_has, Cond.code yX5_has cX5_has 4 (some .boolean), Cond.methodLink RX5 134 yX5_spreads, Cond.instanceMethod yX5_spreads, Cond.selects RX5 yX5_spreads yX5_spreads, Cond.code yX5_spreads cX5_spreads 11 (some .int), Cond.fieldLink RX5 46 "StraightPagesModel" "queue" "[I", Cond.methodLink RX5 97 yX5_isPoint, Cond.instanceMethod yX5_isPoint, Cond.selects RX5 yX5_isPoint yX5_isPoint, Cond.code yX5_isPoint cX5_isPoint 4 (some .boolean), Cond.methodLink RX5 202 yX5_isNear, Cond.instanceMethod yX5_isNear, Cond.selects RX5 yX5_isNear yX5_isNear, Cond.code yX5_isNear cX5_isNear 9 (some .boolean), Cond.methodLink RX5 146 Lib.Math.max.name, Cond.static Lib.Math.max.name, Cond.code Lib.Math.max.name Lib.Math.max.code 2 (some .int), Cond.methodLink RX5 212 yX5_takes, Cond.instanceMethod yX5_takes, Cond.selects RX5 yX5_takes yX5_takes, Cond.code yX5_takes cX5_takes 4 none, Cond.fieldLink RX5 55 "StraightPagesModel" "listX" "[I", Cond.fieldLink RX5 58 "StraightPagesModel" "listY" "[I"]
def wsX5_take_r4 : List Cond := [Cond.methodLink RX5 105 yX5_inks, Cond.instanceMethod yX5_inks, Cond.selects RX5 yX5_inks yX5_inks, Cond.code yX5_inks cX5_inks 5 none]
def wsX5_take : List Cond := .code yX5_take cX5_take 8 (some .int) :: ((wsX5_take_r1 ++ (wsX5_take_r2 ++ (wsX5_take_r3 ++ wsX5_take_r4))) ++ wsX50)
def wsX5_isDark : List Cond := .code yX5_isDark cX5_isDark 4 (some .boolean) :: ([.fieldLink RX5 13 "StraightPagesModel" "high" "[I", .methodLink RX5 140 yX5_columnInk, .instanceMethod yX5_columnInk, .selects RX5 yX5_columnInk yX5_columnInk, .initialized RX5, .code yX5_columnInk cX5_columnInk 5 (some .int), .methodLink RX5 109 yX5_has, .instanceMethod yX5_has, .selects RX5 yX5_has yX5_has, .code yX5_has cX5_has 4 (some .boolean), .fieldLink RX5 17 "StraightPagesModel" "ink" "[Z"] ++ wsX50)
def wsX5_shadow_r1 : List Cond := [Cond.fieldLink RX5 64 "StraightPagesModel" "thrown" "I", Cond.constantLong RX5 198 (100), Cond.fieldLink RX5 9 "StraightPagesModel" "wide" "[I", Cond.fieldLink RX5 149 "StraightPagesModel" "listed" "I", Cond.fieldLink RX5 13 "StraightPagesModel" "high" "[I", Cond.methodLink RX5 81 yX5_isPage, Cond.instanceMethod yX5_isPage, Cond.selects RX5 yX5_isPage yX5_isPage, Cond.initialized RX5, Cond.code yX5_isPage cX5_isPage 2 (some .boolean), Cond.fieldLink RX5 68 "StraightPagesModel" "pages" "I", Cond.methodLink RX5 71 yX5_in, Cond.static yX5_in, Cond.code yX5_in cX5_in 6 (some .boolean), Cond.methodLink RX5 101 yX5_changing, Cond.instanceMethod yX5_changing, Cond.selects RX5 yX5_changing yX5_changing, Cond.code yX5_changing cX5_changing 3 none, Cond.fieldLink RX5 85 "StraightPagesModel" "newest" "I", Cond.fieldLink RX5 88 "StraightPagesModel" "changes" "I", Cond.methodLink RX5 91 Lib.Math.min.name, Cond.static Lib.Math.min.name, Cond.initialized "java/lang/Math", Cond.code Lib.Math.min.name Lib.Math.min.code 2 (some .int)]
def wsX5_shadow_r2 : List Cond := [Cond.fieldLink RX5 24 "StraightPagesModel" "changePage" "[I", Cond.fieldLink RX5 27 "StraightPagesModel" "changeWide" "[I", Cond.fieldLink RX5 30 "StraightPagesModel" "changeHigh" "[I", Cond.fieldLink RX5 33 "StraightPagesModel" "changeMade" "[I", Cond.fieldLink RX5 37 "StraightPagesModel" "changeInk" "[Z", Cond.fieldLink RX5 17 "StraightPagesModel" "ink" "[Z", Cond.methodLink RX5 215 yX5_isDark, Cond.instanceMethod yX5_isDark, Cond.selects RX5 yX5_isDark yX5_isDark, Cond.code yX5_isDark cX5_isDark 4 (some .boolean), Cond.methodLink RX5 140 yX5_columnInk, Cond.instanceMethod yX5_columnInk, Cond.selects RX5 yX5_columnInk yX5_columnInk, Cond.code yX5_columnInk cX5_columnInk 5 (some .int), Cond.methodLink RX5 109 yX5_has, Cond.instanceMethod yX5_has, Cond.selects RX5 yX5_has yX5_has, Cond.code yX5_has cX5_has 4 (some .boolean), Cond.methodLink RX5 212 yX5_takes, Cond.instanceMethod yX5_takes, Cond.selects RX5 yX5_takes yX5_takes, Cond.code yX5_takes cX5_takes 4 none, Cond.fieldLink RX5 55 "StraightPagesModel" "listX" "[I", Cond.fieldLink RX5 58 "StraightPagesModel" "listY" "[I"]
def wsX5_shadow_r3 : List Cond := [Cond.methodLink RX5 105 yX5_inks, Cond.instanceMethod yX5_inks, Cond.selects RX5 yX5_inks yX5_inks, Cond.code yX5_inks cX5_inks 5 none]
def wsX5_shadow : List Cond := .code yX5_shadow cX5_shadow 8 (some .int) :: ((wsX5_shadow_r1 ++ (wsX5_shadow_r2 ++ wsX5_shadow_r3)) ++ wsX50)
def wsX5_listed : List Cond := .code yX5_listed cX5_listed 3 (some .int) :: ([.fieldLink RX5 64 "StraightPagesModel" "thrown" "I", .fieldLink RX5 149 "StraightPagesModel" "listed" "I", .fieldLink RX5 55 "StraightPagesModel" "listX" "[I", .fieldLink RX5 58 "StraightPagesModel" "listY" "[I", .methodLink RX5 71 yX5_in, .static yX5_in, .initialized RX5, .code yX5_in cX5_in 6 (some .boolean), .methodLink RX5 127 yX5_refuse, .instanceMethod yX5_refuse, .selects RX5 yX5_refuse yX5_refuse, .code yX5_refuse cX5_refuse 1 (some .int)] ++ wsX50)
def wsX5_firstColumn : List Cond := .code yX5_firstColumn cX5_firstColumn 3 (some .int) :: ([.fieldLink RX5 9 "StraightPagesModel" "wide" "[I", .methodLink RX5 140 yX5_columnInk, .instanceMethod yX5_columnInk, .selects RX5 yX5_columnInk yX5_columnInk, .initialized RX5, .code yX5_columnInk cX5_columnInk 5 (some .int), .fieldLink RX5 13 "StraightPagesModel" "high" "[I", .methodLink RX5 109 yX5_has, .instanceMethod yX5_has, .selects RX5 yX5_has yX5_has, .code yX5_has cX5_has 4 (some .boolean), .fieldLink RX5 17 "StraightPagesModel" "ink" "[Z"] ++ wsX50)
def wsX5_firstRow : List Cond := .code yX5_firstRow cX5_firstRow 3 (some .int) :: ([.fieldLink RX5 13 "StraightPagesModel" "high" "[I", .methodLink RX5 116 yX5_rowInk, .instanceMethod yX5_rowInk, .selects RX5 yX5_rowInk yX5_rowInk, .initialized RX5, .code yX5_rowInk cX5_rowInk 5 (some .int), .fieldLink RX5 9 "StraightPagesModel" "wide" "[I", .methodLink RX5 109 yX5_has, .instanceMethod yX5_has, .selects RX5 yX5_has yX5_has, .code yX5_has cX5_has 4 (some .boolean), .fieldLink RX5 17 "StraightPagesModel" "ink" "[Z"] ++ wsX50)
def wsX5_lastColumn : List Cond := .code yX5_lastColumn cX5_lastColumn 3 (some .int) :: ([.fieldLink RX5 9 "StraightPagesModel" "wide" "[I", .methodLink RX5 140 yX5_columnInk, .instanceMethod yX5_columnInk, .selects RX5 yX5_columnInk yX5_columnInk, .initialized RX5, .code yX5_columnInk cX5_columnInk 5 (some .int), .fieldLink RX5 13 "StraightPagesModel" "high" "[I", .methodLink RX5 109 yX5_has, .instanceMethod yX5_has, .selects RX5 yX5_has yX5_has, .code yX5_has cX5_has 4 (some .boolean), .fieldLink RX5 17 "StraightPagesModel" "ink" "[Z"] ++ wsX50)
def wsX5_lastRow : List Cond := .code yX5_lastRow cX5_lastRow 3 (some .int) :: ([.fieldLink RX5 13 "StraightPagesModel" "high" "[I", .methodLink RX5 116 yX5_rowInk, .instanceMethod yX5_rowInk, .selects RX5 yX5_rowInk yX5_rowInk, .initialized RX5, .code yX5_rowInk cX5_rowInk 5 (some .int), .fieldLink RX5 9 "StraightPagesModel" "wide" "[I", .methodLink RX5 109 yX5_has, .instanceMethod yX5_has, .selects RX5 yX5_has yX5_has, .code yX5_has cX5_has 4 (some .boolean), .fieldLink RX5 17 "StraightPagesModel" "ink" "[Z"] ++ wsX50)
def wsX5_hasInk : List Cond := .code yX5_hasInk cX5_hasInk 2 (some .boolean) :: ([.fieldLink RX5 13 "StraightPagesModel" "high" "[I", .methodLink RX5 218 yX5_firstRow, .instanceMethod yX5_firstRow, .selects RX5 yX5_firstRow yX5_firstRow, .initialized RX5, .code yX5_firstRow cX5_firstRow 3 (some .int), .methodLink RX5 116 yX5_rowInk, .instanceMethod yX5_rowInk, .selects RX5 yX5_rowInk yX5_rowInk, .code yX5_rowInk cX5_rowInk 5 (some .int), .fieldLink RX5 9 "StraightPagesModel" "wide" "[I", .methodLink RX5 109 yX5_has, .instanceMethod yX5_has, .selects RX5 yX5_has yX5_has, .code yX5_has cX5_has 4 (some .boolean), .fieldLink RX5 17 "StraightPagesModel" "ink" "[Z"] ++ wsX50)
def wsX5_box_r1 : List Cond := [Cond.fieldLink RX5 64 "StraightPagesModel" "thrown" "I", Cond.constantLong RX5 224 (3), Cond.methodLink RX5 81 yX5_isPage, Cond.instanceMethod yX5_isPage, Cond.selects RX5 yX5_isPage yX5_isPage, Cond.initialized RX5, Cond.code yX5_isPage cX5_isPage 2 (some .boolean), Cond.fieldLink RX5 68 "StraightPagesModel" "pages" "I", Cond.methodLink RX5 71 yX5_in, Cond.static yX5_in, Cond.code yX5_in cX5_in 6 (some .boolean), Cond.methodLink RX5 221 yX5_hasInk, Cond.instanceMethod yX5_hasInk, Cond.selects RX5 yX5_hasInk yX5_hasInk, Cond.code yX5_hasInk cX5_hasInk 2 (some .boolean), Cond.fieldLink RX5 13 "StraightPagesModel" "high" "[I", Cond.methodLink RX5 218 yX5_firstRow, Cond.instanceMethod yX5_firstRow, Cond.selects RX5 yX5_firstRow yX5_firstRow, Cond.code yX5_firstRow cX5_firstRow 3 (some .int), Cond.methodLink RX5 116 yX5_rowInk, Cond.instanceMethod yX5_rowInk, Cond.selects RX5 yX5_rowInk yX5_rowInk, Cond.code yX5_rowInk cX5_rowInk 5 (some .int)]
def wsX5_box_r2 : List Cond := [Cond.fieldLink RX5 9 "StraightPagesModel" "wide" "[I", Cond.methodLink RX5 109 yX5_has, Cond.instanceMethod yX5_has, Cond.selects RX5 yX5_has yX5_has, Cond.code yX5_has cX5_has 4 (some .boolean), Cond.fieldLink RX5 17 "StraightPagesModel" "ink" "[Z", Cond.methodLink RX5 226 yX5_firstColumn, Cond.instanceMethod yX5_firstColumn, Cond.selects RX5 yX5_firstColumn yX5_firstColumn, Cond.code yX5_firstColumn cX5_firstColumn 3 (some .int), Cond.methodLink RX5 140 yX5_columnInk, Cond.instanceMethod yX5_columnInk, Cond.selects RX5 yX5_columnInk yX5_columnInk, Cond.code yX5_columnInk cX5_columnInk 5 (some .int), Cond.methodLink RX5 229 yX5_lastColumn, Cond.instanceMethod yX5_lastColumn, Cond.selects RX5 yX5_lastColumn yX5_lastColumn, Cond.code yX5_lastColumn cX5_lastColumn 3 (some .int), Cond.methodLink RX5 232 yX5_lastRow, Cond.instanceMethod yX5_lastRow, Cond.selects RX5 yX5_lastRow yX5_lastRow, Cond.code yX5_lastRow cX5_lastRow 3 (some .int)]
def wsX5_box : List Cond := .code yX5_box cX5_box 3 (some .int) :: ((wsX5_box_r1 ++ wsX5_box_r2) ++ wsX50)
def wsX5_cut_r1 : List Cond := [Cond.fieldLink RX5 64 "StraightPagesModel" "thrown" "I", Cond.constantLong RX5 200 (20), Cond.fieldLink RX5 21 "StraightPagesModel" "made" "[Z", Cond.methodLink RX5 81 yX5_isPage, Cond.instanceMethod yX5_isPage, Cond.selects RX5 yX5_isPage yX5_isPage, Cond.initialized RX5, Cond.code yX5_isPage cX5_isPage 2 (some .boolean), Cond.fieldLink RX5 68 "StraightPagesModel" "pages" "I", Cond.methodLink RX5 71 yX5_in, Cond.static yX5_in, Cond.code yX5_in cX5_in 6 (some .boolean), Cond.methodLink RX5 221 yX5_hasInk, Cond.instanceMethod yX5_hasInk, Cond.selects RX5 yX5_hasInk yX5_hasInk, Cond.code yX5_hasInk cX5_hasInk 2 (some .boolean), Cond.fieldLink RX5 13 "StraightPagesModel" "high" "[I", Cond.methodLink RX5 218 yX5_firstRow, Cond.instanceMethod yX5_firstRow, Cond.selects RX5 yX5_firstRow yX5_firstRow, Cond.code yX5_firstRow cX5_firstRow 3 (some .int), Cond.methodLink RX5 116 yX5_rowInk, Cond.instanceMethod yX5_rowInk, Cond.selects RX5 yX5_rowInk yX5_rowInk]
def wsX5_cut_r2 : List Cond := [Cond.code yX5_rowInk cX5_rowInk 5 (some .int), Cond.fieldLink RX5 9 "StraightPagesModel" "wide" "[I", Cond.methodLink RX5 109 yX5_has, Cond.instanceMethod yX5_has, Cond.selects RX5 yX5_has yX5_has, Cond.code yX5_has cX5_has 4 (some .boolean), Cond.fieldLink RX5 17 "StraightPagesModel" "ink" "[Z", Cond.methodLink RX5 226 yX5_firstColumn, Cond.instanceMethod yX5_firstColumn, Cond.selects RX5 yX5_firstColumn yX5_firstColumn, Cond.code yX5_firstColumn cX5_firstColumn 3 (some .int), Cond.methodLink RX5 140 yX5_columnInk, Cond.instanceMethod yX5_columnInk, Cond.selects RX5 yX5_columnInk yX5_columnInk, Cond.code yX5_columnInk cX5_columnInk 5 (some .int), Cond.methodLink RX5 229 yX5_lastColumn, Cond.instanceMethod yX5_lastColumn, Cond.selects RX5 yX5_lastColumn yX5_lastColumn, Cond.code yX5_lastColumn cX5_lastColumn 3 (some .int), Cond.methodLink RX5 232 yX5_lastRow, Cond.instanceMethod yX5_lastRow, Cond.selects RX5 yX5_lastRow yX5_lastRow, Cond.code yX5_lastRow cX5_lastRow 3 (some .int), Cond.methodLink RX5 101 yX5_changing]
def wsX5_cut_r3 : List Cond := [Cond.instanceMethod yX5_changing, Cond.selects RX5 yX5_changing yX5_changing, Cond.code yX5_changing cX5_changing 3 none, Cond.fieldLink RX5 85 "StraightPagesModel" "newest" "I", Cond.fieldLink RX5 88 "StraightPagesModel" "changes" "I", Cond.methodLink RX5 91 Lib.Math.min.name, Cond.static Lib.Math.min.name, Cond.initialized "java/lang/Math", Cond.code Lib.Math.min.name Lib.Math.min.code 2 (some .int), Cond.fieldLink RX5 24 "StraightPagesModel" "changePage" "[I", Cond.fieldLink RX5 27 "StraightPagesModel" "changeWide" "[I", Cond.fieldLink RX5 30 "StraightPagesModel" "changeHigh" "[I", Cond.fieldLink RX5 33 "StraightPagesModel" "changeMade" "[I", Cond.fieldLink RX5 37 "StraightPagesModel" "changeInk" "[Z", Cond.methodLink RX5 168 yX5_blank, Cond.instanceMethod yX5_blank, Cond.selects RX5 yX5_blank yX5_blank, Cond.code yX5_blank cX5_blank 2 none, Cond.methodLink RX5 171 yX5_becomes, Cond.instanceMethod yX5_becomes, Cond.selects RX5 yX5_becomes yX5_becomes, Cond.code yX5_becomes cX5_becomes 5 none]
def wsX5_cut : List Cond := .code yX5_cut cX5_cut 9 (some .boolean) :: ((wsX5_cut_r1 ++ (wsX5_cut_r2 ++ wsX5_cut_r3)) ++ wsX50)
def wsX5_spans_r1 : List Cond := [Cond.fieldLink RX5 64 "StraightPagesModel" "thrown" "I", Cond.constantLong RX5 75 (64), Cond.fieldLink RX5 152 "StraightPagesModel" "rows" "I", Cond.fieldLink RX5 9 "StraightPagesModel" "wide" "[I", Cond.fieldLink RX5 13 "StraightPagesModel" "high" "[I", Cond.fieldLink RX5 61 "StraightPagesModel" "row" "[I", Cond.methodLink RX5 81 yX5_isPage, Cond.instanceMethod yX5_isPage, Cond.selects RX5 yX5_isPage yX5_isPage, Cond.initialized RX5, Cond.code yX5_isPage cX5_isPage 2 (some .boolean), Cond.fieldLink RX5 68 "StraightPagesModel" "pages" "I", Cond.methodLink RX5 71 yX5_in, Cond.static yX5_in, Cond.code yX5_in cX5_in 6 (some .boolean), Cond.methodLink RX5 140 yX5_columnInk, Cond.instanceMethod yX5_columnInk, Cond.selects RX5 yX5_columnInk yX5_columnInk, Cond.code yX5_columnInk cX5_columnInk 5 (some .int), Cond.methodLink RX5 109 yX5_has, Cond.instanceMethod yX5_has, Cond.selects RX5 yX5_has yX5_has, Cond.code yX5_has cX5_has 4 (some .boolean), Cond.fieldLink RX5 17 "StraightPagesModel" "ink" "[Z"]
def wsX5_spans_r2 : List Cond := [Cond.methodLink RX5 116 yX5_rowInk, Cond.instanceMethod yX5_rowInk, Cond.selects RX5 yX5_rowInk yX5_rowInk, Cond.code yX5_rowInk cX5_rowInk 5 (some .int)]
def wsX5_spans : List Cond := .code yX5_spans cX5_spans 7 (some .int) :: ((wsX5_spans_r1 ++ wsX5_spans_r2) ++ wsX50)
def wsX5_told : List Cond := .code yX5_told cX5_told 2 (some .int) :: ([.fieldLink RX5 64 "StraightPagesModel" "thrown" "I", .fieldLink RX5 152 "StraightPagesModel" "rows" "I", .fieldLink RX5 61 "StraightPagesModel" "row" "[I", .methodLink RX5 71 yX5_in, .static yX5_in, .initialized RX5, .code yX5_in cX5_in 6 (some .boolean), .methodLink RX5 127 yX5_refuse, .instanceMethod yX5_refuse, .selects RX5 yX5_refuse yX5_refuse, .code yX5_refuse cX5_refuse 1 (some .int)] ++ wsX50)
def wsX5_part_r1 : List Cond := [Cond.fieldLink RX5 64 "StraightPagesModel" "thrown" "I", Cond.fieldLink RX5 9 "StraightPagesModel" "wide" "[I", Cond.fieldLink RX5 68 "StraightPagesModel" "pages" "I", Cond.methodLink RX5 235 Lib.Math.abs.name, Cond.static Lib.Math.abs.name, Cond.initialized "java/lang/Math", Cond.code Lib.Math.abs.name Lib.Math.abs.code 1 (some .int), Cond.fieldLink RX5 33 "StraightPagesModel" "changeMade" "[I", Cond.fieldLink RX5 85 "StraightPagesModel" "newest" "I", Cond.fieldLink RX5 13 "StraightPagesModel" "high" "[I", Cond.methodLink RX5 81 yX5_isPage, Cond.instanceMethod yX5_isPage, Cond.selects RX5 yX5_isPage yX5_isPage, Cond.initialized RX5, Cond.code yX5_isPage cX5_isPage 2 (some .boolean), Cond.methodLink RX5 71 yX5_in, Cond.static yX5_in, Cond.code yX5_in cX5_in 6 (some .boolean), Cond.methodLink RX5 140 yX5_columnInk, Cond.instanceMethod yX5_columnInk, Cond.selects RX5 yX5_columnInk yX5_columnInk, Cond.code yX5_columnInk cX5_columnInk 5 (some .int), Cond.methodLink RX5 109 yX5_has, Cond.instanceMethod yX5_has]
def wsX5_part_r2 : List Cond := [Cond.selects RX5 yX5_has yX5_has, Cond.code yX5_has cX5_has 4 (some .boolean), Cond.fieldLink RX5 17 "StraightPagesModel" "ink" "[Z", Cond.methodLink RX5 101 yX5_changing, Cond.instanceMethod yX5_changing, Cond.selects RX5 yX5_changing yX5_changing, Cond.code yX5_changing cX5_changing 3 none, Cond.fieldLink RX5 88 "StraightPagesModel" "changes" "I", Cond.methodLink RX5 91 Lib.Math.min.name, Cond.static Lib.Math.min.name, Cond.code Lib.Math.min.name Lib.Math.min.code 2 (some .int), Cond.fieldLink RX5 24 "StraightPagesModel" "changePage" "[I", Cond.fieldLink RX5 27 "StraightPagesModel" "changeWide" "[I", Cond.fieldLink RX5 30 "StraightPagesModel" "changeHigh" "[I", Cond.fieldLink RX5 37 "StraightPagesModel" "changeInk" "[Z", Cond.methodLink RX5 77 yX5_clears, Cond.instanceMethod yX5_clears, Cond.selects RX5 yX5_clears yX5_clears, Cond.code yX5_clears cX5_clears 5 none, Cond.methodLink RX5 105 yX5_inks, Cond.instanceMethod yX5_inks, Cond.selects RX5 yX5_inks yX5_inks, Cond.code yX5_inks cX5_inks 5 none]
def wsX5_part : List Cond := .code yX5_part cX5_part 9 (some .int) :: ((wsX5_part_r1 ++ wsX5_part_r2) ++ wsX50)
def wsJ9_abs_0f7a4 : List Cond := .code yJ9_abs_0f7a4 cJ9_abs_0f7a4 1 (some .int) :: ([])
def wsJ9_max_7cf53 : List Cond := .code yJ9_max_7cf53 cJ9_max_7cf53 2 (some .int) :: ([])
def wsJ9_min_7cf53 : List Cond := .code yJ9_min_7cf53 cJ9_min_7cf53 2 (some .int) :: ([])
def wsL_row : List Cond := .codeWith yL_row cL_row 5 (some .int) [(0, 9, 12, 13)] :: ([.classLink RL 13 "java/util/NoSuchElementException", .methodLink RL 7 yX4_row, .instanceMethod yX4_row, .selects RX4 yX4_row yX4_row, .initialized RX4, .code yX4_row cX4_row 4 (some .long), .classLink RX4 110 "java/util/NoSuchElementException", .initialized "java/util/NoSuchElementException", .fieldLink RX4 74 "StraightPages$Sheet" "rows" "[J", .methodLink RX4 58 yX4_find, .instanceMethod yX4_find, .selects RX4 yX4_find yX4_find, .code yX4_find cX4_find 2 (some (.object "StraightPages$Sheet")), .fieldLink RX4 18 "StraightPages" "sheetCount" "I", .fieldLink RX4 11 "StraightPages" "sheets" "[LStraightPages$Sheet;", .methodLink RX4 50 yX4_within, .static yX4_within, .code yX4_within cX4_within 3 (some .boolean), .methodLink RX4 80 yX2_hasRow, .instanceMethod yX2_hasRow, .selects RX2 yX2_hasRow yX2_hasRow, .initialized RX2, .code yX2_hasRow cX2_hasRow 2 (some .boolean), .fieldLink RX2 15 "StraightPages$Sheet" "high" "I"] ++ wsX20 ++ wsX40 ++ (nsAt RX4 114).filter goodWord)
def wsL_listed_r1 : List Cond := [Cond.classLink RL 13 "java/util/NoSuchElementException", Cond.methodLink RL 15 yX4_listed, Cond.instanceMethod yX4_listed, Cond.selects RX4 yX4_listed yX4_listed, Cond.initialized RX4, Cond.code yX4_listed cX4_listed 5 (some .int), Cond.classLink RX4 110 "java/util/NoSuchElementException", Cond.initialized "java/util/NoSuchElementException", Cond.fieldLink RX4 36 "StraightPages" "list" "LStraightPages$Sheet;", Cond.fieldLink RX4 97 "StraightPages$Sheet" "high" "I", Cond.fieldLink RX4 74 "StraightPages$Sheet" "rows" "[J", Cond.methodLink RX4 50 yX4_within, Cond.static yX4_within, Cond.code yX4_within cX4_within 3 (some .boolean), Cond.methodLink RX4 120 yX2_ink, Cond.instanceMethod yX2_ink, Cond.selects RX2 yX2_ink yX2_ink, Cond.initialized RX2, Cond.code yX2_ink cX2_ink 3 (some .int), Cond.fieldLink RX2 15 "StraightPages$Sheet" "high" "I", Cond.fieldLink RX2 18 "StraightPages$Sheet" "rows" "[J", Cond.methodLink RX2 48 yJ13_bitCount_95d88, Cond.static yJ13_bitCount_95d88, Cond.initialized RJ13]
def wsL_listed_r2 : List Cond := [Cond.code yJ13_bitCount_95d88 cJ13_bitCount_95d88 2 (some .int), Cond.constantLong RJ13 314 (6148914691236517205), Cond.constantLong RJ13 316 (3689348814741910323), Cond.constantLong RJ13 318 (1085102592571150095), Cond.methodLink RX4 88 yJ13_bitCount_95d88, Cond.methodLink RX4 197 yX4_bitAfter, Cond.static yX4_bitAfter, Cond.code yX4_bitAfter cX4_bitAfter 6 (some .int), Cond.methodLink RX4 205 yX4_lowestBit, Cond.static yX4_lowestBit, Cond.code yX4_lowestBit cX4_lowestBit 2 (some .int)]
def wsL_listed : List Cond := .codeWith yL_listed cL_listed 5 (some .int) [(0, 10, 13, 13)] :: ((wsL_listed_r1 ++ wsL_listed_r2) ++ wsX40 ++ wsX20 ++ (nsAt RX4 114).filter goodWord)
def wsL_told : List Cond := .codeWith yL_told cL_told 4 (some .int) [(0, 9, 12, 13)] :: ([.classLink RL 13 "java/util/NoSuchElementException", .methodLink RL 19 yX4_told, .instanceMethod yX4_told, .selects RX4 yX4_told yX4_told, .initialized RX4, .code yX4_told cX4_told 2 (some .int), .classLink RX4 110 "java/util/NoSuchElementException", .initialized "java/util/NoSuchElementException", .fieldLink RX4 47 "StraightPages" "numberCount" "I", .fieldLink RX4 43 "StraightPages" "numbers" "[I", .methodLink RX4 50 yX4_within, .static yX4_within, .code yX4_within cX4_within 3 (some .boolean)] ++ wsX40 ++ (nsAt RX4 114).filter goodWord)
def wsL_law0_r1 : List Cond := [Cond.classLink RL 8 RX4, Cond.instantiable RX4 8, Cond.initialized RX4, Cond.classLink RL 24 RX5, Cond.instantiable RX5 24, Cond.initialized RX5, Cond.arrayClass .long, Cond.constantLong RL 40 (4294967295), Cond.methodLink RL 23 yX4_init, Cond.instanceMethod yX4_init, Cond.code yX4_init cX4_init 2 none, Cond.methodLink RX4 1 objectInit, Cond.instanceMethod objectInit, Cond.code objectInit ⟨#[0xb1]⟩ 1 none, Cond.classLink RX4 9 RX2, Cond.fieldLink RX4 11 "StraightPages" "sheets" "[LStraightPages$Sheet;", Cond.instantiable RX2 3, Cond.initialized RX2, Cond.fieldLink RX4 18 "StraightPages" "sheetCount" "I", Cond.classLink RX4 22 RX1, Cond.instantiable RX1 3, Cond.initialized RX1, Cond.fieldLink RX4 25 "StraightPages" "history" "LStraightPages$History;", Cond.classLink RX4 29 RX3]
def wsL_law0_r2 : List Cond := [Cond.instantiable RX3 10, Cond.initialized RX3, Cond.fieldLink RX4 32 "StraightPages" "spots" "LStraightPages$Spots;", Cond.fieldLink RX4 36 "StraightPages" "list" "LStraightPages$Sheet;", Cond.fieldLink RX4 40 "StraightPages" "bench" "LStraightPages$Sheet;", Cond.arrayClass .int, Cond.fieldLink RX4 43 "StraightPages" "numbers" "[I", Cond.fieldLink RX4 47 "StraightPages" "numberCount" "I", Cond.methodLink RX4 15 yX2_init, Cond.instanceMethod yX2_init, Cond.code yX2_init cX2_init 2 none, Cond.methodLink RX2 3 objectInit, Cond.fieldLink RX2 9 "StraightPages$Sheet" "wide" "I", Cond.fieldLink RX2 15 "StraightPages$Sheet" "high" "I", Cond.fieldLink RX2 18 "StraightPages$Sheet" "rows" "[J", Cond.methodLink RX4 24 yX1_init, Cond.instanceMethod yX1_init, Cond.code yX1_init cX1_init 2 none, Cond.methodLink RX1 3 objectInit, Cond.classLink RX1 9 RX0, Cond.fieldLink RX1 11 "StraightPages$History" "ring" "[LStraightPages$Change;", Cond.instantiable RX0 3, Cond.initialized RX0, Cond.fieldLink RX1 18 "StraightPages$History" "next" "I"]
def wsL_law0_r3 : List Cond := [Cond.fieldLink RX1 22 "StraightPages$History" "kept" "I", Cond.methodLink RX1 17 yX0_init, Cond.instanceMethod yX0_init, Cond.code yX0_init cX0_init 1 none, Cond.methodLink RX0 3 objectInit, Cond.fieldLink RX0 9 "StraightPages$Change" "page" "I", Cond.fieldLink RX0 15 "StraightPages$Change" "made" "I", Cond.classLink RX0 18 RX2, Cond.fieldLink RX0 23 "StraightPages$Change" "before" "LStraightPages$Sheet;", Cond.methodLink RX0 20 yX2_init, Cond.methodLink RX4 31 yX3_init, Cond.instanceMethod yX3_init, Cond.code yX3_init cX3_init 1 none, Cond.methodLink RX3 3 objectInit, Cond.classLink RX3 9 RX2, Cond.fieldLink RX3 14 "StraightPages$Spots" "specks" "LStraightPages$Sheet;", Cond.fieldLink RX3 20 "StraightPages$Spots" "left" "LStraightPages$Sheet;", Cond.fieldLink RX3 23 "StraightPages$Spots" "spot" "LStraightPages$Sheet;", Cond.fieldLink RX3 26 "StraightPages$Spots" "near" "LStraightPages$Sheet;", Cond.fieldLink RX3 29 "StraightPages$Spots" "waiting" "[J", Cond.fieldLink RX3 33 "StraightPages$Spots" "waitingRows" "J", Cond.fieldLink RX3 37 "StraightPages$Spots" "points" "I", Cond.fieldLink RX3 41 "StraightPages$Spots" "top" "I", Cond.fieldLink RX3 44 "StraightPages$Spots" "bottom" "I"]
def wsL_law0_r4 : List Cond := [Cond.fieldLink RX3 47 "StraightPages$Spots" "firstLeft" "I", Cond.methodLink RX3 11 yX2_init, Cond.methodLink RL 26 yX5_init, Cond.instanceMethod yX5_init, Cond.code yX5_init cX5_init 1 none, Cond.methodLink RX5 3 objectInit, Cond.fieldLink RX5 9 "StraightPagesModel" "wide" "[I", Cond.fieldLink RX5 13 "StraightPagesModel" "high" "[I", Cond.constant RX5 16 (32768), Cond.arrayClass .boolean, Cond.fieldLink RX5 17 "StraightPagesModel" "ink" "[Z", Cond.fieldLink RX5 21 "StraightPagesModel" "made" "[Z", Cond.fieldLink RX5 24 "StraightPagesModel" "changePage" "[I", Cond.fieldLink RX5 27 "StraightPagesModel" "changeWide" "[I", Cond.fieldLink RX5 30 "StraightPagesModel" "changeHigh" "[I", Cond.fieldLink RX5 33 "StraightPagesModel" "changeMade" "[I", Cond.constant RX5 36 (40960), Cond.fieldLink RX5 37 "StraightPagesModel" "changeInk" "[Z", Cond.fieldLink RX5 40 "StraightPagesModel" "spot" "[I", Cond.fieldLink RX5 43 "StraightPagesModel" "spotSize" "[I", Cond.fieldLink RX5 46 "StraightPagesModel" "queue" "[I", Cond.fieldLink RX5 49 "StraightPagesModel" "sums" "[I", Cond.fieldLink RX5 52 "StraightPagesModel" "isSpeck" "[Z", Cond.fieldLink RX5 55 "StraightPagesModel" "listX" "[I"]
def wsL_law0_r5 : List Cond := [Cond.fieldLink RX5 58 "StraightPagesModel" "listY" "[I", Cond.fieldLink RX5 61 "StraightPagesModel" "row" "[I", Cond.methodLink RL 27 yX4_page, Cond.instanceMethod yX4_page, Cond.selects RX4 yX4_page yX4_page, Cond.code yX4_page cX4_page 3 (some .int), Cond.methodLink RX4 50 yX4_within, Cond.static yX4_within, Cond.code yX4_within cX4_within 3 (some .boolean), Cond.methodLink RX4 54 yX2_empty, Cond.instanceMethod yX2_empty, Cond.selects RX2 yX2_empty yX2_empty, Cond.code yX2_empty cX2_empty 3 none, Cond.methodLink RX2 22 yJ7_fill_d0a16, Cond.static yJ7_fill_d0a16, Cond.initialized RJ7, Cond.code yJ7_fill_d0a16 cJ7_fill_d0a16 5 none, Cond.methodLink RL 30 yX5_page, Cond.instanceMethod yX5_page, Cond.selects RX5 yX5_page yX5_page, Cond.code yX5_page cX5_page 3 (some .int), Cond.fieldLink RX5 64 "StraightPagesModel" "thrown" "I", Cond.constantLong RX5 75 (64), Cond.fieldLink RX5 68 "StraightPagesModel" "pages" "I"]
def wsL_law0_r6 : List Cond := [Cond.methodLink RX5 71 yX5_in, Cond.static yX5_in, Cond.code yX5_in cX5_in 6 (some .boolean), Cond.methodLink RX5 77 yX5_clears, Cond.instanceMethod yX5_clears, Cond.selects RX5 yX5_clears yX5_clears, Cond.code yX5_clears cX5_clears 5 none, Cond.methodLink RL 31 yX4_copy, Cond.instanceMethod yX4_copy, Cond.selects RX4 yX4_copy yX4_copy, Cond.code yX4_copy cX4_copy 3 (some .int), Cond.methodLink RX4 58 yX4_find, Cond.instanceMethod yX4_find, Cond.selects RX4 yX4_find yX4_find, Cond.code yX4_find cX4_find 2 (some (.object "StraightPages$Sheet")), Cond.methodLink RX4 62 yX2_become, Cond.instanceMethod yX2_become, Cond.selects RX2 yX2_become yX2_become, Cond.code yX2_become cX2_become 2 none, Cond.methodLink RX2 32 arraycopyName, Cond.native arraycopyName, Cond.static arraycopyName, Cond.initialized "java/lang/System", Cond.methodLink RX2 28 yX2_empty]
def wsL_law0_r7 : List Cond := [Cond.methodLink RL 34 yX5_copy, Cond.instanceMethod yX5_copy, Cond.selects RX5 yX5_copy yX5_copy, Cond.code yX5_copy cX5_copy 3 (some .int), Cond.methodLink RX5 81 yX5_isPage, Cond.instanceMethod yX5_isPage, Cond.selects RX5 yX5_isPage yX5_isPage, Cond.code yX5_isPage cX5_isPage 2 (some .boolean), Cond.methodLink RL 35 yX4_set, Cond.instanceMethod yX4_set, Cond.selects RX4 yX4_set yX4_set, Cond.code yX4_set cX4_set 8 (some .boolean), Cond.fieldLink RX4 74 "StraightPages$Sheet" "rows" "[J", Cond.constantLong RX4 78 (-1), Cond.methodLink RX4 66 yX2_hasPoint, Cond.instanceMethod yX2_hasPoint, Cond.selects RX2 yX2_hasPoint yX2_hasPoint, Cond.code yX2_hasPoint cX2_hasPoint 3 (some .boolean), Cond.methodLink RX2 42 yX2_hasRow, Cond.instanceMethod yX2_hasRow, Cond.selects RX2 yX2_hasRow yX2_hasRow, Cond.code yX2_hasRow cX2_hasRow 2 (some .boolean), Cond.methodLink RX4 70 yX1_remember, Cond.instanceMethod yX1_remember]
def wsL_law0_r8 : List Cond := [Cond.selects RX1 yX1_remember yX1_remember, Cond.code yX1_remember cX1_remember 5 none, Cond.fieldLink RX1 25 "StraightPages$Change" "page" "I", Cond.fieldLink RX1 28 "StraightPages$Change" "made" "I", Cond.fieldLink RX1 31 "StraightPages$Change" "before" "LStraightPages$Sheet;", Cond.methodLink RX1 41 Lib.Math.min.name, Cond.static Lib.Math.min.name, Cond.initialized "java/lang/Math", Cond.code Lib.Math.min.name Lib.Math.min.code 2 (some .int), Cond.methodLink RX1 35 yX2_become, Cond.methodLink RL 39 yX5_set, Cond.instanceMethod yX5_set, Cond.selects RX5 yX5_set yX5_set, Cond.code yX5_set cX5_set 5 (some .boolean), Cond.methodLink RX5 97 yX5_isPoint, Cond.instanceMethod yX5_isPoint, Cond.selects RX5 yX5_isPoint yX5_isPoint, Cond.code yX5_isPoint cX5_isPoint 4 (some .boolean), Cond.methodLink RX5 101 yX5_changing, Cond.instanceMethod yX5_changing, Cond.selects RX5 yX5_changing yX5_changing, Cond.code yX5_changing cX5_changing 3 none, Cond.fieldLink RX5 85 "StraightPagesModel" "newest" "I", Cond.fieldLink RX5 88 "StraightPagesModel" "changes" "I"]
def wsL_law0_r9 : List Cond := [Cond.methodLink RX5 91 Lib.Math.min.name, Cond.methodLink RX5 105 yX5_inks, Cond.instanceMethod yX5_inks, Cond.selects RX5 yX5_inks yX5_inks, Cond.code yX5_inks cX5_inks 5 none, Cond.methodLink RL 42 yX4_line, Cond.instanceMethod yX4_line, Cond.selects RX4 yX4_line yX4_line, Cond.code yX4_line cX4_line 6 (some .int), Cond.methodLink RX4 80 yX2_hasRow, Cond.methodLink RX4 84 yX2_allColumns, Cond.instanceMethod yX2_allColumns, Cond.selects RX2 yX2_allColumns yX2_allColumns, Cond.code yX2_allColumns cX2_allColumns 1 (some .long), Cond.constantLong RX2 46 (-1), Cond.methodLink RX4 88 yJ13_bitCount_95d88, Cond.static yJ13_bitCount_95d88, Cond.initialized RJ13, Cond.code yJ13_bitCount_95d88 cJ13_bitCount_95d88 2 (some .int), Cond.constantLong RJ13 314 (6148914691236517205), Cond.constantLong RJ13 316 (3689348814741910323), Cond.constantLong RJ13 318 (1085102592571150095), Cond.methodLink RL 46 yX5_line, Cond.instanceMethod yX5_line]
def wsL_law0_r10 : List Cond := [Cond.selects RX5 yX5_line yX5_line, Cond.code yX5_line cX5_line 5 (some .int), Cond.methodLink RX5 112 yX5_lays, Cond.instanceMethod yX5_lays, Cond.selects RX5 yX5_lays yX5_lays, Cond.code yX5_lays cX5_lays 6 none, Cond.methodLink RX5 116 yX5_rowInk, Cond.instanceMethod yX5_rowInk, Cond.selects RX5 yX5_rowInk yX5_rowInk, Cond.code yX5_rowInk cX5_rowInk 5 (some .int), Cond.methodLink RX5 109 yX5_has, Cond.instanceMethod yX5_has, Cond.selects RX5 yX5_has yX5_has, Cond.code yX5_has cX5_has 4 (some .boolean), Cond.methodLink RL 47 yX4_lay, Cond.instanceMethod yX4_lay, Cond.selects RX4 yX4_lay yX4_lay, Cond.code yX4_lay cX4_lay 14 (some .int), Cond.fieldLink RX4 97 "StraightPages$Sheet" "high" "I", Cond.methodLink RX4 100 Lib.Math.min.name, Cond.methodLink RX4 94 yX1_forget, Cond.instanceMethod yX1_forget, Cond.selects RX1 yX1_forget yX1_forget, Cond.code yX1_forget cX1_forget 1 none]
def wsL_law0_r11 : List Cond := [Cond.methodLink RX4 106 yX4_entryBits, Cond.static yX4_entryBits, Cond.code yX4_entryBits cX4_entryBits 1 (some .long), Cond.constantLong RX4 238 (255), Cond.constantLong RX4 240 (65535), Cond.constantLong RX4 242 (4294967295), Cond.methodLink RL 51 yX5_lay, Cond.instanceMethod yX5_lay, Cond.selects RX5 yX5_lay yX5_lay, Cond.code yX5_lay cX5_lay 13 (some .int), Cond.constantLong RX5 119 (4), Cond.constantLong RX5 121 (255), Cond.constantLong RX5 123 (65535), Cond.constantLong RX5 125 (4294967295), Cond.methodLink RL 52 yX4_at, Cond.instanceMethod yX4_at, Cond.selects RX4 yX4_at yX4_at, Cond.code yX4_at cX4_at 5 (some .int), Cond.methodLink RL 56 yX5_at, Cond.instanceMethod yX5_at, Cond.selects RX5 yX5_at yX5_at, Cond.code yX5_at cX5_at 4 (some .int), Cond.methodLink RL 57 yL_row, Cond.static yL_row]
def wsL_law0_r12 : List Cond := [Cond.initialized RL, Cond.codeWith yL_row cL_row 5 (some .int) [(0, 9, 12, 13)], Cond.classLink RL 13 "java/util/NoSuchElementException", Cond.methodLink RL 7 yX4_row, Cond.instanceMethod yX4_row, Cond.selects RX4 yX4_row yX4_row, Cond.code yX4_row cX4_row 4 (some .long), Cond.classLink RX4 110 "java/util/NoSuchElementException", Cond.initialized "java/util/NoSuchElementException", Cond.methodLink RL 62 yX5_row, Cond.instanceMethod yX5_row, Cond.selects RX5 yX5_row yX5_row, Cond.code yX5_row cX5_row 6 (some .long), Cond.methodLink RX5 127 yX5_refuse, Cond.instanceMethod yX5_refuse, Cond.selects RX5 yX5_refuse yX5_refuse, Cond.code yX5_refuse cX5_refuse 1 (some .int), Cond.methodLink RL 63 yX5_thrown, Cond.instanceMethod yX5_thrown, Cond.selects RX5 yX5_thrown yX5_thrown, Cond.code yX5_thrown cX5_thrown 1 (some .int), Cond.methodLink RL 67 yX4_of, Cond.instanceMethod yX4_of, Cond.selects RX4 yX4_of yX4_of]
def wsL_law0_r13 : List Cond := [Cond.code yX4_of cX4_of 4 (some .int), Cond.fieldLink RX4 117 "StraightPages$Sheet" "wide" "I", Cond.methodLink RX4 120 yX2_ink, Cond.instanceMethod yX2_ink, Cond.selects RX2 yX2_ink yX2_ink, Cond.code yX2_ink cX2_ink 3 (some .int), Cond.methodLink RX2 48 yJ13_bitCount_95d88, Cond.methodLink RX4 124 yX2_inkedRows, Cond.instanceMethod yX2_inkedRows, Cond.selects RX2 yX2_inkedRows yX2_inkedRows, Cond.code yX2_inkedRows cX2_inkedRows 4 (some .long), Cond.methodLink RX4 127 yX2_inkedColumns, Cond.instanceMethod yX2_inkedColumns, Cond.selects RX2 yX2_inkedColumns yX2_inkedColumns, Cond.code yX2_inkedColumns cX2_inkedColumns 4 (some .long), Cond.methodLink RX4 130 yX3_number, Cond.instanceMethod yX3_number, Cond.selects RX3 yX3_number yX3_number, Cond.code yX3_number cX3_number 3 (some .int), Cond.methodLink RX3 50 yX3_begin, Cond.instanceMethod yX3_begin, Cond.selects RX3 yX3_begin yX3_begin, Cond.code yX3_begin cX3_begin 2 none, Cond.fieldLink RX3 68 "StraightPages$Sheet" "wide" "I"]
def wsL_law0_r14 : List Cond := [Cond.fieldLink RX3 71 "StraightPages$Sheet" "high" "I", Cond.methodLink RX3 98 yX2_become, Cond.methodLink RX3 74 yX2_empty, Cond.methodLink RX3 54 yX3_next, Cond.instanceMethod yX3_next, Cond.selects RX3 yX3_next yX3_next, Cond.code yX3_next cX3_next 2 (some .boolean), Cond.fieldLink RX3 87 "StraightPages$Sheet" "rows" "[J", Cond.methodLink RX3 101 yX3_clearSpot, Cond.instanceMethod yX3_clearSpot, Cond.selects RX3 yX3_clearSpot yX3_clearSpot, Cond.code yX3_clearSpot cX3_clearSpot 2 none, Cond.methodLink RX3 104 yX3_admit, Cond.instanceMethod yX3_admit, Cond.selects RX3 yX3_admit yX3_admit, Cond.code yX3_admit cX3_admit 6 none, Cond.constantLong RX3 115 (-1), Cond.methodLink RX3 130 Lib.Math.min.name, Cond.methodLink RX3 58 Lib.Math.max.name, Cond.static Lib.Math.max.name, Cond.code Lib.Math.max.name Lib.Math.max.code 2 (some .int), Cond.methodLink RX3 117 yX2_hasRow, Cond.methodLink RX3 121 yX3_runsAt, Cond.static yX3_runsAt]
def wsL_law0_r15 : List Cond := [Cond.code yX3_runsAt cX3_runsAt 13 (some .long), Cond.methodLink RX3 125 yJ13_bitCount_95d88, Cond.static yX4_lowestBit, Cond.code yX4_lowestBit cX4_lowestBit 2 (some .int), Cond.methodLink RX3 112 yX3_growFrom, Cond.instanceMethod yX3_growFrom, Cond.selects RX3 yX3_growFrom yX3_growFrom, Cond.code yX3_growFrom cX3_growFrom 4 none, Cond.methodLink RX3 90 yX3_widened, Cond.static yX3_widened, Cond.code yX3_widened cX3_widened 2 (some .long), Cond.methodLink RX4 134 yX3_largest, Cond.instanceMethod yX3_largest, Cond.selects RX3 yX3_largest yX3_largest, Cond.code yX3_largest cX3_largest 4 (some .int), Cond.methodLink RL 70 yX5_of, Cond.instanceMethod yX5_of, Cond.selects RX5 yX5_of yX5_of, Cond.code yX5_of cX5_of 8 (some .int), Cond.constantLong RX5 138 (6), Cond.fieldLink RX5 131 "StraightPagesModel" "spots" "I", Cond.methodLink RX5 146 Lib.Math.max.name, Cond.methodLink RX5 140 yX5_columnInk, Cond.instanceMethod yX5_columnInk]
def wsL_law0_r16 : List Cond := [Cond.selects RX5 yX5_columnInk yX5_columnInk, Cond.code yX5_columnInk cX5_columnInk 5 (some .int), Cond.methodLink RX5 143 yX5_findsSpots, Cond.instanceMethod yX5_findsSpots, Cond.selects RX5 yX5_findsSpots yX5_findsSpots, Cond.code yX5_findsSpots cX5_findsSpots 4 none, Cond.methodLink RX5 134 yX5_spreads, Cond.instanceMethod yX5_spreads, Cond.selects RX5 yX5_spreads yX5_spreads, Cond.code yX5_spreads cX5_spreads 11 (some .int), Cond.methodLink RL 71 yX4_count, Cond.instanceMethod yX4_count, Cond.selects RX4 yX4_count yX4_count, Cond.code yX4_count cX4_count 2 (some .int), Cond.fieldLink RX4 137 "StraightPages$History" "kept" "I", Cond.methodLink RL 74 yX5_count, Cond.instanceMethod yX5_count, Cond.selects RX5 yX5_count yX5_count, Cond.code yX5_count cX5_count 2 (some .int), Cond.fieldLink RX5 149 "StraightPagesModel" "listed" "I", Cond.fieldLink RX5 152 "StraightPagesModel" "rows" "I", Cond.methodLink RL 75 yX4_unlike, Cond.instanceMethod yX4_unlike, Cond.selects RX4 yX4_unlike yX4_unlike]
def wsL_law0_r17 : List Cond := [Cond.code yX4_unlike cX4_unlike 6 (some .int), Cond.methodLink RL 78 yX5_unlike, Cond.instanceMethod yX5_unlike, Cond.selects RX5 yX5_unlike yX5_unlike, Cond.code yX5_unlike cX5_unlike 5 (some .int), Cond.methodLink RL 79 yX4_across, Cond.instanceMethod yX4_across, Cond.selects RX4 yX4_across yX4_across, Cond.code yX4_across cX4_across 4 (some .int), Cond.methodLink RX4 140 yX4_isShear, Cond.static yX4_isShear, Cond.code yX4_isShear cX4_isShear 1 (some .boolean), Cond.methodLink RX4 143 yX4_spread, Cond.static yX4_spread, Cond.code yX4_spread cX4_spread 2 (some .int), Cond.methodLink RX4 253 Lib.Math.abs.name, Cond.static Lib.Math.abs.name, Cond.code Lib.Math.abs.name Lib.Math.abs.code 1 (some .int), Cond.methodLink RX4 250 yX4_slide, Cond.static yX4_slide, Cond.code yX4_slide cX4_slide 2 (some .int), Cond.methodLink RX4 247 yJ9_floorDiv_7cf53, Cond.static yJ9_floorDiv_7cf53, Cond.initialized RJ9]
def wsL_law0_r18 : List Cond := [Cond.code yJ9_floorDiv_7cf53 cJ9_floorDiv_7cf53 3 (some .int), Cond.methodLink RX4 146 yX2_shearAcross, Cond.instanceMethod yX2_shearAcross, Cond.selects RX2 yX2_shearAcross yX2_shearAcross, Cond.code yX2_shearAcross cX2_shearAcross 4 none, Cond.static yX4_leastSlide, Cond.code yX4_leastSlide cX4_leastSlide 2 (some .int), Cond.methodLink RL 82 yX5_across, Cond.instanceMethod yX5_across, Cond.selects RX5 yX5_across yX5_across, Cond.code yX5_across cX5_across 4 (some .int), Cond.methodLink RX5 174 yX5_isShear, Cond.static yX5_isShear, Cond.code yX5_isShear cX5_isShear 1 (some .boolean), Cond.constantLong RX5 161 (-16), Cond.constantLong RX5 163 (16), Cond.methodLink RX5 165 yX5_most, Cond.static yX5_most, Cond.code yX5_most cX5_most 4 (some .int), Cond.methodLink RX5 155 yJ9_floorDiv_7cf53, Cond.methodLink RX5 158 yX5_least, Cond.static yX5_least, Cond.code yX5_least cX5_least 4 (some .int), Cond.methodLink RX5 177 yX5_goesAcross]
def wsL_law0_r19 : List Cond := [Cond.instanceMethod yX5_goesAcross, Cond.selects RX5 yX5_goesAcross yX5_goesAcross, Cond.code yX5_goesAcross cX5_goesAcross 7 (some .boolean), Cond.methodLink RX5 168 yX5_blank, Cond.instanceMethod yX5_blank, Cond.selects RX5 yX5_blank yX5_blank, Cond.code yX5_blank cX5_blank 2 none, Cond.methodLink RX5 171 yX5_becomes, Cond.instanceMethod yX5_becomes, Cond.selects RX5 yX5_becomes yX5_becomes, Cond.code yX5_becomes cX5_becomes 5 none, Cond.methodLink RL 83 yX4_upright, Cond.instanceMethod yX4_upright, Cond.selects RX4 yX4_upright yX4_upright, Cond.code yX4_upright cX4_upright 4 (some .int), Cond.methodLink RX4 149 yX4_shearUp, Cond.instanceMethod yX4_shearUp, Cond.selects RX4 yX4_shearUp yX4_shearUp, Cond.code yX4_shearUp cX4_shearUp 3 none, Cond.methodLink RX4 244 yX2_becomeShearedUp, Cond.instanceMethod yX2_becomeShearedUp, Cond.selects RX2 yX2_becomeShearedUp yX2_becomeShearedUp, Cond.code yX2_becomeShearedUp cX2_becomeShearedUp 7 none, Cond.methodLink RX2 72 yX2_addDropped]
def wsL_law0_r20 : List Cond := [Cond.instanceMethod yX2_addDropped, Cond.selects RX2 yX2_addDropped yX2_addDropped, Cond.code yX2_addDropped cX2_addDropped 6 none, Cond.methodLink RL 86 yX5_upright, Cond.instanceMethod yX5_upright, Cond.selects RX5 yX5_upright yX5_upright, Cond.code yX5_upright cX5_upright 4 (some .int), Cond.methodLink RX5 181 yX5_goesUp, Cond.instanceMethod yX5_goesUp, Cond.selects RX5 yX5_goesUp yX5_goesUp, Cond.code yX5_goesUp cX5_goesUp 7 (some .boolean), Cond.methodLink RL 87 yX4_turn, Cond.instanceMethod yX4_turn, Cond.selects RX4 yX4_turn yX4_turn, Cond.code yX4_turn cX4_turn 5 (some .boolean), Cond.methodLink RX4 153 yX4_canTurn, Cond.static yX4_canTurn, Cond.code yX4_canTurn cX4_canTurn 5 (some .boolean), Cond.methodLink RL 91 yX5_turn, Cond.instanceMethod yX5_turn, Cond.selects RX5 yX5_turn yX5_turn, Cond.code yX5_turn cX5_turn 6 (some .boolean), Cond.methodLink RL 92 yX4_sharp, Cond.instanceMethod yX4_sharp]
def wsL_law0_r21 : List Cond := [Cond.selects RX4 yX4_sharp yX4_sharp, Cond.code yX4_sharp cX4_sharp 4 (some .int), Cond.methodLink RX4 157 yX4_sharpness, Cond.instanceMethod yX4_sharpness, Cond.selects RX4 yX4_sharpness yX4_sharpness, Cond.code yX4_sharpness cX4_sharpness 6 (some .int), Cond.methodLink RL 95 yX5_sharp, Cond.instanceMethod yX5_sharp, Cond.selects RX5 yX5_sharp yX5_sharp, Cond.code yX5_sharp cX5_sharp 3 (some .int), Cond.constantLong RX5 184 (-12), Cond.constantLong RX5 186 (12), Cond.methodLink RX5 188 yX5_sharpness, Cond.instanceMethod yX5_sharpness, Cond.selects RX5 yX5_sharpness yX5_sharpness, Cond.code yX5_sharpness cX5_sharpness 6 (some .int), Cond.methodLink RL 96 yX4_angle, Cond.instanceMethod yX4_angle, Cond.selects RX4 yX4_angle yX4_angle, Cond.code yX4_angle cX4_angle 8 (some .int), Cond.methodLink RL 99 yX5_angle, Cond.instanceMethod yX5_angle, Cond.selects RX5 yX5_angle yX5_angle, Cond.code yX5_angle cX5_angle 8 (some .int)]
def wsL_law0_r22 : List Cond := [Cond.methodLink RL 100 yX4_bend, Cond.instanceMethod yX4_bend, Cond.selects RX4 yX4_bend yX4_bend, Cond.code yX4_bend cX4_bend 7 (some .int), Cond.methodLink RX4 161 yX4_highestBit, Cond.static yX4_highestBit, Cond.code yX4_highestBit cX4_highestBit 3 (some .int), Cond.methodLink RX4 164 yX2_steps, Cond.instanceMethod yX2_steps, Cond.selects RX2 yX2_steps yX2_steps, Cond.code yX2_steps cX2_steps 1 (some .int), Cond.methodLink RX4 167 yX2_footOf, Cond.instanceMethod yX2_footOf, Cond.selects RX2 yX2_footOf yX2_footOf, Cond.code yX2_footOf cX2_footOf 3 (some .int), Cond.static yX4_stepColumns, Cond.code yX4_stepColumns cX4_stepColumns 1 (some .long), Cond.methodLink RX4 171 yX4_stepColumns, Cond.methodLink RX4 174 yX2_addDropped, Cond.methodLink RL 103 yX5_bend, Cond.instanceMethod yX5_bend, Cond.selects RX5 yX5_bend yX5_bend, Cond.code yX5_bend cX5_bend 8 (some .int), Cond.methodLink RX5 191 yX5_steps]
def wsL_law0_r23 : List Cond := [Cond.instanceMethod yX5_steps, Cond.selects RX5 yX5_steps yX5_steps, Cond.code yX5_steps cX5_steps 2 (some .int), Cond.methodLink RX5 195 yX5_footOf, Cond.instanceMethod yX5_footOf, Cond.selects RX5 yX5_footOf yX5_footOf, Cond.code yX5_footOf cX5_footOf 5 (some .int), Cond.methodLink RL 104 yX4_foot, Cond.instanceMethod yX4_foot, Cond.selects RX4 yX4_foot yX4_foot, Cond.code yX4_foot cX4_foot 5 (some .int), Cond.methodLink RL 107 yX5_foot, Cond.instanceMethod yX5_foot, Cond.selects RX5 yX5_foot yX5_foot, Cond.code yX5_foot cX5_foot 3 (some .int), Cond.methodLink RL 108 yX4_specks, Cond.instanceMethod yX4_specks, Cond.selects RX4 yX4_specks yX4_specks, Cond.code yX4_specks cX4_specks 5 (some .int), Cond.methodLink RX4 178 yX4_isSpeckRule, Cond.static yX4_isSpeckRule, Cond.code yX4_isSpeckRule cX4_isSpeckRule 2 (some .boolean), Cond.methodLink RX4 181 yX3_findSpecks, Cond.instanceMethod yX3_findSpecks]
def wsL_law0_r24 : List Cond := [Cond.selects RX3 yX3_findSpecks yX3_findSpecks, Cond.code yX3_findSpecks cX3_findSpecks 6 (some .int), Cond.methodLink RX3 64 yX3_markNearLarge, Cond.instanceMethod yX3_markNearLarge, Cond.selects RX3 yX3_markNearLarge yX3_markNearLarge, Cond.code yX3_markNearLarge cX3_markNearLarge 5 none, Cond.methodLink RX3 81 yX3_addSpotTo, Cond.instanceMethod yX3_addSpotTo, Cond.selects RX3 yX3_addSpotTo yX3_addSpotTo, Cond.code yX3_addSpotTo cX3_addSpotTo 3 none, Cond.methodLink RX3 84 yX3_widenNear, Cond.instanceMethod yX3_widenNear, Cond.selects RX3 yX3_widenNear yX3_widenNear, Cond.code yX3_widenNear cX3_widenNear 8 none, Cond.methodLink RX3 94 yX2_allColumns, Cond.methodLink RX3 78 yX3_touchesNear, Cond.instanceMethod yX3_touchesNear, Cond.selects RX3 yX3_touchesNear yX3_touchesNear, Cond.code yX3_touchesNear cX3_touchesNear 3 (some .boolean), Cond.methodLink RL 111 yX5_specks, Cond.instanceMethod yX5_specks, Cond.selects RX5 yX5_specks yX5_specks, Cond.code yX5_specks cX5_specks 4 (some .int), Cond.methodLink RX5 206 yX5_areSpecks]
def wsL_law0_r25 : List Cond := [Cond.static yX5_areSpecks, Cond.code yX5_areSpecks cX5_areSpecks 2 (some .boolean), Cond.constantLong RX5 198 (100), Cond.constantLong RX5 200 (20), Cond.methodLink RX5 209 yX5_findsSpecks, Cond.instanceMethod yX5_findsSpecks, Cond.selects RX5 yX5_findsSpecks yX5_findsSpecks, Cond.code yX5_findsSpecks cX5_findsSpecks 7 (some .int), Cond.methodLink RX5 202 yX5_isNear, Cond.instanceMethod yX5_isNear, Cond.selects RX5 yX5_isNear yX5_isNear, Cond.code yX5_isNear cX5_isNear 9 (some .boolean), Cond.methodLink RL 112 yX4_take, Cond.instanceMethod yX4_take, Cond.selects RX4 yX4_take yX4_take, Cond.code yX4_take cX4_take 5 (some .int), Cond.fieldLink RX4 185 "StraightPages$Spots" "specks" "LStraightPages$Sheet;", Cond.methodLink RX4 188 yX4_takeListed, Cond.instanceMethod yX4_takeListed, Cond.selects RX4 yX4_takeListed yX4_takeListed, Cond.code yX4_takeListed cX4_takeListed 4 none, Cond.methodLink RL 115 yX5_take, Cond.instanceMethod yX5_take, Cond.selects RX5 yX5_take yX5_take]
def wsL_law0_r26 : List Cond := [Cond.code yX5_take cX5_take 8 (some .int), Cond.methodLink RX5 212 yX5_takes, Cond.instanceMethod yX5_takes, Cond.selects RX5 yX5_takes yX5_takes, Cond.code yX5_takes cX5_takes 4 none, Cond.methodLink RL 116 yX4_shadow, Cond.instanceMethod yX4_shadow, Cond.selects RX4 yX4_shadow yX4_shadow, Cond.code yX4_shadow cX4_shadow 6 (some .int), Cond.methodLink RX4 192 yX2_shadowColumns, Cond.instanceMethod yX2_shadowColumns, Cond.selects RX2 yX2_shadowColumns yX2_shadowColumns, Cond.code yX2_shadowColumns cX2_shadowColumns 5 (some .long), Cond.methodLink RX2 80 yX2_isDark, Cond.instanceMethod yX2_isDark, Cond.selects RX2 yX2_isDark yX2_isDark, Cond.code yX2_isDark cX2_isDark 3 (some .boolean), Cond.methodLink RX2 76 yX2_columnInk, Cond.instanceMethod yX2_columnInk, Cond.selects RX2 yX2_columnInk yX2_columnInk, Cond.code yX2_columnInk cX2_columnInk 4 (some .int), Cond.methodLink RX2 84 yX2_allColumns, Cond.methodLink RL 119 yX5_shadow, Cond.instanceMethod yX5_shadow]
def wsL_law0_r27 : List Cond := [Cond.selects RX5 yX5_shadow yX5_shadow, Cond.code yX5_shadow cX5_shadow 8 (some .int), Cond.methodLink RX5 215 yX5_isDark, Cond.instanceMethod yX5_isDark, Cond.selects RX5 yX5_isDark yX5_isDark, Cond.code yX5_isDark cX5_isDark 4 (some .boolean), Cond.methodLink RL 120 yL_listed, Cond.static yL_listed, Cond.codeWith yL_listed cL_listed 5 (some .int) [(0, 10, 13, 13)], Cond.methodLink RL 15 yX4_listed, Cond.instanceMethod yX4_listed, Cond.selects RX4 yX4_listed yX4_listed, Cond.code yX4_listed cX4_listed 5 (some .int), Cond.methodLink RX4 197 yX4_bitAfter, Cond.static yX4_bitAfter, Cond.code yX4_bitAfter cX4_bitAfter 6 (some .int), Cond.methodLink RX4 205 yX4_lowestBit, Cond.methodLink RL 122 yX5_listed, Cond.instanceMethod yX5_listed, Cond.selects RX5 yX5_listed yX5_listed, Cond.code yX5_listed cX5_listed 3 (some .int), Cond.methodLink RL 123 yX4_box, Cond.instanceMethod yX4_box, Cond.selects RX4 yX4_box yX4_box]
def wsL_law0_r28 : List Cond := [Cond.code yX4_box cX4_box 4 (some .int), Cond.methodLink RX4 201 yX2_hasInk, Cond.instanceMethod yX2_hasInk, Cond.selects RX2 yX2_hasInk yX2_hasInk, Cond.code yX2_hasInk cX2_hasInk 1 (some .boolean), Cond.methodLink RX2 54 yX2_inkedColumns, Cond.methodLink RL 126 yX5_box, Cond.instanceMethod yX5_box, Cond.selects RX5 yX5_box yX5_box, Cond.code yX5_box cX5_box 3 (some .int), Cond.constantLong RX5 224 (3), Cond.methodLink RX5 221 yX5_hasInk, Cond.instanceMethod yX5_hasInk, Cond.selects RX5 yX5_hasInk yX5_hasInk, Cond.code yX5_hasInk cX5_hasInk 2 (some .boolean), Cond.methodLink RX5 218 yX5_firstRow, Cond.instanceMethod yX5_firstRow, Cond.selects RX5 yX5_firstRow yX5_firstRow, Cond.code yX5_firstRow cX5_firstRow 3 (some .int), Cond.methodLink RX5 226 yX5_firstColumn, Cond.instanceMethod yX5_firstColumn, Cond.selects RX5 yX5_firstColumn yX5_firstColumn, Cond.code yX5_firstColumn cX5_firstColumn 3 (some .int), Cond.methodLink RX5 229 yX5_lastColumn]
def wsL_law0_r29 : List Cond := [Cond.instanceMethod yX5_lastColumn, Cond.selects RX5 yX5_lastColumn yX5_lastColumn, Cond.code yX5_lastColumn cX5_lastColumn 3 (some .int), Cond.methodLink RX5 232 yX5_lastRow, Cond.instanceMethod yX5_lastRow, Cond.selects RX5 yX5_lastRow yX5_lastRow, Cond.code yX5_lastRow cX5_lastRow 3 (some .int), Cond.methodLink RL 127 yX4_cut, Cond.instanceMethod yX4_cut, Cond.selects RX4 yX4_cut yX4_cut, Cond.code yX4_cut cX4_cut 9 (some .boolean), Cond.methodLink RL 131 yX5_cut, Cond.instanceMethod yX5_cut, Cond.selects RX5 yX5_cut yX5_cut, Cond.code yX5_cut cX5_cut 9 (some .boolean), Cond.methodLink RL 132 yX4_spans, Cond.instanceMethod yX4_spans, Cond.selects RX4 yX4_spans yX4_spans, Cond.code yX4_spans cX4_spans 5 (some .int), Cond.methodLink RX4 208 yX4_tellSpans, Cond.instanceMethod yX4_tellSpans, Cond.selects RX4 yX4_tellSpans yX4_tellSpans, Cond.code yX4_tellSpans cX4_tellSpans 5 none, Cond.methodLink RL 135 yX5_spans]
def wsL_law0_r30 : List Cond := [Cond.instanceMethod yX5_spans, Cond.selects RX5 yX5_spans yX5_spans, Cond.code yX5_spans cX5_spans 7 (some .int), Cond.methodLink RL 136 yX4_part, Cond.instanceMethod yX4_part, Cond.selects RX4 yX4_part yX4_part, Cond.code yX4_part cX4_part 7 (some .int), Cond.methodLink RX4 212 yX2_faintestColumn, Cond.instanceMethod yX2_faintestColumn, Cond.selects RX2 yX2_faintestColumn yX2_faintestColumn, Cond.code yX2_faintestColumn cX2_faintestColumn 8 (some .int), Cond.methodLink RX2 87 Lib.Math.abs.name, Cond.methodLink RX4 215 yX2_columnInk, Cond.methodLink RX4 218 yX2_moveRightPart, Cond.instanceMethod yX2_moveRightPart, Cond.selects RX2 yX2_moveRightPart yX2_moveRightPart, Cond.code yX2_moveRightPart cX2_moveRightPart 4 none, Cond.methodLink RL 140 yX5_part, Cond.instanceMethod yX5_part, Cond.selects RX5 yX5_part yX5_part, Cond.code yX5_part cX5_part 9 (some .int), Cond.methodLink RX5 235 Lib.Math.abs.name, Cond.methodLink RL 141 yX4_back, Cond.instanceMethod yX4_back]
def wsL_law0_r31 : List Cond := [Cond.selects RX4 yX4_back yX4_back, Cond.code yX4_back cX4_back 3 (some .int), Cond.fieldLink RX4 225 "StraightPages$Change" "page" "I", Cond.fieldLink RX4 230 "StraightPages$Change" "before" "LStraightPages$Sheet;", Cond.fieldLink RX4 233 "StraightPages$Change" "made" "I", Cond.methodLink RX4 221 yX1_takeLatest, Cond.instanceMethod yX1_takeLatest, Cond.selects RX1 yX1_takeLatest yX1_takeLatest, Cond.code yX1_takeLatest cX1_takeLatest 1 (some (.object "StraightPages$Change")), Cond.methodLink RL 144 yX5_back, Cond.instanceMethod yX5_back, Cond.selects RX5 yX5_back yX5_back, Cond.code yX5_back cX5_back 3 (some .int), Cond.methodLink RL 145 yL_told, Cond.static yL_told, Cond.codeWith yL_told cL_told 4 (some .int) [(0, 9, 12, 13)], Cond.methodLink RL 19 yX4_told, Cond.instanceMethod yX4_told, Cond.selects RX4 yX4_told yX4_told, Cond.code yX4_told cX4_told 2 (some .int), Cond.methodLink RL 148 yX5_told, Cond.instanceMethod yX5_told, Cond.selects RX5 yX5_told yX5_told, Cond.code yX5_told cX5_told 2 (some .int)]
def wsL_law0 : List Cond := (wsL_law0_r1 ++ (wsL_law0_r2 ++ (wsL_law0_r3 ++ (wsL_law0_r4 ++ (wsL_law0_r5 ++ (wsL_law0_r6 ++ (wsL_law0_r7 ++ (wsL_law0_r8 ++ (wsL_law0_r9 ++ (wsL_law0_r10 ++ (wsL_law0_r11 ++ (wsL_law0_r12 ++ (wsL_law0_r13 ++ (wsL_law0_r14 ++ (wsL_law0_r15 ++ (wsL_law0_r16 ++ (wsL_law0_r17 ++ (wsL_law0_r18 ++ (wsL_law0_r19 ++ (wsL_law0_r20 ++ (wsL_law0_r21 ++ (wsL_law0_r22 ++ (wsL_law0_r23 ++ (wsL_law0_r24 ++ (wsL_law0_r25 ++ (wsL_law0_r26 ++ (wsL_law0_r27 ++ (wsL_law0_r28 ++ (wsL_law0_r29 ++ (wsL_law0_r30 ++ wsL_law0_r31)))))))))))))))))))))))))))))) ++ wsX40 ++ wsX50 ++ wsX20 ++ wsX10 ++ wsX30 ++ wsX00 ++ ([] : List Cond)
def wsL_law : List Cond := wsL_law0 ++ (nsAt RX4 114).filter goodWord
theorem inlX0 : ∀ w ∈ wsX00, w ∈ wsL_law := fun _ h => List.mem_append_left _ (List.mem_append_left _ (List.mem_append_right _ h))
theorem inlX1 : ∀ w ∈ wsX10, w ∈ wsL_law := fun _ h => List.mem_append_left _ (List.mem_append_left _ (List.mem_append_left _ (List.mem_append_left _ (List.mem_append_right _ h))))
theorem inlX2 : ∀ w ∈ wsX20, w ∈ wsL_law := fun _ h => List.mem_append_left _ (List.mem_append_left _ (List.mem_append_left _ (List.mem_append_left _ (List.mem_append_left _ (List.mem_append_right _ h)))))
theorem inlX3 : ∀ w ∈ wsX30, w ∈ wsL_law := fun _ h => List.mem_append_left _ (List.mem_append_left _ (List.mem_append_left _ (List.mem_append_right _ h)))
theorem inlX4 : ∀ w ∈ wsX40, w ∈ wsL_law := fun _ h => List.mem_append_left _ (List.mem_append_left _ (List.mem_append_left _ (List.mem_append_left _ (List.mem_append_left _ (List.mem_append_left _ (List.mem_append_left _ (List.mem_append_right _ h)))))))
theorem inlX5 : ∀ w ∈ wsX50, w ∈ wsL_law := fun _ h => List.mem_append_left _ (List.mem_append_left _ (List.mem_append_left _ (List.mem_append_left _ (List.mem_append_left _ (List.mem_append_left _ (List.mem_append_right _ h))))))
theorem inJ13 : ∀ w ∈ wsJ130, w ∈ lw_tbl := by decide +kernel
theorem inJ9 : ∀ w ∈ wsJ90, w ∈ lw_tbl := by decide +kernel
theorem inJ0 : ∀ w ∈ wsJ00, w ∈ lw_tbl := by decide +kernel
theorem inJ10 : ∀ w ∈ wsJ100, w ∈ lw_tbl := by decide +kernel
theorem inJ7 : ∀ w ∈ wsJ70, w ∈ lw_tbl := by decide +kernel
set_option maxRecDepth 20000 in
theorem ggX0_init_X2_init : GoodIn wsX0_init wsX2_init := goodIn_r _ [12, 13, 2, 3, 14, 15, 16, 17, 21, 22, 23] (by decide +kernel) (by decide +kernel)
set_option maxRecDepth 20000 in
theorem gX0_init_X2_init : GoodIn wsX0_init (wsX2_init) := ggX0_init_X2_init
theorem dX0_init_0 : decode cX0_init 0 = .ok (.aload_n 0, 1) := by decide +kernel
theorem dX0_init_1 : decode cX0_init 1 = .ok (.invokespecial 3, 3) := by decide +kernel
theorem dX0_init_4 : decode cX0_init 4 = .ok (.aload_n 0, 1) := by decide +kernel
theorem dX0_init_5 : decode cX0_init 5 = .ok (.iconst (-1), 1) := by decide +kernel
theorem dX0_init_6 : decode cX0_init 6 = .ok (.putfield 9, 3) := by decide +kernel
theorem dX0_init_9 : decode cX0_init 9 = .ok (.aload_n 0, 1) := by decide +kernel
theorem dX0_init_10 : decode cX0_init 10 = .ok (.iconst (-1), 1) := by decide +kernel
theorem dX0_init_11 : decode cX0_init 11 = .ok (.putfield 15, 3) := by decide +kernel
theorem dX0_init_14 : decode cX0_init 14 = .ok (.aload_n 0, 1) := by decide +kernel
theorem dX0_init_15 : decode cX0_init 15 = .ok (.new 18, 3) := by decide +kernel
theorem dX0_init_18 : decode cX0_init 18 = .ok (.dup, 1) := by decide +kernel
theorem dX0_init_19 : decode cX0_init 19 = .ok (.bipush 64, 2) := by decide +kernel
theorem dX0_init_21 : decode cX0_init 21 = .ok (.invokespecial 20, 3) := by decide +kernel
theorem dX0_init_24 : decode cX0_init 24 = .ok (.putfield 23, 3) := by decide +kernel
theorem dX0_init_27 : decode cX0_init 27 = .ok (.return_, 1) := by decide +kernel
set_option maxRecDepth 20000 in
theorem ggX1_init_X0_init : GoodIn wsX1_init wsX0_init := goodIn_r _ [12, 13, 2, 3, 14, 15, 16, 17, 18, 19, 20, 21, 22, 23, 24, 25, 26, 27, 31, 32, 33, 34, 35, 36] (by decide +kernel) (by decide +kernel)
set_option maxRecDepth 20000 in
theorem gX1_init_X0_init : GoodIn wsX1_init (wsX0_init) := ggX1_init_X0_init
theorem dX1_init_0 : decode cX1_init 0 = .ok (.aload_n 0, 1) := by decide +kernel
theorem dX1_init_1 : decode cX1_init 1 = .ok (.invokespecial 3, 3) := by decide +kernel
theorem dX1_init_4 : decode cX1_init 4 = .ok (.aload_n 0, 1) := by decide +kernel
theorem dX1_init_5 : decode cX1_init 5 = .ok (.bipush 10, 2) := by decide +kernel
theorem dX1_init_7 : decode cX1_init 7 = .ok (.anewarray 9, 3) := by decide +kernel
theorem dX1_init_10 : decode cX1_init 10 = .ok (.putfield 11, 3) := by decide +kernel
theorem dX1_init_13 : decode cX1_init 13 = .ok (.iconst 0, 1) := by decide +kernel
theorem dX1_init_14 : decode cX1_init 14 = .ok (.istore_n 1, 1) := by decide +kernel
theorem dX1_init_15 : decode cX1_init 15 = .ok (.iload_n 1, 1) := by decide +kernel
theorem dX1_init_16 : decode cX1_init 16 = .ok (.bipush 10, 2) := by decide +kernel
theorem dX1_init_18 : decode cX1_init 18 = .ok (.if_icmp .ge 22, 3) := by decide +kernel
theorem dX1_init_21 : decode cX1_init 21 = .ok (.aload_n 0, 1) := by decide +kernel
theorem dX1_init_22 : decode cX1_init 22 = .ok (.getfield 11, 3) := by decide +kernel
theorem dX1_init_25 : decode cX1_init 25 = .ok (.iload_n 1, 1) := by decide +kernel
theorem dX1_init_26 : decode cX1_init 26 = .ok (.new 9, 3) := by decide +kernel
theorem dX1_init_29 : decode cX1_init 29 = .ok (.dup, 1) := by decide +kernel
theorem dX1_init_30 : decode cX1_init 30 = .ok (.invokespecial 17, 3) := by decide +kernel
theorem dX1_init_33 : decode cX1_init 33 = .ok (.aastore, 1) := by decide +kernel
theorem dX1_init_34 : decode cX1_init 34 = .ok (.iinc 1 1, 3) := by decide +kernel
theorem dX1_init_37 : decode cX1_init 37 = .ok (.goto (-22), 3) := by decide +kernel
theorem dX1_init_40 : decode cX1_init 40 = .ok (.aload_n 0, 1) := by decide +kernel
theorem dX1_init_41 : decode cX1_init 41 = .ok (.iconst 0, 1) := by decide +kernel
theorem dX1_init_42 : decode cX1_init 42 = .ok (.putfield 18, 3) := by decide +kernel
theorem dX1_init_45 : decode cX1_init 45 = .ok (.aload_n 0, 1) := by decide +kernel
theorem dX1_init_46 : decode cX1_init 46 = .ok (.iconst 0, 1) := by decide +kernel
theorem dX1_init_47 : decode cX1_init 47 = .ok (.putfield 22, 3) := by decide +kernel
theorem dX1_init_50 : decode cX1_init 50 = .ok (.return_, 1) := by decide +kernel
set_option maxRecDepth 20000 in
theorem ggX1_remember_X2_become : GoodIn wsX1_remember wsX2_become := goodIn_r _ [15, 16, 17, 18, 19, 20, 21, 22, 23, 24, 25, 14, 26, 27, 28, 29, 30, 37, 38, 39] (by decide +kernel) (by decide +kernel)
set_option maxRecDepth 20000 in
theorem gX1_remember_X2_become : GoodIn wsX1_remember (wsV RX1 35 RX2 yX2_become wsX2_become) := goodIn_app (goodIn_of _ (by decide +kernel)) ggX1_remember_X2_become
theorem dX1_remember_0 : decode cX1_remember 0 = .ok (.aload_n 0, 1) := by decide +kernel
theorem dX1_remember_1 : decode cX1_remember 1 = .ok (.getfield 11, 3) := by decide +kernel
theorem dX1_remember_4 : decode cX1_remember 4 = .ok (.aload_n 0, 1) := by decide +kernel
theorem dX1_remember_5 : decode cX1_remember 5 = .ok (.getfield 18, 3) := by decide +kernel
theorem dX1_remember_8 : decode cX1_remember 8 = .ok (.aaload, 1) := by decide +kernel
theorem dX1_remember_9 : decode cX1_remember 9 = .ok (.astore 4, 2) := by decide +kernel
theorem dX1_remember_11 : decode cX1_remember 11 = .ok (.aload 4, 2) := by decide +kernel
theorem dX1_remember_13 : decode cX1_remember 13 = .ok (.iload_n 1, 1) := by decide +kernel
theorem dX1_remember_14 : decode cX1_remember 14 = .ok (.putfield 25, 3) := by decide +kernel
theorem dX1_remember_17 : decode cX1_remember 17 = .ok (.aload 4, 2) := by decide +kernel
theorem dX1_remember_19 : decode cX1_remember 19 = .ok (.iload_n 3, 1) := by decide +kernel
theorem dX1_remember_20 : decode cX1_remember 20 = .ok (.putfield 28, 3) := by decide +kernel
theorem dX1_remember_23 : decode cX1_remember 23 = .ok (.aload 4, 2) := by decide +kernel
theorem dX1_remember_25 : decode cX1_remember 25 = .ok (.getfield 31, 3) := by decide +kernel
theorem dX1_remember_28 : decode cX1_remember 28 = .ok (.aload_n 2, 1) := by decide +kernel
theorem dX1_remember_29 : decode cX1_remember 29 = .ok (.invokevirtual 35, 3) := by decide +kernel
theorem dX1_remember_32 : decode cX1_remember 32 = .ok (.aload_n 0, 1) := by decide +kernel
theorem dX1_remember_33 : decode cX1_remember 33 = .ok (.aload_n 0, 1) := by decide +kernel
theorem dX1_remember_34 : decode cX1_remember 34 = .ok (.getfield 18, 3) := by decide +kernel
theorem dX1_remember_37 : decode cX1_remember 37 = .ok (.iconst 1, 1) := by decide +kernel
theorem dX1_remember_38 : decode cX1_remember 38 = .ok (.iadd, 1) := by decide +kernel
theorem dX1_remember_39 : decode cX1_remember 39 = .ok (.bipush 10, 2) := by decide +kernel
theorem dX1_remember_41 : decode cX1_remember 41 = .ok (.if_icmp .ge 12, 3) := by decide +kernel
theorem dX1_remember_44 : decode cX1_remember 44 = .ok (.aload_n 0, 1) := by decide +kernel
theorem dX1_remember_45 : decode cX1_remember 45 = .ok (.getfield 18, 3) := by decide +kernel
theorem dX1_remember_48 : decode cX1_remember 48 = .ok (.iconst 1, 1) := by decide +kernel
theorem dX1_remember_49 : decode cX1_remember 49 = .ok (.iadd, 1) := by decide +kernel
theorem dX1_remember_50 : decode cX1_remember 50 = .ok (.goto 4, 3) := by decide +kernel
theorem dX1_remember_53 : decode cX1_remember 53 = .ok (.iconst 0, 1) := by decide +kernel
theorem dX1_remember_54 : decode cX1_remember 54 = .ok (.putfield 18, 3) := by decide +kernel
theorem dX1_remember_57 : decode cX1_remember 57 = .ok (.aload_n 0, 1) := by decide +kernel
theorem dX1_remember_58 : decode cX1_remember 58 = .ok (.aload_n 0, 1) := by decide +kernel
theorem dX1_remember_59 : decode cX1_remember 59 = .ok (.getfield 22, 3) := by decide +kernel
theorem dX1_remember_62 : decode cX1_remember 62 = .ok (.iconst 1, 1) := by decide +kernel
theorem dX1_remember_63 : decode cX1_remember 63 = .ok (.iadd, 1) := by decide +kernel
theorem dX1_remember_64 : decode cX1_remember 64 = .ok (.bipush 10, 2) := by decide +kernel
theorem dX1_remember_66 : decode cX1_remember 66 = .ok (.invokestatic 41, 3) := by decide +kernel
theorem dX1_remember_69 : decode cX1_remember 69 = .ok (.putfield 22, 3) := by decide +kernel
theorem dX1_remember_72 : decode cX1_remember 72 = .ok (.return_, 1) := by decide +kernel
theorem dX1_takeLatest_0 : decode cX1_takeLatest 0 = .ok (.aload_n 0, 1) := by decide +kernel
theorem dX1_takeLatest_1 : decode cX1_takeLatest 1 = .ok (.getfield 22, 3) := by decide +kernel
theorem dX1_takeLatest_4 : decode cX1_takeLatest 4 = .ok (.ifCond .ne 5, 3) := by decide +kernel
theorem dX1_takeLatest_7 : decode cX1_takeLatest 7 = .ok (.aconst_null, 1) := by decide +kernel
theorem dX1_takeLatest_8 : decode cX1_takeLatest 8 = .ok (.areturn, 1) := by decide +kernel
theorem dX1_takeLatest_9 : decode cX1_takeLatest 9 = .ok (.aload_n 0, 1) := by decide +kernel
theorem dX1_takeLatest_10 : decode cX1_takeLatest 10 = .ok (.dup, 1) := by decide +kernel
theorem dX1_takeLatest_11 : decode cX1_takeLatest 11 = .ok (.getfield 22, 3) := by decide +kernel
theorem dX1_takeLatest_14 : decode cX1_takeLatest 14 = .ok (.iconst 1, 1) := by decide +kernel
theorem dX1_takeLatest_15 : decode cX1_takeLatest 15 = .ok (.isub, 1) := by decide +kernel
theorem dX1_takeLatest_16 : decode cX1_takeLatest 16 = .ok (.putfield 22, 3) := by decide +kernel
theorem dX1_takeLatest_19 : decode cX1_takeLatest 19 = .ok (.aload_n 0, 1) := by decide +kernel
theorem dX1_takeLatest_20 : decode cX1_takeLatest 20 = .ok (.aload_n 0, 1) := by decide +kernel
theorem dX1_takeLatest_21 : decode cX1_takeLatest 21 = .ok (.getfield 18, 3) := by decide +kernel
theorem dX1_takeLatest_24 : decode cX1_takeLatest 24 = .ok (.ifCond .le 12, 3) := by decide +kernel
theorem dX1_takeLatest_27 : decode cX1_takeLatest 27 = .ok (.aload_n 0, 1) := by decide +kernel
theorem dX1_takeLatest_28 : decode cX1_takeLatest 28 = .ok (.getfield 18, 3) := by decide +kernel
theorem dX1_takeLatest_31 : decode cX1_takeLatest 31 = .ok (.iconst 1, 1) := by decide +kernel
theorem dX1_takeLatest_32 : decode cX1_takeLatest 32 = .ok (.isub, 1) := by decide +kernel
theorem dX1_takeLatest_33 : decode cX1_takeLatest 33 = .ok (.goto 5, 3) := by decide +kernel
theorem dX1_takeLatest_36 : decode cX1_takeLatest 36 = .ok (.bipush 9, 2) := by decide +kernel
theorem dX1_takeLatest_38 : decode cX1_takeLatest 38 = .ok (.putfield 18, 3) := by decide +kernel
theorem dX1_takeLatest_41 : decode cX1_takeLatest 41 = .ok (.aload_n 0, 1) := by decide +kernel
theorem dX1_takeLatest_42 : decode cX1_takeLatest 42 = .ok (.getfield 11, 3) := by decide +kernel
theorem dX1_takeLatest_45 : decode cX1_takeLatest 45 = .ok (.aload_n 0, 1) := by decide +kernel
theorem dX1_takeLatest_46 : decode cX1_takeLatest 46 = .ok (.getfield 18, 3) := by decide +kernel
theorem dX1_takeLatest_49 : decode cX1_takeLatest 49 = .ok (.aaload, 1) := by decide +kernel
theorem dX1_takeLatest_50 : decode cX1_takeLatest 50 = .ok (.areturn, 1) := by decide +kernel
theorem dX1_forget_0 : decode cX1_forget 0 = .ok (.aload_n 0, 1) := by decide +kernel
theorem dX1_forget_1 : decode cX1_forget 1 = .ok (.iconst 0, 1) := by decide +kernel
theorem dX1_forget_2 : decode cX1_forget 2 = .ok (.putfield 22, 3) := by decide +kernel
theorem dX1_forget_5 : decode cX1_forget 5 = .ok (.return_, 1) := by decide +kernel
theorem dX2_init_0 : decode cX2_init 0 = .ok (.aload_n 0, 1) := by decide +kernel
theorem dX2_init_1 : decode cX2_init 1 = .ok (.invokespecial 3, 3) := by decide +kernel
theorem dX2_init_4 : decode cX2_init 4 = .ok (.aload_n 0, 1) := by decide +kernel
theorem dX2_init_5 : decode cX2_init 5 = .ok (.iconst 0, 1) := by decide +kernel
theorem dX2_init_6 : decode cX2_init 6 = .ok (.putfield 9, 3) := by decide +kernel
theorem dX2_init_9 : decode cX2_init 9 = .ok (.aload_n 0, 1) := by decide +kernel
theorem dX2_init_10 : decode cX2_init 10 = .ok (.iconst 0, 1) := by decide +kernel
theorem dX2_init_11 : decode cX2_init 11 = .ok (.putfield 15, 3) := by decide +kernel
theorem dX2_init_14 : decode cX2_init 14 = .ok (.aload_n 0, 1) := by decide +kernel
theorem dX2_init_15 : decode cX2_init 15 = .ok (.iload_n 1, 1) := by decide +kernel
theorem dX2_init_16 : decode cX2_init 16 = .ok (.newarray .long, 2) := by decide +kernel
theorem dX2_init_18 : decode cX2_init 18 = .ok (.putfield 18, 3) := by decide +kernel
theorem dX2_init_21 : decode cX2_init 21 = .ok (.return_, 1) := by decide +kernel
set_option maxRecDepth 20000 in
theorem ggX2_empty_J7_fill_d0a16 : GoodIn wsX2_empty wsJ7_fill_d0a16 := goodIn_r _ [7] (by decide +kernel) (by decide +kernel)
set_option maxRecDepth 20000 in
theorem gX2_empty_J7_fill_d0a16 : GoodIn wsX2_empty (va_wsS RX2 22 yJ7_fill_d0a16 wsJ7_fill_d0a16) := goodIn_app (goodIn_of _ (by decide +kernel)) ggX2_empty_J7_fill_d0a16
theorem dX2_empty_0 : decode cX2_empty 0 = .ok (.aload_n 0, 1) := by decide +kernel
theorem dX2_empty_1 : decode cX2_empty 1 = .ok (.iload_n 1, 1) := by decide +kernel
theorem dX2_empty_2 : decode cX2_empty 2 = .ok (.putfield 9, 3) := by decide +kernel
theorem dX2_empty_5 : decode cX2_empty 5 = .ok (.aload_n 0, 1) := by decide +kernel
theorem dX2_empty_6 : decode cX2_empty 6 = .ok (.iload_n 2, 1) := by decide +kernel
theorem dX2_empty_7 : decode cX2_empty 7 = .ok (.putfield 15, 3) := by decide +kernel
theorem dX2_empty_10 : decode cX2_empty 10 = .ok (.aload_n 0, 1) := by decide +kernel
theorem dX2_empty_11 : decode cX2_empty 11 = .ok (.getfield 18, 3) := by decide +kernel
theorem dX2_empty_14 : decode cX2_empty 14 = .ok (.lconst 0, 1) := by decide +kernel
theorem dX2_empty_15 : decode cX2_empty 15 = .ok (.invokestatic 22, 3) := by decide +kernel
theorem dX2_empty_18 : decode cX2_empty 18 = .ok (.return_, 1) := by decide +kernel
set_option maxRecDepth 20000 in
theorem ggX2_become_X2_empty : GoodIn wsX2_become wsX2_empty := goodIn_r _ [12, 1, 2, 3, 13, 14, 15, 16, 17, 18, 19] (by decide +kernel) (by decide +kernel)
set_option maxRecDepth 20000 in
theorem gX2_become_X2_empty : GoodIn wsX2_become (wsV RX2 28 RX2 yX2_empty wsX2_empty) := goodIn_app (goodIn_of _ (by decide +kernel)) ggX2_become_X2_empty
theorem dX2_become_0 : decode cX2_become 0 = .ok (.aload_n 0, 1) := by decide +kernel
theorem dX2_become_1 : decode cX2_become 1 = .ok (.aload_n 1, 1) := by decide +kernel
theorem dX2_become_2 : decode cX2_become 2 = .ok (.getfield 9, 3) := by decide +kernel
theorem dX2_become_5 : decode cX2_become 5 = .ok (.aload_n 1, 1) := by decide +kernel
theorem dX2_become_6 : decode cX2_become 6 = .ok (.getfield 15, 3) := by decide +kernel
theorem dX2_become_9 : decode cX2_become 9 = .ok (.invokevirtual 28, 3) := by decide +kernel
theorem dX2_become_12 : decode cX2_become 12 = .ok (.aload_n 1, 1) := by decide +kernel
theorem dX2_become_13 : decode cX2_become 13 = .ok (.getfield 18, 3) := by decide +kernel
theorem dX2_become_16 : decode cX2_become 16 = .ok (.iconst 0, 1) := by decide +kernel
theorem dX2_become_17 : decode cX2_become 17 = .ok (.aload_n 0, 1) := by decide +kernel
theorem dX2_become_18 : decode cX2_become 18 = .ok (.getfield 18, 3) := by decide +kernel
theorem dX2_become_21 : decode cX2_become 21 = .ok (.iconst 0, 1) := by decide +kernel
theorem dX2_become_22 : decode cX2_become 22 = .ok (.aload_n 1, 1) := by decide +kernel
theorem dX2_become_23 : decode cX2_become 23 = .ok (.getfield 15, 3) := by decide +kernel
theorem dX2_become_26 : decode cX2_become 26 = .ok (.invokestatic 32, 3) := by decide +kernel
theorem dX2_become_29 : decode cX2_become 29 = .ok (.return_, 1) := by decide +kernel
theorem dX2_hasRow_0 : decode cX2_hasRow 0 = .ok (.iload_n 1, 1) := by decide +kernel
theorem dX2_hasRow_1 : decode cX2_hasRow 1 = .ok (.ifCond .lt 15, 3) := by decide +kernel
theorem dX2_hasRow_4 : decode cX2_hasRow 4 = .ok (.iload_n 1, 1) := by decide +kernel
theorem dX2_hasRow_5 : decode cX2_hasRow 5 = .ok (.aload_n 0, 1) := by decide +kernel
theorem dX2_hasRow_6 : decode cX2_hasRow 6 = .ok (.getfield 15, 3) := by decide +kernel
theorem dX2_hasRow_9 : decode cX2_hasRow 9 = .ok (.if_icmp .ge 7, 3) := by decide +kernel
theorem dX2_hasRow_12 : decode cX2_hasRow 12 = .ok (.iconst 1, 1) := by decide +kernel
theorem dX2_hasRow_13 : decode cX2_hasRow 13 = .ok (.goto 4, 3) := by decide +kernel
theorem dX2_hasRow_16 : decode cX2_hasRow 16 = .ok (.iconst 0, 1) := by decide +kernel
theorem dX2_hasRow_17 : decode cX2_hasRow 17 = .ok (.ireturn, 1) := by decide +kernel
set_option maxRecDepth 20000 in
theorem ggX2_hasPoint_X4_within : GoodIn wsX2_hasPoint wsX4_within := goodIn_r _ [4] (by decide +kernel) (by decide +kernel)
set_option maxRecDepth 20000 in
theorem gX2_hasPoint_X4_within_n38 : GoodIn wsX2_hasPoint (wsX4_within) := ggX2_hasPoint_X4_within
set_option maxRecDepth 20000 in
theorem ggX2_hasPoint_X2_hasRow : GoodIn wsX2_hasPoint wsX2_hasRow := goodIn_r _ [9, 10, 11, 12, 13] (by decide +kernel) (by decide +kernel)
set_option maxRecDepth 20000 in
theorem gX2_hasPoint_X2_hasRow : GoodIn wsX2_hasPoint (wsV RX2 42 RX2 yX2_hasRow wsX2_hasRow) := goodIn_app (goodIn_of _ (by decide +kernel)) ggX2_hasPoint_X2_hasRow
theorem dX2_hasPoint_0 : decode cX2_hasPoint 0 = .ok (.iload_n 1, 1) := by decide +kernel
theorem dX2_hasPoint_1 : decode cX2_hasPoint 1 = .ok (.iconst 0, 1) := by decide +kernel
theorem dX2_hasPoint_2 : decode cX2_hasPoint 2 = .ok (.aload_n 0, 1) := by decide +kernel
theorem dX2_hasPoint_3 : decode cX2_hasPoint 3 = .ok (.getfield 9, 3) := by decide +kernel
theorem dX2_hasPoint_6 : decode cX2_hasPoint 6 = .ok (.iconst 1, 1) := by decide +kernel
theorem dX2_hasPoint_7 : decode cX2_hasPoint 7 = .ok (.isub, 1) := by decide +kernel
theorem dX2_hasPoint_8 : decode cX2_hasPoint 8 = .ok (.invokestatic 38, 3) := by decide +kernel
theorem dX2_hasPoint_11 : decode cX2_hasPoint 11 = .ok (.ifCond .eq 15, 3) := by decide +kernel
theorem dX2_hasPoint_14 : decode cX2_hasPoint 14 = .ok (.aload_n 0, 1) := by decide +kernel
theorem dX2_hasPoint_15 : decode cX2_hasPoint 15 = .ok (.iload_n 2, 1) := by decide +kernel
theorem dX2_hasPoint_16 : decode cX2_hasPoint 16 = .ok (.invokevirtual 42, 3) := by decide +kernel
theorem dX2_hasPoint_19 : decode cX2_hasPoint 19 = .ok (.ifCond .eq 7, 3) := by decide +kernel
theorem dX2_hasPoint_22 : decode cX2_hasPoint 22 = .ok (.iconst 1, 1) := by decide +kernel
theorem dX2_hasPoint_23 : decode cX2_hasPoint 23 = .ok (.goto 4, 3) := by decide +kernel
theorem dX2_hasPoint_26 : decode cX2_hasPoint 26 = .ok (.iconst 0, 1) := by decide +kernel
theorem dX2_hasPoint_27 : decode cX2_hasPoint 27 = .ok (.ireturn, 1) := by decide +kernel
theorem dX2_allColumns_0 : decode cX2_allColumns 0 = .ok (.aload_n 0, 1) := by decide +kernel
theorem dX2_allColumns_1 : decode cX2_allColumns 1 = .ok (.getfield 9, 3) := by decide +kernel
theorem dX2_allColumns_4 : decode cX2_allColumns 4 = .ok (.bipush 64, 2) := by decide +kernel
theorem dX2_allColumns_6 : decode cX2_allColumns 6 = .ok (.if_icmp .lt 9, 3) := by decide +kernel
theorem dX2_allColumns_9 : decode cX2_allColumns 9 = .ok (.ldc2_w 46, 3) := by decide +kernel
theorem dX2_allColumns_12 : decode cX2_allColumns 12 = .ok (.goto 11, 3) := by decide +kernel
theorem dX2_allColumns_15 : decode cX2_allColumns 15 = .ok (.lconst 1, 1) := by decide +kernel
theorem dX2_allColumns_16 : decode cX2_allColumns 16 = .ok (.aload_n 0, 1) := by decide +kernel
theorem dX2_allColumns_17 : decode cX2_allColumns 17 = .ok (.getfield 9, 3) := by decide +kernel
theorem dX2_allColumns_20 : decode cX2_allColumns 20 = .ok (.lshl, 1) := by decide +kernel
theorem dX2_allColumns_21 : decode cX2_allColumns 21 = .ok (.lconst 1, 1) := by decide +kernel
theorem dX2_allColumns_22 : decode cX2_allColumns 22 = .ok (.lsub, 1) := by decide +kernel
theorem dX2_allColumns_23 : decode cX2_allColumns 23 = .ok (.lreturn, 1) := by decide +kernel
set_option maxRecDepth 20000 in
theorem ggX2_ink_J13_bitCount_95d88 : GoodIn wsX2_ink wsJ13_bitCount_95d88 := goodIn_r _ [6, 7, 8, 9] (by decide +kernel) (by decide +kernel)
set_option maxRecDepth 20000 in
theorem gX2_ink_J13_bitCount_95d88 : GoodIn wsX2_ink (va_wsS RX2 48 yJ13_bitCount_95d88 wsJ13_bitCount_95d88) := goodIn_app (goodIn_of _ (by decide +kernel)) ggX2_ink_J13_bitCount_95d88
theorem dX2_ink_0 : decode cX2_ink 0 = .ok (.iconst 0, 1) := by decide +kernel
theorem dX2_ink_1 : decode cX2_ink 1 = .ok (.istore_n 1, 1) := by decide +kernel
theorem dX2_ink_2 : decode cX2_ink 2 = .ok (.iconst 0, 1) := by decide +kernel
theorem dX2_ink_3 : decode cX2_ink 3 = .ok (.istore_n 2, 1) := by decide +kernel
theorem dX2_ink_4 : decode cX2_ink 4 = .ok (.iload_n 2, 1) := by decide +kernel
theorem dX2_ink_5 : decode cX2_ink 5 = .ok (.aload_n 0, 1) := by decide +kernel
theorem dX2_ink_6 : decode cX2_ink 6 = .ok (.getfield 15, 3) := by decide +kernel
theorem dX2_ink_9 : decode cX2_ink 9 = .ok (.if_icmp .ge 21, 3) := by decide +kernel
theorem dX2_ink_12 : decode cX2_ink 12 = .ok (.iload_n 1, 1) := by decide +kernel
theorem dX2_ink_13 : decode cX2_ink 13 = .ok (.aload_n 0, 1) := by decide +kernel
theorem dX2_ink_14 : decode cX2_ink 14 = .ok (.getfield 18, 3) := by decide +kernel
theorem dX2_ink_17 : decode cX2_ink 17 = .ok (.iload_n 2, 1) := by decide +kernel
theorem dX2_ink_18 : decode cX2_ink 18 = .ok (.laload, 1) := by decide +kernel
theorem dX2_ink_19 : decode cX2_ink 19 = .ok (.invokestatic 48, 3) := by decide +kernel
theorem dX2_ink_22 : decode cX2_ink 22 = .ok (.iadd, 1) := by decide +kernel
theorem dX2_ink_23 : decode cX2_ink 23 = .ok (.istore_n 1, 1) := by decide +kernel
theorem dX2_ink_24 : decode cX2_ink 24 = .ok (.iinc 2 1, 3) := by decide +kernel
theorem dX2_ink_27 : decode cX2_ink 27 = .ok (.goto (-23), 3) := by decide +kernel
theorem dX2_ink_30 : decode cX2_ink 30 = .ok (.iload_n 1, 1) := by decide +kernel
theorem dX2_ink_31 : decode cX2_ink 31 = .ok (.ireturn, 1) := by decide +kernel
theorem dX2_columnInk_0 : decode cX2_columnInk 0 = .ok (.iconst 0, 1) := by decide +kernel
theorem dX2_columnInk_1 : decode cX2_columnInk 1 = .ok (.istore_n 2, 1) := by decide +kernel
theorem dX2_columnInk_2 : decode cX2_columnInk 2 = .ok (.iconst 0, 1) := by decide +kernel
theorem dX2_columnInk_3 : decode cX2_columnInk 3 = .ok (.istore_n 3, 1) := by decide +kernel
theorem dX2_columnInk_4 : decode cX2_columnInk 4 = .ok (.iload_n 3, 1) := by decide +kernel
theorem dX2_columnInk_5 : decode cX2_columnInk 5 = .ok (.aload_n 0, 1) := by decide +kernel
theorem dX2_columnInk_6 : decode cX2_columnInk 6 = .ok (.getfield 15, 3) := by decide +kernel
theorem dX2_columnInk_9 : decode cX2_columnInk 9 = .ok (.if_icmp .ge 32, 3) := by decide +kernel
theorem dX2_columnInk_12 : decode cX2_columnInk 12 = .ok (.iload_n 2, 1) := by decide +kernel
theorem dX2_columnInk_13 : decode cX2_columnInk 13 = .ok (.aload_n 0, 1) := by decide +kernel
theorem dX2_columnInk_14 : decode cX2_columnInk 14 = .ok (.getfield 18, 3) := by decide +kernel
theorem dX2_columnInk_17 : decode cX2_columnInk 17 = .ok (.iload_n 3, 1) := by decide +kernel
theorem dX2_columnInk_18 : decode cX2_columnInk 18 = .ok (.laload, 1) := by decide +kernel
theorem dX2_columnInk_19 : decode cX2_columnInk 19 = .ok (.iload_n 1, 1) := by decide +kernel
theorem dX2_columnInk_20 : decode cX2_columnInk 20 = .ok (.lushr, 1) := by decide +kernel
theorem dX2_columnInk_21 : decode cX2_columnInk 21 = .ok (.lconst 1, 1) := by decide +kernel
theorem dX2_columnInk_22 : decode cX2_columnInk 22 = .ok (.land, 1) := by decide +kernel
theorem dX2_columnInk_23 : decode cX2_columnInk 23 = .ok (.lconst 1, 1) := by decide +kernel
theorem dX2_columnInk_24 : decode cX2_columnInk 24 = .ok (.lcmp, 1) := by decide +kernel
theorem dX2_columnInk_25 : decode cX2_columnInk 25 = .ok (.ifCond .ne 7, 3) := by decide +kernel
theorem dX2_columnInk_28 : decode cX2_columnInk 28 = .ok (.iconst 1, 1) := by decide +kernel
theorem dX2_columnInk_29 : decode cX2_columnInk 29 = .ok (.goto 4, 3) := by decide +kernel
theorem dX2_columnInk_32 : decode cX2_columnInk 32 = .ok (.iconst 0, 1) := by decide +kernel
theorem dX2_columnInk_33 : decode cX2_columnInk 33 = .ok (.iadd, 1) := by decide +kernel
theorem dX2_columnInk_34 : decode cX2_columnInk 34 = .ok (.istore_n 2, 1) := by decide +kernel
theorem dX2_columnInk_35 : decode cX2_columnInk 35 = .ok (.iinc 3 1, 3) := by decide +kernel
theorem dX2_columnInk_38 : decode cX2_columnInk 38 = .ok (.goto (-34), 3) := by decide +kernel
theorem dX2_columnInk_41 : decode cX2_columnInk 41 = .ok (.iload_n 2, 1) := by decide +kernel
theorem dX2_columnInk_42 : decode cX2_columnInk 42 = .ok (.ireturn, 1) := by decide +kernel
theorem dX2_inkedColumns_0 : decode cX2_inkedColumns 0 = .ok (.lconst 0, 1) := by decide +kernel
theorem dX2_inkedColumns_1 : decode cX2_inkedColumns 1 = .ok (.lstore_n 1, 1) := by decide +kernel
theorem dX2_inkedColumns_2 : decode cX2_inkedColumns 2 = .ok (.iconst 0, 1) := by decide +kernel
theorem dX2_inkedColumns_3 : decode cX2_inkedColumns 3 = .ok (.istore_n 3, 1) := by decide +kernel
theorem dX2_inkedColumns_4 : decode cX2_inkedColumns 4 = .ok (.iload_n 3, 1) := by decide +kernel
theorem dX2_inkedColumns_5 : decode cX2_inkedColumns 5 = .ok (.aload_n 0, 1) := by decide +kernel
theorem dX2_inkedColumns_6 : decode cX2_inkedColumns 6 = .ok (.getfield 15, 3) := by decide +kernel
theorem dX2_inkedColumns_9 : decode cX2_inkedColumns 9 = .ok (.if_icmp .ge 18, 3) := by decide +kernel
theorem dX2_inkedColumns_12 : decode cX2_inkedColumns 12 = .ok (.lload_n 1, 1) := by decide +kernel
theorem dX2_inkedColumns_13 : decode cX2_inkedColumns 13 = .ok (.aload_n 0, 1) := by decide +kernel
theorem dX2_inkedColumns_14 : decode cX2_inkedColumns 14 = .ok (.getfield 18, 3) := by decide +kernel
theorem dX2_inkedColumns_17 : decode cX2_inkedColumns 17 = .ok (.iload_n 3, 1) := by decide +kernel
theorem dX2_inkedColumns_18 : decode cX2_inkedColumns 18 = .ok (.laload, 1) := by decide +kernel
theorem dX2_inkedColumns_19 : decode cX2_inkedColumns 19 = .ok (.lor, 1) := by decide +kernel
theorem dX2_inkedColumns_20 : decode cX2_inkedColumns 20 = .ok (.lstore_n 1, 1) := by decide +kernel
theorem dX2_inkedColumns_21 : decode cX2_inkedColumns 21 = .ok (.iinc 3 1, 3) := by decide +kernel
theorem dX2_inkedColumns_24 : decode cX2_inkedColumns 24 = .ok (.goto (-20), 3) := by decide +kernel
theorem dX2_inkedColumns_27 : decode cX2_inkedColumns 27 = .ok (.lload_n 1, 1) := by decide +kernel
theorem dX2_inkedColumns_28 : decode cX2_inkedColumns 28 = .ok (.lreturn, 1) := by decide +kernel
theorem dX2_inkedRows_0 : decode cX2_inkedRows 0 = .ok (.lconst 0, 1) := by decide +kernel
theorem dX2_inkedRows_1 : decode cX2_inkedRows 1 = .ok (.lstore_n 1, 1) := by decide +kernel
theorem dX2_inkedRows_2 : decode cX2_inkedRows 2 = .ok (.iconst 0, 1) := by decide +kernel
theorem dX2_inkedRows_3 : decode cX2_inkedRows 3 = .ok (.istore_n 3, 1) := by decide +kernel
theorem dX2_inkedRows_4 : decode cX2_inkedRows 4 = .ok (.iload_n 3, 1) := by decide +kernel
theorem dX2_inkedRows_5 : decode cX2_inkedRows 5 = .ok (.aload_n 0, 1) := by decide +kernel
theorem dX2_inkedRows_6 : decode cX2_inkedRows 6 = .ok (.getfield 15, 3) := by decide +kernel
theorem dX2_inkedRows_9 : decode cX2_inkedRows 9 = .ok (.if_icmp .ge 26, 3) := by decide +kernel
theorem dX2_inkedRows_12 : decode cX2_inkedRows 12 = .ok (.aload_n 0, 1) := by decide +kernel
theorem dX2_inkedRows_13 : decode cX2_inkedRows 13 = .ok (.getfield 18, 3) := by decide +kernel
theorem dX2_inkedRows_16 : decode cX2_inkedRows 16 = .ok (.iload_n 3, 1) := by decide +kernel
theorem dX2_inkedRows_17 : decode cX2_inkedRows 17 = .ok (.laload, 1) := by decide +kernel
theorem dX2_inkedRows_18 : decode cX2_inkedRows 18 = .ok (.lconst 0, 1) := by decide +kernel
theorem dX2_inkedRows_19 : decode cX2_inkedRows 19 = .ok (.lcmp, 1) := by decide +kernel
theorem dX2_inkedRows_20 : decode cX2_inkedRows 20 = .ok (.ifCond .eq 9, 3) := by decide +kernel
theorem dX2_inkedRows_23 : decode cX2_inkedRows 23 = .ok (.lload_n 1, 1) := by decide +kernel
theorem dX2_inkedRows_24 : decode cX2_inkedRows 24 = .ok (.lconst 1, 1) := by decide +kernel
theorem dX2_inkedRows_25 : decode cX2_inkedRows 25 = .ok (.iload_n 3, 1) := by decide +kernel
theorem dX2_inkedRows_26 : decode cX2_inkedRows 26 = .ok (.lshl, 1) := by decide +kernel
theorem dX2_inkedRows_27 : decode cX2_inkedRows 27 = .ok (.lor, 1) := by decide +kernel
theorem dX2_inkedRows_28 : decode cX2_inkedRows 28 = .ok (.lstore_n 1, 1) := by decide +kernel
theorem dX2_inkedRows_29 : decode cX2_inkedRows 29 = .ok (.iinc 3 1, 3) := by decide +kernel
theorem dX2_inkedRows_32 : decode cX2_inkedRows 32 = .ok (.goto (-28), 3) := by decide +kernel
theorem dX2_inkedRows_35 : decode cX2_inkedRows 35 = .ok (.lload_n 1, 1) := by decide +kernel
theorem dX2_inkedRows_36 : decode cX2_inkedRows 36 = .ok (.lreturn, 1) := by decide +kernel
set_option maxRecDepth 20000 in
theorem ggX2_hasInk_X2_inkedColumns : GoodIn wsX2_hasInk wsX2_inkedColumns := goodIn_r _ [5, 6, 7, 8, 9, 10] (by decide +kernel) (by decide +kernel)
set_option maxRecDepth 20000 in
theorem gX2_hasInk_X2_inkedColumns : GoodIn wsX2_hasInk (wsV RX2 54 RX2 yX2_inkedColumns wsX2_inkedColumns) := goodIn_app (goodIn_of _ (by decide +kernel)) ggX2_hasInk_X2_inkedColumns
theorem dX2_hasInk_0 : decode cX2_hasInk 0 = .ok (.aload_n 0, 1) := by decide +kernel
theorem dX2_hasInk_1 : decode cX2_hasInk 1 = .ok (.invokevirtual 54, 3) := by decide +kernel
theorem dX2_hasInk_4 : decode cX2_hasInk 4 = .ok (.lconst 0, 1) := by decide +kernel
theorem dX2_hasInk_5 : decode cX2_hasInk 5 = .ok (.lcmp, 1) := by decide +kernel
theorem dX2_hasInk_6 : decode cX2_hasInk 6 = .ok (.ifCond .eq 7, 3) := by decide +kernel
theorem dX2_hasInk_9 : decode cX2_hasInk 9 = .ok (.iconst 1, 1) := by decide +kernel
theorem dX2_hasInk_10 : decode cX2_hasInk 10 = .ok (.goto 4, 3) := by decide +kernel
theorem dX2_hasInk_13 : decode cX2_hasInk 13 = .ok (.iconst 0, 1) := by decide +kernel
theorem dX2_hasInk_14 : decode cX2_hasInk 14 = .ok (.ireturn, 1) := by decide +kernel
theorem dX2_steps_0 : decode cX2_steps 0 = .ok (.aload_n 0, 1) := by decide +kernel
theorem dX2_steps_1 : decode cX2_steps 1 = .ok (.getfield 9, 3) := by decide +kernel
theorem dX2_steps_4 : decode cX2_steps 4 = .ok (.bipush 7, 2) := by decide +kernel
theorem dX2_steps_6 : decode cX2_steps 6 = .ok (.iadd, 1) := by decide +kernel
theorem dX2_steps_7 : decode cX2_steps 7 = .ok (.bipush 8, 2) := by decide +kernel
theorem dX2_steps_9 : decode cX2_steps 9 = .ok (.idiv, 1) := by decide +kernel
theorem dX2_steps_10 : decode cX2_steps 10 = .ok (.ireturn, 1) := by decide +kernel
set_option maxRecDepth 20000 in
theorem ggX2_footOf_X4_stepColumns : GoodIn wsX2_footOf wsX4_stepColumns := goodIn_r _ [5, 6] (by decide +kernel) (by decide +kernel)
set_option maxRecDepth 20000 in
theorem gX2_footOf_X4_stepColumns_n58 : GoodIn wsX2_footOf (wsX4_stepColumns) := ggX2_footOf_X4_stepColumns
theorem dX2_footOf_0 : decode cX2_footOf 0 = .ok (.aload_n 0, 1) := by decide +kernel
theorem dX2_footOf_1 : decode cX2_footOf 1 = .ok (.getfield 15, 3) := by decide +kernel
theorem dX2_footOf_4 : decode cX2_footOf 4 = .ok (.iconst 1, 1) := by decide +kernel
theorem dX2_footOf_5 : decode cX2_footOf 5 = .ok (.isub, 1) := by decide +kernel
theorem dX2_footOf_6 : decode cX2_footOf 6 = .ok (.istore_n 2, 1) := by decide +kernel
theorem dX2_footOf_7 : decode cX2_footOf 7 = .ok (.iload_n 2, 1) := by decide +kernel
theorem dX2_footOf_8 : decode cX2_footOf 8 = .ok (.ifCond .lt 25, 3) := by decide +kernel
theorem dX2_footOf_11 : decode cX2_footOf 11 = .ok (.aload_n 0, 1) := by decide +kernel
theorem dX2_footOf_12 : decode cX2_footOf 12 = .ok (.getfield 18, 3) := by decide +kernel
theorem dX2_footOf_15 : decode cX2_footOf 15 = .ok (.iload_n 2, 1) := by decide +kernel
theorem dX2_footOf_16 : decode cX2_footOf 16 = .ok (.laload, 1) := by decide +kernel
theorem dX2_footOf_17 : decode cX2_footOf 17 = .ok (.iload_n 1, 1) := by decide +kernel
theorem dX2_footOf_18 : decode cX2_footOf 18 = .ok (.invokestatic 58, 3) := by decide +kernel
theorem dX2_footOf_21 : decode cX2_footOf 21 = .ok (.land, 1) := by decide +kernel
theorem dX2_footOf_22 : decode cX2_footOf 22 = .ok (.lconst 0, 1) := by decide +kernel
theorem dX2_footOf_23 : decode cX2_footOf 23 = .ok (.lcmp, 1) := by decide +kernel
theorem dX2_footOf_24 : decode cX2_footOf 24 = .ok (.ifCond .ne 9, 3) := by decide +kernel
theorem dX2_footOf_27 : decode cX2_footOf 27 = .ok (.iinc 2 (-1), 3) := by decide +kernel
theorem dX2_footOf_30 : decode cX2_footOf 30 = .ok (.goto (-23), 3) := by decide +kernel
theorem dX2_footOf_33 : decode cX2_footOf 33 = .ok (.iload_n 2, 1) := by decide +kernel
theorem dX2_footOf_34 : decode cX2_footOf 34 = .ok (.ireturn, 1) := by decide +kernel
set_option maxRecDepth 20000 in
theorem ggX2_shearAcross_X4_leastSlide : GoodIn wsX2_shearAcross wsX4_leastSlide := goodIn_r _ [6, 7, 8, 9, 10, 11, 12, 5, 13, 14, 15, 16, 17] (by decide +kernel) (by decide +kernel)
set_option maxRecDepth 20000 in
theorem gX2_shearAcross_X4_leastSlide_n62 : GoodIn wsX2_shearAcross (wsX4_leastSlide) := ggX2_shearAcross_X4_leastSlide
set_option maxRecDepth 20000 in
theorem ggX2_shearAcross_X4_slide : GoodIn wsX2_shearAcross wsX4_slide := goodIn_r _ [13, 14, 15, 16, 17] (by decide +kernel) (by decide +kernel)
set_option maxRecDepth 20000 in
theorem gX2_shearAcross_X4_slide_n66 : GoodIn wsX2_shearAcross (wsX4_slide) := ggX2_shearAcross_X4_slide
set_option maxRecDepth 20000 in
theorem ggX2_shearAcross_X4_spread : GoodIn wsX2_shearAcross wsX4_spread := goodIn_r _ [19, 20, 21, 9, 22, 11, 12, 5, 13, 14, 15, 16, 17] (by decide +kernel) (by decide +kernel)
set_option maxRecDepth 20000 in
theorem gX2_shearAcross_X4_spread_n69 : GoodIn wsX2_shearAcross (wsX4_spread) := ggX2_shearAcross_X4_spread
theorem dX2_shearAcross_0 : decode cX2_shearAcross 0 = .ok (.iload_n 1, 1) := by decide +kernel
theorem dX2_shearAcross_1 : decode cX2_shearAcross 1 = .ok (.aload_n 0, 1) := by decide +kernel
theorem dX2_shearAcross_2 : decode cX2_shearAcross 2 = .ok (.getfield 15, 3) := by decide +kernel
theorem dX2_shearAcross_5 : decode cX2_shearAcross 5 = .ok (.invokestatic 62, 3) := by decide +kernel
theorem dX2_shearAcross_8 : decode cX2_shearAcross 8 = .ok (.istore_n 2, 1) := by decide +kernel
theorem dX2_shearAcross_9 : decode cX2_shearAcross 9 = .ok (.iconst 0, 1) := by decide +kernel
theorem dX2_shearAcross_10 : decode cX2_shearAcross 10 = .ok (.istore_n 3, 1) := by decide +kernel
theorem dX2_shearAcross_11 : decode cX2_shearAcross 11 = .ok (.iload_n 3, 1) := by decide +kernel
theorem dX2_shearAcross_12 : decode cX2_shearAcross 12 = .ok (.aload_n 0, 1) := by decide +kernel
theorem dX2_shearAcross_13 : decode cX2_shearAcross 13 = .ok (.getfield 15, 3) := by decide +kernel
theorem dX2_shearAcross_16 : decode cX2_shearAcross 16 = .ok (.if_icmp .ge 25, 3) := by decide +kernel
theorem dX2_shearAcross_19 : decode cX2_shearAcross 19 = .ok (.aload_n 0, 1) := by decide +kernel
theorem dX2_shearAcross_20 : decode cX2_shearAcross 20 = .ok (.getfield 18, 3) := by decide +kernel
theorem dX2_shearAcross_23 : decode cX2_shearAcross 23 = .ok (.iload_n 3, 1) := by decide +kernel
theorem dX2_shearAcross_24 : decode cX2_shearAcross 24 = .ok (.dup2, 1) := by decide +kernel
theorem dX2_shearAcross_25 : decode cX2_shearAcross 25 = .ok (.laload, 1) := by decide +kernel
theorem dX2_shearAcross_26 : decode cX2_shearAcross 26 = .ok (.iload_n 1, 1) := by decide +kernel
theorem dX2_shearAcross_27 : decode cX2_shearAcross 27 = .ok (.iload_n 3, 1) := by decide +kernel
theorem dX2_shearAcross_28 : decode cX2_shearAcross 28 = .ok (.invokestatic 66, 3) := by decide +kernel
theorem dX2_shearAcross_31 : decode cX2_shearAcross 31 = .ok (.iload_n 2, 1) := by decide +kernel
theorem dX2_shearAcross_32 : decode cX2_shearAcross 32 = .ok (.isub, 1) := by decide +kernel
theorem dX2_shearAcross_33 : decode cX2_shearAcross 33 = .ok (.lshl, 1) := by decide +kernel
theorem dX2_shearAcross_34 : decode cX2_shearAcross 34 = .ok (.lastore, 1) := by decide +kernel
theorem dX2_shearAcross_35 : decode cX2_shearAcross 35 = .ok (.iinc 3 1, 3) := by decide +kernel
theorem dX2_shearAcross_38 : decode cX2_shearAcross 38 = .ok (.goto (-27), 3) := by decide +kernel
theorem dX2_shearAcross_41 : decode cX2_shearAcross 41 = .ok (.aload_n 0, 1) := by decide +kernel
theorem dX2_shearAcross_42 : decode cX2_shearAcross 42 = .ok (.dup, 1) := by decide +kernel
theorem dX2_shearAcross_43 : decode cX2_shearAcross 43 = .ok (.getfield 9, 3) := by decide +kernel
theorem dX2_shearAcross_46 : decode cX2_shearAcross 46 = .ok (.iload_n 1, 1) := by decide +kernel
theorem dX2_shearAcross_47 : decode cX2_shearAcross 47 = .ok (.aload_n 0, 1) := by decide +kernel
theorem dX2_shearAcross_48 : decode cX2_shearAcross 48 = .ok (.getfield 15, 3) := by decide +kernel
theorem dX2_shearAcross_51 : decode cX2_shearAcross 51 = .ok (.invokestatic 69, 3) := by decide +kernel
theorem dX2_shearAcross_54 : decode cX2_shearAcross 54 = .ok (.iadd, 1) := by decide +kernel
theorem dX2_shearAcross_55 : decode cX2_shearAcross 55 = .ok (.putfield 9, 3) := by decide +kernel
theorem dX2_shearAcross_58 : decode cX2_shearAcross 58 = .ok (.return_, 1) := by decide +kernel
set_option maxRecDepth 20000 in
theorem ggX2_becomeShearedUp_X4_spread : GoodIn wsX2_becomeShearedUp wsX4_spread := goodIn_r _ [5, 6, 7, 8, 9, 10, 11, 4, 12, 13, 14, 15, 16] (by decide +kernel) (by decide +kernel)
set_option maxRecDepth 20000 in
theorem gX2_becomeShearedUp_X4_spread_n69 : GoodIn wsX2_becomeShearedUp (wsX4_spread) := ggX2_becomeShearedUp_X4_spread
set_option maxRecDepth 20000 in
theorem ggX2_becomeShearedUp_X2_empty : GoodIn wsX2_becomeShearedUp wsX2_empty := goodIn_r _ [21, 1, 2, 22, 23, 24, 25, 26, 36, 37, 38] (by decide +kernel) (by decide +kernel)
set_option maxRecDepth 20000 in
theorem gX2_becomeShearedUp_X2_empty : GoodIn wsX2_becomeShearedUp (wsV RX2 28 RX2 yX2_empty wsX2_empty) := goodIn_app (goodIn_of _ (by decide +kernel)) ggX2_becomeShearedUp_X2_empty
set_option maxRecDepth 20000 in
theorem ggX2_becomeShearedUp_X4_leastSlide : GoodIn wsX2_becomeShearedUp wsX4_leastSlide := goodIn_r _ [28, 29, 30, 8, 31, 10, 11, 4, 12, 13, 14, 15, 16] (by decide +kernel) (by decide +kernel)
set_option maxRecDepth 20000 in
theorem gX2_becomeShearedUp_X4_leastSlide_n62 : GoodIn wsX2_becomeShearedUp (wsX4_leastSlide) := ggX2_becomeShearedUp_X4_leastSlide
set_option maxRecDepth 20000 in
theorem ggX2_becomeShearedUp_X4_slide : GoodIn wsX2_becomeShearedUp wsX4_slide := goodIn_r _ [12, 13, 14, 15, 16] (by decide +kernel) (by decide +kernel)
set_option maxRecDepth 20000 in
theorem gX2_becomeShearedUp_X4_slide_n66 : GoodIn wsX2_becomeShearedUp (wsX4_slide) := ggX2_becomeShearedUp_X4_slide
set_option maxRecDepth 20000 in
theorem ggX2_becomeShearedUp_X2_addDropped : GoodIn wsX2_becomeShearedUp wsX2_addDropped := goodIn_r _ [35, 2, 22, 36, 37, 38] (by decide +kernel) (by decide +kernel)
set_option maxRecDepth 20000 in
theorem gX2_becomeShearedUp_X2_addDropped : GoodIn wsX2_becomeShearedUp (wsV RX2 72 RX2 yX2_addDropped wsX2_addDropped) := goodIn_app (goodIn_of _ (by decide +kernel)) ggX2_becomeShearedUp_X2_addDropped
theorem dX2_becomeShearedUp_0 : decode cX2_becomeShearedUp 0 = .ok (.aload_n 0, 1) := by decide +kernel
theorem dX2_becomeShearedUp_1 : decode cX2_becomeShearedUp 1 = .ok (.aload_n 1, 1) := by decide +kernel
theorem dX2_becomeShearedUp_2 : decode cX2_becomeShearedUp 2 = .ok (.getfield 9, 3) := by decide +kernel
theorem dX2_becomeShearedUp_5 : decode cX2_becomeShearedUp 5 = .ok (.aload_n 1, 1) := by decide +kernel
theorem dX2_becomeShearedUp_6 : decode cX2_becomeShearedUp 6 = .ok (.getfield 15, 3) := by decide +kernel
theorem dX2_becomeShearedUp_9 : decode cX2_becomeShearedUp 9 = .ok (.iload_n 2, 1) := by decide +kernel
theorem dX2_becomeShearedUp_10 : decode cX2_becomeShearedUp 10 = .ok (.aload_n 1, 1) := by decide +kernel
theorem dX2_becomeShearedUp_11 : decode cX2_becomeShearedUp 11 = .ok (.getfield 9, 3) := by decide +kernel
theorem dX2_becomeShearedUp_14 : decode cX2_becomeShearedUp 14 = .ok (.invokestatic 69, 3) := by decide +kernel
theorem dX2_becomeShearedUp_17 : decode cX2_becomeShearedUp 17 = .ok (.iadd, 1) := by decide +kernel
theorem dX2_becomeShearedUp_18 : decode cX2_becomeShearedUp 18 = .ok (.invokevirtual 28, 3) := by decide +kernel
theorem dX2_becomeShearedUp_21 : decode cX2_becomeShearedUp 21 = .ok (.iload_n 2, 1) := by decide +kernel
theorem dX2_becomeShearedUp_22 : decode cX2_becomeShearedUp 22 = .ok (.aload_n 0, 1) := by decide +kernel
theorem dX2_becomeShearedUp_23 : decode cX2_becomeShearedUp 23 = .ok (.getfield 9, 3) := by decide +kernel
theorem dX2_becomeShearedUp_26 : decode cX2_becomeShearedUp 26 = .ok (.invokestatic 62, 3) := by decide +kernel
theorem dX2_becomeShearedUp_29 : decode cX2_becomeShearedUp 29 = .ok (.istore_n 3, 1) := by decide +kernel
theorem dX2_becomeShearedUp_30 : decode cX2_becomeShearedUp 30 = .ok (.lconst 0, 1) := by decide +kernel
theorem dX2_becomeShearedUp_31 : decode cX2_becomeShearedUp 31 = .ok (.lstore 4, 2) := by decide +kernel
theorem dX2_becomeShearedUp_33 : decode cX2_becomeShearedUp 33 = .ok (.iconst 0, 1) := by decide +kernel
theorem dX2_becomeShearedUp_34 : decode cX2_becomeShearedUp 34 = .ok (.istore 6, 2) := by decide +kernel
theorem dX2_becomeShearedUp_36 : decode cX2_becomeShearedUp 36 = .ok (.iload 6, 2) := by decide +kernel
theorem dX2_becomeShearedUp_38 : decode cX2_becomeShearedUp 38 = .ok (.aload_n 0, 1) := by decide +kernel
theorem dX2_becomeShearedUp_39 : decode cX2_becomeShearedUp 39 = .ok (.getfield 9, 3) := by decide +kernel
theorem dX2_becomeShearedUp_42 : decode cX2_becomeShearedUp 42 = .ok (.if_icmp .ge 64, 3) := by decide +kernel
theorem dX2_becomeShearedUp_45 : decode cX2_becomeShearedUp 45 = .ok (.lload 4, 2) := by decide +kernel
theorem dX2_becomeShearedUp_47 : decode cX2_becomeShearedUp 47 = .ok (.lconst 1, 1) := by decide +kernel
theorem dX2_becomeShearedUp_48 : decode cX2_becomeShearedUp 48 = .ok (.iload 6, 2) := by decide +kernel
theorem dX2_becomeShearedUp_50 : decode cX2_becomeShearedUp 50 = .ok (.lshl, 1) := by decide +kernel
theorem dX2_becomeShearedUp_51 : decode cX2_becomeShearedUp 51 = .ok (.lor, 1) := by decide +kernel
theorem dX2_becomeShearedUp_52 : decode cX2_becomeShearedUp 52 = .ok (.lstore 4, 2) := by decide +kernel
theorem dX2_becomeShearedUp_54 : decode cX2_becomeShearedUp 54 = .ok (.iload 6, 2) := by decide +kernel
theorem dX2_becomeShearedUp_56 : decode cX2_becomeShearedUp 56 = .ok (.aload_n 0, 1) := by decide +kernel
theorem dX2_becomeShearedUp_57 : decode cX2_becomeShearedUp 57 = .ok (.getfield 9, 3) := by decide +kernel
theorem dX2_becomeShearedUp_60 : decode cX2_becomeShearedUp 60 = .ok (.iconst 1, 1) := by decide +kernel
theorem dX2_becomeShearedUp_61 : decode cX2_becomeShearedUp 61 = .ok (.isub, 1) := by decide +kernel
theorem dX2_becomeShearedUp_62 : decode cX2_becomeShearedUp 62 = .ok (.if_icmp .eq 20, 3) := by decide +kernel
theorem dX2_becomeShearedUp_65 : decode cX2_becomeShearedUp 65 = .ok (.iload_n 2, 1) := by decide +kernel
theorem dX2_becomeShearedUp_66 : decode cX2_becomeShearedUp 66 = .ok (.iload 6, 2) := by decide +kernel
theorem dX2_becomeShearedUp_68 : decode cX2_becomeShearedUp 68 = .ok (.iconst 1, 1) := by decide +kernel
theorem dX2_becomeShearedUp_69 : decode cX2_becomeShearedUp 69 = .ok (.iadd, 1) := by decide +kernel
theorem dX2_becomeShearedUp_70 : decode cX2_becomeShearedUp 70 = .ok (.invokestatic 66, 3) := by decide +kernel
theorem dX2_becomeShearedUp_73 : decode cX2_becomeShearedUp 73 = .ok (.iload_n 2, 1) := by decide +kernel
theorem dX2_becomeShearedUp_74 : decode cX2_becomeShearedUp 74 = .ok (.iload 6, 2) := by decide +kernel
theorem dX2_becomeShearedUp_76 : decode cX2_becomeShearedUp 76 = .ok (.invokestatic 66, 3) := by decide +kernel
theorem dX2_becomeShearedUp_79 : decode cX2_becomeShearedUp 79 = .ok (.if_icmp .eq 21, 3) := by decide +kernel
theorem dX2_becomeShearedUp_82 : decode cX2_becomeShearedUp 82 = .ok (.aload_n 0, 1) := by decide +kernel
theorem dX2_becomeShearedUp_83 : decode cX2_becomeShearedUp 83 = .ok (.aload_n 1, 1) := by decide +kernel
theorem dX2_becomeShearedUp_84 : decode cX2_becomeShearedUp 84 = .ok (.lload 4, 2) := by decide +kernel
theorem dX2_becomeShearedUp_86 : decode cX2_becomeShearedUp 86 = .ok (.iload_n 2, 1) := by decide +kernel
theorem dX2_becomeShearedUp_87 : decode cX2_becomeShearedUp 87 = .ok (.iload 6, 2) := by decide +kernel
theorem dX2_becomeShearedUp_89 : decode cX2_becomeShearedUp 89 = .ok (.invokestatic 66, 3) := by decide +kernel
theorem dX2_becomeShearedUp_92 : decode cX2_becomeShearedUp 92 = .ok (.iload_n 3, 1) := by decide +kernel
theorem dX2_becomeShearedUp_93 : decode cX2_becomeShearedUp 93 = .ok (.isub, 1) := by decide +kernel
theorem dX2_becomeShearedUp_94 : decode cX2_becomeShearedUp 94 = .ok (.invokevirtual 72, 3) := by decide +kernel
theorem dX2_becomeShearedUp_97 : decode cX2_becomeShearedUp 97 = .ok (.lconst 0, 1) := by decide +kernel
theorem dX2_becomeShearedUp_98 : decode cX2_becomeShearedUp 98 = .ok (.lstore 4, 2) := by decide +kernel
theorem dX2_becomeShearedUp_100 : decode cX2_becomeShearedUp 100 = .ok (.iinc 6 1, 3) := by decide +kernel
theorem dX2_becomeShearedUp_103 : decode cX2_becomeShearedUp 103 = .ok (.goto (-67), 3) := by decide +kernel
theorem dX2_becomeShearedUp_106 : decode cX2_becomeShearedUp 106 = .ok (.return_, 1) := by decide +kernel
theorem dX2_addDropped_0 : decode cX2_addDropped 0 = .ok (.iconst 0, 1) := by decide +kernel
theorem dX2_addDropped_1 : decode cX2_addDropped 1 = .ok (.istore 5, 2) := by decide +kernel
theorem dX2_addDropped_3 : decode cX2_addDropped 3 = .ok (.iload 5, 2) := by decide +kernel
theorem dX2_addDropped_5 : decode cX2_addDropped 5 = .ok (.aload_n 1, 1) := by decide +kernel
theorem dX2_addDropped_6 : decode cX2_addDropped 6 = .ok (.getfield 15, 3) := by decide +kernel
theorem dX2_addDropped_9 : decode cX2_addDropped 9 = .ok (.if_icmp .ge 43, 3) := by decide +kernel
theorem dX2_addDropped_12 : decode cX2_addDropped 12 = .ok (.iload 5, 2) := by decide +kernel
theorem dX2_addDropped_14 : decode cX2_addDropped 14 = .ok (.iload 4, 2) := by decide +kernel
theorem dX2_addDropped_16 : decode cX2_addDropped 16 = .ok (.iadd, 1) := by decide +kernel
theorem dX2_addDropped_17 : decode cX2_addDropped 17 = .ok (.aload_n 0, 1) := by decide +kernel
theorem dX2_addDropped_18 : decode cX2_addDropped 18 = .ok (.getfield 15, 3) := by decide +kernel
theorem dX2_addDropped_21 : decode cX2_addDropped 21 = .ok (.if_icmp .ge 31, 3) := by decide +kernel
theorem dX2_addDropped_24 : decode cX2_addDropped 24 = .ok (.aload_n 0, 1) := by decide +kernel
theorem dX2_addDropped_25 : decode cX2_addDropped 25 = .ok (.getfield 18, 3) := by decide +kernel
theorem dX2_addDropped_28 : decode cX2_addDropped 28 = .ok (.iload 5, 2) := by decide +kernel
theorem dX2_addDropped_30 : decode cX2_addDropped 30 = .ok (.iload 4, 2) := by decide +kernel
theorem dX2_addDropped_32 : decode cX2_addDropped 32 = .ok (.iadd, 1) := by decide +kernel
theorem dX2_addDropped_33 : decode cX2_addDropped 33 = .ok (.dup2, 1) := by decide +kernel
theorem dX2_addDropped_34 : decode cX2_addDropped 34 = .ok (.laload, 1) := by decide +kernel
theorem dX2_addDropped_35 : decode cX2_addDropped 35 = .ok (.aload_n 1, 1) := by decide +kernel
theorem dX2_addDropped_36 : decode cX2_addDropped 36 = .ok (.getfield 18, 3) := by decide +kernel
theorem dX2_addDropped_39 : decode cX2_addDropped 39 = .ok (.iload 5, 2) := by decide +kernel
theorem dX2_addDropped_41 : decode cX2_addDropped 41 = .ok (.laload, 1) := by decide +kernel
theorem dX2_addDropped_42 : decode cX2_addDropped 42 = .ok (.lload_n 2, 1) := by decide +kernel
theorem dX2_addDropped_43 : decode cX2_addDropped 43 = .ok (.land, 1) := by decide +kernel
theorem dX2_addDropped_44 : decode cX2_addDropped 44 = .ok (.lor, 1) := by decide +kernel
theorem dX2_addDropped_45 : decode cX2_addDropped 45 = .ok (.lastore, 1) := by decide +kernel
theorem dX2_addDropped_46 : decode cX2_addDropped 46 = .ok (.iinc 5 1, 3) := by decide +kernel
theorem dX2_addDropped_49 : decode cX2_addDropped 49 = .ok (.goto (-46), 3) := by decide +kernel
theorem dX2_addDropped_52 : decode cX2_addDropped 52 = .ok (.return_, 1) := by decide +kernel
set_option maxRecDepth 20000 in
theorem ggX2_isDark_X2_columnInk : GoodIn wsX2_isDark wsX2_columnInk := goodIn_r _ [6, 1, 7, 8, 9, 10] (by decide +kernel) (by decide +kernel)
set_option maxRecDepth 20000 in
theorem gX2_isDark_X2_columnInk : GoodIn wsX2_isDark (wsV RX2 76 RX2 yX2_columnInk wsX2_columnInk) := goodIn_app (goodIn_of _ (by decide +kernel)) ggX2_isDark_X2_columnInk
theorem dX2_isDark_0 : decode cX2_isDark 0 = .ok (.aload_n 0, 1) := by decide +kernel
theorem dX2_isDark_1 : decode cX2_isDark 1 = .ok (.iload_n 1, 1) := by decide +kernel
theorem dX2_isDark_2 : decode cX2_isDark 2 = .ok (.invokevirtual 76, 3) := by decide +kernel
theorem dX2_isDark_5 : decode cX2_isDark 5 = .ok (.bipush 100, 2) := by decide +kernel
theorem dX2_isDark_7 : decode cX2_isDark 7 = .ok (.imul, 1) := by decide +kernel
theorem dX2_isDark_8 : decode cX2_isDark 8 = .ok (.iload_n 2, 1) := by decide +kernel
theorem dX2_isDark_9 : decode cX2_isDark 9 = .ok (.aload_n 0, 1) := by decide +kernel
theorem dX2_isDark_10 : decode cX2_isDark 10 = .ok (.getfield 15, 3) := by decide +kernel
theorem dX2_isDark_13 : decode cX2_isDark 13 = .ok (.imul, 1) := by decide +kernel
theorem dX2_isDark_14 : decode cX2_isDark 14 = .ok (.if_icmp .lt 7, 3) := by decide +kernel
theorem dX2_isDark_17 : decode cX2_isDark 17 = .ok (.iconst 1, 1) := by decide +kernel
theorem dX2_isDark_18 : decode cX2_isDark 18 = .ok (.goto 4, 3) := by decide +kernel
theorem dX2_isDark_21 : decode cX2_isDark 21 = .ok (.iconst 0, 1) := by decide +kernel
theorem dX2_isDark_22 : decode cX2_isDark 22 = .ok (.ireturn, 1) := by decide +kernel
set_option maxRecDepth 20000 in
theorem ggX2_shadowColumns_X2_isDark : GoodIn wsX2_shadowColumns wsX2_isDark := goodIn_r _ [6, 7, 8, 9, 10, 5, 11, 12, 18, 19, 20] (by decide +kernel) (by decide +kernel)
set_option maxRecDepth 20000 in
theorem gX2_shadowColumns_X2_isDark : GoodIn wsX2_shadowColumns (wsV RX2 80 RX2 yX2_isDark wsX2_isDark) := goodIn_app (goodIn_of _ (by decide +kernel)) ggX2_shadowColumns_X2_isDark
set_option maxRecDepth 20000 in
theorem ggX2_shadowColumns_X2_allColumns : GoodIn wsX2_shadowColumns wsX2_allColumns := goodIn_r _ [16, 1, 17, 18, 19, 20] (by decide +kernel) (by decide +kernel)
set_option maxRecDepth 20000 in
theorem gX2_shadowColumns_X2_allColumns : GoodIn wsX2_shadowColumns (wsV RX2 84 RX2 yX2_allColumns wsX2_allColumns) := goodIn_app (goodIn_of _ (by decide +kernel)) ggX2_shadowColumns_X2_allColumns
theorem dX2_shadowColumns_0 : decode cX2_shadowColumns 0 = .ok (.lconst 0, 1) := by decide +kernel
theorem dX2_shadowColumns_1 : decode cX2_shadowColumns 1 = .ok (.lstore_n 2, 1) := by decide +kernel
theorem dX2_shadowColumns_2 : decode cX2_shadowColumns 2 = .ok (.iconst 0, 1) := by decide +kernel
theorem dX2_shadowColumns_3 : decode cX2_shadowColumns 3 = .ok (.istore 4, 2) := by decide +kernel
theorem dX2_shadowColumns_5 : decode cX2_shadowColumns 5 = .ok (.iload 4, 2) := by decide +kernel
theorem dX2_shadowColumns_7 : decode cX2_shadowColumns 7 = .ok (.aload_n 0, 1) := by decide +kernel
theorem dX2_shadowColumns_8 : decode cX2_shadowColumns 8 = .ok (.getfield 9, 3) := by decide +kernel
theorem dX2_shadowColumns_11 : decode cX2_shadowColumns 11 = .ok (.if_icmp .ge 26, 3) := by decide +kernel
theorem dX2_shadowColumns_14 : decode cX2_shadowColumns 14 = .ok (.aload_n 0, 1) := by decide +kernel
theorem dX2_shadowColumns_15 : decode cX2_shadowColumns 15 = .ok (.iload 4, 2) := by decide +kernel
theorem dX2_shadowColumns_17 : decode cX2_shadowColumns 17 = .ok (.iload_n 1, 1) := by decide +kernel
theorem dX2_shadowColumns_18 : decode cX2_shadowColumns 18 = .ok (.invokevirtual 80, 3) := by decide +kernel
theorem dX2_shadowColumns_21 : decode cX2_shadowColumns 21 = .ok (.ifCond .eq 16, 3) := by decide +kernel
theorem dX2_shadowColumns_24 : decode cX2_shadowColumns 24 = .ok (.lload_n 2, 1) := by decide +kernel
theorem dX2_shadowColumns_25 : decode cX2_shadowColumns 25 = .ok (.lconst 1, 1) := by decide +kernel
theorem dX2_shadowColumns_26 : decode cX2_shadowColumns 26 = .ok (.iload 4, 2) := by decide +kernel
theorem dX2_shadowColumns_28 : decode cX2_shadowColumns 28 = .ok (.lshl, 1) := by decide +kernel
theorem dX2_shadowColumns_29 : decode cX2_shadowColumns 29 = .ok (.lor, 1) := by decide +kernel
theorem dX2_shadowColumns_30 : decode cX2_shadowColumns 30 = .ok (.lstore_n 2, 1) := by decide +kernel
theorem dX2_shadowColumns_31 : decode cX2_shadowColumns 31 = .ok (.iinc 4 1, 3) := by decide +kernel
theorem dX2_shadowColumns_34 : decode cX2_shadowColumns 34 = .ok (.goto (-29), 3) := by decide +kernel
theorem dX2_shadowColumns_37 : decode cX2_shadowColumns 37 = .ok (.lload_n 2, 1) := by decide +kernel
theorem dX2_shadowColumns_38 : decode cX2_shadowColumns 38 = .ok (.aload_n 0, 1) := by decide +kernel
theorem dX2_shadowColumns_39 : decode cX2_shadowColumns 39 = .ok (.invokevirtual 84, 3) := by decide +kernel
theorem dX2_shadowColumns_42 : decode cX2_shadowColumns 42 = .ok (.lcmp, 1) := by decide +kernel
theorem dX2_shadowColumns_43 : decode cX2_shadowColumns 43 = .ok (.ifCond .ne 5, 3) := by decide +kernel
theorem dX2_shadowColumns_46 : decode cX2_shadowColumns 46 = .ok (.lconst 0, 1) := by decide +kernel
theorem dX2_shadowColumns_47 : decode cX2_shadowColumns 47 = .ok (.lreturn, 1) := by decide +kernel
theorem dX2_shadowColumns_48 : decode cX2_shadowColumns 48 = .ok (.aload_n 0, 1) := by decide +kernel
theorem dX2_shadowColumns_49 : decode cX2_shadowColumns 49 = .ok (.getfield 9, 3) := by decide +kernel
theorem dX2_shadowColumns_52 : decode cX2_shadowColumns 52 = .ok (.iconst 1, 1) := by decide +kernel
theorem dX2_shadowColumns_53 : decode cX2_shadowColumns 53 = .ok (.isub, 1) := by decide +kernel
theorem dX2_shadowColumns_54 : decode cX2_shadowColumns 54 = .ok (.istore 4, 2) := by decide +kernel
theorem dX2_shadowColumns_56 : decode cX2_shadowColumns 56 = .ok (.iload 4, 2) := by decide +kernel
theorem dX2_shadowColumns_58 : decode cX2_shadowColumns 58 = .ok (.ifCond .lt 26, 3) := by decide +kernel
theorem dX2_shadowColumns_61 : decode cX2_shadowColumns 61 = .ok (.aload_n 0, 1) := by decide +kernel
theorem dX2_shadowColumns_62 : decode cX2_shadowColumns 62 = .ok (.iload 4, 2) := by decide +kernel
theorem dX2_shadowColumns_64 : decode cX2_shadowColumns 64 = .ok (.iload_n 1, 1) := by decide +kernel
theorem dX2_shadowColumns_65 : decode cX2_shadowColumns 65 = .ok (.invokevirtual 80, 3) := by decide +kernel
theorem dX2_shadowColumns_68 : decode cX2_shadowColumns 68 = .ok (.ifCond .eq 16, 3) := by decide +kernel
theorem dX2_shadowColumns_71 : decode cX2_shadowColumns 71 = .ok (.lload_n 2, 1) := by decide +kernel
theorem dX2_shadowColumns_72 : decode cX2_shadowColumns 72 = .ok (.lconst 1, 1) := by decide +kernel
theorem dX2_shadowColumns_73 : decode cX2_shadowColumns 73 = .ok (.iload 4, 2) := by decide +kernel
theorem dX2_shadowColumns_75 : decode cX2_shadowColumns 75 = .ok (.lshl, 1) := by decide +kernel
theorem dX2_shadowColumns_76 : decode cX2_shadowColumns 76 = .ok (.lor, 1) := by decide +kernel
theorem dX2_shadowColumns_77 : decode cX2_shadowColumns 77 = .ok (.lstore_n 2, 1) := by decide +kernel
theorem dX2_shadowColumns_78 : decode cX2_shadowColumns 78 = .ok (.iinc 4 (-1), 3) := by decide +kernel
theorem dX2_shadowColumns_81 : decode cX2_shadowColumns 81 = .ok (.goto (-25), 3) := by decide +kernel
theorem dX2_shadowColumns_84 : decode cX2_shadowColumns 84 = .ok (.lload_n 2, 1) := by decide +kernel
theorem dX2_shadowColumns_85 : decode cX2_shadowColumns 85 = .ok (.lreturn, 1) := by decide +kernel
set_option maxRecDepth 20000 in
theorem ggX2_faintestColumn_X2_columnInk : GoodIn wsX2_faintestColumn wsX2_columnInk := goodIn_r _ [9, 10, 11, 12, 13, 14] (by decide +kernel) (by decide +kernel)
set_option maxRecDepth 20000 in
theorem gX2_faintestColumn_X2_columnInk : GoodIn wsX2_faintestColumn (wsV RX2 76 RX2 yX2_columnInk wsX2_columnInk) := goodIn_app (goodIn_of _ (by decide +kernel)) ggX2_faintestColumn_X2_columnInk
theorem dX2_faintestColumn_0 : decode cX2_faintestColumn 0 = .ok (.iload_n 1, 1) := by decide +kernel
theorem dX2_faintestColumn_1 : decode cX2_faintestColumn 1 = .ok (.istore_n 3, 1) := by decide +kernel
theorem dX2_faintestColumn_2 : decode cX2_faintestColumn 2 = .ok (.aload_n 0, 1) := by decide +kernel
theorem dX2_faintestColumn_3 : decode cX2_faintestColumn 3 = .ok (.iload_n 1, 1) := by decide +kernel
theorem dX2_faintestColumn_4 : decode cX2_faintestColumn 4 = .ok (.invokevirtual 76, 3) := by decide +kernel
theorem dX2_faintestColumn_7 : decode cX2_faintestColumn 7 = .ok (.istore 4, 2) := by decide +kernel
theorem dX2_faintestColumn_9 : decode cX2_faintestColumn 9 = .ok (.iload_n 1, 1) := by decide +kernel
theorem dX2_faintestColumn_10 : decode cX2_faintestColumn 10 = .ok (.iconst 1, 1) := by decide +kernel
theorem dX2_faintestColumn_11 : decode cX2_faintestColumn 11 = .ok (.iadd, 1) := by decide +kernel
theorem dX2_faintestColumn_12 : decode cX2_faintestColumn 12 = .ok (.istore 5, 2) := by decide +kernel
theorem dX2_faintestColumn_14 : decode cX2_faintestColumn 14 = .ok (.iload 5, 2) := by decide +kernel
theorem dX2_faintestColumn_16 : decode cX2_faintestColumn 16 = .ok (.iload_n 2, 1) := by decide +kernel
theorem dX2_faintestColumn_17 : decode cX2_faintestColumn 17 = .ok (.if_icmp .gt 74, 3) := by decide +kernel
theorem dX2_faintestColumn_20 : decode cX2_faintestColumn 20 = .ok (.aload_n 0, 1) := by decide +kernel
theorem dX2_faintestColumn_21 : decode cX2_faintestColumn 21 = .ok (.iload 5, 2) := by decide +kernel
theorem dX2_faintestColumn_23 : decode cX2_faintestColumn 23 = .ok (.invokevirtual 76, 3) := by decide +kernel
theorem dX2_faintestColumn_26 : decode cX2_faintestColumn 26 = .ok (.istore 6, 2) := by decide +kernel
theorem dX2_faintestColumn_28 : decode cX2_faintestColumn 28 = .ok (.iconst 2, 1) := by decide +kernel
theorem dX2_faintestColumn_29 : decode cX2_faintestColumn 29 = .ok (.iload 5, 2) := by decide +kernel
theorem dX2_faintestColumn_31 : decode cX2_faintestColumn 31 = .ok (.imul, 1) := by decide +kernel
theorem dX2_faintestColumn_32 : decode cX2_faintestColumn 32 = .ok (.iload_n 1, 1) := by decide +kernel
theorem dX2_faintestColumn_33 : decode cX2_faintestColumn 33 = .ok (.isub, 1) := by decide +kernel
theorem dX2_faintestColumn_34 : decode cX2_faintestColumn 34 = .ok (.iload_n 2, 1) := by decide +kernel
theorem dX2_faintestColumn_35 : decode cX2_faintestColumn 35 = .ok (.isub, 1) := by decide +kernel
theorem dX2_faintestColumn_36 : decode cX2_faintestColumn 36 = .ok (.invokestatic 87, 3) := by decide +kernel
theorem dX2_faintestColumn_39 : decode cX2_faintestColumn 39 = .ok (.iconst 2, 1) := by decide +kernel
theorem dX2_faintestColumn_40 : decode cX2_faintestColumn 40 = .ok (.iload_n 3, 1) := by decide +kernel
theorem dX2_faintestColumn_41 : decode cX2_faintestColumn 41 = .ok (.imul, 1) := by decide +kernel
theorem dX2_faintestColumn_42 : decode cX2_faintestColumn 42 = .ok (.iload_n 1, 1) := by decide +kernel
theorem dX2_faintestColumn_43 : decode cX2_faintestColumn 43 = .ok (.isub, 1) := by decide +kernel
theorem dX2_faintestColumn_44 : decode cX2_faintestColumn 44 = .ok (.iload_n 2, 1) := by decide +kernel
theorem dX2_faintestColumn_45 : decode cX2_faintestColumn 45 = .ok (.isub, 1) := by decide +kernel
theorem dX2_faintestColumn_46 : decode cX2_faintestColumn 46 = .ok (.invokestatic 87, 3) := by decide +kernel
theorem dX2_faintestColumn_49 : decode cX2_faintestColumn 49 = .ok (.if_icmp .ge 7, 3) := by decide +kernel
theorem dX2_faintestColumn_52 : decode cX2_faintestColumn 52 = .ok (.iconst 1, 1) := by decide +kernel
theorem dX2_faintestColumn_53 : decode cX2_faintestColumn 53 = .ok (.goto 4, 3) := by decide +kernel
theorem dX2_faintestColumn_56 : decode cX2_faintestColumn 56 = .ok (.iconst 0, 1) := by decide +kernel
theorem dX2_faintestColumn_57 : decode cX2_faintestColumn 57 = .ok (.istore 7, 2) := by decide +kernel
theorem dX2_faintestColumn_59 : decode cX2_faintestColumn 59 = .ok (.iload 6, 2) := by decide +kernel
theorem dX2_faintestColumn_61 : decode cX2_faintestColumn 61 = .ok (.iload 4, 2) := by decide +kernel
theorem dX2_faintestColumn_63 : decode cX2_faintestColumn 63 = .ok (.if_icmp .lt 15, 3) := by decide +kernel
theorem dX2_faintestColumn_66 : decode cX2_faintestColumn 66 = .ok (.iload 6, 2) := by decide +kernel
theorem dX2_faintestColumn_68 : decode cX2_faintestColumn 68 = .ok (.iload 4, 2) := by decide +kernel
theorem dX2_faintestColumn_70 : decode cX2_faintestColumn 70 = .ok (.if_icmp .ne 15, 3) := by decide +kernel
theorem dX2_faintestColumn_73 : decode cX2_faintestColumn 73 = .ok (.iload 7, 2) := by decide +kernel
theorem dX2_faintestColumn_75 : decode cX2_faintestColumn 75 = .ok (.ifCond .eq 10, 3) := by decide +kernel
theorem dX2_faintestColumn_78 : decode cX2_faintestColumn 78 = .ok (.iload 6, 2) := by decide +kernel
theorem dX2_faintestColumn_80 : decode cX2_faintestColumn 80 = .ok (.istore 4, 2) := by decide +kernel
theorem dX2_faintestColumn_82 : decode cX2_faintestColumn 82 = .ok (.iload 5, 2) := by decide +kernel
theorem dX2_faintestColumn_84 : decode cX2_faintestColumn 84 = .ok (.istore_n 3, 1) := by decide +kernel
theorem dX2_faintestColumn_85 : decode cX2_faintestColumn 85 = .ok (.iinc 5 1, 3) := by decide +kernel
theorem dX2_faintestColumn_88 : decode cX2_faintestColumn 88 = .ok (.goto (-74), 3) := by decide +kernel
theorem dX2_faintestColumn_91 : decode cX2_faintestColumn 91 = .ok (.iload_n 3, 1) := by decide +kernel
theorem dX2_faintestColumn_92 : decode cX2_faintestColumn 92 = .ok (.ireturn, 1) := by decide +kernel
set_option maxRecDepth 20000 in
theorem ggX2_moveRightPart_X2_empty : GoodIn wsX2_moveRightPart wsX2_empty := goodIn_r _ [8, 1, 2, 3, 9, 10, 11, 12, 18, 19, 20] (by decide +kernel) (by decide +kernel)
set_option maxRecDepth 20000 in
theorem gX2_moveRightPart_X2_empty : GoodIn wsX2_moveRightPart (wsV RX2 28 RX2 yX2_empty wsX2_empty) := goodIn_app (goodIn_of _ (by decide +kernel)) ggX2_moveRightPart_X2_empty
set_option maxRecDepth 20000 in
theorem ggX2_moveRightPart_X2_allColumns : GoodIn wsX2_moveRightPart wsX2_allColumns := goodIn_r _ [16, 1, 17, 18, 19, 20] (by decide +kernel) (by decide +kernel)
set_option maxRecDepth 20000 in
theorem gX2_moveRightPart_X2_allColumns : GoodIn wsX2_moveRightPart (wsV RX2 84 RX2 yX2_allColumns wsX2_allColumns) := goodIn_app (goodIn_of _ (by decide +kernel)) ggX2_moveRightPart_X2_allColumns
theorem dX2_moveRightPart_0 : decode cX2_moveRightPart 0 = .ok (.aload_n 2, 1) := by decide +kernel
theorem dX2_moveRightPart_1 : decode cX2_moveRightPart 1 = .ok (.aload_n 0, 1) := by decide +kernel
theorem dX2_moveRightPart_2 : decode cX2_moveRightPart 2 = .ok (.getfield 9, 3) := by decide +kernel
theorem dX2_moveRightPart_5 : decode cX2_moveRightPart 5 = .ok (.iload_n 1, 1) := by decide +kernel
theorem dX2_moveRightPart_6 : decode cX2_moveRightPart 6 = .ok (.isub, 1) := by decide +kernel
theorem dX2_moveRightPart_7 : decode cX2_moveRightPart 7 = .ok (.aload_n 0, 1) := by decide +kernel
theorem dX2_moveRightPart_8 : decode cX2_moveRightPart 8 = .ok (.getfield 15, 3) := by decide +kernel
theorem dX2_moveRightPart_11 : decode cX2_moveRightPart 11 = .ok (.invokevirtual 28, 3) := by decide +kernel
theorem dX2_moveRightPart_14 : decode cX2_moveRightPart 14 = .ok (.aload_n 0, 1) := by decide +kernel
theorem dX2_moveRightPart_15 : decode cX2_moveRightPart 15 = .ok (.iload_n 1, 1) := by decide +kernel
theorem dX2_moveRightPart_16 : decode cX2_moveRightPart 16 = .ok (.putfield 9, 3) := by decide +kernel
theorem dX2_moveRightPart_19 : decode cX2_moveRightPart 19 = .ok (.iconst 0, 1) := by decide +kernel
theorem dX2_moveRightPart_20 : decode cX2_moveRightPart 20 = .ok (.istore_n 3, 1) := by decide +kernel
theorem dX2_moveRightPart_21 : decode cX2_moveRightPart 21 = .ok (.iload_n 3, 1) := by decide +kernel
theorem dX2_moveRightPart_22 : decode cX2_moveRightPart 22 = .ok (.aload_n 0, 1) := by decide +kernel
theorem dX2_moveRightPart_23 : decode cX2_moveRightPart 23 = .ok (.getfield 15, 3) := by decide +kernel
theorem dX2_moveRightPart_26 : decode cX2_moveRightPart 26 = .ok (.if_icmp .ge 36, 3) := by decide +kernel
theorem dX2_moveRightPart_29 : decode cX2_moveRightPart 29 = .ok (.aload_n 2, 1) := by decide +kernel
theorem dX2_moveRightPart_30 : decode cX2_moveRightPart 30 = .ok (.getfield 18, 3) := by decide +kernel
theorem dX2_moveRightPart_33 : decode cX2_moveRightPart 33 = .ok (.iload_n 3, 1) := by decide +kernel
theorem dX2_moveRightPart_34 : decode cX2_moveRightPart 34 = .ok (.aload_n 0, 1) := by decide +kernel
theorem dX2_moveRightPart_35 : decode cX2_moveRightPart 35 = .ok (.getfield 18, 3) := by decide +kernel
theorem dX2_moveRightPart_38 : decode cX2_moveRightPart 38 = .ok (.iload_n 3, 1) := by decide +kernel
theorem dX2_moveRightPart_39 : decode cX2_moveRightPart 39 = .ok (.laload, 1) := by decide +kernel
theorem dX2_moveRightPart_40 : decode cX2_moveRightPart 40 = .ok (.iload_n 1, 1) := by decide +kernel
theorem dX2_moveRightPart_41 : decode cX2_moveRightPart 41 = .ok (.lushr, 1) := by decide +kernel
theorem dX2_moveRightPart_42 : decode cX2_moveRightPart 42 = .ok (.lastore, 1) := by decide +kernel
theorem dX2_moveRightPart_43 : decode cX2_moveRightPart 43 = .ok (.aload_n 0, 1) := by decide +kernel
theorem dX2_moveRightPart_44 : decode cX2_moveRightPart 44 = .ok (.getfield 18, 3) := by decide +kernel
theorem dX2_moveRightPart_47 : decode cX2_moveRightPart 47 = .ok (.iload_n 3, 1) := by decide +kernel
theorem dX2_moveRightPart_48 : decode cX2_moveRightPart 48 = .ok (.dup2, 1) := by decide +kernel
theorem dX2_moveRightPart_49 : decode cX2_moveRightPart 49 = .ok (.laload, 1) := by decide +kernel
theorem dX2_moveRightPart_50 : decode cX2_moveRightPart 50 = .ok (.aload_n 0, 1) := by decide +kernel
theorem dX2_moveRightPart_51 : decode cX2_moveRightPart 51 = .ok (.invokevirtual 84, 3) := by decide +kernel
theorem dX2_moveRightPart_54 : decode cX2_moveRightPart 54 = .ok (.land, 1) := by decide +kernel
theorem dX2_moveRightPart_55 : decode cX2_moveRightPart 55 = .ok (.lastore, 1) := by decide +kernel
theorem dX2_moveRightPart_56 : decode cX2_moveRightPart 56 = .ok (.iinc 3 1, 3) := by decide +kernel
theorem dX2_moveRightPart_59 : decode cX2_moveRightPart 59 = .ok (.goto (-38), 3) := by decide +kernel
theorem dX2_moveRightPart_62 : decode cX2_moveRightPart 62 = .ok (.return_, 1) := by decide +kernel
set_option maxRecDepth 20000 in
theorem ggX3_init_X2_init : GoodIn wsX3_init wsX2_init := goodIn_r _ [20, 21, 2, 3, 22, 23, 11, 24, 25, 26, 27] (by decide +kernel) (by decide +kernel)
set_option maxRecDepth 20000 in
theorem gX3_init_X2_init : GoodIn wsX3_init (wsX2_init) := ggX3_init_X2_init
theorem dX3_init_0 : decode cX3_init 0 = .ok (.aload_n 0, 1) := by decide +kernel
theorem dX3_init_1 : decode cX3_init 1 = .ok (.invokespecial 3, 3) := by decide +kernel
theorem dX3_init_4 : decode cX3_init 4 = .ok (.aload_n 0, 1) := by decide +kernel
theorem dX3_init_5 : decode cX3_init 5 = .ok (.new 9, 3) := by decide +kernel
theorem dX3_init_8 : decode cX3_init 8 = .ok (.dup, 1) := by decide +kernel
theorem dX3_init_9 : decode cX3_init 9 = .ok (.bipush 64, 2) := by decide +kernel
theorem dX3_init_11 : decode cX3_init 11 = .ok (.invokespecial 11, 3) := by decide +kernel
theorem dX3_init_14 : decode cX3_init 14 = .ok (.putfield 14, 3) := by decide +kernel
theorem dX3_init_17 : decode cX3_init 17 = .ok (.aload_n 0, 1) := by decide +kernel
theorem dX3_init_18 : decode cX3_init 18 = .ok (.new 9, 3) := by decide +kernel
theorem dX3_init_21 : decode cX3_init 21 = .ok (.dup, 1) := by decide +kernel
theorem dX3_init_22 : decode cX3_init 22 = .ok (.bipush 64, 2) := by decide +kernel
theorem dX3_init_24 : decode cX3_init 24 = .ok (.invokespecial 11, 3) := by decide +kernel
theorem dX3_init_27 : decode cX3_init 27 = .ok (.putfield 20, 3) := by decide +kernel
theorem dX3_init_30 : decode cX3_init 30 = .ok (.aload_n 0, 1) := by decide +kernel
theorem dX3_init_31 : decode cX3_init 31 = .ok (.new 9, 3) := by decide +kernel
theorem dX3_init_34 : decode cX3_init 34 = .ok (.dup, 1) := by decide +kernel
theorem dX3_init_35 : decode cX3_init 35 = .ok (.bipush 64, 2) := by decide +kernel
theorem dX3_init_37 : decode cX3_init 37 = .ok (.invokespecial 11, 3) := by decide +kernel
theorem dX3_init_40 : decode cX3_init 40 = .ok (.putfield 23, 3) := by decide +kernel
theorem dX3_init_43 : decode cX3_init 43 = .ok (.aload_n 0, 1) := by decide +kernel
theorem dX3_init_44 : decode cX3_init 44 = .ok (.new 9, 3) := by decide +kernel
theorem dX3_init_47 : decode cX3_init 47 = .ok (.dup, 1) := by decide +kernel
theorem dX3_init_48 : decode cX3_init 48 = .ok (.bipush 64, 2) := by decide +kernel
theorem dX3_init_50 : decode cX3_init 50 = .ok (.invokespecial 11, 3) := by decide +kernel
theorem dX3_init_53 : decode cX3_init 53 = .ok (.putfield 26, 3) := by decide +kernel
theorem dX3_init_56 : decode cX3_init 56 = .ok (.aload_n 0, 1) := by decide +kernel
theorem dX3_init_57 : decode cX3_init 57 = .ok (.bipush 64, 2) := by decide +kernel
theorem dX3_init_59 : decode cX3_init 59 = .ok (.newarray .long, 2) := by decide +kernel
theorem dX3_init_61 : decode cX3_init 61 = .ok (.putfield 29, 3) := by decide +kernel
theorem dX3_init_64 : decode cX3_init 64 = .ok (.aload_n 0, 1) := by decide +kernel
theorem dX3_init_65 : decode cX3_init 65 = .ok (.lconst 0, 1) := by decide +kernel
theorem dX3_init_66 : decode cX3_init 66 = .ok (.putfield 33, 3) := by decide +kernel
theorem dX3_init_69 : decode cX3_init 69 = .ok (.aload_n 0, 1) := by decide +kernel
theorem dX3_init_70 : decode cX3_init 70 = .ok (.iconst 0, 1) := by decide +kernel
theorem dX3_init_71 : decode cX3_init 71 = .ok (.putfield 37, 3) := by decide +kernel
theorem dX3_init_74 : decode cX3_init 74 = .ok (.aload_n 0, 1) := by decide +kernel
theorem dX3_init_75 : decode cX3_init 75 = .ok (.iconst 0, 1) := by decide +kernel
theorem dX3_init_76 : decode cX3_init 76 = .ok (.putfield 41, 3) := by decide +kernel
theorem dX3_init_79 : decode cX3_init 79 = .ok (.aload_n 0, 1) := by decide +kernel
theorem dX3_init_80 : decode cX3_init 80 = .ok (.iconst (-1), 1) := by decide +kernel
theorem dX3_init_81 : decode cX3_init 81 = .ok (.putfield 44, 3) := by decide +kernel
theorem dX3_init_84 : decode cX3_init 84 = .ok (.aload_n 0, 1) := by decide +kernel
theorem dX3_init_85 : decode cX3_init 85 = .ok (.iconst 0, 1) := by decide +kernel
theorem dX3_init_86 : decode cX3_init 86 = .ok (.putfield 47, 3) := by decide +kernel
theorem dX3_init_89 : decode cX3_init 89 = .ok (.return_, 1) := by decide +kernel
set_option maxRecDepth 20000 in
theorem ggX3_number_X3_begin : GoodIn wsX3_number wsX3_begin := goodIn_r _ [5, 6, 7, 8, 9, 10, 11, 12, 13, 14, 15, 16, 17, 18, 19, 20, 21, 22, 23, 24, 25, 26, 27, 28, 29, 30, 31, 32, 33, 83, 84, 85, 86, 87, 88, 89, 90, 91, 92, 93, 94, 95] (by decide +kernel) (by decide +kernel)
set_option maxRecDepth 20000 in
theorem gX3_number_X3_begin : GoodIn wsX3_number (wsV RX3 50 RX3 yX3_begin wsX3_begin) := goodIn_app (goodIn_of _ (by decide +kernel)) ggX3_number_X3_begin
set_option maxRecDepth 20000 in
theorem ggX3_number_X3_next : GoodIn wsX3_number wsX3_next := goodIn_r _ [37, 12, 6, 9, 38, 10, 11, 39, 40, 41, 42, 4, 43, 7, 44, 45, 46, 47, 48, 49, 50, 51, 52, 53, 54, 55, 56, 57, 58, 59, 60, 16, 61, 19, 62, 63, 64, 65, 66, 67, 68, 69, 70, 71, 72, 73, 74, 75, 76, 77, 78, 79, 80, 81, 82, 83, 84, 85, 86, 87, 88, 89, 90, 91, 92, 93, 94, 95] (by decide +kernel) (by decide +kernel)
set_option maxRecDepth 20000 in
theorem gX3_number_X3_next : GoodIn wsX3_number (wsV RX3 54 RX3 yX3_next wsX3_next) := goodIn_app (goodIn_of _ (by decide +kernel)) ggX3_number_X3_next
theorem dX3_number_0 : decode cX3_number 0 = .ok (.aload_n 0, 1) := by decide +kernel
theorem dX3_number_1 : decode cX3_number 1 = .ok (.aload_n 1, 1) := by decide +kernel
theorem dX3_number_2 : decode cX3_number 2 = .ok (.invokevirtual 50, 3) := by decide +kernel
theorem dX3_number_5 : decode cX3_number 5 = .ok (.iconst 0, 1) := by decide +kernel
theorem dX3_number_6 : decode cX3_number 6 = .ok (.istore_n 2, 1) := by decide +kernel
theorem dX3_number_7 : decode cX3_number 7 = .ok (.iload_n 2, 1) := by decide +kernel
theorem dX3_number_8 : decode cX3_number 8 = .ok (.sipush 4096, 3) := by decide +kernel
theorem dX3_number_11 : decode cX3_number 11 = .ok (.if_icmp .ge 16, 3) := by decide +kernel
theorem dX3_number_14 : decode cX3_number 14 = .ok (.aload_n 0, 1) := by decide +kernel
theorem dX3_number_15 : decode cX3_number 15 = .ok (.invokevirtual 54, 3) := by decide +kernel
theorem dX3_number_18 : decode cX3_number 18 = .ok (.ifCond .eq 9, 3) := by decide +kernel
theorem dX3_number_21 : decode cX3_number 21 = .ok (.iinc 2 1, 3) := by decide +kernel
theorem dX3_number_24 : decode cX3_number 24 = .ok (.goto (-17), 3) := by decide +kernel
theorem dX3_number_27 : decode cX3_number 27 = .ok (.iload_n 2, 1) := by decide +kernel
theorem dX3_number_28 : decode cX3_number 28 = .ok (.ireturn, 1) := by decide +kernel
set_option maxRecDepth 20000 in
theorem ggX3_largest_X3_begin : GoodIn wsX3_largest wsX3_begin := goodIn_r _ [10, 11, 12, 13, 14, 15, 16, 17, 18, 19, 20, 21, 22, 23, 24, 25, 26, 27, 28, 29, 30, 31, 32, 33, 34, 35, 36, 37, 38, 83, 84, 85, 86, 87, 88, 89, 90, 91, 92, 93, 94, 95] (by decide +kernel) (by decide +kernel)
set_option maxRecDepth 20000 in
theorem gX3_largest_X3_begin : GoodIn wsX3_largest (wsV RX3 50 RX3 yX3_begin wsX3_begin) := goodIn_app (goodIn_of _ (by decide +kernel)) ggX3_largest_X3_begin
set_option maxRecDepth 20000 in
theorem ggX3_largest_X3_next : GoodIn wsX3_largest wsX3_next := goodIn_r _ [42, 17, 11, 14, 43, 15, 16, 44, 45, 46, 47, 9, 48, 12, 1, 49, 50, 51, 52, 53, 54, 55, 56, 4, 57, 2, 3, 5, 58, 59, 60, 21, 61, 24, 62, 63, 64, 65, 66, 67, 68, 69, 70, 71, 72, 73, 74, 75, 76, 77, 78, 79, 80, 81, 82, 83, 84, 85, 86, 87, 88, 89, 90, 91, 92, 93, 94, 95] (by decide +kernel) (by decide +kernel)
set_option maxRecDepth 20000 in
theorem gX3_largest_X3_next : GoodIn wsX3_largest (wsV RX3 54 RX3 yX3_next wsX3_next) := goodIn_app (goodIn_of _ (by decide +kernel)) ggX3_largest_X3_next
theorem dX3_largest_0 : decode cX3_largest 0 = .ok (.aload_n 0, 1) := by decide +kernel
theorem dX3_largest_1 : decode cX3_largest 1 = .ok (.aload_n 1, 1) := by decide +kernel
theorem dX3_largest_2 : decode cX3_largest 2 = .ok (.invokevirtual 50, 3) := by decide +kernel
theorem dX3_largest_5 : decode cX3_largest 5 = .ok (.iconst 0, 1) := by decide +kernel
theorem dX3_largest_6 : decode cX3_largest 6 = .ok (.istore_n 2, 1) := by decide +kernel
theorem dX3_largest_7 : decode cX3_largest 7 = .ok (.iconst 0, 1) := by decide +kernel
theorem dX3_largest_8 : decode cX3_largest 8 = .ok (.istore_n 3, 1) := by decide +kernel
theorem dX3_largest_9 : decode cX3_largest 9 = .ok (.iload_n 3, 1) := by decide +kernel
theorem dX3_largest_10 : decode cX3_largest 10 = .ok (.sipush 4096, 3) := by decide +kernel
theorem dX3_largest_13 : decode cX3_largest 13 = .ok (.if_icmp .ge 25, 3) := by decide +kernel
theorem dX3_largest_16 : decode cX3_largest 16 = .ok (.aload_n 0, 1) := by decide +kernel
theorem dX3_largest_17 : decode cX3_largest 17 = .ok (.invokevirtual 54, 3) := by decide +kernel
theorem dX3_largest_20 : decode cX3_largest 20 = .ok (.ifCond .eq 18, 3) := by decide +kernel
theorem dX3_largest_23 : decode cX3_largest 23 = .ok (.iload_n 2, 1) := by decide +kernel
theorem dX3_largest_24 : decode cX3_largest 24 = .ok (.aload_n 0, 1) := by decide +kernel
theorem dX3_largest_25 : decode cX3_largest 25 = .ok (.getfield 37, 3) := by decide +kernel
theorem dX3_largest_28 : decode cX3_largest 28 = .ok (.invokestatic 58, 3) := by decide +kernel
theorem dX3_largest_31 : decode cX3_largest 31 = .ok (.istore_n 2, 1) := by decide +kernel
theorem dX3_largest_32 : decode cX3_largest 32 = .ok (.iinc 3 1, 3) := by decide +kernel
theorem dX3_largest_35 : decode cX3_largest 35 = .ok (.goto (-26), 3) := by decide +kernel
theorem dX3_largest_38 : decode cX3_largest 38 = .ok (.iload_n 2, 1) := by decide +kernel
theorem dX3_largest_39 : decode cX3_largest 39 = .ok (.ireturn, 1) := by decide +kernel
set_option maxRecDepth 20000 in
theorem ggX3_findSpecks_X3_markNearLarge : GoodIn wsX3_findSpecks wsX3_markNearLarge := goodIn_r _ [8, 9, 2, 3, 10, 11, 12, 13, 14, 15, 16, 17, 18, 19, 20, 21, 22, 23, 24, 25, 7, 26, 27, 28, 29, 30, 31, 32, 33, 34, 35, 36, 37, 38, 39, 40, 41, 42, 43, 44, 45, 46, 47, 48, 49, 50, 51, 52, 53, 54, 55, 56, 57, 58, 59, 60, 61, 62, 63, 64, 65, 66, 67, 68, 69, 70, 71, 72, 73, 74, 75, 76, 77, 78, 79, 80, 81, 82, 83, 84, 85, 86, 87, 88, 89, 90, 91, 92, 93, 94, 95, 96, 97, 98, 99, 100, 101, 106, 107, 108, 109, 110, 111, 112, 113, 114, 115, 116, 117, 118] (by decide +kernel) (by decide +kernel)
set_option maxRecDepth 20000 in
theorem gX3_findSpecks_X3_markNearLarge : GoodIn wsX3_findSpecks (wsV RX3 64 RX3 yX3_markNearLarge wsX3_markNearLarge) := goodIn_app (goodIn_of _ (by decide +kernel)) ggX3_findSpecks_X3_markNearLarge
set_option maxRecDepth 20000 in
theorem ggX3_findSpecks_X2_empty : GoodIn wsX3_findSpecks wsX2_empty := goodIn_r _ [15, 16, 17, 18, 19, 20, 21, 22, 116, 117, 118] (by decide +kernel) (by decide +kernel)
set_option maxRecDepth 20000 in
theorem gX3_findSpecks_X2_empty : GoodIn wsX3_findSpecks (wsV RX3 74 RX2 yX2_empty wsX2_empty) := goodIn_app (goodIn_of _ (by decide +kernel)) ggX3_findSpecks_X2_empty
set_option maxRecDepth 20000 in
theorem ggX3_findSpecks_X3_begin : GoodIn wsX3_findSpecks wsX3_begin := goodIn_r _ [26, 27, 28, 2, 3, 29, 30, 31, 32, 33, 34, 14, 35, 16, 17, 18, 36, 37, 38, 39, 40, 12, 13, 15, 19, 20, 21, 22, 11, 106, 107, 108, 109, 110, 111, 112, 113, 114, 115, 116, 117, 118] (by decide +kernel) (by decide +kernel)
set_option maxRecDepth 20000 in
theorem gX3_findSpecks_X3_begin : GoodIn wsX3_findSpecks (wsV RX3 50 RX3 yX3_begin wsX3_begin) := goodIn_app (goodIn_of _ (by decide +kernel)) ggX3_findSpecks_X3_begin
set_option maxRecDepth 20000 in
theorem ggX3_findSpecks_X3_next : GoodIn wsX3_findSpecks wsX3_next := goodIn_r _ [44, 31, 27, 3, 45, 29, 30, 46, 47, 48, 49, 7, 50, 28, 10, 51, 52, 53, 54, 55, 56, 57, 58, 59, 60, 61, 62, 63, 64, 65, 66, 14, 67, 17, 68, 69, 70, 71, 72, 73, 74, 75, 76, 77, 78, 79, 80, 81, 82, 83, 84, 85, 86, 87, 88, 106, 107, 108, 109, 110, 111, 112, 113, 114, 115, 116, 117, 118] (by decide +kernel) (by decide +kernel)
set_option maxRecDepth 20000 in
theorem gX3_findSpecks_X3_next : GoodIn wsX3_findSpecks (wsV RX3 54 RX3 yX3_next wsX3_next) := goodIn_app (goodIn_of _ (by decide +kernel)) ggX3_findSpecks_X3_next
set_option maxRecDepth 20000 in
theorem ggX3_findSpecks_X3_touchesNear : GoodIn wsX3_findSpecks wsX3_touchesNear := goodIn_r _ [105, 29, 30, 28, 45, 9, 106, 107, 108, 109, 110, 111, 112, 113, 114, 115, 116, 117, 118] (by decide +kernel) (by decide +kernel)
set_option maxRecDepth 20000 in
theorem gX3_findSpecks_X3_touchesNear : GoodIn wsX3_findSpecks (wsV RX3 78 RX3 yX3_touchesNear wsX3_touchesNear) := goodIn_app (goodIn_of _ (by decide +kernel)) ggX3_findSpecks_X3_touchesNear
set_option maxRecDepth 20000 in
theorem ggX3_findSpecks_X3_addSpotTo : GoodIn wsX3_findSpecks wsX3_addSpotTo := goodIn_r _ [92, 29, 30, 45, 28, 106, 107, 108, 109, 110, 111, 112, 113, 114, 115, 116, 117, 118] (by decide +kernel) (by decide +kernel)
set_option maxRecDepth 20000 in
theorem gX3_findSpecks_X3_addSpotTo : GoodIn wsX3_findSpecks (wsV RX3 81 RX3 yX3_addSpotTo wsX3_addSpotTo) := goodIn_app (goodIn_of _ (by decide +kernel)) ggX3_findSpecks_X3_addSpotTo
theorem dX3_findSpecks_0 : decode cX3_findSpecks 0 = .ok (.aload_n 0, 1) := by decide +kernel
theorem dX3_findSpecks_1 : decode cX3_findSpecks 1 = .ok (.aload_n 1, 1) := by decide +kernel
theorem dX3_findSpecks_2 : decode cX3_findSpecks 2 = .ok (.iload_n 2, 1) := by decide +kernel
theorem dX3_findSpecks_3 : decode cX3_findSpecks 3 = .ok (.iload_n 3, 1) := by decide +kernel
theorem dX3_findSpecks_4 : decode cX3_findSpecks 4 = .ok (.invokevirtual 64, 3) := by decide +kernel
theorem dX3_findSpecks_7 : decode cX3_findSpecks 7 = .ok (.aload_n 0, 1) := by decide +kernel
theorem dX3_findSpecks_8 : decode cX3_findSpecks 8 = .ok (.getfield 14, 3) := by decide +kernel
theorem dX3_findSpecks_11 : decode cX3_findSpecks 11 = .ok (.aload_n 1, 1) := by decide +kernel
theorem dX3_findSpecks_12 : decode cX3_findSpecks 12 = .ok (.getfield 68, 3) := by decide +kernel
theorem dX3_findSpecks_15 : decode cX3_findSpecks 15 = .ok (.aload_n 1, 1) := by decide +kernel
theorem dX3_findSpecks_16 : decode cX3_findSpecks 16 = .ok (.getfield 71, 3) := by decide +kernel
theorem dX3_findSpecks_19 : decode cX3_findSpecks 19 = .ok (.invokevirtual 74, 3) := by decide +kernel
theorem dX3_findSpecks_22 : decode cX3_findSpecks 22 = .ok (.iconst 0, 1) := by decide +kernel
theorem dX3_findSpecks_23 : decode cX3_findSpecks 23 = .ok (.istore 4, 2) := by decide +kernel
theorem dX3_findSpecks_25 : decode cX3_findSpecks 25 = .ok (.aload_n 0, 1) := by decide +kernel
theorem dX3_findSpecks_26 : decode cX3_findSpecks 26 = .ok (.aload_n 1, 1) := by decide +kernel
theorem dX3_findSpecks_27 : decode cX3_findSpecks 27 = .ok (.invokevirtual 50, 3) := by decide +kernel
theorem dX3_findSpecks_30 : decode cX3_findSpecks 30 = .ok (.iconst 0, 1) := by decide +kernel
theorem dX3_findSpecks_31 : decode cX3_findSpecks 31 = .ok (.istore 5, 2) := by decide +kernel
theorem dX3_findSpecks_33 : decode cX3_findSpecks 33 = .ok (.iload 5, 2) := by decide +kernel
theorem dX3_findSpecks_35 : decode cX3_findSpecks 35 = .ok (.sipush 4096, 3) := by decide +kernel
theorem dX3_findSpecks_38 : decode cX3_findSpecks 38 = .ok (.if_icmp .ge 34, 3) := by decide +kernel
theorem dX3_findSpecks_41 : decode cX3_findSpecks 41 = .ok (.aload_n 0, 1) := by decide +kernel
theorem dX3_findSpecks_42 : decode cX3_findSpecks 42 = .ok (.invokevirtual 54, 3) := by decide +kernel
theorem dX3_findSpecks_45 : decode cX3_findSpecks 45 = .ok (.ifCond .eq 27, 3) := by decide +kernel
theorem dX3_findSpecks_48 : decode cX3_findSpecks 48 = .ok (.aload_n 0, 1) := by decide +kernel
theorem dX3_findSpecks_49 : decode cX3_findSpecks 49 = .ok (.invokevirtual 78, 3) := by decide +kernel
theorem dX3_findSpecks_52 : decode cX3_findSpecks 52 = .ok (.ifCond .ne 14, 3) := by decide +kernel
theorem dX3_findSpecks_55 : decode cX3_findSpecks 55 = .ok (.iinc 4 1, 3) := by decide +kernel
theorem dX3_findSpecks_58 : decode cX3_findSpecks 58 = .ok (.aload_n 0, 1) := by decide +kernel
theorem dX3_findSpecks_59 : decode cX3_findSpecks 59 = .ok (.aload_n 0, 1) := by decide +kernel
theorem dX3_findSpecks_60 : decode cX3_findSpecks 60 = .ok (.getfield 14, 3) := by decide +kernel
theorem dX3_findSpecks_63 : decode cX3_findSpecks 63 = .ok (.invokevirtual 81, 3) := by decide +kernel
theorem dX3_findSpecks_66 : decode cX3_findSpecks 66 = .ok (.iinc 5 1, 3) := by decide +kernel
theorem dX3_findSpecks_69 : decode cX3_findSpecks 69 = .ok (.goto (-36), 3) := by decide +kernel
theorem dX3_findSpecks_72 : decode cX3_findSpecks 72 = .ok (.iload 4, 2) := by decide +kernel
theorem dX3_findSpecks_74 : decode cX3_findSpecks 74 = .ok (.ireturn, 1) := by decide +kernel
set_option maxRecDepth 20000 in
theorem ggX3_markNearLarge_X2_empty : GoodIn wsX3_markNearLarge wsX2_empty := goodIn_r _ [9, 10, 11, 12, 13, 14, 15, 16, 107, 108, 109] (by decide +kernel) (by decide +kernel)
set_option maxRecDepth 20000 in
theorem gX3_markNearLarge_X2_empty : GoodIn wsX3_markNearLarge (wsV RX3 74 RX2 yX2_empty wsX2_empty) := goodIn_app (goodIn_of _ (by decide +kernel)) ggX3_markNearLarge_X2_empty
set_option maxRecDepth 20000 in
theorem ggX3_markNearLarge_X3_begin : GoodIn wsX3_markNearLarge wsX3_begin := goodIn_r _ [21, 22, 23, 2, 3, 24, 25, 26, 27, 28, 29, 8, 30, 10, 11, 12, 31, 32, 33, 34, 35, 6, 7, 9, 13, 14, 15, 16, 5, 97, 98, 99, 100, 101, 102, 103, 104, 105, 106, 107, 108, 109] (by decide +kernel) (by decide +kernel)
set_option maxRecDepth 20000 in
theorem gX3_markNearLarge_X3_begin : GoodIn wsX3_markNearLarge (wsV RX3 50 RX3 yX3_begin wsX3_begin) := goodIn_app (goodIn_of _ (by decide +kernel)) ggX3_markNearLarge_X3_begin
set_option maxRecDepth 20000 in
theorem ggX3_markNearLarge_X3_next : GoodIn wsX3_markNearLarge wsX3_next := goodIn_r _ [39, 26, 22, 3, 40, 24, 25, 41, 42, 43, 44, 20, 45, 23, 4, 46, 47, 48, 49, 50, 51, 52, 53, 54, 55, 56, 57, 58, 59, 60, 61, 8, 62, 11, 63, 64, 65, 66, 67, 68, 69, 70, 71, 72, 73, 74, 75, 76, 77, 78, 79, 80, 81, 82, 83, 97, 98, 99, 100, 101, 102, 103, 104, 105, 106, 107, 108, 109] (by decide +kernel) (by decide +kernel)
set_option maxRecDepth 20000 in
theorem gX3_markNearLarge_X3_next : GoodIn wsX3_markNearLarge (wsV RX3 54 RX3 yX3_next wsX3_next) := goodIn_app (goodIn_of _ (by decide +kernel)) ggX3_markNearLarge_X3_next
set_option maxRecDepth 20000 in
theorem ggX3_markNearLarge_X3_addSpotTo : GoodIn wsX3_markNearLarge wsX3_addSpotTo := goodIn_r _ [87, 24, 25, 40, 23, 97, 98, 99, 100, 101, 102, 103, 104, 105, 106, 107, 108, 109] (by decide +kernel) (by decide +kernel)
set_option maxRecDepth 20000 in
theorem gX3_markNearLarge_X3_addSpotTo : GoodIn wsX3_markNearLarge (wsV RX3 81 RX3 yX3_addSpotTo wsX3_addSpotTo) := goodIn_app (goodIn_of _ (by decide +kernel)) ggX3_markNearLarge_X3_addSpotTo
set_option maxRecDepth 20000 in
theorem ggX3_markNearLarge_X3_widenNear : GoodIn wsX3_markNearLarge wsX3_widenNear := goodIn_r _ [91, 1, 3, 40, 81, 82, 20, 83, 92, 93, 94, 8, 95, 10, 96, 97, 98, 99, 100, 101, 102, 103, 104, 105, 106, 107, 108, 109] (by decide +kernel) (by decide +kernel)
set_option maxRecDepth 20000 in
theorem gX3_markNearLarge_X3_widenNear : GoodIn wsX3_markNearLarge (wsV RX3 84 RX3 yX3_widenNear wsX3_widenNear) := goodIn_app (goodIn_of _ (by decide +kernel)) ggX3_markNearLarge_X3_widenNear
theorem dX3_markNearLarge_0 : decode cX3_markNearLarge 0 = .ok (.aload_n 0, 1) := by decide +kernel
theorem dX3_markNearLarge_1 : decode cX3_markNearLarge 1 = .ok (.getfield 26, 3) := by decide +kernel
theorem dX3_markNearLarge_4 : decode cX3_markNearLarge 4 = .ok (.aload_n 1, 1) := by decide +kernel
theorem dX3_markNearLarge_5 : decode cX3_markNearLarge 5 = .ok (.getfield 68, 3) := by decide +kernel
theorem dX3_markNearLarge_8 : decode cX3_markNearLarge 8 = .ok (.aload_n 1, 1) := by decide +kernel
theorem dX3_markNearLarge_9 : decode cX3_markNearLarge 9 = .ok (.getfield 71, 3) := by decide +kernel
theorem dX3_markNearLarge_12 : decode cX3_markNearLarge 12 = .ok (.invokevirtual 74, 3) := by decide +kernel
theorem dX3_markNearLarge_15 : decode cX3_markNearLarge 15 = .ok (.aload_n 0, 1) := by decide +kernel
theorem dX3_markNearLarge_16 : decode cX3_markNearLarge 16 = .ok (.aload_n 1, 1) := by decide +kernel
theorem dX3_markNearLarge_17 : decode cX3_markNearLarge 17 = .ok (.invokevirtual 50, 3) := by decide +kernel
theorem dX3_markNearLarge_20 : decode cX3_markNearLarge 20 = .ok (.iconst 0, 1) := by decide +kernel
theorem dX3_markNearLarge_21 : decode cX3_markNearLarge 21 = .ok (.istore 4, 2) := by decide +kernel
theorem dX3_markNearLarge_23 : decode cX3_markNearLarge 23 = .ok (.iload 4, 2) := by decide +kernel
theorem dX3_markNearLarge_25 : decode cX3_markNearLarge 25 = .ok (.sipush 4096, 3) := by decide +kernel
theorem dX3_markNearLarge_28 : decode cX3_markNearLarge 28 = .ok (.if_icmp .ge 32, 3) := by decide +kernel
theorem dX3_markNearLarge_31 : decode cX3_markNearLarge 31 = .ok (.aload_n 0, 1) := by decide +kernel
theorem dX3_markNearLarge_32 : decode cX3_markNearLarge 32 = .ok (.invokevirtual 54, 3) := by decide +kernel
theorem dX3_markNearLarge_35 : decode cX3_markNearLarge 35 = .ok (.ifCond .eq 25, 3) := by decide +kernel
theorem dX3_markNearLarge_38 : decode cX3_markNearLarge 38 = .ok (.aload_n 0, 1) := by decide +kernel
theorem dX3_markNearLarge_39 : decode cX3_markNearLarge 39 = .ok (.getfield 37, 3) := by decide +kernel
theorem dX3_markNearLarge_42 : decode cX3_markNearLarge 42 = .ok (.iload_n 2, 1) := by decide +kernel
theorem dX3_markNearLarge_43 : decode cX3_markNearLarge 43 = .ok (.if_icmp .le 11, 3) := by decide +kernel
theorem dX3_markNearLarge_46 : decode cX3_markNearLarge 46 = .ok (.aload_n 0, 1) := by decide +kernel
theorem dX3_markNearLarge_47 : decode cX3_markNearLarge 47 = .ok (.aload_n 0, 1) := by decide +kernel
theorem dX3_markNearLarge_48 : decode cX3_markNearLarge 48 = .ok (.getfield 26, 3) := by decide +kernel
theorem dX3_markNearLarge_51 : decode cX3_markNearLarge 51 = .ok (.invokevirtual 81, 3) := by decide +kernel
theorem dX3_markNearLarge_54 : decode cX3_markNearLarge 54 = .ok (.iinc 4 1, 3) := by decide +kernel
theorem dX3_markNearLarge_57 : decode cX3_markNearLarge 57 = .ok (.goto (-34), 3) := by decide +kernel
theorem dX3_markNearLarge_60 : decode cX3_markNearLarge 60 = .ok (.iconst 0, 1) := by decide +kernel
theorem dX3_markNearLarge_61 : decode cX3_markNearLarge 61 = .ok (.istore 4, 2) := by decide +kernel
theorem dX3_markNearLarge_63 : decode cX3_markNearLarge 63 = .ok (.iload 4, 2) := by decide +kernel
theorem dX3_markNearLarge_65 : decode cX3_markNearLarge 65 = .ok (.iload_n 3, 1) := by decide +kernel
theorem dX3_markNearLarge_66 : decode cX3_markNearLarge 66 = .ok (.if_icmp .ge 13, 3) := by decide +kernel
theorem dX3_markNearLarge_69 : decode cX3_markNearLarge 69 = .ok (.aload_n 0, 1) := by decide +kernel
theorem dX3_markNearLarge_70 : decode cX3_markNearLarge 70 = .ok (.invokevirtual 84, 3) := by decide +kernel
theorem dX3_markNearLarge_73 : decode cX3_markNearLarge 73 = .ok (.iinc 4 1, 3) := by decide +kernel
theorem dX3_markNearLarge_76 : decode cX3_markNearLarge 76 = .ok (.goto (-13), 3) := by decide +kernel
theorem dX3_markNearLarge_79 : decode cX3_markNearLarge 79 = .ok (.return_, 1) := by decide +kernel
set_option maxRecDepth 20000 in
theorem ggX3_widenNear_X3_widened : GoodIn wsX3_widenNear wsX3_widened := goodIn_r _ [7] (by decide +kernel) (by decide +kernel)
set_option maxRecDepth 20000 in
theorem gX3_widenNear_X3_widened : GoodIn wsX3_widenNear (va_wsS RX3 90 yX3_widened wsX3_widened) := goodIn_app (goodIn_of _ (by decide +kernel)) ggX3_widenNear_X3_widened
set_option maxRecDepth 20000 in
theorem ggX3_widenNear_X2_allColumns : GoodIn wsX3_widenNear wsX2_allColumns := goodIn_r _ [12, 13, 14, 25, 26, 27] (by decide +kernel) (by decide +kernel)
set_option maxRecDepth 20000 in
theorem gX3_widenNear_X2_allColumns : GoodIn wsX3_widenNear (wsV RX3 94 RX2 yX2_allColumns wsX2_allColumns) := goodIn_app (goodIn_of _ (by decide +kernel)) ggX3_widenNear_X2_allColumns
theorem dX3_widenNear_0 : decode cX3_widenNear 0 = .ok (.lconst 0, 1) := by decide +kernel
theorem dX3_widenNear_1 : decode cX3_widenNear 1 = .ok (.lstore_n 1, 1) := by decide +kernel
theorem dX3_widenNear_2 : decode cX3_widenNear 2 = .ok (.iconst 0, 1) := by decide +kernel
theorem dX3_widenNear_3 : decode cX3_widenNear 3 = .ok (.istore_n 3, 1) := by decide +kernel
theorem dX3_widenNear_4 : decode cX3_widenNear 4 = .ok (.iload_n 3, 1) := by decide +kernel
theorem dX3_widenNear_5 : decode cX3_widenNear 5 = .ok (.aload_n 0, 1) := by decide +kernel
theorem dX3_widenNear_6 : decode cX3_widenNear 6 = .ok (.getfield 26, 3) := by decide +kernel
theorem dX3_widenNear_9 : decode cX3_widenNear 9 = .ok (.getfield 71, 3) := by decide +kernel
theorem dX3_widenNear_12 : decode cX3_widenNear 12 = .ok (.if_icmp .ge 80, 3) := by decide +kernel
theorem dX3_widenNear_15 : decode cX3_widenNear 15 = .ok (.aload_n 0, 1) := by decide +kernel
theorem dX3_widenNear_16 : decode cX3_widenNear 16 = .ok (.getfield 26, 3) := by decide +kernel
theorem dX3_widenNear_19 : decode cX3_widenNear 19 = .ok (.getfield 87, 3) := by decide +kernel
theorem dX3_widenNear_22 : decode cX3_widenNear 22 = .ok (.iload_n 3, 1) := by decide +kernel
theorem dX3_widenNear_23 : decode cX3_widenNear 23 = .ok (.laload, 1) := by decide +kernel
theorem dX3_widenNear_24 : decode cX3_widenNear 24 = .ok (.lstore 4, 2) := by decide +kernel
theorem dX3_widenNear_26 : decode cX3_widenNear 26 = .ok (.iload_n 3, 1) := by decide +kernel
theorem dX3_widenNear_27 : decode cX3_widenNear 27 = .ok (.iconst 1, 1) := by decide +kernel
theorem dX3_widenNear_28 : decode cX3_widenNear 28 = .ok (.iadd, 1) := by decide +kernel
theorem dX3_widenNear_29 : decode cX3_widenNear 29 = .ok (.aload_n 0, 1) := by decide +kernel
theorem dX3_widenNear_30 : decode cX3_widenNear 30 = .ok (.getfield 26, 3) := by decide +kernel
theorem dX3_widenNear_33 : decode cX3_widenNear 33 = .ok (.getfield 71, 3) := by decide +kernel
theorem dX3_widenNear_36 : decode cX3_widenNear 36 = .ok (.if_icmp .ge 17, 3) := by decide +kernel
theorem dX3_widenNear_39 : decode cX3_widenNear 39 = .ok (.aload_n 0, 1) := by decide +kernel
theorem dX3_widenNear_40 : decode cX3_widenNear 40 = .ok (.getfield 26, 3) := by decide +kernel
theorem dX3_widenNear_43 : decode cX3_widenNear 43 = .ok (.getfield 87, 3) := by decide +kernel
theorem dX3_widenNear_46 : decode cX3_widenNear 46 = .ok (.iload_n 3, 1) := by decide +kernel
theorem dX3_widenNear_47 : decode cX3_widenNear 47 = .ok (.iconst 1, 1) := by decide +kernel
theorem dX3_widenNear_48 : decode cX3_widenNear 48 = .ok (.iadd, 1) := by decide +kernel
theorem dX3_widenNear_49 : decode cX3_widenNear 49 = .ok (.laload, 1) := by decide +kernel
theorem dX3_widenNear_50 : decode cX3_widenNear 50 = .ok (.goto 4, 3) := by decide +kernel
theorem dX3_widenNear_53 : decode cX3_widenNear 53 = .ok (.lconst 0, 1) := by decide +kernel
theorem dX3_widenNear_54 : decode cX3_widenNear 54 = .ok (.lstore 6, 2) := by decide +kernel
theorem dX3_widenNear_56 : decode cX3_widenNear 56 = .ok (.aload_n 0, 1) := by decide +kernel
theorem dX3_widenNear_57 : decode cX3_widenNear 57 = .ok (.getfield 26, 3) := by decide +kernel
theorem dX3_widenNear_60 : decode cX3_widenNear 60 = .ok (.getfield 87, 3) := by decide +kernel
theorem dX3_widenNear_63 : decode cX3_widenNear 63 = .ok (.iload_n 3, 1) := by decide +kernel
theorem dX3_widenNear_64 : decode cX3_widenNear 64 = .ok (.lload_n 1, 1) := by decide +kernel
theorem dX3_widenNear_65 : decode cX3_widenNear 65 = .ok (.lload 4, 2) := by decide +kernel
theorem dX3_widenNear_67 : decode cX3_widenNear 67 = .ok (.lor, 1) := by decide +kernel
theorem dX3_widenNear_68 : decode cX3_widenNear 68 = .ok (.lload 6, 2) := by decide +kernel
theorem dX3_widenNear_70 : decode cX3_widenNear 70 = .ok (.lor, 1) := by decide +kernel
theorem dX3_widenNear_71 : decode cX3_widenNear 71 = .ok (.invokestatic 90, 3) := by decide +kernel
theorem dX3_widenNear_74 : decode cX3_widenNear 74 = .ok (.aload_n 0, 1) := by decide +kernel
theorem dX3_widenNear_75 : decode cX3_widenNear 75 = .ok (.getfield 26, 3) := by decide +kernel
theorem dX3_widenNear_78 : decode cX3_widenNear 78 = .ok (.invokevirtual 94, 3) := by decide +kernel
theorem dX3_widenNear_81 : decode cX3_widenNear 81 = .ok (.land, 1) := by decide +kernel
theorem dX3_widenNear_82 : decode cX3_widenNear 82 = .ok (.lastore, 1) := by decide +kernel
theorem dX3_widenNear_83 : decode cX3_widenNear 83 = .ok (.lload 4, 2) := by decide +kernel
theorem dX3_widenNear_85 : decode cX3_widenNear 85 = .ok (.lstore_n 1, 1) := by decide +kernel
theorem dX3_widenNear_86 : decode cX3_widenNear 86 = .ok (.iinc 3 1, 3) := by decide +kernel
theorem dX3_widenNear_89 : decode cX3_widenNear 89 = .ok (.goto (-85), 3) := by decide +kernel
theorem dX3_widenNear_92 : decode cX3_widenNear 92 = .ok (.return_, 1) := by decide +kernel
theorem dX3_touchesNear_0 : decode cX3_touchesNear 0 = .ok (.iconst 0, 1) := by decide +kernel
theorem dX3_touchesNear_1 : decode cX3_touchesNear 1 = .ok (.istore_n 1, 1) := by decide +kernel
theorem dX3_touchesNear_2 : decode cX3_touchesNear 2 = .ok (.aload_n 0, 1) := by decide +kernel
theorem dX3_touchesNear_3 : decode cX3_touchesNear 3 = .ok (.getfield 41, 3) := by decide +kernel
theorem dX3_touchesNear_6 : decode cX3_touchesNear 6 = .ok (.istore_n 2, 1) := by decide +kernel
theorem dX3_touchesNear_7 : decode cX3_touchesNear 7 = .ok (.iload_n 2, 1) := by decide +kernel
theorem dX3_touchesNear_8 : decode cX3_touchesNear 8 = .ok (.aload_n 0, 1) := by decide +kernel
theorem dX3_touchesNear_9 : decode cX3_touchesNear 9 = .ok (.getfield 44, 3) := by decide +kernel
theorem dX3_touchesNear_12 : decode cX3_touchesNear 12 = .ok (.if_icmp .gt 43, 3) := by decide +kernel
theorem dX3_touchesNear_15 : decode cX3_touchesNear 15 = .ok (.iload_n 1, 1) := by decide +kernel
theorem dX3_touchesNear_16 : decode cX3_touchesNear 16 = .ok (.ifCond .ne 39, 3) := by decide +kernel
theorem dX3_touchesNear_19 : decode cX3_touchesNear 19 = .ok (.aload_n 0, 1) := by decide +kernel
theorem dX3_touchesNear_20 : decode cX3_touchesNear 20 = .ok (.getfield 23, 3) := by decide +kernel
theorem dX3_touchesNear_23 : decode cX3_touchesNear 23 = .ok (.getfield 87, 3) := by decide +kernel
theorem dX3_touchesNear_26 : decode cX3_touchesNear 26 = .ok (.iload_n 2, 1) := by decide +kernel
theorem dX3_touchesNear_27 : decode cX3_touchesNear 27 = .ok (.laload, 1) := by decide +kernel
theorem dX3_touchesNear_28 : decode cX3_touchesNear 28 = .ok (.aload_n 0, 1) := by decide +kernel
theorem dX3_touchesNear_29 : decode cX3_touchesNear 29 = .ok (.getfield 26, 3) := by decide +kernel
theorem dX3_touchesNear_32 : decode cX3_touchesNear 32 = .ok (.getfield 87, 3) := by decide +kernel
theorem dX3_touchesNear_35 : decode cX3_touchesNear 35 = .ok (.iload_n 2, 1) := by decide +kernel
theorem dX3_touchesNear_36 : decode cX3_touchesNear 36 = .ok (.laload, 1) := by decide +kernel
theorem dX3_touchesNear_37 : decode cX3_touchesNear 37 = .ok (.land, 1) := by decide +kernel
theorem dX3_touchesNear_38 : decode cX3_touchesNear 38 = .ok (.lconst 0, 1) := by decide +kernel
theorem dX3_touchesNear_39 : decode cX3_touchesNear 39 = .ok (.lcmp, 1) := by decide +kernel
theorem dX3_touchesNear_40 : decode cX3_touchesNear 40 = .ok (.ifCond .eq 7, 3) := by decide +kernel
theorem dX3_touchesNear_43 : decode cX3_touchesNear 43 = .ok (.iconst 1, 1) := by decide +kernel
theorem dX3_touchesNear_44 : decode cX3_touchesNear 44 = .ok (.goto 4, 3) := by decide +kernel
theorem dX3_touchesNear_47 : decode cX3_touchesNear 47 = .ok (.iconst 0, 1) := by decide +kernel
theorem dX3_touchesNear_48 : decode cX3_touchesNear 48 = .ok (.istore_n 1, 1) := by decide +kernel
theorem dX3_touchesNear_49 : decode cX3_touchesNear 49 = .ok (.iinc 2 1, 3) := by decide +kernel
theorem dX3_touchesNear_52 : decode cX3_touchesNear 52 = .ok (.goto (-45), 3) := by decide +kernel
theorem dX3_touchesNear_55 : decode cX3_touchesNear 55 = .ok (.iload_n 1, 1) := by decide +kernel
theorem dX3_touchesNear_56 : decode cX3_touchesNear 56 = .ok (.ireturn, 1) := by decide +kernel
theorem dX3_addSpotTo_0 : decode cX3_addSpotTo 0 = .ok (.aload_n 0, 1) := by decide +kernel
theorem dX3_addSpotTo_1 : decode cX3_addSpotTo 1 = .ok (.getfield 41, 3) := by decide +kernel
theorem dX3_addSpotTo_4 : decode cX3_addSpotTo 4 = .ok (.istore_n 2, 1) := by decide +kernel
theorem dX3_addSpotTo_5 : decode cX3_addSpotTo 5 = .ok (.iload_n 2, 1) := by decide +kernel
theorem dX3_addSpotTo_6 : decode cX3_addSpotTo 6 = .ok (.aload_n 0, 1) := by decide +kernel
theorem dX3_addSpotTo_7 : decode cX3_addSpotTo 7 = .ok (.getfield 44, 3) := by decide +kernel
theorem dX3_addSpotTo_10 : decode cX3_addSpotTo 10 = .ok (.if_icmp .gt 27, 3) := by decide +kernel
theorem dX3_addSpotTo_13 : decode cX3_addSpotTo 13 = .ok (.aload_n 1, 1) := by decide +kernel
theorem dX3_addSpotTo_14 : decode cX3_addSpotTo 14 = .ok (.getfield 87, 3) := by decide +kernel
theorem dX3_addSpotTo_17 : decode cX3_addSpotTo 17 = .ok (.iload_n 2, 1) := by decide +kernel
theorem dX3_addSpotTo_18 : decode cX3_addSpotTo 18 = .ok (.dup2, 1) := by decide +kernel
theorem dX3_addSpotTo_19 : decode cX3_addSpotTo 19 = .ok (.laload, 1) := by decide +kernel
theorem dX3_addSpotTo_20 : decode cX3_addSpotTo 20 = .ok (.aload_n 0, 1) := by decide +kernel
theorem dX3_addSpotTo_21 : decode cX3_addSpotTo 21 = .ok (.getfield 23, 3) := by decide +kernel
theorem dX3_addSpotTo_24 : decode cX3_addSpotTo 24 = .ok (.getfield 87, 3) := by decide +kernel
theorem dX3_addSpotTo_27 : decode cX3_addSpotTo 27 = .ok (.iload_n 2, 1) := by decide +kernel
theorem dX3_addSpotTo_28 : decode cX3_addSpotTo 28 = .ok (.laload, 1) := by decide +kernel
theorem dX3_addSpotTo_29 : decode cX3_addSpotTo 29 = .ok (.lor, 1) := by decide +kernel
theorem dX3_addSpotTo_30 : decode cX3_addSpotTo 30 = .ok (.lastore, 1) := by decide +kernel
theorem dX3_addSpotTo_31 : decode cX3_addSpotTo 31 = .ok (.iinc 2 1, 3) := by decide +kernel
theorem dX3_addSpotTo_34 : decode cX3_addSpotTo 34 = .ok (.goto (-29), 3) := by decide +kernel
theorem dX3_addSpotTo_37 : decode cX3_addSpotTo 37 = .ok (.return_, 1) := by decide +kernel
set_option maxRecDepth 20000 in
theorem ggX3_begin_X2_become : GoodIn wsX3_begin wsX2_become := goodIn_r _ [12, 13, 14, 15, 16, 17, 18, 19, 20, 21, 22, 11, 23, 24, 25, 26, 27, 39, 40, 41] (by decide +kernel) (by decide +kernel)
set_option maxRecDepth 20000 in
theorem gX3_begin_X2_become : GoodIn wsX3_begin (wsV RX3 98 RX2 yX2_become wsX2_become) := goodIn_app (goodIn_of _ (by decide +kernel)) ggX3_begin_X2_become
set_option maxRecDepth 20000 in
theorem ggX3_begin_X2_empty : GoodIn wsX3_begin wsX2_empty := goodIn_r _ [23, 13, 14, 15, 24, 25, 26, 27, 39, 40, 41] (by decide +kernel) (by decide +kernel)
set_option maxRecDepth 20000 in
theorem gX3_begin_X2_empty : GoodIn wsX3_begin (wsV RX3 74 RX2 yX2_empty wsX2_empty) := goodIn_app (goodIn_of _ (by decide +kernel)) ggX3_begin_X2_empty
theorem dX3_begin_0 : decode cX3_begin 0 = .ok (.aload_n 0, 1) := by decide +kernel
theorem dX3_begin_1 : decode cX3_begin 1 = .ok (.getfield 20, 3) := by decide +kernel
theorem dX3_begin_4 : decode cX3_begin 4 = .ok (.aload_n 1, 1) := by decide +kernel
theorem dX3_begin_5 : decode cX3_begin 5 = .ok (.invokevirtual 98, 3) := by decide +kernel
theorem dX3_begin_8 : decode cX3_begin 8 = .ok (.aload_n 0, 1) := by decide +kernel
theorem dX3_begin_9 : decode cX3_begin 9 = .ok (.getfield 23, 3) := by decide +kernel
theorem dX3_begin_12 : decode cX3_begin 12 = .ok (.aload_n 1, 1) := by decide +kernel
theorem dX3_begin_13 : decode cX3_begin 13 = .ok (.getfield 68, 3) := by decide +kernel
theorem dX3_begin_16 : decode cX3_begin 16 = .ok (.aload_n 1, 1) := by decide +kernel
theorem dX3_begin_17 : decode cX3_begin 17 = .ok (.getfield 71, 3) := by decide +kernel
theorem dX3_begin_20 : decode cX3_begin 20 = .ok (.invokevirtual 74, 3) := by decide +kernel
theorem dX3_begin_23 : decode cX3_begin 23 = .ok (.aload_n 0, 1) := by decide +kernel
theorem dX3_begin_24 : decode cX3_begin 24 = .ok (.iconst 0, 1) := by decide +kernel
theorem dX3_begin_25 : decode cX3_begin 25 = .ok (.putfield 41, 3) := by decide +kernel
theorem dX3_begin_28 : decode cX3_begin 28 = .ok (.aload_n 0, 1) := by decide +kernel
theorem dX3_begin_29 : decode cX3_begin 29 = .ok (.iconst (-1), 1) := by decide +kernel
theorem dX3_begin_30 : decode cX3_begin 30 = .ok (.putfield 44, 3) := by decide +kernel
theorem dX3_begin_33 : decode cX3_begin 33 = .ok (.aload_n 0, 1) := by decide +kernel
theorem dX3_begin_34 : decode cX3_begin 34 = .ok (.iconst 0, 1) := by decide +kernel
theorem dX3_begin_35 : decode cX3_begin 35 = .ok (.putfield 47, 3) := by decide +kernel
theorem dX3_begin_38 : decode cX3_begin 38 = .ok (.return_, 1) := by decide +kernel
set_option maxRecDepth 20000 in
theorem ggX3_next_X3_clearSpot : GoodIn wsX3_next wsX3_clearSpot := goodIn_r _ [12, 5, 6, 13, 4, 14, 55, 56, 57, 58, 59, 60, 61, 62, 63, 64, 65, 66, 67] (by decide +kernel) (by decide +kernel)
set_option maxRecDepth 20000 in
theorem gX3_next_X3_clearSpot : GoodIn wsX3_next (wsV RX3 101 RX3 yX3_clearSpot wsX3_clearSpot) := goodIn_app (goodIn_of _ (by decide +kernel)) ggX3_next_X3_clearSpot
set_option maxRecDepth 20000 in
theorem ggX3_next_X3_admit : GoodIn wsX3_next wsX3_admit := goodIn_r _ [18, 2, 4, 19, 13, 20, 7, 14, 5, 21, 22, 23, 24, 6, 25, 26, 27, 28, 29, 30, 31, 32, 33, 34, 35, 11, 36, 37, 38, 39, 40, 41, 42, 43, 55, 56, 57, 58, 59, 60, 61, 62, 63, 64, 65, 66, 67] (by decide +kernel) (by decide +kernel)
set_option maxRecDepth 20000 in
theorem gX3_next_X3_admit : GoodIn wsX3_next (wsV RX3 104 RX3 yX3_admit wsX3_admit) := goodIn_app (goodIn_of _ (by decide +kernel)) ggX3_next_X3_admit
set_option maxRecDepth 20000 in
theorem ggX3_next_X4_lowestBit : GoodIn wsX3_next wsX4_lowestBit := goodIn_r _ [46, 47, 38, 39, 40, 41, 42, 43] (by decide +kernel) (by decide +kernel)
set_option maxRecDepth 20000 in
theorem gX3_next_X4_lowestBit_n108 : GoodIn wsX3_next (wsX4_lowestBit) := ggX3_next_X4_lowestBit
set_option maxRecDepth 20000 in
theorem ggX3_next_X3_growFrom : GoodIn wsX3_next wsX3_growFrom := goodIn_r _ [51, 20, 7, 19, 52, 53, 11, 54, 15, 16, 17, 18, 2, 4, 13, 14, 5, 21, 22, 23, 24, 6, 25, 26, 27, 28, 29, 30, 31, 32, 33, 34, 35, 36, 37, 38, 39, 40, 41, 42, 43, 55, 56, 57, 58, 59, 60, 61, 62, 63, 64, 65, 66, 67] (by decide +kernel) (by decide +kernel)
set_option maxRecDepth 20000 in
theorem gX3_next_X3_growFrom : GoodIn wsX3_next (wsV RX3 112 RX3 yX3_growFrom wsX3_growFrom) := goodIn_app (goodIn_of _ (by decide +kernel)) ggX3_next_X3_growFrom
theorem dX3_next_0 : decode cX3_next 0 = .ok (.aload_n 0, 1) := by decide +kernel
theorem dX3_next_1 : decode cX3_next 1 = .ok (.invokevirtual 101, 3) := by decide +kernel
theorem dX3_next_4 : decode cX3_next 4 = .ok (.aload_n 0, 1) := by decide +kernel
theorem dX3_next_5 : decode cX3_next 5 = .ok (.getfield 47, 3) := by decide +kernel
theorem dX3_next_8 : decode cX3_next 8 = .ok (.aload_n 0, 1) := by decide +kernel
theorem dX3_next_9 : decode cX3_next 9 = .ok (.getfield 20, 3) := by decide +kernel
theorem dX3_next_12 : decode cX3_next 12 = .ok (.getfield 71, 3) := by decide +kernel
theorem dX3_next_15 : decode cX3_next 15 = .ok (.if_icmp .ge 33, 3) := by decide +kernel
theorem dX3_next_18 : decode cX3_next 18 = .ok (.aload_n 0, 1) := by decide +kernel
theorem dX3_next_19 : decode cX3_next 19 = .ok (.getfield 20, 3) := by decide +kernel
theorem dX3_next_22 : decode cX3_next 22 = .ok (.getfield 87, 3) := by decide +kernel
theorem dX3_next_25 : decode cX3_next 25 = .ok (.aload_n 0, 1) := by decide +kernel
theorem dX3_next_26 : decode cX3_next 26 = .ok (.getfield 47, 3) := by decide +kernel
theorem dX3_next_29 : decode cX3_next 29 = .ok (.laload, 1) := by decide +kernel
theorem dX3_next_30 : decode cX3_next 30 = .ok (.lconst 0, 1) := by decide +kernel
theorem dX3_next_31 : decode cX3_next 31 = .ok (.lcmp, 1) := by decide +kernel
theorem dX3_next_32 : decode cX3_next 32 = .ok (.ifCond .ne 16, 3) := by decide +kernel
theorem dX3_next_35 : decode cX3_next 35 = .ok (.aload_n 0, 1) := by decide +kernel
theorem dX3_next_36 : decode cX3_next 36 = .ok (.dup, 1) := by decide +kernel
theorem dX3_next_37 : decode cX3_next 37 = .ok (.getfield 47, 3) := by decide +kernel
theorem dX3_next_40 : decode cX3_next 40 = .ok (.iconst 1, 1) := by decide +kernel
theorem dX3_next_41 : decode cX3_next 41 = .ok (.iadd, 1) := by decide +kernel
theorem dX3_next_42 : decode cX3_next 42 = .ok (.putfield 47, 3) := by decide +kernel
theorem dX3_next_45 : decode cX3_next 45 = .ok (.goto (-41), 3) := by decide +kernel
theorem dX3_next_48 : decode cX3_next 48 = .ok (.aload_n 0, 1) := by decide +kernel
theorem dX3_next_49 : decode cX3_next 49 = .ok (.getfield 47, 3) := by decide +kernel
theorem dX3_next_52 : decode cX3_next 52 = .ok (.aload_n 0, 1) := by decide +kernel
theorem dX3_next_53 : decode cX3_next 53 = .ok (.getfield 20, 3) := by decide +kernel
theorem dX3_next_56 : decode cX3_next 56 = .ok (.getfield 71, 3) := by decide +kernel
theorem dX3_next_59 : decode cX3_next 59 = .ok (.if_icmp .lt 5, 3) := by decide +kernel
theorem dX3_next_62 : decode cX3_next 62 = .ok (.iconst 0, 1) := by decide +kernel
theorem dX3_next_63 : decode cX3_next 63 = .ok (.ireturn, 1) := by decide +kernel
theorem dX3_next_64 : decode cX3_next 64 = .ok (.aload_n 0, 1) := by decide +kernel
theorem dX3_next_65 : decode cX3_next 65 = .ok (.aload_n 0, 1) := by decide +kernel
theorem dX3_next_66 : decode cX3_next 66 = .ok (.getfield 47, 3) := by decide +kernel
theorem dX3_next_69 : decode cX3_next 69 = .ok (.putfield 41, 3) := by decide +kernel
theorem dX3_next_72 : decode cX3_next 72 = .ok (.aload_n 0, 1) := by decide +kernel
theorem dX3_next_73 : decode cX3_next 73 = .ok (.aload_n 0, 1) := by decide +kernel
theorem dX3_next_74 : decode cX3_next 74 = .ok (.getfield 47, 3) := by decide +kernel
theorem dX3_next_77 : decode cX3_next 77 = .ok (.putfield 44, 3) := by decide +kernel
theorem dX3_next_80 : decode cX3_next 80 = .ok (.aload_n 0, 1) := by decide +kernel
theorem dX3_next_81 : decode cX3_next 81 = .ok (.aload_n 0, 1) := by decide +kernel
theorem dX3_next_82 : decode cX3_next 82 = .ok (.getfield 47, 3) := by decide +kernel
theorem dX3_next_85 : decode cX3_next 85 = .ok (.aload_n 0, 1) := by decide +kernel
theorem dX3_next_86 : decode cX3_next 86 = .ok (.getfield 20, 3) := by decide +kernel
theorem dX3_next_89 : decode cX3_next 89 = .ok (.getfield 87, 3) := by decide +kernel
theorem dX3_next_92 : decode cX3_next 92 = .ok (.aload_n 0, 1) := by decide +kernel
theorem dX3_next_93 : decode cX3_next 93 = .ok (.getfield 47, 3) := by decide +kernel
theorem dX3_next_96 : decode cX3_next 96 = .ok (.laload, 1) := by decide +kernel
theorem dX3_next_97 : decode cX3_next 97 = .ok (.aload_n 0, 1) := by decide +kernel
theorem dX3_next_98 : decode cX3_next 98 = .ok (.getfield 20, 3) := by decide +kernel
theorem dX3_next_101 : decode cX3_next 101 = .ok (.getfield 87, 3) := by decide +kernel
theorem dX3_next_104 : decode cX3_next 104 = .ok (.aload_n 0, 1) := by decide +kernel
theorem dX3_next_105 : decode cX3_next 105 = .ok (.getfield 47, 3) := by decide +kernel
theorem dX3_next_108 : decode cX3_next 108 = .ok (.laload, 1) := by decide +kernel
theorem dX3_next_109 : decode cX3_next 109 = .ok (.lneg, 1) := by decide +kernel
theorem dX3_next_110 : decode cX3_next 110 = .ok (.land, 1) := by decide +kernel
theorem dX3_next_111 : decode cX3_next 111 = .ok (.invokevirtual 104, 3) := by decide +kernel
theorem dX3_next_114 : decode cX3_next 114 = .ok (.iconst 0, 1) := by decide +kernel
theorem dX3_next_115 : decode cX3_next 115 = .ok (.istore_n 1, 1) := by decide +kernel
theorem dX3_next_116 : decode cX3_next 116 = .ok (.iload_n 1, 1) := by decide +kernel
theorem dX3_next_117 : decode cX3_next 117 = .ok (.sipush 4096, 3) := by decide +kernel
theorem dX3_next_120 : decode cX3_next 120 = .ok (.if_icmp .ge 29, 3) := by decide +kernel
theorem dX3_next_123 : decode cX3_next 123 = .ok (.aload_n 0, 1) := by decide +kernel
theorem dX3_next_124 : decode cX3_next 124 = .ok (.getfield 33, 3) := by decide +kernel
theorem dX3_next_127 : decode cX3_next 127 = .ok (.lconst 0, 1) := by decide +kernel
theorem dX3_next_128 : decode cX3_next 128 = .ok (.lcmp, 1) := by decide +kernel
theorem dX3_next_129 : decode cX3_next 129 = .ok (.ifCond .eq 20, 3) := by decide +kernel
theorem dX3_next_132 : decode cX3_next 132 = .ok (.aload_n 0, 1) := by decide +kernel
theorem dX3_next_133 : decode cX3_next 133 = .ok (.aload_n 0, 1) := by decide +kernel
theorem dX3_next_134 : decode cX3_next 134 = .ok (.getfield 33, 3) := by decide +kernel
theorem dX3_next_137 : decode cX3_next 137 = .ok (.invokestatic 108, 3) := by decide +kernel
theorem dX3_next_140 : decode cX3_next 140 = .ok (.invokevirtual 112, 3) := by decide +kernel
theorem dX3_next_143 : decode cX3_next 143 = .ok (.iinc 1 1, 3) := by decide +kernel
theorem dX3_next_146 : decode cX3_next 146 = .ok (.goto (-30), 3) := by decide +kernel
theorem dX3_next_149 : decode cX3_next 149 = .ok (.iconst 1, 1) := by decide +kernel
theorem dX3_next_150 : decode cX3_next 150 = .ok (.ireturn, 1) := by decide +kernel
theorem dX3_clearSpot_0 : decode cX3_clearSpot 0 = .ok (.aload_n 0, 1) := by decide +kernel
theorem dX3_clearSpot_1 : decode cX3_clearSpot 1 = .ok (.getfield 41, 3) := by decide +kernel
theorem dX3_clearSpot_4 : decode cX3_clearSpot 4 = .ok (.istore_n 1, 1) := by decide +kernel
theorem dX3_clearSpot_5 : decode cX3_clearSpot 5 = .ok (.iload_n 1, 1) := by decide +kernel
theorem dX3_clearSpot_6 : decode cX3_clearSpot 6 = .ok (.aload_n 0, 1) := by decide +kernel
theorem dX3_clearSpot_7 : decode cX3_clearSpot 7 = .ok (.getfield 44, 3) := by decide +kernel
theorem dX3_clearSpot_10 : decode cX3_clearSpot 10 = .ok (.if_icmp .gt 19, 3) := by decide +kernel
theorem dX3_clearSpot_13 : decode cX3_clearSpot 13 = .ok (.aload_n 0, 1) := by decide +kernel
theorem dX3_clearSpot_14 : decode cX3_clearSpot 14 = .ok (.getfield 23, 3) := by decide +kernel
theorem dX3_clearSpot_17 : decode cX3_clearSpot 17 = .ok (.getfield 87, 3) := by decide +kernel
theorem dX3_clearSpot_20 : decode cX3_clearSpot 20 = .ok (.iload_n 1, 1) := by decide +kernel
theorem dX3_clearSpot_21 : decode cX3_clearSpot 21 = .ok (.lconst 0, 1) := by decide +kernel
theorem dX3_clearSpot_22 : decode cX3_clearSpot 22 = .ok (.lastore, 1) := by decide +kernel
theorem dX3_clearSpot_23 : decode cX3_clearSpot 23 = .ok (.iinc 1 1, 3) := by decide +kernel
theorem dX3_clearSpot_26 : decode cX3_clearSpot 26 = .ok (.goto (-21), 3) := by decide +kernel
theorem dX3_clearSpot_29 : decode cX3_clearSpot 29 = .ok (.aload_n 0, 1) := by decide +kernel
theorem dX3_clearSpot_30 : decode cX3_clearSpot 30 = .ok (.iconst 0, 1) := by decide +kernel
theorem dX3_clearSpot_31 : decode cX3_clearSpot 31 = .ok (.putfield 37, 3) := by decide +kernel
theorem dX3_clearSpot_34 : decode cX3_clearSpot 34 = .ok (.return_, 1) := by decide +kernel
set_option maxRecDepth 20000 in
theorem ggX3_growFrom_X3_widened : GoodIn wsX3_growFrom wsX3_widened := goodIn_r _ [7] (by decide +kernel) (by decide +kernel)
set_option maxRecDepth 20000 in
theorem gX3_growFrom_X3_widened : GoodIn wsX3_growFrom (va_wsS RX3 90 yX3_widened wsX3_widened) := goodIn_app (goodIn_of _ (by decide +kernel)) ggX3_growFrom_X3_widened
set_option maxRecDepth 20000 in
theorem ggX3_growFrom_X3_admit : GoodIn wsX3_growFrom wsX3_admit := goodIn_r _ [11, 12, 13, 3, 14, 1, 2, 15, 16, 17, 18, 19, 20, 21, 22, 23, 24, 25, 26, 27, 28, 29, 30, 31, 32, 6, 33, 34, 35, 36, 37, 38, 39, 40, 41, 42, 43, 44, 45, 46, 47, 48, 49, 50, 51, 52, 53] (by decide +kernel) (by decide +kernel)
set_option maxRecDepth 20000 in
theorem gX3_growFrom_X3_admit : GoodIn wsX3_growFrom (wsV RX3 104 RX3 yX3_admit wsX3_admit) := goodIn_app (goodIn_of _ (by decide +kernel)) ggX3_growFrom_X3_admit
theorem dX3_growFrom_0 : decode cX3_growFrom 0 = .ok (.aload_n 0, 1) := by decide +kernel
theorem dX3_growFrom_1 : decode cX3_growFrom 1 = .ok (.getfield 29, 3) := by decide +kernel
theorem dX3_growFrom_4 : decode cX3_growFrom 4 = .ok (.iload_n 1, 1) := by decide +kernel
theorem dX3_growFrom_5 : decode cX3_growFrom 5 = .ok (.laload, 1) := by decide +kernel
theorem dX3_growFrom_6 : decode cX3_growFrom 6 = .ok (.invokestatic 90, 3) := by decide +kernel
theorem dX3_growFrom_9 : decode cX3_growFrom 9 = .ok (.lstore_n 2, 1) := by decide +kernel
theorem dX3_growFrom_10 : decode cX3_growFrom 10 = .ok (.aload_n 0, 1) := by decide +kernel
theorem dX3_growFrom_11 : decode cX3_growFrom 11 = .ok (.getfield 29, 3) := by decide +kernel
theorem dX3_growFrom_14 : decode cX3_growFrom 14 = .ok (.iload_n 1, 1) := by decide +kernel
theorem dX3_growFrom_15 : decode cX3_growFrom 15 = .ok (.lconst 0, 1) := by decide +kernel
theorem dX3_growFrom_16 : decode cX3_growFrom 16 = .ok (.lastore, 1) := by decide +kernel
theorem dX3_growFrom_17 : decode cX3_growFrom 17 = .ok (.aload_n 0, 1) := by decide +kernel
theorem dX3_growFrom_18 : decode cX3_growFrom 18 = .ok (.dup, 1) := by decide +kernel
theorem dX3_growFrom_19 : decode cX3_growFrom 19 = .ok (.getfield 33, 3) := by decide +kernel
theorem dX3_growFrom_22 : decode cX3_growFrom 22 = .ok (.lconst 1, 1) := by decide +kernel
theorem dX3_growFrom_23 : decode cX3_growFrom 23 = .ok (.iload_n 1, 1) := by decide +kernel
theorem dX3_growFrom_24 : decode cX3_growFrom 24 = .ok (.lshl, 1) := by decide +kernel
theorem dX3_growFrom_25 : decode cX3_growFrom 25 = .ok (.ldc2_w 115, 3) := by decide +kernel
theorem dX3_growFrom_28 : decode cX3_growFrom 28 = .ok (.lxor, 1) := by decide +kernel
theorem dX3_growFrom_29 : decode cX3_growFrom 29 = .ok (.land, 1) := by decide +kernel
theorem dX3_growFrom_30 : decode cX3_growFrom 30 = .ok (.putfield 33, 3) := by decide +kernel
theorem dX3_growFrom_33 : decode cX3_growFrom 33 = .ok (.aload_n 0, 1) := by decide +kernel
theorem dX3_growFrom_34 : decode cX3_growFrom 34 = .ok (.iload_n 1, 1) := by decide +kernel
theorem dX3_growFrom_35 : decode cX3_growFrom 35 = .ok (.iconst 1, 1) := by decide +kernel
theorem dX3_growFrom_36 : decode cX3_growFrom 36 = .ok (.isub, 1) := by decide +kernel
theorem dX3_growFrom_37 : decode cX3_growFrom 37 = .ok (.lload_n 2, 1) := by decide +kernel
theorem dX3_growFrom_38 : decode cX3_growFrom 38 = .ok (.invokevirtual 104, 3) := by decide +kernel
theorem dX3_growFrom_41 : decode cX3_growFrom 41 = .ok (.aload_n 0, 1) := by decide +kernel
theorem dX3_growFrom_42 : decode cX3_growFrom 42 = .ok (.iload_n 1, 1) := by decide +kernel
theorem dX3_growFrom_43 : decode cX3_growFrom 43 = .ok (.iconst 1, 1) := by decide +kernel
theorem dX3_growFrom_44 : decode cX3_growFrom 44 = .ok (.iadd, 1) := by decide +kernel
theorem dX3_growFrom_45 : decode cX3_growFrom 45 = .ok (.lload_n 2, 1) := by decide +kernel
theorem dX3_growFrom_46 : decode cX3_growFrom 46 = .ok (.invokevirtual 104, 3) := by decide +kernel
theorem dX3_growFrom_49 : decode cX3_growFrom 49 = .ok (.return_, 1) := by decide +kernel
set_option maxRecDepth 20000 in
theorem ggX3_admit_X2_hasRow : GoodIn wsX3_admit wsX2_hasRow := goodIn_r _ [21, 22, 44, 45, 46] (by decide +kernel) (by decide +kernel)
set_option maxRecDepth 20000 in
theorem gX3_admit_X2_hasRow : GoodIn wsX3_admit (wsV RX3 117 RX2 yX2_hasRow wsX2_hasRow) := goodIn_app (goodIn_of _ (by decide +kernel)) ggX3_admit_X2_hasRow
set_option maxRecDepth 20000 in
theorem ggX3_admit_X3_runsAt : GoodIn wsX3_admit wsX3_runsAt := goodIn_r _ [26] (by decide +kernel) (by decide +kernel)
set_option maxRecDepth 20000 in
theorem gX3_admit_X3_runsAt : GoodIn wsX3_admit (va_wsS RX3 121 yX3_runsAt wsX3_runsAt) := goodIn_app (goodIn_of _ (by decide +kernel)) ggX3_admit_X3_runsAt
set_option maxRecDepth 20000 in
theorem ggX3_admit_J13_bitCount_95d88 : GoodIn wsX3_admit wsJ13_bitCount_95d88 := goodIn_r _ [30, 31, 32, 33] (by decide +kernel) (by decide +kernel)
set_option maxRecDepth 20000 in
theorem gX3_admit_J13_bitCount_95d88 : GoodIn wsX3_admit (va_wsS RX3 125 yJ13_bitCount_95d88 wsJ13_bitCount_95d88) := goodIn_app (goodIn_of _ (by decide +kernel)) ggX3_admit_J13_bitCount_95d88
theorem dX3_admit_0 : decode cX3_admit 0 = .ok (.aload_n 0, 1) := by decide +kernel
theorem dX3_admit_1 : decode cX3_admit 1 = .ok (.getfield 20, 3) := by decide +kernel
theorem dX3_admit_4 : decode cX3_admit 4 = .ok (.iload_n 1, 1) := by decide +kernel
theorem dX3_admit_5 : decode cX3_admit 5 = .ok (.invokevirtual 117, 3) := by decide +kernel
theorem dX3_admit_8 : decode cX3_admit 8 = .ok (.ifCond .eq 19, 3) := by decide +kernel
theorem dX3_admit_11 : decode cX3_admit 11 = .ok (.lload_n 2, 1) := by decide +kernel
theorem dX3_admit_12 : decode cX3_admit 12 = .ok (.aload_n 0, 1) := by decide +kernel
theorem dX3_admit_13 : decode cX3_admit 13 = .ok (.getfield 20, 3) := by decide +kernel
theorem dX3_admit_16 : decode cX3_admit 16 = .ok (.getfield 87, 3) := by decide +kernel
theorem dX3_admit_19 : decode cX3_admit 19 = .ok (.iload_n 1, 1) := by decide +kernel
theorem dX3_admit_20 : decode cX3_admit 20 = .ok (.laload, 1) := by decide +kernel
theorem dX3_admit_21 : decode cX3_admit 21 = .ok (.land, 1) := by decide +kernel
theorem dX3_admit_22 : decode cX3_admit 22 = .ok (.lconst 0, 1) := by decide +kernel
theorem dX3_admit_23 : decode cX3_admit 23 = .ok (.lcmp, 1) := by decide +kernel
theorem dX3_admit_24 : decode cX3_admit 24 = .ok (.ifCond .ne 4, 3) := by decide +kernel
theorem dX3_admit_27 : decode cX3_admit 27 = .ok (.return_, 1) := by decide +kernel
theorem dX3_admit_28 : decode cX3_admit 28 = .ok (.lload_n 2, 1) := by decide +kernel
theorem dX3_admit_29 : decode cX3_admit 29 = .ok (.aload_n 0, 1) := by decide +kernel
theorem dX3_admit_30 : decode cX3_admit 30 = .ok (.getfield 20, 3) := by decide +kernel
theorem dX3_admit_33 : decode cX3_admit 33 = .ok (.getfield 87, 3) := by decide +kernel
theorem dX3_admit_36 : decode cX3_admit 36 = .ok (.iload_n 1, 1) := by decide +kernel
theorem dX3_admit_37 : decode cX3_admit 37 = .ok (.laload, 1) := by decide +kernel
theorem dX3_admit_38 : decode cX3_admit 38 = .ok (.land, 1) := by decide +kernel
theorem dX3_admit_39 : decode cX3_admit 39 = .ok (.aload_n 0, 1) := by decide +kernel
theorem dX3_admit_40 : decode cX3_admit 40 = .ok (.getfield 20, 3) := by decide +kernel
