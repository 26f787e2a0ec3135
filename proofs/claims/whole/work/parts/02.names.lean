def RX0 : String := "CutTrees$Cutter"
def TX0 : u_T := fun k => match k with
  | 0 => ("CutTrees$Cutter", "rows", "LCutTrees$Parts;", true)
  | _ => ("CutTrees$Cutter", "pieces", "LCutTrees$Pieces;", true)
def tyX0 : Nat → FieldType := fun k => match k with
  | 0 => .object "CutTrees$Parts"
  | _ => .object "CutTrees$Pieces"
abbrev wsX00 : List Cond := u_ws RX0 TX0 2
theorem nmX0 : ∀ a, a < 2 → ∀ b, b < 2 → a ≠ b → (TX0 a).2.1 ≠ (TX0 b).2.1 := by decide +kernel
theorem tyX0_ok : ∀ k, k < 2 → parseFieldDescriptor (TX0 k).2.2.1 = some (tyX0 k) := by decide +kernel
abbrev cX0_init : ByteArray := prog_2_method_1_code
def yX0_init : MethodName := ⟨RX0, "<init>", "(LCutTrees$Pieces;)V"⟩
abbrev cX0_startWithAll : ByteArray := prog_2_method_2_code
def yX0_startWithAll : MethodName := ⟨RX0, "startWithAll", "()V"⟩
abbrev cX0_sides : ByteArray := prog_2_method_3_code
def yX0_sides : MethodName := ⟨RX0, "sides", "(II)I"⟩
abbrev cX0_sideBetween : ByteArray := prog_2_method_4_code
def yX0_sideBetween : MethodName := ⟨RX0, "sideBetween", "(IIII)I"⟩
abbrev cX0_addSideRow : ByteArray := prog_2_method_5_code
def yX0_addSideRow : MethodName := ⟨RX0, "addSideRow", "(IIII)V"⟩
abbrev cX0_addHalf : ByteArray := prog_2_method_6_code
def yX0_addHalf : MethodName := ⟨RX0, "addHalf", "(III)V"⟩
def RX1 : String := "CutTrees$Meetings"
def TX1 : u_T := fun k => match k with
  | 0 => ("CutTrees$Meetings", "which", "[I", true)
  | 1 => ("CutTrees$Meetings", "n", "[I", true)
  | 2 => ("CutTrees$Meetings", "d", "[I", true)
  | 3 => ("CutTrees$Meetings", "size", "I", false)
  | _ => ("CutTrees$Meetings", "pieces", "LCutTrees$Pieces;", true)
def tyX1 : Nat → FieldType := fun k => match k with
  | 0 => .array .int
  | 1 => .array .int
  | 2 => .array .int
  | 3 => .int
  | _ => .object "CutTrees$Pieces"
abbrev wsX10 : List Cond := u_ws RX1 TX1 5
theorem nmX1 : ∀ a, a < 5 → ∀ b, b < 5 → a ≠ b → (TX1 a).2.1 ≠ (TX1 b).2.1 := by decide +kernel
theorem tyX1_ok : ∀ k, k < 5 → parseFieldDescriptor (TX1 k).2.2.1 = some (tyX1 k) := by decide +kernel
abbrev cX1_init : ByteArray := prog_3_method_1_code
def yX1_init : MethodName := ⟨RX1, "<init>", "(LCutTrees$Pieces;)V"⟩
abbrev cX1_meetAll : ByteArray := prog_3_method_2_code
def yX1_meetAll : MethodName := ⟨RX1, "meetAll", "(IIII)V"⟩
abbrev cX1_meetOne : ByteArray := prog_3_method_3_code
def yX1_meetOne : MethodName := ⟨RX1, "meetOne", "(IIIII)V"⟩
abbrev cX1_insert : ByteArray := prog_3_method_4_code
def yX1_insert : MethodName := ⟨RX1, "insert", "(III)V"⟩
abbrev cX1_isLater : ByteArray := prog_3_method_5_code
def yX1_isLater : MethodName := ⟨RX1, "isLater", "(III)Z"⟩
def RX2 : String := "CutTrees$Parts"
def TX2 : u_T := fun k => match k with
  | 0 => ("CutTrees$Parts", "owner", "[I", true)
  | 1 => ("CutTrees$Parts", "n0", "[I", true)
  | 2 => ("CutTrees$Parts", "d0", "[I", true)
  | 3 => ("CutTrees$Parts", "n1", "[I", true)
  | 4 => ("CutTrees$Parts", "d1", "[I", true)
  | _ => ("CutTrees$Parts", "size", "I", false)
def tyX2 : Nat → FieldType := fun k => match k with
  | 0 => .array .int
  | 1 => .array .int
  | 2 => .array .int
  | 3 => .array .int
  | 4 => .array .int
  | _ => .int
abbrev wsX20 : List Cond := u_ws RX2 TX2 6
theorem nmX2 : ∀ a, a < 6 → ∀ b, b < 6 → a ≠ b → (TX2 a).2.1 ≠ (TX2 b).2.1 := by decide +kernel
theorem tyX2_ok : ∀ k, k < 6 → parseFieldDescriptor (TX2 k).2.2.1 = some (tyX2 k) := by decide +kernel
abbrev cX2_init : ByteArray := prog_4_method_1_code
def yX2_init : MethodName := ⟨RX2, "<init>", "()V"⟩
abbrev cX2_addWhole : ByteArray := prog_4_method_2_code
def yX2_addWhole : MethodName := ⟨RX2, "addWhole", "(I)V"⟩
abbrev cX2_addCopy : ByteArray := prog_4_method_3_code
def yX2_addCopy : MethodName := ⟨RX2, "addCopy", "(LCutTrees$Parts;I)V"⟩
abbrev cX2_add : ByteArray := prog_4_method_4_code
def yX2_add : MethodName := ⟨RX2, "add", "(IIIII)V"⟩
abbrev cX2_howManyOf : ByteArray := prog_4_method_5_code
def yX2_howManyOf : MethodName := ⟨RX2, "howManyOf", "(I)I"⟩
def RX3 : String := "CutTrees$Pieces"
def TX3 : u_T := fun k => match k with
  | 0 => ("CutTrees$Pieces", "x0", "[I", true)
  | 1 => ("CutTrees$Pieces", "y0", "[I", true)
  | 2 => ("CutTrees$Pieces", "x1", "[I", true)
  | 3 => ("CutTrees$Pieces", "y1", "[I", true)
  | _ => ("CutTrees$Pieces", "size", "I", false)
def tyX3 : Nat → FieldType := fun k => match k with
  | 0 => .array .int
  | 1 => .array .int
  | 2 => .array .int
  | 3 => .array .int
  | _ => .int
abbrev wsX30 : List Cond := u_ws RX3 TX3 5
theorem nmX3 : ∀ a, a < 5 → ∀ b, b < 5 → a ≠ b → (TX3 a).2.1 ≠ (TX3 b).2.1 := by decide +kernel
theorem tyX3_ok : ∀ k, k < 5 → parseFieldDescriptor (TX3 k).2.2.1 = some (tyX3 k) := by decide +kernel
abbrev cX3_init : ByteArray := prog_5_method_1_code
def yX3_init : MethodName := ⟨RX3, "<init>", "()V"⟩
abbrev cX3_add : ByteArray := prog_5_method_2_code
def yX3_add : MethodName := ⟨RX3, "add", "(IIII)V"⟩
abbrev cX3_sideOf : ByteArray := prog_5_method_3_code
def yX3_sideOf : MethodName := ⟨RX3, "sideOf", "(III)I"⟩
abbrev cX3_cross : ByteArray := prog_5_method_4_code
def yX3_cross : MethodName := ⟨RX3, "cross", "(IIII)I"⟩
abbrev cX3_placeAt : ByteArray := prog_5_method_5_code
def yX3_placeAt : MethodName := ⟨RX3, "placeAt", "(IIII)J"⟩
abbrev cX3_blocks : ByteArray := prog_5_method_6_code
def yX3_blocks : MethodName := ⟨RX3, "blocks", "(IIIII)Z"⟩
abbrev cX3_framesMeet : ByteArray := prog_5_method_7_code
def yX3_framesMeet : MethodName := ⟨RX3, "framesMeet", "(IIII)Z"⟩
abbrev cX3_sameSide : ByteArray := prog_5_method_8_code
def yX3_sameSide : MethodName := ⟨RX3, "sameSide", "(II)Z"⟩
def RX4 : String := "CutTrees$Reckoner"
def TX4 : u_T := fun k => match k with
  | 0 => ("CutTrees$Reckoner", "pieces", "LCutTrees$Pieces;", true)
  | 1 => ("CutTrees$Reckoner", "cutter", "LCutTrees$Cutter;", true)
  | _ => ("CutTrees$Reckoner", "sequence", "[I", true)
def tyX4 : Nat → FieldType := fun k => match k with
  | 0 => .object "CutTrees$Pieces"
  | 1 => .object "CutTrees$Cutter"
  | _ => .array .int
abbrev wsX40 : List Cond := u_ws RX4 TX4 3
theorem nmX4 : ∀ a, a < 3 → ∀ b, b < 3 → a ≠ b → (TX4 a).2.1 ≠ (TX4 b).2.1 := by decide +kernel
theorem tyX4_ok : ∀ k, k < 3 → parseFieldDescriptor (TX4 k).2.2.1 = some (tyX4 k) := by decide +kernel
abbrev cX4_init : ByteArray := prog_6_method_1_code
def yX4_init : MethodName := ⟨RX4, "<init>", "(LCutTrees$Pieces;LCutTrees$Cutter;)V"⟩
abbrev cX4_fewestOfAllTrees : ByteArray := prog_6_method_2_code
def yX4_fewestOfAllTrees : MethodName := ⟨RX4, "fewestOfAllTrees", "()I"⟩
abbrev cX4_partsOverAllOrders : ByteArray := prog_6_method_3_code
def yX4_partsOverAllOrders : MethodName := ⟨RX4, "partsOverAllOrders", "()I"⟩
abbrev cX4_setSequence : ByteArray := prog_6_method_4_code
def yX4_setSequence : MethodName := ⟨RX4, "setSequence", "(II)V"⟩
abbrev cX4_fewest : ByteArray := prog_6_method_5_code
def yX4_fewest : MethodName := ⟨RX4, "fewest", "(IIZI)I"⟩
abbrev cX4_howManyOn : ByteArray := prog_6_method_6_code
def yX4_howManyOn : MethodName := ⟨RX4, "howManyOn", "(III)I"⟩
def RX5 : String := "CutTrees$Telling"
def TX5 : u_T := fun k => match k with
  | 0 => ("CutTrees$Telling", "row", "[I", true)
  | 1 => ("CutTrees$Telling", "size", "I", false)
  | 2 => ("CutTrees$Telling", "pieces", "LCutTrees$Pieces;", true)
  | _ => ("CutTrees$Telling", "tree", "LCutTrees$Tree;", true)
def tyX5 : Nat → FieldType := fun k => match k with
  | 0 => .array .int
  | 1 => .int
  | 2 => .object "CutTrees$Pieces"
  | _ => .object "CutTrees$Tree"
abbrev wsX50 : List Cond := u_ws RX5 TX5 4
theorem nmX5 : ∀ a, a < 4 → ∀ b, b < 4 → a ≠ b → (TX5 a).2.1 ≠ (TX5 b).2.1 := by decide +kernel
theorem tyX5_ok : ∀ k, k < 4 → parseFieldDescriptor (TX5 k).2.2.1 = some (tyX5 k) := by decide +kernel
abbrev cX5_init : ByteArray := prog_7_method_1_code
def yX5_init : MethodName := ⟨RX5, "<init>", "(LCutTrees$Pieces;LCutTrees$Tree;)V"⟩
abbrev cX5_tellFrom : ByteArray := prog_7_method_2_code
def yX5_tellFrom : MethodName := ⟨RX5, "tellFrom", "(II)V"⟩
abbrev cX5_tellNode : ByteArray := prog_7_method_3_code
def yX5_tellNode : MethodName := ⟨RX5, "tellNode", "(IIII)V"⟩
def RX6 : String := "CutTrees$Tree"
def TX6 : u_T := fun k => match k with
  | 0 => ("CutTrees$Tree", "line", "[I", true)
  | 1 => ("CutTrees$Tree", "held", "[I", true)
  | 2 => ("CutTrees$Tree", "firstHeld", "[I", true)
  | 3 => ("CutTrees$Tree", "front", "[I", true)
  | 4 => ("CutTrees$Tree", "back", "[I", true)
  | 5 => ("CutTrees$Tree", "above", "[I", true)
  | 6 => ("CutTrees$Tree", "parts", "LCutTrees$Parts;", true)
  | 7 => ("CutTrees$Tree", "home", "[I", true)
  | 8 => ("CutTrees$Tree", "stands", "Z", false)
  | 9 => ("CutTrees$Tree", "top", "I", false)
  | 10 => ("CutTrees$Tree", "knots", "I", false)
  | 11 => ("CutTrees$Tree", "leaves", "I", false)
  | 12 => ("CutTrees$Tree", "height", "I", false)
  | 13 => ("CutTrees$Tree", "pieces", "LCutTrees$Pieces;", true)
  | 14 => ("CutTrees$Tree", "cutter", "LCutTrees$Cutter;", true)
  | 15 => ("CutTrees$Tree", "rule", "I", false)
  | _ => ("CutTrees$Tree", "draw", "I", false)
def tyX6 : Nat → FieldType := fun k => match k with
  | 0 => .array .int
  | 1 => .array .int
  | 2 => .array .int
  | 3 => .array .int
  | 4 => .array .int
  | 5 => .array .int
  | 6 => .object "CutTrees$Parts"
  | 7 => .array .int
  | 8 => .boolean
  | 9 => .int
  | 10 => .int
  | 11 => .int
  | 12 => .int
  | 13 => .object "CutTrees$Pieces"
  | 14 => .object "CutTrees$Cutter"
  | 15 => .int
  | _ => .int
abbrev wsX60 : List Cond := u_ws RX6 TX6 17
theorem nmX6 : ∀ a, a < 17 → ∀ b, b < 17 → a ≠ b → (TX6 a).2.1 ≠ (TX6 b).2.1 := by decide +kernel
theorem tyX6_ok : ∀ k, k < 17 → parseFieldDescriptor (TX6 k).2.2.1 = some (tyX6 k) := by decide +kernel
abbrev cX6_init : ByteArray := prog_8_method_1_code
def yX6_init : MethodName := ⟨RX6, "<init>", "(LCutTrees$Pieces;LCutTrees$Cutter;)V"⟩
abbrev cX6_fell : ByteArray := prog_8_method_2_code
def yX6_fell : MethodName := ⟨RX6, "fell", "()V"⟩
abbrev cX6_raise : ByteArray := prog_8_method_3_code
def yX6_raise : MethodName := ⟨RX6, "raise", "(II)V"⟩
abbrev cX6_grow : ByteArray := prog_8_method_4_code
def yX6_grow : MethodName := ⟨RX6, "grow", "(IIII)I"⟩
abbrev cX6_growSide : ByteArray := prog_8_method_5_code
def yX6_growSide : MethodName := ⟨RX6, "growSide", "(IIIII)I"⟩
abbrev cX6_hold : ByteArray := prog_8_method_6_code
def yX6_hold : MethodName := ⟨RX6, "hold", "(III)V"⟩
abbrev cX6_choose : ByteArray := prog_8_method_7_code
def yX6_choose : MethodName := ⟨RX6, "choose", "(II)I"⟩
abbrev cX6_faultOf : ByteArray := prog_8_method_8_code
def yX6_faultOf : MethodName := ⟨RX6, "faultOf", "(III)I"⟩
abbrev cX6_placeOf : ByteArray := prog_8_method_9_code
def yX6_placeOf : MethodName := ⟨RX6, "placeOf", "(II)I"⟩
def RX7 : String := "CutTrees"
def TX7 : u_T := fun k => match k with
  | 0 => ("CutTrees", "pieces", "LCutTrees$Pieces;", true)
  | 1 => ("CutTrees", "tree", "LCutTrees$Tree;", true)
  | 2 => ("CutTrees", "telling", "LCutTrees$Telling;", true)
  | 3 => ("CutTrees", "meetings", "LCutTrees$Meetings;", true)
  | _ => ("CutTrees", "reckoner", "LCutTrees$Reckoner;", true)
def tyX7 : Nat → FieldType := fun k => match k with
  | 0 => .object "CutTrees$Pieces"
  | 1 => .object "CutTrees$Tree"
  | 2 => .object "CutTrees$Telling"
  | 3 => .object "CutTrees$Meetings"
  | _ => .object "CutTrees$Reckoner"
abbrev wsX70 : List Cond := u_ws RX7 TX7 5
theorem nmX7 : ∀ a, a < 5 → ∀ b, b < 5 → a ≠ b → (TX7 a).2.1 ≠ (TX7 b).2.1 := by decide +kernel
theorem tyX7_ok : ∀ k, k < 5 → parseFieldDescriptor (TX7 k).2.2.1 = some (tyX7 k) := by decide +kernel
abbrev cX7_init : ByteArray := prog_1_method_1_code
def yX7_init : MethodName := ⟨RX7, "<init>", "()V"⟩
abbrev cX7_piece : ByteArray := prog_1_method_2_code
def yX7_piece : MethodName := ⟨RX7, "piece", "(IIII)I"⟩
abbrev cX7_drop : ByteArray := prog_1_method_3_code
def yX7_drop : MethodName := ⟨RX7, "drop", "()I"⟩
abbrev cX7_look : ByteArray := prog_1_method_4_code
def yX7_look : MethodName := ⟨RX7, "look", "(II)I"⟩
abbrev cX7_build : ByteArray := prog_1_method_5_code
def yX7_build : MethodName := ⟨RX7, "build", "(II)I"⟩
abbrev cX7_count : ByteArray := prog_1_method_6_code
def yX7_count : MethodName := ⟨RX7, "count", "(I)I"⟩
abbrev cX7_knot : ByteArray := prog_1_method_7_code
def yX7_knot : MethodName := ⟨RX7, "knot", "(II)I"⟩
abbrev cX7_part : ByteArray := prog_1_method_8_code
def yX7_part : MethodName := ⟨RX7, "part", "(II)J"⟩
abbrev cX7_where : ByteArray := prog_1_method_9_code
def yX7_where : MethodName := ⟨RX7, "where", "(II)I"⟩
abbrev cX7_order : ByteArray := prog_1_method_10_code
def yX7_order : MethodName := ⟨RX7, "order", "(II)I"⟩
abbrev cX7_told : ByteArray := prog_1_method_11_code
def yX7_told : MethodName := ⟨RX7, "told", "(I)I"⟩
abbrev cX7_sees : ByteArray := prog_1_method_12_code
def yX7_sees : MethodName := ⟨RX7, "sees", "(IIII)I"⟩
abbrev cX7_ray : ByteArray := prog_1_method_13_code
def yX7_ray : MethodName := ⟨RX7, "ray", "(IIII)I"⟩
abbrev cX7_met : ByteArray := prog_1_method_14_code
def yX7_met : MethodName := ⟨RX7, "met", "(II)I"⟩
abbrev cX7_least : ByteArray := prog_1_method_15_code
def yX7_least : MethodName := ⟨RX7, "least", "()I"⟩
abbrev cX7_sum : ByteArray := prog_1_method_16_code
def yX7_sum : MethodName := ⟨RX7, "sum", "()I"⟩
abbrev cX7_forgetTree : ByteArray := prog_1_method_17_code
def yX7_forgetTree : MethodName := ⟨RX7, "forgetTree", "()V"⟩
abbrev cX7_isBeyond : ByteArray := prog_1_method_18_code
def yX7_isBeyond : MethodName := ⟨RX7, "isBeyond", "(II)Z"⟩
abbrev cX7_commonDivisor : ByteArray := prog_1_method_19_code
def yX7_commonDivisor : MethodName := ⟨RX7, "commonDivisor", "(JJ)J"⟩
def RX8 : String := "CutTreesModel"
def TX8 : u_T := fun k => match k with
  | 0 => ("CutTreesModel", "pieces", "I", false)
  | 1 => ("CutTreesModel", "px", "[I", true)
  | 2 => ("CutTreesModel", "py", "[I", true)
  | 3 => ("CutTreesModel", "dx", "[I", true)
  | 4 => ("CutTreesModel", "dy", "[I", true)
  | 5 => ("CutTreesModel", "thrown", "I", false)
  | 6 => ("CutTreesModel", "rPiece", "[I", true)
  | 7 => ("CutTreesModel", "rUp", "[J", true)
  | 8 => ("CutTreesModel", "rLow", "[J", true)
  | 9 => ("CutTreesModel", "rUp2", "[J", true)
  | 10 => ("CutTreesModel", "rLow2", "[J", true)
  | 11 => ("CutTreesModel", "rMany", "I", false)
  | 12 => ("CutTreesModel", "wFrom", "[I", true)
  | 13 => ("CutTreesModel", "wAbove", "[I", true)
  | 14 => ("CutTreesModel", "wFront", "[Z", true)
  | 15 => ("CutTreesModel", "waits", "I", false)
  | 16 => ("CutTreesModel", "sPiece", "[I", true)
  | 17 => ("CutTreesModel", "sUp", "[J", true)
  | 18 => ("CutTreesModel", "sLow", "[J", true)
  | 19 => ("CutTreesModel", "sUp2", "[J", true)
  | 20 => ("CutTreesModel", "sLow2", "[J", true)
  | 21 => ("CutTreesModel", "isTree", "Z", false)
  | 22 => ("CutTreesModel", "knots", "I", false)
  | 23 => ("CutTreesModel", "leaves", "I", false)
  | 24 => ("CutTreesModel", "parts", "I", false)
  | 25 => ("CutTreesModel", "kPiece", "[I", true)
  | 26 => ("CutTreesModel", "kMany", "[I", true)
  | 27 => ("CutTreesModel", "kFirst", "[I", true)
  | 28 => ("CutTreesModel", "kFront", "[I", true)
  | 29 => ("CutTreesModel", "kBack", "[I", true)
  | 30 => ("CutTreesModel", "kAbove", "[I", true)
  | 31 => ("CutTreesModel", "top", "I", false)
  | 32 => ("CutTreesModel", "pPiece", "[I", true)
  | 33 => ("CutTreesModel", "pKnot", "[I", true)
  | 34 => ("CutTreesModel", "pUp", "[J", true)
  | 35 => ("CutTreesModel", "pLow", "[J", true)
  | 36 => ("CutTreesModel", "pUp2", "[J", true)
  | 37 => ("CutTreesModel", "pLow2", "[J", true)
  | 38 => ("CutTreesModel", "draw", "I", false)
  | 39 => ("CutTreesModel", "made", "I", false)
  | 40 => ("CutTreesModel", "orderOf", "[I", true)
  | 41 => ("CutTreesModel", "told", "[I", true)
  | 42 => ("CutTreesModel", "toldMany", "I", false)
  | 43 => ("CutTreesModel", "oKnot", "[I", true)
  | 44 => ("CutTreesModel", "oParts", "[Z", true)
  | 45 => ("CutTreesModel", "metPiece", "[I", true)
  | 46 => ("CutTreesModel", "metUp", "[J", true)
  | 47 => ("CutTreesModel", "metLow", "[J", true)
  | 48 => ("CutTreesModel", "metMany", "I", false)
  | 49 => ("CutTreesModel", "comesUp", "J", false)
  | 50 => ("CutTreesModel", "comesLow", "J", false)
  | 51 => ("CutTreesModel", "fewest", "[I", true)
  | 52 => ("CutTreesModel", "inUp", "J", false)
  | 53 => ("CutTreesModel", "inLow", "J", false)
  | 54 => ("CutTreesModel", "inUp2", "J", false)
  | _ => ("CutTreesModel", "inLow2", "J", false)
def tyX8 : Nat → FieldType := fun k => match k with
  | 0 => .int
  | 1 => .array .int
  | 2 => .array .int
  | 3 => .array .int
  | 4 => .array .int
  | 5 => .int
  | 6 => .array .int
  | 7 => .array .long
  | 8 => .array .long
  | 9 => .array .long
  | 10 => .array .long
  | 11 => .int
  | 12 => .array .int
  | 13 => .array .int
  | 14 => .array .boolean
  | 15 => .int
  | 16 => .array .int
  | 17 => .array .long
  | 18 => .array .long
  | 19 => .array .long
  | 20 => .array .long
  | 21 => .boolean
  | 22 => .int
  | 23 => .int
  | 24 => .int
  | 25 => .array .int
  | 26 => .array .int
  | 27 => .array .int
  | 28 => .array .int
  | 29 => .array .int
  | 30 => .array .int
  | 31 => .int
  | 32 => .array .int
  | 33 => .array .int
  | 34 => .array .long
  | 35 => .array .long
  | 36 => .array .long
  | 37 => .array .long
  | 38 => .int
  | 39 => .int
  | 40 => .array .int
  | 41 => .array .int
  | 42 => .int
  | 43 => .array .int
  | 44 => .array .boolean
  | 45 => .array .int
  | 46 => .array .long
  | 47 => .array .long
  | 48 => .int
  | 49 => .long
  | 50 => .long
  | 51 => .array .int
  | 52 => .long
  | 53 => .long
  | 54 => .long
  | _ => .long
abbrev wsX80 : List Cond := u_ws RX8 TX8 56
theorem nmX8 : ∀ a, a < 56 → ∀ b, b < 56 → a ≠ b → (TX8 a).2.1 ≠ (TX8 b).2.1 := by decide +kernel
theorem tyX8_ok : ∀ k, k < 56 → parseFieldDescriptor (TX8 k).2.2.1 = some (tyX8 k) := by decide +kernel
abbrev cX8_init : ByteArray := prog_10_method_1_code
def yX8_init : MethodName := ⟨RX8, "<init>", "()V"⟩
abbrev cX8_thrown : ByteArray := prog_10_method_2_code
def yX8_thrown : MethodName := ⟨RX8, "thrown", "()I"⟩
abbrev cX8_isPlace : ByteArray := prog_10_method_3_code
def yX8_isPlace : MethodName := ⟨RX8, "isPlace", "(II)Z"⟩
abbrev cX8_piece : ByteArray := prog_10_method_4_code
def yX8_piece : MethodName := ⟨RX8, "piece", "(IIII)I"⟩
abbrev cX8_drop : ByteArray := prog_10_method_5_code
def yX8_drop : MethodName := ⟨RX8, "drop", "()I"⟩
abbrev cX8_noTree : ByteArray := prog_10_method_6_code
def yX8_noTree : MethodName := ⟨RX8, "noTree", "()V"⟩
abbrev cX8_side : ByteArray := prog_10_method_7_code
def yX8_side : MethodName := ⟨RX8, "side", "(IJJ)J"⟩
abbrev cX8_slope : ByteArray := prog_10_method_8_code
def yX8_slope : MethodName := ⟨RX8, "slope", "(II)J"⟩
abbrev cX8_sideAt : ByteArray := prog_10_method_9_code
def yX8_sideAt : MethodName := ⟨RX8, "sideAt", "(IIJJ)J"⟩
abbrev cX8_does : ByteArray := prog_10_method_10_code
def yX8_does : MethodName := ⟨RX8, "does", "(IIJJJJ)I"⟩
abbrev cX8_rowDoes : ByteArray := prog_10_method_11_code
def yX8_rowDoes : MethodName := ⟨RX8, "rowDoes", "(II)I"⟩
abbrev cX8_chosen : ByteArray := prog_10_method_12_code
def yX8_chosen : MethodName := ⟨RX8, "chosen", "(III)I"⟩
abbrev cX8_put : ByteArray := prog_10_method_13_code
def yX8_put : MethodName := ⟨RX8, "put", "(IIJJJJ)V"⟩
abbrev cX8_back : ByteArray := prog_10_method_14_code
def yX8_back : MethodName := ⟨RX8, "back", "(I)V"⟩
abbrev cX8_waitsNow : ByteArray := prog_10_method_15_code
def yX8_waitsNow : MethodName := ⟨RX8, "waitsNow", "(IZ)V"⟩
abbrev cX8_grow : ByteArray := prog_10_method_16_code
def yX8_grow : MethodName := ⟨RX8, "grow", "(IZ)V"⟩
abbrev cX8_keep : ByteArray := prog_10_method_17_code
def yX8_keep : MethodName := ⟨RX8, "keep", "(II)V"⟩
abbrev cX8_build : ByteArray := prog_10_method_18_code
def yX8_build : MethodName := ⟨RX8, "build", "(II)I"⟩
abbrev cX8_fails : ByteArray := prog_10_method_19_code
def yX8_fails : MethodName := ⟨RX8, "fails", "(I)I"⟩
abbrev cX8_look : ByteArray := prog_10_method_20_code
def yX8_look : MethodName := ⟨RX8, "look", "(II)I"⟩
abbrev cX8_deepest : ByteArray := prog_10_method_21_code
def yX8_deepest : MethodName := ⟨RX8, "deepest", "()I"⟩
abbrev cX8_count : ByteArray := prog_10_method_22_code
def yX8_count : MethodName := ⟨RX8, "count", "(I)I"⟩
abbrev cX8_knot : ByteArray := prog_10_method_23_code
def yX8_knot : MethodName := ⟨RX8, "knot", "(II)I"⟩
abbrev cX8_divisor : ByteArray := prog_10_method_24_code
def yX8_divisor : MethodName := ⟨RX8, "divisor", "(JJ)J"⟩
abbrev cX8_end : ByteArray := prog_10_method_25_code
def yX8_end : MethodName := ⟨RX8, "end", "(IJJI)J"⟩
abbrev cX8_part : ByteArray := prog_10_method_26_code
def yX8_part : MethodName := ⟨RX8, "part", "(II)J"⟩
abbrev cX8_where : ByteArray := prog_10_method_27_code
def yX8_where : MethodName := ⟨RX8, "where", "(II)I"⟩
abbrev cX8_order : ByteArray := prog_10_method_28_code
def yX8_order : MethodName := ⟨RX8, "order", "(II)I"⟩
abbrev cX8_told : ByteArray := prog_10_method_29_code
def yX8_told : MethodName := ⟨RX8, "told", "(I)I"⟩
abbrev cX8_sign : ByteArray := prog_10_method_30_code
def yX8_sign : MethodName := ⟨RX8, "sign", "(J)I"⟩
abbrev cX8_within : ByteArray := prog_10_method_31_code
def yX8_within : MethodName := ⟨RX8, "within", "(III)Z"⟩
abbrev cX8_turn : ByteArray := prog_10_method_32_code
def yX8_turn : MethodName := ⟨RX8, "turn", "(IIIIII)I"⟩
abbrev cX8_between : ByteArray := prog_10_method_33_code
def yX8_between : MethodName := ⟨RX8, "between", "(IIIIII)Z"⟩
abbrev cX8_meets : ByteArray := prog_10_method_34_code
def yX8_meets : MethodName := ⟨RX8, "meets", "(IIIII)Z"⟩
abbrev cX8_sees : ByteArray := prog_10_method_35_code
def yX8_sees : MethodName := ⟨RX8, "sees", "(IIII)I"⟩
abbrev cX8_comes : ByteArray := prog_10_method_36_code
def yX8_comes : MethodName := ⟨RX8, "comes", "(IIIII)Z"⟩
abbrev cX8_ray : ByteArray := prog_10_method_37_code
def yX8_ray : MethodName := ⟨RX8, "ray", "(IIII)I"⟩
abbrev cX8_met : ByteArray := prog_10_method_38_code
def yX8_met : MethodName := ⟨RX8, "met", "(II)I"⟩
abbrev cX8_digit : ByteArray := prog_10_method_39_code
def yX8_digit : MethodName := ⟨RX8, "digit", "(II)I"⟩
abbrev cX8_isIn : ByteArray := prog_10_method_40_code
def yX8_isIn : MethodName := ⟨RX8, "isIn", "(II)Z"⟩
abbrev cX8_least : ByteArray := prog_10_method_41_code
def yX8_least : MethodName := ⟨RX8, "least", "()I"⟩
abbrev cX8_sum : ByteArray := prog_10_method_42_code
def yX8_sum : MethodName := ⟨RX8, "sum", "()I"⟩
abbrev cX8_swap : ByteArray := prog_10_method_43_code
def yX8_swap : MethodName := ⟨RX8, "swap", "(II)V"⟩
def RJ9 : String := "java/lang/Math"
def TJ9 : u_T := fun k => match k with
  | _ => ("", "", "", false)
def tyJ9 : Nat → FieldType := fun k => match k with
  | _ => .int
theorem nmJ9 : ∀ a, a < 0 → ∀ b, b < 0 → a ≠ b → (TJ9 a).2.1 ≠ (TJ9 b).2.1 := by decide +kernel
theorem tyJ9_ok : ∀ k, k < 0 → parseFieldDescriptor (TJ9 k).2.2.1 = some (tyJ9 k) := by decide +kernel
abbrev cJ9_abs_0f7a4 : ByteArray := prog_13_method_59_code
def yJ9_abs_0f7a4 : MethodName := ⟨RJ9, "abs", "(I)I"⟩
abbrev cJ9_abs_067f4 : ByteArray := prog_13_method_61_code
def yJ9_abs_067f4 : MethodName := ⟨RJ9, "abs", "(J)J"⟩
abbrev cJ9_max_7cf53 : ByteArray := prog_13_method_65_code
def yJ9_max_7cf53 : MethodName := ⟨RJ9, "max", "(II)I"⟩
abbrev cJ9_min_7cf53 : ByteArray := prog_13_method_69_code
def yJ9_min_7cf53 : MethodName := ⟨RJ9, "min", "(II)I"⟩
def RJ0 : String := "java/lang/String"
def TJ0 : u_T := fun k => match k with
  | _ => ("", "", "", false)
def tyJ0 : Nat → FieldType := fun k => match k with
  | _ => .int
theorem nmJ0 : ∀ a, a < 0 → ∀ b, b < 0 → a ≠ b → (TJ0 a).2.1 ≠ (TJ0 b).2.1 := by decide +kernel
theorem tyJ0_ok : ∀ k, k < 0 → parseFieldDescriptor (TJ0 k).2.2.1 = some (tyJ0 k) := by decide +kernel
def RL : String := "CutTreesLaw"
abbrev cL_look : ByteArray := method_3_code
def yL_look : MethodName := ⟨RL, "look", "(LCutTrees;II[J)I"⟩
abbrev cL_knot : ByteArray := method_4_code
def yL_knot : MethodName := ⟨RL, "knot", "(LCutTrees;II[J)I"⟩
abbrev cL_part : ByteArray := method_5_code
def yL_part : MethodName := ⟨RL, "part", "(LCutTrees;II[J)I"⟩
abbrev cL_law : ByteArray := code
def yL_law : MethodName := ⟨RL, "law", "([I)Z"⟩
def wsL_law0_r1 : List Cond := [Cond.classLink RL 8 RX7, Cond.instantiable RX7 5, Cond.initialized RX7, Cond.classLink RL 25 RX8, Cond.instantiable RX8 56, Cond.initialized RX8, Cond.arrayClass .long, Cond.methodLink RL 24 yX7_init, Cond.instanceMethod yX7_init, Cond.code yX7_init cX7_init 2 none, Cond.methodLink RX7 3 objectInit, Cond.instanceMethod objectInit, Cond.code objectInit ⟨#[0xb1]⟩ 1 none, Cond.classLink RX7 9 RX3, Cond.instantiable RX3 5, Cond.initialized RX3, Cond.fieldLink RX7 12 "CutTrees" "pieces" "LCutTrees$Pieces;", Cond.classLink RX7 16 RX0, Cond.instantiable RX0 2, Cond.initialized RX0, Cond.classLink RX7 21 RX6, Cond.instantiable RX6 17, Cond.initialized RX6, Cond.fieldLink RX7 26 "CutTrees" "tree" "LCutTrees$Tree;"]
def wsL_law0_r2 : List Cond := [Cond.classLink RX7 30 RX5, Cond.instantiable RX5 4, Cond.initialized RX5, Cond.fieldLink RX7 35 "CutTrees" "telling" "LCutTrees$Telling;", Cond.classLink RX7 39 RX1, Cond.instantiable RX1 5, Cond.initialized RX1, Cond.fieldLink RX7 42 "CutTrees" "meetings" "LCutTrees$Meetings;", Cond.classLink RX7 46 RX4, Cond.instantiable RX4 3, Cond.initialized RX4, Cond.fieldLink RX7 49 "CutTrees" "reckoner" "LCutTrees$Reckoner;", Cond.instanceMethod yX3_init, Cond.code yX3_init cX3_init 1 none, Cond.methodLink RX3 3 objectInit, Cond.arrayClass .int, Cond.fieldLink RX3 9 "CutTrees$Pieces" "x0" "[I", Cond.fieldLink RX3 15 "CutTrees$Pieces" "y0" "[I", Cond.fieldLink RX3 18 "CutTrees$Pieces" "x1" "[I", Cond.fieldLink RX3 21 "CutTrees$Pieces" "y1" "[I", Cond.methodLink RX7 18 yX0_init, Cond.instanceMethod yX0_init, Cond.code yX0_init cX0_init 2 none, Cond.methodLink RX0 3 objectInit]
def wsL_law0_r3 : List Cond := [Cond.classLink RX0 9 RX2, Cond.instantiable RX2 6, Cond.initialized RX2, Cond.fieldLink RX0 12 "CutTrees$Cutter" "rows" "LCutTrees$Parts;", Cond.fieldLink RX0 18 "CutTrees$Cutter" "pieces" "LCutTrees$Pieces;", Cond.instanceMethod yX2_init, Cond.code yX2_init cX2_init 1 none, Cond.methodLink RX2 3 objectInit, Cond.fieldLink RX2 9 "CutTrees$Parts" "owner" "[I", Cond.fieldLink RX2 15 "CutTrees$Parts" "n0" "[I", Cond.fieldLink RX2 18 "CutTrees$Parts" "d0" "[I", Cond.fieldLink RX2 21 "CutTrees$Parts" "n1" "[I", Cond.fieldLink RX2 24 "CutTrees$Parts" "d1" "[I", Cond.methodLink RX7 23 yX6_init, Cond.instanceMethod yX6_init, Cond.code yX6_init cX6_init 3 none, Cond.methodLink RX6 3 objectInit, Cond.fieldLink RX6 9 "CutTrees$Tree" "line" "[I", Cond.fieldLink RX6 15 "CutTrees$Tree" "held" "[I", Cond.fieldLink RX6 18 "CutTrees$Tree" "firstHeld" "[I", Cond.fieldLink RX6 21 "CutTrees$Tree" "front" "[I", Cond.fieldLink RX6 24 "CutTrees$Tree" "back" "[I", Cond.fieldLink RX6 27 "CutTrees$Tree" "above" "[I", Cond.classLink RX6 30 RX2]
def wsL_law0_r4 : List Cond := [Cond.fieldLink RX6 33 "CutTrees$Tree" "parts" "LCutTrees$Parts;", Cond.fieldLink RX6 37 "CutTrees$Tree" "home" "[I", Cond.fieldLink RX6 40 "CutTrees$Tree" "pieces" "LCutTrees$Pieces;", Cond.fieldLink RX6 44 "CutTrees$Tree" "cutter" "LCutTrees$Cutter;", Cond.methodLink RX7 32 yX5_init, Cond.instanceMethod yX5_init, Cond.code yX5_init cX5_init 3 none, Cond.methodLink RX5 3 objectInit, Cond.fieldLink RX5 9 "CutTrees$Telling" "row" "[I", Cond.fieldLink RX5 15 "CutTrees$Telling" "pieces" "LCutTrees$Pieces;", Cond.fieldLink RX5 19 "CutTrees$Telling" "tree" "LCutTrees$Tree;", Cond.methodLink RX7 41 yX1_init, Cond.instanceMethod yX1_init, Cond.code yX1_init cX1_init 2 none, Cond.methodLink RX1 3 objectInit, Cond.fieldLink RX1 9 "CutTrees$Meetings" "which" "[I", Cond.fieldLink RX1 15 "CutTrees$Meetings" "n" "[I", Cond.fieldLink RX1 18 "CutTrees$Meetings" "d" "[I", Cond.fieldLink RX1 21 "CutTrees$Meetings" "pieces" "LCutTrees$Pieces;", Cond.methodLink RX7 48 yX4_init, Cond.instanceMethod yX4_init, Cond.code yX4_init cX4_init 3 none, Cond.methodLink RX4 3 objectInit, Cond.fieldLink RX4 9 "CutTrees$Reckoner" "sequence" "[I"]
def wsL_law0_r5 : List Cond := [Cond.fieldLink RX4 15 "CutTrees$Reckoner" "pieces" "LCutTrees$Pieces;", Cond.fieldLink RX4 19 "CutTrees$Reckoner" "cutter" "LCutTrees$Cutter;", Cond.methodLink RL 27 yX8_init, Cond.instanceMethod yX8_init, Cond.code yX8_init cX8_init 1 none, Cond.methodLink RX8 1 objectInit, Cond.fieldLink RX8 7 "CutTreesModel" "px" "[I", Cond.fieldLink RX8 13 "CutTreesModel" "py" "[I", Cond.fieldLink RX8 16 "CutTreesModel" "dx" "[I", Cond.fieldLink RX8 19 "CutTreesModel" "dy" "[I", Cond.fieldLink RX8 22 "CutTreesModel" "rPiece" "[I", Cond.fieldLink RX8 25 "CutTreesModel" "rUp" "[J", Cond.fieldLink RX8 29 "CutTreesModel" "rLow" "[J", Cond.fieldLink RX8 32 "CutTreesModel" "rUp2" "[J", Cond.fieldLink RX8 35 "CutTreesModel" "rLow2" "[J", Cond.fieldLink RX8 38 "CutTreesModel" "wFrom" "[I", Cond.fieldLink RX8 41 "CutTreesModel" "wAbove" "[I", Cond.arrayClass .boolean, Cond.fieldLink RX8 44 "CutTreesModel" "wFront" "[Z", Cond.fieldLink RX8 48 "CutTreesModel" "sPiece" "[I", Cond.fieldLink RX8 51 "CutTreesModel" "sUp" "[J", Cond.fieldLink RX8 54 "CutTreesModel" "sLow" "[J", Cond.fieldLink RX8 57 "CutTreesModel" "sUp2" "[J", Cond.fieldLink RX8 60 "CutTreesModel" "sLow2" "[J"]
def wsL_law0_r6 : List Cond := [Cond.fieldLink RX8 63 "CutTreesModel" "kPiece" "[I", Cond.fieldLink RX8 66 "CutTreesModel" "kMany" "[I", Cond.fieldLink RX8 69 "CutTreesModel" "kFirst" "[I", Cond.fieldLink RX8 72 "CutTreesModel" "kFront" "[I", Cond.fieldLink RX8 75 "CutTreesModel" "kBack" "[I", Cond.fieldLink RX8 78 "CutTreesModel" "kAbove" "[I", Cond.fieldLink RX8 81 "CutTreesModel" "pPiece" "[I", Cond.fieldLink RX8 84 "CutTreesModel" "pKnot" "[I", Cond.fieldLink RX8 87 "CutTreesModel" "pUp" "[J", Cond.fieldLink RX8 90 "CutTreesModel" "pLow" "[J", Cond.fieldLink RX8 93 "CutTreesModel" "pUp2" "[J", Cond.fieldLink RX8 96 "CutTreesModel" "pLow2" "[J", Cond.fieldLink RX8 99 "CutTreesModel" "orderOf" "[I", Cond.fieldLink RX8 102 "CutTreesModel" "told" "[I", Cond.fieldLink RX8 105 "CutTreesModel" "oKnot" "[I", Cond.fieldLink RX8 108 "CutTreesModel" "oParts" "[Z", Cond.fieldLink RX8 111 "CutTreesModel" "metPiece" "[I", Cond.fieldLink RX8 114 "CutTreesModel" "metUp" "[J", Cond.fieldLink RX8 117 "CutTreesModel" "metLow" "[J", Cond.fieldLink RX8 120 "CutTreesModel" "fewest" "[I", Cond.methodLink RL 28 yX7_piece, Cond.instanceMethod yX7_piece, Cond.selects RX7 yX7_piece yX7_piece, Cond.code yX7_piece cX7_piece 6 (some .int)]
def wsL_law0_r7 : List Cond := [Cond.fieldLink RX7 53 "CutTrees$Pieces" "size" "I", Cond.methodLink RX7 57 yX7_isBeyond, Cond.static yX7_isBeyond, Cond.code yX7_isBeyond cX7_isBeyond 2 (some .boolean), Cond.methodLink RX7 61 yX7_forgetTree, Cond.instanceMethod yX7_forgetTree, Cond.selects RX7 yX7_forgetTree yX7_forgetTree, Cond.code yX7_forgetTree cX7_forgetTree 1 none, Cond.fieldLink RX7 172 "CutTrees$Telling" "size" "I", Cond.methodLink RX7 200 yX6_fell, Cond.instanceMethod yX6_fell, Cond.selects RX6 yX6_fell yX6_fell, Cond.code yX6_fell cX6_fell 1 none, Cond.fieldLink RX6 48 "CutTrees$Tree" "stands" "Z", Cond.fieldLink RX6 52 "CutTrees$Tree" "knots" "I", Cond.fieldLink RX6 56 "CutTrees$Tree" "leaves" "I", Cond.fieldLink RX6 59 "CutTrees$Tree" "height" "I", Cond.fieldLink RX6 62 "CutTrees$Parts" "size" "I", Cond.methodLink RX7 64 yX3_add, Cond.instanceMethod yX3_add, Cond.selects RX3 yX3_add yX3_add, Cond.code yX3_add cX3_add 5 none, Cond.fieldLink RX3 24 "CutTrees$Pieces" "size" "I", Cond.methodLink RL 32 yX8_piece]
def wsL_law0_r8 : List Cond := [Cond.instanceMethod yX8_piece, Cond.selects RX8 yX8_piece yX8_piece, Cond.code yX8_piece cX8_piece 5 (some .int), Cond.fieldLink RX8 123 "CutTreesModel" "thrown" "I", Cond.fieldLink RX8 127 "CutTreesModel" "pieces" "I", Cond.methodLink RX8 130 yX8_isPlace, Cond.static yX8_isPlace, Cond.code yX8_isPlace cX8_isPlace 2 (some .boolean), Cond.methodLink RX8 134 yX8_noTree, Cond.instanceMethod yX8_noTree, Cond.selects RX8 yX8_noTree yX8_noTree, Cond.code yX8_noTree cX8_noTree 1 none, Cond.fieldLink RX8 137 "CutTreesModel" "isTree" "Z", Cond.fieldLink RX8 141 "CutTreesModel" "knots" "I", Cond.fieldLink RX8 144 "CutTreesModel" "leaves" "I", Cond.fieldLink RX8 147 "CutTreesModel" "parts" "I", Cond.fieldLink RX8 150 "CutTreesModel" "toldMany" "I", Cond.methodLink RL 33 yX7_drop, Cond.instanceMethod yX7_drop, Cond.selects RX7 yX7_drop yX7_drop, Cond.code yX7_drop cX7_drop 1 (some .int), Cond.methodLink RL 37 yX8_drop, Cond.instanceMethod yX8_drop, Cond.selects RX8 yX8_drop yX8_drop]
def wsL_law0_r9 : List Cond := [Cond.code yX8_drop cX8_drop 1 (some .int), Cond.methodLink RL 38 yL_look, Cond.static yL_look, Cond.initialized RL, Cond.codeWith yL_look cL_look 5 (some .int) [(0, 10, 13, 13), (0, 10, 17, 15)], Cond.classLink RL 13 "java/lang/IndexOutOfBoundsException", Cond.classLink RL 15 "java/util/NoSuchElementException", Cond.methodLink RL 7 yX7_look, Cond.instanceMethod yX7_look, Cond.selects RX7 yX7_look yX7_look, Cond.code yX7_look cX7_look 3 (some .int), Cond.classLink RX7 68 "java/lang/IndexOutOfBoundsException", Cond.initialized "java/lang/IndexOutOfBoundsException", Cond.classLink RX7 98 "java/util/NoSuchElementException", Cond.initialized "java/util/NoSuchElementException", Cond.fieldLink RX7 75 "CutTrees$Pieces" "x0" "[I", Cond.fieldLink RX7 79 "CutTrees$Pieces" "y0" "[I", Cond.fieldLink RX7 82 "CutTrees$Pieces" "x1" "[I", Cond.fieldLink RX7 85 "CutTrees$Pieces" "y1" "[I", Cond.fieldLink RX7 88 "CutTrees$Tree" "parts" "LCutTrees$Parts;", Cond.methodLink RX7 92 yX2_howManyOf, Cond.instanceMethod yX2_howManyOf, Cond.selects RX2 yX2_howManyOf yX2_howManyOf, Cond.code yX2_howManyOf cX2_howManyOf 4 (some .int)]
def wsL_law0_r10 : List Cond := [Cond.fieldLink RX2 31 "CutTrees$Parts" "size" "I", Cond.methodLink RL 43 yX8_look, Cond.instanceMethod yX8_look, Cond.selects RX8 yX8_look yX8_look, Cond.code yX8_look cX8_look 5 (some .int), Cond.methodLink RX8 212 yX8_fails, Cond.instanceMethod yX8_fails, Cond.selects RX8 yX8_fails yX8_fails, Cond.code yX8_fails cX8_fails 2 (some .int), Cond.methodLink RL 44 yX8_thrown, Cond.instanceMethod yX8_thrown, Cond.selects RX8 yX8_thrown yX8_thrown, Cond.code yX8_thrown cX8_thrown 1 (some .int), Cond.methodLink RL 47 yX7_build, Cond.instanceMethod yX7_build, Cond.selects RX7 yX7_build yX7_build, Cond.code yX7_build cX7_build 3 (some .int), Cond.fieldLink RX7 107 "CutTrees$Tree" "knots" "I", Cond.methodLink RX7 103 yX6_raise, Cond.instanceMethod yX6_raise, Cond.selects RX6 yX6_raise yX6_raise, Cond.code yX6_raise cX6_raise 3 none, Cond.fieldLink RX6 68 "CutTrees$Tree" "rule" "I", Cond.fieldLink RX6 71 "CutTrees$Tree" "draw" "I"]
def wsL_law0_r11 : List Cond := [Cond.fieldLink RX6 79 "CutTrees$Cutter" "rows" "LCutTrees$Parts;", Cond.fieldLink RX6 86 "CutTrees$Tree" "top" "I", Cond.methodLink RX6 65 yX6_fell, Cond.methodLink RX6 74 yX0_startWithAll, Cond.instanceMethod yX0_startWithAll, Cond.selects RX0 yX0_startWithAll yX0_startWithAll, Cond.code yX0_startWithAll cX0_startWithAll 2 none, Cond.fieldLink RX0 22 "CutTrees$Parts" "size" "I", Cond.fieldLink RX0 26 "CutTrees$Pieces" "size" "I", Cond.methodLink RX0 29 yX2_addWhole, Cond.instanceMethod yX2_addWhole, Cond.selects RX2 yX2_addWhole yX2_addWhole, Cond.code yX2_addWhole cX2_addWhole 2 none, Cond.methodLink RX2 27 yX2_add, Cond.instanceMethod yX2_add, Cond.selects RX2 yX2_add yX2_add, Cond.code yX2_add cX2_add 6 none, Cond.methodLink RX6 82 yX6_grow, Cond.instanceMethod yX6_grow, Cond.selects RX6 yX6_grow yX6_grow, Cond.code yX6_grow cX6_grow 6 (some .int), Cond.methodLink RX6 89 Lib.Math.max.name, Cond.static Lib.Math.max.name, Cond.initialized "java/lang/Math"]
def wsL_law0_r12 : List Cond := [Cond.code Lib.Math.max.name Lib.Math.max.code 2 (some .int), Cond.fieldLink RX6 95 "CutTrees$Parts" "owner" "[I", Cond.methodLink RX6 98 yX6_choose, Cond.instanceMethod yX6_choose, Cond.selects RX6 yX6_choose yX6_choose, Cond.code yX6_choose cX6_choose 7 (some .int), Cond.constant RX6 120 (1103515245), Cond.methodLink RX6 121 yX6_faultOf, Cond.instanceMethod yX6_faultOf, Cond.selects RX6 yX6_faultOf yX6_faultOf, Cond.code yX6_faultOf cX6_faultOf 9 (some .int), Cond.methodLink RX6 125 Lib.Math.abs.name, Cond.static Lib.Math.abs.name, Cond.code Lib.Math.abs.name Lib.Math.abs.code 1 (some .int), Cond.methodLink RX6 113 yX0_sides, Cond.instanceMethod yX0_sides, Cond.selects RX0 yX0_sides yX0_sides, Cond.code yX0_sides cX0_sides 6 (some .int), Cond.fieldLink RX0 33 "CutTrees$Parts" "owner" "[I", Cond.fieldLink RX0 37 "CutTrees$Pieces" "x0" "[I", Cond.fieldLink RX0 40 "CutTrees$Pieces" "y0" "[I", Cond.fieldLink RX0 47 "CutTrees$Pieces" "x1" "[I", Cond.fieldLink RX0 50 "CutTrees$Pieces" "y1" "[I", Cond.fieldLink RX0 53 "CutTrees$Parts" "n0" "[I"]
def wsL_law0_r13 : List Cond := [Cond.fieldLink RX0 56 "CutTrees$Parts" "d0" "[I", Cond.fieldLink RX0 63 "CutTrees$Parts" "n1" "[I", Cond.fieldLink RX0 66 "CutTrees$Parts" "d1" "[I", Cond.methodLink RX0 43 yX3_sideOf, Cond.instanceMethod yX3_sideOf, Cond.selects RX3 yX3_sideOf yX3_sideOf, Cond.code yX3_sideOf cX3_sideOf 4 (some .int), Cond.methodLink RX0 59 yX0_sideBetween, Cond.static yX0_sideBetween, Cond.code yX0_sideBetween cX0_sideBetween 6 (some .int), Cond.methodLink RX6 101 yX6_hold, Cond.instanceMethod yX6_hold, Cond.selects RX6 yX6_hold yX6_hold, Cond.code yX6_hold cX6_hold 5 none, Cond.methodLink RX6 116 yX2_addCopy, Cond.instanceMethod yX2_addCopy, Cond.selects RX2 yX2_addCopy yX2_addCopy, Cond.code yX2_addCopy cX2_addCopy 3 none, Cond.methodLink RX6 105 yX6_growSide, Cond.instanceMethod yX6_growSide, Cond.selects RX6 yX6_growSide yX6_growSide, Cond.code yX6_growSide cX6_growSide 8 (some .int), Cond.methodLink RX6 109 yX0_addSideRow, Cond.instanceMethod yX0_addSideRow]
def wsL_law0_r14 : List Cond := [Cond.selects RX0 yX0_addSideRow yX0_addSideRow, Cond.code yX0_addSideRow cX0_addSideRow 7 none, Cond.methodLink RX0 69 yX0_sides, Cond.methodLink RX0 73 yX0_addHalf, Cond.instanceMethod yX0_addHalf, Cond.selects RX0 yX0_addHalf yX0_addHalf, Cond.code yX0_addHalf cX0_addHalf 10 none, Cond.methodLink RX0 81 Lib.Math.abs.name, Cond.methodLink RX0 87 yX2_add, Cond.methodLink RX0 77 yX2_addCopy, Cond.methodLink RL 50 yX8_build, Cond.instanceMethod yX8_build, Cond.selects RX8 yX8_build yX8_build, Cond.code yX8_build cX8_build 4 (some .int), Cond.fieldLink RX8 170 "CutTreesModel" "draw" "I", Cond.methodLink RX8 209 yX8_grow, Cond.instanceMethod yX8_grow, Cond.selects RX8 yX8_grow yX8_grow, Cond.code yX8_grow cX8_grow 16 none, Cond.fieldLink RX8 177 "CutTreesModel" "rMany" "I", Cond.fieldLink RX8 180 "CutTreesModel" "waits" "I", Cond.fieldLink RX8 183 "CutTreesModel" "made" "I", Cond.fieldLink RX8 198 "CutTreesModel" "top" "I", Cond.methodLink RX8 186 yX8_waitsNow]
def wsL_law0_r15 : List Cond := [Cond.instanceMethod yX8_waitsNow, Cond.selects RX8 yX8_waitsNow yX8_waitsNow, Cond.code yX8_waitsNow cX8_waitsNow 3 none, Cond.methodLink RX8 190 yX8_put, Cond.instanceMethod yX8_put, Cond.selects RX8 yX8_put yX8_put, Cond.code yX8_put cX8_put 11 none, Cond.methodLink RX8 194 yX8_back, Cond.instanceMethod yX8_back, Cond.selects RX8 yX8_back yX8_back, Cond.code yX8_back cX8_back 2 none, Cond.methodLink RX8 201 yX8_chosen, Cond.instanceMethod yX8_chosen, Cond.selects RX8 yX8_chosen yX8_chosen, Cond.code yX8_chosen cX8_chosen 12 (some .int), Cond.constant RX8 169 (1103515245), Cond.methodLink RX8 173 yX8_rowDoes, Cond.instanceMethod yX8_rowDoes, Cond.selects RX8 yX8_rowDoes yX8_rowDoes, Cond.code yX8_rowDoes cX8_rowDoes 3 (some .int), Cond.methodLink RX8 165 yX8_does, Cond.instanceMethod yX8_does, Cond.selects RX8 yX8_does yX8_does, Cond.code yX8_does cX8_does 15 (some .int)]
def wsL_law0_r16 : List Cond := [Cond.methodLink RX8 161 yX8_sideAt, Cond.instanceMethod yX8_sideAt, Cond.selects RX8 yX8_sideAt yX8_sideAt, Cond.code yX8_sideAt cX8_sideAt 7 (some .long), Cond.methodLink RX8 153 yX8_side, Cond.instanceMethod yX8_side, Cond.selects RX8 yX8_side yX8_side, Cond.code yX8_side cX8_side 6 (some .long), Cond.methodLink RX8 157 yX8_slope, Cond.instanceMethod yX8_slope, Cond.selects RX8 yX8_slope yX8_slope, Cond.code yX8_slope cX8_slope 3 (some .long), Cond.methodLink RX8 205 yX8_keep, Cond.instanceMethod yX8_keep, Cond.selects RX8 yX8_keep yX8_keep, Cond.code yX8_keep cX8_keep 3 none, Cond.methodLink RL 51 yX7_count, Cond.instanceMethod yX7_count, Cond.selects RX7 yX7_count yX7_count, Cond.code yX7_count cX7_count 2 (some .int), Cond.fieldLink RX7 110 "CutTrees$Parts" "size" "I", Cond.fieldLink RX7 111 "CutTrees$Tree" "leaves" "I", Cond.fieldLink RX7 114 "CutTrees$Tree" "height" "I", Cond.fieldLink RX7 117 "CutTrees$Tree" "stands" "Z"]
def wsL_law0_r17 : List Cond := [Cond.methodLink RL 55 yX8_count, Cond.instanceMethod yX8_count, Cond.selects RX8 yX8_count yX8_count, Cond.code yX8_count cX8_count 2 (some .int), Cond.methodLink RX8 216 yX8_deepest, Cond.instanceMethod yX8_deepest, Cond.selects RX8 yX8_deepest yX8_deepest, Cond.code yX8_deepest cX8_deepest 5 (some .int), Cond.methodLink RL 56 yL_knot, Cond.static yL_knot, Cond.codeWith yL_knot cL_knot 5 (some .int) [(0, 10, 13, 13), (0, 10, 17, 15)], Cond.methodLink RL 17 yX7_knot, Cond.instanceMethod yX7_knot, Cond.selects RX7 yX7_knot yX7_knot, Cond.code yX7_knot cX7_knot 3 (some .int), Cond.fieldLink RX7 123 "CutTrees$Tree" "line" "[I", Cond.fieldLink RX7 126 "CutTrees$Tree" "held" "[I", Cond.fieldLink RX7 129 "CutTrees$Tree" "firstHeld" "[I", Cond.fieldLink RX7 132 "CutTrees$Tree" "front" "[I", Cond.fieldLink RX7 135 "CutTrees$Tree" "back" "[I", Cond.fieldLink RX7 138 "CutTrees$Tree" "above" "[I", Cond.methodLink RL 58 yX8_knot, Cond.instanceMethod yX8_knot, Cond.selects RX8 yX8_knot yX8_knot]
def wsL_law0_r18 : List Cond := [Cond.code yX8_knot cX8_knot 3 (some .int), Cond.methodLink RL 59 yL_part, Cond.static yL_part, Cond.codeWith yL_part cL_part 5 (some .int) [(0, 9, 12, 13), (0, 9, 16, 15)], Cond.methodLink RL 20 yX7_part, Cond.instanceMethod yX7_part, Cond.selects RX7 yX7_part yX7_part, Cond.code yX7_part cX7_part 4 (some .long), Cond.fieldLink RX7 143 "CutTrees$Parts" "owner" "[I", Cond.fieldLink RX7 146 "CutTrees$Parts" "n0" "[I", Cond.fieldLink RX7 149 "CutTrees$Parts" "d0" "[I", Cond.fieldLink RX7 156 "CutTrees$Parts" "n1" "[I", Cond.fieldLink RX7 159 "CutTrees$Parts" "d1" "[I", Cond.fieldLink RX7 162 "CutTrees$Tree" "home" "[I", Cond.methodLink RX7 152 yX3_placeAt, Cond.instanceMethod yX3_placeAt, Cond.selects RX3 yX3_placeAt yX3_placeAt, Cond.code yX3_placeAt cX3_placeAt 11 (some .long), Cond.static yX7_commonDivisor, Cond.code yX7_commonDivisor cX7_commonDivisor 11 (some .long), Cond.methodLink RX7 203 Lib.MathLoose.abs_long.x, Cond.static Lib.MathLoose.abs_long.x, Cond.code Lib.MathLoose.abs_long.x Lib.MathLoose.abs_long.code 2 (some .long), Cond.methodLink RL 61 yX8_part]
def wsL_law0_r19 : List Cond := [Cond.instanceMethod yX8_part, Cond.selects RX8 yX8_part yX8_part, Cond.code yX8_part cX8_part 3 (some .long), Cond.methodLink RX8 224 yX8_end, Cond.instanceMethod yX8_end, Cond.selects RX8 yX8_end yX8_end, Cond.code yX8_end cX8_end 13 (some .long), Cond.methodLink RX8 220 yX8_divisor, Cond.static yX8_divisor, Cond.code yX8_divisor cX8_divisor 10 (some .long), Cond.methodLink RL 62 yX7_where, Cond.instanceMethod yX7_where, Cond.selects RX7 yX7_where yX7_where, Cond.code yX7_where cX7_where 3 (some .int), Cond.methodLink RX7 165 yX6_placeOf, Cond.instanceMethod yX6_placeOf, Cond.selects RX6 yX6_placeOf yX6_placeOf, Cond.code yX6_placeOf cX6_placeOf 6 (some .int), Cond.methodLink RX6 129 yX3_sideOf, Cond.methodLink RL 65 yX8_where, Cond.instanceMethod yX8_where, Cond.selects RX8 yX8_where yX8_where, Cond.code yX8_where cX8_where 6 (some .int), Cond.methodLink RL 66 yX7_order]
def wsL_law0_r20 : List Cond := [Cond.instanceMethod yX7_order, Cond.selects RX7 yX7_order yX7_order, Cond.code yX7_order cX7_order 3 (some .int), Cond.methodLink RX7 169 yX5_tellFrom, Cond.instanceMethod yX5_tellFrom, Cond.selects RX5 yX5_tellFrom yX5_tellFrom, Cond.code yX5_tellFrom cX5_tellFrom 3 none, Cond.fieldLink RX5 23 "CutTrees$Telling" "size" "I", Cond.fieldLink RX5 27 "CutTrees$Tree" "top" "I", Cond.methodLink RX5 32 yX5_tellNode, Cond.instanceMethod yX5_tellNode, Cond.selects RX5 yX5_tellNode yX5_tellNode, Cond.code yX5_tellNode cX5_tellNode 7 none, Cond.fieldLink RX5 36 "CutTrees$Tree" "knots" "I", Cond.fieldLink RX5 39 "CutTrees$Tree" "line" "[I", Cond.fieldLink RX5 48 "CutTrees$Tree" "back" "[I", Cond.fieldLink RX5 51 "CutTrees$Tree" "front" "[I", Cond.fieldLink RX5 54 "CutTrees$Tree" "held" "[I", Cond.fieldLink RX5 57 "CutTrees$Tree" "firstHeld" "[I", Cond.methodLink RX5 42 yX3_sideOf, Cond.methodLink RL 69 yX8_order, Cond.instanceMethod yX8_order, Cond.selects RX8 yX8_order yX8_order, Cond.code yX8_order cX8_order 6 (some .int)]
def wsL_law0_r21 : List Cond := [Cond.methodLink RL 70 yX7_told, Cond.instanceMethod yX7_told, Cond.selects RX7 yX7_told yX7_told, Cond.code yX7_told cX7_told 2 (some .int), Cond.fieldLink RX7 173 "CutTrees$Telling" "row" "[I", Cond.methodLink RL 73 yX8_told, Cond.instanceMethod yX8_told, Cond.selects RX8 yX8_told yX8_told, Cond.code yX8_told cX8_told 2 (some .int), Cond.methodLink RL 74 yX7_sees, Cond.instanceMethod yX7_sees, Cond.selects RX7 yX7_sees yX7_sees, Cond.code yX7_sees cX7_sees 6 (some .int), Cond.methodLink RX7 176 yX3_blocks, Cond.instanceMethod yX3_blocks, Cond.selects RX3 yX3_blocks yX3_blocks, Cond.code yX3_blocks cX3_blocks 6 (some .boolean), Cond.methodLink RX3 32 yX3_framesMeet, Cond.static yX3_framesMeet, Cond.code yX3_framesMeet cX3_framesMeet 4 (some .boolean), Cond.methodLink RX3 48 Lib.Math.max.name, Cond.methodLink RX3 54 Lib.Math.min.name, Cond.static Lib.Math.min.name, Cond.code Lib.Math.min.name Lib.Math.min.code 2 (some .int)]
def wsL_law0_r22 : List Cond := [Cond.methodLink RX3 36 yX3_sideOf, Cond.methodLink RX3 40 yX3_sameSide, Cond.static yX3_sameSide, Cond.code yX3_sameSide cX3_sameSide 2 (some .boolean), Cond.methodLink RX3 44 yX3_cross, Cond.static yX3_cross, Cond.code yX3_cross cX3_cross 4 (some .int), Cond.methodLink RL 77 yX8_sees, Cond.instanceMethod yX8_sees, Cond.selects RX8 yX8_sees yX8_sees, Cond.code yX8_sees cX8_sees 6 (some .int), Cond.methodLink RX8 244 yX8_meets, Cond.instanceMethod yX8_meets, Cond.selects RX8 yX8_meets yX8_meets, Cond.code yX8_meets cX8_meets 15 (some .boolean), Cond.methodLink RX8 232 yX8_turn, Cond.static yX8_turn, Cond.code yX8_turn cX8_turn 6 (some .int), Cond.methodLink RX8 228 yX8_sign, Cond.static yX8_sign, Cond.code yX8_sign cX8_sign 2 (some .int), Cond.methodLink RX8 236 yX8_within, Cond.instanceMethod yX8_within, Cond.selects RX8 yX8_within yX8_within]
def wsL_law0_r23 : List Cond := [Cond.code yX8_within cX8_within 6 (some .boolean), Cond.methodLink RX8 240 yX8_between, Cond.static yX8_between, Cond.code yX8_between cX8_between 6 (some .boolean), Cond.methodLink RL 78 yX7_ray, Cond.instanceMethod yX7_ray, Cond.selects RX7 yX7_ray yX7_ray, Cond.code yX7_ray cX7_ray 6 (some .int), Cond.fieldLink RX7 183 "CutTrees$Meetings" "size" "I", Cond.methodLink RX7 180 yX1_meetAll, Cond.instanceMethod yX1_meetAll, Cond.selects RX1 yX1_meetAll yX1_meetAll, Cond.code yX1_meetAll cX1_meetAll 6 none, Cond.fieldLink RX1 25 "CutTrees$Meetings" "size" "I", Cond.fieldLink RX1 29 "CutTrees$Pieces" "size" "I", Cond.methodLink RX1 32 yX1_meetOne, Cond.instanceMethod yX1_meetOne, Cond.selects RX1 yX1_meetOne yX1_meetOne, Cond.code yX1_meetOne cX1_meetOne 15 none, Cond.fieldLink RX1 36 "CutTrees$Pieces" "x1" "[I", Cond.fieldLink RX1 39 "CutTrees$Pieces" "x0" "[I", Cond.fieldLink RX1 42 "CutTrees$Pieces" "y1" "[I", Cond.fieldLink RX1 45 "CutTrees$Pieces" "y0" "[I", Cond.methodLink RX1 56 Lib.Math.min.name]
def wsL_law0_r24 : List Cond := [Cond.methodLink RX1 62 Lib.Math.max.name, Cond.methodLink RX1 48 yX3_cross, Cond.methodLink RX1 52 yX1_insert, Cond.instanceMethod yX1_insert, Cond.selects RX1 yX1_insert yX1_insert, Cond.code yX1_insert cX1_insert 6 none, Cond.methodLink RX1 65 yX1_isLater, Cond.instanceMethod yX1_isLater, Cond.selects RX1 yX1_isLater yX1_isLater, Cond.code yX1_isLater cX1_isLater 4 (some .boolean), Cond.methodLink RL 81 yX8_ray, Cond.instanceMethod yX8_ray, Cond.selects RX8 yX8_ray yX8_ray, Cond.code yX8_ray cX8_ray 13 (some .int), Cond.fieldLink RX8 255 "CutTreesModel" "metMany" "I", Cond.fieldLink RX8 248 "CutTreesModel" "comesUp" "J", Cond.fieldLink RX8 252 "CutTreesModel" "comesLow" "J", Cond.methodLink RX8 258 yX8_comes, Cond.instanceMethod yX8_comes, Cond.selects RX8 yX8_comes yX8_comes, Cond.code yX8_comes cX8_comes 20 (some .boolean), Cond.methodLink RL 82 yX7_met, Cond.instanceMethod yX7_met, Cond.selects RX7 yX7_met yX7_met]
def wsL_law0_r25 : List Cond := [Cond.code yX7_met cX7_met 3 (some .int), Cond.fieldLink RX7 184 "CutTrees$Meetings" "which" "[I", Cond.fieldLink RX7 187 "CutTrees$Meetings" "n" "[I", Cond.fieldLink RX7 190 "CutTrees$Meetings" "d" "[I", Cond.methodLink RL 85 yX8_met, Cond.instanceMethod yX8_met, Cond.selects RX8 yX8_met yX8_met, Cond.code yX8_met cX8_met 3 (some .int), Cond.methodLink RL 86 yX7_least, Cond.instanceMethod yX7_least, Cond.selects RX7 yX7_least yX7_least, Cond.code yX7_least cX7_least 1 (some .int), Cond.methodLink RX7 193 yX4_fewestOfAllTrees, Cond.instanceMethod yX4_fewestOfAllTrees, Cond.selects RX4 yX4_fewestOfAllTrees yX4_fewestOfAllTrees, Cond.code yX4_fewestOfAllTrees cX4_fewestOfAllTrees 1 (some .int), Cond.fieldLink RX4 28 "CutTrees$Cutter" "rows" "LCutTrees$Parts;", Cond.fieldLink RX4 32 "CutTrees$Parts" "size" "I", Cond.methodLink RX4 23 yX0_startWithAll, Cond.methodLink RX4 38 yX4_fewest, Cond.instanceMethod yX4_fewest, Cond.selects RX4 yX4_fewest yX4_fewest, Cond.code yX4_fewest cX4_fewest 12 (some .int), Cond.fieldLink RX4 59 "CutTrees$Parts" "owner" "[I"]
def wsL_law0_r26 : List Cond := [Cond.methodLink RX4 45 Lib.Math.min.name, Cond.methodLink RX4 62 yX4_howManyOn, Cond.instanceMethod yX4_howManyOn, Cond.selects RX4 yX4_howManyOn yX4_howManyOn, Cond.code yX4_howManyOn cX4_howManyOn 6 (some .int), Cond.methodLink RX4 70 yX0_sides, Cond.methodLink RX4 66 yX0_addSideRow, Cond.methodLink RL 89 yX8_least, Cond.instanceMethod yX8_least, Cond.selects RX8 yX8_least yX8_least, Cond.code yX8_least cX8_least 8 (some .int), Cond.fieldLink RX8 261 "CutTreesModel" "inUp" "J", Cond.fieldLink RX8 264 "CutTreesModel" "inLow" "J", Cond.fieldLink RX8 267 "CutTreesModel" "inUp2" "J", Cond.fieldLink RX8 270 "CutTreesModel" "inLow2" "J", Cond.methodLink RX8 273 yX8_digit, Cond.static yX8_digit, Cond.code yX8_digit cX8_digit 4 (some .int), Cond.methodLink RX8 276 yX8_isIn, Cond.instanceMethod yX8_isIn, Cond.selects RX8 yX8_isIn yX8_isIn, Cond.code yX8_isIn cX8_isIn 10 (some .boolean), Cond.methodLink RL 90 yX7_sum, Cond.instanceMethod yX7_sum]
def wsL_law0_r27 : List Cond := [Cond.selects RX7 yX7_sum yX7_sum, Cond.code yX7_sum cX7_sum 1 (some .int), Cond.methodLink RX7 197 yX4_partsOverAllOrders, Cond.instanceMethod yX4_partsOverAllOrders, Cond.selects RX4 yX4_partsOverAllOrders yX4_partsOverAllOrders, Cond.code yX4_partsOverAllOrders cX4_partsOverAllOrders 6 (some .int), Cond.fieldLink RX4 42 "CutTrees$Pieces" "size" "I", Cond.methodLink RX4 51 yX4_setSequence, Cond.instanceMethod yX4_setSequence, Cond.selects RX4 yX4_setSequence yX4_setSequence, Cond.code yX4_setSequence cX4_setSequence 7 none, Cond.methodLink RX4 55 yX2_addWhole, Cond.methodLink RL 93 yX8_sum, Cond.instanceMethod yX8_sum, Cond.selects RX8 yX8_sum yX8_sum, Cond.code yX8_sum cX8_sum 6 (some .int), Cond.methodLink RX8 279 yX8_swap, Cond.instanceMethod yX8_swap, Cond.selects RX8 yX8_swap yX8_swap, Cond.code yX8_swap cX8_swap 4 none]
def wsL_law0 : List Cond := (wsL_law0_r1 ++ (wsL_law0_r2 ++ (wsL_law0_r3 ++ (wsL_law0_r4 ++ (wsL_law0_r5 ++ (wsL_law0_r6 ++ (wsL_law0_r7 ++ (wsL_law0_r8 ++ (wsL_law0_r9 ++ (wsL_law0_r10 ++ (wsL_law0_r11 ++ (wsL_law0_r12 ++ (wsL_law0_r13 ++ (wsL_law0_r14 ++ (wsL_law0_r15 ++ (wsL_law0_r16 ++ (wsL_law0_r17 ++ (wsL_law0_r18 ++ (wsL_law0_r19 ++ (wsL_law0_r20 ++ (wsL_law0_r21 ++ (wsL_law0_r22 ++ (wsL_law0_r23 ++ (wsL_law0_r24 ++ (wsL_law0_r25 ++ (wsL_law0_r26 ++ wsL_law0_r27)))))))))))))))))))))))))) ++ wsX70 ++ wsX80 ++ wsX30 ++ wsX00 ++ wsX60 ++ wsX50 ++ wsX10 ++ wsX40 ++ wsX20 ++ ([] : List Cond)
abbrev vwCl : List vw_C := [(RX0, TX0, 2), (RX1, TX1, 5), (RX2, TX2, 6), (RX3, TX3, 5), (RX4, TX4, 3), (RX5, TX5, 4), (RX6, TX6, 17), (RX7, TX7, 5), (RX8, TX8, 56)]
abbrev tb_L : List Cond := wsL_law0
theorem tb_c1 {w : Cond} (h : w ∈ wsL_law0_r1) : w ∈ tb_L := List.mem_append_left _ (List.mem_append_left _ (List.mem_append_left _ (List.mem_append_left _ (List.mem_append_left _ (List.mem_append_left _ (List.mem_append_left _ (List.mem_append_left _ (List.mem_append_left _ (List.mem_append_left _ (List.mem_append_left _ (h)))))))))))
theorem tb_c2 {w : Cond} (h : w ∈ wsL_law0_r2) : w ∈ tb_L := List.mem_append_left _ (List.mem_append_left _ (List.mem_append_left _ (List.mem_append_left _ (List.mem_append_left _ (List.mem_append_left _ (List.mem_append_left _ (List.mem_append_left _ (List.mem_append_left _ (List.mem_append_left _ (List.mem_append_right _ (List.mem_append_left _ (h))))))))))))
theorem tb_c3 {w : Cond} (h : w ∈ wsL_law0_r3) : w ∈ tb_L := List.mem_append_left _ (List.mem_append_left _ (List.mem_append_left _ (List.mem_append_left _ (List.mem_append_left _ (List.mem_append_left _ (List.mem_append_left _ (List.mem_append_left _ (List.mem_append_left _ (List.mem_append_left _ (List.mem_append_right _ (List.mem_append_right _ (List.mem_append_left _ (h)))))))))))))
theorem tb_c4 {w : Cond} (h : w ∈ wsL_law0_r4) : w ∈ tb_L := List.mem_append_left _ (List.mem_append_left _ (List.mem_append_left _ (List.mem_append_left _ (List.mem_append_left _ (List.mem_append_left _ (List.mem_append_left _ (List.mem_append_left _ (List.mem_append_left _ (List.mem_append_left _ (List.mem_append_right _ (List.mem_append_right _ (List.mem_append_right _ (List.mem_append_left _ (h))))))))))))))
theorem tb_c5 {w : Cond} (h : w ∈ wsL_law0_r5) : w ∈ tb_L := List.mem_append_left _ (List.mem_append_left _ (List.mem_append_left _ (List.mem_append_left _ (List.mem_append_left _ (List.mem_append_left _ (List.mem_append_left _ (List.mem_append_left _ (List.mem_append_left _ (List.mem_append_left _ (List.mem_append_right _ (List.mem_append_right _ (List.mem_append_right _ (List.mem_append_right _ (List.mem_append_left _ (h)))))))))))))))
theorem tb_c6 {w : Cond} (h : w ∈ wsL_law0_r6) : w ∈ tb_L := List.mem_append_left _ (List.mem_append_left _ (List.mem_append_left _ (List.mem_append_left _ (List.mem_append_left _ (List.mem_append_left _ (List.mem_append_left _ (List.mem_append_left _ (List.mem_append_left _ (List.mem_append_left _ (List.mem_append_right _ (List.mem_append_right _ (List.mem_append_right _ (List.mem_append_right _ (List.mem_append_right _ (List.mem_append_left _ (h))))))))))))))))
theorem tb_c7 {w : Cond} (h : w ∈ wsL_law0_r7) : w ∈ tb_L := List.mem_append_left _ (List.mem_append_left _ (List.mem_append_left _ (List.mem_append_left _ (List.mem_append_left _ (List.mem_append_left _ (List.mem_append_left _ (List.mem_append_left _ (List.mem_append_left _ (List.mem_append_left _ (List.mem_append_right _ (List.mem_append_right _ (List.mem_append_right _ (List.mem_append_right _ (List.mem_append_right _ (List.mem_append_right _ (List.mem_append_left _ (h)))))))))))))))))
theorem tb_c8 {w : Cond} (h : w ∈ wsL_law0_r8) : w ∈ tb_L := List.mem_append_left _ (List.mem_append_left _ (List.mem_append_left _ (List.mem_append_left _ (List.mem_append_left _ (List.mem_append_left _ (List.mem_append_left _ (List.mem_append_left _ (List.mem_append_left _ (List.mem_append_left _ (List.mem_append_right _ (List.mem_append_right _ (List.mem_append_right _ (List.mem_append_right _ (List.mem_append_right _ (List.mem_append_right _ (List.mem_append_right _ (List.mem_append_left _ (h))))))))))))))))))
theorem tb_c9 {w : Cond} (h : w ∈ wsL_law0_r9) : w ∈ tb_L := List.mem_append_left _ (List.mem_append_left _ (List.mem_append_left _ (List.mem_append_left _ (List.mem_append_left _ (List.mem_append_left _ (List.mem_append_left _ (List.mem_append_left _ (List.mem_append_left _ (List.mem_append_left _ (List.mem_append_right _ (List.mem_append_right _ (List.mem_append_right _ (List.mem_append_right _ (List.mem_append_right _ (List.mem_append_right _ (List.mem_append_right _ (List.mem_append_right _ (List.mem_append_left _ (h)))))))))))))))))))
theorem tb_c10 {w : Cond} (h : w ∈ wsL_law0_r10) : w ∈ tb_L := List.mem_append_left _ (List.mem_append_left _ (List.mem_append_left _ (List.mem_append_left _ (List.mem_append_left _ (List.mem_append_left _ (List.mem_append_left _ (List.mem_append_left _ (List.mem_append_left _ (List.mem_append_left _ (List.mem_append_right _ (List.mem_append_right _ (List.mem_append_right _ (List.mem_append_right _ (List.mem_append_right _ (List.mem_append_right _ (List.mem_append_right _ (List.mem_append_right _ (List.mem_append_right _ (List.mem_append_left _ (h))))))))))))))))))))
theorem tb_c11 {w : Cond} (h : w ∈ wsL_law0_r11) : w ∈ tb_L := List.mem_append_left _ (List.mem_append_left _ (List.mem_append_left _ (List.mem_append_left _ (List.mem_append_left _ (List.mem_append_left _ (List.mem_append_left _ (List.mem_append_left _ (List.mem_append_left _ (List.mem_append_left _ (List.mem_append_right _ (List.mem_append_right _ (List.mem_append_right _ (List.mem_append_right _ (List.mem_append_right _ (List.mem_append_right _ (List.mem_append_right _ (List.mem_append_right _ (List.mem_append_right _ (List.mem_append_right _ (List.mem_append_left _ (h)))))))))))))))))))))
theorem tb_c12 {w : Cond} (h : w ∈ wsL_law0_r12) : w ∈ tb_L := List.mem_append_left _ (List.mem_append_left _ (List.mem_append_left _ (List.mem_append_left _ (List.mem_append_left _ (List.mem_append_left _ (List.mem_append_left _ (List.mem_append_left _ (List.mem_append_left _ (List.mem_append_left _ (List.mem_append_right _ (List.mem_append_right _ (List.mem_append_right _ (List.mem_append_right _ (List.mem_append_right _ (List.mem_append_right _ (List.mem_append_right _ (List.mem_append_right _ (List.mem_append_right _ (List.mem_append_right _ (List.mem_append_right _ (List.mem_append_left _ (h))))))))))))))))))))))
theorem tb_c13 {w : Cond} (h : w ∈ wsL_law0_r13) : w ∈ tb_L := List.mem_append_left _ (List.mem_append_left _ (List.mem_append_left _ (List.mem_append_left _ (List.mem_append_left _ (List.mem_append_left _ (List.mem_append_left _ (List.mem_append_left _ (List.mem_append_left _ (List.mem_append_left _ (List.mem_append_right _ (List.mem_append_right _ (List.mem_append_right _ (List.mem_append_right _ (List.mem_append_right _ (List.mem_append_right _ (List.mem_append_right _ (List.mem_append_right _ (List.mem_append_right _ (List.mem_append_right _ (List.mem_append_right _ (List.mem_append_right _ (List.mem_append_left _ (h)))))))))))))))))))))))
theorem tb_c14 {w : Cond} (h : w ∈ wsL_law0_r14) : w ∈ tb_L := List.mem_append_left _ (List.mem_append_left _ (List.mem_append_left _ (List.mem_append_left _ (List.mem_append_left _ (List.mem_append_left _ (List.mem_append_left _ (List.mem_append_left _ (List.mem_append_left _ (List.mem_append_left _ (List.mem_append_right _ (List.mem_append_right _ (List.mem_append_right _ (List.mem_append_right _ (List.mem_append_right _ (List.mem_append_right _ (List.mem_append_right _ (List.mem_append_right _ (List.mem_append_right _ (List.mem_append_right _ (List.mem_append_right _ (List.mem_append_right _ (List.mem_append_right _ (List.mem_append_left _ (h))))))))))))))))))))))))
theorem tb_c15 {w : Cond} (h : w ∈ wsL_law0_r15) : w ∈ tb_L := List.mem_append_left _ (List.mem_append_left _ (List.mem_append_left _ (List.mem_append_left _ (List.mem_append_left _ (List.mem_append_left _ (List.mem_append_left _ (List.mem_append_left _ (List.mem_append_left _ (List.mem_append_left _ (List.mem_append_right _ (List.mem_append_right _ (List.mem_append_right _ (List.mem_append_right _ (List.mem_append_right _ (List.mem_append_right _ (List.mem_append_right _ (List.mem_append_right _ (List.mem_append_right _ (List.mem_append_right _ (List.mem_append_right _ (List.mem_append_right _ (List.mem_append_right _ (List.mem_append_right _ (List.mem_append_left _ (h)))))))))))))))))))))))))
theorem tb_c16 {w : Cond} (h : w ∈ wsL_law0_r16) : w ∈ tb_L := List.mem_append_left _ (List.mem_append_left _ (List.mem_append_left _ (List.mem_append_left _ (List.mem_append_left _ (List.mem_append_left _ (List.mem_append_left _ (List.mem_append_left _ (List.mem_append_left _ (List.mem_append_left _ (List.mem_append_right _ (List.mem_append_right _ (List.mem_append_right _ (List.mem_append_right _ (List.mem_append_right _ (List.mem_append_right _ (List.mem_append_right _ (List.mem_append_right _ (List.mem_append_right _ (List.mem_append_right _ (List.mem_append_right _ (List.mem_append_right _ (List.mem_append_right _ (List.mem_append_right _ (List.mem_append_right _ (List.mem_append_left _ (h))))))))))))))))))))))))))
theorem tb_c17 {w : Cond} (h : w ∈ wsL_law0_r17) : w ∈ tb_L := List.mem_append_left _ (List.mem_append_left _ (List.mem_append_left _ (List.mem_append_left _ (List.mem_append_left _ (List.mem_append_left _ (List.mem_append_left _ (List.mem_append_left _ (List.mem_append_left _ (List.mem_append_left _ (List.mem_append_right _ (List.mem_append_right _ (List.mem_append_right _ (List.mem_append_right _ (List.mem_append_right _ (List.mem_append_right _ (List.mem_append_right _ (List.mem_append_right _ (List.mem_append_right _ (List.mem_append_right _ (List.mem_append_right _ (List.mem_append_right _ (List.mem_append_right _ (List.mem_append_right _ (List.mem_append_right _ (List.mem_append_right _ (List.mem_append_left _ (h)))))))))))))))))))))))))))
theorem tb_c18 {w : Cond} (h : w ∈ wsL_law0_r18) : w ∈ tb_L := List.mem_append_left _ (List.mem_append_left _ (List.mem_append_left _ (List.mem_append_left _ (List.mem_append_left _ (List.mem_append_left _ (List.mem_append_left _ (List.mem_append_left _ (List.mem_append_left _ (List.mem_append_left _ (List.mem_append_right _ (List.mem_append_right _ (List.mem_append_right _ (List.mem_append_right _ (List.mem_append_right _ (List.mem_append_right _ (List.mem_append_right _ (List.mem_append_right _ (List.mem_append_right _ (List.mem_append_right _ (List.mem_append_right _ (List.mem_append_right _ (List.mem_append_right _ (List.mem_append_right _ (List.mem_append_right _ (List.mem_append_right _ (List.mem_append_right _ (List.mem_append_left _ (h))))))))))))))))))))))))))))
theorem tb_c19 {w : Cond} (h : w ∈ wsL_law0_r19) : w ∈ tb_L := List.mem_append_left _ (List.mem_append_left _ (List.mem_append_left _ (List.mem_append_left _ (List.mem_append_left _ (List.mem_append_left _ (List.mem_append_left _ (List.mem_append_left _ (List.mem_append_left _ (List.mem_append_left _ (List.mem_append_right _ (List.mem_append_right _ (List.mem_append_right _ (List.mem_append_right _ (List.mem_append_right _ (List.mem_append_right _ (List.mem_append_right _ (List.mem_append_right _ (List.mem_append_right _ (List.mem_append_right _ (List.mem_append_right _ (List.mem_append_right _ (List.mem_append_right _ (List.mem_append_right _ (List.mem_append_right _ (List.mem_append_right _ (List.mem_append_right _ (List.mem_append_right _ (List.mem_append_left _ (h)))))))))))))))))))))))))))))
theorem tb_c20 {w : Cond} (h : w ∈ wsL_law0_r20) : w ∈ tb_L := List.mem_append_left _ (List.mem_append_left _ (List.mem_append_left _ (List.mem_append_left _ (List.mem_append_left _ (List.mem_append_left _ (List.mem_append_left _ (List.mem_append_left _ (List.mem_append_left _ (List.mem_append_left _ (List.mem_append_right _ (List.mem_append_right _ (List.mem_append_right _ (List.mem_append_right _ (List.mem_append_right _ (List.mem_append_right _ (List.mem_append_right _ (List.mem_append_right _ (List.mem_append_right _ (List.mem_append_right _ (List.mem_append_right _ (List.mem_append_right _ (List.mem_append_right _ (List.mem_append_right _ (List.mem_append_right _ (List.mem_append_right _ (List.mem_append_right _ (List.mem_append_right _ (List.mem_append_right _ (List.mem_append_left _ (h))))))))))))))))))))))))))))))
theorem tb_c21 {w : Cond} (h : w ∈ wsL_law0_r21) : w ∈ tb_L := List.mem_append_left _ (List.mem_append_left _ (List.mem_append_left _ (List.mem_append_left _ (List.mem_append_left _ (List.mem_append_left _ (List.mem_append_left _ (List.mem_append_left _ (List.mem_append_left _ (List.mem_append_left _ (List.mem_append_right _ (List.mem_append_right _ (List.mem_append_right _ (List.mem_append_right _ (List.mem_append_right _ (List.mem_append_right _ (List.mem_append_right _ (List.mem_append_right _ (List.mem_append_right _ (List.mem_append_right _ (List.mem_append_right _ (List.mem_append_right _ (List.mem_append_right _ (List.mem_append_right _ (List.mem_append_right _ (List.mem_append_right _ (List.mem_append_right _ (List.mem_append_right _ (List.mem_append_right _ (List.mem_append_right _ (List.mem_append_left _ (h)))))))))))))))))))))))))))))))
theorem tb_c22 {w : Cond} (h : w ∈ wsL_law0_r22) : w ∈ tb_L := List.mem_append_left _ (List.mem_append_left _ (List.mem_append_left _ (List.mem_append_left _ (List.mem_append_left _ (List.mem_append_left _ (List.mem_append_left _ (List.mem_append_left _ (List.mem_append_left _ (List.mem_append_left _ (List.mem_append_right _ (List.mem_append_right _ (List.mem_append_right _ (List.mem_append_right _ (List.mem_append_right _ (List.mem_append_right _ (List.mem_append_right _ (List.mem_append_right _ (List.mem_append_right _ (List.mem_append_right _ (List.mem_append_right _ (List.mem_append_right _ (List.mem_append_right _ (List.mem_append_right _ (List.mem_append_right _ (List.mem_append_right _ (List.mem_append_right _ (List.mem_append_right _ (List.mem_append_right _ (List.mem_append_right _ (List.mem_append_right _ (List.mem_append_left _ (h))))))))))))))))))))))))))))))))
theorem tb_c23 {w : Cond} (h : w ∈ wsL_law0_r23) : w ∈ tb_L := List.mem_append_left _ (List.mem_append_left _ (List.mem_append_left _ (List.mem_append_left _ (List.mem_append_left _ (List.mem_append_left _ (List.mem_append_left _ (List.mem_append_left _ (List.mem_append_left _ (List.mem_append_left _ (List.mem_append_right _ (List.mem_append_right _ (List.mem_append_right _ (List.mem_append_right _ (List.mem_append_right _ (List.mem_append_right _ (List.mem_append_right _ (List.mem_append_right _ (List.mem_append_right _ (List.mem_append_right _ (List.mem_append_right _ (List.mem_append_right _ (List.mem_append_right _ (List.mem_append_right _ (List.mem_append_right _ (List.mem_append_right _ (List.mem_append_right _ (List.mem_append_right _ (List.mem_append_right _ (List.mem_append_right _ (List.mem_append_right _ (List.mem_append_right _ (List.mem_append_left _ (h)))))))))))))))))))))))))))))))))
theorem tb_c24 {w : Cond} (h : w ∈ wsL_law0_r24) : w ∈ tb_L := List.mem_append_left _ (List.mem_append_left _ (List.mem_append_left _ (List.mem_append_left _ (List.mem_append_left _ (List.mem_append_left _ (List.mem_append_left _ (List.mem_append_left _ (List.mem_append_left _ (List.mem_append_left _ (List.mem_append_right _ (List.mem_append_right _ (List.mem_append_right _ (List.mem_append_right _ (List.mem_append_right _ (List.mem_append_right _ (List.mem_append_right _ (List.mem_append_right _ (List.mem_append_right _ (List.mem_append_right _ (List.mem_append_right _ (List.mem_append_right _ (List.mem_append_right _ (List.mem_append_right _ (List.mem_append_right _ (List.mem_append_right _ (List.mem_append_right _ (List.mem_append_right _ (List.mem_append_right _ (List.mem_append_right _ (List.mem_append_right _ (List.mem_append_right _ (List.mem_append_right _ (List.mem_append_left _ (h))))))))))))))))))))))))))))))))))
theorem tb_c25 {w : Cond} (h : w ∈ wsL_law0_r25) : w ∈ tb_L := List.mem_append_left _ (List.mem_append_left _ (List.mem_append_left _ (List.mem_append_left _ (List.mem_append_left _ (List.mem_append_left _ (List.mem_append_left _ (List.mem_append_left _ (List.mem_append_left _ (List.mem_append_left _ (List.mem_append_right _ (List.mem_append_right _ (List.mem_append_right _ (List.mem_append_right _ (List.mem_append_right _ (List.mem_append_right _ (List.mem_append_right _ (List.mem_append_right _ (List.mem_append_right _ (List.mem_append_right _ (List.mem_append_right _ (List.mem_append_right _ (List.mem_append_right _ (List.mem_append_right _ (List.mem_append_right _ (List.mem_append_right _ (List.mem_append_right _ (List.mem_append_right _ (List.mem_append_right _ (List.mem_append_right _ (List.mem_append_right _ (List.mem_append_right _ (List.mem_append_right _ (List.mem_append_right _ (List.mem_append_left _ (h)))))))))))))))))))))))))))))))))))
theorem tb_c26 {w : Cond} (h : w ∈ wsL_law0_r26) : w ∈ tb_L := List.mem_append_left _ (List.mem_append_left _ (List.mem_append_left _ (List.mem_append_left _ (List.mem_append_left _ (List.mem_append_left _ (List.mem_append_left _ (List.mem_append_left _ (List.mem_append_left _ (List.mem_append_left _ (List.mem_append_right _ (List.mem_append_right _ (List.mem_append_right _ (List.mem_append_right _ (List.mem_append_right _ (List.mem_append_right _ (List.mem_append_right _ (List.mem_append_right _ (List.mem_append_right _ (List.mem_append_right _ (List.mem_append_right _ (List.mem_append_right _ (List.mem_append_right _ (List.mem_append_right _ (List.mem_append_right _ (List.mem_append_right _ (List.mem_append_right _ (List.mem_append_right _ (List.mem_append_right _ (List.mem_append_right _ (List.mem_append_right _ (List.mem_append_right _ (List.mem_append_right _ (List.mem_append_right _ (List.mem_append_right _ (List.mem_append_left _ (h))))))))))))))))))))))))))))))))))))
theorem tb_c27 {w : Cond} (h : w ∈ wsL_law0_r27) : w ∈ tb_L := List.mem_append_left _ (List.mem_append_left _ (List.mem_append_left _ (List.mem_append_left _ (List.mem_append_left _ (List.mem_append_left _ (List.mem_append_left _ (List.mem_append_left _ (List.mem_append_left _ (List.mem_append_left _ (List.mem_append_right _ (List.mem_append_right _ (List.mem_append_right _ (List.mem_append_right _ (List.mem_append_right _ (List.mem_append_right _ (List.mem_append_right _ (List.mem_append_right _ (List.mem_append_right _ (List.mem_append_right _ (List.mem_append_right _ (List.mem_append_right _ (List.mem_append_right _ (List.mem_append_right _ (List.mem_append_right _ (List.mem_append_right _ (List.mem_append_right _ (List.mem_append_right _ (List.mem_append_right _ (List.mem_append_right _ (List.mem_append_right _ (List.mem_append_right _ (List.mem_append_right _ (List.mem_append_right _ (List.mem_append_right _ (List.mem_append_right _ (h))))))))))))))))))))))))))))))))))))
theorem tb_wsX70 : ∀ w ∈ wsX70, w ∈ tb_L := fun _ h => List.mem_append_left _ (List.mem_append_left _ (List.mem_append_left _ (List.mem_append_left _ (List.mem_append_left _ (List.mem_append_left _ (List.mem_append_left _ (List.mem_append_left _ (List.mem_append_left _ (List.mem_append_right _ h)))))))))
theorem tb_wsX80 : ∀ w ∈ wsX80, w ∈ tb_L := fun _ h => List.mem_append_left _ (List.mem_append_left _ (List.mem_append_left _ (List.mem_append_left _ (List.mem_append_left _ (List.mem_append_left _ (List.mem_append_left _ (List.mem_append_left _ (List.mem_append_right _ h))))))))
theorem tb_wsX30 : ∀ w ∈ wsX30, w ∈ tb_L := fun _ h => List.mem_append_left _ (List.mem_append_left _ (List.mem_append_left _ (List.mem_append_left _ (List.mem_append_left _ (List.mem_append_left _ (List.mem_append_left _ (List.mem_append_right _ h)))))))
theorem tb_wsX00 : ∀ w ∈ wsX00, w ∈ tb_L := fun _ h => List.mem_append_left _ (List.mem_append_left _ (List.mem_append_left _ (List.mem_append_left _ (List.mem_append_left _ (List.mem_append_left _ (List.mem_append_right _ h))))))
theorem tb_wsX60 : ∀ w ∈ wsX60, w ∈ tb_L := fun _ h => List.mem_append_left _ (List.mem_append_left _ (List.mem_append_left _ (List.mem_append_left _ (List.mem_append_left _ (List.mem_append_right _ h)))))
theorem tb_wsX50 : ∀ w ∈ wsX50, w ∈ tb_L := fun _ h => List.mem_append_left _ (List.mem_append_left _ (List.mem_append_left _ (List.mem_append_left _ (List.mem_append_right _ h))))
theorem tb_wsX10 : ∀ w ∈ wsX10, w ∈ tb_L := fun _ h => List.mem_append_left _ (List.mem_append_left _ (List.mem_append_left _ (List.mem_append_right _ h)))
theorem tb_wsX40 : ∀ w ∈ wsX40, w ∈ tb_L := fun _ h => List.mem_append_left _ (List.mem_append_left _ (List.mem_append_right _ h))
theorem tb_wsX20 : ∀ w ∈ wsX20, w ∈ tb_L := fun _ h => List.mem_append_left _ (List.mem_append_right _ h)
theorem tb_1_0 : (Cond.classLink RL 8 RX7) ∈ tb_L := tb_c1 (List.mem_of_getElem? (i := 0) rfl)
theorem tb_1_1 : (Cond.instantiable RX7 5) ∈ tb_L := tb_c1 (List.mem_of_getElem? (i := 1) rfl)
theorem tb_1_2 : (Cond.initialized RX7) ∈ tb_L := tb_c1 (List.mem_of_getElem? (i := 2) rfl)
theorem tb_1_3 : (Cond.classLink RL 25 RX8) ∈ tb_L := tb_c1 (List.mem_of_getElem? (i := 3) rfl)
theorem tb_1_4 : (Cond.instantiable RX8 56) ∈ tb_L := tb_c1 (List.mem_of_getElem? (i := 4) rfl)
theorem tb_1_5 : (Cond.initialized RX8) ∈ tb_L := tb_c1 (List.mem_of_getElem? (i := 5) rfl)
theorem tb_1_6 : (Cond.arrayClass .long) ∈ tb_L := tb_c1 (List.mem_of_getElem? (i := 6) rfl)
theorem tb_1_7 : (Cond.methodLink RL 24 yX7_init) ∈ tb_L := tb_c1 (List.mem_of_getElem? (i := 7) rfl)
theorem tb_1_8 : (Cond.instanceMethod yX7_init) ∈ tb_L := tb_c1 (List.mem_of_getElem? (i := 8) rfl)
theorem tb_1_9 : (Cond.code yX7_init cX7_init 2 none) ∈ tb_L := tb_c1 (List.mem_of_getElem? (i := 9) rfl)
theorem tb_1_10 : (Cond.methodLink RX7 3 objectInit) ∈ tb_L := tb_c1 (List.mem_of_getElem? (i := 10) rfl)
theorem tb_1_11 : (Cond.instanceMethod objectInit) ∈ tb_L := tb_c1 (List.mem_of_getElem? (i := 11) rfl)
theorem tb_1_12 : (Cond.code objectInit ⟨#[0xb1]⟩ 1 none) ∈ tb_L := tb_c1 (List.mem_of_getElem? (i := 12) rfl)
theorem tb_1_13 : (Cond.classLink RX7 9 RX3) ∈ tb_L := tb_c1 (List.mem_of_getElem? (i := 13) rfl)
theorem tb_1_14 : (Cond.instantiable RX3 5) ∈ tb_L := tb_c1 (List.mem_of_getElem? (i := 14) rfl)
theorem tb_1_15 : (Cond.initialized RX3) ∈ tb_L := tb_c1 (List.mem_of_getElem? (i := 15) rfl)
theorem tb_1_16 : (Cond.fieldLink RX7 12 "CutTrees" "pieces" "LCutTrees$Pieces;") ∈ tb_L := tb_c1 (List.mem_of_getElem? (i := 16) rfl)
theorem tb_1_17 : (Cond.classLink RX7 16 RX0) ∈ tb_L := tb_c1 (List.mem_of_getElem? (i := 17) rfl)
theorem tb_1_18 : (Cond.instantiable RX0 2) ∈ tb_L := tb_c1 (List.mem_of_getElem? (i := 18) rfl)
theorem tb_1_19 : (Cond.initialized RX0) ∈ tb_L := tb_c1 (List.mem_of_getElem? (i := 19) rfl)
theorem tb_1_20 : (Cond.classLink RX7 21 RX6) ∈ tb_L := tb_c1 (List.mem_of_getElem? (i := 20) rfl)
theorem tb_1_21 : (Cond.instantiable RX6 17) ∈ tb_L := tb_c1 (List.mem_of_getElem? (i := 21) rfl)
theorem tb_1_22 : (Cond.initialized RX6) ∈ tb_L := tb_c1 (List.mem_of_getElem? (i := 22) rfl)
theorem tb_1_23 : (Cond.fieldLink RX7 26 "CutTrees" "tree" "LCutTrees$Tree;") ∈ tb_L := tb_c1 (List.mem_of_getElem? (i := 23) rfl)
theorem tb_2_0 : (Cond.classLink RX7 30 RX5) ∈ tb_L := tb_c2 (List.mem_of_getElem? (i := 0) rfl)
theorem tb_2_1 : (Cond.instantiable RX5 4) ∈ tb_L := tb_c2 (List.mem_of_getElem? (i := 1) rfl)
theorem tb_2_2 : (Cond.initialized RX5) ∈ tb_L := tb_c2 (List.mem_of_getElem? (i := 2) rfl)
theorem tb_2_3 : (Cond.fieldLink RX7 35 "CutTrees" "telling" "LCutTrees$Telling;") ∈ tb_L := tb_c2 (List.mem_of_getElem? (i := 3) rfl)
theorem tb_2_4 : (Cond.classLink RX7 39 RX1) ∈ tb_L := tb_c2 (List.mem_of_getElem? (i := 4) rfl)
theorem tb_2_5 : (Cond.instantiable RX1 5) ∈ tb_L := tb_c2 (List.mem_of_getElem? (i := 5) rfl)
theorem tb_2_6 : (Cond.initialized RX1) ∈ tb_L := tb_c2 (List.mem_of_getElem? (i := 6) rfl)
theorem tb_2_7 : (Cond.fieldLink RX7 42 "CutTrees" "meetings" "LCutTrees$Meetings;") ∈ tb_L := tb_c2 (List.mem_of_getElem? (i := 7) rfl)
theorem tb_2_8 : (Cond.classLink RX7 46 RX4) ∈ tb_L := tb_c2 (List.mem_of_getElem? (i := 8) rfl)
theorem tb_2_9 : (Cond.instantiable RX4 3) ∈ tb_L := tb_c2 (List.mem_of_getElem? (i := 9) rfl)
theorem tb_2_10 : (Cond.initialized RX4) ∈ tb_L := tb_c2 (List.mem_of_getElem? (i := 10) rfl)
theorem tb_2_11 : (Cond.fieldLink RX7 49 "CutTrees" "reckoner" "LCutTrees$Reckoner;") ∈ tb_L := tb_c2 (List.mem_of_getElem? (i := 11) rfl)
theorem tb_2_12 : (Cond.instanceMethod yX3_init) ∈ tb_L := tb_c2 (List.mem_of_getElem? (i := 12) rfl)
theorem tb_2_13 : (Cond.code yX3_init cX3_init 1 none) ∈ tb_L := tb_c2 (List.mem_of_getElem? (i := 13) rfl)
theorem tb_2_14 : (Cond.methodLink RX3 3 objectInit) ∈ tb_L := tb_c2 (List.mem_of_getElem? (i := 14) rfl)
theorem tb_2_15 : (Cond.arrayClass .int) ∈ tb_L := tb_c2 (List.mem_of_getElem? (i := 15) rfl)
theorem tb_2_16 : (Cond.fieldLink RX3 9 "CutTrees$Pieces" "x0" "[I") ∈ tb_L := tb_c2 (List.mem_of_getElem? (i := 16) rfl)
theorem tb_2_17 : (Cond.fieldLink RX3 15 "CutTrees$Pieces" "y0" "[I") ∈ tb_L := tb_c2 (List.mem_of_getElem? (i := 17) rfl)
theorem tb_2_18 : (Cond.fieldLink RX3 18 "CutTrees$Pieces" "x1" "[I") ∈ tb_L := tb_c2 (List.mem_of_getElem? (i := 18) rfl)
theorem tb_2_19 : (Cond.fieldLink RX3 21 "CutTrees$Pieces" "y1" "[I") ∈ tb_L := tb_c2 (List.mem_of_getElem? (i := 19) rfl)
theorem tb_2_20 : (Cond.methodLink RX7 18 yX0_init) ∈ tb_L := tb_c2 (List.mem_of_getElem? (i := 20) rfl)
theorem tb_2_21 : (Cond.instanceMethod yX0_init) ∈ tb_L := tb_c2 (List.mem_of_getElem? (i := 21) rfl)
theorem tb_2_22 : (Cond.code yX0_init cX0_init 2 none) ∈ tb_L := tb_c2 (List.mem_of_getElem? (i := 22) rfl)
theorem tb_2_23 : (Cond.methodLink RX0 3 objectInit) ∈ tb_L := tb_c2 (List.mem_of_getElem? (i := 23) rfl)
theorem tb_3_0 : (Cond.classLink RX0 9 RX2) ∈ tb_L := tb_c3 (List.mem_of_getElem? (i := 0) rfl)
theorem tb_3_1 : (Cond.instantiable RX2 6) ∈ tb_L := tb_c3 (List.mem_of_getElem? (i := 1) rfl)
theorem tb_3_2 : (Cond.initialized RX2) ∈ tb_L := tb_c3 (List.mem_of_getElem? (i := 2) rfl)
theorem tb_3_3 : (Cond.fieldLink RX0 12 "CutTrees$Cutter" "rows" "LCutTrees$Parts;") ∈ tb_L := tb_c3 (List.mem_of_getElem? (i := 3) rfl)
theorem tb_3_4 : (Cond.fieldLink RX0 18 "CutTrees$Cutter" "pieces" "LCutTrees$Pieces;") ∈ tb_L := tb_c3 (List.mem_of_getElem? (i := 4) rfl)
theorem tb_3_5 : (Cond.instanceMethod yX2_init) ∈ tb_L := tb_c3 (List.mem_of_getElem? (i := 5) rfl)
theorem tb_3_6 : (Cond.code yX2_init cX2_init 1 none) ∈ tb_L := tb_c3 (List.mem_of_getElem? (i := 6) rfl)
theorem tb_3_7 : (Cond.methodLink RX2 3 objectInit) ∈ tb_L := tb_c3 (List.mem_of_getElem? (i := 7) rfl)
theorem tb_3_8 : (Cond.fieldLink RX2 9 "CutTrees$Parts" "owner" "[I") ∈ tb_L := tb_c3 (List.mem_of_getElem? (i := 8) rfl)
theorem tb_3_9 : (Cond.fieldLink RX2 15 "CutTrees$Parts" "n0" "[I") ∈ tb_L := tb_c3 (List.mem_of_getElem? (i := 9) rfl)
theorem tb_3_10 : (Cond.fieldLink RX2 18 "CutTrees$Parts" "d0" "[I") ∈ tb_L := tb_c3 (List.mem_of_getElem? (i := 10) rfl)
theorem tb_3_11 : (Cond.fieldLink RX2 21 "CutTrees$Parts" "n1" "[I") ∈ tb_L := tb_c3 (List.mem_of_getElem? (i := 11) rfl)
theorem tb_3_12 : (Cond.fieldLink RX2 24 "CutTrees$Parts" "d1" "[I") ∈ tb_L := tb_c3 (List.mem_of_getElem? (i := 12) rfl)
theorem tb_3_13 : (Cond.methodLink RX7 23 yX6_init) ∈ tb_L := tb_c3 (List.mem_of_getElem? (i := 13) rfl)
theorem tb_3_14 : (Cond.instanceMethod yX6_init) ∈ tb_L := tb_c3 (List.mem_of_getElem? (i := 14) rfl)
theorem tb_3_15 : (Cond.code yX6_init cX6_init 3 none) ∈ tb_L := tb_c3 (List.mem_of_getElem? (i := 15) rfl)
theorem tb_3_16 : (Cond.methodLink RX6 3 objectInit) ∈ tb_L := tb_c3 (List.mem_of_getElem? (i := 16) rfl)
theorem tb_3_17 : (Cond.fieldLink RX6 9 "CutTrees$Tree" "line" "[I") ∈ tb_L := tb_c3 (List.mem_of_getElem? (i := 17) rfl)
theorem tb_3_18 : (Cond.fieldLink RX6 15 "CutTrees$Tree" "held" "[I") ∈ tb_L := tb_c3 (List.mem_of_getElem? (i := 18) rfl)
theorem tb_3_19 : (Cond.fieldLink RX6 18 "CutTrees$Tree" "firstHeld" "[I") ∈ tb_L := tb_c3 (List.mem_of_getElem? (i := 19) rfl)
theorem tb_3_20 : (Cond.fieldLink RX6 21 "CutTrees$Tree" "front" "[I") ∈ tb_L := tb_c3 (List.mem_of_getElem? (i := 20) rfl)
theorem tb_3_21 : (Cond.fieldLink RX6 24 "CutTrees$Tree" "back" "[I") ∈ tb_L := tb_c3 (List.mem_of_getElem? (i := 21) rfl)
theorem tb_3_22 : (Cond.fieldLink RX6 27 "CutTrees$Tree" "above" "[I") ∈ tb_L := tb_c3 (List.mem_of_getElem? (i := 22) rfl)
theorem tb_3_23 : (Cond.classLink RX6 30 RX2) ∈ tb_L := tb_c3 (List.mem_of_getElem? (i := 23) rfl)
theorem tb_4_0 : (Cond.fieldLink RX6 33 "CutTrees$Tree" "parts" "LCutTrees$Parts;") ∈ tb_L := tb_c4 (List.mem_of_getElem? (i := 0) rfl)
theorem tb_4_1 : (Cond.fieldLink RX6 37 "CutTrees$Tree" "home" "[I") ∈ tb_L := tb_c4 (List.mem_of_getElem? (i := 1) rfl)
theorem tb_4_2 : (Cond.fieldLink RX6 40 "CutTrees$Tree" "pieces" "LCutTrees$Pieces;") ∈ tb_L := tb_c4 (List.mem_of_getElem? (i := 2) rfl)
theorem tb_4_3 : (Cond.fieldLink RX6 44 "CutTrees$Tree" "cutter" "LCutTrees$Cutter;") ∈ tb_L := tb_c4 (List.mem_of_getElem? (i := 3) rfl)
theorem tb_4_4 : (Cond.methodLink RX7 32 yX5_init) ∈ tb_L := tb_c4 (List.mem_of_getElem? (i := 4) rfl)
theorem tb_4_5 : (Cond.instanceMethod yX5_init) ∈ tb_L := tb_c4 (List.mem_of_getElem? (i := 5) rfl)
theorem tb_4_6 : (Cond.code yX5_init cX5_init 3 none) ∈ tb_L := tb_c4 (List.mem_of_getElem? (i := 6) rfl)
theorem tb_4_7 : (Cond.methodLink RX5 3 objectInit) ∈ tb_L := tb_c4 (List.mem_of_getElem? (i := 7) rfl)
theorem tb_4_8 : (Cond.fieldLink RX5 9 "CutTrees$Telling" "row" "[I") ∈ tb_L := tb_c4 (List.mem_of_getElem? (i := 8) rfl)
theorem tb_4_9 : (Cond.fieldLink RX5 15 "CutTrees$Telling" "pieces" "LCutTrees$Pieces;") ∈ tb_L := tb_c4 (List.mem_of_getElem? (i := 9) rfl)
theorem tb_4_10 : (Cond.fieldLink RX5 19 "CutTrees$Telling" "tree" "LCutTrees$Tree;") ∈ tb_L := tb_c4 (List.mem_of_getElem? (i := 10) rfl)
theorem tb_4_11 : (Cond.methodLink RX7 41 yX1_init) ∈ tb_L := tb_c4 (List.mem_of_getElem? (i := 11) rfl)
theorem tb_4_12 : (Cond.instanceMethod yX1_init) ∈ tb_L := tb_c4 (List.mem_of_getElem? (i := 12) rfl)
theorem tb_4_13 : (Cond.code yX1_init cX1_init 2 none) ∈ tb_L := tb_c4 (List.mem_of_getElem? (i := 13) rfl)
theorem tb_4_14 : (Cond.methodLink RX1 3 objectInit) ∈ tb_L := tb_c4 (List.mem_of_getElem? (i := 14) rfl)
theorem tb_4_15 : (Cond.fieldLink RX1 9 "CutTrees$Meetings" "which" "[I") ∈ tb_L := tb_c4 (List.mem_of_getElem? (i := 15) rfl)
theorem tb_4_16 : (Cond.fieldLink RX1 15 "CutTrees$Meetings" "n" "[I") ∈ tb_L := tb_c4 (List.mem_of_getElem? (i := 16) rfl)
theorem tb_4_17 : (Cond.fieldLink RX1 18 "CutTrees$Meetings" "d" "[I") ∈ tb_L := tb_c4 (List.mem_of_getElem? (i := 17) rfl)
theorem tb_4_18 : (Cond.fieldLink RX1 21 "CutTrees$Meetings" "pieces" "LCutTrees$Pieces;") ∈ tb_L := tb_c4 (List.mem_of_getElem? (i := 18) rfl)
theorem tb_4_19 : (Cond.methodLink RX7 48 yX4_init) ∈ tb_L := tb_c4 (List.mem_of_getElem? (i := 19) rfl)
theorem tb_4_20 : (Cond.instanceMethod yX4_init) ∈ tb_L := tb_c4 (List.mem_of_getElem? (i := 20) rfl)
theorem tb_4_21 : (Cond.code yX4_init cX4_init 3 none) ∈ tb_L := tb_c4 (List.mem_of_getElem? (i := 21) rfl)
theorem tb_4_22 : (Cond.methodLink RX4 3 objectInit) ∈ tb_L := tb_c4 (List.mem_of_getElem? (i := 22) rfl)
theorem tb_4_23 : (Cond.fieldLink RX4 9 "CutTrees$Reckoner" "sequence" "[I") ∈ tb_L := tb_c4 (List.mem_of_getElem? (i := 23) rfl)
theorem tb_5_0 : (Cond.fieldLink RX4 15 "CutTrees$Reckoner" "pieces" "LCutTrees$Pieces;") ∈ tb_L := tb_c5 (List.mem_of_getElem? (i := 0) rfl)
theorem tb_5_1 : (Cond.fieldLink RX4 19 "CutTrees$Reckoner" "cutter" "LCutTrees$Cutter;") ∈ tb_L := tb_c5 (List.mem_of_getElem? (i := 1) rfl)
theorem tb_5_2 : (Cond.methodLink RL 27 yX8_init) ∈ tb_L := tb_c5 (List.mem_of_getElem? (i := 2) rfl)
theorem tb_5_3 : (Cond.instanceMethod yX8_init) ∈ tb_L := tb_c5 (List.mem_of_getElem? (i := 3) rfl)
theorem tb_5_4 : (Cond.code yX8_init cX8_init 1 none) ∈ tb_L := tb_c5 (List.mem_of_getElem? (i := 4) rfl)
theorem tb_5_5 : (Cond.methodLink RX8 1 objectInit) ∈ tb_L := tb_c5 (List.mem_of_getElem? (i := 5) rfl)
theorem tb_5_6 : (Cond.fieldLink RX8 7 "CutTreesModel" "px" "[I") ∈ tb_L := tb_c5 (List.mem_of_getElem? (i := 6) rfl)
theorem tb_5_7 : (Cond.fieldLink RX8 13 "CutTreesModel" "py" "[I") ∈ tb_L := tb_c5 (List.mem_of_getElem? (i := 7) rfl)
theorem tb_5_8 : (Cond.fieldLink RX8 16 "CutTreesModel" "dx" "[I") ∈ tb_L := tb_c5 (List.mem_of_getElem? (i := 8) rfl)
theorem tb_5_9 : (Cond.fieldLink RX8 19 "CutTreesModel" "dy" "[I") ∈ tb_L := tb_c5 (List.mem_of_getElem? (i := 9) rfl)
theorem tb_5_10 : (Cond.fieldLink RX8 22 "CutTreesModel" "rPiece" "[I") ∈ tb_L := tb_c5 (List.mem_of_getElem? (i := 10) rfl)
theorem tb_5_11 : (Cond.fieldLink RX8 25 "CutTreesModel" "rUp" "[J") ∈ tb_L := tb_c5 (List.mem_of_getElem? (i := 11) rfl)
theorem tb_5_12 : (Cond.fieldLink RX8 29 "CutTreesModel" "rLow" "[J") ∈ tb_L := tb_c5 (List.mem_of_getElem? (i := 12) rfl)
theorem tb_5_13 : (Cond.fieldLink RX8 32 "CutTreesModel" "rUp2" "[J") ∈ tb_L := tb_c5 (List.mem_of_getElem? (i := 13) rfl)
theorem tb_5_14 : (Cond.fieldLink RX8 35 "CutTreesModel" "rLow2" "[J") ∈ tb_L := tb_c5 (List.mem_of_getElem? (i := 14) rfl)
theorem tb_5_15 : (Cond.fieldLink RX8 38 "CutTreesModel" "wFrom" "[I") ∈ tb_L := tb_c5 (List.mem_of_getElem? (i := 15) rfl)
theorem tb_5_16 : (Cond.fieldLink RX8 41 "CutTreesModel" "wAbove" "[I") ∈ tb_L := tb_c5 (List.mem_of_getElem? (i := 16) rfl)
theorem tb_5_17 : (Cond.arrayClass .boolean) ∈ tb_L := tb_c5 (List.mem_of_getElem? (i := 17) rfl)
theorem tb_5_18 : (Cond.fieldLink RX8 44 "CutTreesModel" "wFront" "[Z") ∈ tb_L := tb_c5 (List.mem_of_getElem? (i := 18) rfl)
theorem tb_5_19 : (Cond.fieldLink RX8 48 "CutTreesModel" "sPiece" "[I") ∈ tb_L := tb_c5 (List.mem_of_getElem? (i := 19) rfl)
theorem tb_5_20 : (Cond.fieldLink RX8 51 "CutTreesModel" "sUp" "[J") ∈ tb_L := tb_c5 (List.mem_of_getElem? (i := 20) rfl)
theorem tb_5_21 : (Cond.fieldLink RX8 54 "CutTreesModel" "sLow" "[J") ∈ tb_L := tb_c5 (List.mem_of_getElem? (i := 21) rfl)
theorem tb_5_22 : (Cond.fieldLink RX8 57 "CutTreesModel" "sUp2" "[J") ∈ tb_L := tb_c5 (List.mem_of_getElem? (i := 22) rfl)
theorem tb_5_23 : (Cond.fieldLink RX8 60 "CutTreesModel" "sLow2" "[J") ∈ tb_L := tb_c5 (List.mem_of_getElem? (i := 23) rfl)
theorem tb_6_0 : (Cond.fieldLink RX8 63 "CutTreesModel" "kPiece" "[I") ∈ tb_L := tb_c6 (List.mem_of_getElem? (i := 0) rfl)
theorem tb_6_1 : (Cond.fieldLink RX8 66 "CutTreesModel" "kMany" "[I") ∈ tb_L := tb_c6 (List.mem_of_getElem? (i := 1) rfl)
theorem tb_6_2 : (Cond.fieldLink RX8 69 "CutTreesModel" "kFirst" "[I") ∈ tb_L := tb_c6 (List.mem_of_getElem? (i := 2) rfl)
theorem tb_6_3 : (Cond.fieldLink RX8 72 "CutTreesModel" "kFront" "[I") ∈ tb_L := tb_c6 (List.mem_of_getElem? (i := 3) rfl)
theorem tb_6_4 : (Cond.fieldLink RX8 75 "CutTreesModel" "kBack" "[I") ∈ tb_L := tb_c6 (List.mem_of_getElem? (i := 4) rfl)
theorem tb_6_5 : (Cond.fieldLink RX8 78 "CutTreesModel" "kAbove" "[I") ∈ tb_L := tb_c6 (List.mem_of_getElem? (i := 5) rfl)
theorem tb_6_6 : (Cond.fieldLink RX8 81 "CutTreesModel" "pPiece" "[I") ∈ tb_L := tb_c6 (List.mem_of_getElem? (i := 6) rfl)
theorem tb_6_7 : (Cond.fieldLink RX8 84 "CutTreesModel" "pKnot" "[I") ∈ tb_L := tb_c6 (List.mem_of_getElem? (i := 7) rfl)
theorem tb_6_8 : (Cond.fieldLink RX8 87 "CutTreesModel" "pUp" "[J") ∈ tb_L := tb_c6 (List.mem_of_getElem? (i := 8) rfl)
theorem tb_6_9 : (Cond.fieldLink RX8 90 "CutTreesModel" "pLow" "[J") ∈ tb_L := tb_c6 (List.mem_of_getElem? (i := 9) rfl)
theorem tb_6_10 : (Cond.fieldLink RX8 93 "CutTreesModel" "pUp2" "[J") ∈ tb_L := tb_c6 (List.mem_of_getElem? (i := 10) rfl)
theorem tb_6_11 : (Cond.fieldLink RX8 96 "CutTreesModel" "pLow2" "[J") ∈ tb_L := tb_c6 (List.mem_of_getElem? (i := 11) rfl)
theorem tb_6_12 : (Cond.fieldLink RX8 99 "CutTreesModel" "orderOf" "[I") ∈ tb_L := tb_c6 (List.mem_of_getElem? (i := 12) rfl)
theorem tb_6_13 : (Cond.fieldLink RX8 102 "CutTreesModel" "told" "[I") ∈ tb_L := tb_c6 (List.mem_of_getElem? (i := 13) rfl)
theorem tb_6_14 : (Cond.fieldLink RX8 105 "CutTreesModel" "oKnot" "[I") ∈ tb_L := tb_c6 (List.mem_of_getElem? (i := 14) rfl)
theorem tb_6_15 : (Cond.fieldLink RX8 108 "CutTreesModel" "oParts" "[Z") ∈ tb_L := tb_c6 (List.mem_of_getElem? (i := 15) rfl)
theorem tb_6_16 : (Cond.fieldLink RX8 111 "CutTreesModel" "metPiece" "[I") ∈ tb_L := tb_c6 (List.mem_of_getElem? (i := 16) rfl)
theorem tb_6_17 : (Cond.fieldLink RX8 114 "CutTreesModel" "metUp" "[J") ∈ tb_L := tb_c6 (List.mem_of_getElem? (i := 17) rfl)
theorem tb_6_18 : (Cond.fieldLink RX8 117 "CutTreesModel" "metLow" "[J") ∈ tb_L := tb_c6 (List.mem_of_getElem? (i := 18) rfl)
theorem tb_6_19 : (Cond.fieldLink RX8 120 "CutTreesModel" "fewest" "[I") ∈ tb_L := tb_c6 (List.mem_of_getElem? (i := 19) rfl)
theorem tb_6_20 : (Cond.methodLink RL 28 yX7_piece) ∈ tb_L := tb_c6 (List.mem_of_getElem? (i := 20) rfl)
theorem tb_6_21 : (Cond.instanceMethod yX7_piece) ∈ tb_L := tb_c6 (List.mem_of_getElem? (i := 21) rfl)
theorem tb_6_22 : (Cond.selects RX7 yX7_piece yX7_piece) ∈ tb_L := tb_c6 (List.mem_of_getElem? (i := 22) rfl)
theorem tb_6_23 : (Cond.code yX7_piece cX7_piece 6 (some .int)) ∈ tb_L := tb_c6 (List.mem_of_getElem? (i := 23) rfl)
theorem tb_7_0 : (Cond.fieldLink RX7 53 "CutTrees$Pieces" "size" "I") ∈ tb_L := tb_c7 (List.mem_of_getElem? (i := 0) rfl)
theorem tb_7_1 : (Cond.methodLink RX7 57 yX7_isBeyond) ∈ tb_L := tb_c7 (List.mem_of_getElem? (i := 1) rfl)
theorem tb_7_2 : (Cond.static yX7_isBeyond) ∈ tb_L := tb_c7 (List.mem_of_getElem? (i := 2) rfl)
theorem tb_7_3 : (Cond.code yX7_isBeyond cX7_isBeyond 2 (some .boolean)) ∈ tb_L := tb_c7 (List.mem_of_getElem? (i := 3) rfl)
theorem tb_7_4 : (Cond.methodLink RX7 61 yX7_forgetTree) ∈ tb_L := tb_c7 (List.mem_of_getElem? (i := 4) rfl)
theorem tb_7_5 : (Cond.instanceMethod yX7_forgetTree) ∈ tb_L := tb_c7 (List.mem_of_getElem? (i := 5) rfl)
theorem tb_7_6 : (Cond.selects RX7 yX7_forgetTree yX7_forgetTree) ∈ tb_L := tb_c7 (List.mem_of_getElem? (i := 6) rfl)
theorem tb_7_7 : (Cond.code yX7_forgetTree cX7_forgetTree 1 none) ∈ tb_L := tb_c7 (List.mem_of_getElem? (i := 7) rfl)
theorem tb_7_8 : (Cond.fieldLink RX7 172 "CutTrees$Telling" "size" "I") ∈ tb_L := tb_c7 (List.mem_of_getElem? (i := 8) rfl)
theorem tb_7_9 : (Cond.methodLink RX7 200 yX6_fell) ∈ tb_L := tb_c7 (List.mem_of_getElem? (i := 9) rfl)
theorem tb_7_10 : (Cond.instanceMethod yX6_fell) ∈ tb_L := tb_c7 (List.mem_of_getElem? (i := 10) rfl)
theorem tb_7_11 : (Cond.selects RX6 yX6_fell yX6_fell) ∈ tb_L := tb_c7 (List.mem_of_getElem? (i := 11) rfl)
theorem tb_7_12 : (Cond.code yX6_fell cX6_fell 1 none) ∈ tb_L := tb_c7 (List.mem_of_getElem? (i := 12) rfl)
theorem tb_7_13 : (Cond.fieldLink RX6 48 "CutTrees$Tree" "stands" "Z") ∈ tb_L := tb_c7 (List.mem_of_getElem? (i := 13) rfl)
theorem tb_7_14 : (Cond.fieldLink RX6 52 "CutTrees$Tree" "knots" "I") ∈ tb_L := tb_c7 (List.mem_of_getElem? (i := 14) rfl)
theorem tb_7_15 : (Cond.fieldLink RX6 56 "CutTrees$Tree" "leaves" "I") ∈ tb_L := tb_c7 (List.mem_of_getElem? (i := 15) rfl)
theorem tb_7_16 : (Cond.fieldLink RX6 59 "CutTrees$Tree" "height" "I") ∈ tb_L := tb_c7 (List.mem_of_getElem? (i := 16) rfl)
theorem tb_7_17 : (Cond.fieldLink RX6 62 "CutTrees$Parts" "size" "I") ∈ tb_L := tb_c7 (List.mem_of_getElem? (i := 17) rfl)
theorem tb_7_18 : (Cond.methodLink RX7 64 yX3_add) ∈ tb_L := tb_c7 (List.mem_of_getElem? (i := 18) rfl)
theorem tb_7_19 : (Cond.instanceMethod yX3_add) ∈ tb_L := tb_c7 (List.mem_of_getElem? (i := 19) rfl)
theorem tb_7_20 : (Cond.selects RX3 yX3_add yX3_add) ∈ tb_L := tb_c7 (List.mem_of_getElem? (i := 20) rfl)
theorem tb_7_21 : (Cond.code yX3_add cX3_add 5 none) ∈ tb_L := tb_c7 (List.mem_of_getElem? (i := 21) rfl)
theorem tb_7_22 : (Cond.fieldLink RX3 24 "CutTrees$Pieces" "size" "I") ∈ tb_L := tb_c7 (List.mem_of_getElem? (i := 22) rfl)
theorem tb_7_23 : (Cond.methodLink RL 32 yX8_piece) ∈ tb_L := tb_c7 (List.mem_of_getElem? (i := 23) rfl)
theorem tb_8_0 : (Cond.instanceMethod yX8_piece) ∈ tb_L := tb_c8 (List.mem_of_getElem? (i := 0) rfl)
theorem tb_8_1 : (Cond.selects RX8 yX8_piece yX8_piece) ∈ tb_L := tb_c8 (List.mem_of_getElem? (i := 1) rfl)
theorem tb_8_2 : (Cond.code yX8_piece cX8_piece 5 (some .int)) ∈ tb_L := tb_c8 (List.mem_of_getElem? (i := 2) rfl)
theorem tb_8_3 : (Cond.fieldLink RX8 123 "CutTreesModel" "thrown" "I") ∈ tb_L := tb_c8 (List.mem_of_getElem? (i := 3) rfl)
theorem tb_8_4 : (Cond.fieldLink RX8 127 "CutTreesModel" "pieces" "I") ∈ tb_L := tb_c8 (List.mem_of_getElem? (i := 4) rfl)
theorem tb_8_5 : (Cond.methodLink RX8 130 yX8_isPlace) ∈ tb_L := tb_c8 (List.mem_of_getElem? (i := 5) rfl)
theorem tb_8_6 : (Cond.static yX8_isPlace) ∈ tb_L := tb_c8 (List.mem_of_getElem? (i := 6) rfl)
theorem tb_8_7 : (Cond.code yX8_isPlace cX8_isPlace 2 (some .boolean)) ∈ tb_L := tb_c8 (List.mem_of_getElem? (i := 7) rfl)
theorem tb_8_8 : (Cond.methodLink RX8 134 yX8_noTree) ∈ tb_L := tb_c8 (List.mem_of_getElem? (i := 8) rfl)
theorem tb_8_9 : (Cond.instanceMethod yX8_noTree) ∈ tb_L := tb_c8 (List.mem_of_getElem? (i := 9) rfl)
theorem tb_8_10 : (Cond.selects RX8 yX8_noTree yX8_noTree) ∈ tb_L := tb_c8 (List.mem_of_getElem? (i := 10) rfl)
theorem tb_8_11 : (Cond.code yX8_noTree cX8_noTree 1 none) ∈ tb_L := tb_c8 (List.mem_of_getElem? (i := 11) rfl)
theorem tb_8_12 : (Cond.fieldLink RX8 137 "CutTreesModel" "isTree" "Z") ∈ tb_L := tb_c8 (List.mem_of_getElem? (i := 12) rfl)
theorem tb_8_13 : (Cond.fieldLink RX8 141 "CutTreesModel" "knots" "I") ∈ tb_L := tb_c8 (List.mem_of_getElem? (i := 13) rfl)
theorem tb_8_14 : (Cond.fieldLink RX8 144 "CutTreesModel" "leaves" "I") ∈ tb_L := tb_c8 (List.mem_of_getElem? (i := 14) rfl)
theorem tb_8_15 : (Cond.fieldLink RX8 147 "CutTreesModel" "parts" "I") ∈ tb_L := tb_c8 (List.mem_of_getElem? (i := 15) rfl)
theorem tb_8_16 : (Cond.fieldLink RX8 150 "CutTreesModel" "toldMany" "I") ∈ tb_L := tb_c8 (List.mem_of_getElem? (i := 16) rfl)
theorem tb_8_17 : (Cond.methodLink RL 33 yX7_drop) ∈ tb_L := tb_c8 (List.mem_of_getElem? (i := 17) rfl)
theorem tb_8_18 : (Cond.instanceMethod yX7_drop) ∈ tb_L := tb_c8 (List.mem_of_getElem? (i := 18) rfl)
theorem tb_8_19 : (Cond.selects RX7 yX7_drop yX7_drop) ∈ tb_L := tb_c8 (List.mem_of_getElem? (i := 19) rfl)
theorem tb_8_20 : (Cond.code yX7_drop cX7_drop 1 (some .int)) ∈ tb_L := tb_c8 (List.mem_of_getElem? (i := 20) rfl)
theorem tb_8_21 : (Cond.methodLink RL 37 yX8_drop) ∈ tb_L := tb_c8 (List.mem_of_getElem? (i := 21) rfl)
theorem tb_8_22 : (Cond.instanceMethod yX8_drop) ∈ tb_L := tb_c8 (List.mem_of_getElem? (i := 22) rfl)
theorem tb_8_23 : (Cond.selects RX8 yX8_drop yX8_drop) ∈ tb_L := tb_c8 (List.mem_of_getElem? (i := 23) rfl)
theorem tb_9_0 : (Cond.code yX8_drop cX8_drop 1 (some .int)) ∈ tb_L := tb_c9 (List.mem_of_getElem? (i := 0) rfl)
theorem tb_9_1 : (Cond.methodLink RL 38 yL_look) ∈ tb_L := tb_c9 (List.mem_of_getElem? (i := 1) rfl)
theorem tb_9_2 : (Cond.static yL_look) ∈ tb_L := tb_c9 (List.mem_of_getElem? (i := 2) rfl)
theorem tb_9_3 : (Cond.initialized RL) ∈ tb_L := tb_c9 (List.mem_of_getElem? (i := 3) rfl)
theorem tb_9_4 : (Cond.codeWith yL_look cL_look 5 (some .int) [(0, 10, 13, 13), (0, 10, 17, 15)]) ∈ tb_L := tb_c9 (List.mem_of_getElem? (i := 4) rfl)
theorem tb_9_5 : (Cond.classLink RL 13 "java/lang/IndexOutOfBoundsException") ∈ tb_L := tb_c9 (List.mem_of_getElem? (i := 5) rfl)
theorem tb_9_6 : (Cond.classLink RL 15 "java/util/NoSuchElementException") ∈ tb_L := tb_c9 (List.mem_of_getElem? (i := 6) rfl)
theorem tb_9_7 : (Cond.methodLink RL 7 yX7_look) ∈ tb_L := tb_c9 (List.mem_of_getElem? (i := 7) rfl)
theorem tb_9_8 : (Cond.instanceMethod yX7_look) ∈ tb_L := tb_c9 (List.mem_of_getElem? (i := 8) rfl)
theorem tb_9_9 : (Cond.selects RX7 yX7_look yX7_look) ∈ tb_L := tb_c9 (List.mem_of_getElem? (i := 9) rfl)
theorem tb_9_10 : (Cond.code yX7_look cX7_look 3 (some .int)) ∈ tb_L := tb_c9 (List.mem_of_getElem? (i := 10) rfl)
theorem tb_9_11 : (Cond.classLink RX7 68 "java/lang/IndexOutOfBoundsException") ∈ tb_L := tb_c9 (List.mem_of_getElem? (i := 11) rfl)
theorem tb_9_12 : (Cond.initialized "java/lang/IndexOutOfBoundsException") ∈ tb_L := tb_c9 (List.mem_of_getElem? (i := 12) rfl)
theorem tb_9_13 : (Cond.classLink RX7 98 "java/util/NoSuchElementException") ∈ tb_L := tb_c9 (List.mem_of_getElem? (i := 13) rfl)
theorem tb_9_14 : (Cond.initialized "java/util/NoSuchElementException") ∈ tb_L := tb_c9 (List.mem_of_getElem? (i := 14) rfl)
theorem tb_9_15 : (Cond.fieldLink RX7 75 "CutTrees$Pieces" "x0" "[I") ∈ tb_L := tb_c9 (List.mem_of_getElem? (i := 15) rfl)
theorem tb_9_16 : (Cond.fieldLink RX7 79 "CutTrees$Pieces" "y0" "[I") ∈ tb_L := tb_c9 (List.mem_of_getElem? (i := 16) rfl)
theorem tb_9_17 : (Cond.fieldLink RX7 82 "CutTrees$Pieces" "x1" "[I") ∈ tb_L := tb_c9 (List.mem_of_getElem? (i := 17) rfl)
theorem tb_9_18 : (Cond.fieldLink RX7 85 "CutTrees$Pieces" "y1" "[I") ∈ tb_L := tb_c9 (List.mem_of_getElem? (i := 18) rfl)
theorem tb_9_19 : (Cond.fieldLink RX7 88 "CutTrees$Tree" "parts" "LCutTrees$Parts;") ∈ tb_L := tb_c9 (List.mem_of_getElem? (i := 19) rfl)
theorem tb_9_20 : (Cond.methodLink RX7 92 yX2_howManyOf) ∈ tb_L := tb_c9 (List.mem_of_getElem? (i := 20) rfl)
theorem tb_9_21 : (Cond.instanceMethod yX2_howManyOf) ∈ tb_L := tb_c9 (List.mem_of_getElem? (i := 21) rfl)
theorem tb_9_22 : (Cond.selects RX2 yX2_howManyOf yX2_howManyOf) ∈ tb_L := tb_c9 (List.mem_of_getElem? (i := 22) rfl)
theorem tb_9_23 : (Cond.code yX2_howManyOf cX2_howManyOf 4 (some .int)) ∈ tb_L := tb_c9 (List.mem_of_getElem? (i := 23) rfl)
theorem tb_10_0 : (Cond.fieldLink RX2 31 "CutTrees$Parts" "size" "I") ∈ tb_L := tb_c10 (List.mem_of_getElem? (i := 0) rfl)
theorem tb_10_1 : (Cond.methodLink RL 43 yX8_look) ∈ tb_L := tb_c10 (List.mem_of_getElem? (i := 1) rfl)
theorem tb_10_2 : (Cond.instanceMethod yX8_look) ∈ tb_L := tb_c10 (List.mem_of_getElem? (i := 2) rfl)
theorem tb_10_3 : (Cond.selects RX8 yX8_look yX8_look) ∈ tb_L := tb_c10 (List.mem_of_getElem? (i := 3) rfl)
theorem tb_10_4 : (Cond.code yX8_look cX8_look 5 (some .int)) ∈ tb_L := tb_c10 (List.mem_of_getElem? (i := 4) rfl)
theorem tb_10_5 : (Cond.methodLink RX8 212 yX8_fails) ∈ tb_L := tb_c10 (List.mem_of_getElem? (i := 5) rfl)
theorem tb_10_6 : (Cond.instanceMethod yX8_fails) ∈ tb_L := tb_c10 (List.mem_of_getElem? (i := 6) rfl)
theorem tb_10_7 : (Cond.selects RX8 yX8_fails yX8_fails) ∈ tb_L := tb_c10 (List.mem_of_getElem? (i := 7) rfl)
theorem tb_10_8 : (Cond.code yX8_fails cX8_fails 2 (some .int)) ∈ tb_L := tb_c10 (List.mem_of_getElem? (i := 8) rfl)
theorem tb_10_9 : (Cond.methodLink RL 44 yX8_thrown) ∈ tb_L := tb_c10 (List.mem_of_getElem? (i := 9) rfl)
theorem tb_10_10 : (Cond.instanceMethod yX8_thrown) ∈ tb_L := tb_c10 (List.mem_of_getElem? (i := 10) rfl)
theorem tb_10_11 : (Cond.selects RX8 yX8_thrown yX8_thrown) ∈ tb_L := tb_c10 (List.mem_of_getElem? (i := 11) rfl)
theorem tb_10_12 : (Cond.code yX8_thrown cX8_thrown 1 (some .int)) ∈ tb_L := tb_c10 (List.mem_of_getElem? (i := 12) rfl)
theorem tb_10_13 : (Cond.methodLink RL 47 yX7_build) ∈ tb_L := tb_c10 (List.mem_of_getElem? (i := 13) rfl)
theorem tb_10_14 : (Cond.instanceMethod yX7_build) ∈ tb_L := tb_c10 (List.mem_of_getElem? (i := 14) rfl)
theorem tb_10_15 : (Cond.selects RX7 yX7_build yX7_build) ∈ tb_L := tb_c10 (List.mem_of_getElem? (i := 15) rfl)
theorem tb_10_16 : (Cond.code yX7_build cX7_build 3 (some .int)) ∈ tb_L := tb_c10 (List.mem_of_getElem? (i := 16) rfl)
theorem tb_10_17 : (Cond.fieldLink RX7 107 "CutTrees$Tree" "knots" "I") ∈ tb_L := tb_c10 (List.mem_of_getElem? (i := 17) rfl)
theorem tb_10_18 : (Cond.methodLink RX7 103 yX6_raise) ∈ tb_L := tb_c10 (List.mem_of_getElem? (i := 18) rfl)
theorem tb_10_19 : (Cond.instanceMethod yX6_raise) ∈ tb_L := tb_c10 (List.mem_of_getElem? (i := 19) rfl)
theorem tb_10_20 : (Cond.selects RX6 yX6_raise yX6_raise) ∈ tb_L := tb_c10 (List.mem_of_getElem? (i := 20) rfl)
theorem tb_10_21 : (Cond.code yX6_raise cX6_raise 3 none) ∈ tb_L := tb_c10 (List.mem_of_getElem? (i := 21) rfl)
theorem tb_10_22 : (Cond.fieldLink RX6 68 "CutTrees$Tree" "rule" "I") ∈ tb_L := tb_c10 (List.mem_of_getElem? (i := 22) rfl)
theorem tb_10_23 : (Cond.fieldLink RX6 71 "CutTrees$Tree" "draw" "I") ∈ tb_L := tb_c10 (List.mem_of_getElem? (i := 23) rfl)
theorem tb_11_0 : (Cond.fieldLink RX6 79 "CutTrees$Cutter" "rows" "LCutTrees$Parts;") ∈ tb_L := tb_c11 (List.mem_of_getElem? (i := 0) rfl)
theorem tb_11_1 : (Cond.fieldLink RX6 86 "CutTrees$Tree" "top" "I") ∈ tb_L := tb_c11 (List.mem_of_getElem? (i := 1) rfl)
theorem tb_11_2 : (Cond.methodLink RX6 65 yX6_fell) ∈ tb_L := tb_c11 (List.mem_of_getElem? (i := 2) rfl)
theorem tb_11_3 : (Cond.methodLink RX6 74 yX0_startWithAll) ∈ tb_L := tb_c11 (List.mem_of_getElem? (i := 3) rfl)
theorem tb_11_4 : (Cond.instanceMethod yX0_startWithAll) ∈ tb_L := tb_c11 (List.mem_of_getElem? (i := 4) rfl)
theorem tb_11_5 : (Cond.selects RX0 yX0_startWithAll yX0_startWithAll) ∈ tb_L := tb_c11 (List.mem_of_getElem? (i := 5) rfl)
theorem tb_11_6 : (Cond.code yX0_startWithAll cX0_startWithAll 2 none) ∈ tb_L := tb_c11 (List.mem_of_getElem? (i := 6) rfl)
theorem tb_11_7 : (Cond.fieldLink RX0 22 "CutTrees$Parts" "size" "I") ∈ tb_L := tb_c11 (List.mem_of_getElem? (i := 7) rfl)
theorem tb_11_8 : (Cond.fieldLink RX0 26 "CutTrees$Pieces" "size" "I") ∈ tb_L := tb_c11 (List.mem_of_getElem? (i := 8) rfl)
theorem tb_11_9 : (Cond.methodLink RX0 29 yX2_addWhole) ∈ tb_L := tb_c11 (List.mem_of_getElem? (i := 9) rfl)
theorem tb_11_10 : (Cond.instanceMethod yX2_addWhole) ∈ tb_L := tb_c11 (List.mem_of_getElem? (i := 10) rfl)
theorem tb_11_11 : (Cond.selects RX2 yX2_addWhole yX2_addWhole) ∈ tb_L := tb_c11 (List.mem_of_getElem? (i := 11) rfl)
theorem tb_11_12 : (Cond.code yX2_addWhole cX2_addWhole 2 none) ∈ tb_L := tb_c11 (List.mem_of_getElem? (i := 12) rfl)
theorem tb_11_13 : (Cond.methodLink RX2 27 yX2_add) ∈ tb_L := tb_c11 (List.mem_of_getElem? (i := 13) rfl)
theorem tb_11_14 : (Cond.instanceMethod yX2_add) ∈ tb_L := tb_c11 (List.mem_of_getElem? (i := 14) rfl)
theorem tb_11_15 : (Cond.selects RX2 yX2_add yX2_add) ∈ tb_L := tb_c11 (List.mem_of_getElem? (i := 15) rfl)
theorem tb_11_16 : (Cond.code yX2_add cX2_add 6 none) ∈ tb_L := tb_c11 (List.mem_of_getElem? (i := 16) rfl)
theorem tb_11_17 : (Cond.methodLink RX6 82 yX6_grow) ∈ tb_L := tb_c11 (List.mem_of_getElem? (i := 17) rfl)
theorem tb_11_18 : (Cond.instanceMethod yX6_grow) ∈ tb_L := tb_c11 (List.mem_of_getElem? (i := 18) rfl)
theorem tb_11_19 : (Cond.selects RX6 yX6_grow yX6_grow) ∈ tb_L := tb_c11 (List.mem_of_getElem? (i := 19) rfl)
theorem tb_11_20 : (Cond.code yX6_grow cX6_grow 6 (some .int)) ∈ tb_L := tb_c11 (List.mem_of_getElem? (i := 20) rfl)
theorem tb_11_21 : (Cond.methodLink RX6 89 Lib.Math.max.name) ∈ tb_L := tb_c11 (List.mem_of_getElem? (i := 21) rfl)
theorem tb_11_22 : (Cond.static Lib.Math.max.name) ∈ tb_L := tb_c11 (List.mem_of_getElem? (i := 22) rfl)
theorem tb_11_23 : (Cond.initialized "java/lang/Math") ∈ tb_L := tb_c11 (List.mem_of_getElem? (i := 23) rfl)
theorem tb_12_0 : (Cond.code Lib.Math.max.name Lib.Math.max.code 2 (some .int)) ∈ tb_L := tb_c12 (List.mem_of_getElem? (i := 0) rfl)
theorem tb_12_1 : (Cond.fieldLink RX6 95 "CutTrees$Parts" "owner" "[I") ∈ tb_L := tb_c12 (List.mem_of_getElem? (i := 1) rfl)
theorem tb_12_2 : (Cond.methodLink RX6 98 yX6_choose) ∈ tb_L := tb_c12 (List.mem_of_getElem? (i := 2) rfl)
theorem tb_12_3 : (Cond.instanceMethod yX6_choose) ∈ tb_L := tb_c12 (List.mem_of_getElem? (i := 3) rfl)
theorem tb_12_4 : (Cond.selects RX6 yX6_choose yX6_choose) ∈ tb_L := tb_c12 (List.mem_of_getElem? (i := 4) rfl)
theorem tb_12_5 : (Cond.code yX6_choose cX6_choose 7 (some .int)) ∈ tb_L := tb_c12 (List.mem_of_getElem? (i := 5) rfl)
theorem tb_12_6 : (Cond.constant RX6 120 (1103515245)) ∈ tb_L := tb_c12 (List.mem_of_getElem? (i := 6) rfl)
theorem tb_12_7 : (Cond.methodLink RX6 121 yX6_faultOf) ∈ tb_L := tb_c12 (List.mem_of_getElem? (i := 7) rfl)
theorem tb_12_8 : (Cond.instanceMethod yX6_faultOf) ∈ tb_L := tb_c12 (List.mem_of_getElem? (i := 8) rfl)
theorem tb_12_9 : (Cond.selects RX6 yX6_faultOf yX6_faultOf) ∈ tb_L := tb_c12 (List.mem_of_getElem? (i := 9) rfl)
theorem tb_12_10 : (Cond.code yX6_faultOf cX6_faultOf 9 (some .int)) ∈ tb_L := tb_c12 (List.mem_of_getElem? (i := 10) rfl)
theorem tb_12_11 : (Cond.methodLink RX6 125 Lib.Math.abs.name) ∈ tb_L := tb_c12 (List.mem_of_getElem? (i := 11) rfl)
theorem tb_12_12 : (Cond.static Lib.Math.abs.name) ∈ tb_L := tb_c12 (List.mem_of_getElem? (i := 12) rfl)
theorem tb_12_13 : (Cond.code Lib.Math.abs.name Lib.Math.abs.code 1 (some .int)) ∈ tb_L := tb_c12 (List.mem_of_getElem? (i := 13) rfl)
theorem tb_12_14 : (Cond.methodLink RX6 113 yX0_sides) ∈ tb_L := tb_c12 (List.mem_of_getElem? (i := 14) rfl)
theorem tb_12_15 : (Cond.instanceMethod yX0_sides) ∈ tb_L := tb_c12 (List.mem_of_getElem? (i := 15) rfl)
theorem tb_12_16 : (Cond.selects RX0 yX0_sides yX0_sides) ∈ tb_L := tb_c12 (List.mem_of_getElem? (i := 16) rfl)
theorem tb_12_17 : (Cond.code yX0_sides cX0_sides 6 (some .int)) ∈ tb_L := tb_c12 (List.mem_of_getElem? (i := 17) rfl)
theorem tb_12_18 : (Cond.fieldLink RX0 33 "CutTrees$Parts" "owner" "[I") ∈ tb_L := tb_c12 (List.mem_of_getElem? (i := 18) rfl)
theorem tb_12_19 : (Cond.fieldLink RX0 37 "CutTrees$Pieces" "x0" "[I") ∈ tb_L := tb_c12 (List.mem_of_getElem? (i := 19) rfl)
theorem tb_12_20 : (Cond.fieldLink RX0 40 "CutTrees$Pieces" "y0" "[I") ∈ tb_L := tb_c12 (List.mem_of_getElem? (i := 20) rfl)
theorem tb_12_21 : (Cond.fieldLink RX0 47 "CutTrees$Pieces" "x1" "[I") ∈ tb_L := tb_c12 (List.mem_of_getElem? (i := 21) rfl)
theorem tb_12_22 : (Cond.fieldLink RX0 50 "CutTrees$Pieces" "y1" "[I") ∈ tb_L := tb_c12 (List.mem_of_getElem? (i := 22) rfl)
theorem tb_12_23 : (Cond.fieldLink RX0 53 "CutTrees$Parts" "n0" "[I") ∈ tb_L := tb_c12 (List.mem_of_getElem? (i := 23) rfl)
theorem tb_13_0 : (Cond.fieldLink RX0 56 "CutTrees$Parts" "d0" "[I") ∈ tb_L := tb_c13 (List.mem_of_getElem? (i := 0) rfl)
theorem tb_13_1 : (Cond.fieldLink RX0 63 "CutTrees$Parts" "n1" "[I") ∈ tb_L := tb_c13 (List.mem_of_getElem? (i := 1) rfl)
theorem tb_13_2 : (Cond.fieldLink RX0 66 "CutTrees$Parts" "d1" "[I") ∈ tb_L := tb_c13 (List.mem_of_getElem? (i := 2) rfl)
theorem tb_13_3 : (Cond.methodLink RX0 43 yX3_sideOf) ∈ tb_L := tb_c13 (List.mem_of_getElem? (i := 3) rfl)
theorem tb_13_4 : (Cond.instanceMethod yX3_sideOf) ∈ tb_L := tb_c13 (List.mem_of_getElem? (i := 4) rfl)
theorem tb_13_5 : (Cond.selects RX3 yX3_sideOf yX3_sideOf) ∈ tb_L := tb_c13 (List.mem_of_getElem? (i := 5) rfl)
theorem tb_13_6 : (Cond.code yX3_sideOf cX3_sideOf 4 (some .int)) ∈ tb_L := tb_c13 (List.mem_of_getElem? (i := 6) rfl)
theorem tb_13_7 : (Cond.methodLink RX0 59 yX0_sideBetween) ∈ tb_L := tb_c13 (List.mem_of_getElem? (i := 7) rfl)
theorem tb_13_8 : (Cond.static yX0_sideBetween) ∈ tb_L := tb_c13 (List.mem_of_getElem? (i := 8) rfl)
theorem tb_13_9 : (Cond.code yX0_sideBetween cX0_sideBetween 6 (some .int)) ∈ tb_L := tb_c13 (List.mem_of_getElem? (i := 9) rfl)
theorem tb_13_10 : (Cond.methodLink RX6 101 yX6_hold) ∈ tb_L := tb_c13 (List.mem_of_getElem? (i := 10) rfl)
theorem tb_13_11 : (Cond.instanceMethod yX6_hold) ∈ tb_L := tb_c13 (List.mem_of_getElem? (i := 11) rfl)
theorem tb_13_12 : (Cond.selects RX6 yX6_hold yX6_hold) ∈ tb_L := tb_c13 (List.mem_of_getElem? (i := 12) rfl)
theorem tb_13_13 : (Cond.code yX6_hold cX6_hold 5 none) ∈ tb_L := tb_c13 (List.mem_of_getElem? (i := 13) rfl)
theorem tb_13_14 : (Cond.methodLink RX6 116 yX2_addCopy) ∈ tb_L := tb_c13 (List.mem_of_getElem? (i := 14) rfl)
theorem tb_13_15 : (Cond.instanceMethod yX2_addCopy) ∈ tb_L := tb_c13 (List.mem_of_getElem? (i := 15) rfl)
theorem tb_13_16 : (Cond.selects RX2 yX2_addCopy yX2_addCopy) ∈ tb_L := tb_c13 (List.mem_of_getElem? (i := 16) rfl)
theorem tb_13_17 : (Cond.code yX2_addCopy cX2_addCopy 3 none) ∈ tb_L := tb_c13 (List.mem_of_getElem? (i := 17) rfl)
theorem tb_13_18 : (Cond.methodLink RX6 105 yX6_growSide) ∈ tb_L := tb_c13 (List.mem_of_getElem? (i := 18) rfl)
theorem tb_13_19 : (Cond.instanceMethod yX6_growSide) ∈ tb_L := tb_c13 (List.mem_of_getElem? (i := 19) rfl)
theorem tb_13_20 : (Cond.selects RX6 yX6_growSide yX6_growSide) ∈ tb_L := tb_c13 (List.mem_of_getElem? (i := 20) rfl)
theorem tb_13_21 : (Cond.code yX6_growSide cX6_growSide 8 (some .int)) ∈ tb_L := tb_c13 (List.mem_of_getElem? (i := 21) rfl)
theorem tb_13_22 : (Cond.methodLink RX6 109 yX0_addSideRow) ∈ tb_L := tb_c13 (List.mem_of_getElem? (i := 22) rfl)
theorem tb_13_23 : (Cond.instanceMethod yX0_addSideRow) ∈ tb_L := tb_c13 (List.mem_of_getElem? (i := 23) rfl)
theorem tb_14_0 : (Cond.selects RX0 yX0_addSideRow yX0_addSideRow) ∈ tb_L := tb_c14 (List.mem_of_getElem? (i := 0) rfl)
theorem tb_14_1 : (Cond.code yX0_addSideRow cX0_addSideRow 7 none) ∈ tb_L := tb_c14 (List.mem_of_getElem? (i := 1) rfl)
theorem tb_14_2 : (Cond.methodLink RX0 69 yX0_sides) ∈ tb_L := tb_c14 (List.mem_of_getElem? (i := 2) rfl)
theorem tb_14_3 : (Cond.methodLink RX0 73 yX0_addHalf) ∈ tb_L := tb_c14 (List.mem_of_getElem? (i := 3) rfl)
theorem tb_14_4 : (Cond.instanceMethod yX0_addHalf) ∈ tb_L := tb_c14 (List.mem_of_getElem? (i := 4) rfl)
theorem tb_14_5 : (Cond.selects RX0 yX0_addHalf yX0_addHalf) ∈ tb_L := tb_c14 (List.mem_of_getElem? (i := 5) rfl)
theorem tb_14_6 : (Cond.code yX0_addHalf cX0_addHalf 10 none) ∈ tb_L := tb_c14 (List.mem_of_getElem? (i := 6) rfl)
theorem tb_14_7 : (Cond.methodLink RX0 81 Lib.Math.abs.name) ∈ tb_L := tb_c14 (List.mem_of_getElem? (i := 7) rfl)
theorem tb_14_8 : (Cond.methodLink RX0 87 yX2_add) ∈ tb_L := tb_c14 (List.mem_of_getElem? (i := 8) rfl)
theorem tb_14_9 : (Cond.methodLink RX0 77 yX2_addCopy) ∈ tb_L := tb_c14 (List.mem_of_getElem? (i := 9) rfl)
theorem tb_14_10 : (Cond.methodLink RL 50 yX8_build) ∈ tb_L := tb_c14 (List.mem_of_getElem? (i := 10) rfl)
theorem tb_14_11 : (Cond.instanceMethod yX8_build) ∈ tb_L := tb_c14 (List.mem_of_getElem? (i := 11) rfl)
theorem tb_14_12 : (Cond.selects RX8 yX8_build yX8_build) ∈ tb_L := tb_c14 (List.mem_of_getElem? (i := 12) rfl)
theorem tb_14_13 : (Cond.code yX8_build cX8_build 4 (some .int)) ∈ tb_L := tb_c14 (List.mem_of_getElem? (i := 13) rfl)
theorem tb_14_14 : (Cond.fieldLink RX8 170 "CutTreesModel" "draw" "I") ∈ tb_L := tb_c14 (List.mem_of_getElem? (i := 14) rfl)
theorem tb_14_15 : (Cond.methodLink RX8 209 yX8_grow) ∈ tb_L := tb_c14 (List.mem_of_getElem? (i := 15) rfl)
theorem tb_14_16 : (Cond.instanceMethod yX8_grow) ∈ tb_L := tb_c14 (List.mem_of_getElem? (i := 16) rfl)
theorem tb_14_17 : (Cond.selects RX8 yX8_grow yX8_grow) ∈ tb_L := tb_c14 (List.mem_of_getElem? (i := 17) rfl)
theorem tb_14_18 : (Cond.code yX8_grow cX8_grow 16 none) ∈ tb_L := tb_c14 (List.mem_of_getElem? (i := 18) rfl)
theorem tb_14_19 : (Cond.fieldLink RX8 177 "CutTreesModel" "rMany" "I") ∈ tb_L := tb_c14 (List.mem_of_getElem? (i := 19) rfl)
theorem tb_14_20 : (Cond.fieldLink RX8 180 "CutTreesModel" "waits" "I") ∈ tb_L := tb_c14 (List.mem_of_getElem? (i := 20) rfl)
theorem tb_14_21 : (Cond.fieldLink RX8 183 "CutTreesModel" "made" "I") ∈ tb_L := tb_c14 (List.mem_of_getElem? (i := 21) rfl)
theorem tb_14_22 : (Cond.fieldLink RX8 198 "CutTreesModel" "top" "I") ∈ tb_L := tb_c14 (List.mem_of_getElem? (i := 22) rfl)
theorem tb_14_23 : (Cond.methodLink RX8 186 yX8_waitsNow) ∈ tb_L := tb_c14 (List.mem_of_getElem? (i := 23) rfl)
theorem tb_15_0 : (Cond.instanceMethod yX8_waitsNow) ∈ tb_L := tb_c15 (List.mem_of_getElem? (i := 0) rfl)
theorem tb_15_1 : (Cond.selects RX8 yX8_waitsNow yX8_waitsNow) ∈ tb_L := tb_c15 (List.mem_of_getElem? (i := 1) rfl)
theorem tb_15_2 : (Cond.code yX8_waitsNow cX8_waitsNow 3 none) ∈ tb_L := tb_c15 (List.mem_of_getElem? (i := 2) rfl)
theorem tb_15_3 : (Cond.methodLink RX8 190 yX8_put) ∈ tb_L := tb_c15 (List.mem_of_getElem? (i := 3) rfl)
theorem tb_15_4 : (Cond.instanceMethod yX8_put) ∈ tb_L := tb_c15 (List.mem_of_getElem? (i := 4) rfl)
theorem tb_15_5 : (Cond.selects RX8 yX8_put yX8_put) ∈ tb_L := tb_c15 (List.mem_of_getElem? (i := 5) rfl)
theorem tb_15_6 : (Cond.code yX8_put cX8_put 11 none) ∈ tb_L := tb_c15 (List.mem_of_getElem? (i := 6) rfl)
theorem tb_15_7 : (Cond.methodLink RX8 194 yX8_back) ∈ tb_L := tb_c15 (List.mem_of_getElem? (i := 7) rfl)
theorem tb_15_8 : (Cond.instanceMethod yX8_back) ∈ tb_L := tb_c15 (List.mem_of_getElem? (i := 8) rfl)
theorem tb_15_9 : (Cond.selects RX8 yX8_back yX8_back) ∈ tb_L := tb_c15 (List.mem_of_getElem? (i := 9) rfl)
theorem tb_15_10 : (Cond.code yX8_back cX8_back 2 none) ∈ tb_L := tb_c15 (List.mem_of_getElem? (i := 10) rfl)
theorem tb_15_11 : (Cond.methodLink RX8 201 yX8_chosen) ∈ tb_L := tb_c15 (List.mem_of_getElem? (i := 11) rfl)
theorem tb_15_12 : (Cond.instanceMethod yX8_chosen) ∈ tb_L := tb_c15 (List.mem_of_getElem? (i := 12) rfl)
theorem tb_15_13 : (Cond.selects RX8 yX8_chosen yX8_chosen) ∈ tb_L := tb_c15 (List.mem_of_getElem? (i := 13) rfl)
theorem tb_15_14 : (Cond.code yX8_chosen cX8_chosen 12 (some .int)) ∈ tb_L := tb_c15 (List.mem_of_getElem? (i := 14) rfl)
theorem tb_15_15 : (Cond.constant RX8 169 (1103515245)) ∈ tb_L := tb_c15 (List.mem_of_getElem? (i := 15) rfl)
theorem tb_15_16 : (Cond.methodLink RX8 173 yX8_rowDoes) ∈ tb_L := tb_c15 (List.mem_of_getElem? (i := 16) rfl)
theorem tb_15_17 : (Cond.instanceMethod yX8_rowDoes) ∈ tb_L := tb_c15 (List.mem_of_getElem? (i := 17) rfl)
theorem tb_15_18 : (Cond.selects RX8 yX8_rowDoes yX8_rowDoes) ∈ tb_L := tb_c15 (List.mem_of_getElem? (i := 18) rfl)
theorem tb_15_19 : (Cond.code yX8_rowDoes cX8_rowDoes 3 (some .int)) ∈ tb_L := tb_c15 (List.mem_of_getElem? (i := 19) rfl)
theorem tb_15_20 : (Cond.methodLink RX8 165 yX8_does) ∈ tb_L := tb_c15 (List.mem_of_getElem? (i := 20) rfl)
theorem tb_15_21 : (Cond.instanceMethod yX8_does) ∈ tb_L := tb_c15 (List.mem_of_getElem? (i := 21) rfl)
theorem tb_15_22 : (Cond.selects RX8 yX8_does yX8_does) ∈ tb_L := tb_c15 (List.mem_of_getElem? (i := 22) rfl)
theorem tb_15_23 : (Cond.code yX8_does cX8_does 15 (some .int)) ∈ tb_L := tb_c15 (List.mem_of_getElem? (i := 23) rfl)
theorem tb_16_0 : (Cond.methodLink RX8 161 yX8_sideAt) ∈ tb_L := tb_c16 (List.mem_of_getElem? (i := 0) rfl)
theorem tb_16_1 : (Cond.instanceMethod yX8_sideAt) ∈ tb_L := tb_c16 (List.mem_of_getElem? (i := 1) rfl)
theorem tb_16_2 : (Cond.selects RX8 yX8_sideAt yX8_sideAt) ∈ tb_L := tb_c16 (List.mem_of_getElem? (i := 2) rfl)
theorem tb_16_3 : (Cond.code yX8_sideAt cX8_sideAt 7 (some .long)) ∈ tb_L := tb_c16 (List.mem_of_getElem? (i := 3) rfl)
theorem tb_16_4 : (Cond.methodLink RX8 153 yX8_side) ∈ tb_L := tb_c16 (List.mem_of_getElem? (i := 4) rfl)
theorem tb_16_5 : (Cond.instanceMethod yX8_side) ∈ tb_L := tb_c16 (List.mem_of_getElem? (i := 5) rfl)
theorem tb_16_6 : (Cond.selects RX8 yX8_side yX8_side) ∈ tb_L := tb_c16 (List.mem_of_getElem? (i := 6) rfl)
theorem tb_16_7 : (Cond.code yX8_side cX8_side 6 (some .long)) ∈ tb_L := tb_c16 (List.mem_of_getElem? (i := 7) rfl)
theorem tb_16_8 : (Cond.methodLink RX8 157 yX8_slope) ∈ tb_L := tb_c16 (List.mem_of_getElem? (i := 8) rfl)
theorem tb_16_9 : (Cond.instanceMethod yX8_slope) ∈ tb_L := tb_c16 (List.mem_of_getElem? (i := 9) rfl)
theorem tb_16_10 : (Cond.selects RX8 yX8_slope yX8_slope) ∈ tb_L := tb_c16 (List.mem_of_getElem? (i := 10) rfl)
theorem tb_16_11 : (Cond.code yX8_slope cX8_slope 3 (some .long)) ∈ tb_L := tb_c16 (List.mem_of_getElem? (i := 11) rfl)
theorem tb_16_12 : (Cond.methodLink RX8 205 yX8_keep) ∈ tb_L := tb_c16 (List.mem_of_getElem? (i := 12) rfl)
theorem tb_16_13 : (Cond.instanceMethod yX8_keep) ∈ tb_L := tb_c16 (List.mem_of_getElem? (i := 13) rfl)
theorem tb_16_14 : (Cond.selects RX8 yX8_keep yX8_keep) ∈ tb_L := tb_c16 (List.mem_of_getElem? (i := 14) rfl)
theorem tb_16_15 : (Cond.code yX8_keep cX8_keep 3 none) ∈ tb_L := tb_c16 (List.mem_of_getElem? (i := 15) rfl)
theorem tb_16_16 : (Cond.methodLink RL 51 yX7_count) ∈ tb_L := tb_c16 (List.mem_of_getElem? (i := 16) rfl)
theorem tb_16_17 : (Cond.instanceMethod yX7_count) ∈ tb_L := tb_c16 (List.mem_of_getElem? (i := 17) rfl)
theorem tb_16_18 : (Cond.selects RX7 yX7_count yX7_count) ∈ tb_L := tb_c16 (List.mem_of_getElem? (i := 18) rfl)
theorem tb_16_19 : (Cond.code yX7_count cX7_count 2 (some .int)) ∈ tb_L := tb_c16 (List.mem_of_getElem? (i := 19) rfl)
theorem tb_16_20 : (Cond.fieldLink RX7 110 "CutTrees$Parts" "size" "I") ∈ tb_L := tb_c16 (List.mem_of_getElem? (i := 20) rfl)
theorem tb_16_21 : (Cond.fieldLink RX7 111 "CutTrees$Tree" "leaves" "I") ∈ tb_L := tb_c16 (List.mem_of_getElem? (i := 21) rfl)
theorem tb_16_22 : (Cond.fieldLink RX7 114 "CutTrees$Tree" "height" "I") ∈ tb_L := tb_c16 (List.mem_of_getElem? (i := 22) rfl)
theorem tb_16_23 : (Cond.fieldLink RX7 117 "CutTrees$Tree" "stands" "Z") ∈ tb_L := tb_c16 (List.mem_of_getElem? (i := 23) rfl)
theorem tb_17_0 : (Cond.methodLink RL 55 yX8_count) ∈ tb_L := tb_c17 (List.mem_of_getElem? (i := 0) rfl)
theorem tb_17_1 : (Cond.instanceMethod yX8_count) ∈ tb_L := tb_c17 (List.mem_of_getElem? (i := 1) rfl)
theorem tb_17_2 : (Cond.selects RX8 yX8_count yX8_count) ∈ tb_L := tb_c17 (List.mem_of_getElem? (i := 2) rfl)
theorem tb_17_3 : (Cond.code yX8_count cX8_count 2 (some .int)) ∈ tb_L := tb_c17 (List.mem_of_getElem? (i := 3) rfl)
theorem tb_17_4 : (Cond.methodLink RX8 216 yX8_deepest) ∈ tb_L := tb_c17 (List.mem_of_getElem? (i := 4) rfl)
theorem tb_17_5 : (Cond.instanceMethod yX8_deepest) ∈ tb_L := tb_c17 (List.mem_of_getElem? (i := 5) rfl)
theorem tb_17_6 : (Cond.selects RX8 yX8_deepest yX8_deepest) ∈ tb_L := tb_c17 (List.mem_of_getElem? (i := 6) rfl)
theorem tb_17_7 : (Cond.code yX8_deepest cX8_deepest 5 (some .int)) ∈ tb_L := tb_c17 (List.mem_of_getElem? (i := 7) rfl)
theorem tb_17_8 : (Cond.methodLink RL 56 yL_knot) ∈ tb_L := tb_c17 (List.mem_of_getElem? (i := 8) rfl)
theorem tb_17_9 : (Cond.static yL_knot) ∈ tb_L := tb_c17 (List.mem_of_getElem? (i := 9) rfl)
theorem tb_17_10 : (Cond.codeWith yL_knot cL_knot 5 (some .int) [(0, 10, 13, 13), (0, 10, 17, 15)]) ∈ tb_L := tb_c17 (List.mem_of_getElem? (i := 10) rfl)
theorem tb_17_11 : (Cond.methodLink RL 17 yX7_knot) ∈ tb_L := tb_c17 (List.mem_of_getElem? (i := 11) rfl)
theorem tb_17_12 : (Cond.instanceMethod yX7_knot) ∈ tb_L := tb_c17 (List.mem_of_getElem? (i := 12) rfl)
theorem tb_17_13 : (Cond.selects RX7 yX7_knot yX7_knot) ∈ tb_L := tb_c17 (List.mem_of_getElem? (i := 13) rfl)
theorem tb_17_14 : (Cond.code yX7_knot cX7_knot 3 (some .int)) ∈ tb_L := tb_c17 (List.mem_of_getElem? (i := 14) rfl)
theorem tb_17_15 : (Cond.fieldLink RX7 123 "CutTrees$Tree" "line" "[I") ∈ tb_L := tb_c17 (List.mem_of_getElem? (i := 15) rfl)
theorem tb_17_16 : (Cond.fieldLink RX7 126 "CutTrees$Tree" "held" "[I") ∈ tb_L := tb_c17 (List.mem_of_getElem? (i := 16) rfl)
theorem tb_17_17 : (Cond.fieldLink RX7 129 "CutTrees$Tree" "firstHeld" "[I") ∈ tb_L := tb_c17 (List.mem_of_getElem? (i := 17) rfl)
theorem tb_17_18 : (Cond.fieldLink RX7 132 "CutTrees$Tree" "front" "[I") ∈ tb_L := tb_c17 (List.mem_of_getElem? (i := 18) rfl)
theorem tb_17_19 : (Cond.fieldLink RX7 135 "CutTrees$Tree" "back" "[I") ∈ tb_L := tb_c17 (List.mem_of_getElem? (i := 19) rfl)
theorem tb_17_20 : (Cond.fieldLink RX7 138 "CutTrees$Tree" "above" "[I") ∈ tb_L := tb_c17 (List.mem_of_getElem? (i := 20) rfl)
theorem tb_17_21 : (Cond.methodLink RL 58 yX8_knot) ∈ tb_L := tb_c17 (List.mem_of_getElem? (i := 21) rfl)
theorem tb_17_22 : (Cond.instanceMethod yX8_knot) ∈ tb_L := tb_c17 (List.mem_of_getElem? (i := 22) rfl)
theorem tb_17_23 : (Cond.selects RX8 yX8_knot yX8_knot) ∈ tb_L := tb_c17 (List.mem_of_getElem? (i := 23) rfl)
theorem tb_18_0 : (Cond.code yX8_knot cX8_knot 3 (some .int)) ∈ tb_L := tb_c18 (List.mem_of_getElem? (i := 0) rfl)
theorem tb_18_1 : (Cond.methodLink RL 59 yL_part) ∈ tb_L := tb_c18 (List.mem_of_getElem? (i := 1) rfl)
theorem tb_18_2 : (Cond.static yL_part) ∈ tb_L := tb_c18 (List.mem_of_getElem? (i := 2) rfl)
theorem tb_18_3 : (Cond.codeWith yL_part cL_part 5 (some .int) [(0, 9, 12, 13), (0, 9, 16, 15)]) ∈ tb_L := tb_c18 (List.mem_of_getElem? (i := 3) rfl)
theorem tb_18_4 : (Cond.methodLink RL 20 yX7_part) ∈ tb_L := tb_c18 (List.mem_of_getElem? (i := 4) rfl)
theorem tb_18_5 : (Cond.instanceMethod yX7_part) ∈ tb_L := tb_c18 (List.mem_of_getElem? (i := 5) rfl)
theorem tb_18_6 : (Cond.selects RX7 yX7_part yX7_part) ∈ tb_L := tb_c18 (List.mem_of_getElem? (i := 6) rfl)
theorem tb_18_7 : (Cond.code yX7_part cX7_part 4 (some .long)) ∈ tb_L := tb_c18 (List.mem_of_getElem? (i := 7) rfl)
theorem tb_18_8 : (Cond.fieldLink RX7 143 "CutTrees$Parts" "owner" "[I") ∈ tb_L := tb_c18 (List.mem_of_getElem? (i := 8) rfl)
theorem tb_18_9 : (Cond.fieldLink RX7 146 "CutTrees$Parts" "n0" "[I") ∈ tb_L := tb_c18 (List.mem_of_getElem? (i := 9) rfl)
theorem tb_18_10 : (Cond.fieldLink RX7 149 "CutTrees$Parts" "d0" "[I") ∈ tb_L := tb_c18 (List.mem_of_getElem? (i := 10) rfl)
theorem tb_18_11 : (Cond.fieldLink RX7 156 "CutTrees$Parts" "n1" "[I") ∈ tb_L := tb_c18 (List.mem_of_getElem? (i := 11) rfl)
theorem tb_18_12 : (Cond.fieldLink RX7 159 "CutTrees$Parts" "d1" "[I") ∈ tb_L := tb_c18 (List.mem_of_getElem? (i := 12) rfl)
theorem tb_18_13 : (Cond.fieldLink RX7 162 "CutTrees$Tree" "home" "[I") ∈ tb_L := tb_c18 (List.mem_of_getElem? (i := 13) rfl)
theorem tb_18_14 : (Cond.methodLink RX7 152 yX3_placeAt) ∈ tb_L := tb_c18 (List.mem_of_getElem? (i := 14) rfl)
theorem tb_18_15 : (Cond.instanceMethod yX3_placeAt) ∈ tb_L := tb_c18 (List.mem_of_getElem? (i := 15) rfl)
theorem tb_18_16 : (Cond.selects RX3 yX3_placeAt yX3_placeAt) ∈ tb_L := tb_c18 (List.mem_of_getElem? (i := 16) rfl)
theorem tb_18_17 : (Cond.code yX3_placeAt cX3_placeAt 11 (some .long)) ∈ tb_L := tb_c18 (List.mem_of_getElem? (i := 17) rfl)
theorem tb_18_18 : (Cond.static yX7_commonDivisor) ∈ tb_L := tb_c18 (List.mem_of_getElem? (i := 18) rfl)
theorem tb_18_19 : (Cond.code yX7_commonDivisor cX7_commonDivisor 11 (some .long)) ∈ tb_L := tb_c18 (List.mem_of_getElem? (i := 19) rfl)
theorem tb_18_20 : (Cond.methodLink RX7 203 Lib.MathLoose.abs_long.x) ∈ tb_L := tb_c18 (List.mem_of_getElem? (i := 20) rfl)
theorem tb_18_21 : (Cond.static Lib.MathLoose.abs_long.x) ∈ tb_L := tb_c18 (List.mem_of_getElem? (i := 21) rfl)
theorem tb_18_22 : (Cond.code Lib.MathLoose.abs_long.x Lib.MathLoose.abs_long.code 2 (some .long)) ∈ tb_L := tb_c18 (List.mem_of_getElem? (i := 22) rfl)
theorem tb_18_23 : (Cond.methodLink RL 61 yX8_part) ∈ tb_L := tb_c18 (List.mem_of_getElem? (i := 23) rfl)
theorem tb_19_0 : (Cond.instanceMethod yX8_part) ∈ tb_L := tb_c19 (List.mem_of_getElem? (i := 0) rfl)
theorem tb_19_1 : (Cond.selects RX8 yX8_part yX8_part) ∈ tb_L := tb_c19 (List.mem_of_getElem? (i := 1) rfl)
theorem tb_19_2 : (Cond.code yX8_part cX8_part 3 (some .long)) ∈ tb_L := tb_c19 (List.mem_of_getElem? (i := 2) rfl)
theorem tb_19_3 : (Cond.methodLink RX8 224 yX8_end) ∈ tb_L := tb_c19 (List.mem_of_getElem? (i := 3) rfl)
theorem tb_19_4 : (Cond.instanceMethod yX8_end) ∈ tb_L := tb_c19 (List.mem_of_getElem? (i := 4) rfl)
theorem tb_19_5 : (Cond.selects RX8 yX8_end yX8_end) ∈ tb_L := tb_c19 (List.mem_of_getElem? (i := 5) rfl)
theorem tb_19_6 : (Cond.code yX8_end cX8_end 13 (some .long)) ∈ tb_L := tb_c19 (List.mem_of_getElem? (i := 6) rfl)
theorem tb_19_7 : (Cond.methodLink RX8 220 yX8_divisor) ∈ tb_L := tb_c19 (List.mem_of_getElem? (i := 7) rfl)
theorem tb_19_8 : (Cond.static yX8_divisor) ∈ tb_L := tb_c19 (List.mem_of_getElem? (i := 8) rfl)
theorem tb_19_9 : (Cond.code yX8_divisor cX8_divisor 10 (some .long)) ∈ tb_L := tb_c19 (List.mem_of_getElem? (i := 9) rfl)
theorem tb_19_10 : (Cond.methodLink RL 62 yX7_where) ∈ tb_L := tb_c19 (List.mem_of_getElem? (i := 10) rfl)
theorem tb_19_11 : (Cond.instanceMethod yX7_where) ∈ tb_L := tb_c19 (List.mem_of_getElem? (i := 11) rfl)
theorem tb_19_12 : (Cond.selects RX7 yX7_where yX7_where) ∈ tb_L := tb_c19 (List.mem_of_getElem? (i := 12) rfl)
theorem tb_19_13 : (Cond.code yX7_where cX7_where 3 (some .int)) ∈ tb_L := tb_c19 (List.mem_of_getElem? (i := 13) rfl)
theorem tb_19_14 : (Cond.methodLink RX7 165 yX6_placeOf) ∈ tb_L := tb_c19 (List.mem_of_getElem? (i := 14) rfl)
theorem tb_19_15 : (Cond.instanceMethod yX6_placeOf) ∈ tb_L := tb_c19 (List.mem_of_getElem? (i := 15) rfl)
theorem tb_19_16 : (Cond.selects RX6 yX6_placeOf yX6_placeOf) ∈ tb_L := tb_c19 (List.mem_of_getElem? (i := 16) rfl)
theorem tb_19_17 : (Cond.code yX6_placeOf cX6_placeOf 6 (some .int)) ∈ tb_L := tb_c19 (List.mem_of_getElem? (i := 17) rfl)
theorem tb_19_18 : (Cond.methodLink RX6 129 yX3_sideOf) ∈ tb_L := tb_c19 (List.mem_of_getElem? (i := 18) rfl)
theorem tb_19_19 : (Cond.methodLink RL 65 yX8_where) ∈ tb_L := tb_c19 (List.mem_of_getElem? (i := 19) rfl)
theorem tb_19_20 : (Cond.instanceMethod yX8_where) ∈ tb_L := tb_c19 (List.mem_of_getElem? (i := 20) rfl)
theorem tb_19_21 : (Cond.selects RX8 yX8_where yX8_where) ∈ tb_L := tb_c19 (List.mem_of_getElem? (i := 21) rfl)
theorem tb_19_22 : (Cond.code yX8_where cX8_where 6 (some .int)) ∈ tb_L := tb_c19 (List.mem_of_getElem? (i := 22) rfl)
theorem tb_19_23 : (Cond.methodLink RL 66 yX7_order) ∈ tb_L := tb_c19 (List.mem_of_getElem? (i := 23) rfl)
theorem tb_20_0 : (Cond.instanceMethod yX7_order) ∈ tb_L := tb_c20 (List.mem_of_getElem? (i := 0) rfl)
theorem tb_20_1 : (Cond.selects RX7 yX7_order yX7_order) ∈ tb_L := tb_c20 (List.mem_of_getElem? (i := 1) rfl)
theorem tb_20_2 : (Cond.code yX7_order cX7_order 3 (some .int)) ∈ tb_L := tb_c20 (List.mem_of_getElem? (i := 2) rfl)
theorem tb_20_3 : (Cond.methodLink RX7 169 yX5_tellFrom) ∈ tb_L := tb_c20 (List.mem_of_getElem? (i := 3) rfl)
theorem tb_20_4 : (Cond.instanceMethod yX5_tellFrom) ∈ tb_L := tb_c20 (List.mem_of_getElem? (i := 4) rfl)
theorem tb_20_5 : (Cond.selects RX5 yX5_tellFrom yX5_tellFrom) ∈ tb_L := tb_c20 (List.mem_of_getElem? (i := 5) rfl)
theorem tb_20_6 : (Cond.code yX5_tellFrom cX5_tellFrom 3 none) ∈ tb_L := tb_c20 (List.mem_of_getElem? (i := 6) rfl)
theorem tb_20_7 : (Cond.fieldLink RX5 23 "CutTrees$Telling" "size" "I") ∈ tb_L := tb_c20 (List.mem_of_getElem? (i := 7) rfl)
theorem tb_20_8 : (Cond.fieldLink RX5 27 "CutTrees$Tree" "top" "I") ∈ tb_L := tb_c20 (List.mem_of_getElem? (i := 8) rfl)
theorem tb_20_9 : (Cond.methodLink RX5 32 yX5_tellNode) ∈ tb_L := tb_c20 (List.mem_of_getElem? (i := 9) rfl)
theorem tb_20_10 : (Cond.instanceMethod yX5_tellNode) ∈ tb_L := tb_c20 (List.mem_of_getElem? (i := 10) rfl)
theorem tb_20_11 : (Cond.selects RX5 yX5_tellNode yX5_tellNode) ∈ tb_L := tb_c20 (List.mem_of_getElem? (i := 11) rfl)
theorem tb_20_12 : (Cond.code yX5_tellNode cX5_tellNode 7 none) ∈ tb_L := tb_c20 (List.mem_of_getElem? (i := 12) rfl)
theorem tb_20_13 : (Cond.fieldLink RX5 36 "CutTrees$Tree" "knots" "I") ∈ tb_L := tb_c20 (List.mem_of_getElem? (i := 13) rfl)
theorem tb_20_14 : (Cond.fieldLink RX5 39 "CutTrees$Tree" "line" "[I") ∈ tb_L := tb_c20 (List.mem_of_getElem? (i := 14) rfl)
theorem tb_20_15 : (Cond.fieldLink RX5 48 "CutTrees$Tree" "back" "[I") ∈ tb_L := tb_c20 (List.mem_of_getElem? (i := 15) rfl)
theorem tb_20_16 : (Cond.fieldLink RX5 51 "CutTrees$Tree" "front" "[I") ∈ tb_L := tb_c20 (List.mem_of_getElem? (i := 16) rfl)
theorem tb_20_17 : (Cond.fieldLink RX5 54 "CutTrees$Tree" "held" "[I") ∈ tb_L := tb_c20 (List.mem_of_getElem? (i := 17) rfl)
theorem tb_20_18 : (Cond.fieldLink RX5 57 "CutTrees$Tree" "firstHeld" "[I") ∈ tb_L := tb_c20 (List.mem_of_getElem? (i := 18) rfl)
theorem tb_20_19 : (Cond.methodLink RX5 42 yX3_sideOf) ∈ tb_L := tb_c20 (List.mem_of_getElem? (i := 19) rfl)
theorem tb_20_20 : (Cond.methodLink RL 69 yX8_order) ∈ tb_L := tb_c20 (List.mem_of_getElem? (i := 20) rfl)
theorem tb_20_21 : (Cond.instanceMethod yX8_order) ∈ tb_L := tb_c20 (List.mem_of_getElem? (i := 21) rfl)
theorem tb_20_22 : (Cond.selects RX8 yX8_order yX8_order) ∈ tb_L := tb_c20 (List.mem_of_getElem? (i := 22) rfl)
theorem tb_20_23 : (Cond.code yX8_order cX8_order 6 (some .int)) ∈ tb_L := tb_c20 (List.mem_of_getElem? (i := 23) rfl)
theorem tb_21_0 : (Cond.methodLink RL 70 yX7_told) ∈ tb_L := tb_c21 (List.mem_of_getElem? (i := 0) rfl)
theorem tb_21_1 : (Cond.instanceMethod yX7_told) ∈ tb_L := tb_c21 (List.mem_of_getElem? (i := 1) rfl)
theorem tb_21_2 : (Cond.selects RX7 yX7_told yX7_told) ∈ tb_L := tb_c21 (List.mem_of_getElem? (i := 2) rfl)
theorem tb_21_3 : (Cond.code yX7_told cX7_told 2 (some .int)) ∈ tb_L := tb_c21 (List.mem_of_getElem? (i := 3) rfl)
theorem tb_21_4 : (Cond.fieldLink RX7 173 "CutTrees$Telling" "row" "[I") ∈ tb_L := tb_c21 (List.mem_of_getElem? (i := 4) rfl)
theorem tb_21_5 : (Cond.methodLink RL 73 yX8_told) ∈ tb_L := tb_c21 (List.mem_of_getElem? (i := 5) rfl)
theorem tb_21_6 : (Cond.instanceMethod yX8_told) ∈ tb_L := tb_c21 (List.mem_of_getElem? (i := 6) rfl)
theorem tb_21_7 : (Cond.selects RX8 yX8_told yX8_told) ∈ tb_L := tb_c21 (List.mem_of_getElem? (i := 7) rfl)
theorem tb_21_8 : (Cond.code yX8_told cX8_told 2 (some .int)) ∈ tb_L := tb_c21 (List.mem_of_getElem? (i := 8) rfl)
theorem tb_21_9 : (Cond.methodLink RL 74 yX7_sees) ∈ tb_L := tb_c21 (List.mem_of_getElem? (i := 9) rfl)
theorem tb_21_10 : (Cond.instanceMethod yX7_sees) ∈ tb_L := tb_c21 (List.mem_of_getElem? (i := 10) rfl)
theorem tb_21_11 : (Cond.selects RX7 yX7_sees yX7_sees) ∈ tb_L := tb_c21 (List.mem_of_getElem? (i := 11) rfl)
theorem tb_21_12 : (Cond.code yX7_sees cX7_sees 6 (some .int)) ∈ tb_L := tb_c21 (List.mem_of_getElem? (i := 12) rfl)
theorem tb_21_13 : (Cond.methodLink RX7 176 yX3_blocks) ∈ tb_L := tb_c21 (List.mem_of_getElem? (i := 13) rfl)
theorem tb_21_14 : (Cond.instanceMethod yX3_blocks) ∈ tb_L := tb_c21 (List.mem_of_getElem? (i := 14) rfl)
theorem tb_21_15 : (Cond.selects RX3 yX3_blocks yX3_blocks) ∈ tb_L := tb_c21 (List.mem_of_getElem? (i := 15) rfl)
theorem tb_21_16 : (Cond.code yX3_blocks cX3_blocks 6 (some .boolean)) ∈ tb_L := tb_c21 (List.mem_of_getElem? (i := 16) rfl)
theorem tb_21_17 : (Cond.methodLink RX3 32 yX3_framesMeet) ∈ tb_L := tb_c21 (List.mem_of_getElem? (i := 17) rfl)
theorem tb_21_18 : (Cond.static yX3_framesMeet) ∈ tb_L := tb_c21 (List.mem_of_getElem? (i := 18) rfl)
theorem tb_21_19 : (Cond.code yX3_framesMeet cX3_framesMeet 4 (some .boolean)) ∈ tb_L := tb_c21 (List.mem_of_getElem? (i := 19) rfl)
theorem tb_21_20 : (Cond.methodLink RX3 48 Lib.Math.max.name) ∈ tb_L := tb_c21 (List.mem_of_getElem? (i := 20) rfl)
theorem tb_21_21 : (Cond.methodLink RX3 54 Lib.Math.min.name) ∈ tb_L := tb_c21 (List.mem_of_getElem? (i := 21) rfl)
theorem tb_21_22 : (Cond.static Lib.Math.min.name) ∈ tb_L := tb_c21 (List.mem_of_getElem? (i := 22) rfl)
theorem tb_21_23 : (Cond.code Lib.Math.min.name Lib.Math.min.code 2 (some .int)) ∈ tb_L := tb_c21 (List.mem_of_getElem? (i := 23) rfl)
theorem tb_22_0 : (Cond.methodLink RX3 36 yX3_sideOf) ∈ tb_L := tb_c22 (List.mem_of_getElem? (i := 0) rfl)
theorem tb_22_1 : (Cond.methodLink RX3 40 yX3_sameSide) ∈ tb_L := tb_c22 (List.mem_of_getElem? (i := 1) rfl)
theorem tb_22_2 : (Cond.static yX3_sameSide) ∈ tb_L := tb_c22 (List.mem_of_getElem? (i := 2) rfl)
theorem tb_22_3 : (Cond.code yX3_sameSide cX3_sameSide 2 (some .boolean)) ∈ tb_L := tb_c22 (List.mem_of_getElem? (i := 3) rfl)
theorem tb_22_4 : (Cond.methodLink RX3 44 yX3_cross) ∈ tb_L := tb_c22 (List.mem_of_getElem? (i := 4) rfl)
theorem tb_22_5 : (Cond.static yX3_cross) ∈ tb_L := tb_c22 (List.mem_of_getElem? (i := 5) rfl)
theorem tb_22_6 : (Cond.code yX3_cross cX3_cross 4 (some .int)) ∈ tb_L := tb_c22 (List.mem_of_getElem? (i := 6) rfl)
theorem tb_22_7 : (Cond.methodLink RL 77 yX8_sees) ∈ tb_L := tb_c22 (List.mem_of_getElem? (i := 7) rfl)
theorem tb_22_8 : (Cond.instanceMethod yX8_sees) ∈ tb_L := tb_c22 (List.mem_of_getElem? (i := 8) rfl)
theorem tb_22_9 : (Cond.selects RX8 yX8_sees yX8_sees) ∈ tb_L := tb_c22 (List.mem_of_getElem? (i := 9) rfl)
theorem tb_22_10 : (Cond.code yX8_sees cX8_sees 6 (some .int)) ∈ tb_L := tb_c22 (List.mem_of_getElem? (i := 10) rfl)
theorem tb_22_11 : (Cond.methodLink RX8 244 yX8_meets) ∈ tb_L := tb_c22 (List.mem_of_getElem? (i := 11) rfl)
theorem tb_22_12 : (Cond.instanceMethod yX8_meets) ∈ tb_L := tb_c22 (List.mem_of_getElem? (i := 12) rfl)
theorem tb_22_13 : (Cond.selects RX8 yX8_meets yX8_meets) ∈ tb_L := tb_c22 (List.mem_of_getElem? (i := 13) rfl)
theorem tb_22_14 : (Cond.code yX8_meets cX8_meets 15 (some .boolean)) ∈ tb_L := tb_c22 (List.mem_of_getElem? (i := 14) rfl)
theorem tb_22_15 : (Cond.methodLink RX8 232 yX8_turn) ∈ tb_L := tb_c22 (List.mem_of_getElem? (i := 15) rfl)
theorem tb_22_16 : (Cond.static yX8_turn) ∈ tb_L := tb_c22 (List.mem_of_getElem? (i := 16) rfl)
theorem tb_22_17 : (Cond.code yX8_turn cX8_turn 6 (some .int)) ∈ tb_L := tb_c22 (List.mem_of_getElem? (i := 17) rfl)
theorem tb_22_18 : (Cond.methodLink RX8 228 yX8_sign) ∈ tb_L := tb_c22 (List.mem_of_getElem? (i := 18) rfl)
theorem tb_22_19 : (Cond.static yX8_sign) ∈ tb_L := tb_c22 (List.mem_of_getElem? (i := 19) rfl)
theorem tb_22_20 : (Cond.code yX8_sign cX8_sign 2 (some .int)) ∈ tb_L := tb_c22 (List.mem_of_getElem? (i := 20) rfl)
theorem tb_22_21 : (Cond.methodLink RX8 236 yX8_within) ∈ tb_L := tb_c22 (List.mem_of_getElem? (i := 21) rfl)
theorem tb_22_22 : (Cond.instanceMethod yX8_within) ∈ tb_L := tb_c22 (List.mem_of_getElem? (i := 22) rfl)
theorem tb_22_23 : (Cond.selects RX8 yX8_within yX8_within) ∈ tb_L := tb_c22 (List.mem_of_getElem? (i := 23) rfl)
theorem tb_23_0 : (Cond.code yX8_within cX8_within 6 (some .boolean)) ∈ tb_L := tb_c23 (List.mem_of_getElem? (i := 0) rfl)
theorem tb_23_1 : (Cond.methodLink RX8 240 yX8_between) ∈ tb_L := tb_c23 (List.mem_of_getElem? (i := 1) rfl)
theorem tb_23_2 : (Cond.static yX8_between) ∈ tb_L := tb_c23 (List.mem_of_getElem? (i := 2) rfl)
theorem tb_23_3 : (Cond.code yX8_between cX8_between 6 (some .boolean)) ∈ tb_L := tb_c23 (List.mem_of_getElem? (i := 3) rfl)
theorem tb_23_4 : (Cond.methodLink RL 78 yX7_ray) ∈ tb_L := tb_c23 (List.mem_of_getElem? (i := 4) rfl)
theorem tb_23_5 : (Cond.instanceMethod yX7_ray) ∈ tb_L := tb_c23 (List.mem_of_getElem? (i := 5) rfl)
theorem tb_23_6 : (Cond.selects RX7 yX7_ray yX7_ray) ∈ tb_L := tb_c23 (List.mem_of_getElem? (i := 6) rfl)
theorem tb_23_7 : (Cond.code yX7_ray cX7_ray 6 (some .int)) ∈ tb_L := tb_c23 (List.mem_of_getElem? (i := 7) rfl)
theorem tb_23_8 : (Cond.fieldLink RX7 183 "CutTrees$Meetings" "size" "I") ∈ tb_L := tb_c23 (List.mem_of_getElem? (i := 8) rfl)
theorem tb_23_9 : (Cond.methodLink RX7 180 yX1_meetAll) ∈ tb_L := tb_c23 (List.mem_of_getElem? (i := 9) rfl)
theorem tb_23_10 : (Cond.instanceMethod yX1_meetAll) ∈ tb_L := tb_c23 (List.mem_of_getElem? (i := 10) rfl)
theorem tb_23_11 : (Cond.selects RX1 yX1_meetAll yX1_meetAll) ∈ tb_L := tb_c23 (List.mem_of_getElem? (i := 11) rfl)
theorem tb_23_12 : (Cond.code yX1_meetAll cX1_meetAll 6 none) ∈ tb_L := tb_c23 (List.mem_of_getElem? (i := 12) rfl)
theorem tb_23_13 : (Cond.fieldLink RX1 25 "CutTrees$Meetings" "size" "I") ∈ tb_L := tb_c23 (List.mem_of_getElem? (i := 13) rfl)
theorem tb_23_14 : (Cond.fieldLink RX1 29 "CutTrees$Pieces" "size" "I") ∈ tb_L := tb_c23 (List.mem_of_getElem? (i := 14) rfl)
theorem tb_23_15 : (Cond.methodLink RX1 32 yX1_meetOne) ∈ tb_L := tb_c23 (List.mem_of_getElem? (i := 15) rfl)
theorem tb_23_16 : (Cond.instanceMethod yX1_meetOne) ∈ tb_L := tb_c23 (List.mem_of_getElem? (i := 16) rfl)
theorem tb_23_17 : (Cond.selects RX1 yX1_meetOne yX1_meetOne) ∈ tb_L := tb_c23 (List.mem_of_getElem? (i := 17) rfl)
theorem tb_23_18 : (Cond.code yX1_meetOne cX1_meetOne 15 none) ∈ tb_L := tb_c23 (List.mem_of_getElem? (i := 18) rfl)
theorem tb_23_19 : (Cond.fieldLink RX1 36 "CutTrees$Pieces" "x1" "[I") ∈ tb_L := tb_c23 (List.mem_of_getElem? (i := 19) rfl)
theorem tb_23_20 : (Cond.fieldLink RX1 39 "CutTrees$Pieces" "x0" "[I") ∈ tb_L := tb_c23 (List.mem_of_getElem? (i := 20) rfl)
theorem tb_23_21 : (Cond.fieldLink RX1 42 "CutTrees$Pieces" "y1" "[I") ∈ tb_L := tb_c23 (List.mem_of_getElem? (i := 21) rfl)
theorem tb_23_22 : (Cond.fieldLink RX1 45 "CutTrees$Pieces" "y0" "[I") ∈ tb_L := tb_c23 (List.mem_of_getElem? (i := 22) rfl)
theorem tb_23_23 : (Cond.methodLink RX1 56 Lib.Math.min.name) ∈ tb_L := tb_c23 (List.mem_of_getElem? (i := 23) rfl)
theorem tb_24_0 : (Cond.methodLink RX1 62 Lib.Math.max.name) ∈ tb_L := tb_c24 (List.mem_of_getElem? (i := 0) rfl)
theorem tb_24_1 : (Cond.methodLink RX1 48 yX3_cross) ∈ tb_L := tb_c24 (List.mem_of_getElem? (i := 1) rfl)
theorem tb_24_2 : (Cond.methodLink RX1 52 yX1_insert) ∈ tb_L := tb_c24 (List.mem_of_getElem? (i := 2) rfl)
theorem tb_24_3 : (Cond.instanceMethod yX1_insert) ∈ tb_L := tb_c24 (List.mem_of_getElem? (i := 3) rfl)
theorem tb_24_4 : (Cond.selects RX1 yX1_insert yX1_insert) ∈ tb_L := tb_c24 (List.mem_of_getElem? (i := 4) rfl)
theorem tb_24_5 : (Cond.code yX1_insert cX1_insert 6 none) ∈ tb_L := tb_c24 (List.mem_of_getElem? (i := 5) rfl)
theorem tb_24_6 : (Cond.methodLink RX1 65 yX1_isLater) ∈ tb_L := tb_c24 (List.mem_of_getElem? (i := 6) rfl)
theorem tb_24_7 : (Cond.instanceMethod yX1_isLater) ∈ tb_L := tb_c24 (List.mem_of_getElem? (i := 7) rfl)
theorem tb_24_8 : (Cond.selects RX1 yX1_isLater yX1_isLater) ∈ tb_L := tb_c24 (List.mem_of_getElem? (i := 8) rfl)
theorem tb_24_9 : (Cond.code yX1_isLater cX1_isLater 4 (some .boolean)) ∈ tb_L := tb_c24 (List.mem_of_getElem? (i := 9) rfl)
theorem tb_24_10 : (Cond.methodLink RL 81 yX8_ray) ∈ tb_L := tb_c24 (List.mem_of_getElem? (i := 10) rfl)
theorem tb_24_11 : (Cond.instanceMethod yX8_ray) ∈ tb_L := tb_c24 (List.mem_of_getElem? (i := 11) rfl)
theorem tb_24_12 : (Cond.selects RX8 yX8_ray yX8_ray) ∈ tb_L := tb_c24 (List.mem_of_getElem? (i := 12) rfl)
theorem tb_24_13 : (Cond.code yX8_ray cX8_ray 13 (some .int)) ∈ tb_L := tb_c24 (List.mem_of_getElem? (i := 13) rfl)
theorem tb_24_14 : (Cond.fieldLink RX8 255 "CutTreesModel" "metMany" "I") ∈ tb_L := tb_c24 (List.mem_of_getElem? (i := 14) rfl)
theorem tb_24_15 : (Cond.fieldLink RX8 248 "CutTreesModel" "comesUp" "J") ∈ tb_L := tb_c24 (List.mem_of_getElem? (i := 15) rfl)
theorem tb_24_16 : (Cond.fieldLink RX8 252 "CutTreesModel" "comesLow" "J") ∈ tb_L := tb_c24 (List.mem_of_getElem? (i := 16) rfl)
theorem tb_24_17 : (Cond.methodLink RX8 258 yX8_comes) ∈ tb_L := tb_c24 (List.mem_of_getElem? (i := 17) rfl)
theorem tb_24_18 : (Cond.instanceMethod yX8_comes) ∈ tb_L := tb_c24 (List.mem_of_getElem? (i := 18) rfl)
theorem tb_24_19 : (Cond.selects RX8 yX8_comes yX8_comes) ∈ tb_L := tb_c24 (List.mem_of_getElem? (i := 19) rfl)
theorem tb_24_20 : (Cond.code yX8_comes cX8_comes 20 (some .boolean)) ∈ tb_L := tb_c24 (List.mem_of_getElem? (i := 20) rfl)
theorem tb_24_21 : (Cond.methodLink RL 82 yX7_met) ∈ tb_L := tb_c24 (List.mem_of_getElem? (i := 21) rfl)
theorem tb_24_22 : (Cond.instanceMethod yX7_met) ∈ tb_L := tb_c24 (List.mem_of_getElem? (i := 22) rfl)
theorem tb_24_23 : (Cond.selects RX7 yX7_met yX7_met) ∈ tb_L := tb_c24 (List.mem_of_getElem? (i := 23) rfl)
theorem tb_25_0 : (Cond.code yX7_met cX7_met 3 (some .int)) ∈ tb_L := tb_c25 (List.mem_of_getElem? (i := 0) rfl)
theorem tb_25_1 : (Cond.fieldLink RX7 184 "CutTrees$Meetings" "which" "[I") ∈ tb_L := tb_c25 (List.mem_of_getElem? (i := 1) rfl)
theorem tb_25_2 : (Cond.fieldLink RX7 187 "CutTrees$Meetings" "n" "[I") ∈ tb_L := tb_c25 (List.mem_of_getElem? (i := 2) rfl)
theorem tb_25_3 : (Cond.fieldLink RX7 190 "CutTrees$Meetings" "d" "[I") ∈ tb_L := tb_c25 (List.mem_of_getElem? (i := 3) rfl)
theorem tb_25_4 : (Cond.methodLink RL 85 yX8_met) ∈ tb_L := tb_c25 (List.mem_of_getElem? (i := 4) rfl)
theorem tb_25_5 : (Cond.instanceMethod yX8_met) ∈ tb_L := tb_c25 (List.mem_of_getElem? (i := 5) rfl)
theorem tb_25_6 : (Cond.selects RX8 yX8_met yX8_met) ∈ tb_L := tb_c25 (List.mem_of_getElem? (i := 6) rfl)
theorem tb_25_7 : (Cond.code yX8_met cX8_met 3 (some .int)) ∈ tb_L := tb_c25 (List.mem_of_getElem? (i := 7) rfl)
theorem tb_25_8 : (Cond.methodLink RL 86 yX7_least) ∈ tb_L := tb_c25 (List.mem_of_getElem? (i := 8) rfl)
theorem tb_25_9 : (Cond.instanceMethod yX7_least) ∈ tb_L := tb_c25 (List.mem_of_getElem? (i := 9) rfl)
theorem tb_25_10 : (Cond.selects RX7 yX7_least yX7_least) ∈ tb_L := tb_c25 (List.mem_of_getElem? (i := 10) rfl)
theorem tb_25_11 : (Cond.code yX7_least cX7_least 1 (some .int)) ∈ tb_L := tb_c25 (List.mem_of_getElem? (i := 11) rfl)
theorem tb_25_12 : (Cond.methodLink RX7 193 yX4_fewestOfAllTrees) ∈ tb_L := tb_c25 (List.mem_of_getElem? (i := 12) rfl)
theorem tb_25_13 : (Cond.instanceMethod yX4_fewestOfAllTrees) ∈ tb_L := tb_c25 (List.mem_of_getElem? (i := 13) rfl)
theorem tb_25_14 : (Cond.selects RX4 yX4_fewestOfAllTrees yX4_fewestOfAllTrees) ∈ tb_L := tb_c25 (List.mem_of_getElem? (i := 14) rfl)
theorem tb_25_15 : (Cond.code yX4_fewestOfAllTrees cX4_fewestOfAllTrees 1 (some .int)) ∈ tb_L := tb_c25 (List.mem_of_getElem? (i := 15) rfl)
theorem tb_25_16 : (Cond.fieldLink RX4 28 "CutTrees$Cutter" "rows" "LCutTrees$Parts;") ∈ tb_L := tb_c25 (List.mem_of_getElem? (i := 16) rfl)
theorem tb_25_17 : (Cond.fieldLink RX4 32 "CutTrees$Parts" "size" "I") ∈ tb_L := tb_c25 (List.mem_of_getElem? (i := 17) rfl)
theorem tb_25_18 : (Cond.methodLink RX4 23 yX0_startWithAll) ∈ tb_L := tb_c25 (List.mem_of_getElem? (i := 18) rfl)
theorem tb_25_19 : (Cond.methodLink RX4 38 yX4_fewest) ∈ tb_L := tb_c25 (List.mem_of_getElem? (i := 19) rfl)
theorem tb_25_20 : (Cond.instanceMethod yX4_fewest) ∈ tb_L := tb_c25 (List.mem_of_getElem? (i := 20) rfl)
theorem tb_25_21 : (Cond.selects RX4 yX4_fewest yX4_fewest) ∈ tb_L := tb_c25 (List.mem_of_getElem? (i := 21) rfl)
theorem tb_25_22 : (Cond.code yX4_fewest cX4_fewest 12 (some .int)) ∈ tb_L := tb_c25 (List.mem_of_getElem? (i := 22) rfl)
theorem tb_25_23 : (Cond.fieldLink RX4 59 "CutTrees$Parts" "owner" "[I") ∈ tb_L := tb_c25 (List.mem_of_getElem? (i := 23) rfl)
theorem tb_26_0 : (Cond.methodLink RX4 45 Lib.Math.min.name) ∈ tb_L := tb_c26 (List.mem_of_getElem? (i := 0) rfl)
theorem tb_26_1 : (Cond.methodLink RX4 62 yX4_howManyOn) ∈ tb_L := tb_c26 (List.mem_of_getElem? (i := 1) rfl)
theorem tb_26_2 : (Cond.instanceMethod yX4_howManyOn) ∈ tb_L := tb_c26 (List.mem_of_getElem? (i := 2) rfl)
theorem tb_26_3 : (Cond.selects RX4 yX4_howManyOn yX4_howManyOn) ∈ tb_L := tb_c26 (List.mem_of_getElem? (i := 3) rfl)
theorem tb_26_4 : (Cond.code yX4_howManyOn cX4_howManyOn 6 (some .int)) ∈ tb_L := tb_c26 (List.mem_of_getElem? (i := 4) rfl)
theorem tb_26_5 : (Cond.methodLink RX4 70 yX0_sides) ∈ tb_L := tb_c26 (List.mem_of_getElem? (i := 5) rfl)
theorem tb_26_6 : (Cond.methodLink RX4 66 yX0_addSideRow) ∈ tb_L := tb_c26 (List.mem_of_getElem? (i := 6) rfl)
theorem tb_26_7 : (Cond.methodLink RL 89 yX8_least) ∈ tb_L := tb_c26 (List.mem_of_getElem? (i := 7) rfl)
theorem tb_26_8 : (Cond.instanceMethod yX8_least) ∈ tb_L := tb_c26 (List.mem_of_getElem? (i := 8) rfl)
theorem tb_26_9 : (Cond.selects RX8 yX8_least yX8_least) ∈ tb_L := tb_c26 (List.mem_of_getElem? (i := 9) rfl)
theorem tb_26_10 : (Cond.code yX8_least cX8_least 8 (some .int)) ∈ tb_L := tb_c26 (List.mem_of_getElem? (i := 10) rfl)
theorem tb_26_11 : (Cond.fieldLink RX8 261 "CutTreesModel" "inUp" "J") ∈ tb_L := tb_c26 (List.mem_of_getElem? (i := 11) rfl)
theorem tb_26_12 : (Cond.fieldLink RX8 264 "CutTreesModel" "inLow" "J") ∈ tb_L := tb_c26 (List.mem_of_getElem? (i := 12) rfl)
theorem tb_26_13 : (Cond.fieldLink RX8 267 "CutTreesModel" "inUp2" "J") ∈ tb_L := tb_c26 (List.mem_of_getElem? (i := 13) rfl)
theorem tb_26_14 : (Cond.fieldLink RX8 270 "CutTreesModel" "inLow2" "J") ∈ tb_L := tb_c26 (List.mem_of_getElem? (i := 14) rfl)
theorem tb_26_15 : (Cond.methodLink RX8 273 yX8_digit) ∈ tb_L := tb_c26 (List.mem_of_getElem? (i := 15) rfl)
theorem tb_26_16 : (Cond.static yX8_digit) ∈ tb_L := tb_c26 (List.mem_of_getElem? (i := 16) rfl)
theorem tb_26_17 : (Cond.code yX8_digit cX8_digit 4 (some .int)) ∈ tb_L := tb_c26 (List.mem_of_getElem? (i := 17) rfl)
theorem tb_26_18 : (Cond.methodLink RX8 276 yX8_isIn) ∈ tb_L := tb_c26 (List.mem_of_getElem? (i := 18) rfl)
theorem tb_26_19 : (Cond.instanceMethod yX8_isIn) ∈ tb_L := tb_c26 (List.mem_of_getElem? (i := 19) rfl)
theorem tb_26_20 : (Cond.selects RX8 yX8_isIn yX8_isIn) ∈ tb_L := tb_c26 (List.mem_of_getElem? (i := 20) rfl)
theorem tb_26_21 : (Cond.code yX8_isIn cX8_isIn 10 (some .boolean)) ∈ tb_L := tb_c26 (List.mem_of_getElem? (i := 21) rfl)
theorem tb_26_22 : (Cond.methodLink RL 90 yX7_sum) ∈ tb_L := tb_c26 (List.mem_of_getElem? (i := 22) rfl)
theorem tb_26_23 : (Cond.instanceMethod yX7_sum) ∈ tb_L := tb_c26 (List.mem_of_getElem? (i := 23) rfl)
theorem tb_27_0 : (Cond.selects RX7 yX7_sum yX7_sum) ∈ tb_L := tb_c27 (List.mem_of_getElem? (i := 0) rfl)
theorem tb_27_1 : (Cond.code yX7_sum cX7_sum 1 (some .int)) ∈ tb_L := tb_c27 (List.mem_of_getElem? (i := 1) rfl)
theorem tb_27_2 : (Cond.methodLink RX7 197 yX4_partsOverAllOrders) ∈ tb_L := tb_c27 (List.mem_of_getElem? (i := 2) rfl)
theorem tb_27_3 : (Cond.instanceMethod yX4_partsOverAllOrders) ∈ tb_L := tb_c27 (List.mem_of_getElem? (i := 3) rfl)
theorem tb_27_4 : (Cond.selects RX4 yX4_partsOverAllOrders yX4_partsOverAllOrders) ∈ tb_L := tb_c27 (List.mem_of_getElem? (i := 4) rfl)
theorem tb_27_5 : (Cond.code yX4_partsOverAllOrders cX4_partsOverAllOrders 6 (some .int)) ∈ tb_L := tb_c27 (List.mem_of_getElem? (i := 5) rfl)
theorem tb_27_6 : (Cond.fieldLink RX4 42 "CutTrees$Pieces" "size" "I") ∈ tb_L := tb_c27 (List.mem_of_getElem? (i := 6) rfl)
theorem tb_27_7 : (Cond.methodLink RX4 51 yX4_setSequence) ∈ tb_L := tb_c27 (List.mem_of_getElem? (i := 7) rfl)
theorem tb_27_8 : (Cond.instanceMethod yX4_setSequence) ∈ tb_L := tb_c27 (List.mem_of_getElem? (i := 8) rfl)
theorem tb_27_9 : (Cond.selects RX4 yX4_setSequence yX4_setSequence) ∈ tb_L := tb_c27 (List.mem_of_getElem? (i := 9) rfl)
theorem tb_27_10 : (Cond.code yX4_setSequence cX4_setSequence 7 none) ∈ tb_L := tb_c27 (List.mem_of_getElem? (i := 10) rfl)
theorem tb_27_11 : (Cond.methodLink RX4 55 yX2_addWhole) ∈ tb_L := tb_c27 (List.mem_of_getElem? (i := 11) rfl)
theorem tb_27_12 : (Cond.methodLink RL 93 yX8_sum) ∈ tb_L := tb_c27 (List.mem_of_getElem? (i := 12) rfl)
theorem tb_27_13 : (Cond.instanceMethod yX8_sum) ∈ tb_L := tb_c27 (List.mem_of_getElem? (i := 13) rfl)
theorem tb_27_14 : (Cond.selects RX8 yX8_sum yX8_sum) ∈ tb_L := tb_c27 (List.mem_of_getElem? (i := 14) rfl)
theorem tb_27_15 : (Cond.code yX8_sum cX8_sum 6 (some .int)) ∈ tb_L := tb_c27 (List.mem_of_getElem? (i := 15) rfl)
theorem tb_27_16 : (Cond.methodLink RX8 279 yX8_swap) ∈ tb_L := tb_c27 (List.mem_of_getElem? (i := 16) rfl)
theorem tb_27_17 : (Cond.instanceMethod yX8_swap) ∈ tb_L := tb_c27 (List.mem_of_getElem? (i := 17) rfl)
theorem tb_27_18 : (Cond.selects RX8 yX8_swap yX8_swap) ∈ tb_L := tb_c27 (List.mem_of_getElem? (i := 18) rfl)
theorem tb_27_19 : (Cond.code yX8_swap cX8_swap 4 none) ∈ tb_L := tb_c27 (List.mem_of_getElem? (i := 19) rfl)
set_option maxRecDepth 20000 in
theorem tb_good : wsL_law0.all goodWord = true := by decide +kernel
