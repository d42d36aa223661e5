def RX0 : String := "TreasureWalk$Cells"
def TX0 : u_T := fun k => match k with
  | _ => ("TreasureWalk$Cells", "rows", "[I", true)
def tyX0 : Nat → FieldType := fun k => match k with
  | _ => .array .int
theorem nmX0 : ∀ a, a < 1 → ∀ b, b < 1 → a ≠ b → (TX0 a).2.1 ≠ (TX0 b).2.1 := by decide +kernel
theorem tyX0_ok : ∀ k, k < 1 → parseFieldDescriptor (TX0 k).2.2.1 = some (tyX0 k) := by decide +kernel
abbrev cX0_init : ByteArray := prog_2_method_1_code
def yX0_init : MethodName := ⟨RX0, "<init>", "()V"⟩
abbrev cX0_has : ByteArray := prog_2_method_2_code
def yX0_has : MethodName := ⟨RX0, "has", "(I)Z"⟩
abbrev cX0_add : ByteArray := prog_2_method_3_code
def yX0_add : MethodName := ⟨RX0, "add", "(I)V"⟩
abbrev cX0_remove : ByteArray := prog_2_method_4_code
def yX0_remove : MethodName := ⟨RX0, "remove", "(I)V"⟩
abbrev cX0_clear : ByteArray := prog_2_method_5_code
def yX0_clear : MethodName := ⟨RX0, "clear", "()V"⟩
abbrev cX0_count : ByteArray := prog_2_method_6_code
def yX0_count : MethodName := ⟨RX0, "count", "()I"⟩
abbrev cX0_at : ByteArray := prog_2_method_7_code
def yX0_at : MethodName := ⟨RX0, "at", "(I)I"⟩
abbrev cX0_keepOnly : ByteArray := prog_2_method_8_code
def yX0_keepOnly : MethodName := ⟨RX0, "keepOnly", "(LTreasureWalk$Cells;)V"⟩
abbrev cX0_removeAll : ByteArray := prog_2_method_9_code
def yX0_removeAll : MethodName := ⟨RX0, "removeAll", "(LTreasureWalk$Cells;)V"⟩
abbrev cX0_copyFrom : ByteArray := prog_2_method_10_code
def yX0_copyFrom : MethodName := ⟨RX0, "copyFrom", "(LTreasureWalk$Cells;)V"⟩
def RX1 : String := "TreasureWalk$Clues"
def TX1 : u_T := fun k => match k with
  | 0 => ("TreasureWalk$Clues", "count", "I", false)
  | 1 => ("TreasureWalk$Clues", "used", "LTreasureWalk$Row;", true)
  | 2 => ("TreasureWalk$Clues", "startCounts", "LTreasureWalk$Row;", true)
  | 3 => ("TreasureWalk$Clues", "starts", "LTreasureWalk$Row;", true)
  | 4 => ("TreasureWalk$Clues", "legCounts", "LTreasureWalk$Row;", true)
  | 5 => ("TreasureWalk$Clues", "kinds", "LTreasureWalk$Row;", true)
  | 6 => ("TreasureWalk$Clues", "bearings", "LTreasureWalk$Row;", true)
  | 7 => ("TreasureWalk$Clues", "fewestPaces", "LTreasureWalk$Row;", true)
  | 8 => ("TreasureWalk$Clues", "mostPaces", "LTreasureWalk$Row;", true)
  | _ => ("TreasureWalk$Clues", "goals", "LTreasureWalk$Row;", true)
def tyX1 : Nat → FieldType := fun k => match k with
  | 0 => .int
  | 1 => .object "TreasureWalk$Row"
  | 2 => .object "TreasureWalk$Row"
  | 3 => .object "TreasureWalk$Row"
  | 4 => .object "TreasureWalk$Row"
  | 5 => .object "TreasureWalk$Row"
  | 6 => .object "TreasureWalk$Row"
  | 7 => .object "TreasureWalk$Row"
  | 8 => .object "TreasureWalk$Row"
  | _ => .object "TreasureWalk$Row"
theorem nmX1 : ∀ a, a < 10 → ∀ b, b < 10 → a ≠ b → (TX1 a).2.1 ≠ (TX1 b).2.1 := by decide +kernel
theorem tyX1_ok : ∀ k, k < 10 → parseFieldDescriptor (TX1 k).2.2.1 = some (tyX1 k) := by decide +kernel
abbrev cX1_init : ByteArray := prog_3_method_1_code
def yX1_init : MethodName := ⟨RX1, "<init>", "()V"⟩
abbrev cX1_clear : ByteArray := prog_3_method_2_code
def yX1_clear : MethodName := ⟨RX1, "clear", "()V"⟩
abbrev cX1_isUsed : ByteArray := prog_3_method_3_code
def yX1_isUsed : MethodName := ⟨RX1, "isUsed", "(I)Z"⟩
abbrev cX1_countUsed : ByteArray := prog_3_method_4_code
def yX1_countUsed : MethodName := ⟨RX1, "countUsed", "()I"⟩
abbrev cX1_startMark : ByteArray := prog_3_method_5_code
def yX1_startMark : MethodName := ⟨RX1, "startMark", "(II)I"⟩
abbrev cX1_hasStart : ByteArray := prog_3_method_6_code
def yX1_hasStart : MethodName := ⟨RX1, "hasStart", "(II)Z"⟩
abbrev cX1_addStart : ByteArray := prog_3_method_7_code
def yX1_addStart : MethodName := ⟨RX1, "addStart", "(II)V"⟩
abbrev cX1_copyFrom : ByteArray := prog_3_method_8_code
def yX1_copyFrom : MethodName := ⟨RX1, "copyFrom", "(LTreasureWalk$Clues;)V"⟩
def RX2 : String := "TreasureWalk$Data"
def TX2 : u_T := fun k => match k with
  | 0 => ("TreasureWalk$Data", "width", "I", false)
  | 1 => ("TreasureWalk$Data", "height", "I", false)
  | 2 => ("TreasureWalk$Data", "land", "LTreasureWalk$Cells;", true)
  | 3 => ("TreasureWalk$Data", "dug", "LTreasureWalk$Cells;", true)
  | 4 => ("TreasureWalk$Data", "marks", "LTreasureWalk$Row;", true)
  | 5 => ("TreasureWalk$Data", "bendCount", "I", false)
  | 6 => ("TreasureWalk$Data", "bendFirsts", "LTreasureWalk$Row;", true)
  | 7 => ("TreasureWalk$Data", "bendLasts", "LTreasureWalk$Row;", true)
  | 8 => ("TreasureWalk$Data", "bendTurns", "LTreasureWalk$Row;", true)
  | 9 => ("TreasureWalk$Data", "clues", "LTreasureWalk$Clues;", true)
  | 10 => ("TreasureWalk$Data", "team", "I", false)
  | 11 => ("TreasureWalk$Data", "paces", "I", false)
  | 12 => ("TreasureWalk$Data", "chest", "I", false)
  | _ => ("TreasureWalk$Data", "chestSpot", "I", false)
def tyX2 : Nat → FieldType := fun k => match k with
  | 0 => .int
  | 1 => .int
  | 2 => .object "TreasureWalk$Cells"
  | 3 => .object "TreasureWalk$Cells"
  | 4 => .object "TreasureWalk$Row"
  | 5 => .int
  | 6 => .object "TreasureWalk$Row"
  | 7 => .object "TreasureWalk$Row"
  | 8 => .object "TreasureWalk$Row"
  | 9 => .object "TreasureWalk$Clues"
  | 10 => .int
  | 11 => .int
  | 12 => .int
  | _ => .int
theorem nmX2 : ∀ a, a < 14 → ∀ b, b < 14 → a ≠ b → (TX2 a).2.1 ≠ (TX2 b).2.1 := by decide +kernel
theorem tyX2_ok : ∀ k, k < 14 → parseFieldDescriptor (TX2 k).2.2.1 = some (tyX2 k) := by decide +kernel
abbrev cX2_init : ByteArray := prog_4_method_1_code
def yX2_init : MethodName := ⟨RX2, "<init>", "()V"⟩
abbrev cX2_begin : ByteArray := prog_4_method_2_code
def yX2_begin : MethodName := ⟨RX2, "begin", "(II)V"⟩
abbrev cX2_numberOf : ByteArray := prog_4_method_3_code
def yX2_numberOf : MethodName := ⟨RX2, "numberOf", "(I)I"⟩
abbrev cX2_countMarks : ByteArray := prog_4_method_4_code
def yX2_countMarks : MethodName := ⟨RX2, "countMarks", "()I"⟩
abbrev cX2_standsOnMark : ByteArray := prog_4_method_5_code
def yX2_standsOnMark : MethodName := ⟨RX2, "standsOnMark", "(II)Z"⟩
abbrev cX2_flood : ByteArray := prog_4_method_6_code
def yX2_flood : MethodName := ⟨RX2, "flood", "(II)V"⟩
abbrev cX2_addBend : ByteArray := prog_4_method_7_code
def yX2_addBend : MethodName := ⟨RX2, "addBend", "(III)V"⟩
abbrev cX2_copyFrom : ByteArray := prog_4_method_8_code
def yX2_copyFrom : MethodName := ⟨RX2, "copyFrom", "(LTreasureWalk$Data;)V"⟩
def RX3 : String := "TreasureWalk$Flood"
def TX3 : u_T := fun k => match k with
  | 0 => ("TreasureWalk$Flood", "distances", "LTreasureWalk$Row;", true)
  | _ => ("TreasureWalk$Flood", "queue", "LTreasureWalk$Row;", true)
def tyX3 : Nat → FieldType := fun k => match k with
  | 0 => .object "TreasureWalk$Row"
  | _ => .object "TreasureWalk$Row"
theorem nmX3 : ∀ a, a < 2 → ∀ b, b < 2 → a ≠ b → (TX3 a).2.1 ≠ (TX3 b).2.1 := by decide +kernel
theorem tyX3_ok : ∀ k, k < 2 → parseFieldDescriptor (TX3 k).2.2.1 = some (tyX3 k) := by decide +kernel
abbrev cX3_init : ByteArray := prog_5_method_1_code
def yX3_init : MethodName := ⟨RX3, "<init>", "()V"⟩
abbrev cX3_clear : ByteArray := prog_5_method_2_code
def yX3_clear : MethodName := ⟨RX3, "clear", "()V"⟩
abbrev cX3_spread : ByteArray := prog_5_method_3_code
def yX3_spread : MethodName := ⟨RX3, "spread", "(LTreasureWalk$Cells;I)I"⟩
abbrev cX3_visitNeighbours : ByteArray := prog_5_method_4_code
def yX3_visitNeighbours : MethodName := ⟨RX3, "visitNeighbours", "(LTreasureWalk$Cells;II)I"⟩
def RX4 : String := "TreasureWalk$History"
def TX4 : u_T := fun k => match k with
  | 0 => ("TreasureWalk$History", "kept", "[LTreasureWalk$Data;", true)
  | 1 => ("TreasureWalk$History", "next", "I", false)
  | _ => ("TreasureWalk$History", "count", "I", false)
def tyX4 : Nat → FieldType := fun k => match k with
  | 0 => .array (.object "TreasureWalk$Data")
  | 1 => .int
  | _ => .int
theorem nmX4 : ∀ a, a < 3 → ∀ b, b < 3 → a ≠ b → (TX4 a).2.1 ≠ (TX4 b).2.1 := by decide +kernel
theorem tyX4_ok : ∀ k, k < 3 → parseFieldDescriptor (TX4 k).2.2.1 = some (tyX4 k) := by decide +kernel
abbrev cX4_init : ByteArray := prog_6_method_1_code
def yX4_init : MethodName := ⟨RX4, "<init>", "()V"⟩
abbrev cX4_keep : ByteArray := prog_6_method_2_code
def yX4_keep : MethodName := ⟨RX4, "keep", "(LTreasureWalk$Data;)V"⟩
abbrev cX4_takeBack : ByteArray := prog_6_method_3_code
def yX4_takeBack : MethodName := ⟨RX4, "takeBack", "(LTreasureWalk$Data;)Z"⟩
abbrev cX4_placeAt : ByteArray := prog_6_method_4_code
def yX4_placeAt : MethodName := ⟨RX4, "placeAt", "(I)LTreasureWalk$Data;"⟩
def RX5 : String := "TreasureWalk$Layers"
def TX5 : u_T := fun k => match k with
  | 0 => ("TreasureWalk$Layers", "sets", "[LTreasureWalk$Cells;", true)
  | _ => ("TreasureWalk$Layers", "outside", "LTreasureWalk$Cells;", true)
def tyX5 : Nat → FieldType := fun k => match k with
  | 0 => .array (.object "TreasureWalk$Cells")
  | _ => .object "TreasureWalk$Cells"
theorem nmX5 : ∀ a, a < 2 → ∀ b, b < 2 → a ≠ b → (TX5 a).2.1 ≠ (TX5 b).2.1 := by decide +kernel
theorem tyX5_ok : ∀ k, k < 2 → parseFieldDescriptor (TX5 k).2.2.1 = some (tyX5 k) := by decide +kernel
abbrev cX5_init : ByteArray := prog_7_method_1_code
def yX5_init : MethodName := ⟨RX5, "<init>", "(I)V"⟩
abbrev cX5_at : ByteArray := prog_7_method_2_code
def yX5_at : MethodName := ⟨RX5, "at", "(I)LTreasureWalk$Cells;"⟩
abbrev cX5_clear : ByteArray := prog_7_method_3_code
def yX5_clear : MethodName := ⟨RX5, "clear", "()V"⟩
def RX6 : String := "TreasureWalk$Reader"
def TX6 : u_T := fun k => match k with
  | 0 => ("TreasureWalk$Reader", "text", "LTreasureWalk$Row;", true)
  | 1 => ("TreasureWalk$Reader", "textLength", "I", false)
  | 2 => ("TreasureWalk$Reader", "draft", "LTreasureWalk$Data;", true)
  | 3 => ("TreasureWalk$Reader", "length", "I", false)
  | 4 => ("TreasureWalk$Reader", "start", "I", false)
  | 5 => ("TreasureWalk$Reader", "end", "I", false)
  | 6 => ("TreasureWalk$Reader", "kind", "I", false)
  | 7 => ("TreasureWalk$Reader", "error", "I", false)
  | 8 => ("TreasureWalk$Reader", "errorAt", "I", false)
  | 9 => ("TreasureWalk$Reader", "areaFirst", "I", false)
  | _ => ("TreasureWalk$Reader", "areaLast", "I", false)
def tyX6 : Nat → FieldType := fun k => match k with
  | 0 => .object "TreasureWalk$Row"
  | 1 => .int
  | 2 => .object "TreasureWalk$Data"
  | 3 => .int
  | 4 => .int
  | 5 => .int
  | 6 => .int
  | 7 => .int
  | 8 => .int
  | 9 => .int
  | _ => .int
theorem nmX6 : ∀ a, a < 11 → ∀ b, b < 11 → a ≠ b → (TX6 a).2.1 ≠ (TX6 b).2.1 := by decide +kernel
theorem tyX6_ok : ∀ k, k < 11 → parseFieldDescriptor (TX6 k).2.2.1 = some (tyX6 k) := by decide +kernel
abbrev cX6_init : ByteArray := prog_8_method_1_code
def yX6_init : MethodName := ⟨RX6, "<init>", "()V"⟩
abbrev cX6_addBytes : ByteArray := prog_8_method_2_code
def yX6_addBytes : MethodName := ⟨RX6, "addBytes", "(I)V"⟩
abbrev cX6_read : ByteArray := prog_8_method_3_code
def yX6_read : MethodName := ⟨RX6, "read", "(I)I"⟩
abbrev cX6_readMap : ByteArray := prog_8_method_4_code
def yX6_readMap : MethodName := ⟨RX6, "readMap", "()V"⟩
abbrev cX6_readWater : ByteArray := prog_8_method_5_code
def yX6_readWater : MethodName := ⟨RX6, "readWater", "()V"⟩
abbrev cX6_readBend : ByteArray := prog_8_method_6_code
def yX6_readBend : MethodName := ⟨RX6, "readBend", "()V"⟩
abbrev cX6_readMark : ByteArray := prog_8_method_7_code
def yX6_readMark : MethodName := ⟨RX6, "readMark", "()V"⟩
abbrev cX6_readTeam : ByteArray := prog_8_method_8_code
def yX6_readTeam : MethodName := ⟨RX6, "readTeam", "()V"⟩
abbrev cX6_readClue : ByteArray := prog_8_method_9_code
def yX6_readClue : MethodName := ⟨RX6, "readClue", "()V"⟩
abbrev cX6_takeStart : ByteArray := prog_8_method_10_code
def yX6_takeStart : MethodName := ⟨RX6, "takeStart", "()V"⟩
abbrev cX6_isLegAhead : ByteArray := prog_8_method_11_code
def yX6_isLegAhead : MethodName := ⟨RX6, "isLegAhead", "()Z"⟩
abbrev cX6_readLeg : ByteArray := prog_8_method_12_code
def yX6_readLeg : MethodName := ⟨RX6, "readLeg", "()V"⟩
abbrev cX6_readArea : ByteArray := prog_8_method_13_code
def yX6_readArea : MethodName := ⟨RX6, "readArea", "()V"⟩
abbrev cX6_takeLandSpot : ByteArray := prog_8_method_14_code
def yX6_takeLandSpot : MethodName := ⟨RX6, "takeLandSpot", "()I"⟩
abbrev cX6_takeKnownMark : ByteArray := prog_8_method_15_code
def yX6_takeKnownMark : MethodName := ⟨RX6, "takeKnownMark", "()I"⟩
abbrev cX6_markAhead : ByteArray := prog_8_method_16_code
def yX6_markAhead : MethodName := ⟨RX6, "markAhead", "()I"⟩
abbrev cX6_takeBearing : ByteArray := prog_8_method_17_code
def yX6_takeBearing : MethodName := ⟨RX6, "takeBearing", "()I"⟩
abbrev cX6_takeNumber : ByteArray := prog_8_method_18_code
def yX6_takeNumber : MethodName := ⟨RX6, "takeNumber", "(II)I"⟩
abbrev cX6_takeWord : ByteArray := prog_8_method_19_code
def yX6_takeWord : MethodName := ⟨RX6, "takeWord", "(Ljava/lang/String;)V"⟩
abbrev cX6_takeSemicolon : ByteArray := prog_8_method_20_code
def yX6_takeSemicolon : MethodName := ⟨RX6, "takeSemicolon", "()V"⟩
abbrev cX6_isWord : ByteArray := prog_8_method_21_code
def yX6_isWord : MethodName := ⟨RX6, "isWord", "(Ljava/lang/String;)Z"⟩
abbrev cX6_advance : ByteArray := prog_8_method_22_code
def yX6_advance : MethodName := ⟨RX6, "advance", "()V"⟩
abbrev cX6_kindOf : ByteArray := prog_8_method_23_code
def yX6_kindOf : MethodName := ⟨RX6, "kindOf", "(I)I"⟩
abbrev cX6_fail : ByteArray := prog_8_method_24_code
def yX6_fail : MethodName := ⟨RX6, "fail", "(II)V"⟩
def RX7 : String := "TreasureWalk$Row"
def TX7 : u_T := fun k => match k with
  | _ => ("TreasureWalk$Row", "numbers", "[I", true)
def tyX7 : Nat → FieldType := fun k => match k with
  | _ => .array .int
theorem nmX7 : ∀ a, a < 1 → ∀ b, b < 1 → a ≠ b → (TX7 a).2.1 ≠ (TX7 b).2.1 := by decide +kernel
theorem tyX7_ok : ∀ k, k < 1 → parseFieldDescriptor (TX7 k).2.2.1 = some (tyX7 k) := by decide +kernel
abbrev cX7_init : ByteArray := prog_9_method_1_code
def yX7_init : MethodName := ⟨RX7, "<init>", "(I)V"⟩
abbrev cX7_get : ByteArray := prog_9_method_2_code
def yX7_get : MethodName := ⟨RX7, "get", "(I)I"⟩
abbrev cX7_put : ByteArray := prog_9_method_3_code
def yX7_put : MethodName := ⟨RX7, "put", "(II)V"⟩
abbrev cX7_fill : ByteArray := prog_9_method_4_code
def yX7_fill : MethodName := ⟨RX7, "fill", "(I)V"⟩
abbrev cX7_copyFrom : ByteArray := prog_9_method_5_code
def yX7_copyFrom : MethodName := ⟨RX7, "copyFrom", "(LTreasureWalk$Row;)V"⟩
def RX8 : String := "TreasureWalk$Survey"
def TX8 : u_T := fun k => match k with
  | 0 => ("TreasureWalk$Survey", "data", "LTreasureWalk$Data;", true)
  | 1 => ("TreasureWalk$Survey", "trails", "LTreasureWalk$Trails;", true)
  | 2 => ("TreasureWalk$Survey", "flood", "LTreasureWalk$Flood;", true)
  | _ => ("TreasureWalk$Survey", "chosen", "LTreasureWalk$Cells;", true)
def tyX8 : Nat → FieldType := fun k => match k with
  | 0 => .object "TreasureWalk$Data"
  | 1 => .object "TreasureWalk$Trails"
  | 2 => .object "TreasureWalk$Flood"
  | _ => .object "TreasureWalk$Cells"
theorem nmX8 : ∀ a, a < 4 → ∀ b, b < 4 → a ≠ b → (TX8 a).2.1 ≠ (TX8 b).2.1 := by decide +kernel
theorem tyX8_ok : ∀ k, k < 4 → parseFieldDescriptor (TX8 k).2.2.1 = some (tyX8 k) := by decide +kernel
abbrev cX8_init : ByteArray := prog_10_method_1_code
def yX8_init : MethodName := ⟨RX8, "<init>", "(LTreasureWalk$Data;LTreasureWalk$Trails;)V"⟩
abbrev cX8_clueAgainst : ByteArray := prog_10_method_2_code
def yX8_clueAgainst : MethodName := ⟨RX8, "clueAgainst", "(I)I"⟩
abbrev cX8_candidates : ByteArray := prog_10_method_3_code
def yX8_candidates : MethodName := ⟨RX8, "candidates", "()LTreasureWalk$Cells;"⟩
abbrev cX8_left : ByteArray := prog_10_method_4_code
def yX8_left : MethodName := ⟨RX8, "left", "()LTreasureWalk$Cells;"⟩
abbrev cX8_countParts : ByteArray := prog_10_method_5_code
def yX8_countParts : MethodName := ⟨RX8, "countParts", "()I"⟩
abbrev cX8_partSize : ByteArray := prog_10_method_6_code
def yX8_partSize : MethodName := ⟨RX8, "partSize", "(I)I"⟩
abbrev cX8_distancesFrom : ByteArray := prog_10_method_7_code
def yX8_distancesFrom : MethodName := ⟨RX8, "distancesFrom", "(I)LTreasureWalk$Row;"⟩
def RX9 : String := "TreasureWalk$Tours"
def TX9 : u_T := fun k => match k with
  | 0 => ("TreasureWalk$Tours", "data", "LTreasureWalk$Data;", true)
  | 1 => ("TreasureWalk$Tours", "survey", "LTreasureWalk$Survey;", true)
  | 2 => ("TreasureWalk$Tours", "count", "I", false)
  | 3 => ("TreasureWalk$Tours", "stops", "LTreasureWalk$Row;", true)
  | 4 => ("TreasureWalk$Tours", "hops", "LTreasureWalk$Row;", true)
  | _ => ("TreasureWalk$Tours", "best", "LTreasureWalk$Row;", true)
def tyX9 : Nat → FieldType := fun k => match k with
  | 0 => .object "TreasureWalk$Data"
  | 1 => .object "TreasureWalk$Survey"
  | 2 => .int
  | 3 => .object "TreasureWalk$Row"
  | 4 => .object "TreasureWalk$Row"
  | _ => .object "TreasureWalk$Row"
theorem nmX9 : ∀ a, a < 6 → ∀ b, b < 6 → a ≠ b → (TX9 a).2.1 ≠ (TX9 b).2.1 := by decide +kernel
theorem tyX9_ok : ∀ k, k < 6 → parseFieldDescriptor (TX9 k).2.2.1 = some (tyX9 k) := by decide +kernel
abbrev cX9_init : ByteArray := prog_11_method_1_code
def yX9_init : MethodName := ⟨RX9, "<init>", "(LTreasureWalk$Data;LTreasureWalk$Survey;)V"⟩
def RX10 : String := "TreasureWalk$Trails"
def TX10 : u_T := fun k => match k with
  | 0 => ("TreasureWalk$Trails", "data", "LTreasureWalk$Data;", true)
  | 1 => ("TreasureWalk$Trails", "twists", "LTreasureWalk$Row;", true)
  | 2 => ("TreasureWalk$Trails", "layers", "LTreasureWalk$Layers;", true)
  | _ => ("TreasureWalk$Trails", "ways", "LTreasureWalk$Layers;", true)
def tyX10 : Nat → FieldType := fun k => match k with
  | 0 => .object "TreasureWalk$Data"
  | 1 => .object "TreasureWalk$Row"
  | 2 => .object "TreasureWalk$Layers"
  | _ => .object "TreasureWalk$Layers"
theorem nmX10 : ∀ a, a < 4 → ∀ b, b < 4 → a ≠ b → (TX10 a).2.1 ≠ (TX10 b).2.1 := by decide +kernel
theorem tyX10_ok : ∀ k, k < 4 → parseFieldDescriptor (TX10 k).2.2.1 = some (tyX10 k) := by decide +kernel
abbrev cX10_init : ByteArray := prog_12_method_1_code
def yX10_init : MethodName := ⟨RX10, "<init>", "(LTreasureWalk$Data;)V"⟩
abbrev cX10_renew : ByteArray := prog_12_method_2_code
def yX10_renew : MethodName := ⟨RX10, "renew", "()V"⟩
abbrev cX10_twist : ByteArray := prog_12_method_3_code
def yX10_twist : MethodName := ⟨RX10, "twist", "(I)V"⟩
abbrev cX10_step : ByteArray := prog_12_method_4_code
def yX10_step : MethodName := ⟨RX10, "step", "(II)I"⟩
abbrev cX10_follow : ByteArray := prog_12_method_5_code
def yX10_follow : MethodName := ⟨RX10, "follow", "(I)V"⟩
abbrev cX10_followLeg : ByteArray := prog_12_method_6_code
def yX10_followLeg : MethodName := ⟨RX10, "followLeg", "(III)V"⟩
abbrev cX10_canEnd : ByteArray := prog_12_method_7_code
def yX10_canEnd : MethodName := ⟨RX10, "canEnd", "(III)Z"⟩
abbrev cX10_startSpot : ByteArray := prog_12_method_8_code
def yX10_startSpot : MethodName := ⟨RX10, "startSpot", "(II)I"⟩
abbrev cX10_layer : ByteArray := prog_12_method_9_code
def yX10_layer : MethodName := ⟨RX10, "layer", "(II)LTreasureWalk$Cells;"⟩
abbrev cX10_region : ByteArray := prog_12_method_10_code
def yX10_region : MethodName := ⟨RX10, "region", "(I)LTreasureWalk$Cells;"⟩
abbrev cX10_countStarts : ByteArray := prog_12_method_11_code
def yX10_countStarts : MethodName := ⟨RX10, "countStarts", "(II)I"⟩
abbrev cX10_firstWalkPaces : ByteArray := prog_12_method_12_code
def yX10_firstWalkPaces : MethodName := ⟨RX10, "firstWalkPaces", "(III)I"⟩
abbrev cX10_firstStart : ByteArray := prog_12_method_13_code
def yX10_firstStart : MethodName := ⟨RX10, "firstStart", "(I)I"⟩
abbrev cX10_findWays : ByteArray := prog_12_method_14_code
def yX10_findWays : MethodName := ⟨RX10, "findWays", "(II)V"⟩
abbrev cX10_fewestPaces : ByteArray := prog_12_method_15_code
def yX10_fewestPaces : MethodName := ⟨RX10, "fewestPaces", "(III)I"⟩
abbrev cX10_spotBehind : ByteArray := prog_12_method_16_code
def yX10_spotBehind : MethodName := ⟨RX10, "spotBehind", "(IIII)I"⟩
def RX11 : String := "TreasureWalk"
def TX11 : u_T := fun k => match k with
  | 0 => ("TreasureWalk", "now", "LTreasureWalk$Data;", true)
  | 1 => ("TreasureWalk", "history", "LTreasureWalk$History;", true)
  | 2 => ("TreasureWalk", "reader", "LTreasureWalk$Reader;", true)
  | 3 => ("TreasureWalk", "trails", "LTreasureWalk$Trails;", true)
  | 4 => ("TreasureWalk", "survey", "LTreasureWalk$Survey;", true)
  | 5 => ("TreasureWalk", "tours", "LTreasureWalk$Tours;", true)
  | _ => ("TreasureWalk", "errorAt", "I", false)
def tyX11 : Nat → FieldType := fun k => match k with
  | 0 => .object "TreasureWalk$Data"
  | 1 => .object "TreasureWalk$History"
  | 2 => .object "TreasureWalk$Reader"
  | 3 => .object "TreasureWalk$Trails"
  | 4 => .object "TreasureWalk$Survey"
  | 5 => .object "TreasureWalk$Tours"
  | _ => .int
theorem nmX11 : ∀ a, a < 7 → ∀ b, b < 7 → a ≠ b → (TX11 a).2.1 ≠ (TX11 b).2.1 := by decide +kernel
theorem tyX11_ok : ∀ k, k < 7 → parseFieldDescriptor (TX11 k).2.2.1 = some (tyX11 k) := by decide +kernel
abbrev cX11_init : ByteArray := prog_1_method_1_code
def yX11_init : MethodName := ⟨RX11, "<init>", "()V"⟩
abbrev cX11_append : ByteArray := prog_1_method_2_code
def yX11_append : MethodName := ⟨RX11, "append", "(IIIII)I"⟩
abbrev cX11_load : ByteArray := prog_1_method_3_code
def yX11_load : MethodName := ⟨RX11, "load", "(I)I"⟩
abbrev cX11_errorOffset : ByteArray := prog_1_method_4_code
def yX11_errorOffset : MethodName := ⟨RX11, "errorOffset", "()I"⟩
abbrev cX11_state : ByteArray := prog_1_method_5_code
def yX11_state : MethodName := ⟨RX11, "state", "(I)I"⟩
abbrev cX11_cell : ByteArray := prog_1_method_6_code
def yX11_cell : MethodName := ⟨RX11, "cell", "(II)I"⟩
abbrev cX11_pace : ByteArray := prog_1_method_7_code
def yX11_pace : MethodName := ⟨RX11, "pace", "(III)I"⟩
abbrev cX11_reached : ByteArray := prog_1_method_8_code
def yX11_reached : MethodName := ⟨RX11, "reached", "(II)I"⟩
abbrev cX11_why : ByteArray := prog_1_method_10_code
def yX11_why : MethodName := ⟨RX11, "why", "(II)I"⟩
abbrev cX11_walk : ByteArray := prog_1_method_11_code
def yX11_walk : MethodName := ⟨RX11, "walk", "(IIII)I"⟩
abbrev cX11_starts : ByteArray := prog_1_method_12_code
def yX11_starts : MethodName := ⟨RX11, "starts", "(III)I"⟩
abbrev cX11_distance : ByteArray := prog_1_method_13_code
def yX11_distance : MethodName := ⟨RX11, "distance", "(II)I"⟩
abbrev cX11_part : ByteArray := prog_1_method_16_code
def yX11_part : MethodName := ⟨RX11, "part", "(II)I"⟩
abbrev cX11_chestIsLeft : ByteArray := prog_1_method_18_code
def yX11_chestIsLeft : MethodName := ⟨RX11, "chestIsLeft", "()Z"⟩
abbrev cX11_moveTo : ByteArray := prog_1_method_19_code
def yX11_moveTo : MethodName := ⟨RX11, "moveTo", "(II)I"⟩
abbrev cX11_dig : ByteArray := prog_1_method_20_code
def yX11_dig : MethodName := ⟨RX11, "dig", "()I"⟩
abbrev cX11_use : ByteArray := prog_1_method_21_code
def yX11_use : MethodName := ⟨RX11, "use", "(IZ)I"⟩
abbrev cX11_hide : ByteArray := prog_1_method_22_code
def yX11_hide : MethodName := ⟨RX11, "hide", "(I)I"⟩
abbrev cX11_turn : ByteArray := prog_1_method_23_code
def yX11_turn : MethodName := ⟨RX11, "turn", "(II)I"⟩
abbrev cX11_undo : ByteArray := prog_1_method_24_code
def yX11_undo : MethodName := ⟨RX11, "undo", "()I"⟩
abbrev cX11_checksum : ByteArray := prog_1_method_25_code
def yX11_checksum : MethodName := ⟨RX11, "checksum", "()J"⟩
abbrev cX11_checkedSpot : ByteArray := prog_1_method_26_code
def yX11_checkedSpot : MethodName := ⟨RX11, "checkedSpot", "(II)I"⟩
abbrev cX11_checkClue : ByteArray := prog_1_method_27_code
def yX11_checkClue : MethodName := ⟨RX11, "checkClue", "(I)V"⟩
abbrev cX11_spotAt : ByteArray := prog_1_method_28_code
def yX11_spotAt : MethodName := ⟨RX11, "spotAt", "(II)I"⟩
abbrev cX11_columnOf : ByteArray := prog_1_method_29_code
def yX11_columnOf : MethodName := ⟨RX11, "columnOf", "(I)I"⟩
abbrev cX11_rowOf : ByteArray := prog_1_method_30_code
def yX11_rowOf : MethodName := ⟨RX11, "rowOf", "(I)I"⟩
abbrev cX11_neighbour : ByteArray := prog_1_method_31_code
def yX11_neighbour : MethodName := ⟨RX11, "neighbour", "(II)I"⟩
abbrev cX11_isBetween : ByteArray := prog_1_method_32_code
def yX11_isBetween : MethodName := ⟨RX11, "isBetween", "(III)Z"⟩
def RX12 : String := "TreasureWalkLaw$Clue"
def TX12 : u_T := fun k => match k with
  | 0 => ("TreasureWalkLaw$Clue", "starts", "[I", false)
  | 1 => ("TreasureWalkLaw$Clue", "legs", "[LTreasureWalkLaw$Leg;", false)
  | _ => ("TreasureWalkLaw$Clue", "isUsed", "Z", false)
def tyX12 : Nat → FieldType := fun k => match k with
  | 0 => .array .int
  | 1 => .array (.object "TreasureWalkLaw$Leg")
  | _ => .boolean
theorem nmX12 : ∀ a, a < 3 → ∀ b, b < 3 → a ≠ b → (TX12 a).2.1 ≠ (TX12 b).2.1 := by decide +kernel
theorem tyX12_ok : ∀ k, k < 3 → parseFieldDescriptor (TX12 k).2.2.1 = some (tyX12 k) := by decide +kernel
abbrev cX12_init : ByteArray := prog_14_method_1_code
def yX12_init : MethodName := ⟨RX12, "<init>", "()V"⟩
def RX13 : String := "TreasureWalkLaw$Island"
def TX13 : u_T := fun k => match k with
  | 0 => ("TreasureWalkLaw$Island", "width", "I", false)
  | 1 => ("TreasureWalkLaw$Island", "height", "I", false)
  | 2 => ("TreasureWalkLaw$Island", "isWater", "[Z", false)
  | 3 => ("TreasureWalkLaw$Island", "isDug", "[Z", false)
  | 4 => ("TreasureWalkLaw$Island", "marks", "[I", false)
  | 5 => ("TreasureWalkLaw$Island", "bends", "[[I", false)
  | 6 => ("TreasureWalkLaw$Island", "clues", "[LTreasureWalkLaw$Clue;", false)
  | 7 => ("TreasureWalkLaw$Island", "team", "I", false)
  | 8 => ("TreasureWalkLaw$Island", "paces", "I", false)
  | 9 => ("TreasureWalkLaw$Island", "chest", "I", false)
  | 10 => ("TreasureWalkLaw$Island", "chestCell", "I", false)
  | 11 => ("TreasureWalkLaw$Island", "found", "[[I", false)
  | _ => ("TreasureWalkLaw$Island", "now", "[I", true)
def tyX13 : Nat → FieldType := fun k => match k with
  | 0 => .int
  | 1 => .int
  | 2 => .array .boolean
  | 3 => .array .boolean
  | 4 => .array .int
  | 5 => .array (.array .int)
  | 6 => .array (.object "TreasureWalkLaw$Clue")
  | 7 => .int
  | 8 => .int
  | 9 => .int
  | 10 => .int
  | 11 => .array (.array .int)
  | _ => .array .int
theorem nmX13 : ∀ a, a < 13 → ∀ b, b < 13 → a ≠ b → (TX13 a).2.1 ≠ (TX13 b).2.1 := by decide +kernel
theorem tyX13_ok : ∀ k, k < 13 → parseFieldDescriptor (TX13 k).2.2.1 = some (tyX13 k) := by decide +kernel
abbrev cX13_init : ByteArray := prog_15_method_1_code
def yX13_init : MethodName := ⟨RX13, "<init>", "()V"⟩
abbrev cX13_copy : ByteArray := prog_15_method_2_code
def yX13_copy : MethodName := ⟨RX13, "copy", "()LTreasureWalkLaw$Island;"⟩
abbrev cX13_neighbour : ByteArray := prog_15_method_3_code
def yX13_neighbour : MethodName := ⟨RX13, "neighbour", "(II)I"⟩
abbrev cX13_step : ByteArray := prog_15_method_4_code
def yX13_step : MethodName := ⟨RX13, "step", "(II)I"⟩
abbrev cX13_behind : ByteArray := prog_15_method_5_code
def yX13_behind : MethodName := ⟨RX13, "behind", "(LTreasureWalkLaw$Leg;II)I"⟩
abbrev cX13_tries : ByteArray := prog_15_method_6_code
def yX13_tries : MethodName := ⟨RX13, "tries", "(LTreasureWalkLaw$Clue;III)V"⟩
abbrev cX13_walks : ByteArray := prog_15_method_7_code
def yX13_walks : MethodName := ⟨RX13, "walks", "(III)I"⟩
abbrev cX13_reasons : ByteArray := prog_15_method_8_code
def yX13_reasons : MethodName := ⟨RX13, "reasons", "()[I"⟩
abbrev cX13_left : ByteArray := prog_15_method_9_code
def yX13_left : MethodName := ⟨RX13, "left", "()[Z"⟩
abbrev cX13_many : ByteArray := prog_15_method_10_code
def yX13_many : MethodName := ⟨RX13, "many", "([Z)I"⟩
abbrev cX13_far : ByteArray := prog_15_method_11_code
def yX13_far : MethodName := ⟨RX13, "far", "(I[Z)[I"⟩
abbrev cX13_parts : ByteArray := prog_15_method_13_code
def yX13_parts : MethodName := ⟨RX13, "parts", "([Z)I"⟩
abbrev cX13_told : ByteArray := prog_15_method_14_code
def yX13_told : MethodName := ⟨RX13, "told", "(I)I"⟩
abbrev cX13_digs : ByteArray := prog_15_method_15_code
def yX13_digs : MethodName := ⟨RX13, "digs", "()I"⟩
abbrev cX13_hides : ByteArray := prog_15_method_16_code
def yX13_hides : MethodName := ⟨RX13, "hides", "(I)I"⟩
abbrev cX13_checksum : ByteArray := prog_15_method_17_code
def yX13_checksum : MethodName := ⟨RX13, "checksum", "()J"⟩
def RX14 : String := "TreasureWalkLaw$Leg"
def TX14 : u_T := fun k => match k with
  | 0 => ("TreasureWalkLaw$Leg", "kind", "I", false)
  | 1 => ("TreasureWalkLaw$Leg", "many", "I", false)
  | 2 => ("TreasureWalkLaw$Leg", "give", "I", false)
  | _ => ("TreasureWalkLaw$Leg", "bearing", "I", false)
def tyX14 : Nat → FieldType := fun k => match k with
  | 0 => .int
  | 1 => .int
  | 2 => .int
  | _ => .int
theorem nmX14 : ∀ a, a < 4 → ∀ b, b < 4 → a ≠ b → (TX14 a).2.1 ≠ (TX14 b).2.1 := by decide +kernel
theorem tyX14_ok : ∀ k, k < 4 → parseFieldDescriptor (TX14 k).2.2.1 = some (tyX14 k) := by decide +kernel
abbrev cX14_init : ByteArray := prog_16_method_1_code
def yX14_init : MethodName := ⟨RX14, "<init>", "()V"⟩
def RX15 : String := "TreasureWalkLaw$Random"
def TX15 : u_T := fun k => match k with
  | _ => ("TreasureWalkLaw$Random", "seed", "I", false)
def tyX15 : Nat → FieldType := fun k => match k with
  | _ => .int
theorem nmX15 : ∀ a, a < 1 → ∀ b, b < 1 → a ≠ b → (TX15 a).2.1 ≠ (TX15 b).2.1 := by decide +kernel
theorem tyX15_ok : ∀ k, k < 1 → parseFieldDescriptor (TX15 k).2.2.1 = some (tyX15 k) := by decide +kernel
abbrev cX15_init : ByteArray := prog_17_method_1_code
def yX15_init : MethodName := ⟨RX15, "<init>", "(I)V"⟩
abbrev cX15_below : ByteArray := prog_17_method_2_code
def yX15_below : MethodName := ⟨RX15, "below", "(I)I"⟩
def RX16 : String := "TreasureWalkModel"
def TX16 : u_T := fun k => match k with
  | _ => ("", "", "", false)
def tyX16 : Nat → FieldType := fun k => match k with
  | _ => .int
theorem nmX16 : ∀ a, a < 0 → ∀ b, b < 0 → a ≠ b → (TX16 a).2.1 ≠ (TX16 b).2.1 := by decide +kernel
theorem tyX16_ok : ∀ k, k < 0 → parseFieldDescriptor (TX16 k).2.2.1 = some (tyX16 k) := by decide +kernel
def RJx145de : String := "java/io/Serializable"
def TJx145de : u_T := fun k => match k with
  | _ => ("", "", "", false)
def tyJx145de : Nat → FieldType := fun k => match k with
  | _ => .int
theorem nmJx145de : ∀ a, a < 0 → ∀ b, b < 0 → a ≠ b → (TJx145de a).2.1 ≠ (TJx145de b).2.1 := by decide +kernel
theorem tyJx145de_ok : ∀ k, k < 0 → parseFieldDescriptor (TJx145de k).2.2.1 = some (tyJx145de k) := by decide +kernel
def RJ5 : String := "java/lang/AbstractStringBuilder"
def TJ5 : u_T := fun k => match k with
  | _ => ("", "", "", false)
def tyJ5 : Nat → FieldType := fun k => match k with
  | _ => .int
theorem nmJ5 : ∀ a, a < 0 → ∀ b, b < 0 → a ≠ b → (TJ5 a).2.1 ≠ (TJ5 b).2.1 := by decide +kernel
theorem tyJ5_ok : ∀ k, k < 0 → parseFieldDescriptor (TJ5 k).2.2.1 = some (tyJ5 k) := by decide +kernel
abbrev cJ5_init_d00df : ByteArray := prog_20_method_2_code
def yJ5_init_d00df : MethodName := ⟨RJ5, "<init>", "(I)V"⟩
abbrev cJ5_length_8abf5 : ByteArray := prog_20_method_6_code
def yJ5_length_8abf5 : MethodName := ⟨RJ5, "length", "()I"⟩
abbrev cJ5_ensureCapacityInternal_d00df : ByteArray := prog_20_method_9_code
def yJ5_ensureCapacityInternal_d00df : MethodName := ⟨RJ5, "ensureCapacityInternal", "(I)V"⟩
abbrev cJ5_newCapacity_0f7a4 : ByteArray := prog_20_method_10_code
def yJ5_newCapacity_0f7a4 : MethodName := ⟨RJ5, "newCapacity", "(I)I"⟩
abbrev cJ5_inflate_da8c8 : ByteArray := prog_20_method_11_code
def yJ5_inflate_da8c8 : MethodName := ⟨RJ5, "inflate", "()V"⟩
abbrev cJ5_append_cf1ce : ByteArray := prog_20_method_22_code
def yJ5_append_cf1ce : MethodName := ⟨RJ5, "append", "(Ljava/lang/String;)Ljava/lang/AbstractStringBuilder;"⟩
abbrev cJ5_appendNull_278bc : ByteArray := prog_20_method_26_code
def yJ5_appendNull_278bc : MethodName := ⟨RJ5, "appendNull", "()Ljava/lang/AbstractStringBuilder;"⟩
abbrev cJ5_append_3fe6f : ByteArray := prog_20_method_31_code
def yJ5_append_3fe6f : MethodName := ⟨RJ5, "append", "(C)Ljava/lang/AbstractStringBuilder;"⟩
abbrev cJ5_append_c97b9 : ByteArray := prog_20_method_32_code
def yJ5_append_c97b9 : MethodName := ⟨RJ5, "append", "(I)Ljava/lang/AbstractStringBuilder;"⟩
abbrev cJ5_getValue_6d5f1 : ByteArray := prog_20_method_64_code
def yJ5_getValue_6d5f1 : MethodName := ⟨RJ5, "getValue", "()[B"⟩
abbrev cJ5_isLatin1_aae02 : ByteArray := prog_20_method_68_code
def yJ5_isLatin1_aae02 : MethodName := ⟨RJ5, "isLatin1", "()Z"⟩
abbrev cJ5_inflateIfNeededFor_a7421 : ByteArray := prog_20_method_71_code
def yJ5_inflateIfNeededFor_a7421 : MethodName := ⟨RJ5, "inflateIfNeededFor", "(Ljava/lang/String;)V"⟩
abbrev cJ5_putStringAt_47b60 : ByteArray := prog_20_method_73_code
def yJ5_putStringAt_47b60 : MethodName := ⟨RJ5, "putStringAt", "(ILjava/lang/String;)V"⟩
def RJx2cfe8 : String := "java/lang/Appendable"
def TJx2cfe8 : u_T := fun k => match k with
  | _ => ("", "", "", false)
def tyJx2cfe8 : Nat → FieldType := fun k => match k with
  | _ => .int
theorem nmJx2cfe8 : ∀ a, a < 0 → ∀ b, b < 0 → a ≠ b → (TJx2cfe8 a).2.1 ≠ (TJx2cfe8 b).2.1 := by decide +kernel
theorem tyJx2cfe8_ok : ∀ k, k < 0 → parseFieldDescriptor (TJx2cfe8 k).2.2.1 = some (tyJx2cfe8 k) := by decide +kernel
def RJx9f9b0 : String := "java/lang/CharSequence"
def TJx9f9b0 : u_T := fun k => match k with
  | _ => ("", "", "", false)
def tyJx9f9b0 : Nat → FieldType := fun k => match k with
  | _ => .int
theorem nmJx9f9b0 : ∀ a, a < 0 → ∀ b, b < 0 → a ≠ b → (TJx9f9b0 a).2.1 ≠ (TJx9f9b0 b).2.1 := by decide +kernel
theorem tyJx9f9b0_ok : ∀ k, k < 0 → parseFieldDescriptor (TJx9f9b0 k).2.2.1 = some (tyJx9f9b0 k) := by decide +kernel
def RJx8e188 : String := "java/lang/Cloneable"
def TJx8e188 : u_T := fun k => match k with
  | _ => ("", "", "", false)
def tyJx8e188 : Nat → FieldType := fun k => match k with
  | _ => .int
theorem nmJx8e188 : ∀ a, a < 0 → ∀ b, b < 0 → a ≠ b → (TJx8e188 a).2.1 ≠ (TJx8e188 b).2.1 := by decide +kernel
theorem tyJx8e188_ok : ∀ k, k < 0 → parseFieldDescriptor (TJx8e188 k).2.2.1 = some (tyJx8e188 k) := by decide +kernel
def RJxb160c : String := "java/lang/Comparable"
def TJxb160c : u_T := fun k => match k with
  | _ => ("", "", "", false)
def tyJxb160c : Nat → FieldType := fun k => match k with
  | _ => .int
theorem nmJxb160c : ∀ a, a < 0 → ∀ b, b < 0 → a ≠ b → (TJxb160c a).2.1 ≠ (TJxb160c b).2.1 := by decide +kernel
theorem tyJxb160c_ok : ∀ k, k < 0 → parseFieldDescriptor (TJxb160c k).2.2.1 = some (tyJxb160c k) := by decide +kernel
def RJ6 : String := "java/lang/Integer"
def TJ6 : u_T := fun k => match k with
  | _ => ("", "", "", false)
def tyJ6 : Nat → FieldType := fun k => match k with
  | _ => .int
theorem nmJ6 : ∀ a, a < 0 → ∀ b, b < 0 → a ≠ b → (TJ6 a).2.1 ≠ (TJ6 b).2.1 := by decide +kernel
theorem tyJ6_ok : ∀ k, k < 0 → parseFieldDescriptor (TJ6 k).2.2.1 = some (tyJ6 k) := by decide +kernel
abbrev cJ6_getChars_ba4f3 : ByteArray := prog_28_method_12_code
def yJ6_getChars_ba4f3 : MethodName := ⟨RJ6, "getChars", "(II[B)I"⟩
abbrev cJ6_stringSize_0f7a4 : ByteArray := prog_28_method_13_code
def yJ6_stringSize_0f7a4 : MethodName := ⟨RJ6, "stringSize", "(I)I"⟩
abbrev cJ6_bitCount_0f7a4 : ByteArray := prog_28_method_49_code
def yJ6_bitCount_0f7a4 : MethodName := ⟨RJ6, "bitCount", "(I)I"⟩
def RJ9 : String := "java/lang/Math"
def TJ9 : u_T := fun k => match k with
  | _ => ("", "", "", false)
def tyJ9 : Nat → FieldType := fun k => match k with
  | _ => .int
theorem nmJ9 : ∀ a, a < 0 → ∀ b, b < 0 → a ≠ b → (TJ9 a).2.1 ≠ (TJ9 b).2.1 := by decide +kernel
theorem tyJ9_ok : ∀ k, k < 0 → parseFieldDescriptor (TJ9 k).2.2.1 = some (tyJ9 k) := by decide +kernel
abbrev cJ9_abs_0f7a4 : ByteArray := prog_29_method_59_code
def yJ9_abs_0f7a4 : MethodName := ⟨RJ9, "abs", "(I)I"⟩
abbrev cJ9_max_7cf53 : ByteArray := prog_29_method_65_code
def yJ9_max_7cf53 : MethodName := ⟨RJ9, "max", "(II)I"⟩
abbrev cJ9_min_7cf53 : ByteArray := prog_29_method_69_code
def yJ9_min_7cf53 : MethodName := ⟨RJ9, "min", "(II)I"⟩
def RJxd2413 : String := "java/lang/Number"
def TJxd2413 : u_T := fun k => match k with
  | _ => ("", "", "", false)
def tyJxd2413 : Nat → FieldType := fun k => match k with
  | _ => .int
theorem nmJxd2413 : ∀ a, a < 0 → ∀ b, b < 0 → a ≠ b → (TJxd2413 a).2.1 ≠ (TJxd2413 b).2.1 := by decide +kernel
theorem tyJxd2413_ok : ∀ k, k < 0 → parseFieldDescriptor (TJxd2413 k).2.2.1 = some (tyJxd2413 k) := by decide +kernel
def RJ0 : String := "java/lang/String"
def TJ0 : u_T := fun k => match k with
  | 0 => ("java/lang/String", "value", "[B", true)
  | 1 => ("java/lang/String", "coder", "B", true)
  | 2 => ("java/lang/String", "hash", "I", false)
  | _ => ("java/lang/String", "hashIsZero", "Z", false)
def tyJ0 : Nat → FieldType := fun k => match k with
  | 0 => .array .byte
  | 1 => .byte
  | 2 => .int
  | _ => .boolean
theorem nmJ0 : ∀ a, a < 4 → ∀ b, b < 4 → a ≠ b → (TJ0 a).2.1 ≠ (TJ0 b).2.1 := by decide +kernel
theorem tyJ0_ok : ∀ k, k < 4 → parseFieldDescriptor (TJ0 k).2.2.1 = some (tyJ0 k) := by decide +kernel
abbrev cJ0_init_81219 : ByteArray := prog_32_method_53_code
def yJ0_init_81219 : MethodName := ⟨RJ0, "<init>", "(Ljava/lang/StringBuilder;)V"⟩
abbrev cJ0_length_8abf5 : ByteArray := prog_32_method_54_code
def yJ0_length_8abf5 : MethodName := ⟨RJ0, "length", "()I"⟩
abbrev cJ0_charAt_5068e : ByteArray := prog_32_method_56_code
def yJ0_charAt_5068e : MethodName := ⟨RJ0, "charAt", "(I)C"⟩
abbrev cJ0_getBytes_840e7 : ByteArray := prog_32_method_147_code
def yJ0_getBytes_840e7 : MethodName := ⟨RJ0, "getBytes", "([BIB)V"⟩
abbrev cJ0_init_db425 : ByteArray := prog_32_method_150_code
def yJ0_init_db425 : MethodName := ⟨RJ0, "<init>", "(Ljava/lang/AbstractStringBuilder;Ljava/lang/Void;)V"⟩
abbrev cJ0_coder_7d493 : ByteArray := prog_32_method_152_code
def yJ0_coder_7d493 : MethodName := ⟨RJ0, "coder", "()B"⟩
abbrev cJ0_isLatin1_aae02 : ByteArray := prog_32_method_154_code
def yJ0_isLatin1_aae02 : MethodName := ⟨RJ0, "isLatin1", "()Z"⟩
abbrev cJ0_checkIndex_df160 : ByteArray := prog_32_method_155_code
def yJ0_checkIndex_df160 : MethodName := ⟨RJ0, "checkIndex", "(II)V"⟩
abbrev cJ0_checkBoundsOffCount_cabcc : ByteArray := prog_32_method_157_code
def yJ0_checkBoundsOffCount_cabcc : MethodName := ⟨RJ0, "checkBoundsOffCount", "(III)I"⟩
abbrev cJ0_checkBoundsBeginEnd_23922 : ByteArray := prog_32_method_158_code
def yJ0_checkBoundsBeginEnd_23922 : MethodName := ⟨RJ0, "checkBoundsBeginEnd", "(III)V"⟩
def RJ4 : String := "java/lang/StringBuilder"
def TJ4 : u_T := fun k => match k with
  | 0 => ("java/lang/AbstractStringBuilder", "value", "[B", false)
  | 1 => ("java/lang/AbstractStringBuilder", "coder", "B", false)
  | 2 => ("java/lang/AbstractStringBuilder", "maybeLatin1", "Z", false)
  | _ => ("java/lang/AbstractStringBuilder", "count", "I", false)
def tyJ4 : Nat → FieldType := fun k => match k with
  | 0 => .array .byte
  | 1 => .byte
  | 2 => .boolean
  | _ => .int
theorem nmJ4 : ∀ a, a < 4 → ∀ b, b < 4 → a ≠ b → (TJ4 a).2.1 ≠ (TJ4 b).2.1 := by decide +kernel
theorem tyJ4_ok : ∀ k, k < 4 → parseFieldDescriptor (TJ4 k).2.2.1 = some (tyJ4 k) := by decide +kernel
abbrev cJ4_init_da8c8 : ByteArray := prog_33_method_1_code
def yJ4_init_da8c8 : MethodName := ⟨RJ4, "<init>", "()V"⟩
abbrev cJ4_append_15ec4 : ByteArray := prog_33_method_7_code
def yJ4_append_15ec4 : MethodName := ⟨RJ4, "append", "(Ljava/lang/String;)Ljava/lang/StringBuilder;"⟩
abbrev cJ4_append_cf468 : ByteArray := prog_33_method_14_code
def yJ4_append_cf468 : MethodName := ⟨RJ4, "append", "(C)Ljava/lang/StringBuilder;"⟩
abbrev cJ4_append_bf812 : ByteArray := prog_33_method_15_code
def yJ4_append_bf812 : MethodName := ⟨RJ4, "append", "(I)Ljava/lang/StringBuilder;"⟩
abbrev cJ4_toString_0e30d : ByteArray := prog_33_method_42_code
def yJ4_toString_0e30d : MethodName := ⟨RJ4, "toString", "()Ljava/lang/String;"⟩
abbrev cJ4_length_8abf5 : ByteArray := prog_33_method_93_code
def yJ4_length_8abf5 : MethodName := ⟨RJ4, "length", "()I"⟩
def RJ1 : String := "java/lang/StringLatin1"
def TJ1 : u_T := fun k => match k with
  | _ => ("", "", "", false)
def tyJ1 : Nat → FieldType := fun k => match k with
  | _ => .int
theorem nmJ1 : ∀ a, a < 0 → ∀ b, b < 0 → a ≠ b → (TJ1 a).2.1 ≠ (TJ1 b).2.1 := by decide +kernel
theorem tyJ1_ok : ∀ k, k < 0 → parseFieldDescriptor (TJ1 k).2.2.1 = some (tyJ1 k) := by decide +kernel
abbrev cJ1_charAt_3b067 : ByteArray := prog_34_method_2_code
def yJ1_charAt_3b067 : MethodName := ⟨RJ1, "charAt", "([BI)C"⟩
abbrev cJ1_canEncode_fc78d : ByteArray := prog_34_method_3_code
def yJ1_canEncode_fc78d : MethodName := ⟨RJ1, "canEncode", "(C)Z"⟩
abbrev cJ1_inflate_0e8fd : ByteArray := prog_34_method_50_code
def yJ1_inflate_0e8fd : MethodName := ⟨RJ1, "inflate", "([BI[BII)V"⟩
def RJ2 : String := "java/lang/StringUTF16"
def TJ2 : u_T := fun k => match k with
  | _ => ("", "", "", false)
def tyJ2 : Nat → FieldType := fun k => match k with
  | _ => .int
theorem nmJ2 : ∀ a, a < 0 → ∀ b, b < 0 → a ≠ b → (TJ2 a).2.1 ≠ (TJ2 b).2.1 := by decide +kernel
theorem tyJ2_ok : ∀ k, k < 0 → parseFieldDescriptor (TJ2 k).2.2.1 = some (tyJ2 k) := by decide +kernel
abbrev cJ2_newBytesFor_77867 : ByteArray := prog_35_method_2_code
def yJ2_newBytesFor_77867 : MethodName := ⟨RJ2, "newBytesFor", "(I)[B"⟩
abbrev cJ2_newBytesLength_0f7a4 : ByteArray := prog_35_method_3_code
def yJ2_newBytesLength_0f7a4 : MethodName := ⟨RJ2, "newBytesLength", "(I)I"⟩
abbrev cJ2_putChar_b72d1 : ByteArray := prog_35_method_4_code
def yJ2_putChar_b72d1 : MethodName := ⟨RJ2, "putChar", "([BII)V"⟩
abbrev cJ2_getChar_3b067 : ByteArray := prog_35_method_5_code
def yJ2_getChar_3b067 : MethodName := ⟨RJ2, "getChar", "([BI)C"⟩
abbrev cJ2_length_9d52b : ByteArray := prog_35_method_6_code
def yJ2_length_9d52b : MethodName := ⟨RJ2, "length", "([B)I"⟩
abbrev cJ2_coderFromArrayLen_85cad : ByteArray := prog_35_method_15_code
def yJ2_coderFromArrayLen_85cad : MethodName := ⟨RJ2, "coderFromArrayLen", "([BI)B"⟩
abbrev cJ2_compress_39247 : ByteArray := prog_35_method_17_code
def yJ2_compress_39247 : MethodName := ⟨RJ2, "compress", "([BII)[B"⟩
abbrev cJ2_compress_5af95 : ByteArray := prog_35_method_22_code
def yJ2_compress_5af95 : MethodName := ⟨RJ2, "compress", "([BI[BII)I"⟩
abbrev cJ2_putCharSB_b72d1 : ByteArray := prog_35_method_71_code
def yJ2_putCharSB_b72d1 : MethodName := ⟨RJ2, "putCharSB", "([BII)V"⟩
abbrev cJ2_getChars_46870 : ByteArray := prog_35_method_77_code
def yJ2_getChars_46870 : MethodName := ⟨RJ2, "getChars", "(III[B)I"⟩
abbrev cJ2_putCharsAt_cd4e5 : ByteArray := prog_35_method_81_code
def yJ2_putCharsAt_cd4e5 : MethodName := ⟨RJ2, "putCharsAt", "([BICCCC)I"⟩
abbrev cJ2_charAt_3b067 : ByteArray := prog_35_method_83_code
def yJ2_charAt_3b067 : MethodName := ⟨RJ2, "charAt", "([BI)C"⟩
abbrev cJ2_inflate_0e8fd : ByteArray := prog_35_method_86_code
def yJ2_inflate_0e8fd : MethodName := ⟨RJ2, "inflate", "([BI[BII)V"⟩
abbrev cJ2_getChars_ba4f3 : ByteArray := prog_35_method_89_code
def yJ2_getChars_ba4f3 : MethodName := ⟨RJ2, "getChars", "(II[B)I"⟩
abbrev cJ2_checkIndex_2214a : ByteArray := prog_35_method_91_code
def yJ2_checkIndex_2214a : MethodName := ⟨RJ2, "checkIndex", "(I[B)V"⟩
abbrev cJ2_checkBoundsBeginEnd_d044e : ByteArray := prog_35_method_93_code
def yJ2_checkBoundsBeginEnd_d044e : MethodName := ⟨RJ2, "checkBoundsBeginEnd", "(II[B)V"⟩
abbrev cJ2_checkBoundsOffCount_d044e : ByteArray := prog_35_method_94_code
def yJ2_checkBoundsOffCount_d044e : MethodName := ⟨RJ2, "checkBoundsOffCount", "(II[B)V"⟩
def RJ10 : String := "java/lang/System"
def TJ10 : u_T := fun k => match k with
  | _ => ("", "", "", false)
def tyJ10 : Nat → FieldType := fun k => match k with
  | _ => .int
theorem nmJ10 : ∀ a, a < 0 → ∀ b, b < 0 → a ≠ b → (TJ10 a).2.1 ≠ (TJ10 b).2.1 := by decide +kernel
theorem tyJ10_ok : ∀ k, k < 0 → parseFieldDescriptor (TJ10 k).2.2.1 = some (tyJ10 k) := by decide +kernel
def RJxfd54e : String := "java/lang/constant/Constable"
def TJxfd54e : u_T := fun k => match k with
  | _ => ("", "", "", false)
def tyJxfd54e : Nat → FieldType := fun k => match k with
  | _ => .int
theorem nmJxfd54e : ∀ a, a < 0 → ∀ b, b < 0 → a ≠ b → (TJxfd54e a).2.1 ≠ (TJxfd54e b).2.1 := by decide +kernel
theorem tyJxfd54e_ok : ∀ k, k < 0 → parseFieldDescriptor (TJxfd54e k).2.2.1 = some (tyJxfd54e k) := by decide +kernel
def RJx3cf43 : String := "java/lang/constant/ConstantDesc"
def TJx3cf43 : u_T := fun k => match k with
  | _ => ("", "", "", false)
def tyJx3cf43 : Nat → FieldType := fun k => match k with
  | _ => .int
theorem nmJx3cf43 : ∀ a, a < 0 → ∀ b, b < 0 → a ≠ b → (TJx3cf43 a).2.1 ≠ (TJx3cf43 b).2.1 := by decide +kernel
theorem tyJx3cf43_ok : ∀ k, k < 0 → parseFieldDescriptor (TJx3cf43 k).2.2.1 = some (tyJx3cf43 k) := by decide +kernel
def RJ7 : String := "java/util/Arrays"
def TJ7 : u_T := fun k => match k with
  | _ => ("", "", "", false)
def tyJ7 : Nat → FieldType := fun k => match k with
  | _ => .int
theorem nmJ7 : ∀ a, a < 0 → ∀ b, b < 0 → a ≠ b → (TJ7 a).2.1 ≠ (TJ7 b).2.1 := by decide +kernel
theorem tyJ7_ok : ∀ k, k < 0 → parseFieldDescriptor (TJ7 k).2.2.1 = some (tyJ7 k) := by decide +kernel
abbrev cJ7_fill_53178 : ByteArray := prog_40_method_103_code
def yJ7_fill_53178 : MethodName := ⟨RJ7, "fill", "([II)V"⟩
abbrev cJ7_copyOf_9075b : ByteArray := prog_40_method_121_code
def yJ7_copyOf_9075b : MethodName := ⟨RJ7, "copyOf", "([BI)[B"⟩
abbrev cJ7_checkLength_df160 : ByteArray := prog_40_method_131_code
def yJ7_checkLength_df160 : MethodName := ⟨RJ7, "checkLength", "(II)V"⟩
abbrev cJ7_copyOfRange_39247 : ByteArray := prog_40_method_132_code
def yJ7_copyOfRange_39247 : MethodName := ⟨RJ7, "copyOfRange", "([BII)[B"⟩
abbrev cJ7_copyOfRangeByte_39247 : ByteArray := prog_40_method_133_code
def yJ7_copyOfRangeByte_39247 : MethodName := ⟨RJ7, "copyOfRangeByte", "([BII)[B"⟩
def RJ8 : String := "jdk/internal/util/ArraysSupport"
def TJ8 : u_T := fun k => match k with
  | _ => ("", "", "", false)
def tyJ8 : Nat → FieldType := fun k => match k with
  | _ => .int
theorem nmJ8 : ∀ a, a < 0 → ∀ b, b < 0 → a ≠ b → (TJ8 a).2.1 ≠ (TJ8 b).2.1 := by decide +kernel
theorem tyJ8_ok : ∀ k, k < 0 → parseFieldDescriptor (TJ8 k).2.2.1 = some (tyJ8 k) := by decide +kernel
abbrev cJ8_newLength_cabcc : ByteArray := prog_42_method_27_code
def yJ8_newLength_cabcc : MethodName := ⟨RJ8, "newLength", "(III)I"⟩
abbrev cJ8_hugeLength_7cf53 : ByteArray := prog_42_method_28_code
def yJ8_hugeLength_7cf53 : MethodName := ⟨RJ8, "hugeLength", "(II)I"⟩
def RJ3 : String := "jdk/internal/util/Preconditions"
def TJ3 : u_T := fun k => match k with
  | _ => ("", "", "", false)
def tyJ3 : Nat → FieldType := fun k => match k with
  | _ => .int
theorem nmJ3 : ∀ a, a < 0 → ∀ b, b < 0 → a ≠ b → (TJ3 a).2.1 ≠ (TJ3 b).2.1 := by decide +kernel
theorem tyJ3_ok : ∀ k, k < 0 → parseFieldDescriptor (TJ3 k).2.2.1 = some (tyJ3 k) := by decide +kernel
abbrev cJ3_checkIndex_8e157 : ByteArray := prog_43_method_11_code
def yJ3_checkIndex_8e157 : MethodName := ⟨RJ3, "checkIndex", "(IILjava/util/function/BiFunction;)I"⟩
abbrev cJ3_checkFromToIndex_8c36e : ByteArray := prog_43_method_12_code
def yJ3_checkFromToIndex_8c36e : MethodName := ⟨RJ3, "checkFromToIndex", "(IIILjava/util/function/BiFunction;)I"⟩
abbrev cJ3_checkFromIndexSize_8c36e : ByteArray := prog_43_method_13_code
def yJ3_checkFromIndexSize_8c36e : MethodName := ⟨RJ3, "checkFromIndexSize", "(IIILjava/util/function/BiFunction;)I"⟩
def RL : String := "TreasureWalkLaw"
abbrev cL_put : ByteArray := method_2_code
def yL_put : MethodName := ⟨RL, "put", "(LTreasureWalk;[II)V"⟩
abbrev cL_flush : ByteArray := method_3_code
def yL_flush : MethodName := ⟨RL, "flush", "(LTreasureWalk;[I)V"⟩
abbrev cL_loadText : ByteArray := method_4_code
def yL_loadText : MethodName := ⟨RL, "loadText", "(LTreasureWalk;[I)I"⟩
abbrev cL_write : ByteArray := method_5_code
def yL_write : MethodName := ⟨RL, "write", "(LTreasureWalk;[ILjava/lang/String;)V"⟩
abbrev cL_writeNumber : ByteArray := method_6_code
def yL_writeNumber : MethodName := ⟨RL, "writeNumber", "(LTreasureWalk;[II)V"⟩
abbrev cL_load : ByteArray := method_7_code
def yL_load : MethodName := ⟨RL, "load", "(LTreasureWalk;I)I"⟩
abbrev cL_state : ByteArray := method_8_code
def yL_state : MethodName := ⟨RL, "state", "(LTreasureWalk;I)I"⟩
abbrev cL_cell : ByteArray := method_9_code
def yL_cell : MethodName := ⟨RL, "cell", "(LTreasureWalk;II)I"⟩
abbrev cL_pace : ByteArray := method_10_code
def yL_pace : MethodName := ⟨RL, "pace", "(LTreasureWalk;III)I"⟩
abbrev cL_reached : ByteArray := method_11_code
def yL_reached : MethodName := ⟨RL, "reached", "(LTreasureWalk;II)I"⟩
abbrev cL_why : ByteArray := method_13_code
def yL_why : MethodName := ⟨RL, "why", "(LTreasureWalk;II)I"⟩
abbrev cL_walk : ByteArray := method_14_code
def yL_walk : MethodName := ⟨RL, "walk", "(LTreasureWalk;IIII)I"⟩
abbrev cL_starts : ByteArray := method_15_code
def yL_starts : MethodName := ⟨RL, "starts", "(LTreasureWalk;III)I"⟩
abbrev cL_distance : ByteArray := method_16_code
def yL_distance : MethodName := ⟨RL, "distance", "(LTreasureWalk;II)I"⟩
abbrev cL_part : ByteArray := method_17_code
def yL_part : MethodName := ⟨RL, "part", "(LTreasureWalk;II)I"⟩
abbrev cL_moveTo : ByteArray := method_18_code
def yL_moveTo : MethodName := ⟨RL, "moveTo", "(LTreasureWalk;II)I"⟩
abbrev cL_use : ByteArray := method_19_code
def yL_use : MethodName := ⟨RL, "use", "(LTreasureWalk;IZ)I"⟩
abbrev cL_hide : ByteArray := method_20_code
def yL_hide : MethodName := ⟨RL, "hide", "(LTreasureWalk;I)I"⟩
abbrev cL_turn : ByteArray := method_21_code
def yL_turn : MethodName := ⟨RL, "turn", "(LTreasureWalk;II)I"⟩
abbrev cL_with : ByteArray := method_22_code
def yL_with : MethodName := ⟨RL, "with", "([II)[I"⟩
abbrev cL_writeAll : ByteArray := method_23_code
def yL_writeAll : MethodName := ⟨RL, "writeAll", "(LTreasureWalk;[ILjava/lang/String;[I)V"⟩
abbrev cL_randomClue : ByteArray := method_24_code
def yL_randomClue : MethodName := ⟨RL, "randomClue", "(LTreasureWalk;[ILTreasureWalkLaw$Random;I)LTreasureWalkLaw$Clue;"⟩
abbrev cL_randomIsland : ByteArray := method_25_code
def yL_randomIsland : MethodName := ⟨RL, "randomIsland", "(LTreasureWalk;[ILTreasureWalkLaw$Random;)LTreasureWalkLaw$Island;"⟩
abbrev cL_agrees : ByteArray := method_26_code
def yL_agrees : MethodName := ⟨RL, "agrees", "(LTreasureWalk;LTreasureWalkLaw$Island;)Z"⟩
abbrev cL_law : ByteArray := code
def yL_law : MethodName := ⟨RL, "law", "([I)Z"⟩
abbrev vwCl : List vw_C := [(RX0, TX0, 1), (RX1, TX1, 10), (RX2, TX2, 14), (RX3, TX3, 2), (RX4, TX4, 3), (RX5, TX5, 2), (RX6, TX6, 11), (RX7, TX7, 1), (RX8, TX8, 4), (RX9, TX9, 6), (RX10, TX10, 4), (RX11, TX11, 7), (RX12, TX12, 3), (RX13, TX13, 13), (RX14, TX14, 4), (RX15, TX15, 1), (RJ0, TJ0, 4), (RJ4, TJ4, 4)]
