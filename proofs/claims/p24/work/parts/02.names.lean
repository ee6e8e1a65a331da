/-! ===== BEGIN words of one list among another's, by their places ===== -/
theorem goodIn_r {big : List Cond} (ws : List Cond) (ps : List Nat) (hp : ws = ps.filterMap (fun i => big[i]?)) (h : ws.all goodWord = true) : GoodIn big ws := by
  intro w hw
  have h1 := List.all_eq_true.mp h w hw
  rw [hp] at hw
  obtain ⟨i, -, hi⟩ := List.mem_filterMap.mp hw
  have hm : w ∈ big := by first | exact List.mem_of_getElem? hi | exact List.getElem?_mem hi
  exact ⟨hm, good_of_word h1⟩
theorem goodIn_app {big a b : List Cond} (ha : GoodIn big a) (hb : GoodIn big b) : GoodIn big (a ++ b) := fun w h => (List.mem_append.mp h).elim (ha w) (hb w)
theorem goodIn_ca {big a b : List Cond} {c : Cond} (ha : GoodIn big (c :: a)) (hb : GoodIn big b) : GoodIn big (c :: (a ++ b)) := fun w h => (List.mem_cons.mp h).elim (fun e => ha w (List.mem_cons.mpr (Or.inl e))) (fun h => (List.mem_append.mp h).elim (fun h => ha w (List.mem_cons.mpr (Or.inr h))) (hb w))
theorem goodIn_sub {big ws : List Cond} (hm : ∀ w ∈ ws, w ∈ big) (h : ws.all goodWord = true) : GoodIn big ws := fun w hw => ⟨hm w hw, good_of_word (List.all_eq_true.mp h w hw)⟩
/-! ===== END ===== -/

/-! ===== BEGIN printed: names, fields, word lists, decode rows ===== -/
def RX0 : String := "PartingRoads$History"
def TX0 : u_T := fun k => match k with
  | 0 => ("PartingRoads$History", "states", "[LPartingRoads$Town;", true)
  | _ => ("PartingRoads$History", "changes", "I", false)
def tyX0 : Nat → FieldType := fun k => match k with
  | 0 => .array (.object "PartingRoads$Town")
  | _ => .int
abbrev wsX00 : List Cond := u_ws RX0 TX0 2
theorem nmX0 : ∀ a, a < 2 → ∀ b, b < 2 → a ≠ b → (TX0 a).2.1 ≠ (TX0 b).2.1 := by decide +kernel
theorem tyX0_ok : ∀ k, k < 2 → parseFieldDescriptor (TX0 k).2.2.1 = some (tyX0 k) := by decide +kernel
abbrev cX0_init : ByteArray := prog_2_method_1_code
def yX0_init : MethodName := ⟨RX0, "<init>", "()V"⟩
abbrev cX0_record : ByteArray := prog_2_method_2_code
def yX0_record : MethodName := ⟨RX0, "record", "(LPartingRoads$Town;)V"⟩
abbrev cX0_dropOldest : ByteArray := prog_2_method_3_code
def yX0_dropOldest : MethodName := ⟨RX0, "dropOldest", "()V"⟩
abbrev cX0_takeBack : ByteArray := prog_2_method_4_code
def yX0_takeBack : MethodName := ⟨RX0, "takeBack", "(LPartingRoads$Town;)V"⟩
def RX1 : String := "PartingRoads$Pad"
def TX1 : u_T := fun k => match k with
  | 0 => ("PartingRoads$Pad", "characters", "[C", true)
  | 1 => ("PartingRoads$Pad", "length", "I", false)
  | 2 => ("PartingRoads$Pad", "numbers", "[I", true)
  | 3 => ("PartingRoads$Pad", "numberCount", "I", false)
  | _ => ("PartingRoads$Pad", "number", "I", false)
def tyX1 : Nat → FieldType := fun k => match k with
  | 0 => .array .char
  | 1 => .int
  | 2 => .array .int
  | 3 => .int
  | _ => .int
abbrev wsX10 : List Cond := u_ws RX1 TX1 5
theorem nmX1 : ∀ a, a < 5 → ∀ b, b < 5 → a ≠ b → (TX1 a).2.1 ≠ (TX1 b).2.1 := by decide +kernel
theorem tyX1_ok : ∀ k, k < 5 → parseFieldDescriptor (TX1 k).2.2.1 = some (tyX1 k) := by decide +kernel
abbrev cX1_init : ByteArray := prog_3_method_1_code
def yX1_init : MethodName := ⟨RX1, "<init>", "()V"⟩
def RX2 : String := "PartingRoads$Survey"
def TX2 : u_T := fun k => match k with
  | 0 => ("PartingRoads$Survey", "town", "LPartingRoads$Town;", true)
  | 1 => ("PartingRoads$Survey", "pieceOf", "[I", true)
  | 2 => ("PartingRoads$Survey", "districtOf", "[I", true)
  | 3 => ("PartingRoads$Survey", "districtSquares", "[I", true)
  | 4 => ("PartingRoads$Survey", "lowerSide", "[I", true)
  | 5 => ("PartingRoads$Survey", "distances", "[I", true)
  | 6 => ("PartingRoads$Survey", "pieces", "I", false)
  | 7 => ("PartingRoads$Survey", "districts", "I", false)
  | _ => ("PartingRoads$Survey", "partingRoads", "I", false)
def tyX2 : Nat → FieldType := fun k => match k with
  | 0 => .object "PartingRoads$Town"
  | 1 => .array .int
  | 2 => .array .int
  | 3 => .array .int
  | 4 => .array .int
  | 5 => .array .int
  | 6 => .int
  | 7 => .int
  | _ => .int
abbrev wsX20 : List Cond := u_ws RX2 TX2 9
theorem nmX2 : ∀ a, a < 9 → ∀ b, b < 9 → a ≠ b → (TX2 a).2.1 ≠ (TX2 b).2.1 := by decide +kernel
theorem tyX2_ok : ∀ k, k < 9 → parseFieldDescriptor (TX2 k).2.2.1 = some (tyX2 k) := by decide +kernel
abbrev cX2_init : ByteArray := prog_4_method_1_code
def yX2_init : MethodName := ⟨RX2, "<init>", "(LPartingRoads$Town;)V"⟩
abbrev cX2_renew : ByteArray := prog_4_method_2_code
def yX2_renew : MethodName := ⟨RX2, "renew", "()V"⟩
abbrev cX2_findPieces : ByteArray := prog_4_method_3_code
def yX2_findPieces : MethodName := ⟨RX2, "findPieces", "()V"⟩
abbrev cX2_findPartingRoads : ByteArray := prog_4_method_4_code
def yX2_findPartingRoads : MethodName := ⟨RX2, "findPartingRoads", "()V"⟩
abbrev cX2_findDistricts : ByteArray := prog_4_method_5_code
def yX2_findDistricts : MethodName := ⟨RX2, "findDistricts", "()V"⟩
abbrev cX2_hangTogether : ByteArray := prog_4_method_6_code
def yX2_hangTogether : MethodName := ⟨RX2, "hangTogether", "(II)Z"⟩
abbrev cX2_squaresBehind : ByteArray := prog_4_method_7_code
def yX2_squaresBehind : MethodName := ⟨RX2, "squaresBehind", "(II)I"⟩
abbrev cX2_pairsParted : ByteArray := prog_4_method_8_code
def yX2_pairsParted : MethodName := ⟨RX2, "pairsParted", "(I)I"⟩
abbrev cX2_roadsBetween : ByteArray := prog_4_method_9_code
def yX2_roadsBetween : MethodName := ⟨RX2, "roadsBetween", "(II)I"⟩
abbrev cX2_roadOnWay : ByteArray := prog_4_method_10_code
def yX2_roadOnWay : MethodName := ⟨RX2, "roadOnWay", "(III)I"⟩
abbrev cX2_roadsAhead : ByteArray := prog_4_method_11_code
def yX2_roadsAhead : MethodName := ⟨RX2, "roadsAhead", "(III)I"⟩
abbrev cX2_partingRoadsAfter : ByteArray := prog_4_method_12_code
def yX2_partingRoadsAfter : MethodName := ⟨RX2, "partingRoadsAfter", "(II)I"⟩
abbrev cX2_morePiecesWithout : ByteArray := prog_4_method_13_code
def yX2_morePiecesWithout : MethodName := ⟨RX2, "morePiecesWithout", "(I)I"⟩
abbrev cX2_partingSquares : ByteArray := prog_4_method_14_code
def yX2_partingSquares : MethodName := ⟨RX2, "partingSquares", "()I"⟩
abbrev cX2_partingRoadsOut : ByteArray := prog_4_method_15_code
def yX2_partingRoadsOut : MethodName := ⟨RX2, "partingRoadsOut", "(I)I"⟩
abbrev cX2_longestDistrict : ByteArray := prog_4_method_16_code
def yX2_longestDistrict : MethodName := ⟨RX2, "longestDistrict", "()I"⟩
abbrev cX2_leafDistricts : ByteArray := prog_4_method_17_code
def yX2_leafDistricts : MethodName := ⟨RX2, "leafDistricts", "(I)I"⟩
abbrev cX2_leastRing : ByteArray := prog_4_method_18_code
def yX2_leastRing : MethodName := ⟨RX2, "leastRing", "(I)I"⟩
abbrev cX2_leastLength : ByteArray := prog_4_method_19_code
def yX2_leastLength : MethodName := ⟨RX2, "leastLength", "(II)I"⟩
abbrev cX2_shorten : ByteArray := prog_4_method_20_code
def yX2_shorten : MethodName := ⟨RX2, "shorten", "(III)Z"⟩
def RX3 : String := "PartingRoads$Town"
def TX3 : u_T := fun k => match k with
  | 0 => ("PartingRoads$Town", "squareCount", "I", false)
  | 1 => ("PartingRoads$Town", "roadCount", "I", false)
  | 2 => ("PartingRoads$Town", "lower", "[I", true)
  | 3 => ("PartingRoads$Town", "higher", "[I", true)
  | 4 => ("PartingRoads$Town", "lengths", "[I", true)
  | _ => ("PartingRoads$Town", "ends", "[I", true)
def tyX3 : Nat → FieldType := fun k => match k with
  | 0 => .int
  | 1 => .int
  | 2 => .array .int
  | 3 => .array .int
  | 4 => .array .int
  | _ => .array .int
abbrev wsX30 : List Cond := u_ws RX3 TX3 6
theorem nmX3 : ∀ a, a < 6 → ∀ b, b < 6 → a ≠ b → (TX3 a).2.1 ≠ (TX3 b).2.1 := by decide +kernel
theorem tyX3_ok : ∀ k, k < 6 → parseFieldDescriptor (TX3 k).2.2.1 = some (tyX3 k) := by decide +kernel
abbrev cX3_init : ByteArray := prog_5_method_1_code
def yX3_init : MethodName := ⟨RX3, "<init>", "()V"⟩
abbrev cX3_copyFrom : ByteArray := prog_5_method_2_code
def yX3_copyFrom : MethodName := ⟨RX3, "copyFrom", "(LPartingRoads$Town;)V"⟩
abbrev cX3_hasSquare : ByteArray := prog_5_method_3_code
def yX3_hasSquare : MethodName := ⟨RX3, "hasSquare", "(I)Z"⟩
abbrev cX3_hasRoad : ByteArray := prog_5_method_4_code
def yX3_hasRoad : MethodName := ⟨RX3, "hasRoad", "(I)Z"⟩
abbrev cX3_fitsInto : ByteArray := prog_5_method_5_code
def yX3_fitsInto : MethodName := ⟨RX3, "fitsInto", "(I)Z"⟩
abbrev cX3_addRoad : ByteArray := prog_5_method_6_code
def yX3_addRoad : MethodName := ⟨RX3, "addRoad", "(III)V"⟩
abbrev cX3_removeRoad : ByteArray := prog_5_method_7_code
def yX3_removeRoad : MethodName := ⟨RX3, "removeRoad", "(I)V"⟩
abbrev cX3_allRoads : ByteArray := prog_5_method_8_code
def yX3_allRoads : MethodName := ⟨RX3, "allRoads", "()I"⟩
abbrev cX3_roadsAt : ByteArray := prog_5_method_9_code
def yX3_roadsAt : MethodName := ⟨RX3, "roadsAt", "(I)I"⟩
abbrev cX3_roadsWithin : ByteArray := prog_5_method_10_code
def yX3_roadsWithin : MethodName := ⟨RX3, "roadsWithin", "(I)I"⟩
abbrev cX3_lengthOf : ByteArray := prog_5_method_11_code
def yX3_lengthOf : MethodName := ⟨RX3, "lengthOf", "(I)I"⟩
abbrev cX3_oneRoadFurther : ByteArray := prog_5_method_12_code
def yX3_oneRoadFurther : MethodName := ⟨RX3, "oneRoadFurther", "(II)I"⟩
abbrev cX3_reach : ByteArray := prog_5_method_13_code
def yX3_reach : MethodName := ⟨RX3, "reach", "(II)I"⟩
def RX4 : String := "PartingRoads"
def TX4 : u_T := fun k => match k with
  | 0 => ("PartingRoads", "town", "LPartingRoads$Town;", true)
  | 1 => ("PartingRoads", "survey", "LPartingRoads$Survey;", true)
  | 2 => ("PartingRoads", "pad", "LPartingRoads$Pad;", true)
  | 3 => ("PartingRoads", "history", "LPartingRoads$History;", true)
  | 4 => ("PartingRoads", "slots", "[LPartingRoads$Town;", true)
  | _ => ("PartingRoads", "saved", "[Z", true)
def tyX4 : Nat → FieldType := fun k => match k with
  | 0 => .object "PartingRoads$Town"
  | 1 => .object "PartingRoads$Survey"
  | 2 => .object "PartingRoads$Pad"
  | 3 => .object "PartingRoads$History"
  | 4 => .array (.object "PartingRoads$Town")
  | _ => .array .boolean
abbrev wsX40 : List Cond := u_ws RX4 TX4 6
theorem nmX4 : ∀ a, a < 6 → ∀ b, b < 6 → a ≠ b → (TX4 a).2.1 ≠ (TX4 b).2.1 := by decide +kernel
theorem tyX4_ok : ∀ k, k < 6 → parseFieldDescriptor (TX4 k).2.2.1 = some (tyX4 k) := by decide +kernel
abbrev cX4_init : ByteArray := prog_1_method_1_code
def yX4_init : MethodName := ⟨RX4, "<init>", "()V"⟩
abbrev cX4_squares : ByteArray := prog_1_method_2_code
def yX4_squares : MethodName := ⟨RX4, "squares", "(I)I"⟩
abbrev cX4_build : ByteArray := prog_1_method_3_code
def yX4_build : MethodName := ⟨RX4, "build", "(III)I"⟩
abbrev cX4_lose : ByteArray := prog_1_method_4_code
def yX4_lose : MethodName := ⟨RX4, "lose", "(I)I"⟩
abbrev cX4_road : ByteArray := prog_1_method_7_code
def yX4_road : MethodName := ⟨RX4, "road", "(II)I"⟩
abbrev cX4_square : ByteArray := prog_1_method_8_code
def yX4_square : MethodName := ⟨RX4, "square", "(II)I"⟩
abbrev cX4_district : ByteArray := prog_1_method_9_code
def yX4_district : MethodName := ⟨RX4, "district", "(II)I"⟩
abbrev cX4_count : ByteArray := prog_1_method_10_code
def yX4_count : MethodName := ⟨RX4, "count", "(I)I"⟩
abbrev cX4_way : ByteArray := prog_1_method_11_code
def yX4_way : MethodName := ⟨RX4, "way", "(III)I"⟩
abbrev cX4_must : ByteArray := prog_1_method_12_code
def yX4_must : MethodName := ⟨RX4, "must", "(III)I"⟩
abbrev cX4_cutOff : ByteArray := prog_1_method_13_code
def yX4_cutOff : MethodName := ⟨RX4, "cutOff", "(II)I"⟩
abbrev cX4_ifBuilt : ByteArray := prog_1_method_14_code
def yX4_ifBuilt : MethodName := ⟨RX4, "ifBuilt", "(III)I"⟩
abbrev cX4_bestBuilt : ByteArray := prog_1_method_15_code
def yX4_bestBuilt : MethodName := ⟨RX4, "bestBuilt", "(I)I"⟩
abbrev cX4_worstLoss : ByteArray := prog_1_method_16_code
def yX4_worstLoss : MethodName := ⟨RX4, "worstLoss", "(I)I"⟩
abbrev cX4_needed : ByteArray := prog_1_method_17_code
def yX4_needed : MethodName := ⟨RX4, "needed", "(I)I"⟩
abbrev cX4_undo : ByteArray := prog_1_method_22_code
def yX4_undo : MethodName := ⟨RX4, "undo", "()I"⟩
abbrev cX4_contains : ByteArray := prog_1_method_25_code
def yX4_contains : MethodName := ⟨RX4, "contains", "(II)Z"⟩
abbrev cX4_setForMembers : ByteArray := prog_1_method_26_code
def yX4_setForMembers : MethodName := ⟨RX4, "setForMembers", "([III)V"⟩
def RX5 : String := "PartingRoadsModel"
def TX5 : u_T := fun k => match k with
  | _ => ("", "", "", false)
def tyX5 : Nat → FieldType := fun k => match k with
  | _ => .int
abbrev wsX50 : List Cond := u_ws RX5 TX5 0
theorem nmX5 : ∀ a, a < 0 → ∀ b, b < 0 → a ≠ b → (TX5 a).2.1 ≠ (TX5 b).2.1 := by decide +kernel
theorem tyX5_ok : ∀ k, k < 0 → parseFieldDescriptor (TX5 k).2.2.1 = some (tyX5 k) := by decide +kernel
def RJ6 : String := "java/lang/Integer"
def TJ6 : u_T := fun k => match k with
  | _ => ("", "", "", false)
def tyJ6 : Nat → FieldType := fun k => match k with
  | _ => .int
abbrev wsJ60 : List Cond := u_ws RJ6 TJ6 0
theorem nmJ6 : ∀ a, a < 0 → ∀ b, b < 0 → a ≠ b → (TJ6 a).2.1 ≠ (TJ6 b).2.1 := by decide +kernel
theorem tyJ6_ok : ∀ k, k < 0 → parseFieldDescriptor (TJ6 k).2.2.1 = some (tyJ6 k) := by decide +kernel
abbrev cJ6_bitCount_0f7a4 : ByteArray := prog_8_method_49_code
def yJ6_bitCount_0f7a4 : MethodName := ⟨RJ6, "bitCount", "(I)I"⟩
def RJ9 : String := "java/lang/Math"
def TJ9 : u_T := fun k => match k with
  | _ => ("", "", "", false)
def tyJ9 : Nat → FieldType := fun k => match k with
  | _ => .int
abbrev wsJ90 : List Cond := u_ws RJ9 TJ9 0
theorem nmJ9 : ∀ a, a < 0 → ∀ b, b < 0 → a ≠ b → (TJ9 a).2.1 ≠ (TJ9 b).2.1 := by decide +kernel
theorem tyJ9_ok : ∀ k, k < 0 → parseFieldDescriptor (TJ9 k).2.2.1 = some (tyJ9 k) := by decide +kernel
abbrev cJ9_max_7cf53 : ByteArray := prog_9_method_65_code
def yJ9_max_7cf53 : MethodName := ⟨RJ9, "max", "(II)I"⟩
abbrev cJ9_min_7cf53 : ByteArray := prog_9_method_69_code
def yJ9_min_7cf53 : MethodName := ⟨RJ9, "min", "(II)I"⟩
def RJ10 : String := "java/lang/System"
def TJ10 : u_T := fun k => match k with
  | _ => ("", "", "", false)
def tyJ10 : Nat → FieldType := fun k => match k with
  | _ => .int
abbrev wsJ100 : List Cond := u_ws RJ10 TJ10 0
theorem nmJ10 : ∀ a, a < 0 → ∀ b, b < 0 → a ≠ b → (TJ10 a).2.1 ≠ (TJ10 b).2.1 := by decide +kernel
theorem tyJ10_ok : ∀ k, k < 0 → parseFieldDescriptor (TJ10 k).2.2.1 = some (tyJ10 k) := by decide +kernel
def RL : String := "PartingRoadsLaw"
abbrev cL_cell : ByteArray := method_2_code
def yL_cell : MethodName := ⟨RL, "cell", "([II)I"⟩
abbrev cL_up : ByteArray := method_3_code
def yL_up : MethodName := ⟨RL, "up", "(II)I"⟩
abbrev cL_bits : ByteArray := method_4_code
def yL_bits : MethodName := ⟨RL, "bits", "(I)I"⟩
abbrev cL_there : ByteArray := method_5_code
def yL_there : MethodName := ⟨RL, "there", "(II)I"⟩
abbrev cL_isStep : ByteArray := method_6_code
def yL_isStep : MethodName := ⟨RL, "isStep", "(LPartingRoads;LPartingRoads;II)Z"⟩
abbrev cL_areAlike : ByteArray := method_7_code
def yL_areAlike : MethodName := ⟨RL, "areAlike", "(LPartingRoads;LPartingRoads;II)Z"⟩
abbrev cL_isTree : ByteArray := method_8_code
def yL_isTree : MethodName := ⟨RL, "isTree", "(LPartingRoads;I)Z"⟩
abbrev cL_law : ByteArray := code
def yL_law : MethodName := ⟨RL, "law", "([I)Z"⟩
def wsX3_init : List Cond := .code yX3_init cX3_init 1 none :: ([.methodLink RX3 3 objectInit, .instanceMethod objectInit, .code objectInit ⟨#[0xb1]⟩ 1 none, .fieldLink RX3 9 "PartingRoads$Town" "squareCount" "I", .fieldLink RX3 15 "PartingRoads$Town" "roadCount" "I", .arrayClass .int, .fieldLink RX3 18 "PartingRoads$Town" "lower" "[I", .fieldLink RX3 22 "PartingRoads$Town" "higher" "[I", .fieldLink RX3 25 "PartingRoads$Town" "lengths" "[I", .fieldLink RX3 28 "PartingRoads$Town" "ends" "[I"] ++ wsX30)
def wsX0_init : List Cond := .code yX0_init cX0_init 2 none :: ([.methodLink RX0 3 objectInit, .instanceMethod objectInit, .code objectInit ⟨#[0xb1]⟩ 1 none, .classLink RX0 9 RX3, .fieldLink RX0 11 "PartingRoads$History" "states" "[LPartingRoads$Town;", .fieldLink RX0 17 "PartingRoads$History" "changes" "I", .instantiable RX3 6, .initialized RX3, .instanceMethod yX3_init, .code yX3_init cX3_init 1 none, .methodLink RX3 3 objectInit, .fieldLink RX3 9 "PartingRoads$Town" "squareCount" "I", .fieldLink RX3 15 "PartingRoads$Town" "roadCount" "I", .arrayClass .int, .fieldLink RX3 18 "PartingRoads$Town" "lower" "[I", .fieldLink RX3 22 "PartingRoads$Town" "higher" "[I", .fieldLink RX3 25 "PartingRoads$Town" "lengths" "[I", .fieldLink RX3 28 "PartingRoads$Town" "ends" "[I"] ++ wsX00 ++ wsX30)
def wsX0_dropOldest : List Cond := .code yX0_dropOldest cX0_dropOldest 3 none :: ([.fieldLink RX0 11 "PartingRoads$History" "states" "[LPartingRoads$Town;", .fieldLink RX0 17 "PartingRoads$History" "changes" "I"] ++ wsX00)
def wsX3_copyFrom : List Cond := .code yX3_copyFrom cX3_copyFrom 2 none :: ([.fieldLink RX3 9 "PartingRoads$Town" "squareCount" "I", .fieldLink RX3 15 "PartingRoads$Town" "roadCount" "I", .fieldLink RX3 18 "PartingRoads$Town" "lower" "[I", .methodLink RX3 31 arraycopyName, .native arraycopyName, .static arraycopyName, .initialized "java/lang/System", .fieldLink RX3 22 "PartingRoads$Town" "higher" "[I", .fieldLink RX3 25 "PartingRoads$Town" "lengths" "[I", .fieldLink RX3 28 "PartingRoads$Town" "ends" "[I"] ++ wsX30)
def wsX0_record : List Cond := .code yX0_record cX0_record 2 none :: ([.fieldLink RX0 17 "PartingRoads$History" "changes" "I", .fieldLink RX0 11 "PartingRoads$History" "states" "[LPartingRoads$Town;", .methodLink RX0 22 yX0_dropOldest, .instanceMethod yX0_dropOldest, .selects RX0 yX0_dropOldest yX0_dropOldest, .initialized RX0, .code yX0_dropOldest cX0_dropOldest 3 none, .methodLink RX0 25 yX3_copyFrom, .instanceMethod yX3_copyFrom, .selects RX3 yX3_copyFrom yX3_copyFrom, .initialized RX3, .code yX3_copyFrom cX3_copyFrom 2 none, .fieldLink RX3 9 "PartingRoads$Town" "squareCount" "I", .fieldLink RX3 15 "PartingRoads$Town" "roadCount" "I", .fieldLink RX3 18 "PartingRoads$Town" "lower" "[I", .methodLink RX3 31 arraycopyName, .native arraycopyName, .static arraycopyName, .initialized "java/lang/System", .fieldLink RX3 22 "PartingRoads$Town" "higher" "[I", .fieldLink RX3 25 "PartingRoads$Town" "lengths" "[I", .fieldLink RX3 28 "PartingRoads$Town" "ends" "[I"] ++ wsX00 ++ wsX30)
def wsX0_takeBack : List Cond := .code yX0_takeBack cX0_takeBack 2 none :: ([.fieldLink RX0 17 "PartingRoads$History" "changes" "I", .fieldLink RX0 11 "PartingRoads$History" "states" "[LPartingRoads$Town;", .methodLink RX0 25 yX3_copyFrom, .instanceMethod yX3_copyFrom, .selects RX3 yX3_copyFrom yX3_copyFrom, .initialized RX3, .code yX3_copyFrom cX3_copyFrom 2 none, .fieldLink RX3 9 "PartingRoads$Town" "squareCount" "I", .fieldLink RX3 15 "PartingRoads$Town" "roadCount" "I", .fieldLink RX3 18 "PartingRoads$Town" "lower" "[I", .methodLink RX3 31 arraycopyName, .native arraycopyName, .static arraycopyName, .initialized "java/lang/System", .fieldLink RX3 22 "PartingRoads$Town" "higher" "[I", .fieldLink RX3 25 "PartingRoads$Town" "lengths" "[I", .fieldLink RX3 28 "PartingRoads$Town" "ends" "[I"] ++ wsX00 ++ wsX30)
def wsX1_init : List Cond := .code yX1_init cX1_init 1 none :: ([.methodLink RX1 3 objectInit, .instanceMethod objectInit, .code objectInit ⟨#[0xb1]⟩ 1 none, .arrayClass .char, .fieldLink RX1 9 "PartingRoads$Pad" "characters" "[C", .fieldLink RX1 15 "PartingRoads$Pad" "length" "I", .arrayClass .int, .fieldLink RX1 19 "PartingRoads$Pad" "numbers" "[I", .fieldLink RX1 23 "PartingRoads$Pad" "numberCount" "I", .fieldLink RX1 26 "PartingRoads$Pad" "number" "I"] ++ wsX10)
def wsX4_contains : List Cond := .code yX4_contains cX4_contains 2 (some .boolean) :: ([])
def wsX3_allRoads : List Cond := .code yX3_allRoads cX3_allRoads 1 (some .int) :: ([.fieldLink RX3 15 "PartingRoads$Town" "roadCount" "I"] ++ wsX30)
def wsX3_reach : List Cond := .code yX3_reach cX3_reach 7 (some .int) :: ([.fieldLink RX3 15 "PartingRoads$Town" "roadCount" "I", .fieldLink RX3 28 "PartingRoads$Town" "ends" "[I", .static yX4_contains, .initialized RX4, .code yX4_contains cX4_contains 2 (some .boolean)] ++ wsX30)
def wsX4_setForMembers : List Cond := .code yX4_setForMembers cX4_setForMembers 4 none :: ([.methodLink RX4 117 yX4_contains, .static yX4_contains, .initialized RX4, .code yX4_contains cX4_contains 2 (some .boolean)])
def wsX2_findPieces : List Cond := .code yX2_findPieces cX2_findPieces 4 none :: ([.fieldLink RX2 43 "PartingRoads$Survey" "pieces" "I", .fieldLink RX2 27 "PartingRoads$Survey" "town" "LPartingRoads$Town;", .fieldLink RX2 47 "PartingRoads$Town" "squareCount" "I", .fieldLink RX2 9 "PartingRoads$Survey" "pieceOf" "[I", .static yX4_contains, .initialized RX4, .code yX4_contains cX4_contains 2 (some .boolean), .methodLink RX2 56 yX3_allRoads, .instanceMethod yX3_allRoads, .selects RX3 yX3_allRoads yX3_allRoads, .initialized RX3, .code yX3_allRoads cX3_allRoads 1 (some .int), .fieldLink RX3 15 "PartingRoads$Town" "roadCount" "I", .methodLink RX2 60 yX3_reach, .instanceMethod yX3_reach, .selects RX3 yX3_reach yX3_reach, .code yX3_reach cX3_reach 7 (some .int), .fieldLink RX3 28 "PartingRoads$Town" "ends" "[I", .static yX4_setForMembers, .code yX4_setForMembers cX4_setForMembers 4 none, .methodLink RX4 117 yX4_contains] ++ wsX20 ++ wsX30)
def wsX2_findPartingRoads : List Cond := .code yX2_findPartingRoads cX2_findPartingRoads 2 none :: ([.fieldLink RX2 68 "PartingRoads$Survey" "partingRoads" "I", .fieldLink RX2 27 "PartingRoads$Survey" "town" "LPartingRoads$Town;", .fieldLink RX2 71 "PartingRoads$Town" "roadCount" "I", .fieldLink RX2 21 "PartingRoads$Survey" "lowerSide" "[I", .fieldLink RX2 74 "PartingRoads$Town" "lower" "[I", .fieldLink RX2 77 "PartingRoads$Town" "higher" "[I", .methodLink RX2 56 yX3_allRoads, .instanceMethod yX3_allRoads, .selects RX3 yX3_allRoads yX3_allRoads, .initialized RX3, .code yX3_allRoads cX3_allRoads 1 (some .int), .fieldLink RX3 15 "PartingRoads$Town" "roadCount" "I", .methodLink RX2 60 yX3_reach, .instanceMethod yX3_reach, .selects RX3 yX3_reach yX3_reach, .code yX3_reach cX3_reach 7 (some .int), .fieldLink RX3 28 "PartingRoads$Town" "ends" "[I", .static yX4_contains, .initialized RX4, .code yX4_contains cX4_contains 2 (some .boolean)] ++ wsX20 ++ wsX30)
def wsX2_findDistricts : List Cond := .code yX2_findDistricts cX2_findDistricts 4 none :: ([.fieldLink RX2 80 "PartingRoads$Survey" "districts" "I", .fieldLink RX2 27 "PartingRoads$Survey" "town" "LPartingRoads$Town;", .fieldLink RX2 47 "PartingRoads$Town" "squareCount" "I", .fieldLink RX2 68 "PartingRoads$Survey" "partingRoads" "I", .fieldLink RX2 15 "PartingRoads$Survey" "districtOf" "[I", .fieldLink RX2 18 "PartingRoads$Survey" "districtSquares" "[I", .static yX4_contains, .initialized RX4, .code yX4_contains cX4_contains 2 (some .boolean), .methodLink RX2 56 yX3_allRoads, .instanceMethod yX3_allRoads, .selects RX3 yX3_allRoads yX3_allRoads, .initialized RX3, .code yX3_allRoads cX3_allRoads 1 (some .int), .fieldLink RX3 15 "PartingRoads$Town" "roadCount" "I", .methodLink RX2 60 yX3_reach, .instanceMethod yX3_reach, .selects RX3 yX3_reach yX3_reach, .code yX3_reach cX3_reach 7 (some .int), .fieldLink RX3 28 "PartingRoads$Town" "ends" "[I", .static yX4_setForMembers, .code yX4_setForMembers cX4_setForMembers 4 none, .methodLink RX4 117 yX4_contains] ++ wsX20 ++ wsX30)
def wsX2_renew_r1 : List Cond := [Cond.methodLink RX2 34 yX2_findPieces, Cond.instanceMethod yX2_findPieces, Cond.selects RX2 yX2_findPieces yX2_findPieces, Cond.initialized RX2, Cond.code yX2_findPieces cX2_findPieces 4 none, Cond.fieldLink RX2 43 "PartingRoads$Survey" "pieces" "I", Cond.fieldLink RX2 27 "PartingRoads$Survey" "town" "LPartingRoads$Town;", Cond.fieldLink RX2 47 "PartingRoads$Town" "squareCount" "I", Cond.fieldLink RX2 9 "PartingRoads$Survey" "pieceOf" "[I", Cond.static yX4_contains, Cond.initialized RX4, Cond.code yX4_contains cX4_contains 2 (some .boolean), Cond.methodLink RX2 56 yX3_allRoads, Cond.instanceMethod yX3_allRoads, Cond.selects RX3 yX3_allRoads yX3_allRoads, Cond.initialized RX3, Cond.code yX3_allRoads cX3_allRoads 1 (some .int), Cond.fieldLink RX3 15 "PartingRoads$Town" "roadCount" "I", Cond.methodLink RX2 60 yX3_reach, Cond.instanceMethod yX3_reach, Cond.selects RX3 yX3_reach yX3_reach, Cond.code yX3_reach cX3_reach 7 (some .int), Cond.fieldLink RX3 28 "PartingRoads$Town" "ends" "[I", Cond.static yX4_setForMembers]
def wsX2_renew_r2 : List Cond := [Cond.code yX4_setForMembers cX4_setForMembers 4 none, Cond.methodLink RX4 117 yX4_contains, Cond.methodLink RX2 37 yX2_findPartingRoads, Cond.instanceMethod yX2_findPartingRoads, Cond.selects RX2 yX2_findPartingRoads yX2_findPartingRoads, Cond.code yX2_findPartingRoads cX2_findPartingRoads 2 none, Cond.fieldLink RX2 68 "PartingRoads$Survey" "partingRoads" "I", Cond.fieldLink RX2 71 "PartingRoads$Town" "roadCount" "I", Cond.fieldLink RX2 21 "PartingRoads$Survey" "lowerSide" "[I", Cond.fieldLink RX2 74 "PartingRoads$Town" "lower" "[I", Cond.fieldLink RX2 77 "PartingRoads$Town" "higher" "[I", Cond.methodLink RX2 40 yX2_findDistricts, Cond.instanceMethod yX2_findDistricts, Cond.selects RX2 yX2_findDistricts yX2_findDistricts, Cond.code yX2_findDistricts cX2_findDistricts 4 none, Cond.fieldLink RX2 80 "PartingRoads$Survey" "districts" "I", Cond.fieldLink RX2 15 "PartingRoads$Survey" "districtOf" "[I", Cond.fieldLink RX2 18 "PartingRoads$Survey" "districtSquares" "[I"]
def wsX2_renew : List Cond := .code yX2_renew cX2_renew 1 none :: ((wsX2_renew_r1 ++ wsX2_renew_r2) ++ wsX20 ++ wsX30)
def wsX2_init_r1 : List Cond := [Cond.methodLink RX2 3 objectInit, Cond.instanceMethod objectInit, Cond.code objectInit ⟨#[0xb1]⟩ 1 none, Cond.arrayClass .int, Cond.fieldLink RX2 9 "PartingRoads$Survey" "pieceOf" "[I", Cond.fieldLink RX2 15 "PartingRoads$Survey" "districtOf" "[I", Cond.fieldLink RX2 18 "PartingRoads$Survey" "districtSquares" "[I", Cond.fieldLink RX2 21 "PartingRoads$Survey" "lowerSide" "[I", Cond.fieldLink RX2 24 "PartingRoads$Survey" "distances" "[I", Cond.fieldLink RX2 27 "PartingRoads$Survey" "town" "LPartingRoads$Town;", Cond.methodLink RX2 31 yX2_renew, Cond.instanceMethod yX2_renew, Cond.selects RX2 yX2_renew yX2_renew, Cond.initialized RX2, Cond.code yX2_renew cX2_renew 1 none, Cond.methodLink RX2 34 yX2_findPieces, Cond.instanceMethod yX2_findPieces, Cond.selects RX2 yX2_findPieces yX2_findPieces, Cond.code yX2_findPieces cX2_findPieces 4 none, Cond.fieldLink RX2 43 "PartingRoads$Survey" "pieces" "I", Cond.fieldLink RX2 47 "PartingRoads$Town" "squareCount" "I", Cond.static yX4_contains, Cond.initialized RX4, Cond.code yX4_contains cX4_contains 2 (some .boolean)]
def wsX2_init_r2 : List Cond := [Cond.methodLink RX2 56 yX3_allRoads, Cond.instanceMethod yX3_allRoads, Cond.selects RX3 yX3_allRoads yX3_allRoads, Cond.initialized RX3, Cond.code yX3_allRoads cX3_allRoads 1 (some .int), Cond.fieldLink RX3 15 "PartingRoads$Town" "roadCount" "I", Cond.methodLink RX2 60 yX3_reach, Cond.instanceMethod yX3_reach, Cond.selects RX3 yX3_reach yX3_reach, Cond.code yX3_reach cX3_reach 7 (some .int), Cond.fieldLink RX3 28 "PartingRoads$Town" "ends" "[I", Cond.static yX4_setForMembers, Cond.code yX4_setForMembers cX4_setForMembers 4 none, Cond.methodLink RX4 117 yX4_contains, Cond.methodLink RX2 37 yX2_findPartingRoads, Cond.instanceMethod yX2_findPartingRoads, Cond.selects RX2 yX2_findPartingRoads yX2_findPartingRoads, Cond.code yX2_findPartingRoads cX2_findPartingRoads 2 none, Cond.fieldLink RX2 68 "PartingRoads$Survey" "partingRoads" "I", Cond.fieldLink RX2 71 "PartingRoads$Town" "roadCount" "I", Cond.fieldLink RX2 74 "PartingRoads$Town" "lower" "[I", Cond.fieldLink RX2 77 "PartingRoads$Town" "higher" "[I", Cond.methodLink RX2 40 yX2_findDistricts, Cond.instanceMethod yX2_findDistricts]
def wsX2_init_r3 : List Cond := [Cond.selects RX2 yX2_findDistricts yX2_findDistricts, Cond.code yX2_findDistricts cX2_findDistricts 4 none, Cond.fieldLink RX2 80 "PartingRoads$Survey" "districts" "I"]
def wsX2_init : List Cond := .code yX2_init cX2_init 2 none :: ((wsX2_init_r1 ++ (wsX2_init_r2 ++ wsX2_init_r3)) ++ wsX20 ++ wsX30)
def wsX2_hangTogether : List Cond := .code yX2_hangTogether cX2_hangTogether 3 (some .boolean) :: ([.fieldLink RX2 9 "PartingRoads$Survey" "pieceOf" "[I", .static yX4_contains, .initialized RX4, .code yX4_contains cX4_contains 2 (some .boolean)] ++ wsX20)
def wsX2_squaresBehind : List Cond := .code yX2_squaresBehind cX2_squaresBehind 4 (some .int) :: ([.fieldLink RX2 21 "PartingRoads$Survey" "lowerSide" "[I", .fieldLink RX2 9 "PartingRoads$Survey" "pieceOf" "[I", .static yX4_contains, .initialized RX4, .code yX4_contains cX4_contains 2 (some .boolean)] ++ wsX20)
def wsJ6_bitCount_0f7a4 : List Cond := .code yJ6_bitCount_0f7a4 cJ6_bitCount_0f7a4 1 (some .int) :: ([.constant RJ6 265 (1431655765), .constant RJ6 266 (858993459), .constant RJ6 267 (252645135)])
def wsX2_pairsParted : List Cond := .code yX2_pairsParted cX2_pairsParted 4 (some .int) :: ([.fieldLink RX2 27 "PartingRoads$Survey" "town" "LPartingRoads$Town;", .fieldLink RX2 74 "PartingRoads$Town" "lower" "[I", .fieldLink RX2 9 "PartingRoads$Survey" "pieceOf" "[I", .methodLink RX2 83 yX2_squaresBehind, .instanceMethod yX2_squaresBehind, .selects RX2 yX2_squaresBehind yX2_squaresBehind, .initialized RX2, .code yX2_squaresBehind cX2_squaresBehind 4 (some .int), .fieldLink RX2 21 "PartingRoads$Survey" "lowerSide" "[I", .static yX4_contains, .initialized RX4, .code yX4_contains cX4_contains 2 (some .boolean), .methodLink RX2 86 yJ6_bitCount_0f7a4, .static yJ6_bitCount_0f7a4, .initialized RJ6, .code yJ6_bitCount_0f7a4 cJ6_bitCount_0f7a4 1 (some .int), .constant RJ6 265 (1431655765), .constant RJ6 266 (858993459), .constant RJ6 267 (252645135)] ++ wsX20 ++ wsX30)
def wsX2_roadsBetween : List Cond := .code yX2_roadsBetween cX2_roadsBetween 5 (some .int) :: ([.fieldLink RX2 27 "PartingRoads$Survey" "town" "LPartingRoads$Town;", .fieldLink RX2 71 "PartingRoads$Town" "roadCount" "I", .methodLink RX2 83 yX2_squaresBehind, .instanceMethod yX2_squaresBehind, .selects RX2 yX2_squaresBehind yX2_squaresBehind, .initialized RX2, .code yX2_squaresBehind cX2_squaresBehind 4 (some .int), .fieldLink RX2 21 "PartingRoads$Survey" "lowerSide" "[I", .fieldLink RX2 9 "PartingRoads$Survey" "pieceOf" "[I", .static yX4_contains, .initialized RX4, .code yX4_contains cX4_contains 2 (some .boolean)] ++ wsX20 ++ wsX30)
def wsX2_roadsAhead : List Cond := .code yX2_roadsAhead cX2_roadsAhead 7 (some .int) :: ([.fieldLink RX2 27 "PartingRoads$Survey" "town" "LPartingRoads$Town;", .fieldLink RX2 71 "PartingRoads$Town" "roadCount" "I", .methodLink RX2 83 yX2_squaresBehind, .instanceMethod yX2_squaresBehind, .selects RX2 yX2_squaresBehind yX2_squaresBehind, .initialized RX2, .code yX2_squaresBehind cX2_squaresBehind 4 (some .int), .fieldLink RX2 21 "PartingRoads$Survey" "lowerSide" "[I", .fieldLink RX2 9 "PartingRoads$Survey" "pieceOf" "[I", .static yX4_contains, .initialized RX4, .code yX4_contains cX4_contains 2 (some .boolean), .methodLink RX2 86 yJ6_bitCount_0f7a4, .static yJ6_bitCount_0f7a4, .initialized RJ6, .code yJ6_bitCount_0f7a4 cJ6_bitCount_0f7a4 1 (some .int), .constant RJ6 265 (1431655765), .constant RJ6 266 (858993459), .constant RJ6 267 (252645135)] ++ wsX20 ++ wsX30)
def wsX2_roadOnWay_r1 : List Cond := [Cond.fieldLink RX2 27 "PartingRoads$Survey" "town" "LPartingRoads$Town;", Cond.fieldLink RX2 71 "PartingRoads$Town" "roadCount" "I", Cond.methodLink RX2 92 yX2_roadsBetween, Cond.instanceMethod yX2_roadsBetween, Cond.selects RX2 yX2_roadsBetween yX2_roadsBetween, Cond.initialized RX2, Cond.code yX2_roadsBetween cX2_roadsBetween 5 (some .int), Cond.methodLink RX2 83 yX2_squaresBehind, Cond.instanceMethod yX2_squaresBehind, Cond.selects RX2 yX2_squaresBehind yX2_squaresBehind, Cond.code yX2_squaresBehind cX2_squaresBehind 4 (some .int), Cond.fieldLink RX2 21 "PartingRoads$Survey" "lowerSide" "[I", Cond.fieldLink RX2 9 "PartingRoads$Survey" "pieceOf" "[I", Cond.static yX4_contains, Cond.initialized RX4, Cond.code yX4_contains cX4_contains 2 (some .boolean), Cond.methodLink RX2 95 yX2_roadsAhead, Cond.instanceMethod yX2_roadsAhead, Cond.selects RX2 yX2_roadsAhead yX2_roadsAhead, Cond.code yX2_roadsAhead cX2_roadsAhead 7 (some .int), Cond.methodLink RX2 86 yJ6_bitCount_0f7a4, Cond.static yJ6_bitCount_0f7a4, Cond.initialized RJ6, Cond.code yJ6_bitCount_0f7a4 cJ6_bitCount_0f7a4 1 (some .int)]
def wsX2_roadOnWay_r2 : List Cond := [Cond.constant RJ6 265 (1431655765), Cond.constant RJ6 266 (858993459), Cond.constant RJ6 267 (252645135)]
def wsX2_roadOnWay : List Cond := .code yX2_roadOnWay cX2_roadOnWay 6 (some .int) :: ((wsX2_roadOnWay_r1 ++ wsX2_roadOnWay_r2) ++ wsX20 ++ wsX30)
def wsX2_partingRoadsAfter_r1 : List Cond := [Cond.fieldLink RX2 68 "PartingRoads$Survey" "partingRoads" "I", Cond.methodLink RX2 86 yJ6_bitCount_0f7a4, Cond.static yJ6_bitCount_0f7a4, Cond.initialized RJ6, Cond.code yJ6_bitCount_0f7a4 cJ6_bitCount_0f7a4 1 (some .int), Cond.constant RJ6 265 (1431655765), Cond.constant RJ6 266 (858993459), Cond.constant RJ6 267 (252645135), Cond.methodLink RX2 99 yX2_hangTogether, Cond.instanceMethod yX2_hangTogether, Cond.selects RX2 yX2_hangTogether yX2_hangTogether, Cond.initialized RX2, Cond.code yX2_hangTogether cX2_hangTogether 3 (some .boolean), Cond.fieldLink RX2 9 "PartingRoads$Survey" "pieceOf" "[I", Cond.static yX4_contains, Cond.initialized RX4, Cond.code yX4_contains cX4_contains 2 (some .boolean), Cond.methodLink RX2 92 yX2_roadsBetween, Cond.instanceMethod yX2_roadsBetween, Cond.selects RX2 yX2_roadsBetween yX2_roadsBetween, Cond.code yX2_roadsBetween cX2_roadsBetween 5 (some .int), Cond.fieldLink RX2 27 "PartingRoads$Survey" "town" "LPartingRoads$Town;", Cond.fieldLink RX2 71 "PartingRoads$Town" "roadCount" "I", Cond.methodLink RX2 83 yX2_squaresBehind]
def wsX2_partingRoadsAfter_r2 : List Cond := [Cond.instanceMethod yX2_squaresBehind, Cond.selects RX2 yX2_squaresBehind yX2_squaresBehind, Cond.code yX2_squaresBehind cX2_squaresBehind 4 (some .int), Cond.fieldLink RX2 21 "PartingRoads$Survey" "lowerSide" "[I"]
def wsX2_partingRoadsAfter : List Cond := .code yX2_partingRoadsAfter cX2_partingRoadsAfter 4 (some .int) :: ((wsX2_partingRoadsAfter_r1 ++ wsX2_partingRoadsAfter_r2) ++ wsX20 ++ wsX30)
def wsX3_roadsAt : List Cond := .code yX3_roadsAt cX3_roadsAt 4 (some .int) :: ([.fieldLink RX3 15 "PartingRoads$Town" "roadCount" "I", .fieldLink RX3 28 "PartingRoads$Town" "ends" "[I", .static yX4_contains, .initialized RX4, .code yX4_contains cX4_contains 2 (some .boolean)] ++ wsX30)
def wsX2_morePiecesWithout_r1 : List Cond := [Cond.fieldLink RX2 9 "PartingRoads$Survey" "pieceOf" "[I", Cond.fieldLink RX2 27 "PartingRoads$Survey" "town" "LPartingRoads$Town;", Cond.fieldLink RX2 47 "PartingRoads$Town" "squareCount" "I", Cond.methodLink RX2 105 Lib.Math.max.name, Cond.static Lib.Math.max.name, Cond.initialized "java/lang/Math", Cond.code Lib.Math.max.name Lib.Math.max.code 2 (some .int), Cond.methodLink RX2 56 yX3_allRoads, Cond.instanceMethod yX3_allRoads, Cond.selects RX3 yX3_allRoads yX3_allRoads, Cond.initialized RX3, Cond.code yX3_allRoads cX3_allRoads 1 (some .int), Cond.fieldLink RX3 15 "PartingRoads$Town" "roadCount" "I", Cond.methodLink RX2 102 yX3_roadsAt, Cond.instanceMethod yX3_roadsAt, Cond.selects RX3 yX3_roadsAt yX3_roadsAt, Cond.code yX3_roadsAt cX3_roadsAt 4 (some .int), Cond.fieldLink RX3 28 "PartingRoads$Town" "ends" "[I", Cond.static yX4_contains, Cond.initialized RX4, Cond.code yX4_contains cX4_contains 2 (some .boolean), Cond.methodLink RX2 60 yX3_reach, Cond.instanceMethod yX3_reach, Cond.selects RX3 yX3_reach yX3_reach]
def wsX2_morePiecesWithout_r2 : List Cond := [Cond.code yX3_reach cX3_reach 7 (some .int)]
def wsX2_morePiecesWithout : List Cond := .code yX2_morePiecesWithout cX2_morePiecesWithout 6 (some .int) :: ((wsX2_morePiecesWithout_r1 ++ wsX2_morePiecesWithout_r2) ++ wsX20 ++ wsX30)
def wsX2_partingSquares_r1 : List Cond := [Cond.fieldLink RX2 27 "PartingRoads$Survey" "town" "LPartingRoads$Town;", Cond.fieldLink RX2 47 "PartingRoads$Town" "squareCount" "I", Cond.methodLink RX2 110 yX2_morePiecesWithout, Cond.instanceMethod yX2_morePiecesWithout, Cond.selects RX2 yX2_morePiecesWithout yX2_morePiecesWithout, Cond.initialized RX2, Cond.code yX2_morePiecesWithout cX2_morePiecesWithout 6 (some .int), Cond.fieldLink RX2 9 "PartingRoads$Survey" "pieceOf" "[I", Cond.methodLink RX2 105 Lib.Math.max.name, Cond.static Lib.Math.max.name, Cond.initialized "java/lang/Math", Cond.code Lib.Math.max.name Lib.Math.max.code 2 (some .int), Cond.methodLink RX2 56 yX3_allRoads, Cond.instanceMethod yX3_allRoads, Cond.selects RX3 yX3_allRoads yX3_allRoads, Cond.initialized RX3, Cond.code yX3_allRoads cX3_allRoads 1 (some .int), Cond.fieldLink RX3 15 "PartingRoads$Town" "roadCount" "I", Cond.methodLink RX2 102 yX3_roadsAt, Cond.instanceMethod yX3_roadsAt, Cond.selects RX3 yX3_roadsAt yX3_roadsAt, Cond.code yX3_roadsAt cX3_roadsAt 4 (some .int), Cond.fieldLink RX3 28 "PartingRoads$Town" "ends" "[I", Cond.static yX4_contains]
def wsX2_partingSquares_r2 : List Cond := [Cond.initialized RX4, Cond.code yX4_contains cX4_contains 2 (some .boolean), Cond.methodLink RX2 60 yX3_reach, Cond.instanceMethod yX3_reach, Cond.selects RX3 yX3_reach yX3_reach, Cond.code yX3_reach cX3_reach 7 (some .int)]
def wsX2_partingSquares : List Cond := .code yX2_partingSquares cX2_partingSquares 3 (some .int) :: ((wsX2_partingSquares_r1 ++ wsX2_partingSquares_r2) ++ wsX20 ++ wsX30)
def wsX2_partingRoadsOut : List Cond := .code yX2_partingRoadsOut cX2_partingRoadsOut 4 (some .int) :: ([.fieldLink RX2 27 "PartingRoads$Survey" "town" "LPartingRoads$Town;", .fieldLink RX2 71 "PartingRoads$Town" "roadCount" "I", .fieldLink RX2 68 "PartingRoads$Survey" "partingRoads" "I", .fieldLink RX2 113 "PartingRoads$Town" "ends" "[I", .static yX4_contains, .initialized RX4, .code yX4_contains cX4_contains 2 (some .boolean)] ++ wsX20 ++ wsX30)
def wsX3_roadsWithin : List Cond := .code yX3_roadsWithin cX3_roadsWithin 4 (some .int) :: ([.fieldLink RX3 15 "PartingRoads$Town" "roadCount" "I", .fieldLink RX3 28 "PartingRoads$Town" "ends" "[I"] ++ wsX30)
def wsX3_lengthOf : List Cond := .code yX3_lengthOf cX3_lengthOf 4 (some .int) :: ([.fieldLink RX3 15 "PartingRoads$Town" "roadCount" "I", .fieldLink RX3 25 "PartingRoads$Town" "lengths" "[I", .static yX4_contains, .initialized RX4, .code yX4_contains cX4_contains 2 (some .boolean)] ++ wsX30)
def wsX2_longestDistrict : List Cond := .code yX2_longestDistrict cX2_longestDistrict 5 (some .int) :: ([.fieldLink RX2 27 "PartingRoads$Survey" "town" "LPartingRoads$Town;", .fieldLink RX2 18 "PartingRoads$Survey" "districtSquares" "[I", .fieldLink RX2 80 "PartingRoads$Survey" "districts" "I", .methodLink RX2 116 yX3_roadsWithin, .instanceMethod yX3_roadsWithin, .selects RX3 yX3_roadsWithin yX3_roadsWithin, .initialized RX3, .code yX3_roadsWithin cX3_roadsWithin 4 (some .int), .fieldLink RX3 15 "PartingRoads$Town" "roadCount" "I", .fieldLink RX3 28 "PartingRoads$Town" "ends" "[I", .methodLink RX2 119 yX3_lengthOf, .instanceMethod yX3_lengthOf, .selects RX3 yX3_lengthOf yX3_lengthOf, .code yX3_lengthOf cX3_lengthOf 4 (some .int), .fieldLink RX3 25 "PartingRoads$Town" "lengths" "[I", .static yX4_contains, .initialized RX4, .code yX4_contains cX4_contains 2 (some .boolean)] ++ wsX20 ++ wsX30)
def wsX2_leafDistricts : List Cond := .code yX2_leafDistricts cX2_leafDistricts 5 (some .int) :: ([.fieldLink RX2 80 "PartingRoads$Survey" "districts" "I", .fieldLink RX2 18 "PartingRoads$Survey" "districtSquares" "[I", .methodLink RX2 122 yX2_partingRoadsOut, .instanceMethod yX2_partingRoadsOut, .selects RX2 yX2_partingRoadsOut yX2_partingRoadsOut, .initialized RX2, .code yX2_partingRoadsOut cX2_partingRoadsOut 4 (some .int), .fieldLink RX2 27 "PartingRoads$Survey" "town" "LPartingRoads$Town;", .fieldLink RX2 71 "PartingRoads$Town" "roadCount" "I", .fieldLink RX2 68 "PartingRoads$Survey" "partingRoads" "I", .fieldLink RX2 113 "PartingRoads$Town" "ends" "[I", .static yX4_contains, .initialized RX4, .code yX4_contains cX4_contains 2 (some .boolean)] ++ wsX20 ++ wsX30)
def wsX3_oneRoadFurther : List Cond := .code yX3_oneRoadFurther cX3_oneRoadFurther 5 (some .int) :: ([.fieldLink RX3 15 "PartingRoads$Town" "roadCount" "I", .fieldLink RX3 28 "PartingRoads$Town" "ends" "[I", .static yX4_contains, .initialized RX4, .code yX4_contains cX4_contains 2 (some .boolean)] ++ wsX30)
def wsX2_leastRing : List Cond := .code yX2_leastRing cX2_leastRing 5 (some .int) :: ([.fieldLink RX2 27 "PartingRoads$Survey" "town" "LPartingRoads$Town;", .fieldLink RX2 74 "PartingRoads$Town" "lower" "[I", .fieldLink RX2 77 "PartingRoads$Town" "higher" "[I", .methodLink RX2 56 yX3_allRoads, .instanceMethod yX3_allRoads, .selects RX3 yX3_allRoads yX3_allRoads, .initialized RX3, .code yX3_allRoads cX3_allRoads 1 (some .int), .fieldLink RX3 15 "PartingRoads$Town" "roadCount" "I", .methodLink RX2 125 yX3_oneRoadFurther, .instanceMethod yX3_oneRoadFurther, .selects RX3 yX3_oneRoadFurther yX3_oneRoadFurther, .code yX3_oneRoadFurther cX3_oneRoadFurther 5 (some .int), .fieldLink RX3 28 "PartingRoads$Town" "ends" "[I", .static yX4_contains, .initialized RX4, .code yX4_contains cX4_contains 2 (some .boolean)] ++ wsX20 ++ wsX30)
def wsX2_shorten : List Cond := .code yX2_shorten cX2_shorten 4 (some .boolean) :: ([.fieldLink RX2 24 "PartingRoads$Survey" "distances" "[I"] ++ wsX20)
def wsX2_leastLength : List Cond := .code yX2_leastLength cX2_leastLength 6 (some .int) :: ([.fieldLink RX2 24 "PartingRoads$Survey" "distances" "[I", .fieldLink RX2 27 "PartingRoads$Survey" "town" "LPartingRoads$Town;", .fieldLink RX2 71 "PartingRoads$Town" "roadCount" "I", .fieldLink RX2 74 "PartingRoads$Town" "lower" "[I", .fieldLink RX2 77 "PartingRoads$Town" "higher" "[I", .fieldLink RX2 128 "PartingRoads$Town" "lengths" "[I", .methodLink RX2 131 yX2_shorten, .instanceMethod yX2_shorten, .selects RX2 yX2_shorten yX2_shorten, .initialized RX2, .code yX2_shorten cX2_shorten 4 (some .boolean)] ++ wsX20 ++ wsX30)
def wsX3_hasSquare : List Cond := .code yX3_hasSquare cX3_hasSquare 2 (some .boolean) :: ([.fieldLink RX3 9 "PartingRoads$Town" "squareCount" "I"] ++ wsX30)
def wsX3_hasRoad : List Cond := .code yX3_hasRoad cX3_hasRoad 2 (some .boolean) :: ([.fieldLink RX3 15 "PartingRoads$Town" "roadCount" "I"] ++ wsX30)
def wsX3_fitsInto : List Cond := .code yX3_fitsInto cX3_fitsInto 3 (some .boolean) :: ([.fieldLink RX3 15 "PartingRoads$Town" "roadCount" "I", .fieldLink RX3 22 "PartingRoads$Town" "higher" "[I"] ++ wsX30)
def wsX3_addRoad : List Cond := .code yX3_addRoad cX3_addRoad 4 none :: ([.fieldLink RX3 15 "PartingRoads$Town" "roadCount" "I", .fieldLink RX3 18 "PartingRoads$Town" "lower" "[I", .methodLink RX3 37 Lib.Math.min.name, .static Lib.Math.min.name, .initialized "java/lang/Math", .code Lib.Math.min.name Lib.Math.min.code 2 (some .int), .fieldLink RX3 22 "PartingRoads$Town" "higher" "[I", .methodLink RX3 43 Lib.Math.max.name, .static Lib.Math.max.name, .code Lib.Math.max.name Lib.Math.max.code 2 (some .int), .fieldLink RX3 25 "PartingRoads$Town" "lengths" "[I", .fieldLink RX3 28 "PartingRoads$Town" "ends" "[I"] ++ wsX30)
def wsX3_removeRoad : List Cond := .code yX3_removeRoad cX3_removeRoad 3 none :: ([.fieldLink RX3 15 "PartingRoads$Town" "roadCount" "I", .fieldLink RX3 18 "PartingRoads$Town" "lower" "[I", .fieldLink RX3 22 "PartingRoads$Town" "higher" "[I", .fieldLink RX3 25 "PartingRoads$Town" "lengths" "[I", .fieldLink RX3 28 "PartingRoads$Town" "ends" "[I"] ++ wsX30)
def wsX4_init_r1 : List Cond := [Cond.methodLink RX4 1 objectInit, Cond.instanceMethod objectInit, Cond.code objectInit ⟨#[0xb1]⟩ 1 none, Cond.classLink RX4 7 RX3, Cond.instantiable RX3 6, Cond.initialized RX3, Cond.fieldLink RX4 10 "PartingRoads" "town" "LPartingRoads$Town;", Cond.classLink RX4 16 RX2, Cond.instantiable RX2 9, Cond.initialized RX2, Cond.fieldLink RX4 21 "PartingRoads" "survey" "LPartingRoads$Survey;", Cond.classLink RX4 25 RX1, Cond.instantiable RX1 5, Cond.initialized RX1, Cond.fieldLink RX4 28 "PartingRoads" "pad" "LPartingRoads$Pad;", Cond.classLink RX4 32 RX0, Cond.instantiable RX0 2, Cond.initialized RX0, Cond.fieldLink RX4 35 "PartingRoads" "history" "LPartingRoads$History;", Cond.fieldLink RX4 39 "PartingRoads" "slots" "[LPartingRoads$Town;", Cond.arrayClass .boolean, Cond.fieldLink RX4 43 "PartingRoads" "saved" "[Z", Cond.instanceMethod yX3_init, Cond.code yX3_init cX3_init 1 none]
def wsX4_init_r2 : List Cond := [Cond.methodLink RX3 3 objectInit, Cond.fieldLink RX3 9 "PartingRoads$Town" "squareCount" "I", Cond.fieldLink RX3 15 "PartingRoads$Town" "roadCount" "I", Cond.arrayClass .int, Cond.fieldLink RX3 18 "PartingRoads$Town" "lower" "[I", Cond.fieldLink RX3 22 "PartingRoads$Town" "higher" "[I", Cond.fieldLink RX3 25 "PartingRoads$Town" "lengths" "[I", Cond.fieldLink RX3 28 "PartingRoads$Town" "ends" "[I", Cond.methodLink RX4 18 yX2_init, Cond.instanceMethod yX2_init, Cond.code yX2_init cX2_init 2 none, Cond.methodLink RX2 3 objectInit, Cond.fieldLink RX2 9 "PartingRoads$Survey" "pieceOf" "[I", Cond.fieldLink RX2 15 "PartingRoads$Survey" "districtOf" "[I", Cond.fieldLink RX2 18 "PartingRoads$Survey" "districtSquares" "[I", Cond.fieldLink RX2 21 "PartingRoads$Survey" "lowerSide" "[I", Cond.fieldLink RX2 24 "PartingRoads$Survey" "distances" "[I", Cond.fieldLink RX2 27 "PartingRoads$Survey" "town" "LPartingRoads$Town;", Cond.methodLink RX2 31 yX2_renew, Cond.instanceMethod yX2_renew, Cond.selects RX2 yX2_renew yX2_renew, Cond.code yX2_renew cX2_renew 1 none, Cond.methodLink RX2 34 yX2_findPieces, Cond.instanceMethod yX2_findPieces]
def wsX4_init_r3 : List Cond := [Cond.selects RX2 yX2_findPieces yX2_findPieces, Cond.code yX2_findPieces cX2_findPieces 4 none, Cond.fieldLink RX2 43 "PartingRoads$Survey" "pieces" "I", Cond.fieldLink RX2 47 "PartingRoads$Town" "squareCount" "I", Cond.static yX4_contains, Cond.initialized RX4, Cond.code yX4_contains cX4_contains 2 (some .boolean), Cond.methodLink RX2 56 yX3_allRoads, Cond.instanceMethod yX3_allRoads, Cond.selects RX3 yX3_allRoads yX3_allRoads, Cond.code yX3_allRoads cX3_allRoads 1 (some .int), Cond.methodLink RX2 60 yX3_reach, Cond.instanceMethod yX3_reach, Cond.selects RX3 yX3_reach yX3_reach, Cond.code yX3_reach cX3_reach 7 (some .int), Cond.static yX4_setForMembers, Cond.code yX4_setForMembers cX4_setForMembers 4 none, Cond.methodLink RX4 117 yX4_contains, Cond.methodLink RX2 37 yX2_findPartingRoads, Cond.instanceMethod yX2_findPartingRoads, Cond.selects RX2 yX2_findPartingRoads yX2_findPartingRoads, Cond.code yX2_findPartingRoads cX2_findPartingRoads 2 none, Cond.fieldLink RX2 68 "PartingRoads$Survey" "partingRoads" "I", Cond.fieldLink RX2 71 "PartingRoads$Town" "roadCount" "I"]
def wsX4_init_r4 : List Cond := [Cond.fieldLink RX2 74 "PartingRoads$Town" "lower" "[I", Cond.fieldLink RX2 77 "PartingRoads$Town" "higher" "[I", Cond.methodLink RX2 40 yX2_findDistricts, Cond.instanceMethod yX2_findDistricts, Cond.selects RX2 yX2_findDistricts yX2_findDistricts, Cond.code yX2_findDistricts cX2_findDistricts 4 none, Cond.fieldLink RX2 80 "PartingRoads$Survey" "districts" "I", Cond.instanceMethod yX1_init, Cond.code yX1_init cX1_init 1 none, Cond.methodLink RX1 3 objectInit, Cond.arrayClass .char, Cond.fieldLink RX1 9 "PartingRoads$Pad" "characters" "[C", Cond.fieldLink RX1 15 "PartingRoads$Pad" "length" "I", Cond.fieldLink RX1 19 "PartingRoads$Pad" "numbers" "[I", Cond.fieldLink RX1 23 "PartingRoads$Pad" "numberCount" "I", Cond.fieldLink RX1 26 "PartingRoads$Pad" "number" "I", Cond.methodLink RX4 34 yX0_init, Cond.instanceMethod yX0_init, Cond.code yX0_init cX0_init 2 none, Cond.methodLink RX0 3 objectInit, Cond.classLink RX0 9 RX3, Cond.fieldLink RX0 11 "PartingRoads$History" "states" "[LPartingRoads$Town;", Cond.fieldLink RX0 17 "PartingRoads$History" "changes" "I"]
def wsX4_init : List Cond := .code yX4_init cX4_init 2 none :: ((wsX4_init_r1 ++ (wsX4_init_r2 ++ (wsX4_init_r3 ++ wsX4_init_r4))) ++ wsX30 ++ wsX40 ++ wsX20 ++ wsX10 ++ wsX00)
def wsX4_squares_r1 : List Cond := [Cond.fieldLink RX4 10 "PartingRoads" "town" "LPartingRoads$Town;", Cond.fieldLink RX4 51 "PartingRoads$Town" "squareCount" "I", Cond.fieldLink RX4 35 "PartingRoads" "history" "LPartingRoads$History;", Cond.fieldLink RX4 21 "PartingRoads" "survey" "LPartingRoads$Survey;", Cond.methodLink RX4 47 yX3_fitsInto, Cond.instanceMethod yX3_fitsInto, Cond.selects RX3 yX3_fitsInto yX3_fitsInto, Cond.initialized RX3, Cond.code yX3_fitsInto cX3_fitsInto 3 (some .boolean), Cond.fieldLink RX3 15 "PartingRoads$Town" "roadCount" "I", Cond.fieldLink RX3 22 "PartingRoads$Town" "higher" "[I", Cond.methodLink RX4 55 yX0_record, Cond.instanceMethod yX0_record, Cond.selects RX0 yX0_record yX0_record, Cond.initialized RX0, Cond.code yX0_record cX0_record 2 none, Cond.fieldLink RX0 17 "PartingRoads$History" "changes" "I", Cond.fieldLink RX0 11 "PartingRoads$History" "states" "[LPartingRoads$Town;", Cond.methodLink RX0 22 yX0_dropOldest, Cond.instanceMethod yX0_dropOldest, Cond.selects RX0 yX0_dropOldest yX0_dropOldest, Cond.code yX0_dropOldest cX0_dropOldest 3 none, Cond.methodLink RX0 25 yX3_copyFrom, Cond.instanceMethod yX3_copyFrom]
def wsX4_squares_r2 : List Cond := [Cond.selects RX3 yX3_copyFrom yX3_copyFrom, Cond.code yX3_copyFrom cX3_copyFrom 2 none, Cond.fieldLink RX3 9 "PartingRoads$Town" "squareCount" "I", Cond.fieldLink RX3 18 "PartingRoads$Town" "lower" "[I", Cond.methodLink RX3 31 arraycopyName, Cond.native arraycopyName, Cond.static arraycopyName, Cond.initialized "java/lang/System", Cond.fieldLink RX3 25 "PartingRoads$Town" "lengths" "[I", Cond.fieldLink RX3 28 "PartingRoads$Town" "ends" "[I", Cond.methodLink RX4 58 yX2_renew, Cond.instanceMethod yX2_renew, Cond.selects RX2 yX2_renew yX2_renew, Cond.initialized RX2, Cond.code yX2_renew cX2_renew 1 none, Cond.methodLink RX2 34 yX2_findPieces, Cond.instanceMethod yX2_findPieces, Cond.selects RX2 yX2_findPieces yX2_findPieces, Cond.code yX2_findPieces cX2_findPieces 4 none, Cond.fieldLink RX2 43 "PartingRoads$Survey" "pieces" "I", Cond.fieldLink RX2 27 "PartingRoads$Survey" "town" "LPartingRoads$Town;", Cond.fieldLink RX2 47 "PartingRoads$Town" "squareCount" "I", Cond.fieldLink RX2 9 "PartingRoads$Survey" "pieceOf" "[I", Cond.static yX4_contains]
def wsX4_squares_r3 : List Cond := [Cond.initialized RX4, Cond.code yX4_contains cX4_contains 2 (some .boolean), Cond.methodLink RX2 56 yX3_allRoads, Cond.instanceMethod yX3_allRoads, Cond.selects RX3 yX3_allRoads yX3_allRoads, Cond.code yX3_allRoads cX3_allRoads 1 (some .int), Cond.methodLink RX2 60 yX3_reach, Cond.instanceMethod yX3_reach, Cond.selects RX3 yX3_reach yX3_reach, Cond.code yX3_reach cX3_reach 7 (some .int), Cond.static yX4_setForMembers, Cond.code yX4_setForMembers cX4_setForMembers 4 none, Cond.methodLink RX4 117 yX4_contains, Cond.methodLink RX2 37 yX2_findPartingRoads, Cond.instanceMethod yX2_findPartingRoads, Cond.selects RX2 yX2_findPartingRoads yX2_findPartingRoads, Cond.code yX2_findPartingRoads cX2_findPartingRoads 2 none, Cond.fieldLink RX2 68 "PartingRoads$Survey" "partingRoads" "I", Cond.fieldLink RX2 71 "PartingRoads$Town" "roadCount" "I", Cond.fieldLink RX2 21 "PartingRoads$Survey" "lowerSide" "[I", Cond.fieldLink RX2 74 "PartingRoads$Town" "lower" "[I", Cond.fieldLink RX2 77 "PartingRoads$Town" "higher" "[I", Cond.methodLink RX2 40 yX2_findDistricts, Cond.instanceMethod yX2_findDistricts]
def wsX4_squares_r4 : List Cond := [Cond.selects RX2 yX2_findDistricts yX2_findDistricts, Cond.code yX2_findDistricts cX2_findDistricts 4 none, Cond.fieldLink RX2 80 "PartingRoads$Survey" "districts" "I", Cond.fieldLink RX2 15 "PartingRoads$Survey" "districtOf" "[I", Cond.fieldLink RX2 18 "PartingRoads$Survey" "districtSquares" "[I"]
def wsX4_squares : List Cond := .code yX4_squares cX4_squares 3 (some .int) :: ((wsX4_squares_r1 ++ (wsX4_squares_r2 ++ (wsX4_squares_r3 ++ wsX4_squares_r4))) ++ wsX40 ++ wsX30 ++ wsX00 ++ wsX20)
def wsX4_build_r1 : List Cond := [Cond.fieldLink RX4 10 "PartingRoads" "town" "LPartingRoads$Town;", Cond.fieldLink RX4 64 "PartingRoads$Town" "roadCount" "I", Cond.fieldLink RX4 35 "PartingRoads" "history" "LPartingRoads$History;", Cond.fieldLink RX4 21 "PartingRoads" "survey" "LPartingRoads$Survey;", Cond.fieldLink RX4 71 "PartingRoads$Survey" "pieces" "I", Cond.methodLink RX4 61 yX3_hasSquare, Cond.instanceMethod yX3_hasSquare, Cond.selects RX3 yX3_hasSquare yX3_hasSquare, Cond.initialized RX3, Cond.code yX3_hasSquare cX3_hasSquare 2 (some .boolean), Cond.fieldLink RX3 9 "PartingRoads$Town" "squareCount" "I", Cond.methodLink RX4 55 yX0_record, Cond.instanceMethod yX0_record, Cond.selects RX0 yX0_record yX0_record, Cond.initialized RX0, Cond.code yX0_record cX0_record 2 none, Cond.fieldLink RX0 17 "PartingRoads$History" "changes" "I", Cond.fieldLink RX0 11 "PartingRoads$History" "states" "[LPartingRoads$Town;", Cond.methodLink RX0 22 yX0_dropOldest, Cond.instanceMethod yX0_dropOldest, Cond.selects RX0 yX0_dropOldest yX0_dropOldest, Cond.code yX0_dropOldest cX0_dropOldest 3 none, Cond.methodLink RX0 25 yX3_copyFrom, Cond.instanceMethod yX3_copyFrom]
def wsX4_build_r2 : List Cond := [Cond.selects RX3 yX3_copyFrom yX3_copyFrom, Cond.code yX3_copyFrom cX3_copyFrom 2 none, Cond.fieldLink RX3 15 "PartingRoads$Town" "roadCount" "I", Cond.fieldLink RX3 18 "PartingRoads$Town" "lower" "[I", Cond.methodLink RX3 31 arraycopyName, Cond.native arraycopyName, Cond.static arraycopyName, Cond.initialized "java/lang/System", Cond.fieldLink RX3 22 "PartingRoads$Town" "higher" "[I", Cond.fieldLink RX3 25 "PartingRoads$Town" "lengths" "[I", Cond.fieldLink RX3 28 "PartingRoads$Town" "ends" "[I", Cond.methodLink RX4 67 yX3_addRoad, Cond.instanceMethod yX3_addRoad, Cond.selects RX3 yX3_addRoad yX3_addRoad, Cond.code yX3_addRoad cX3_addRoad 4 none, Cond.methodLink RX3 37 Lib.Math.min.name, Cond.static Lib.Math.min.name, Cond.initialized "java/lang/Math", Cond.code Lib.Math.min.name Lib.Math.min.code 2 (some .int), Cond.methodLink RX3 43 Lib.Math.max.name, Cond.static Lib.Math.max.name, Cond.code Lib.Math.max.name Lib.Math.max.code 2 (some .int), Cond.methodLink RX4 58 yX2_renew, Cond.instanceMethod yX2_renew]
def wsX4_build_r3 : List Cond := [Cond.selects RX2 yX2_renew yX2_renew, Cond.initialized RX2, Cond.code yX2_renew cX2_renew 1 none, Cond.methodLink RX2 34 yX2_findPieces, Cond.instanceMethod yX2_findPieces, Cond.selects RX2 yX2_findPieces yX2_findPieces, Cond.code yX2_findPieces cX2_findPieces 4 none, Cond.fieldLink RX2 43 "PartingRoads$Survey" "pieces" "I", Cond.fieldLink RX2 27 "PartingRoads$Survey" "town" "LPartingRoads$Town;", Cond.fieldLink RX2 47 "PartingRoads$Town" "squareCount" "I", Cond.fieldLink RX2 9 "PartingRoads$Survey" "pieceOf" "[I", Cond.static yX4_contains, Cond.initialized RX4, Cond.code yX4_contains cX4_contains 2 (some .boolean), Cond.methodLink RX2 56 yX3_allRoads, Cond.instanceMethod yX3_allRoads, Cond.selects RX3 yX3_allRoads yX3_allRoads, Cond.code yX3_allRoads cX3_allRoads 1 (some .int), Cond.methodLink RX2 60 yX3_reach, Cond.instanceMethod yX3_reach, Cond.selects RX3 yX3_reach yX3_reach, Cond.code yX3_reach cX3_reach 7 (some .int), Cond.static yX4_setForMembers, Cond.code yX4_setForMembers cX4_setForMembers 4 none]
def wsX4_build_r4 : List Cond := [Cond.methodLink RX4 117 yX4_contains, Cond.methodLink RX2 37 yX2_findPartingRoads, Cond.instanceMethod yX2_findPartingRoads, Cond.selects RX2 yX2_findPartingRoads yX2_findPartingRoads, Cond.code yX2_findPartingRoads cX2_findPartingRoads 2 none, Cond.fieldLink RX2 68 "PartingRoads$Survey" "partingRoads" "I", Cond.fieldLink RX2 71 "PartingRoads$Town" "roadCount" "I", Cond.fieldLink RX2 21 "PartingRoads$Survey" "lowerSide" "[I", Cond.fieldLink RX2 74 "PartingRoads$Town" "lower" "[I", Cond.fieldLink RX2 77 "PartingRoads$Town" "higher" "[I", Cond.methodLink RX2 40 yX2_findDistricts, Cond.instanceMethod yX2_findDistricts, Cond.selects RX2 yX2_findDistricts yX2_findDistricts, Cond.code yX2_findDistricts cX2_findDistricts 4 none, Cond.fieldLink RX2 80 "PartingRoads$Survey" "districts" "I", Cond.fieldLink RX2 15 "PartingRoads$Survey" "districtOf" "[I", Cond.fieldLink RX2 18 "PartingRoads$Survey" "districtSquares" "[I"]
def wsX4_build : List Cond := .code yX4_build cX4_build 4 (some .int) :: ((wsX4_build_r1 ++ (wsX4_build_r2 ++ (wsX4_build_r3 ++ wsX4_build_r4))) ++ wsX40 ++ wsX30 ++ wsX20 ++ wsX00)
def wsX4_lose_r1 : List Cond := [Cond.fieldLink RX4 10 "PartingRoads" "town" "LPartingRoads$Town;", Cond.fieldLink RX4 35 "PartingRoads" "history" "LPartingRoads$History;", Cond.fieldLink RX4 21 "PartingRoads" "survey" "LPartingRoads$Survey;", Cond.fieldLink RX4 71 "PartingRoads$Survey" "pieces" "I", Cond.methodLink RX4 74 yX3_hasRoad, Cond.instanceMethod yX3_hasRoad, Cond.selects RX3 yX3_hasRoad yX3_hasRoad, Cond.initialized RX3, Cond.code yX3_hasRoad cX3_hasRoad 2 (some .boolean), Cond.fieldLink RX3 15 "PartingRoads$Town" "roadCount" "I", Cond.methodLink RX4 55 yX0_record, Cond.instanceMethod yX0_record, Cond.selects RX0 yX0_record yX0_record, Cond.initialized RX0, Cond.code yX0_record cX0_record 2 none, Cond.fieldLink RX0 17 "PartingRoads$History" "changes" "I", Cond.fieldLink RX0 11 "PartingRoads$History" "states" "[LPartingRoads$Town;", Cond.methodLink RX0 22 yX0_dropOldest, Cond.instanceMethod yX0_dropOldest, Cond.selects RX0 yX0_dropOldest yX0_dropOldest, Cond.code yX0_dropOldest cX0_dropOldest 3 none, Cond.methodLink RX0 25 yX3_copyFrom, Cond.instanceMethod yX3_copyFrom, Cond.selects RX3 yX3_copyFrom yX3_copyFrom]
def wsX4_lose_r2 : List Cond := [Cond.code yX3_copyFrom cX3_copyFrom 2 none, Cond.fieldLink RX3 9 "PartingRoads$Town" "squareCount" "I", Cond.fieldLink RX3 18 "PartingRoads$Town" "lower" "[I", Cond.methodLink RX3 31 arraycopyName, Cond.native arraycopyName, Cond.static arraycopyName, Cond.initialized "java/lang/System", Cond.fieldLink RX3 22 "PartingRoads$Town" "higher" "[I", Cond.fieldLink RX3 25 "PartingRoads$Town" "lengths" "[I", Cond.fieldLink RX3 28 "PartingRoads$Town" "ends" "[I", Cond.methodLink RX4 77 yX3_removeRoad, Cond.instanceMethod yX3_removeRoad, Cond.selects RX3 yX3_removeRoad yX3_removeRoad, Cond.code yX3_removeRoad cX3_removeRoad 3 none, Cond.methodLink RX4 58 yX2_renew, Cond.instanceMethod yX2_renew, Cond.selects RX2 yX2_renew yX2_renew, Cond.initialized RX2, Cond.code yX2_renew cX2_renew 1 none, Cond.methodLink RX2 34 yX2_findPieces, Cond.instanceMethod yX2_findPieces, Cond.selects RX2 yX2_findPieces yX2_findPieces, Cond.code yX2_findPieces cX2_findPieces 4 none, Cond.fieldLink RX2 43 "PartingRoads$Survey" "pieces" "I"]
def wsX4_lose_r3 : List Cond := [Cond.fieldLink RX2 27 "PartingRoads$Survey" "town" "LPartingRoads$Town;", Cond.fieldLink RX2 47 "PartingRoads$Town" "squareCount" "I", Cond.fieldLink RX2 9 "PartingRoads$Survey" "pieceOf" "[I", Cond.static yX4_contains, Cond.initialized RX4, Cond.code yX4_contains cX4_contains 2 (some .boolean), Cond.methodLink RX2 56 yX3_allRoads, Cond.instanceMethod yX3_allRoads, Cond.selects RX3 yX3_allRoads yX3_allRoads, Cond.code yX3_allRoads cX3_allRoads 1 (some .int), Cond.methodLink RX2 60 yX3_reach, Cond.instanceMethod yX3_reach, Cond.selects RX3 yX3_reach yX3_reach, Cond.code yX3_reach cX3_reach 7 (some .int), Cond.static yX4_setForMembers, Cond.code yX4_setForMembers cX4_setForMembers 4 none, Cond.methodLink RX4 117 yX4_contains, Cond.methodLink RX2 37 yX2_findPartingRoads, Cond.instanceMethod yX2_findPartingRoads, Cond.selects RX2 yX2_findPartingRoads yX2_findPartingRoads, Cond.code yX2_findPartingRoads cX2_findPartingRoads 2 none, Cond.fieldLink RX2 68 "PartingRoads$Survey" "partingRoads" "I", Cond.fieldLink RX2 71 "PartingRoads$Town" "roadCount" "I", Cond.fieldLink RX2 21 "PartingRoads$Survey" "lowerSide" "[I"]
def wsX4_lose_r4 : List Cond := [Cond.fieldLink RX2 74 "PartingRoads$Town" "lower" "[I", Cond.fieldLink RX2 77 "PartingRoads$Town" "higher" "[I", Cond.methodLink RX2 40 yX2_findDistricts, Cond.instanceMethod yX2_findDistricts, Cond.selects RX2 yX2_findDistricts yX2_findDistricts, Cond.code yX2_findDistricts cX2_findDistricts 4 none, Cond.fieldLink RX2 80 "PartingRoads$Survey" "districts" "I", Cond.fieldLink RX2 15 "PartingRoads$Survey" "districtOf" "[I", Cond.fieldLink RX2 18 "PartingRoads$Survey" "districtSquares" "[I"]
def wsX4_lose : List Cond := .code yX4_lose cX4_lose 2 (some .int) :: ((wsX4_lose_r1 ++ (wsX4_lose_r2 ++ (wsX4_lose_r3 ++ wsX4_lose_r4))) ++ wsX40 ++ wsX20 ++ wsX30 ++ wsX00)
def wsX4_road_r1 : List Cond := [Cond.fieldLink RX4 10 "PartingRoads" "town" "LPartingRoads$Town;", Cond.fieldLink RX4 104 "PartingRoads$Town" "lower" "[I", Cond.fieldLink RX4 108 "PartingRoads$Town" "higher" "[I", Cond.fieldLink RX4 111 "PartingRoads$Town" "lengths" "[I", Cond.fieldLink RX4 21 "PartingRoads" "survey" "LPartingRoads$Survey;", Cond.fieldLink RX4 114 "PartingRoads$Survey" "partingRoads" "I", Cond.methodLink RX4 74 yX3_hasRoad, Cond.instanceMethod yX3_hasRoad, Cond.selects RX3 yX3_hasRoad yX3_hasRoad, Cond.initialized RX3, Cond.code yX3_hasRoad cX3_hasRoad 2 (some .boolean), Cond.fieldLink RX3 15 "PartingRoads$Town" "roadCount" "I", Cond.methodLink RX4 117 yX4_contains, Cond.static yX4_contains, Cond.initialized RX4, Cond.code yX4_contains cX4_contains 2 (some .boolean), Cond.methodLink RX4 121 yX2_leastRing, Cond.instanceMethod yX2_leastRing, Cond.selects RX2 yX2_leastRing yX2_leastRing, Cond.initialized RX2, Cond.code yX2_leastRing cX2_leastRing 5 (some .int), Cond.fieldLink RX2 27 "PartingRoads$Survey" "town" "LPartingRoads$Town;", Cond.fieldLink RX2 74 "PartingRoads$Town" "lower" "[I", Cond.fieldLink RX2 77 "PartingRoads$Town" "higher" "[I"]
def wsX4_road_r2 : List Cond := [Cond.methodLink RX2 56 yX3_allRoads, Cond.instanceMethod yX3_allRoads, Cond.selects RX3 yX3_allRoads yX3_allRoads, Cond.code yX3_allRoads cX3_allRoads 1 (some .int), Cond.methodLink RX2 125 yX3_oneRoadFurther, Cond.instanceMethod yX3_oneRoadFurther, Cond.selects RX3 yX3_oneRoadFurther yX3_oneRoadFurther, Cond.code yX3_oneRoadFurther cX3_oneRoadFurther 5 (some .int), Cond.fieldLink RX3 28 "PartingRoads$Town" "ends" "[I", Cond.methodLink RX4 124 yX2_pairsParted, Cond.instanceMethod yX2_pairsParted, Cond.selects RX2 yX2_pairsParted yX2_pairsParted, Cond.code yX2_pairsParted cX2_pairsParted 4 (some .int), Cond.fieldLink RX2 9 "PartingRoads$Survey" "pieceOf" "[I", Cond.methodLink RX2 83 yX2_squaresBehind, Cond.instanceMethod yX2_squaresBehind, Cond.selects RX2 yX2_squaresBehind yX2_squaresBehind, Cond.code yX2_squaresBehind cX2_squaresBehind 4 (some .int), Cond.fieldLink RX2 21 "PartingRoads$Survey" "lowerSide" "[I", Cond.methodLink RX2 86 yJ6_bitCount_0f7a4, Cond.static yJ6_bitCount_0f7a4, Cond.initialized RJ6, Cond.code yJ6_bitCount_0f7a4 cJ6_bitCount_0f7a4 1 (some .int), Cond.constant RJ6 265 (1431655765)]
def wsX4_road_r3 : List Cond := [Cond.constant RJ6 266 (858993459), Cond.constant RJ6 267 (252645135)]
def wsX4_road : List Cond := .code yX4_road cX4_road 3 (some .int) :: ((wsX4_road_r1 ++ (wsX4_road_r2 ++ wsX4_road_r3)) ++ wsX40 ++ wsX30 ++ wsX20)
def wsX4_square_r1 : List Cond := [Cond.fieldLink RX4 10 "PartingRoads" "town" "LPartingRoads$Town;", Cond.fieldLink RX4 21 "PartingRoads" "survey" "LPartingRoads$Survey;", Cond.fieldLink RX4 138 "PartingRoads$Survey" "districtOf" "[I", Cond.fieldLink RX4 141 "PartingRoads$Survey" "pieceOf" "[I", Cond.methodLink RX4 61 yX3_hasSquare, Cond.instanceMethod yX3_hasSquare, Cond.selects RX3 yX3_hasSquare yX3_hasSquare, Cond.initialized RX3, Cond.code yX3_hasSquare cX3_hasSquare 2 (some .boolean), Cond.fieldLink RX3 9 "PartingRoads$Town" "squareCount" "I", Cond.methodLink RX4 127 yX3_roadsAt, Cond.instanceMethod yX3_roadsAt, Cond.selects RX3 yX3_roadsAt yX3_roadsAt, Cond.code yX3_roadsAt cX3_roadsAt 4 (some .int), Cond.fieldLink RX3 15 "PartingRoads$Town" "roadCount" "I", Cond.fieldLink RX3 28 "PartingRoads$Town" "ends" "[I", Cond.static yX4_contains, Cond.initialized RX4, Cond.code yX4_contains cX4_contains 2 (some .boolean), Cond.methodLink RX4 130 yJ6_bitCount_0f7a4, Cond.static yJ6_bitCount_0f7a4, Cond.initialized RJ6, Cond.code yJ6_bitCount_0f7a4 cJ6_bitCount_0f7a4 1 (some .int), Cond.constant RJ6 265 (1431655765)]
def wsX4_square_r2 : List Cond := [Cond.constant RJ6 266 (858993459), Cond.constant RJ6 267 (252645135), Cond.methodLink RX4 135 yX2_morePiecesWithout, Cond.instanceMethod yX2_morePiecesWithout, Cond.selects RX2 yX2_morePiecesWithout yX2_morePiecesWithout, Cond.initialized RX2, Cond.code yX2_morePiecesWithout cX2_morePiecesWithout 6 (some .int), Cond.fieldLink RX2 9 "PartingRoads$Survey" "pieceOf" "[I", Cond.fieldLink RX2 27 "PartingRoads$Survey" "town" "LPartingRoads$Town;", Cond.fieldLink RX2 47 "PartingRoads$Town" "squareCount" "I", Cond.methodLink RX2 105 Lib.Math.max.name, Cond.static Lib.Math.max.name, Cond.initialized "java/lang/Math", Cond.code Lib.Math.max.name Lib.Math.max.code 2 (some .int), Cond.methodLink RX2 56 yX3_allRoads, Cond.instanceMethod yX3_allRoads, Cond.selects RX3 yX3_allRoads yX3_allRoads, Cond.code yX3_allRoads cX3_allRoads 1 (some .int), Cond.methodLink RX2 102 yX3_roadsAt, Cond.methodLink RX2 60 yX3_reach, Cond.instanceMethod yX3_reach, Cond.selects RX3 yX3_reach yX3_reach, Cond.code yX3_reach cX3_reach 7 (some .int)]
def wsX4_square : List Cond := .code yX4_square cX4_square 3 (some .int) :: ((wsX4_square_r1 ++ wsX4_square_r2) ++ wsX40 ++ wsX20 ++ wsX30)
def wsX4_district_r1 : List Cond := [Cond.fieldLink RX4 21 "PartingRoads" "survey" "LPartingRoads$Survey;", Cond.fieldLink RX4 144 "PartingRoads$Survey" "districts" "I", Cond.fieldLink RX4 147 "PartingRoads$Survey" "districtSquares" "[I", Cond.fieldLink RX4 10 "PartingRoads" "town" "LPartingRoads$Town;", Cond.methodLink RX4 150 yX3_roadsWithin, Cond.instanceMethod yX3_roadsWithin, Cond.selects RX3 yX3_roadsWithin yX3_roadsWithin, Cond.initialized RX3, Cond.code yX3_roadsWithin cX3_roadsWithin 4 (some .int), Cond.fieldLink RX3 15 "PartingRoads$Town" "roadCount" "I", Cond.fieldLink RX3 28 "PartingRoads$Town" "ends" "[I", Cond.methodLink RX4 153 yX3_lengthOf, Cond.instanceMethod yX3_lengthOf, Cond.selects RX3 yX3_lengthOf yX3_lengthOf, Cond.code yX3_lengthOf cX3_lengthOf 4 (some .int), Cond.fieldLink RX3 25 "PartingRoads$Town" "lengths" "[I", Cond.static yX4_contains, Cond.initialized RX4, Cond.code yX4_contains cX4_contains 2 (some .boolean), Cond.methodLink RX4 156 yX2_partingRoadsOut, Cond.instanceMethod yX2_partingRoadsOut, Cond.selects RX2 yX2_partingRoadsOut yX2_partingRoadsOut, Cond.initialized RX2, Cond.code yX2_partingRoadsOut cX2_partingRoadsOut 4 (some .int)]
def wsX4_district_r2 : List Cond := [Cond.fieldLink RX2 27 "PartingRoads$Survey" "town" "LPartingRoads$Town;", Cond.fieldLink RX2 71 "PartingRoads$Town" "roadCount" "I", Cond.fieldLink RX2 68 "PartingRoads$Survey" "partingRoads" "I", Cond.fieldLink RX2 113 "PartingRoads$Town" "ends" "[I", Cond.methodLink RX4 130 yJ6_bitCount_0f7a4, Cond.static yJ6_bitCount_0f7a4, Cond.initialized RJ6, Cond.code yJ6_bitCount_0f7a4 cJ6_bitCount_0f7a4 1 (some .int), Cond.constant RJ6 265 (1431655765), Cond.constant RJ6 266 (858993459), Cond.constant RJ6 267 (252645135)]
def wsX4_district : List Cond := .code yX4_district cX4_district 4 (some .int) :: ((wsX4_district_r1 ++ wsX4_district_r2) ++ wsX40 ++ wsX20 ++ wsX30)
def wsX4_count_r1 : List Cond := [Cond.fieldLink RX4 10 "PartingRoads" "town" "LPartingRoads$Town;", Cond.fieldLink RX4 51 "PartingRoads$Town" "squareCount" "I", Cond.fieldLink RX4 64 "PartingRoads$Town" "roadCount" "I", Cond.fieldLink RX4 21 "PartingRoads" "survey" "LPartingRoads$Survey;", Cond.fieldLink RX4 71 "PartingRoads$Survey" "pieces" "I", Cond.fieldLink RX4 114 "PartingRoads$Survey" "partingRoads" "I", Cond.fieldLink RX4 144 "PartingRoads$Survey" "districts" "I", Cond.fieldLink RX4 28 "PartingRoads" "pad" "LPartingRoads$Pad;", Cond.fieldLink RX4 101 "PartingRoads$Pad" "length" "I", Cond.fieldLink RX4 35 "PartingRoads" "history" "LPartingRoads$History;", Cond.fieldLink RX4 168 "PartingRoads$History" "changes" "I", Cond.methodLink RX4 130 yJ6_bitCount_0f7a4, Cond.static yJ6_bitCount_0f7a4, Cond.initialized RJ6, Cond.code yJ6_bitCount_0f7a4 cJ6_bitCount_0f7a4 1 (some .int), Cond.constant RJ6 265 (1431655765), Cond.constant RJ6 266 (858993459), Cond.constant RJ6 267 (252645135), Cond.methodLink RX4 159 yX2_partingSquares, Cond.instanceMethod yX2_partingSquares, Cond.selects RX2 yX2_partingSquares yX2_partingSquares, Cond.initialized RX2, Cond.code yX2_partingSquares cX2_partingSquares 3 (some .int), Cond.fieldLink RX2 27 "PartingRoads$Survey" "town" "LPartingRoads$Town;"]
def wsX4_count_r2 : List Cond := [Cond.fieldLink RX2 47 "PartingRoads$Town" "squareCount" "I", Cond.methodLink RX2 110 yX2_morePiecesWithout, Cond.instanceMethod yX2_morePiecesWithout, Cond.selects RX2 yX2_morePiecesWithout yX2_morePiecesWithout, Cond.code yX2_morePiecesWithout cX2_morePiecesWithout 6 (some .int), Cond.fieldLink RX2 9 "PartingRoads$Survey" "pieceOf" "[I", Cond.methodLink RX2 105 Lib.Math.max.name, Cond.static Lib.Math.max.name, Cond.initialized "java/lang/Math", Cond.code Lib.Math.max.name Lib.Math.max.code 2 (some .int), Cond.methodLink RX2 56 yX3_allRoads, Cond.instanceMethod yX3_allRoads, Cond.selects RX3 yX3_allRoads yX3_allRoads, Cond.initialized RX3, Cond.code yX3_allRoads cX3_allRoads 1 (some .int), Cond.fieldLink RX3 15 "PartingRoads$Town" "roadCount" "I", Cond.methodLink RX2 102 yX3_roadsAt, Cond.instanceMethod yX3_roadsAt, Cond.selects RX3 yX3_roadsAt yX3_roadsAt, Cond.code yX3_roadsAt cX3_roadsAt 4 (some .int), Cond.fieldLink RX3 28 "PartingRoads$Town" "ends" "[I", Cond.static yX4_contains, Cond.initialized RX4, Cond.code yX4_contains cX4_contains 2 (some .boolean)]
def wsX4_count_r3 : List Cond := [Cond.methodLink RX2 60 yX3_reach, Cond.instanceMethod yX3_reach, Cond.selects RX3 yX3_reach yX3_reach, Cond.code yX3_reach cX3_reach 7 (some .int), Cond.methodLink RX4 162 yX2_longestDistrict, Cond.instanceMethod yX2_longestDistrict, Cond.selects RX2 yX2_longestDistrict yX2_longestDistrict, Cond.code yX2_longestDistrict cX2_longestDistrict 5 (some .int), Cond.fieldLink RX2 18 "PartingRoads$Survey" "districtSquares" "[I", Cond.fieldLink RX2 80 "PartingRoads$Survey" "districts" "I", Cond.methodLink RX2 116 yX3_roadsWithin, Cond.instanceMethod yX3_roadsWithin, Cond.selects RX3 yX3_roadsWithin yX3_roadsWithin, Cond.code yX3_roadsWithin cX3_roadsWithin 4 (some .int), Cond.methodLink RX2 119 yX3_lengthOf, Cond.instanceMethod yX3_lengthOf, Cond.selects RX3 yX3_lengthOf yX3_lengthOf, Cond.code yX3_lengthOf cX3_lengthOf 4 (some .int), Cond.fieldLink RX3 25 "PartingRoads$Town" "lengths" "[I", Cond.methodLink RX4 165 yX3_allRoads, Cond.methodLink RX4 153 yX3_lengthOf]
def wsX4_count : List Cond := .code yX4_count cX4_count 2 (some .int) :: ((wsX4_count_r1 ++ (wsX4_count_r2 ++ wsX4_count_r3)) ++ wsX40 ++ wsX30 ++ wsX20 ++ wsX10 ++ wsX00)
def wsX4_way_r1 : List Cond := [Cond.fieldLink RX4 10 "PartingRoads" "town" "LPartingRoads$Town;", Cond.fieldLink RX4 21 "PartingRoads" "survey" "LPartingRoads$Survey;", Cond.methodLink RX4 61 yX3_hasSquare, Cond.instanceMethod yX3_hasSquare, Cond.selects RX3 yX3_hasSquare yX3_hasSquare, Cond.initialized RX3, Cond.code yX3_hasSquare cX3_hasSquare 2 (some .boolean), Cond.fieldLink RX3 9 "PartingRoads$Town" "squareCount" "I", Cond.methodLink RX4 171 yX2_hangTogether, Cond.instanceMethod yX2_hangTogether, Cond.selects RX2 yX2_hangTogether yX2_hangTogether, Cond.initialized RX2, Cond.code yX2_hangTogether cX2_hangTogether 3 (some .boolean), Cond.fieldLink RX2 9 "PartingRoads$Survey" "pieceOf" "[I", Cond.static yX4_contains, Cond.initialized RX4, Cond.code yX4_contains cX4_contains 2 (some .boolean), Cond.methodLink RX4 174 yX2_leastLength, Cond.instanceMethod yX2_leastLength, Cond.selects RX2 yX2_leastLength yX2_leastLength, Cond.code yX2_leastLength cX2_leastLength 6 (some .int), Cond.fieldLink RX2 24 "PartingRoads$Survey" "distances" "[I", Cond.fieldLink RX2 27 "PartingRoads$Survey" "town" "LPartingRoads$Town;", Cond.fieldLink RX2 71 "PartingRoads$Town" "roadCount" "I"]
def wsX4_way_r2 : List Cond := [Cond.fieldLink RX2 74 "PartingRoads$Town" "lower" "[I", Cond.fieldLink RX2 77 "PartingRoads$Town" "higher" "[I", Cond.fieldLink RX2 128 "PartingRoads$Town" "lengths" "[I", Cond.methodLink RX2 131 yX2_shorten, Cond.instanceMethod yX2_shorten, Cond.selects RX2 yX2_shorten yX2_shorten, Cond.code yX2_shorten cX2_shorten 4 (some .boolean), Cond.methodLink RX4 178 yX2_roadsBetween, Cond.instanceMethod yX2_roadsBetween, Cond.selects RX2 yX2_roadsBetween yX2_roadsBetween, Cond.code yX2_roadsBetween cX2_roadsBetween 5 (some .int), Cond.methodLink RX2 83 yX2_squaresBehind, Cond.instanceMethod yX2_squaresBehind, Cond.selects RX2 yX2_squaresBehind yX2_squaresBehind, Cond.code yX2_squaresBehind cX2_squaresBehind 4 (some .int), Cond.fieldLink RX2 21 "PartingRoads$Survey" "lowerSide" "[I", Cond.methodLink RX4 130 yJ6_bitCount_0f7a4, Cond.static yJ6_bitCount_0f7a4, Cond.initialized RJ6, Cond.code yJ6_bitCount_0f7a4 cJ6_bitCount_0f7a4 1 (some .int), Cond.constant RJ6 265 (1431655765), Cond.constant RJ6 266 (858993459), Cond.constant RJ6 267 (252645135)]
def wsX4_way : List Cond := .code yX4_way cX4_way 5 (some .int) :: ((wsX4_way_r1 ++ wsX4_way_r2) ++ wsX40 ++ wsX30 ++ wsX20)
def wsX4_must_r1 : List Cond := [Cond.fieldLink RX4 10 "PartingRoads" "town" "LPartingRoads$Town;", Cond.fieldLink RX4 21 "PartingRoads" "survey" "LPartingRoads$Survey;", Cond.methodLink RX4 61 yX3_hasSquare, Cond.instanceMethod yX3_hasSquare, Cond.selects RX3 yX3_hasSquare yX3_hasSquare, Cond.initialized RX3, Cond.code yX3_hasSquare cX3_hasSquare 2 (some .boolean), Cond.fieldLink RX3 9 "PartingRoads$Town" "squareCount" "I", Cond.methodLink RX4 181 yX2_roadOnWay, Cond.instanceMethod yX2_roadOnWay, Cond.selects RX2 yX2_roadOnWay yX2_roadOnWay, Cond.initialized RX2, Cond.code yX2_roadOnWay cX2_roadOnWay 6 (some .int), Cond.fieldLink RX2 27 "PartingRoads$Survey" "town" "LPartingRoads$Town;", Cond.fieldLink RX2 71 "PartingRoads$Town" "roadCount" "I", Cond.methodLink RX2 92 yX2_roadsBetween, Cond.instanceMethod yX2_roadsBetween, Cond.selects RX2 yX2_roadsBetween yX2_roadsBetween, Cond.code yX2_roadsBetween cX2_roadsBetween 5 (some .int), Cond.methodLink RX2 83 yX2_squaresBehind, Cond.instanceMethod yX2_squaresBehind, Cond.selects RX2 yX2_squaresBehind yX2_squaresBehind, Cond.code yX2_squaresBehind cX2_squaresBehind 4 (some .int), Cond.fieldLink RX2 21 "PartingRoads$Survey" "lowerSide" "[I"]
def wsX4_must_r2 : List Cond := [Cond.fieldLink RX2 9 "PartingRoads$Survey" "pieceOf" "[I", Cond.static yX4_contains, Cond.initialized RX4, Cond.code yX4_contains cX4_contains 2 (some .boolean), Cond.methodLink RX2 95 yX2_roadsAhead, Cond.instanceMethod yX2_roadsAhead, Cond.selects RX2 yX2_roadsAhead yX2_roadsAhead, Cond.code yX2_roadsAhead cX2_roadsAhead 7 (some .int), Cond.methodLink RX2 86 yJ6_bitCount_0f7a4, Cond.static yJ6_bitCount_0f7a4, Cond.initialized RJ6, Cond.code yJ6_bitCount_0f7a4 cJ6_bitCount_0f7a4 1 (some .int), Cond.constant RJ6 265 (1431655765), Cond.constant RJ6 266 (858993459), Cond.constant RJ6 267 (252645135)]
def wsX4_must : List Cond := .code yX4_must cX4_must 4 (some .int) :: ((wsX4_must_r1 ++ wsX4_must_r2) ++ wsX40 ++ wsX30 ++ wsX20)
def wsX4_cutOff : List Cond := .code yX4_cutOff cX4_cutOff 3 (some .int) :: ([.fieldLink RX4 10 "PartingRoads" "town" "LPartingRoads$Town;", .fieldLink RX4 21 "PartingRoads" "survey" "LPartingRoads$Survey;", .methodLink RX4 61 yX3_hasSquare, .instanceMethod yX3_hasSquare, .selects RX3 yX3_hasSquare yX3_hasSquare, .initialized RX3, .code yX3_hasSquare cX3_hasSquare 2 (some .boolean), .fieldLink RX3 9 "PartingRoads$Town" "squareCount" "I", .methodLink RX4 74 yX3_hasRoad, .instanceMethod yX3_hasRoad, .selects RX3 yX3_hasRoad yX3_hasRoad, .code yX3_hasRoad cX3_hasRoad 2 (some .boolean), .fieldLink RX3 15 "PartingRoads$Town" "roadCount" "I", .methodLink RX4 185 yX2_squaresBehind, .instanceMethod yX2_squaresBehind, .selects RX2 yX2_squaresBehind yX2_squaresBehind, .initialized RX2, .code yX2_squaresBehind cX2_squaresBehind 4 (some .int), .fieldLink RX2 21 "PartingRoads$Survey" "lowerSide" "[I", .fieldLink RX2 9 "PartingRoads$Survey" "pieceOf" "[I", .static yX4_contains, .initialized RX4, .code yX4_contains cX4_contains 2 (some .boolean)] ++ wsX40 ++ wsX30 ++ wsX20)
def wsX4_ifBuilt_r1 : List Cond := [Cond.fieldLink RX4 10 "PartingRoads" "town" "LPartingRoads$Town;", Cond.fieldLink RX4 21 "PartingRoads" "survey" "LPartingRoads$Survey;", Cond.fieldLink RX4 144 "PartingRoads$Survey" "districts" "I", Cond.fieldLink RX4 71 "PartingRoads$Survey" "pieces" "I", Cond.methodLink RX4 61 yX3_hasSquare, Cond.instanceMethod yX3_hasSquare, Cond.selects RX3 yX3_hasSquare yX3_hasSquare, Cond.initialized RX3, Cond.code yX3_hasSquare cX3_hasSquare 2 (some .boolean), Cond.fieldLink RX3 9 "PartingRoads$Town" "squareCount" "I", Cond.methodLink RX4 178 yX2_roadsBetween, Cond.instanceMethod yX2_roadsBetween, Cond.selects RX2 yX2_roadsBetween yX2_roadsBetween, Cond.initialized RX2, Cond.code yX2_roadsBetween cX2_roadsBetween 5 (some .int), Cond.fieldLink RX2 27 "PartingRoads$Survey" "town" "LPartingRoads$Town;", Cond.fieldLink RX2 71 "PartingRoads$Town" "roadCount" "I", Cond.methodLink RX2 83 yX2_squaresBehind, Cond.instanceMethod yX2_squaresBehind, Cond.selects RX2 yX2_squaresBehind yX2_squaresBehind, Cond.code yX2_squaresBehind cX2_squaresBehind 4 (some .int), Cond.fieldLink RX2 21 "PartingRoads$Survey" "lowerSide" "[I", Cond.fieldLink RX2 9 "PartingRoads$Survey" "pieceOf" "[I", Cond.static yX4_contains]
def wsX4_ifBuilt_r2 : List Cond := [Cond.initialized RX4, Cond.code yX4_contains cX4_contains 2 (some .boolean), Cond.methodLink RX4 130 yJ6_bitCount_0f7a4, Cond.static yJ6_bitCount_0f7a4, Cond.initialized RJ6, Cond.code yJ6_bitCount_0f7a4 cJ6_bitCount_0f7a4 1 (some .int), Cond.constant RJ6 265 (1431655765), Cond.constant RJ6 266 (858993459), Cond.constant RJ6 267 (252645135), Cond.methodLink RX4 171 yX2_hangTogether, Cond.instanceMethod yX2_hangTogether, Cond.selects RX2 yX2_hangTogether yX2_hangTogether, Cond.code yX2_hangTogether cX2_hangTogether 3 (some .boolean)]
def wsX4_ifBuilt : List Cond := .code yX4_ifBuilt cX4_ifBuilt 5 (some .int) :: ((wsX4_ifBuilt_r1 ++ wsX4_ifBuilt_r2) ++ wsX40 ++ wsX20 ++ wsX30)
def wsX4_bestBuilt_r1 : List Cond := [Cond.fieldLink RX4 21 "PartingRoads" "survey" "LPartingRoads$Survey;", Cond.fieldLink RX4 10 "PartingRoads" "town" "LPartingRoads$Town;", Cond.fieldLink RX4 51 "PartingRoads$Town" "squareCount" "I", Cond.methodLink RX4 188 yX2_partingRoadsAfter, Cond.instanceMethod yX2_partingRoadsAfter, Cond.selects RX2 yX2_partingRoadsAfter yX2_partingRoadsAfter, Cond.initialized RX2, Cond.code yX2_partingRoadsAfter cX2_partingRoadsAfter 4 (some .int), Cond.fieldLink RX2 68 "PartingRoads$Survey" "partingRoads" "I", Cond.methodLink RX2 86 yJ6_bitCount_0f7a4, Cond.static yJ6_bitCount_0f7a4, Cond.initialized RJ6, Cond.code yJ6_bitCount_0f7a4 cJ6_bitCount_0f7a4 1 (some .int), Cond.constant RJ6 265 (1431655765), Cond.constant RJ6 266 (858993459), Cond.constant RJ6 267 (252645135), Cond.methodLink RX2 99 yX2_hangTogether, Cond.instanceMethod yX2_hangTogether, Cond.selects RX2 yX2_hangTogether yX2_hangTogether, Cond.code yX2_hangTogether cX2_hangTogether 3 (some .boolean), Cond.fieldLink RX2 9 "PartingRoads$Survey" "pieceOf" "[I", Cond.static yX4_contains, Cond.initialized RX4, Cond.code yX4_contains cX4_contains 2 (some .boolean)]
def wsX4_bestBuilt_r2 : List Cond := [Cond.methodLink RX2 92 yX2_roadsBetween, Cond.instanceMethod yX2_roadsBetween, Cond.selects RX2 yX2_roadsBetween yX2_roadsBetween, Cond.code yX2_roadsBetween cX2_roadsBetween 5 (some .int), Cond.fieldLink RX2 27 "PartingRoads$Survey" "town" "LPartingRoads$Town;", Cond.fieldLink RX2 71 "PartingRoads$Town" "roadCount" "I", Cond.methodLink RX2 83 yX2_squaresBehind, Cond.instanceMethod yX2_squaresBehind, Cond.selects RX2 yX2_squaresBehind yX2_squaresBehind, Cond.code yX2_squaresBehind cX2_squaresBehind 4 (some .int), Cond.fieldLink RX2 21 "PartingRoads$Survey" "lowerSide" "[I"]
def wsX4_bestBuilt : List Cond := .code yX4_bestBuilt cX4_bestBuilt 8 (some .int) :: ((wsX4_bestBuilt_r1 ++ wsX4_bestBuilt_r2) ++ wsX40 ++ wsX30 ++ wsX20)
def wsX4_worstLoss_r1 : List Cond := [Cond.fieldLink RX4 10 "PartingRoads" "town" "LPartingRoads$Town;", Cond.fieldLink RX4 64 "PartingRoads$Town" "roadCount" "I", Cond.fieldLink RX4 21 "PartingRoads" "survey" "LPartingRoads$Survey;", Cond.methodLink RX4 124 yX2_pairsParted, Cond.instanceMethod yX2_pairsParted, Cond.selects RX2 yX2_pairsParted yX2_pairsParted, Cond.initialized RX2, Cond.code yX2_pairsParted cX2_pairsParted 4 (some .int), Cond.fieldLink RX2 27 "PartingRoads$Survey" "town" "LPartingRoads$Town;", Cond.fieldLink RX2 74 "PartingRoads$Town" "lower" "[I", Cond.fieldLink RX2 9 "PartingRoads$Survey" "pieceOf" "[I", Cond.methodLink RX2 83 yX2_squaresBehind, Cond.instanceMethod yX2_squaresBehind, Cond.selects RX2 yX2_squaresBehind yX2_squaresBehind, Cond.code yX2_squaresBehind cX2_squaresBehind 4 (some .int), Cond.fieldLink RX2 21 "PartingRoads$Survey" "lowerSide" "[I", Cond.static yX4_contains, Cond.initialized RX4, Cond.code yX4_contains cX4_contains 2 (some .boolean), Cond.methodLink RX2 86 yJ6_bitCount_0f7a4, Cond.static yJ6_bitCount_0f7a4, Cond.initialized RJ6, Cond.code yJ6_bitCount_0f7a4 cJ6_bitCount_0f7a4 1 (some .int), Cond.constant RJ6 265 (1431655765)]
def wsX4_worstLoss_r2 : List Cond := [Cond.constant RJ6 266 (858993459), Cond.constant RJ6 267 (252645135)]
def wsX4_worstLoss : List Cond := .code yX4_worstLoss cX4_worstLoss 6 (some .int) :: ((wsX4_worstLoss_r1 ++ wsX4_worstLoss_r2) ++ wsX40 ++ wsX30 ++ wsX20)
def wsX4_needed_r1 : List Cond := [Cond.fieldLink RX4 10 "PartingRoads" "town" "LPartingRoads$Town;", Cond.fieldLink RX4 21 "PartingRoads" "survey" "LPartingRoads$Survey;", Cond.fieldLink RX4 141 "PartingRoads$Survey" "pieceOf" "[I", Cond.methodLink RX4 61 yX3_hasSquare, Cond.instanceMethod yX3_hasSquare, Cond.selects RX3 yX3_hasSquare yX3_hasSquare, Cond.initialized RX3, Cond.code yX3_hasSquare cX3_hasSquare 2 (some .boolean), Cond.fieldLink RX3 9 "PartingRoads$Town" "squareCount" "I", Cond.methodLink RX4 191 yX2_leafDistricts, Cond.instanceMethod yX2_leafDistricts, Cond.selects RX2 yX2_leafDistricts yX2_leafDistricts, Cond.initialized RX2, Cond.code yX2_leafDistricts cX2_leafDistricts 5 (some .int), Cond.fieldLink RX2 80 "PartingRoads$Survey" "districts" "I", Cond.fieldLink RX2 18 "PartingRoads$Survey" "districtSquares" "[I", Cond.methodLink RX2 122 yX2_partingRoadsOut, Cond.instanceMethod yX2_partingRoadsOut, Cond.selects RX2 yX2_partingRoadsOut yX2_partingRoadsOut, Cond.code yX2_partingRoadsOut cX2_partingRoadsOut 4 (some .int), Cond.fieldLink RX2 27 "PartingRoads$Survey" "town" "LPartingRoads$Town;", Cond.fieldLink RX2 71 "PartingRoads$Town" "roadCount" "I", Cond.fieldLink RX2 68 "PartingRoads$Survey" "partingRoads" "I", Cond.fieldLink RX2 113 "PartingRoads$Town" "ends" "[I"]
def wsX4_needed_r2 : List Cond := [Cond.static yX4_contains, Cond.initialized RX4, Cond.code yX4_contains cX4_contains 2 (some .boolean)]
def wsX4_needed : List Cond := .code yX4_needed cX4_needed 3 (some .int) :: ((wsX4_needed_r1 ++ wsX4_needed_r2) ++ wsX40 ++ wsX20 ++ wsX30)
def wsX4_undo_r1 : List Cond := [Cond.fieldLink RX4 35 "PartingRoads" "history" "LPartingRoads$History;", Cond.fieldLink RX4 168 "PartingRoads$History" "changes" "I", Cond.fieldLink RX4 10 "PartingRoads" "town" "LPartingRoads$Town;", Cond.fieldLink RX4 21 "PartingRoads" "survey" "LPartingRoads$Survey;", Cond.methodLink RX4 208 yX0_takeBack, Cond.instanceMethod yX0_takeBack, Cond.selects RX0 yX0_takeBack yX0_takeBack, Cond.initialized RX0, Cond.code yX0_takeBack cX0_takeBack 2 none, Cond.fieldLink RX0 17 "PartingRoads$History" "changes" "I", Cond.fieldLink RX0 11 "PartingRoads$History" "states" "[LPartingRoads$Town;", Cond.methodLink RX0 25 yX3_copyFrom, Cond.instanceMethod yX3_copyFrom, Cond.selects RX3 yX3_copyFrom yX3_copyFrom, Cond.initialized RX3, Cond.code yX3_copyFrom cX3_copyFrom 2 none, Cond.fieldLink RX3 9 "PartingRoads$Town" "squareCount" "I", Cond.fieldLink RX3 15 "PartingRoads$Town" "roadCount" "I", Cond.fieldLink RX3 18 "PartingRoads$Town" "lower" "[I", Cond.methodLink RX3 31 arraycopyName, Cond.native arraycopyName, Cond.static arraycopyName, Cond.initialized "java/lang/System", Cond.fieldLink RX3 22 "PartingRoads$Town" "higher" "[I"]
def wsX4_undo_r2 : List Cond := [Cond.fieldLink RX3 25 "PartingRoads$Town" "lengths" "[I", Cond.fieldLink RX3 28 "PartingRoads$Town" "ends" "[I", Cond.methodLink RX4 58 yX2_renew, Cond.instanceMethod yX2_renew, Cond.selects RX2 yX2_renew yX2_renew, Cond.initialized RX2, Cond.code yX2_renew cX2_renew 1 none, Cond.methodLink RX2 34 yX2_findPieces, Cond.instanceMethod yX2_findPieces, Cond.selects RX2 yX2_findPieces yX2_findPieces, Cond.code yX2_findPieces cX2_findPieces 4 none, Cond.fieldLink RX2 43 "PartingRoads$Survey" "pieces" "I", Cond.fieldLink RX2 27 "PartingRoads$Survey" "town" "LPartingRoads$Town;", Cond.fieldLink RX2 47 "PartingRoads$Town" "squareCount" "I", Cond.fieldLink RX2 9 "PartingRoads$Survey" "pieceOf" "[I", Cond.static yX4_contains, Cond.initialized RX4, Cond.code yX4_contains cX4_contains 2 (some .boolean), Cond.methodLink RX2 56 yX3_allRoads, Cond.instanceMethod yX3_allRoads, Cond.selects RX3 yX3_allRoads yX3_allRoads, Cond.code yX3_allRoads cX3_allRoads 1 (some .int), Cond.methodLink RX2 60 yX3_reach, Cond.instanceMethod yX3_reach]
def wsX4_undo_r3 : List Cond := [Cond.selects RX3 yX3_reach yX3_reach, Cond.code yX3_reach cX3_reach 7 (some .int), Cond.static yX4_setForMembers, Cond.code yX4_setForMembers cX4_setForMembers 4 none, Cond.methodLink RX4 117 yX4_contains, Cond.methodLink RX2 37 yX2_findPartingRoads, Cond.instanceMethod yX2_findPartingRoads, Cond.selects RX2 yX2_findPartingRoads yX2_findPartingRoads, Cond.code yX2_findPartingRoads cX2_findPartingRoads 2 none, Cond.fieldLink RX2 68 "PartingRoads$Survey" "partingRoads" "I", Cond.fieldLink RX2 71 "PartingRoads$Town" "roadCount" "I", Cond.fieldLink RX2 21 "PartingRoads$Survey" "lowerSide" "[I", Cond.fieldLink RX2 74 "PartingRoads$Town" "lower" "[I", Cond.fieldLink RX2 77 "PartingRoads$Town" "higher" "[I", Cond.methodLink RX2 40 yX2_findDistricts, Cond.instanceMethod yX2_findDistricts, Cond.selects RX2 yX2_findDistricts yX2_findDistricts, Cond.code yX2_findDistricts cX2_findDistricts 4 none, Cond.fieldLink RX2 80 "PartingRoads$Survey" "districts" "I", Cond.fieldLink RX2 15 "PartingRoads$Survey" "districtOf" "[I", Cond.fieldLink RX2 18 "PartingRoads$Survey" "districtSquares" "[I"]
def wsX4_undo : List Cond := .code yX4_undo cX4_undo 1 (some .int) :: ((wsX4_undo_r1 ++ (wsX4_undo_r2 ++ wsX4_undo_r3)) ++ wsX40 ++ wsX00 ++ wsX30 ++ wsX20)
def wsJ9_max_7cf53 : List Cond := .code yJ9_max_7cf53 cJ9_max_7cf53 2 (some .int) :: ([])
def wsJ9_min_7cf53 : List Cond := .code yJ9_min_7cf53 cJ9_min_7cf53 2 (some .int) :: ([])
set_option maxRecDepth 20000 in
theorem ggX0_init_X3_init : GoodIn wsX0_init wsX3_init := goodIn_r _ [10, 11, 2, 3, 12, 13, 14, 15, 16, 17, 18, 21, 22, 23, 24, 25, 26] (by decide +kernel) (by decide +kernel)
set_option maxRecDepth 20000 in
theorem gX0_init_X3_init_n21 : GoodIn wsX0_init (wsX3_init) := ggX0_init_X3_init
set_option maxRecDepth 20000 in
theorem ggX0_record_X0_dropOldest : GoodIn wsX0_record wsX0_dropOldest := goodIn_r _ [7, 2, 1, 23, 24] (by decide +kernel) (by decide +kernel)
set_option maxRecDepth 20000 in
theorem gX0_record_X0_dropOldest : GoodIn wsX0_record (wsV RX0 22 RX0 yX0_dropOldest wsX0_dropOldest) := goodIn_app (goodIn_of _ (by decide +kernel)) ggX0_record_X0_dropOldest
set_option maxRecDepth 20000 in
theorem ggX0_record_X3_copyFrom : GoodIn wsX0_record wsX3_copyFrom := goodIn_r _ [12, 13, 14, 15, 16, 17, 18, 19, 20, 21, 22, 25, 26, 27, 28, 29, 30] (by decide +kernel) (by decide +kernel)
set_option maxRecDepth 20000 in
theorem gX0_record_X3_copyFrom : GoodIn wsX0_record (wsV RX0 25 RX3 yX3_copyFrom wsX3_copyFrom) := goodIn_app (goodIn_of _ (by decide +kernel)) ggX0_record_X3_copyFrom
set_option maxRecDepth 20000 in
theorem ggX0_takeBack_X3_copyFrom : GoodIn wsX0_takeBack wsX3_copyFrom := goodIn_r _ [7, 8, 9, 10, 11, 12, 13, 14, 15, 16, 17, 20, 21, 22, 23, 24, 25] (by decide +kernel) (by decide +kernel)
set_option maxRecDepth 20000 in
theorem gX0_takeBack_X3_copyFrom : GoodIn wsX0_takeBack (wsV RX0 25 RX3 yX3_copyFrom wsX3_copyFrom) := goodIn_app (goodIn_of _ (by decide +kernel)) ggX0_takeBack_X3_copyFrom
set_option maxRecDepth 20000 in
theorem ggX2_init_X2_renew : GoodIn wsX2_init wsX2_renew := goodIn_r _ [15, 16, 17, 18, 14, 19, 20, 10, 21, 5, 22, 23, 24, 25, 26, 27, 28, 29, 30, 31, 32, 33, 34, 35, 36, 37, 38, 39, 40, 41, 42, 43, 44, 8, 45, 46, 47, 48, 49, 50, 51, 6, 7, 52, 53, 54, 55, 56, 57, 58, 59, 60, 61, 62, 63, 64, 65, 66] (by decide +kernel) (by decide +kernel)
set_option maxRecDepth 20000 in
theorem gX2_init_X2_renew : GoodIn wsX2_init (wsV RX2 31 RX2 yX2_renew wsX2_renew) := goodIn_app (goodIn_of _ (by decide +kernel)) ggX2_init_X2_renew
set_option maxRecDepth 20000 in
theorem ggX2_renew_X2_findPieces : GoodIn wsX2_renew wsX2_findPieces := goodIn_r _ [5, 6, 7, 8, 9, 10, 11, 12, 13, 14, 15, 16, 17, 18, 19, 20, 21, 22, 23, 24, 25, 26, 43, 44, 45, 46, 47, 48, 49, 50, 51, 52, 53, 54, 55, 56, 57] (by decide +kernel) (by decide +kernel)
set_option maxRecDepth 20000 in
theorem gX2_renew_X2_findPieces : GoodIn wsX2_renew (wsV RX2 34 RX2 yX2_findPieces wsX2_findPieces) := goodIn_app (goodIn_of _ (by decide +kernel)) ggX2_renew_X2_findPieces
set_option maxRecDepth 20000 in
theorem ggX2_renew_X2_findPartingRoads : GoodIn wsX2_renew wsX2_findPartingRoads := goodIn_r _ [30, 31, 7, 32, 33, 34, 35, 13, 14, 15, 16, 17, 18, 19, 20, 21, 22, 23, 10, 11, 12, 43, 44, 45, 46, 47, 48, 49, 50, 51, 52, 53, 54, 55, 56, 57] (by decide +kernel) (by decide +kernel)
set_option maxRecDepth 20000 in
theorem gX2_renew_X2_findPartingRoads : GoodIn wsX2_renew (wsV RX2 37 RX2 yX2_findPartingRoads wsX2_findPartingRoads) := goodIn_app (goodIn_of _ (by decide +kernel)) ggX2_renew_X2_findPartingRoads
set_option maxRecDepth 20000 in
theorem ggX2_renew_X2_findDistricts : GoodIn wsX2_renew wsX2_findDistricts := goodIn_r _ [39, 40, 7, 8, 31, 41, 42, 10, 11, 12, 13, 14, 15, 16, 17, 18, 19, 20, 21, 22, 23, 24, 25, 26, 43, 44, 45, 46, 47, 48, 49, 50, 51, 52, 53, 54, 55, 56, 57] (by decide +kernel) (by decide +kernel)
set_option maxRecDepth 20000 in
theorem gX2_renew_X2_findDistricts : GoodIn wsX2_renew (wsV RX2 40 RX2 yX2_findDistricts wsX2_findDistricts) := goodIn_app (goodIn_of _ (by decide +kernel)) ggX2_renew_X2_findDistricts
set_option maxRecDepth 20000 in
theorem ggX2_findPieces_X4_contains : GoodIn wsX2_findPieces wsX4_contains := goodIn_r _ [7] (by decide +kernel) (by decide +kernel)
set_option maxRecDepth 20000 in
theorem gX2_findPieces_X4_contains_n52 : GoodIn wsX2_findPieces (wsX4_contains) := ggX2_findPieces_X4_contains
set_option maxRecDepth 20000 in
theorem ggX2_findPieces_X3_allRoads : GoodIn wsX2_findPieces wsX3_allRoads := goodIn_r _ [12, 13, 31, 32, 33, 34, 35, 36] (by decide +kernel) (by decide +kernel)
set_option maxRecDepth 20000 in
theorem gX2_findPieces_X3_allRoads : GoodIn wsX2_findPieces (wsV RX2 56 RX3 yX3_allRoads wsX3_allRoads) := goodIn_app (goodIn_of _ (by decide +kernel)) ggX2_findPieces_X3_allRoads
set_option maxRecDepth 20000 in
theorem ggX2_findPieces_X3_reach : GoodIn wsX2_findPieces wsX3_reach := goodIn_r _ [17, 13, 18, 5, 6, 7, 31, 32, 33, 34, 35, 36] (by decide +kernel) (by decide +kernel)
set_option maxRecDepth 20000 in
theorem gX2_findPieces_X3_reach : GoodIn wsX2_findPieces (wsV RX2 60 RX3 yX3_reach wsX3_reach) := goodIn_app (goodIn_of _ (by decide +kernel)) ggX2_findPieces_X3_reach
set_option maxRecDepth 20000 in
theorem ggX2_findPieces_X4_setForMembers : GoodIn wsX2_findPieces wsX4_setForMembers := goodIn_r _ [20, 21, 5, 6, 7] (by decide +kernel) (by decide +kernel)
set_option maxRecDepth 20000 in
theorem gX2_findPieces_X4_setForMembers_n64 : GoodIn wsX2_findPieces (wsX4_setForMembers) := ggX2_findPieces_X4_setForMembers
set_option maxRecDepth 20000 in
theorem ggX2_findPartingRoads_X3_allRoads : GoodIn wsX2_findPartingRoads wsX3_allRoads := goodIn_r _ [11, 12, 30, 31, 32, 33, 34, 35] (by decide +kernel) (by decide +kernel)
set_option maxRecDepth 20000 in
theorem gX2_findPartingRoads_X3_allRoads : GoodIn wsX2_findPartingRoads (wsV RX2 56 RX3 yX3_allRoads wsX3_allRoads) := goodIn_app (goodIn_of _ (by decide +kernel)) ggX2_findPartingRoads_X3_allRoads
set_option maxRecDepth 20000 in
theorem ggX2_findPartingRoads_X3_reach : GoodIn wsX2_findPartingRoads wsX3_reach := goodIn_r _ [16, 12, 17, 18, 19, 20, 30, 31, 32, 33, 34, 35] (by decide +kernel) (by decide +kernel)
set_option maxRecDepth 20000 in
theorem gX2_findPartingRoads_X3_reach : GoodIn wsX2_findPartingRoads (wsV RX2 60 RX3 yX3_reach wsX3_reach) := goodIn_app (goodIn_of _ (by decide +kernel)) ggX2_findPartingRoads_X3_reach
set_option maxRecDepth 20000 in
theorem ggX2_findPartingRoads_X4_contains : GoodIn wsX2_findPartingRoads wsX4_contains := goodIn_r _ [20] (by decide +kernel) (by decide +kernel)
set_option maxRecDepth 20000 in
theorem gX2_findPartingRoads_X4_contains_n52 : GoodIn wsX2_findPartingRoads (wsX4_contains) := ggX2_findPartingRoads_X4_contains
set_option maxRecDepth 20000 in
theorem ggX2_findDistricts_X4_contains : GoodIn wsX2_findDistricts wsX4_contains := goodIn_r _ [9] (by decide +kernel) (by decide +kernel)
set_option maxRecDepth 20000 in
theorem gX2_findDistricts_X4_contains_n52 : GoodIn wsX2_findDistricts (wsX4_contains) := ggX2_findDistricts_X4_contains
set_option maxRecDepth 20000 in
theorem ggX2_findDistricts_X3_allRoads : GoodIn wsX2_findDistricts wsX3_allRoads := goodIn_r _ [14, 15, 33, 34, 35, 36, 37, 38] (by decide +kernel) (by decide +kernel)
set_option maxRecDepth 20000 in
theorem gX2_findDistricts_X3_allRoads : GoodIn wsX2_findDistricts (wsV RX2 56 RX3 yX3_allRoads wsX3_allRoads) := goodIn_app (goodIn_of _ (by decide +kernel)) ggX2_findDistricts_X3_allRoads
set_option maxRecDepth 20000 in
theorem ggX2_findDistricts_X3_reach : GoodIn wsX2_findDistricts wsX3_reach := goodIn_r _ [19, 15, 20, 7, 8, 9, 33, 34, 35, 36, 37, 38] (by decide +kernel) (by decide +kernel)
set_option maxRecDepth 20000 in
theorem gX2_findDistricts_X3_reach : GoodIn wsX2_findDistricts (wsV RX2 60 RX3 yX3_reach wsX3_reach) := goodIn_app (goodIn_of _ (by decide +kernel)) ggX2_findDistricts_X3_reach
set_option maxRecDepth 20000 in
theorem ggX2_findDistricts_X4_setForMembers : GoodIn wsX2_findDistricts wsX4_setForMembers := goodIn_r _ [22, 23, 7, 8, 9] (by decide +kernel) (by decide +kernel)
set_option maxRecDepth 20000 in
theorem gX2_findDistricts_X4_setForMembers_n64 : GoodIn wsX2_findDistricts (wsX4_setForMembers) := ggX2_findDistricts_X4_setForMembers
set_option maxRecDepth 20000 in
theorem ggX2_hangTogether_X4_contains : GoodIn wsX2_hangTogether wsX4_contains := goodIn_r _ [4] (by decide +kernel) (by decide +kernel)
set_option maxRecDepth 20000 in
theorem gX2_hangTogether_X4_contains_n52 : GoodIn wsX2_hangTogether (wsX4_contains) := ggX2_hangTogether_X4_contains
set_option maxRecDepth 20000 in
theorem ggX2_squaresBehind_X4_contains : GoodIn wsX2_squaresBehind wsX4_contains := goodIn_r _ [5] (by decide +kernel) (by decide +kernel)
set_option maxRecDepth 20000 in
theorem gX2_squaresBehind_X4_contains_n52 : GoodIn wsX2_squaresBehind (wsX4_contains) := ggX2_squaresBehind_X4_contains
set_option maxRecDepth 20000 in
theorem ggX2_pairsParted_X2_squaresBehind : GoodIn wsX2_pairsParted wsX2_squaresBehind := goodIn_r _ [8, 9, 3, 10, 11, 12, 20, 21, 22, 23, 24, 25, 26, 27, 28] (by decide +kernel) (by decide +kernel)
set_option maxRecDepth 20000 in
theorem gX2_pairsParted_X2_squaresBehind : GoodIn wsX2_pairsParted (wsV RX2 83 RX2 yX2_squaresBehind wsX2_squaresBehind) := goodIn_app (goodIn_of _ (by decide +kernel)) ggX2_pairsParted_X2_squaresBehind
set_option maxRecDepth 20000 in
theorem ggX2_pairsParted_J6_bitCount_0f7a4 : GoodIn wsX2_pairsParted wsJ6_bitCount_0f7a4 := goodIn_r _ [16, 17, 18, 19] (by decide +kernel) (by decide +kernel)
set_option maxRecDepth 20000 in
theorem gX2_pairsParted_J6_bitCount_0f7a4 : GoodIn wsX2_pairsParted (va_wsS RX2 86 yJ6_bitCount_0f7a4 wsJ6_bitCount_0f7a4) := goodIn_app (goodIn_of _ (by decide +kernel)) ggX2_pairsParted_J6_bitCount_0f7a4
set_option maxRecDepth 20000 in
theorem ggX2_roadsBetween_X2_squaresBehind : GoodIn wsX2_roadsBetween wsX2_squaresBehind := goodIn_r _ [7, 8, 9, 10, 11, 12, 13, 14, 15, 16, 17, 18, 19, 20, 21] (by decide +kernel) (by decide +kernel)
set_option maxRecDepth 20000 in
theorem gX2_roadsBetween_X2_squaresBehind : GoodIn wsX2_roadsBetween (wsV RX2 83 RX2 yX2_squaresBehind wsX2_squaresBehind) := goodIn_app (goodIn_of _ (by decide +kernel)) ggX2_roadsBetween_X2_squaresBehind
set_option maxRecDepth 20000 in
theorem ggX2_roadsBetween_X4_contains : GoodIn wsX2_roadsBetween wsX4_contains := goodIn_r _ [12] (by decide +kernel) (by decide +kernel)
set_option maxRecDepth 20000 in
theorem gX2_roadsBetween_X4_contains_n52 : GoodIn wsX2_roadsBetween (wsX4_contains) := ggX2_roadsBetween_X4_contains
set_option maxRecDepth 20000 in
theorem ggX2_roadOnWay_X2_roadsBetween : GoodIn wsX2_roadOnWay wsX2_roadsBetween := goodIn_r _ [7, 1, 2, 8, 9, 10, 6, 11, 12, 13, 14, 15, 16, 28, 29, 30, 31, 32, 33, 34, 35, 36, 37, 38, 39, 40, 41, 42] (by decide +kernel) (by decide +kernel)
set_option maxRecDepth 20000 in
theorem gX2_roadOnWay_X2_roadsBetween : GoodIn wsX2_roadOnWay (wsV RX2 92 RX2 yX2_roadsBetween wsX2_roadsBetween) := goodIn_app (goodIn_of _ (by decide +kernel)) ggX2_roadOnWay_X2_roadsBetween
set_option maxRecDepth 20000 in
theorem ggX2_roadOnWay_X4_contains : GoodIn wsX2_roadOnWay wsX4_contains := goodIn_r _ [16] (by decide +kernel) (by decide +kernel)
set_option maxRecDepth 20000 in
theorem gX2_roadOnWay_X4_contains_n52 : GoodIn wsX2_roadOnWay (wsX4_contains) := ggX2_roadOnWay_X4_contains
set_option maxRecDepth 20000 in
theorem ggX2_roadOnWay_X2_roadsAhead : GoodIn wsX2_roadOnWay wsX2_roadsAhead := goodIn_r _ [20, 1, 2, 8, 9, 10, 6, 11, 12, 13, 14, 15, 16, 21, 22, 23, 24, 25, 26, 27, 28, 29, 30, 31, 32, 33, 34, 35, 36, 37, 38, 39, 40, 41, 42] (by decide +kernel) (by decide +kernel)
set_option maxRecDepth 20000 in
theorem gX2_roadOnWay_X2_roadsAhead : GoodIn wsX2_roadOnWay (wsV RX2 95 RX2 yX2_roadsAhead wsX2_roadsAhead) := goodIn_app (goodIn_of _ (by decide +kernel)) ggX2_roadOnWay_X2_roadsAhead
set_option maxRecDepth 20000 in
theorem ggX2_roadsAhead_X2_squaresBehind : GoodIn wsX2_roadsAhead wsX2_squaresBehind := goodIn_r _ [7, 8, 9, 10, 11, 12, 20, 21, 22, 23, 24, 25, 26, 27, 28] (by decide +kernel) (by decide +kernel)
set_option maxRecDepth 20000 in
theorem gX2_roadsAhead_X2_squaresBehind : GoodIn wsX2_roadsAhead (wsV RX2 83 RX2 yX2_squaresBehind wsX2_squaresBehind) := goodIn_app (goodIn_of _ (by decide +kernel)) ggX2_roadsAhead_X2_squaresBehind
set_option maxRecDepth 20000 in
theorem ggX2_roadsAhead_J6_bitCount_0f7a4 : GoodIn wsX2_roadsAhead wsJ6_bitCount_0f7a4 := goodIn_r _ [16, 17, 18, 19] (by decide +kernel) (by decide +kernel)
set_option maxRecDepth 20000 in
theorem gX2_roadsAhead_J6_bitCount_0f7a4 : GoodIn wsX2_roadsAhead (va_wsS RX2 86 yJ6_bitCount_0f7a4 wsJ6_bitCount_0f7a4) := goodIn_app (goodIn_of _ (by decide +kernel)) ggX2_roadsAhead_J6_bitCount_0f7a4
set_option maxRecDepth 20000 in
theorem ggX2_roadsAhead_X4_contains : GoodIn wsX2_roadsAhead wsX4_contains := goodIn_r _ [12] (by decide +kernel) (by decide +kernel)
set_option maxRecDepth 20000 in
theorem gX2_roadsAhead_X4_contains_n52 : GoodIn wsX2_roadsAhead (wsX4_contains) := ggX2_roadsAhead_X4_contains
set_option maxRecDepth 20000 in
theorem ggX2_partingRoadsAfter_J6_bitCount_0f7a4 : GoodIn wsX2_partingRoadsAfter wsJ6_bitCount_0f7a4 := goodIn_r _ [5, 6, 7, 8] (by decide +kernel) (by decide +kernel)
set_option maxRecDepth 20000 in
theorem gX2_partingRoadsAfter_J6_bitCount_0f7a4 : GoodIn wsX2_partingRoadsAfter (va_wsS RX2 86 yJ6_bitCount_0f7a4 wsJ6_bitCount_0f7a4) := goodIn_app (goodIn_of _ (by decide +kernel)) ggX2_partingRoadsAfter_J6_bitCount_0f7a4
set_option maxRecDepth 20000 in
theorem ggX2_partingRoadsAfter_X2_hangTogether : GoodIn wsX2_partingRoadsAfter wsX2_hangTogether := goodIn_r _ [13, 14, 15, 16, 17, 29, 30, 31, 32, 33, 34, 35, 36, 37] (by decide +kernel) (by decide +kernel)
set_option maxRecDepth 20000 in
theorem gX2_partingRoadsAfter_X2_hangTogether : GoodIn wsX2_partingRoadsAfter (wsV RX2 99 RX2 yX2_hangTogether wsX2_hangTogether) := goodIn_app (goodIn_of _ (by decide +kernel)) ggX2_partingRoadsAfter_X2_hangTogether
set_option maxRecDepth 20000 in
theorem ggX2_partingRoadsAfter_X2_roadsBetween : GoodIn wsX2_partingRoadsAfter wsX2_roadsBetween := goodIn_r _ [21, 22, 23, 24, 25, 26, 12, 27, 28, 14, 15, 16, 17, 29, 30, 31, 32, 33, 34, 35, 36, 37, 38, 39, 40, 41, 42, 43] (by decide +kernel) (by decide +kernel)
set_option maxRecDepth 20000 in
theorem gX2_partingRoadsAfter_X2_roadsBetween : GoodIn wsX2_partingRoadsAfter (wsV RX2 92 RX2 yX2_roadsBetween wsX2_roadsBetween) := goodIn_app (goodIn_of _ (by decide +kernel)) ggX2_partingRoadsAfter_X2_roadsBetween
set_option maxRecDepth 20000 in
theorem ggX2_morePiecesWithout_X3_allRoads : GoodIn wsX2_morePiecesWithout wsX3_allRoads := goodIn_r _ [12, 13, 35, 36, 37, 38, 39, 40] (by decide +kernel) (by decide +kernel)
set_option maxRecDepth 20000 in
theorem gX2_morePiecesWithout_X3_allRoads : GoodIn wsX2_morePiecesWithout (wsV RX2 56 RX3 yX3_allRoads wsX3_allRoads) := goodIn_app (goodIn_of _ (by decide +kernel)) ggX2_morePiecesWithout_X3_allRoads
set_option maxRecDepth 20000 in
theorem ggX2_morePiecesWithout_X3_roadsAt : GoodIn wsX2_morePiecesWithout wsX3_roadsAt := goodIn_r _ [17, 13, 18, 19, 20, 21, 35, 36, 37, 38, 39, 40] (by decide +kernel) (by decide +kernel)
set_option maxRecDepth 20000 in
theorem gX2_morePiecesWithout_X3_roadsAt : GoodIn wsX2_morePiecesWithout (wsV RX2 102 RX3 yX3_roadsAt wsX3_roadsAt) := goodIn_app (goodIn_of _ (by decide +kernel)) ggX2_morePiecesWithout_X3_roadsAt
set_option maxRecDepth 20000 in
theorem ggX2_morePiecesWithout_X4_contains : GoodIn wsX2_morePiecesWithout wsX4_contains := goodIn_r _ [21] (by decide +kernel) (by decide +kernel)
set_option maxRecDepth 20000 in
theorem gX2_morePiecesWithout_X4_contains_n52 : GoodIn wsX2_morePiecesWithout (wsX4_contains) := ggX2_morePiecesWithout_X4_contains
set_option maxRecDepth 20000 in
theorem ggX2_morePiecesWithout_X3_reach : GoodIn wsX2_morePiecesWithout wsX3_reach := goodIn_r _ [25, 13, 18, 19, 20, 21, 35, 36, 37, 38, 39, 40] (by decide +kernel) (by decide +kernel)
set_option maxRecDepth 20000 in
theorem gX2_morePiecesWithout_X3_reach : GoodIn wsX2_morePiecesWithout (wsV RX2 60 RX3 yX3_reach wsX3_reach) := goodIn_app (goodIn_of _ (by decide +kernel)) ggX2_morePiecesWithout_X3_reach
set_option maxRecDepth 20000 in
theorem ggX2_partingSquares_X2_morePiecesWithout : GoodIn wsX2_partingSquares wsX2_morePiecesWithout := goodIn_r _ [7, 8, 1, 2, 9, 10, 11, 12, 13, 14, 15, 16, 17, 18, 19, 20, 21, 22, 23, 24, 25, 26, 27, 28, 29, 30, 31, 32, 33, 34, 35, 36, 37, 38, 39, 40, 41, 42, 43, 44, 45] (by decide +kernel) (by decide +kernel)
set_option maxRecDepth 20000 in
theorem gX2_partingSquares_X2_morePiecesWithout : GoodIn wsX2_partingSquares (wsV RX2 110 RX2 yX2_morePiecesWithout wsX2_morePiecesWithout) := goodIn_app (goodIn_of _ (by decide +kernel)) ggX2_partingSquares_X2_morePiecesWithout
set_option maxRecDepth 20000 in
theorem ggX2_partingRoadsOut_X4_contains : GoodIn wsX2_partingRoadsOut wsX4_contains := goodIn_r _ [7] (by decide +kernel) (by decide +kernel)
set_option maxRecDepth 20000 in
theorem gX2_partingRoadsOut_X4_contains_n52 : GoodIn wsX2_partingRoadsOut (wsX4_contains) := ggX2_partingRoadsOut_X4_contains
set_option maxRecDepth 20000 in
theorem ggX2_longestDistrict_X3_roadsWithin : GoodIn wsX2_longestDistrict wsX3_roadsWithin := goodIn_r _ [8, 9, 10, 28, 29, 30, 31, 32, 33] (by decide +kernel) (by decide +kernel)
set_option maxRecDepth 20000 in
theorem gX2_longestDistrict_X3_roadsWithin : GoodIn wsX2_longestDistrict (wsV RX2 116 RX3 yX3_roadsWithin wsX3_roadsWithin) := goodIn_app (goodIn_of _ (by decide +kernel)) ggX2_longestDistrict_X3_roadsWithin
set_option maxRecDepth 20000 in
theorem ggX2_longestDistrict_X3_lengthOf : GoodIn wsX2_longestDistrict wsX3_lengthOf := goodIn_r _ [14, 9, 15, 16, 17, 18, 28, 29, 30, 31, 32, 33] (by decide +kernel) (by decide +kernel)
set_option maxRecDepth 20000 in
theorem gX2_longestDistrict_X3_lengthOf : GoodIn wsX2_longestDistrict (wsV RX2 119 RX3 yX3_lengthOf wsX3_lengthOf) := goodIn_app (goodIn_of _ (by decide +kernel)) ggX2_longestDistrict_X3_lengthOf
set_option maxRecDepth 20000 in
theorem ggX2_leafDistricts_X2_partingRoadsOut : GoodIn wsX2_leafDistricts wsX2_partingRoadsOut := goodIn_r _ [7, 8, 9, 10, 11, 12, 13, 14, 15, 16, 17, 18, 19, 20, 21, 22, 23, 24, 25, 26, 27, 28, 29] (by decide +kernel) (by decide +kernel)
set_option maxRecDepth 20000 in
theorem gX2_leafDistricts_X2_partingRoadsOut : GoodIn wsX2_leafDistricts (wsV RX2 122 RX2 yX2_partingRoadsOut wsX2_partingRoadsOut) := goodIn_app (goodIn_of _ (by decide +kernel)) ggX2_leafDistricts_X2_partingRoadsOut
set_option maxRecDepth 20000 in
theorem ggX2_leastRing_X3_allRoads : GoodIn wsX2_leastRing wsX3_allRoads := goodIn_r _ [8, 9, 27, 28, 29, 30, 31, 32] (by decide +kernel) (by decide +kernel)
set_option maxRecDepth 20000 in
theorem gX2_leastRing_X3_allRoads : GoodIn wsX2_leastRing (wsV RX2 56 RX3 yX3_allRoads wsX3_allRoads) := goodIn_app (goodIn_of _ (by decide +kernel)) ggX2_leastRing_X3_allRoads
set_option maxRecDepth 20000 in
theorem ggX2_leastRing_X3_oneRoadFurther : GoodIn wsX2_leastRing wsX3_oneRoadFurther := goodIn_r _ [13, 9, 14, 15, 16, 17, 27, 28, 29, 30, 31, 32] (by decide +kernel) (by decide +kernel)
set_option maxRecDepth 20000 in
theorem gX2_leastRing_X3_oneRoadFurther : GoodIn wsX2_leastRing (wsV RX2 125 RX3 yX3_oneRoadFurther wsX3_oneRoadFurther) := goodIn_app (goodIn_of _ (by decide +kernel)) ggX2_leastRing_X3_oneRoadFurther
set_option maxRecDepth 20000 in
theorem ggX2_leastRing_X4_contains : GoodIn wsX2_leastRing wsX4_contains := goodIn_r _ [17] (by decide +kernel) (by decide +kernel)
set_option maxRecDepth 20000 in
theorem gX2_leastRing_X4_contains_n52 : GoodIn wsX2_leastRing (wsX4_contains) := ggX2_leastRing_X4_contains
set_option maxRecDepth 20000 in
theorem ggX2_leastLength_X2_shorten : GoodIn wsX2_leastLength wsX2_shorten := goodIn_r _ [11, 1, 12, 13, 14, 15, 16, 17, 18, 19, 20] (by decide +kernel) (by decide +kernel)
set_option maxRecDepth 20000 in
theorem gX2_leastLength_X2_shorten : GoodIn wsX2_leastLength (wsV RX2 131 RX2 yX2_shorten wsX2_shorten) := goodIn_app (goodIn_of _ (by decide +kernel)) ggX2_leastLength_X2_shorten
set_option maxRecDepth 20000 in
theorem ggX3_roadsAt_X4_contains : GoodIn wsX3_roadsAt wsX4_contains := goodIn_r _ [5] (by decide +kernel) (by decide +kernel)
set_option maxRecDepth 20000 in
theorem gX3_roadsAt_X4_contains_n46 : GoodIn wsX3_roadsAt (wsX4_contains) := ggX3_roadsAt_X4_contains
set_option maxRecDepth 20000 in
theorem ggX3_lengthOf_X4_contains : GoodIn wsX3_lengthOf wsX4_contains := goodIn_r _ [5] (by decide +kernel) (by decide +kernel)
set_option maxRecDepth 20000 in
theorem gX3_lengthOf_X4_contains_n46 : GoodIn wsX3_lengthOf (wsX4_contains) := ggX3_lengthOf_X4_contains
set_option maxRecDepth 20000 in
theorem ggX3_oneRoadFurther_X4_contains : GoodIn wsX3_oneRoadFurther wsX4_contains := goodIn_r _ [5] (by decide +kernel) (by decide +kernel)
set_option maxRecDepth 20000 in
theorem gX3_oneRoadFurther_X4_contains_n46 : GoodIn wsX3_oneRoadFurther (wsX4_contains) := ggX3_oneRoadFurther_X4_contains
set_option maxRecDepth 20000 in
theorem ggX3_reach_X4_contains : GoodIn wsX3_reach wsX4_contains := goodIn_r _ [5] (by decide +kernel) (by decide +kernel)
set_option maxRecDepth 20000 in
theorem gX3_reach_X4_contains_n46 : GoodIn wsX3_reach (wsX4_contains) := ggX3_reach_X4_contains
set_option maxRecDepth 20000 in
theorem ggX4_init_X3_init : GoodIn wsX4_init wsX3_init := goodIn_r _ [24, 25, 2, 3, 26, 27, 28, 29, 30, 31, 32, 96, 97, 98, 99, 100, 101] (by decide +kernel) (by decide +kernel)
set_option maxRecDepth 20000 in
theorem gX4_init_X3_init_n9 : GoodIn wsX4_init (wsX3_init) := ggX4_init_X3_init
set_option maxRecDepth 20000 in
theorem ggX4_init_X2_init : GoodIn wsX4_init wsX2_init := goodIn_r _ [35, 36, 2, 3, 28, 37, 38, 39, 40, 41, 42, 43, 44, 45, 10, 46, 47, 48, 49, 50, 51, 52, 53, 54, 55, 56, 57, 58, 6, 59, 27, 60, 61, 62, 63, 32, 64, 65, 66, 67, 68, 69, 70, 71, 72, 73, 74, 75, 76, 77, 78, 79, 108, 109, 110, 111, 112, 113, 114, 115, 116, 96, 97, 98, 99, 100, 101] (by decide +kernel) (by decide +kernel)
set_option maxRecDepth 20000 in
theorem gX4_init_X2_init : GoodIn wsX4_init (wsX2_init) := ggX4_init_X2_init
set_option maxRecDepth 20000 in
theorem ggX4_init_X1_init : GoodIn wsX4_init wsX1_init := goodIn_r _ [81, 82, 2, 3, 83, 84, 85, 28, 86, 87, 88, 117, 118, 119, 120, 121] (by decide +kernel) (by decide +kernel)
set_option maxRecDepth 20000 in
theorem gX4_init_X1_init_n27 : GoodIn wsX4_init (wsX1_init) := ggX4_init_X1_init
set_option maxRecDepth 20000 in
theorem ggX4_init_X0_init : GoodIn wsX4_init wsX0_init := goodIn_r _ [91, 92, 2, 3, 93, 94, 95, 5, 6, 23, 24, 25, 26, 27, 28, 29, 30, 31, 32, 122, 123, 96, 97, 98, 99, 100, 101] (by decide +kernel) (by decide +kernel)
set_option maxRecDepth 20000 in
theorem gX4_init_X0_init : GoodIn wsX4_init (wsX0_init) := ggX4_init_X0_init
set_option maxRecDepth 20000 in
theorem ggX4_squares_X3_fitsInto : GoodIn wsX4_squares wsX3_fitsInto := goodIn_r _ [9, 10, 11, 84, 85, 86, 87, 88, 89] (by decide +kernel) (by decide +kernel)
set_option maxRecDepth 20000 in
theorem gX4_squares_X3_fitsInto : GoodIn wsX4_squares (wsV RX4 47 RX3 yX3_fitsInto wsX3_fitsInto) := goodIn_app (goodIn_of _ (by decide +kernel)) ggX4_squares_X3_fitsInto
set_option maxRecDepth 20000 in
theorem ggX4_squares_X0_record : GoodIn wsX4_squares wsX0_record := goodIn_r _ [16, 17, 18, 19, 20, 21, 15, 22, 23, 24, 25, 8, 26, 27, 10, 28, 29, 30, 31, 32, 11, 33, 34, 90, 91, 84, 85, 86, 87, 88, 89] (by decide +kernel) (by decide +kernel)
set_option maxRecDepth 20000 in
theorem gX4_squares_X0_record : GoodIn wsX4_squares (wsV RX4 55 RX0 yX0_record wsX0_record) := goodIn_app (goodIn_of _ (by decide +kernel)) ggX4_squares_X0_record
set_option maxRecDepth 20000 in
theorem ggX4_squares_X2_renew : GoodIn wsX4_squares wsX2_renew := goodIn_r _ [39, 40, 41, 42, 38, 43, 44, 45, 46, 47, 48, 49, 50, 51, 52, 53, 8, 54, 10, 55, 56, 57, 58, 34, 59, 60, 61, 62, 63, 64, 65, 66, 67, 68, 69, 70, 71, 72, 73, 74, 75, 76, 77, 92, 93, 94, 95, 96, 97, 98, 99, 100, 84, 85, 86, 87, 88, 89] (by decide +kernel) (by decide +kernel)
set_option maxRecDepth 20000 in
theorem gX4_squares_X2_renew : GoodIn wsX4_squares (wsV RX4 58 RX2 yX2_renew wsX2_renew) := goodIn_app (goodIn_of _ (by decide +kernel)) ggX4_squares_X2_renew
set_option maxRecDepth 20000 in
theorem ggX4_build_X3_hasSquare : GoodIn wsX4_build wsX3_hasSquare := goodIn_r _ [10, 11, 96, 97, 98, 99, 100, 101] (by decide +kernel) (by decide +kernel)
set_option maxRecDepth 20000 in
theorem gX4_build_X3_hasSquare : GoodIn wsX4_build (wsV RX4 61 RX3 yX3_hasSquare wsX3_hasSquare) := goodIn_app (goodIn_of _ (by decide +kernel)) ggX4_build_X3_hasSquare
set_option maxRecDepth 20000 in
theorem ggX4_build_X0_record : GoodIn wsX4_build wsX0_record := goodIn_r _ [16, 17, 18, 19, 20, 21, 15, 22, 23, 24, 25, 9, 26, 11, 27, 28, 29, 30, 31, 32, 33, 34, 35, 111, 112, 96, 97, 98, 99, 100, 101] (by decide +kernel) (by decide +kernel)
set_option maxRecDepth 20000 in
theorem gX4_build_X0_record : GoodIn wsX4_build (wsV RX4 55 RX0 yX0_record wsX0_record) := goodIn_app (goodIn_of _ (by decide +kernel)) ggX4_build_X0_record
set_option maxRecDepth 20000 in
theorem ggX4_build_X3_addRoad : GoodIn wsX4_build wsX3_addRoad := goodIn_r _ [39, 27, 28, 40, 41, 42, 43, 33, 44, 45, 46, 34, 35, 96, 97, 98, 99, 100, 101] (by decide +kernel) (by decide +kernel)
set_option maxRecDepth 20000 in
theorem gX4_build_X3_addRoad : GoodIn wsX4_build (wsV RX4 67 RX3 yX3_addRoad wsX3_addRoad) := goodIn_app (goodIn_of _ (by decide +kernel)) ggX4_build_X3_addRoad
set_option maxRecDepth 20000 in
theorem ggX4_build_X2_renew : GoodIn wsX4_build wsX2_renew := goodIn_r _ [51, 52, 53, 54, 50, 55, 56, 57, 58, 59, 60, 61, 62, 63, 64, 65, 9, 66, 27, 67, 68, 69, 70, 35, 71, 72, 73, 74, 75, 76, 77, 78, 79, 80, 81, 82, 83, 84, 85, 86, 87, 88, 89, 102, 103, 104, 105, 106, 107, 108, 109, 110, 96, 97, 98, 99, 100, 101] (by decide +kernel) (by decide +kernel)
set_option maxRecDepth 20000 in
theorem gX4_build_X2_renew : GoodIn wsX4_build (wsV RX4 58 RX2 yX2_renew wsX2_renew) := goodIn_app (goodIn_of _ (by decide +kernel)) ggX4_build_X2_renew
set_option maxRecDepth 20000 in
theorem ggX4_lose_X3_hasRoad : GoodIn wsX4_lose wsX3_hasRoad := goodIn_r _ [9, 10, 97, 98, 99, 100, 101, 102] (by decide +kernel) (by decide +kernel)
set_option maxRecDepth 20000 in
theorem gX4_lose_X3_hasRoad : GoodIn wsX4_lose (wsV RX4 74 RX3 yX3_hasRoad wsX3_hasRoad) := goodIn_app (goodIn_of _ (by decide +kernel)) ggX4_lose_X3_hasRoad
set_option maxRecDepth 20000 in
theorem ggX4_lose_X0_record : GoodIn wsX4_lose wsX0_record := goodIn_r _ [15, 16, 17, 18, 19, 20, 14, 21, 22, 23, 24, 8, 25, 26, 10, 27, 28, 29, 30, 31, 32, 33, 34, 103, 104, 97, 98, 99, 100, 101, 102] (by decide +kernel) (by decide +kernel)
set_option maxRecDepth 20000 in
theorem gX4_lose_X0_record : GoodIn wsX4_lose (wsV RX4 55 RX0 yX0_record wsX0_record) := goodIn_app (goodIn_of _ (by decide +kernel)) ggX4_lose_X0_record
set_option maxRecDepth 20000 in
theorem ggX4_lose_X3_removeRoad : GoodIn wsX4_lose wsX3_removeRoad := goodIn_r _ [38, 10, 27, 32, 33, 34, 97, 98, 99, 100, 101, 102] (by decide +kernel) (by decide +kernel)
set_option maxRecDepth 20000 in
theorem gX4_lose_X3_removeRoad : GoodIn wsX4_lose (wsV RX4 77 RX3 yX3_removeRoad wsX3_removeRoad) := goodIn_app (goodIn_of _ (by decide +kernel)) ggX4_lose_X3_removeRoad
set_option maxRecDepth 20000 in
theorem ggX4_lose_X2_renew : GoodIn wsX4_lose wsX2_renew := goodIn_r _ [43, 44, 45, 46, 42, 47, 48, 49, 50, 51, 52, 53, 54, 55, 56, 57, 8, 58, 10, 59, 60, 61, 62, 34, 63, 64, 65, 66, 67, 68, 69, 70, 71, 72, 73, 74, 75, 76, 77, 78, 79, 80, 81, 88, 89, 90, 91, 92, 93, 94, 95, 96, 97, 98, 99, 100, 101, 102] (by decide +kernel) (by decide +kernel)
set_option maxRecDepth 20000 in
theorem gX4_lose_X2_renew : GoodIn wsX4_lose (wsV RX4 58 RX2 yX2_renew wsX2_renew) := goodIn_app (goodIn_of _ (by decide +kernel)) ggX4_lose_X2_renew
set_option maxRecDepth 20000 in
theorem ggX4_road_X3_hasRoad : GoodIn wsX4_road wsX3_hasRoad := goodIn_r _ [11, 12, 57, 58, 59, 60, 61, 62] (by decide +kernel) (by decide +kernel)
set_option maxRecDepth 20000 in
theorem gX4_road_X3_hasRoad : GoodIn wsX4_road (wsV RX4 74 RX3 yX3_hasRoad wsX3_hasRoad) := goodIn_app (goodIn_of _ (by decide +kernel)) ggX4_road_X3_hasRoad
set_option maxRecDepth 20000 in
theorem ggX4_road_X4_contains : GoodIn wsX4_road wsX4_contains := goodIn_r _ [16] (by decide +kernel) (by decide +kernel)
set_option maxRecDepth 20000 in
theorem gX4_road_X4_contains : GoodIn wsX4_road (va_wsS RX4 117 yX4_contains wsX4_contains) := goodIn_app (goodIn_of _ (by decide +kernel)) ggX4_road_X4_contains
set_option maxRecDepth 20000 in
theorem ggX4_road_X2_leastRing : GoodIn wsX4_road wsX2_leastRing := goodIn_r _ [21, 22, 23, 24, 25, 26, 27, 10, 28, 12, 29, 30, 31, 32, 33, 14, 15, 16, 63, 64, 65, 66, 67, 68, 69, 70, 71, 57, 58, 59, 60, 61, 62] (by decide +kernel) (by decide +kernel)
set_option maxRecDepth 20000 in
theorem gX4_road_X2_leastRing : GoodIn wsX4_road (wsV RX4 121 RX2 yX2_leastRing wsX2_leastRing) := goodIn_app (goodIn_of _ (by decide +kernel)) ggX4_road_X2_leastRing
set_option maxRecDepth 20000 in
theorem ggX4_road_X2_pairsParted : GoodIn wsX4_road wsX2_pairsParted := goodIn_r _ [37, 22, 23, 38, 39, 40, 41, 20, 42, 43, 14, 15, 16, 44, 45, 46, 47, 48, 49, 50, 63, 64, 65, 66, 67, 68, 69, 70, 71, 57, 58, 59, 60, 61, 62] (by decide +kernel) (by decide +kernel)
set_option maxRecDepth 20000 in
theorem gX4_road_X2_pairsParted : GoodIn wsX4_road (wsV RX4 124 RX2 yX2_pairsParted wsX2_pairsParted) := goodIn_app (goodIn_of _ (by decide +kernel)) ggX4_road_X2_pairsParted
set_option maxRecDepth 20000 in
theorem ggX4_square_X3_hasSquare : GoodIn wsX4_square wsX3_hasSquare := goodIn_r _ [9, 10, 63, 64, 65, 66, 67, 68] (by decide +kernel) (by decide +kernel)
set_option maxRecDepth 20000 in
theorem gX4_square_X3_hasSquare : GoodIn wsX4_square (wsV RX4 61 RX3 yX3_hasSquare wsX3_hasSquare) := goodIn_app (goodIn_of _ (by decide +kernel)) ggX4_square_X3_hasSquare
set_option maxRecDepth 20000 in
theorem ggX4_square_X3_roadsAt : GoodIn wsX4_square wsX3_roadsAt := goodIn_r _ [14, 15, 16, 17, 18, 19, 63, 64, 65, 66, 67, 68] (by decide +kernel) (by decide +kernel)
set_option maxRecDepth 20000 in
theorem gX4_square_X3_roadsAt : GoodIn wsX4_square (wsV RX4 127 RX3 yX3_roadsAt wsX3_roadsAt) := goodIn_app (goodIn_of _ (by decide +kernel)) ggX4_square_X3_roadsAt
set_option maxRecDepth 20000 in
theorem ggX4_square_J6_bitCount_0f7a4 : GoodIn wsX4_square wsJ6_bitCount_0f7a4 := goodIn_r _ [23, 24, 25, 26] (by decide +kernel) (by decide +kernel)
set_option maxRecDepth 20000 in
theorem gX4_square_J6_bitCount_0f7a4 : GoodIn wsX4_square (va_wsS RX4 130 yJ6_bitCount_0f7a4 wsJ6_bitCount_0f7a4) := goodIn_app (goodIn_of _ (by decide +kernel)) ggX4_square_J6_bitCount_0f7a4
set_option maxRecDepth 20000 in
theorem ggX4_square_X2_morePiecesWithout : GoodIn wsX4_square wsX2_morePiecesWithout := goodIn_r _ [31, 32, 33, 34, 35, 36, 37, 38, 39, 40, 41, 8, 42, 15, 43, 12, 13, 14, 16, 17, 18, 19, 44, 45, 46, 47, 54, 55, 56, 57, 58, 59, 60, 61, 62, 63, 64, 65, 66, 67, 68] (by decide +kernel) (by decide +kernel)
set_option maxRecDepth 20000 in
theorem gX4_square_X2_morePiecesWithout : GoodIn wsX4_square (wsV RX4 135 RX2 yX2_morePiecesWithout wsX2_morePiecesWithout) := goodIn_app (goodIn_of _ (by decide +kernel)) ggX4_square_X2_morePiecesWithout
set_option maxRecDepth 20000 in
theorem ggX4_district_X3_roadsWithin : GoodIn wsX4_district wsX3_roadsWithin := goodIn_r _ [9, 10, 11, 51, 52, 53, 54, 55, 56] (by decide +kernel) (by decide +kernel)
set_option maxRecDepth 20000 in
theorem gX4_district_X3_roadsWithin : GoodIn wsX4_district (wsV RX4 150 RX3 yX3_roadsWithin wsX3_roadsWithin) := goodIn_app (goodIn_of _ (by decide +kernel)) ggX4_district_X3_roadsWithin
set_option maxRecDepth 20000 in
theorem ggX4_district_X3_lengthOf : GoodIn wsX4_district wsX3_lengthOf := goodIn_r _ [15, 10, 16, 17, 18, 19, 51, 52, 53, 54, 55, 56] (by decide +kernel) (by decide +kernel)
set_option maxRecDepth 20000 in
theorem gX4_district_X3_lengthOf : GoodIn wsX4_district (wsV RX4 153 RX3 yX3_lengthOf wsX3_lengthOf) := goodIn_app (goodIn_of _ (by decide +kernel)) ggX4_district_X3_lengthOf
set_option maxRecDepth 20000 in
theorem ggX4_district_X2_partingRoadsOut : GoodIn wsX4_district wsX2_partingRoadsOut := goodIn_r _ [24, 25, 26, 27, 28, 17, 18, 19, 42, 43, 44, 45, 46, 47, 48, 49, 50, 51, 52, 53, 54, 55, 56] (by decide +kernel) (by decide +kernel)
set_option maxRecDepth 20000 in
theorem gX4_district_X2_partingRoadsOut : GoodIn wsX4_district (wsV RX4 156 RX2 yX2_partingRoadsOut wsX2_partingRoadsOut) := goodIn_app (goodIn_of _ (by decide +kernel)) ggX4_district_X2_partingRoadsOut
set_option maxRecDepth 20000 in
theorem ggX4_district_J6_bitCount_0f7a4 : GoodIn wsX4_district wsJ6_bitCount_0f7a4 := goodIn_r _ [32, 33, 34, 35] (by decide +kernel) (by decide +kernel)
set_option maxRecDepth 20000 in
theorem gX4_district_J6_bitCount_0f7a4 : GoodIn wsX4_district (va_wsS RX4 130 yJ6_bitCount_0f7a4 wsJ6_bitCount_0f7a4) := goodIn_app (goodIn_of _ (by decide +kernel)) ggX4_district_J6_bitCount_0f7a4
set_option maxRecDepth 20000 in
theorem ggX4_count_J6_bitCount_0f7a4 : GoodIn wsX4_count wsJ6_bitCount_0f7a4 := goodIn_r _ [15, 16, 17, 18] (by decide +kernel) (by decide +kernel)
set_option maxRecDepth 20000 in
theorem gX4_count_J6_bitCount_0f7a4 : GoodIn wsX4_count (va_wsS RX4 130 yJ6_bitCount_0f7a4 wsJ6_bitCount_0f7a4) := goodIn_app (goodIn_of _ (by decide +kernel)) ggX4_count_J6_bitCount_0f7a4
set_option maxRecDepth 20000 in
theorem ggX4_count_X2_partingSquares : GoodIn wsX4_count wsX2_partingSquares := goodIn_r _ [23, 24, 25, 26, 27, 28, 22, 29, 30, 31, 32, 33, 34, 35, 36, 37, 38, 39, 40, 41, 42, 43, 44, 45, 46, 47, 48, 49, 50, 51, 52, 82, 83, 84, 85, 86, 87, 88, 89, 90, 76, 77, 78, 79, 80, 81] (by decide +kernel) (by decide +kernel)
set_option maxRecDepth 20000 in
theorem gX4_count_X2_partingSquares : GoodIn wsX4_count (wsV RX4 159 RX2 yX2_partingSquares wsX2_partingSquares) := goodIn_app (goodIn_of _ (by decide +kernel)) ggX4_count_X2_partingSquares
set_option maxRecDepth 20000 in
theorem ggX4_count_X2_longestDistrict : GoodIn wsX4_count wsX2_longestDistrict := goodIn_r _ [56, 24, 57, 58, 59, 60, 61, 38, 62, 40, 45, 63, 64, 65, 66, 67, 46, 47, 48, 82, 83, 84, 85, 86, 87, 88, 89, 90, 76, 77, 78, 79, 80, 81] (by decide +kernel) (by decide +kernel)
set_option maxRecDepth 20000 in
theorem gX4_count_X2_longestDistrict : GoodIn wsX4_count (wsV RX4 162 RX2 yX2_longestDistrict wsX2_longestDistrict) := goodIn_app (goodIn_of _ (by decide +kernel)) ggX4_count_X2_longestDistrict
set_option maxRecDepth 20000 in
theorem ggX4_count_X3_allRoads : GoodIn wsX4_count wsX3_allRoads := goodIn_r _ [39, 40, 76, 77, 78, 79, 80, 81] (by decide +kernel) (by decide +kernel)
set_option maxRecDepth 20000 in
theorem gX4_count_X3_allRoads : GoodIn wsX4_count (wsV RX4 165 RX3 yX3_allRoads wsX3_allRoads) := goodIn_app (goodIn_of _ (by decide +kernel)) ggX4_count_X3_allRoads
set_option maxRecDepth 20000 in
theorem ggX4_count_X3_lengthOf : GoodIn wsX4_count wsX3_lengthOf := goodIn_r _ [66, 40, 67, 46, 47, 48, 76, 77, 78, 79, 80, 81] (by decide +kernel) (by decide +kernel)
set_option maxRecDepth 20000 in
theorem gX4_count_X3_lengthOf : GoodIn wsX4_count (wsV RX4 153 RX3 yX3_lengthOf wsX3_lengthOf) := goodIn_app (goodIn_of _ (by decide +kernel)) ggX4_count_X3_lengthOf
set_option maxRecDepth 20000 in
theorem ggX4_way_X3_hasSquare : GoodIn wsX4_way wsX3_hasSquare := goodIn_r _ [7, 8, 54, 55, 56, 57, 58, 59] (by decide +kernel) (by decide +kernel)
set_option maxRecDepth 20000 in
theorem gX4_way_X3_hasSquare : GoodIn wsX4_way (wsV RX4 61 RX3 yX3_hasSquare wsX3_hasSquare) := goodIn_app (goodIn_of _ (by decide +kernel)) ggX4_way_X3_hasSquare
set_option maxRecDepth 20000 in
theorem ggX4_way_X2_hangTogether : GoodIn wsX4_way wsX2_hangTogether := goodIn_r _ [13, 14, 15, 16, 17, 60, 61, 62, 63, 64, 65, 66, 67, 68] (by decide +kernel) (by decide +kernel)
set_option maxRecDepth 20000 in
theorem gX4_way_X2_hangTogether : GoodIn wsX4_way (wsV RX4 171 RX2 yX2_hangTogether wsX2_hangTogether) := goodIn_app (goodIn_of _ (by decide +kernel)) ggX4_way_X2_hangTogether
set_option maxRecDepth 20000 in
theorem ggX4_way_X2_leastLength : GoodIn wsX4_way wsX2_leastLength := goodIn_r _ [21, 22, 23, 24, 25, 26, 27, 28, 29, 30, 12, 31, 60, 61, 62, 63, 64, 65, 66, 67, 68, 54, 55, 56, 57, 58, 59] (by decide +kernel) (by decide +kernel)
set_option maxRecDepth 20000 in
theorem gX4_way_X2_leastLength : GoodIn wsX4_way (wsV RX4 174 RX2 yX2_leastLength wsX2_leastLength) := goodIn_app (goodIn_of _ (by decide +kernel)) ggX4_way_X2_leastLength
set_option maxRecDepth 20000 in
theorem ggX4_way_X2_roadsBetween : GoodIn wsX4_way wsX2_roadsBetween := goodIn_r _ [35, 23, 24, 36, 37, 38, 12, 39, 40, 14, 15, 16, 17, 60, 61, 62, 63, 64, 65, 66, 67, 68, 54, 55, 56, 57, 58, 59] (by decide +kernel) (by decide +kernel)
set_option maxRecDepth 20000 in
theorem gX4_way_X2_roadsBetween : GoodIn wsX4_way (wsV RX4 178 RX2 yX2_roadsBetween wsX2_roadsBetween) := goodIn_app (goodIn_of _ (by decide +kernel)) ggX4_way_X2_roadsBetween
set_option maxRecDepth 20000 in
theorem ggX4_way_J6_bitCount_0f7a4 : GoodIn wsX4_way wsJ6_bitCount_0f7a4 := goodIn_r _ [44, 45, 46, 47] (by decide +kernel) (by decide +kernel)
set_option maxRecDepth 20000 in
theorem gX4_way_J6_bitCount_0f7a4 : GoodIn wsX4_way (va_wsS RX4 130 yJ6_bitCount_0f7a4 wsJ6_bitCount_0f7a4) := goodIn_app (goodIn_of _ (by decide +kernel)) ggX4_way_J6_bitCount_0f7a4
set_option maxRecDepth 20000 in
theorem ggX4_must_X3_hasSquare : GoodIn wsX4_must wsX3_hasSquare := goodIn_r _ [7, 8, 46, 47, 48, 49, 50, 51] (by decide +kernel) (by decide +kernel)
set_option maxRecDepth 20000 in
theorem gX4_must_X3_hasSquare : GoodIn wsX4_must (wsV RX4 61 RX3 yX3_hasSquare wsX3_hasSquare) := goodIn_app (goodIn_of _ (by decide +kernel)) ggX4_must_X3_hasSquare
set_option maxRecDepth 20000 in
theorem ggX4_must_X2_roadOnWay : GoodIn wsX4_must wsX2_roadOnWay := goodIn_r _ [13, 14, 15, 16, 17, 18, 12, 19, 20, 21, 22, 23, 24, 25, 26, 27, 28, 29, 30, 31, 32, 33, 34, 35, 36, 37, 38, 39, 52, 53, 54, 55, 56, 57, 58, 59, 60, 46, 47, 48, 49, 50, 51] (by decide +kernel) (by decide +kernel)
set_option maxRecDepth 20000 in
theorem gX4_must_X2_roadOnWay : GoodIn wsX4_must (wsV RX4 181 RX2 yX2_roadOnWay wsX2_roadOnWay) := goodIn_app (goodIn_of _ (by decide +kernel)) ggX4_must_X2_roadOnWay
set_option maxRecDepth 20000 in
theorem ggX4_cutOff_X3_hasSquare : GoodIn wsX4_cutOff wsX3_hasSquare := goodIn_r _ [7, 8, 30, 31, 32, 33, 34, 35] (by decide +kernel) (by decide +kernel)
set_option maxRecDepth 20000 in
theorem gX4_cutOff_X3_hasSquare : GoodIn wsX4_cutOff (wsV RX4 61 RX3 yX3_hasSquare wsX3_hasSquare) := goodIn_app (goodIn_of _ (by decide +kernel)) ggX4_cutOff_X3_hasSquare
set_option maxRecDepth 20000 in
theorem ggX4_cutOff_X3_hasRoad : GoodIn wsX4_cutOff wsX3_hasRoad := goodIn_r _ [12, 13, 30, 31, 32, 33, 34, 35] (by decide +kernel) (by decide +kernel)
set_option maxRecDepth 20000 in
theorem gX4_cutOff_X3_hasRoad : GoodIn wsX4_cutOff (wsV RX4 74 RX3 yX3_hasRoad wsX3_hasRoad) := goodIn_app (goodIn_of _ (by decide +kernel)) ggX4_cutOff_X3_hasRoad
set_option maxRecDepth 20000 in
theorem ggX4_cutOff_X2_squaresBehind : GoodIn wsX4_cutOff wsX2_squaresBehind := goodIn_r _ [18, 19, 20, 21, 22, 23, 36, 37, 38, 39, 40, 41, 42, 43, 44] (by decide +kernel) (by decide +kernel)
set_option maxRecDepth 20000 in
theorem gX4_cutOff_X2_squaresBehind : GoodIn wsX4_cutOff (wsV RX4 185 RX2 yX2_squaresBehind wsX2_squaresBehind) := goodIn_app (goodIn_of _ (by decide +kernel)) ggX4_cutOff_X2_squaresBehind
set_option maxRecDepth 20000 in
theorem ggX4_ifBuilt_X3_hasSquare : GoodIn wsX4_ifBuilt wsX3_hasSquare := goodIn_r _ [9, 10, 53, 54, 55, 56, 57, 58] (by decide +kernel) (by decide +kernel)
set_option maxRecDepth 20000 in
theorem gX4_ifBuilt_X3_hasSquare : GoodIn wsX4_ifBuilt (wsV RX4 61 RX3 yX3_hasSquare wsX3_hasSquare) := goodIn_app (goodIn_of _ (by decide +kernel)) ggX4_ifBuilt_X3_hasSquare
set_option maxRecDepth 20000 in
theorem ggX4_ifBuilt_X2_roadsBetween : GoodIn wsX4_ifBuilt wsX2_roadsBetween := goodIn_r _ [15, 16, 17, 18, 19, 20, 14, 21, 22, 23, 24, 25, 26, 44, 45, 46, 47, 48, 49, 50, 51, 52, 53, 54, 55, 56, 57, 58] (by decide +kernel) (by decide +kernel)
set_option maxRecDepth 20000 in
theorem gX4_ifBuilt_X2_roadsBetween : GoodIn wsX4_ifBuilt (wsV RX4 178 RX2 yX2_roadsBetween wsX2_roadsBetween) := goodIn_app (goodIn_of _ (by decide +kernel)) ggX4_ifBuilt_X2_roadsBetween
set_option maxRecDepth 20000 in
theorem ggX4_ifBuilt_J6_bitCount_0f7a4 : GoodIn wsX4_ifBuilt wsJ6_bitCount_0f7a4 := goodIn_r _ [30, 31, 32, 33] (by decide +kernel) (by decide +kernel)
set_option maxRecDepth 20000 in
theorem gX4_ifBuilt_J6_bitCount_0f7a4 : GoodIn wsX4_ifBuilt (va_wsS RX4 130 yJ6_bitCount_0f7a4 wsJ6_bitCount_0f7a4) := goodIn_app (goodIn_of _ (by decide +kernel)) ggX4_ifBuilt_J6_bitCount_0f7a4
set_option maxRecDepth 20000 in
theorem ggX4_ifBuilt_X2_hangTogether : GoodIn wsX4_ifBuilt wsX2_hangTogether := goodIn_r _ [37, 23, 24, 25, 26, 44, 45, 46, 47, 48, 49, 50, 51, 52] (by decide +kernel) (by decide +kernel)
set_option maxRecDepth 20000 in
theorem gX4_ifBuilt_X2_hangTogether : GoodIn wsX4_ifBuilt (wsV RX4 171 RX2 yX2_hangTogether wsX2_hangTogether) := goodIn_app (goodIn_of _ (by decide +kernel)) ggX4_ifBuilt_X2_hangTogether
set_option maxRecDepth 20000 in
theorem ggX4_bestBuilt_X2_partingRoadsAfter : GoodIn wsX4_bestBuilt wsX2_partingRoadsAfter := goodIn_r _ [8, 9, 10, 11, 12, 13, 14, 15, 16, 17, 18, 19, 7, 20, 21, 22, 23, 24, 25, 26, 27, 28, 29, 30, 31, 32, 33, 34, 35, 48, 49, 50, 51, 52, 53, 54, 55, 56, 42, 43, 44, 45, 46, 47] (by decide +kernel) (by decide +kernel)
set_option maxRecDepth 20000 in
theorem gX4_bestBuilt_X2_partingRoadsAfter : GoodIn wsX4_bestBuilt (wsV RX4 188 RX2 yX2_partingRoadsAfter wsX2_partingRoadsAfter) := goodIn_app (goodIn_of _ (by decide +kernel)) ggX4_bestBuilt_X2_partingRoadsAfter
set_option maxRecDepth 20000 in
theorem ggX4_worstLoss_X2_pairsParted : GoodIn wsX4_worstLoss wsX2_pairsParted := goodIn_r _ [8, 9, 10, 11, 12, 13, 14, 7, 15, 16, 17, 18, 19, 20, 21, 22, 23, 24, 25, 26, 39, 40, 41, 42, 43, 44, 45, 46, 47, 33, 34, 35, 36, 37, 38] (by decide +kernel) (by decide +kernel)
set_option maxRecDepth 20000 in
theorem gX4_worstLoss_X2_pairsParted : GoodIn wsX4_worstLoss (wsV RX4 124 RX2 yX2_pairsParted wsX2_pairsParted) := goodIn_app (goodIn_of _ (by decide +kernel)) ggX4_worstLoss_X2_pairsParted
set_option maxRecDepth 20000 in
theorem ggX4_needed_X3_hasSquare : GoodIn wsX4_needed wsX3_hasSquare := goodIn_r _ [8, 9, 43, 44, 45, 46, 47, 48] (by decide +kernel) (by decide +kernel)
set_option maxRecDepth 20000 in
theorem gX4_needed_X3_hasSquare : GoodIn wsX4_needed (wsV RX4 61 RX3 yX3_hasSquare wsX3_hasSquare) := goodIn_app (goodIn_of _ (by decide +kernel)) ggX4_needed_X3_hasSquare
set_option maxRecDepth 20000 in
theorem ggX4_needed_X2_leafDistricts : GoodIn wsX4_needed wsX2_leafDistricts := goodIn_r _ [14, 15, 16, 17, 18, 19, 13, 20, 21, 22, 23, 24, 25, 26, 27, 34, 35, 36, 37, 38, 39, 40, 41, 42, 43, 44, 45, 46, 47, 48] (by decide +kernel) (by decide +kernel)
set_option maxRecDepth 20000 in
theorem gX4_needed_X2_leafDistricts : GoodIn wsX4_needed (wsV RX4 191 RX2 yX2_leafDistricts wsX2_leafDistricts) := goodIn_app (goodIn_of _ (by decide +kernel)) ggX4_needed_X2_leafDistricts
set_option maxRecDepth 20000 in
theorem ggX4_undo_X0_takeBack : GoodIn wsX4_undo wsX0_takeBack := goodIn_r _ [9, 10, 11, 12, 13, 14, 15, 16, 17, 18, 19, 20, 21, 22, 23, 24, 25, 26, 76, 77, 78, 79, 80, 81, 82, 83] (by decide +kernel) (by decide +kernel)
set_option maxRecDepth 20000 in
theorem gX4_undo_X0_takeBack : GoodIn wsX4_undo (wsV RX4 208 RX0 yX0_takeBack wsX0_takeBack) := goodIn_app (goodIn_of _ (by decide +kernel)) ggX4_undo_X0_takeBack
set_option maxRecDepth 20000 in
theorem ggX4_undo_X2_renew : GoodIn wsX4_undo wsX2_renew := goodIn_r _ [31, 32, 33, 34, 30, 35, 36, 37, 38, 39, 40, 41, 42, 43, 44, 45, 15, 46, 18, 47, 48, 49, 50, 26, 51, 52, 53, 54, 55, 56, 57, 58, 59, 60, 61, 62, 63, 64, 65, 66, 67, 68, 69, 84, 85, 86, 87, 88, 89, 90, 91, 92, 78, 79, 80, 81, 82, 83] (by decide +kernel) (by decide +kernel)
set_option maxRecDepth 20000 in
theorem gX4_undo_X2_renew : GoodIn wsX4_undo (wsV RX4 58 RX2 yX2_renew wsX2_renew) := goodIn_app (goodIn_of _ (by decide +kernel)) ggX4_undo_X2_renew
set_option maxRecDepth 20000 in
theorem ggX4_setForMembers_X4_contains : GoodIn wsX4_setForMembers wsX4_contains := goodIn_r _ [4] (by decide +kernel) (by decide +kernel)
set_option maxRecDepth 20000 in
theorem gX4_setForMembers_X4_contains : GoodIn wsX4_setForMembers (va_wsS RX4 117 yX4_contains wsX4_contains) := goodIn_app (goodIn_of _ (by decide +kernel)) ggX4_setForMembers_X4_contains
abbrev vwCl : List vw_C := [(RX0, TX0, 2), (RX1, TX1, 5), (RX2, TX2, 9), (RX3, TX3, 6), (RX4, TX4, 6)]

