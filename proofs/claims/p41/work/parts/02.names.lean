/-! the printed names and fields -/
def RX0 : String := "MirageSurvey$Flat"
def TX0 : u_T := fun k => match k with
  | 0 => ("MirageSurvey$Flat", "stakes", "LMirageSurvey$Row;", true)
  | 1 => ("MirageSurvey$Flat", "posts", "LMirageSurvey$Row;", true)
  | 2 => ("MirageSurvey$Flat", "heights", "LMirageSurvey$Row;", true)
  | 3 => ("MirageSurvey$Flat", "drawn", "LMirageSurvey$Row;", true)
  | 4 => ("MirageSurvey$Flat", "camels", "LMirageSurvey$Row;", true)
  | 5 => ("MirageSurvey$Flat", "thirsts", "LMirageSurvey$Row;", true)
  | 6 => ("MirageSurvey$Flat", "ties", "LMirageSurvey$Row;", true)
  | 7 => ("MirageSurvey$Flat", "drunk", "LMirageSurvey$Row;", true)
  | 8 => ("MirageSurvey$Flat", "sheets", "I", false)
  | 9 => ("MirageSurvey$Flat", "hour", "I", false)
  | 10 => ("MirageSurvey$Flat", "dayHeat", "I", false)
  | 11 => ("MirageSurvey$Flat", "cups", "I", false)
  | _ => ("MirageSurvey$Flat", "sightings", "I", false)
def tyX0 : Nat → FieldType := fun k => match k with
  | 0 => .object "MirageSurvey$Row"
  | 1 => .object "MirageSurvey$Row"
  | 2 => .object "MirageSurvey$Row"
  | 3 => .object "MirageSurvey$Row"
  | 4 => .object "MirageSurvey$Row"
  | 5 => .object "MirageSurvey$Row"
  | 6 => .object "MirageSurvey$Row"
  | 7 => .object "MirageSurvey$Row"
  | 8 => .int
  | 9 => .int
  | 10 => .int
  | 11 => .int
  | _ => .int
abbrev wsX00 : List Cond := u_ws RX0 TX0 13
theorem nmX0 : ∀ a, a < 13 → ∀ b, b < 13 → a ≠ b → (TX0 a).2.1 ≠ (TX0 b).2.1 := by decide +kernel
theorem tyX0_ok : ∀ k, k < 13 → parseFieldDescriptor (TX0 k).2.2.1 = some (tyX0 k) := by decide +kernel
abbrev cX0_init : ByteArray := prog_2_method_1_code
def yX0_init : MethodName := ⟨RX0, "<init>", "()V"⟩
abbrev cX0_copyFrom : ByteArray := prog_2_method_2_code
def yX0_copyFrom : MethodName := ⟨RX0, "copyFrom", "(LMirageSurvey$Flat;)V"⟩
abbrev cX0_heatAt : ByteArray := prog_2_method_3_code
def yX0_heatAt : MethodName := ⟨RX0, "heatAt", "(I)I"⟩
abbrev cX0_heatNow : ByteArray := prog_2_method_4_code
def yX0_heatNow : MethodName := ⟨RX0, "heatNow", "()I"⟩
abbrev cX0_bellReach : ByteArray := prog_2_method_5_code
def yX0_bellReach : MethodName := ⟨RX0, "bellReach", "()I"⟩
abbrev cX0_farFrom : ByteArray := prog_2_method_6_code
def yX0_farFrom : MethodName := ⟨RX0, "farFrom", "(II)I"⟩
abbrev cX0_isTooHot : ByteArray := prog_2_method_7_code
def yX0_isTooHot : MethodName := ⟨RX0, "isTooHot", "(III)Z"⟩
abbrev cX0_isShimmering : ByteArray := prog_2_method_8_code
def yX0_isShimmering : MethodName := ⟨RX0, "isShimmering", "(III)Z"⟩
abbrev cX0_heatTooMuch : ByteArray := prog_2_method_9_code
def yX0_heatTooMuch : MethodName := ⟨RX0, "heatTooMuch", "(II)I"⟩
abbrev cX0_bending : ByteArray := prog_2_method_10_code
def yX0_bending : MethodName := ⟨RX0, "bending", "(II)I"⟩
abbrev cX0_bendingWay : ByteArray := prog_2_method_11_code
def yX0_bendingWay : MethodName := ⟨RX0, "bendingWay", "(II)I"⟩
abbrev cX0_seemingPlace : ByteArray := prog_2_method_12_code
def yX0_seemingPlace : MethodName := ⟨RX0, "seemingPlace", "(II)I"⟩
abbrev cX0_walkedPlace : ByteArray := prog_2_method_13_code
def yX0_walkedPlace : MethodName := ⟨RX0, "walkedPlace", "(II)I"⟩
abbrev cX0_clearestPost : ByteArray := prog_2_method_14_code
def yX0_clearestPost : MethodName := ⟨RX0, "clearestPost", "(I)I"⟩
abbrev cX0_isBetterPost : ByteArray := prog_2_method_15_code
def yX0_isBetterPost : MethodName := ⟨RX0, "isBetterPost", "(III)Z"⟩
abbrev cX0_hoursUntilClear : ByteArray := prog_2_method_16_code
def yX0_hoursUntilClear : MethodName := ⟨RX0, "hoursUntilClear", "(II)I"⟩
abbrev cX0_hasSheet : ByteArray := prog_2_method_17_code
def yX0_hasSheet : MethodName := ⟨RX0, "hasSheet", "(I)Z"⟩
abbrev cX0_drawnPlace : ByteArray := prog_2_method_18_code
def yX0_drawnPlace : MethodName := ⟨RX0, "drawnPlace", "(II)I"⟩
abbrev cX0_draw : ByteArray := prog_2_method_19_code
def yX0_draw : MethodName := ⟨RX0, "draw", "(III)V"⟩
abbrev cX0_countDrawn : ByteArray := prog_2_method_20_code
def yX0_countDrawn : MethodName := ⟨RX0, "countDrawn", "(Z)I"⟩
abbrev cX0_isLost : ByteArray := prog_2_method_21_code
def yX0_isLost : MethodName := ⟨RX0, "isLost", "(I)Z"⟩
abbrev cX0_isRoaming : ByteArray := prog_2_method_22_code
def yX0_isRoaming : MethodName := ⟨RX0, "isRoaming", "(I)Z"⟩
abbrev cX0_countLost : ByteArray := prog_2_method_23_code
def yX0_countLost : MethodName := ⟨RX0, "countLost", "()I"⟩
abbrev cX0_callCamel : ByteArray := prog_2_method_24_code
def yX0_callCamel : MethodName := ⟨RX0, "callCamel", "(II)V"⟩
abbrev cX0_farToPost : ByteArray := prog_2_method_25_code
def yX0_farToPost : MethodName := ⟨RX0, "farToPost", "(I)I"⟩
abbrev cX0_nearestCamel : ByteArray := prog_2_method_26_code
def yX0_nearestCamel : MethodName := ⟨RX0, "nearestCamel", "(I)I"⟩
abbrev cX0_isNearer : ByteArray := prog_2_method_27_code
def yX0_isNearer : MethodName := ⟨RX0, "isNearer", "(III)Z"⟩
abbrev cX0_thirstAfter : ByteArray := prog_2_method_28_code
def yX0_thirstAfter : MethodName := ⟨RX0, "thirstAfter", "(II)I"⟩
abbrev cX0_hoursUntilLost : ByteArray := prog_2_method_29_code
def yX0_hoursUntilLost : MethodName := ⟨RX0, "hoursUntilLost", "(I)I"⟩
abbrev cX0_passHour : ByteArray := prog_2_method_30_code
def yX0_passHour : MethodName := ⟨RX0, "passHour", "()V"⟩
abbrev cX0_stray : ByteArray := prog_2_method_31_code
def yX0_stray : MethodName := ⟨RX0, "stray", "(I)V"⟩
def RX1 : String := "MirageSurvey$History"
def TX1 : u_T := fun k => match k with
  | 0 => ("MirageSurvey$History", "kept", "[LMirageSurvey$Flat;", true)
  | 1 => ("MirageSurvey$History", "size", "I", false)
  | _ => ("MirageSurvey$History", "next", "I", false)
def tyX1 : Nat → FieldType := fun k => match k with
  | 0 => .array (.object "MirageSurvey$Flat")
  | 1 => .int
  | _ => .int
abbrev wsX10 : List Cond := u_ws RX1 TX1 3
theorem nmX1 : ∀ a, a < 3 → ∀ b, b < 3 → a ≠ b → (TX1 a).2.1 ≠ (TX1 b).2.1 := by decide +kernel
theorem tyX1_ok : ∀ k, k < 3 → parseFieldDescriptor (TX1 k).2.2.1 = some (tyX1 k) := by decide +kernel
abbrev cX1_init : ByteArray := prog_3_method_1_code
def yX1_init : MethodName := ⟨RX1, "<init>", "()V"⟩
abbrev cX1_size : ByteArray := prog_3_method_2_code
def yX1_size : MethodName := ⟨RX1, "size", "()I"⟩
abbrev cX1_slot : ByteArray := prog_3_method_3_code
def yX1_slot : MethodName := ⟨RX1, "slot", "(I)LMirageSurvey$Flat;"⟩
abbrev cX1_keep : ByteArray := prog_3_method_4_code
def yX1_keep : MethodName := ⟨RX1, "keep", "(LMirageSurvey$Flat;)V"⟩
abbrev cX1_takeBack : ByteArray := prog_3_method_5_code
def yX1_takeBack : MethodName := ⟨RX1, "takeBack", "(LMirageSurvey$Flat;)V"⟩
abbrev cX1_forget : ByteArray := prog_3_method_6_code
def yX1_forget : MethodName := ⟨RX1, "forget", "()V"⟩
def RX2 : String := "MirageSurvey$Line"
def TX2 : u_T := fun k => match k with
  | 0 => ("MirageSurvey$Line", "signs", "[C", true)
  | _ => ("MirageSurvey$Line", "length", "I", false)
def tyX2 : Nat → FieldType := fun k => match k with
  | 0 => .array .char
  | _ => .int
abbrev wsX20 : List Cond := u_ws RX2 TX2 2
theorem nmX2 : ∀ a, a < 2 → ∀ b, b < 2 → a ≠ b → (TX2 a).2.1 ≠ (TX2 b).2.1 := by decide +kernel
theorem tyX2_ok : ∀ k, k < 2 → parseFieldDescriptor (TX2 k).2.2.1 = some (tyX2 k) := by decide +kernel
abbrev cX2_init : ByteArray := prog_4_method_1_code
def yX2_init : MethodName := ⟨RX2, "<init>", "()V"⟩
abbrev cX2_length : ByteArray := prog_4_method_2_code
def yX2_length : MethodName := ⟨RX2, "length", "()I"⟩
abbrev cX2_signAt : ByteArray := prog_4_method_3_code
def yX2_signAt : MethodName := ⟨RX2, "signAt", "(I)C"⟩
abbrev cX2_clear : ByteArray := prog_4_method_4_code
def yX2_clear : MethodName := ⟨RX2, "clear", "()V"⟩
abbrev cX2_putStake : ByteArray := prog_4_method_5_code
def yX2_putStake : MethodName := ⟨RX2, "putStake", "(III)V"⟩
abbrev cX2_putWord : ByteArray := prog_4_method_6_code
def yX2_putWord : MethodName := ⟨RX2, "putWord", "(Ljava/lang/String;)V"⟩
abbrev cX2_putNumber : ByteArray := prog_4_method_7_code
def yX2_putNumber : MethodName := ⟨RX2, "putNumber", "(I)V"⟩
abbrev cX2_put : ByteArray := prog_4_method_8_code
def yX2_put : MethodName := ⟨RX2, "put", "(C)V"⟩
def RX3 : String := "MirageSurvey$Row"
def TX3 : u_T := fun k => match k with
  | 0 => ("MirageSurvey$Row", "items", "[I", true)
  | _ => ("MirageSurvey$Row", "size", "I", false)
def tyX3 : Nat → FieldType := fun k => match k with
  | 0 => .array .int
  | _ => .int
abbrev wsX30 : List Cond := u_ws RX3 TX3 2
theorem nmX3 : ∀ a, a < 2 → ∀ b, b < 2 → a ≠ b → (TX3 a).2.1 ≠ (TX3 b).2.1 := by decide +kernel
theorem tyX3_ok : ∀ k, k < 2 → parseFieldDescriptor (TX3 k).2.2.1 = some (tyX3 k) := by decide +kernel
abbrev cX3_init : ByteArray := prog_5_method_1_code
def yX3_init : MethodName := ⟨RX3, "<init>", "(I)V"⟩
abbrev cX3_size : ByteArray := prog_5_method_2_code
def yX3_size : MethodName := ⟨RX3, "size", "()I"⟩
abbrev cX3_isFull : ByteArray := prog_5_method_3_code
def yX3_isFull : MethodName := ⟨RX3, "isFull", "()Z"⟩
abbrev cX3_has : ByteArray := prog_5_method_4_code
def yX3_has : MethodName := ⟨RX3, "has", "(I)Z"⟩
abbrev cX3_get : ByteArray := prog_5_method_5_code
def yX3_get : MethodName := ⟨RX3, "get", "(I)I"⟩
abbrev cX3_set : ByteArray := prog_5_method_6_code
def yX3_set : MethodName := ⟨RX3, "set", "(II)V"⟩
abbrev cX3_add : ByteArray := prog_5_method_7_code
def yX3_add : MethodName := ⟨RX3, "add", "(I)I"⟩
abbrev cX3_clear : ByteArray := prog_5_method_8_code
def yX3_clear : MethodName := ⟨RX3, "clear", "()V"⟩
abbrev cX3_find : ByteArray := prog_5_method_9_code
def yX3_find : MethodName := ⟨RX3, "find", "(I)I"⟩
abbrev cX3_sum : ByteArray := prog_5_method_10_code
def yX3_sum : MethodName := ⟨RX3, "sum", "()I"⟩
abbrev cX3_copyFrom : ByteArray := prog_5_method_11_code
def yX3_copyFrom : MethodName := ⟨RX3, "copyFrom", "(LMirageSurvey$Row;)V"⟩
def RX4 : String := "MirageSurvey$Text"
def TX4 : u_T := fun k => match k with
  | 0 => ("MirageSurvey$Text", "numbers", "LMirageSurvey$Row;", true)
  | 1 => ("MirageSurvey$Text", "signs", "[C", true)
  | 2 => ("MirageSurvey$Text", "length", "I", false)
  | 3 => ("MirageSurvey$Text", "position", "I", false)
  | _ => ("MirageSurvey$Text", "kind", "C", false)
def tyX4 : Nat → FieldType := fun k => match k with
  | 0 => .object "MirageSurvey$Row"
  | 1 => .array .char
  | 2 => .int
  | 3 => .int
  | _ => .char
abbrev wsX40 : List Cond := u_ws RX4 TX4 5
theorem nmX4 : ∀ a, a < 5 → ∀ b, b < 5 → a ≠ b → (TX4 a).2.1 ≠ (TX4 b).2.1 := by decide +kernel
theorem tyX4_ok : ∀ k, k < 5 → parseFieldDescriptor (TX4 k).2.2.1 = some (tyX4 k) := by decide +kernel
abbrev cX4_init : ByteArray := prog_6_method_1_code
def yX4_init : MethodName := ⟨RX4, "<init>", "()V"⟩
abbrev cX4_length : ByteArray := prog_6_method_2_code
def yX4_length : MethodName := ⟨RX4, "length", "()I"⟩
abbrev cX4_position : ByteArray := prog_6_method_3_code
def yX4_position : MethodName := ⟨RX4, "position", "()I"⟩
abbrev cX4_kind : ByteArray := prog_6_method_4_code
def yX4_kind : MethodName := ⟨RX4, "kind", "()C"⟩
abbrev cX4_isFull : ByteArray := prog_6_method_5_code
def yX4_isFull : MethodName := ⟨RX4, "isFull", "()Z"⟩
abbrev cX4_put : ByteArray := prog_6_method_6_code
def yX4_put : MethodName := ⟨RX4, "put", "(C)I"⟩
abbrev cX4_clear : ByteArray := prog_6_method_7_code
def yX4_clear : MethodName := ⟨RX4, "clear", "()V"⟩
abbrev cX4_rewind : ByteArray := prog_6_method_8_code
def yX4_rewind : MethodName := ⟨RX4, "rewind", "()V"⟩
abbrev cX4_countCommands : ByteArray := prog_6_method_9_code
def yX4_countCommands : MethodName := ⟨RX4, "countCommands", "()I"⟩
abbrev cX4_readCommand : ByteArray := prog_6_method_10_code
def yX4_readCommand : MethodName := ⟨RX4, "readCommand", "()Z"⟩
abbrev cX4_formOf : ByteArray := prog_6_method_11_code
def yX4_formOf : MethodName := ⟨RX4, "formOf", "(C)Ljava/lang/String;"⟩
abbrev cX4_readPart : ByteArray := prog_6_method_12_code
def yX4_readPart : MethodName := ⟨RX4, "readPart", "(C)Z"⟩
abbrev cX4_readSign : ByteArray := prog_6_method_13_code
def yX4_readSign : MethodName := ⟨RX4, "readSign", "(C)Z"⟩
abbrev cX4_readNumber : ByteArray := prog_6_method_14_code
def yX4_readNumber : MethodName := ⟨RX4, "readNumber", "(Z)Z"⟩
abbrev cX4_readDigit : ByteArray := prog_6_method_15_code
def yX4_readDigit : MethodName := ⟨RX4, "readDigit", "()I"⟩
abbrev cX4_signHere : ByteArray := prog_6_method_16_code
def yX4_signHere : MethodName := ⟨RX4, "signHere", "()C"⟩
def RX5 : String := "MirageSurvey"
def TX5 : u_T := fun k => match k with
  | 0 => ("MirageSurvey", "flat", "LMirageSurvey$Flat;", true)
  | 1 => ("MirageSurvey", "before", "LMirageSurvey$Flat;", true)
  | 2 => ("MirageSurvey", "saved", "LMirageSurvey$Flat;", true)
  | 3 => ("MirageSurvey", "history", "LMirageSurvey$History;", true)
  | 4 => ("MirageSurvey", "text", "LMirageSurvey$Text;", true)
  | 5 => ("MirageSurvey", "written", "LMirageSurvey$Line;", true)
  | 6 => ("MirageSurvey", "isSaved", "Z", false)
  | 7 => ("MirageSurvey", "faultAt", "I", false)
  | 8 => ("MirageSurvey", "commandIndex", "I", false)
  | 9 => ("MirageSurvey", "reasonKind", "I", false)
  | 10 => ("MirageSurvey", "reasonDetail", "I", false)
  | _ => ("MirageSurvey", "reasonCommand", "I", false)
def tyX5 : Nat → FieldType := fun k => match k with
  | 0 => .object "MirageSurvey$Flat"
  | 1 => .object "MirageSurvey$Flat"
  | 2 => .object "MirageSurvey$Flat"
  | 3 => .object "MirageSurvey$History"
  | 4 => .object "MirageSurvey$Text"
  | 5 => .object "MirageSurvey$Line"
  | 6 => .boolean
  | 7 => .int
  | 8 => .int
  | 9 => .int
  | 10 => .int
  | _ => .int
abbrev wsX50 : List Cond := u_ws RX5 TX5 12
theorem nmX5 : ∀ a, a < 12 → ∀ b, b < 12 → a ≠ b → (TX5 a).2.1 ≠ (TX5 b).2.1 := by decide +kernel
theorem tyX5_ok : ∀ k, k < 12 → parseFieldDescriptor (TX5 k).2.2.1 = some (tyX5 k) := by decide +kernel
abbrev cX5_init : ByteArray := prog_1_method_1_code
def yX5_init : MethodName := ⟨RX5, "<init>", "()V"⟩
abbrev cX5_stake : ByteArray := prog_1_method_2_code
def yX5_stake : MethodName := ⟨RX5, "stake", "(I)I"⟩
abbrev cX5_post : ByteArray := prog_1_method_3_code
def yX5_post : MethodName := ⟨RX5, "post", "(II)I"⟩
abbrev cX5_sheet : ByteArray := prog_1_method_4_code
def yX5_sheet : MethodName := ⟨RX5, "sheet", "()I"⟩
abbrev cX5_heat : ByteArray := prog_1_method_5_code
def yX5_heat : MethodName := ⟨RX5, "heat", "(I)I"⟩
abbrev cX5_sight : ByteArray := prog_1_method_6_code
def yX5_sight : MethodName := ⟨RX5, "sight", "(III)I"⟩
abbrev cX5_erase : ByteArray := prog_1_method_7_code
def yX5_erase : MethodName := ⟨RX5, "erase", "(II)I"⟩
abbrev cX5_camel : ByteArray := prog_1_method_8_code
def yX5_camel : MethodName := ⟨RX5, "camel", "(I)I"⟩
abbrev cX5_bell : ByteArray := prog_1_method_9_code
def yX5_bell : MethodName := ⟨RX5, "bell", "(I)I"⟩
abbrev cX5_tie : ByteArray := prog_1_method_10_code
def yX5_tie : MethodName := ⟨RX5, "tie", "(I)I"⟩
abbrev cX5_loose : ByteArray := prog_1_method_11_code
def yX5_loose : MethodName := ⟨RX5, "loose", "(I)I"⟩
abbrev cX5_drink : ByteArray := prog_1_method_12_code
def yX5_drink : MethodName := ⟨RX5, "drink", "(I)I"⟩
abbrev cX5_water : ByteArray := prog_1_method_13_code
def yX5_water : MethodName := ⟨RX5, "water", "(I)I"⟩
abbrev cX5_hours : ByteArray := prog_1_method_14_code
def yX5_hours : MethodName := ⟨RX5, "hours", "(I)I"⟩
abbrev cX5_stakeAt : ByteArray := prog_1_method_15_code
def yX5_stakeAt : MethodName := ⟨RX5, "stakeAt", "(I)I"⟩
abbrev cX5_postOf : ByteArray := prog_1_method_16_code
def yX5_postOf : MethodName := ⟨RX5, "postOf", "(IZ)I"⟩
abbrev cX5_camelOf : ByteArray := prog_1_method_17_code
def yX5_camelOf : MethodName := ⟨RX5, "camelOf", "(II)I"⟩
abbrev cX5_drawnAt : ByteArray := prog_1_method_18_code
def yX5_drawnAt : MethodName := ⟨RX5, "drawnAt", "(II)I"⟩
abbrev cX5_wrongBy : ByteArray := prog_1_method_19_code
def yX5_wrongBy : MethodName := ⟨RX5, "wrongBy", "(I)I"⟩
abbrev cX5_seems : ByteArray := prog_1_method_20_code
def yX5_seems : MethodName := ⟨RX5, "seems", "(II)I"⟩
abbrev cX5_seemsAgain : ByteArray := prog_1_method_21_code
def yX5_seemsAgain : MethodName := ⟨RX5, "seemsAgain", "(II)I"⟩
abbrev cX5_shimmers : ByteArray := prog_1_method_22_code
def yX5_shimmers : MethodName := ⟨RX5, "shimmers", "(II)Z"⟩
abbrev cX5_bestPost : ByteArray := prog_1_method_23_code
def yX5_bestPost : MethodName := ⟨RX5, "bestPost", "(I)I"⟩
abbrev cX5_clearIn : ByteArray := prog_1_method_24_code
def yX5_clearIn : MethodName := ⟨RX5, "clearIn", "(II)I"⟩
abbrev cX5_heatIn : ByteArray := prog_1_method_25_code
def yX5_heatIn : MethodName := ⟨RX5, "heatIn", "(I)I"⟩
abbrev cX5_lostIn : ByteArray := prog_1_method_26_code
def yX5_lostIn : MethodName := ⟨RX5, "lostIn", "(I)I"⟩
abbrev cX5_nearest : ByteArray := prog_1_method_27_code
def yX5_nearest : MethodName := ⟨RX5, "nearest", "(I)I"⟩
abbrev cX5_append : ByteArray := prog_1_method_28_code
def yX5_append : MethodName := ⟨RX5, "append", "(C)I"⟩
abbrev cX5_commands : ByteArray := prog_1_method_29_code
def yX5_commands : MethodName := ⟨RX5, "commands", "()I"⟩
abbrev cX5_faultPosition : ByteArray := prog_1_method_30_code
def yX5_faultPosition : MethodName := ⟨RX5, "faultPosition", "()I"⟩
abbrev cX5_reason : ByteArray := prog_1_method_31_code
def yX5_reason : MethodName := ⟨RX5, "reason", "(I)I"⟩
abbrev cX5_line : ByteArray := prog_1_method_32_code
def yX5_line : MethodName := ⟨RX5, "line", "(I)I"⟩
abbrev cX5_character : ByteArray := prog_1_method_33_code
def yX5_character : MethodName := ⟨RX5, "character", "(I)C"⟩
abbrev cX5_meanThirst : ByteArray := prog_1_method_34_code
def yX5_meanThirst : MethodName := ⟨RX5, "meanThirst", "()F"⟩
abbrev cX5_rightShare : ByteArray := prog_1_method_35_code
def yX5_rightShare : MethodName := ⟨RX5, "rightShare", "()D"⟩
abbrev cX5_account : ByteArray := prog_1_method_36_code
def yX5_account : MethodName := ⟨RX5, "account", "(I)I"⟩
abbrev cX5_undo : ByteArray := prog_1_method_37_code
def yX5_undo : MethodName := ⟨RX5, "undo", "()I"⟩
abbrev cX5_save : ByteArray := prog_1_method_38_code
def yX5_save : MethodName := ⟨RX5, "save", "()I"⟩
abbrev cX5_restore : ByteArray := prog_1_method_39_code
def yX5_restore : MethodName := ⟨RX5, "restore", "()I"⟩
abbrev cX5_begin : ByteArray := prog_1_method_40_code
def yX5_begin : MethodName := ⟨RX5, "begin", "()V"⟩
abbrev cX5_refuse : ByteArray := prog_1_method_41_code
def yX5_refuse : MethodName := ⟨RX5, "refuse", "(II)I"⟩
abbrev cX5_settle : ByteArray := prog_1_method_42_code
def yX5_settle : MethodName := ⟨RX5, "settle", "(I)I"⟩
abbrev cX5_carryOut : ByteArray := prog_1_method_43_code
def yX5_carryOut : MethodName := ⟨RX5, "carryOut", "(CLMirageSurvey$Row;)I"⟩
abbrev cX5_driveStake : ByteArray := prog_1_method_44_code
def yX5_driveStake : MethodName := ⟨RX5, "driveStake", "(I)I"⟩
abbrev cX5_setUpPost : ByteArray := prog_1_method_45_code
def yX5_setUpPost : MethodName := ⟨RX5, "setUpPost", "(II)I"⟩
abbrev cX5_addSheet : ByteArray := prog_1_method_46_code
def yX5_addSheet : MethodName := ⟨RX5, "addSheet", "()I"⟩
abbrev cX5_setDayHeat : ByteArray := prog_1_method_47_code
def yX5_setDayHeat : MethodName := ⟨RX5, "setDayHeat", "(I)I"⟩
abbrev cX5_drawSighted : ByteArray := prog_1_method_48_code
def yX5_drawSighted : MethodName := ⟨RX5, "drawSighted", "(III)I"⟩
abbrev cX5_eraseDrawn : ByteArray := prog_1_method_49_code
def yX5_eraseDrawn : MethodName := ⟨RX5, "eraseDrawn", "(II)I"⟩
abbrev cX5_bringCamel : ByteArray := prog_1_method_50_code
def yX5_bringCamel : MethodName := ⟨RX5, "bringCamel", "(I)I"⟩
abbrev cX5_ringBell : ByteArray := prog_1_method_51_code
def yX5_ringBell : MethodName := ⟨RX5, "ringBell", "(I)I"⟩
abbrev cX5_tieCamel : ByteArray := prog_1_method_52_code
def yX5_tieCamel : MethodName := ⟨RX5, "tieCamel", "(I)I"⟩
abbrev cX5_loosenCamel : ByteArray := prog_1_method_53_code
def yX5_loosenCamel : MethodName := ⟨RX5, "loosenCamel", "(I)I"⟩
abbrev cX5_waterCamel : ByteArray := prog_1_method_54_code
def yX5_waterCamel : MethodName := ⟨RX5, "waterCamel", "(I)I"⟩
abbrev cX5_bringWater : ByteArray := prog_1_method_55_code
def yX5_bringWater : MethodName := ⟨RX5, "bringWater", "(I)I"⟩
abbrev cX5_passHours : ByteArray := prog_1_method_56_code
def yX5_passHours : MethodName := ⟨RX5, "passHours", "(I)I"⟩
abbrev cX5_isPlace : ByteArray := prog_1_method_57_code
def yX5_isPlace : MethodName := ⟨RX5, "isPlace", "(I)Z"⟩
abbrev cX5_nearestPlace : ByteArray := prog_1_method_58_code
def yX5_nearestPlace : MethodName := ⟨RX5, "nearestPlace", "(I)I"⟩
abbrev cX5_wayTo : ByteArray := prog_1_method_59_code
def yX5_wayTo : MethodName := ⟨RX5, "wayTo", "(II)I"⟩
abbrev cX5_needStake : ByteArray := prog_1_method_60_code
def yX5_needStake : MethodName := ⟨RX5, "needStake", "(I)V"⟩
abbrev cX5_needPost : ByteArray := prog_1_method_61_code
def yX5_needPost : MethodName := ⟨RX5, "needPost", "(I)V"⟩
abbrev cX5_needSheet : ByteArray := prog_1_method_62_code
def yX5_needSheet : MethodName := ⟨RX5, "needSheet", "(I)V"⟩
abbrev cX5_needCamel : ByteArray := prog_1_method_63_code
def yX5_needCamel : MethodName := ⟨RX5, "needCamel", "(I)V"⟩
def RX6 : String := "MirageSurveyModel"
def TX6 : u_T := fun k => match k with
  | _ => ("", "", "", false)
def tyX6 : Nat → FieldType := fun k => match k with
  | _ => .int
abbrev wsX60 : List Cond := u_ws RX6 TX6 0
theorem nmX6 : ∀ a, a < 0 → ∀ b, b < 0 → a ≠ b → (TX6 a).2.1 ≠ (TX6 b).2.1 := by decide +kernel
theorem tyX6_ok : ∀ k, k < 0 → parseFieldDescriptor (TX6 k).2.2.1 = some (tyX6 k) := by decide +kernel
def RJx145de : String := "java/io/Serializable"
def TJx145de : u_T := fun k => match k with
  | _ => ("", "", "", false)
def tyJx145de : Nat → FieldType := fun k => match k with
  | _ => .int
abbrev wsJx145de0 : List Cond := u_ws RJx145de TJx145de 0
theorem nmJx145de : ∀ a, a < 0 → ∀ b, b < 0 → a ≠ b → (TJx145de a).2.1 ≠ (TJx145de b).2.1 := by decide +kernel
theorem tyJx145de_ok : ∀ k, k < 0 → parseFieldDescriptor (TJx145de k).2.2.1 = some (tyJx145de k) := by decide +kernel
def RJ5 : String := "java/lang/AbstractStringBuilder"
def TJ5 : u_T := fun k => match k with
  | _ => ("", "", "", false)
def tyJ5 : Nat → FieldType := fun k => match k with
  | _ => .int
abbrev wsJ50 : List Cond := u_ws RJ5 TJ5 0
theorem nmJ5 : ∀ a, a < 0 → ∀ b, b < 0 → a ≠ b → (TJ5 a).2.1 ≠ (TJ5 b).2.1 := by decide +kernel
theorem tyJ5_ok : ∀ k, k < 0 → parseFieldDescriptor (TJ5 k).2.2.1 = some (tyJ5 k) := by decide +kernel
abbrev cJ5_init_d00df : ByteArray := prog_10_method_2_code
def yJ5_init_d00df : MethodName := ⟨RJ5, "<init>", "(I)V"⟩
abbrev cJ5_length_8abf5 : ByteArray := prog_10_method_6_code
def yJ5_length_8abf5 : MethodName := ⟨RJ5, "length", "()I"⟩
abbrev cJ5_ensureCapacityInternal_d00df : ByteArray := prog_10_method_9_code
def yJ5_ensureCapacityInternal_d00df : MethodName := ⟨RJ5, "ensureCapacityInternal", "(I)V"⟩
abbrev cJ5_newCapacity_0f7a4 : ByteArray := prog_10_method_10_code
def yJ5_newCapacity_0f7a4 : MethodName := ⟨RJ5, "newCapacity", "(I)I"⟩
abbrev cJ5_inflate_da8c8 : ByteArray := prog_10_method_11_code
def yJ5_inflate_da8c8 : MethodName := ⟨RJ5, "inflate", "()V"⟩
abbrev cJ5_append_cf1ce : ByteArray := prog_10_method_22_code
def yJ5_append_cf1ce : MethodName := ⟨RJ5, "append", "(Ljava/lang/String;)Ljava/lang/AbstractStringBuilder;"⟩
abbrev cJ5_appendNull_278bc : ByteArray := prog_10_method_26_code
def yJ5_appendNull_278bc : MethodName := ⟨RJ5, "appendNull", "()Ljava/lang/AbstractStringBuilder;"⟩
abbrev cJ5_append_c97b9 : ByteArray := prog_10_method_32_code
def yJ5_append_c97b9 : MethodName := ⟨RJ5, "append", "(I)Ljava/lang/AbstractStringBuilder;"⟩
abbrev cJ5_getValue_6d5f1 : ByteArray := prog_10_method_64_code
def yJ5_getValue_6d5f1 : MethodName := ⟨RJ5, "getValue", "()[B"⟩
abbrev cJ5_isLatin1_aae02 : ByteArray := prog_10_method_68_code
def yJ5_isLatin1_aae02 : MethodName := ⟨RJ5, "isLatin1", "()Z"⟩
abbrev cJ5_inflateIfNeededFor_a7421 : ByteArray := prog_10_method_71_code
def yJ5_inflateIfNeededFor_a7421 : MethodName := ⟨RJ5, "inflateIfNeededFor", "(Ljava/lang/String;)V"⟩
abbrev cJ5_putStringAt_47b60 : ByteArray := prog_10_method_73_code
def yJ5_putStringAt_47b60 : MethodName := ⟨RJ5, "putStringAt", "(ILjava/lang/String;)V"⟩
def RJx2cfe8 : String := "java/lang/Appendable"
def TJx2cfe8 : u_T := fun k => match k with
  | _ => ("", "", "", false)
def tyJx2cfe8 : Nat → FieldType := fun k => match k with
  | _ => .int
abbrev wsJx2cfe80 : List Cond := u_ws RJx2cfe8 TJx2cfe8 0
theorem nmJx2cfe8 : ∀ a, a < 0 → ∀ b, b < 0 → a ≠ b → (TJx2cfe8 a).2.1 ≠ (TJx2cfe8 b).2.1 := by decide +kernel
theorem tyJx2cfe8_ok : ∀ k, k < 0 → parseFieldDescriptor (TJx2cfe8 k).2.2.1 = some (tyJx2cfe8 k) := by decide +kernel
def RJx00060 : String := "java/lang/ArrayIndexOutOfBoundsException"
def TJx00060 : u_T := fun k => match k with
  | 0 => ("java/lang/Throwable", "backtrace", "Ljava/lang/Object;", false)
  | 1 => ("java/lang/Throwable", "detailMessage", "Ljava/lang/String;", false)
  | 2 => ("java/lang/Throwable", "cause", "Ljava/lang/Throwable;", false)
  | 3 => ("java/lang/Throwable", "stackTrace", "[Ljava/lang/StackTraceElement;", false)
  | 4 => ("java/lang/Throwable", "depth", "I", false)
  | _ => ("java/lang/Throwable", "suppressedExceptions", "Ljava/util/List;", false)
def tyJx00060 : Nat → FieldType := fun k => match k with
  | 0 => .object "java/lang/Object"
  | 1 => .object "java/lang/String"
  | 2 => .object "java/lang/Throwable"
  | 3 => .array (.object "java/lang/StackTraceElement")
  | 4 => .int
  | _ => .object "java/util/List"
abbrev wsJx000600 : List Cond := u_ws RJx00060 TJx00060 6
theorem nmJx00060 : ∀ a, a < 6 → ∀ b, b < 6 → a ≠ b → (TJx00060 a).2.1 ≠ (TJx00060 b).2.1 := by decide +kernel
theorem tyJx00060_ok : ∀ k, k < 6 → parseFieldDescriptor (TJx00060 k).2.2.1 = some (tyJx00060 k) := by decide +kernel
abbrev cJx00060_init_a7421 : ByteArray := prog_13_method_2_code
def yJx00060_init_a7421 : MethodName := ⟨RJx00060, "<init>", "(Ljava/lang/String;)V"⟩
def RJx9f9b0 : String := "java/lang/CharSequence"
def TJx9f9b0 : u_T := fun k => match k with
  | _ => ("", "", "", false)
def tyJx9f9b0 : Nat → FieldType := fun k => match k with
  | _ => .int
abbrev wsJx9f9b00 : List Cond := u_ws RJx9f9b0 TJx9f9b0 0
theorem nmJx9f9b0 : ∀ a, a < 0 → ∀ b, b < 0 → a ≠ b → (TJx9f9b0 a).2.1 ≠ (TJx9f9b0 b).2.1 := by decide +kernel
theorem tyJx9f9b0_ok : ∀ k, k < 0 → parseFieldDescriptor (TJx9f9b0 k).2.2.1 = some (tyJx9f9b0 k) := by decide +kernel
def RJx8e188 : String := "java/lang/Cloneable"
def TJx8e188 : u_T := fun k => match k with
  | _ => ("", "", "", false)
def tyJx8e188 : Nat → FieldType := fun k => match k with
  | _ => .int
abbrev wsJx8e1880 : List Cond := u_ws RJx8e188 TJx8e188 0
theorem nmJx8e188 : ∀ a, a < 0 → ∀ b, b < 0 → a ≠ b → (TJx8e188 a).2.1 ≠ (TJx8e188 b).2.1 := by decide +kernel
theorem tyJx8e188_ok : ∀ k, k < 0 → parseFieldDescriptor (TJx8e188 k).2.2.1 = some (tyJx8e188 k) := by decide +kernel
def RJxb160c : String := "java/lang/Comparable"
def TJxb160c : u_T := fun k => match k with
  | _ => ("", "", "", false)
def tyJxb160c : Nat → FieldType := fun k => match k with
  | _ => .int
abbrev wsJxb160c0 : List Cond := u_ws RJxb160c TJxb160c 0
theorem nmJxb160c : ∀ a, a < 0 → ∀ b, b < 0 → a ≠ b → (TJxb160c a).2.1 ≠ (TJxb160c b).2.1 := by decide +kernel
theorem tyJxb160c_ok : ∀ k, k < 0 → parseFieldDescriptor (TJxb160c k).2.2.1 = some (tyJxb160c k) := by decide +kernel
def RJxe99ae : String := "java/lang/Double"
def TJxe99ae : u_T := fun k => match k with
  | _ => ("", "", "", false)
def tyJxe99ae : Nat → FieldType := fun k => match k with
  | _ => .int
abbrev wsJxe99ae0 : List Cond := u_ws RJxe99ae TJxe99ae 0
theorem nmJxe99ae : ∀ a, a < 0 → ∀ b, b < 0 → a ≠ b → (TJxe99ae a).2.1 ≠ (TJxe99ae b).2.1 := by decide +kernel
theorem tyJxe99ae_ok : ∀ k, k < 0 → parseFieldDescriptor (TJxe99ae k).2.2.1 = some (tyJxe99ae k) := by decide +kernel
abbrev cJxe99ae_isNaN_b9ae7 : ByteArray := prog_17_method_6_code
def yJxe99ae_isNaN_b9ae7 : MethodName := ⟨RJxe99ae, "isNaN", "(D)Z"⟩
abbrev cJxe99ae_doubleToLongBits_ccdee : ByteArray := prog_17_method_23_code
def yJxe99ae_doubleToLongBits_ccdee : MethodName := ⟨RJxe99ae, "doubleToLongBits", "(D)J"⟩
def RJxf58ca : String := "java/lang/Float"
def TJxf58ca : u_T := fun k => match k with
  | _ => ("", "", "", false)
def tyJxf58ca : Nat → FieldType := fun k => match k with
  | _ => .int
abbrev wsJxf58ca0 : List Cond := u_ws RJxf58ca TJxf58ca 0
theorem nmJxf58ca : ∀ a, a < 0 → ∀ b, b < 0 → a ≠ b → (TJxf58ca a).2.1 ≠ (TJxf58ca b).2.1 := by decide +kernel
theorem tyJxf58ca_ok : ∀ k, k < 0 → parseFieldDescriptor (TJxf58ca k).2.2.1 = some (tyJxf58ca k) := by decide +kernel
abbrev cJxf58ca_isNaN_12338 : ByteArray := prog_19_method_6_code
def yJxf58ca_isNaN_12338 : MethodName := ⟨RJxf58ca, "isNaN", "(F)Z"⟩
abbrev cJxf58ca_floatToIntBits_5c35a : ByteArray := prog_19_method_24_code
def yJxf58ca_floatToIntBits_5c35a : MethodName := ⟨RJxf58ca, "floatToIntBits", "(F)I"⟩
def RJ6 : String := "java/lang/Integer"
def TJ6 : u_T := fun k => match k with
  | _ => ("", "", "", false)
def tyJ6 : Nat → FieldType := fun k => match k with
  | _ => .int
abbrev wsJ60 : List Cond := u_ws RJ6 TJ6 0
theorem nmJ6 : ∀ a, a < 0 → ∀ b, b < 0 → a ≠ b → (TJ6 a).2.1 ≠ (TJ6 b).2.1 := by decide +kernel
theorem tyJ6_ok : ∀ k, k < 0 → parseFieldDescriptor (TJ6 k).2.2.1 = some (tyJ6 k) := by decide +kernel
abbrev cJ6_getChars_ba4f3 : ByteArray := prog_23_method_12_code
def yJ6_getChars_ba4f3 : MethodName := ⟨RJ6, "getChars", "(II[B)I"⟩
abbrev cJ6_stringSize_0f7a4 : ByteArray := prog_23_method_13_code
def yJ6_stringSize_0f7a4 : MethodName := ⟨RJ6, "stringSize", "(I)I"⟩
def RJ9 : String := "java/lang/Math"
def TJ9 : u_T := fun k => match k with
  | _ => ("", "", "", false)
def tyJ9 : Nat → FieldType := fun k => match k with
  | _ => .int
abbrev wsJ90 : List Cond := u_ws RJ9 TJ9 0
theorem nmJ9 : ∀ a, a < 0 → ∀ b, b < 0 → a ≠ b → (TJ9 a).2.1 ≠ (TJ9 b).2.1 := by decide +kernel
theorem tyJ9_ok : ∀ k, k < 0 → parseFieldDescriptor (TJ9 k).2.2.1 = some (tyJ9 k) := by decide +kernel
abbrev cJ9_abs_0f7a4 : ByteArray := prog_24_method_59_code
def yJ9_abs_0f7a4 : MethodName := ⟨RJ9, "abs", "(I)I"⟩
abbrev cJ9_max_7cf53 : ByteArray := prog_24_method_65_code
def yJ9_max_7cf53 : MethodName := ⟨RJ9, "max", "(II)I"⟩
abbrev cJ9_min_7cf53 : ByteArray := prog_24_method_69_code
def yJ9_min_7cf53 : MethodName := ⟨RJ9, "min", "(II)I"⟩
def RJxd2413 : String := "java/lang/Number"
def TJxd2413 : u_T := fun k => match k with
  | _ => ("", "", "", false)
def tyJxd2413 : Nat → FieldType := fun k => match k with
  | _ => .int
abbrev wsJxd24130 : List Cond := u_ws RJxd2413 TJxd2413 0
theorem nmJxd2413 : ∀ a, a < 0 → ∀ b, b < 0 → a ≠ b → (TJxd2413 a).2.1 ≠ (TJxd2413 b).2.1 := by decide +kernel
theorem tyJxd2413_ok : ∀ k, k < 0 → parseFieldDescriptor (TJxd2413 k).2.2.1 = some (tyJxd2413 k) := by decide +kernel
def RJ0 : String := "java/lang/String"
def TJ0 : u_T := fun k => match k with
  | 0 => ("java/lang/String", "value", "[B", true)
  | 1 => ("java/lang/String", "coder", "B", true)
  | 2 => ("java/lang/String", "hash", "I", false)
  | _ => ("java/lang/String", "hashIsZero", "Z", false)
def tyJ0 : Nat → FieldType := fun k => match k with
  | 0 => .array .byte
  | 1 => .byte
  | 2 => .int
  | _ => .boolean
abbrev wsJ00 : List Cond := u_ws RJ0 TJ0 4
theorem nmJ0 : ∀ a, a < 4 → ∀ b, b < 4 → a ≠ b → (TJ0 a).2.1 ≠ (TJ0 b).2.1 := by decide +kernel
theorem tyJ0_ok : ∀ k, k < 4 → parseFieldDescriptor (TJ0 k).2.2.1 = some (tyJ0 k) := by decide +kernel
abbrev cJ0_init_81219 : ByteArray := prog_27_method_53_code
def yJ0_init_81219 : MethodName := ⟨RJ0, "<init>", "(Ljava/lang/StringBuilder;)V"⟩
abbrev cJ0_length_8abf5 : ByteArray := prog_27_method_54_code
def yJ0_length_8abf5 : MethodName := ⟨RJ0, "length", "()I"⟩
abbrev cJ0_isEmpty_aae02 : ByteArray := prog_27_method_55_code
def yJ0_isEmpty_aae02 : MethodName := ⟨RJ0, "isEmpty", "()Z"⟩
abbrev cJ0_charAt_5068e : ByteArray := prog_27_method_56_code
def yJ0_charAt_5068e : MethodName := ⟨RJ0, "charAt", "(I)C"⟩
abbrev cJ0_getBytes_840e7 : ByteArray := prog_27_method_147_code
def yJ0_getBytes_840e7 : MethodName := ⟨RJ0, "getBytes", "([BIB)V"⟩
abbrev cJ0_init_db425 : ByteArray := prog_27_method_150_code
def yJ0_init_db425 : MethodName := ⟨RJ0, "<init>", "(Ljava/lang/AbstractStringBuilder;Ljava/lang/Void;)V"⟩
abbrev cJ0_coder_7d493 : ByteArray := prog_27_method_152_code
def yJ0_coder_7d493 : MethodName := ⟨RJ0, "coder", "()B"⟩
abbrev cJ0_isLatin1_aae02 : ByteArray := prog_27_method_154_code
def yJ0_isLatin1_aae02 : MethodName := ⟨RJ0, "isLatin1", "()Z"⟩
abbrev cJ0_checkIndex_df160 : ByteArray := prog_27_method_155_code
def yJ0_checkIndex_df160 : MethodName := ⟨RJ0, "checkIndex", "(II)V"⟩
abbrev cJ0_checkBoundsOffCount_cabcc : ByteArray := prog_27_method_157_code
def yJ0_checkBoundsOffCount_cabcc : MethodName := ⟨RJ0, "checkBoundsOffCount", "(III)I"⟩
abbrev cJ0_checkBoundsBeginEnd_23922 : ByteArray := prog_27_method_158_code
def yJ0_checkBoundsBeginEnd_23922 : MethodName := ⟨RJ0, "checkBoundsBeginEnd", "(III)V"⟩
def RJ4 : String := "java/lang/StringBuilder"
def TJ4 : u_T := fun k => match k with
  | 0 => ("java/lang/AbstractStringBuilder", "value", "[B", false)
  | 1 => ("java/lang/AbstractStringBuilder", "coder", "B", false)
  | 2 => ("java/lang/AbstractStringBuilder", "maybeLatin1", "Z", false)
  | _ => ("java/lang/AbstractStringBuilder", "count", "I", false)
def tyJ4 : Nat → FieldType := fun k => match k with
  | 0 => .array .byte
  | 1 => .byte
  | 2 => .boolean
  | _ => .int
abbrev wsJ40 : List Cond := u_ws RJ4 TJ4 4
theorem nmJ4 : ∀ a, a < 4 → ∀ b, b < 4 → a ≠ b → (TJ4 a).2.1 ≠ (TJ4 b).2.1 := by decide +kernel
theorem tyJ4_ok : ∀ k, k < 4 → parseFieldDescriptor (TJ4 k).2.2.1 = some (tyJ4 k) := by decide +kernel
abbrev cJ4_init_da8c8 : ByteArray := prog_28_method_1_code
def yJ4_init_da8c8 : MethodName := ⟨RJ4, "<init>", "()V"⟩
abbrev cJ4_append_15ec4 : ByteArray := prog_28_method_7_code
def yJ4_append_15ec4 : MethodName := ⟨RJ4, "append", "(Ljava/lang/String;)Ljava/lang/StringBuilder;"⟩
abbrev cJ4_append_bf812 : ByteArray := prog_28_method_15_code
def yJ4_append_bf812 : MethodName := ⟨RJ4, "append", "(I)Ljava/lang/StringBuilder;"⟩
abbrev cJ4_toString_0e30d : ByteArray := prog_28_method_42_code
def yJ4_toString_0e30d : MethodName := ⟨RJ4, "toString", "()Ljava/lang/String;"⟩
abbrev cJ4_length_8abf5 : ByteArray := prog_28_method_93_code
def yJ4_length_8abf5 : MethodName := ⟨RJ4, "length", "()I"⟩
def RJ1 : String := "java/lang/StringLatin1"
def TJ1 : u_T := fun k => match k with
  | _ => ("", "", "", false)
def tyJ1 : Nat → FieldType := fun k => match k with
  | _ => .int
abbrev wsJ10 : List Cond := u_ws RJ1 TJ1 0
theorem nmJ1 : ∀ a, a < 0 → ∀ b, b < 0 → a ≠ b → (TJ1 a).2.1 ≠ (TJ1 b).2.1 := by decide +kernel
theorem tyJ1_ok : ∀ k, k < 0 → parseFieldDescriptor (TJ1 k).2.2.1 = some (tyJ1 k) := by decide +kernel
abbrev cJ1_charAt_3b067 : ByteArray := prog_29_method_2_code
def yJ1_charAt_3b067 : MethodName := ⟨RJ1, "charAt", "([BI)C"⟩
abbrev cJ1_inflate_0e8fd : ByteArray := prog_29_method_50_code
def yJ1_inflate_0e8fd : MethodName := ⟨RJ1, "inflate", "([BI[BII)V"⟩
def RJ2 : String := "java/lang/StringUTF16"
def TJ2 : u_T := fun k => match k with
  | _ => ("", "", "", false)
def tyJ2 : Nat → FieldType := fun k => match k with
  | _ => .int
abbrev wsJ20 : List Cond := u_ws RJ2 TJ2 0
theorem nmJ2 : ∀ a, a < 0 → ∀ b, b < 0 → a ≠ b → (TJ2 a).2.1 ≠ (TJ2 b).2.1 := by decide +kernel
theorem tyJ2_ok : ∀ k, k < 0 → parseFieldDescriptor (TJ2 k).2.2.1 = some (tyJ2 k) := by decide +kernel
abbrev cJ2_newBytesFor_77867 : ByteArray := prog_30_method_2_code
def yJ2_newBytesFor_77867 : MethodName := ⟨RJ2, "newBytesFor", "(I)[B"⟩
abbrev cJ2_newBytesLength_0f7a4 : ByteArray := prog_30_method_3_code
def yJ2_newBytesLength_0f7a4 : MethodName := ⟨RJ2, "newBytesLength", "(I)I"⟩
abbrev cJ2_putChar_b72d1 : ByteArray := prog_30_method_4_code
def yJ2_putChar_b72d1 : MethodName := ⟨RJ2, "putChar", "([BII)V"⟩
abbrev cJ2_getChar_3b067 : ByteArray := prog_30_method_5_code
def yJ2_getChar_3b067 : MethodName := ⟨RJ2, "getChar", "([BI)C"⟩
abbrev cJ2_length_9d52b : ByteArray := prog_30_method_6_code
def yJ2_length_9d52b : MethodName := ⟨RJ2, "length", "([B)I"⟩
abbrev cJ2_coderFromArrayLen_85cad : ByteArray := prog_30_method_15_code
def yJ2_coderFromArrayLen_85cad : MethodName := ⟨RJ2, "coderFromArrayLen", "([BI)B"⟩
abbrev cJ2_compress_39247 : ByteArray := prog_30_method_17_code
def yJ2_compress_39247 : MethodName := ⟨RJ2, "compress", "([BII)[B"⟩
abbrev cJ2_compress_5af95 : ByteArray := prog_30_method_22_code
def yJ2_compress_5af95 : MethodName := ⟨RJ2, "compress", "([BI[BII)I"⟩
abbrev cJ2_getChars_46870 : ByteArray := prog_30_method_77_code
def yJ2_getChars_46870 : MethodName := ⟨RJ2, "getChars", "(III[B)I"⟩
abbrev cJ2_putCharsAt_cd4e5 : ByteArray := prog_30_method_81_code
def yJ2_putCharsAt_cd4e5 : MethodName := ⟨RJ2, "putCharsAt", "([BICCCC)I"⟩
abbrev cJ2_charAt_3b067 : ByteArray := prog_30_method_83_code
def yJ2_charAt_3b067 : MethodName := ⟨RJ2, "charAt", "([BI)C"⟩
abbrev cJ2_inflate_0e8fd : ByteArray := prog_30_method_86_code
def yJ2_inflate_0e8fd : MethodName := ⟨RJ2, "inflate", "([BI[BII)V"⟩
abbrev cJ2_getChars_ba4f3 : ByteArray := prog_30_method_89_code
def yJ2_getChars_ba4f3 : MethodName := ⟨RJ2, "getChars", "(II[B)I"⟩
abbrev cJ2_checkIndex_2214a : ByteArray := prog_30_method_91_code
def yJ2_checkIndex_2214a : MethodName := ⟨RJ2, "checkIndex", "(I[B)V"⟩
abbrev cJ2_checkBoundsBeginEnd_d044e : ByteArray := prog_30_method_93_code
def yJ2_checkBoundsBeginEnd_d044e : MethodName := ⟨RJ2, "checkBoundsBeginEnd", "(II[B)V"⟩
abbrev cJ2_checkBoundsOffCount_d044e : ByteArray := prog_30_method_94_code
def yJ2_checkBoundsOffCount_d044e : MethodName := ⟨RJ2, "checkBoundsOffCount", "(II[B)V"⟩
def RJ10 : String := "java/lang/System"
def TJ10 : u_T := fun k => match k with
  | _ => ("", "", "", false)
def tyJ10 : Nat → FieldType := fun k => match k with
  | _ => .int
abbrev wsJ100 : List Cond := u_ws RJ10 TJ10 0
theorem nmJ10 : ∀ a, a < 0 → ∀ b, b < 0 → a ≠ b → (TJ10 a).2.1 ≠ (TJ10 b).2.1 := by decide +kernel
theorem tyJ10_ok : ∀ k, k < 0 → parseFieldDescriptor (TJ10 k).2.2.1 = some (tyJ10 k) := by decide +kernel
def RJxfd54e : String := "java/lang/constant/Constable"
def TJxfd54e : u_T := fun k => match k with
  | _ => ("", "", "", false)
def tyJxfd54e : Nat → FieldType := fun k => match k with
  | _ => .int
abbrev wsJxfd54e0 : List Cond := u_ws RJxfd54e TJxfd54e 0
theorem nmJxfd54e : ∀ a, a < 0 → ∀ b, b < 0 → a ≠ b → (TJxfd54e a).2.1 ≠ (TJxfd54e b).2.1 := by decide +kernel
theorem tyJxfd54e_ok : ∀ k, k < 0 → parseFieldDescriptor (TJxfd54e k).2.2.1 = some (tyJxfd54e k) := by decide +kernel
def RJx3cf43 : String := "java/lang/constant/ConstantDesc"
def TJx3cf43 : u_T := fun k => match k with
  | _ => ("", "", "", false)
def tyJx3cf43 : Nat → FieldType := fun k => match k with
  | _ => .int
abbrev wsJx3cf430 : List Cond := u_ws RJx3cf43 TJx3cf43 0
theorem nmJx3cf43 : ∀ a, a < 0 → ∀ b, b < 0 → a ≠ b → (TJx3cf43 a).2.1 ≠ (TJx3cf43 b).2.1 := by decide +kernel
theorem tyJx3cf43_ok : ∀ k, k < 0 → parseFieldDescriptor (TJx3cf43 k).2.2.1 = some (tyJx3cf43 k) := by decide +kernel
def RJ7 : String := "java/util/Arrays"
def TJ7 : u_T := fun k => match k with
  | _ => ("", "", "", false)
def tyJ7 : Nat → FieldType := fun k => match k with
  | _ => .int
abbrev wsJ70 : List Cond := u_ws RJ7 TJ7 0
theorem nmJ7 : ∀ a, a < 0 → ∀ b, b < 0 → a ≠ b → (TJ7 a).2.1 ≠ (TJ7 b).2.1 := by decide +kernel
theorem tyJ7_ok : ∀ k, k < 0 → parseFieldDescriptor (TJ7 k).2.2.1 = some (tyJ7 k) := by decide +kernel
abbrev cJ7_copyOf_9075b : ByteArray := prog_36_method_121_code
def yJ7_copyOf_9075b : MethodName := ⟨RJ7, "copyOf", "([BI)[B"⟩
abbrev cJ7_checkLength_df160 : ByteArray := prog_36_method_131_code
def yJ7_checkLength_df160 : MethodName := ⟨RJ7, "checkLength", "(II)V"⟩
abbrev cJ7_copyOfRange_39247 : ByteArray := prog_36_method_132_code
def yJ7_copyOfRange_39247 : MethodName := ⟨RJ7, "copyOfRange", "([BII)[B"⟩
abbrev cJ7_copyOfRangeByte_39247 : ByteArray := prog_36_method_133_code
def yJ7_copyOfRangeByte_39247 : MethodName := ⟨RJ7, "copyOfRangeByte", "([BII)[B"⟩
def RJ8 : String := "jdk/internal/util/ArraysSupport"
def TJ8 : u_T := fun k => match k with
  | _ => ("", "", "", false)
def tyJ8 : Nat → FieldType := fun k => match k with
  | _ => .int
abbrev wsJ80 : List Cond := u_ws RJ8 TJ8 0
theorem nmJ8 : ∀ a, a < 0 → ∀ b, b < 0 → a ≠ b → (TJ8 a).2.1 ≠ (TJ8 b).2.1 := by decide +kernel
theorem tyJ8_ok : ∀ k, k < 0 → parseFieldDescriptor (TJ8 k).2.2.1 = some (tyJ8 k) := by decide +kernel
abbrev cJ8_newLength_cabcc : ByteArray := prog_38_method_27_code
def yJ8_newLength_cabcc : MethodName := ⟨RJ8, "newLength", "(III)I"⟩
abbrev cJ8_hugeLength_7cf53 : ByteArray := prog_38_method_28_code
def yJ8_hugeLength_7cf53 : MethodName := ⟨RJ8, "hugeLength", "(II)I"⟩
def RJ3 : String := "jdk/internal/util/Preconditions"
def TJ3 : u_T := fun k => match k with
  | _ => ("", "", "", false)
def tyJ3 : Nat → FieldType := fun k => match k with
  | _ => .int
abbrev wsJ30 : List Cond := u_ws RJ3 TJ3 0
theorem nmJ3 : ∀ a, a < 0 → ∀ b, b < 0 → a ≠ b → (TJ3 a).2.1 ≠ (TJ3 b).2.1 := by decide +kernel
theorem tyJ3_ok : ∀ k, k < 0 → parseFieldDescriptor (TJ3 k).2.2.1 = some (tyJ3 k) := by decide +kernel
abbrev cJ3_checkIndex_8e157 : ByteArray := prog_39_method_11_code
def yJ3_checkIndex_8e157 : MethodName := ⟨RJ3, "checkIndex", "(IILjava/util/function/BiFunction;)I"⟩
abbrev cJ3_checkFromToIndex_8c36e : ByteArray := prog_39_method_12_code
def yJ3_checkFromToIndex_8c36e : MethodName := ⟨RJ3, "checkFromToIndex", "(IIILjava/util/function/BiFunction;)I"⟩
abbrev cJ3_checkFromIndexSize_8c36e : ByteArray := prog_39_method_13_code
def yJ3_checkFromIndexSize_8c36e : MethodName := ⟨RJ3, "checkFromIndexSize", "(IIILjava/util/function/BiFunction;)I"⟩
def RL : String := "MirageSurveyLaw"
abbrev cL_at : ByteArray := method_2_code
def yL_at : MethodName := ⟨RL, "at", "([II)I"⟩
abbrev cL_some : ByteArray := method_3_code
def yL_some : MethodName := ⟨RL, "some", "(II)I"⟩
abbrev cL_stake : ByteArray := method_4_code
def yL_stake : MethodName := ⟨RL, "stake", "(LMirageSurvey;I)I"⟩
abbrev cL_post : ByteArray := method_5_code
def yL_post : MethodName := ⟨RL, "post", "(LMirageSurvey;II)I"⟩
abbrev cL_sheet : ByteArray := method_6_code
def yL_sheet : MethodName := ⟨RL, "sheet", "(LMirageSurvey;)I"⟩
abbrev cL_heat : ByteArray := method_7_code
def yL_heat : MethodName := ⟨RL, "heat", "(LMirageSurvey;I)I"⟩
abbrev cL_sight : ByteArray := method_8_code
def yL_sight : MethodName := ⟨RL, "sight", "(LMirageSurvey;III)I"⟩
abbrev cL_erase : ByteArray := method_9_code
def yL_erase : MethodName := ⟨RL, "erase", "(LMirageSurvey;II)I"⟩
abbrev cL_camel : ByteArray := method_10_code
def yL_camel : MethodName := ⟨RL, "camel", "(LMirageSurvey;I)I"⟩
abbrev cL_bell : ByteArray := method_11_code
def yL_bell : MethodName := ⟨RL, "bell", "(LMirageSurvey;I)I"⟩
abbrev cL_tie : ByteArray := method_12_code
def yL_tie : MethodName := ⟨RL, "tie", "(LMirageSurvey;I)I"⟩
abbrev cL_loose : ByteArray := method_13_code
def yL_loose : MethodName := ⟨RL, "loose", "(LMirageSurvey;I)I"⟩
abbrev cL_drink : ByteArray := method_14_code
def yL_drink : MethodName := ⟨RL, "drink", "(LMirageSurvey;I)I"⟩
abbrev cL_water : ByteArray := method_15_code
def yL_water : MethodName := ⟨RL, "water", "(LMirageSurvey;I)I"⟩
abbrev cL_hours : ByteArray := method_16_code
def yL_hours : MethodName := ⟨RL, "hours", "(LMirageSurvey;I)I"⟩
abbrev cL_stakeAt : ByteArray := method_17_code
def yL_stakeAt : MethodName := ⟨RL, "stakeAt", "(LMirageSurvey;I)I"⟩
abbrev cL_postOf : ByteArray := method_18_code
def yL_postOf : MethodName := ⟨RL, "postOf", "(LMirageSurvey;IZ)I"⟩
abbrev cL_camelOf : ByteArray := method_19_code
def yL_camelOf : MethodName := ⟨RL, "camelOf", "(LMirageSurvey;II)I"⟩
abbrev cL_drawnAt : ByteArray := method_20_code
def yL_drawnAt : MethodName := ⟨RL, "drawnAt", "(LMirageSurvey;II)I"⟩
abbrev cL_wrongBy : ByteArray := method_21_code
def yL_wrongBy : MethodName := ⟨RL, "wrongBy", "(LMirageSurvey;I)I"⟩
abbrev cL_seems : ByteArray := method_22_code
def yL_seems : MethodName := ⟨RL, "seems", "(LMirageSurvey;II)I"⟩
abbrev cL_seemsAgain : ByteArray := method_23_code
def yL_seemsAgain : MethodName := ⟨RL, "seemsAgain", "(LMirageSurvey;II)I"⟩
abbrev cL_shimmers : ByteArray := method_24_code
def yL_shimmers : MethodName := ⟨RL, "shimmers", "(LMirageSurvey;II)I"⟩
abbrev cL_bestPost : ByteArray := method_25_code
def yL_bestPost : MethodName := ⟨RL, "bestPost", "(LMirageSurvey;I)I"⟩
abbrev cL_clearIn : ByteArray := method_26_code
def yL_clearIn : MethodName := ⟨RL, "clearIn", "(LMirageSurvey;II)I"⟩
abbrev cL_heatIn : ByteArray := method_27_code
def yL_heatIn : MethodName := ⟨RL, "heatIn", "(LMirageSurvey;I)I"⟩
abbrev cL_lostIn : ByteArray := method_28_code
def yL_lostIn : MethodName := ⟨RL, "lostIn", "(LMirageSurvey;I)I"⟩
abbrev cL_nearest : ByteArray := method_29_code
def yL_nearest : MethodName := ⟨RL, "nearest", "(LMirageSurvey;I)I"⟩
abbrev cL_append : ByteArray := method_30_code
def yL_append : MethodName := ⟨RL, "append", "(LMirageSurvey;C)I"⟩
abbrev cL_commands : ByteArray := method_31_code
def yL_commands : MethodName := ⟨RL, "commands", "(LMirageSurvey;)I"⟩
abbrev cL_reason : ByteArray := method_32_code
def yL_reason : MethodName := ⟨RL, "reason", "(LMirageSurvey;I)I"⟩
abbrev cL_line : ByteArray := method_33_code
def yL_line : MethodName := ⟨RL, "line", "(LMirageSurvey;I)I"⟩
abbrev cL_character : ByteArray := method_34_code
def yL_character : MethodName := ⟨RL, "character", "(LMirageSurvey;I)I"⟩
abbrev cL_meanThirst : ByteArray := method_35_code
def yL_meanThirst : MethodName := ⟨RL, "meanThirst", "(LMirageSurvey;)F"⟩
abbrev cL_rightShare : ByteArray := method_36_code
def yL_rightShare : MethodName := ⟨RL, "rightShare", "(LMirageSurvey;)D"⟩
abbrev cL_account : ByteArray := method_37_code
def yL_account : MethodName := ⟨RL, "account", "(LMirageSurvey;I)I"⟩
abbrev cL_undo : ByteArray := method_38_code
def yL_undo : MethodName := ⟨RL, "undo", "(LMirageSurvey;)I"⟩
abbrev cL_restore : ByteArray := method_39_code
def yL_restore : MethodName := ⟨RL, "restore", "(LMirageSurvey;)I"⟩
abbrev cL_reads : ByteArray := method_40_code
def yL_reads : MethodName := ⟨RL, "reads", "(LMirageSurvey;Ljava/lang/String;)I"⟩
abbrev cL_is : ByteArray := method_41_code
def yL_is : MethodName := ⟨RL, "is", "(LMirageSurvey;III)Z"⟩
abbrev cL_makes : ByteArray := method_43_code
def yL_makes : MethodName := ⟨RL, "makes", "(LMirageSurvey;[I)Z"⟩
abbrev cL_asks : ByteArray := method_44_code
def yL_asks : MethodName := ⟨RL, "asks", "(LMirageSurvey;)J"⟩
abbrev cL_changes : ByteArray := method_45_code
def yL_changes : MethodName := ⟨RL, "changes", "(LMirageSurvey;I)Z"⟩
abbrev cL_refused : ByteArray := method_46_code
def yL_refused : MethodName := ⟨RL, "refused", "(LMirageSurvey;)Z"⟩
abbrev cL_law : ByteArray := code
def yL_law : MethodName := ⟨RL, "law", "([I)Z"⟩
abbrev vwCl : List vw_C := [(RJ0, TJ0, 4), (RJx00060, TJx00060, 6), (RX0, TX0, 13), (RX1, TX1, 3), (RX2, TX2, 2), (RX3, TX3, 2), (RX4, TX4, 5), (RX5, TX5, 12), (RJ4, TJ4, 4)]
