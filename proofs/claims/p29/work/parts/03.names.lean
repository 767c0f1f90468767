/-! ===== BEGIN printed: names, fields, word lists, decode rows ===== -/
def RX0 : String := "TideFares$FerryText"
def TX0 : u_T := fun k => match k with
  | 0 => ("TideFares$FerryText", "codes", "[I", true)
  | 1 => ("TideFares$FerryText", "numbers", "[I", true)
  | 2 => ("TideFares$FerryText", "length", "I", false)
  | 3 => ("TideFares$FerryText", "part", "I", false)
  | 4 => ("TideFares$FerryText", "stage", "I", false)
  | 5 => ("TideFares$FerryText", "from", "I", false)
  | _ => ("TideFares$FerryText", "value", "I", false)
def tyX0 : Nat → FieldType := fun k => match k with
  | 0 => .array .int
  | 1 => .array .int
  | 2 => .int
  | 3 => .int
  | 4 => .int
  | 5 => .int
  | _ => .int
abbrev wsX00 : List Cond := u_ws RX0 TX0 7
theorem nmX0 : ∀ a, a < 7 → ∀ b, b < 7 → a ≠ b → (TX0 a).2.1 ≠ (TX0 b).2.1 := by decide +kernel
theorem tyX0_ok : ∀ k, k < 7 → parseFieldDescriptor (TX0 k).2.2.1 = some (tyX0 k) := by decide +kernel
abbrev cX0_init : ByteArray := prog_2_method_1_code
def yX0_init : MethodName := ⟨RX0, "<init>", "()V"⟩
def RX1 : String := "TideFares$Sea"
def TX1 : u_T := fun k => match k with
  | _ => ("TideFares$Sea", "numbers", "[I", true)
def tyX1 : Nat → FieldType := fun k => match k with
  | _ => .array .int
abbrev wsX10 : List Cond := u_ws RX1 TX1 1
theorem nmX1 : ∀ a, a < 1 → ∀ b, b < 1 → a ≠ b → (TX1 a).2.1 ≠ (TX1 b).2.1 := by decide +kernel
theorem tyX1_ok : ∀ k, k < 1 → parseFieldDescriptor (TX1 k).2.2.1 = some (tyX1 k) := by decide +kernel
abbrev cX1_init : ByteArray := prog_3_method_1_code
def yX1_init : MethodName := ⟨RX1, "<init>", "()V"⟩
abbrev cX1_copyTo : ByteArray := prog_3_method_2_code
def yX1_copyTo : MethodName := ⟨RX1, "copyTo", "([II)V"⟩
abbrev cX1_ferryCount : ByteArray := prog_3_method_4_code
def yX1_ferryCount : MethodName := ⟨RX1, "ferryCount", "()I"⟩
abbrev cX1_settingValue : ByteArray := prog_3_method_5_code
def yX1_settingValue : MethodName := ⟨RX1, "settingValue", "(I)I"⟩
abbrev cX1_changeSetting : ByteArray := prog_3_method_6_code
def yX1_changeSetting : MethodName := ⟨RX1, "changeSetting", "(II)V"⟩
abbrev cX1_ferryNumber : ByteArray := prog_3_method_7_code
def yX1_ferryNumber : MethodName := ⟨RX1, "ferryNumber", "(II)I"⟩
abbrev cX1_changeFerry : ByteArray := prog_3_method_8_code
def yX1_changeFerry : MethodName := ⟨RX1, "changeFerry", "(III)V"⟩
abbrev cX1_travellerNumber : ByteArray := prog_3_method_9_code
def yX1_travellerNumber : MethodName := ⟨RX1, "travellerNumber", "(II)I"⟩
abbrev cX1_changeTraveller : ByteArray := prog_3_method_10_code
def yX1_changeTraveller : MethodName := ⟨RX1, "changeTraveller", "(III)V"⟩
abbrev cX1_sumOfTravellers : ByteArray := prog_3_method_11_code
def yX1_sumOfTravellers : MethodName := ⟨RX1, "sumOfTravellers", "(I)I"⟩
abbrev cX1_tell : ByteArray := prog_3_method_12_code
def yX1_tell : MethodName := ⟨RX1, "tell", "(IIIIIII)V"⟩
abbrev cX1_forget : ByteArray := prog_3_method_13_code
def yX1_forget : MethodName := ⟨RX1, "forget", "(I)V"⟩
abbrev cX1_price : ByteArray := prog_3_method_15_code
def yX1_price : MethodName := ⟨RX1, "price", "(II)I"⟩
abbrev cX1_minuteOfHour : ByteArray := prog_3_method_16_code
def yX1_minuteOfHour : MethodName := ⟨RX1, "minuteOfHour", "(II)I"⟩
abbrev cX1_nextLeaving : ByteArray := prog_3_method_17_code
def yX1_nextLeaving : MethodName := ⟨RX1, "nextLeaving", "(II)I"⟩
abbrev cX1_nextCheapLeaving : ByteArray := prog_3_method_18_code
def yX1_nextCheapLeaving : MethodName := ⟨RX1, "nextCheapLeaving", "(II)I"⟩
abbrev cX1_lastLeaving : ByteArray := prog_3_method_19_code
def yX1_lastLeaving : MethodName := ⟨RX1, "lastLeaving", "(II)I"⟩
abbrev cX1_nextOnTimetable : ByteArray := prog_3_method_20_code
def yX1_nextOnTimetable : MethodName := ⟨RX1, "nextOnTimetable", "(II)I"⟩
abbrev cX1_lastOnTimetable : ByteArray := prog_3_method_21_code
def yX1_lastOnTimetable : MethodName := ⟨RX1, "lastOnTimetable", "(II)I"⟩
abbrev cX1_isCancelled : ByteArray := prog_3_method_22_code
def yX1_isCancelled : MethodName := ⟨RX1, "isCancelled", "(II)Z"⟩
abbrev cX1_sinceTurn : ByteArray := prog_3_method_23_code
def yX1_sinceTurn : MethodName := ⟨RX1, "sinceTurn", "(I)I"⟩
def RX2 : String := "TideFares$Ways"
def TX2 : u_T := fun k => match k with
  | 0 => ("TideFares$Ways", "arrivals", "[I", true)
  | 1 => ("TideFares$Ways", "starts", "[I", true)
  | 2 => ("TideFares$Ways", "fares", "[I", true)
  | 3 => ("TideFares$Ways", "boardings", "[I", true)
  | 4 => ("TideFares$Ways", "comers", "[I", true)
  | 5 => ("TideFares$Ways", "comersFares", "[I", true)
  | _ => ("TideFares$Ways", "nextBoarding", "I", false)
def tyX2 : Nat → FieldType := fun k => match k with
  | 0 => .array .int
  | 1 => .array .int
  | 2 => .array .int
  | 3 => .array .int
  | 4 => .array .int
  | 5 => .array .int
  | _ => .int
abbrev wsX20 : List Cond := u_ws RX2 TX2 7
theorem nmX2 : ∀ a, a < 7 → ∀ b, b < 7 → a ≠ b → (TX2 a).2.1 ≠ (TX2 b).2.1 := by decide +kernel
theorem tyX2_ok : ∀ k, k < 7 → parseFieldDescriptor (TX2 k).2.2.1 = some (tyX2 k) := by decide +kernel
abbrev cX2_init : ByteArray := prog_4_method_1_code
def yX2_init : MethodName := ⟨RX2, "<init>", "()V"⟩
abbrev cX2_arrivalAt : ByteArray := prog_4_method_2_code
def yX2_arrivalAt : MethodName := ⟨RX2, "arrivalAt", "(I)I"⟩
abbrev cX2_startFrom : ByteArray := prog_4_method_3_code
def yX2_startFrom : MethodName := ⟨RX2, "startFrom", "(I)I"⟩
abbrev cX2_fareTo : ByteArray := prog_4_method_4_code
def yX2_fareTo : MethodName := ⟨RX2, "fareTo", "(I)I"⟩
abbrev cX2_islandsWithin : ByteArray := prog_4_method_5_code
def yX2_islandsWithin : MethodName := ⟨RX2, "islandsWithin", "(I)I"⟩
abbrev cX2_findArrivals : ByteArray := prog_4_method_6_code
def yX2_findArrivals : MethodName := ⟨RX2, "findArrivals", "(LTideFares$Sea;II)V"⟩
abbrev cX2_comesSooner : ByteArray := prog_4_method_7_code
def yX2_comesSooner : MethodName := ⟨RX2, "comesSooner", "(LTideFares$Sea;I)Z"⟩
abbrev cX2_findStarts : ByteArray := prog_4_method_8_code
def yX2_findStarts : MethodName := ⟨RX2, "findStarts", "(LTideFares$Sea;II)V"⟩
abbrev cX2_startsLater : ByteArray := prog_4_method_9_code
def yX2_startsLater : MethodName := ⟨RX2, "startsLater", "(LTideFares$Sea;I)Z"⟩
abbrev cX2_findFares : ByteArray := prog_4_method_10_code
def yX2_findFares : MethodName := ⟨RX2, "findFares", "(LTideFares$Sea;III)V"⟩
abbrev cX2_letCome : ByteArray := prog_4_method_11_code
def yX2_letCome : MethodName := ⟨RX2, "letCome", "(LTideFares$Sea;I)V"⟩
abbrev cX2_comeTo : ByteArray := prog_4_method_12_code
def yX2_comeTo : MethodName := ⟨RX2, "comeTo", "(LTideFares$Sea;III)V"⟩
abbrev cX2_letBoard : ByteArray := prog_4_method_13_code
def yX2_letBoard : MethodName := ⟨RX2, "letBoard", "(LTideFares$Sea;II)V"⟩
abbrev cX2_expect : ByteArray := prog_4_method_14_code
def yX2_expect : MethodName := ⟨RX2, "expect", "(III)V"⟩
abbrev cX2_orNever : ByteArray := prog_4_method_15_code
def yX2_orNever : MethodName := ⟨RX2, "orNever", "(I)I"⟩
def RX3 : String := "TideFares"
def TX3 : u_T := fun k => match k with
  | 0 => ("TideFares", "sea", "LTideFares$Sea;", true)
  | 1 => ("TideFares", "ways", "LTideFares$Ways;", true)
  | 2 => ("TideFares", "text", "LTideFares$FerryText;", true)
  | 3 => ("TideFares", "saved", "[I", true)
  | 4 => ("TideFares", "savedCount", "I", false)
  | _ => ("TideFares", "oldestSaved", "I", false)
def tyX3 : Nat → FieldType := fun k => match k with
  | 0 => .object "TideFares$Sea"
  | 1 => .object "TideFares$Ways"
  | 2 => .object "TideFares$FerryText"
  | 3 => .array .int
  | 4 => .int
  | _ => .int
abbrev wsX30 : List Cond := u_ws RX3 TX3 6
theorem nmX3 : ∀ a, a < 6 → ∀ b, b < 6 → a ≠ b → (TX3 a).2.1 ≠ (TX3 b).2.1 := by decide +kernel
theorem tyX3_ok : ∀ k, k < 6 → parseFieldDescriptor (TX3 k).2.2.1 = some (tyX3 k) := by decide +kernel
abbrev cX3_init : ByteArray := prog_1_method_1_code
def yX3_init : MethodName := ⟨RX3, "<init>", "()V"⟩
abbrev cX3_ferry : ByteArray := prog_1_method_2_code
def yX3_ferry : MethodName := ⟨RX3, "ferry", "(IIIIII)I"⟩
abbrev cX3_drop : ByteArray := prog_1_method_3_code
def yX3_drop : MethodName := ⟨RX3, "drop", "(I)I"⟩
abbrev cX3_kind : ByteArray := prog_1_method_4_code
def yX3_kind : MethodName := ⟨RX3, "kind", "(II)I"⟩
abbrev cX3_clock : ByteArray := prog_1_method_5_code
def yX3_clock : MethodName := ⟨RX3, "clock", "(II)I"⟩
abbrev cX3_set : ByteArray := prog_1_method_6_code
def yX3_set : MethodName := ⟨RX3, "set", "(II)I"⟩
abbrev cX3_place : ByteArray := prog_1_method_7_code
def yX3_place : MethodName := ⟨RX3, "place", "(IIII)I"⟩
abbrev cX3_ferryOf : ByteArray := prog_1_method_15_code
def yX3_ferryOf : MethodName := ⟨RX3, "ferryOf", "(II)I"⟩
abbrev cX3_traveller : ByteArray := prog_1_method_16_code
def yX3_traveller : MethodName := ⟨RX3, "traveller", "(II)I"⟩
abbrev cX3_leaves : ByteArray := prog_1_method_17_code
def yX3_leaves : MethodName := ⟨RX3, "leaves", "(II)I"⟩
abbrev cX3_costs : ByteArray := prog_1_method_18_code
def yX3_costs : MethodName := ⟨RX3, "costs", "(II)I"⟩
abbrev cX3_count : ByteArray := prog_1_method_19_code
def yX3_count : MethodName := ⟨RX3, "count", "(I)I"⟩
abbrev cX3_setting : ByteArray := prog_1_method_20_code
def yX3_setting : MethodName := ⟨RX3, "setting", "(I)I"⟩
abbrev cX3_soonest : ByteArray := prog_1_method_22_code
def yX3_soonest : MethodName := ⟨RX3, "soonest", "(III)I"⟩
abbrev cX3_cheapest : ByteArray := prog_1_method_23_code
def yX3_cheapest : MethodName := ⟨RX3, "cheapest", "(IIII)I"⟩
abbrev cX3_reach : ByteArray := prog_1_method_24_code
def yX3_reach : MethodName := ⟨RX3, "reach", "(I)I"⟩
abbrev cX3_lastStart : ByteArray := prog_1_method_25_code
def yX3_lastStart : MethodName := ⟨RX3, "lastStart", "(III)I"⟩
abbrev cX3_joined : ByteArray := prog_1_method_26_code
def yX3_joined : MethodName := ⟨RX3, "joined", "()D"⟩
abbrev cX3_isWithin : ByteArray := prog_1_method_28_code
def yX3_isWithin : MethodName := ⟨RX3, "isWithin", "(III)Z"⟩
abbrev cX3_checkIndex : ByteArray := prog_1_method_29_code
def yX3_checkIndex : MethodName := ⟨RX3, "checkIndex", "(II)V"⟩
abbrev cX3_checkArgument : ByteArray := prog_1_method_30_code
def yX3_checkArgument : MethodName := ⟨RX3, "checkArgument", "(Z)V"⟩
abbrev cX3_checkState : ByteArray := prog_1_method_31_code
def yX3_checkState : MethodName := ⟨RX3, "checkState", "(Z)V"⟩
abbrev cX3_checkIsland : ByteArray := prog_1_method_32_code
def yX3_checkIsland : MethodName := ⟨RX3, "checkIsland", "(I)V"⟩
abbrev cX3_checkTraveller : ByteArray := prog_1_method_33_code
def yX3_checkTraveller : MethodName := ⟨RX3, "checkTraveller", "(I)V"⟩
abbrev cX3_checkFerry : ByteArray := prog_1_method_34_code
def yX3_checkFerry : MethodName := ⟨RX3, "checkFerry", "(I)V"⟩
abbrev cX3_checkFerryNumber : ByteArray := prog_1_method_35_code
def yX3_checkFerryNumber : MethodName := ⟨RX3, "checkFerryNumber", "(II)V"⟩
abbrev cX3_save : ByteArray := prog_1_method_36_code
def yX3_save : MethodName := ⟨RX3, "save", "()V"⟩
abbrev cX3_changeFerry : ByteArray := prog_1_method_37_code
def yX3_changeFerry : MethodName := ⟨RX3, "changeFerry", "(III)I"⟩
abbrev cX3_total : ByteArray := prog_1_method_39_code
def yX3_total : MethodName := ⟨RX3, "total", "(I)I"⟩
abbrev cX3_islandsFor : ByteArray := prog_1_method_40_code
def yX3_islandsFor : MethodName := ⟨RX3, "islandsFor", "(I)I"⟩
abbrev cX3_joinedPairs : ByteArray := prog_1_method_41_code
def yX3_joinedPairs : MethodName := ⟨RX3, "joinedPairs", "()I"⟩
def RX4 : String := "TideFaresModel"
def TX4 : u_T := fun k => match k with
  | _ => ("", "", "", false)
def tyX4 : Nat → FieldType := fun k => match k with
  | _ => .int
abbrev wsX40 : List Cond := u_ws RX4 TX4 0
theorem nmX4 : ∀ a, a < 0 → ∀ b, b < 0 → a ≠ b → (TX4 a).2.1 ≠ (TX4 b).2.1 := by decide +kernel
theorem tyX4_ok : ∀ k, k < 0 → parseFieldDescriptor (TX4 k).2.2.1 = some (tyX4 k) := by decide +kernel
def RJx145de : String := "java/io/Serializable"
def TJx145de : u_T := fun k => match k with
  | _ => ("", "", "", false)
def tyJx145de : Nat → FieldType := fun k => match k with
  | _ => .int
abbrev wsJx145de0 : List Cond := u_ws RJx145de TJx145de 0
theorem nmJx145de : ∀ a, a < 0 → ∀ b, b < 0 → a ≠ b → (TJx145de a).2.1 ≠ (TJx145de b).2.1 := by decide +kernel
theorem tyJx145de_ok : ∀ k, k < 0 → parseFieldDescriptor (TJx145de k).2.2.1 = some (tyJx145de k) := by decide +kernel
def RJ9 : String := "java/lang/Math"
def TJ9 : u_T := fun k => match k with
  | _ => ("", "", "", false)
def tyJ9 : Nat → FieldType := fun k => match k with
  | _ => .int
abbrev wsJ90 : List Cond := u_ws RJ9 TJ9 0
theorem nmJ9 : ∀ a, a < 0 → ∀ b, b < 0 → a ≠ b → (TJ9 a).2.1 ≠ (TJ9 b).2.1 := by decide +kernel
theorem tyJ9_ok : ∀ k, k < 0 → parseFieldDescriptor (TJ9 k).2.2.1 = some (tyJ9 k) := by decide +kernel
abbrev cJ9_min_7cf53 : ByteArray := prog_11_method_69_code
def yJ9_min_7cf53 : MethodName := ⟨RJ9, "min", "(II)I"⟩
def RJ0 : String := "java/lang/String"
def TJ0 : u_T := fun k => match k with
  | _ => ("", "", "", false)
def tyJ0 : Nat → FieldType := fun k => match k with
  | _ => .int
abbrev wsJ00 : List Cond := u_ws RJ0 TJ0 0
theorem nmJ0 : ∀ a, a < 0 → ∀ b, b < 0 → a ≠ b → (TJ0 a).2.1 ≠ (TJ0 b).2.1 := by decide +kernel
theorem tyJ0_ok : ∀ k, k < 0 → parseFieldDescriptor (TJ0 k).2.2.1 = some (tyJ0 k) := by decide +kernel
def RJ10 : String := "java/lang/System"
def TJ10 : u_T := fun k => match k with
  | _ => ("", "", "", false)
def tyJ10 : Nat → FieldType := fun k => match k with
  | _ => .int
abbrev wsJ100 : List Cond := u_ws RJ10 TJ10 0
theorem nmJ10 : ∀ a, a < 0 → ∀ b, b < 0 → a ≠ b → (TJ10 a).2.1 ≠ (TJ10 b).2.1 := by decide +kernel
theorem tyJ10_ok : ∀ k, k < 0 → parseFieldDescriptor (TJ10 k).2.2.1 = some (tyJ10 k) := by decide +kernel
def RJ7 : String := "java/util/Arrays"
def TJ7 : u_T := fun k => match k with
  | _ => ("", "", "", false)
def tyJ7 : Nat → FieldType := fun k => match k with
  | _ => .int
abbrev wsJ70 : List Cond := u_ws RJ7 TJ7 0
theorem nmJ7 : ∀ a, a < 0 → ∀ b, b < 0 → a ≠ b → (TJ7 a).2.1 ≠ (TJ7 b).2.1 := by decide +kernel
theorem tyJ7_ok : ∀ k, k < 0 → parseFieldDescriptor (TJ7 k).2.2.1 = some (tyJ7 k) := by decide +kernel
abbrev cJ7_fill_53178 : ByteArray := prog_16_method_103_code
def yJ7_fill_53178 : MethodName := ⟨RJ7, "fill", "([II)V"⟩
def RL : String := "TideFaresLaw"
abbrev cL_cell : ByteArray := method_2_code
def yL_cell : MethodName := ⟨RL, "cell", "([II)I"⟩
abbrev cL_low : ByteArray := method_3_code
def yL_low : MethodName := ⟨RL, "low", "(II)I"⟩
abbrev cL_tell : ByteArray := method_4_code
def yL_tell : MethodName := ⟨RL, "tell", "(LTideFares;II)Z"⟩
abbrev cL_mayLeave : ByteArray := method_5_code
def yL_mayLeave : MethodName := ⟨RL, "mayLeave", "(LTideFares;II)Z"⟩
abbrev cL_first : ByteArray := method_6_code
def yL_first : MethodName := ⟨RL, "first", "(LTideFares;II)I"⟩
abbrev cL_ferries : ByteArray := method_7_code
def yL_ferries : MethodName := ⟨RL, "ferries", "(LTideFares;I)Z"⟩
abbrev cL_byFerries : ByteArray := method_8_code
def yL_byFerries : MethodName := ⟨RL, "byFerries", "(LTideFares;[II)I"⟩
abbrev cL_soonest : ByteArray := method_9_code
def yL_soonest : MethodName := ⟨RL, "soonest", "(LTideFares;II)Z"⟩
abbrev cL_cheapest : ByteArray := method_10_code
def yL_cheapest : MethodName := ⟨RL, "cheapest", "(LTideFares;IIII)Z"⟩
abbrev cL_lastStart : ByteArray := method_11_code
def yL_lastStart : MethodName := ⟨RL, "lastStart", "(LTideFares;III)Z"⟩
abbrev cL_reach : ByteArray := method_12_code
def yL_reach : MethodName := ⟨RL, "reach", "(LTideFares;I)Z"⟩
abbrev cL_joined : ByteArray := method_13_code
def yL_joined : MethodName := ⟨RL, "joined", "(LTideFares;)Z"⟩
abbrev cL_act : ByteArray := method_14_code
def yL_act : MethodName := ⟨RL, "act", "(LTideFares;II)Z"⟩
abbrev cL_law : ByteArray := code
def yL_law : MethodName := ⟨RL, "law", "([I)Z"⟩
abbrev vwCl : List vw_C := [(RX0, TX0, 7), (RX1, TX1, 1), (RX2, TX2, 7), (RX3, TX3, 6)]
