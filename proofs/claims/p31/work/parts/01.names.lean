def RX0 : String := "GyreWatch$Buoy"
def TX0 : u_T := fun k => match k with
  | 0 => ("GyreWatch$Buoy", "number", "I", true)
  | 1 => ("GyreWatch$Buoy", "parks", "I", true)
  | 2 => ("GyreWatch$Buoy", "bias", "I", true)
  | 3 => ("GyreWatch$Buoy", "cell", "I", false)
  | 4 => ("GyreWatch$Buoy", "daysLeft", "I", false)
  | 5 => ("GyreWatch$Buoy", "battery", "I", false)
  | 6 => ("GyreWatch$Buoy", "correction", "I", false)
  | 7 => ("GyreWatch$Buoy", "readingsKept", "I", false)
  | _ => ("GyreWatch$Buoy", "latest", "LGyreWatch$Reading;", false)
def tyX0 : Nat → FieldType := fun k => match k with
  | 0 => .int
  | 1 => .int
  | 2 => .int
  | 3 => .int
  | 4 => .int
  | 5 => .int
  | 6 => .int
  | 7 => .int
  | _ => .object "GyreWatch$Reading"
abbrev wsX00 : List Cond := u_ws RX0 TX0 9
theorem nmX0 : ∀ a, a < 9 → ∀ b, b < 9 → a ≠ b → (TX0 a).2.1 ≠ (TX0 b).2.1 := by decide +kernel
theorem tyX0_ok : ∀ k, k < 9 → parseFieldDescriptor (TX0 k).2.2.1 = some (tyX0 k) := by decide +kernel
abbrev cX0_init : ByteArray := prog_2_method_1_code
def yX0_init : MethodName := ⟨RX0, "<init>", "(IIIII)V"⟩
def RX1 : String := "GyreWatch$Layer"
def TX1 : u_T := fun k => match k with
  | 0 => ("GyreWatch$Layer", "heat", "[I", true)
  | _ => ("GyreWatch$Layer", "salt", "[I", true)
def tyX1 : Nat → FieldType := fun k => match k with
  | 0 => .array .int
  | _ => .array .int
abbrev wsX10 : List Cond := u_ws RX1 TX1 2
theorem nmX1 : ∀ a, a < 2 → ∀ b, b < 2 → a ≠ b → (TX1 a).2.1 ≠ (TX1 b).2.1 := by decide +kernel
theorem tyX1_ok : ∀ k, k < 2 → parseFieldDescriptor (TX1 k).2.2.1 = some (tyX1 k) := by decide +kernel
abbrev cX1_init : ByteArray := prog_3_method_1_code
def yX1_init : MethodName := ⟨RX1, "<init>", "(II)V"⟩
abbrev cX1_weightAt : ByteArray := prog_3_method_2_code
def yX1_weightAt : MethodName := ⟨RX1, "weightAt", "(I)I"⟩
abbrev cX1_emptyAt : ByteArray := prog_3_method_3_code
def yX1_emptyAt : MethodName := ⟨RX1, "emptyAt", "(I)V"⟩
def RX2 : String := "GyreWatch$Log"
def TX2 : u_T := fun k => match k with
  | 0 => ("GyreWatch$Log", "kept", "[LGyreWatch$Reading;", true)
  | 1 => ("GyreWatch$Log", "count", "I", false)
  | _ => ("GyreWatch$Log", "bound", "I", false)
def tyX2 : Nat → FieldType := fun k => match k with
  | 0 => .array (.object "GyreWatch$Reading")
  | 1 => .int
  | _ => .int
abbrev wsX20 : List Cond := u_ws RX2 TX2 3
theorem nmX2 : ∀ a, a < 3 → ∀ b, b < 3 → a ≠ b → (TX2 a).2.1 ≠ (TX2 b).2.1 := by decide +kernel
theorem tyX2_ok : ∀ k, k < 3 → parseFieldDescriptor (TX2 k).2.2.1 = some (tyX2 k) := by decide +kernel
abbrev cX2_init : ByteArray := prog_4_method_1_code
def yX2_init : MethodName := ⟨RX2, "<init>", "()V"⟩
abbrev cX2_keep : ByteArray := prog_4_method_2_code
def yX2_keep : MethodName := ⟨RX2, "keep", "(IIILGyreWatch$Buoy;)V"⟩
abbrev cX2_chain : ByteArray := prog_4_method_3_code
def yX2_chain : MethodName := ⟨RX2, "chain", "(LGyreWatch$Reading;LGyreWatch$Buoy;)V"⟩
abbrev cX2_nearestOfShip : ByteArray := prog_4_method_4_code
def yX2_nearestOfShip : MethodName := ⟨RX2, "nearestOfShip", "(LGyreWatch$Reading;)LGyreWatch$Reading;"⟩
abbrev cX2_weightsWithout : ByteArray := prog_4_method_5_code
def yX2_weightsWithout : MethodName := ⟨RX2, "weightsWithout", "(LGyreWatch$Reading;III)I"⟩
abbrev cX2_weighedValuesWithout : ByteArray := prog_4_method_6_code
def yX2_weighedValuesWithout : MethodName := ⟨RX2, "weighedValuesWithout", "(LGyreWatch$Reading;III)J"⟩
abbrev cX2_isInSpan : ByteArray := prog_4_method_7_code
def yX2_isInSpan : MethodName := ⟨RX2, "isInSpan", "(LGyreWatch$Reading;II)Z"⟩
def RX3 : String := "GyreWatch$Part"
def TX3 : u_T := fun k => match k with
  | _ => ("", "", "", false)
def tyX3 : Nat → FieldType := fun k => match k with
  | _ => .int
abbrev wsX30 : List Cond := u_ws RX3 TX3 0
theorem nmX3 : ∀ a, a < 0 → ∀ b, b < 0 → a ≠ b → (TX3 a).2.1 ≠ (TX3 b).2.1 := by decide +kernel
theorem tyX3_ok : ∀ k, k < 0 → parseFieldDescriptor (TX3 k).2.2.1 = some (tyX3 k) := by decide +kernel
def RX4 : String := "GyreWatch$Reading"
def TX4 : u_T := fun k => match k with
  | 0 => ("GyreWatch$Reading", "day", "I", true)
  | 1 => ("GyreWatch$Reading", "cell", "I", true)
  | 2 => ("GyreWatch$Reading", "value", "I", true)
  | 3 => ("GyreWatch$Reading", "buoy", "LGyreWatch$Buoy;", true)
  | 4 => ("GyreWatch$Reading", "byHand", "I", false)
  | 5 => ("GyreWatch$Reading", "before", "LGyreWatch$Reading;", false)
  | _ => ("GyreWatch$Reading", "behind", "LGyreWatch$Reading;", false)
def tyX4 : Nat → FieldType := fun k => match k with
  | 0 => .int
  | 1 => .int
  | 2 => .int
  | 3 => .object "GyreWatch$Buoy"
  | 4 => .int
  | 5 => .object "GyreWatch$Reading"
  | _ => .object "GyreWatch$Reading"
abbrev wsX40 : List Cond := u_ws RX4 TX4 7
theorem nmX4 : ∀ a, a < 7 → ∀ b, b < 7 → a ≠ b → (TX4 a).2.1 ≠ (TX4 b).2.1 := by decide +kernel
theorem tyX4_ok : ∀ k, k < 7 → parseFieldDescriptor (TX4 k).2.2.1 = some (tyX4 k) := by decide +kernel
abbrev cX4_init : ByteArray := prog_6_method_1_code
def yX4_init : MethodName := ⟨RX4, "<init>", "(IIILGyreWatch$Buoy;)V"⟩
abbrev cX4_corrected : ByteArray := prog_6_method_2_code
def yX4_corrected : MethodName := ⟨RX4, "corrected", "()I"⟩
abbrev cX4_flagBy : ByteArray := prog_6_method_3_code
def yX4_flagBy : MethodName := ⟨RX4, "flagBy", "(I)I"⟩
abbrev cX4_isSpike : ByteArray := prog_6_method_4_code
def yX4_isSpike : MethodName := ⟨RX4, "isSpike", "(I)Z"⟩
abbrev cX4_daysFrom : ByteArray := prog_6_method_5_code
def yX4_daysFrom : MethodName := ⟨RX4, "daysFrom", "(I)I"⟩
abbrev cX4_weightIn : ByteArray := prog_6_method_6_code
def yX4_weightIn : MethodName := ⟨RX4, "weightIn", "(I)I"⟩
def RX5 : String := "GyreWatch$Sea"
def TX5 : u_T := fun k => match k with
  | 0 => ("GyreWatch$Sea", "upper", "LGyreWatch$Layer;", true)
  | 1 => ("GyreWatch$Sea", "lower", "LGyreWatch$Layer;", true)
  | 2 => ("GyreWatch$Sea", "currents", "[I", true)
  | 3 => ("GyreWatch$Sea", "suns", "[I", true)
  | 4 => ("GyreWatch$Sea", "gift", "I", false)
  | 5 => ("GyreWatch$Sea", "lands", "[Z", true)
  | 6 => ("GyreWatch$Sea", "ahead", "[I", true)
  | _ => ("GyreWatch$Sea", "landCount", "I", false)
def tyX5 : Nat → FieldType := fun k => match k with
  | 0 => .object "GyreWatch$Layer"
  | 1 => .object "GyreWatch$Layer"
  | 2 => .array .int
  | 3 => .array .int
  | 4 => .int
  | 5 => .array .boolean
  | 6 => .array .int
  | _ => .int
abbrev wsX50 : List Cond := u_ws RX5 TX5 8
theorem nmX5 : ∀ a, a < 8 → ∀ b, b < 8 → a ≠ b → (TX5 a).2.1 ≠ (TX5 b).2.1 := by decide +kernel
theorem tyX5_ok : ∀ k, k < 8 → parseFieldDescriptor (TX5 k).2.2.1 = some (tyX5 k) := by decide +kernel
abbrev cX5_init : ByteArray := prog_7_method_1_code
def yX5_init : MethodName := ⟨RX5, "<init>", "()V"⟩
abbrev cX5_isLand : ByteArray := prog_7_method_2_code
def yX5_isLand : MethodName := ⟨RX5, "isLand", "(I)Z"⟩
abbrev cX5_upperHeat : ByteArray := prog_7_method_3_code
def yX5_upperHeat : MethodName := ⟨RX5, "upperHeat", "(I)I"⟩
abbrev cX5_makeLand : ByteArray := prog_7_method_4_code
def yX5_makeLand : MethodName := ⟨RX5, "makeLand", "(I)I"⟩
abbrev cX5_seaBeside : ByteArray := prog_7_method_5_code
def yX5_seaBeside : MethodName := ⟨RX5, "seaBeside", "(II)I"⟩
abbrev cX5_leadsTo : ByteArray := prog_7_method_6_code
def yX5_leadsTo : MethodName := ⟨RX5, "leadsTo", "(I)I"⟩
abbrev cX5_flow : ByteArray := prog_7_method_7_code
def yX5_flow : MethodName := ⟨RX5, "flow", "()V"⟩
abbrev cX5_carry : ByteArray := prog_7_method_8_code
def yX5_carry : MethodName := ⟨RX5, "carry", "([I)V"⟩
abbrev cX5_shine : ByteArray := prog_7_method_9_code
def yX5_shine : MethodName := ⟨RX5, "shine", "()V"⟩
abbrev cX5_turnOver : ByteArray := prog_7_method_10_code
def yX5_turnOver : MethodName := ⟨RX5, "turnOver", "()V"⟩
abbrev cX5_share : ByteArray := prog_7_method_11_code
def yX5_share : MethodName := ⟨RX5, "share", "([I[II)V"⟩
def RX6 : String := "GyreWatch$Search"
def TX6 : u_T := fun k => match k with
  | 0 => ("GyreWatch$Search", "beginning", "I", true)
  | 1 => ("GyreWatch$Search", "chances", "[I", true)
  | _ => ("GyreWatch$Search", "copy", "[I", true)
def tyX6 : Nat → FieldType := fun k => match k with
  | 0 => .int
  | 1 => .array .int
  | _ => .array .int
abbrev wsX60 : List Cond := u_ws RX6 TX6 3
theorem nmX6 : ∀ a, a < 3 → ∀ b, b < 3 → a ≠ b → (TX6 a).2.1 ≠ (TX6 b).2.1 := by decide +kernel
theorem tyX6_ok : ∀ k, k < 3 → parseFieldDescriptor (TX6 k).2.2.1 = some (tyX6 k) := by decide +kernel
abbrev cX6_init : ByteArray := prog_8_method_1_code
def yX6_init : MethodName := ⟨RX6, "<init>", "(I)V"⟩
abbrev cX6_goOn : ByteArray := prog_8_method_2_code
def yX6_goOn : MethodName := ⟨RX6, "goOn", "(LGyreWatch$Sea;)V"⟩
abbrev cX6_give : ByteArray := prog_8_method_3_code
def yX6_give : MethodName := ⟨RX6, "give", "(III)V"⟩
abbrev cX6_tryLegs : ByteArray := prog_8_method_4_code
def yX6_tryLegs : MethodName := ⟨RX6, "tryLegs", "(II)I"⟩
abbrev cX6_lookAt : ByteArray := prog_8_method_5_code
def yX6_lookAt : MethodName := ⟨RX6, "lookAt", "([III)I"⟩
abbrev cX6_bestOf : ByteArray := prog_8_method_6_code
def yX6_bestOf : MethodName := ⟨RX6, "bestOf", "([I)I"⟩
def RX7 : String := "GyreWatch$Ships"
def TX7 : u_T := fun k => match k with
  | 0 => ("GyreWatch$Ships", "stationCount", "I", false)
  | 1 => ("GyreWatch$Ships", "stations", "[I", true)
  | 2 => ("GyreWatch$Ships", "stormFrom", "[I", true)
  | 3 => ("GyreWatch$Ships", "stormTo", "[I", true)
  | _ => ("GyreWatch$Ships", "stormCount", "I", false)
def tyX7 : Nat → FieldType := fun k => match k with
  | 0 => .int
  | 1 => .array .int
  | 2 => .array .int
  | 3 => .array .int
  | _ => .int
abbrev wsX70 : List Cond := u_ws RX7 TX7 5
theorem nmX7 : ∀ a, a < 5 → ∀ b, b < 5 → a ≠ b → (TX7 a).2.1 ≠ (TX7 b).2.1 := by decide +kernel
theorem tyX7_ok : ∀ k, k < 5 → parseFieldDescriptor (TX7 k).2.2.1 = some (tyX7 k) := by decide +kernel
abbrev cX7_init : ByteArray := prog_9_method_1_code
def yX7_init : MethodName := ⟨RX7, "<init>", "()V"⟩
abbrev cX7_stationOf : ByteArray := prog_9_method_2_code
def yX7_stationOf : MethodName := ⟨RX7, "stationOf", "(II)I"⟩
abbrev cX7_dayOf : ByteArray := prog_9_method_3_code
def yX7_dayOf : MethodName := ⟨RX7, "dayOf", "(I)I"⟩
abbrev cX7_cellOf : ByteArray := prog_9_method_4_code
def yX7_cellOf : MethodName := ⟨RX7, "cellOf", "(I)I"⟩
abbrev cX7_hasStation : ByteArray := prog_9_method_5_code
def yX7_hasStation : MethodName := ⟨RX7, "hasStation", "(II)Z"⟩
abbrev cX7_hasStationIn : ByteArray := prog_9_method_6_code
def yX7_hasStationIn : MethodName := ⟨RX7, "hasStationIn", "(I)Z"⟩
abbrev cX7_areAllStationsTold : ByteArray := prog_9_method_7_code
def yX7_areAllStationsTold : MethodName := ⟨RX7, "areAllStationsTold", "()Z"⟩
abbrev cX7_tellStation : ByteArray := prog_9_method_8_code
def yX7_tellStation : MethodName := ⟨RX7, "tellStation", "(II)I"⟩
abbrev cX7_countDue : ByteArray := prog_9_method_9_code
def yX7_countDue : MethodName := ⟨RX7, "countDue", "(I)I"⟩
abbrev cX7_dropFirst : ByteArray := prog_9_method_10_code
def yX7_dropFirst : MethodName := ⟨RX7, "dropFirst", "(I)V"⟩
abbrev cX7_areAllStormsTold : ByteArray := prog_9_method_11_code
def yX7_areAllStormsTold : MethodName := ⟨RX7, "areAllStormsTold", "()Z"⟩
abbrev cX7_tellStorm : ByteArray := prog_9_method_12_code
def yX7_tellStorm : MethodName := ⟨RX7, "tellStorm", "(II)V"⟩
abbrev cX7_hasStorm : ByteArray := prog_9_method_13_code
def yX7_hasStorm : MethodName := ⟨RX7, "hasStorm", "(I)Z"⟩
abbrev cX7_calmStations : ByteArray := prog_9_method_14_code
def yX7_calmStations : MethodName := ⟨RX7, "calmStations", "(II)I"⟩
def RX8 : String := "GyreWatch"
def TX8 : u_T := fun k => match k with
  | 0 => ("GyreWatch", "sea", "LGyreWatch$Sea;", true)
  | 1 => ("GyreWatch", "buoys", "[LGyreWatch$Buoy;", true)
  | 2 => ("GyreWatch", "log", "LGyreWatch$Log;", true)
  | 3 => ("GyreWatch", "ships", "LGyreWatch$Ships;", true)
  | 4 => ("GyreWatch", "searches", "[LGyreWatch$Search;", true)
  | 5 => ("GyreWatch", "parts", "[LGyreWatch$Part;", true)
  | 6 => ("GyreWatch", "buoyCount", "I", false)
  | 7 => ("GyreWatch", "searchCount", "I", false)
  | 8 => ("GyreWatch", "partCount", "I", false)
  | _ => ("GyreWatch", "today", "I", false)
def tyX8 : Nat → FieldType := fun k => match k with
  | 0 => .object "GyreWatch$Sea"
  | 1 => .array (.object "GyreWatch$Buoy")
  | 2 => .object "GyreWatch$Log"
  | 3 => .object "GyreWatch$Ships"
  | 4 => .array (.object "GyreWatch$Search")
  | 5 => .array (.object "GyreWatch$Part")
  | 6 => .int
  | 7 => .int
  | 8 => .int
  | _ => .int
abbrev wsX80 : List Cond := u_ws RX8 TX8 10
theorem nmX8 : ∀ a, a < 10 → ∀ b, b < 10 → a ≠ b → (TX8 a).2.1 ≠ (TX8 b).2.1 := by decide +kernel
theorem tyX8_ok : ∀ k, k < 10 → parseFieldDescriptor (TX8 k).2.2.1 = some (tyX8 k) := by decide +kernel
abbrev cX8_init : ByteArray := prog_1_method_1_code
def yX8_init : MethodName := ⟨RX8, "<init>", "()V"⟩
abbrev cX8_land : ByteArray := prog_1_method_2_code
def yX8_land : MethodName := ⟨RX8, "land", "(I)I"⟩
abbrev cX8_current : ByteArray := prog_1_method_3_code
def yX8_current : MethodName := ⟨RX8, "current", "(II)I"⟩
abbrev cX8_sun : ByteArray := prog_1_method_4_code
def yX8_sun : MethodName := ⟨RX8, "sun", "(II)I"⟩
abbrev cX8_pass : ByteArray := prog_1_method_5_code
def yX8_pass : MethodName := ⟨RX8, "pass", "(I)I"⟩
abbrev cX8_lay : ByteArray := prog_1_method_6_code
def yX8_lay : MethodName := ⟨RX8, "lay", "(IIII)I"⟩
abbrev cX8_station : ByteArray := prog_1_method_7_code
def yX8_station : MethodName := ⟨RX8, "station", "(II)I"⟩
abbrev cX8_storm : ByteArray := prog_1_method_8_code
def yX8_storm : MethodName := ⟨RX8, "storm", "(II)I"⟩
abbrev cX8_calibrate : ByteArray := prog_1_method_9_code
def yX8_calibrate : MethodName := ⟨RX8, "calibrate", "(I)I"⟩
abbrev cX8_flag : ByteArray := prog_1_method_10_code
def yX8_flag : MethodName := ⟨RX8, "flag", "(II)I"⟩
abbrev cX8_bound : ByteArray := prog_1_method_11_code
def yX8_bound : MethodName := ⟨RX8, "bound", "(I)I"⟩
abbrev cX8_search : ByteArray := prog_1_method_12_code
def yX8_search : MethodName := ⟨RX8, "search", "(I)I"⟩
abbrev cX8_leg : ByteArray := prog_1_method_13_code
def yX8_leg : MethodName := ⟨RX8, "leg", "(III)I"⟩
abbrev cX8_day : ByteArray := prog_1_method_15_code
def yX8_day : MethodName := ⟨RX8, "day", "()I"⟩
abbrev cX8_ofLayer : ByteArray := prog_1_method_16_code
def yX8_ofLayer : MethodName := ⟨RX8, "ofLayer", "(III)I"⟩
abbrev cX8_total : ByteArray := prog_1_method_17_code
def yX8_total : MethodName := ⟨RX8, "total", "(I)I"⟩
abbrev cX8_ofFloat : ByteArray := prog_1_method_18_code
def yX8_ofFloat : MethodName := ⟨RX8, "ofFloat", "(II)I"⟩
abbrev cX8_stations : ByteArray := prog_1_method_19_code
def yX8_stations : MethodName := ⟨RX8, "stations", "()I"⟩
abbrev cX8_readings : ByteArray := prog_1_method_20_code
def yX8_readings : MethodName := ⟨RX8, "readings", "()I"⟩
abbrev cX8_ofReading : ByteArray := prog_1_method_21_code
def yX8_ofReading : MethodName := ⟨RX8, "ofReading", "(II)I"⟩
abbrev cX8_mean : ByteArray := prog_1_method_22_code
def yX8_mean : MethodName := ⟨RX8, "mean", "(III)I"⟩
abbrev cX8_error : ByteArray := prog_1_method_23_code
def yX8_error : MethodName := ⟨RX8, "error", "(III)I"⟩
abbrev cX8_residual : ByteArray := prog_1_method_24_code
def yX8_residual : MethodName := ⟨RX8, "residual", "(II)I"⟩
abbrev cX8_chance : ByteArray := prog_1_method_25_code
def yX8_chance : MethodName := ⟨RX8, "chance", "(II)I"⟩
abbrev cX8_best : ByteArray := prog_1_method_26_code
def yX8_best : MethodName := ⟨RX8, "best", "(I)I"⟩
abbrev cX8_plan : ByteArray := prog_1_method_27_code
def yX8_plan : MethodName := ⟨RX8, "plan", "(III)I"⟩
abbrev cX8_isIndex : ByteArray := prog_1_method_30_code
def yX8_isIndex : MethodName := ⟨RX8, "isIndex", "(II)Z"⟩
abbrev cX8_isCell : ByteArray := prog_1_method_31_code
def yX8_isCell : MethodName := ⟨RX8, "isCell", "(I)Z"⟩
abbrev cX8_needCell : ByteArray := prog_1_method_32_code
def yX8_needCell : MethodName := ⟨RX8, "needCell", "(I)V"⟩
abbrev cX8_needRange : ByteArray := prog_1_method_33_code
def yX8_needRange : MethodName := ⟨RX8, "needRange", "(III)V"⟩
abbrev cX8_needMap : ByteArray := prog_1_method_34_code
def yX8_needMap : MethodName := ⟨RX8, "needMap", "(III)V"⟩
abbrev cX8_needSea : ByteArray := prog_1_method_35_code
def yX8_needSea : MethodName := ⟨RX8, "needSea", "(I)V"⟩
abbrev cX8_buoyNumbered : ByteArray := prog_1_method_36_code
def yX8_buoyNumbered : MethodName := ⟨RX8, "buoyNumbered", "(I)LGyreWatch$Buoy;"⟩
abbrev cX8_readingNumbered : ByteArray := prog_1_method_37_code
def yX8_readingNumbered : MethodName := ⟨RX8, "readingNumbered", "(I)LGyreWatch$Reading;"⟩
abbrev cX8_searchNumbered : ByteArray := prog_1_method_38_code
def yX8_searchNumbered : MethodName := ⟨RX8, "searchNumbered", "(I)LGyreWatch$Search;"⟩
abbrev cX8_sumOf : ByteArray := prog_1_method_39_code
def yX8_sumOf : MethodName := ⟨RX8, "sumOf", "([I)I"⟩
abbrev cX8_isTaken : ByteArray := prog_1_method_40_code
def yX8_isTaken : MethodName := ⟨RX8, "isTaken", "(I)Z"⟩
abbrev cX8_meanWithout : ByteArray := prog_1_method_41_code
def yX8_meanWithout : MethodName := ⟨RX8, "meanWithout", "(LGyreWatch$Reading;III)I"⟩
abbrev cX8_passOneDay : ByteArray := prog_1_method_43_code
def yX8_passOneDay : MethodName := ⟨RX8, "passOneDay", "()V"⟩
abbrev cX8_letDrift : ByteArray := prog_1_method_44_code
def yX8_letDrift : MethodName := ⟨RX8, "letDrift", "(LGyreWatch$Buoy;)V"⟩
abbrev cX8_readAtStations : ByteArray := prog_1_method_45_code
def yX8_readAtStations : MethodName := ⟨RX8, "readAtStations", "()V"⟩
def RX9 : String := "GyreWatchModel"
def TX9 : u_T := fun k => match k with
  | _ => ("", "", "", false)
def tyX9 : Nat → FieldType := fun k => match k with
  | _ => .int
abbrev wsX90 : List Cond := u_ws RX9 TX9 0
theorem nmX9 : ∀ a, a < 0 → ∀ b, b < 0 → a ≠ b → (TX9 a).2.1 ≠ (TX9 b).2.1 := by decide +kernel
theorem tyX9_ok : ∀ k, k < 0 → parseFieldDescriptor (TX9 k).2.2.1 = some (tyX9 k) := by decide +kernel
def RJx145de : String := "java/io/Serializable"
def TJx145de : u_T := fun k => match k with
  | _ => ("", "", "", false)
def tyJx145de : Nat → FieldType := fun k => match k with
  | _ => .int
theorem nmJx145de : ∀ a, a < 0 → ∀ b, b < 0 → a ≠ b → (TJx145de a).2.1 ≠ (TJx145de b).2.1 := by decide +kernel
theorem tyJx145de_ok : ∀ k, k < 0 → parseFieldDescriptor (TJx145de k).2.2.1 = some (tyJx145de k) := by decide +kernel
def RJ9 : String := "java/lang/Math"
def TJ9 : u_T := fun k => match k with
  | _ => ("", "", "", false)
def tyJ9 : Nat → FieldType := fun k => match k with
  | _ => .int
theorem nmJ9 : ∀ a, a < 0 → ∀ b, b < 0 → a ≠ b → (TJ9 a).2.1 ≠ (TJ9 b).2.1 := by decide +kernel
theorem tyJ9_ok : ∀ k, k < 0 → parseFieldDescriptor (TJ9 k).2.2.1 = some (tyJ9 k) := by decide +kernel
abbrev cJ9_abs_0f7a4 : ByteArray := prog_16_method_59_code
def yJ9_abs_0f7a4 : MethodName := ⟨RJ9, "abs", "(I)I"⟩
abbrev cJ9_max_7cf53 : ByteArray := prog_16_method_65_code
def yJ9_max_7cf53 : MethodName := ⟨RJ9, "max", "(II)I"⟩
abbrev cJ9_min_7cf53 : ByteArray := prog_16_method_69_code
def yJ9_min_7cf53 : MethodName := ⟨RJ9, "min", "(II)I"⟩
def RJ0 : String := "java/lang/String"
def TJ0 : u_T := fun k => match k with
  | _ => ("", "", "", false)
def tyJ0 : Nat → FieldType := fun k => match k with
  | _ => .int
theorem nmJ0 : ∀ a, a < 0 → ∀ b, b < 0 → a ≠ b → (TJ0 a).2.1 ≠ (TJ0 b).2.1 := by decide +kernel
theorem tyJ0_ok : ∀ k, k < 0 → parseFieldDescriptor (TJ0 k).2.2.1 = some (tyJ0 k) := by decide +kernel
def RJ10 : String := "java/lang/System"
def TJ10 : u_T := fun k => match k with
  | _ => ("", "", "", false)
def tyJ10 : Nat → FieldType := fun k => match k with
  | _ => .int
theorem nmJ10 : ∀ a, a < 0 → ∀ b, b < 0 → a ≠ b → (TJ10 a).2.1 ≠ (TJ10 b).2.1 := by decide +kernel
theorem tyJ10_ok : ∀ k, k < 0 → parseFieldDescriptor (TJ10 k).2.2.1 = some (tyJ10 k) := by decide +kernel
def RJ7 : String := "java/util/Arrays"
def TJ7 : u_T := fun k => match k with
  | _ => ("", "", "", false)
def tyJ7 : Nat → FieldType := fun k => match k with
  | _ => .int
theorem nmJ7 : ∀ a, a < 0 → ∀ b, b < 0 → a ≠ b → (TJ7 a).2.1 ≠ (TJ7 b).2.1 := by decide +kernel
theorem tyJ7_ok : ∀ k, k < 0 → parseFieldDescriptor (TJ7 k).2.2.1 = some (tyJ7 k) := by decide +kernel
abbrev cJ7_fill_53178 : ByteArray := prog_21_method_103_code
def yJ7_fill_53178 : MethodName := ⟨RJ7, "fill", "([II)V"⟩
def RL : String := "GyreWatchLaw"
abbrev cL_cell : ByteArray := method_2_code
def yL_cell : MethodName := ⟨RL, "cell", "([II)I"⟩
abbrev cL_low : ByteArray := method_3_code
def yL_low : MethodName := ⟨RL, "low", "(II)I"⟩
abbrev cL_calls : ByteArray := method_4_code
def yL_calls : MethodName := ⟨RL, "calls", "(LGyreWatch;IIII)I"⟩
abbrev cL_way : ByteArray := method_5_code
def yL_way : MethodName := ⟨RL, "way", "(II[I)I"⟩
abbrev cL_leads : ByteArray := method_6_code
def yL_leads : MethodName := ⟨RL, "leads", "(I[I)I"⟩
abbrev cL_flowed : ByteArray := method_7_code
def yL_flowed : MethodName := ⟨RL, "flowed", "(I[I[I)I"⟩
abbrev cL_drifted : ByteArray := method_8_code
def yL_drifted : MethodName := ⟨RL, "drifted", "(I[I[I)I"⟩
abbrev cL_isStorm : ByteArray := method_9_code
def yL_isStorm : MethodName := ⟨RL, "isStorm", "(I[I[I)Z"⟩
abbrev cL_reads : ByteArray := method_10_code
def yL_reads : MethodName := ⟨RL, "reads", "(III[I[I[I[I)V"⟩
abbrev cL_copies : ByteArray := method_11_code
def yL_copies : MethodName := ⟨RL, "copies", "([I[I)V"⟩
abbrev cL_passes : ByteArray := method_12_code
def yL_passes : MethodName := ⟨RL, "passes", "([I[I[I[I[I[I[I[I[I[I[I[I[I[I[I[I)V"⟩
abbrev cL_apart : ByteArray := method_13_code
def yL_apart : MethodName := ⟨RL, "apart", "(II)I"⟩
abbrev cL_corrected : ByteArray := method_14_code
def yL_corrected : MethodName := ⟨RL, "corrected", "(I[I[I[I)I"⟩
abbrev cL_flag : ByteArray := method_15_code
def yL_flag : MethodName := ⟨RL, "flag", "(I[I[I[I)I"⟩
abbrev cL_map : ByteArray := method_16_code
def yL_map : MethodName := ⟨RL, "map", "(IIII[I[I[I[I[I[I)V"⟩
abbrev cL_calibrated : ByteArray := method_17_code
def yL_calibrated : MethodName := ⟨RL, "calibrated", "(I[I[I[I[I)I"⟩
abbrev cL_best : ByteArray := method_18_code
def yL_best : MethodName := ⟨RL, "best", "([I)I"⟩
abbrev cL_searches : ByteArray := method_19_code
def yL_searches : MethodName := ⟨RL, "searches", "(LGyreWatch;II[I[I)Z"⟩
abbrev cL_same : ByteArray := method_20_code
def yL_same : MethodName := ⟨RL, "same", "(LGyreWatch;I[I[I[I[I[I[I[I[I[I[I[I[I[I[I)Z"⟩
abbrev cL_tells : ByteArray := method_21_code
def yL_tells : MethodName := ⟨RL, "tells", "(LGyreWatch;II[I[I[I[I[I[I[I[I[I[I[I[I[I[I)Z"⟩
abbrev cL_law : ByteArray := code
def yL_law : MethodName := ⟨RL, "law", "([I)Z"⟩
