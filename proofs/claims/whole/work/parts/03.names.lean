/-! names, field tables, decode rows: printed by the place's program; words by their places -/
def RX0 : String := "SeasonalAdjuster$Decomposition"
def TX0 : u_T := fun k => match k with
  | 0 => ("SeasonalAdjuster$Decomposition", "series", "LSeasonalAdjuster$Series;", true)
  | 1 => ("SeasonalAdjuster$Decomposition", "first", "[J", true)
  | 2 => ("SeasonalAdjuster$Decomposition", "deviations", "[J", true)
  | 3 => ("SeasonalAdjuster$Decomposition", "weights", "[I", true)
  | 4 => ("SeasonalAdjuster$Decomposition", "distances", "[J", true)
  | 5 => ("SeasonalAdjuster$Decomposition", "factors", "[J", true)
  | 6 => ("SeasonalAdjuster$Decomposition", "level", "[J", true)
  | 7 => ("SeasonalAdjuster$Decomposition", "smooth", "[J", true)
  | 8 => ("SeasonalAdjuster$Decomposition", "rest", "[J", true)
  | 9 => ("SeasonalAdjuster$Decomposition", "outlierOrder", "[I", true)
  | 10 => ("SeasonalAdjuster$Decomposition", "seasonOrder", "[I", true)
  | 11 => ("SeasonalAdjuster$Decomposition", "width", "J", false)
  | 12 => ("SeasonalAdjuster$Decomposition", "outliers", "I", false)
  | 13 => ("SeasonalAdjuster$Decomposition", "from", "I", false)
  | _ => ("SeasonalAdjuster$Decomposition", "to", "I", false)
def tyX0 : Nat → FieldType := fun k => match k with
  | 0 => .object "SeasonalAdjuster$Series"
  | 1 => .array .long
  | 2 => .array .long
  | 3 => .array .int
  | 4 => .array .long
  | 5 => .array .long
  | 6 => .array .long
  | 7 => .array .long
  | 8 => .array .long
  | 9 => .array .int
  | 10 => .array .int
  | 11 => .long
  | 12 => .int
  | 13 => .int
  | _ => .int
abbrev wsX00 : List Cond := u_ws RX0 TX0 15
theorem nmX0 : ∀ a, a < 15 → ∀ b, b < 15 → a ≠ b → (TX0 a).2.1 ≠ (TX0 b).2.1 := by decide +kernel
theorem tyX0_ok : ∀ k, k < 15 → parseFieldDescriptor (TX0 k).2.2.1 = some (tyX0 k) := by decide +kernel
abbrev cX0_init : ByteArray := prog_2_method_1_code
def yX0_init : MethodName := ⟨RX0, "<init>", "(LSeasonalAdjuster$Series;)V"⟩
abbrev cX0_compute : ByteArray := prog_2_method_2_code
def yX0_compute : MethodName := ⟨RX0, "compute", "()V"⟩
abbrev cX0_computeFirstTrend : ByteArray := prog_2_method_3_code
def yX0_computeFirstTrend : MethodName := ⟨RX0, "computeFirstTrend", "()V"⟩
abbrev cX0_computeDeviations : ByteArray := prog_2_method_4_code
def yX0_computeDeviations : MethodName := ⟨RX0, "computeDeviations", "()V"⟩
abbrev cX0_giveFullWeights : ByteArray := prog_2_method_5_code
def yX0_giveFullWeights : MethodName := ⟨RX0, "giveFullWeights", "()V"⟩
abbrev cX0_computeFactors : ByteArray := prog_2_method_6_code
def yX0_computeFactors : MethodName := ⟨RX0, "computeFactors", "()V"⟩
abbrev cX0_rawFactor : ByteArray := prog_2_method_7_code
def yX0_rawFactor : MethodName := ⟨RX0, "rawFactor", "(I)J"⟩
abbrev cX0_ratioFactor : ByteArray := prog_2_method_8_code
def yX0_ratioFactor : MethodName := ⟨RX0, "ratioFactor", "(JJ)J"⟩
abbrev cX0_computeDistances : ByteArray := prog_2_method_9_code
def yX0_computeDistances : MethodName := ⟨RX0, "computeDistances", "()V"⟩
abbrev cX0_computeWeights : ByteArray := prog_2_method_10_code
def yX0_computeWeights : MethodName := ⟨RX0, "computeWeights", "()V"⟩
abbrev cX0_weightFor : ByteArray := prog_2_method_11_code
def yX0_weightFor : MethodName := ⟨RX0, "weightFor", "(J)I"⟩
abbrev cX0_computeLevel : ByteArray := prog_2_method_12_code
def yX0_computeLevel : MethodName := ⟨RX0, "computeLevel", "()V"⟩
abbrev cX0_computeSmooth : ByteArray := prog_2_method_13_code
def yX0_computeSmooth : MethodName := ⟨RX0, "computeSmooth", "()V"⟩
abbrev cX0_computeSmoothEnd : ByteArray := prog_2_method_14_code
def yX0_computeSmoothEnd : MethodName := ⟨RX0, "computeSmoothEnd", "(II)V"⟩
abbrev cX0_computeRest : ByteArray := prog_2_method_15_code
def yX0_computeRest : MethodName := ⟨RX0, "computeRest", "()V"⟩
abbrev cX0_restRatio : ByteArray := prog_2_method_16_code
def yX0_restRatio : MethodName := ⟨RX0, "restRatio", "(I)J"⟩
abbrev cX0_orderOutliers : ByteArray := prog_2_method_17_code
def yX0_orderOutliers : MethodName := ⟨RX0, "orderOutliers", "()V"⟩
abbrev cX0_isMoreExtreme : ByteArray := prog_2_method_18_code
def yX0_isMoreExtreme : MethodName := ⟨RX0, "isMoreExtreme", "(II)Z"⟩
abbrev cX0_orderSeasons : ByteArray := prog_2_method_19_code
def yX0_orderSeasons : MethodName := ⟨RX0, "orderSeasons", "()V"⟩
abbrev cX0_addToHash : ByteArray := prog_2_method_20_code
def yX0_addToHash : MethodName := ⟨RX0, "addToHash", "(J)J"⟩
def RX1 : String := "SeasonalAdjuster$History"
def TX1 : u_T := fun k => match k with
  | 0 => ("SeasonalAdjuster$History", "saved", "[LSeasonalAdjuster$Series;", true)
  | _ => ("SeasonalAdjuster$History", "count", "I", false)
def tyX1 : Nat → FieldType := fun k => match k with
  | 0 => .array (.object "SeasonalAdjuster$Series")
  | _ => .int
abbrev wsX10 : List Cond := u_ws RX1 TX1 2
theorem nmX1 : ∀ a, a < 2 → ∀ b, b < 2 → a ≠ b → (TX1 a).2.1 ≠ (TX1 b).2.1 := by decide +kernel
theorem tyX1_ok : ∀ k, k < 2 → parseFieldDescriptor (TX1 k).2.2.1 = some (tyX1 k) := by decide +kernel
abbrev cX1_init : ByteArray := prog_3_method_1_code
def yX1_init : MethodName := ⟨RX1, "<init>", "()V"⟩
abbrev cX1_save : ByteArray := prog_3_method_2_code
def yX1_save : MethodName := ⟨RX1, "save", "(LSeasonalAdjuster$Series;)V"⟩
abbrev cX1_dropOldest : ByteArray := prog_3_method_3_code
def yX1_dropOldest : MethodName := ⟨RX1, "dropOldest", "()V"⟩
abbrev cX1_restoreInto : ByteArray := prog_3_method_4_code
def yX1_restoreInto : MethodName := ⟨RX1, "restoreInto", "(LSeasonalAdjuster$Series;)V"⟩
def RX2 : String := "SeasonalAdjuster$Series"
def TX2 : u_T := fun k => match k with
  | 0 => ("SeasonalAdjuster$Series", "period", "I", false)
  | 1 => ("SeasonalAdjuster$Series", "mode", "I", false)
  | 2 => ("SeasonalAdjuster$Series", "rounds", "I", false)
  | 3 => ("SeasonalAdjuster$Series", "entries", "I", false)
  | 4 => ("SeasonalAdjuster$Series", "values", "[I", true)
  | 5 => ("SeasonalAdjuster$Series", "gaps", "[Z", true)
  | _ => ("SeasonalAdjuster$Series", "days", "[I", true)
def tyX2 : Nat → FieldType := fun k => match k with
  | 0 => .int
  | 1 => .int
  | 2 => .int
  | 3 => .int
  | 4 => .array .int
  | 5 => .array .boolean
  | _ => .array .int
abbrev wsX20 : List Cond := u_ws RX2 TX2 7
theorem nmX2 : ∀ a, a < 7 → ∀ b, b < 7 → a ≠ b → (TX2 a).2.1 ≠ (TX2 b).2.1 := by decide +kernel
theorem tyX2_ok : ∀ k, k < 7 → parseFieldDescriptor (TX2 k).2.2.1 = some (tyX2 k) := by decide +kernel
abbrev cX2_init : ByteArray := prog_4_method_1_code
def yX2_init : MethodName := ⟨RX2, "<init>", "()V"⟩
abbrev cX2_copyFrom : ByteArray := prog_4_method_2_code
def yX2_copyFrom : MethodName := ⟨RX2, "copyFrom", "(LSeasonalAdjuster$Series;)V"⟩
abbrev cX2_addEntry : ByteArray := prog_4_method_3_code
def yX2_addEntry : MethodName := ⟨RX2, "addEntry", "(IZ)I"⟩
abbrev cX2_leastValue : ByteArray := prog_4_method_4_code
def yX2_leastValue : MethodName := ⟨RX2, "leastValue", "()I"⟩
abbrev cX2_seasonOf : ByteArray := prog_4_method_5_code
def yX2_seasonOf : MethodName := ⟨RX2, "seasonOf", "(I)I"⟩
abbrev cX2_half : ByteArray := prog_4_method_6_code
def yX2_half : MethodName := ⟨RX2, "half", "()I"⟩
abbrev cX2_hasValueBelowOne : ByteArray := prog_4_method_7_code
def yX2_hasValueBelowOne : MethodName := ⟨RX2, "hasValueBelowOne", "()Z"⟩
abbrev cX2_countGaps : ByteArray := prog_4_method_8_code
def yX2_countGaps : MethodName := ⟨RX2, "countGaps", "()I"⟩
abbrev cX2_isDecomposable : ByteArray := prog_4_method_9_code
def yX2_isDecomposable : MethodName := ⟨RX2, "isDecomposable", "()Z"⟩
abbrev cX2_neighbour : ByteArray := prog_4_method_10_code
def yX2_neighbour : MethodName := ⟨RX2, "neighbour", "(II)I"⟩
abbrev cX2_hasUnfillableGap : ByteArray := prog_4_method_11_code
def yX2_hasUnfillableGap : MethodName := ⟨RX2, "hasUnfillableGap", "()Z"⟩
abbrev cX2_fillGaps : ByteArray := prog_4_method_12_code
def yX2_fillGaps : MethodName := ⟨RX2, "fillGaps", "()I"⟩
abbrev cX2_fillingFor : ByteArray := prog_4_method_13_code
def yX2_fillingFor : MethodName := ⟨RX2, "fillingFor", "(I)I"⟩
abbrev cX2_sumOfDays : ByteArray := prog_4_method_14_code
def yX2_sumOfDays : MethodName := ⟨RX2, "sumOfDays", "()J"⟩
abbrev cX2_excessDays : ByteArray := prog_4_method_15_code
def yX2_excessDays : MethodName := ⟨RX2, "excessDays", "(IJ)J"⟩
abbrev cX2_subtractDays : ByteArray := prog_4_method_16_code
def yX2_subtractDays : MethodName := ⟨RX2, "subtractDays", "(J)I"⟩
def RX3 : String := "SeasonalAdjuster"
def TX3 : u_T := fun k => match k with
  | 0 => ("SeasonalAdjuster", "series", "LSeasonalAdjuster$Series;", true)
  | 1 => ("SeasonalAdjuster", "history", "LSeasonalAdjuster$History;", true)
  | 2 => ("SeasonalAdjuster", "parts", "LSeasonalAdjuster$Decomposition;", true)
  | _ => ("SeasonalAdjuster", "partsAreStale", "Z", false)
def tyX3 : Nat → FieldType := fun k => match k with
  | 0 => .object "SeasonalAdjuster$Series"
  | 1 => .object "SeasonalAdjuster$History"
  | 2 => .object "SeasonalAdjuster$Decomposition"
  | _ => .boolean
abbrev wsX30 : List Cond := u_ws RX3 TX3 4
theorem nmX3 : ∀ a, a < 4 → ∀ b, b < 4 → a ≠ b → (TX3 a).2.1 ≠ (TX3 b).2.1 := by decide +kernel
theorem tyX3_ok : ∀ k, k < 4 → parseFieldDescriptor (TX3 k).2.2.1 = some (tyX3 k) := by decide +kernel
abbrev cX3_init : ByteArray := prog_1_method_1_code
def yX3_init : MethodName := ⟨RX3, "<init>", "()V"⟩
abbrev cX3_setPeriod : ByteArray := prog_1_method_2_code
def yX3_setPeriod : MethodName := ⟨RX3, "setPeriod", "(I)I"⟩
abbrev cX3_setMode : ByteArray := prog_1_method_3_code
def yX3_setMode : MethodName := ⟨RX3, "setMode", "(I)I"⟩
abbrev cX3_setRounds : ByteArray := prog_1_method_4_code
def yX3_setRounds : MethodName := ⟨RX3, "setRounds", "(I)I"⟩
abbrev cX3_append : ByteArray := prog_1_method_5_code
def yX3_append : MethodName := ⟨RX3, "append", "(I)I"⟩
abbrev cX3_appendMissing : ByteArray := prog_1_method_6_code
def yX3_appendMissing : MethodName := ⟨RX3, "appendMissing", "()I"⟩
abbrev cX3_set : ByteArray := prog_1_method_7_code
def yX3_set : MethodName := ⟨RX3, "set", "(II)I"⟩
abbrev cX3_setMissing : ByteArray := prog_1_method_8_code
def yX3_setMissing : MethodName := ⟨RX3, "setMissing", "(I)I"⟩
abbrev cX3_setDays : ByteArray := prog_1_method_9_code
def yX3_setDays : MethodName := ⟨RX3, "setDays", "(II)I"⟩
abbrev cX3_removeLast : ByteArray := prog_1_method_10_code
def yX3_removeLast : MethodName := ⟨RX3, "removeLast", "()I"⟩
abbrev cX3_fill : ByteArray := prog_1_method_11_code
def yX3_fill : MethodName := ⟨RX3, "fill", "()I"⟩
abbrev cX3_size : ByteArray := prog_1_method_12_code
def yX3_size : MethodName := ⟨RX3, "size", "()I"⟩
abbrev cX3_value : ByteArray := prog_1_method_13_code
def yX3_value : MethodName := ⟨RX3, "value", "(I)I"⟩
abbrev cX3_missing : ByteArray := prog_1_method_14_code
def yX3_missing : MethodName := ⟨RX3, "missing", "(I)I"⟩
abbrev cX3_canDecompose : ByteArray := prog_1_method_15_code
def yX3_canDecompose : MethodName := ⟨RX3, "canDecompose", "()Z"⟩
abbrev cX3_firstTrend : ByteArray := prog_1_method_16_code
def yX3_firstTrend : MethodName := ⟨RX3, "firstTrend", "(I)J"⟩
abbrev cX3_deviation : ByteArray := prog_1_method_17_code
def yX3_deviation : MethodName := ⟨RX3, "deviation", "(I)J"⟩
abbrev cX3_weight : ByteArray := prog_1_method_18_code
def yX3_weight : MethodName := ⟨RX3, "weight", "(I)I"⟩
abbrev cX3_spread : ByteArray := prog_1_method_19_code
def yX3_spread : MethodName := ⟨RX3, "spread", "()J"⟩
abbrev cX3_factor : ByteArray := prog_1_method_20_code
def yX3_factor : MethodName := ⟨RX3, "factor", "(I)J"⟩
abbrev cX3_adjusted : ByteArray := prog_1_method_21_code
def yX3_adjusted : MethodName := ⟨RX3, "adjusted", "(I)J"⟩
abbrev cX3_trend : ByteArray := prog_1_method_22_code
def yX3_trend : MethodName := ⟨RX3, "trend", "(I)J"⟩
abbrev cX3_irregular : ByteArray := prog_1_method_23_code
def yX3_irregular : MethodName := ⟨RX3, "irregular", "(I)J"⟩
abbrev cX3_outlierCount : ByteArray := prog_1_method_24_code
def yX3_outlierCount : MethodName := ⟨RX3, "outlierCount", "()I"⟩
abbrev cX3_outlier : ByteArray := prog_1_method_25_code
def yX3_outlier : MethodName := ⟨RX3, "outlier", "(I)I"⟩
abbrev cX3_seasonOfRank : ByteArray := prog_1_method_26_code
def yX3_seasonOfRank : MethodName := ⟨RX3, "seasonOfRank", "(I)I"⟩
abbrev cX3_forecast : ByteArray := prog_1_method_27_code
def yX3_forecast : MethodName := ⟨RX3, "forecast", "(I)J"⟩
abbrev cX3_daysEffect : ByteArray := prog_1_method_28_code
def yX3_daysEffect : MethodName := ⟨RX3, "daysEffect", "()J"⟩
abbrev cX3_removeDays : ByteArray := prog_1_method_29_code
def yX3_removeDays : MethodName := ⟨RX3, "removeDays", "()I"⟩
abbrev cX3_undo : ByteArray := prog_1_method_30_code
def yX3_undo : MethodName := ⟨RX3, "undo", "()I"⟩
abbrev cX3_digest : ByteArray := prog_1_method_31_code
def yX3_digest : MethodName := ⟨RX3, "digest", "()J"⟩
abbrev cX3_beginChange : ByteArray := prog_1_method_32_code
def yX3_beginChange : MethodName := ⟨RX3, "beginChange", "()V"⟩
abbrev cX3_requireParts : ByteArray := prog_1_method_33_code
def yX3_requireParts : MethodName := ⟨RX3, "requireParts", "()V"⟩
abbrev cX3_requireEntry : ByteArray := prog_1_method_34_code
def yX3_requireEntry : MethodName := ⟨RX3, "requireEntry", "(I)V"⟩
abbrev cX3_requireInner : ByteArray := prog_1_method_35_code
def yX3_requireInner : MethodName := ⟨RX3, "requireInner", "(I)V"⟩
abbrev cX3_requireValue : ByteArray := prog_1_method_36_code
def yX3_requireValue : MethodName := ⟨RX3, "requireValue", "(I)V"⟩
abbrev cX3_requireRoom : ByteArray := prog_1_method_37_code
def yX3_requireRoom : MethodName := ⟨RX3, "requireRoom", "()V"⟩
abbrev cX3_requireArgument : ByteArray := prog_1_method_38_code
def yX3_requireArgument : MethodName := ⟨RX3, "requireArgument", "(III)V"⟩
abbrev cX3_quotient : ByteArray := prog_1_method_39_code
def yX3_quotient : MethodName := ⟨RX3, "quotient", "(JJ)J"⟩
def RX4 : String := "SeasonalAdjusterModel"
def TX4 : u_T := fun k => match k with
  | 0 => ("SeasonalAdjusterModel", "now", "[I", true)
  | 1 => ("SeasonalAdjusterModel", "past", "[I", true)
  | 2 => ("SeasonalAdjusterModel", "saved", "I", false)
  | 3 => ("SeasonalAdjusterModel", "refusal", "I", false)
  | 4 => ("SeasonalAdjusterModel", "filled", "[I", true)
  | 5 => ("SeasonalAdjusterModel", "sums", "[J", true)
  | 6 => ("SeasonalAdjusterModel", "firsts", "[J", true)
  | 7 => ("SeasonalAdjusterModel", "deviations", "[J", true)
  | 8 => ("SeasonalAdjusterModel", "weights", "[I", true)
  | 9 => ("SeasonalAdjusterModel", "extremes", "[J", true)
  | 10 => ("SeasonalAdjusterModel", "factors", "[J", true)
  | 11 => ("SeasonalAdjusterModel", "spreadNow", "J", false)
  | 12 => ("SeasonalAdjusterModel", "adjusted", "[J", true)
  | 13 => ("SeasonalAdjusterModel", "trends", "[J", true)
  | 14 => ("SeasonalAdjusterModel", "irregulars", "[J", true)
  | _ => ("SeasonalAdjusterModel", "hash", "J", false)
def tyX4 : Nat → FieldType := fun k => match k with
  | 0 => .array .int
  | 1 => .array .int
  | 2 => .int
  | 3 => .int
  | 4 => .array .int
  | 5 => .array .long
  | 6 => .array .long
  | 7 => .array .long
  | 8 => .array .int
  | 9 => .array .long
  | 10 => .array .long
  | 11 => .long
  | 12 => .array .long
  | 13 => .array .long
  | 14 => .array .long
  | _ => .long
abbrev wsX40 : List Cond := u_ws RX4 TX4 16
theorem nmX4 : ∀ a, a < 16 → ∀ b, b < 16 → a ≠ b → (TX4 a).2.1 ≠ (TX4 b).2.1 := by decide +kernel
theorem tyX4_ok : ∀ k, k < 16 → parseFieldDescriptor (TX4 k).2.2.1 = some (tyX4 k) := by decide +kernel
abbrev cX4_init : ByteArray := prog_6_method_1_code
def yX4_init : MethodName := ⟨RX4, "<init>", "()V"⟩
abbrev cX4_thrown : ByteArray := prog_6_method_2_code
def yX4_thrown : MethodName := ⟨RX4, "thrown", "()I"⟩
abbrev cX4_refused : ByteArray := prog_6_method_3_code
def yX4_refused : MethodName := ⟨RX4, "refused", "(I)Z"⟩
abbrev cX4_within : ByteArray := prog_6_method_4_code
def yX4_within : MethodName := ⟨RX4, "within", "(JJJ)Z"⟩
abbrev cX4_over : ByteArray := prog_6_method_5_code
def yX4_over : MethodName := ⟨RX4, "over", "(JJ)J"⟩
abbrev cX4_size : ByteArray := prog_6_method_6_code
def yX4_size : MethodName := ⟨RX4, "size", "(J)J"⟩
abbrev cX4_saves : ByteArray := prog_6_method_7_code
def yX4_saves : MethodName := ⟨RX4, "saves", "()V"⟩
abbrev cX4_undo : ByteArray := prog_6_method_8_code
def yX4_undo : MethodName := ⟨RX4, "undo", "()I"⟩
abbrev cX4_isMissing : ByteArray := prog_6_method_9_code
def yX4_isMissing : MethodName := ⟨RX4, "isMissing", "(I)Z"⟩
abbrev cX4_valueAt : ByteArray := prog_6_method_10_code
def yX4_valueAt : MethodName := ⟨RX4, "valueAt", "(I)I"⟩
abbrev cX4_daysAt : ByteArray := prog_6_method_11_code
def yX4_daysAt : MethodName := ⟨RX4, "daysAt", "(I)I"⟩
abbrev cX4_isEntry : ByteArray := prog_6_method_12_code
def yX4_isEntry : MethodName := ⟨RX4, "isEntry", "(I)Z"⟩
abbrev cX4_isValue : ByteArray := prog_6_method_13_code
def yX4_isValue : MethodName := ⟨RX4, "isValue", "(I)Z"⟩
abbrev cX4_sets : ByteArray := prog_6_method_14_code
def yX4_sets : MethodName := ⟨RX4, "sets", "(II)I"⟩
abbrev cX4_setPeriod : ByteArray := prog_6_method_15_code
def yX4_setPeriod : MethodName := ⟨RX4, "setPeriod", "(I)I"⟩
abbrev cX4_isAnyLow : ByteArray := prog_6_method_16_code
def yX4_isAnyLow : MethodName := ⟨RX4, "isAnyLow", "()Z"⟩
abbrev cX4_setMode : ByteArray := prog_6_method_17_code
def yX4_setMode : MethodName := ⟨RX4, "setMode", "(I)I"⟩
abbrev cX4_setRounds : ByteArray := prog_6_method_18_code
def yX4_setRounds : MethodName := ⟨RX4, "setRounds", "(I)I"⟩
abbrev cX4_adds : ByteArray := prog_6_method_19_code
def yX4_adds : MethodName := ⟨RX4, "adds", "(II)I"⟩
abbrev cX4_append : ByteArray := prog_6_method_20_code
def yX4_append : MethodName := ⟨RX4, "append", "(I)I"⟩
abbrev cX4_appendMissing : ByteArray := prog_6_method_21_code
def yX4_appendMissing : MethodName := ⟨RX4, "appendMissing", "()I"⟩
abbrev cX4_missingOnes : ByteArray := prog_6_method_22_code
def yX4_missingOnes : MethodName := ⟨RX4, "missingOnes", "()I"⟩
abbrev cX4_set : ByteArray := prog_6_method_23_code
def yX4_set : MethodName := ⟨RX4, "set", "(II)I"⟩
abbrev cX4_setMissing : ByteArray := prog_6_method_24_code
def yX4_setMissing : MethodName := ⟨RX4, "setMissing", "(I)I"⟩
abbrev cX4_setDays : ByteArray := prog_6_method_25_code
def yX4_setDays : MethodName := ⟨RX4, "setDays", "(II)I"⟩
abbrev cX4_removeLast : ByteArray := prog_6_method_26_code
def yX4_removeLast : MethodName := ⟨RX4, "removeLast", "()I"⟩
abbrev cX4_nextOf : ByteArray := prog_6_method_27_code
def yX4_nextOf : MethodName := ⟨RX4, "nextOf", "(II)I"⟩
abbrev cX4_canFill : ByteArray := prog_6_method_28_code
def yX4_canFill : MethodName := ⟨RX4, "canFill", "()Z"⟩
abbrev cX4_fill : ByteArray := prog_6_method_29_code
def yX4_fill : MethodName := ⟨RX4, "fill", "()I"⟩
abbrev cX4_size_ : ByteArray := prog_6_method_30_code
def yX4_size_ : MethodName := ⟨RX4, "size", "()I"⟩
abbrev cX4_value : ByteArray := prog_6_method_31_code
def yX4_value : MethodName := ⟨RX4, "value", "(I)I"⟩
abbrev cX4_missing : ByteArray := prog_6_method_32_code
def yX4_missing : MethodName := ⟨RX4, "missing", "(I)I"⟩
abbrev cX4_half : ByteArray := prog_6_method_33_code
def yX4_half : MethodName := ⟨RX4, "half", "()I"⟩
abbrev cX4_can : ByteArray := prog_6_method_34_code
def yX4_can : MethodName := ⟨RX4, "can", "()Z"⟩
abbrev cX4_canDecompose : ByteArray := prog_6_method_35_code
def yX4_canDecompose : MethodName := ⟨RX4, "canDecompose", "()Z"⟩
abbrev cX4_isInner : ByteArray := prog_6_method_36_code
def yX4_isInner : MethodName := ⟨RX4, "isInner", "(I)Z"⟩
abbrev cX4_inner : ByteArray := prog_6_method_37_code
def yX4_inner : MethodName := ⟨RX4, "inner", "()I"⟩
abbrev cX4_findFirsts : ByteArray := prog_6_method_38_code
def yX4_findFirsts : MethodName := ⟨RX4, "findFirsts", "()V"⟩
abbrev cX4_findFactors : ByteArray := prog_6_method_39_code
def yX4_findFactors : MethodName := ⟨RX4, "findFactors", "()V"⟩
abbrev cX4_findExtremes : ByteArray := prog_6_method_40_code
def yX4_findExtremes : MethodName := ⟨RX4, "findExtremes", "()V"⟩
abbrev cX4_findWeights : ByteArray := prog_6_method_41_code
def yX4_findWeights : MethodName := ⟨RX4, "findWeights", "()V"⟩
abbrev cX4_findTrends : ByteArray := prog_6_method_42_code
def yX4_findTrends : MethodName := ⟨RX4, "findTrends", "()V"⟩
abbrev cX4_decomposes : ByteArray := prog_6_method_43_code
def yX4_decomposes : MethodName := ⟨RX4, "decomposes", "()Z"⟩
abbrev cX4_refusesInner : ByteArray := prog_6_method_44_code
def yX4_refusesInner : MethodName := ⟨RX4, "refusesInner", "(I)Z"⟩
abbrev cX4_firstTrend : ByteArray := prog_6_method_45_code
def yX4_firstTrend : MethodName := ⟨RX4, "firstTrend", "(I)J"⟩
abbrev cX4_deviation : ByteArray := prog_6_method_46_code
def yX4_deviation : MethodName := ⟨RX4, "deviation", "(I)J"⟩
abbrev cX4_weight : ByteArray := prog_6_method_47_code
def yX4_weight : MethodName := ⟨RX4, "weight", "(I)I"⟩
abbrev cX4_spread : ByteArray := prog_6_method_48_code
def yX4_spread : MethodName := ⟨RX4, "spread", "()J"⟩
abbrev cX4_isSeason : ByteArray := prog_6_method_49_code
def yX4_isSeason : MethodName := ⟨RX4, "isSeason", "(I)Z"⟩
abbrev cX4_factor : ByteArray := prog_6_method_50_code
def yX4_factor : MethodName := ⟨RX4, "factor", "(I)J"⟩
abbrev cX4_refusesEntry : ByteArray := prog_6_method_51_code
def yX4_refusesEntry : MethodName := ⟨RX4, "refusesEntry", "(I)Z"⟩
abbrev cX4_adjusted : ByteArray := prog_6_method_52_code
def yX4_adjusted : MethodName := ⟨RX4, "adjusted", "(I)J"⟩
abbrev cX4_trend : ByteArray := prog_6_method_53_code
def yX4_trend : MethodName := ⟨RX4, "trend", "(I)J"⟩
abbrev cX4_irregular : ByteArray := prog_6_method_54_code
def yX4_irregular : MethodName := ⟨RX4, "irregular", "(I)J"⟩
abbrev cX4_isOut : ByteArray := prog_6_method_55_code
def yX4_isOut : MethodName := ⟨RX4, "isOut", "(I)Z"⟩
abbrev cX4_outs : ByteArray := prog_6_method_56_code
def yX4_outs : MethodName := ⟨RX4, "outs", "()I"⟩
abbrev cX4_outlierCount : ByteArray := prog_6_method_57_code
def yX4_outlierCount : MethodName := ⟨RX4, "outlierCount", "()I"⟩
abbrev cX4_isAhead : ByteArray := prog_6_method_58_code
def yX4_isAhead : MethodName := ⟨RX4, "isAhead", "(II)Z"⟩
abbrev cX4_outlier : ByteArray := prog_6_method_59_code
def yX4_outlier : MethodName := ⟨RX4, "outlier", "(I)I"⟩
abbrev cX4_seasonOfRank : ByteArray := prog_6_method_60_code
def yX4_seasonOfRank : MethodName := ⟨RX4, "seasonOfRank", "(I)I"⟩
abbrev cX4_forecast : ByteArray := prog_6_method_61_code
def yX4_forecast : MethodName := ⟨RX4, "forecast", "(I)J"⟩
abbrev cX4_daysAll : ByteArray := prog_6_method_62_code
def yX4_daysAll : MethodName := ⟨RX4, "daysAll", "()J"⟩
abbrev cX4_unlike : ByteArray := prog_6_method_63_code
def yX4_unlike : MethodName := ⟨RX4, "unlike", "(I)J"⟩
abbrev cX4_hasEffect : ByteArray := prog_6_method_64_code
def yX4_hasEffect : MethodName := ⟨RX4, "hasEffect", "()Z"⟩
abbrev cX4_effect : ByteArray := prog_6_method_65_code
def yX4_effect : MethodName := ⟨RX4, "effect", "()J"⟩
abbrev cX4_daysEffect : ByteArray := prog_6_method_66_code
def yX4_daysEffect : MethodName := ⟨RX4, "daysEffect", "()J"⟩
abbrev cX4_removeDays : ByteArray := prog_6_method_67_code
def yX4_removeDays : MethodName := ⟨RX4, "removeDays", "()I"⟩
abbrev cX4_mix : ByteArray := prog_6_method_68_code
def yX4_mix : MethodName := ⟨RX4, "mix", "(J)V"⟩
abbrev cX4_digest : ByteArray := prog_6_method_69_code
def yX4_digest : MethodName := ⟨RX4, "digest", "()J"⟩
def RJ9 : String := "java/lang/Math"
def TJ9 : u_T := fun k => match k with
  | _ => ("", "", "", false)
def tyJ9 : Nat → FieldType := fun k => match k with
  | _ => .int
abbrev wsJ90 : List Cond := u_ws RJ9 TJ9 0
theorem nmJ9 : ∀ a, a < 0 → ∀ b, b < 0 → a ≠ b → (TJ9 a).2.1 ≠ (TJ9 b).2.1 := by decide +kernel
theorem tyJ9_ok : ∀ k, k < 0 → parseFieldDescriptor (TJ9 k).2.2.1 = some (tyJ9 k) := by decide +kernel
abbrev cJ9_abs_067f4 : ByteArray := prog_11_method_61_code
def yJ9_abs_067f4 : MethodName := ⟨RJ9, "abs", "(J)J"⟩
abbrev cJ9_max_7cf53 : ByteArray := prog_11_method_65_code
def yJ9_max_7cf53 : MethodName := ⟨RJ9, "max", "(II)I"⟩
abbrev cJ9_max_f86c9 : ByteArray := prog_11_method_66_code
def yJ9_max_f86c9 : MethodName := ⟨RJ9, "max", "(JJ)J"⟩
abbrev cJ9_min_7cf53 : ByteArray := prog_11_method_69_code
def yJ9_min_7cf53 : MethodName := ⟨RJ9, "min", "(II)I"⟩
abbrev cJ9_min_f86c9 : ByteArray := prog_11_method_70_code
def yJ9_min_f86c9 : MethodName := ⟨RJ9, "min", "(JJ)J"⟩
def RJ0 : String := "java/lang/String"
def TJ0 : u_T := fun k => match k with
  | _ => ("", "", "", false)
def tyJ0 : Nat → FieldType := fun k => match k with
  | _ => .int
abbrev wsJ00 : List Cond := u_ws RJ0 TJ0 0
theorem nmJ0 : ∀ a, a < 0 → ∀ b, b < 0 → a ≠ b → (TJ0 a).2.1 ≠ (TJ0 b).2.1 := by decide +kernel
theorem tyJ0_ok : ∀ k, k < 0 → parseFieldDescriptor (TJ0 k).2.2.1 = some (tyJ0 k) := by decide +kernel
def RL : String := "SeasonalAdjusterLaw"
abbrev cL_setPeriod : ByteArray := method_3_code
def yL_setPeriod : MethodName := ⟨RL, "setPeriod", "(LSeasonalAdjuster;I[J)I"⟩
abbrev cL_setMode : ByteArray := method_4_code
def yL_setMode : MethodName := ⟨RL, "setMode", "(LSeasonalAdjuster;I[J)I"⟩
abbrev cL_setRounds : ByteArray := method_5_code
def yL_setRounds : MethodName := ⟨RL, "setRounds", "(LSeasonalAdjuster;I[J)I"⟩
abbrev cL_append : ByteArray := method_6_code
def yL_append : MethodName := ⟨RL, "append", "(LSeasonalAdjuster;I[J)I"⟩
abbrev cL_appendMissing : ByteArray := method_7_code
def yL_appendMissing : MethodName := ⟨RL, "appendMissing", "(LSeasonalAdjuster;[J)I"⟩
abbrev cL_set : ByteArray := method_8_code
def yL_set : MethodName := ⟨RL, "set", "(LSeasonalAdjuster;II[J)I"⟩
abbrev cL_setMissing : ByteArray := method_9_code
def yL_setMissing : MethodName := ⟨RL, "setMissing", "(LSeasonalAdjuster;I[J)I"⟩
abbrev cL_setDays : ByteArray := method_10_code
def yL_setDays : MethodName := ⟨RL, "setDays", "(LSeasonalAdjuster;II[J)I"⟩
abbrev cL_removeLast : ByteArray := method_11_code
def yL_removeLast : MethodName := ⟨RL, "removeLast", "(LSeasonalAdjuster;[J)I"⟩
abbrev cL_fill : ByteArray := method_12_code
def yL_fill : MethodName := ⟨RL, "fill", "(LSeasonalAdjuster;[J)I"⟩
abbrev cL_value : ByteArray := method_13_code
def yL_value : MethodName := ⟨RL, "value", "(LSeasonalAdjuster;I[J)I"⟩
abbrev cL_missing : ByteArray := method_14_code
def yL_missing : MethodName := ⟨RL, "missing", "(LSeasonalAdjuster;I[J)I"⟩
abbrev cL_firstTrend : ByteArray := method_15_code
def yL_firstTrend : MethodName := ⟨RL, "firstTrend", "(LSeasonalAdjuster;I[J)I"⟩
abbrev cL_deviation : ByteArray := method_16_code
def yL_deviation : MethodName := ⟨RL, "deviation", "(LSeasonalAdjuster;I[J)I"⟩
abbrev cL_weight : ByteArray := method_17_code
def yL_weight : MethodName := ⟨RL, "weight", "(LSeasonalAdjuster;I[J)I"⟩
abbrev cL_spread : ByteArray := method_18_code
def yL_spread : MethodName := ⟨RL, "spread", "(LSeasonalAdjuster;[J)I"⟩
abbrev cL_factor : ByteArray := method_19_code
def yL_factor : MethodName := ⟨RL, "factor", "(LSeasonalAdjuster;I[J)I"⟩
abbrev cL_adjusted : ByteArray := method_20_code
def yL_adjusted : MethodName := ⟨RL, "adjusted", "(LSeasonalAdjuster;I[J)I"⟩
abbrev cL_trend : ByteArray := method_21_code
def yL_trend : MethodName := ⟨RL, "trend", "(LSeasonalAdjuster;I[J)I"⟩
abbrev cL_irregular : ByteArray := method_22_code
def yL_irregular : MethodName := ⟨RL, "irregular", "(LSeasonalAdjuster;I[J)I"⟩
abbrev cL_outlierCount : ByteArray := method_23_code
def yL_outlierCount : MethodName := ⟨RL, "outlierCount", "(LSeasonalAdjuster;[J)I"⟩
abbrev cL_outlier : ByteArray := method_24_code
def yL_outlier : MethodName := ⟨RL, "outlier", "(LSeasonalAdjuster;I[J)I"⟩
abbrev cL_seasonOfRank : ByteArray := method_25_code
def yL_seasonOfRank : MethodName := ⟨RL, "seasonOfRank", "(LSeasonalAdjuster;I[J)I"⟩
abbrev cL_forecast : ByteArray := method_26_code
def yL_forecast : MethodName := ⟨RL, "forecast", "(LSeasonalAdjuster;I[J)I"⟩
abbrev cL_daysEffect : ByteArray := method_27_code
def yL_daysEffect : MethodName := ⟨RL, "daysEffect", "(LSeasonalAdjuster;[J)I"⟩
abbrev cL_removeDays : ByteArray := method_28_code
def yL_removeDays : MethodName := ⟨RL, "removeDays", "(LSeasonalAdjuster;[J)I"⟩
abbrev cL_undo : ByteArray := method_29_code
def yL_undo : MethodName := ⟨RL, "undo", "(LSeasonalAdjuster;[J)I"⟩
abbrev cL_law : ByteArray := code
def yL_law : MethodName := ⟨RL, "law", "([I)Z"⟩
abbrev vwCl : List vw_C := [(RX0, TX0, 15), (RX1, TX1, 2), (RX2, TX2, 7), (RX3, TX3, 4), (RX4, TX4, 16)]
def TBL : List Cond := lw_tbl.filter goodWord
theorem tb_1 {w : Cond} (i : Nat) (g : goodWord w = true) (h : tables_1_1[i]? = some w) : w ∈ TBL := List.mem_filter.mpr ⟨List.mem_append_right _ (List.mem_append_left _ (List.mem_of_getElem? h)), g⟩
theorem tb_2 {w : Cond} (i : Nat) (g : goodWord w = true) (h : tables_1_2[i]? = some w) : w ∈ TBL := List.mem_filter.mpr ⟨List.mem_append_right _ (List.mem_append_right _ (List.mem_append_left _ (List.mem_of_getElem? h))), g⟩
theorem tb_3 {w : Cond} (i : Nat) (g : goodWord w = true) (h : tables_1_3[i]? = some w) : w ∈ TBL := List.mem_filter.mpr ⟨List.mem_append_right _ (List.mem_append_right _ (List.mem_append_right _ (List.mem_append_left _ (List.mem_of_getElem? h)))), g⟩
theorem tb_4 {w : Cond} (i : Nat) (g : goodWord w = true) (h : tables_1_4[i]? = some w) : w ∈ TBL := List.mem_filter.mpr ⟨List.mem_append_right _ (List.mem_append_right _ (List.mem_append_right _ (List.mem_append_right _ (List.mem_append_left _ (List.mem_of_getElem? h))))), g⟩
theorem tb_5 {w : Cond} (i : Nat) (g : goodWord w = true) (h : tables_1_5[i]? = some w) : w ∈ TBL := List.mem_filter.mpr ⟨List.mem_append_right _ (List.mem_append_right _ (List.mem_append_right _ (List.mem_append_right _ (List.mem_append_right _ (List.mem_of_getElem? h))))), g⟩
theorem tb_0 {w : Cond} (g : goodWord w = true) (h : w ∈ k2_sels lw_privs) : w ∈ TBL := List.mem_filter.mpr ⟨List.mem_append_left _ h, g⟩
theorem tb_good {w : Cond} (h : w ∈ TBL) : (w.onTables && w.keeps) = true ∨ ∃ ty, w = .arrayClass ty := good_of_word (List.mem_filter.mp h).2
theorem tb_in {w : Cond} (h : w ∈ TBL) : w ∈ lw_tbl := (List.mem_filter.mp h).1
theorem tw_1_0 : (Cond.initialized "SeasonalAdjusterLaw" : Cond) ∈ TBL := tb_1 0 rfl (rfl)
theorem tw_1_1 : (Cond.initialized "SeasonalAdjuster" : Cond) ∈ TBL := tb_1 1 rfl (rfl)
theorem tw_1_2 : (Cond.initialized "SeasonalAdjuster$Series" : Cond) ∈ TBL := tb_1 2 rfl (rfl)
theorem tw_1_3 : (Cond.initialized "SeasonalAdjuster$History" : Cond) ∈ TBL := tb_1 3 rfl (rfl)
theorem tw_1_4 : (Cond.initialized "SeasonalAdjuster$Decomposition" : Cond) ∈ TBL := tb_1 4 rfl (rfl)
theorem tw_1_5 : (Cond.initialized "SeasonalAdjusterModel" : Cond) ∈ TBL := tb_1 5 rfl (rfl)
theorem tw_1_6 : (Cond.initialized "java/lang/Throwable" : Cond) ∈ TBL := tb_1 6 rfl (rfl)
theorem tw_1_7 : (Cond.initialized "java/lang/Exception" : Cond) ∈ TBL := tb_1 7 rfl (rfl)
theorem tw_1_8 : (Cond.initialized "java/lang/RuntimeException" : Cond) ∈ TBL := tb_1 8 rfl (rfl)
theorem tw_1_9 : (Cond.initialized "java/lang/IllegalArgumentException" : Cond) ∈ TBL := tb_1 9 rfl (rfl)
theorem tw_1_10 : (Cond.initialized "java/lang/IllegalStateException" : Cond) ∈ TBL := tb_1 10 rfl (rfl)
theorem tw_1_11 : (Cond.initialized "java/lang/IndexOutOfBoundsException" : Cond) ∈ TBL := tb_1 11 rfl (rfl)
theorem tw_1_12 : (Cond.initialized "java/lang/Math" : Cond) ∈ TBL := tb_1 12 rfl (rfl)
theorem tw_1_13 : (Cond.classLink "SeasonalAdjusterLaw" 8 "SeasonalAdjuster" : Cond) ∈ TBL := tb_1 13 rfl (rfl)
theorem tw_1_14 : (Cond.instantiable "SeasonalAdjuster" 4 : Cond) ∈ TBL := tb_1 14 rfl (rfl)
theorem tw_1_15 : (Cond.methodLink "SeasonalAdjusterLaw" 101 yX3_init : Cond) ∈ TBL := tb_1 15 rfl (rfl)
theorem tw_1_16 : (Cond.instanceMethod yX3_init : Cond) ∈ TBL := tb_1 16 rfl (rfl)
theorem tw_1_17 : (Cond.code yX3_init cX3_init 1 none : Cond) ∈ TBL := tb_1 17 rfl (rfl)
theorem tw_1_18 : (Cond.methodLink "SeasonalAdjuster" 1 (⟨"java/lang/Object", "<init>", "()V"⟩ : MethodName) : Cond) ∈ TBL := tb_1 18 rfl (rfl)
theorem tw_1_19 : (Cond.instanceMethod (⟨"java/lang/Object", "<init>", "()V"⟩ : MethodName) : Cond) ∈ TBL := tb_1 19 rfl (rfl)
theorem tw_1_20 : (Cond.code (⟨"java/lang/Object", "<init>", "()V"⟩ : MethodName) object_method_1_code 1 none : Cond) ∈ TBL := tb_1 20 rfl (rfl)
theorem tw_1_21 : (Cond.classLink "SeasonalAdjuster" 7 "SeasonalAdjuster$Series" : Cond) ∈ TBL := tb_1 21 rfl (rfl)
theorem tw_1_22 : (Cond.instantiable "SeasonalAdjuster$Series" 7 : Cond) ∈ TBL := tb_1 22 rfl (rfl)
theorem tw_1_24 : (Cond.instanceMethod yX2_init : Cond) ∈ TBL := tb_1 24 rfl (rfl)
theorem tw_1_25 : (Cond.code yX2_init cX2_init 1 none : Cond) ∈ TBL := tb_1 25 rfl (rfl)
theorem tw_1_26 : (Cond.methodLink "SeasonalAdjuster$Series" 3 (⟨"java/lang/Object", "<init>", "()V"⟩ : MethodName) : Cond) ∈ TBL := tb_1 26 rfl (rfl)
theorem tw_1_27 : (Cond.fieldLink "SeasonalAdjuster$Series" 9 "SeasonalAdjuster$Series" "period" "I" : Cond) ∈ TBL := tb_1 27 rfl (rfl)
theorem tw_1_28 : (Cond.fieldLink "SeasonalAdjuster" 43 "SeasonalAdjuster$Series" "period" "I" : Cond) ∈ TBL := tb_1 28 rfl (rfl)
theorem tw_1_29 : (Cond.fieldLink "SeasonalAdjuster$Decomposition" 109 "SeasonalAdjuster$Series" "period" "I" : Cond) ∈ TBL := tb_1 29 rfl (rfl)
theorem tw_1_30 : (Cond.fieldLink "SeasonalAdjuster$Series" 15 "SeasonalAdjuster$Series" "mode" "I" : Cond) ∈ TBL := tb_1 30 rfl (rfl)
theorem tw_1_31 : (Cond.fieldLink "SeasonalAdjuster" 58 "SeasonalAdjuster$Series" "mode" "I" : Cond) ∈ TBL := tb_1 31 rfl (rfl)
theorem tw_1_32 : (Cond.fieldLink "SeasonalAdjuster$Decomposition" 118 "SeasonalAdjuster$Series" "mode" "I" : Cond) ∈ TBL := tb_1 32 rfl (rfl)
theorem tw_1_33 : (Cond.fieldLink "SeasonalAdjuster$Series" 18 "SeasonalAdjuster$Series" "rounds" "I" : Cond) ∈ TBL := tb_1 33 rfl (rfl)
theorem tw_1_34 : (Cond.fieldLink "SeasonalAdjuster$Decomposition" 85 "SeasonalAdjuster$Series" "rounds" "I" : Cond) ∈ TBL := tb_1 34 rfl (rfl)
theorem tw_1_35 : (Cond.fieldLink "SeasonalAdjuster" 61 "SeasonalAdjuster$Series" "rounds" "I" : Cond) ∈ TBL := tb_1 35 rfl (rfl)
theorem tw_1_36 : (Cond.fieldLink "SeasonalAdjuster$Series" 21 "SeasonalAdjuster$Series" "entries" "I" : Cond) ∈ TBL := tb_1 36 rfl (rfl)
theorem tw_1_37 : (Cond.fieldLink "SeasonalAdjuster$Decomposition" 67 "SeasonalAdjuster$Series" "entries" "I" : Cond) ∈ TBL := tb_1 37 rfl (rfl)
theorem tw_1_38 : (Cond.fieldLink "SeasonalAdjuster" 97 "SeasonalAdjuster$Series" "entries" "I" : Cond) ∈ TBL := tb_1 38 rfl (rfl)
theorem tw_1_39 : (Cond.fieldLink "SeasonalAdjuster$Series" 24 "SeasonalAdjuster$Series" "values" "[I" : Cond) ∈ TBL := tb_1 39 rfl (rfl)
theorem tw_1_40 : (Cond.fieldLink "SeasonalAdjuster$Decomposition" 106 "SeasonalAdjuster$Series" "values" "[I" : Cond) ∈ TBL := tb_1 40 rfl (rfl)
theorem tw_1_41 : (Cond.fieldLink "SeasonalAdjuster" 80 "SeasonalAdjuster$Series" "values" "[I" : Cond) ∈ TBL := tb_1 41 rfl (rfl)
theorem tw_1_42 : (Cond.fieldLink "SeasonalAdjuster$Series" 28 "SeasonalAdjuster$Series" "gaps" "[Z" : Cond) ∈ TBL := tb_1 42 rfl (rfl)
theorem tw_1_43 : (Cond.fieldLink "SeasonalAdjuster" 84 "SeasonalAdjuster$Series" "gaps" "[Z" : Cond) ∈ TBL := tb_1 43 rfl (rfl)
theorem tw_1_44 : (Cond.fieldLink "SeasonalAdjuster$Series" 32 "SeasonalAdjuster$Series" "days" "[I" : Cond) ∈ TBL := tb_1 44 rfl (rfl)
theorem tw_1_45 : (Cond.fieldLink "SeasonalAdjuster" 94 "SeasonalAdjuster$Series" "days" "[I" : Cond) ∈ TBL := tb_1 45 rfl (rfl)
theorem tw_1_61 : (Cond.arrayClass .int : Cond) ∈ TBL := tb_1 61 rfl (rfl)
theorem tw_1_62 : (Cond.arrayClass .boolean : Cond) ∈ TBL := tb_1 62 rfl (rfl)
theorem tw_1_63 : (Cond.classLink "SeasonalAdjuster" 16 "SeasonalAdjuster$History" : Cond) ∈ TBL := tb_1 63 rfl (rfl)
theorem tw_1_64 : (Cond.instantiable "SeasonalAdjuster$History" 2 : Cond) ∈ TBL := tb_1 64 rfl (rfl)
theorem tw_1_65 : (Cond.methodLink "SeasonalAdjuster" 18 yX1_init : Cond) ∈ TBL := tb_1 65 rfl (rfl)
theorem tw_1_66 : (Cond.instanceMethod yX1_init : Cond) ∈ TBL := tb_1 66 rfl (rfl)
theorem tw_1_67 : (Cond.code yX1_init cX1_init 2 none : Cond) ∈ TBL := tb_1 67 rfl (rfl)
theorem tw_1_68 : (Cond.methodLink "SeasonalAdjuster$History" 3 (⟨"java/lang/Object", "<init>", "()V"⟩ : MethodName) : Cond) ∈ TBL := tb_1 68 rfl (rfl)
theorem tw_1_69 : (Cond.classLink "SeasonalAdjuster$History" 9 "SeasonalAdjuster$Series" : Cond) ∈ TBL := tb_1 69 rfl (rfl)
theorem tw_1_72 : (Cond.fieldLink "SeasonalAdjuster$History" 11 "SeasonalAdjuster$History" "saved" "[LSeasonalAdjuster$Series;" : Cond) ∈ TBL := tb_1 72 rfl (rfl)
theorem tw_1_73 : (Cond.fieldLink "SeasonalAdjuster$History" 17 "SeasonalAdjuster$History" "count" "I" : Cond) ∈ TBL := tb_1 73 rfl (rfl)
theorem tw_1_74 : (Cond.fieldLink "SeasonalAdjuster" 201 "SeasonalAdjuster$History" "count" "I" : Cond) ∈ TBL := tb_1 74 rfl (rfl)
theorem tw_1_80 : (Cond.classLink "SeasonalAdjuster" 23 "SeasonalAdjuster$Decomposition" : Cond) ∈ TBL := tb_1 80 rfl (rfl)
theorem tw_1_81 : (Cond.instantiable "SeasonalAdjuster$Decomposition" 15 : Cond) ∈ TBL := tb_1 81 rfl (rfl)
theorem tw_1_82 : (Cond.methodLink "SeasonalAdjuster" 25 yX0_init : Cond) ∈ TBL := tb_1 82 rfl (rfl)
theorem tw_1_83 : (Cond.instanceMethod yX0_init : Cond) ∈ TBL := tb_1 83 rfl (rfl)
theorem tw_1_84 : (Cond.code yX0_init cX0_init 2 none : Cond) ∈ TBL := tb_1 84 rfl (rfl)
theorem tw_1_85 : (Cond.methodLink "SeasonalAdjuster$Decomposition" 3 (⟨"java/lang/Object", "<init>", "()V"⟩ : MethodName) : Cond) ∈ TBL := tb_1 85 rfl (rfl)
theorem tw_1_86 : (Cond.fieldLink "SeasonalAdjuster$Decomposition" 57 "SeasonalAdjuster$Decomposition" "series" "LSeasonalAdjuster$Series;" : Cond) ∈ TBL := tb_1 86 rfl (rfl)
theorem tw_1_87 : (Cond.fieldLink "SeasonalAdjuster$Decomposition" 9 "SeasonalAdjuster$Decomposition" "first" "[J" : Cond) ∈ TBL := tb_1 87 rfl (rfl)
theorem tw_1_88 : (Cond.fieldLink "SeasonalAdjuster" 124 "SeasonalAdjuster$Decomposition" "first" "[J" : Cond) ∈ TBL := tb_1 88 rfl (rfl)
theorem tw_1_89 : (Cond.fieldLink "SeasonalAdjuster$Decomposition" 15 "SeasonalAdjuster$Decomposition" "deviations" "[J" : Cond) ∈ TBL := tb_1 89 rfl (rfl)
theorem tw_1_90 : (Cond.fieldLink "SeasonalAdjuster" 128 "SeasonalAdjuster$Decomposition" "deviations" "[J" : Cond) ∈ TBL := tb_1 90 rfl (rfl)
theorem tw_1_91 : (Cond.fieldLink "SeasonalAdjuster$Decomposition" 18 "SeasonalAdjuster$Decomposition" "weights" "[I" : Cond) ∈ TBL := tb_1 91 rfl (rfl)
theorem tw_1_92 : (Cond.fieldLink "SeasonalAdjuster" 131 "SeasonalAdjuster$Decomposition" "weights" "[I" : Cond) ∈ TBL := tb_1 92 rfl (rfl)
theorem tw_1_93 : (Cond.fieldLink "SeasonalAdjuster$Decomposition" 22 "SeasonalAdjuster$Decomposition" "distances" "[J" : Cond) ∈ TBL := tb_1 93 rfl (rfl)
theorem tw_1_94 : (Cond.fieldLink "SeasonalAdjuster$Decomposition" 25 "SeasonalAdjuster$Decomposition" "factors" "[J" : Cond) ∈ TBL := tb_1 94 rfl (rfl)
theorem tw_1_95 : (Cond.fieldLink "SeasonalAdjuster" 138 "SeasonalAdjuster$Decomposition" "factors" "[J" : Cond) ∈ TBL := tb_1 95 rfl (rfl)
theorem tw_1_96 : (Cond.fieldLink "SeasonalAdjuster$Decomposition" 28 "SeasonalAdjuster$Decomposition" "level" "[J" : Cond) ∈ TBL := tb_1 96 rfl (rfl)
theorem tw_1_97 : (Cond.fieldLink "SeasonalAdjuster" 141 "SeasonalAdjuster$Decomposition" "level" "[J" : Cond) ∈ TBL := tb_1 97 rfl (rfl)
theorem tw_1_98 : (Cond.fieldLink "SeasonalAdjuster$Decomposition" 31 "SeasonalAdjuster$Decomposition" "smooth" "[J" : Cond) ∈ TBL := tb_1 98 rfl (rfl)
theorem tw_1_99 : (Cond.fieldLink "SeasonalAdjuster" 144 "SeasonalAdjuster$Decomposition" "smooth" "[J" : Cond) ∈ TBL := tb_1 99 rfl (rfl)
theorem tw_1_100 : (Cond.fieldLink "SeasonalAdjuster$Decomposition" 34 "SeasonalAdjuster$Decomposition" "rest" "[J" : Cond) ∈ TBL := tb_1 100 rfl (rfl)
theorem tw_1_101 : (Cond.fieldLink "SeasonalAdjuster" 147 "SeasonalAdjuster$Decomposition" "rest" "[J" : Cond) ∈ TBL := tb_1 101 rfl (rfl)
theorem tw_1_102 : (Cond.fieldLink "SeasonalAdjuster$Decomposition" 37 "SeasonalAdjuster$Decomposition" "outlierOrder" "[I" : Cond) ∈ TBL := tb_1 102 rfl (rfl)
theorem tw_1_103 : (Cond.fieldLink "SeasonalAdjuster" 158 "SeasonalAdjuster$Decomposition" "outlierOrder" "[I" : Cond) ∈ TBL := tb_1 103 rfl (rfl)
theorem tw_1_104 : (Cond.fieldLink "SeasonalAdjuster$Decomposition" 40 "SeasonalAdjuster$Decomposition" "seasonOrder" "[I" : Cond) ∈ TBL := tb_1 104 rfl (rfl)
theorem tw_1_105 : (Cond.fieldLink "SeasonalAdjuster" 161 "SeasonalAdjuster$Decomposition" "seasonOrder" "[I" : Cond) ∈ TBL := tb_1 105 rfl (rfl)
theorem tw_1_106 : (Cond.fieldLink "SeasonalAdjuster$Decomposition" 43 "SeasonalAdjuster$Decomposition" "width" "J" : Cond) ∈ TBL := tb_1 106 rfl (rfl)
theorem tw_1_107 : (Cond.fieldLink "SeasonalAdjuster" 134 "SeasonalAdjuster$Decomposition" "width" "J" : Cond) ∈ TBL := tb_1 107 rfl (rfl)
theorem tw_1_108 : (Cond.fieldLink "SeasonalAdjuster$Decomposition" 47 "SeasonalAdjuster$Decomposition" "outliers" "I" : Cond) ∈ TBL := tb_1 108 rfl (rfl)
theorem tw_1_109 : (Cond.fieldLink "SeasonalAdjuster" 150 "SeasonalAdjuster$Decomposition" "outliers" "I" : Cond) ∈ TBL := tb_1 109 rfl (rfl)
theorem tw_1_110 : (Cond.fieldLink "SeasonalAdjuster$Decomposition" 51 "SeasonalAdjuster$Decomposition" "from" "I" : Cond) ∈ TBL := tb_1 110 rfl (rfl)
theorem tw_1_111 : (Cond.fieldLink "SeasonalAdjuster" 227 "SeasonalAdjuster$Decomposition" "from" "I" : Cond) ∈ TBL := tb_1 111 rfl (rfl)
theorem tw_1_112 : (Cond.fieldLink "SeasonalAdjuster$Decomposition" 54 "SeasonalAdjuster$Decomposition" "to" "I" : Cond) ∈ TBL := tb_1 112 rfl (rfl)
theorem tw_1_113 : (Cond.fieldLink "SeasonalAdjuster" 230 "SeasonalAdjuster$Decomposition" "to" "I" : Cond) ∈ TBL := tb_1 113 rfl (rfl)
theorem tw_1_145 : (Cond.arrayClass .long : Cond) ∈ TBL := tb_1 145 rfl (rfl)
theorem tw_1_146 : (Cond.fieldLink "SeasonalAdjuster" 10 "SeasonalAdjuster" "series" "LSeasonalAdjuster$Series;" : Cond) ∈ TBL := tb_1 146 rfl (rfl)
theorem tw_1_147 : (Cond.fieldLink "SeasonalAdjuster" 19 "SeasonalAdjuster" "history" "LSeasonalAdjuster$History;" : Cond) ∈ TBL := tb_1 147 rfl (rfl)
theorem tw_1_148 : (Cond.fieldLink "SeasonalAdjuster" 28 "SeasonalAdjuster" "parts" "LSeasonalAdjuster$Decomposition;" : Cond) ∈ TBL := tb_1 148 rfl (rfl)
theorem tw_1_149 : (Cond.fieldLink "SeasonalAdjuster" 32 "SeasonalAdjuster" "partsAreStale" "Z" : Cond) ∈ TBL := tb_1 149 rfl (rfl)
theorem tw_1_159 : (Cond.methodLink "SeasonalAdjusterLaw" 143 yX3_size : Cond) ∈ TBL := tb_1 159 rfl (rfl)
theorem tw_1_160 : (Cond.instanceMethod yX3_size : Cond) ∈ TBL := tb_1 160 rfl (rfl)
theorem tw_1_161 : (Cond.selects "SeasonalAdjuster" yX3_size yX3_size : Cond) ∈ TBL := tb_1 161 rfl (rfl)
theorem tw_1_162 : (Cond.code yX3_size cX3_size 1 (some .int) : Cond) ∈ TBL := tb_1 162 rfl (rfl)
theorem tw_1_163 : (Cond.methodLink "SeasonalAdjusterLaw" 153 yX3_canDecompose : Cond) ∈ TBL := tb_1 163 rfl (rfl)
theorem tw_1_164 : (Cond.instanceMethod yX3_canDecompose : Cond) ∈ TBL := tb_1 164 rfl (rfl)
theorem tw_1_165 : (Cond.selects "SeasonalAdjuster" yX3_canDecompose yX3_canDecompose : Cond) ∈ TBL := tb_1 165 rfl (rfl)
theorem tw_1_166 : (Cond.code yX3_canDecompose cX3_canDecompose 1 (some .boolean) : Cond) ∈ TBL := tb_1 166 rfl (rfl)
theorem tw_1_167 : (Cond.methodLink "SeasonalAdjuster" 115 yX2_isDecomposable : Cond) ∈ TBL := tb_1 167 rfl (rfl)
theorem tw_1_168 : (Cond.instanceMethod yX2_isDecomposable : Cond) ∈ TBL := tb_1 168 rfl (rfl)
theorem tw_1_169 : (Cond.selects "SeasonalAdjuster$Series" yX2_isDecomposable yX2_isDecomposable : Cond) ∈ TBL := tb_1 169 rfl (rfl)
theorem tw_1_170 : (Cond.code yX2_isDecomposable cX2_isDecomposable 1 (some .boolean) : Cond) ∈ TBL := tb_1 170 rfl (rfl)
theorem tw_1_171 : (Cond.methodLink "SeasonalAdjuster$Series" 36 yX2_half : Cond) ∈ TBL := tb_1 171 rfl (rfl)
theorem tw_1_172 : (Cond.instanceMethod yX2_half : Cond) ∈ TBL := tb_1 172 rfl (rfl)
theorem tw_1_173 : (Cond.selects "SeasonalAdjuster$Series" yX2_half yX2_half : Cond) ∈ TBL := tb_1 173 rfl (rfl)
theorem tw_1_174 : (Cond.code yX2_half cX2_half 1 (some .int) : Cond) ∈ TBL := tb_1 174 rfl (rfl)
theorem tw_1_175 : (Cond.methodLink "SeasonalAdjuster$Series" 40 yX2_countGaps : Cond) ∈ TBL := tb_1 175 rfl (rfl)
theorem tw_1_176 : (Cond.instanceMethod yX2_countGaps : Cond) ∈ TBL := tb_1 176 rfl (rfl)
theorem tw_1_177 : (Cond.selects "SeasonalAdjuster$Series" yX2_countGaps yX2_countGaps : Cond) ∈ TBL := tb_1 177 rfl (rfl)
theorem tw_1_178 : (Cond.code yX2_countGaps cX2_countGaps 3 (some .int) : Cond) ∈ TBL := tb_1 178 rfl (rfl)
theorem tw_1_179 : (Cond.methodLink "SeasonalAdjusterLaw" 203 yX3_digest : Cond) ∈ TBL := tb_1 179 rfl (rfl)
theorem tw_1_180 : (Cond.instanceMethod yX3_digest : Cond) ∈ TBL := tb_1 180 rfl (rfl)
theorem tw_1_181 : (Cond.selects "SeasonalAdjuster" yX3_digest yX3_digest : Cond) ∈ TBL := tb_1 181 rfl (rfl)
theorem tw_1_182 : (Cond.code yX3_digest cX3_digest 4 (some .long) : Cond) ∈ TBL := tb_1 182 rfl (rfl)
theorem tw_1_183 : (Cond.constantLong "SeasonalAdjuster" 209 (11981) : Cond) ∈ TBL := tb_1 183 rfl (rfl)
theorem tw_1_184 : (Cond.constantLong "SeasonalAdjuster" 211 (31) : Cond) ∈ TBL := tb_1 184 rfl (rfl)
theorem tw_1_185 : (Cond.methodLink "SeasonalAdjuster" 118 yX3_requireParts : Cond) ∈ TBL := tb_1 185 rfl (rfl)
theorem tw_1_187 : (Cond.instanceMethod yX3_requireParts : Cond) ∈ TBL := tb_1 187 rfl (rfl)
theorem tw_1_188 : (Cond.code yX3_requireParts cX3_requireParts 1 none : Cond) ∈ TBL := tb_1 188 rfl (rfl)
theorem tw_1_189 : (Cond.classLink "SeasonalAdjuster" 51 "java/lang/IllegalStateException" : Cond) ∈ TBL := tb_1 189 rfl (rfl)
theorem tw_1_190 : (Cond.instantiable "java/lang/IllegalStateException" 6 : Cond) ∈ TBL := tb_1 190 rfl (rfl)
theorem tw_1_198 : (Cond.selects "java/lang/IllegalStateException" (⟨"java/lang/Throwable", "fillInStackTrace", "(I)Ljava/lang/Throwable;"⟩ : MethodName) (⟨"java/lang/Throwable", "fillInStackTrace", "(I)Ljava/lang/Throwable;"⟩ : MethodName) : Cond) ∈ TBL := tb_1 198 rfl (rfl)
theorem tw_1_199 : (Cond.selects "java/lang/IllegalStateException" (⟨"java/lang/Throwable", "fillInStackTrace", "()Ljava/lang/Throwable;"⟩ : MethodName) (⟨"java/lang/Throwable", "fillInStackTrace", "()Ljava/lang/Throwable;"⟩ : MethodName) : Cond) ∈ TBL := tb_1 199 rfl (rfl)
theorem tw_1_212 : (Cond.instanceMethod (⟨"java/lang/Throwable", "<init>", "()V"⟩ : MethodName) : Cond) ∈ TBL := tb_1 212 rfl (rfl)
theorem tw_1_213 : (Cond.code (⟨"java/lang/Throwable", "<init>", "()V"⟩ : MethodName) prog_14_method_1_code 1 none : Cond) ∈ TBL := tb_1 213 rfl (rfl)
theorem tw_1_220 : (Cond.instanceMethod (⟨"java/lang/Throwable", "fillInStackTrace", "()Ljava/lang/Throwable;"⟩ : MethodName) : Cond) ∈ TBL := tb_1 220 rfl (rfl)
theorem tw_1_222 : (Cond.selects "java/lang/IllegalArgumentException" (⟨"java/lang/Throwable", "fillInStackTrace", "()Ljava/lang/Throwable;"⟩ : MethodName) (⟨"java/lang/Throwable", "fillInStackTrace", "()Ljava/lang/Throwable;"⟩ : MethodName) : Cond) ∈ TBL := tb_1 222 rfl (rfl)
theorem tw_1_223 : (Cond.selects "java/lang/IndexOutOfBoundsException" (⟨"java/lang/Throwable", "fillInStackTrace", "()Ljava/lang/Throwable;"⟩ : MethodName) (⟨"java/lang/Throwable", "fillInStackTrace", "()Ljava/lang/Throwable;"⟩ : MethodName) : Cond) ∈ TBL := tb_1 223 rfl (rfl)
theorem tw_1_227 : (Cond.instanceMethod (⟨"java/lang/Throwable", "fillInStackTrace", "(I)Ljava/lang/Throwable;"⟩ : MethodName) : Cond) ∈ TBL := tb_1 227 rfl (rfl)
theorem tw_1_228 : (Cond.instantiable "java/lang/Throwable" 6 : Cond) ∈ TBL := tb_1 228 rfl (rfl)
theorem tw_1_231 : (Cond.methodLink "SeasonalAdjuster" 55 (⟨"java/lang/IllegalStateException", "<init>", "(Ljava/lang/String;)V"⟩ : MethodName) : Cond) ∈ TBL := tb_1 231 rfl (rfl)
theorem tw_1_232 : (Cond.instanceMethod (⟨"java/lang/IllegalStateException", "<init>", "(Ljava/lang/String;)V"⟩ : MethodName) : Cond) ∈ TBL := tb_1 232 rfl (rfl)
theorem tw_1_233 : (Cond.code (⟨"java/lang/IllegalStateException", "<init>", "(Ljava/lang/String;)V"⟩ : MethodName) prog_9_method_2_code 2 none : Cond) ∈ TBL := tb_1 233 rfl (rfl)
theorem tw_1_235 : (Cond.instanceMethod (⟨"java/lang/RuntimeException", "<init>", "(Ljava/lang/String;)V"⟩ : MethodName) : Cond) ∈ TBL := tb_1 235 rfl (rfl)
theorem tw_1_236 : (Cond.code (⟨"java/lang/RuntimeException", "<init>", "(Ljava/lang/String;)V"⟩ : MethodName) prog_12_method_2_code 2 none : Cond) ∈ TBL := tb_1 236 rfl (rfl)
theorem tw_1_238 : (Cond.instanceMethod (⟨"java/lang/Exception", "<init>", "(Ljava/lang/String;)V"⟩ : MethodName) : Cond) ∈ TBL := tb_1 238 rfl (rfl)
theorem tw_1_239 : (Cond.code (⟨"java/lang/Exception", "<init>", "(Ljava/lang/String;)V"⟩ : MethodName) prog_7_method_2_code 2 none : Cond) ∈ TBL := tb_1 239 rfl (rfl)
theorem tw_2_1 : (Cond.instanceMethod (⟨"java/lang/Throwable", "<init>", "(Ljava/lang/String;)V"⟩ : MethodName) : Cond) ∈ TBL := tb_2 1 rfl (rfl)
theorem tw_2_2 : (Cond.code (⟨"java/lang/Throwable", "<init>", "(Ljava/lang/String;)V"⟩ : MethodName) prog_14_method_2_code 2 none : Cond) ∈ TBL := tb_2 2 rfl (rfl)
theorem tw_2_16 : (Cond.arrayClass .byte : Cond) ∈ TBL := tb_2 16 rfl (rfl)
theorem tw_2_17 : (Cond.methodLink "SeasonalAdjuster" 222 yX0_compute : Cond) ∈ TBL := tb_2 17 rfl (rfl)
theorem tw_2_18 : (Cond.instanceMethod yX0_compute : Cond) ∈ TBL := tb_2 18 rfl (rfl)
theorem tw_2_19 : (Cond.selects "SeasonalAdjuster$Decomposition" yX0_compute yX0_compute : Cond) ∈ TBL := tb_2 19 rfl (rfl)
theorem tw_2_20 : (Cond.code yX0_compute cX0_compute 2 none : Cond) ∈ TBL := tb_2 20 rfl (rfl)
theorem tw_2_21 : (Cond.methodLink "SeasonalAdjuster$Decomposition" 61 yX2_half : Cond) ∈ TBL := tb_2 21 rfl (rfl)
theorem tw_2_22 : (Cond.methodLink "SeasonalAdjuster$Decomposition" 70 yX0_computeFirstTrend : Cond) ∈ TBL := tb_2 22 rfl (rfl)
theorem tw_2_24 : (Cond.instanceMethod yX0_computeFirstTrend : Cond) ∈ TBL := tb_2 24 rfl (rfl)
theorem tw_2_25 : (Cond.code yX0_computeFirstTrend cX0_computeFirstTrend 6 none : Cond) ∈ TBL := tb_2 25 rfl (rfl)
theorem tw_2_27 : (Cond.static yX3_quotient : Cond) ∈ TBL := tb_2 27 rfl (rfl)
theorem tw_2_28 : (Cond.code yX3_quotient cX3_quotient 10 (some .long) : Cond) ∈ TBL := tb_2 28 rfl (rfl)
theorem tw_2_29 : (Cond.constantLong "SeasonalAdjuster$Decomposition" 116 (2) : Cond) ∈ TBL := tb_2 29 rfl (rfl)
theorem tw_2_30 : (Cond.methodLink "SeasonalAdjuster$Decomposition" 73 yX0_computeDeviations : Cond) ∈ TBL := tb_2 30 rfl (rfl)
theorem tw_2_32 : (Cond.instanceMethod yX0_computeDeviations : Cond) ∈ TBL := tb_2 32 rfl (rfl)
theorem tw_2_33 : (Cond.code yX0_computeDeviations cX0_computeDeviations 2 none : Cond) ∈ TBL := tb_2 33 rfl (rfl)
theorem tw_2_34 : (Cond.constantLong "SeasonalAdjuster$Decomposition" 121 (10000) : Cond) ∈ TBL := tb_2 34 rfl (rfl)
theorem tw_2_35 : (Cond.methodLink "SeasonalAdjuster$Decomposition" 76 yX0_giveFullWeights : Cond) ∈ TBL := tb_2 35 rfl (rfl)
theorem tw_2_37 : (Cond.instanceMethod yX0_giveFullWeights : Cond) ∈ TBL := tb_2 37 rfl (rfl)
theorem tw_2_38 : (Cond.code yX0_giveFullWeights cX0_giveFullWeights 2 none : Cond) ∈ TBL := tb_2 38 rfl (rfl)
theorem tw_2_39 : (Cond.methodLink "SeasonalAdjuster$Decomposition" 79 yX0_computeFactors : Cond) ∈ TBL := tb_2 39 rfl (rfl)
theorem tw_2_41 : (Cond.instanceMethod yX0_computeFactors : Cond) ∈ TBL := tb_2 41 rfl (rfl)
theorem tw_2_42 : (Cond.code yX0_computeFactors cX0_computeFactors 4 none : Cond) ∈ TBL := tb_2 42 rfl (rfl)
theorem tw_2_43 : (Cond.methodLink "SeasonalAdjuster$Decomposition" 123 yX0_rawFactor : Cond) ∈ TBL := tb_2 43 rfl (rfl)
theorem tw_2_45 : (Cond.instanceMethod yX0_rawFactor : Cond) ∈ TBL := tb_2 45 rfl (rfl)
theorem tw_2_46 : (Cond.code yX0_rawFactor cX0_rawFactor 11 (some .long) : Cond) ∈ TBL := tb_2 46 rfl (rfl)
theorem tw_2_47 : (Cond.methodLink "SeasonalAdjuster$Decomposition" 130 yX2_seasonOf : Cond) ∈ TBL := tb_2 47 rfl (rfl)
theorem tw_2_48 : (Cond.instanceMethod yX2_seasonOf : Cond) ∈ TBL := tb_2 48 rfl (rfl)
theorem tw_2_49 : (Cond.selects "SeasonalAdjuster$Series" yX2_seasonOf yX2_seasonOf : Cond) ∈ TBL := tb_2 49 rfl (rfl)
theorem tw_2_50 : (Cond.code yX2_seasonOf cX2_seasonOf 2 (some .int) : Cond) ∈ TBL := tb_2 50 rfl (rfl)
theorem tw_2_51 : (Cond.methodLink "SeasonalAdjuster$Decomposition" 127 yX0_ratioFactor : Cond) ∈ TBL := tb_2 51 rfl (rfl)
theorem tw_2_53 : (Cond.instanceMethod yX0_ratioFactor : Cond) ∈ TBL := tb_2 53 rfl (rfl)
theorem tw_2_54 : (Cond.code yX0_ratioFactor cX0_ratioFactor 5 (some .long) : Cond) ∈ TBL := tb_2 54 rfl (rfl)
theorem tw_2_55 : (Cond.methodLink "SeasonalAdjuster$Decomposition" 134 yJ9_max_f86c9 : Cond) ∈ TBL := tb_2 55 rfl (rfl)
theorem tw_2_56 : (Cond.static yJ9_max_f86c9 : Cond) ∈ TBL := tb_2 56 rfl (rfl)
theorem tw_2_57 : (Cond.code yJ9_max_f86c9 cJ9_max_f86c9 4 (some .long) : Cond) ∈ TBL := tb_2 57 rfl (rfl)
theorem tw_2_58 : (Cond.methodLink "SeasonalAdjuster$Decomposition" 82 yX0_computeDistances : Cond) ∈ TBL := tb_2 58 rfl (rfl)
theorem tw_2_60 : (Cond.instanceMethod yX0_computeDistances : Cond) ∈ TBL := tb_2 60 rfl (rfl)
theorem tw_2_61 : (Cond.code yX0_computeDistances cX0_computeDistances 4 none : Cond) ∈ TBL := tb_2 61 rfl (rfl)
theorem tw_2_62 : (Cond.methodLink "SeasonalAdjuster$Decomposition" 139 yJ9_abs_067f4 : Cond) ∈ TBL := tb_2 62 rfl (rfl)
theorem tw_2_63 : (Cond.static yJ9_abs_067f4 : Cond) ∈ TBL := tb_2 63 rfl (rfl)
theorem tw_2_64 : (Cond.code yJ9_abs_067f4 cJ9_abs_067f4 2 (some .long) : Cond) ∈ TBL := tb_2 64 rfl (rfl)
theorem tw_2_65 : (Cond.constantLong "SeasonalAdjuster$Decomposition" 143 (5) : Cond) ∈ TBL := tb_2 65 rfl (rfl)
theorem tw_2_66 : (Cond.constantLong "SeasonalAdjuster$Decomposition" 145 (4) : Cond) ∈ TBL := tb_2 66 rfl (rfl)
theorem tw_2_67 : (Cond.methodLink "SeasonalAdjuster$Decomposition" 88 yX0_computeWeights : Cond) ∈ TBL := tb_2 67 rfl (rfl)
theorem tw_2_69 : (Cond.instanceMethod yX0_computeWeights : Cond) ∈ TBL := tb_2 69 rfl (rfl)
theorem tw_2_70 : (Cond.code yX0_computeWeights cX0_computeWeights 2 none : Cond) ∈ TBL := tb_2 70 rfl (rfl)
theorem tw_2_71 : (Cond.methodLink "SeasonalAdjuster$Decomposition" 147 yX0_weightFor : Cond) ∈ TBL := tb_2 71 rfl (rfl)
theorem tw_2_73 : (Cond.instanceMethod yX0_weightFor : Cond) ∈ TBL := tb_2 73 rfl (rfl)
theorem tw_2_74 : (Cond.code yX0_weightFor cX0_weightFor 3 (some .int) : Cond) ∈ TBL := tb_2 74 rfl (rfl)
theorem tw_2_75 : (Cond.constantLong "SeasonalAdjuster$Decomposition" 151 (3) : Cond) ∈ TBL := tb_2 75 rfl (rfl)
theorem tw_2_76 : (Cond.constantLong "SeasonalAdjuster$Decomposition" 153 (100) : Cond) ∈ TBL := tb_2 76 rfl (rfl)
theorem tw_2_77 : (Cond.methodLink "SeasonalAdjuster$Decomposition" 91 yX0_computeLevel : Cond) ∈ TBL := tb_2 77 rfl (rfl)
theorem tw_2_79 : (Cond.instanceMethod yX0_computeLevel : Cond) ∈ TBL := tb_2 79 rfl (rfl)
theorem tw_2_80 : (Cond.code yX0_computeLevel cX0_computeLevel 4 none : Cond) ∈ TBL := tb_2 80 rfl (rfl)
theorem tw_2_81 : (Cond.methodLink "SeasonalAdjuster$Decomposition" 94 yX0_computeSmooth : Cond) ∈ TBL := tb_2 81 rfl (rfl)
theorem tw_2_83 : (Cond.instanceMethod yX0_computeSmooth : Cond) ∈ TBL := tb_2 83 rfl (rfl)
theorem tw_2_84 : (Cond.code yX0_computeSmooth cX0_computeSmooth 6 none : Cond) ∈ TBL := tb_2 84 rfl (rfl)
theorem tw_2_85 : (Cond.constantLong "SeasonalAdjuster$Decomposition" 155 (-73) : Cond) ∈ TBL := tb_2 85 rfl (rfl)
theorem tw_2_86 : (Cond.constantLong "SeasonalAdjuster$Decomposition" 157 (294) : Cond) ∈ TBL := tb_2 86 rfl (rfl)
theorem tw_2_87 : (Cond.constantLong "SeasonalAdjuster$Decomposition" 159 (558) : Cond) ∈ TBL := tb_2 87 rfl (rfl)
theorem tw_2_88 : (Cond.constantLong "SeasonalAdjuster$Decomposition" 161 (1000) : Cond) ∈ TBL := tb_2 88 rfl (rfl)
theorem tw_2_89 : (Cond.methodLink "SeasonalAdjuster$Decomposition" 163 yX0_computeSmoothEnd : Cond) ∈ TBL := tb_2 89 rfl (rfl)
theorem tw_2_91 : (Cond.instanceMethod yX0_computeSmoothEnd : Cond) ∈ TBL := tb_2 91 rfl (rfl)
theorem tw_2_92 : (Cond.code yX0_computeSmoothEnd cX0_computeSmoothEnd 5 none : Cond) ∈ TBL := tb_2 92 rfl (rfl)
theorem tw_2_93 : (Cond.methodLink "SeasonalAdjuster$Decomposition" 97 yX0_computeRest : Cond) ∈ TBL := tb_2 93 rfl (rfl)
theorem tw_2_95 : (Cond.instanceMethod yX0_computeRest : Cond) ∈ TBL := tb_2 95 rfl (rfl)
theorem tw_2_96 : (Cond.code yX0_computeRest cX0_computeRest 2 none : Cond) ∈ TBL := tb_2 96 rfl (rfl)
theorem tw_2_97 : (Cond.methodLink "SeasonalAdjuster$Decomposition" 167 yX0_restRatio : Cond) ∈ TBL := tb_2 97 rfl (rfl)
theorem tw_2_99 : (Cond.instanceMethod yX0_restRatio : Cond) ∈ TBL := tb_2 99 rfl (rfl)
theorem tw_2_100 : (Cond.code yX0_restRatio cX0_restRatio 2 (some .long) : Cond) ∈ TBL := tb_2 100 rfl (rfl)
theorem tw_2_101 : (Cond.methodLink "SeasonalAdjuster$Decomposition" 100 yX0_orderOutliers : Cond) ∈ TBL := tb_2 101 rfl (rfl)
theorem tw_2_103 : (Cond.instanceMethod yX0_orderOutliers : Cond) ∈ TBL := tb_2 103 rfl (rfl)
theorem tw_2_104 : (Cond.code yX0_orderOutliers cX0_orderOutliers 3 none : Cond) ∈ TBL := tb_2 104 rfl (rfl)
theorem tw_2_105 : (Cond.methodLink "SeasonalAdjuster$Decomposition" 170 yX0_isMoreExtreme : Cond) ∈ TBL := tb_2 105 rfl (rfl)
theorem tw_2_107 : (Cond.instanceMethod yX0_isMoreExtreme : Cond) ∈ TBL := tb_2 107 rfl (rfl)
theorem tw_2_108 : (Cond.code yX0_isMoreExtreme cX0_isMoreExtreme 3 (some .boolean) : Cond) ∈ TBL := tb_2 108 rfl (rfl)
theorem tw_2_109 : (Cond.methodLink "SeasonalAdjuster$Decomposition" 103 yX0_orderSeasons : Cond) ∈ TBL := tb_2 109 rfl (rfl)
theorem tw_2_111 : (Cond.instanceMethod yX0_orderSeasons : Cond) ∈ TBL := tb_2 111 rfl (rfl)
theorem tw_2_112 : (Cond.code yX0_orderSeasons cX0_orderSeasons 3 none : Cond) ∈ TBL := tb_2 112 rfl (rfl)
theorem tw_2_113 : (Cond.methodLink "SeasonalAdjuster" 213 yX0_addToHash : Cond) ∈ TBL := tb_2 113 rfl (rfl)
theorem tw_2_114 : (Cond.instanceMethod yX0_addToHash : Cond) ∈ TBL := tb_2 114 rfl (rfl)
theorem tw_2_115 : (Cond.selects "SeasonalAdjuster$Decomposition" yX0_addToHash yX0_addToHash : Cond) ∈ TBL := tb_2 115 rfl (rfl)
theorem tw_2_116 : (Cond.code yX0_addToHash cX0_addToHash 6 (some .long) : Cond) ∈ TBL := tb_2 116 rfl (rfl)
theorem tw_2_117 : (Cond.constantLong "SeasonalAdjuster$Decomposition" 174 (31) : Cond) ∈ TBL := tb_2 117 rfl (rfl)
theorem tw_2_118 : (Cond.methodLink "SeasonalAdjusterLaw" 105 yL_setPeriod : Cond) ∈ TBL := tb_2 118 rfl (rfl)
theorem tw_2_119 : (Cond.static yL_setPeriod : Cond) ∈ TBL := tb_2 119 rfl (rfl)
theorem tw_2_120 : (Cond.codeWith yL_setPeriod cL_setPeriod 4 (some .int) [(0, 9, 12, 13)] : Cond) ∈ TBL := tb_2 120 rfl (rfl)
theorem tw_2_121 : (Cond.classLink "SeasonalAdjusterLaw" 13 "java/lang/IllegalArgumentException" : Cond) ∈ TBL := tb_2 121 rfl (rfl)
theorem tw_2_122 : (Cond.methodLink "SeasonalAdjusterLaw" 7 yX3_setPeriod : Cond) ∈ TBL := tb_2 122 rfl (rfl)
theorem tw_2_123 : (Cond.instanceMethod yX3_setPeriod : Cond) ∈ TBL := tb_2 123 rfl (rfl)
theorem tw_2_124 : (Cond.selects "SeasonalAdjuster" yX3_setPeriod yX3_setPeriod : Cond) ∈ TBL := tb_2 124 rfl (rfl)
theorem tw_2_125 : (Cond.code yX3_setPeriod cX3_setPeriod 3 (some .int) : Cond) ∈ TBL := tb_2 125 rfl (rfl)
theorem tw_2_126 : (Cond.methodLink "SeasonalAdjuster" 36 yX3_requireArgument : Cond) ∈ TBL := tb_2 126 rfl (rfl)
theorem tw_2_127 : (Cond.static yX3_requireArgument : Cond) ∈ TBL := tb_2 127 rfl (rfl)
theorem tw_2_128 : (Cond.code yX3_requireArgument cX3_requireArgument 3 none : Cond) ∈ TBL := tb_2 128 rfl (rfl)
theorem tw_2_129 : (Cond.classLink "SeasonalAdjuster" 110 "java/lang/IllegalArgumentException" : Cond) ∈ TBL := tb_2 129 rfl (rfl)
theorem tw_2_130 : (Cond.instantiable "java/lang/IllegalArgumentException" 6 : Cond) ∈ TBL := tb_2 130 rfl (rfl)
theorem tw_2_132 : (Cond.selects "java/lang/IllegalArgumentException" (⟨"java/lang/Throwable", "fillInStackTrace", "(I)Ljava/lang/Throwable;"⟩ : MethodName) (⟨"java/lang/Throwable", "fillInStackTrace", "(I)Ljava/lang/Throwable;"⟩ : MethodName) : Cond) ∈ TBL := tb_2 132 rfl (rfl)
theorem tw_2_139 : (Cond.methodLink "SeasonalAdjuster" 114 (⟨"java/lang/IllegalArgumentException", "<init>", "(Ljava/lang/String;)V"⟩ : MethodName) : Cond) ∈ TBL := tb_2 139 rfl (rfl)
theorem tw_2_140 : (Cond.instanceMethod (⟨"java/lang/IllegalArgumentException", "<init>", "(Ljava/lang/String;)V"⟩ : MethodName) : Cond) ∈ TBL := tb_2 140 rfl (rfl)
theorem tw_2_141 : (Cond.code (⟨"java/lang/IllegalArgumentException", "<init>", "(Ljava/lang/String;)V"⟩ : MethodName) prog_8_method_2_code 2 none : Cond) ∈ TBL := tb_2 141 rfl (rfl)
theorem tw_2_145 : (Cond.methodLink "SeasonalAdjuster" 40 yX3_beginChange : Cond) ∈ TBL := tb_2 145 rfl (rfl)
theorem tw_2_147 : (Cond.instanceMethod yX3_beginChange : Cond) ∈ TBL := tb_2 147 rfl (rfl)
theorem tw_2_148 : (Cond.code yX3_beginChange cX3_beginChange 1 none : Cond) ∈ TBL := tb_2 148 rfl (rfl)
theorem tw_2_149 : (Cond.methodLink "SeasonalAdjuster" 217 yX1_save : Cond) ∈ TBL := tb_2 149 rfl (rfl)
theorem tw_2_150 : (Cond.instanceMethod yX1_save : Cond) ∈ TBL := tb_2 150 rfl (rfl)
theorem tw_2_151 : (Cond.selects "SeasonalAdjuster$History" yX1_save yX1_save : Cond) ∈ TBL := tb_2 151 rfl (rfl)
theorem tw_2_152 : (Cond.code yX1_save cX1_save 3 none : Cond) ∈ TBL := tb_2 152 rfl (rfl)
theorem tw_2_153 : (Cond.methodLink "SeasonalAdjuster$History" 22 yX1_dropOldest : Cond) ∈ TBL := tb_2 153 rfl (rfl)
theorem tw_2_155 : (Cond.instanceMethod yX1_dropOldest : Cond) ∈ TBL := tb_2 155 rfl (rfl)
theorem tw_2_156 : (Cond.code yX1_dropOldest cX1_dropOldest 3 none : Cond) ∈ TBL := tb_2 156 rfl (rfl)
theorem tw_2_157 : (Cond.methodLink "SeasonalAdjuster$History" 25 yX2_copyFrom : Cond) ∈ TBL := tb_2 157 rfl (rfl)
theorem tw_2_158 : (Cond.instanceMethod yX2_copyFrom : Cond) ∈ TBL := tb_2 158 rfl (rfl)
theorem tw_2_159 : (Cond.selects "SeasonalAdjuster$Series" yX2_copyFrom yX2_copyFrom : Cond) ∈ TBL := tb_2 159 rfl (rfl)
theorem tw_2_160 : (Cond.code yX2_copyFrom cX2_copyFrom 3 none : Cond) ∈ TBL := tb_2 160 rfl (rfl)
theorem tw_2_161 : (Cond.methodLink "SeasonalAdjusterLaw" 114 yL_setMode : Cond) ∈ TBL := tb_2 161 rfl (rfl)
theorem tw_2_162 : (Cond.static yL_setMode : Cond) ∈ TBL := tb_2 162 rfl (rfl)
theorem tw_2_163 : (Cond.codeWith yL_setMode cL_setMode 4 (some .int) [(0, 9, 12, 13), (0, 9, 15, 18)] : Cond) ∈ TBL := tb_2 163 rfl (rfl)
theorem tw_2_164 : (Cond.classLink "SeasonalAdjusterLaw" 18 "java/lang/IllegalStateException" : Cond) ∈ TBL := tb_2 164 rfl (rfl)
theorem tw_2_165 : (Cond.methodLink "SeasonalAdjusterLaw" 15 yX3_setMode : Cond) ∈ TBL := tb_2 165 rfl (rfl)
theorem tw_2_166 : (Cond.instanceMethod yX3_setMode : Cond) ∈ TBL := tb_2 166 rfl (rfl)
theorem tw_2_167 : (Cond.selects "SeasonalAdjuster" yX3_setMode yX3_setMode : Cond) ∈ TBL := tb_2 167 rfl (rfl)
theorem tw_2_168 : (Cond.code yX3_setMode cX3_setMode 3 (some .int) : Cond) ∈ TBL := tb_2 168 rfl (rfl)
theorem tw_2_169 : (Cond.methodLink "SeasonalAdjuster" 47 yX2_hasValueBelowOne : Cond) ∈ TBL := tb_2 169 rfl (rfl)
theorem tw_2_170 : (Cond.instanceMethod yX2_hasValueBelowOne : Cond) ∈ TBL := tb_2 170 rfl (rfl)
theorem tw_2_171 : (Cond.selects "SeasonalAdjuster$Series" yX2_hasValueBelowOne yX2_hasValueBelowOne : Cond) ∈ TBL := tb_2 171 rfl (rfl)
theorem tw_2_172 : (Cond.code yX2_hasValueBelowOne cX2_hasValueBelowOne 2 (some .boolean) : Cond) ∈ TBL := tb_2 172 rfl (rfl)
theorem tw_2_174 : (Cond.methodLink "SeasonalAdjusterLaw" 117 yL_setRounds : Cond) ∈ TBL := tb_2 174 rfl (rfl)
theorem tw_2_175 : (Cond.static yL_setRounds : Cond) ∈ TBL := tb_2 175 rfl (rfl)
theorem tw_2_176 : (Cond.codeWith yL_setRounds cL_setRounds 4 (some .int) [(0, 9, 12, 13)] : Cond) ∈ TBL := tb_2 176 rfl (rfl)
theorem tw_2_177 : (Cond.methodLink "SeasonalAdjusterLaw" 20 yX3_setRounds : Cond) ∈ TBL := tb_2 177 rfl (rfl)
theorem tw_2_178 : (Cond.instanceMethod yX3_setRounds : Cond) ∈ TBL := tb_2 178 rfl (rfl)
theorem tw_2_179 : (Cond.selects "SeasonalAdjuster" yX3_setRounds yX3_setRounds : Cond) ∈ TBL := tb_2 179 rfl (rfl)
theorem tw_2_180 : (Cond.code yX3_setRounds cX3_setRounds 3 (some .int) : Cond) ∈ TBL := tb_2 180 rfl (rfl)
theorem tw_2_181 : (Cond.methodLink "SeasonalAdjusterLaw" 120 yL_append : Cond) ∈ TBL := tb_2 181 rfl (rfl)
theorem tw_2_182 : (Cond.static yL_append : Cond) ∈ TBL := tb_2 182 rfl (rfl)
theorem tw_2_183 : (Cond.codeWith yL_append cL_append 4 (some .int) [(0, 9, 12, 13), (0, 9, 15, 18)] : Cond) ∈ TBL := tb_2 183 rfl (rfl)
theorem tw_2_184 : (Cond.methodLink "SeasonalAdjusterLaw" 23 yX3_append : Cond) ∈ TBL := tb_2 184 rfl (rfl)
theorem tw_2_185 : (Cond.instanceMethod yX3_append : Cond) ∈ TBL := tb_2 185 rfl (rfl)
theorem tw_2_186 : (Cond.selects "SeasonalAdjuster" yX3_append yX3_append : Cond) ∈ TBL := tb_2 186 rfl (rfl)
theorem tw_2_187 : (Cond.code yX3_append cX3_append 2 (some .int) : Cond) ∈ TBL := tb_2 187 rfl (rfl)
theorem tw_2_188 : (Cond.methodLink "SeasonalAdjuster" 64 yX2_leastValue : Cond) ∈ TBL := tb_2 188 rfl (rfl)
theorem tw_2_189 : (Cond.instanceMethod yX2_leastValue : Cond) ∈ TBL := tb_2 189 rfl (rfl)
theorem tw_2_190 : (Cond.selects "SeasonalAdjuster$Series" yX2_leastValue yX2_leastValue : Cond) ∈ TBL := tb_2 190 rfl (rfl)
theorem tw_2_191 : (Cond.code yX2_leastValue cX2_leastValue 1 (some .int) : Cond) ∈ TBL := tb_2 191 rfl (rfl)
theorem tw_2_192 : (Cond.constant "SeasonalAdjuster$Series" 35 (-1000000) : Cond) ∈ TBL := tb_2 192 rfl (rfl)
theorem tw_2_193 : (Cond.constant "SeasonalAdjuster" 68 (1000000) : Cond) ∈ TBL := tb_2 193 rfl (rfl)
theorem tw_2_194 : (Cond.methodLink "SeasonalAdjuster" 69 yX3_requireRoom : Cond) ∈ TBL := tb_2 194 rfl (rfl)
theorem tw_2_196 : (Cond.instanceMethod yX3_requireRoom : Cond) ∈ TBL := tb_2 196 rfl (rfl)
theorem tw_2_197 : (Cond.code yX3_requireRoom cX3_requireRoom 1 none : Cond) ∈ TBL := tb_2 197 rfl (rfl)
theorem tw_2_199 : (Cond.methodLink "SeasonalAdjuster" 72 yX2_addEntry : Cond) ∈ TBL := tb_2 199 rfl (rfl)
theorem tw_2_200 : (Cond.instanceMethod yX2_addEntry : Cond) ∈ TBL := tb_2 200 rfl (rfl)
theorem tw_2_201 : (Cond.selects "SeasonalAdjuster$Series" yX2_addEntry yX2_addEntry : Cond) ∈ TBL := tb_2 201 rfl (rfl)
theorem tw_2_202 : (Cond.code yX2_addEntry cX2_addEntry 4 (some .int) : Cond) ∈ TBL := tb_2 202 rfl (rfl)
theorem tw_2_203 : (Cond.methodLink "SeasonalAdjusterLaw" 123 yL_appendMissing : Cond) ∈ TBL := tb_2 203 rfl (rfl)
theorem tw_2_204 : (Cond.static yL_appendMissing : Cond) ∈ TBL := tb_2 204 rfl (rfl)
theorem tw_2_205 : (Cond.codeWith yL_appendMissing cL_appendMissing 3 (some .int) [(0, 8, 11, 18)] : Cond) ∈ TBL := tb_2 205 rfl (rfl)
theorem tw_2_206 : (Cond.methodLink "SeasonalAdjusterLaw" 26 yX3_appendMissing : Cond) ∈ TBL := tb_2 206 rfl (rfl)
theorem tw_2_207 : (Cond.instanceMethod yX3_appendMissing : Cond) ∈ TBL := tb_2 207 rfl (rfl)
theorem tw_2_208 : (Cond.selects "SeasonalAdjuster" yX3_appendMissing yX3_appendMissing : Cond) ∈ TBL := tb_2 208 rfl (rfl)
theorem tw_2_209 : (Cond.code yX3_appendMissing cX3_appendMissing 1 (some .int) : Cond) ∈ TBL := tb_2 209 rfl (rfl)
theorem tw_2_210 : (Cond.methodLink "SeasonalAdjusterLaw" 127 yL_set : Cond) ∈ TBL := tb_2 210 rfl (rfl)
theorem tw_2_211 : (Cond.static yL_set : Cond) ∈ TBL := tb_2 211 rfl (rfl)
theorem tw_2_212 : (Cond.codeWith yL_set cL_set 5 (some .int) [(0, 10, 13, 34), (0, 10, 17, 13)] : Cond) ∈ TBL := tb_2 212 rfl (rfl)
theorem tw_2_213 : (Cond.classLink "SeasonalAdjusterLaw" 34 "java/lang/IndexOutOfBoundsException" : Cond) ∈ TBL := tb_2 213 rfl (rfl)
theorem tw_2_214 : (Cond.methodLink "SeasonalAdjusterLaw" 30 yX3_set : Cond) ∈ TBL := tb_2 214 rfl (rfl)
theorem tw_2_215 : (Cond.instanceMethod yX3_set : Cond) ∈ TBL := tb_2 215 rfl (rfl)
theorem tw_2_216 : (Cond.selects "SeasonalAdjuster" yX3_set yX3_set : Cond) ∈ TBL := tb_2 216 rfl (rfl)
theorem tw_2_217 : (Cond.code yX3_set cX3_set 3 (some .int) : Cond) ∈ TBL := tb_2 217 rfl (rfl)
theorem tw_2_218 : (Cond.methodLink "SeasonalAdjuster" 76 yX3_requireEntry : Cond) ∈ TBL := tb_2 218 rfl (rfl)
theorem tw_2_220 : (Cond.instanceMethod yX3_requireEntry : Cond) ∈ TBL := tb_2 220 rfl (rfl)
theorem tw_2_221 : (Cond.code yX3_requireEntry cX3_requireEntry 2 none : Cond) ∈ TBL := tb_2 221 rfl (rfl)
theorem tw_2_222 : (Cond.classLink "SeasonalAdjuster" 153 "java/lang/IndexOutOfBoundsException" : Cond) ∈ TBL := tb_2 222 rfl (rfl)
theorem tw_2_223 : (Cond.instantiable "java/lang/IndexOutOfBoundsException" 6 : Cond) ∈ TBL := tb_2 223 rfl (rfl)
theorem tw_2_225 : (Cond.selects "java/lang/IndexOutOfBoundsException" (⟨"java/lang/Throwable", "fillInStackTrace", "(I)Ljava/lang/Throwable;"⟩ : MethodName) (⟨"java/lang/Throwable", "fillInStackTrace", "(I)Ljava/lang/Throwable;"⟩ : MethodName) : Cond) ∈ TBL := tb_2 225 rfl (rfl)
theorem tw_2_232 : (Cond.methodLink "SeasonalAdjuster" 157 (⟨"java/lang/IndexOutOfBoundsException", "<init>", "(Ljava/lang/String;)V"⟩ : MethodName) : Cond) ∈ TBL := tb_2 232 rfl (rfl)
theorem tw_2_233 : (Cond.instanceMethod (⟨"java/lang/IndexOutOfBoundsException", "<init>", "(Ljava/lang/String;)V"⟩ : MethodName) : Cond) ∈ TBL := tb_2 233 rfl (rfl)
theorem tw_2_234 : (Cond.code (⟨"java/lang/IndexOutOfBoundsException", "<init>", "(Ljava/lang/String;)V"⟩ : MethodName) prog_10_method_2_code 2 none : Cond) ∈ TBL := tb_2 234 rfl (rfl)
theorem tw_2_238 : (Cond.methodLink "SeasonalAdjuster" 88 yX2_countGaps : Cond) ∈ TBL := tb_2 238 rfl (rfl)
theorem tw_2_239 : (Cond.methodLink "SeasonalAdjusterLaw" 131 yL_setMissing : Cond) ∈ TBL := tb_2 239 rfl (rfl)
theorem tw_3_0 : (Cond.static yL_setMissing : Cond) ∈ TBL := tb_3 0 rfl (rfl)
theorem tw_3_1 : (Cond.codeWith yL_setMissing cL_setMissing 4 (some .int) [(0, 9, 12, 34), (0, 9, 15, 18)] : Cond) ∈ TBL := tb_3 1 rfl (rfl)
theorem tw_3_2 : (Cond.methodLink "SeasonalAdjusterLaw" 36 yX3_setMissing : Cond) ∈ TBL := tb_3 2 rfl (rfl)
theorem tw_3_3 : (Cond.instanceMethod yX3_setMissing : Cond) ∈ TBL := tb_3 3 rfl (rfl)
theorem tw_3_4 : (Cond.selects "SeasonalAdjuster" yX3_setMissing yX3_setMissing : Cond) ∈ TBL := tb_3 4 rfl (rfl)
theorem tw_3_5 : (Cond.code yX3_setMissing cX3_setMissing 3 (some .int) : Cond) ∈ TBL := tb_3 5 rfl (rfl)
theorem tw_3_6 : (Cond.methodLink "SeasonalAdjuster" 91 yX3_requireValue : Cond) ∈ TBL := tb_3 6 rfl (rfl)
theorem tw_3_8 : (Cond.instanceMethod yX3_requireValue : Cond) ∈ TBL := tb_3 8 rfl (rfl)
theorem tw_3_9 : (Cond.code yX3_requireValue cX3_requireValue 2 none : Cond) ∈ TBL := tb_3 9 rfl (rfl)
theorem tw_3_11 : (Cond.methodLink "SeasonalAdjusterLaw" 134 yL_setDays : Cond) ∈ TBL := tb_3 11 rfl (rfl)
theorem tw_3_12 : (Cond.static yL_setDays : Cond) ∈ TBL := tb_3 12 rfl (rfl)
theorem tw_3_13 : (Cond.codeWith yL_setDays cL_setDays 5 (some .int) [(0, 10, 13, 34), (0, 10, 17, 13)] : Cond) ∈ TBL := tb_3 13 rfl (rfl)
theorem tw_3_14 : (Cond.methodLink "SeasonalAdjusterLaw" 39 yX3_setDays : Cond) ∈ TBL := tb_3 14 rfl (rfl)
theorem tw_3_15 : (Cond.instanceMethod yX3_setDays : Cond) ∈ TBL := tb_3 15 rfl (rfl)
theorem tw_3_16 : (Cond.selects "SeasonalAdjuster" yX3_setDays yX3_setDays : Cond) ∈ TBL := tb_3 16 rfl (rfl)
theorem tw_3_17 : (Cond.code yX3_setDays cX3_setDays 4 (some .int) : Cond) ∈ TBL := tb_3 17 rfl (rfl)
theorem tw_3_18 : (Cond.methodLink "SeasonalAdjusterLaw" 137 yL_removeLast : Cond) ∈ TBL := tb_3 18 rfl (rfl)
theorem tw_3_19 : (Cond.static yL_removeLast : Cond) ∈ TBL := tb_3 19 rfl (rfl)
theorem tw_3_20 : (Cond.codeWith yL_removeLast cL_removeLast 3 (some .int) [(0, 8, 11, 18)] : Cond) ∈ TBL := tb_3 20 rfl (rfl)
theorem tw_3_21 : (Cond.methodLink "SeasonalAdjusterLaw" 42 yX3_removeLast : Cond) ∈ TBL := tb_3 21 rfl (rfl)
theorem tw_3_22 : (Cond.instanceMethod yX3_removeLast : Cond) ∈ TBL := tb_3 22 rfl (rfl)
theorem tw_3_23 : (Cond.selects "SeasonalAdjuster" yX3_removeLast yX3_removeLast : Cond) ∈ TBL := tb_3 23 rfl (rfl)
theorem tw_3_24 : (Cond.code yX3_removeLast cX3_removeLast 1 (some .int) : Cond) ∈ TBL := tb_3 24 rfl (rfl)
theorem tw_3_26 : (Cond.methodLink "SeasonalAdjusterLaw" 140 yL_fill : Cond) ∈ TBL := tb_3 26 rfl (rfl)
theorem tw_3_27 : (Cond.static yL_fill : Cond) ∈ TBL := tb_3 27 rfl (rfl)
theorem tw_3_28 : (Cond.codeWith yL_fill cL_fill 3 (some .int) [(0, 8, 11, 18)] : Cond) ∈ TBL := tb_3 28 rfl (rfl)
theorem tw_3_29 : (Cond.methodLink "SeasonalAdjusterLaw" 45 yX3_fill : Cond) ∈ TBL := tb_3 29 rfl (rfl)
theorem tw_3_30 : (Cond.instanceMethod yX3_fill : Cond) ∈ TBL := tb_3 30 rfl (rfl)
theorem tw_3_31 : (Cond.selects "SeasonalAdjuster" yX3_fill yX3_fill : Cond) ∈ TBL := tb_3 31 rfl (rfl)
theorem tw_3_32 : (Cond.code yX3_fill cX3_fill 1 (some .int) : Cond) ∈ TBL := tb_3 32 rfl (rfl)
theorem tw_3_33 : (Cond.methodLink "SeasonalAdjuster" 102 yX2_hasUnfillableGap : Cond) ∈ TBL := tb_3 33 rfl (rfl)
theorem tw_3_34 : (Cond.instanceMethod yX2_hasUnfillableGap : Cond) ∈ TBL := tb_3 34 rfl (rfl)
theorem tw_3_35 : (Cond.selects "SeasonalAdjuster$Series" yX2_hasUnfillableGap yX2_hasUnfillableGap : Cond) ∈ TBL := tb_3 35 rfl (rfl)
theorem tw_3_36 : (Cond.code yX2_hasUnfillableGap cX2_hasUnfillableGap 2 (some .boolean) : Cond) ∈ TBL := tb_3 36 rfl (rfl)
theorem tw_3_37 : (Cond.methodLink "SeasonalAdjuster$Series" 49 yX2_neighbour : Cond) ∈ TBL := tb_3 37 rfl (rfl)
theorem tw_3_38 : (Cond.instanceMethod yX2_neighbour : Cond) ∈ TBL := tb_3 38 rfl (rfl)
theorem tw_3_39 : (Cond.selects "SeasonalAdjuster$Series" yX2_neighbour yX2_neighbour : Cond) ∈ TBL := tb_3 39 rfl (rfl)
theorem tw_3_40 : (Cond.code yX2_neighbour cX2_neighbour 6 (some .int) : Cond) ∈ TBL := tb_3 40 rfl (rfl)
theorem tw_3_41 : (Cond.methodLink "SeasonalAdjuster$Series" 43 yJ9_max_7cf53 : Cond) ∈ TBL := tb_3 41 rfl (rfl)
theorem tw_3_42 : (Cond.static yJ9_max_7cf53 : Cond) ∈ TBL := tb_3 42 rfl (rfl)
theorem tw_3_43 : (Cond.code yJ9_max_7cf53 cJ9_max_7cf53 2 (some .int) : Cond) ∈ TBL := tb_3 43 rfl (rfl)
theorem tw_3_45 : (Cond.methodLink "SeasonalAdjuster" 107 yX2_fillGaps : Cond) ∈ TBL := tb_3 45 rfl (rfl)
theorem tw_3_46 : (Cond.instanceMethod yX2_fillGaps : Cond) ∈ TBL := tb_3 46 rfl (rfl)
theorem tw_3_47 : (Cond.selects "SeasonalAdjuster$Series" yX2_fillGaps yX2_fillGaps : Cond) ∈ TBL := tb_3 47 rfl (rfl)
theorem tw_3_48 : (Cond.code yX2_fillGaps cX2_fillGaps 3 (some .int) : Cond) ∈ TBL := tb_3 48 rfl (rfl)
theorem tw_3_49 : (Cond.methodLink "SeasonalAdjuster$Series" 52 yX2_fillingFor : Cond) ∈ TBL := tb_3 49 rfl (rfl)
theorem tw_3_51 : (Cond.instanceMethod yX2_fillingFor : Cond) ∈ TBL := tb_3 51 rfl (rfl)
theorem tw_3_52 : (Cond.code yX2_fillingFor cX2_fillingFor 4 (some .int) : Cond) ∈ TBL := tb_3 52 rfl (rfl)
theorem tw_3_53 : (Cond.constantLong "SeasonalAdjuster$Series" 56 (2) : Cond) ∈ TBL := tb_3 53 rfl (rfl)
theorem tw_3_55 : (Cond.methodLink "SeasonalAdjusterLaw" 147 yL_value : Cond) ∈ TBL := tb_3 55 rfl (rfl)
theorem tw_3_56 : (Cond.static yL_value : Cond) ∈ TBL := tb_3 56 rfl (rfl)
theorem tw_3_57 : (Cond.codeWith yL_value cL_value 4 (some .int) [(0, 9, 12, 34), (0, 9, 15, 18)] : Cond) ∈ TBL := tb_3 57 rfl (rfl)
theorem tw_3_58 : (Cond.methodLink "SeasonalAdjusterLaw" 48 yX3_value : Cond) ∈ TBL := tb_3 58 rfl (rfl)
theorem tw_3_59 : (Cond.instanceMethod yX3_value : Cond) ∈ TBL := tb_3 59 rfl (rfl)
theorem tw_3_60 : (Cond.selects "SeasonalAdjuster" yX3_value yX3_value : Cond) ∈ TBL := tb_3 60 rfl (rfl)
theorem tw_3_61 : (Cond.code yX3_value cX3_value 2 (some .int) : Cond) ∈ TBL := tb_3 61 rfl (rfl)
theorem tw_3_62 : (Cond.methodLink "SeasonalAdjusterLaw" 150 yL_missing : Cond) ∈ TBL := tb_3 62 rfl (rfl)
theorem tw_3_63 : (Cond.static yL_missing : Cond) ∈ TBL := tb_3 63 rfl (rfl)
theorem tw_3_64 : (Cond.codeWith yL_missing cL_missing 4 (some .int) [(0, 9, 12, 13)] : Cond) ∈ TBL := tb_3 64 rfl (rfl)
theorem tw_3_65 : (Cond.methodLink "SeasonalAdjusterLaw" 51 yX3_missing : Cond) ∈ TBL := tb_3 65 rfl (rfl)
theorem tw_3_66 : (Cond.instanceMethod yX3_missing : Cond) ∈ TBL := tb_3 66 rfl (rfl)
theorem tw_3_67 : (Cond.selects "SeasonalAdjuster" yX3_missing yX3_missing : Cond) ∈ TBL := tb_3 67 rfl (rfl)
theorem tw_3_68 : (Cond.code yX3_missing cX3_missing 4 (some .int) : Cond) ∈ TBL := tb_3 68 rfl (rfl)
theorem tw_3_70 : (Cond.methodLink "SeasonalAdjusterLaw" 158 yL_firstTrend : Cond) ∈ TBL := tb_3 70 rfl (rfl)
theorem tw_3_71 : (Cond.static yL_firstTrend : Cond) ∈ TBL := tb_3 71 rfl (rfl)
theorem tw_3_72 : (Cond.codeWith yL_firstTrend cL_firstTrend 4 (some .int) [(0, 8, 11, 18), (0, 8, 14, 34)] : Cond) ∈ TBL := tb_3 72 rfl (rfl)
theorem tw_3_73 : (Cond.methodLink "SeasonalAdjusterLaw" 54 yX3_firstTrend : Cond) ∈ TBL := tb_3 73 rfl (rfl)
theorem tw_3_74 : (Cond.instanceMethod yX3_firstTrend : Cond) ∈ TBL := tb_3 74 rfl (rfl)
theorem tw_3_75 : (Cond.selects "SeasonalAdjuster" yX3_firstTrend yX3_firstTrend : Cond) ∈ TBL := tb_3 75 rfl (rfl)
theorem tw_3_76 : (Cond.code yX3_firstTrend cX3_firstTrend 2 (some .long) : Cond) ∈ TBL := tb_3 76 rfl (rfl)
theorem tw_3_77 : (Cond.methodLink "SeasonalAdjuster" 121 yX3_requireInner : Cond) ∈ TBL := tb_3 77 rfl (rfl)
theorem tw_3_79 : (Cond.instanceMethod yX3_requireInner : Cond) ∈ TBL := tb_3 79 rfl (rfl)
theorem tw_3_80 : (Cond.code yX3_requireInner cX3_requireInner 2 none : Cond) ∈ TBL := tb_3 80 rfl (rfl)
theorem tw_3_82 : (Cond.methodLink "SeasonalAdjusterLaw" 161 yL_deviation : Cond) ∈ TBL := tb_3 82 rfl (rfl)
theorem tw_3_83 : (Cond.static yL_deviation : Cond) ∈ TBL := tb_3 83 rfl (rfl)
theorem tw_3_84 : (Cond.codeWith yL_deviation cL_deviation 4 (some .int) [(0, 8, 11, 18), (0, 8, 14, 34)] : Cond) ∈ TBL := tb_3 84 rfl (rfl)
theorem tw_3_85 : (Cond.methodLink "SeasonalAdjusterLaw" 58 yX3_deviation : Cond) ∈ TBL := tb_3 85 rfl (rfl)
theorem tw_3_86 : (Cond.instanceMethod yX3_deviation : Cond) ∈ TBL := tb_3 86 rfl (rfl)
theorem tw_3_87 : (Cond.selects "SeasonalAdjuster" yX3_deviation yX3_deviation : Cond) ∈ TBL := tb_3 87 rfl (rfl)
theorem tw_3_88 : (Cond.code yX3_deviation cX3_deviation 2 (some .long) : Cond) ∈ TBL := tb_3 88 rfl (rfl)
theorem tw_3_89 : (Cond.methodLink "SeasonalAdjusterLaw" 164 yL_weight : Cond) ∈ TBL := tb_3 89 rfl (rfl)
theorem tw_3_90 : (Cond.static yL_weight : Cond) ∈ TBL := tb_3 90 rfl (rfl)
theorem tw_3_91 : (Cond.codeWith yL_weight cL_weight 4 (some .int) [(0, 9, 12, 18), (0, 9, 15, 34)] : Cond) ∈ TBL := tb_3 91 rfl (rfl)
theorem tw_3_92 : (Cond.methodLink "SeasonalAdjusterLaw" 61 yX3_weight : Cond) ∈ TBL := tb_3 92 rfl (rfl)
theorem tw_3_93 : (Cond.instanceMethod yX3_weight : Cond) ∈ TBL := tb_3 93 rfl (rfl)
theorem tw_3_94 : (Cond.selects "SeasonalAdjuster" yX3_weight yX3_weight : Cond) ∈ TBL := tb_3 94 rfl (rfl)
theorem tw_3_95 : (Cond.code yX3_weight cX3_weight 2 (some .int) : Cond) ∈ TBL := tb_3 95 rfl (rfl)
theorem tw_3_96 : (Cond.methodLink "SeasonalAdjusterLaw" 167 yL_spread : Cond) ∈ TBL := tb_3 96 rfl (rfl)
theorem tw_3_97 : (Cond.static yL_spread : Cond) ∈ TBL := tb_3 97 rfl (rfl)
theorem tw_3_98 : (Cond.codeWith yL_spread cL_spread 3 (some .int) [(0, 7, 10, 18)] : Cond) ∈ TBL := tb_3 98 rfl (rfl)
theorem tw_3_99 : (Cond.methodLink "SeasonalAdjusterLaw" 64 yX3_spread : Cond) ∈ TBL := tb_3 99 rfl (rfl)
theorem tw_3_100 : (Cond.instanceMethod yX3_spread : Cond) ∈ TBL := tb_3 100 rfl (rfl)
theorem tw_3_101 : (Cond.selects "SeasonalAdjuster" yX3_spread yX3_spread : Cond) ∈ TBL := tb_3 101 rfl (rfl)
theorem tw_3_102 : (Cond.code yX3_spread cX3_spread 1 (some .long) : Cond) ∈ TBL := tb_3 102 rfl (rfl)
theorem tw_3_103 : (Cond.methodLink "SeasonalAdjusterLaw" 170 yL_factor : Cond) ∈ TBL := tb_3 103 rfl (rfl)
theorem tw_3_104 : (Cond.static yL_factor : Cond) ∈ TBL := tb_3 104 rfl (rfl)
theorem tw_3_105 : (Cond.codeWith yL_factor cL_factor 4 (some .int) [(0, 8, 11, 13), (0, 8, 14, 18)] : Cond) ∈ TBL := tb_3 105 rfl (rfl)
theorem tw_3_106 : (Cond.methodLink "SeasonalAdjusterLaw" 68 yX3_factor : Cond) ∈ TBL := tb_3 106 rfl (rfl)
theorem tw_3_107 : (Cond.instanceMethod yX3_factor : Cond) ∈ TBL := tb_3 107 rfl (rfl)
theorem tw_3_108 : (Cond.selects "SeasonalAdjuster" yX3_factor yX3_factor : Cond) ∈ TBL := tb_3 108 rfl (rfl)
theorem tw_3_109 : (Cond.code yX3_factor cX3_factor 2 (some .long) : Cond) ∈ TBL := tb_3 109 rfl (rfl)
theorem tw_3_110 : (Cond.methodLink "SeasonalAdjusterLaw" 173 yL_adjusted : Cond) ∈ TBL := tb_3 110 rfl (rfl)
theorem tw_3_111 : (Cond.static yL_adjusted : Cond) ∈ TBL := tb_3 111 rfl (rfl)
theorem tw_3_112 : (Cond.codeWith yL_adjusted cL_adjusted 4 (some .int) [(0, 8, 11, 18), (0, 8, 14, 34)] : Cond) ∈ TBL := tb_3 112 rfl (rfl)
theorem tw_3_113 : (Cond.methodLink "SeasonalAdjusterLaw" 71 yX3_adjusted : Cond) ∈ TBL := tb_3 113 rfl (rfl)
theorem tw_3_114 : (Cond.instanceMethod yX3_adjusted : Cond) ∈ TBL := tb_3 114 rfl (rfl)
theorem tw_3_115 : (Cond.selects "SeasonalAdjuster" yX3_adjusted yX3_adjusted : Cond) ∈ TBL := tb_3 115 rfl (rfl)
theorem tw_3_116 : (Cond.code yX3_adjusted cX3_adjusted 2 (some .long) : Cond) ∈ TBL := tb_3 116 rfl (rfl)
theorem tw_3_117 : (Cond.methodLink "SeasonalAdjusterLaw" 176 yL_trend : Cond) ∈ TBL := tb_3 117 rfl (rfl)
theorem tw_3_118 : (Cond.static yL_trend : Cond) ∈ TBL := tb_3 118 rfl (rfl)
theorem tw_3_119 : (Cond.codeWith yL_trend cL_trend 4 (some .int) [(0, 8, 11, 18), (0, 8, 14, 34)] : Cond) ∈ TBL := tb_3 119 rfl (rfl)
theorem tw_3_120 : (Cond.methodLink "SeasonalAdjusterLaw" 74 yX3_trend : Cond) ∈ TBL := tb_3 120 rfl (rfl)
theorem tw_3_121 : (Cond.instanceMethod yX3_trend : Cond) ∈ TBL := tb_3 121 rfl (rfl)
theorem tw_3_122 : (Cond.selects "SeasonalAdjuster" yX3_trend yX3_trend : Cond) ∈ TBL := tb_3 122 rfl (rfl)
theorem tw_3_123 : (Cond.code yX3_trend cX3_trend 2 (some .long) : Cond) ∈ TBL := tb_3 123 rfl (rfl)
theorem tw_3_124 : (Cond.methodLink "SeasonalAdjusterLaw" 179 yL_irregular : Cond) ∈ TBL := tb_3 124 rfl (rfl)
theorem tw_3_125 : (Cond.static yL_irregular : Cond) ∈ TBL := tb_3 125 rfl (rfl)
theorem tw_3_126 : (Cond.codeWith yL_irregular cL_irregular 4 (some .int) [(0, 8, 11, 18), (0, 8, 14, 34)] : Cond) ∈ TBL := tb_3 126 rfl (rfl)
theorem tw_3_127 : (Cond.methodLink "SeasonalAdjusterLaw" 77 yX3_irregular : Cond) ∈ TBL := tb_3 127 rfl (rfl)
theorem tw_3_128 : (Cond.instanceMethod yX3_irregular : Cond) ∈ TBL := tb_3 128 rfl (rfl)
theorem tw_3_129 : (Cond.selects "SeasonalAdjuster" yX3_irregular yX3_irregular : Cond) ∈ TBL := tb_3 129 rfl (rfl)
theorem tw_3_130 : (Cond.code yX3_irregular cX3_irregular 2 (some .long) : Cond) ∈ TBL := tb_3 130 rfl (rfl)
theorem tw_3_131 : (Cond.methodLink "SeasonalAdjusterLaw" 182 yL_outlierCount : Cond) ∈ TBL := tb_3 131 rfl (rfl)
theorem tw_3_132 : (Cond.static yL_outlierCount : Cond) ∈ TBL := tb_3 132 rfl (rfl)
theorem tw_3_133 : (Cond.codeWith yL_outlierCount cL_outlierCount 3 (some .int) [(0, 8, 11, 18)] : Cond) ∈ TBL := tb_3 133 rfl (rfl)
theorem tw_3_134 : (Cond.methodLink "SeasonalAdjusterLaw" 80 yX3_outlierCount : Cond) ∈ TBL := tb_3 134 rfl (rfl)
theorem tw_3_135 : (Cond.instanceMethod yX3_outlierCount : Cond) ∈ TBL := tb_3 135 rfl (rfl)
theorem tw_3_136 : (Cond.selects "SeasonalAdjuster" yX3_outlierCount yX3_outlierCount : Cond) ∈ TBL := tb_3 136 rfl (rfl)
theorem tw_3_137 : (Cond.code yX3_outlierCount cX3_outlierCount 1 (some .int) : Cond) ∈ TBL := tb_3 137 rfl (rfl)
theorem tw_3_138 : (Cond.methodLink "SeasonalAdjusterLaw" 185 yL_outlier : Cond) ∈ TBL := tb_3 138 rfl (rfl)
theorem tw_3_139 : (Cond.static yL_outlier : Cond) ∈ TBL := tb_3 139 rfl (rfl)
theorem tw_3_140 : (Cond.codeWith yL_outlier cL_outlier 4 (some .int) [(0, 9, 12, 18), (0, 9, 15, 34)] : Cond) ∈ TBL := tb_3 140 rfl (rfl)
theorem tw_3_141 : (Cond.methodLink "SeasonalAdjusterLaw" 83 yX3_outlier : Cond) ∈ TBL := tb_3 141 rfl (rfl)
theorem tw_3_142 : (Cond.instanceMethod yX3_outlier : Cond) ∈ TBL := tb_3 142 rfl (rfl)
theorem tw_3_143 : (Cond.selects "SeasonalAdjuster" yX3_outlier yX3_outlier : Cond) ∈ TBL := tb_3 143 rfl (rfl)
theorem tw_3_144 : (Cond.code yX3_outlier cX3_outlier 2 (some .int) : Cond) ∈ TBL := tb_3 144 rfl (rfl)
theorem tw_3_146 : (Cond.methodLink "SeasonalAdjusterLaw" 188 yL_seasonOfRank : Cond) ∈ TBL := tb_3 146 rfl (rfl)
theorem tw_3_147 : (Cond.static yL_seasonOfRank : Cond) ∈ TBL := tb_3 147 rfl (rfl)
theorem tw_3_148 : (Cond.codeWith yL_seasonOfRank cL_seasonOfRank 4 (some .int) [(0, 9, 12, 13), (0, 9, 15, 18)] : Cond) ∈ TBL := tb_3 148 rfl (rfl)
theorem tw_3_149 : (Cond.methodLink "SeasonalAdjusterLaw" 86 yX3_seasonOfRank : Cond) ∈ TBL := tb_3 149 rfl (rfl)
theorem tw_3_150 : (Cond.instanceMethod yX3_seasonOfRank : Cond) ∈ TBL := tb_3 150 rfl (rfl)
theorem tw_3_151 : (Cond.selects "SeasonalAdjuster" yX3_seasonOfRank yX3_seasonOfRank : Cond) ∈ TBL := tb_3 151 rfl (rfl)
theorem tw_3_152 : (Cond.code yX3_seasonOfRank cX3_seasonOfRank 2 (some .int) : Cond) ∈ TBL := tb_3 152 rfl (rfl)
theorem tw_3_153 : (Cond.methodLink "SeasonalAdjusterLaw" 191 yL_forecast : Cond) ∈ TBL := tb_3 153 rfl (rfl)
theorem tw_3_154 : (Cond.static yL_forecast : Cond) ∈ TBL := tb_3 154 rfl (rfl)
theorem tw_3_155 : (Cond.codeWith yL_forecast cL_forecast 4 (some .int) [(0, 8, 11, 13), (0, 8, 14, 18)] : Cond) ∈ TBL := tb_3 155 rfl (rfl)
theorem tw_3_156 : (Cond.methodLink "SeasonalAdjusterLaw" 89 yX3_forecast : Cond) ∈ TBL := tb_3 156 rfl (rfl)
theorem tw_3_157 : (Cond.instanceMethod yX3_forecast : Cond) ∈ TBL := tb_3 157 rfl (rfl)
theorem tw_3_158 : (Cond.selects "SeasonalAdjuster" yX3_forecast yX3_forecast : Cond) ∈ TBL := tb_3 158 rfl (rfl)
theorem tw_3_159 : (Cond.code yX3_forecast cX3_forecast 10 (some .long) : Cond) ∈ TBL := tb_3 159 rfl (rfl)
theorem tw_3_160 : (Cond.methodLink "SeasonalAdjuster" 164 yJ9_min_7cf53 : Cond) ∈ TBL := tb_3 160 rfl (rfl)
theorem tw_3_161 : (Cond.static yJ9_min_7cf53 : Cond) ∈ TBL := tb_3 161 rfl (rfl)
theorem tw_3_162 : (Cond.code yJ9_min_7cf53 cJ9_min_7cf53 2 (some .int) : Cond) ∈ TBL := tb_3 162 rfl (rfl)
theorem tw_3_163 : (Cond.methodLink "SeasonalAdjuster" 170 yX3_quotient : Cond) ∈ TBL := tb_3 163 rfl (rfl)
theorem tw_3_164 : (Cond.methodLink "SeasonalAdjuster" 174 yX2_seasonOf : Cond) ∈ TBL := tb_3 164 rfl (rfl)
theorem tw_3_165 : (Cond.constantLong "SeasonalAdjuster" 178 (10000) : Cond) ∈ TBL := tb_3 165 rfl (rfl)
theorem tw_3_166 : (Cond.methodLink "SeasonalAdjusterLaw" 194 yL_daysEffect : Cond) ∈ TBL := tb_3 166 rfl (rfl)
theorem tw_3_167 : (Cond.static yL_daysEffect : Cond) ∈ TBL := tb_3 167 rfl (rfl)
theorem tw_3_168 : (Cond.codeWith yL_daysEffect cL_daysEffect 3 (some .int) [(0, 7, 10, 18)] : Cond) ∈ TBL := tb_3 168 rfl (rfl)
theorem tw_3_169 : (Cond.methodLink "SeasonalAdjusterLaw" 92 yX3_daysEffect : Cond) ∈ TBL := tb_3 169 rfl (rfl)
theorem tw_3_170 : (Cond.instanceMethod yX3_daysEffect : Cond) ∈ TBL := tb_3 170 rfl (rfl)
theorem tw_3_171 : (Cond.selects "SeasonalAdjuster" yX3_daysEffect yX3_daysEffect : Cond) ∈ TBL := tb_3 171 rfl (rfl)
theorem tw_3_172 : (Cond.code yX3_daysEffect cX3_daysEffect 10 (some .long) : Cond) ∈ TBL := tb_3 172 rfl (rfl)
theorem tw_3_174 : (Cond.methodLink "SeasonalAdjuster" 182 yX2_sumOfDays : Cond) ∈ TBL := tb_3 174 rfl (rfl)
theorem tw_3_175 : (Cond.instanceMethod yX2_sumOfDays : Cond) ∈ TBL := tb_3 175 rfl (rfl)
theorem tw_3_176 : (Cond.selects "SeasonalAdjuster$Series" yX2_sumOfDays yX2_sumOfDays : Cond) ∈ TBL := tb_3 176 rfl (rfl)
theorem tw_3_177 : (Cond.code yX2_sumOfDays cX2_sumOfDays 4 (some .long) : Cond) ∈ TBL := tb_3 177 rfl (rfl)
theorem tw_3_178 : (Cond.methodLink "SeasonalAdjuster" 186 yX2_excessDays : Cond) ∈ TBL := tb_3 178 rfl (rfl)
theorem tw_3_179 : (Cond.instanceMethod yX2_excessDays : Cond) ∈ TBL := tb_3 179 rfl (rfl)
theorem tw_3_180 : (Cond.selects "SeasonalAdjuster$Series" yX2_excessDays yX2_excessDays : Cond) ∈ TBL := tb_3 180 rfl (rfl)
theorem tw_3_181 : (Cond.code yX2_excessDays cX2_excessDays 4 (some .long) : Cond) ∈ TBL := tb_3 181 rfl (rfl)
theorem tw_3_183 : (Cond.constantLong "SeasonalAdjuster" 192 (1000) : Cond) ∈ TBL := tb_3 183 rfl (rfl)
theorem tw_3_184 : (Cond.methodLink "SeasonalAdjusterLaw" 197 yL_removeDays : Cond) ∈ TBL := tb_3 184 rfl (rfl)
theorem tw_3_185 : (Cond.static yL_removeDays : Cond) ∈ TBL := tb_3 185 rfl (rfl)
theorem tw_3_186 : (Cond.codeWith yL_removeDays cL_removeDays 3 (some .int) [(0, 8, 11, 18)] : Cond) ∈ TBL := tb_3 186 rfl (rfl)
theorem tw_3_187 : (Cond.methodLink "SeasonalAdjusterLaw" 95 yX3_removeDays : Cond) ∈ TBL := tb_3 187 rfl (rfl)
theorem tw_3_188 : (Cond.instanceMethod yX3_removeDays : Cond) ∈ TBL := tb_3 188 rfl (rfl)
theorem tw_3_189 : (Cond.selects "SeasonalAdjuster" yX3_removeDays yX3_removeDays : Cond) ∈ TBL := tb_3 189 rfl (rfl)
theorem tw_3_190 : (Cond.code yX3_removeDays cX3_removeDays 3 (some .int) : Cond) ∈ TBL := tb_3 190 rfl (rfl)
theorem tw_3_191 : (Cond.methodLink "SeasonalAdjuster" 194 yX3_daysEffect : Cond) ∈ TBL := tb_3 191 rfl (rfl)
theorem tw_3_192 : (Cond.methodLink "SeasonalAdjuster" 197 yX2_subtractDays : Cond) ∈ TBL := tb_3 192 rfl (rfl)
theorem tw_3_193 : (Cond.instanceMethod yX2_subtractDays : Cond) ∈ TBL := tb_3 193 rfl (rfl)
theorem tw_3_194 : (Cond.selects "SeasonalAdjuster$Series" yX2_subtractDays yX2_subtractDays : Cond) ∈ TBL := tb_3 194 rfl (rfl)
theorem tw_3_195 : (Cond.code yX2_subtractDays cX2_subtractDays 11 (some .int) : Cond) ∈ TBL := tb_3 195 rfl (rfl)
theorem tw_3_196 : (Cond.methodLink "SeasonalAdjuster$Series" 62 yX2_sumOfDays : Cond) ∈ TBL := tb_3 196 rfl (rfl)
theorem tw_3_197 : (Cond.methodLink "SeasonalAdjuster$Series" 66 yX2_excessDays : Cond) ∈ TBL := tb_3 197 rfl (rfl)
theorem tw_3_198 : (Cond.constantLong "SeasonalAdjuster$Series" 70 (1000) : Cond) ∈ TBL := tb_3 198 rfl (rfl)
theorem tw_3_199 : (Cond.constantLong "SeasonalAdjuster$Series" 72 (-1000000) : Cond) ∈ TBL := tb_3 199 rfl (rfl)
theorem tw_3_200 : (Cond.constantLong "SeasonalAdjuster$Series" 74 (1000000) : Cond) ∈ TBL := tb_3 200 rfl (rfl)
theorem tw_3_201 : (Cond.methodLink "SeasonalAdjuster$Series" 76 yJ9_min_f86c9 : Cond) ∈ TBL := tb_3 201 rfl (rfl)
theorem tw_3_202 : (Cond.static yJ9_min_f86c9 : Cond) ∈ TBL := tb_3 202 rfl (rfl)
theorem tw_3_203 : (Cond.code yJ9_min_f86c9 cJ9_min_f86c9 4 (some .long) : Cond) ∈ TBL := tb_3 203 rfl (rfl)
theorem tw_3_204 : (Cond.methodLink "SeasonalAdjuster$Series" 79 yJ9_max_f86c9 : Cond) ∈ TBL := tb_3 204 rfl (rfl)
theorem tw_3_205 : (Cond.methodLink "SeasonalAdjusterLaw" 200 yL_undo : Cond) ∈ TBL := tb_3 205 rfl (rfl)
theorem tw_3_206 : (Cond.static yL_undo : Cond) ∈ TBL := tb_3 206 rfl (rfl)
theorem tw_3_207 : (Cond.codeWith yL_undo cL_undo 3 (some .int) [(0, 8, 11, 18)] : Cond) ∈ TBL := tb_3 207 rfl (rfl)
theorem tw_3_208 : (Cond.methodLink "SeasonalAdjusterLaw" 98 yX3_undo : Cond) ∈ TBL := tb_3 208 rfl (rfl)
theorem tw_3_209 : (Cond.instanceMethod yX3_undo : Cond) ∈ TBL := tb_3 209 rfl (rfl)
theorem tw_3_210 : (Cond.selects "SeasonalAdjuster" yX3_undo yX3_undo : Cond) ∈ TBL := tb_3 210 rfl (rfl)
theorem tw_3_211 : (Cond.code yX3_undo cX3_undo 1 (some .int) : Cond) ∈ TBL := tb_3 211 rfl (rfl)
theorem tw_3_213 : (Cond.methodLink "SeasonalAdjuster" 206 yX1_restoreInto : Cond) ∈ TBL := tb_3 213 rfl (rfl)
theorem tw_3_214 : (Cond.instanceMethod yX1_restoreInto : Cond) ∈ TBL := tb_3 214 rfl (rfl)
theorem tw_3_215 : (Cond.selects "SeasonalAdjuster$History" yX1_restoreInto yX1_restoreInto : Cond) ∈ TBL := tb_3 215 rfl (rfl)
theorem tw_3_216 : (Cond.code yX1_restoreInto cX1_restoreInto 3 none : Cond) ∈ TBL := tb_3 216 rfl (rfl)
theorem tw_3_217 : (Cond.classLink "SeasonalAdjusterLaw" 102 "SeasonalAdjusterModel" : Cond) ∈ TBL := tb_3 217 rfl (rfl)
theorem tw_3_218 : (Cond.instantiable "SeasonalAdjusterModel" 16 : Cond) ∈ TBL := tb_3 218 rfl (rfl)
theorem tw_3_219 : (Cond.methodLink "SeasonalAdjusterLaw" 104 yX4_init : Cond) ∈ TBL := tb_3 219 rfl (rfl)
theorem tw_3_220 : (Cond.instanceMethod yX4_init : Cond) ∈ TBL := tb_3 220 rfl (rfl)
theorem tw_3_221 : (Cond.code yX4_init cX4_init 1 none : Cond) ∈ TBL := tb_3 221 rfl (rfl)
theorem tw_3_222 : (Cond.methodLink "SeasonalAdjusterModel" 1 (⟨"java/lang/Object", "<init>", "()V"⟩ : MethodName) : Cond) ∈ TBL := tb_3 222 rfl (rfl)
theorem tw_3_223 : (Cond.fieldLink "SeasonalAdjusterModel" 7 "SeasonalAdjusterModel" "now" "[I" : Cond) ∈ TBL := tb_3 223 rfl (rfl)
theorem tw_3_224 : (Cond.fieldLink "SeasonalAdjusterModel" 13 "SeasonalAdjusterModel" "past" "[I" : Cond) ∈ TBL := tb_3 224 rfl (rfl)
theorem tw_3_225 : (Cond.fieldLink "SeasonalAdjusterModel" 51 "SeasonalAdjusterModel" "saved" "I" : Cond) ∈ TBL := tb_3 225 rfl (rfl)
theorem tw_3_226 : (Cond.fieldLink "SeasonalAdjusterModel" 47 "SeasonalAdjusterModel" "refusal" "I" : Cond) ∈ TBL := tb_3 226 rfl (rfl)
theorem tw_3_227 : (Cond.fieldLink "SeasonalAdjusterModel" 16 "SeasonalAdjusterModel" "filled" "[I" : Cond) ∈ TBL := tb_3 227 rfl (rfl)
theorem tw_3_228 : (Cond.fieldLink "SeasonalAdjusterModel" 19 "SeasonalAdjusterModel" "sums" "[J" : Cond) ∈ TBL := tb_3 228 rfl (rfl)
theorem tw_3_229 : (Cond.fieldLink "SeasonalAdjusterModel" 23 "SeasonalAdjusterModel" "firsts" "[J" : Cond) ∈ TBL := tb_3 229 rfl (rfl)
theorem tw_3_230 : (Cond.fieldLink "SeasonalAdjusterModel" 26 "SeasonalAdjusterModel" "deviations" "[J" : Cond) ∈ TBL := tb_3 230 rfl (rfl)
theorem tw_3_231 : (Cond.fieldLink "SeasonalAdjusterModel" 29 "SeasonalAdjusterModel" "weights" "[I" : Cond) ∈ TBL := tb_3 231 rfl (rfl)
theorem tw_3_232 : (Cond.fieldLink "SeasonalAdjusterModel" 32 "SeasonalAdjusterModel" "extremes" "[J" : Cond) ∈ TBL := tb_3 232 rfl (rfl)
theorem tw_3_233 : (Cond.fieldLink "SeasonalAdjusterModel" 35 "SeasonalAdjusterModel" "factors" "[J" : Cond) ∈ TBL := tb_3 233 rfl (rfl)
theorem tw_3_234 : (Cond.fieldLink "SeasonalAdjusterModel" 135 "SeasonalAdjusterModel" "spreadNow" "J" : Cond) ∈ TBL := tb_3 234 rfl (rfl)
theorem tw_3_235 : (Cond.fieldLink "SeasonalAdjusterModel" 38 "SeasonalAdjusterModel" "adjusted" "[J" : Cond) ∈ TBL := tb_3 235 rfl (rfl)
theorem tw_3_236 : (Cond.fieldLink "SeasonalAdjusterModel" 41 "SeasonalAdjusterModel" "trends" "[J" : Cond) ∈ TBL := tb_3 236 rfl (rfl)
theorem tw_3_237 : (Cond.fieldLink "SeasonalAdjusterModel" 44 "SeasonalAdjusterModel" "irregulars" "[J" : Cond) ∈ TBL := tb_3 237 rfl (rfl)
theorem tw_3_238 : (Cond.fieldLink "SeasonalAdjusterModel" 207 "SeasonalAdjusterModel" "hash" "J" : Cond) ∈ TBL := tb_3 238 rfl (rfl)
theorem tw_4_32 : (Cond.methodLink "SeasonalAdjusterLaw" 111 yX4_thrown : Cond) ∈ TBL := tb_4 32 rfl (rfl)
theorem tw_4_33 : (Cond.instanceMethod yX4_thrown : Cond) ∈ TBL := tb_4 33 rfl (rfl)
theorem tw_4_34 : (Cond.selects "SeasonalAdjusterModel" yX4_thrown yX4_thrown : Cond) ∈ TBL := tb_4 34 rfl (rfl)
theorem tw_4_35 : (Cond.code yX4_thrown cX4_thrown 1 (some .int) : Cond) ∈ TBL := tb_4 35 rfl (rfl)
theorem tw_4_36 : (Cond.methodLink "SeasonalAdjusterLaw" 202 yX4_undo : Cond) ∈ TBL := tb_4 36 rfl (rfl)
theorem tw_4_37 : (Cond.instanceMethod yX4_undo : Cond) ∈ TBL := tb_4 37 rfl (rfl)
theorem tw_4_38 : (Cond.selects "SeasonalAdjusterModel" yX4_undo yX4_undo : Cond) ∈ TBL := tb_4 38 rfl (rfl)
theorem tw_4_39 : (Cond.code yX4_undo cX4_undo 2 (some .int) : Cond) ∈ TBL := tb_4 39 rfl (rfl)
theorem tw_4_40 : (Cond.methodLink "SeasonalAdjusterModel" 54 yX4_refused : Cond) ∈ TBL := tb_4 40 rfl (rfl)
theorem tw_4_42 : (Cond.instanceMethod yX4_refused : Cond) ∈ TBL := tb_4 42 rfl (rfl)
theorem tw_4_43 : (Cond.code yX4_refused cX4_refused 2 (some .boolean) : Cond) ∈ TBL := tb_4 43 rfl (rfl)
theorem tw_4_44 : (Cond.methodLink "SeasonalAdjusterLaw" 110 yX4_setPeriod : Cond) ∈ TBL := tb_4 44 rfl (rfl)
theorem tw_4_45 : (Cond.instanceMethod yX4_setPeriod : Cond) ∈ TBL := tb_4 45 rfl (rfl)
theorem tw_4_46 : (Cond.selects "SeasonalAdjusterModel" yX4_setPeriod yX4_setPeriod : Cond) ∈ TBL := tb_4 46 rfl (rfl)
theorem tw_4_47 : (Cond.code yX4_setPeriod cX4_setPeriod 2 (some .int) : Cond) ∈ TBL := tb_4 47 rfl (rfl)
theorem tw_4_48 : (Cond.constantLong "SeasonalAdjusterModel" 69 (2) : Cond) ∈ TBL := tb_4 48 rfl (rfl)
theorem tw_4_49 : (Cond.constantLong "SeasonalAdjusterModel" 71 (12) : Cond) ∈ TBL := tb_4 49 rfl (rfl)
theorem tw_4_50 : (Cond.methodLink "SeasonalAdjusterModel" 58 yX4_within : Cond) ∈ TBL := tb_4 50 rfl (rfl)
theorem tw_4_51 : (Cond.static yX4_within : Cond) ∈ TBL := tb_4 51 rfl (rfl)
theorem tw_4_52 : (Cond.code yX4_within cX4_within 6 (some .boolean) : Cond) ∈ TBL := tb_4 52 rfl (rfl)
theorem tw_4_53 : (Cond.methodLink "SeasonalAdjusterModel" 73 yX4_sets : Cond) ∈ TBL := tb_4 53 rfl (rfl)
theorem tw_4_55 : (Cond.instanceMethod yX4_sets : Cond) ∈ TBL := tb_4 55 rfl (rfl)
theorem tw_4_56 : (Cond.code yX4_sets cX4_sets 4 (some .int) : Cond) ∈ TBL := tb_4 56 rfl (rfl)
theorem tw_4_57 : (Cond.methodLink "SeasonalAdjusterModel" 66 yX4_saves : Cond) ∈ TBL := tb_4 57 rfl (rfl)
theorem tw_4_59 : (Cond.instanceMethod yX4_saves : Cond) ∈ TBL := tb_4 59 rfl (rfl)
theorem tw_4_60 : (Cond.code yX4_saves cX4_saves 2 none : Cond) ∈ TBL := tb_4 60 rfl (rfl)
theorem tw_4_61 : (Cond.methodLink "SeasonalAdjusterLaw" 116 yX4_setMode : Cond) ∈ TBL := tb_4 61 rfl (rfl)
theorem tw_4_62 : (Cond.instanceMethod yX4_setMode : Cond) ∈ TBL := tb_4 62 rfl (rfl)
theorem tw_4_63 : (Cond.selects "SeasonalAdjusterModel" yX4_setMode yX4_setMode : Cond) ∈ TBL := tb_4 63 rfl (rfl)
theorem tw_4_64 : (Cond.code yX4_setMode cX4_setMode 2 (some .int) : Cond) ∈ TBL := tb_4 64 rfl (rfl)
theorem tw_4_65 : (Cond.methodLink "SeasonalAdjusterModel" 84 yX4_isAnyLow : Cond) ∈ TBL := tb_4 65 rfl (rfl)
theorem tw_4_67 : (Cond.instanceMethod yX4_isAnyLow : Cond) ∈ TBL := tb_4 67 rfl (rfl)
theorem tw_4_68 : (Cond.code yX4_isAnyLow cX4_isAnyLow 3 (some .boolean) : Cond) ∈ TBL := tb_4 68 rfl (rfl)
theorem tw_4_69 : (Cond.methodLink "SeasonalAdjusterModel" 77 yX4_isMissing : Cond) ∈ TBL := tb_4 69 rfl (rfl)
theorem tw_4_71 : (Cond.instanceMethod yX4_isMissing : Cond) ∈ TBL := tb_4 71 rfl (rfl)
theorem tw_4_72 : (Cond.code yX4_isMissing cX4_isMissing 2 (some .boolean) : Cond) ∈ TBL := tb_4 72 rfl (rfl)
theorem tw_4_73 : (Cond.methodLink "SeasonalAdjusterModel" 80 yX4_valueAt : Cond) ∈ TBL := tb_4 73 rfl (rfl)
theorem tw_4_75 : (Cond.instanceMethod yX4_valueAt : Cond) ∈ TBL := tb_4 75 rfl (rfl)
theorem tw_4_76 : (Cond.code yX4_valueAt cX4_valueAt 2 (some .int) : Cond) ∈ TBL := tb_4 76 rfl (rfl)
theorem tw_4_77 : (Cond.methodLink "SeasonalAdjusterLaw" 119 yX4_setRounds : Cond) ∈ TBL := tb_4 77 rfl (rfl)
theorem tw_4_78 : (Cond.instanceMethod yX4_setRounds : Cond) ∈ TBL := tb_4 78 rfl (rfl)
theorem tw_4_79 : (Cond.selects "SeasonalAdjusterModel" yX4_setRounds yX4_setRounds : Cond) ∈ TBL := tb_4 79 rfl (rfl)
theorem tw_4_80 : (Cond.code yX4_setRounds cX4_setRounds 2 (some .int) : Cond) ∈ TBL := tb_4 80 rfl (rfl)
theorem tw_4_81 : (Cond.constantLong "SeasonalAdjusterModel" 88 (5) : Cond) ∈ TBL := tb_4 81 rfl (rfl)
theorem tw_4_82 : (Cond.methodLink "SeasonalAdjusterLaw" 122 yX4_append : Cond) ∈ TBL := tb_4 82 rfl (rfl)
theorem tw_4_83 : (Cond.instanceMethod yX4_append : Cond) ∈ TBL := tb_4 83 rfl (rfl)
theorem tw_4_84 : (Cond.selects "SeasonalAdjusterModel" yX4_append yX4_append : Cond) ∈ TBL := tb_4 84 rfl (rfl)
theorem tw_4_85 : (Cond.code yX4_append cX4_append 2 (some .int) : Cond) ∈ TBL := tb_4 85 rfl (rfl)
theorem tw_4_86 : (Cond.methodLink "SeasonalAdjusterModel" 90 yX4_isValue : Cond) ∈ TBL := tb_4 86 rfl (rfl)
theorem tw_4_88 : (Cond.instanceMethod yX4_isValue : Cond) ∈ TBL := tb_4 88 rfl (rfl)
theorem tw_4_89 : (Cond.code yX4_isValue cX4_isValue 2 (some .boolean) : Cond) ∈ TBL := tb_4 89 rfl (rfl)
theorem tw_4_90 : (Cond.constantLong "SeasonalAdjusterModel" 62 (-1000000) : Cond) ∈ TBL := tb_4 90 rfl (rfl)
theorem tw_4_91 : (Cond.constantLong "SeasonalAdjusterModel" 64 (1000000) : Cond) ∈ TBL := tb_4 91 rfl (rfl)
theorem tw_4_92 : (Cond.methodLink "SeasonalAdjusterModel" 93 yX4_adds : Cond) ∈ TBL := tb_4 92 rfl (rfl)
theorem tw_4_94 : (Cond.instanceMethod yX4_adds : Cond) ∈ TBL := tb_4 94 rfl (rfl)
theorem tw_4_95 : (Cond.code yX4_adds cX4_adds 4 (some .int) : Cond) ∈ TBL := tb_4 95 rfl (rfl)
theorem tw_4_96 : (Cond.methodLink "SeasonalAdjusterLaw" 126 yX4_appendMissing : Cond) ∈ TBL := tb_4 96 rfl (rfl)
theorem tw_4_97 : (Cond.instanceMethod yX4_appendMissing : Cond) ∈ TBL := tb_4 97 rfl (rfl)
theorem tw_4_98 : (Cond.selects "SeasonalAdjusterModel" yX4_appendMissing yX4_appendMissing : Cond) ∈ TBL := tb_4 98 rfl (rfl)
theorem tw_4_99 : (Cond.code yX4_appendMissing cX4_appendMissing 1 (some .int) : Cond) ∈ TBL := tb_4 99 rfl (rfl)
theorem tw_4_100 : (Cond.methodLink "SeasonalAdjusterLaw" 130 yX4_set : Cond) ∈ TBL := tb_4 100 rfl (rfl)
theorem tw_4_101 : (Cond.instanceMethod yX4_set : Cond) ∈ TBL := tb_4 101 rfl (rfl)
theorem tw_4_102 : (Cond.selects "SeasonalAdjusterModel" yX4_set yX4_set : Cond) ∈ TBL := tb_4 102 rfl (rfl)
theorem tw_4_103 : (Cond.code yX4_set cX4_set 3 (some .int) : Cond) ∈ TBL := tb_4 103 rfl (rfl)
theorem tw_4_104 : (Cond.methodLink "SeasonalAdjusterModel" 96 yX4_isEntry : Cond) ∈ TBL := tb_4 104 rfl (rfl)
theorem tw_4_106 : (Cond.instanceMethod yX4_isEntry : Cond) ∈ TBL := tb_4 106 rfl (rfl)
theorem tw_4_107 : (Cond.code yX4_isEntry cX4_isEntry 2 (some .boolean) : Cond) ∈ TBL := tb_4 107 rfl (rfl)
theorem tw_4_108 : (Cond.methodLink "SeasonalAdjusterModel" 99 yX4_missingOnes : Cond) ∈ TBL := tb_4 108 rfl (rfl)
theorem tw_4_110 : (Cond.instanceMethod yX4_missingOnes : Cond) ∈ TBL := tb_4 110 rfl (rfl)
theorem tw_4_111 : (Cond.code yX4_missingOnes cX4_missingOnes 3 (some .int) : Cond) ∈ TBL := tb_4 111 rfl (rfl)
theorem tw_4_112 : (Cond.methodLink "SeasonalAdjusterLaw" 133 yX4_setMissing : Cond) ∈ TBL := tb_4 112 rfl (rfl)
theorem tw_4_113 : (Cond.instanceMethod yX4_setMissing : Cond) ∈ TBL := tb_4 113 rfl (rfl)
theorem tw_4_114 : (Cond.selects "SeasonalAdjusterModel" yX4_setMissing yX4_setMissing : Cond) ∈ TBL := tb_4 114 rfl (rfl)
theorem tw_4_115 : (Cond.code yX4_setMissing cX4_setMissing 3 (some .int) : Cond) ∈ TBL := tb_4 115 rfl (rfl)
theorem tw_4_116 : (Cond.methodLink "SeasonalAdjusterLaw" 136 yX4_setDays : Cond) ∈ TBL := tb_4 116 rfl (rfl)
theorem tw_4_117 : (Cond.instanceMethod yX4_setDays : Cond) ∈ TBL := tb_4 117 rfl (rfl)
theorem tw_4_118 : (Cond.selects "SeasonalAdjusterModel" yX4_setDays yX4_setDays : Cond) ∈ TBL := tb_4 118 rfl (rfl)
theorem tw_4_119 : (Cond.code yX4_setDays cX4_setDays 3 (some .int) : Cond) ∈ TBL := tb_4 119 rfl (rfl)
theorem tw_4_120 : (Cond.constantLong "SeasonalAdjusterModel" 103 (31) : Cond) ∈ TBL := tb_4 120 rfl (rfl)
theorem tw_4_121 : (Cond.methodLink "SeasonalAdjusterLaw" 139 yX4_removeLast : Cond) ∈ TBL := tb_4 121 rfl (rfl)
theorem tw_4_122 : (Cond.instanceMethod yX4_removeLast : Cond) ∈ TBL := tb_4 122 rfl (rfl)
theorem tw_4_123 : (Cond.selects "SeasonalAdjusterModel" yX4_removeLast yX4_removeLast : Cond) ∈ TBL := tb_4 123 rfl (rfl)
theorem tw_4_124 : (Cond.code yX4_removeLast cX4_removeLast 1 (some .int) : Cond) ∈ TBL := tb_4 124 rfl (rfl)
theorem tw_4_125 : (Cond.methodLink "SeasonalAdjusterLaw" 142 yX4_fill : Cond) ∈ TBL := tb_4 125 rfl (rfl)
theorem tw_4_126 : (Cond.instanceMethod yX4_fill : Cond) ∈ TBL := tb_4 126 rfl (rfl)
theorem tw_4_127 : (Cond.selects "SeasonalAdjusterModel" yX4_fill yX4_fill : Cond) ∈ TBL := tb_4 127 rfl (rfl)
theorem tw_4_128 : (Cond.code yX4_fill cX4_fill 5 (some .int) : Cond) ∈ TBL := tb_4 128 rfl (rfl)
theorem tw_4_129 : (Cond.methodLink "SeasonalAdjusterModel" 108 yX4_canFill : Cond) ∈ TBL := tb_4 129 rfl (rfl)
theorem tw_4_131 : (Cond.instanceMethod yX4_canFill : Cond) ∈ TBL := tb_4 131 rfl (rfl)
theorem tw_4_132 : (Cond.code yX4_canFill cX4_canFill 3 (some .boolean) : Cond) ∈ TBL := tb_4 132 rfl (rfl)
theorem tw_4_133 : (Cond.methodLink "SeasonalAdjusterModel" 105 yX4_nextOf : Cond) ∈ TBL := tb_4 133 rfl (rfl)
theorem tw_4_135 : (Cond.instanceMethod yX4_nextOf : Cond) ∈ TBL := tb_4 135 rfl (rfl)
theorem tw_4_136 : (Cond.code yX4_nextOf cX4_nextOf 4 (some .int) : Cond) ∈ TBL := tb_4 136 rfl (rfl)
theorem tw_4_137 : (Cond.methodLink "SeasonalAdjusterModel" 111 yX4_over : Cond) ∈ TBL := tb_4 137 rfl (rfl)
theorem tw_4_138 : (Cond.static yX4_over : Cond) ∈ TBL := tb_4 138 rfl (rfl)
theorem tw_4_139 : (Cond.code yX4_over cX4_over 12 (some .long) : Cond) ∈ TBL := tb_4 139 rfl (rfl)
theorem tw_4_140 : (Cond.methodLink "SeasonalAdjusterLaw" 146 yX4_size_ : Cond) ∈ TBL := tb_4 140 rfl (rfl)
theorem tw_4_141 : (Cond.instanceMethod yX4_size_ : Cond) ∈ TBL := tb_4 141 rfl (rfl)
theorem tw_4_142 : (Cond.selects "SeasonalAdjusterModel" yX4_size_ yX4_size_ : Cond) ∈ TBL := tb_4 142 rfl (rfl)
theorem tw_4_143 : (Cond.code yX4_size_ cX4_size_ 1 (some .int) : Cond) ∈ TBL := tb_4 143 rfl (rfl)
theorem tw_4_144 : (Cond.methodLink "SeasonalAdjusterLaw" 149 yX4_value : Cond) ∈ TBL := tb_4 144 rfl (rfl)
theorem tw_4_145 : (Cond.instanceMethod yX4_value : Cond) ∈ TBL := tb_4 145 rfl (rfl)
theorem tw_4_146 : (Cond.selects "SeasonalAdjusterModel" yX4_value yX4_value : Cond) ∈ TBL := tb_4 146 rfl (rfl)
theorem tw_4_147 : (Cond.code yX4_value cX4_value 2 (some .int) : Cond) ∈ TBL := tb_4 147 rfl (rfl)
theorem tw_4_148 : (Cond.methodLink "SeasonalAdjusterLaw" 152 yX4_missing : Cond) ∈ TBL := tb_4 148 rfl (rfl)
theorem tw_4_149 : (Cond.instanceMethod yX4_missing : Cond) ∈ TBL := tb_4 149 rfl (rfl)
theorem tw_4_150 : (Cond.selects "SeasonalAdjusterModel" yX4_missing yX4_missing : Cond) ∈ TBL := tb_4 150 rfl (rfl)
theorem tw_4_151 : (Cond.code yX4_missing cX4_missing 4 (some .int) : Cond) ∈ TBL := tb_4 151 rfl (rfl)
theorem tw_4_152 : (Cond.methodLink "SeasonalAdjusterLaw" 157 yX4_canDecompose : Cond) ∈ TBL := tb_4 152 rfl (rfl)
theorem tw_4_153 : (Cond.instanceMethod yX4_canDecompose : Cond) ∈ TBL := tb_4 153 rfl (rfl)
theorem tw_4_154 : (Cond.selects "SeasonalAdjusterModel" yX4_canDecompose yX4_canDecompose : Cond) ∈ TBL := tb_4 154 rfl (rfl)
theorem tw_4_155 : (Cond.code yX4_canDecompose cX4_canDecompose 1 (some .boolean) : Cond) ∈ TBL := tb_4 155 rfl (rfl)
theorem tw_4_156 : (Cond.methodLink "SeasonalAdjusterModel" 118 yX4_can : Cond) ∈ TBL := tb_4 156 rfl (rfl)
theorem tw_4_158 : (Cond.instanceMethod yX4_can : Cond) ∈ TBL := tb_4 158 rfl (rfl)
theorem tw_4_159 : (Cond.code yX4_can cX4_can 1 (some .boolean) : Cond) ∈ TBL := tb_4 159 rfl (rfl)
theorem tw_4_160 : (Cond.methodLink "SeasonalAdjusterModel" 115 yX4_half : Cond) ∈ TBL := tb_4 160 rfl (rfl)
theorem tw_4_162 : (Cond.instanceMethod yX4_half : Cond) ∈ TBL := tb_4 162 rfl (rfl)
theorem tw_4_163 : (Cond.code yX4_half cX4_half 1 (some .int) : Cond) ∈ TBL := tb_4 163 rfl (rfl)
theorem tw_4_164 : (Cond.methodLink "SeasonalAdjusterLaw" 160 yX4_firstTrend : Cond) ∈ TBL := tb_4 164 rfl (rfl)
theorem tw_4_165 : (Cond.instanceMethod yX4_firstTrend : Cond) ∈ TBL := tb_4 165 rfl (rfl)
theorem tw_4_166 : (Cond.selects "SeasonalAdjusterModel" yX4_firstTrend yX4_firstTrend : Cond) ∈ TBL := tb_4 166 rfl (rfl)
theorem tw_4_167 : (Cond.code yX4_firstTrend cX4_firstTrend 2 (some .long) : Cond) ∈ TBL := tb_4 167 rfl (rfl)
theorem tw_4_168 : (Cond.methodLink "SeasonalAdjusterModel" 169 yX4_refusesInner : Cond) ∈ TBL := tb_4 168 rfl (rfl)
theorem tw_4_170 : (Cond.instanceMethod yX4_refusesInner : Cond) ∈ TBL := tb_4 170 rfl (rfl)
theorem tw_4_171 : (Cond.code yX4_refusesInner cX4_refusesInner 2 (some .boolean) : Cond) ∈ TBL := tb_4 171 rfl (rfl)
theorem tw_4_172 : (Cond.methodLink "SeasonalAdjusterModel" 166 yX4_decomposes : Cond) ∈ TBL := tb_4 172 rfl (rfl)
theorem tw_4_174 : (Cond.instanceMethod yX4_decomposes : Cond) ∈ TBL := tb_4 174 rfl (rfl)
theorem tw_4_175 : (Cond.code yX4_decomposes cX4_decomposes 2 (some .boolean) : Cond) ∈ TBL := tb_4 175 rfl (rfl)
theorem tw_4_176 : (Cond.methodLink "SeasonalAdjusterModel" 154 yX4_findFirsts : Cond) ∈ TBL := tb_4 176 rfl (rfl)
theorem tw_4_178 : (Cond.instanceMethod yX4_findFirsts : Cond) ∈ TBL := tb_4 178 rfl (rfl)
theorem tw_4_179 : (Cond.code yX4_findFirsts cX4_findFirsts 6 none : Cond) ∈ TBL := tb_4 179 rfl (rfl)
theorem tw_4_180 : (Cond.constantLong "SeasonalAdjusterModel" 121 (10000) : Cond) ∈ TBL := tb_4 180 rfl (rfl)
theorem tw_4_181 : (Cond.methodLink "SeasonalAdjusterModel" 157 yX4_findFactors : Cond) ∈ TBL := tb_4 181 rfl (rfl)
theorem tw_4_183 : (Cond.instanceMethod yX4_findFactors : Cond) ∈ TBL := tb_4 183 rfl (rfl)
theorem tw_4_184 : (Cond.code yX4_findFactors cX4_findFactors 13 none : Cond) ∈ TBL := tb_4 184 rfl (rfl)
theorem tw_4_185 : (Cond.methodLink "SeasonalAdjusterModel" 123 yX4_isInner : Cond) ∈ TBL := tb_4 185 rfl (rfl)
theorem tw_4_187 : (Cond.instanceMethod yX4_isInner : Cond) ∈ TBL := tb_4 187 rfl (rfl)
theorem tw_4_188 : (Cond.code yX4_isInner cX4_isInner 2 (some .boolean) : Cond) ∈ TBL := tb_4 188 rfl (rfl)
theorem tw_4_189 : (Cond.methodLink "SeasonalAdjusterModel" 160 yX4_findWeights : Cond) ∈ TBL := tb_4 189 rfl (rfl)
theorem tw_4_191 : (Cond.instanceMethod yX4_findWeights : Cond) ∈ TBL := tb_4 191 rfl (rfl)
theorem tw_4_192 : (Cond.code yX4_findWeights cX4_findWeights 4 none : Cond) ∈ TBL := tb_4 192 rfl (rfl)
theorem tw_4_193 : (Cond.methodLink "SeasonalAdjusterModel" 139 yX4_findExtremes : Cond) ∈ TBL := tb_4 193 rfl (rfl)
theorem tw_4_195 : (Cond.instanceMethod yX4_findExtremes : Cond) ∈ TBL := tb_4 195 rfl (rfl)
theorem tw_4_196 : (Cond.code yX4_findExtremes cX4_findExtremes 4 none : Cond) ∈ TBL := tb_4 196 rfl (rfl)
theorem tw_4_197 : (Cond.methodLink "SeasonalAdjusterModel" 126 yX4_size : Cond) ∈ TBL := tb_4 197 rfl (rfl)
theorem tw_4_198 : (Cond.static yX4_size : Cond) ∈ TBL := tb_4 198 rfl (rfl)
theorem tw_4_199 : (Cond.code yX4_size cX4_size 2 (some .long) : Cond) ∈ TBL := tb_4 199 rfl (rfl)
theorem tw_4_200 : (Cond.constantLong "SeasonalAdjusterModel" 130 (4) : Cond) ∈ TBL := tb_4 200 rfl (rfl)
theorem tw_4_201 : (Cond.methodLink "SeasonalAdjusterModel" 132 yX4_inner : Cond) ∈ TBL := tb_4 201 rfl (rfl)
theorem tw_4_203 : (Cond.instanceMethod yX4_inner : Cond) ∈ TBL := tb_4 203 rfl (rfl)
theorem tw_4_204 : (Cond.code yX4_inner cX4_inner 1 (some .int) : Cond) ∈ TBL := tb_4 204 rfl (rfl)
theorem tw_4_205 : (Cond.constantLong "SeasonalAdjusterModel" 142 (3) : Cond) ∈ TBL := tb_4 205 rfl (rfl)
theorem tw_4_206 : (Cond.constantLong "SeasonalAdjusterModel" 144 (100) : Cond) ∈ TBL := tb_4 206 rfl (rfl)
theorem tw_4_207 : (Cond.methodLink "SeasonalAdjusterModel" 163 yX4_findTrends : Cond) ∈ TBL := tb_4 207 rfl (rfl)
theorem tw_4_209 : (Cond.instanceMethod yX4_findTrends : Cond) ∈ TBL := tb_4 209 rfl (rfl)
theorem tw_4_210 : (Cond.code yX4_findTrends cX4_findTrends 5 none : Cond) ∈ TBL := tb_4 210 rfl (rfl)
theorem tw_4_211 : (Cond.constantLong "SeasonalAdjusterModel" 146 (558) : Cond) ∈ TBL := tb_4 211 rfl (rfl)
theorem tw_4_212 : (Cond.constantLong "SeasonalAdjusterModel" 148 (294) : Cond) ∈ TBL := tb_4 212 rfl (rfl)
theorem tw_4_213 : (Cond.constantLong "SeasonalAdjusterModel" 150 (73) : Cond) ∈ TBL := tb_4 213 rfl (rfl)
theorem tw_4_214 : (Cond.constantLong "SeasonalAdjusterModel" 152 (1000) : Cond) ∈ TBL := tb_4 214 rfl (rfl)
theorem tw_4_215 : (Cond.methodLink "SeasonalAdjusterLaw" 163 yX4_deviation : Cond) ∈ TBL := tb_4 215 rfl (rfl)
theorem tw_4_216 : (Cond.instanceMethod yX4_deviation : Cond) ∈ TBL := tb_4 216 rfl (rfl)
theorem tw_4_217 : (Cond.selects "SeasonalAdjusterModel" yX4_deviation yX4_deviation : Cond) ∈ TBL := tb_4 217 rfl (rfl)
theorem tw_4_218 : (Cond.code yX4_deviation cX4_deviation 2 (some .long) : Cond) ∈ TBL := tb_4 218 rfl (rfl)
theorem tw_4_219 : (Cond.methodLink "SeasonalAdjusterLaw" 166 yX4_weight : Cond) ∈ TBL := tb_4 219 rfl (rfl)
theorem tw_4_220 : (Cond.instanceMethod yX4_weight : Cond) ∈ TBL := tb_4 220 rfl (rfl)
theorem tw_4_221 : (Cond.selects "SeasonalAdjusterModel" yX4_weight yX4_weight : Cond) ∈ TBL := tb_4 221 rfl (rfl)
theorem tw_4_222 : (Cond.code yX4_weight cX4_weight 2 (some .int) : Cond) ∈ TBL := tb_4 222 rfl (rfl)
theorem tw_4_223 : (Cond.methodLink "SeasonalAdjusterLaw" 169 yX4_spread : Cond) ∈ TBL := tb_4 223 rfl (rfl)
theorem tw_4_224 : (Cond.instanceMethod yX4_spread : Cond) ∈ TBL := tb_4 224 rfl (rfl)
theorem tw_4_225 : (Cond.selects "SeasonalAdjusterModel" yX4_spread yX4_spread : Cond) ∈ TBL := tb_4 225 rfl (rfl)
theorem tw_4_226 : (Cond.code yX4_spread cX4_spread 1 (some .long) : Cond) ∈ TBL := tb_4 226 rfl (rfl)
theorem tw_4_227 : (Cond.methodLink "SeasonalAdjusterLaw" 172 yX4_factor : Cond) ∈ TBL := tb_4 227 rfl (rfl)
theorem tw_4_228 : (Cond.instanceMethod yX4_factor : Cond) ∈ TBL := tb_4 228 rfl (rfl)
theorem tw_4_229 : (Cond.selects "SeasonalAdjusterModel" yX4_factor yX4_factor : Cond) ∈ TBL := tb_4 229 rfl (rfl)
theorem tw_4_230 : (Cond.code yX4_factor cX4_factor 2 (some .long) : Cond) ∈ TBL := tb_4 230 rfl (rfl)
theorem tw_4_231 : (Cond.methodLink "SeasonalAdjusterModel" 172 yX4_isSeason : Cond) ∈ TBL := tb_4 231 rfl (rfl)
theorem tw_4_233 : (Cond.instanceMethod yX4_isSeason : Cond) ∈ TBL := tb_4 233 rfl (rfl)
theorem tw_4_234 : (Cond.code yX4_isSeason cX4_isSeason 2 (some .boolean) : Cond) ∈ TBL := tb_4 234 rfl (rfl)
theorem tw_4_235 : (Cond.methodLink "SeasonalAdjusterLaw" 175 yX4_adjusted : Cond) ∈ TBL := tb_4 235 rfl (rfl)
theorem tw_4_236 : (Cond.instanceMethod yX4_adjusted : Cond) ∈ TBL := tb_4 236 rfl (rfl)
theorem tw_4_237 : (Cond.selects "SeasonalAdjusterModel" yX4_adjusted yX4_adjusted : Cond) ∈ TBL := tb_4 237 rfl (rfl)
theorem tw_4_238 : (Cond.code yX4_adjusted cX4_adjusted 2 (some .long) : Cond) ∈ TBL := tb_4 238 rfl (rfl)
theorem tw_4_239 : (Cond.methodLink "SeasonalAdjusterModel" 175 yX4_refusesEntry : Cond) ∈ TBL := tb_4 239 rfl (rfl)
theorem tw_5_1 : (Cond.instanceMethod yX4_refusesEntry : Cond) ∈ TBL := tb_5 1 rfl (rfl)
theorem tw_5_2 : (Cond.code yX4_refusesEntry cX4_refusesEntry 2 (some .boolean) : Cond) ∈ TBL := tb_5 2 rfl (rfl)
theorem tw_5_3 : (Cond.methodLink "SeasonalAdjusterLaw" 178 yX4_trend : Cond) ∈ TBL := tb_5 3 rfl (rfl)
theorem tw_5_4 : (Cond.instanceMethod yX4_trend : Cond) ∈ TBL := tb_5 4 rfl (rfl)
theorem tw_5_5 : (Cond.selects "SeasonalAdjusterModel" yX4_trend yX4_trend : Cond) ∈ TBL := tb_5 5 rfl (rfl)
theorem tw_5_6 : (Cond.code yX4_trend cX4_trend 2 (some .long) : Cond) ∈ TBL := tb_5 6 rfl (rfl)
theorem tw_5_7 : (Cond.methodLink "SeasonalAdjusterLaw" 181 yX4_irregular : Cond) ∈ TBL := tb_5 7 rfl (rfl)
theorem tw_5_8 : (Cond.instanceMethod yX4_irregular : Cond) ∈ TBL := tb_5 8 rfl (rfl)
theorem tw_5_9 : (Cond.selects "SeasonalAdjusterModel" yX4_irregular yX4_irregular : Cond) ∈ TBL := tb_5 9 rfl (rfl)
theorem tw_5_10 : (Cond.code yX4_irregular cX4_irregular 2 (some .long) : Cond) ∈ TBL := tb_5 10 rfl (rfl)
theorem tw_5_11 : (Cond.methodLink "SeasonalAdjusterLaw" 184 yX4_outlierCount : Cond) ∈ TBL := tb_5 11 rfl (rfl)
theorem tw_5_12 : (Cond.instanceMethod yX4_outlierCount : Cond) ∈ TBL := tb_5 12 rfl (rfl)
theorem tw_5_13 : (Cond.selects "SeasonalAdjusterModel" yX4_outlierCount yX4_outlierCount : Cond) ∈ TBL := tb_5 13 rfl (rfl)
theorem tw_5_14 : (Cond.code yX4_outlierCount cX4_outlierCount 1 (some .int) : Cond) ∈ TBL := tb_5 14 rfl (rfl)
theorem tw_5_15 : (Cond.methodLink "SeasonalAdjusterModel" 181 yX4_outs : Cond) ∈ TBL := tb_5 15 rfl (rfl)
theorem tw_5_17 : (Cond.instanceMethod yX4_outs : Cond) ∈ TBL := tb_5 17 rfl (rfl)
theorem tw_5_18 : (Cond.code yX4_outs cX4_outs 3 (some .int) : Cond) ∈ TBL := tb_5 18 rfl (rfl)
theorem tw_5_19 : (Cond.methodLink "SeasonalAdjusterModel" 178 yX4_isOut : Cond) ∈ TBL := tb_5 19 rfl (rfl)
theorem tw_5_21 : (Cond.instanceMethod yX4_isOut : Cond) ∈ TBL := tb_5 21 rfl (rfl)
theorem tw_5_22 : (Cond.code yX4_isOut cX4_isOut 2 (some .boolean) : Cond) ∈ TBL := tb_5 22 rfl (rfl)
theorem tw_5_23 : (Cond.methodLink "SeasonalAdjusterLaw" 187 yX4_outlier : Cond) ∈ TBL := tb_5 23 rfl (rfl)
theorem tw_5_24 : (Cond.instanceMethod yX4_outlier : Cond) ∈ TBL := tb_5 24 rfl (rfl)
theorem tw_5_25 : (Cond.selects "SeasonalAdjusterModel" yX4_outlier yX4_outlier : Cond) ∈ TBL := tb_5 25 rfl (rfl)
theorem tw_5_26 : (Cond.code yX4_outlier cX4_outlier 5 (some .int) : Cond) ∈ TBL := tb_5 26 rfl (rfl)
theorem tw_5_27 : (Cond.methodLink "SeasonalAdjusterModel" 184 yX4_isAhead : Cond) ∈ TBL := tb_5 27 rfl (rfl)
theorem tw_5_29 : (Cond.instanceMethod yX4_isAhead : Cond) ∈ TBL := tb_5 29 rfl (rfl)
theorem tw_5_30 : (Cond.code yX4_isAhead cX4_isAhead 7 (some .boolean) : Cond) ∈ TBL := tb_5 30 rfl (rfl)
theorem tw_5_31 : (Cond.methodLink "SeasonalAdjusterLaw" 190 yX4_seasonOfRank : Cond) ∈ TBL := tb_5 31 rfl (rfl)
theorem tw_5_32 : (Cond.instanceMethod yX4_seasonOfRank : Cond) ∈ TBL := tb_5 32 rfl (rfl)
theorem tw_5_33 : (Cond.selects "SeasonalAdjusterModel" yX4_seasonOfRank yX4_seasonOfRank : Cond) ∈ TBL := tb_5 33 rfl (rfl)
theorem tw_5_34 : (Cond.code yX4_seasonOfRank cX4_seasonOfRank 5 (some .int) : Cond) ∈ TBL := tb_5 34 rfl (rfl)
theorem tw_5_35 : (Cond.methodLink "SeasonalAdjusterLaw" 193 yX4_forecast : Cond) ∈ TBL := tb_5 35 rfl (rfl)
theorem tw_5_36 : (Cond.instanceMethod yX4_forecast : Cond) ∈ TBL := tb_5 36 rfl (rfl)
theorem tw_5_37 : (Cond.selects "SeasonalAdjusterModel" yX4_forecast yX4_forecast : Cond) ∈ TBL := tb_5 37 rfl (rfl)
theorem tw_5_38 : (Cond.code yX4_forecast cX4_forecast 8 (some .long) : Cond) ∈ TBL := tb_5 38 rfl (rfl)
theorem tw_5_39 : (Cond.constantLong "SeasonalAdjusterModel" 188 (24) : Cond) ∈ TBL := tb_5 39 rfl (rfl)
theorem tw_5_40 : (Cond.methodLink "SeasonalAdjusterLaw" 196 yX4_daysEffect : Cond) ∈ TBL := tb_5 40 rfl (rfl)
theorem tw_5_41 : (Cond.instanceMethod yX4_daysEffect : Cond) ∈ TBL := tb_5 41 rfl (rfl)
theorem tw_5_42 : (Cond.selects "SeasonalAdjusterModel" yX4_daysEffect yX4_daysEffect : Cond) ∈ TBL := tb_5 42 rfl (rfl)
theorem tw_5_43 : (Cond.code yX4_daysEffect cX4_daysEffect 1 (some .long) : Cond) ∈ TBL := tb_5 43 rfl (rfl)
theorem tw_5_44 : (Cond.methodLink "SeasonalAdjusterModel" 201 yX4_hasEffect : Cond) ∈ TBL := tb_5 44 rfl (rfl)
theorem tw_5_46 : (Cond.instanceMethod yX4_hasEffect : Cond) ∈ TBL := tb_5 46 rfl (rfl)
theorem tw_5_47 : (Cond.code yX4_hasEffect cX4_hasEffect 3 (some .boolean) : Cond) ∈ TBL := tb_5 47 rfl (rfl)
theorem tw_5_48 : (Cond.methodLink "SeasonalAdjusterModel" 190 yX4_daysAt : Cond) ∈ TBL := tb_5 48 rfl (rfl)
theorem tw_5_50 : (Cond.instanceMethod yX4_daysAt : Cond) ∈ TBL := tb_5 50 rfl (rfl)
theorem tw_5_51 : (Cond.code yX4_daysAt cX4_daysAt 2 (some .int) : Cond) ∈ TBL := tb_5 51 rfl (rfl)
theorem tw_5_52 : (Cond.methodLink "SeasonalAdjusterModel" 204 yX4_effect : Cond) ∈ TBL := tb_5 52 rfl (rfl)
theorem tw_5_54 : (Cond.instanceMethod yX4_effect : Cond) ∈ TBL := tb_5 54 rfl (rfl)
theorem tw_5_55 : (Cond.code yX4_effect cX4_effect 6 (some .long) : Cond) ∈ TBL := tb_5 55 rfl (rfl)
theorem tw_5_56 : (Cond.methodLink "SeasonalAdjusterModel" 197 yX4_unlike : Cond) ∈ TBL := tb_5 56 rfl (rfl)
theorem tw_5_58 : (Cond.instanceMethod yX4_unlike : Cond) ∈ TBL := tb_5 58 rfl (rfl)
theorem tw_5_59 : (Cond.code yX4_unlike cX4_unlike 2 (some .long) : Cond) ∈ TBL := tb_5 59 rfl (rfl)
theorem tw_5_60 : (Cond.methodLink "SeasonalAdjusterModel" 193 yX4_daysAll : Cond) ∈ TBL := tb_5 60 rfl (rfl)
theorem tw_5_62 : (Cond.instanceMethod yX4_daysAll : Cond) ∈ TBL := tb_5 62 rfl (rfl)
theorem tw_5_63 : (Cond.code yX4_daysAll cX4_daysAll 4 (some .long) : Cond) ∈ TBL := tb_5 63 rfl (rfl)
theorem tw_5_64 : (Cond.methodLink "SeasonalAdjusterLaw" 199 yX4_removeDays : Cond) ∈ TBL := tb_5 64 rfl (rfl)
theorem tw_5_65 : (Cond.instanceMethod yX4_removeDays : Cond) ∈ TBL := tb_5 65 rfl (rfl)
theorem tw_5_66 : (Cond.selects "SeasonalAdjusterModel" yX4_removeDays yX4_removeDays : Cond) ∈ TBL := tb_5 66 rfl (rfl)
theorem tw_5_67 : (Cond.code yX4_removeDays cX4_removeDays 7 (some .int) : Cond) ∈ TBL := tb_5 67 rfl (rfl)
theorem tw_5_68 : (Cond.methodLink "SeasonalAdjusterLaw" 206 yX4_digest : Cond) ∈ TBL := tb_5 68 rfl (rfl)
theorem tw_5_69 : (Cond.instanceMethod yX4_digest : Cond) ∈ TBL := tb_5 69 rfl (rfl)
theorem tw_5_70 : (Cond.selects "SeasonalAdjusterModel" yX4_digest yX4_digest : Cond) ∈ TBL := tb_5 70 rfl (rfl)
theorem tw_5_71 : (Cond.code yX4_digest cX4_digest 3 (some .long) : Cond) ∈ TBL := tb_5 71 rfl (rfl)
theorem tw_5_72 : (Cond.constantLong "SeasonalAdjusterModel" 210 (11981) : Cond) ∈ TBL := tb_5 72 rfl (rfl)
theorem tw_5_73 : (Cond.methodLink "SeasonalAdjusterModel" 212 yX4_mix : Cond) ∈ TBL := tb_5 73 rfl (rfl)
theorem tw_5_75 : (Cond.instanceMethod yX4_mix : Cond) ∈ TBL := tb_5 75 rfl (rfl)
theorem tw_5_76 : (Cond.code yX4_mix cX4_mix 3 none : Cond) ∈ TBL := tb_5 76 rfl (rfl)
theorem ts_1_0 : (Cond.selects "SeasonalAdjuster" yX3_requireParts yX3_requireParts : Cond) ∈ TBL := tb_0 rfl (List.mem_map.mpr ⟨(yX3_requireParts, _), List.mem_of_getElem? (i := 0) rfl, rfl⟩)
theorem ts_1_2 : (Cond.selects "SeasonalAdjuster$Decomposition" yX0_computeFirstTrend yX0_computeFirstTrend : Cond) ∈ TBL := tb_0 rfl (List.mem_map.mpr ⟨(yX0_computeFirstTrend, _), List.mem_of_getElem? (i := 2) rfl, rfl⟩)
theorem ts_1_3 : (Cond.selects "SeasonalAdjuster$Decomposition" yX0_computeDeviations yX0_computeDeviations : Cond) ∈ TBL := tb_0 rfl (List.mem_map.mpr ⟨(yX0_computeDeviations, _), List.mem_of_getElem? (i := 3) rfl, rfl⟩)
theorem ts_1_4 : (Cond.selects "SeasonalAdjuster$Decomposition" yX0_giveFullWeights yX0_giveFullWeights : Cond) ∈ TBL := tb_0 rfl (List.mem_map.mpr ⟨(yX0_giveFullWeights, _), List.mem_of_getElem? (i := 4) rfl, rfl⟩)
theorem ts_1_5 : (Cond.selects "SeasonalAdjuster$Decomposition" yX0_computeFactors yX0_computeFactors : Cond) ∈ TBL := tb_0 rfl (List.mem_map.mpr ⟨(yX0_computeFactors, _), List.mem_of_getElem? (i := 5) rfl, rfl⟩)
theorem ts_1_6 : (Cond.selects "SeasonalAdjuster$Decomposition" yX0_rawFactor yX0_rawFactor : Cond) ∈ TBL := tb_0 rfl (List.mem_map.mpr ⟨(yX0_rawFactor, _), List.mem_of_getElem? (i := 6) rfl, rfl⟩)
theorem ts_1_7 : (Cond.selects "SeasonalAdjuster$Decomposition" yX0_ratioFactor yX0_ratioFactor : Cond) ∈ TBL := tb_0 rfl (List.mem_map.mpr ⟨(yX0_ratioFactor, _), List.mem_of_getElem? (i := 7) rfl, rfl⟩)
theorem ts_1_8 : (Cond.selects "SeasonalAdjuster$Decomposition" yX0_computeDistances yX0_computeDistances : Cond) ∈ TBL := tb_0 rfl (List.mem_map.mpr ⟨(yX0_computeDistances, _), List.mem_of_getElem? (i := 8) rfl, rfl⟩)
theorem ts_1_9 : (Cond.selects "SeasonalAdjuster$Decomposition" yX0_computeWeights yX0_computeWeights : Cond) ∈ TBL := tb_0 rfl (List.mem_map.mpr ⟨(yX0_computeWeights, _), List.mem_of_getElem? (i := 9) rfl, rfl⟩)
theorem ts_1_10 : (Cond.selects "SeasonalAdjuster$Decomposition" yX0_weightFor yX0_weightFor : Cond) ∈ TBL := tb_0 rfl (List.mem_map.mpr ⟨(yX0_weightFor, _), List.mem_of_getElem? (i := 10) rfl, rfl⟩)
theorem ts_1_11 : (Cond.selects "SeasonalAdjuster$Decomposition" yX0_computeLevel yX0_computeLevel : Cond) ∈ TBL := tb_0 rfl (List.mem_map.mpr ⟨(yX0_computeLevel, _), List.mem_of_getElem? (i := 11) rfl, rfl⟩)
theorem ts_1_12 : (Cond.selects "SeasonalAdjuster$Decomposition" yX0_computeSmooth yX0_computeSmooth : Cond) ∈ TBL := tb_0 rfl (List.mem_map.mpr ⟨(yX0_computeSmooth, _), List.mem_of_getElem? (i := 12) rfl, rfl⟩)
theorem ts_1_13 : (Cond.selects "SeasonalAdjuster$Decomposition" yX0_computeSmoothEnd yX0_computeSmoothEnd : Cond) ∈ TBL := tb_0 rfl (List.mem_map.mpr ⟨(yX0_computeSmoothEnd, _), List.mem_of_getElem? (i := 13) rfl, rfl⟩)
theorem ts_1_14 : (Cond.selects "SeasonalAdjuster$Decomposition" yX0_computeRest yX0_computeRest : Cond) ∈ TBL := tb_0 rfl (List.mem_map.mpr ⟨(yX0_computeRest, _), List.mem_of_getElem? (i := 14) rfl, rfl⟩)
theorem ts_1_15 : (Cond.selects "SeasonalAdjuster$Decomposition" yX0_restRatio yX0_restRatio : Cond) ∈ TBL := tb_0 rfl (List.mem_map.mpr ⟨(yX0_restRatio, _), List.mem_of_getElem? (i := 15) rfl, rfl⟩)
theorem ts_2_0 : (Cond.selects "SeasonalAdjuster$Decomposition" yX0_orderOutliers yX0_orderOutliers : Cond) ∈ TBL := tb_0 rfl (List.mem_map.mpr ⟨(yX0_orderOutliers, _), List.mem_of_getElem? (i := 16) rfl, rfl⟩)
theorem ts_2_1 : (Cond.selects "SeasonalAdjuster$Decomposition" yX0_isMoreExtreme yX0_isMoreExtreme : Cond) ∈ TBL := tb_0 rfl (List.mem_map.mpr ⟨(yX0_isMoreExtreme, _), List.mem_of_getElem? (i := 17) rfl, rfl⟩)
theorem ts_2_2 : (Cond.selects "SeasonalAdjuster$Decomposition" yX0_orderSeasons yX0_orderSeasons : Cond) ∈ TBL := tb_0 rfl (List.mem_map.mpr ⟨(yX0_orderSeasons, _), List.mem_of_getElem? (i := 18) rfl, rfl⟩)
theorem ts_2_3 : (Cond.selects "SeasonalAdjuster" yX3_beginChange yX3_beginChange : Cond) ∈ TBL := tb_0 rfl (List.mem_map.mpr ⟨(yX3_beginChange, _), List.mem_of_getElem? (i := 19) rfl, rfl⟩)
theorem ts_2_4 : (Cond.selects "SeasonalAdjuster$History" yX1_dropOldest yX1_dropOldest : Cond) ∈ TBL := tb_0 rfl (List.mem_map.mpr ⟨(yX1_dropOldest, _), List.mem_of_getElem? (i := 20) rfl, rfl⟩)
theorem ts_2_5 : (Cond.selects "SeasonalAdjuster" yX3_requireRoom yX3_requireRoom : Cond) ∈ TBL := tb_0 rfl (List.mem_map.mpr ⟨(yX3_requireRoom, _), List.mem_of_getElem? (i := 21) rfl, rfl⟩)
theorem ts_2_6 : (Cond.selects "SeasonalAdjuster" yX3_requireEntry yX3_requireEntry : Cond) ∈ TBL := tb_0 rfl (List.mem_map.mpr ⟨(yX3_requireEntry, _), List.mem_of_getElem? (i := 22) rfl, rfl⟩)
theorem ts_2_7 : (Cond.selects "SeasonalAdjuster" yX3_requireValue yX3_requireValue : Cond) ∈ TBL := tb_0 rfl (List.mem_map.mpr ⟨(yX3_requireValue, _), List.mem_of_getElem? (i := 23) rfl, rfl⟩)
theorem ts_2_8 : (Cond.selects "SeasonalAdjuster$Series" yX2_fillingFor yX2_fillingFor : Cond) ∈ TBL := tb_0 rfl (List.mem_map.mpr ⟨(yX2_fillingFor, _), List.mem_of_getElem? (i := 24) rfl, rfl⟩)
theorem ts_2_9 : (Cond.selects "SeasonalAdjuster" yX3_requireInner yX3_requireInner : Cond) ∈ TBL := tb_0 rfl (List.mem_map.mpr ⟨(yX3_requireInner, _), List.mem_of_getElem? (i := 25) rfl, rfl⟩)
theorem ts_2_10 : (Cond.selects "SeasonalAdjusterModel" yX4_refused yX4_refused : Cond) ∈ TBL := tb_0 rfl (List.mem_map.mpr ⟨(yX4_refused, _), List.mem_of_getElem? (i := 26) rfl, rfl⟩)
theorem ts_2_11 : (Cond.selects "SeasonalAdjusterModel" yX4_sets yX4_sets : Cond) ∈ TBL := tb_0 rfl (List.mem_map.mpr ⟨(yX4_sets, _), List.mem_of_getElem? (i := 27) rfl, rfl⟩)
theorem ts_2_12 : (Cond.selects "SeasonalAdjusterModel" yX4_saves yX4_saves : Cond) ∈ TBL := tb_0 rfl (List.mem_map.mpr ⟨(yX4_saves, _), List.mem_of_getElem? (i := 28) rfl, rfl⟩)
theorem ts_2_13 : (Cond.selects "SeasonalAdjusterModel" yX4_isAnyLow yX4_isAnyLow : Cond) ∈ TBL := tb_0 rfl (List.mem_map.mpr ⟨(yX4_isAnyLow, _), List.mem_of_getElem? (i := 29) rfl, rfl⟩)
theorem ts_2_14 : (Cond.selects "SeasonalAdjusterModel" yX4_isMissing yX4_isMissing : Cond) ∈ TBL := tb_0 rfl (List.mem_map.mpr ⟨(yX4_isMissing, _), List.mem_of_getElem? (i := 30) rfl, rfl⟩)
theorem ts_2_15 : (Cond.selects "SeasonalAdjusterModel" yX4_valueAt yX4_valueAt : Cond) ∈ TBL := tb_0 rfl (List.mem_map.mpr ⟨(yX4_valueAt, _), List.mem_of_getElem? (i := 31) rfl, rfl⟩)
theorem ts_3_0 : (Cond.selects "SeasonalAdjusterModel" yX4_isValue yX4_isValue : Cond) ∈ TBL := tb_0 rfl (List.mem_map.mpr ⟨(yX4_isValue, _), List.mem_of_getElem? (i := 32) rfl, rfl⟩)
theorem ts_3_1 : (Cond.selects "SeasonalAdjusterModel" yX4_adds yX4_adds : Cond) ∈ TBL := tb_0 rfl (List.mem_map.mpr ⟨(yX4_adds, _), List.mem_of_getElem? (i := 33) rfl, rfl⟩)
theorem ts_3_2 : (Cond.selects "SeasonalAdjusterModel" yX4_isEntry yX4_isEntry : Cond) ∈ TBL := tb_0 rfl (List.mem_map.mpr ⟨(yX4_isEntry, _), List.mem_of_getElem? (i := 34) rfl, rfl⟩)
theorem ts_3_3 : (Cond.selects "SeasonalAdjusterModel" yX4_missingOnes yX4_missingOnes : Cond) ∈ TBL := tb_0 rfl (List.mem_map.mpr ⟨(yX4_missingOnes, _), List.mem_of_getElem? (i := 35) rfl, rfl⟩)
theorem ts_3_4 : (Cond.selects "SeasonalAdjusterModel" yX4_canFill yX4_canFill : Cond) ∈ TBL := tb_0 rfl (List.mem_map.mpr ⟨(yX4_canFill, _), List.mem_of_getElem? (i := 36) rfl, rfl⟩)
theorem ts_3_5 : (Cond.selects "SeasonalAdjusterModel" yX4_nextOf yX4_nextOf : Cond) ∈ TBL := tb_0 rfl (List.mem_map.mpr ⟨(yX4_nextOf, _), List.mem_of_getElem? (i := 37) rfl, rfl⟩)
theorem ts_3_6 : (Cond.selects "SeasonalAdjusterModel" yX4_can yX4_can : Cond) ∈ TBL := tb_0 rfl (List.mem_map.mpr ⟨(yX4_can, _), List.mem_of_getElem? (i := 38) rfl, rfl⟩)
theorem ts_3_7 : (Cond.selects "SeasonalAdjusterModel" yX4_half yX4_half : Cond) ∈ TBL := tb_0 rfl (List.mem_map.mpr ⟨(yX4_half, _), List.mem_of_getElem? (i := 39) rfl, rfl⟩)
theorem ts_3_8 : (Cond.selects "SeasonalAdjusterModel" yX4_refusesInner yX4_refusesInner : Cond) ∈ TBL := tb_0 rfl (List.mem_map.mpr ⟨(yX4_refusesInner, _), List.mem_of_getElem? (i := 40) rfl, rfl⟩)
theorem ts_3_9 : (Cond.selects "SeasonalAdjusterModel" yX4_decomposes yX4_decomposes : Cond) ∈ TBL := tb_0 rfl (List.mem_map.mpr ⟨(yX4_decomposes, _), List.mem_of_getElem? (i := 41) rfl, rfl⟩)
theorem ts_3_10 : (Cond.selects "SeasonalAdjusterModel" yX4_findFirsts yX4_findFirsts : Cond) ∈ TBL := tb_0 rfl (List.mem_map.mpr ⟨(yX4_findFirsts, _), List.mem_of_getElem? (i := 42) rfl, rfl⟩)
theorem ts_3_11 : (Cond.selects "SeasonalAdjusterModel" yX4_findFactors yX4_findFactors : Cond) ∈ TBL := tb_0 rfl (List.mem_map.mpr ⟨(yX4_findFactors, _), List.mem_of_getElem? (i := 43) rfl, rfl⟩)
theorem ts_3_12 : (Cond.selects "SeasonalAdjusterModel" yX4_isInner yX4_isInner : Cond) ∈ TBL := tb_0 rfl (List.mem_map.mpr ⟨(yX4_isInner, _), List.mem_of_getElem? (i := 44) rfl, rfl⟩)
theorem ts_3_13 : (Cond.selects "SeasonalAdjusterModel" yX4_findWeights yX4_findWeights : Cond) ∈ TBL := tb_0 rfl (List.mem_map.mpr ⟨(yX4_findWeights, _), List.mem_of_getElem? (i := 45) rfl, rfl⟩)
theorem ts_3_14 : (Cond.selects "SeasonalAdjusterModel" yX4_findExtremes yX4_findExtremes : Cond) ∈ TBL := tb_0 rfl (List.mem_map.mpr ⟨(yX4_findExtremes, _), List.mem_of_getElem? (i := 46) rfl, rfl⟩)
theorem ts_3_15 : (Cond.selects "SeasonalAdjusterModel" yX4_inner yX4_inner : Cond) ∈ TBL := tb_0 rfl (List.mem_map.mpr ⟨(yX4_inner, _), List.mem_of_getElem? (i := 47) rfl, rfl⟩)
theorem ts_4_0 : (Cond.selects "SeasonalAdjusterModel" yX4_findTrends yX4_findTrends : Cond) ∈ TBL := tb_0 rfl (List.mem_map.mpr ⟨(yX4_findTrends, _), List.mem_of_getElem? (i := 48) rfl, rfl⟩)
theorem ts_4_1 : (Cond.selects "SeasonalAdjusterModel" yX4_isSeason yX4_isSeason : Cond) ∈ TBL := tb_0 rfl (List.mem_map.mpr ⟨(yX4_isSeason, _), List.mem_of_getElem? (i := 49) rfl, rfl⟩)
theorem ts_4_2 : (Cond.selects "SeasonalAdjusterModel" yX4_refusesEntry yX4_refusesEntry : Cond) ∈ TBL := tb_0 rfl (List.mem_map.mpr ⟨(yX4_refusesEntry, _), List.mem_of_getElem? (i := 50) rfl, rfl⟩)
theorem ts_4_3 : (Cond.selects "SeasonalAdjusterModel" yX4_outs yX4_outs : Cond) ∈ TBL := tb_0 rfl (List.mem_map.mpr ⟨(yX4_outs, _), List.mem_of_getElem? (i := 51) rfl, rfl⟩)
theorem ts_4_4 : (Cond.selects "SeasonalAdjusterModel" yX4_isOut yX4_isOut : Cond) ∈ TBL := tb_0 rfl (List.mem_map.mpr ⟨(yX4_isOut, _), List.mem_of_getElem? (i := 52) rfl, rfl⟩)
theorem ts_4_5 : (Cond.selects "SeasonalAdjusterModel" yX4_isAhead yX4_isAhead : Cond) ∈ TBL := tb_0 rfl (List.mem_map.mpr ⟨(yX4_isAhead, _), List.mem_of_getElem? (i := 53) rfl, rfl⟩)
theorem ts_4_6 : (Cond.selects "SeasonalAdjusterModel" yX4_hasEffect yX4_hasEffect : Cond) ∈ TBL := tb_0 rfl (List.mem_map.mpr ⟨(yX4_hasEffect, _), List.mem_of_getElem? (i := 54) rfl, rfl⟩)
theorem ts_4_7 : (Cond.selects "SeasonalAdjusterModel" yX4_daysAt yX4_daysAt : Cond) ∈ TBL := tb_0 rfl (List.mem_map.mpr ⟨(yX4_daysAt, _), List.mem_of_getElem? (i := 55) rfl, rfl⟩)
theorem ts_4_8 : (Cond.selects "SeasonalAdjusterModel" yX4_effect yX4_effect : Cond) ∈ TBL := tb_0 rfl (List.mem_map.mpr ⟨(yX4_effect, _), List.mem_of_getElem? (i := 56) rfl, rfl⟩)
theorem ts_4_9 : (Cond.selects "SeasonalAdjusterModel" yX4_unlike yX4_unlike : Cond) ∈ TBL := tb_0 rfl (List.mem_map.mpr ⟨(yX4_unlike, _), List.mem_of_getElem? (i := 57) rfl, rfl⟩)
theorem ts_4_10 : (Cond.selects "SeasonalAdjusterModel" yX4_daysAll yX4_daysAll : Cond) ∈ TBL := tb_0 rfl (List.mem_map.mpr ⟨(yX4_daysAll, _), List.mem_of_getElem? (i := 58) rfl, rfl⟩)
theorem ts_4_11 : (Cond.selects "SeasonalAdjusterModel" yX4_mix yX4_mix : Cond) ∈ TBL := tb_0 rfl (List.mem_map.mpr ⟨(yX4_mix, _), List.mem_of_getElem? (i := 59) rfl, rfl⟩)
def Cd (y : MethodName) (b : ByteArray) (mL : Nat) (ret : Option FieldType) (n : Nat) : Prop := Cond.code y b mL ret ∈ TBL ∧ Cond.initialized y.cls ∈ TBL ∧ (y.cls ≠ "java/lang/invoke/MethodHandle" ∧ y.cls ≠ "java/lang/invoke/VarHandle" ∧ (parseMethodDescriptor y.desc).map (fun d => d.parameters.length) = some n) ∧ plainName y.cls = true
def Cv (y : MethodName) : Prop := Cond.instanceMethod y ∈ TBL ∧ Cond.selects y.cls y y ∈ TBL
theorem cd_X0_addToHash : Cd yX0_addToHash cX0_addToHash 6 (some .long) 1 := ⟨tw_2_116, tw_1_4, by decide +kernel, by decide +kernel⟩
theorem cv_X0_addToHash : Cv yX0_addToHash := ⟨tw_2_114, tw_2_115⟩
theorem cd_X0_compute : Cd yX0_compute cX0_compute 2 none 0 := ⟨tw_2_20, tw_1_4, by decide +kernel, by decide +kernel⟩
theorem cv_X0_compute : Cv yX0_compute := ⟨tw_2_18, tw_2_19⟩
theorem cd_X0_computeDeviations : Cd yX0_computeDeviations cX0_computeDeviations 2 none 0 := ⟨tw_2_33, tw_1_4, by decide +kernel, by decide +kernel⟩
theorem cv_X0_computeDeviations : Cv yX0_computeDeviations := ⟨tw_2_32, ts_1_3⟩
theorem cd_X0_computeDistances : Cd yX0_computeDistances cX0_computeDistances 4 none 0 := ⟨tw_2_61, tw_1_4, by decide +kernel, by decide +kernel⟩
theorem cv_X0_computeDistances : Cv yX0_computeDistances := ⟨tw_2_60, ts_1_8⟩
theorem cd_X0_computeFactors : Cd yX0_computeFactors cX0_computeFactors 4 none 0 := ⟨tw_2_42, tw_1_4, by decide +kernel, by decide +kernel⟩
theorem cv_X0_computeFactors : Cv yX0_computeFactors := ⟨tw_2_41, ts_1_5⟩
theorem cd_X0_computeFirstTrend : Cd yX0_computeFirstTrend cX0_computeFirstTrend 6 none 0 := ⟨tw_2_25, tw_1_4, by decide +kernel, by decide +kernel⟩
theorem cv_X0_computeFirstTrend : Cv yX0_computeFirstTrend := ⟨tw_2_24, ts_1_2⟩
theorem cd_X0_computeLevel : Cd yX0_computeLevel cX0_computeLevel 4 none 0 := ⟨tw_2_80, tw_1_4, by decide +kernel, by decide +kernel⟩
theorem cv_X0_computeLevel : Cv yX0_computeLevel := ⟨tw_2_79, ts_1_11⟩
theorem cd_X0_computeRest : Cd yX0_computeRest cX0_computeRest 2 none 0 := ⟨tw_2_96, tw_1_4, by decide +kernel, by decide +kernel⟩
theorem cv_X0_computeRest : Cv yX0_computeRest := ⟨tw_2_95, ts_1_14⟩
theorem cd_X0_computeSmooth : Cd yX0_computeSmooth cX0_computeSmooth 6 none 0 := ⟨tw_2_84, tw_1_4, by decide +kernel, by decide +kernel⟩
theorem cv_X0_computeSmooth : Cv yX0_computeSmooth := ⟨tw_2_83, ts_1_12⟩
theorem cd_X0_computeSmoothEnd : Cd yX0_computeSmoothEnd cX0_computeSmoothEnd 5 none 2 := ⟨tw_2_92, tw_1_4, by decide +kernel, by decide +kernel⟩
theorem cv_X0_computeSmoothEnd : Cv yX0_computeSmoothEnd := ⟨tw_2_91, ts_1_13⟩
theorem cd_X0_computeWeights : Cd yX0_computeWeights cX0_computeWeights 2 none 0 := ⟨tw_2_70, tw_1_4, by decide +kernel, by decide +kernel⟩
theorem cv_X0_computeWeights : Cv yX0_computeWeights := ⟨tw_2_69, ts_1_9⟩
theorem cd_X0_giveFullWeights : Cd yX0_giveFullWeights cX0_giveFullWeights 2 none 0 := ⟨tw_2_38, tw_1_4, by decide +kernel, by decide +kernel⟩
theorem cv_X0_giveFullWeights : Cv yX0_giveFullWeights := ⟨tw_2_37, ts_1_4⟩
theorem cd_X0_init : Cd yX0_init cX0_init 2 none 1 := ⟨tw_1_84, tw_1_4, by decide +kernel, by decide +kernel⟩
theorem cd_X0_isMoreExtreme : Cd yX0_isMoreExtreme cX0_isMoreExtreme 3 (some .boolean) 2 := ⟨tw_2_108, tw_1_4, by decide +kernel, by decide +kernel⟩
theorem cv_X0_isMoreExtreme : Cv yX0_isMoreExtreme := ⟨tw_2_107, ts_2_1⟩
theorem cd_X0_orderOutliers : Cd yX0_orderOutliers cX0_orderOutliers 3 none 0 := ⟨tw_2_104, tw_1_4, by decide +kernel, by decide +kernel⟩
theorem cv_X0_orderOutliers : Cv yX0_orderOutliers := ⟨tw_2_103, ts_2_0⟩
theorem cd_X0_orderSeasons : Cd yX0_orderSeasons cX0_orderSeasons 3 none 0 := ⟨tw_2_112, tw_1_4, by decide +kernel, by decide +kernel⟩
theorem cv_X0_orderSeasons : Cv yX0_orderSeasons := ⟨tw_2_111, ts_2_2⟩
theorem cd_X0_ratioFactor : Cd yX0_ratioFactor cX0_ratioFactor 5 (some .long) 2 := ⟨tw_2_54, tw_1_4, by decide +kernel, by decide +kernel⟩
theorem cv_X0_ratioFactor : Cv yX0_ratioFactor := ⟨tw_2_53, ts_1_7⟩
theorem cd_X0_rawFactor : Cd yX0_rawFactor cX0_rawFactor 11 (some .long) 1 := ⟨tw_2_46, tw_1_4, by decide +kernel, by decide +kernel⟩
theorem cv_X0_rawFactor : Cv yX0_rawFactor := ⟨tw_2_45, ts_1_6⟩
theorem cd_X0_restRatio : Cd yX0_restRatio cX0_restRatio 2 (some .long) 1 := ⟨tw_2_100, tw_1_4, by decide +kernel, by decide +kernel⟩
theorem cv_X0_restRatio : Cv yX0_restRatio := ⟨tw_2_99, ts_1_15⟩
theorem cd_X0_weightFor : Cd yX0_weightFor cX0_weightFor 3 (some .int) 1 := ⟨tw_2_74, tw_1_4, by decide +kernel, by decide +kernel⟩
theorem cv_X0_weightFor : Cv yX0_weightFor := ⟨tw_2_73, ts_1_10⟩
theorem cd_X1_dropOldest : Cd yX1_dropOldest cX1_dropOldest 3 none 0 := ⟨tw_2_156, tw_1_3, by decide +kernel, by decide +kernel⟩
theorem cv_X1_dropOldest : Cv yX1_dropOldest := ⟨tw_2_155, ts_2_4⟩
theorem cd_X1_init : Cd yX1_init cX1_init 2 none 0 := ⟨tw_1_67, tw_1_3, by decide +kernel, by decide +kernel⟩
theorem cd_X1_restoreInto : Cd yX1_restoreInto cX1_restoreInto 3 none 1 := ⟨tw_3_216, tw_1_3, by decide +kernel, by decide +kernel⟩
theorem cv_X1_restoreInto : Cv yX1_restoreInto := ⟨tw_3_214, tw_3_215⟩
theorem cd_X1_save : Cd yX1_save cX1_save 3 none 1 := ⟨tw_2_152, tw_1_3, by decide +kernel, by decide +kernel⟩
theorem cv_X1_save : Cv yX1_save := ⟨tw_2_150, tw_2_151⟩
theorem cd_X2_addEntry : Cd yX2_addEntry cX2_addEntry 4 (some .int) 2 := ⟨tw_2_202, tw_1_2, by decide +kernel, by decide +kernel⟩
theorem cv_X2_addEntry : Cv yX2_addEntry := ⟨tw_2_200, tw_2_201⟩
theorem cd_X2_copyFrom : Cd yX2_copyFrom cX2_copyFrom 3 none 1 := ⟨tw_2_160, tw_1_2, by decide +kernel, by decide +kernel⟩
theorem cv_X2_copyFrom : Cv yX2_copyFrom := ⟨tw_2_158, tw_2_159⟩
theorem cd_X2_countGaps : Cd yX2_countGaps cX2_countGaps 3 (some .int) 0 := ⟨tw_1_178, tw_1_2, by decide +kernel, by decide +kernel⟩
theorem cv_X2_countGaps : Cv yX2_countGaps := ⟨tw_1_176, tw_1_177⟩
theorem cd_X2_excessDays : Cd yX2_excessDays cX2_excessDays 4 (some .long) 2 := ⟨tw_3_181, tw_1_2, by decide +kernel, by decide +kernel⟩
theorem cv_X2_excessDays : Cv yX2_excessDays := ⟨tw_3_179, tw_3_180⟩
theorem cd_X2_fillGaps : Cd yX2_fillGaps cX2_fillGaps 3 (some .int) 0 := ⟨tw_3_48, tw_1_2, by decide +kernel, by decide +kernel⟩
theorem cv_X2_fillGaps : Cv yX2_fillGaps := ⟨tw_3_46, tw_3_47⟩
theorem cd_X2_fillingFor : Cd yX2_fillingFor cX2_fillingFor 4 (some .int) 1 := ⟨tw_3_52, tw_1_2, by decide +kernel, by decide +kernel⟩
theorem cv_X2_fillingFor : Cv yX2_fillingFor := ⟨tw_3_51, ts_2_8⟩
theorem cd_X2_half : Cd yX2_half cX2_half 1 (some .int) 0 := ⟨tw_1_174, tw_1_2, by decide +kernel, by decide +kernel⟩
theorem cv_X2_half : Cv yX2_half := ⟨tw_1_172, tw_1_173⟩
theorem cd_X2_hasUnfillableGap : Cd yX2_hasUnfillableGap cX2_hasUnfillableGap 2 (some .boolean) 0 := ⟨tw_3_36, tw_1_2, by decide +kernel, by decide +kernel⟩
theorem cv_X2_hasUnfillableGap : Cv yX2_hasUnfillableGap := ⟨tw_3_34, tw_3_35⟩
theorem cd_X2_hasValueBelowOne : Cd yX2_hasValueBelowOne cX2_hasValueBelowOne 2 (some .boolean) 0 := ⟨tw_2_172, tw_1_2, by decide +kernel, by decide +kernel⟩
theorem cv_X2_hasValueBelowOne : Cv yX2_hasValueBelowOne := ⟨tw_2_170, tw_2_171⟩
theorem cd_X2_init : Cd yX2_init cX2_init 1 none 0 := ⟨tw_1_25, tw_1_2, by decide +kernel, by decide +kernel⟩
theorem cd_X2_isDecomposable : Cd yX2_isDecomposable cX2_isDecomposable 1 (some .boolean) 0 := ⟨tw_1_170, tw_1_2, by decide +kernel, by decide +kernel⟩
theorem cv_X2_isDecomposable : Cv yX2_isDecomposable := ⟨tw_1_168, tw_1_169⟩
theorem cd_X2_leastValue : Cd yX2_leastValue cX2_leastValue 1 (some .int) 0 := ⟨tw_2_191, tw_1_2, by decide +kernel, by decide +kernel⟩
theorem cv_X2_leastValue : Cv yX2_leastValue := ⟨tw_2_189, tw_2_190⟩
theorem cd_X2_neighbour : Cd yX2_neighbour cX2_neighbour 6 (some .int) 2 := ⟨tw_3_40, tw_1_2, by decide +kernel, by decide +kernel⟩
theorem cv_X2_neighbour : Cv yX2_neighbour := ⟨tw_3_38, tw_3_39⟩
theorem cd_X2_seasonOf : Cd yX2_seasonOf cX2_seasonOf 2 (some .int) 1 := ⟨tw_2_50, tw_1_2, by decide +kernel, by decide +kernel⟩
theorem cv_X2_seasonOf : Cv yX2_seasonOf := ⟨tw_2_48, tw_2_49⟩
theorem cd_X2_subtractDays : Cd yX2_subtractDays cX2_subtractDays 11 (some .int) 1 := ⟨tw_3_195, tw_1_2, by decide +kernel, by decide +kernel⟩
theorem cv_X2_subtractDays : Cv yX2_subtractDays := ⟨tw_3_193, tw_3_194⟩
theorem cd_X2_sumOfDays : Cd yX2_sumOfDays cX2_sumOfDays 4 (some .long) 0 := ⟨tw_3_177, tw_1_2, by decide +kernel, by decide +kernel⟩
theorem cv_X2_sumOfDays : Cv yX2_sumOfDays := ⟨tw_3_175, tw_3_176⟩
theorem cd_X3_adjusted : Cd yX3_adjusted cX3_adjusted 2 (some .long) 1 := ⟨tw_3_116, tw_1_1, by decide +kernel, by decide +kernel⟩
theorem cv_X3_adjusted : Cv yX3_adjusted := ⟨tw_3_114, tw_3_115⟩
theorem cd_X3_append : Cd yX3_append cX3_append 2 (some .int) 1 := ⟨tw_2_187, tw_1_1, by decide +kernel, by decide +kernel⟩
theorem cv_X3_append : Cv yX3_append := ⟨tw_2_185, tw_2_186⟩
theorem cd_X3_appendMissing : Cd yX3_appendMissing cX3_appendMissing 1 (some .int) 0 := ⟨tw_2_209, tw_1_1, by decide +kernel, by decide +kernel⟩
theorem cv_X3_appendMissing : Cv yX3_appendMissing := ⟨tw_2_207, tw_2_208⟩
theorem cd_X3_beginChange : Cd yX3_beginChange cX3_beginChange 1 none 0 := ⟨tw_2_148, tw_1_1, by decide +kernel, by decide +kernel⟩
theorem cv_X3_beginChange : Cv yX3_beginChange := ⟨tw_2_147, ts_2_3⟩
theorem cd_X3_canDecompose : Cd yX3_canDecompose cX3_canDecompose 1 (some .boolean) 0 := ⟨tw_1_166, tw_1_1, by decide +kernel, by decide +kernel⟩
theorem cv_X3_canDecompose : Cv yX3_canDecompose := ⟨tw_1_164, tw_1_165⟩
theorem cd_X3_daysEffect : Cd yX3_daysEffect cX3_daysEffect 10 (some .long) 0 := ⟨tw_3_172, tw_1_1, by decide +kernel, by decide +kernel⟩
theorem cv_X3_daysEffect : Cv yX3_daysEffect := ⟨tw_3_170, tw_3_171⟩
theorem cd_X3_deviation : Cd yX3_deviation cX3_deviation 2 (some .long) 1 := ⟨tw_3_88, tw_1_1, by decide +kernel, by decide +kernel⟩
theorem cv_X3_deviation : Cv yX3_deviation := ⟨tw_3_86, tw_3_87⟩
theorem cd_X3_digest : Cd yX3_digest cX3_digest 4 (some .long) 0 := ⟨tw_1_182, tw_1_1, by decide +kernel, by decide +kernel⟩
theorem cv_X3_digest : Cv yX3_digest := ⟨tw_1_180, tw_1_181⟩
theorem cd_X3_factor : Cd yX3_factor cX3_factor 2 (some .long) 1 := ⟨tw_3_109, tw_1_1, by decide +kernel, by decide +kernel⟩
theorem cv_X3_factor : Cv yX3_factor := ⟨tw_3_107, tw_3_108⟩
theorem cd_X3_fill : Cd yX3_fill cX3_fill 1 (some .int) 0 := ⟨tw_3_32, tw_1_1, by decide +kernel, by decide +kernel⟩
theorem cv_X3_fill : Cv yX3_fill := ⟨tw_3_30, tw_3_31⟩
theorem cd_X3_firstTrend : Cd yX3_firstTrend cX3_firstTrend 2 (some .long) 1 := ⟨tw_3_76, tw_1_1, by decide +kernel, by decide +kernel⟩
theorem cv_X3_firstTrend : Cv yX3_firstTrend := ⟨tw_3_74, tw_3_75⟩
theorem cd_X3_forecast : Cd yX3_forecast cX3_forecast 10 (some .long) 1 := ⟨tw_3_159, tw_1_1, by decide +kernel, by decide +kernel⟩
theorem cv_X3_forecast : Cv yX3_forecast := ⟨tw_3_157, tw_3_158⟩
theorem cd_X3_init : Cd yX3_init cX3_init 1 none 0 := ⟨tw_1_17, tw_1_1, by decide +kernel, by decide +kernel⟩
theorem cd_X3_irregular : Cd yX3_irregular cX3_irregular 2 (some .long) 1 := ⟨tw_3_130, tw_1_1, by decide +kernel, by decide +kernel⟩
theorem cv_X3_irregular : Cv yX3_irregular := ⟨tw_3_128, tw_3_129⟩
theorem cd_X3_missing : Cd yX3_missing cX3_missing 4 (some .int) 1 := ⟨tw_3_68, tw_1_1, by decide +kernel, by decide +kernel⟩
theorem cv_X3_missing : Cv yX3_missing := ⟨tw_3_66, tw_3_67⟩
theorem cd_X3_outlier : Cd yX3_outlier cX3_outlier 2 (some .int) 1 := ⟨tw_3_144, tw_1_1, by decide +kernel, by decide +kernel⟩
theorem cv_X3_outlier : Cv yX3_outlier := ⟨tw_3_142, tw_3_143⟩
theorem cd_X3_outlierCount : Cd yX3_outlierCount cX3_outlierCount 1 (some .int) 0 := ⟨tw_3_137, tw_1_1, by decide +kernel, by decide +kernel⟩
theorem cv_X3_outlierCount : Cv yX3_outlierCount := ⟨tw_3_135, tw_3_136⟩
theorem cd_X3_quotient : Cd yX3_quotient cX3_quotient 10 (some .long) 2 := ⟨tw_2_28, tw_1_1, by decide +kernel, by decide +kernel⟩
theorem cd_X3_removeDays : Cd yX3_removeDays cX3_removeDays 3 (some .int) 0 := ⟨tw_3_190, tw_1_1, by decide +kernel, by decide +kernel⟩
theorem cv_X3_removeDays : Cv yX3_removeDays := ⟨tw_3_188, tw_3_189⟩
theorem cd_X3_removeLast : Cd yX3_removeLast cX3_removeLast 1 (some .int) 0 := ⟨tw_3_24, tw_1_1, by decide +kernel, by decide +kernel⟩
theorem cv_X3_removeLast : Cv yX3_removeLast := ⟨tw_3_22, tw_3_23⟩
theorem cd_X3_requireArgument : Cd yX3_requireArgument cX3_requireArgument 3 none 3 := ⟨tw_2_128, tw_1_1, by decide +kernel, by decide +kernel⟩
theorem cd_X3_requireEntry : Cd yX3_requireEntry cX3_requireEntry 2 none 1 := ⟨tw_2_221, tw_1_1, by decide +kernel, by decide +kernel⟩
theorem cv_X3_requireEntry : Cv yX3_requireEntry := ⟨tw_2_220, ts_2_6⟩
theorem cd_X3_requireInner : Cd yX3_requireInner cX3_requireInner 2 none 1 := ⟨tw_3_80, tw_1_1, by decide +kernel, by decide +kernel⟩
theorem cv_X3_requireInner : Cv yX3_requireInner := ⟨tw_3_79, ts_2_9⟩
theorem cd_X3_requireParts : Cd yX3_requireParts cX3_requireParts 1 none 0 := ⟨tw_1_188, tw_1_1, by decide +kernel, by decide +kernel⟩
theorem cv_X3_requireParts : Cv yX3_requireParts := ⟨tw_1_187, ts_1_0⟩
theorem cd_X3_requireRoom : Cd yX3_requireRoom cX3_requireRoom 1 none 0 := ⟨tw_2_197, tw_1_1, by decide +kernel, by decide +kernel⟩
theorem cv_X3_requireRoom : Cv yX3_requireRoom := ⟨tw_2_196, ts_2_5⟩
theorem cd_X3_requireValue : Cd yX3_requireValue cX3_requireValue 2 none 1 := ⟨tw_3_9, tw_1_1, by decide +kernel, by decide +kernel⟩
theorem cv_X3_requireValue : Cv yX3_requireValue := ⟨tw_3_8, ts_2_7⟩
theorem cd_X3_seasonOfRank : Cd yX3_seasonOfRank cX3_seasonOfRank 2 (some .int) 1 := ⟨tw_3_152, tw_1_1, by decide +kernel, by decide +kernel⟩
theorem cv_X3_seasonOfRank : Cv yX3_seasonOfRank := ⟨tw_3_150, tw_3_151⟩
theorem cd_X3_set : Cd yX3_set cX3_set 3 (some .int) 2 := ⟨tw_2_217, tw_1_1, by decide +kernel, by decide +kernel⟩
theorem cv_X3_set : Cv yX3_set := ⟨tw_2_215, tw_2_216⟩
theorem cd_X3_setDays : Cd yX3_setDays cX3_setDays 4 (some .int) 2 := ⟨tw_3_17, tw_1_1, by decide +kernel, by decide +kernel⟩
theorem cv_X3_setDays : Cv yX3_setDays := ⟨tw_3_15, tw_3_16⟩
theorem cd_X3_setMissing : Cd yX3_setMissing cX3_setMissing 3 (some .int) 1 := ⟨tw_3_5, tw_1_1, by decide +kernel, by decide +kernel⟩
theorem cv_X3_setMissing : Cv yX3_setMissing := ⟨tw_3_3, tw_3_4⟩
theorem cd_X3_setMode : Cd yX3_setMode cX3_setMode 3 (some .int) 1 := ⟨tw_2_168, tw_1_1, by decide +kernel, by decide +kernel⟩
theorem cv_X3_setMode : Cv yX3_setMode := ⟨tw_2_166, tw_2_167⟩
theorem cd_X3_setPeriod : Cd yX3_setPeriod cX3_setPeriod 3 (some .int) 1 := ⟨tw_2_125, tw_1_1, by decide +kernel, by decide +kernel⟩
theorem cv_X3_setPeriod : Cv yX3_setPeriod := ⟨tw_2_123, tw_2_124⟩
theorem cd_X3_setRounds : Cd yX3_setRounds cX3_setRounds 3 (some .int) 1 := ⟨tw_2_180, tw_1_1, by decide +kernel, by decide +kernel⟩
theorem cv_X3_setRounds : Cv yX3_setRounds := ⟨tw_2_178, tw_2_179⟩
theorem cd_X3_size : Cd yX3_size cX3_size 1 (some .int) 0 := ⟨tw_1_162, tw_1_1, by decide +kernel, by decide +kernel⟩
theorem cv_X3_size : Cv yX3_size := ⟨tw_1_160, tw_1_161⟩
theorem cd_X3_spread : Cd yX3_spread cX3_spread 1 (some .long) 0 := ⟨tw_3_102, tw_1_1, by decide +kernel, by decide +kernel⟩
theorem cv_X3_spread : Cv yX3_spread := ⟨tw_3_100, tw_3_101⟩
theorem cd_X3_trend : Cd yX3_trend cX3_trend 2 (some .long) 1 := ⟨tw_3_123, tw_1_1, by decide +kernel, by decide +kernel⟩
theorem cv_X3_trend : Cv yX3_trend := ⟨tw_3_121, tw_3_122⟩
theorem cd_X3_undo : Cd yX3_undo cX3_undo 1 (some .int) 0 := ⟨tw_3_211, tw_1_1, by decide +kernel, by decide +kernel⟩
theorem cv_X3_undo : Cv yX3_undo := ⟨tw_3_209, tw_3_210⟩
theorem cd_X3_value : Cd yX3_value cX3_value 2 (some .int) 1 := ⟨tw_3_61, tw_1_1, by decide +kernel, by decide +kernel⟩
theorem cv_X3_value : Cv yX3_value := ⟨tw_3_59, tw_3_60⟩
theorem cd_X3_weight : Cd yX3_weight cX3_weight 2 (some .int) 1 := ⟨tw_3_95, tw_1_1, by decide +kernel, by decide +kernel⟩
theorem cv_X3_weight : Cv yX3_weight := ⟨tw_3_93, tw_3_94⟩
theorem cd_X4_adds : Cd yX4_adds cX4_adds 4 (some .int) 2 := ⟨tw_4_95, tw_1_5, by decide +kernel, by decide +kernel⟩
theorem cv_X4_adds : Cv yX4_adds := ⟨tw_4_94, ts_3_1⟩
theorem cd_X4_adjusted : Cd yX4_adjusted cX4_adjusted 2 (some .long) 1 := ⟨tw_4_238, tw_1_5, by decide +kernel, by decide +kernel⟩
theorem cv_X4_adjusted : Cv yX4_adjusted := ⟨tw_4_236, tw_4_237⟩
theorem cd_X4_append : Cd yX4_append cX4_append 2 (some .int) 1 := ⟨tw_4_85, tw_1_5, by decide +kernel, by decide +kernel⟩
theorem cv_X4_append : Cv yX4_append := ⟨tw_4_83, tw_4_84⟩
theorem cd_X4_appendMissing : Cd yX4_appendMissing cX4_appendMissing 1 (some .int) 0 := ⟨tw_4_99, tw_1_5, by decide +kernel, by decide +kernel⟩
theorem cv_X4_appendMissing : Cv yX4_appendMissing := ⟨tw_4_97, tw_4_98⟩
theorem cd_X4_can : Cd yX4_can cX4_can 1 (some .boolean) 0 := ⟨tw_4_159, tw_1_5, by decide +kernel, by decide +kernel⟩
theorem cv_X4_can : Cv yX4_can := ⟨tw_4_158, ts_3_6⟩
theorem cd_X4_canDecompose : Cd yX4_canDecompose cX4_canDecompose 1 (some .boolean) 0 := ⟨tw_4_155, tw_1_5, by decide +kernel, by decide +kernel⟩
theorem cv_X4_canDecompose : Cv yX4_canDecompose := ⟨tw_4_153, tw_4_154⟩
theorem cd_X4_canFill : Cd yX4_canFill cX4_canFill 3 (some .boolean) 0 := ⟨tw_4_132, tw_1_5, by decide +kernel, by decide +kernel⟩
theorem cv_X4_canFill : Cv yX4_canFill := ⟨tw_4_131, ts_3_4⟩
theorem cd_X4_daysAll : Cd yX4_daysAll cX4_daysAll 4 (some .long) 0 := ⟨tw_5_63, tw_1_5, by decide +kernel, by decide +kernel⟩
theorem cv_X4_daysAll : Cv yX4_daysAll := ⟨tw_5_62, ts_4_10⟩
theorem cd_X4_daysAt : Cd yX4_daysAt cX4_daysAt 2 (some .int) 1 := ⟨tw_5_51, tw_1_5, by decide +kernel, by decide +kernel⟩
theorem cv_X4_daysAt : Cv yX4_daysAt := ⟨tw_5_50, ts_4_7⟩
theorem cd_X4_daysEffect : Cd yX4_daysEffect cX4_daysEffect 1 (some .long) 0 := ⟨tw_5_43, tw_1_5, by decide +kernel, by decide +kernel⟩
theorem cv_X4_daysEffect : Cv yX4_daysEffect := ⟨tw_5_41, tw_5_42⟩
theorem cd_X4_decomposes : Cd yX4_decomposes cX4_decomposes 2 (some .boolean) 0 := ⟨tw_4_175, tw_1_5, by decide +kernel, by decide +kernel⟩
theorem cv_X4_decomposes : Cv yX4_decomposes := ⟨tw_4_174, ts_3_9⟩
theorem cd_X4_deviation : Cd yX4_deviation cX4_deviation 2 (some .long) 1 := ⟨tw_4_218, tw_1_5, by decide +kernel, by decide +kernel⟩
theorem cv_X4_deviation : Cv yX4_deviation := ⟨tw_4_216, tw_4_217⟩
theorem cd_X4_digest : Cd yX4_digest cX4_digest 3 (some .long) 0 := ⟨tw_5_71, tw_1_5, by decide +kernel, by decide +kernel⟩
theorem cv_X4_digest : Cv yX4_digest := ⟨tw_5_69, tw_5_70⟩
theorem cd_X4_effect : Cd yX4_effect cX4_effect 6 (some .long) 0 := ⟨tw_5_55, tw_1_5, by decide +kernel, by decide +kernel⟩
theorem cv_X4_effect : Cv yX4_effect := ⟨tw_5_54, ts_4_8⟩
theorem cd_X4_factor : Cd yX4_factor cX4_factor 2 (some .long) 1 := ⟨tw_4_230, tw_1_5, by decide +kernel, by decide +kernel⟩
theorem cv_X4_factor : Cv yX4_factor := ⟨tw_4_228, tw_4_229⟩
theorem cd_X4_fill : Cd yX4_fill cX4_fill 5 (some .int) 0 := ⟨tw_4_128, tw_1_5, by decide +kernel, by decide +kernel⟩
theorem cv_X4_fill : Cv yX4_fill := ⟨tw_4_126, tw_4_127⟩
theorem cd_X4_findExtremes : Cd yX4_findExtremes cX4_findExtremes 4 none 0 := ⟨tw_4_196, tw_1_5, by decide +kernel, by decide +kernel⟩
theorem cv_X4_findExtremes : Cv yX4_findExtremes := ⟨tw_4_195, ts_3_14⟩
theorem cd_X4_findFactors : Cd yX4_findFactors cX4_findFactors 13 none 0 := ⟨tw_4_184, tw_1_5, by decide +kernel, by decide +kernel⟩
theorem cv_X4_findFactors : Cv yX4_findFactors := ⟨tw_4_183, ts_3_11⟩
theorem cd_X4_findFirsts : Cd yX4_findFirsts cX4_findFirsts 6 none 0 := ⟨tw_4_179, tw_1_5, by decide +kernel, by decide +kernel⟩
theorem cv_X4_findFirsts : Cv yX4_findFirsts := ⟨tw_4_178, ts_3_10⟩
theorem cd_X4_findTrends : Cd yX4_findTrends cX4_findTrends 5 none 0 := ⟨tw_4_210, tw_1_5, by decide +kernel, by decide +kernel⟩
theorem cv_X4_findTrends : Cv yX4_findTrends := ⟨tw_4_209, ts_4_0⟩
theorem cd_X4_findWeights : Cd yX4_findWeights cX4_findWeights 4 none 0 := ⟨tw_4_192, tw_1_5, by decide +kernel, by decide +kernel⟩
theorem cv_X4_findWeights : Cv yX4_findWeights := ⟨tw_4_191, ts_3_13⟩
theorem cd_X4_firstTrend : Cd yX4_firstTrend cX4_firstTrend 2 (some .long) 1 := ⟨tw_4_167, tw_1_5, by decide +kernel, by decide +kernel⟩
theorem cv_X4_firstTrend : Cv yX4_firstTrend := ⟨tw_4_165, tw_4_166⟩
theorem cd_X4_forecast : Cd yX4_forecast cX4_forecast 8 (some .long) 1 := ⟨tw_5_38, tw_1_5, by decide +kernel, by decide +kernel⟩
theorem cv_X4_forecast : Cv yX4_forecast := ⟨tw_5_36, tw_5_37⟩
theorem cd_X4_half : Cd yX4_half cX4_half 1 (some .int) 0 := ⟨tw_4_163, tw_1_5, by decide +kernel, by decide +kernel⟩
theorem cv_X4_half : Cv yX4_half := ⟨tw_4_162, ts_3_7⟩
theorem cd_X4_hasEffect : Cd yX4_hasEffect cX4_hasEffect 3 (some .boolean) 0 := ⟨tw_5_47, tw_1_5, by decide +kernel, by decide +kernel⟩
theorem cv_X4_hasEffect : Cv yX4_hasEffect := ⟨tw_5_46, ts_4_6⟩
theorem cd_X4_init : Cd yX4_init cX4_init 1 none 0 := ⟨tw_3_221, tw_1_5, by decide +kernel, by decide +kernel⟩
theorem cd_X4_inner : Cd yX4_inner cX4_inner 1 (some .int) 0 := ⟨tw_4_204, tw_1_5, by decide +kernel, by decide +kernel⟩
theorem cv_X4_inner : Cv yX4_inner := ⟨tw_4_203, ts_3_15⟩
theorem cd_X4_irregular : Cd yX4_irregular cX4_irregular 2 (some .long) 1 := ⟨tw_5_10, tw_1_5, by decide +kernel, by decide +kernel⟩
theorem cv_X4_irregular : Cv yX4_irregular := ⟨tw_5_8, tw_5_9⟩
theorem cd_X4_isAhead : Cd yX4_isAhead cX4_isAhead 7 (some .boolean) 2 := ⟨tw_5_30, tw_1_5, by decide +kernel, by decide +kernel⟩
theorem cv_X4_isAhead : Cv yX4_isAhead := ⟨tw_5_29, ts_4_5⟩
theorem cd_X4_isAnyLow : Cd yX4_isAnyLow cX4_isAnyLow 3 (some .boolean) 0 := ⟨tw_4_68, tw_1_5, by decide +kernel, by decide +kernel⟩
theorem cv_X4_isAnyLow : Cv yX4_isAnyLow := ⟨tw_4_67, ts_2_13⟩
theorem cd_X4_isEntry : Cd yX4_isEntry cX4_isEntry 2 (some .boolean) 1 := ⟨tw_4_107, tw_1_5, by decide +kernel, by decide +kernel⟩
theorem cv_X4_isEntry : Cv yX4_isEntry := ⟨tw_4_106, ts_3_2⟩
theorem cd_X4_isInner : Cd yX4_isInner cX4_isInner 2 (some .boolean) 1 := ⟨tw_4_188, tw_1_5, by decide +kernel, by decide +kernel⟩
theorem cv_X4_isInner : Cv yX4_isInner := ⟨tw_4_187, ts_3_12⟩
theorem cd_X4_isMissing : Cd yX4_isMissing cX4_isMissing 2 (some .boolean) 1 := ⟨tw_4_72, tw_1_5, by decide +kernel, by decide +kernel⟩
theorem cv_X4_isMissing : Cv yX4_isMissing := ⟨tw_4_71, ts_2_14⟩
theorem cd_X4_isOut : Cd yX4_isOut cX4_isOut 2 (some .boolean) 1 := ⟨tw_5_22, tw_1_5, by decide +kernel, by decide +kernel⟩
theorem cv_X4_isOut : Cv yX4_isOut := ⟨tw_5_21, ts_4_4⟩
theorem cd_X4_isSeason : Cd yX4_isSeason cX4_isSeason 2 (some .boolean) 1 := ⟨tw_4_234, tw_1_5, by decide +kernel, by decide +kernel⟩
theorem cv_X4_isSeason : Cv yX4_isSeason := ⟨tw_4_233, ts_4_1⟩
theorem cd_X4_isValue : Cd yX4_isValue cX4_isValue 2 (some .boolean) 1 := ⟨tw_4_89, tw_1_5, by decide +kernel, by decide +kernel⟩
theorem cv_X4_isValue : Cv yX4_isValue := ⟨tw_4_88, ts_3_0⟩
theorem cd_X4_missing : Cd yX4_missing cX4_missing 4 (some .int) 1 := ⟨tw_4_151, tw_1_5, by decide +kernel, by decide +kernel⟩
theorem cv_X4_missing : Cv yX4_missing := ⟨tw_4_149, tw_4_150⟩
theorem cd_X4_missingOnes : Cd yX4_missingOnes cX4_missingOnes 3 (some .int) 0 := ⟨tw_4_111, tw_1_5, by decide +kernel, by decide +kernel⟩
theorem cv_X4_missingOnes : Cv yX4_missingOnes := ⟨tw_4_110, ts_3_3⟩
theorem cd_X4_mix : Cd yX4_mix cX4_mix 3 none 1 := ⟨tw_5_76, tw_1_5, by decide +kernel, by decide +kernel⟩
theorem cv_X4_mix : Cv yX4_mix := ⟨tw_5_75, ts_4_11⟩
theorem cd_X4_nextOf : Cd yX4_nextOf cX4_nextOf 4 (some .int) 2 := ⟨tw_4_136, tw_1_5, by decide +kernel, by decide +kernel⟩
theorem cv_X4_nextOf : Cv yX4_nextOf := ⟨tw_4_135, ts_3_5⟩
theorem cd_X4_outlier : Cd yX4_outlier cX4_outlier 5 (some .int) 1 := ⟨tw_5_26, tw_1_5, by decide +kernel, by decide +kernel⟩
theorem cv_X4_outlier : Cv yX4_outlier := ⟨tw_5_24, tw_5_25⟩
theorem cd_X4_outlierCount : Cd yX4_outlierCount cX4_outlierCount 1 (some .int) 0 := ⟨tw_5_14, tw_1_5, by decide +kernel, by decide +kernel⟩
theorem cv_X4_outlierCount : Cv yX4_outlierCount := ⟨tw_5_12, tw_5_13⟩
theorem cd_X4_outs : Cd yX4_outs cX4_outs 3 (some .int) 0 := ⟨tw_5_18, tw_1_5, by decide +kernel, by decide +kernel⟩
theorem cv_X4_outs : Cv yX4_outs := ⟨tw_5_17, ts_4_3⟩
theorem cd_X4_over : Cd yX4_over cX4_over 12 (some .long) 2 := ⟨tw_4_139, tw_1_5, by decide +kernel, by decide +kernel⟩
theorem cd_X4_refused : Cd yX4_refused cX4_refused 2 (some .boolean) 1 := ⟨tw_4_43, tw_1_5, by decide +kernel, by decide +kernel⟩
theorem cv_X4_refused : Cv yX4_refused := ⟨tw_4_42, ts_2_10⟩
theorem cd_X4_refusesEntry : Cd yX4_refusesEntry cX4_refusesEntry 2 (some .boolean) 1 := ⟨tw_5_2, tw_1_5, by decide +kernel, by decide +kernel⟩
theorem cv_X4_refusesEntry : Cv yX4_refusesEntry := ⟨tw_5_1, ts_4_2⟩
theorem cd_X4_refusesInner : Cd yX4_refusesInner cX4_refusesInner 2 (some .boolean) 1 := ⟨tw_4_171, tw_1_5, by decide +kernel, by decide +kernel⟩
theorem cv_X4_refusesInner : Cv yX4_refusesInner := ⟨tw_4_170, ts_3_8⟩
theorem cd_X4_removeDays : Cd yX4_removeDays cX4_removeDays 7 (some .int) 0 := ⟨tw_5_67, tw_1_5, by decide +kernel, by decide +kernel⟩
theorem cv_X4_removeDays : Cv yX4_removeDays := ⟨tw_5_65, tw_5_66⟩
theorem cd_X4_removeLast : Cd yX4_removeLast cX4_removeLast 1 (some .int) 0 := ⟨tw_4_124, tw_1_5, by decide +kernel, by decide +kernel⟩
theorem cv_X4_removeLast : Cv yX4_removeLast := ⟨tw_4_122, tw_4_123⟩
theorem cd_X4_saves : Cd yX4_saves cX4_saves 2 none 0 := ⟨tw_4_60, tw_1_5, by decide +kernel, by decide +kernel⟩
theorem cv_X4_saves : Cv yX4_saves := ⟨tw_4_59, ts_2_12⟩
theorem cd_X4_seasonOfRank : Cd yX4_seasonOfRank cX4_seasonOfRank 5 (some .int) 1 := ⟨tw_5_34, tw_1_5, by decide +kernel, by decide +kernel⟩
theorem cv_X4_seasonOfRank : Cv yX4_seasonOfRank := ⟨tw_5_32, tw_5_33⟩
theorem cd_X4_set : Cd yX4_set cX4_set 3 (some .int) 2 := ⟨tw_4_103, tw_1_5, by decide +kernel, by decide +kernel⟩
theorem cv_X4_set : Cv yX4_set := ⟨tw_4_101, tw_4_102⟩
theorem cd_X4_setDays : Cd yX4_setDays cX4_setDays 3 (some .int) 2 := ⟨tw_4_119, tw_1_5, by decide +kernel, by decide +kernel⟩
theorem cv_X4_setDays : Cv yX4_setDays := ⟨tw_4_117, tw_4_118⟩
theorem cd_X4_setMissing : Cd yX4_setMissing cX4_setMissing 3 (some .int) 1 := ⟨tw_4_115, tw_1_5, by decide +kernel, by decide +kernel⟩
theorem cv_X4_setMissing : Cv yX4_setMissing := ⟨tw_4_113, tw_4_114⟩
theorem cd_X4_setMode : Cd yX4_setMode cX4_setMode 2 (some .int) 1 := ⟨tw_4_64, tw_1_5, by decide +kernel, by decide +kernel⟩
theorem cv_X4_setMode : Cv yX4_setMode := ⟨tw_4_62, tw_4_63⟩
theorem cd_X4_setPeriod : Cd yX4_setPeriod cX4_setPeriod 2 (some .int) 1 := ⟨tw_4_47, tw_1_5, by decide +kernel, by decide +kernel⟩
theorem cv_X4_setPeriod : Cv yX4_setPeriod := ⟨tw_4_45, tw_4_46⟩
theorem cd_X4_setRounds : Cd yX4_setRounds cX4_setRounds 2 (some .int) 1 := ⟨tw_4_80, tw_1_5, by decide +kernel, by decide +kernel⟩
theorem cv_X4_setRounds : Cv yX4_setRounds := ⟨tw_4_78, tw_4_79⟩
theorem cd_X4_sets : Cd yX4_sets cX4_sets 4 (some .int) 2 := ⟨tw_4_56, tw_1_5, by decide +kernel, by decide +kernel⟩
theorem cv_X4_sets : Cv yX4_sets := ⟨tw_4_55, ts_2_11⟩
theorem cd_X4_size : Cd yX4_size cX4_size 2 (some .long) 1 := ⟨tw_4_199, tw_1_5, by decide +kernel, by decide +kernel⟩
theorem cd_X4_size_ : Cd yX4_size_ cX4_size_ 1 (some .int) 0 := ⟨tw_4_143, tw_1_5, by decide +kernel, by decide +kernel⟩
theorem cv_X4_size_ : Cv yX4_size_ := ⟨tw_4_141, tw_4_142⟩
theorem cd_X4_spread : Cd yX4_spread cX4_spread 1 (some .long) 0 := ⟨tw_4_226, tw_1_5, by decide +kernel, by decide +kernel⟩
theorem cv_X4_spread : Cv yX4_spread := ⟨tw_4_224, tw_4_225⟩
theorem cd_X4_thrown : Cd yX4_thrown cX4_thrown 1 (some .int) 0 := ⟨tw_4_35, tw_1_5, by decide +kernel, by decide +kernel⟩
theorem cv_X4_thrown : Cv yX4_thrown := ⟨tw_4_33, tw_4_34⟩
theorem cd_X4_trend : Cd yX4_trend cX4_trend 2 (some .long) 1 := ⟨tw_5_6, tw_1_5, by decide +kernel, by decide +kernel⟩
theorem cv_X4_trend : Cv yX4_trend := ⟨tw_5_4, tw_5_5⟩
theorem cd_X4_undo : Cd yX4_undo cX4_undo 2 (some .int) 0 := ⟨tw_4_39, tw_1_5, by decide +kernel, by decide +kernel⟩
theorem cv_X4_undo : Cv yX4_undo := ⟨tw_4_37, tw_4_38⟩
theorem cd_X4_unlike : Cd yX4_unlike cX4_unlike 2 (some .long) 1 := ⟨tw_5_59, tw_1_5, by decide +kernel, by decide +kernel⟩
theorem cv_X4_unlike : Cv yX4_unlike := ⟨tw_5_58, ts_4_9⟩
theorem cd_X4_value : Cd yX4_value cX4_value 2 (some .int) 1 := ⟨tw_4_147, tw_1_5, by decide +kernel, by decide +kernel⟩
theorem cv_X4_value : Cv yX4_value := ⟨tw_4_145, tw_4_146⟩
theorem cd_X4_valueAt : Cd yX4_valueAt cX4_valueAt 2 (some .int) 1 := ⟨tw_4_76, tw_1_5, by decide +kernel, by decide +kernel⟩
theorem cv_X4_valueAt : Cv yX4_valueAt := ⟨tw_4_75, ts_2_15⟩
theorem cd_X4_weight : Cd yX4_weight cX4_weight 2 (some .int) 1 := ⟨tw_4_222, tw_1_5, by decide +kernel, by decide +kernel⟩
theorem cv_X4_weight : Cv yX4_weight := ⟨tw_4_220, tw_4_221⟩
theorem cd_X4_within : Cd yX4_within cX4_within 6 (some .boolean) 3 := ⟨tw_4_52, tw_1_5, by decide +kernel, by decide +kernel⟩
def FC (ci : Nat) (C : String) (T : u_T) (N : Nat) (ty : Nat → FieldType) : Prop := vwCl[ci]? = some (C, T, N) ∧ (∀ w ∈ u_ws C T N, w ∈ TBL) ∧ (∀ k, k < N → parseFieldDescriptor (T k).2.2.1 = some (ty k)) ∧ (∀ a, a < N → ∀ b, b < N → a ≠ b → (T a).2.1 ≠ (T b).2.1)
theorem tl_TX0_0 : u_lay RX0 TX0 0 ∈ TBL := tb_1 114 (by decide +kernel) (by decide +kernel)
theorem tl_TX0_1 : u_lay RX0 TX0 1 ∈ TBL := tb_1 116 (by decide +kernel) (by decide +kernel)
theorem tl_TX0_2 : u_lay RX0 TX0 2 ∈ TBL := tb_1 118 (by decide +kernel) (by decide +kernel)
theorem tl_TX0_3 : u_lay RX0 TX0 3 ∈ TBL := tb_1 120 (by decide +kernel) (by decide +kernel)
theorem tl_TX0_4 : u_lay RX0 TX0 4 ∈ TBL := tb_1 122 (by decide +kernel) (by decide +kernel)
theorem tl_TX0_5 : u_lay RX0 TX0 5 ∈ TBL := tb_1 124 (by decide +kernel) (by decide +kernel)
theorem tl_TX0_6 : u_lay RX0 TX0 6 ∈ TBL := tb_1 126 (by decide +kernel) (by decide +kernel)
theorem tl_TX0_7 : u_lay RX0 TX0 7 ∈ TBL := tb_1 128 (by decide +kernel) (by decide +kernel)
theorem tl_TX0_8 : u_lay RX0 TX0 8 ∈ TBL := tb_1 130 (by decide +kernel) (by decide +kernel)
theorem tl_TX0_9 : u_lay RX0 TX0 9 ∈ TBL := tb_1 132 (by decide +kernel) (by decide +kernel)
theorem tl_TX0_10 : u_lay RX0 TX0 10 ∈ TBL := tb_1 134 (by decide +kernel) (by decide +kernel)
theorem tl_TX0_11 : u_lay RX0 TX0 11 ∈ TBL := tb_1 136 (by decide +kernel) (by decide +kernel)
theorem tl_TX0_12 : u_lay RX0 TX0 12 ∈ TBL := tb_1 138 (by decide +kernel) (by decide +kernel)
theorem tl_TX0_13 : u_lay RX0 TX0 13 ∈ TBL := tb_1 140 (by decide +kernel) (by decide +kernel)
theorem tl_TX0_14 : u_lay RX0 TX0 14 ∈ TBL := tb_1 142 (by decide +kernel) (by decide +kernel)
theorem fcX0 : FC 0 RX0 TX0 15 tyX0 := ⟨rfl, fun w h => by
  obtain ⟨k, hk, rfl⟩ := List.mem_map.mp h
  have hk := List.mem_range.mp hk
  match k, hk with
  | 0, _ => exact tl_TX0_0
  | 1, _ => exact tl_TX0_1
  | 2, _ => exact tl_TX0_2
  | 3, _ => exact tl_TX0_3
  | 4, _ => exact tl_TX0_4
  | 5, _ => exact tl_TX0_5
  | 6, _ => exact tl_TX0_6
  | 7, _ => exact tl_TX0_7
  | 8, _ => exact tl_TX0_8
  | 9, _ => exact tl_TX0_9
  | 10, _ => exact tl_TX0_10
  | 11, _ => exact tl_TX0_11
  | 12, _ => exact tl_TX0_12
  | 13, _ => exact tl_TX0_13
  | 14, _ => exact tl_TX0_14
  | k + 15, hk => exact absurd hk (by omega), tyX0_ok, nmX0⟩
theorem tl_TX1_0 : u_lay RX1 TX1 0 ∈ TBL := tb_1 75 (by decide +kernel) (by decide +kernel)
theorem tl_TX1_1 : u_lay RX1 TX1 1 ∈ TBL := tb_1 77 (by decide +kernel) (by decide +kernel)
theorem fcX1 : FC 1 RX1 TX1 2 tyX1 := ⟨rfl, fun w h => by
  obtain ⟨k, hk, rfl⟩ := List.mem_map.mp h
  have hk := List.mem_range.mp hk
  match k, hk with
  | 0, _ => exact tl_TX1_0
  | 1, _ => exact tl_TX1_1
  | k + 2, hk => exact absurd hk (by omega), tyX1_ok, nmX1⟩
theorem tl_TX2_0 : u_lay RX2 TX2 0 ∈ TBL := tb_1 46 (by decide +kernel) (by decide +kernel)
theorem tl_TX2_1 : u_lay RX2 TX2 1 ∈ TBL := tb_1 48 (by decide +kernel) (by decide +kernel)
theorem tl_TX2_2 : u_lay RX2 TX2 2 ∈ TBL := tb_1 50 (by decide +kernel) (by decide +kernel)
theorem tl_TX2_3 : u_lay RX2 TX2 3 ∈ TBL := tb_1 52 (by decide +kernel) (by decide +kernel)
theorem tl_TX2_4 : u_lay RX2 TX2 4 ∈ TBL := tb_1 54 (by decide +kernel) (by decide +kernel)
theorem tl_TX2_5 : u_lay RX2 TX2 5 ∈ TBL := tb_1 56 (by decide +kernel) (by decide +kernel)
theorem tl_TX2_6 : u_lay RX2 TX2 6 ∈ TBL := tb_1 58 (by decide +kernel) (by decide +kernel)
theorem fcX2 : FC 2 RX2 TX2 7 tyX2 := ⟨rfl, fun w h => by
  obtain ⟨k, hk, rfl⟩ := List.mem_map.mp h
  have hk := List.mem_range.mp hk
  match k, hk with
  | 0, _ => exact tl_TX2_0
  | 1, _ => exact tl_TX2_1
  | 2, _ => exact tl_TX2_2
  | 3, _ => exact tl_TX2_3
  | 4, _ => exact tl_TX2_4
  | 5, _ => exact tl_TX2_5
  | 6, _ => exact tl_TX2_6
  | k + 7, hk => exact absurd hk (by omega), tyX2_ok, nmX2⟩
theorem tl_TX3_0 : u_lay RX3 TX3 0 ∈ TBL := tb_1 150 (by decide +kernel) (by decide +kernel)
theorem tl_TX3_1 : u_lay RX3 TX3 1 ∈ TBL := tb_1 152 (by decide +kernel) (by decide +kernel)
theorem tl_TX3_2 : u_lay RX3 TX3 2 ∈ TBL := tb_1 154 (by decide +kernel) (by decide +kernel)
theorem tl_TX3_3 : u_lay RX3 TX3 3 ∈ TBL := tb_1 156 (by decide +kernel) (by decide +kernel)
theorem fcX3 : FC 3 RX3 TX3 4 tyX3 := ⟨rfl, fun w h => by
  obtain ⟨k, hk, rfl⟩ := List.mem_map.mp h
  have hk := List.mem_range.mp hk
  match k, hk with
  | 0, _ => exact tl_TX3_0
  | 1, _ => exact tl_TX3_1
  | 2, _ => exact tl_TX3_2
  | 3, _ => exact tl_TX3_3
  | k + 4, hk => exact absurd hk (by omega), tyX3_ok, nmX3⟩
theorem tl_TX4_0 : u_lay RX4 TX4 0 ∈ TBL := tb_3 239 (by decide +kernel) (by decide +kernel)
theorem tl_TX4_1 : u_lay RX4 TX4 1 ∈ TBL := tb_4 1 (by decide +kernel) (by decide +kernel)
theorem tl_TX4_2 : u_lay RX4 TX4 2 ∈ TBL := tb_4 3 (by decide +kernel) (by decide +kernel)
theorem tl_TX4_3 : u_lay RX4 TX4 3 ∈ TBL := tb_4 5 (by decide +kernel) (by decide +kernel)
theorem tl_TX4_4 : u_lay RX4 TX4 4 ∈ TBL := tb_4 7 (by decide +kernel) (by decide +kernel)
theorem tl_TX4_5 : u_lay RX4 TX4 5 ∈ TBL := tb_4 9 (by decide +kernel) (by decide +kernel)
theorem tl_TX4_6 : u_lay RX4 TX4 6 ∈ TBL := tb_4 11 (by decide +kernel) (by decide +kernel)
theorem tl_TX4_7 : u_lay RX4 TX4 7 ∈ TBL := tb_4 13 (by decide +kernel) (by decide +kernel)
theorem tl_TX4_8 : u_lay RX4 TX4 8 ∈ TBL := tb_4 15 (by decide +kernel) (by decide +kernel)
theorem tl_TX4_9 : u_lay RX4 TX4 9 ∈ TBL := tb_4 17 (by decide +kernel) (by decide +kernel)
theorem tl_TX4_10 : u_lay RX4 TX4 10 ∈ TBL := tb_4 19 (by decide +kernel) (by decide +kernel)
theorem tl_TX4_11 : u_lay RX4 TX4 11 ∈ TBL := tb_4 21 (by decide +kernel) (by decide +kernel)
theorem tl_TX4_12 : u_lay RX4 TX4 12 ∈ TBL := tb_4 23 (by decide +kernel) (by decide +kernel)
theorem tl_TX4_13 : u_lay RX4 TX4 13 ∈ TBL := tb_4 25 (by decide +kernel) (by decide +kernel)
theorem tl_TX4_14 : u_lay RX4 TX4 14 ∈ TBL := tb_4 27 (by decide +kernel) (by decide +kernel)
theorem tl_TX4_15 : u_lay RX4 TX4 15 ∈ TBL := tb_4 29 (by decide +kernel) (by decide +kernel)
theorem fcX4 : FC 4 RX4 TX4 16 tyX4 := ⟨rfl, fun w h => by
  obtain ⟨k, hk, rfl⟩ := List.mem_map.mp h
  have hk := List.mem_range.mp hk
  match k, hk with
  | 0, _ => exact tl_TX4_0
  | 1, _ => exact tl_TX4_1
  | 2, _ => exact tl_TX4_2
  | 3, _ => exact tl_TX4_3
  | 4, _ => exact tl_TX4_4
  | 5, _ => exact tl_TX4_5
  | 6, _ => exact tl_TX4_6
  | 7, _ => exact tl_TX4_7
  | 8, _ => exact tl_TX4_8
  | 9, _ => exact tl_TX4_9
  | 10, _ => exact tl_TX4_10
  | 11, _ => exact tl_TX4_11
  | 12, _ => exact tl_TX4_12
  | 13, _ => exact tl_TX4_13
  | 14, _ => exact tl_TX4_14
  | 15, _ => exact tl_TX4_15
  | k + 16, hk => exact absurd hk (by omega), tyX4_ok, nmX4⟩
def dcAll (cc : ByteArray) : List (Nat × Instr × Nat) → Bool
  | [] => true
  | q :: r => decide (decode cc q.1 = .ok (q.2.1, q.2.2)) && dcAll cc r
theorem dcq {cc : ByteArray} {L : List (Nat × Instr × Nat)} (h : dcAll cc L = true) (k : Nat) {pc : Nat} {i : Instr} {n : Nat} (hk : L[k]? = some (pc, i, n)) : decode cc pc = .ok (i, n) := by
  induction L generalizing k with
  | nil => simp at hk
  | cons q r ih =>
    simp only [dcAll, Bool.and_eq_true, decide_eq_true_eq] at h
    cases k with
    | zero =>
      simp at hk
      have h1 := h.1
      rw [hk] at h1
      exact h1
    | succ k =>
      rw [List.getElem?_cons_succ] at hk
      exact ih h.2 k hk
def dl_X0_init_0 : List (Nat × Instr × Nat) := [(0, .aload_n 0, 1), (1, .invokespecial 3, 3), (4, .aload_n 0, 1), (5, .bipush 72, 2), (7, .newarray .long, 2), (9, .putfield 9, 3), (12, .aload_n 0, 1), (13, .bipush 72, 2), (15, .newarray .long, 2), (17, .putfield 15, 3), (20, .aload_n 0, 1), (21, .bipush 72, 2), (23, .newarray .int, 2), (25, .putfield 18, 3), (28, .aload_n 0, 1), (29, .bipush 72, 2), (31, .newarray .long, 2), (33, .putfield 22, 3), (36, .aload_n 0, 1), (37, .bipush 12, 2), (39, .newarray .long, 2), (41, .putfield 25, 3), (44, .aload_n 0, 1), (45, .bipush 72, 2), (47, .newarray .long, 2), (49, .putfield 28, 3), (52, .aload_n 0, 1), (53, .bipush 72, 2), (55, .newarray .long, 2), (57, .putfield 31, 3), (60, .aload_n 0, 1), (61, .bipush 72, 2), (63, .newarray .long, 2), (65, .putfield 34, 3), (68, .aload_n 0, 1), (69, .bipush 72, 2), (71, .newarray .int, 2), (73, .putfield 37, 3), (76, .aload_n 0, 1), (77, .bipush 12, 2), (79, .newarray .int, 2), (81, .putfield 40, 3), (84, .aload_n 0, 1), (85, .lconst 0, 1), (86, .putfield 43, 3), (89, .aload_n 0, 1), (90, .iconst 0, 1), (91, .putfield 47, 3)]
theorem dc_X0_init_0 : dcAll cX0_init dl_X0_init_0 = true := by decide +kernel
def dl_X0_init_1 : List (Nat × Instr × Nat) := [(94, .aload_n 0, 1), (95, .iconst 0, 1), (96, .putfield 51, 3), (99, .aload_n 0, 1), (100, .iconst 0, 1), (101, .putfield 54, 3), (104, .aload_n 0, 1), (105, .aload_n 1, 1), (106, .putfield 57, 3), (109, .return_, 1)]
theorem dc_X0_init_1 : dcAll cX0_init dl_X0_init_1 = true := by decide +kernel
def dl_X0_compute_0 : List (Nat × Instr × Nat) := [(0, .aload_n 0, 1), (1, .aload_n 0, 1), (2, .getfield 57, 3), (5, .invokevirtual 61, 3), (8, .putfield 51, 3), (11, .aload_n 0, 1), (12, .aload_n 0, 1), (13, .getfield 57, 3), (16, .getfield 67, 3), (19, .iconst 1, 1), (20, .isub, 1), (21, .aload_n 0, 1), (22, .getfield 51, 3), (25, .isub, 1), (26, .putfield 54, 3), (29, .aload_n 0, 1), (30, .invokevirtual 70, 3), (33, .aload_n 0, 1), (34, .invokevirtual 73, 3), (37, .aload_n 0, 1), (38, .invokevirtual 76, 3), (41, .aload_n 0, 1), (42, .invokevirtual 79, 3), (45, .aload_n 0, 1), (46, .invokevirtual 82, 3), (49, .iconst 0, 1), (50, .istore_n 1, 1), (51, .iload_n 1, 1), (52, .aload_n 0, 1), (53, .getfield 57, 3), (56, .getfield 85, 3), (59, .if_icmp .ge 21, 3), (62, .aload_n 0, 1), (63, .invokevirtual 88, 3), (66, .aload_n 0, 1), (67, .invokevirtual 79, 3), (70, .aload_n 0, 1), (71, .invokevirtual 82, 3), (74, .iinc 1 1, 3), (77, .goto (-26), 3), (80, .aload_n 0, 1), (81, .invokevirtual 91, 3), (84, .aload_n 0, 1), (85, .invokevirtual 94, 3), (88, .aload_n 0, 1), (89, .invokevirtual 97, 3), (92, .aload_n 0, 1), (93, .invokevirtual 100, 3)]
theorem dc_X0_compute_0 : dcAll cX0_compute dl_X0_compute_0 = true := by decide +kernel
def dl_X0_compute_1 : List (Nat × Instr × Nat) := [(96, .aload_n 0, 1), (97, .invokevirtual 103, 3), (100, .return_, 1)]
theorem dc_X0_compute_1 : dcAll cX0_compute dl_X0_compute_1 = true := by decide +kernel
def dl_X0_computeFirstTrend_0 : List (Nat × Instr × Nat) := [(0, .aload_n 0, 1), (1, .getfield 51, 3), (4, .istore_n 1, 1), (5, .iload_n 1, 1), (6, .aload_n 0, 1), (7, .getfield 54, 3), (10, .if_icmp .gt 145, 3), (13, .lconst 0, 1), (14, .lstore_n 2, 1), (15, .iload_n 1, 1), (16, .aload_n 0, 1), (17, .getfield 51, 3), (20, .isub, 1), (21, .iconst 1, 1), (22, .iadd, 1), (23, .istore 4, 2), (25, .iload 4, 2), (27, .iload_n 1, 1), (28, .aload_n 0, 1), (29, .getfield 51, 3), (32, .iadd, 1), (33, .if_icmp .ge 23, 3), (36, .lload_n 2, 1), (37, .aload_n 0, 1), (38, .getfield 57, 3), (41, .getfield 106, 3), (44, .iload 4, 2), (46, .iaload, 1), (47, .i2l, 1), (48, .ladd, 1), (49, .lstore_n 2, 1), (50, .iinc 4 1, 3), (53, .goto (-28), 3), (56, .aload_n 0, 1), (57, .getfield 57, 3), (60, .getfield 106, 3), (63, .iload_n 1, 1), (64, .aload_n 0, 1), (65, .getfield 51, 3), (68, .isub, 1), (69, .iaload, 1), (70, .i2l, 1), (71, .aload_n 0, 1), (72, .getfield 57, 3), (75, .getfield 106, 3), (78, .iload_n 1, 1), (79, .aload_n 0, 1), (80, .getfield 51, 3)]
theorem dc_X0_computeFirstTrend_0 : dcAll cX0_computeFirstTrend dl_X0_computeFirstTrend_0 = true := by decide +kernel
def dl_X0_computeFirstTrend_1 : List (Nat × Instr × Nat) := [(83, .iadd, 1), (84, .iaload, 1), (85, .i2l, 1), (86, .ladd, 1), (87, .lstore 4, 2), (89, .aload_n 0, 1), (90, .getfield 9, 3), (93, .iload_n 1, 1), (94, .aload_n 0, 1), (95, .getfield 57, 3), (98, .getfield 109, 3), (101, .iconst 2, 1), (102, .irem, 1), (103, .iconst 1, 1), (104, .if_icmp .ne 21, 3), (107, .lload_n 2, 1), (108, .lload 4, 2), (110, .ladd, 1), (111, .aload_n 0, 1), (112, .getfield 57, 3), (115, .getfield 109, 3), (118, .i2l, 1), (119, .invokestatic 112, 3), (122, .goto 26, 3), (125, .ldc2_w 116, 3), (128, .lload_n 2, 1), (129, .lmul, 1), (130, .lload 4, 2), (132, .ladd, 1), (133, .ldc2_w 116, 3), (136, .aload_n 0, 1), (137, .getfield 57, 3), (140, .getfield 109, 3), (143, .i2l, 1), (144, .lmul, 1), (145, .invokestatic 112, 3), (148, .lastore, 1), (149, .iinc 1 1, 3), (152, .goto (-147), 3), (155, .return_, 1)]
theorem dc_X0_computeFirstTrend_1 : dcAll cX0_computeFirstTrend dl_X0_computeFirstTrend_1 = true := by decide +kernel
def dl_X0_computeDeviations_0 : List (Nat × Instr × Nat) := [(0, .aload_n 0, 1), (1, .getfield 51, 3), (4, .istore_n 1, 1), (5, .iload_n 1, 1), (6, .aload_n 0, 1), (7, .getfield 54, 3), (10, .if_icmp .gt 68, 3), (13, .aload_n 0, 1), (14, .getfield 15, 3), (17, .iload_n 1, 1), (18, .aload_n 0, 1), (19, .getfield 57, 3), (22, .getfield 118, 3), (25, .ifCond .ne 23, 3), (28, .aload_n 0, 1), (29, .getfield 57, 3), (32, .getfield 106, 3), (35, .iload_n 1, 1), (36, .iaload, 1), (37, .i2l, 1), (38, .aload_n 0, 1), (39, .getfield 9, 3), (42, .iload_n 1, 1), (43, .laload, 1), (44, .lsub, 1), (45, .goto 26, 3), (48, .ldc2_w 121, 3), (51, .aload_n 0, 1), (52, .getfield 57, 3), (55, .getfield 106, 3), (58, .iload_n 1, 1), (59, .iaload, 1), (60, .i2l, 1), (61, .lmul, 1), (62, .aload_n 0, 1), (63, .getfield 9, 3), (66, .iload_n 1, 1), (67, .laload, 1), (68, .invokestatic 112, 3), (71, .lastore, 1), (72, .iinc 1 1, 3), (75, .goto (-70), 3), (78, .return_, 1)]
theorem dc_X0_computeDeviations_0 : dcAll cX0_computeDeviations dl_X0_computeDeviations_0 = true := by decide +kernel
def dl_X0_giveFullWeights_0 : List (Nat × Instr × Nat) := [(0, .aload_n 0, 1), (1, .getfield 51, 3), (4, .istore_n 1, 1), (5, .iload_n 1, 1), (6, .aload_n 0, 1), (7, .getfield 54, 3), (10, .if_icmp .gt 17, 3), (13, .aload_n 0, 1), (14, .getfield 18, 3), (17, .iload_n 1, 1), (18, .bipush 100, 2), (20, .iastore, 1), (21, .iinc 1 1, 3), (24, .goto (-19), 3), (27, .return_, 1)]
theorem dc_X0_giveFullWeights_0 : dcAll cX0_giveFullWeights dl_X0_giveFullWeights_0 = true := by decide +kernel
def dl_X0_computeFactors_0 : List (Nat × Instr × Nat) := [(0, .lconst 0, 1), (1, .lstore_n 1, 1), (2, .iconst 0, 1), (3, .istore_n 3, 1), (4, .iload_n 3, 1), (5, .aload_n 0, 1), (6, .getfield 57, 3), (9, .getfield 109, 3), (12, .if_icmp .ge 29, 3), (15, .aload_n 0, 1), (16, .getfield 25, 3), (19, .iload_n 3, 1), (20, .aload_n 0, 1), (21, .iload_n 3, 1), (22, .invokevirtual 123, 3), (25, .lastore, 1), (26, .lload_n 1, 1), (27, .aload_n 0, 1), (28, .getfield 25, 3), (31, .iload_n 3, 1), (32, .laload, 1), (33, .ladd, 1), (34, .lstore_n 1, 1), (35, .iinc 3 1, 3), (38, .goto (-34), 3), (41, .iconst 0, 1), (42, .istore_n 3, 1), (43, .iload_n 3, 1), (44, .aload_n 0, 1), (45, .getfield 57, 3), (48, .getfield 109, 3), (51, .if_icmp .ge 58, 3), (54, .aload_n 0, 1), (55, .getfield 25, 3), (58, .iload_n 3, 1), (59, .aload_n 0, 1), (60, .getfield 57, 3), (63, .getfield 118, 3), (66, .ifCond .ne 25, 3), (69, .aload_n 0, 1), (70, .getfield 25, 3), (73, .iload_n 3, 1), (74, .laload, 1), (75, .lload_n 1, 1), (76, .aload_n 0, 1), (77, .getfield 57, 3), (80, .getfield 109, 3), (83, .i2l, 1)]
theorem dc_X0_computeFactors_0 : dcAll cX0_computeFactors dl_X0_computeFactors_0 = true := by decide +kernel
def dl_X0_computeFactors_1 : List (Nat × Instr × Nat) := [(84, .invokestatic 112, 3), (87, .lsub, 1), (88, .goto 14, 3), (91, .aload_n 0, 1), (92, .aload_n 0, 1), (93, .getfield 25, 3), (96, .iload_n 3, 1), (97, .laload, 1), (98, .lload_n 1, 1), (99, .invokevirtual 127, 3), (102, .lastore, 1), (103, .iinc 3 1, 3), (106, .goto (-63), 3), (109, .return_, 1)]
theorem dc_X0_computeFactors_1 : dcAll cX0_computeFactors dl_X0_computeFactors_1 = true := by decide +kernel
def dl_X0_rawFactor_0 : List (Nat × Instr × Nat) := [(0, .lconst 0, 1), (1, .lstore_n 2, 1), (2, .lconst 0, 1), (3, .lstore 4, 2), (5, .lconst 0, 1), (6, .lstore 6, 2), (8, .lconst 0, 1), (9, .lstore 8, 2), (11, .aload_n 0, 1), (12, .getfield 51, 3), (15, .istore 10, 2), (17, .iload 10, 2), (19, .aload_n 0, 1), (20, .getfield 54, 3), (23, .if_icmp .gt 72, 3), (26, .aload_n 0, 1), (27, .getfield 57, 3), (30, .iload 10, 2), (32, .invokevirtual 130, 3), (35, .iload_n 1, 1), (36, .if_icmp .ne 53, 3), (39, .lload_n 2, 1), (40, .aload_n 0, 1), (41, .getfield 18, 3), (44, .iload 10, 2), (46, .iaload, 1), (47, .i2l, 1), (48, .aload_n 0, 1), (49, .getfield 15, 3), (52, .iload 10, 2), (54, .laload, 1), (55, .lmul, 1), (56, .ladd, 1), (57, .lstore_n 2, 1), (58, .lload 4, 2), (60, .aload_n 0, 1), (61, .getfield 15, 3), (64, .iload 10, 2), (66, .laload, 1), (67, .ladd, 1), (68, .lstore 4, 2), (70, .lload 6, 2), (72, .aload_n 0, 1), (73, .getfield 18, 3), (76, .iload 10, 2), (78, .iaload, 1), (79, .i2l, 1), (80, .ladd, 1)]
theorem dc_X0_rawFactor_0 : dcAll cX0_rawFactor dl_X0_rawFactor_0 = true := by decide +kernel
def dl_X0_rawFactor_1 : List (Nat × Instr × Nat) := [(81, .lstore 6, 2), (83, .lload 8, 2), (85, .lconst 1, 1), (86, .ladd, 1), (87, .lstore 8, 2), (89, .iinc 10 1, 3), (92, .goto (-75), 3), (95, .lload 6, 2), (97, .lconst 0, 1), (98, .lcmp, 1), (99, .ifCond .ne 13, 3), (102, .lload 4, 2), (104, .lload 8, 2), (106, .invokestatic 112, 3), (109, .goto 9, 3), (112, .lload_n 2, 1), (113, .lload 6, 2), (115, .invokestatic 112, 3), (118, .lreturn, 1)]
theorem dc_X0_rawFactor_1 : dcAll cX0_rawFactor dl_X0_rawFactor_1 = true := by decide +kernel
def dl_X0_ratioFactor_0 : List (Nat × Instr × Nat) := [(0, .lload_n 3, 1), (1, .lconst 0, 1), (2, .lcmp, 1), (3, .ifCond .ne 7, 3), (6, .lconst 1, 1), (7, .goto 25, 3), (10, .lconst 1, 1), (11, .ldc2_w 121, 3), (14, .aload_n 0, 1), (15, .getfield 57, 3), (18, .getfield 109, 3), (21, .i2l, 1), (22, .lmul, 1), (23, .lload_n 1, 1), (24, .lmul, 1), (25, .lload_n 3, 1), (26, .invokestatic 112, 3), (29, .invokestatic 134, 3), (32, .lreturn, 1)]
theorem dc_X0_ratioFactor_0 : dcAll cX0_ratioFactor dl_X0_ratioFactor_0 = true := by decide +kernel
def dl_X0_computeDistances_0 : List (Nat × Instr × Nat) := [(0, .lconst 0, 1), (1, .lstore_n 1, 1), (2, .aload_n 0, 1), (3, .getfield 51, 3), (6, .istore_n 3, 1), (7, .iload_n 3, 1), (8, .aload_n 0, 1), (9, .getfield 54, 3), (12, .if_icmp .gt 47, 3), (15, .aload_n 0, 1), (16, .getfield 22, 3), (19, .iload_n 3, 1), (20, .aload_n 0, 1), (21, .getfield 15, 3), (24, .iload_n 3, 1), (25, .laload, 1), (26, .aload_n 0, 1), (27, .getfield 25, 3), (30, .aload_n 0, 1), (31, .getfield 57, 3), (34, .iload_n 3, 1), (35, .invokevirtual 130, 3), (38, .laload, 1), (39, .lsub, 1), (40, .invokestatic 139, 3), (43, .lastore, 1), (44, .lload_n 1, 1), (45, .aload_n 0, 1), (46, .getfield 22, 3), (49, .iload_n 3, 1), (50, .laload, 1), (51, .ladd, 1), (52, .lstore_n 1, 1), (53, .iinc 3 1, 3), (56, .goto (-49), 3), (59, .aload_n 0, 1), (60, .ldc2_w 143, 3), (63, .lload_n 1, 1), (64, .lmul, 1), (65, .ldc2_w 145, 3), (68, .aload_n 0, 1), (69, .getfield 54, 3), (72, .aload_n 0, 1), (73, .getfield 51, 3), (76, .isub, 1), (77, .iconst 1, 1), (78, .iadd, 1), (79, .i2l, 1)]
theorem dc_X0_computeDistances_0 : dcAll cX0_computeDistances dl_X0_computeDistances_0 = true := by decide +kernel
def dl_X0_computeDistances_1 : List (Nat × Instr × Nat) := [(80, .lmul, 1), (81, .invokestatic 112, 3), (84, .putfield 43, 3), (87, .return_, 1)]
theorem dc_X0_computeDistances_1 : dcAll cX0_computeDistances dl_X0_computeDistances_1 = true := by decide +kernel
def dl_X0_computeWeights_0 : List (Nat × Instr × Nat) := [(0, .aload_n 0, 1), (1, .getfield 51, 3), (4, .istore_n 1, 1), (5, .iload_n 1, 1), (6, .aload_n 0, 1), (7, .getfield 54, 3), (10, .if_icmp .gt 29, 3), (13, .aload_n 0, 1), (14, .getfield 18, 3), (17, .iload_n 1, 1), (18, .aload_n 0, 1), (19, .ldc2_w 116, 3), (22, .aload_n 0, 1), (23, .getfield 22, 3), (26, .iload_n 1, 1), (27, .laload, 1), (28, .lmul, 1), (29, .invokevirtual 147, 3), (32, .iastore, 1), (33, .iinc 1 1, 3), (36, .goto (-31), 3), (39, .return_, 1)]
theorem dc_X0_computeWeights_0 : dcAll cX0_computeWeights dl_X0_computeWeights_0 = true := by decide +kernel
def dl_X0_weightFor_0 : List (Nat × Instr × Nat) := [(0, .lload_n 1, 1), (1, .ldc2_w 151, 3), (4, .aload_n 0, 1), (5, .getfield 43, 3), (8, .lmul, 1), (9, .lcmp, 1), (10, .ifCond .gt 6, 3), (13, .bipush 100, 2), (15, .ireturn, 1), (16, .lload_n 1, 1), (17, .ldc2_w 143, 3), (20, .aload_n 0, 1), (21, .getfield 43, 3), (24, .lmul, 1), (25, .lcmp, 1), (26, .ifCond .lt 5, 3), (29, .iconst 0, 1), (30, .ireturn, 1), (31, .ldc2_w 153, 3), (34, .ldc2_w 143, 3), (37, .aload_n 0, 1), (38, .getfield 43, 3), (41, .lmul, 1), (42, .lload_n 1, 1), (43, .lsub, 1), (44, .lmul, 1), (45, .ldc2_w 116, 3), (48, .aload_n 0, 1), (49, .getfield 43, 3), (52, .lmul, 1), (53, .invokestatic 112, 3), (56, .l2i, 1), (57, .ireturn, 1)]
theorem dc_X0_weightFor_0 : dcAll cX0_weightFor dl_X0_weightFor_0 = true := by decide +kernel
def dl_X0_computeLevel_0 : List (Nat × Instr × Nat) := [(0, .iconst 0, 1), (1, .istore_n 1, 1), (2, .iload_n 1, 1), (3, .aload_n 0, 1), (4, .getfield 57, 3), (7, .getfield 67, 3), (10, .if_icmp .ge 72, 3), (13, .aload_n 0, 1), (14, .getfield 25, 3), (17, .aload_n 0, 1), (18, .getfield 57, 3), (21, .iload_n 1, 1), (22, .invokevirtual 130, 3), (25, .laload, 1), (26, .lstore_n 2, 1), (27, .aload_n 0, 1), (28, .getfield 28, 3), (31, .iload_n 1, 1), (32, .aload_n 0, 1), (33, .getfield 57, 3), (36, .getfield 118, 3), (39, .ifCond .ne 18, 3), (42, .aload_n 0, 1), (43, .getfield 57, 3), (46, .getfield 106, 3), (49, .iload_n 1, 1), (50, .iaload, 1), (51, .i2l, 1), (52, .lload_n 2, 1), (53, .lsub, 1), (54, .goto 21, 3), (57, .ldc2_w 121, 3), (60, .aload_n 0, 1), (61, .getfield 57, 3), (64, .getfield 106, 3), (67, .iload_n 1, 1), (68, .iaload, 1), (69, .i2l, 1), (70, .lmul, 1), (71, .lload_n 2, 1), (72, .invokestatic 112, 3), (75, .lastore, 1), (76, .iinc 1 1, 3), (79, .goto (-77), 3), (82, .return_, 1)]
theorem dc_X0_computeLevel_0 : dcAll cX0_computeLevel dl_X0_computeLevel_0 = true := by decide +kernel
def dl_X0_computeSmooth_0 : List (Nat × Instr × Nat) := [(0, .iconst 2, 1), (1, .istore_n 1, 1), (2, .iload_n 1, 1), (3, .aload_n 0, 1), (4, .getfield 57, 3), (7, .getfield 67, 3), (10, .iconst 2, 1), (11, .isub, 1), (12, .if_icmp .ge 81, 3), (15, .aload_n 0, 1), (16, .getfield 28, 3), (19, .iload_n 1, 1), (20, .iconst 2, 1), (21, .isub, 1), (22, .laload, 1), (23, .aload_n 0, 1), (24, .getfield 28, 3), (27, .iload_n 1, 1), (28, .iconst 2, 1), (29, .iadd, 1), (30, .laload, 1), (31, .ladd, 1), (32, .lstore_n 2, 1), (33, .aload_n 0, 1), (34, .getfield 28, 3), (37, .iload_n 1, 1), (38, .iconst 1, 1), (39, .isub, 1), (40, .laload, 1), (41, .aload_n 0, 1), (42, .getfield 28, 3), (45, .iload_n 1, 1), (46, .iconst 1, 1), (47, .iadd, 1), (48, .laload, 1), (49, .ladd, 1), (50, .lstore 4, 2), (52, .aload_n 0, 1), (53, .getfield 31, 3), (56, .iload_n 1, 1), (57, .ldc2_w 155, 3), (60, .lload_n 2, 1), (61, .lmul, 1), (62, .ldc2_w 157, 3), (65, .lload 4, 2), (67, .lmul, 1), (68, .ladd, 1), (69, .ldc2_w 159, 3)]
theorem dc_X0_computeSmooth_0 : dcAll cX0_computeSmooth dl_X0_computeSmooth_0 = true := by decide +kernel
def dl_X0_computeSmooth_1 : List (Nat × Instr × Nat) := [(72, .aload_n 0, 1), (73, .getfield 28, 3), (76, .iload_n 1, 1), (77, .laload, 1), (78, .lmul, 1), (79, .ladd, 1), (80, .ldc2_w 161, 3), (83, .invokestatic 112, 3), (86, .lastore, 1), (87, .iinc 1 1, 3), (90, .goto (-88), 3), (93, .aload_n 0, 1), (94, .iconst 0, 1), (95, .iconst 1, 1), (96, .invokevirtual 163, 3), (99, .aload_n 0, 1), (100, .aload_n 0, 1), (101, .getfield 57, 3), (104, .getfield 67, 3), (107, .iconst 1, 1), (108, .isub, 1), (109, .iconst (-1), 1), (110, .invokevirtual 163, 3), (113, .return_, 1)]
theorem dc_X0_computeSmooth_1 : dcAll cX0_computeSmooth dl_X0_computeSmooth_1 = true := by decide +kernel
def dl_X0_computeSmoothEnd_0 : List (Nat × Instr × Nat) := [(0, .iload_n 1, 1), (1, .iload_n 2, 1), (2, .iadd, 1), (3, .istore_n 3, 1), (4, .iload_n 3, 1), (5, .iload_n 2, 1), (6, .iadd, 1), (7, .istore 4, 2), (9, .aload_n 0, 1), (10, .getfield 31, 3), (13, .iload_n 3, 1), (14, .aload_n 0, 1), (15, .getfield 28, 3), (18, .iload_n 1, 1), (19, .laload, 1), (20, .ldc2_w 116, 3), (23, .aload_n 0, 1), (24, .getfield 28, 3), (27, .iload_n 3, 1), (28, .laload, 1), (29, .lmul, 1), (30, .ladd, 1), (31, .aload_n 0, 1), (32, .getfield 28, 3), (35, .iload 4, 2), (37, .laload, 1), (38, .ladd, 1), (39, .ldc2_w 145, 3), (42, .invokestatic 112, 3), (45, .lastore, 1), (46, .aload_n 0, 1), (47, .getfield 31, 3), (50, .iload_n 1, 1), (51, .ldc2_w 116, 3), (54, .aload_n 0, 1), (55, .getfield 31, 3), (58, .iload_n 3, 1), (59, .laload, 1), (60, .lmul, 1), (61, .aload_n 0, 1), (62, .getfield 31, 3), (65, .iload 4, 2), (67, .laload, 1), (68, .lsub, 1), (69, .lastore, 1), (70, .return_, 1)]
theorem dc_X0_computeSmoothEnd_0 : dcAll cX0_computeSmoothEnd dl_X0_computeSmoothEnd_0 = true := by decide +kernel
def dl_X0_computeRest_0 : List (Nat × Instr × Nat) := [(0, .iconst 0, 1), (1, .istore_n 1, 1), (2, .iload_n 1, 1), (3, .aload_n 0, 1), (4, .getfield 57, 3), (7, .getfield 67, 3), (10, .if_icmp .ge 46, 3), (13, .aload_n 0, 1), (14, .getfield 34, 3), (17, .iload_n 1, 1), (18, .aload_n 0, 1), (19, .getfield 57, 3), (22, .getfield 118, 3), (25, .ifCond .ne 19, 3), (28, .aload_n 0, 1), (29, .getfield 28, 3), (32, .iload_n 1, 1), (33, .laload, 1), (34, .aload_n 0, 1), (35, .getfield 31, 3), (38, .iload_n 1, 1), (39, .laload, 1), (40, .lsub, 1), (41, .goto 8, 3), (44, .aload_n 0, 1), (45, .iload_n 1, 1), (46, .invokevirtual 167, 3), (49, .lastore, 1), (50, .iinc 1 1, 3), (53, .goto (-51), 3), (56, .return_, 1)]
theorem dc_X0_computeRest_0 : dcAll cX0_computeRest dl_X0_computeRest_0 = true := by decide +kernel
def dl_X0_restRatio_0 : List (Nat × Instr × Nat) := [(0, .aload_n 0, 1), (1, .getfield 31, 3), (4, .iload_n 1, 1), (5, .laload, 1), (6, .lconst 0, 1), (7, .lcmp, 1), (8, .ifCond .le 25, 3), (11, .ldc2_w 121, 3), (14, .aload_n 0, 1), (15, .getfield 28, 3), (18, .iload_n 1, 1), (19, .laload, 1), (20, .lmul, 1), (21, .aload_n 0, 1), (22, .getfield 31, 3), (25, .iload_n 1, 1), (26, .laload, 1), (27, .invokestatic 112, 3), (30, .goto 6, 3), (33, .ldc2_w 121, 3), (36, .lreturn, 1)]
theorem dc_X0_restRatio_0 : dcAll cX0_restRatio dl_X0_restRatio_0 = true := by decide +kernel
def dl_X0_orderOutliers_0 : List (Nat × Instr × Nat) := [(0, .aload_n 0, 1), (1, .iconst 0, 1), (2, .putfield 47, 3), (5, .aload_n 0, 1), (6, .getfield 51, 3), (9, .istore_n 1, 1), (10, .iload_n 1, 1), (11, .aload_n 0, 1), (12, .getfield 54, 3), (15, .if_icmp .gt 82, 3), (18, .aload_n 0, 1), (19, .getfield 18, 3), (22, .iload_n 1, 1), (23, .iaload, 1), (24, .bipush 100, 2), (26, .if_icmp .ge 65, 3), (29, .aload_n 0, 1), (30, .getfield 47, 3), (33, .istore_n 2, 1), (34, .iload_n 2, 1), (35, .ifCond .le 39, 3), (38, .aload_n 0, 1), (39, .iload_n 1, 1), (40, .aload_n 0, 1), (41, .getfield 37, 3), (44, .iload_n 2, 1), (45, .iconst 1, 1), (46, .isub, 1), (47, .iaload, 1), (48, .invokevirtual 170, 3), (51, .ifCond .eq 23, 3), (54, .aload_n 0, 1), (55, .getfield 37, 3), (58, .iload_n 2, 1), (59, .aload_n 0, 1), (60, .getfield 37, 3), (63, .iload_n 2, 1), (64, .iconst 1, 1), (65, .isub, 1), (66, .iaload, 1), (67, .iastore, 1), (68, .iinc 2 (-1), 3), (71, .goto (-37), 3), (74, .aload_n 0, 1), (75, .getfield 37, 3), (78, .iload_n 2, 1), (79, .iload_n 1, 1), (80, .iastore, 1)]
theorem dc_X0_orderOutliers_0 : dcAll cX0_orderOutliers dl_X0_orderOutliers_0 = true := by decide +kernel
def dl_X0_orderOutliers_1 : List (Nat × Instr × Nat) := [(81, .aload_n 0, 1), (82, .dup, 1), (83, .getfield 47, 3), (86, .iconst 1, 1), (87, .iadd, 1), (88, .putfield 47, 3), (91, .iinc 1 1, 3), (94, .goto (-84), 3), (97, .return_, 1)]
theorem dc_X0_orderOutliers_1 : dcAll cX0_orderOutliers dl_X0_orderOutliers_1 = true := by decide +kernel
def dl_X0_isMoreExtreme_0 : List (Nat × Instr × Nat) := [(0, .aload_n 0, 1), (1, .getfield 18, 3), (4, .iload_n 1, 1), (5, .iaload, 1), (6, .aload_n 0, 1), (7, .getfield 18, 3), (10, .iload_n 2, 1), (11, .iaload, 1), (12, .if_icmp .eq 24, 3), (15, .aload_n 0, 1), (16, .getfield 18, 3), (19, .iload_n 1, 1), (20, .iaload, 1), (21, .aload_n 0, 1), (22, .getfield 18, 3), (25, .iload_n 2, 1), (26, .iaload, 1), (27, .if_icmp .ge 7, 3), (30, .iconst 1, 1), (31, .goto 4, 3), (34, .iconst 0, 1), (35, .ireturn, 1), (36, .aload_n 0, 1), (37, .getfield 22, 3), (40, .iload_n 1, 1), (41, .laload, 1), (42, .aload_n 0, 1), (43, .getfield 22, 3), (46, .iload_n 2, 1), (47, .laload, 1), (48, .lcmp, 1), (49, .ifCond .le 7, 3), (52, .iconst 1, 1), (53, .goto 4, 3), (56, .iconst 0, 1), (57, .ireturn, 1)]
theorem dc_X0_isMoreExtreme_0 : dcAll cX0_isMoreExtreme dl_X0_isMoreExtreme_0 = true := by decide +kernel
def dl_X0_orderSeasons_0 : List (Nat × Instr × Nat) := [(0, .iconst 0, 1), (1, .istore_n 1, 1), (2, .iload_n 1, 1), (3, .aload_n 0, 1), (4, .getfield 57, 3), (7, .getfield 109, 3), (10, .if_icmp .ge 65, 3), (13, .iload_n 1, 1), (14, .istore_n 2, 1), (15, .iload_n 2, 1), (16, .ifCond .le 46, 3), (19, .aload_n 0, 1), (20, .getfield 25, 3), (23, .iload_n 1, 1), (24, .laload, 1), (25, .aload_n 0, 1), (26, .getfield 25, 3), (29, .aload_n 0, 1), (30, .getfield 40, 3), (33, .iload_n 2, 1), (34, .iconst 1, 1), (35, .isub, 1), (36, .iaload, 1), (37, .laload, 1), (38, .lcmp, 1), (39, .ifCond .le 23, 3), (42, .aload_n 0, 1), (43, .getfield 40, 3), (46, .iload_n 2, 1), (47, .aload_n 0, 1), (48, .getfield 40, 3), (51, .iload_n 2, 1), (52, .iconst 1, 1), (53, .isub, 1), (54, .iaload, 1), (55, .iastore, 1), (56, .iinc 2 (-1), 3), (59, .goto (-44), 3), (62, .aload_n 0, 1), (63, .getfield 40, 3), (66, .iload_n 2, 1), (67, .iload_n 1, 1), (68, .iastore, 1), (69, .iinc 1 1, 3), (72, .goto (-70), 3), (75, .return_, 1)]
theorem dc_X0_orderSeasons_0 : dcAll cX0_orderSeasons dl_X0_orderSeasons_0 = true := by decide +kernel
def dl_X0_addToHash_0 : List (Nat × Instr × Nat) := [(0, .ldc2_w 174, 3), (3, .lload_n 1, 1), (4, .lmul, 1), (5, .aload_n 0, 1), (6, .getfield 43, 3), (9, .ladd, 1), (10, .lstore_n 3, 1), (11, .iconst 0, 1), (12, .istore 5, 2), (14, .iload 5, 2), (16, .aload_n 0, 1), (17, .getfield 57, 3), (20, .getfield 109, 3), (23, .if_icmp .ge 23, 3), (26, .ldc2_w 174, 3), (29, .lload_n 3, 1), (30, .lmul, 1), (31, .aload_n 0, 1), (32, .getfield 25, 3), (35, .iload 5, 2), (37, .laload, 1), (38, .ladd, 1), (39, .lstore_n 3, 1), (40, .iinc 5 1, 3), (43, .goto (-29), 3), (46, .ldc2_w 174, 3), (49, .lload_n 3, 1), (50, .lmul, 1), (51, .aload_n 0, 1), (52, .getfield 47, 3), (55, .i2l, 1), (56, .ladd, 1), (57, .lstore_n 3, 1), (58, .aload_n 0, 1), (59, .getfield 51, 3), (62, .istore 5, 2), (64, .iload 5, 2), (66, .aload_n 0, 1), (67, .getfield 54, 3), (70, .if_icmp .gt 24, 3), (73, .ldc2_w 174, 3), (76, .lload_n 3, 1), (77, .lmul, 1), (78, .aload_n 0, 1), (79, .getfield 18, 3), (82, .iload 5, 2), (84, .iaload, 1), (85, .i2l, 1)]
theorem dc_X0_addToHash_0 : dcAll cX0_addToHash dl_X0_addToHash_0 = true := by decide +kernel
def dl_X0_addToHash_1 : List (Nat × Instr × Nat) := [(86, .ladd, 1), (87, .lstore_n 3, 1), (88, .iinc 5 1, 3), (91, .goto (-27), 3), (94, .iconst 0, 1), (95, .istore 5, 2), (97, .iload 5, 2), (99, .aload_n 0, 1), (100, .getfield 57, 3), (103, .getfield 67, 3), (106, .if_icmp .ge 37, 3), (109, .ldc2_w 174, 3), (112, .lload_n 3, 1), (113, .lmul, 1), (114, .aload_n 0, 1), (115, .getfield 31, 3), (118, .iload 5, 2), (120, .laload, 1), (121, .ladd, 1), (122, .lstore_n 3, 1), (123, .ldc2_w 174, 3), (126, .lload_n 3, 1), (127, .lmul, 1), (128, .aload_n 0, 1), (129, .getfield 34, 3), (132, .iload 5, 2), (134, .laload, 1), (135, .ladd, 1), (136, .lstore_n 3, 1), (137, .iinc 5 1, 3), (140, .goto (-43), 3), (143, .lload_n 3, 1), (144, .lreturn, 1)]
theorem dc_X0_addToHash_1 : dcAll cX0_addToHash dl_X0_addToHash_1 = true := by decide +kernel
def dl_X1_init_0 : List (Nat × Instr × Nat) := [(0, .aload_n 0, 1), (1, .invokespecial 3, 3), (4, .aload_n 0, 1), (5, .iconst 4, 1), (6, .anewarray 9, 3), (9, .putfield 11, 3), (12, .aload_n 0, 1), (13, .iconst 0, 1), (14, .putfield 17, 3), (17, .iconst 0, 1), (18, .istore_n 1, 1), (19, .iload_n 1, 1), (20, .iconst 4, 1), (21, .if_icmp .ge 22, 3), (24, .aload_n 0, 1), (25, .getfield 11, 3), (28, .iload_n 1, 1), (29, .new 9, 3), (32, .dup, 1), (33, .invokespecial 21, 3), (36, .aastore, 1), (37, .iinc 1 1, 3), (40, .goto (-21), 3), (43, .return_, 1)]
theorem dc_X1_init_0 : dcAll cX1_init dl_X1_init_0 = true := by decide +kernel
def dl_X1_save_0 : List (Nat × Instr × Nat) := [(0, .aload_n 0, 1), (1, .getfield 17, 3), (4, .iconst 4, 1), (5, .if_icmp .lt 7, 3), (8, .aload_n 0, 1), (9, .invokevirtual 22, 3), (12, .aload_n 0, 1), (13, .getfield 11, 3), (16, .aload_n 0, 1), (17, .getfield 17, 3), (20, .aaload, 1), (21, .astore_n 2, 1), (22, .aload_n 2, 1), (23, .ifnull 18, 3), (26, .aload_n 2, 1), (27, .aload_n 1, 1), (28, .invokevirtual 25, 3), (31, .aload_n 0, 1), (32, .dup, 1), (33, .getfield 17, 3), (36, .iconst 1, 1), (37, .iadd, 1), (38, .putfield 17, 3), (41, .return_, 1)]
theorem dc_X1_save_0 : dcAll cX1_save dl_X1_save_0 = true := by decide +kernel
def dl_X1_dropOldest_0 : List (Nat × Instr × Nat) := [(0, .aload_n 0, 1), (1, .getfield 11, 3), (4, .iconst 0, 1), (5, .aaload, 1), (6, .astore_n 1, 1), (7, .iconst 1, 1), (8, .istore_n 2, 1), (9, .iload_n 2, 1), (10, .iconst 4, 1), (11, .if_icmp .ge 23, 3), (14, .aload_n 0, 1), (15, .getfield 11, 3), (18, .iload_n 2, 1), (19, .iconst 1, 1), (20, .isub, 1), (21, .aload_n 0, 1), (22, .getfield 11, 3), (25, .iload_n 2, 1), (26, .aaload, 1), (27, .aastore, 1), (28, .iinc 2 1, 3), (31, .goto (-22), 3), (34, .aload_n 0, 1), (35, .getfield 11, 3), (38, .iconst 3, 1), (39, .aload_n 1, 1), (40, .aastore, 1), (41, .aload_n 0, 1), (42, .iconst 3, 1), (43, .putfield 17, 3), (46, .return_, 1)]
theorem dc_X1_dropOldest_0 : dcAll cX1_dropOldest dl_X1_dropOldest_0 = true := by decide +kernel
def dl_X1_restoreInto_0 : List (Nat × Instr × Nat) := [(0, .aload_n 0, 1), (1, .getfield 17, 3), (4, .ifCond .le 32, 3), (7, .aload_n 0, 1), (8, .dup, 1), (9, .getfield 17, 3), (12, .iconst 1, 1), (13, .isub, 1), (14, .putfield 17, 3), (17, .aload_n 0, 1), (18, .getfield 11, 3), (21, .aload_n 0, 1), (22, .getfield 17, 3), (25, .aaload, 1), (26, .astore_n 2, 1), (27, .aload_n 2, 1), (28, .ifnull 8, 3), (31, .aload_n 1, 1), (32, .aload_n 2, 1), (33, .invokevirtual 25, 3), (36, .return_, 1)]
theorem dc_X1_restoreInto_0 : dcAll cX1_restoreInto dl_X1_restoreInto_0 = true := by decide +kernel
def dl_X2_init_0 : List (Nat × Instr × Nat) := [(0, .aload_n 0, 1), (1, .invokespecial 3, 3), (4, .aload_n 0, 1), (5, .iconst 4, 1), (6, .putfield 9, 3), (9, .aload_n 0, 1), (10, .iconst 0, 1), (11, .putfield 15, 3), (14, .aload_n 0, 1), (15, .iconst 2, 1), (16, .putfield 18, 3), (19, .aload_n 0, 1), (20, .iconst 0, 1), (21, .putfield 21, 3), (24, .aload_n 0, 1), (25, .bipush 72, 2), (27, .newarray .int, 2), (29, .putfield 24, 3), (32, .aload_n 0, 1), (33, .bipush 72, 2), (35, .newarray .boolean, 2), (37, .putfield 28, 3), (40, .aload_n 0, 1), (41, .bipush 72, 2), (43, .newarray .int, 2), (45, .putfield 32, 3), (48, .return_, 1)]
theorem dc_X2_init_0 : dcAll cX2_init dl_X2_init_0 = true := by decide +kernel
def dl_X2_copyFrom_0 : List (Nat × Instr × Nat) := [(0, .aload_n 0, 1), (1, .aload_n 1, 1), (2, .getfield 9, 3), (5, .putfield 9, 3), (8, .aload_n 0, 1), (9, .aload_n 1, 1), (10, .getfield 15, 3), (13, .putfield 15, 3), (16, .aload_n 0, 1), (17, .aload_n 1, 1), (18, .getfield 18, 3), (21, .putfield 18, 3), (24, .aload_n 0, 1), (25, .aload_n 1, 1), (26, .getfield 21, 3), (29, .putfield 21, 3), (32, .iconst 0, 1), (33, .istore_n 2, 1), (34, .iload_n 2, 1), (35, .aload_n 0, 1), (36, .getfield 21, 3), (39, .if_icmp .ge 45, 3), (42, .aload_n 0, 1), (43, .getfield 24, 3), (46, .iload_n 2, 1), (47, .aload_n 1, 1), (48, .getfield 24, 3), (51, .iload_n 2, 1), (52, .iaload, 1), (53, .iastore, 1), (54, .aload_n 0, 1), (55, .getfield 28, 3), (58, .iload_n 2, 1), (59, .aload_n 1, 1), (60, .getfield 28, 3), (63, .iload_n 2, 1), (64, .baload, 1), (65, .bastore, 1), (66, .aload_n 0, 1), (67, .getfield 32, 3), (70, .iload_n 2, 1), (71, .aload_n 1, 1), (72, .getfield 32, 3), (75, .iload_n 2, 1), (76, .iaload, 1), (77, .iastore, 1), (78, .iinc 2 1, 3), (81, .goto (-47), 3)]
theorem dc_X2_copyFrom_0 : dcAll cX2_copyFrom dl_X2_copyFrom_0 = true := by decide +kernel
def dl_X2_copyFrom_1 : List (Nat × Instr × Nat) := [(84, .return_, 1)]
theorem dc_X2_copyFrom_1 : dcAll cX2_copyFrom dl_X2_copyFrom_1 = true := by decide +kernel
def dl_X2_addEntry_0 : List (Nat × Instr × Nat) := [(0, .aload_n 0, 1), (1, .getfield 21, 3), (4, .istore_n 3, 1), (5, .iload_n 3, 1), (6, .bipush 72, 2), (8, .if_icmp .ge 35, 3), (11, .aload_n 0, 1), (12, .getfield 24, 3), (15, .iload_n 3, 1), (16, .iload_n 1, 1), (17, .iastore, 1), (18, .aload_n 0, 1), (19, .getfield 28, 3), (22, .iload_n 3, 1), (23, .iload_n 2, 1), (24, .bastore, 1), (25, .aload_n 0, 1), (26, .getfield 32, 3), (29, .iload_n 3, 1), (30, .bipush 20, 2), (32, .iastore, 1), (33, .aload_n 0, 1), (34, .dup, 1), (35, .getfield 21, 3), (38, .iconst 1, 1), (39, .iadd, 1), (40, .putfield 21, 3), (43, .iload_n 3, 1), (44, .ireturn, 1)]
theorem dc_X2_addEntry_0 : dcAll cX2_addEntry dl_X2_addEntry_0 = true := by decide +kernel
def dl_X2_leastValue_0 : List (Nat × Instr × Nat) := [(0, .aload_n 0, 1), (1, .getfield 15, 3), (4, .iconst 1, 1), (5, .if_icmp .ne 7, 3), (8, .iconst 1, 1), (9, .goto 5, 3), (12, .ldc 35, 2), (14, .ireturn, 1)]
theorem dc_X2_leastValue_0 : dcAll cX2_leastValue dl_X2_leastValue_0 = true := by decide +kernel
def dl_X2_seasonOf_0 : List (Nat × Instr × Nat) := [(0, .aload_n 0, 1), (1, .getfield 9, 3), (4, .ifCond .le 12, 3), (7, .iload_n 1, 1), (8, .aload_n 0, 1), (9, .getfield 9, 3), (12, .irem, 1), (13, .goto 4, 3), (16, .iconst 0, 1), (17, .ireturn, 1)]
theorem dc_X2_seasonOf_0 : dcAll cX2_seasonOf dl_X2_seasonOf_0 = true := by decide +kernel
def dl_X2_half_0 : List (Nat × Instr × Nat) := [(0, .aload_n 0, 1), (1, .getfield 9, 3), (4, .iconst 2, 1), (5, .idiv, 1), (6, .ireturn, 1)]
theorem dc_X2_half_0 : dcAll cX2_half dl_X2_half_0 = true := by decide +kernel
def dl_X2_hasValueBelowOne_0 : List (Nat × Instr × Nat) := [(0, .iconst 0, 1), (1, .istore_n 1, 1), (2, .iload_n 1, 1), (3, .aload_n 0, 1), (4, .getfield 21, 3), (7, .if_icmp .ge 30, 3), (10, .aload_n 0, 1), (11, .getfield 28, 3), (14, .iload_n 1, 1), (15, .baload, 1), (16, .ifCond .ne 15, 3), (19, .aload_n 0, 1), (20, .getfield 24, 3), (23, .iload_n 1, 1), (24, .iaload, 1), (25, .iconst 1, 1), (26, .if_icmp .ge 5, 3), (29, .iconst 1, 1), (30, .ireturn, 1), (31, .iinc 1 1, 3), (34, .goto (-32), 3), (37, .iconst 0, 1), (38, .ireturn, 1)]
theorem dc_X2_hasValueBelowOne_0 : dcAll cX2_hasValueBelowOne dl_X2_hasValueBelowOne_0 = true := by decide +kernel
def dl_X2_countGaps_0 : List (Nat × Instr × Nat) := [(0, .iconst 0, 1), (1, .istore_n 1, 1), (2, .iconst 0, 1), (3, .istore_n 2, 1), (4, .iload_n 2, 1), (5, .aload_n 0, 1), (6, .getfield 21, 3), (9, .if_icmp .ge 21, 3), (12, .aload_n 0, 1), (13, .getfield 28, 3), (16, .iload_n 2, 1), (17, .baload, 1), (18, .ifCond .eq 6, 3), (21, .iinc 1 1, 3), (24, .iinc 2 1, 3), (27, .goto (-23), 3), (30, .iload_n 1, 1), (31, .ireturn, 1)]
theorem dc_X2_countGaps_0 : dcAll cX2_countGaps dl_X2_countGaps_0 = true := by decide +kernel
def dl_X2_isDecomposable_0 : List (Nat × Instr × Nat) := [(0, .aload_n 0, 1), (1, .getfield 21, 3), (4, .iconst 5, 1), (5, .if_icmp .lt 32, 3), (8, .aload_n 0, 1), (9, .getfield 21, 3), (12, .aload_n 0, 1), (13, .getfield 9, 3), (16, .iconst 2, 1), (17, .aload_n 0, 1), (18, .invokevirtual 36, 3), (21, .imul, 1), (22, .iadd, 1), (23, .if_icmp .lt 14, 3), (26, .aload_n 0, 1), (27, .invokevirtual 40, 3), (30, .ifCond .ne 7, 3), (33, .iconst 1, 1), (34, .goto 4, 3), (37, .iconst 0, 1), (38, .ireturn, 1)]
theorem dc_X2_isDecomposable_0 : dcAll cX2_isDecomposable dl_X2_isDecomposable_0 = true := by decide +kernel
def dl_X2_neighbour_0 : List (Nat × Instr × Nat) := [(0, .aload_n 0, 1), (1, .getfield 9, 3), (4, .iconst 1, 1), (5, .invokestatic 43, 3), (8, .istore_n 3, 1), (9, .iload_n 3, 1), (10, .istore 4, 2), (12, .iload 4, 2), (14, .aload_n 0, 1), (15, .getfield 21, 3), (18, .if_icmp .ge 47, 3), (21, .iload_n 1, 1), (22, .iload_n 2, 1), (23, .iload 4, 2), (25, .imul, 1), (26, .iadd, 1), (27, .istore 5, 2), (29, .iload 5, 2), (31, .ifCond .lt 25, 3), (34, .iload 5, 2), (36, .aload_n 0, 1), (37, .getfield 21, 3), (40, .if_icmp .ge 16, 3), (43, .aload_n 0, 1), (44, .getfield 28, 3), (47, .iload 5, 2), (49, .baload, 1), (50, .ifCond .ne 6, 3), (53, .iload 5, 2), (55, .ireturn, 1), (56, .iload 4, 2), (58, .iload_n 3, 1), (59, .iadd, 1), (60, .istore 4, 2), (62, .goto (-50), 3), (65, .iconst (-1), 1), (66, .ireturn, 1)]
theorem dc_X2_neighbour_0 : dcAll cX2_neighbour dl_X2_neighbour_0 = true := by decide +kernel
def dl_X2_hasUnfillableGap_0 : List (Nat × Instr × Nat) := [(0, .iconst 0, 1), (1, .istore_n 1, 1), (2, .iload_n 1, 1), (3, .aload_n 0, 1), (4, .getfield 21, 3), (7, .if_icmp .ge 40, 3), (10, .aload_n 0, 1), (11, .getfield 28, 3), (14, .iload_n 1, 1), (15, .baload, 1), (16, .ifCond .eq 25, 3), (19, .aload_n 0, 1), (20, .iload_n 1, 1), (21, .iconst (-1), 1), (22, .invokevirtual 49, 3), (25, .iconst (-1), 1), (26, .if_icmp .ne 15, 3), (29, .aload_n 0, 1), (30, .iload_n 1, 1), (31, .iconst 1, 1), (32, .invokevirtual 49, 3), (35, .iconst (-1), 1), (36, .if_icmp .ne 5, 3), (39, .iconst 1, 1), (40, .ireturn, 1), (41, .iinc 1 1, 3), (44, .goto (-42), 3), (47, .iconst 0, 1), (48, .ireturn, 1)]
theorem dc_X2_hasUnfillableGap_0 : dcAll cX2_hasUnfillableGap dl_X2_hasUnfillableGap_0 = true := by decide +kernel
def dl_X2_fillGaps_0 : List (Nat × Instr × Nat) := [(0, .iconst 0, 1), (1, .istore_n 1, 1), (2, .iload_n 1, 1), (3, .aload_n 0, 1), (4, .getfield 21, 3), (7, .if_icmp .ge 29, 3), (10, .aload_n 0, 1), (11, .getfield 28, 3), (14, .iload_n 1, 1), (15, .baload, 1), (16, .ifCond .eq 14, 3), (19, .aload_n 0, 1), (20, .getfield 24, 3), (23, .iload_n 1, 1), (24, .aload_n 0, 1), (25, .iload_n 1, 1), (26, .invokevirtual 52, 3), (29, .iastore, 1), (30, .iinc 1 1, 3), (33, .goto (-31), 3), (36, .aload_n 0, 1), (37, .invokevirtual 40, 3), (40, .istore_n 1, 1), (41, .iconst 0, 1), (42, .istore_n 2, 1), (43, .iload_n 2, 1), (44, .aload_n 0, 1), (45, .getfield 21, 3), (48, .if_icmp .ge 16, 3), (51, .aload_n 0, 1), (52, .getfield 28, 3), (55, .iload_n 2, 1), (56, .iconst 0, 1), (57, .bastore, 1), (58, .iinc 2 1, 3), (61, .goto (-18), 3), (64, .iload_n 1, 1), (65, .ireturn, 1)]
theorem dc_X2_fillGaps_0 : dcAll cX2_fillGaps dl_X2_fillGaps_0 = true := by decide +kernel
def dl_X2_fillingFor_0 : List (Nat × Instr × Nat) := [(0, .aload_n 0, 1), (1, .iload_n 1, 1), (2, .iconst (-1), 1), (3, .invokevirtual 49, 3), (6, .istore_n 2, 1), (7, .aload_n 0, 1), (8, .iload_n 1, 1), (9, .iconst 1, 1), (10, .invokevirtual 49, 3), (13, .istore_n 3, 1), (14, .iload_n 2, 1), (15, .iconst (-1), 1), (16, .if_icmp .ne 19, 3), (19, .iload_n 3, 1), (20, .iconst (-1), 1), (21, .if_icmp .ne 7, 3), (24, .iconst 0, 1), (25, .goto 9, 3), (28, .aload_n 0, 1), (29, .getfield 24, 3), (32, .iload_n 3, 1), (33, .iaload, 1), (34, .ireturn, 1), (35, .iload_n 3, 1), (36, .iconst (-1), 1), (37, .if_icmp .ne 10, 3), (40, .aload_n 0, 1), (41, .getfield 24, 3), (44, .iload_n 2, 1), (45, .iaload, 1), (46, .ireturn, 1), (47, .aload_n 0, 1), (48, .getfield 24, 3), (51, .iload_n 2, 1), (52, .iaload, 1), (53, .i2l, 1), (54, .aload_n 0, 1), (55, .getfield 24, 3), (58, .iload_n 3, 1), (59, .iaload, 1), (60, .i2l, 1), (61, .ladd, 1), (62, .ldc2_w 56, 3), (65, .invokestatic 58, 3), (68, .l2i, 1), (69, .ireturn, 1)]
theorem dc_X2_fillingFor_0 : dcAll cX2_fillingFor dl_X2_fillingFor_0 = true := by decide +kernel
def dl_X2_sumOfDays_0 : List (Nat × Instr × Nat) := [(0, .lconst 0, 1), (1, .lstore_n 1, 1), (2, .iconst 0, 1), (3, .istore_n 3, 1), (4, .iload_n 3, 1), (5, .aload_n 0, 1), (6, .getfield 21, 3), (9, .if_icmp .ge 19, 3), (12, .lload_n 1, 1), (13, .aload_n 0, 1), (14, .getfield 32, 3), (17, .iload_n 3, 1), (18, .iaload, 1), (19, .i2l, 1), (20, .ladd, 1), (21, .lstore_n 1, 1), (22, .iinc 3 1, 3), (25, .goto (-21), 3), (28, .lload_n 1, 1), (29, .lreturn, 1)]
theorem dc_X2_sumOfDays_0 : dcAll cX2_sumOfDays dl_X2_sumOfDays_0 = true := by decide +kernel
def dl_X2_excessDays_0 : List (Nat × Instr × Nat) := [(0, .aload_n 0, 1), (1, .getfield 21, 3), (4, .i2l, 1), (5, .aload_n 0, 1), (6, .getfield 32, 3), (9, .iload_n 1, 1), (10, .iaload, 1), (11, .i2l, 1), (12, .lmul, 1), (13, .lload_n 2, 1), (14, .lsub, 1), (15, .lreturn, 1)]
theorem dc_X2_excessDays_0 : dcAll cX2_excessDays dl_X2_excessDays_0 = true := by decide +kernel
def dl_X2_subtractDays_0 : List (Nat × Instr × Nat) := [(0, .aload_n 0, 1), (1, .invokevirtual 62, 3), (4, .lstore_n 3, 1), (5, .iconst 0, 1), (6, .istore 5, 2), (8, .iconst 0, 1), (9, .istore 6, 2), (11, .iload 6, 2), (13, .aload_n 0, 1), (14, .getfield 21, 3), (17, .if_icmp .ge 84, 3), (20, .lload_n 1, 1), (21, .aload_n 0, 1), (22, .iload 6, 2), (24, .lload_n 3, 1), (25, .invokevirtual 66, 3), (28, .lmul, 1), (29, .ldc2_w 70, 3), (32, .aload_n 0, 1), (33, .getfield 21, 3), (36, .i2l, 1), (37, .lmul, 1), (38, .invokestatic 58, 3), (41, .lstore 7, 2), (43, .ldc2_w 72, 3), (46, .ldc2_w 74, 3), (49, .aload_n 0, 1), (50, .getfield 24, 3), (53, .iload 6, 2), (55, .iaload, 1), (56, .i2l, 1), (57, .lload 7, 2), (59, .lsub, 1), (60, .invokestatic 76, 3), (63, .invokestatic 79, 3), (66, .lstore 9, 2), (68, .lload 9, 2), (70, .aload_n 0, 1), (71, .getfield 24, 3), (74, .iload 6, 2), (76, .iaload, 1), (77, .i2l, 1), (78, .lcmp, 1), (79, .ifCond .eq 6, 3), (82, .iinc 5 1, 3), (85, .aload_n 0, 1), (86, .getfield 24, 3), (89, .iload 6, 2)]
theorem dc_X2_subtractDays_0 : dcAll cX2_subtractDays dl_X2_subtractDays_0 = true := by decide +kernel
def dl_X2_subtractDays_1 : List (Nat × Instr × Nat) := [(91, .lload 9, 2), (93, .l2i, 1), (94, .iastore, 1), (95, .iinc 6 1, 3), (98, .goto (-87), 3), (101, .iload 5, 2), (103, .ireturn, 1)]
theorem dc_X2_subtractDays_1 : dcAll cX2_subtractDays dl_X2_subtractDays_1 = true := by decide +kernel
def dl_X3_init_0 : List (Nat × Instr × Nat) := [(0, .aload_n 0, 1), (1, .invokespecial 1, 3), (4, .aload_n 0, 1), (5, .new 7, 3), (8, .dup, 1), (9, .invokespecial 9, 3), (12, .putfield 10, 3), (15, .aload_n 0, 1), (16, .new 16, 3), (19, .dup, 1), (20, .invokespecial 18, 3), (23, .putfield 19, 3), (26, .aload_n 0, 1), (27, .new 23, 3), (30, .dup, 1), (31, .aload_n 0, 1), (32, .getfield 10, 3), (35, .invokespecial 25, 3), (38, .putfield 28, 3), (41, .aload_n 0, 1), (42, .iconst 1, 1), (43, .putfield 32, 3), (46, .return_, 1)]
theorem dc_X3_init_0 : dcAll cX3_init dl_X3_init_0 = true := by decide +kernel
def dl_X3_setPeriod_0 : List (Nat × Instr × Nat) := [(0, .iload_n 1, 1), (1, .iconst 2, 1), (2, .bipush 12, 2), (4, .invokestatic 36, 3), (7, .aload_n 0, 1), (8, .invokevirtual 40, 3), (11, .aload_n 0, 1), (12, .getfield 10, 3), (15, .getfield 43, 3), (18, .istore_n 2, 1), (19, .aload_n 0, 1), (20, .getfield 10, 3), (23, .iload_n 1, 1), (24, .putfield 43, 3), (27, .iload_n 2, 1), (28, .ireturn, 1)]
theorem dc_X3_setPeriod_0 : dcAll cX3_setPeriod dl_X3_setPeriod_0 = true := by decide +kernel
def dl_X3_setMode_0 : List (Nat × Instr × Nat) := [(0, .iload_n 1, 1), (1, .iconst 0, 1), (2, .iconst 1, 1), (3, .invokestatic 36, 3), (6, .iload_n 1, 1), (7, .iconst 1, 1), (8, .if_icmp .ne 23, 3), (11, .aload_n 0, 1), (12, .getfield 10, 3), (15, .invokevirtual 47, 3), (18, .ifCond .eq 13, 3), (21, .new 51, 3), (24, .dup, 1), (25, .ldc 53, 2), (27, .invokespecial 55, 3), (30, .athrow, 1), (31, .aload_n 0, 1), (32, .invokevirtual 40, 3), (35, .aload_n 0, 1), (36, .getfield 10, 3), (39, .getfield 58, 3), (42, .istore_n 2, 1), (43, .aload_n 0, 1), (44, .getfield 10, 3), (47, .iload_n 1, 1), (48, .putfield 58, 3), (51, .iload_n 2, 1), (52, .ireturn, 1)]
theorem dc_X3_setMode_0 : dcAll cX3_setMode dl_X3_setMode_0 = true := by decide +kernel
def dl_X3_setRounds_0 : List (Nat × Instr × Nat) := [(0, .iload_n 1, 1), (1, .iconst 0, 1), (2, .iconst 5, 1), (3, .invokestatic 36, 3), (6, .aload_n 0, 1), (7, .invokevirtual 40, 3), (10, .aload_n 0, 1), (11, .getfield 10, 3), (14, .getfield 61, 3), (17, .istore_n 2, 1), (18, .aload_n 0, 1), (19, .getfield 10, 3), (22, .iload_n 1, 1), (23, .putfield 61, 3), (26, .iload_n 2, 1), (27, .ireturn, 1)]
theorem dc_X3_setRounds_0 : dcAll cX3_setRounds dl_X3_setRounds_0 = true := by decide +kernel
def dl_X3_append_0 : List (Nat × Instr × Nat) := [(0, .iload_n 1, 1), (1, .aload_n 0, 1), (2, .getfield 10, 3), (5, .invokevirtual 64, 3), (8, .ldc 68, 2), (10, .invokestatic 36, 3), (13, .aload_n 0, 1), (14, .invokevirtual 69, 3), (17, .aload_n 0, 1), (18, .invokevirtual 40, 3), (21, .aload_n 0, 1), (22, .getfield 10, 3), (25, .iload_n 1, 1), (26, .iconst 0, 1), (27, .invokevirtual 72, 3), (30, .ireturn, 1)]
theorem dc_X3_append_0 : dcAll cX3_append dl_X3_append_0 = true := by decide +kernel
def dl_X3_appendMissing_0 : List (Nat × Instr × Nat) := [(0, .aload_n 0, 1), (1, .invokevirtual 69, 3), (4, .aload_n 0, 1), (5, .invokevirtual 40, 3), (8, .aload_n 0, 1), (9, .getfield 10, 3), (12, .iconst 0, 1), (13, .iconst 1, 1), (14, .invokevirtual 72, 3), (17, .ireturn, 1)]
theorem dc_X3_appendMissing_0 : dcAll cX3_appendMissing dl_X3_appendMissing_0 = true := by decide +kernel
def dl_X3_set_0 : List (Nat × Instr × Nat) := [(0, .aload_n 0, 1), (1, .iload_n 1, 1), (2, .invokevirtual 76, 3), (5, .iload_n 2, 1), (6, .aload_n 0, 1), (7, .getfield 10, 3), (10, .invokevirtual 64, 3), (13, .ldc 68, 2), (15, .invokestatic 36, 3), (18, .aload_n 0, 1), (19, .invokevirtual 40, 3), (22, .aload_n 0, 1), (23, .getfield 10, 3), (26, .getfield 80, 3), (29, .iload_n 1, 1), (30, .iload_n 2, 1), (31, .iastore, 1), (32, .aload_n 0, 1), (33, .getfield 10, 3), (36, .getfield 84, 3), (39, .iload_n 1, 1), (40, .iconst 0, 1), (41, .bastore, 1), (42, .aload_n 0, 1), (43, .getfield 10, 3), (46, .invokevirtual 88, 3), (49, .ireturn, 1)]
theorem dc_X3_set_0 : dcAll cX3_set dl_X3_set_0 = true := by decide +kernel
def dl_X3_setMissing_0 : List (Nat × Instr × Nat) := [(0, .aload_n 0, 1), (1, .iload_n 1, 1), (2, .invokevirtual 76, 3), (5, .aload_n 0, 1), (6, .iload_n 1, 1), (7, .invokevirtual 91, 3), (10, .aload_n 0, 1), (11, .invokevirtual 40, 3), (14, .aload_n 0, 1), (15, .getfield 10, 3), (18, .getfield 80, 3), (21, .iload_n 1, 1), (22, .iaload, 1), (23, .istore_n 2, 1), (24, .aload_n 0, 1), (25, .getfield 10, 3), (28, .getfield 80, 3), (31, .iload_n 1, 1), (32, .iconst 0, 1), (33, .iastore, 1), (34, .aload_n 0, 1), (35, .getfield 10, 3), (38, .getfield 84, 3), (41, .iload_n 1, 1), (42, .iconst 1, 1), (43, .bastore, 1), (44, .iload_n 2, 1), (45, .ireturn, 1)]
theorem dc_X3_setMissing_0 : dcAll cX3_setMissing dl_X3_setMissing_0 = true := by decide +kernel
def dl_X3_setDays_0 : List (Nat × Instr × Nat) := [(0, .aload_n 0, 1), (1, .iload_n 1, 1), (2, .invokevirtual 76, 3), (5, .iload_n 2, 1), (6, .iconst 0, 1), (7, .bipush 31, 2), (9, .invokestatic 36, 3), (12, .aload_n 0, 1), (13, .invokevirtual 40, 3), (16, .aload_n 0, 1), (17, .getfield 10, 3), (20, .getfield 94, 3), (23, .iload_n 1, 1), (24, .iaload, 1), (25, .istore_n 3, 1), (26, .aload_n 0, 1), (27, .getfield 10, 3), (30, .getfield 94, 3), (33, .iload_n 1, 1), (34, .iload_n 2, 1), (35, .iastore, 1), (36, .iload_n 3, 1), (37, .ireturn, 1)]
theorem dc_X3_setDays_0 : dcAll cX3_setDays dl_X3_setDays_0 = true := by decide +kernel
def dl_X3_removeLast_0 : List (Nat × Instr × Nat) := [(0, .aload_n 0, 1), (1, .getfield 10, 3), (4, .getfield 97, 3), (7, .ifCond .gt 13, 3), (10, .new 51, 3), (13, .dup, 1), (14, .ldc 100, 2), (16, .invokespecial 55, 3), (19, .athrow, 1), (20, .aload_n 0, 1), (21, .invokevirtual 40, 3), (24, .aload_n 0, 1), (25, .getfield 10, 3), (28, .dup, 1), (29, .getfield 97, 3), (32, .iconst 1, 1), (33, .isub, 1), (34, .putfield 97, 3), (37, .aload_n 0, 1), (38, .getfield 10, 3), (41, .getfield 97, 3), (44, .ireturn, 1)]
theorem dc_X3_removeLast_0 : dcAll cX3_removeLast dl_X3_removeLast_0 = true := by decide +kernel
def dl_X3_fill_0 : List (Nat × Instr × Nat) := [(0, .aload_n 0, 1), (1, .getfield 10, 3), (4, .invokevirtual 102, 3), (7, .ifCond .eq 13, 3), (10, .new 51, 3), (13, .dup, 1), (14, .ldc 105, 2), (16, .invokespecial 55, 3), (19, .athrow, 1), (20, .aload_n 0, 1), (21, .invokevirtual 40, 3), (24, .aload_n 0, 1), (25, .getfield 10, 3), (28, .invokevirtual 107, 3), (31, .ireturn, 1)]
theorem dc_X3_fill_0 : dcAll cX3_fill dl_X3_fill_0 = true := by decide +kernel
def dl_X3_size_0 : List (Nat × Instr × Nat) := [(0, .aload_n 0, 1), (1, .getfield 10, 3), (4, .getfield 97, 3), (7, .ireturn, 1)]
theorem dc_X3_size_0 : dcAll cX3_size dl_X3_size_0 = true := by decide +kernel
def dl_X3_value_0 : List (Nat × Instr × Nat) := [(0, .aload_n 0, 1), (1, .iload_n 1, 1), (2, .invokevirtual 76, 3), (5, .aload_n 0, 1), (6, .iload_n 1, 1), (7, .invokevirtual 91, 3), (10, .aload_n 0, 1), (11, .getfield 10, 3), (14, .getfield 80, 3), (17, .iload_n 1, 1), (18, .iaload, 1), (19, .ireturn, 1)]
theorem dc_X3_value_0 : dcAll cX3_value dl_X3_value_0 = true := by decide +kernel
def dl_X3_missing_0 : List (Nat × Instr × Nat) := [(0, .iload_n 1, 1), (1, .ifCond .ge 13, 3), (4, .new 110, 3), (7, .dup, 1), (8, .ldc 112, 2), (10, .invokespecial 114, 3), (13, .athrow, 1), (14, .iconst 0, 1), (15, .istore_n 2, 1), (16, .iconst 0, 1), (17, .istore_n 3, 1), (18, .iload_n 3, 1), (19, .aload_n 0, 1), (20, .getfield 10, 3), (23, .getfield 97, 3), (26, .if_icmp .ge 31, 3), (29, .aload_n 0, 1), (30, .getfield 10, 3), (33, .getfield 84, 3), (36, .iload_n 3, 1), (37, .baload, 1), (38, .ifCond .eq 13, 3), (41, .iload_n 2, 1), (42, .iload_n 1, 1), (43, .if_icmp .ne 5, 3), (46, .iload_n 3, 1), (47, .ireturn, 1), (48, .iinc 2 1, 3), (51, .iinc 3 1, 3), (54, .goto (-36), 3), (57, .iconst (-1), 1), (58, .ireturn, 1)]
theorem dc_X3_missing_0 : dcAll cX3_missing dl_X3_missing_0 = true := by decide +kernel
def dl_X3_canDecompose_0 : List (Nat × Instr × Nat) := [(0, .aload_n 0, 1), (1, .getfield 10, 3), (4, .invokevirtual 115, 3), (7, .ireturn, 1)]
theorem dc_X3_canDecompose_0 : dcAll cX3_canDecompose dl_X3_canDecompose_0 = true := by decide +kernel
def dl_X3_firstTrend_0 : List (Nat × Instr × Nat) := [(0, .aload_n 0, 1), (1, .invokevirtual 118, 3), (4, .aload_n 0, 1), (5, .iload_n 1, 1), (6, .invokevirtual 121, 3), (9, .aload_n 0, 1), (10, .getfield 28, 3), (13, .getfield 124, 3), (16, .iload_n 1, 1), (17, .laload, 1), (18, .lreturn, 1)]
theorem dc_X3_firstTrend_0 : dcAll cX3_firstTrend dl_X3_firstTrend_0 = true := by decide +kernel
def dl_X3_deviation_0 : List (Nat × Instr × Nat) := [(0, .aload_n 0, 1), (1, .invokevirtual 118, 3), (4, .aload_n 0, 1), (5, .iload_n 1, 1), (6, .invokevirtual 121, 3), (9, .aload_n 0, 1), (10, .getfield 28, 3), (13, .getfield 128, 3), (16, .iload_n 1, 1), (17, .laload, 1), (18, .lreturn, 1)]
theorem dc_X3_deviation_0 : dcAll cX3_deviation dl_X3_deviation_0 = true := by decide +kernel
def dl_X3_weight_0 : List (Nat × Instr × Nat) := [(0, .aload_n 0, 1), (1, .invokevirtual 118, 3), (4, .aload_n 0, 1), (5, .iload_n 1, 1), (6, .invokevirtual 121, 3), (9, .aload_n 0, 1), (10, .getfield 28, 3), (13, .getfield 131, 3), (16, .iload_n 1, 1), (17, .iaload, 1), (18, .ireturn, 1)]
theorem dc_X3_weight_0 : dcAll cX3_weight dl_X3_weight_0 = true := by decide +kernel
def dl_X3_spread_0 : List (Nat × Instr × Nat) := [(0, .aload_n 0, 1), (1, .invokevirtual 118, 3), (4, .aload_n 0, 1), (5, .getfield 28, 3), (8, .getfield 134, 3), (11, .lreturn, 1)]
theorem dc_X3_spread_0 : dcAll cX3_spread dl_X3_spread_0 = true := by decide +kernel
def dl_X3_factor_0 : List (Nat × Instr × Nat) := [(0, .iload_n 1, 1), (1, .iconst 0, 1), (2, .aload_n 0, 1), (3, .getfield 10, 3), (6, .getfield 43, 3), (9, .iconst 1, 1), (10, .isub, 1), (11, .invokestatic 36, 3), (14, .aload_n 0, 1), (15, .invokevirtual 118, 3), (18, .aload_n 0, 1), (19, .getfield 28, 3), (22, .getfield 138, 3), (25, .iload_n 1, 1), (26, .laload, 1), (27, .lreturn, 1)]
theorem dc_X3_factor_0 : dcAll cX3_factor dl_X3_factor_0 = true := by decide +kernel
def dl_X3_adjusted_0 : List (Nat × Instr × Nat) := [(0, .aload_n 0, 1), (1, .invokevirtual 118, 3), (4, .aload_n 0, 1), (5, .iload_n 1, 1), (6, .invokevirtual 76, 3), (9, .aload_n 0, 1), (10, .getfield 28, 3), (13, .getfield 141, 3), (16, .iload_n 1, 1), (17, .laload, 1), (18, .lreturn, 1)]
theorem dc_X3_adjusted_0 : dcAll cX3_adjusted dl_X3_adjusted_0 = true := by decide +kernel
def dl_X3_trend_0 : List (Nat × Instr × Nat) := [(0, .aload_n 0, 1), (1, .invokevirtual 118, 3), (4, .aload_n 0, 1), (5, .iload_n 1, 1), (6, .invokevirtual 76, 3), (9, .aload_n 0, 1), (10, .getfield 28, 3), (13, .getfield 144, 3), (16, .iload_n 1, 1), (17, .laload, 1), (18, .lreturn, 1)]
theorem dc_X3_trend_0 : dcAll cX3_trend dl_X3_trend_0 = true := by decide +kernel
def dl_X3_irregular_0 : List (Nat × Instr × Nat) := [(0, .aload_n 0, 1), (1, .invokevirtual 118, 3), (4, .aload_n 0, 1), (5, .iload_n 1, 1), (6, .invokevirtual 76, 3), (9, .aload_n 0, 1), (10, .getfield 28, 3), (13, .getfield 147, 3), (16, .iload_n 1, 1), (17, .laload, 1), (18, .lreturn, 1)]
theorem dc_X3_irregular_0 : dcAll cX3_irregular dl_X3_irregular_0 = true := by decide +kernel
def dl_X3_outlierCount_0 : List (Nat × Instr × Nat) := [(0, .aload_n 0, 1), (1, .invokevirtual 118, 3), (4, .aload_n 0, 1), (5, .getfield 28, 3), (8, .getfield 150, 3), (11, .ireturn, 1)]
theorem dc_X3_outlierCount_0 : dcAll cX3_outlierCount dl_X3_outlierCount_0 = true := by decide +kernel
def dl_X3_outlier_0 : List (Nat × Instr × Nat) := [(0, .aload_n 0, 1), (1, .invokevirtual 118, 3), (4, .iload_n 1, 1), (5, .ifCond .lt 14, 3), (8, .iload_n 1, 1), (9, .aload_n 0, 1), (10, .getfield 28, 3), (13, .getfield 150, 3), (16, .if_icmp .lt 13, 3), (19, .new 153, 3), (22, .dup, 1), (23, .ldc 155, 2), (25, .invokespecial 157, 3), (28, .athrow, 1), (29, .aload_n 0, 1), (30, .getfield 28, 3), (33, .getfield 158, 3), (36, .iload_n 1, 1), (37, .iaload, 1), (38, .ireturn, 1)]
theorem dc_X3_outlier_0 : dcAll cX3_outlier dl_X3_outlier_0 = true := by decide +kernel
def dl_X3_seasonOfRank_0 : List (Nat × Instr × Nat) := [(0, .iload_n 1, 1), (1, .iconst 0, 1), (2, .aload_n 0, 1), (3, .getfield 10, 3), (6, .getfield 43, 3), (9, .iconst 1, 1), (10, .isub, 1), (11, .invokestatic 36, 3), (14, .aload_n 0, 1), (15, .invokevirtual 118, 3), (18, .aload_n 0, 1), (19, .getfield 28, 3), (22, .getfield 161, 3), (25, .iload_n 1, 1), (26, .iaload, 1), (27, .ireturn, 1)]
theorem dc_X3_seasonOfRank_0 : dcAll cX3_seasonOfRank dl_X3_seasonOfRank_0 = true := by decide +kernel
def dl_X3_forecast_0 : List (Nat × Instr × Nat) := [(0, .iload_n 1, 1), (1, .iconst 1, 1), (2, .bipush 24, 2), (4, .invokestatic 36, 3), (7, .aload_n 0, 1), (8, .invokevirtual 118, 3), (11, .aload_n 0, 1), (12, .getfield 10, 3), (15, .getfield 97, 3), (18, .iconst 1, 1), (19, .isub, 1), (20, .istore_n 2, 1), (21, .aload_n 0, 1), (22, .getfield 10, 3), (25, .getfield 43, 3), (28, .iload_n 2, 1), (29, .invokestatic 164, 3), (32, .istore_n 3, 1), (33, .aload_n 0, 1), (34, .getfield 28, 3), (37, .getfield 144, 3), (40, .iload_n 2, 1), (41, .laload, 1), (42, .aload_n 0, 1), (43, .getfield 28, 3), (46, .getfield 144, 3), (49, .iload_n 2, 1), (50, .iload_n 3, 1), (51, .isub, 1), (52, .laload, 1), (53, .lsub, 1), (54, .lstore 4, 2), (56, .aload_n 0, 1), (57, .getfield 28, 3), (60, .getfield 144, 3), (63, .iload_n 2, 1), (64, .laload, 1), (65, .iload_n 1, 1), (66, .i2l, 1), (67, .lload 4, 2), (69, .lmul, 1), (70, .iload_n 3, 1), (71, .i2l, 1), (72, .invokestatic 170, 3), (75, .ladd, 1), (76, .lstore 6, 2), (78, .aload_n 0, 1), (79, .getfield 28, 3)]
theorem dc_X3_forecast_0 : dcAll cX3_forecast dl_X3_forecast_0 = true := by decide +kernel
def dl_X3_forecast_1 : List (Nat × Instr × Nat) := [(82, .getfield 138, 3), (85, .aload_n 0, 1), (86, .getfield 10, 3), (89, .iload_n 2, 1), (90, .iload_n 1, 1), (91, .iadd, 1), (92, .invokevirtual 174, 3), (95, .laload, 1), (96, .lstore 8, 2), (98, .aload_n 0, 1), (99, .getfield 10, 3), (102, .getfield 58, 3), (105, .ifCond .ne 11, 3), (108, .lload 6, 2), (110, .lload 8, 2), (112, .ladd, 1), (113, .goto 14, 3), (116, .lload 6, 2), (118, .lload 8, 2), (120, .lmul, 1), (121, .ldc2_w 178, 3), (124, .invokestatic 170, 3), (127, .lreturn, 1)]
theorem dc_X3_forecast_1 : dcAll cX3_forecast dl_X3_forecast_1 = true := by decide +kernel
def dl_X3_daysEffect_0 : List (Nat × Instr × Nat) := [(0, .aload_n 0, 1), (1, .getfield 10, 3), (4, .getfield 58, 3), (7, .ifCond .eq 13, 3), (10, .new 51, 3), (13, .dup, 1), (14, .ldc 180, 2), (16, .invokespecial 55, 3), (19, .athrow, 1), (20, .aload_n 0, 1), (21, .invokevirtual 118, 3), (24, .aload_n 0, 1), (25, .getfield 10, 3), (28, .invokevirtual 182, 3), (31, .lstore_n 1, 1), (32, .lconst 0, 1), (33, .lstore_n 3, 1), (34, .lconst 0, 1), (35, .lstore 5, 2), (37, .iconst 0, 1), (38, .istore 7, 2), (40, .iload 7, 2), (42, .aload_n 0, 1), (43, .getfield 10, 3), (46, .getfield 97, 3), (49, .if_icmp .ge 47, 3), (52, .aload_n 0, 1), (53, .getfield 10, 3), (56, .iload 7, 2), (58, .lload_n 1, 1), (59, .invokevirtual 186, 3), (62, .lstore 8, 2), (64, .lload_n 3, 1), (65, .lload 8, 2), (67, .aload_n 0, 1), (68, .getfield 28, 3), (71, .getfield 147, 3), (74, .iload 7, 2), (76, .laload, 1), (77, .lmul, 1), (78, .ladd, 1), (79, .lstore_n 3, 1), (80, .lload 5, 2), (82, .lload 8, 2), (84, .lload 8, 2), (86, .lmul, 1), (87, .ladd, 1), (88, .lstore 5, 2)]
theorem dc_X3_daysEffect_0 : dcAll cX3_daysEffect dl_X3_daysEffect_0 = true := by decide +kernel
def dl_X3_daysEffect_1 : List (Nat × Instr × Nat) := [(90, .iinc 7 1, 3), (93, .goto (-53), 3), (96, .lload 5, 2), (98, .lconst 0, 1), (99, .lcmp, 1), (100, .ifCond .gt 13, 3), (103, .new 51, 3), (106, .dup, 1), (107, .ldc 190, 2), (109, .invokespecial 55, 3), (112, .athrow, 1), (113, .ldc2_w 192, 3), (116, .aload_n 0, 1), (117, .getfield 10, 3), (120, .getfield 97, 3), (123, .i2l, 1), (124, .lmul, 1), (125, .lload_n 3, 1), (126, .lmul, 1), (127, .lload 5, 2), (129, .invokestatic 170, 3), (132, .lreturn, 1)]
theorem dc_X3_daysEffect_1 : dcAll cX3_daysEffect dl_X3_daysEffect_1 = true := by decide +kernel
def dl_X3_removeDays_0 : List (Nat × Instr × Nat) := [(0, .aload_n 0, 1), (1, .invokevirtual 194, 3), (4, .lstore_n 1, 1), (5, .aload_n 0, 1), (6, .invokevirtual 40, 3), (9, .aload_n 0, 1), (10, .getfield 10, 3), (13, .lload_n 1, 1), (14, .invokevirtual 197, 3), (17, .ireturn, 1)]
theorem dc_X3_removeDays_0 : dcAll cX3_removeDays dl_X3_removeDays_0 = true := by decide +kernel
def dl_X3_undo_0 : List (Nat × Instr × Nat) := [(0, .aload_n 0, 1), (1, .getfield 19, 3), (4, .getfield 201, 3), (7, .ifCond .gt 13, 3), (10, .new 51, 3), (13, .dup, 1), (14, .ldc 204, 2), (16, .invokespecial 55, 3), (19, .athrow, 1), (20, .aload_n 0, 1), (21, .getfield 19, 3), (24, .aload_n 0, 1), (25, .getfield 10, 3), (28, .invokevirtual 206, 3), (31, .aload_n 0, 1), (32, .iconst 1, 1), (33, .putfield 32, 3), (36, .aload_n 0, 1), (37, .getfield 19, 3), (40, .getfield 201, 3), (43, .ireturn, 1)]
theorem dc_X3_undo_0 : dcAll cX3_undo dl_X3_undo_0 = true := by decide +kernel
def dl_X3_digest_0 : List (Nat × Instr × Nat) := [(0, .ldc2_w 209, 3), (3, .lstore_n 1, 1), (4, .ldc2_w 211, 3), (7, .lload_n 1, 1), (8, .lmul, 1), (9, .aload_n 0, 1), (10, .getfield 19, 3), (13, .getfield 201, 3), (16, .i2l, 1), (17, .ladd, 1), (18, .lstore_n 1, 1), (19, .ldc2_w 211, 3), (22, .lload_n 1, 1), (23, .lmul, 1), (24, .aload_n 0, 1), (25, .getfield 10, 3), (28, .getfield 43, 3), (31, .i2l, 1), (32, .ladd, 1), (33, .lstore_n 1, 1), (34, .ldc2_w 211, 3), (37, .lload_n 1, 1), (38, .lmul, 1), (39, .aload_n 0, 1), (40, .getfield 10, 3), (43, .getfield 58, 3), (46, .i2l, 1), (47, .ladd, 1), (48, .lstore_n 1, 1), (49, .ldc2_w 211, 3), (52, .lload_n 1, 1), (53, .lmul, 1), (54, .aload_n 0, 1), (55, .getfield 10, 3), (58, .getfield 61, 3), (61, .i2l, 1), (62, .ladd, 1), (63, .lstore_n 1, 1), (64, .ldc2_w 211, 3), (67, .lload_n 1, 1), (68, .lmul, 1), (69, .aload_n 0, 1), (70, .getfield 10, 3), (73, .getfield 97, 3), (76, .i2l, 1), (77, .ladd, 1), (78, .lstore_n 1, 1), (79, .iconst 0, 1)]
theorem dc_X3_digest_0 : dcAll cX3_digest dl_X3_digest_0 = true := by decide +kernel
def dl_X3_digest_1 : List (Nat × Instr × Nat) := [(80, .istore_n 3, 1), (81, .iload_n 3, 1), (82, .aload_n 0, 1), (83, .getfield 10, 3), (86, .getfield 97, 3), (89, .if_icmp .ge 68, 3), (92, .ldc2_w 211, 3), (95, .lload_n 1, 1), (96, .lmul, 1), (97, .aload_n 0, 1), (98, .getfield 10, 3), (101, .getfield 84, 3), (104, .iload_n 3, 1), (105, .baload, 1), (106, .ifCond .eq 7, 3), (109, .iconst 1, 1), (110, .goto 4, 3), (113, .iconst 0, 1), (114, .i2l, 1), (115, .ladd, 1), (116, .lstore_n 1, 1), (117, .ldc2_w 211, 3), (120, .lload_n 1, 1), (121, .lmul, 1), (122, .aload_n 0, 1), (123, .getfield 10, 3), (126, .getfield 80, 3), (129, .iload_n 3, 1), (130, .iaload, 1), (131, .i2l, 1), (132, .ladd, 1), (133, .lstore_n 1, 1), (134, .ldc2_w 211, 3), (137, .lload_n 1, 1), (138, .lmul, 1), (139, .aload_n 0, 1), (140, .getfield 10, 3), (143, .getfield 94, 3), (146, .iload_n 3, 1), (147, .iaload, 1), (148, .i2l, 1), (149, .ladd, 1), (150, .lstore_n 1, 1), (151, .iinc 3 1, 3), (154, .goto (-73), 3), (157, .aload_n 0, 1), (158, .getfield 10, 3), (161, .invokevirtual 115, 3)]
theorem dc_X3_digest_1 : dcAll cX3_digest dl_X3_digest_1 = true := by decide +kernel
def dl_X3_digest_2 : List (Nat × Instr × Nat) := [(164, .ifCond .ne 9, 3), (167, .ldc2_w 211, 3), (170, .lload_n 1, 1), (171, .lmul, 1), (172, .lreturn, 1), (173, .aload_n 0, 1), (174, .invokevirtual 118, 3), (177, .aload_n 0, 1), (178, .getfield 28, 3), (181, .ldc2_w 211, 3), (184, .lload_n 1, 1), (185, .lmul, 1), (186, .lconst 1, 1), (187, .ladd, 1), (188, .invokevirtual 213, 3), (191, .lreturn, 1)]
theorem dc_X3_digest_2 : dcAll cX3_digest dl_X3_digest_2 = true := by decide +kernel
def dl_X3_beginChange_0 : List (Nat × Instr × Nat) := [(0, .aload_n 0, 1), (1, .getfield 19, 3), (4, .aload_n 0, 1), (5, .getfield 10, 3), (8, .invokevirtual 217, 3), (11, .aload_n 0, 1), (12, .iconst 1, 1), (13, .putfield 32, 3), (16, .return_, 1)]
theorem dc_X3_beginChange_0 : dcAll cX3_beginChange dl_X3_beginChange_0 = true := by decide +kernel
def dl_X3_requireParts_0 : List (Nat × Instr × Nat) := [(0, .aload_n 0, 1), (1, .getfield 10, 3), (4, .invokevirtual 115, 3), (7, .ifCond .ne 13, 3), (10, .new 51, 3), (13, .dup, 1), (14, .ldc 220, 2), (16, .invokespecial 55, 3), (19, .athrow, 1), (20, .aload_n 0, 1), (21, .getfield 32, 3), (24, .ifCond .eq 15, 3), (27, .aload_n 0, 1), (28, .getfield 28, 3), (31, .invokevirtual 222, 3), (34, .aload_n 0, 1), (35, .iconst 0, 1), (36, .putfield 32, 3), (39, .return_, 1)]
theorem dc_X3_requireParts_0 : dcAll cX3_requireParts dl_X3_requireParts_0 = true := by decide +kernel
def dl_X3_requireEntry_0 : List (Nat × Instr × Nat) := [(0, .iload_n 1, 1), (1, .ifCond .lt 14, 3), (4, .iload_n 1, 1), (5, .aload_n 0, 1), (6, .getfield 10, 3), (9, .getfield 97, 3), (12, .if_icmp .lt 13, 3), (15, .new 153, 3), (18, .dup, 1), (19, .ldc 225, 2), (21, .invokespecial 157, 3), (24, .athrow, 1), (25, .return_, 1)]
theorem dc_X3_requireEntry_0 : dcAll cX3_requireEntry dl_X3_requireEntry_0 = true := by decide +kernel
def dl_X3_requireInner_0 : List (Nat × Instr × Nat) := [(0, .iload_n 1, 1), (1, .aload_n 0, 1), (2, .getfield 28, 3), (5, .getfield 227, 3), (8, .if_icmp .lt 14, 3), (11, .iload_n 1, 1), (12, .aload_n 0, 1), (13, .getfield 28, 3), (16, .getfield 230, 3), (19, .if_icmp .le 13, 3), (22, .new 153, 3), (25, .dup, 1), (26, .ldc 233, 2), (28, .invokespecial 157, 3), (31, .athrow, 1), (32, .return_, 1)]
theorem dc_X3_requireInner_0 : dcAll cX3_requireInner dl_X3_requireInner_0 = true := by decide +kernel
def dl_X3_requireValue_0 : List (Nat × Instr × Nat) := [(0, .aload_n 0, 1), (1, .getfield 10, 3), (4, .getfield 84, 3), (7, .iload_n 1, 1), (8, .baload, 1), (9, .ifCond .eq 13, 3), (12, .new 51, 3), (15, .dup, 1), (16, .ldc 235, 2), (18, .invokespecial 55, 3), (21, .athrow, 1), (22, .return_, 1)]
theorem dc_X3_requireValue_0 : dcAll cX3_requireValue dl_X3_requireValue_0 = true := by decide +kernel
def dl_X3_requireRoom_0 : List (Nat × Instr × Nat) := [(0, .aload_n 0, 1), (1, .getfield 10, 3), (4, .getfield 97, 3), (7, .bipush 72, 2), (9, .if_icmp .lt 13, 3), (12, .new 51, 3), (15, .dup, 1), (16, .ldc 237, 2), (18, .invokespecial 55, 3), (21, .athrow, 1), (22, .return_, 1)]
theorem dc_X3_requireRoom_0 : dcAll cX3_requireRoom dl_X3_requireRoom_0 = true := by decide +kernel
def dl_X3_requireArgument_0 : List (Nat × Instr × Nat) := [(0, .iload_n 0, 1), (1, .iload_n 1, 1), (2, .if_icmp .lt 8, 3), (5, .iload_n 0, 1), (6, .iload_n 2, 1), (7, .if_icmp .le 13, 3), (10, .new 110, 3), (13, .dup, 1), (14, .ldc 239, 2), (16, .invokespecial 114, 3), (19, .athrow, 1), (20, .return_, 1)]
theorem dc_X3_requireArgument_0 : dcAll cX3_requireArgument dl_X3_requireArgument_0 = true := by decide +kernel
def dl_X3_quotient_0 : List (Nat × Instr × Nat) := [(0, .lload_n 2, 1), (1, .lconst 0, 1), (2, .lcmp, 1), (3, .ifCond .gt 5, 3), (6, .lconst 0, 1), (7, .lreturn, 1), (8, .lload_n 0, 1), (9, .lconst 0, 1), (10, .lcmp, 1), (11, .ifCond .ge 8, 3), (14, .lload_n 0, 1), (15, .lneg, 1), (16, .goto 4, 3), (19, .lload_n 0, 1), (20, .lstore 4, 2), (22, .lload 4, 2), (24, .lload_n 2, 1), (25, .ldiv, 1), (26, .lstore 6, 2), (28, .lload 4, 2), (30, .lload_n 2, 1), (31, .lrem, 1), (32, .lstore 8, 2), (34, .lload 8, 2), (36, .lload_n 2, 1), (37, .lload 8, 2), (39, .lsub, 1), (40, .lcmp, 1), (41, .ifCond .lt 9, 3), (44, .lload 6, 2), (46, .lconst 1, 1), (47, .ladd, 1), (48, .lstore 6, 2), (50, .lload_n 0, 1), (51, .lconst 0, 1), (52, .lcmp, 1), (53, .ifCond .ge 9, 3), (56, .lload 6, 2), (58, .lneg, 1), (59, .goto 5, 3), (62, .lload 6, 2), (64, .lreturn, 1)]
theorem dc_X3_quotient_0 : dcAll cX3_quotient dl_X3_quotient_0 = true := by decide +kernel
def dl_X4_init_0 : List (Nat × Instr × Nat) := [(0, .aload_n 0, 1), (1, .invokespecial 1, 3), (4, .aload_n 0, 1), (5, .sipush 220, 3), (8, .newarray .int, 2), (10, .putfield 7, 3), (13, .aload_n 0, 1), (14, .sipush 880, 3), (17, .newarray .int, 2), (19, .putfield 13, 3), (22, .aload_n 0, 1), (23, .bipush 72, 2), (25, .newarray .int, 2), (27, .putfield 16, 3), (30, .aload_n 0, 1), (31, .bipush 73, 2), (33, .newarray .long, 2), (35, .putfield 19, 3), (38, .aload_n 0, 1), (39, .bipush 72, 2), (41, .newarray .long, 2), (43, .putfield 23, 3), (46, .aload_n 0, 1), (47, .bipush 72, 2), (49, .newarray .long, 2), (51, .putfield 26, 3), (54, .aload_n 0, 1), (55, .bipush 72, 2), (57, .newarray .int, 2), (59, .putfield 29, 3), (62, .aload_n 0, 1), (63, .bipush 72, 2), (65, .newarray .long, 2), (67, .putfield 32, 3), (70, .aload_n 0, 1), (71, .bipush 12, 2), (73, .newarray .long, 2), (75, .putfield 35, 3), (78, .aload_n 0, 1), (79, .bipush 72, 2), (81, .newarray .long, 2), (83, .putfield 38, 3), (86, .aload_n 0, 1), (87, .bipush 72, 2), (89, .newarray .long, 2), (91, .putfield 41, 3), (94, .aload_n 0, 1), (95, .bipush 72, 2)]
theorem dc_X4_init_0 : dcAll cX4_init dl_X4_init_0 = true := by decide +kernel
def dl_X4_init_1 : List (Nat × Instr × Nat) := [(97, .newarray .long, 2), (99, .putfield 44, 3), (102, .aload_n 0, 1), (103, .getfield 7, 3), (106, .iconst 0, 1), (107, .iconst 4, 1), (108, .iastore, 1), (109, .aload_n 0, 1), (110, .getfield 7, 3), (113, .iconst 2, 1), (114, .iconst 2, 1), (115, .iastore, 1), (116, .return_, 1)]
theorem dc_X4_init_1 : dcAll cX4_init dl_X4_init_1 = true := by decide +kernel
def dl_X4_thrown_0 : List (Nat × Instr × Nat) := [(0, .aload_n 0, 1), (1, .getfield 47, 3), (4, .ireturn, 1)]
theorem dc_X4_thrown_0 : dcAll cX4_thrown dl_X4_thrown_0 = true := by decide +kernel
def dl_X4_refused_0 : List (Nat × Instr × Nat) := [(0, .aload_n 0, 1), (1, .iload_n 1, 1), (2, .putfield 47, 3), (5, .iload_n 1, 1), (6, .ifCond .le 7, 3), (9, .iconst 1, 1), (10, .goto 4, 3), (13, .iconst 0, 1), (14, .ireturn, 1)]
theorem dc_X4_refused_0 : dcAll cX4_refused dl_X4_refused_0 = true := by decide +kernel
def dl_X4_within_0 : List (Nat × Instr × Nat) := [(0, .lload_n 0, 1), (1, .lload_n 2, 1), (2, .lcmp, 1), (3, .ifCond .lt 14, 3), (6, .lload_n 0, 1), (7, .lload 4, 2), (9, .lcmp, 1), (10, .ifCond .gt 7, 3), (13, .iconst 1, 1), (14, .goto 4, 3), (17, .iconst 0, 1), (18, .ireturn, 1)]
theorem dc_X4_within_0 : dcAll cX4_within dl_X4_within_0 = true := by decide +kernel
def dl_X4_over_0 : List (Nat × Instr × Nat) := [(0, .lload_n 0, 1), (1, .lconst 0, 1), (2, .lcmp, 1), (3, .ifCond .ge 8, 3), (6, .lload_n 0, 1), (7, .lneg, 1), (8, .goto 4, 3), (11, .lload_n 0, 1), (12, .lstore 4, 2), (14, .lload 4, 2), (16, .lload_n 2, 1), (17, .ldiv, 1), (18, .lstore 6, 2), (20, .lload 4, 2), (22, .lload 6, 2), (24, .lload_n 2, 1), (25, .lmul, 1), (26, .lsub, 1), (27, .lstore 8, 2), (29, .lload 8, 2), (31, .lload_n 2, 1), (32, .lload 8, 2), (34, .lsub, 1), (35, .lcmp, 1), (36, .ifCond .lt 10, 3), (39, .lload 6, 2), (41, .lconst 1, 1), (42, .ladd, 1), (43, .goto 5, 3), (46, .lload 6, 2), (48, .lstore 10, 2), (50, .lload_n 0, 1), (51, .lconst 0, 1), (52, .lcmp, 1), (53, .ifCond .ge 9, 3), (56, .lload 10, 2), (58, .lneg, 1), (59, .goto 5, 3), (62, .lload 10, 2), (64, .lreturn, 1)]
theorem dc_X4_over_0 : dcAll cX4_over dl_X4_over_0 = true := by decide +kernel
def dl_X4_size_0 : List (Nat × Instr × Nat) := [(0, .lload_n 0, 1), (1, .lconst 0, 1), (2, .lcmp, 1), (3, .ifCond .ge 8, 3), (6, .lload_n 0, 1), (7, .lneg, 1), (8, .goto 4, 3), (11, .lload_n 0, 1), (12, .lreturn, 1)]
theorem dc_X4_size_0 : dcAll cX4_size dl_X4_size_0 = true := by decide +kernel
def dl_X4_saves_0 : List (Nat × Instr × Nat) := [(0, .aload_n 0, 1), (1, .getfield 51, 3), (4, .iconst 4, 1), (5, .if_icmp .ne 44, 3), (8, .iconst 0, 1), (9, .istore_n 1, 1), (10, .iload_n 1, 1), (11, .sipush 660, 3), (14, .if_icmp .ge 25, 3), (17, .aload_n 0, 1), (18, .getfield 13, 3), (21, .iload_n 1, 1), (22, .aload_n 0, 1), (23, .getfield 13, 3), (26, .iload_n 1, 1), (27, .sipush 220, 3), (30, .iadd, 1), (31, .iaload, 1), (32, .iastore, 1), (33, .iinc 1 1, 3), (36, .goto (-26), 3), (39, .aload_n 0, 1), (40, .dup, 1), (41, .getfield 51, 3), (44, .iconst 1, 1), (45, .isub, 1), (46, .putfield 51, 3), (49, .iconst 0, 1), (50, .istore_n 1, 1), (51, .iload_n 1, 1), (52, .sipush 220, 3), (55, .if_icmp .ge 30, 3), (58, .aload_n 0, 1), (59, .getfield 13, 3), (62, .sipush 220, 3), (65, .aload_n 0, 1), (66, .getfield 51, 3), (69, .imul, 1), (70, .iload_n 1, 1), (71, .iadd, 1), (72, .aload_n 0, 1), (73, .getfield 7, 3), (76, .iload_n 1, 1), (77, .iaload, 1), (78, .iastore, 1), (79, .iinc 1 1, 3), (82, .goto (-31), 3), (85, .aload_n 0, 1)]
theorem dc_X4_saves_0 : dcAll cX4_saves dl_X4_saves_0 = true := by decide +kernel
def dl_X4_saves_1 : List (Nat × Instr × Nat) := [(86, .dup, 1), (87, .getfield 51, 3), (90, .iconst 1, 1), (91, .iadd, 1), (92, .putfield 51, 3), (95, .return_, 1)]
theorem dc_X4_saves_1 : dcAll cX4_saves dl_X4_saves_1 = true := by decide +kernel
def dl_X4_undo_0 : List (Nat × Instr × Nat) := [(0, .aload_n 0, 1), (1, .aload_n 0, 1), (2, .getfield 51, 3), (5, .ifCond .ne 7, 3), (8, .iconst 1, 1), (9, .goto 4, 3), (12, .iconst 0, 1), (13, .invokevirtual 54, 3), (16, .ifCond .eq 5, 3), (19, .iconst 0, 1), (20, .ireturn, 1), (21, .aload_n 0, 1), (22, .dup, 1), (23, .getfield 51, 3), (26, .iconst 1, 1), (27, .isub, 1), (28, .putfield 51, 3), (31, .iconst 0, 1), (32, .istore_n 1, 1), (33, .iload_n 1, 1), (34, .sipush 220, 3), (37, .if_icmp .ge 30, 3), (40, .aload_n 0, 1), (41, .getfield 7, 3), (44, .iload_n 1, 1), (45, .aload_n 0, 1), (46, .getfield 13, 3), (49, .sipush 220, 3), (52, .aload_n 0, 1), (53, .getfield 51, 3), (56, .imul, 1), (57, .iload_n 1, 1), (58, .iadd, 1), (59, .iaload, 1), (60, .iastore, 1), (61, .iinc 1 1, 3), (64, .goto (-31), 3), (67, .aload_n 0, 1), (68, .getfield 51, 3), (71, .ireturn, 1)]
theorem dc_X4_undo_0 : dcAll cX4_undo dl_X4_undo_0 = true := by decide +kernel
def dl_X4_isMissing_0 : List (Nat × Instr × Nat) := [(0, .aload_n 0, 1), (1, .getfield 7, 3), (4, .iconst 4, 1), (5, .iconst 3, 1), (6, .iload_n 1, 1), (7, .imul, 1), (8, .iadd, 1), (9, .iaload, 1), (10, .iconst 1, 1), (11, .if_icmp .ne 7, 3), (14, .iconst 1, 1), (15, .goto 4, 3), (18, .iconst 0, 1), (19, .ireturn, 1)]
theorem dc_X4_isMissing_0 : dcAll cX4_isMissing dl_X4_isMissing_0 = true := by decide +kernel
def dl_X4_valueAt_0 : List (Nat × Instr × Nat) := [(0, .aload_n 0, 1), (1, .getfield 7, 3), (4, .iconst 4, 1), (5, .iconst 3, 1), (6, .iload_n 1, 1), (7, .imul, 1), (8, .iadd, 1), (9, .iconst 1, 1), (10, .iadd, 1), (11, .iaload, 1), (12, .ireturn, 1)]
theorem dc_X4_valueAt_0 : dcAll cX4_valueAt dl_X4_valueAt_0 = true := by decide +kernel
def dl_X4_daysAt_0 : List (Nat × Instr × Nat) := [(0, .aload_n 0, 1), (1, .getfield 7, 3), (4, .iconst 4, 1), (5, .iconst 3, 1), (6, .iload_n 1, 1), (7, .imul, 1), (8, .iadd, 1), (9, .iconst 2, 1), (10, .iadd, 1), (11, .iaload, 1), (12, .ireturn, 1)]
theorem dc_X4_daysAt_0 : dcAll cX4_daysAt dl_X4_daysAt_0 = true := by decide +kernel
def dl_X4_isEntry_0 : List (Nat × Instr × Nat) := [(0, .iload_n 1, 1), (1, .i2l, 1), (2, .lconst 0, 1), (3, .aload_n 0, 1), (4, .getfield 7, 3), (7, .iconst 3, 1), (8, .iaload, 1), (9, .iconst 1, 1), (10, .isub, 1), (11, .i2l, 1), (12, .invokestatic 58, 3), (15, .ireturn, 1)]
theorem dc_X4_isEntry_0 : dcAll cX4_isEntry dl_X4_isEntry_0 = true := by decide +kernel
def dl_X4_isValue_0 : List (Nat × Instr × Nat) := [(0, .iload_n 1, 1), (1, .i2l, 1), (2, .aload_n 0, 1), (3, .getfield 7, 3), (6, .iconst 1, 1), (7, .iaload, 1), (8, .iconst 1, 1), (9, .if_icmp .ne 7, 3), (12, .lconst 1, 1), (13, .goto 6, 3), (16, .ldc2_w 62, 3), (19, .ldc2_w 64, 3), (22, .invokestatic 58, 3), (25, .ireturn, 1)]
theorem dc_X4_isValue_0 : dcAll cX4_isValue dl_X4_isValue_0 = true := by decide +kernel
def dl_X4_sets_0 : List (Nat × Instr × Nat) := [(0, .aload_n 0, 1), (1, .invokevirtual 66, 3), (4, .aload_n 0, 1), (5, .getfield 7, 3), (8, .iload_n 1, 1), (9, .iaload, 1), (10, .istore_n 3, 1), (11, .aload_n 0, 1), (12, .getfield 7, 3), (15, .iload_n 1, 1), (16, .iload_n 2, 1), (17, .iastore, 1), (18, .iload_n 3, 1), (19, .ireturn, 1)]
theorem dc_X4_sets_0 : dcAll cX4_sets dl_X4_sets_0 = true := by decide +kernel
def dl_X4_setPeriod_0 : List (Nat × Instr × Nat) := [(0, .aload_n 0, 1), (1, .iload_n 1, 1), (2, .i2l, 1), (3, .ldc2_w 69, 3), (6, .ldc2_w 71, 3), (9, .invokestatic 58, 3), (12, .ifCond .eq 7, 3), (15, .iconst 0, 1), (16, .goto 4, 3), (19, .iconst 1, 1), (20, .invokevirtual 54, 3), (23, .ifCond .eq 7, 3), (26, .iconst 0, 1), (27, .goto 9, 3), (30, .aload_n 0, 1), (31, .iconst 0, 1), (32, .iload_n 1, 1), (33, .invokevirtual 73, 3), (36, .ireturn, 1)]
theorem dc_X4_setPeriod_0 : dcAll cX4_setPeriod dl_X4_setPeriod_0 = true := by decide +kernel
def dl_X4_isAnyLow_0 : List (Nat × Instr × Nat) := [(0, .iconst 0, 1), (1, .istore_n 1, 1), (2, .iconst 0, 1), (3, .istore_n 2, 1), (4, .iload_n 2, 1), (5, .aload_n 0, 1), (6, .getfield 7, 3), (9, .iconst 3, 1), (10, .iaload, 1), (11, .if_icmp .ge 36, 3), (14, .iload_n 1, 1), (15, .ifCond .ne 20, 3), (18, .aload_n 0, 1), (19, .iload_n 2, 1), (20, .invokevirtual 77, 3), (23, .ifCond .ne 16, 3), (26, .aload_n 0, 1), (27, .iload_n 2, 1), (28, .invokevirtual 80, 3), (31, .iconst 1, 1), (32, .if_icmp .ge 7, 3), (35, .iconst 1, 1), (36, .goto 4, 3), (39, .iconst 0, 1), (40, .istore_n 1, 1), (41, .iinc 2 1, 3), (44, .goto (-40), 3), (47, .iload_n 1, 1), (48, .ireturn, 1)]
theorem dc_X4_isAnyLow_0 : dcAll cX4_isAnyLow dl_X4_isAnyLow_0 = true := by decide +kernel
def dl_X4_setMode_0 : List (Nat × Instr × Nat) := [(0, .aload_n 0, 1), (1, .iload_n 1, 1), (2, .i2l, 1), (3, .lconst 0, 1), (4, .lconst 1, 1), (5, .invokestatic 58, 3), (8, .ifCond .ne 7, 3), (11, .iconst 1, 1), (12, .goto 20, 3), (15, .iload_n 1, 1), (16, .iconst 1, 1), (17, .if_icmp .ne 14, 3), (20, .aload_n 0, 1), (21, .invokevirtual 84, 3), (24, .ifCond .eq 7, 3), (27, .iconst 2, 1), (28, .goto 4, 3), (31, .iconst 0, 1), (32, .invokevirtual 54, 3), (35, .ifCond .eq 7, 3), (38, .iconst 0, 1), (39, .goto 9, 3), (42, .aload_n 0, 1), (43, .iconst 1, 1), (44, .iload_n 1, 1), (45, .invokevirtual 73, 3), (48, .ireturn, 1)]
theorem dc_X4_setMode_0 : dcAll cX4_setMode dl_X4_setMode_0 = true := by decide +kernel
def dl_X4_setRounds_0 : List (Nat × Instr × Nat) := [(0, .aload_n 0, 1), (1, .iload_n 1, 1), (2, .i2l, 1), (3, .lconst 0, 1), (4, .ldc2_w 88, 3), (7, .invokestatic 58, 3), (10, .ifCond .eq 7, 3), (13, .iconst 0, 1), (14, .goto 4, 3), (17, .iconst 1, 1), (18, .invokevirtual 54, 3), (21, .ifCond .eq 7, 3), (24, .iconst 0, 1), (25, .goto 9, 3), (28, .aload_n 0, 1), (29, .iconst 2, 1), (30, .iload_n 1, 1), (31, .invokevirtual 73, 3), (34, .ireturn, 1)]
theorem dc_X4_setRounds_0 : dcAll cX4_setRounds dl_X4_setRounds_0 = true := by decide +kernel
def dl_X4_adds_0 : List (Nat × Instr × Nat) := [(0, .aload_n 0, 1), (1, .invokevirtual 66, 3), (4, .iconst 4, 1), (5, .iconst 3, 1), (6, .aload_n 0, 1), (7, .getfield 7, 3), (10, .iconst 3, 1), (11, .iaload, 1), (12, .imul, 1), (13, .iadd, 1), (14, .istore_n 3, 1), (15, .aload_n 0, 1), (16, .getfield 7, 3), (19, .iload_n 3, 1), (20, .iload_n 1, 1), (21, .iastore, 1), (22, .aload_n 0, 1), (23, .getfield 7, 3), (26, .iload_n 3, 1), (27, .iconst 1, 1), (28, .iadd, 1), (29, .iload_n 2, 1), (30, .iastore, 1), (31, .aload_n 0, 1), (32, .getfield 7, 3), (35, .iload_n 3, 1), (36, .iconst 2, 1), (37, .iadd, 1), (38, .bipush 20, 2), (40, .iastore, 1), (41, .aload_n 0, 1), (42, .getfield 7, 3), (45, .iconst 3, 1), (46, .dup2, 1), (47, .iaload, 1), (48, .iconst 1, 1), (49, .iadd, 1), (50, .iastore, 1), (51, .aload_n 0, 1), (52, .getfield 7, 3), (55, .iconst 3, 1), (56, .iaload, 1), (57, .iconst 1, 1), (58, .isub, 1), (59, .ireturn, 1)]
theorem dc_X4_adds_0 : dcAll cX4_adds dl_X4_adds_0 = true := by decide +kernel
def dl_X4_append_0 : List (Nat × Instr × Nat) := [(0, .aload_n 0, 1), (1, .aload_n 0, 1), (2, .iload_n 1, 1), (3, .invokevirtual 90, 3), (6, .ifCond .ne 7, 3), (9, .iconst 1, 1), (10, .goto 19, 3), (13, .aload_n 0, 1), (14, .getfield 7, 3), (17, .iconst 3, 1), (18, .iaload, 1), (19, .bipush 72, 2), (21, .if_icmp .ne 7, 3), (24, .iconst 2, 1), (25, .goto 4, 3), (28, .iconst 0, 1), (29, .invokevirtual 54, 3), (32, .ifCond .eq 7, 3), (35, .iconst 0, 1), (36, .goto 9, 3), (39, .aload_n 0, 1), (40, .iconst 0, 1), (41, .iload_n 1, 1), (42, .invokevirtual 93, 3), (45, .ireturn, 1)]
theorem dc_X4_append_0 : dcAll cX4_append dl_X4_append_0 = true := by decide +kernel
def dl_X4_appendMissing_0 : List (Nat × Instr × Nat) := [(0, .aload_n 0, 1), (1, .aload_n 0, 1), (2, .getfield 7, 3), (5, .iconst 3, 1), (6, .iaload, 1), (7, .bipush 72, 2), (9, .if_icmp .ne 7, 3), (12, .iconst 1, 1), (13, .goto 4, 3), (16, .iconst 0, 1), (17, .invokevirtual 54, 3), (20, .ifCond .eq 7, 3), (23, .iconst 0, 1), (24, .goto 9, 3), (27, .aload_n 0, 1), (28, .iconst 1, 1), (29, .iconst 0, 1), (30, .invokevirtual 93, 3), (33, .ireturn, 1)]
theorem dc_X4_appendMissing_0 : dcAll cX4_appendMissing dl_X4_appendMissing_0 = true := by decide +kernel
def dl_X4_missingOnes_0 : List (Nat × Instr × Nat) := [(0, .iconst 0, 1), (1, .istore_n 1, 1), (2, .iconst 0, 1), (3, .istore_n 2, 1), (4, .iload_n 2, 1), (5, .aload_n 0, 1), (6, .getfield 7, 3), (9, .iconst 3, 1), (10, .iaload, 1), (11, .if_icmp .ge 22, 3), (14, .iload_n 1, 1), (15, .aload_n 0, 1), (16, .getfield 7, 3), (19, .iconst 4, 1), (20, .iconst 3, 1), (21, .iload_n 2, 1), (22, .imul, 1), (23, .iadd, 1), (24, .iaload, 1), (25, .iadd, 1), (26, .istore_n 1, 1), (27, .iinc 2 1, 3), (30, .goto (-26), 3), (33, .iload_n 1, 1), (34, .ireturn, 1)]
theorem dc_X4_missingOnes_0 : dcAll cX4_missingOnes dl_X4_missingOnes_0 = true := by decide +kernel
def dl_X4_set_0 : List (Nat × Instr × Nat) := [(0, .aload_n 0, 1), (1, .aload_n 0, 1), (2, .iload_n 1, 1), (3, .invokevirtual 96, 3), (6, .ifCond .ne 7, 3), (9, .iconst 1, 1), (10, .goto 16, 3), (13, .aload_n 0, 1), (14, .iload_n 2, 1), (15, .invokevirtual 90, 3), (18, .ifCond .eq 7, 3), (21, .iconst 0, 1), (22, .goto 4, 3), (25, .iconst 2, 1), (26, .invokevirtual 54, 3), (29, .ifCond .eq 5, 3), (32, .iconst 0, 1), (33, .ireturn, 1), (34, .aload_n 0, 1), (35, .invokevirtual 66, 3), (38, .aload_n 0, 1), (39, .getfield 7, 3), (42, .iconst 4, 1), (43, .iconst 3, 1), (44, .iload_n 1, 1), (45, .imul, 1), (46, .iadd, 1), (47, .iconst 0, 1), (48, .iastore, 1), (49, .aload_n 0, 1), (50, .getfield 7, 3), (53, .iconst 4, 1), (54, .iconst 3, 1), (55, .iload_n 1, 1), (56, .imul, 1), (57, .iadd, 1), (58, .iconst 1, 1), (59, .iadd, 1), (60, .iload_n 2, 1), (61, .iastore, 1), (62, .aload_n 0, 1), (63, .invokevirtual 99, 3), (66, .ireturn, 1)]
theorem dc_X4_set_0 : dcAll cX4_set dl_X4_set_0 = true := by decide +kernel
def dl_X4_setMissing_0 : List (Nat × Instr × Nat) := [(0, .aload_n 0, 1), (1, .aload_n 0, 1), (2, .iload_n 1, 1), (3, .invokevirtual 96, 3), (6, .ifCond .ne 7, 3), (9, .iconst 1, 1), (10, .goto 16, 3), (13, .aload_n 0, 1), (14, .iload_n 1, 1), (15, .invokevirtual 77, 3), (18, .ifCond .eq 7, 3), (21, .iconst 2, 1), (22, .goto 4, 3), (25, .iconst 0, 1), (26, .invokevirtual 54, 3), (29, .ifCond .eq 5, 3), (32, .iconst 0, 1), (33, .ireturn, 1), (34, .aload_n 0, 1), (35, .invokevirtual 66, 3), (38, .aload_n 0, 1), (39, .iload_n 1, 1), (40, .invokevirtual 80, 3), (43, .istore_n 2, 1), (44, .aload_n 0, 1), (45, .getfield 7, 3), (48, .iconst 4, 1), (49, .iconst 3, 1), (50, .iload_n 1, 1), (51, .imul, 1), (52, .iadd, 1), (53, .iconst 1, 1), (54, .iastore, 1), (55, .aload_n 0, 1), (56, .getfield 7, 3), (59, .iconst 4, 1), (60, .iconst 3, 1), (61, .iload_n 1, 1), (62, .imul, 1), (63, .iadd, 1), (64, .iconst 1, 1), (65, .iadd, 1), (66, .iconst 0, 1), (67, .iastore, 1), (68, .iload_n 2, 1), (69, .ireturn, 1)]
theorem dc_X4_setMissing_0 : dcAll cX4_setMissing dl_X4_setMissing_0 = true := by decide +kernel
def dl_X4_setDays_0 : List (Nat × Instr × Nat) := [(0, .aload_n 0, 1), (1, .aload_n 0, 1), (2, .iload_n 1, 1), (3, .invokevirtual 96, 3), (6, .ifCond .ne 7, 3), (9, .iconst 1, 1), (10, .goto 20, 3), (13, .iload_n 2, 1), (14, .i2l, 1), (15, .lconst 0, 1), (16, .ldc2_w 103, 3), (19, .invokestatic 58, 3), (22, .ifCond .eq 7, 3), (25, .iconst 0, 1), (26, .goto 4, 3), (29, .iconst 2, 1), (30, .invokevirtual 54, 3), (33, .ifCond .eq 7, 3), (36, .iconst 0, 1), (37, .goto 15, 3), (40, .aload_n 0, 1), (41, .iconst 4, 1), (42, .iconst 3, 1), (43, .iload_n 1, 1), (44, .imul, 1), (45, .iadd, 1), (46, .iconst 2, 1), (47, .iadd, 1), (48, .iload_n 2, 1), (49, .invokevirtual 73, 3), (52, .ireturn, 1)]
theorem dc_X4_setDays_0 : dcAll cX4_setDays dl_X4_setDays_0 = true := by decide +kernel
def dl_X4_removeLast_0 : List (Nat × Instr × Nat) := [(0, .aload_n 0, 1), (1, .aload_n 0, 1), (2, .getfield 7, 3), (5, .iconst 3, 1), (6, .iaload, 1), (7, .ifCond .ne 7, 3), (10, .iconst 1, 1), (11, .goto 4, 3), (14, .iconst 0, 1), (15, .invokevirtual 54, 3), (18, .ifCond .eq 5, 3), (21, .iconst 0, 1), (22, .ireturn, 1), (23, .aload_n 0, 1), (24, .invokevirtual 66, 3), (27, .aload_n 0, 1), (28, .getfield 7, 3), (31, .iconst 3, 1), (32, .dup2, 1), (33, .iaload, 1), (34, .iconst 1, 1), (35, .isub, 1), (36, .iastore, 1), (37, .aload_n 0, 1), (38, .getfield 7, 3), (41, .iconst 3, 1), (42, .iaload, 1), (43, .ireturn, 1)]
theorem dc_X4_removeLast_0 : dcAll cX4_removeLast dl_X4_removeLast_0 = true := by decide +kernel
def dl_X4_nextOf_0 : List (Nat × Instr × Nat) := [(0, .iload_n 1, 1), (1, .iload_n 2, 1), (2, .aload_n 0, 1), (3, .getfield 7, 3), (6, .iconst 0, 1), (7, .iaload, 1), (8, .imul, 1), (9, .iadd, 1), (10, .istore_n 3, 1), (11, .aload_n 0, 1), (12, .iload_n 3, 1), (13, .invokevirtual 96, 3), (16, .ifCond .eq 25, 3), (19, .aload_n 0, 1), (20, .iload_n 3, 1), (21, .invokevirtual 77, 3), (24, .ifCond .eq 17, 3), (27, .iload_n 3, 1), (28, .iload_n 2, 1), (29, .aload_n 0, 1), (30, .getfield 7, 3), (33, .iconst 0, 1), (34, .iaload, 1), (35, .imul, 1), (36, .iadd, 1), (37, .istore_n 3, 1), (38, .goto (-27), 3), (41, .aload_n 0, 1), (42, .iload_n 3, 1), (43, .invokevirtual 96, 3), (46, .ifCond .eq 7, 3), (49, .iload_n 3, 1), (50, .goto 4, 3), (53, .iconst (-1), 1), (54, .ireturn, 1)]
theorem dc_X4_nextOf_0 : dcAll cX4_nextOf dl_X4_nextOf_0 = true := by decide +kernel
def dl_X4_canFill_0 : List (Nat × Instr × Nat) := [(0, .iconst 1, 1), (1, .istore_n 1, 1), (2, .iconst 0, 1), (3, .istore_n 2, 1), (4, .iload_n 2, 1), (5, .aload_n 0, 1), (6, .getfield 7, 3), (9, .iconst 3, 1), (10, .iaload, 1), (11, .if_icmp .ge 47, 3), (14, .iload_n 1, 1), (15, .ifCond .eq 35, 3), (18, .aload_n 0, 1), (19, .iload_n 2, 1), (20, .invokevirtual 77, 3), (23, .ifCond .eq 23, 3), (26, .aload_n 0, 1), (27, .iload_n 2, 1), (28, .iconst (-1), 1), (29, .invokevirtual 105, 3), (32, .iconst (-1), 1), (33, .if_icmp .ne 13, 3), (36, .aload_n 0, 1), (37, .iload_n 2, 1), (38, .iconst 1, 1), (39, .invokevirtual 105, 3), (42, .iconst (-1), 1), (43, .if_icmp .eq 7, 3), (46, .iconst 1, 1), (47, .goto 4, 3), (50, .iconst 0, 1), (51, .istore_n 1, 1), (52, .iinc 2 1, 3), (55, .goto (-51), 3), (58, .iload_n 1, 1), (59, .ireturn, 1)]
theorem dc_X4_canFill_0 : dcAll cX4_canFill dl_X4_canFill_0 = true := by decide +kernel
def dl_X4_fill_0 : List (Nat × Instr × Nat) := [(0, .aload_n 0, 1), (1, .aload_n 0, 1), (2, .invokevirtual 108, 3), (5, .ifCond .eq 7, 3), (8, .iconst 0, 1), (9, .goto 4, 3), (12, .iconst 1, 1), (13, .invokevirtual 54, 3), (16, .ifCond .eq 5, 3), (19, .iconst 0, 1), (20, .ireturn, 1), (21, .aload_n 0, 1), (22, .invokevirtual 66, 3), (25, .aload_n 0, 1), (26, .invokevirtual 99, 3), (29, .istore_n 1, 1), (30, .iconst 0, 1), (31, .istore_n 2, 1), (32, .iload_n 2, 1), (33, .aload_n 0, 1), (34, .getfield 7, 3), (37, .iconst 3, 1), (38, .iaload, 1), (39, .if_icmp .ge 95, 3), (42, .aload_n 0, 1), (43, .iload_n 2, 1), (44, .iconst (-1), 1), (45, .invokevirtual 105, 3), (48, .istore_n 3, 1), (49, .aload_n 0, 1), (50, .iload_n 2, 1), (51, .iconst 1, 1), (52, .invokevirtual 105, 3), (55, .istore 4, 2), (57, .aload_n 0, 1), (58, .getfield 16, 3), (61, .iload_n 2, 1), (62, .aload_n 0, 1), (63, .iload_n 2, 1), (64, .invokevirtual 77, 3), (67, .ifCond .ne 11, 3), (70, .aload_n 0, 1), (71, .iload_n 2, 1), (72, .invokevirtual 80, 3), (75, .goto 52, 3), (78, .iload_n 3, 1), (79, .iconst (-1), 1), (80, .if_icmp .ne 12, 3)]
theorem dc_X4_fill_0 : dcAll cX4_fill dl_X4_fill_0 = true := by decide +kernel
def dl_X4_fill_1 : List (Nat × Instr × Nat) := [(83, .aload_n 0, 1), (84, .iload 4, 2), (86, .invokevirtual 80, 3), (89, .goto 38, 3), (92, .iload 4, 2), (94, .iconst (-1), 1), (95, .if_icmp .ne 11, 3), (98, .aload_n 0, 1), (99, .iload_n 3, 1), (100, .invokevirtual 80, 3), (103, .goto 24, 3), (106, .aload_n 0, 1), (107, .iload_n 3, 1), (108, .invokevirtual 80, 3), (111, .i2l, 1), (112, .aload_n 0, 1), (113, .iload 4, 2), (115, .invokevirtual 80, 3), (118, .i2l, 1), (119, .ladd, 1), (120, .ldc2_w 69, 3), (123, .invokestatic 111, 3), (126, .l2i, 1), (127, .iastore, 1), (128, .iinc 2 1, 3), (131, .goto (-99), 3), (134, .iconst 0, 1), (135, .istore_n 2, 1), (136, .iload_n 2, 1), (137, .aload_n 0, 1), (138, .getfield 7, 3), (141, .iconst 3, 1), (142, .iaload, 1), (143, .if_icmp .ge 38, 3), (146, .aload_n 0, 1), (147, .getfield 7, 3), (150, .iconst 4, 1), (151, .iconst 3, 1), (152, .iload_n 2, 1), (153, .imul, 1), (154, .iadd, 1), (155, .iconst 0, 1), (156, .iastore, 1), (157, .aload_n 0, 1), (158, .getfield 7, 3), (161, .iconst 4, 1), (162, .iconst 3, 1), (163, .iload_n 2, 1)]
theorem dc_X4_fill_1 : dcAll cX4_fill dl_X4_fill_1 = true := by decide +kernel
def dl_X4_fill_2 : List (Nat × Instr × Nat) := [(164, .imul, 1), (165, .iadd, 1), (166, .iconst 1, 1), (167, .iadd, 1), (168, .aload_n 0, 1), (169, .getfield 16, 3), (172, .iload_n 2, 1), (173, .iaload, 1), (174, .iastore, 1), (175, .iinc 2 1, 3), (178, .goto (-42), 3), (181, .iload_n 1, 1), (182, .ireturn, 1)]
theorem dc_X4_fill_2 : dcAll cX4_fill dl_X4_fill_2 = true := by decide +kernel
def dl_X4_size__0 : List (Nat × Instr × Nat) := [(0, .aload_n 0, 1), (1, .iconst 0, 1), (2, .putfield 47, 3), (5, .aload_n 0, 1), (6, .getfield 7, 3), (9, .iconst 3, 1), (10, .iaload, 1), (11, .ireturn, 1)]
theorem dc_X4_size__0 : dcAll cX4_size_ dl_X4_size__0 = true := by decide +kernel
def dl_X4_value_0 : List (Nat × Instr × Nat) := [(0, .aload_n 0, 1), (1, .aload_n 0, 1), (2, .iload_n 1, 1), (3, .invokevirtual 96, 3), (6, .ifCond .ne 7, 3), (9, .iconst 1, 1), (10, .goto 16, 3), (13, .aload_n 0, 1), (14, .iload_n 1, 1), (15, .invokevirtual 77, 3), (18, .ifCond .eq 7, 3), (21, .iconst 2, 1), (22, .goto 4, 3), (25, .iconst 0, 1), (26, .invokevirtual 54, 3), (29, .ifCond .eq 7, 3), (32, .iconst 0, 1), (33, .goto 8, 3), (36, .aload_n 0, 1), (37, .iload_n 1, 1), (38, .invokevirtual 80, 3), (41, .ireturn, 1)]
theorem dc_X4_value_0 : dcAll cX4_value dl_X4_value_0 = true := by decide +kernel
def dl_X4_missing_0 : List (Nat × Instr × Nat) := [(0, .aload_n 0, 1), (1, .iload_n 1, 1), (2, .ifCond .ge 7, 3), (5, .iconst 1, 1), (6, .goto 4, 3), (9, .iconst 0, 1), (10, .invokevirtual 54, 3), (13, .ifCond .eq 5, 3), (16, .iconst 0, 1), (17, .ireturn, 1), (18, .iload_n 1, 1), (19, .istore_n 2, 1), (20, .iconst 0, 1), (21, .istore_n 3, 1), (22, .iload_n 3, 1), (23, .aload_n 0, 1), (24, .getfield 7, 3), (27, .iconst 3, 1), (28, .iaload, 1), (29, .if_icmp .ge 26, 3), (32, .aload_n 0, 1), (33, .iload_n 3, 1), (34, .invokevirtual 77, 3), (37, .ifCond .eq 12, 3), (40, .iload_n 2, 1), (41, .ifCond .ne 5, 3), (44, .iload_n 3, 1), (45, .ireturn, 1), (46, .iinc 2 (-1), 3), (49, .iinc 3 1, 3), (52, .goto (-30), 3), (55, .iconst (-1), 1), (56, .ireturn, 1)]
theorem dc_X4_missing_0 : dcAll cX4_missing dl_X4_missing_0 = true := by decide +kernel
def dl_X4_half_0 : List (Nat × Instr × Nat) := [(0, .aload_n 0, 1), (1, .getfield 7, 3), (4, .iconst 0, 1), (5, .iaload, 1), (6, .iconst 2, 1), (7, .idiv, 1), (8, .ireturn, 1)]
theorem dc_X4_half_0 : dcAll cX4_half dl_X4_half_0 = true := by decide +kernel
def dl_X4_can_0 : List (Nat × Instr × Nat) := [(0, .aload_n 0, 1), (1, .invokevirtual 99, 3), (4, .ifCond .ne 39, 3), (7, .aload_n 0, 1), (8, .getfield 7, 3), (11, .iconst 3, 1), (12, .iaload, 1), (13, .iconst 5, 1), (14, .if_icmp .lt 29, 3), (17, .aload_n 0, 1), (18, .getfield 7, 3), (21, .iconst 3, 1), (22, .iaload, 1), (23, .aload_n 0, 1), (24, .getfield 7, 3), (27, .iconst 0, 1), (28, .iaload, 1), (29, .iconst 2, 1), (30, .aload_n 0, 1), (31, .invokevirtual 115, 3), (34, .imul, 1), (35, .iadd, 1), (36, .if_icmp .lt 7, 3), (39, .iconst 1, 1), (40, .goto 4, 3), (43, .iconst 0, 1), (44, .ireturn, 1)]
theorem dc_X4_can_0 : dcAll cX4_can dl_X4_can_0 = true := by decide +kernel
def dl_X4_canDecompose_0 : List (Nat × Instr × Nat) := [(0, .aload_n 0, 1), (1, .iconst 0, 1), (2, .putfield 47, 3), (5, .aload_n 0, 1), (6, .invokevirtual 118, 3), (9, .ireturn, 1)]
theorem dc_X4_canDecompose_0 : dcAll cX4_canDecompose dl_X4_canDecompose_0 = true := by decide +kernel
def dl_X4_isInner_0 : List (Nat × Instr × Nat) := [(0, .iload_n 1, 1), (1, .i2l, 1), (2, .aload_n 0, 1), (3, .invokevirtual 115, 3), (6, .i2l, 1), (7, .aload_n 0, 1), (8, .getfield 7, 3), (11, .iconst 3, 1), (12, .iaload, 1), (13, .iconst 1, 1), (14, .isub, 1), (15, .aload_n 0, 1), (16, .invokevirtual 115, 3), (19, .isub, 1), (20, .i2l, 1), (21, .invokestatic 58, 3), (24, .ireturn, 1)]
theorem dc_X4_isInner_0 : dcAll cX4_isInner dl_X4_isInner_0 = true := by decide +kernel
def dl_X4_inner_0 : List (Nat × Instr × Nat) := [(0, .aload_n 0, 1), (1, .getfield 7, 3), (4, .iconst 3, 1), (5, .iaload, 1), (6, .iconst 2, 1), (7, .aload_n 0, 1), (8, .invokevirtual 115, 3), (11, .imul, 1), (12, .isub, 1), (13, .ireturn, 1)]
theorem dc_X4_inner_0 : dcAll cX4_inner dl_X4_inner_0 = true := by decide +kernel
def dl_X4_findFirsts_0 : List (Nat × Instr × Nat) := [(0, .aload_n 0, 1), (1, .getfield 19, 3), (4, .iconst 0, 1), (5, .lconst 0, 1), (6, .lastore, 1), (7, .iconst 0, 1), (8, .istore_n 1, 1), (9, .iload_n 1, 1), (10, .aload_n 0, 1), (11, .getfield 7, 3), (14, .iconst 3, 1), (15, .iaload, 1), (16, .if_icmp .ge 30, 3), (19, .aload_n 0, 1), (20, .getfield 19, 3), (23, .iload_n 1, 1), (24, .iconst 1, 1), (25, .iadd, 1), (26, .aload_n 0, 1), (27, .getfield 19, 3), (30, .iload_n 1, 1), (31, .laload, 1), (32, .aload_n 0, 1), (33, .iload_n 1, 1), (34, .invokevirtual 80, 3), (37, .i2l, 1), (38, .ladd, 1), (39, .lastore, 1), (40, .iinc 1 1, 3), (43, .goto (-34), 3), (46, .aload_n 0, 1), (47, .invokevirtual 115, 3), (50, .istore_n 1, 1), (51, .aload_n 0, 1), (52, .getfield 7, 3), (55, .iconst 0, 1), (56, .iaload, 1), (57, .istore_n 2, 1), (58, .iload_n 1, 1), (59, .istore_n 3, 1), (60, .iload_n 3, 1), (61, .aload_n 0, 1), (62, .getfield 7, 3), (65, .iconst 3, 1), (66, .iaload, 1), (67, .iload_n 1, 1), (68, .isub, 1), (69, .if_icmp .ge 144, 3)]
theorem dc_X4_findFirsts_0 : dcAll cX4_findFirsts dl_X4_findFirsts_0 = true := by decide +kernel
def dl_X4_findFirsts_1 : List (Nat × Instr × Nat) := [(72, .aload_n 0, 1), (73, .getfield 19, 3), (76, .iload_n 3, 1), (77, .iload_n 1, 1), (78, .iadd, 1), (79, .iconst 1, 1), (80, .iadd, 1), (81, .laload, 1), (82, .aload_n 0, 1), (83, .getfield 19, 3), (86, .iload_n 3, 1), (87, .iload_n 1, 1), (88, .isub, 1), (89, .laload, 1), (90, .lsub, 1), (91, .lstore 4, 2), (93, .aload_n 0, 1), (94, .getfield 23, 3), (97, .iload_n 3, 1), (98, .iload_n 2, 1), (99, .iconst 2, 1), (100, .irem, 1), (101, .iconst 1, 1), (102, .if_icmp .ne 13, 3), (105, .lload 4, 2), (107, .iload_n 2, 1), (108, .i2l, 1), (109, .invokestatic 111, 3), (112, .goto 36, 3), (115, .ldc2_w 69, 3), (118, .lload 4, 2), (120, .lmul, 1), (121, .aload_n 0, 1), (122, .iload_n 3, 1), (123, .iload_n 1, 1), (124, .isub, 1), (125, .invokevirtual 80, 3), (128, .i2l, 1), (129, .lsub, 1), (130, .aload_n 0, 1), (131, .iload_n 3, 1), (132, .iload_n 1, 1), (133, .iadd, 1), (134, .invokevirtual 80, 3), (137, .i2l, 1), (138, .lsub, 1), (139, .ldc2_w 69, 3), (142, .iload_n 2, 1)]
theorem dc_X4_findFirsts_1 : dcAll cX4_findFirsts dl_X4_findFirsts_1 = true := by decide +kernel
def dl_X4_findFirsts_2 : List (Nat × Instr × Nat) := [(143, .i2l, 1), (144, .lmul, 1), (145, .invokestatic 111, 3), (148, .lastore, 1), (149, .aload_n 0, 1), (150, .getfield 26, 3), (153, .iload_n 3, 1), (154, .aload_n 0, 1), (155, .getfield 7, 3), (158, .iconst 1, 1), (159, .iaload, 1), (160, .ifCond .ne 19, 3), (163, .aload_n 0, 1), (164, .iload_n 3, 1), (165, .invokevirtual 80, 3), (168, .i2l, 1), (169, .aload_n 0, 1), (170, .getfield 23, 3), (173, .iload_n 3, 1), (174, .laload, 1), (175, .lsub, 1), (176, .goto 22, 3), (179, .ldc2_w 121, 3), (182, .aload_n 0, 1), (183, .iload_n 3, 1), (184, .invokevirtual 80, 3), (187, .i2l, 1), (188, .lmul, 1), (189, .aload_n 0, 1), (190, .getfield 23, 3), (193, .iload_n 3, 1), (194, .laload, 1), (195, .invokestatic 111, 3), (198, .lastore, 1), (199, .aload_n 0, 1), (200, .getfield 29, 3), (203, .iload_n 3, 1), (204, .bipush 100, 2), (206, .iastore, 1), (207, .iinc 3 1, 3), (210, .goto (-150), 3), (213, .return_, 1)]
theorem dc_X4_findFirsts_2 : dcAll cX4_findFirsts dl_X4_findFirsts_2 = true := by decide +kernel
def dl_X4_findFactors_0 : List (Nat × Instr × Nat) := [(0, .aload_n 0, 1), (1, .getfield 7, 3), (4, .iconst 0, 1), (5, .iaload, 1), (6, .istore_n 1, 1), (7, .lconst 0, 1), (8, .lstore_n 2, 1), (9, .iconst 0, 1), (10, .istore 4, 2), (12, .iload 4, 2), (14, .iload_n 1, 1), (15, .if_icmp .ge 145, 3), (18, .lconst 0, 1), (19, .lstore 5, 2), (21, .lconst 0, 1), (22, .lstore 7, 2), (24, .lconst 0, 1), (25, .lstore 9, 2), (27, .iconst 0, 1), (28, .istore 11, 2), (30, .iload 4, 2), (32, .istore 12, 2), (34, .iload 12, 2), (36, .aload_n 0, 1), (37, .getfield 7, 3), (40, .iconst 3, 1), (41, .iaload, 1), (42, .if_icmp .ge 70, 3), (45, .aload_n 0, 1), (46, .iload 12, 2), (48, .invokevirtual 123, 3), (51, .ifCond .eq 52, 3), (54, .lload 5, 2), (56, .aload_n 0, 1), (57, .getfield 29, 3), (60, .iload 12, 2), (62, .iaload, 1), (63, .i2l, 1), (64, .aload_n 0, 1), (65, .getfield 26, 3), (68, .iload 12, 2), (70, .laload, 1), (71, .lmul, 1), (72, .ladd, 1), (73, .lstore 5, 2), (75, .lload 7, 2), (77, .aload_n 0, 1), (78, .getfield 29, 3)]
theorem dc_X4_findFactors_0 : dcAll cX4_findFactors dl_X4_findFactors_0 = true := by decide +kernel
def dl_X4_findFactors_1 : List (Nat × Instr × Nat) := [(81, .iload 12, 2), (83, .iaload, 1), (84, .i2l, 1), (85, .ladd, 1), (86, .lstore 7, 2), (88, .lload 9, 2), (90, .aload_n 0, 1), (91, .getfield 26, 3), (94, .iload 12, 2), (96, .laload, 1), (97, .ladd, 1), (98, .lstore 9, 2), (100, .iinc 11 1, 3), (103, .iload 12, 2), (105, .iload_n 1, 1), (106, .iadd, 1), (107, .istore 12, 2), (109, .goto (-75), 3), (112, .aload_n 0, 1), (113, .getfield 35, 3), (116, .iload 4, 2), (118, .lload 7, 2), (120, .lconst 0, 1), (121, .lcmp, 1), (122, .ifCond .ne 14, 3), (125, .lload 9, 2), (127, .iload 11, 2), (129, .i2l, 1), (130, .invokestatic 111, 3), (133, .goto 10, 3), (136, .lload 5, 2), (138, .lload 7, 2), (140, .invokestatic 111, 3), (143, .lastore, 1), (144, .lload_n 2, 1), (145, .aload_n 0, 1), (146, .getfield 35, 3), (149, .iload 4, 2), (151, .laload, 1), (152, .ladd, 1), (153, .lstore_n 2, 1), (154, .iinc 4 1, 3), (157, .goto (-145), 3), (160, .iconst 0, 1), (161, .istore 4, 2), (163, .iload 4, 2), (165, .iload_n 1, 1), (166, .if_icmp .ge 87, 3)]
theorem dc_X4_findFactors_1 : dcAll cX4_findFactors dl_X4_findFactors_1 = true := by decide +kernel
def dl_X4_findFactors_2 : List (Nat × Instr × Nat) := [(169, .aload_n 0, 1), (170, .getfield 7, 3), (173, .iconst 1, 1), (174, .iaload, 1), (175, .ifCond .ne 22, 3), (178, .aload_n 0, 1), (179, .getfield 35, 3), (182, .iload 4, 2), (184, .dup2, 1), (185, .laload, 1), (186, .lload_n 2, 1), (187, .iload_n 1, 1), (188, .i2l, 1), (189, .invokestatic 111, 3), (192, .lsub, 1), (193, .lastore, 1), (194, .goto 53, 3), (197, .lload_n 2, 1), (198, .lconst 0, 1), (199, .lcmp, 1), (200, .ifCond .ne 7, 3), (203, .lconst 1, 1), (204, .goto 21, 3), (207, .ldc2_w 121, 3), (210, .iload_n 1, 1), (211, .i2l, 1), (212, .lmul, 1), (213, .aload_n 0, 1), (214, .getfield 35, 3), (217, .iload 4, 2), (219, .laload, 1), (220, .lmul, 1), (221, .lload_n 2, 1), (222, .invokestatic 111, 3), (225, .lstore 5, 2), (227, .aload_n 0, 1), (228, .getfield 35, 3), (231, .iload 4, 2), (233, .lload 5, 2), (235, .lconst 1, 1), (236, .lcmp, 1), (237, .ifCond .ge 7, 3), (240, .lconst 1, 1), (241, .goto 5, 3), (244, .lload 5, 2), (246, .lastore, 1), (247, .iinc 4 1, 3), (250, .goto (-87), 3)]
theorem dc_X4_findFactors_2 : dcAll cX4_findFactors dl_X4_findFactors_2 = true := by decide +kernel
def dl_X4_findFactors_3 : List (Nat × Instr × Nat) := [(253, .return_, 1)]
theorem dc_X4_findFactors_3 : dcAll cX4_findFactors dl_X4_findFactors_3 = true := by decide +kernel
def dl_X4_findExtremes_0 : List (Nat × Instr × Nat) := [(0, .lconst 0, 1), (1, .lstore_n 1, 1), (2, .aload_n 0, 1), (3, .invokevirtual 115, 3), (6, .istore_n 3, 1), (7, .iload_n 3, 1), (8, .aload_n 0, 1), (9, .getfield 7, 3), (12, .iconst 3, 1), (13, .iaload, 1), (14, .aload_n 0, 1), (15, .invokevirtual 115, 3), (18, .isub, 1), (19, .if_icmp .ge 47, 3), (22, .aload_n 0, 1), (23, .getfield 32, 3), (26, .iload_n 3, 1), (27, .aload_n 0, 1), (28, .getfield 26, 3), (31, .iload_n 3, 1), (32, .laload, 1), (33, .aload_n 0, 1), (34, .getfield 35, 3), (37, .iload_n 3, 1), (38, .aload_n 0, 1), (39, .getfield 7, 3), (42, .iconst 0, 1), (43, .iaload, 1), (44, .irem, 1), (45, .laload, 1), (46, .lsub, 1), (47, .lastore, 1), (48, .lload_n 1, 1), (49, .aload_n 0, 1), (50, .getfield 32, 3), (53, .iload_n 3, 1), (54, .laload, 1), (55, .invokestatic 126, 3), (58, .ladd, 1), (59, .lstore_n 1, 1), (60, .iinc 3 1, 3), (63, .goto (-56), 3), (66, .aload_n 0, 1), (67, .ldc2_w 88, 3), (70, .lload_n 1, 1), (71, .lmul, 1), (72, .ldc2_w 130, 3), (75, .aload_n 0, 1)]
theorem dc_X4_findExtremes_0 : dcAll cX4_findExtremes dl_X4_findExtremes_0 = true := by decide +kernel
def dl_X4_findExtremes_1 : List (Nat × Instr × Nat) := [(76, .invokevirtual 132, 3), (79, .i2l, 1), (80, .lmul, 1), (81, .invokestatic 111, 3), (84, .putfield 135, 3), (87, .return_, 1)]
theorem dc_X4_findExtremes_1 : dcAll cX4_findExtremes dl_X4_findExtremes_1 = true := by decide +kernel
def dl_X4_findWeights_0 : List (Nat × Instr × Nat) := [(0, .aload_n 0, 1), (1, .invokevirtual 139, 3), (4, .aload_n 0, 1), (5, .invokevirtual 115, 3), (8, .istore_n 1, 1), (9, .iload_n 1, 1), (10, .aload_n 0, 1), (11, .getfield 7, 3), (14, .iconst 3, 1), (15, .iaload, 1), (16, .aload_n 0, 1), (17, .invokevirtual 115, 3), (20, .isub, 1), (21, .if_icmp .ge 90, 3), (24, .ldc2_w 69, 3), (27, .aload_n 0, 1), (28, .getfield 32, 3), (31, .iload_n 1, 1), (32, .laload, 1), (33, .invokestatic 126, 3), (36, .lmul, 1), (37, .lstore_n 2, 1), (38, .aload_n 0, 1), (39, .getfield 29, 3), (42, .iload_n 1, 1), (43, .lload_n 2, 1), (44, .ldc2_w 142, 3), (47, .aload_n 0, 1), (48, .getfield 135, 3), (51, .lmul, 1), (52, .lcmp, 1), (53, .ifCond .gt 8, 3), (56, .bipush 100, 2), (58, .goto 46, 3), (61, .lload_n 2, 1), (62, .ldc2_w 88, 3), (65, .aload_n 0, 1), (66, .getfield 135, 3), (69, .lmul, 1), (70, .lcmp, 1), (71, .ifCond .lt 7, 3), (74, .iconst 0, 1), (75, .goto 29, 3), (78, .ldc2_w 144, 3), (81, .ldc2_w 88, 3), (84, .aload_n 0, 1), (85, .getfield 135, 3), (88, .lmul, 1)]
theorem dc_X4_findWeights_0 : dcAll cX4_findWeights dl_X4_findWeights_0 = true := by decide +kernel
def dl_X4_findWeights_1 : List (Nat × Instr × Nat) := [(89, .lload_n 2, 1), (90, .lsub, 1), (91, .lmul, 1), (92, .ldc2_w 69, 3), (95, .aload_n 0, 1), (96, .getfield 135, 3), (99, .lmul, 1), (100, .invokestatic 111, 3), (103, .l2i, 1), (104, .iastore, 1), (105, .iinc 1 1, 3), (108, .goto (-99), 3), (111, .return_, 1)]
theorem dc_X4_findWeights_1 : dcAll cX4_findWeights dl_X4_findWeights_1 = true := by decide +kernel
def dl_X4_findTrends_0 : List (Nat × Instr × Nat) := [(0, .aload_n 0, 1), (1, .getfield 7, 3), (4, .iconst 3, 1), (5, .iaload, 1), (6, .istore_n 1, 1), (7, .iconst 0, 1), (8, .istore_n 2, 1), (9, .iload_n 2, 1), (10, .iload_n 1, 1), (11, .if_icmp .ge 63, 3), (14, .aload_n 0, 1), (15, .getfield 35, 3), (18, .iload_n 2, 1), (19, .aload_n 0, 1), (20, .getfield 7, 3), (23, .iconst 0, 1), (24, .iaload, 1), (25, .irem, 1), (26, .laload, 1), (27, .lstore_n 3, 1), (28, .aload_n 0, 1), (29, .getfield 38, 3), (32, .iload_n 2, 1), (33, .aload_n 0, 1), (34, .getfield 7, 3), (37, .iconst 1, 1), (38, .iaload, 1), (39, .ifCond .ne 14, 3), (42, .aload_n 0, 1), (43, .iload_n 2, 1), (44, .invokevirtual 80, 3), (47, .i2l, 1), (48, .lload_n 3, 1), (49, .lsub, 1), (50, .goto 17, 3), (53, .ldc2_w 121, 3), (56, .aload_n 0, 1), (57, .iload_n 2, 1), (58, .invokevirtual 80, 3), (61, .i2l, 1), (62, .lmul, 1), (63, .lload_n 3, 1), (64, .invokestatic 111, 3), (67, .lastore, 1), (68, .iinc 2 1, 3), (71, .goto (-62), 3), (74, .iconst 2, 1), (75, .istore_n 2, 1)]
theorem dc_X4_findTrends_0 : dcAll cX4_findTrends dl_X4_findTrends_0 = true := by decide +kernel
def dl_X4_findTrends_1 : List (Nat × Instr × Nat) := [(76, .iload_n 2, 1), (77, .iload_n 1, 1), (78, .iconst 2, 1), (79, .isub, 1), (80, .if_icmp .ge 75, 3), (83, .aload_n 0, 1), (84, .getfield 41, 3), (87, .iload_n 2, 1), (88, .ldc2_w 146, 3), (91, .aload_n 0, 1), (92, .getfield 38, 3), (95, .iload_n 2, 1), (96, .laload, 1), (97, .lmul, 1), (98, .ldc2_w 148, 3), (101, .aload_n 0, 1), (102, .getfield 38, 3), (105, .iload_n 2, 1), (106, .iconst 1, 1), (107, .isub, 1), (108, .laload, 1), (109, .aload_n 0, 1), (110, .getfield 38, 3), (113, .iload_n 2, 1), (114, .iconst 1, 1), (115, .iadd, 1), (116, .laload, 1), (117, .ladd, 1), (118, .lmul, 1), (119, .ladd, 1), (120, .ldc2_w 150, 3), (123, .aload_n 0, 1), (124, .getfield 38, 3), (127, .iload_n 2, 1), (128, .iconst 2, 1), (129, .isub, 1), (130, .laload, 1), (131, .aload_n 0, 1), (132, .getfield 38, 3), (135, .iload_n 2, 1), (136, .iconst 2, 1), (137, .iadd, 1), (138, .laload, 1), (139, .ladd, 1), (140, .lmul, 1), (141, .lsub, 1), (142, .ldc2_w 152, 3), (145, .invokestatic 111, 3)]
theorem dc_X4_findTrends_1 : dcAll cX4_findTrends dl_X4_findTrends_1 = true := by decide +kernel
def dl_X4_findTrends_2 : List (Nat × Instr × Nat) := [(148, .lastore, 1), (149, .iinc 2 1, 3), (152, .goto (-76), 3), (155, .aload_n 0, 1), (156, .getfield 41, 3), (159, .iconst 1, 1), (160, .aload_n 0, 1), (161, .getfield 38, 3), (164, .iconst 0, 1), (165, .laload, 1), (166, .ldc2_w 69, 3), (169, .aload_n 0, 1), (170, .getfield 38, 3), (173, .iconst 1, 1), (174, .laload, 1), (175, .lmul, 1), (176, .ladd, 1), (177, .aload_n 0, 1), (178, .getfield 38, 3), (181, .iconst 2, 1), (182, .laload, 1), (183, .ladd, 1), (184, .ldc2_w 130, 3), (187, .invokestatic 111, 3), (190, .lastore, 1), (191, .aload_n 0, 1), (192, .getfield 41, 3), (195, .iload_n 1, 1), (196, .iconst 2, 1), (197, .isub, 1), (198, .aload_n 0, 1), (199, .getfield 38, 3), (202, .iload_n 1, 1), (203, .iconst 3, 1), (204, .isub, 1), (205, .laload, 1), (206, .ldc2_w 69, 3), (209, .aload_n 0, 1), (210, .getfield 38, 3), (213, .iload_n 1, 1), (214, .iconst 2, 1), (215, .isub, 1), (216, .laload, 1), (217, .lmul, 1), (218, .ladd, 1), (219, .aload_n 0, 1), (220, .getfield 38, 3), (223, .iload_n 1, 1)]
theorem dc_X4_findTrends_2 : dcAll cX4_findTrends dl_X4_findTrends_2 = true := by decide +kernel
def dl_X4_findTrends_3 : List (Nat × Instr × Nat) := [(224, .iconst 1, 1), (225, .isub, 1), (226, .laload, 1), (227, .ladd, 1), (228, .ldc2_w 130, 3), (231, .invokestatic 111, 3), (234, .lastore, 1), (235, .aload_n 0, 1), (236, .getfield 41, 3), (239, .iconst 0, 1), (240, .ldc2_w 69, 3), (243, .aload_n 0, 1), (244, .getfield 41, 3), (247, .iconst 1, 1), (248, .laload, 1), (249, .lmul, 1), (250, .aload_n 0, 1), (251, .getfield 41, 3), (254, .iconst 2, 1), (255, .laload, 1), (256, .lsub, 1), (257, .lastore, 1), (258, .aload_n 0, 1), (259, .getfield 41, 3), (262, .iload_n 1, 1), (263, .iconst 1, 1), (264, .isub, 1), (265, .ldc2_w 69, 3), (268, .aload_n 0, 1), (269, .getfield 41, 3), (272, .iload_n 1, 1), (273, .iconst 2, 1), (274, .isub, 1), (275, .laload, 1), (276, .lmul, 1), (277, .aload_n 0, 1), (278, .getfield 41, 3), (281, .iload_n 1, 1), (282, .iconst 3, 1), (283, .isub, 1), (284, .laload, 1), (285, .lsub, 1), (286, .lastore, 1), (287, .iconst 0, 1), (288, .istore_n 2, 1), (289, .iload_n 2, 1), (290, .iload_n 1, 1), (291, .if_icmp .ge 76, 3)]
theorem dc_X4_findTrends_3 : dcAll cX4_findTrends dl_X4_findTrends_3 = true := by decide +kernel
def dl_X4_findTrends_4 : List (Nat × Instr × Nat) := [(294, .aload_n 0, 1), (295, .getfield 44, 3), (298, .iload_n 2, 1), (299, .aload_n 0, 1), (300, .getfield 7, 3), (303, .iconst 1, 1), (304, .iaload, 1), (305, .ifCond .ne 19, 3), (308, .aload_n 0, 1), (309, .getfield 38, 3), (312, .iload_n 2, 1), (313, .laload, 1), (314, .aload_n 0, 1), (315, .getfield 41, 3), (318, .iload_n 2, 1), (319, .laload, 1), (320, .lsub, 1), (321, .goto 39, 3), (324, .aload_n 0, 1), (325, .getfield 41, 3), (328, .iload_n 2, 1), (329, .laload, 1), (330, .lconst 0, 1), (331, .lcmp, 1), (332, .ifCond .le 25, 3), (335, .ldc2_w 121, 3), (338, .aload_n 0, 1), (339, .getfield 38, 3), (342, .iload_n 2, 1), (343, .laload, 1), (344, .lmul, 1), (345, .aload_n 0, 1), (346, .getfield 41, 3), (349, .iload_n 2, 1), (350, .laload, 1), (351, .invokestatic 111, 3), (354, .goto 6, 3), (357, .ldc2_w 121, 3), (360, .lastore, 1), (361, .iinc 2 1, 3), (364, .goto (-75), 3), (367, .return_, 1)]
theorem dc_X4_findTrends_4 : dcAll cX4_findTrends dl_X4_findTrends_4 = true := by decide +kernel
def dl_X4_decomposes_0 : List (Nat × Instr × Nat) := [(0, .aload_n 0, 1), (1, .invokevirtual 118, 3), (4, .ifCond .ne 5, 3), (7, .iconst 0, 1), (8, .ireturn, 1), (9, .aload_n 0, 1), (10, .invokevirtual 154, 3), (13, .aload_n 0, 1), (14, .invokevirtual 157, 3), (17, .iconst 0, 1), (18, .istore_n 1, 1), (19, .iload_n 1, 1), (20, .aload_n 0, 1), (21, .getfield 7, 3), (24, .iconst 2, 1), (25, .iaload, 1), (26, .if_icmp .ge 17, 3), (29, .aload_n 0, 1), (30, .invokevirtual 160, 3), (33, .aload_n 0, 1), (34, .invokevirtual 157, 3), (37, .iinc 1 1, 3), (40, .goto (-21), 3), (43, .aload_n 0, 1), (44, .invokevirtual 139, 3), (47, .aload_n 0, 1), (48, .invokevirtual 163, 3), (51, .iconst 1, 1), (52, .ireturn, 1)]
theorem dc_X4_decomposes_0 : dcAll cX4_decomposes dl_X4_decomposes_0 = true := by decide +kernel
def dl_X4_refusesInner_0 : List (Nat × Instr × Nat) := [(0, .aload_n 0, 1), (1, .aload_n 0, 1), (2, .invokevirtual 166, 3), (5, .ifCond .ne 7, 3), (8, .iconst 1, 1), (9, .goto 16, 3), (12, .aload_n 0, 1), (13, .iload_n 1, 1), (14, .invokevirtual 123, 3), (17, .ifCond .eq 7, 3), (20, .iconst 0, 1), (21, .goto 4, 3), (24, .iconst 2, 1), (25, .invokevirtual 54, 3), (28, .ireturn, 1)]
theorem dc_X4_refusesInner_0 : dcAll cX4_refusesInner dl_X4_refusesInner_0 = true := by decide +kernel
def dl_X4_firstTrend_0 : List (Nat × Instr × Nat) := [(0, .aload_n 0, 1), (1, .iload_n 1, 1), (2, .invokevirtual 169, 3), (5, .ifCond .eq 7, 3), (8, .lconst 0, 1), (9, .goto 9, 3), (12, .aload_n 0, 1), (13, .getfield 23, 3), (16, .iload_n 1, 1), (17, .laload, 1), (18, .lreturn, 1)]
theorem dc_X4_firstTrend_0 : dcAll cX4_firstTrend dl_X4_firstTrend_0 = true := by decide +kernel
def dl_X4_deviation_0 : List (Nat × Instr × Nat) := [(0, .aload_n 0, 1), (1, .iload_n 1, 1), (2, .invokevirtual 169, 3), (5, .ifCond .eq 7, 3), (8, .lconst 0, 1), (9, .goto 9, 3), (12, .aload_n 0, 1), (13, .getfield 26, 3), (16, .iload_n 1, 1), (17, .laload, 1), (18, .lreturn, 1)]
theorem dc_X4_deviation_0 : dcAll cX4_deviation dl_X4_deviation_0 = true := by decide +kernel
def dl_X4_weight_0 : List (Nat × Instr × Nat) := [(0, .aload_n 0, 1), (1, .iload_n 1, 1), (2, .invokevirtual 169, 3), (5, .ifCond .eq 7, 3), (8, .iconst 0, 1), (9, .goto 9, 3), (12, .aload_n 0, 1), (13, .getfield 29, 3), (16, .iload_n 1, 1), (17, .iaload, 1), (18, .ireturn, 1)]
theorem dc_X4_weight_0 : dcAll cX4_weight dl_X4_weight_0 = true := by decide +kernel
def dl_X4_spread_0 : List (Nat × Instr × Nat) := [(0, .aload_n 0, 1), (1, .aload_n 0, 1), (2, .invokevirtual 166, 3), (5, .ifCond .eq 7, 3), (8, .iconst 0, 1), (9, .goto 4, 3), (12, .iconst 1, 1), (13, .invokevirtual 54, 3), (16, .ifCond .eq 7, 3), (19, .lconst 0, 1), (20, .goto 7, 3), (23, .aload_n 0, 1), (24, .getfield 135, 3), (27, .lreturn, 1)]
theorem dc_X4_spread_0 : dcAll cX4_spread dl_X4_spread_0 = true := by decide +kernel
def dl_X4_isSeason_0 : List (Nat × Instr × Nat) := [(0, .iload_n 1, 1), (1, .i2l, 1), (2, .lconst 0, 1), (3, .aload_n 0, 1), (4, .getfield 7, 3), (7, .iconst 0, 1), (8, .iaload, 1), (9, .iconst 1, 1), (10, .isub, 1), (11, .i2l, 1), (12, .invokestatic 58, 3), (15, .ireturn, 1)]
theorem dc_X4_isSeason_0 : dcAll cX4_isSeason dl_X4_isSeason_0 = true := by decide +kernel
def dl_X4_factor_0 : List (Nat × Instr × Nat) := [(0, .aload_n 0, 1), (1, .aload_n 0, 1), (2, .iload_n 1, 1), (3, .invokevirtual 172, 3), (6, .ifCond .ne 7, 3), (9, .iconst 1, 1), (10, .goto 15, 3), (13, .aload_n 0, 1), (14, .invokevirtual 166, 3), (17, .ifCond .eq 7, 3), (20, .iconst 0, 1), (21, .goto 4, 3), (24, .iconst 2, 1), (25, .invokevirtual 54, 3), (28, .ifCond .eq 7, 3), (31, .lconst 0, 1), (32, .goto 9, 3), (35, .aload_n 0, 1), (36, .getfield 35, 3), (39, .iload_n 1, 1), (40, .laload, 1), (41, .lreturn, 1)]
theorem dc_X4_factor_0 : dcAll cX4_factor dl_X4_factor_0 = true := by decide +kernel
def dl_X4_refusesEntry_0 : List (Nat × Instr × Nat) := [(0, .aload_n 0, 1), (1, .aload_n 0, 1), (2, .invokevirtual 166, 3), (5, .ifCond .ne 7, 3), (8, .iconst 1, 1), (9, .goto 16, 3), (12, .aload_n 0, 1), (13, .iload_n 1, 1), (14, .invokevirtual 96, 3), (17, .ifCond .eq 7, 3), (20, .iconst 0, 1), (21, .goto 4, 3), (24, .iconst 2, 1), (25, .invokevirtual 54, 3), (28, .ireturn, 1)]
theorem dc_X4_refusesEntry_0 : dcAll cX4_refusesEntry dl_X4_refusesEntry_0 = true := by decide +kernel
def dl_X4_adjusted_0 : List (Nat × Instr × Nat) := [(0, .aload_n 0, 1), (1, .iload_n 1, 1), (2, .invokevirtual 175, 3), (5, .ifCond .eq 7, 3), (8, .lconst 0, 1), (9, .goto 9, 3), (12, .aload_n 0, 1), (13, .getfield 38, 3), (16, .iload_n 1, 1), (17, .laload, 1), (18, .lreturn, 1)]
theorem dc_X4_adjusted_0 : dcAll cX4_adjusted dl_X4_adjusted_0 = true := by decide +kernel
def dl_X4_trend_0 : List (Nat × Instr × Nat) := [(0, .aload_n 0, 1), (1, .iload_n 1, 1), (2, .invokevirtual 175, 3), (5, .ifCond .eq 7, 3), (8, .lconst 0, 1), (9, .goto 9, 3), (12, .aload_n 0, 1), (13, .getfield 41, 3), (16, .iload_n 1, 1), (17, .laload, 1), (18, .lreturn, 1)]
theorem dc_X4_trend_0 : dcAll cX4_trend dl_X4_trend_0 = true := by decide +kernel
def dl_X4_irregular_0 : List (Nat × Instr × Nat) := [(0, .aload_n 0, 1), (1, .iload_n 1, 1), (2, .invokevirtual 175, 3), (5, .ifCond .eq 7, 3), (8, .lconst 0, 1), (9, .goto 9, 3), (12, .aload_n 0, 1), (13, .getfield 44, 3), (16, .iload_n 1, 1), (17, .laload, 1), (18, .lreturn, 1)]
theorem dc_X4_irregular_0 : dcAll cX4_irregular dl_X4_irregular_0 = true := by decide +kernel
def dl_X4_isOut_0 : List (Nat × Instr × Nat) := [(0, .aload_n 0, 1), (1, .iload_n 1, 1), (2, .invokevirtual 123, 3), (5, .ifCond .eq 18, 3), (8, .aload_n 0, 1), (9, .getfield 29, 3), (12, .iload_n 1, 1), (13, .iaload, 1), (14, .bipush 100, 2), (16, .if_icmp .ge 7, 3), (19, .iconst 1, 1), (20, .goto 4, 3), (23, .iconst 0, 1), (24, .ireturn, 1)]
theorem dc_X4_isOut_0 : dcAll cX4_isOut dl_X4_isOut_0 = true := by decide +kernel
def dl_X4_outs_0 : List (Nat × Instr × Nat) := [(0, .iconst 0, 1), (1, .istore_n 1, 1), (2, .iconst 0, 1), (3, .istore_n 2, 1), (4, .iload_n 2, 1), (5, .aload_n 0, 1), (6, .getfield 7, 3), (9, .iconst 3, 1), (10, .iaload, 1), (11, .if_icmp .ge 25, 3), (14, .iload_n 1, 1), (15, .aload_n 0, 1), (16, .iload_n 2, 1), (17, .invokevirtual 178, 3), (20, .ifCond .eq 7, 3), (23, .iconst 1, 1), (24, .goto 4, 3), (27, .iconst 0, 1), (28, .iadd, 1), (29, .istore_n 1, 1), (30, .iinc 2 1, 3), (33, .goto (-29), 3), (36, .iload_n 1, 1), (37, .ireturn, 1)]
theorem dc_X4_outs_0 : dcAll cX4_outs dl_X4_outs_0 = true := by decide +kernel
def dl_X4_outlierCount_0 : List (Nat × Instr × Nat) := [(0, .aload_n 0, 1), (1, .aload_n 0, 1), (2, .invokevirtual 166, 3), (5, .ifCond .eq 7, 3), (8, .iconst 0, 1), (9, .goto 4, 3), (12, .iconst 1, 1), (13, .invokevirtual 54, 3), (16, .ifCond .eq 7, 3), (19, .iconst 0, 1), (20, .goto 7, 3), (23, .aload_n 0, 1), (24, .invokevirtual 181, 3), (27, .ireturn, 1)]
theorem dc_X4_outlierCount_0 : dcAll cX4_outlierCount dl_X4_outlierCount_0 = true := by decide +kernel
def dl_X4_isAhead_0 : List (Nat × Instr × Nat) := [(0, .aload_n 0, 1), (1, .getfield 29, 3), (4, .iload_n 1, 1), (5, .iaload, 1), (6, .aload_n 0, 1), (7, .getfield 29, 3), (10, .iload_n 2, 1), (11, .iaload, 1), (12, .if_icmp .eq 24, 3), (15, .aload_n 0, 1), (16, .getfield 29, 3), (19, .iload_n 1, 1), (20, .iaload, 1), (21, .aload_n 0, 1), (22, .getfield 29, 3), (25, .iload_n 2, 1), (26, .iaload, 1), (27, .if_icmp .ge 7, 3), (30, .iconst 1, 1), (31, .goto 4, 3), (34, .iconst 0, 1), (35, .ireturn, 1), (36, .aload_n 0, 1), (37, .getfield 32, 3), (40, .iload_n 1, 1), (41, .laload, 1), (42, .invokestatic 126, 3), (45, .lstore_n 3, 1), (46, .aload_n 0, 1), (47, .getfield 32, 3), (50, .iload_n 2, 1), (51, .laload, 1), (52, .invokestatic 126, 3), (55, .lstore 5, 2), (57, .lload_n 3, 1), (58, .lload 5, 2), (60, .lcmp, 1), (61, .ifCond .eq 18, 3), (64, .lload_n 3, 1), (65, .lload 5, 2), (67, .lcmp, 1), (68, .ifCond .le 7, 3), (71, .iconst 1, 1), (72, .goto 17, 3), (75, .iconst 0, 1), (76, .goto 13, 3), (79, .iload_n 1, 1), (80, .iload_n 2, 1)]
theorem dc_X4_isAhead_0 : dcAll cX4_isAhead dl_X4_isAhead_0 = true := by decide +kernel
def dl_X4_isAhead_1 : List (Nat × Instr × Nat) := [(81, .if_icmp .ge 7, 3), (84, .iconst 1, 1), (85, .goto 4, 3), (88, .iconst 0, 1), (89, .ireturn, 1)]
theorem dc_X4_isAhead_1 : dcAll cX4_isAhead dl_X4_isAhead_1 = true := by decide +kernel
def dl_X4_outlier_0 : List (Nat × Instr × Nat) := [(0, .aload_n 0, 1), (1, .aload_n 0, 1), (2, .invokevirtual 166, 3), (5, .ifCond .ne 7, 3), (8, .iconst 1, 1), (9, .goto 24, 3), (12, .iload_n 1, 1), (13, .i2l, 1), (14, .lconst 0, 1), (15, .aload_n 0, 1), (16, .invokevirtual 181, 3), (19, .iconst 1, 1), (20, .isub, 1), (21, .i2l, 1), (22, .invokestatic 58, 3), (25, .ifCond .eq 7, 3), (28, .iconst 0, 1), (29, .goto 4, 3), (32, .iconst 2, 1), (33, .invokevirtual 54, 3), (36, .ifCond .eq 5, 3), (39, .iconst 0, 1), (40, .ireturn, 1), (41, .iconst 0, 1), (42, .istore_n 2, 1), (43, .iload_n 2, 1), (44, .aload_n 0, 1), (45, .getfield 7, 3), (48, .iconst 3, 1), (49, .iaload, 1), (50, .if_icmp .ge 81, 3), (53, .iconst 0, 1), (54, .istore_n 3, 1), (55, .iconst 0, 1), (56, .istore 4, 2), (58, .iload 4, 2), (60, .aload_n 0, 1), (61, .getfield 7, 3), (64, .iconst 3, 1), (65, .iaload, 1), (66, .if_icmp .ge 44, 3), (69, .iload_n 3, 1), (70, .aload_n 0, 1), (71, .iload_n 2, 1), (72, .invokevirtual 178, 3), (75, .ifCond .eq 26, 3), (78, .aload_n 0, 1), (79, .iload 4, 2)]
theorem dc_X4_outlier_0 : dcAll cX4_outlier dl_X4_outlier_0 = true := by decide +kernel
def dl_X4_outlier_1 : List (Nat × Instr × Nat) := [(81, .invokevirtual 178, 3), (84, .ifCond .eq 17, 3), (87, .aload_n 0, 1), (88, .iload 4, 2), (90, .iload_n 2, 1), (91, .invokevirtual 184, 3), (94, .ifCond .eq 7, 3), (97, .iconst 1, 1), (98, .goto 4, 3), (101, .iconst 0, 1), (102, .iadd, 1), (103, .istore_n 3, 1), (104, .iinc 4 1, 3), (107, .goto (-49), 3), (110, .aload_n 0, 1), (111, .iload_n 2, 1), (112, .invokevirtual 178, 3), (115, .ifCond .eq 10, 3), (118, .iload_n 3, 1), (119, .iload_n 1, 1), (120, .if_icmp .ne 5, 3), (123, .iload_n 2, 1), (124, .ireturn, 1), (125, .iinc 2 1, 3), (128, .goto (-85), 3), (131, .iconst (-1), 1), (132, .ireturn, 1)]
theorem dc_X4_outlier_1 : dcAll cX4_outlier dl_X4_outlier_1 = true := by decide +kernel
def dl_X4_seasonOfRank_0 : List (Nat × Instr × Nat) := [(0, .aload_n 0, 1), (1, .aload_n 0, 1), (2, .iload_n 1, 1), (3, .invokevirtual 172, 3), (6, .ifCond .ne 7, 3), (9, .iconst 1, 1), (10, .goto 15, 3), (13, .aload_n 0, 1), (14, .invokevirtual 166, 3), (17, .ifCond .eq 7, 3), (20, .iconst 0, 1), (21, .goto 4, 3), (24, .iconst 2, 1), (25, .invokevirtual 54, 3), (28, .ifCond .eq 5, 3), (31, .iconst 0, 1), (32, .ireturn, 1), (33, .iconst 0, 1), (34, .istore_n 2, 1), (35, .iload_n 2, 1), (36, .aload_n 0, 1), (37, .getfield 7, 3), (40, .iconst 0, 1), (41, .iaload, 1), (42, .if_icmp .ge 86, 3), (45, .iconst 0, 1), (46, .istore_n 3, 1), (47, .iconst 0, 1), (48, .istore 4, 2), (50, .iload 4, 2), (52, .aload_n 0, 1), (53, .getfield 7, 3), (56, .iconst 0, 1), (57, .iaload, 1), (58, .if_icmp .ge 57, 3), (61, .iload_n 3, 1), (62, .aload_n 0, 1), (63, .getfield 35, 3), (66, .iload 4, 2), (68, .laload, 1), (69, .aload_n 0, 1), (70, .getfield 35, 3), (73, .iload_n 2, 1), (74, .laload, 1), (75, .lcmp, 1), (76, .ifCond .gt 26, 3), (79, .aload_n 0, 1), (80, .getfield 35, 3)]
theorem dc_X4_seasonOfRank_0 : dcAll cX4_seasonOfRank dl_X4_seasonOfRank_0 = true := by decide +kernel
def dl_X4_seasonOfRank_1 : List (Nat × Instr × Nat) := [(83, .iload 4, 2), (85, .laload, 1), (86, .aload_n 0, 1), (87, .getfield 35, 3), (90, .iload_n 2, 1), (91, .laload, 1), (92, .lcmp, 1), (93, .ifCond .ne 13, 3), (96, .iload 4, 2), (98, .iload_n 2, 1), (99, .if_icmp .ge 7, 3), (102, .iconst 1, 1), (103, .goto 4, 3), (106, .iconst 0, 1), (107, .iadd, 1), (108, .istore_n 3, 1), (109, .iinc 4 1, 3), (112, .goto (-62), 3), (115, .iload_n 3, 1), (116, .iload_n 1, 1), (117, .if_icmp .ne 5, 3), (120, .iload_n 2, 1), (121, .ireturn, 1), (122, .iinc 2 1, 3), (125, .goto (-90), 3), (128, .iconst (-1), 1), (129, .ireturn, 1)]
theorem dc_X4_seasonOfRank_1 : dcAll cX4_seasonOfRank dl_X4_seasonOfRank_1 = true := by decide +kernel
def dl_X4_forecast_0 : List (Nat × Instr × Nat) := [(0, .aload_n 0, 1), (1, .iload_n 1, 1), (2, .i2l, 1), (3, .lconst 1, 1), (4, .ldc2_w 188, 3), (7, .invokestatic 58, 3), (10, .ifCond .ne 7, 3), (13, .iconst 1, 1), (14, .goto 15, 3), (17, .aload_n 0, 1), (18, .invokevirtual 166, 3), (21, .ifCond .eq 7, 3), (24, .iconst 0, 1), (25, .goto 4, 3), (28, .iconst 2, 1), (29, .invokevirtual 54, 3), (32, .ifCond .eq 5, 3), (35, .lconst 0, 1), (36, .lreturn, 1), (37, .aload_n 0, 1), (38, .getfield 7, 3), (41, .iconst 3, 1), (42, .iaload, 1), (43, .iconst 1, 1), (44, .isub, 1), (45, .istore_n 2, 1), (46, .aload_n 0, 1), (47, .getfield 7, 3), (50, .iconst 0, 1), (51, .iaload, 1), (52, .iload_n 2, 1), (53, .if_icmp .ge 12, 3), (56, .aload_n 0, 1), (57, .getfield 7, 3), (60, .iconst 0, 1), (61, .iaload, 1), (62, .goto 4, 3), (65, .iload_n 2, 1), (66, .istore_n 3, 1), (67, .aload_n 0, 1), (68, .getfield 41, 3), (71, .iload_n 2, 1), (72, .laload, 1), (73, .iload_n 1, 1), (74, .i2l, 1), (75, .aload_n 0, 1), (76, .getfield 41, 3), (79, .iload_n 2, 1)]
theorem dc_X4_forecast_0 : dcAll cX4_forecast dl_X4_forecast_0 = true := by decide +kernel
def dl_X4_forecast_1 : List (Nat × Instr × Nat) := [(80, .laload, 1), (81, .aload_n 0, 1), (82, .getfield 41, 3), (85, .iload_n 2, 1), (86, .iload_n 3, 1), (87, .isub, 1), (88, .laload, 1), (89, .lsub, 1), (90, .lmul, 1), (91, .iload_n 3, 1), (92, .i2l, 1), (93, .invokestatic 111, 3), (96, .ladd, 1), (97, .lstore 4, 2), (99, .aload_n 0, 1), (100, .getfield 35, 3), (103, .iload_n 2, 1), (104, .iload_n 1, 1), (105, .iadd, 1), (106, .aload_n 0, 1), (107, .getfield 7, 3), (110, .iconst 0, 1), (111, .iaload, 1), (112, .irem, 1), (113, .laload, 1), (114, .lstore 6, 2), (116, .aload_n 0, 1), (117, .getfield 7, 3), (120, .iconst 1, 1), (121, .iaload, 1), (122, .ifCond .ne 11, 3), (125, .lload 4, 2), (127, .lload 6, 2), (129, .ladd, 1), (130, .goto 14, 3), (133, .lload 4, 2), (135, .lload 6, 2), (137, .lmul, 1), (138, .ldc2_w 121, 3), (141, .invokestatic 111, 3), (144, .lreturn, 1)]
theorem dc_X4_forecast_1 : dcAll cX4_forecast dl_X4_forecast_1 = true := by decide +kernel
def dl_X4_daysAll_0 : List (Nat × Instr × Nat) := [(0, .lconst 0, 1), (1, .lstore_n 1, 1), (2, .iconst 0, 1), (3, .istore_n 3, 1), (4, .iload_n 3, 1), (5, .aload_n 0, 1), (6, .getfield 7, 3), (9, .iconst 3, 1), (10, .iaload, 1), (11, .if_icmp .ge 18, 3), (14, .lload_n 1, 1), (15, .aload_n 0, 1), (16, .iload_n 3, 1), (17, .invokevirtual 190, 3), (20, .i2l, 1), (21, .ladd, 1), (22, .lstore_n 1, 1), (23, .iinc 3 1, 3), (26, .goto (-22), 3), (29, .lload_n 1, 1), (30, .lreturn, 1)]
theorem dc_X4_daysAll_0 : dcAll cX4_daysAll dl_X4_daysAll_0 = true := by decide +kernel
def dl_X4_unlike_0 : List (Nat × Instr × Nat) := [(0, .aload_n 0, 1), (1, .getfield 7, 3), (4, .iconst 3, 1), (5, .iaload, 1), (6, .i2l, 1), (7, .aload_n 0, 1), (8, .iload_n 1, 1), (9, .invokevirtual 190, 3), (12, .i2l, 1), (13, .lmul, 1), (14, .aload_n 0, 1), (15, .invokevirtual 193, 3), (18, .lsub, 1), (19, .lreturn, 1)]
theorem dc_X4_unlike_0 : dcAll cX4_unlike dl_X4_unlike_0 = true := by decide +kernel
def dl_X4_hasEffect_0 : List (Nat × Instr × Nat) := [(0, .iconst 0, 1), (1, .istore_n 1, 1), (2, .iconst 1, 1), (3, .istore_n 2, 1), (4, .iload_n 2, 1), (5, .aload_n 0, 1), (6, .getfield 7, 3), (9, .iconst 3, 1), (10, .iaload, 1), (11, .if_icmp .ge 32, 3), (14, .iload_n 1, 1), (15, .ifCond .ne 16, 3), (18, .aload_n 0, 1), (19, .iload_n 2, 1), (20, .invokevirtual 190, 3), (23, .aload_n 0, 1), (24, .iconst 0, 1), (25, .invokevirtual 190, 3), (28, .if_icmp .eq 7, 3), (31, .iconst 1, 1), (32, .goto 4, 3), (35, .iconst 0, 1), (36, .istore_n 1, 1), (37, .iinc 2 1, 3), (40, .goto (-36), 3), (43, .iload_n 1, 1), (44, .ifCond .eq 23, 3), (47, .aload_n 0, 1), (48, .getfield 7, 3), (51, .iconst 1, 1), (52, .iaload, 1), (53, .ifCond .ne 14, 3), (56, .aload_n 0, 1), (57, .invokevirtual 166, 3), (60, .ifCond .eq 7, 3), (63, .iconst 1, 1), (64, .goto 4, 3), (67, .iconst 0, 1), (68, .ireturn, 1)]
theorem dc_X4_hasEffect_0 : dcAll cX4_hasEffect dl_X4_hasEffect_0 = true := by decide +kernel
def dl_X4_effect_0 : List (Nat × Instr × Nat) := [(0, .lconst 0, 1), (1, .lstore_n 1, 1), (2, .lconst 0, 1), (3, .lstore_n 3, 1), (4, .iconst 0, 1), (5, .istore 5, 2), (7, .iload 5, 2), (9, .aload_n 0, 1), (10, .getfield 7, 3), (13, .iconst 3, 1), (14, .iaload, 1), (15, .if_icmp .ge 42, 3), (18, .lload_n 1, 1), (19, .aload_n 0, 1), (20, .iload 5, 2), (22, .invokevirtual 197, 3), (25, .aload_n 0, 1), (26, .getfield 44, 3), (29, .iload 5, 2), (31, .laload, 1), (32, .lmul, 1), (33, .ladd, 1), (34, .lstore_n 1, 1), (35, .lload_n 3, 1), (36, .aload_n 0, 1), (37, .iload 5, 2), (39, .invokevirtual 197, 3), (42, .aload_n 0, 1), (43, .iload 5, 2), (45, .invokevirtual 197, 3), (48, .lmul, 1), (49, .ladd, 1), (50, .lstore_n 3, 1), (51, .iinc 5 1, 3), (54, .goto (-47), 3), (57, .ldc2_w 152, 3), (60, .aload_n 0, 1), (61, .getfield 7, 3), (64, .iconst 3, 1), (65, .iaload, 1), (66, .i2l, 1), (67, .lmul, 1), (68, .lload_n 1, 1), (69, .lmul, 1), (70, .lload_n 3, 1), (71, .invokestatic 111, 3), (74, .lreturn, 1)]
theorem dc_X4_effect_0 : dcAll cX4_effect dl_X4_effect_0 = true := by decide +kernel
def dl_X4_daysEffect_0 : List (Nat × Instr × Nat) := [(0, .aload_n 0, 1), (1, .aload_n 0, 1), (2, .invokevirtual 201, 3), (5, .ifCond .eq 7, 3), (8, .iconst 0, 1), (9, .goto 4, 3), (12, .iconst 1, 1), (13, .invokevirtual 54, 3), (16, .ifCond .eq 7, 3), (19, .lconst 0, 1), (20, .goto 7, 3), (23, .aload_n 0, 1), (24, .invokevirtual 204, 3), (27, .lreturn, 1)]
theorem dc_X4_daysEffect_0 : dcAll cX4_daysEffect dl_X4_daysEffect_0 = true := by decide +kernel
def dl_X4_removeDays_0 : List (Nat × Instr × Nat) := [(0, .aload_n 0, 1), (1, .aload_n 0, 1), (2, .invokevirtual 201, 3), (5, .ifCond .eq 7, 3), (8, .iconst 0, 1), (9, .goto 4, 3), (12, .iconst 1, 1), (13, .invokevirtual 54, 3), (16, .ifCond .eq 5, 3), (19, .iconst 0, 1), (20, .ireturn, 1), (21, .aload_n 0, 1), (22, .invokevirtual 66, 3), (25, .aload_n 0, 1), (26, .invokevirtual 204, 3), (29, .lstore_n 1, 1), (30, .iconst 0, 1), (31, .istore_n 3, 1), (32, .iconst 0, 1), (33, .istore 4, 2), (35, .iload 4, 2), (37, .aload_n 0, 1), (38, .getfield 7, 3), (41, .iconst 3, 1), (42, .iaload, 1), (43, .if_icmp .ge 112, 3), (46, .aload_n 0, 1), (47, .iload 4, 2), (49, .invokevirtual 80, 3), (52, .i2l, 1), (53, .lload_n 1, 1), (54, .aload_n 0, 1), (55, .iload 4, 2), (57, .invokevirtual 197, 3), (60, .lmul, 1), (61, .ldc2_w 152, 3), (64, .aload_n 0, 1), (65, .getfield 7, 3), (68, .iconst 3, 1), (69, .iaload, 1), (70, .i2l, 1), (71, .lmul, 1), (72, .invokestatic 111, 3), (75, .lsub, 1), (76, .lstore 5, 2), (78, .lload 5, 2), (80, .ldc2_w 62, 3), (83, .lcmp, 1)]
theorem dc_X4_removeDays_0 : dcAll cX4_removeDays dl_X4_removeDays_0 = true := by decide +kernel
def dl_X4_removeDays_1 : List (Nat × Instr × Nat) := [(84, .ifCond .ge 9, 3), (87, .ldc2_w 62, 3), (90, .goto 20, 3), (93, .lload 5, 2), (95, .ldc2_w 64, 3), (98, .lcmp, 1), (99, .ifCond .le 9, 3), (102, .ldc2_w 64, 3), (105, .goto 5, 3), (108, .lload 5, 2), (110, .lstore 5, 2), (112, .iload_n 3, 1), (113, .lload 5, 2), (115, .aload_n 0, 1), (116, .iload 4, 2), (118, .invokevirtual 80, 3), (121, .i2l, 1), (122, .lcmp, 1), (123, .ifCond .ne 7, 3), (126, .iconst 0, 1), (127, .goto 4, 3), (130, .iconst 1, 1), (131, .iadd, 1), (132, .istore_n 3, 1), (133, .aload_n 0, 1), (134, .getfield 7, 3), (137, .iconst 4, 1), (138, .iconst 3, 1), (139, .iload 4, 2), (141, .imul, 1), (142, .iadd, 1), (143, .iconst 1, 1), (144, .iadd, 1), (145, .lload 5, 2), (147, .l2i, 1), (148, .iastore, 1), (149, .iinc 4 1, 3), (152, .goto (-117), 3), (155, .iload_n 3, 1), (156, .ireturn, 1)]
theorem dc_X4_removeDays_1 : dcAll cX4_removeDays dl_X4_removeDays_1 = true := by decide +kernel
def dl_X4_mix_0 : List (Nat × Instr × Nat) := [(0, .aload_n 0, 1), (1, .ldc2_w 103, 3), (4, .aload_n 0, 1), (5, .getfield 207, 3), (8, .lmul, 1), (9, .lload_n 1, 1), (10, .ladd, 1), (11, .putfield 207, 3), (14, .return_, 1)]
theorem dc_X4_mix_0 : dcAll cX4_mix dl_X4_mix_0 = true := by decide +kernel
def dl_X4_digest_0 : List (Nat × Instr × Nat) := [(0, .aload_n 0, 1), (1, .iconst 0, 1), (2, .putfield 47, 3), (5, .aload_n 0, 1), (6, .ldc2_w 210, 3), (9, .putfield 207, 3), (12, .aload_n 0, 1), (13, .aload_n 0, 1), (14, .getfield 51, 3), (17, .i2l, 1), (18, .invokevirtual 212, 3), (21, .iconst 0, 1), (22, .istore_n 1, 1), (23, .iload_n 1, 1), (24, .iconst 4, 1), (25, .iconst 3, 1), (26, .aload_n 0, 1), (27, .getfield 7, 3), (30, .iconst 3, 1), (31, .iaload, 1), (32, .imul, 1), (33, .iadd, 1), (34, .if_icmp .ge 20, 3), (37, .aload_n 0, 1), (38, .aload_n 0, 1), (39, .getfield 7, 3), (42, .iload_n 1, 1), (43, .iaload, 1), (44, .i2l, 1), (45, .invokevirtual 212, 3), (48, .iinc 1 1, 3), (51, .goto (-28), 3), (54, .aload_n 0, 1), (55, .invokevirtual 166, 3), (58, .istore_n 1, 1), (59, .aload_n 0, 1), (60, .iload_n 1, 1), (61, .ifCond .eq 7, 3), (64, .lconst 1, 1), (65, .goto 4, 3), (68, .lconst 0, 1), (69, .invokevirtual 212, 3), (72, .iload_n 1, 1), (73, .ifCond .eq 123, 3), (76, .aload_n 0, 1), (77, .aload_n 0, 1), (78, .getfield 135, 3), (81, .invokevirtual 212, 3)]
theorem dc_X4_digest_0 : dcAll cX4_digest dl_X4_digest_0 = true := by decide +kernel
def dl_X4_digest_1 : List (Nat × Instr × Nat) := [(84, .iconst 0, 1), (85, .istore_n 2, 1), (86, .iload_n 2, 1), (87, .aload_n 0, 1), (88, .getfield 7, 3), (91, .iconst 0, 1), (92, .iaload, 1), (93, .if_icmp .ge 19, 3), (96, .aload_n 0, 1), (97, .aload_n 0, 1), (98, .getfield 35, 3), (101, .iload_n 2, 1), (102, .laload, 1), (103, .invokevirtual 212, 3), (106, .iinc 2 1, 3), (109, .goto (-23), 3), (112, .aload_n 0, 1), (113, .aload_n 0, 1), (114, .invokevirtual 181, 3), (117, .i2l, 1), (118, .invokevirtual 212, 3), (121, .aload_n 0, 1), (122, .invokevirtual 115, 3), (125, .istore_n 2, 1), (126, .iload_n 2, 1), (127, .aload_n 0, 1), (128, .getfield 7, 3), (131, .iconst 3, 1), (132, .iaload, 1), (133, .aload_n 0, 1), (134, .invokevirtual 115, 3), (137, .isub, 1), (138, .if_icmp .ge 20, 3), (141, .aload_n 0, 1), (142, .aload_n 0, 1), (143, .getfield 29, 3), (146, .iload_n 2, 1), (147, .iaload, 1), (148, .i2l, 1), (149, .invokevirtual 212, 3), (152, .iinc 2 1, 3), (155, .goto (-29), 3), (158, .iconst 0, 1), (159, .istore_n 2, 1), (160, .iload_n 2, 1), (161, .aload_n 0, 1), (162, .getfield 7, 3), (165, .iconst 3, 1)]
theorem dc_X4_digest_1 : dcAll cX4_digest dl_X4_digest_1 = true := by decide +kernel
def dl_X4_digest_2 : List (Nat × Instr × Nat) := [(166, .iaload, 1), (167, .if_icmp .ge 29, 3), (170, .aload_n 0, 1), (171, .aload_n 0, 1), (172, .getfield 41, 3), (175, .iload_n 2, 1), (176, .laload, 1), (177, .invokevirtual 212, 3), (180, .aload_n 0, 1), (181, .aload_n 0, 1), (182, .getfield 44, 3), (185, .iload_n 2, 1), (186, .laload, 1), (187, .invokevirtual 212, 3), (190, .iinc 2 1, 3), (193, .goto (-33), 3), (196, .aload_n 0, 1), (197, .getfield 207, 3), (200, .lreturn, 1)]
theorem dc_X4_digest_2 : dcAll cX4_digest dl_X4_digest_2 = true := by decide +kernel
def dl_L_setPeriod_0 : List (Nat × Instr × Nat) := [(0, .aload_n 2, 1), (1, .iconst 0, 1), (2, .aload_n 0, 1), (3, .iload_n 1, 1), (4, .invokevirtual 7, 3), (7, .i2l, 1), (8, .lastore, 1), (9, .goto 6, 3), (12, .astore_n 3, 1), (13, .iconst 1, 1), (14, .ireturn, 1), (15, .iconst 0, 1), (16, .ireturn, 1)]
theorem dc_L_setPeriod_0 : dcAll cL_setPeriod dl_L_setPeriod_0 = true := by decide +kernel
def dl_L_setMode_0 : List (Nat × Instr × Nat) := [(0, .aload_n 2, 1), (1, .iconst 0, 1), (2, .aload_n 0, 1), (3, .iload_n 1, 1), (4, .invokevirtual 15, 3), (7, .i2l, 1), (8, .lastore, 1), (9, .goto 9, 3), (12, .astore_n 3, 1), (13, .iconst 1, 1), (14, .ireturn, 1), (15, .astore_n 3, 1), (16, .iconst 2, 1), (17, .ireturn, 1), (18, .iconst 0, 1), (19, .ireturn, 1)]
theorem dc_L_setMode_0 : dcAll cL_setMode dl_L_setMode_0 = true := by decide +kernel
def dl_L_setRounds_0 : List (Nat × Instr × Nat) := [(0, .aload_n 2, 1), (1, .iconst 0, 1), (2, .aload_n 0, 1), (3, .iload_n 1, 1), (4, .invokevirtual 20, 3), (7, .i2l, 1), (8, .lastore, 1), (9, .goto 6, 3), (12, .astore_n 3, 1), (13, .iconst 1, 1), (14, .ireturn, 1), (15, .iconst 0, 1), (16, .ireturn, 1)]
theorem dc_L_setRounds_0 : dcAll cL_setRounds dl_L_setRounds_0 = true := by decide +kernel
def dl_L_append_0 : List (Nat × Instr × Nat) := [(0, .aload_n 2, 1), (1, .iconst 0, 1), (2, .aload_n 0, 1), (3, .iload_n 1, 1), (4, .invokevirtual 23, 3), (7, .i2l, 1), (8, .lastore, 1), (9, .goto 9, 3), (12, .astore_n 3, 1), (13, .iconst 1, 1), (14, .ireturn, 1), (15, .astore_n 3, 1), (16, .iconst 2, 1), (17, .ireturn, 1), (18, .iconst 0, 1), (19, .ireturn, 1)]
theorem dc_L_append_0 : dcAll cL_append dl_L_append_0 = true := by decide +kernel
def dl_L_appendMissing_0 : List (Nat × Instr × Nat) := [(0, .aload_n 1, 1), (1, .iconst 0, 1), (2, .aload_n 0, 1), (3, .invokevirtual 26, 3), (6, .i2l, 1), (7, .lastore, 1), (8, .goto 6, 3), (11, .astore_n 2, 1), (12, .iconst 1, 1), (13, .ireturn, 1), (14, .iconst 0, 1), (15, .ireturn, 1)]
theorem dc_L_appendMissing_0 : dcAll cL_appendMissing dl_L_appendMissing_0 = true := by decide +kernel
def dl_L_set_0 : List (Nat × Instr × Nat) := [(0, .aload_n 3, 1), (1, .iconst 0, 1), (2, .aload_n 0, 1), (3, .iload_n 1, 1), (4, .iload_n 2, 1), (5, .invokevirtual 30, 3), (8, .i2l, 1), (9, .lastore, 1), (10, .goto 11, 3), (13, .astore 4, 2), (15, .iconst 1, 1), (16, .ireturn, 1), (17, .astore 4, 2), (19, .iconst 2, 1), (20, .ireturn, 1), (21, .iconst 0, 1), (22, .ireturn, 1)]
theorem dc_L_set_0 : dcAll cL_set dl_L_set_0 = true := by decide +kernel
def dl_L_setMissing_0 : List (Nat × Instr × Nat) := [(0, .aload_n 2, 1), (1, .iconst 0, 1), (2, .aload_n 0, 1), (3, .iload_n 1, 1), (4, .invokevirtual 36, 3), (7, .i2l, 1), (8, .lastore, 1), (9, .goto 9, 3), (12, .astore_n 3, 1), (13, .iconst 1, 1), (14, .ireturn, 1), (15, .astore_n 3, 1), (16, .iconst 2, 1), (17, .ireturn, 1), (18, .iconst 0, 1), (19, .ireturn, 1)]
theorem dc_L_setMissing_0 : dcAll cL_setMissing dl_L_setMissing_0 = true := by decide +kernel
def dl_L_setDays_0 : List (Nat × Instr × Nat) := [(0, .aload_n 3, 1), (1, .iconst 0, 1), (2, .aload_n 0, 1), (3, .iload_n 1, 1), (4, .iload_n 2, 1), (5, .invokevirtual 39, 3), (8, .i2l, 1), (9, .lastore, 1), (10, .goto 11, 3), (13, .astore 4, 2), (15, .iconst 1, 1), (16, .ireturn, 1), (17, .astore 4, 2), (19, .iconst 2, 1), (20, .ireturn, 1), (21, .iconst 0, 1), (22, .ireturn, 1)]
theorem dc_L_setDays_0 : dcAll cL_setDays dl_L_setDays_0 = true := by decide +kernel
def dl_L_removeLast_0 : List (Nat × Instr × Nat) := [(0, .aload_n 1, 1), (1, .iconst 0, 1), (2, .aload_n 0, 1), (3, .invokevirtual 42, 3), (6, .i2l, 1), (7, .lastore, 1), (8, .goto 6, 3), (11, .astore_n 2, 1), (12, .iconst 1, 1), (13, .ireturn, 1), (14, .iconst 0, 1), (15, .ireturn, 1)]
theorem dc_L_removeLast_0 : dcAll cL_removeLast dl_L_removeLast_0 = true := by decide +kernel
def dl_L_fill_0 : List (Nat × Instr × Nat) := [(0, .aload_n 1, 1), (1, .iconst 0, 1), (2, .aload_n 0, 1), (3, .invokevirtual 45, 3), (6, .i2l, 1), (7, .lastore, 1), (8, .goto 6, 3), (11, .astore_n 2, 1), (12, .iconst 1, 1), (13, .ireturn, 1), (14, .iconst 0, 1), (15, .ireturn, 1)]
theorem dc_L_fill_0 : dcAll cL_fill dl_L_fill_0 = true := by decide +kernel
def dl_L_value_0 : List (Nat × Instr × Nat) := [(0, .aload_n 2, 1), (1, .iconst 0, 1), (2, .aload_n 0, 1), (3, .iload_n 1, 1), (4, .invokevirtual 48, 3), (7, .i2l, 1), (8, .lastore, 1), (9, .goto 9, 3), (12, .astore_n 3, 1), (13, .iconst 1, 1), (14, .ireturn, 1), (15, .astore_n 3, 1), (16, .iconst 2, 1), (17, .ireturn, 1), (18, .iconst 0, 1), (19, .ireturn, 1)]
theorem dc_L_value_0 : dcAll cL_value dl_L_value_0 = true := by decide +kernel
def dl_L_missing_0 : List (Nat × Instr × Nat) := [(0, .aload_n 2, 1), (1, .iconst 0, 1), (2, .aload_n 0, 1), (3, .iload_n 1, 1), (4, .invokevirtual 51, 3), (7, .i2l, 1), (8, .lastore, 1), (9, .goto 6, 3), (12, .astore_n 3, 1), (13, .iconst 1, 1), (14, .ireturn, 1), (15, .iconst 0, 1), (16, .ireturn, 1)]
theorem dc_L_missing_0 : dcAll cL_missing dl_L_missing_0 = true := by decide +kernel
def dl_L_firstTrend_0 : List (Nat × Instr × Nat) := [(0, .aload_n 2, 1), (1, .iconst 0, 1), (2, .aload_n 0, 1), (3, .iload_n 1, 1), (4, .invokevirtual 54, 3), (7, .lastore, 1), (8, .goto 9, 3), (11, .astore_n 3, 1), (12, .iconst 1, 1), (13, .ireturn, 1), (14, .astore_n 3, 1), (15, .iconst 2, 1), (16, .ireturn, 1), (17, .iconst 0, 1), (18, .ireturn, 1)]
theorem dc_L_firstTrend_0 : dcAll cL_firstTrend dl_L_firstTrend_0 = true := by decide +kernel
def dl_L_deviation_0 : List (Nat × Instr × Nat) := [(0, .aload_n 2, 1), (1, .iconst 0, 1), (2, .aload_n 0, 1), (3, .iload_n 1, 1), (4, .invokevirtual 58, 3), (7, .lastore, 1), (8, .goto 9, 3), (11, .astore_n 3, 1), (12, .iconst 1, 1), (13, .ireturn, 1), (14, .astore_n 3, 1), (15, .iconst 2, 1), (16, .ireturn, 1), (17, .iconst 0, 1), (18, .ireturn, 1)]
theorem dc_L_deviation_0 : dcAll cL_deviation dl_L_deviation_0 = true := by decide +kernel
def dl_L_weight_0 : List (Nat × Instr × Nat) := [(0, .aload_n 2, 1), (1, .iconst 0, 1), (2, .aload_n 0, 1), (3, .iload_n 1, 1), (4, .invokevirtual 61, 3), (7, .i2l, 1), (8, .lastore, 1), (9, .goto 9, 3), (12, .astore_n 3, 1), (13, .iconst 1, 1), (14, .ireturn, 1), (15, .astore_n 3, 1), (16, .iconst 2, 1), (17, .ireturn, 1), (18, .iconst 0, 1), (19, .ireturn, 1)]
theorem dc_L_weight_0 : dcAll cL_weight dl_L_weight_0 = true := by decide +kernel
def dl_L_spread_0 : List (Nat × Instr × Nat) := [(0, .aload_n 1, 1), (1, .iconst 0, 1), (2, .aload_n 0, 1), (3, .invokevirtual 64, 3), (6, .lastore, 1), (7, .goto 6, 3), (10, .astore_n 2, 1), (11, .iconst 1, 1), (12, .ireturn, 1), (13, .iconst 0, 1), (14, .ireturn, 1)]
theorem dc_L_spread_0 : dcAll cL_spread dl_L_spread_0 = true := by decide +kernel
def dl_L_factor_0 : List (Nat × Instr × Nat) := [(0, .aload_n 2, 1), (1, .iconst 0, 1), (2, .aload_n 0, 1), (3, .iload_n 1, 1), (4, .invokevirtual 68, 3), (7, .lastore, 1), (8, .goto 9, 3), (11, .astore_n 3, 1), (12, .iconst 1, 1), (13, .ireturn, 1), (14, .astore_n 3, 1), (15, .iconst 2, 1), (16, .ireturn, 1), (17, .iconst 0, 1), (18, .ireturn, 1)]
theorem dc_L_factor_0 : dcAll cL_factor dl_L_factor_0 = true := by decide +kernel
def dl_L_adjusted_0 : List (Nat × Instr × Nat) := [(0, .aload_n 2, 1), (1, .iconst 0, 1), (2, .aload_n 0, 1), (3, .iload_n 1, 1), (4, .invokevirtual 71, 3), (7, .lastore, 1), (8, .goto 9, 3), (11, .astore_n 3, 1), (12, .iconst 1, 1), (13, .ireturn, 1), (14, .astore_n 3, 1), (15, .iconst 2, 1), (16, .ireturn, 1), (17, .iconst 0, 1), (18, .ireturn, 1)]
theorem dc_L_adjusted_0 : dcAll cL_adjusted dl_L_adjusted_0 = true := by decide +kernel
def dl_L_trend_0 : List (Nat × Instr × Nat) := [(0, .aload_n 2, 1), (1, .iconst 0, 1), (2, .aload_n 0, 1), (3, .iload_n 1, 1), (4, .invokevirtual 74, 3), (7, .lastore, 1), (8, .goto 9, 3), (11, .astore_n 3, 1), (12, .iconst 1, 1), (13, .ireturn, 1), (14, .astore_n 3, 1), (15, .iconst 2, 1), (16, .ireturn, 1), (17, .iconst 0, 1), (18, .ireturn, 1)]
theorem dc_L_trend_0 : dcAll cL_trend dl_L_trend_0 = true := by decide +kernel
def dl_L_irregular_0 : List (Nat × Instr × Nat) := [(0, .aload_n 2, 1), (1, .iconst 0, 1), (2, .aload_n 0, 1), (3, .iload_n 1, 1), (4, .invokevirtual 77, 3), (7, .lastore, 1), (8, .goto 9, 3), (11, .astore_n 3, 1), (12, .iconst 1, 1), (13, .ireturn, 1), (14, .astore_n 3, 1), (15, .iconst 2, 1), (16, .ireturn, 1), (17, .iconst 0, 1), (18, .ireturn, 1)]
theorem dc_L_irregular_0 : dcAll cL_irregular dl_L_irregular_0 = true := by decide +kernel
def dl_L_outlierCount_0 : List (Nat × Instr × Nat) := [(0, .aload_n 1, 1), (1, .iconst 0, 1), (2, .aload_n 0, 1), (3, .invokevirtual 80, 3), (6, .i2l, 1), (7, .lastore, 1), (8, .goto 6, 3), (11, .astore_n 2, 1), (12, .iconst 1, 1), (13, .ireturn, 1), (14, .iconst 0, 1), (15, .ireturn, 1)]
theorem dc_L_outlierCount_0 : dcAll cL_outlierCount dl_L_outlierCount_0 = true := by decide +kernel
def dl_L_outlier_0 : List (Nat × Instr × Nat) := [(0, .aload_n 2, 1), (1, .iconst 0, 1), (2, .aload_n 0, 1), (3, .iload_n 1, 1), (4, .invokevirtual 83, 3), (7, .i2l, 1), (8, .lastore, 1), (9, .goto 9, 3), (12, .astore_n 3, 1), (13, .iconst 1, 1), (14, .ireturn, 1), (15, .astore_n 3, 1), (16, .iconst 2, 1), (17, .ireturn, 1), (18, .iconst 0, 1), (19, .ireturn, 1)]
theorem dc_L_outlier_0 : dcAll cL_outlier dl_L_outlier_0 = true := by decide +kernel
def dl_L_seasonOfRank_0 : List (Nat × Instr × Nat) := [(0, .aload_n 2, 1), (1, .iconst 0, 1), (2, .aload_n 0, 1), (3, .iload_n 1, 1), (4, .invokevirtual 86, 3), (7, .i2l, 1), (8, .lastore, 1), (9, .goto 9, 3), (12, .astore_n 3, 1), (13, .iconst 1, 1), (14, .ireturn, 1), (15, .astore_n 3, 1), (16, .iconst 2, 1), (17, .ireturn, 1), (18, .iconst 0, 1), (19, .ireturn, 1)]
theorem dc_L_seasonOfRank_0 : dcAll cL_seasonOfRank dl_L_seasonOfRank_0 = true := by decide +kernel
def dl_L_forecast_0 : List (Nat × Instr × Nat) := [(0, .aload_n 2, 1), (1, .iconst 0, 1), (2, .aload_n 0, 1), (3, .iload_n 1, 1), (4, .invokevirtual 89, 3), (7, .lastore, 1), (8, .goto 9, 3), (11, .astore_n 3, 1), (12, .iconst 1, 1), (13, .ireturn, 1), (14, .astore_n 3, 1), (15, .iconst 2, 1), (16, .ireturn, 1), (17, .iconst 0, 1), (18, .ireturn, 1)]
theorem dc_L_forecast_0 : dcAll cL_forecast dl_L_forecast_0 = true := by decide +kernel
def dl_L_daysEffect_0 : List (Nat × Instr × Nat) := [(0, .aload_n 1, 1), (1, .iconst 0, 1), (2, .aload_n 0, 1), (3, .invokevirtual 92, 3), (6, .lastore, 1), (7, .goto 6, 3), (10, .astore_n 2, 1), (11, .iconst 1, 1), (12, .ireturn, 1), (13, .iconst 0, 1), (14, .ireturn, 1)]
theorem dc_L_daysEffect_0 : dcAll cL_daysEffect dl_L_daysEffect_0 = true := by decide +kernel
def dl_L_removeDays_0 : List (Nat × Instr × Nat) := [(0, .aload_n 1, 1), (1, .iconst 0, 1), (2, .aload_n 0, 1), (3, .invokevirtual 95, 3), (6, .i2l, 1), (7, .lastore, 1), (8, .goto 6, 3), (11, .astore_n 2, 1), (12, .iconst 1, 1), (13, .ireturn, 1), (14, .iconst 0, 1), (15, .ireturn, 1)]
theorem dc_L_removeDays_0 : dcAll cL_removeDays dl_L_removeDays_0 = true := by decide +kernel
def dl_L_undo_0 : List (Nat × Instr × Nat) := [(0, .aload_n 1, 1), (1, .iconst 0, 1), (2, .aload_n 0, 1), (3, .invokevirtual 98, 3), (6, .i2l, 1), (7, .lastore, 1), (8, .goto 6, 3), (11, .astore_n 2, 1), (12, .iconst 1, 1), (13, .ireturn, 1), (14, .iconst 0, 1), (15, .ireturn, 1)]
theorem dc_L_undo_0 : dcAll cL_undo dl_L_undo_0 = true := by decide +kernel
