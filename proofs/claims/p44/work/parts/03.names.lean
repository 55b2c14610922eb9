def RX0 : String := "NetMerge$History"
def TX0 : u_T := fun k => match k with
  | 0 => ("NetMerge$History", "states", "[LNetMerge$Nets;", true)
  | 1 => ("NetMerge$History", "newest", "I", false)
  | _ => ("NetMerge$History", "count", "I", false)
def tyX0 : Nat → FieldType := fun k => match k with
  | 0 => .array (.object "NetMerge$Nets")
  | 1 => .int
  | _ => .int
abbrev wsX00 : List Cond := u_ws RX0 TX0 3
theorem nmX0 : ∀ a, a < 3 → ∀ b, b < 3 → a ≠ b → (TX0 a).2.1 ≠ (TX0 b).2.1 := by decide +kernel
theorem tyX0_ok : ∀ k, k < 3 → parseFieldDescriptor (TX0 k).2.2.1 = some (tyX0 k) := by decide +kernel
abbrev cX0_init : ByteArray := prog_2_method_1_code
def yX0_init : MethodName := ⟨RX0, "<init>", "()V"⟩
abbrev cX0_clear : ByteArray := prog_2_method_2_code
def yX0_clear : MethodName := ⟨RX0, "clear", "()V"⟩
abbrev cX0_add : ByteArray := prog_2_method_3_code
def yX0_add : MethodName := ⟨RX0, "add", "(LNetMerge$Nets;)V"⟩
abbrev cX0_takeNewest : ByteArray := prog_2_method_4_code
def yX0_takeNewest : MethodName := ⟨RX0, "takeNewest", "(LNetMerge$Nets;)V"⟩
def RX1 : String := "NetMerge$Line"
def TX1 : u_T := fun k => match k with
  | 0 => ("NetMerge$Line", "bytes", "[B", true)
  | _ => ("NetMerge$Line", "length", "I", false)
def tyX1 : Nat → FieldType := fun k => match k with
  | 0 => .array .byte
  | _ => .int
abbrev wsX10 : List Cond := u_ws RX1 TX1 2
theorem nmX1 : ∀ a, a < 2 → ∀ b, b < 2 → a ≠ b → (TX1 a).2.1 ≠ (TX1 b).2.1 := by decide +kernel
theorem tyX1_ok : ∀ k, k < 2 → parseFieldDescriptor (TX1 k).2.2.1 = some (tyX1 k) := by decide +kernel
abbrev cX1_init : ByteArray := prog_3_method_1_code
def yX1_init : MethodName := ⟨RX1, "<init>", "()V"⟩
def RX2 : String := "NetMerge$Loader"
def TX2 : u_T := fun k => match k with
  | 0 => ("NetMerge$Loader", "text", "LNetMerge$Text;", true)
  | 1 => ("NetMerge$Loader", "nets", "LNetMerge$Nets;", true)
  | 2 => ("NetMerge$Loader", "error", "I", false)
  | _ => ("NetMerge$Loader", "taken", "I", false)
def tyX2 : Nat → FieldType := fun k => match k with
  | 0 => .object "NetMerge$Text"
  | 1 => .object "NetMerge$Nets"
  | 2 => .int
  | _ => .int
abbrev wsX20 : List Cond := u_ws RX2 TX2 4
theorem nmX2 : ∀ a, a < 4 → ∀ b, b < 4 → a ≠ b → (TX2 a).2.1 ≠ (TX2 b).2.1 := by decide +kernel
theorem tyX2_ok : ∀ k, k < 4 → parseFieldDescriptor (TX2 k).2.2.1 = some (tyX2 k) := by decide +kernel
abbrev cX2_init : ByteArray := prog_4_method_1_code
def yX2_init : MethodName := ⟨RX2, "<init>", "(LNetMerge$Text;LNetMerge$Nets;)V"⟩
abbrev cX2_readText : ByteArray := prog_4_method_2_code
def yX2_readText : MethodName := ⟨RX2, "readText", "()I"⟩
abbrev cX2_readHead : ByteArray := prog_4_method_3_code
def yX2_readHead : MethodName := ⟨RX2, "readHead", "()Z"⟩
abbrev cX2_readKeep : ByteArray := prog_4_method_4_code
def yX2_readKeep : MethodName := ⟨RX2, "readKeep", "()Z"⟩
abbrev cX2_readPer : ByteArray := prog_4_method_5_code
def yX2_readPer : MethodName := ⟨RX2, "readPer", "()Z"⟩
abbrev cX2_readPool : ByteArray := prog_4_method_6_code
def yX2_readPool : MethodName := ⟨RX2, "readPool", "()Z"⟩
abbrev cX2_readHost : ByteArray := prog_4_method_7_code
def yX2_readHost : MethodName := ⟨RX2, "readHost", "()Z"⟩
abbrev cX2_readRule : ByteArray := prog_4_method_8_code
def yX2_readRule : MethodName := ⟨RX2, "readRule", "()Z"⟩
abbrev cX2_takeSide : ByteArray := prog_4_method_9_code
def yX2_takeSide : MethodName := ⟨RX2, "takeSide", "()Z"⟩
abbrev cX2_readMove : ByteArray := prog_4_method_10_code
def yX2_readMove : MethodName := ⟨RX2, "readMove", "()Z"⟩
abbrev cX2_takeWord : ByteArray := prog_4_method_11_code
def yX2_takeWord : MethodName := ⟨RX2, "takeWord", "(Ljava/lang/String;)Z"⟩
abbrev cX2_takeSemicolon : ByteArray := prog_4_method_12_code
def yX2_takeSemicolon : MethodName := ⟨RX2, "takeSemicolon", "()Z"⟩
abbrev cX2_takeNumber : ByteArray := prog_4_method_13_code
def yX2_takeNumber : MethodName := ⟨RX2, "takeNumber", "(II)Z"⟩
abbrev cX2_isNumber : ByteArray := prog_4_method_14_code
def yX2_isNumber : MethodName := ⟨RX2, "isNumber", "(II)Z"⟩
abbrev cX2_fail : ByteArray := prog_4_method_15_code
def yX2_fail : MethodName := ⟨RX2, "fail", "(I)Z"⟩
def RX3 : String := "NetMerge$Nets"
def TX3 : u_T := fun k => match k with
  | 0 => ("NetMerge$Nets", "hostCount", "I", false)
  | 1 => ("NetMerge$Nets", "ruleCount", "I", false)
  | 2 => ("NetMerge$Nets", "waveCount", "I", false)
  | 3 => ("NetMerge$Nets", "keep", "I", false)
  | 4 => ("NetMerge$Nets", "per", "I", false)
  | 5 => ("NetMerge$Nets", "poolFirst", "I", false)
  | 6 => ("NetMerge$Nets", "poolLast", "I", false)
  | 7 => ("NetMerge$Nets", "bridged", "Z", false)
  | 8 => ("NetMerge$Nets", "name", "[J", true)
  | 9 => ("NetMerge$Nets", "office", "[I", true)
  | 10 => ("NetMerge$Nets", "number", "[I", true)
  | 11 => ("NetMerge$Nets", "pinned", "[I", true)
  | 12 => ("NetMerge$Nets", "planNumber", "[I", true)
  | 13 => ("NetMerge$Nets", "planWave", "[I", true)
  | 14 => ("NetMerge$Nets", "latestMove", "[I", true)
  | 15 => ("NetMerge$Nets", "movedFrom", "[I", true)
  | 16 => ("NetMerge$Nets", "ruleOffice", "[I", true)
  | 17 => ("NetMerge$Nets", "ruleAllows", "[I", true)
  | 18 => ("NetMerge$Nets", "ruleFirst", "[I", true)
  | _ => ("NetMerge$Nets", "ruleSecond", "[I", true)
def tyX3 : Nat → FieldType := fun k => match k with
  | 0 => .int
  | 1 => .int
  | 2 => .int
  | 3 => .int
  | 4 => .int
  | 5 => .int
  | 6 => .int
  | 7 => .boolean
  | 8 => .array .long
  | 9 => .array .int
  | 10 => .array .int
  | 11 => .array .int
  | 12 => .array .int
  | 13 => .array .int
  | 14 => .array .int
  | 15 => .array .int
  | 16 => .array .int
  | 17 => .array .int
  | 18 => .array .int
  | _ => .array .int
abbrev wsX30 : List Cond := u_ws RX3 TX3 20
theorem nmX3 : ∀ a, a < 20 → ∀ b, b < 20 → a ≠ b → (TX3 a).2.1 ≠ (TX3 b).2.1 := by decide +kernel
theorem tyX3_ok : ∀ k, k < 20 → parseFieldDescriptor (TX3 k).2.2.1 = some (tyX3 k) := by decide +kernel
abbrev cX3_init : ByteArray := prog_5_method_1_code
def yX3_init : MethodName := ⟨RX3, "<init>", "()V"⟩
abbrev cX3_clear : ByteArray := prog_5_method_2_code
def yX3_clear : MethodName := ⟨RX3, "clear", "()V"⟩
abbrev cX3_copyFrom : ByteArray := prog_5_method_3_code
def yX3_copyFrom : MethodName := ⟨RX3, "copyFrom", "(LNetMerge$Nets;)V"⟩
abbrev cX3_appendHost : ByteArray := prog_5_method_4_code
def yX3_appendHost : MethodName := ⟨RX3, "appendHost", "(JII)I"⟩
abbrev cX3_dropHost : ByteArray := prog_5_method_5_code
def yX3_dropHost : MethodName := ⟨RX3, "dropHost", "(I)V"⟩
abbrev cX3_appendRule : ByteArray := prog_5_method_6_code
def yX3_appendRule : MethodName := ⟨RX3, "appendRule", "(IZII)I"⟩
abbrev cX3_dropRule : ByteArray := prog_5_method_7_code
def yX3_dropRule : MethodName := ⟨RX3, "dropRule", "(I)V"⟩
abbrev cX3_setPlan : ByteArray := prog_5_method_8_code
def yX3_setPlan : MethodName := ⟨RX3, "setPlan", "(III)V"⟩
abbrev cX3_planCount : ByteArray := prog_5_method_9_code
def yX3_planCount : MethodName := ⟨RX3, "planCount", "()I"⟩
abbrev cX3_plansIn : ByteArray := prog_5_method_10_code
def yX3_plansIn : MethodName := ⟨RX3, "plansIn", "(I)I"⟩
abbrev cX3_keeperCount : ByteArray := prog_5_method_11_code
def yX3_keeperCount : MethodName := ⟨RX3, "keeperCount", "()I"⟩
abbrev cX3_hostsOfOffice : ByteArray := prog_5_method_13_code
def yX3_hostsOfOffice : MethodName := ⟨RX3, "hostsOfOffice", "(I)I"⟩
abbrev cX3_firstWaveWithRoom : ByteArray := prog_5_method_14_code
def yX3_firstWaveWithRoom : MethodName := ⟨RX3, "firstWaveWithRoom", "()I"⟩
abbrev cX3_keptBy : ByteArray := prog_5_method_15_code
def yX3_keptBy : MethodName := ⟨RX3, "keptBy", "(I)I"⟩
abbrev cX3_numberAhead : ByteArray := prog_5_method_16_code
def yX3_numberAhead : MethodName := ⟨RX3, "numberAhead", "(II)I"⟩
abbrev cX3_keepsAt : ByteArray := prog_5_method_17_code
def yX3_keepsAt : MethodName := ⟨RX3, "keepsAt", "(II)Z"⟩
abbrev cX3_hostNamed : ByteArray := prog_5_method_18_code
def yX3_hostNamed : MethodName := ⟨RX3, "hostNamed", "(J)I"⟩
abbrev cX3_holderInOffice : ByteArray := prog_5_method_19_code
def yX3_holderInOffice : MethodName := ⟨RX3, "holderInOffice", "(II)I"⟩
abbrev cX3_holderInNet : ByteArray := prog_5_method_20_code
def yX3_holderInNet : MethodName := ⟨RX3, "holderInNet", "(II)I"⟩
abbrev cX3_numberedInNet : ByteArray := prog_5_method_21_code
def yX3_numberedInNet : MethodName := ⟨RX3, "numberedInNet", "(II)I"⟩
abbrev cX3_inNet : ByteArray := prog_5_method_22_code
def yX3_inNet : MethodName := ⟨RX3, "inNet", "(II)Z"⟩
abbrev cX3_chosenToMove : ByteArray := prog_5_method_23_code
def yX3_chosenToMove : MethodName := ⟨RX3, "chosenToMove", "(I)I"⟩
abbrev cX3_movableWith : ByteArray := prog_5_method_24_code
def yX3_movableWith : MethodName := ⟨RX3, "movableWith", "(II)I"⟩
abbrev cX3_keeperWouldMove : ByteArray := prog_5_method_31_code
def yX3_keeperWouldMove : MethodName := ⟨RX3, "keeperWouldMove", "()Z"⟩
abbrev cX3_doWave : ByteArray := prog_5_method_32_code
def yX3_doWave : MethodName := ⟨RX3, "doWave", "()I"⟩
abbrev cX3_sideBehindWave : ByteArray := prog_5_method_33_code
def yX3_sideBehindWave : MethodName := ⟨RX3, "sideBehindWave", "(II)I"⟩
abbrev cX3_undoWave : ByteArray := prog_5_method_34_code
def yX3_undoWave : MethodName := ⟨RX3, "undoWave", "()V"⟩
abbrev cX3_sideAheadOfWave : ByteArray := prog_5_method_35_code
def yX3_sideAheadOfWave : MethodName := ⟨RX3, "sideAheadOfWave", "(II)I"⟩
abbrev cX3_undoMove : ByteArray := prog_5_method_36_code
def yX3_undoMove : MethodName := ⟨RX3, "undoMove", "(I)V"⟩
def RX4 : String := "NetMerge$Query"
def TX4 : u_T := fun k => match k with
  | 0 => ("NetMerge$Query", "text", "LNetMerge$Text;", true)
  | 1 => ("NetMerge$Query", "steps", "[I", true)
  | 2 => ("NetMerge$Query", "stepCount", "I", false)
  | 3 => ("NetMerge$Query", "many", "Z", false)
  | 4 => ("NetMerge$Query", "error", "I", false)
  | 5 => ("NetMerge$Query", "sets", "[J", true)
  | 6 => ("NetMerge$Query", "setCount", "I", false)
  | 7 => ("NetMerge$Query", "reaches", "[I", true)
  | _ => ("NetMerge$Query", "reachesKnown", "Z", false)
def tyX4 : Nat → FieldType := fun k => match k with
  | 0 => .object "NetMerge$Text"
  | 1 => .array .int
  | 2 => .int
  | 3 => .boolean
  | 4 => .int
  | 5 => .array .long
  | 6 => .int
  | 7 => .array .int
  | _ => .boolean
abbrev wsX40 : List Cond := u_ws RX4 TX4 9
theorem nmX4 : ∀ a, a < 9 → ∀ b, b < 9 → a ≠ b → (TX4 a).2.1 ≠ (TX4 b).2.1 := by decide +kernel
theorem tyX4_ok : ∀ k, k < 9 → parseFieldDescriptor (TX4 k).2.2.1 = some (tyX4 k) := by decide +kernel
abbrev cX4_init : ByteArray := prog_6_method_1_code
def yX4_init : MethodName := ⟨RX4, "<init>", "(LNetMerge$Text;)V"⟩
def RX5 : String := "NetMerge$Tally"
def TX5 : u_T := fun k => match k with
  | 0 => ("NetMerge$Tally", "heldIn0", "[I", true)
  | 1 => ("NetMerge$Tally", "heldIn1", "[I", true)
  | _ => ("NetMerge$Tally", "planned", "[I", true)
def tyX5 : Nat → FieldType := fun k => match k with
  | 0 => .array .int
  | 1 => .array .int
  | _ => .array .int
abbrev wsX50 : List Cond := u_ws RX5 TX5 3
theorem nmX5 : ∀ a, a < 3 → ∀ b, b < 3 → a ≠ b → (TX5 a).2.1 ≠ (TX5 b).2.1 := by decide +kernel
theorem tyX5_ok : ∀ k, k < 3 → parseFieldDescriptor (TX5 k).2.2.1 = some (tyX5 k) := by decide +kernel
abbrev cX5_init : ByteArray := prog_7_method_1_code
def yX5_init : MethodName := ⟨RX5, "<init>", "()V"⟩
abbrev cX5_count : ByteArray := prog_7_method_2_code
def yX5_count : MethodName := ⟨RX5, "count", "(LNetMerge$Nets;)V"⟩
abbrev cX5_countPlan : ByteArray := prog_7_method_3_code
def yX5_countPlan : MethodName := ⟨RX5, "countPlan", "(I)V"⟩
abbrev cX5_addOne : ByteArray := prog_7_method_4_code
def yX5_addOne : MethodName := ⟨RX5, "addOne", "([II)V"⟩
abbrev cX5_isClash : ByteArray := prog_7_method_5_code
def yX5_isClash : MethodName := ⟨RX5, "isClash", "(I)Z"⟩
abbrev cX5_clashes : ByteArray := prog_7_method_6_code
def yX5_clashes : MethodName := ⟨RX5, "clashes", "()I"⟩
abbrev cX5_clashAt : ByteArray := prog_7_method_7_code
def yX5_clashAt : MethodName := ⟨RX5, "clashAt", "(I)I"⟩
abbrev cX5_smallestTwice : ByteArray := prog_7_method_8_code
def yX5_smallestTwice : MethodName := ⟨RX5, "smallestTwice", "(Z)I"⟩
abbrev cX5_smallestFree : ByteArray := prog_7_method_9_code
def yX5_smallestFree : MethodName := ⟨RX5, "smallestFree", "(II)I"⟩
def RX6 : String := "NetMerge$Text"
def TX6 : u_T := fun k => match k with
  | 0 => ("NetMerge$Text", "bytes", "[B", true)
  | 1 => ("NetMerge$Text", "filled", "I", false)
  | 2 => ("NetMerge$Text", "length", "I", false)
  | 3 => ("NetMerge$Text", "at", "I", false)
  | 4 => ("NetMerge$Text", "kind", "I", false)
  | 5 => ("NetMerge$Text", "start", "I", false)
  | _ => ("NetMerge$Text", "number", "I", false)
def tyX6 : Nat → FieldType := fun k => match k with
  | 0 => .array .byte
  | 1 => .int
  | 2 => .int
  | 3 => .int
  | 4 => .int
  | 5 => .int
  | _ => .int
abbrev wsX60 : List Cond := u_ws RX6 TX6 7
theorem nmX6 : ∀ a, a < 7 → ∀ b, b < 7 → a ≠ b → (TX6 a).2.1 ≠ (TX6 b).2.1 := by decide +kernel
theorem tyX6_ok : ∀ k, k < 7 → parseFieldDescriptor (TX6 k).2.2.1 = some (tyX6 k) := by decide +kernel
abbrev cX6_init : ByteArray := prog_8_method_1_code
def yX6_init : MethodName := ⟨RX6, "<init>", "()V"⟩
abbrev cX6_append : ByteArray := prog_8_method_2_code
def yX6_append : MethodName := ⟨RX6, "append", "(I)V"⟩
abbrev cX6_begin : ByteArray := prog_8_method_3_code
def yX6_begin : MethodName := ⟨RX6, "begin", "(I)V"⟩
abbrev cX6_advance : ByteArray := prog_8_method_4_code
def yX6_advance : MethodName := ⟨RX6, "advance", "()V"⟩
abbrev cX6_isLetter : ByteArray := prog_8_method_5_code
def yX6_isLetter : MethodName := ⟨RX6, "isLetter", "(I)Z"⟩
abbrev cX6_isDigit : ByteArray := prog_8_method_6_code
def yX6_isDigit : MethodName := ⟨RX6, "isDigit", "(I)Z"⟩
abbrev cX6_isSign : ByteArray := prog_8_method_7_code
def yX6_isSign : MethodName := ⟨RX6, "isSign", "(I)Z"⟩
abbrev cX6_isWord : ByteArray := prog_8_method_8_code
def yX6_isWord : MethodName := ⟨RX6, "isWord", "(Ljava/lang/String;)Z"⟩
abbrev cX6_letters : ByteArray := prog_8_method_9_code
def yX6_letters : MethodName := ⟨RX6, "letters", "()I"⟩
abbrev cX6_asName : ByteArray := prog_8_method_10_code
def yX6_asName : MethodName := ⟨RX6, "asName", "()J"⟩
def RX7 : String := "NetMerge"
def TX7 : u_T := fun k => match k with
  | 0 => ("NetMerge", "now", "LNetMerge$Nets;", true)
  | 1 => ("NetMerge", "trial", "LNetMerge$Nets;", true)
  | 2 => ("NetMerge", "saved", "LNetMerge$Nets;", true)
  | 3 => ("NetMerge", "hasSaved", "Z", false)
  | 4 => ("NetMerge", "history", "LNetMerge$History;", true)
  | 5 => ("NetMerge", "tally", "LNetMerge$Tally;", true)
  | 6 => ("NetMerge", "text", "LNetMerge$Text;", true)
  | 7 => ("NetMerge", "loader", "LNetMerge$Loader;", true)
  | 8 => ("NetMerge", "asked", "LNetMerge$Query;", true)
  | 9 => ("NetMerge", "line", "LNetMerge$Line;", true)
  | _ => ("NetMerge", "errorAt", "I", false)
def tyX7 : Nat → FieldType := fun k => match k with
  | 0 => .object "NetMerge$Nets"
  | 1 => .object "NetMerge$Nets"
  | 2 => .object "NetMerge$Nets"
  | 3 => .boolean
  | 4 => .object "NetMerge$History"
  | 5 => .object "NetMerge$Tally"
  | 6 => .object "NetMerge$Text"
  | 7 => .object "NetMerge$Loader"
  | 8 => .object "NetMerge$Query"
  | 9 => .object "NetMerge$Line"
  | _ => .int
abbrev wsX70 : List Cond := u_ws RX7 TX7 11
theorem nmX7 : ∀ a, a < 11 → ∀ b, b < 11 → a ≠ b → (TX7 a).2.1 ≠ (TX7 b).2.1 := by decide +kernel
theorem tyX7_ok : ∀ k, k < 11 → parseFieldDescriptor (TX7 k).2.2.1 = some (tyX7 k) := by decide +kernel
abbrev cX7_init : ByteArray := prog_1_method_1_code
def yX7_init : MethodName := ⟨RX7, "<init>", "()V"⟩
abbrev cX7_feed : ByteArray := prog_1_method_2_code
def yX7_feed : MethodName := ⟨RX7, "feed", "(IIIII)I"⟩
abbrev cX7_load : ByteArray := prog_1_method_3_code
def yX7_load : MethodName := ⟨RX7, "load", "(I)I"⟩
abbrev cX7_errorPosition : ByteArray := prog_1_method_4_code
def yX7_errorPosition : MethodName := ⟨RX7, "errorPosition", "()I"⟩
abbrev cX7_size : ByteArray := prog_1_method_5_code
def yX7_size : MethodName := ⟨RX7, "size", "(I)I"⟩
abbrev cX7_host : ByteArray := prog_1_method_6_code
def yX7_host : MethodName := ⟨RX7, "host", "(II)I"⟩
abbrev cX7_holder : ByteArray := prog_1_method_8_code
def yX7_holder : MethodName := ⟨RX7, "holder", "(II)I"⟩
abbrev cX7_clash : ByteArray := prog_1_method_9_code
def yX7_clash : MethodName := ⟨RX7, "clash", "(I)I"⟩
abbrev cX7_plans : ByteArray := prog_1_method_10_code
def yX7_plans : MethodName := ⟨RX7, "plans", "(I)I"⟩
abbrev cX7_whyNot : ByteArray := prog_1_method_16_code
def yX7_whyNot : MethodName := ⟨RX7, "whyNot", "()I"⟩
abbrev cX7_addHost : ByteArray := prog_1_method_23_code
def yX7_addHost : MethodName := ⟨RX7, "addHost", "(II)I"⟩
abbrev cX7_removeHost : ByteArray := prog_1_method_24_code
def yX7_removeHost : MethodName := ⟨RX7, "removeHost", "(I)I"⟩
abbrev cX7_plan : ByteArray := prog_1_method_25_code
def yX7_plan : MethodName := ⟨RX7, "plan", "(III)I"⟩
abbrev cX7_unplan : ByteArray := prog_1_method_26_code
def yX7_unplan : MethodName := ⟨RX7, "unplan", "(I)I"⟩
abbrev cX7_settle : ByteArray := prog_1_method_27_code
def yX7_settle : MethodName := ⟨RX7, "settle", "()I"⟩
abbrev cX7_wave : ByteArray := prog_1_method_28_code
def yX7_wave : MethodName := ⟨RX7, "wave", "()I"⟩
abbrev cX7_back : ByteArray := prog_1_method_29_code
def yX7_back : MethodName := ⟨RX7, "back", "()I"⟩
abbrev cX7_open : ByteArray := prog_1_method_30_code
def yX7_open : MethodName := ⟨RX7, "open", "()I"⟩
abbrev cX7_close : ByteArray := prog_1_method_31_code
def yX7_close : MethodName := ⟨RX7, "close", "()I"⟩
abbrev cX7_addRule : ByteArray := prog_1_method_32_code
def yX7_addRule : MethodName := ⟨RX7, "addRule", "(IZII)I"⟩
abbrev cX7_removeRule : ByteArray := prog_1_method_33_code
def yX7_removeRule : MethodName := ⟨RX7, "removeRule", "(I)I"⟩
abbrev cX7_setKeep : ByteArray := prog_1_method_34_code
def yX7_setKeep : MethodName := ⟨RX7, "setKeep", "(I)I"⟩
abbrev cX7_setPinned : ByteArray := prog_1_method_35_code
def yX7_setPinned : MethodName := ⟨RX7, "setPinned", "(IZ)I"⟩
abbrev cX7_undo : ByteArray := prog_1_method_39_code
def yX7_undo : MethodName := ⟨RX7, "undo", "()I"⟩
abbrev cX7_needHost : ByteArray := prog_1_method_43_code
def yX7_needHost : MethodName := ⟨RX7, "needHost", "(I)V"⟩
abbrev cX7_needRule : ByteArray := prog_1_method_44_code
def yX7_needRule : MethodName := ⟨RX7, "needRule", "(I)V"⟩
abbrev cX7_needOffice : ByteArray := prog_1_method_45_code
def yX7_needOffice : MethodName := ⟨RX7, "needOffice", "(I)V"⟩
abbrev cX7_needNumber : ByteArray := prog_1_method_46_code
def yX7_needNumber : MethodName := ⟨RX7, "needNumber", "(I)V"⟩
abbrev cX7_needSide : ByteArray := prog_1_method_47_code
def yX7_needSide : MethodName := ⟨RX7, "needSide", "(I)V"⟩
abbrev cX7_needWave : ByteArray := prog_1_method_48_code
def yX7_needWave : MethodName := ⟨RX7, "needWave", "(I)V"⟩
abbrev cX7_clashCount : ByteArray := prog_1_method_51_code
def yX7_clashCount : MethodName := ⟨RX7, "clashCount", "(LNetMerge$Nets;)I"⟩
abbrev cX7_heldTwice : ByteArray := prog_1_method_52_code
def yX7_heldTwice : MethodName := ⟨RX7, "heldTwice", "(LNetMerge$Nets;)I"⟩
abbrev cX7_tryWave : ByteArray := prog_1_method_53_code
def yX7_tryWave : MethodName := ⟨RX7, "tryWave", "()I"⟩
abbrev cX7_adoptTrial : ByteArray := prog_1_method_54_code
def yX7_adoptTrial : MethodName := ⟨RX7, "adoptTrial", "()V"⟩
def RX8 : String := "NetMergeModel"
def TX8 : u_T := fun k => match k with
  | _ => ("", "", "", false)
def tyX8 : Nat → FieldType := fun k => match k with
  | _ => .int
abbrev wsX80 : List Cond := u_ws RX8 TX8 0
theorem nmX8 : ∀ a, a < 0 → ∀ b, b < 0 → a ≠ b → (TX8 a).2.1 ≠ (TX8 b).2.1 := by decide +kernel
theorem tyX8_ok : ∀ k, k < 0 → parseFieldDescriptor (TX8 k).2.2.1 = some (tyX8 k) := by decide +kernel
def RJx145de : String := "java/io/Serializable"
def TJx145de : u_T := fun k => match k with
  | _ => ("", "", "", false)
def tyJx145de : Nat → FieldType := fun k => match k with
  | _ => .int
theorem nmJx145de : ∀ a, a < 0 → ∀ b, b < 0 → a ≠ b → (TJx145de a).2.1 ≠ (TJx145de b).2.1 := by decide +kernel
theorem tyJx145de_ok : ∀ k, k < 0 → parseFieldDescriptor (TJx145de k).2.2.1 = some (tyJx145de k) := by decide +kernel
def RJx9f9b0 : String := "java/lang/CharSequence"
def TJx9f9b0 : u_T := fun k => match k with
  | _ => ("", "", "", false)
def tyJx9f9b0 : Nat → FieldType := fun k => match k with
  | _ => .int
theorem nmJx9f9b0 : ∀ a, a < 0 → ∀ b, b < 0 → a ≠ b → (TJx9f9b0 a).2.1 ≠ (TJx9f9b0 b).2.1 := by decide +kernel
theorem tyJx9f9b0_ok : ∀ k, k < 0 → parseFieldDescriptor (TJx9f9b0 k).2.2.1 = some (tyJx9f9b0 k) := by decide +kernel
def RJxb160c : String := "java/lang/Comparable"
def TJxb160c : u_T := fun k => match k with
  | _ => ("", "", "", false)
def tyJxb160c : Nat → FieldType := fun k => match k with
  | _ => .int
theorem nmJxb160c : ∀ a, a < 0 → ∀ b, b < 0 → a ≠ b → (TJxb160c a).2.1 ≠ (TJxb160c b).2.1 := by decide +kernel
theorem tyJxb160c_ok : ∀ k, k < 0 → parseFieldDescriptor (TJxb160c k).2.2.1 = some (tyJxb160c k) := by decide +kernel
def RJ9 : String := "java/lang/Math"
def TJ9 : u_T := fun k => match k with
  | _ => ("", "", "", false)
def tyJ9 : Nat → FieldType := fun k => match k with
  | _ => .int
theorem nmJ9 : ∀ a, a < 0 → ∀ b, b < 0 → a ≠ b → (TJ9 a).2.1 ≠ (TJ9 b).2.1 := by decide +kernel
theorem tyJ9_ok : ∀ k, k < 0 → parseFieldDescriptor (TJ9 k).2.2.1 = some (tyJ9 k) := by decide +kernel
abbrev cJ9_max_7cf53 : ByteArray := prog_16_method_65_code
def yJ9_max_7cf53 : MethodName := ⟨RJ9, "max", "(II)I"⟩
abbrev cJ9_min_7cf53 : ByteArray := prog_16_method_69_code
def yJ9_min_7cf53 : MethodName := ⟨RJ9, "min", "(II)I"⟩
def RJ0 : String := "java/lang/String"
def TJ0 : u_T := fun k => match k with
  | _ => ("", "", "", false)
def tyJ0 : Nat → FieldType := fun k => match k with
  | _ => .int
theorem nmJ0 : ∀ a, a < 0 → ∀ b, b < 0 → a ≠ b → (TJ0 a).2.1 ≠ (TJ0 b).2.1 := by decide +kernel
theorem tyJ0_ok : ∀ k, k < 0 → parseFieldDescriptor (TJ0 k).2.2.1 = some (tyJ0 k) := by decide +kernel
abbrev cJ0_length_8abf5 : ByteArray := prog_18_method_54_code
def yJ0_length_8abf5 : MethodName := ⟨RJ0, "length", "()I"⟩
abbrev cJ0_charAt_5068e : ByteArray := prog_18_method_56_code
def yJ0_charAt_5068e : MethodName := ⟨RJ0, "charAt", "(I)C"⟩
abbrev cJ0_coder_7d493 : ByteArray := prog_18_method_152_code
def yJ0_coder_7d493 : MethodName := ⟨RJ0, "coder", "()B"⟩
abbrev cJ0_isLatin1_aae02 : ByteArray := prog_18_method_154_code
def yJ0_isLatin1_aae02 : MethodName := ⟨RJ0, "isLatin1", "()Z"⟩
abbrev cJ0_checkIndex_df160 : ByteArray := prog_18_method_155_code
def yJ0_checkIndex_df160 : MethodName := ⟨RJ0, "checkIndex", "(II)V"⟩
def RJ1 : String := "java/lang/StringLatin1"
def TJ1 : u_T := fun k => match k with
  | _ => ("", "", "", false)
def tyJ1 : Nat → FieldType := fun k => match k with
  | _ => .int
theorem nmJ1 : ∀ a, a < 0 → ∀ b, b < 0 → a ≠ b → (TJ1 a).2.1 ≠ (TJ1 b).2.1 := by decide +kernel
theorem tyJ1_ok : ∀ k, k < 0 → parseFieldDescriptor (TJ1 k).2.2.1 = some (tyJ1 k) := by decide +kernel
abbrev cJ1_charAt_3b067 : ByteArray := prog_19_method_2_code
def yJ1_charAt_3b067 : MethodName := ⟨RJ1, "charAt", "([BI)C"⟩
def RJ2 : String := "java/lang/StringUTF16"
def TJ2 : u_T := fun k => match k with
  | _ => ("", "", "", false)
def tyJ2 : Nat → FieldType := fun k => match k with
  | _ => .int
theorem nmJ2 : ∀ a, a < 0 → ∀ b, b < 0 → a ≠ b → (TJ2 a).2.1 ≠ (TJ2 b).2.1 := by decide +kernel
theorem tyJ2_ok : ∀ k, k < 0 → parseFieldDescriptor (TJ2 k).2.2.1 = some (tyJ2 k) := by decide +kernel
abbrev cJ2_getChar_3b067 : ByteArray := prog_20_method_5_code
def yJ2_getChar_3b067 : MethodName := ⟨RJ2, "getChar", "([BI)C"⟩
abbrev cJ2_length_9d52b : ByteArray := prog_20_method_6_code
def yJ2_length_9d52b : MethodName := ⟨RJ2, "length", "([B)I"⟩
abbrev cJ2_charAt_3b067 : ByteArray := prog_20_method_83_code
def yJ2_charAt_3b067 : MethodName := ⟨RJ2, "charAt", "([BI)C"⟩
abbrev cJ2_checkIndex_2214a : ByteArray := prog_20_method_91_code
def yJ2_checkIndex_2214a : MethodName := ⟨RJ2, "checkIndex", "(I[B)V"⟩
def RJ10 : String := "java/lang/System"
def TJ10 : u_T := fun k => match k with
  | _ => ("", "", "", false)
def tyJ10 : Nat → FieldType := fun k => match k with
  | _ => .int
theorem nmJ10 : ∀ a, a < 0 → ∀ b, b < 0 → a ≠ b → (TJ10 a).2.1 ≠ (TJ10 b).2.1 := by decide +kernel
theorem tyJ10_ok : ∀ k, k < 0 → parseFieldDescriptor (TJ10 k).2.2.1 = some (tyJ10 k) := by decide +kernel
def RJxfd54e : String := "java/lang/constant/Constable"
def TJxfd54e : u_T := fun k => match k with
  | _ => ("", "", "", false)
def tyJxfd54e : Nat → FieldType := fun k => match k with
  | _ => .int
theorem nmJxfd54e : ∀ a, a < 0 → ∀ b, b < 0 → a ≠ b → (TJxfd54e a).2.1 ≠ (TJxfd54e b).2.1 := by decide +kernel
theorem tyJxfd54e_ok : ∀ k, k < 0 → parseFieldDescriptor (TJxfd54e k).2.2.1 = some (tyJxfd54e k) := by decide +kernel
def RJx3cf43 : String := "java/lang/constant/ConstantDesc"
def TJx3cf43 : u_T := fun k => match k with
  | _ => ("", "", "", false)
def tyJx3cf43 : Nat → FieldType := fun k => match k with
  | _ => .int
theorem nmJx3cf43 : ∀ a, a < 0 → ∀ b, b < 0 → a ≠ b → (TJx3cf43 a).2.1 ≠ (TJx3cf43 b).2.1 := by decide +kernel
theorem tyJx3cf43_ok : ∀ k, k < 0 → parseFieldDescriptor (TJx3cf43 k).2.2.1 = some (tyJx3cf43 k) := by decide +kernel
def RJ7 : String := "java/util/Arrays"
def TJ7 : u_T := fun k => match k with
  | _ => ("", "", "", false)
def tyJ7 : Nat → FieldType := fun k => match k with
  | _ => .int
theorem nmJ7 : ∀ a, a < 0 → ∀ b, b < 0 → a ≠ b → (TJ7 a).2.1 ≠ (TJ7 b).2.1 := by decide +kernel
theorem tyJ7_ok : ∀ k, k < 0 → parseFieldDescriptor (TJ7 k).2.2.1 = some (tyJ7 k) := by decide +kernel
abbrev cJ7_fill_53178 : ByteArray := prog_25_method_103_code
def yJ7_fill_53178 : MethodName := ⟨RJ7, "fill", "([II)V"⟩
def RJ3 : String := "jdk/internal/util/Preconditions"
def TJ3 : u_T := fun k => match k with
  | _ => ("", "", "", false)
def tyJ3 : Nat → FieldType := fun k => match k with
  | _ => .int
theorem nmJ3 : ∀ a, a < 0 → ∀ b, b < 0 → a ≠ b → (TJ3 a).2.1 ≠ (TJ3 b).2.1 := by decide +kernel
theorem tyJ3_ok : ∀ k, k < 0 → parseFieldDescriptor (TJ3 k).2.2.1 = some (tyJ3 k) := by decide +kernel
abbrev cJ3_checkIndex_8e157 : ByteArray := prog_27_method_11_code
def yJ3_checkIndex_8e157 : MethodName := ⟨RJ3, "checkIndex", "(IILjava/util/function/BiFunction;)I"⟩
def RL : String := "NetMergeLaw"
def TL : u_T := fun k => match k with
  | 0 => ("NetMergeLaw", "text", "[I", true)
  | _ => ("NetMergeLaw", "size", "I", false)
def tyL : Nat → FieldType := fun k => match k with
  | 0 => .array .int
  | _ => .int
theorem nmL : ∀ a, a < 2 → ∀ b, b < 2 → a ≠ b → (TL a).2.1 ≠ (TL b).2.1 := by decide +kernel
theorem tyL_ok : ∀ k, k < 2 → parseFieldDescriptor (TL k).2.2.1 = some (tyL k) := by decide +kernel
abbrev cL_init : ByteArray := method_1_code
def yL_init : MethodName := ⟨RL, "<init>", "()V"⟩
abbrev cL_writes : ByteArray := method_2_code
def yL_writes : MethodName := ⟨RL, "writes", "(Ljava/lang/String;)V"⟩
abbrev cL_spaced : ByteArray := method_3_code
def yL_spaced : MethodName := ⟨RL, "spaced", "(I)V"⟩
abbrev cL_cell : ByteArray := method_4_code
def yL_cell : MethodName := ⟨RL, "cell", "([II)I"⟩
abbrev cL_feeds : ByteArray := method_5_code
def yL_feeds : MethodName := ⟨RL, "feeds", "(LNetMerge;)I"⟩
abbrev cL_letter : ByteArray := method_6_code
def yL_letter : MethodName := ⟨RL, "letter", "(I)V"⟩
abbrev cL_loads : ByteArray := method_7_code
def yL_loads : MethodName := ⟨RL, "loads", "(LNetMerge;[I)Z"⟩
abbrev cL_acts : ByteArray := method_8_code
def yL_acts : MethodName := ⟨RL, "acts", "(LNetMerge;I)I"⟩
abbrev cL_holds : ByteArray := method_9_code
def yL_holds : MethodName := ⟨RL, "holds", "(LNetMerge;II)Z"⟩
abbrev cL_areOfNet : ByteArray := method_10_code
def yL_areOfNet : MethodName := ⟨RL, "areOfNet", "(LNetMerge;II)Z"⟩
abbrev cL_law : ByteArray := code
def yL_law : MethodName := ⟨RL, "law", "([I)Z"⟩
abbrev cL_holds_ : ByteArray := method_12_code
def yL_holds_ : MethodName := ⟨RL, "holds", "(LNetMerge;[I)Z"⟩
abbrev cL_isRight : ByteArray := method_13_code
def yL_isRight : MethodName := ⟨RL, "isRight", "(LNetMerge;)Z"⟩
abbrev cL_isClashes : ByteArray := method_14_code
def yL_isClashes : MethodName := ⟨RL, "isClashes", "(LNetMerge;)Z"⟩
abbrev cL_isWave : ByteArray := method_15_code
def yL_isWave : MethodName := ⟨RL, "isWave", "(LNetMerge;)Z"⟩
abbrev vwCl : List vw_C := [(RX0, TX0, 3), (RX1, TX1, 2), (RX2, TX2, 4), (RX3, TX3, 20), (RX4, TX4, 9), (RX5, TX5, 3), (RX6, TX6, 7), (RX7, TX7, 11), (RL, TL, 2)]
