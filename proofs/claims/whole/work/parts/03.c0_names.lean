/-! ===== BEGIN printed: names, fields, word lists, decode rows ===== -/
def RX0 : String := "DiveChairs$Dealing"
def TX0 : u_T := fun k => match k with
  | _ => ("", "", "", false)
def tyX0 : Nat → FieldType := fun k => match k with
  | _ => .int
abbrev wsX00 : List Cond := u_ws RX0 TX0 0
theorem nmX0 : ∀ a, a < 0 → ∀ b, b < 0 → a ≠ b → (TX0 a).2.1 ≠ (TX0 b).2.1 := by decide +kernel
theorem tyX0_ok : ∀ k, k < 0 → parseFieldDescriptor (TX0 k).2.2.1 = some (tyX0 k) := by decide +kernel
abbrev cX0_init : ByteArray := prog_2_method_1_code
def yX0_init : MethodName := ⟨RX0, "<init>", "()V"⟩
abbrev cX0_asItStands : ByteArray := prog_2_method_3_code
def yX0_asItStands : MethodName := ⟨RX0, "asItStands", "()I"⟩
abbrev cX0_allWays : ByteArray := prog_2_method_4_code
def yX0_allWays : MethodName := ⟨RX0, "allWays", "()I"⟩
abbrev cX0_waysAsGood : ByteArray := prog_2_method_5_code
def yX0_waysAsGood : MethodName := ⟨RX0, "waysAsGood", "()I"⟩
abbrev cX0_waysFrom : ByteArray := prog_2_method_6_code
def yX0_waysFrom : MethodName := ⟨RX0, "waysFrom", "(III)I"⟩
abbrev cX0_gainAt : ByteArray := prog_2_method_7_code
def yX0_gainAt : MethodName := ⟨RX0, "gainAt", "(I)I"⟩
def RX1 : String := "DiveChairs$Dive"
def TX1 : u_T := fun k => match k with
  | 0 => ("DiveChairs$Dive", "marks", "[I", true)
  | 1 => ("DiveChairs$Dive", "markers", "[I", true)
  | 2 => ("DiveChairs$Dive", "hall", "I", false)
  | 3 => ("DiveChairs$Dive", "diver", "I", false)
  | 4 => ("DiveChairs$Dive", "flaws", "I", false)
  | 5 => ("DiveChairs$Dive", "splash", "I", false)
  | _ => ("DiveChairs$Dive", "hard", "I", false)
def tyX1 : Nat → FieldType := fun k => match k with
  | 0 => .array .int
  | 1 => .array .int
  | 2 => .int
  | 3 => .int
  | 4 => .int
  | 5 => .int
  | _ => .int
abbrev wsX10 : List Cond := u_ws RX1 TX1 7
theorem nmX1 : ∀ a, a < 7 → ∀ b, b < 7 → a ≠ b → (TX1 a).2.1 ≠ (TX1 b).2.1 := by decide +kernel
theorem tyX1_ok : ∀ k, k < 7 → parseFieldDescriptor (TX1 k).2.2.1 = some (tyX1 k) := by decide +kernel
abbrev cX1_init : ByteArray := prog_3_method_1_code
def yX1_init : MethodName := ⟨RX1, "<init>", "()V"⟩
abbrev cX1_begin : ByteArray := prog_3_method_2_code
def yX1_begin : MethodName := ⟨RX1, "begin", "(IIII)V"⟩
abbrev cX1_copyFrom : ByteArray := prog_3_method_3_code
def yX1_copyFrom : MethodName := ⟨RX1, "copyFrom", "(LDiveChairs$Dive;)V"⟩
abbrev cX1_tell : ByteArray := prog_3_method_4_code
def yX1_tell : MethodName := ⟨RX1, "tell", "(III)V"⟩
abbrev cX1_hasMark : ByteArray := prog_3_method_5_code
def yX1_hasMark : MethodName := ⟨RX1, "hasMark", "(I)Z"⟩
abbrev cX1_marksThere : ByteArray := prog_3_method_6_code
def yX1_marksThere : MethodName := ⟨RX1, "marksThere", "()I"⟩
abbrev cX1_markBy : ByteArray := prog_3_method_7_code
def yX1_markBy : MethodName := ⟨RX1, "markBy", "(I)I"⟩
def RX2 : String := "DiveChairs$Judge"
def TX2 : u_T := fun k => match k with
  | 0 => ("DiveChairs$Judge", "number", "I", true)
  | 1 => ("DiveChairs$Judge", "kind", "I", true)
  | 2 => ("DiveChairs$Judge", "land", "I", true)
  | 3 => ("DiveChairs$Judge", "leaning", "I", true)
  | _ => ("DiveChairs$Judge", "partner", "I", true)
def tyX2 : Nat → FieldType := fun k => match k with
  | 0 => .int
  | 1 => .int
  | 2 => .int
  | 3 => .int
  | _ => .int
abbrev wsX20 : List Cond := u_ws RX2 TX2 5
theorem nmX2 : ∀ a, a < 5 → ∀ b, b < 5 → a ≠ b → (TX2 a).2.1 ≠ (TX2 b).2.1 := by decide +kernel
theorem tyX2_ok : ∀ k, k < 5 → parseFieldDescriptor (TX2 k).2.2.1 = some (tyX2 k) := by decide +kernel
abbrev cX2_init : ByteArray := prog_4_method_1_code
def yX2_init : MethodName := ⟨RX2, "<init>", "(III)V"⟩
abbrev cX2_leanTo : ByteArray := prog_4_method_2_code
def yX2_leanTo : MethodName := ⟨RX2, "leanTo", "(I)I"⟩
abbrev cX2_markFor : ByteArray := prog_4_method_3_code
def yX2_markFor : MethodName := ⟨RX2, "markFor", "(III)I"⟩
abbrev cX2_heft : ByteArray := prog_4_method_4_code
def yX2_heft : MethodName := ⟨RX2, "heft", "()I"⟩
abbrev cX2_throwFailure : ByteArray := prog_4_method_5_code
def yX2_throwFailure : MethodName := ⟨RX2, "throwFailure", "()V"⟩
abbrev cX2_failureNumber : ByteArray := prog_4_method_6_code
def yX2_failureNumber : MethodName := ⟨RX2, "failureNumber", "()I"⟩
abbrev cX2_held : ByteArray := prog_4_method_7_code
def yX2_held : MethodName := ⟨RX2, "held", "(I)I"⟩
def RX3 : String := "DiveChairs$LandDealing"
def TX3 : u_T := fun k => match k with
  | 0 => ("DiveChairs$Dealing", "dealt", "[I", true)
  | 1 => ("DiveChairs$Dealing", "wanted", "I", false)
  | 2 => ("DiveChairs$Dealing", "size", "I", false)
  | 3 => ("DiveChairs$LandDealing", "lands", "[I", true)
  | 4 => ("DiveChairs$LandDealing", "halls", "[I", true)
  | _ => ("DiveChairs$LandDealing", "leans", "[I", true)
def tyX3 : Nat → FieldType := fun k => match k with
  | 0 => .array .int
  | 1 => .int
  | 2 => .int
  | 3 => .array .int
  | 4 => .array .int
  | _ => .array .int
abbrev wsX30 : List Cond := u_ws RX3 TX3 6
theorem nmX3 : ∀ a, a < 6 → ∀ b, b < 6 → a ≠ b → (TX3 a).2.1 ≠ (TX3 b).2.1 := by decide +kernel
theorem tyX3_ok : ∀ k, k < 6 → parseFieldDescriptor (TX3 k).2.2.1 = some (tyX3 k) := by decide +kernel
abbrev cX3_init : ByteArray := prog_5_method_1_code
def yX3_init : MethodName := ⟨RX3, "<init>", "()V"⟩
abbrev cX3_takeFrom : ByteArray := prog_5_method_2_code
def yX3_takeFrom : MethodName := ⟨RX3, "takeFrom", "(LDiveChairs$State;)V"⟩
abbrev cX3_addLeans : ByteArray := prog_5_method_3_code
def yX3_addLeans : MethodName := ⟨RX3, "addLeans", "(LDiveChairs$Dive;II)V"⟩
abbrev cX3_leansTo : ByteArray := prog_5_method_4_code
def yX3_leansTo : MethodName := ⟨RX3, "leansTo", "(II)Z"⟩
abbrev cX3_between : ByteArray := prog_5_method_5_code
def yX3_between : MethodName := ⟨RX3, "between", "(IIII)I"⟩
def RX4 : String := "DiveChairs$OrderDealing"
def TX4 : u_T := fun k => match k with
  | 0 => ("DiveChairs$Dealing", "dealt", "[I", true)
  | 1 => ("DiveChairs$Dealing", "wanted", "I", false)
  | 2 => ("DiveChairs$Dealing", "size", "I", false)
  | _ => ("DiveChairs$OrderDealing", "counted", "[I", true)
def tyX4 : Nat → FieldType := fun k => match k with
  | 0 => .array .int
  | 1 => .int
  | 2 => .int
  | _ => .array .int
abbrev wsX40 : List Cond := u_ws RX4 TX4 4
theorem nmX4 : ∀ a, a < 4 → ∀ b, b < 4 → a ≠ b → (TX4 a).2.1 ≠ (TX4 b).2.1 := by decide +kernel
theorem tyX4_ok : ∀ k, k < 4 → parseFieldDescriptor (TX4 k).2.2.1 = some (tyX4 k) := by decide +kernel
abbrev cX4_init : ByteArray := prog_6_method_1_code
def yX4_init : MethodName := ⟨RX4, "<init>", "()V"⟩
abbrev cX4_takeFrom : ByteArray := prog_6_method_2_code
def yX4_takeFrom : MethodName := ⟨RX4, "takeFrom", "(LDiveChairs$State;I)V"⟩
abbrev cX4_between : ByteArray := prog_6_method_3_code
def yX4_between : MethodName := ⟨RX4, "between", "(IIII)I"⟩
def RX5 : String := "DiveChairs$Panel"
def TX5 : u_T := fun k => match k with
  | 0 => ("DiveChairs$Panel", "sorted", "[I", true)
  | _ => ("DiveChairs$Panel", "size", "I", false)
def tyX5 : Nat → FieldType := fun k => match k with
  | 0 => .array .int
  | _ => .int
abbrev wsX50 : List Cond := u_ws RX5 TX5 2
theorem nmX5 : ∀ a, a < 2 → ∀ b, b < 2 → a ≠ b → (TX5 a).2.1 ≠ (TX5 b).2.1 := by decide +kernel
theorem tyX5_ok : ∀ k, k < 2 → parseFieldDescriptor (TX5 k).2.2.1 = some (tyX5 k) := by decide +kernel
abbrev cX5_init : ByteArray := prog_7_method_1_code
def yX5_init : MethodName := ⟨RX5, "<init>", "()V"⟩
abbrev cX5_gather : ByteArray := prog_7_method_2_code
def yX5_gather : MethodName := ⟨RX5, "gather", "(LDiveChairs$Dive;)V"⟩
abbrev cX5_add : ByteArray := prog_7_method_3_code
def yX5_add : MethodName := ⟨RX5, "add", "(I)V"⟩
abbrev cX5_lowest : ByteArray := prog_7_method_4_code
def yX5_lowest : MethodName := ⟨RX5, "lowest", "()I"⟩
abbrev cX5_highest : ByteArray := prog_7_method_5_code
def yX5_highest : MethodName := ⟨RX5, "highest", "()I"⟩
abbrev cX5_middle : ByteArray := prog_7_method_6_code
def yX5_middle : MethodName := ⟨RX5, "middle", "()I"⟩
abbrev cX5_sumBetween : ByteArray := prog_7_method_7_code
def yX5_sumBetween : MethodName := ⟨RX5, "sumBetween", "(II)I"⟩
def RX6 : String := "DiveChairs$Rule"
def TX6 : u_T := fun k => match k with
  | 0 => ("DiveChairs$Rule", "off", "[I", true)
  | 1 => ("DiveChairs$Rule", "dropHighest", "I", false)
  | 2 => ("DiveChairs$Rule", "dropLowest", "I", false)
  | 3 => ("DiveChairs$Rule", "code", "[I", true)
  | 4 => ("DiveChairs$Rule", "length", "I", false)
  | _ => ("DiveChairs$Rule", "stack", "[I", true)
def tyX6 : Nat → FieldType := fun k => match k with
  | 0 => .array .int
  | 1 => .int
  | 2 => .int
  | 3 => .array .int
  | 4 => .int
  | _ => .array .int
abbrev wsX60 : List Cond := u_ws RX6 TX6 6
theorem nmX6 : ∀ a, a < 6 → ∀ b, b < 6 → a ≠ b → (TX6 a).2.1 ≠ (TX6 b).2.1 := by decide +kernel
theorem tyX6_ok : ∀ k, k < 6 → parseFieldDescriptor (TX6 k).2.2.1 = some (tyX6 k) := by decide +kernel
abbrev cX6_init : ByteArray := prog_8_method_1_code
def yX6_init : MethodName := ⟨RX6, "<init>", "()V"⟩
abbrev cX6_copyFrom : ByteArray := prog_8_method_2_code
def yX6_copyFrom : MethodName := ⟨RX6, "copyFrom", "(LDiveChairs$Rule;)V"⟩
abbrev cX6_forgetSum : ByteArray := prog_8_method_3_code
def yX6_forgetSum : MethodName := ⟨RX6, "forgetSum", "()V"⟩
abbrev cX6_append : ByteArray := prog_8_method_4_code
def yX6_append : MethodName := ⟨RX6, "append", "(I)V"⟩
abbrev cX6_offFor : ByteArray := prog_8_method_5_code
def yX6_offFor : MethodName := ⟨RX6, "offFor", "(I)I"⟩
abbrev cX6_countFor : ByteArray := prog_8_method_6_code
def yX6_countFor : MethodName := ⟨RX6, "countFor", "(LDiveChairs$Panel;LDiveChairs$Dive;)I"⟩
abbrev cX6_isWorking : ByteArray := prog_8_method_7_code
def yX6_isWorking : MethodName := ⟨RX6, "isWorking", "(I)Z"⟩
abbrev cX6_worked : ByteArray := prog_8_method_8_code
def yX6_worked : MethodName := ⟨RX6, "worked", "(III)I"⟩
abbrev cX6_fieldOf : ByteArray := prog_8_method_9_code
def yX6_fieldOf : MethodName := ⟨RX6, "fieldOf", "(ILDiveChairs$Panel;LDiveChairs$Dive;)I"⟩
def RX7 : String := "DiveChairs$RuleReader"
def TX7 : u_T := fun k => match k with
  | 0 => ("DiveChairs$RuleReader", "draft", "LDiveChairs$Rule;", true)
  | 1 => ("DiveChairs$RuleReader", "text", "[I", false)
  | 2 => ("DiveChairs$RuleReader", "size", "I", false)
  | 3 => ("DiveChairs$RuleReader", "at", "I", false)
  | 4 => ("DiveChairs$RuleReader", "stopped", "Z", false)
  | _ => ("DiveChairs$RuleReader", "firstWrong", "I", false)
def tyX7 : Nat → FieldType := fun k => match k with
  | 0 => .object "DiveChairs$Rule"
  | 1 => .array .int
  | 2 => .int
  | 3 => .int
  | 4 => .boolean
  | _ => .int
abbrev wsX70 : List Cond := u_ws RX7 TX7 6
theorem nmX7 : ∀ a, a < 6 → ∀ b, b < 6 → a ≠ b → (TX7 a).2.1 ≠ (TX7 b).2.1 := by decide +kernel
theorem tyX7_ok : ∀ k, k < 6 → parseFieldDescriptor (TX7 k).2.2.1 = some (tyX7 k) := by decide +kernel
abbrev cX7_init : ByteArray := prog_9_method_1_code
def yX7_init : MethodName := ⟨RX7, "<init>", "()V"⟩
abbrev cX7_read : ByteArray := prog_9_method_2_code
def yX7_read : MethodName := ⟨RX7, "read", "(LDiveChairs$Shelf;LDiveChairs$Rule;)I"⟩
abbrev cX7_readStatement : ByteArray := prog_9_method_3_code
def yX7_readStatement : MethodName := ⟨RX7, "readStatement", "()V"⟩
abbrev cX7_readOff : ByteArray := prog_9_method_4_code
def yX7_readOff : MethodName := ⟨RX7, "readOff", "(I)V"⟩
abbrev cX7_readDropped : ByteArray := prog_9_method_5_code
def yX7_readDropped : MethodName := ⟨RX7, "readDropped", "(I)V"⟩
abbrev cX7_wrongAt : ByteArray := prog_9_method_6_code
def yX7_wrongAt : MethodName := ⟨RX7, "wrongAt", "(I)V"⟩
abbrev cX7_readSum : ByteArray := prog_9_method_7_code
def yX7_readSum : MethodName := ⟨RX7, "readSum", "(I)V"⟩
abbrev cX7_readProduct : ByteArray := prog_9_method_8_code
def yX7_readProduct : MethodName := ⟨RX7, "readProduct", "(I)V"⟩
abbrev cX7_readAtom : ByteArray := prog_9_method_9_code
def yX7_readAtom : MethodName := ⟨RX7, "readAtom", "(I)V"⟩
abbrev cX7_readBrackets : ByteArray := prog_9_method_10_code
def yX7_readBrackets : MethodName := ⟨RX7, "readBrackets", "(III)V"⟩
abbrev cX7_readNumber : ByteArray := prog_9_method_11_code
def yX7_readNumber : MethodName := ⟨RX7, "readNumber", "()I"⟩
abbrev cX7_expect : ByteArray := prog_9_method_12_code
def yX7_expect : MethodName := ⟨RX7, "expect", "(I)V"⟩
abbrev cX7_isAtDigit : ByteArray := prog_9_method_13_code
def yX7_isAtDigit : MethodName := ⟨RX7, "isAtDigit", "()Z"⟩
abbrev cX7_next : ByteArray := prog_9_method_14_code
def yX7_next : MethodName := ⟨RX7, "next", "()I"⟩
def RX8 : String := "DiveChairs$Shelf"
def TX8 : u_T := fun k => match k with
  | 0 => ("DiveChairs$Shelf", "elements", "[I", true)
  | 1 => ("DiveChairs$Shelf", "judge", "LDiveChairs$Judge;", false)
  | 2 => ("DiveChairs$Shelf", "sort", "I", false)
  | 3 => ("DiveChairs$Shelf", "size", "I", false)
  | _ => ("DiveChairs$Shelf", "isRow", "Z", false)
def tyX8 : Nat → FieldType := fun k => match k with
  | 0 => .array .int
  | 1 => .object "DiveChairs$Judge"
  | 2 => .int
  | 3 => .int
  | _ => .boolean
abbrev wsX80 : List Cond := u_ws RX8 TX8 5
theorem nmX8 : ∀ a, a < 5 → ∀ b, b < 5 → a ≠ b → (TX8 a).2.1 ≠ (TX8 b).2.1 := by decide +kernel
theorem tyX8_ok : ∀ k, k < 5 → parseFieldDescriptor (TX8 k).2.2.1 = some (tyX8 k) := by decide +kernel
abbrev cX8_init : ByteArray := prog_10_method_1_code
def yX8_init : MethodName := ⟨RX8, "<init>", "()V"⟩
abbrev cX8_clear : ByteArray := prog_10_method_2_code
def yX8_clear : MethodName := ⟨RX8, "clear", "()V"⟩
abbrev cX8_holdJudge : ByteArray := prog_10_method_3_code
def yX8_holdJudge : MethodName := ⟨RX8, "holdJudge", "(LDiveChairs$Judge;)V"⟩
abbrev cX8_holdRow : ByteArray := prog_10_method_4_code
def yX8_holdRow : MethodName := ⟨RX8, "holdRow", "(II)V"⟩
abbrev cX8_holdsNothing : ByteArray := prog_10_method_5_code
def yX8_holdsNothing : MethodName := ⟨RX8, "holdsNothing", "()Z"⟩
abbrev cX8_refusalAsRow : ByteArray := prog_10_method_6_code
def yX8_refusalAsRow : MethodName := ⟨RX8, "refusalAsRow", "()I"⟩
abbrev cX8_refusalAsText : ByteArray := prog_10_method_7_code
def yX8_refusalAsText : MethodName := ⟨RX8, "refusalAsText", "()I"⟩
abbrev cX8_refusalAsJudge : ByteArray := prog_10_method_8_code
def yX8_refusalAsJudge : MethodName := ⟨RX8, "refusalAsJudge", "()I"⟩
abbrev cX8_hasPlaces : ByteArray := prog_10_method_9_code
def yX8_hasPlaces : MethodName := ⟨RX8, "hasPlaces", "(II)Z"⟩
abbrev cX8_holdsMarks : ByteArray := prog_10_method_10_code
def yX8_holdsMarks : MethodName := ⟨RX8, "holdsMarks", "()Z"⟩
abbrev cX8_lowestBits : ByteArray := prog_10_method_11_code
def yX8_lowestBits : MethodName := ⟨RX8, "lowestBits", "(I)I"⟩
def RX9 : String := "DiveChairs$State"
def TX9 : u_T := fun k => match k with
  | 0 => ("DiveChairs$State", "lands", "[I", true)
  | 1 => ("DiveChairs$State", "names", "[I", true)
  | 2 => ("DiveChairs$State", "years", "[I", true)
  | 3 => ("DiveChairs$State", "seats", "[I", true)
  | 4 => ("DiveChairs$State", "rule", "LDiveChairs$Rule;", true)
  | 5 => ("DiveChairs$State", "divers", "I", false)
  | 6 => ("DiveChairs$State", "judges", "I", false)
  | 7 => ("DiveChairs$State", "dives", "I", false)
  | 8 => ("DiveChairs$State", "judgesMade", "[LDiveChairs$Judge;", true)
  | 9 => ("DiveChairs$State", "divesMade", "[LDiveChairs$Dive;", true)
  | 10 => ("DiveChairs$State", "totals", "[J", true)
  | _ => ("DiveChairs$State", "panel", "LDiveChairs$Panel;", true)
def tyX9 : Nat → FieldType := fun k => match k with
  | 0 => .array .int
  | 1 => .array .int
  | 2 => .array .int
  | 3 => .array .int
  | 4 => .object "DiveChairs$Rule"
  | 5 => .int
  | 6 => .int
  | 7 => .int
  | 8 => .array (.object "DiveChairs$Judge")
  | 9 => .array (.object "DiveChairs$Dive")
  | 10 => .array .long
  | _ => .object "DiveChairs$Panel"
abbrev wsX90 : List Cond := u_ws RX9 TX9 12
theorem nmX9 : ∀ a, a < 12 → ∀ b, b < 12 → a ≠ b → (TX9 a).2.1 ≠ (TX9 b).2.1 := by decide +kernel
theorem tyX9_ok : ∀ k, k < 12 → parseFieldDescriptor (TX9 k).2.2.1 = some (tyX9 k) := by decide +kernel
abbrev cX9_init : ByteArray := prog_11_method_1_code
def yX9_init : MethodName := ⟨RX9, "<init>", "()V"⟩
abbrev cX9_copyFrom : ByteArray := prog_11_method_2_code
def yX9_copyFrom : MethodName := ⟨RX9, "copyFrom", "(LDiveChairs$State;)V"⟩
abbrev cX9_addDiver : ByteArray := prog_11_method_3_code
def yX9_addDiver : MethodName := ⟨RX9, "addDiver", "(II)I"⟩
abbrev cX9_addJudge : ByteArray := prog_11_method_4_code
def yX9_addJudge : MethodName := ⟨RX9, "addJudge", "(II)I"⟩
abbrev cX9_addDive : ByteArray := prog_11_method_5_code
def yX9_addDive : MethodName := ⟨RX9, "addDive", "(IIII)I"⟩
abbrev cX9_judgeAt : ByteArray := prog_11_method_6_code
def yX9_judgeAt : MethodName := ⟨RX9, "judgeAt", "(I)LDiveChairs$Judge;"⟩
abbrev cX9_diveAt : ByteArray := prog_11_method_7_code
def yX9_diveAt : MethodName := ⟨RX9, "diveAt", "(I)LDiveChairs$Dive;"⟩
abbrev cX9_landOf : ByteArray := prog_11_method_8_code
def yX9_landOf : MethodName := ⟨RX9, "landOf", "(LDiveChairs$Dive;)I"⟩
abbrev cX9_seatOf : ByteArray := prog_11_method_9_code
def yX9_seatOf : MethodName := ⟨RX9, "seatOf", "(II)I"⟩
abbrev cX9_isOnOtherChair : ByteArray := prog_11_method_10_code
def yX9_isOnOtherChair : MethodName := ⟨RX9, "isOnOtherChair", "(III)Z"⟩
abbrev cX9_seatsTaken : ByteArray := prog_11_method_11_code
def yX9_seatsTaken : MethodName := ⟨RX9, "seatsTaken", "()I"⟩
abbrev cX9_hallsOf : ByteArray := prog_11_method_12_code
def yX9_hallsOf : MethodName := ⟨RX9, "hallsOf", "(I)I"⟩
abbrev cX9_marksThere : ByteArray := prog_11_method_13_code
def yX9_marksThere : MethodName := ⟨RX9, "marksThere", "()I"⟩
abbrev cX9_sumOfMarks : ByteArray := prog_11_method_14_code
def yX9_sumOfMarks : MethodName := ⟨RX9, "sumOfMarks", "()I"⟩
abbrev cX9_worthOf : ByteArray := prog_11_method_15_code
def yX9_worthOf : MethodName := ⟨RX9, "worthOf", "(LDiveChairs$Dive;)I"⟩
abbrev cX9_countOf : ByteArray := prog_11_method_16_code
def yX9_countOf : MethodName := ⟨RX9, "countOf", "(LDiveChairs$Dive;)I"⟩
abbrev cX9_wouldMark : ByteArray := prog_11_method_17_code
def yX9_wouldMark : MethodName := ⟨RX9, "wouldMark", "(II)I"⟩
abbrev cX9_gatherOthers : ByteArray := prog_11_method_18_code
def yX9_gatherOthers : MethodName := ⟨RX9, "gatherOthers", "(ILDiveChairs$Dive;)V"⟩
abbrev cX9_markOf : ByteArray := prog_11_method_19_code
def yX9_markOf : MethodName := ⟨RX9, "markOf", "(LDiveChairs$Judge;ILDiveChairs$Dive;I)I"⟩
abbrev cX9_drawnBy : ByteArray := prog_11_method_20_code
def yX9_drawnBy : MethodName := ⟨RX9, "drawnBy", "(ILDiveChairs$Dive;)I"⟩
abbrev cX9_markDive : ByteArray := prog_11_method_21_code
def yX9_markDive : MethodName := ⟨RX9, "markDive", "(I)I"⟩
abbrev cX9_addUp : ByteArray := prog_11_method_22_code
def yX9_addUp : MethodName := ⟨RX9, "addUp", "(IZ)I"⟩
abbrev cX9_placeOf : ByteArray := prog_11_method_23_code
def yX9_placeOf : MethodName := ⟨RX9, "placeOf", "(IIZ)I"⟩
abbrev cX9_winner : ByteArray := prog_11_method_24_code
def yX9_winner : MethodName := ⟨RX9, "winner", "(I)I"⟩
abbrev cX9_takeChairOff : ByteArray := prog_11_method_25_code
def yX9_takeChairOff : MethodName := ⟨RX9, "takeChairOff", "(I)V"⟩
abbrev cX9_takeLeansOff : ByteArray := prog_11_method_26_code
def yX9_takeLeansOff : MethodName := ⟨RX9, "takeLeansOff", "()V"⟩
abbrev cX9_moveUp : ByteArray := prog_11_method_27_code
def yX9_moveUp : MethodName := ⟨RX9, "moveUp", "(III)V"⟩
abbrev cX9_tallyUp : ByteArray := prog_11_method_28_code
def yX9_tallyUp : MethodName := ⟨RX9, "tallyUp", "(LDiveChairs$Tally;II)V"⟩
abbrev cX9_meanOf : ByteArray := prog_11_method_29_code
def yX9_meanOf : MethodName := ⟨RX9, "meanOf", "(II)I"⟩
abbrev cX9_flawAnew : ByteArray := prog_11_method_30_code
def yX9_flawAnew : MethodName := ⟨RX9, "flawAnew", "(II)I"⟩
abbrev cX9_isRight : ByteArray := prog_11_method_31_code
def yX9_isRight : MethodName := ⟨RX9, "isRight", "(I)Z"⟩
def RX10 : String := "DiveChairs$Tally"
def TX10 : u_T := fun k => match k with
  | 0 => ("DiveChairs$Tally", "sum", "I", false)
  | 1 => ("DiveChairs$Tally", "many", "I", false)
  | 2 => ("DiveChairs$Tally", "least", "I", false)
  | 3 => ("DiveChairs$Tally", "greatest", "I", false)
  | _ => ("DiveChairs$Tally", "distance", "I", false)
def tyX10 : Nat → FieldType := fun k => match k with
  | 0 => .int
  | 1 => .int
  | 2 => .int
  | 3 => .int
  | _ => .int
abbrev wsX100 : List Cond := u_ws RX10 TX10 5
theorem nmX10 : ∀ a, a < 5 → ∀ b, b < 5 → a ≠ b → (TX10 a).2.1 ≠ (TX10 b).2.1 := by decide +kernel
theorem tyX10_ok : ∀ k, k < 5 → parseFieldDescriptor (TX10 k).2.2.1 = some (tyX10 k) := by decide +kernel
abbrev cX10_init : ByteArray := prog_12_method_1_code
def yX10_init : MethodName := ⟨RX10, "<init>", "()V"⟩
abbrev cX10_start : ByteArray := prog_12_method_2_code
def yX10_start : MethodName := ⟨RX10, "start", "()V"⟩
abbrev cX10_take : ByteArray := prog_12_method_3_code
def yX10_take : MethodName := ⟨RX10, "take", "(I)V"⟩
def RX11 : String := "DiveChairs"
def TX11 : u_T := fun k => match k with
  | 0 => ("DiveChairs", "now", "LDiveChairs$State;", true)
  | 1 => ("DiveChairs", "imaged", "LDiveChairs$State;", true)
  | 2 => ("DiveChairs", "mind", "LDiveChairs$State;", true)
  | 3 => ("DiveChairs", "shelves", "[LDiveChairs$Shelf;", true)
  | 4 => ("DiveChairs", "reader", "LDiveChairs$RuleReader;", true)
  | 5 => ("DiveChairs", "orders", "LDiveChairs$OrderDealing;", true)
  | 6 => ("DiveChairs", "deals", "LDiveChairs$LandDealing;", true)
  | 7 => ("DiveChairs", "tally", "LDiveChairs$Tally;", true)
  | _ => ("DiveChairs", "imageTaken", "Z", false)
def tyX11 : Nat → FieldType := fun k => match k with
  | 0 => .object "DiveChairs$State"
  | 1 => .object "DiveChairs$State"
  | 2 => .object "DiveChairs$State"
  | 3 => .array (.object "DiveChairs$Shelf")
  | 4 => .object "DiveChairs$RuleReader"
  | 5 => .object "DiveChairs$OrderDealing"
  | 6 => .object "DiveChairs$LandDealing"
  | 7 => .object "DiveChairs$Tally"
  | _ => .boolean
abbrev wsX110 : List Cond := u_ws RX11 TX11 9
theorem nmX11 : ∀ a, a < 9 → ∀ b, b < 9 → a ≠ b → (TX11 a).2.1 ≠ (TX11 b).2.1 := by decide +kernel
theorem tyX11_ok : ∀ k, k < 9 → parseFieldDescriptor (TX11 k).2.2.1 = some (tyX11 k) := by decide +kernel
abbrev cX11_init : ByteArray := prog_1_method_1_code
def yX11_init : MethodName := ⟨RX11, "<init>", "()V"⟩
abbrev cX11_diver : ByteArray := prog_1_method_2_code
def yX11_diver : MethodName := ⟨RX11, "diver", "(II)I"⟩
abbrev cX11_judge : ByteArray := prog_1_method_3_code
def yX11_judge : MethodName := ⟨RX11, "judge", "(II)I"⟩
abbrev cX11_year : ByteArray := prog_1_method_4_code
def yX11_year : MethodName := ⟨RX11, "year", "(II)I"⟩
abbrev cX11_chair : ByteArray := prog_1_method_5_code
def yX11_chair : MethodName := ⟨RX11, "chair", "(III)I"⟩
abbrev cX11_dive : ByteArray := prog_1_method_6_code
def yX11_dive : MethodName := ⟨RX11, "dive", "(IIII)I"⟩
abbrev cX11_of : ByteArray := prog_1_method_7_code
def yX11_of : MethodName := ⟨RX11, "of", "(II)I"⟩
abbrev cX11_seen : ByteArray := prog_1_method_8_code
def yX11_seen : MethodName := ⟨RX11, "seen", "(III)I"⟩
abbrev cX11_would : ByteArray := prog_1_method_9_code
def yX11_would : MethodName := ⟨RX11, "would", "(II)I"⟩
abbrev cX11_markAll : ByteArray := prog_1_method_10_code
def yX11_markAll : MethodName := ⟨RX11, "markAll", "(I)I"⟩
abbrev cX11_marks : ByteArray := prog_1_method_11_code
def yX11_marks : MethodName := ⟨RX11, "marks", "(II)I"⟩
abbrev cX11_mark : ByteArray := prog_1_method_12_code
def yX11_mark : MethodName := ⟨RX11, "mark", "(II)I"⟩
abbrev cX11_rule : ByteArray := prog_1_method_13_code
def yX11_rule : MethodName := ⟨RX11, "rule", "(I)I"⟩
abbrev cX11_counts : ByteArray := prog_1_method_14_code
def yX11_counts : MethodName := ⟨RX11, "counts", "(I)I"⟩
abbrev cX11_total : ByteArray := prog_1_method_15_code
def yX11_total : MethodName := ⟨RX11, "total", "(II)J"⟩
abbrev cX11_place : ByteArray := prog_1_method_16_code
def yX11_place : MethodName := ⟨RX11, "place", "(II)I"⟩
abbrev cX11_won : ByteArray := prog_1_method_17_code
def yX11_won : MethodName := ⟨RX11, "won", "(I)I"⟩
abbrev cX11_wonIf : ByteArray := prog_1_method_18_code
def yX11_wonIf : MethodName := ⟨RX11, "wonIf", "(III)I"⟩
abbrev cX11_moved : ByteArray := prog_1_method_19_code
def yX11_moved : MethodName := ⟨RX11, "moved", "(IIII)I"⟩
abbrev cX11_lean : ByteArray := prog_1_method_20_code
def yX11_lean : MethodName := ⟨RX11, "lean", "(III)I"⟩
abbrev cX11_pairs : ByteArray := prog_1_method_21_code
def yX11_pairs : MethodName := ⟨RX11, "pairs", "()I"⟩
abbrev cX11_pairOdds : ByteArray := prog_1_method_22_code
def yX11_pairOdds : MethodName := ⟨RX11, "pairOdds", "(I)I"⟩
abbrev cX11_order : ByteArray := prog_1_method_23_code
def yX11_order : MethodName := ⟨RX11, "order", "(I)I"⟩
abbrev cX11_orderOdds : ByteArray := prog_1_method_24_code
def yX11_orderOdds : MethodName := ⟨RX11, "orderOdds", "(II)I"⟩
abbrev cX11_creep : ByteArray := prog_1_method_25_code
def yX11_creep : MethodName := ⟨RX11, "creep", "(II)I"⟩
abbrev cX11_near : ByteArray := prog_1_method_26_code
def yX11_near : MethodName := ⟨RX11, "near", "(I)I"⟩
abbrev cX11_nearest : ByteArray := prog_1_method_27_code
def yX11_nearest : MethodName := ⟨RX11, "nearest", "()I"⟩
abbrev cX11_seeing : ByteArray := prog_1_method_28_code
def yX11_seeing : MethodName := ⟨RX11, "seeing", "(III)I"⟩
abbrev cX11_worlds : ByteArray := prog_1_method_29_code
def yX11_worlds : MethodName := ⟨RX11, "worlds", "(III)I"⟩
abbrev cX11_image : ByteArray := prog_1_method_30_code
def yX11_image : MethodName := ⟨RX11, "image", "()I"⟩
abbrev cX11_restore : ByteArray := prog_1_method_31_code
def yX11_restore : MethodName := ⟨RX11, "restore", "()I"⟩
abbrev cX11_count : ByteArray := prog_1_method_32_code
def yX11_count : MethodName := ⟨RX11, "count", "(I)I"⟩
abbrev cX11_keep : ByteArray := prog_1_method_33_code
def yX11_keep : MethodName := ⟨RX11, "keep", "(III)I"⟩
abbrev cX11_row : ByteArray := prog_1_method_34_code
def yX11_row : MethodName := ⟨RX11, "row", "(III)I"⟩
abbrev cX11_put : ByteArray := prog_1_method_35_code
def yX11_put : MethodName := ⟨RX11, "put", "(III)I"⟩
abbrev cX11_element : ByteArray := prog_1_method_36_code
def yX11_element : MethodName := ⟨RX11, "element", "(II)J"⟩
abbrev cX11_copy : ByteArray := prog_1_method_37_code
def yX11_copy : MethodName := ⟨RX11, "copy", "(IIIII)I"⟩
abbrev cX11_weight : ByteArray := prog_1_method_38_code
def yX11_weight : MethodName := ⟨RX11, "weight", "(I)I"⟩
abbrev cX11_toss : ByteArray := prog_1_method_39_code
def yX11_toss : MethodName := ⟨RX11, "toss", "(I)I"⟩
abbrev cX11_within : ByteArray := prog_1_method_40_code
def yX11_within : MethodName := ⟨RX11, "within", "(II)Z"⟩
abbrev cX11_holds : ByteArray := prog_1_method_41_code
def yX11_holds : MethodName := ⟨RX11, "holds", "(II)Z"⟩
abbrev cX11_partsSeen : ByteArray := prog_1_method_42_code
def yX11_partsSeen : MethodName := ⟨RX11, "partsSeen", "(II)I"⟩
abbrev cX11_partsSeenFrom : ByteArray := prog_1_method_43_code
def yX11_partsSeenFrom : MethodName := ⟨RX11, "partsSeenFrom", "(II)I"⟩
abbrev cX11_isSupposable : ByteArray := prog_1_method_44_code
def yX11_isSupposable : MethodName := ⟨RX11, "isSupposable", "(II)Z"⟩
abbrev cX11_fails : ByteArray := prog_1_method_45_code
def yX11_fails : MethodName := ⟨RX11, "fails", "(LDiveChairs$Judge;)Z"⟩
abbrev cX11_shelfAt : ByteArray := prog_1_method_46_code
def yX11_shelfAt : MethodName := ⟨RX11, "shelfAt", "(I)LDiveChairs$Shelf;"⟩
abbrev cX11_placeMovedBy : ByteArray := prog_1_method_47_code
def yX11_placeMovedBy : MethodName := ⟨RX11, "placeMovedBy", "(III)I"⟩
def RX12 : String := "DiveChairsModel"
def TX12 : u_T := fun k => match k with
  | 0 => ("DiveChairsModel", "s", "[I", true)
  | 1 => ("DiveChairsModel", "image", "[I", true)
  | 2 => ("DiveChairsModel", "kept", "[I", true)
  | 3 => ("DiveChairsModel", "sort", "[I", true)
  | 4 => ("DiveChairsModel", "size", "[I", true)
  | 5 => ("DiveChairsModel", "element", "[I", true)
  | 6 => ("DiveChairsModel", "keptWeight", "[I", true)
  | 7 => ("DiveChairsModel", "keptToss", "[I", true)
  | 8 => ("DiveChairsModel", "hasImage", "Z", false)
  | 9 => ("DiveChairsModel", "thrown", "I", false)
  | 10 => ("DiveChairsModel", "row", "[I", true)
  | 11 => ("DiveChairsModel", "rowed", "I", false)
  | 12 => ("DiveChairsModel", "pos", "I", false)
  | 13 => ("DiveChairsModel", "base", "I", false)
  | 14 => ("DiveChairsModel", "end", "I", false)
  | 15 => ("DiveChairsModel", "deep", "I", false)
  | 16 => ("DiveChairsModel", "number", "I", false)
  | 17 => ("DiveChairsModel", "text", "[I", false)
  | 18 => ("DiveChairsModel", "one", "I", false)
  | 19 => ("DiveChairsModel", "two", "I", false)
  | 20 => ("DiveChairsModel", "from", "I", false)
  | 21 => ("DiveChairsModel", "to", "I", false)
  | 22 => ("DiveChairsModel", "sum", "I", false)
  | 23 => ("DiveChairsModel", "many", "I", false)
  | 24 => ("DiveChairsModel", "hard", "I", false)
  | 25 => ("DiveChairsModel", "middle", "I", false)
  | 26 => ("DiveChairsModel", "highest", "I", false)
  | 27 => ("DiveChairsModel", "lowest", "I", false)
  | 28 => ("DiveChairsModel", "splash", "I", false)
  | 29 => ("DiveChairsModel", "without", "I", false)
  | 30 => ("DiveChairsModel", "dropHigh", "I", false)
  | 31 => ("DiveChairsModel", "dropLow", "I", false)
  | 32 => ("DiveChairsModel", "leansOff", "Z", false)
  | 33 => ("DiveChairsModel", "movers", "I", false)
  | 34 => ("DiveChairsModel", "mover", "I", false)
  | 35 => ("DiveChairsModel", "leanSum", "I", false)
  | 36 => ("DiveChairsModel", "leanMany", "I", false)
  | 37 => ("DiveChairsModel", "leanLeast", "I", false)
  | 38 => ("DiveChairsModel", "leanMost", "I", false)
  | 39 => ("DiveChairsModel", "sums", "[I", true)
  | 40 => ("DiveChairsModel", "lands", "[I", true)
  | 41 => ("DiveChairsModel", "together", "[Z", true)
  | 42 => ("DiveChairsModel", "ways", "I", false)
  | 43 => ("DiveChairsModel", "asMany", "I", false)
  | 44 => ("DiveChairsModel", "counted", "[I", true)
  | 45 => ("DiveChairsModel", "orderOf", "[I", true)
  | 46 => ("DiveChairsModel", "countedMany", "I", false)
  | 47 => ("DiveChairsModel", "nearSum", "I", false)
  | 48 => ("DiveChairsModel", "nearMany", "I", false)
  | _ => ("DiveChairsModel", "saved", "[I", true)
def tyX12 : Nat → FieldType := fun k => match k with
  | 0 => .array .int
  | 1 => .array .int
  | 2 => .array .int
  | 3 => .array .int
  | 4 => .array .int
  | 5 => .array .int
  | 6 => .array .int
  | 7 => .array .int
  | 8 => .boolean
  | 9 => .int
  | 10 => .array .int
  | 11 => .int
  | 12 => .int
  | 13 => .int
  | 14 => .int
  | 15 => .int
  | 16 => .int
  | 17 => .array .int
  | 18 => .int
  | 19 => .int
  | 20 => .int
  | 21 => .int
  | 22 => .int
  | 23 => .int
  | 24 => .int
  | 25 => .int
  | 26 => .int
  | 27 => .int
  | 28 => .int
  | 29 => .int
  | 30 => .int
  | 31 => .int
  | 32 => .boolean
  | 33 => .int
  | 34 => .int
  | 35 => .int
  | 36 => .int
  | 37 => .int
  | 38 => .int
  | 39 => .array .int
  | 40 => .array .int
  | 41 => .array .boolean
  | 42 => .int
  | 43 => .int
  | 44 => .array .int
  | 45 => .array .int
  | 46 => .int
  | 47 => .int
  | 48 => .int
  | _ => .array .int
abbrev wsX120 : List Cond := u_ws RX12 TX12 50
theorem nmX12 : ∀ a, a < 50 → ∀ b, b < 50 → a ≠ b → (TX12 a).2.1 ≠ (TX12 b).2.1 := by decide +kernel
theorem tyX12_ok : ∀ k, k < 50 → parseFieldDescriptor (TX12 k).2.2.1 = some (tyX12 k) := by decide +kernel
abbrev cX12_init : ByteArray := prog_14_method_1_code
def yX12_init : MethodName := ⟨RX12, "<init>", "()V"⟩
abbrev cX12_thrown : ByteArray := prog_14_method_2_code
def yX12_thrown : MethodName := ⟨RX12, "thrown", "()I"⟩
abbrev cX12_isIn : ByteArray := prog_14_method_3_code
def yX12_isIn : MethodName := ⟨RX12, "isIn", "(JJJ)Z"⟩
abbrev cX12_isDiver : ByteArray := prog_14_method_4_code
def yX12_isDiver : MethodName := ⟨RX12, "isDiver", "(I)Z"⟩
abbrev cX12_isJudge : ByteArray := prog_14_method_5_code
def yX12_isJudge : MethodName := ⟨RX12, "isJudge", "(I)Z"⟩
abbrev cX12_isDive : ByteArray := prog_14_method_6_code
def yX12_isDive : MethodName := ⟨RX12, "isDive", "(I)Z"⟩
abbrev cX12_isHall : ByteArray := prog_14_method_7_code
def yX12_isHall : MethodName := ⟨RX12, "isHall", "(I)Z"⟩
abbrev cX12_isChair : ByteArray := prog_14_method_8_code
def yX12_isChair : MethodName := ⟨RX12, "isChair", "(I)Z"⟩
abbrev cX12_isShelf : ByteArray := prog_14_method_9_code
def yX12_isShelf : MethodName := ⟨RX12, "isShelf", "(I)Z"⟩
abbrev cX12_get : ByteArray := prog_14_method_10_code
def yX12_get : MethodName := ⟨RX12, "get", "(II)I"⟩
abbrev cX12_becomes : ByteArray := prog_14_method_11_code
def yX12_becomes : MethodName := ⟨RX12, "becomes", "(II)I"⟩
abbrev cX12_diver : ByteArray := prog_14_method_12_code
def yX12_diver : MethodName := ⟨RX12, "diver", "(II)I"⟩
abbrev cX12_judge : ByteArray := prog_14_method_13_code
def yX12_judge : MethodName := ⟨RX12, "judge", "(II)I"⟩
abbrev cX12_year : ByteArray := prog_14_method_14_code
def yX12_year : MethodName := ⟨RX12, "year", "(II)I"⟩
abbrev cX12_onChair : ByteArray := prog_14_method_15_code
def yX12_onChair : MethodName := ⟨RX12, "onChair", "(II)I"⟩
abbrev cX12_chair : ByteArray := prog_14_method_16_code
def yX12_chair : MethodName := ⟨RX12, "chair", "(III)I"⟩
abbrev cX12_dive : ByteArray := prog_14_method_17_code
def yX12_dive : MethodName := ⟨RX12, "dive", "(IIII)I"⟩
abbrev cX12_worth : ByteArray := prog_14_method_18_code
def yX12_worth : MethodName := ⟨RX12, "worth", "(I)I"⟩
abbrev cX12_marksOf : ByteArray := prog_14_method_19_code
def yX12_marksOf : MethodName := ⟨RX12, "marksOf", "(I)I"⟩
abbrev cX12_of : ByteArray := prog_14_method_20_code
def yX12_of : MethodName := ⟨RX12, "of", "(II)I"⟩
abbrev cX12_isSeen : ByteArray := prog_14_method_21_code
def yX12_isSeen : MethodName := ⟨RX12, "isSeen", "(III)Z"⟩
abbrev cX12_seen : ByteArray := prog_14_method_22_code
def yX12_seen : MethodName := ⟨RX12, "seen", "(III)I"⟩
abbrev cX12_lessOff : ByteArray := prog_14_method_23_code
def yX12_lessOff : MethodName := ⟨RX12, "lessOff", "(IIZ)I"⟩
abbrev cX12_aheadOf : ByteArray := prog_14_method_24_code
def yX12_aheadOf : MethodName := ⟨RX12, "aheadOf", "(I)I"⟩
abbrev cX12_held : ByteArray := prog_14_method_25_code
def yX12_held : MethodName := ⟨RX12, "held", "(I)I"⟩
abbrev cX12_comes : ByteArray := prog_14_method_26_code
def yX12_comes : MethodName := ⟨RX12, "comes", "(I)V"⟩
abbrev cX12_middleWould : ByteArray := prog_14_method_27_code
def yX12_middleWould : MethodName := ⟨RX12, "middleWould", "(I)I"⟩
abbrev cX12_wouldOf : ByteArray := prog_14_method_28_code
def yX12_wouldOf : MethodName := ⟨RX12, "wouldOf", "(II)I"⟩
abbrev cX12_would : ByteArray := prog_14_method_29_code
def yX12_would : MethodName := ⟨RX12, "would", "(II)I"⟩
abbrev cX12_marksAs : ByteArray := prog_14_method_30_code
def yX12_marksAs : MethodName := ⟨RX12, "marksAs", "(I)V"⟩
abbrev cX12_markAll : ByteArray := prog_14_method_31_code
def yX12_markAll : MethodName := ⟨RX12, "markAll", "(I)I"⟩
abbrev cX12_wrongRow : ByteArray := prog_14_method_32_code
def yX12_wrongRow : MethodName := ⟨RX12, "wrongRow", "(II)I"⟩
abbrev cX12_marks : ByteArray := prog_14_method_33_code
def yX12_marks : MethodName := ⟨RX12, "marks", "(II)I"⟩
abbrev cX12_markOf : ByteArray := prog_14_method_34_code
def yX12_markOf : MethodName := ⟨RX12, "markOf", "(II)I"⟩
abbrev cX12_mark : ByteArray := prog_14_method_35_code
def yX12_mark : MethodName := ⟨RX12, "mark", "(II)I"⟩
abbrev cX12_sign : ByteArray := prog_14_method_36_code
def yX12_sign : MethodName := ⟨RX12, "sign", "()I"⟩
abbrev cX12_takes : ByteArray := prog_14_method_37_code
def yX12_takes : MethodName := ⟨RX12, "takes", "(I)Z"⟩
abbrev cX12_readsNumber : ByteArray := prog_14_method_38_code
def yX12_readsNumber : MethodName := ⟨RX12, "readsNumber", "()Z"⟩
abbrev cX12_isField : ByteArray := prog_14_method_39_code
def yX12_isField : MethodName := ⟨RX12, "isField", "(I)Z"⟩
abbrev cX12_readsSum : ByteArray := prog_14_method_40_code
def yX12_readsSum : MethodName := ⟨RX12, "readsSum", "()Z"⟩
abbrev cX12_readsProduct : ByteArray := prog_14_method_41_code
def yX12_readsProduct : MethodName := ⟨RX12, "readsProduct", "()Z"⟩
abbrev cX12_readsAtom : ByteArray := prog_14_method_42_code
def yX12_readsAtom : MethodName := ⟨RX12, "readsAtom", "()Z"⟩
abbrev cX12_readsStatement : ByteArray := prog_14_method_43_code
def yX12_readsStatement : MethodName := ⟨RX12, "readsStatement", "()Z"⟩
abbrev cX12_begins : ByteArray := prog_14_method_44_code
def yX12_begins : MethodName := ⟨RX12, "begins", "(I)V"⟩
abbrev cX12_rule : ByteArray := prog_14_method_45_code
def yX12_rule : MethodName := ⟨RX12, "rule", "(I)I"⟩
abbrev cX12_sumOf : ByteArray := prog_14_method_46_code
def yX12_sumOf : MethodName := ⟨RX12, "sumOf", "()I"⟩
abbrev cX12_product : ByteArray := prog_14_method_47_code
def yX12_product : MethodName := ⟨RX12, "product", "()I"⟩
abbrev cX12_atom : ByteArray := prog_14_method_48_code
def yX12_atom : MethodName := ⟨RX12, "atom", "()I"⟩
abbrev cX12_asTold : ByteArray := prog_14_method_49_code
def yX12_asTold : MethodName := ⟨RX12, "asTold", "()V"⟩
abbrev cX12_leanIn : ByteArray := prog_14_method_50_code
def yX12_leanIn : MethodName := ⟨RX12, "leanIn", "(II)I"⟩
abbrev cX12_gathers : ByteArray := prog_14_method_51_code
def yX12_gathers : MethodName := ⟨RX12, "gathers", "(I)V"⟩
abbrev cX12_middleOf : ByteArray := prog_14_method_52_code
def yX12_middleOf : MethodName := ⟨RX12, "middleOf", "(I)I"⟩
abbrev cX12_countsNow : ByteArray := prog_14_method_53_code
def yX12_countsNow : MethodName := ⟨RX12, "countsNow", "(I)I"⟩
abbrev cX12_counts : ByteArray := prog_14_method_54_code
def yX12_counts : MethodName := ⟨RX12, "counts", "(I)I"⟩
abbrev cX12_dives : ByteArray := prog_14_method_55_code
def yX12_dives : MethodName := ⟨RX12, "dives", "(II)Z"⟩
abbrev cX12_totalNow : ByteArray := prog_14_method_56_code
def yX12_totalNow : MethodName := ⟨RX12, "totalNow", "(II)J"⟩
abbrev cX12_total : ByteArray := prog_14_method_57_code
def yX12_total : MethodName := ⟨RX12, "total", "(II)J"⟩
abbrev cX12_placeNow : ByteArray := prog_14_method_58_code
def yX12_placeNow : MethodName := ⟨RX12, "placeNow", "(II)I"⟩
abbrev cX12_place : ByteArray := prog_14_method_59_code
def yX12_place : MethodName := ⟨RX12, "place", "(II)I"⟩
abbrev cX12_wonNow : ByteArray := prog_14_method_60_code
def yX12_wonNow : MethodName := ⟨RX12, "wonNow", "(I)I"⟩
abbrev cX12_won : ByteArray := prog_14_method_61_code
def yX12_won : MethodName := ⟨RX12, "won", "(I)I"⟩
abbrev cX12_wonIf : ByteArray := prog_14_method_62_code
def yX12_wonIf : MethodName := ⟨RX12, "wonIf", "(III)I"⟩
abbrev cX12_bits : ByteArray := prog_14_method_63_code
def yX12_bits : MethodName := ⟨RX12, "bits", "(I)I"⟩
abbrev cX12_moved : ByteArray := prog_14_method_64_code
def yX12_moved : MethodName := ⟨RX12, "moved", "(IIII)I"⟩
abbrev cX12_findLean : ByteArray := prog_14_method_65_code
def yX12_findLean : MethodName := ⟨RX12, "findLean", "(II)V"⟩
abbrev cX12_lean : ByteArray := prog_14_method_66_code
def yX12_lean : MethodName := ⟨RX12, "lean", "(III)I"⟩
abbrev cX12_findSums : ByteArray := prog_14_method_67_code
def yX12_findSums : MethodName := ⟨RX12, "findSums", "()V"⟩
abbrev cX12_sits : ByteArray := prog_14_method_68_code
def yX12_sits : MethodName := ⟨RX12, "sits", "(II)Z"⟩
abbrev cX12_pairsNow : ByteArray := prog_14_method_69_code
def yX12_pairsNow : MethodName := ⟨RX12, "pairsNow", "()I"⟩
abbrev cX12_pairs : ByteArray := prog_14_method_70_code
def yX12_pairs : MethodName := ⟨RX12, "pairs", "()I"⟩
abbrev cX12_deals : ByteArray := prog_14_method_71_code
def yX12_deals : MethodName := ⟨RX12, "deals", "(III)V"⟩
abbrev cX12_pairOdds : ByteArray := prog_14_method_72_code
def yX12_pairOdds : MethodName := ⟨RX12, "pairOdds", "(I)I"⟩
abbrev cX12_findCounts : ByteArray := prog_14_method_73_code
def yX12_findCounts : MethodName := ⟨RX12, "findCounts", "(I)V"⟩
abbrev cX12_orderNow : ByteArray := prog_14_method_74_code
def yX12_orderNow : MethodName := ⟨RX12, "orderNow", "()I"⟩
abbrev cX12_order : ByteArray := prog_14_method_75_code
def yX12_order : MethodName := ⟨RX12, "order", "(I)I"⟩
abbrev cX12_orders : ByteArray := prog_14_method_76_code
def yX12_orders : MethodName := ⟨RX12, "orders", "(III)V"⟩
abbrev cX12_orderOdds : ByteArray := prog_14_method_77_code
def yX12_orderOdds : MethodName := ⟨RX12, "orderOdds", "(II)I"⟩
abbrev cX12_meanIn : ByteArray := prog_14_method_78_code
def yX12_meanIn : MethodName := ⟨RX12, "meanIn", "(II)I"⟩
abbrev cX12_creep : ByteArray := prog_14_method_79_code
def yX12_creep : MethodName := ⟨RX12, "creep", "(II)I"⟩
abbrev cX12_findNear : ByteArray := prog_14_method_80_code
def yX12_findNear : MethodName := ⟨RX12, "findNear", "(I)V"⟩
abbrev cX12_near : ByteArray := prog_14_method_81_code
def yX12_near : MethodName := ⟨RX12, "near", "(I)I"⟩
abbrev cX12_nearest : ByteArray := prog_14_method_82_code
def yX12_nearest : MethodName := ⟨RX12, "nearest", "()I"⟩
abbrev cX12_seeing : ByteArray := prog_14_method_83_code
def yX12_seeing : MethodName := ⟨RX12, "seeing", "(III)I"⟩
abbrev cX12_isRight : ByteArray := prog_14_method_84_code
def yX12_isRight : MethodName := ⟨RX12, "isRight", "(I)Z"⟩
abbrev cX12_truly : ByteArray := prog_14_method_85_code
def yX12_truly : MethodName := ⟨RX12, "truly", "(II)J"⟩
abbrev cX12_worlds : ByteArray := prog_14_method_86_code
def yX12_worlds : MethodName := ⟨RX12, "worlds", "(III)I"⟩
abbrev cX12_image : ByteArray := prog_14_method_87_code
def yX12_image : MethodName := ⟨RX12, "image", "()I"⟩
abbrev cX12_restore : ByteArray := prog_14_method_88_code
def yX12_restore : MethodName := ⟨RX12, "restore", "()I"⟩
abbrev cX12_count : ByteArray := prog_14_method_89_code
def yX12_count : MethodName := ⟨RX12, "count", "(I)I"⟩
abbrev cX12_weightOf : ByteArray := prog_14_method_90_code
def yX12_weightOf : MethodName := ⟨RX12, "weightOf", "(I)I"⟩
abbrev cX12_keep : ByteArray := prog_14_method_91_code
def yX12_keep : MethodName := ⟨RX12, "keep", "(III)I"⟩
abbrev cX12_row : ByteArray := prog_14_method_92_code
def yX12_row : MethodName := ⟨RX12, "row", "(III)I"⟩
abbrev cX12_put : ByteArray := prog_14_method_93_code
def yX12_put : MethodName := ⟨RX12, "put", "(III)I"⟩
abbrev cX12_element : ByteArray := prog_14_method_94_code
def yX12_element : MethodName := ⟨RX12, "element", "(II)J"⟩
abbrev cX12_copy : ByteArray := prog_14_method_95_code
def yX12_copy : MethodName := ⟨RX12, "copy", "(IIIII)I"⟩
abbrev cX12_wrongKept : ByteArray := prog_14_method_96_code
def yX12_wrongKept : MethodName := ⟨RX12, "wrongKept", "(I)I"⟩
abbrev cX12_weight : ByteArray := prog_14_method_97_code
def yX12_weight : MethodName := ⟨RX12, "weight", "(I)I"⟩
abbrev cX12_toss : ByteArray := prog_14_method_98_code
def yX12_toss : MethodName := ⟨RX12, "toss", "(I)I"⟩
def RJ6 : String := "java/lang/Integer"
def TJ6 : u_T := fun k => match k with
  | _ => ("", "", "", false)
def tyJ6 : Nat → FieldType := fun k => match k with
  | _ => .int
abbrev wsJ60 : List Cond := u_ws RJ6 TJ6 0
theorem nmJ6 : ∀ a, a < 0 → ∀ b, b < 0 → a ≠ b → (TJ6 a).2.1 ≠ (TJ6 b).2.1 := by decide +kernel
theorem tyJ6_ok : ∀ k, k < 0 → parseFieldDescriptor (TJ6 k).2.2.1 = some (tyJ6 k) := by decide +kernel
abbrev cJ6_bitCount_0f7a4 : ByteArray := prog_18_method_49_code
def yJ6_bitCount_0f7a4 : MethodName := ⟨RJ6, "bitCount", "(I)I"⟩
def RJ9 : String := "java/lang/Math"
def TJ9 : u_T := fun k => match k with
  | _ => ("", "", "", false)
def tyJ9 : Nat → FieldType := fun k => match k with
  | _ => .int
abbrev wsJ90 : List Cond := u_ws RJ9 TJ9 0
theorem nmJ9 : ∀ a, a < 0 → ∀ b, b < 0 → a ≠ b → (TJ9 a).2.1 ≠ (TJ9 b).2.1 := by decide +kernel
theorem tyJ9_ok : ∀ k, k < 0 → parseFieldDescriptor (TJ9 k).2.2.1 = some (tyJ9 k) := by decide +kernel
abbrev cJ9_abs_0f7a4 : ByteArray := prog_19_method_59_code
def yJ9_abs_0f7a4 : MethodName := ⟨RJ9, "abs", "(I)I"⟩
abbrev cJ9_max_7cf53 : ByteArray := prog_19_method_65_code
def yJ9_max_7cf53 : MethodName := ⟨RJ9, "max", "(II)I"⟩
abbrev cJ9_min_7cf53 : ByteArray := prog_19_method_69_code
def yJ9_min_7cf53 : MethodName := ⟨RJ9, "min", "(II)I"⟩
def RJ0 : String := "java/lang/String"
def TJ0 : u_T := fun k => match k with
  | _ => ("", "", "", false)
def tyJ0 : Nat → FieldType := fun k => match k with
  | _ => .int
abbrev wsJ00 : List Cond := u_ws RJ0 TJ0 0
theorem nmJ0 : ∀ a, a < 0 → ∀ b, b < 0 → a ≠ b → (TJ0 a).2.1 ≠ (TJ0 b).2.1 := by decide +kernel
theorem tyJ0_ok : ∀ k, k < 0 → parseFieldDescriptor (TJ0 k).2.2.1 = some (tyJ0 k) := by decide +kernel
def RJ10 : String := "java/lang/System"
def TJ10 : u_T := fun k => match k with
  | _ => ("", "", "", false)
def tyJ10 : Nat → FieldType := fun k => match k with
  | _ => .int
abbrev wsJ100 : List Cond := u_ws RJ10 TJ10 0
theorem nmJ10 : ∀ a, a < 0 → ∀ b, b < 0 → a ≠ b → (TJ10 a).2.1 ≠ (TJ10 b).2.1 := by decide +kernel
theorem tyJ10_ok : ∀ k, k < 0 → parseFieldDescriptor (TJ10 k).2.2.1 = some (tyJ10 k) := by decide +kernel
def RL : String := "DiveChairsLaw"
abbrev cL_element : ByteArray := method_3_code
def yL_element : MethodName := ⟨RL, "element", "(LDiveChairs;II[J)I"⟩
abbrev cL_law : ByteArray := code
def yL_law : MethodName := ⟨RL, "law", "([I)Z"⟩
def wsX0_init : List Cond := .code yX0_init cX0_init 1 none :: ([.methodLink RX0 3 objectInit, .instanceMethod objectInit, .code objectInit ⟨#[0xb1]⟩ 1 none, .arrayClass .int, .fieldLink RX0 9 "DiveChairs$Dealing" "dealt" "[I"] ++ wsX30 ++ wsX40)
def wsX11_within : List Cond := .code yX11_within cX11_within 2 (some .boolean) :: ([])
def wsX3_leansTo : List Cond := .code yX3_leansTo cX3_leansTo 3 (some .boolean) :: ([.fieldLink RX3 18 "DiveChairs$LandDealing" "leans" "[I", .static yX11_within, .initialized RX11, .code yX11_within cX11_within 2 (some .boolean)] ++ wsX30)
def wsX3_between : List Cond := .code yX3_between cX3_between 9 (some .int) :: ([.fieldLink RX3 9 "DiveChairs$LandDealing" "lands" "[I", .fieldLink RX3 15 "DiveChairs$LandDealing" "halls" "[I", .static yX11_within, .initialized RX11, .code yX11_within cX11_within 2 (some .boolean), .methodLink RX3 84 yX3_leansTo, .instanceMethod yX3_leansTo, .selects RX3 yX3_leansTo yX3_leansTo, .initialized RX3, .code yX3_leansTo cX3_leansTo 3 (some .boolean), .fieldLink RX3 18 "DiveChairs$LandDealing" "leans" "[I"] ++ wsX30)
def wsX4_between : List Cond := .code yX4_between cX4_between 7 (some .int) :: ([.fieldLink RX4 9 "DiveChairs$OrderDealing" "counted" "[I", .static yX11_within, .initialized RX11, .code yX11_within cX11_within 2 (some .boolean)] ++ wsX40)
def wsX0_asItStands : List Cond := .code yX0_asItStands cX0_asItStands 4 (some .int) :: ([.fieldLink RX0 15 "DiveChairs$Dealing" "size" "I", .methodLink RX0 19 ⟨"DiveChairs$Dealing", "between", "(IIII)I"⟩, .sameMethod "DiveChairs$Dealing" "DiveChairs$Dealing" "between" "(IIII)I", .selects RX3 ⟨"DiveChairs$Dealing", "between", "(IIII)I"⟩ yX3_between, .instanceMethod yX3_between, .initialized RX3, .code yX3_between cX3_between 9 (some .int), .fieldLink RX3 9 "DiveChairs$LandDealing" "lands" "[I", .fieldLink RX3 15 "DiveChairs$LandDealing" "halls" "[I", .static yX11_within, .initialized RX11, .code yX11_within cX11_within 2 (some .boolean), .methodLink RX3 84 yX3_leansTo, .instanceMethod yX3_leansTo, .selects RX3 yX3_leansTo yX3_leansTo, .code yX3_leansTo cX3_leansTo 3 (some .boolean), .fieldLink RX3 18 "DiveChairs$LandDealing" "leans" "[I", .selects RX4 ⟨"DiveChairs$Dealing", "between", "(IIII)I"⟩ yX4_between, .instanceMethod yX4_between, .initialized RX4, .code yX4_between cX4_between 7 (some .int), .fieldLink RX4 9 "DiveChairs$OrderDealing" "counted" "[I"] ++ wsX30 ++ wsX40)
def wsX0_allWays : List Cond := .code yX0_allWays cX0_allWays 3 (some .int) :: ([.fieldLink RX0 15 "DiveChairs$Dealing" "size" "I"] ++ wsX30 ++ wsX40)
def wsX11_holds : List Cond := .code yX11_holds cX11_holds 2 (some .boolean) :: ([])
def wsX0_gainAt : List Cond := .code yX0_gainAt cX0_gainAt 4 (some .int) :: ([.fieldLink RX0 9 "DiveChairs$Dealing" "dealt" "[I", .methodLink RX0 19 ⟨"DiveChairs$Dealing", "between", "(IIII)I"⟩, .sameMethod "DiveChairs$Dealing" "DiveChairs$Dealing" "between" "(IIII)I", .selects RX3 ⟨"DiveChairs$Dealing", "between", "(IIII)I"⟩ yX3_between, .instanceMethod yX3_between, .initialized RX3, .code yX3_between cX3_between 9 (some .int), .fieldLink RX3 9 "DiveChairs$LandDealing" "lands" "[I", .fieldLink RX3 15 "DiveChairs$LandDealing" "halls" "[I", .static yX11_within, .initialized RX11, .code yX11_within cX11_within 2 (some .boolean), .methodLink RX3 84 yX3_leansTo, .instanceMethod yX3_leansTo, .selects RX3 yX3_leansTo yX3_leansTo, .code yX3_leansTo cX3_leansTo 3 (some .boolean), .fieldLink RX3 18 "DiveChairs$LandDealing" "leans" "[I", .selects RX4 ⟨"DiveChairs$Dealing", "between", "(IIII)I"⟩ yX4_between, .instanceMethod yX4_between, .initialized RX4, .code yX4_between cX4_between 7 (some .int), .fieldLink RX4 9 "DiveChairs$OrderDealing" "counted" "[I"] ++ wsX30 ++ wsX40)
def wsX0_waysFrom_r1 : List Cond := [Cond.fieldLink RX0 15 "DiveChairs$Dealing" "size" "I", Cond.fieldLink RX0 27 "DiveChairs$Dealing" "wanted" "I", Cond.fieldLink RX0 9 "DiveChairs$Dealing" "dealt" "[I", Cond.static yX11_within, Cond.initialized RX11, Cond.code yX11_within cX11_within 2 (some .boolean), Cond.static yX11_holds, Cond.code yX11_holds cX11_holds 2 (some .boolean), Cond.methodLink RX0 41 ⟨"DiveChairs$Dealing", "gainAt", "(I)I"⟩, Cond.sameMethod "DiveChairs$Dealing" "DiveChairs$Dealing" "gainAt" "(I)I", Cond.selects RX3 ⟨"DiveChairs$Dealing", "gainAt", "(I)I"⟩ yX0_gainAt, Cond.instanceMethod yX0_gainAt, Cond.initialized RX0, Cond.code yX0_gainAt cX0_gainAt 4 (some .int), Cond.methodLink RX0 19 ⟨"DiveChairs$Dealing", "between", "(IIII)I"⟩, Cond.sameMethod "DiveChairs$Dealing" "DiveChairs$Dealing" "between" "(IIII)I", Cond.selects RX3 ⟨"DiveChairs$Dealing", "between", "(IIII)I"⟩ yX3_between, Cond.instanceMethod yX3_between, Cond.initialized RX3, Cond.code yX3_between cX3_between 9 (some .int), Cond.fieldLink RX3 9 "DiveChairs$LandDealing" "lands" "[I", Cond.fieldLink RX3 15 "DiveChairs$LandDealing" "halls" "[I", Cond.methodLink RX3 84 yX3_leansTo, Cond.instanceMethod yX3_leansTo]
def wsX0_waysFrom_r2 : List Cond := [Cond.selects RX3 yX3_leansTo yX3_leansTo, Cond.code yX3_leansTo cX3_leansTo 3 (some .boolean), Cond.fieldLink RX3 18 "DiveChairs$LandDealing" "leans" "[I", Cond.selects RX4 ⟨"DiveChairs$Dealing", "between", "(IIII)I"⟩ yX4_between, Cond.instanceMethod yX4_between, Cond.initialized RX4, Cond.code yX4_between cX4_between 7 (some .int), Cond.fieldLink RX4 9 "DiveChairs$OrderDealing" "counted" "[I", Cond.selects RX4 ⟨"DiveChairs$Dealing", "gainAt", "(I)I"⟩ yX0_gainAt, Cond.methodLink RX0 30 ⟨"DiveChairs$Dealing", "waysFrom", "(III)I"⟩, Cond.sameMethod "DiveChairs$Dealing" "DiveChairs$Dealing" "waysFrom" "(III)I", Cond.selects RX3 ⟨"DiveChairs$Dealing", "waysFrom", "(III)I"⟩ yX0_waysFrom, Cond.instanceMethod yX0_waysFrom, Cond.selects RX4 ⟨"DiveChairs$Dealing", "waysFrom", "(III)I"⟩ yX0_waysFrom]
def wsX0_waysFrom : List Cond := .code yX0_waysFrom cX0_waysFrom 6 (some .int) :: ((wsX0_waysFrom_r1 ++ wsX0_waysFrom_r2) ++ wsX30 ++ wsX40)
def wsX0_waysAsGood_r1 : List Cond := [Cond.fieldLink RX0 27 "DiveChairs$Dealing" "wanted" "I", Cond.methodLink RX0 23 ⟨"DiveChairs$Dealing", "asItStands", "()I"⟩, Cond.sameMethod "DiveChairs$Dealing" "DiveChairs$Dealing" "asItStands" "()I", Cond.selects RX3 ⟨"DiveChairs$Dealing", "asItStands", "()I"⟩ yX0_asItStands, Cond.instanceMethod yX0_asItStands, Cond.initialized RX0, Cond.code yX0_asItStands cX0_asItStands 4 (some .int), Cond.fieldLink RX0 15 "DiveChairs$Dealing" "size" "I", Cond.methodLink RX0 19 ⟨"DiveChairs$Dealing", "between", "(IIII)I"⟩, Cond.sameMethod "DiveChairs$Dealing" "DiveChairs$Dealing" "between" "(IIII)I", Cond.selects RX3 ⟨"DiveChairs$Dealing", "between", "(IIII)I"⟩ yX3_between, Cond.instanceMethod yX3_between, Cond.initialized RX3, Cond.code yX3_between cX3_between 9 (some .int), Cond.fieldLink RX3 9 "DiveChairs$LandDealing" "lands" "[I", Cond.fieldLink RX3 15 "DiveChairs$LandDealing" "halls" "[I", Cond.static yX11_within, Cond.initialized RX11, Cond.code yX11_within cX11_within 2 (some .boolean), Cond.methodLink RX3 84 yX3_leansTo, Cond.instanceMethod yX3_leansTo, Cond.selects RX3 yX3_leansTo yX3_leansTo, Cond.code yX3_leansTo cX3_leansTo 3 (some .boolean), Cond.fieldLink RX3 18 "DiveChairs$LandDealing" "leans" "[I"]
def wsX0_waysAsGood_r2 : List Cond := [Cond.selects RX4 ⟨"DiveChairs$Dealing", "between", "(IIII)I"⟩ yX4_between, Cond.instanceMethod yX4_between, Cond.initialized RX4, Cond.code yX4_between cX4_between 7 (some .int), Cond.fieldLink RX4 9 "DiveChairs$OrderDealing" "counted" "[I", Cond.selects RX4 ⟨"DiveChairs$Dealing", "asItStands", "()I"⟩ yX0_asItStands, Cond.methodLink RX0 30 ⟨"DiveChairs$Dealing", "waysFrom", "(III)I"⟩, Cond.sameMethod "DiveChairs$Dealing" "DiveChairs$Dealing" "waysFrom" "(III)I", Cond.selects RX3 ⟨"DiveChairs$Dealing", "waysFrom", "(III)I"⟩ yX0_waysFrom, Cond.instanceMethod yX0_waysFrom, Cond.code yX0_waysFrom cX0_waysFrom 6 (some .int), Cond.fieldLink RX0 9 "DiveChairs$Dealing" "dealt" "[I", Cond.static yX11_holds, Cond.code yX11_holds cX11_holds 2 (some .boolean), Cond.methodLink RX0 41 ⟨"DiveChairs$Dealing", "gainAt", "(I)I"⟩, Cond.sameMethod "DiveChairs$Dealing" "DiveChairs$Dealing" "gainAt" "(I)I", Cond.selects RX3 ⟨"DiveChairs$Dealing", "gainAt", "(I)I"⟩ yX0_gainAt, Cond.instanceMethod yX0_gainAt, Cond.code yX0_gainAt cX0_gainAt 4 (some .int), Cond.selects RX4 ⟨"DiveChairs$Dealing", "gainAt", "(I)I"⟩ yX0_gainAt, Cond.selects RX4 ⟨"DiveChairs$Dealing", "waysFrom", "(III)I"⟩ yX0_waysFrom]
def wsX0_waysAsGood : List Cond := .code yX0_waysAsGood cX0_waysAsGood 1 (some .int) :: ((wsX0_waysAsGood_r1 ++ wsX0_waysAsGood_r2) ++ wsX30 ++ wsX40)
def wsX1_init : List Cond := .code yX1_init cX1_init 1 none :: ([.methodLink RX1 3 objectInit, .instanceMethod objectInit, .code objectInit ⟨#[0xb1]⟩ 1 none, .arrayClass .int, .fieldLink RX1 9 "DiveChairs$Dive" "marks" "[I", .fieldLink RX1 15 "DiveChairs$Dive" "markers" "[I"] ++ wsX10)
def wsX1_tell : List Cond := .code yX1_tell cX1_tell 4 none :: ([.fieldLink RX1 9 "DiveChairs$Dive" "marks" "[I", .fieldLink RX1 15 "DiveChairs$Dive" "markers" "[I", .static yX11_within, .initialized RX11, .code yX11_within cX11_within 2 (some .boolean)] ++ wsX10)
def wsX1_begin : List Cond := .code yX1_begin cX1_begin 6 none :: ([.fieldLink RX1 18 "DiveChairs$Dive" "hall" "I", .fieldLink RX1 22 "DiveChairs$Dive" "diver" "I", .fieldLink RX1 25 "DiveChairs$Dive" "flaws" "I", .fieldLink RX1 28 "DiveChairs$Dive" "splash" "I", .fieldLink RX1 31 "DiveChairs$Dive" "hard" "I", .methodLink RX1 34 yX1_tell, .instanceMethod yX1_tell, .selects RX1 yX1_tell yX1_tell, .initialized RX1, .code yX1_tell cX1_tell 4 none, .fieldLink RX1 9 "DiveChairs$Dive" "marks" "[I", .fieldLink RX1 15 "DiveChairs$Dive" "markers" "[I", .static yX11_within, .initialized RX11, .code yX11_within cX11_within 2 (some .boolean)] ++ wsX10)
def wsX1_copyFrom : List Cond := .code yX1_copyFrom cX1_copyFrom 2 none :: ([.fieldLink RX1 18 "DiveChairs$Dive" "hall" "I", .fieldLink RX1 22 "DiveChairs$Dive" "diver" "I", .fieldLink RX1 25 "DiveChairs$Dive" "flaws" "I", .fieldLink RX1 28 "DiveChairs$Dive" "splash" "I", .fieldLink RX1 31 "DiveChairs$Dive" "hard" "I", .fieldLink RX1 9 "DiveChairs$Dive" "marks" "[I", .methodLink RX1 38 arraycopyName, .native arraycopyName, .static arraycopyName, .initialized "java/lang/System", .fieldLink RX1 15 "DiveChairs$Dive" "markers" "[I"] ++ wsX10)
def wsX1_hasMark : List Cond := .code yX1_hasMark cX1_hasMark 2 (some .boolean) :: ([.fieldLink RX1 9 "DiveChairs$Dive" "marks" "[I", .static yX11_within, .initialized RX11, .code yX11_within cX11_within 2 (some .boolean)] ++ wsX10)
def wsX1_marksThere : List Cond := .code yX1_marksThere cX1_marksThere 3 (some .int) :: ([.fieldLink RX1 9 "DiveChairs$Dive" "marks" "[I"] ++ wsX10)
def wsX1_markBy : List Cond := .code yX1_markBy cX1_markBy 3 (some .int) :: ([.fieldLink RX1 15 "DiveChairs$Dive" "markers" "[I", .fieldLink RX1 9 "DiveChairs$Dive" "marks" "[I"] ++ wsX10)
def wsX2_init : List Cond := .code yX2_init cX2_init 4 none :: ([.methodLink RX2 3 objectInit, .instanceMethod objectInit, .code objectInit ⟨#[0xb1]⟩ 1 none, .fieldLink RX2 9 "DiveChairs$Judge" "number" "I", .fieldLink RX2 15 "DiveChairs$Judge" "kind" "I", .fieldLink RX2 18 "DiveChairs$Judge" "land" "I", .fieldLink RX2 21 "DiveChairs$Judge" "leaning" "I", .fieldLink RX2 24 "DiveChairs$Judge" "partner" "I"] ++ wsX20)
def wsX2_leanTo : List Cond := .code yX2_leanTo cX2_leanTo 4 (some .int) :: ([.fieldLink RX2 15 "DiveChairs$Judge" "kind" "I", .fieldLink RX2 18 "DiveChairs$Judge" "land" "I", .fieldLink RX2 24 "DiveChairs$Judge" "partner" "I", .fieldLink RX2 21 "DiveChairs$Judge" "leaning" "I"] ++ wsX20)
def wsX2_held : List Cond := .code yX2_held cX2_held 1 (some .int) :: ([])
def wsX2_markFor : List Cond := .code yX2_markFor cX2_markFor 4 (some .int) :: ([.fieldLink RX2 15 "DiveChairs$Judge" "kind" "I", .methodLink RX2 27 yX2_held, .static yX2_held, .initialized RX2, .code yX2_held cX2_held 1 (some .int), .methodLink RX2 31 yX2_leanTo, .instanceMethod yX2_leanTo, .selects RX2 yX2_leanTo yX2_leanTo, .code yX2_leanTo cX2_leanTo 4 (some .int), .fieldLink RX2 18 "DiveChairs$Judge" "land" "I", .fieldLink RX2 24 "DiveChairs$Judge" "partner" "I", .fieldLink RX2 21 "DiveChairs$Judge" "leaning" "I"] ++ wsX20)
def wsX2_heft : List Cond := .code yX2_heft cX2_heft 2 (some .int) :: ([.fieldLink RX2 18 "DiveChairs$Judge" "land" "I", .fieldLink RX2 15 "DiveChairs$Judge" "kind" "I", .fieldLink RX2 21 "DiveChairs$Judge" "leaning" "I", .fieldLink RX2 24 "DiveChairs$Judge" "partner" "I"] ++ wsX20)
def wsX2_throwFailure : List Cond := .code yX2_throwFailure cX2_throwFailure 2 none :: ([.classLink RX2 34 "java/lang/IllegalStateException", .initialized "java/lang/IllegalStateException", .fieldLink RX2 15 "DiveChairs$Judge" "kind" "I", .fieldLink RX2 21 "DiveChairs$Judge" "leaning" "I"] ++ wsX20 ++ (vx_atS RX2 38 "java/lang/IllegalStateException" ["java/lang/RuntimeException", "java/lang/Exception"]).filter goodWord)
def wsX2_failureNumber : List Cond := .code yX2_failureNumber cX2_failureNumber 1 (some .int) :: ([.fieldLink RX2 15 "DiveChairs$Judge" "kind" "I", .fieldLink RX2 9 "DiveChairs$Judge" "number" "I", .fieldLink RX2 24 "DiveChairs$Judge" "partner" "I"] ++ wsX20)
def wsX3_init : List Cond := .code yX3_init cX3_init 1 none :: ([.arrayClass .int, .fieldLink RX3 9 "DiveChairs$LandDealing" "lands" "[I", .fieldLink RX3 15 "DiveChairs$LandDealing" "halls" "[I", .fieldLink RX3 18 "DiveChairs$LandDealing" "leans" "[I", .instanceMethod yX0_init, .initialized RX0, .code yX0_init cX0_init 1 none, .methodLink RX0 3 objectInit, .instanceMethod objectInit, .code objectInit ⟨#[0xb1]⟩ 1 none, .fieldLink RX0 9 "DiveChairs$Dealing" "dealt" "[I"] ++ wsX30 ++ wsX40)
def wsX9_judgeAt : List Cond := .code yX9_judgeAt cX9_judgeAt 2 (some (.object "DiveChairs$Judge")) :: ([.fieldLink RX9 69 "DiveChairs$State" "judges" "I", .fieldLink RX9 33 "DiveChairs$State" "judgesMade" "[LDiveChairs$Judge;", .static yX11_within, .initialized RX11, .code yX11_within cX11_within 2 (some .boolean)] ++ wsX90)
def wsX9_hallsOf : List Cond := .code yX9_hallsOf cX9_hallsOf 4 (some .int) :: ([.fieldLink RX9 21 "DiveChairs$State" "seats" "[I"] ++ wsX90)
def wsX9_diveAt : List Cond := .code yX9_diveAt cX9_diveAt 2 (some (.object "DiveChairs$Dive")) :: ([.fieldLink RX9 72 "DiveChairs$State" "dives" "I", .fieldLink RX9 39 "DiveChairs$State" "divesMade" "[LDiveChairs$Dive;", .static yX11_within, .initialized RX11, .code yX11_within cX11_within 2 (some .boolean)] ++ wsX90)
def wsX5_add : List Cond := .code yX5_add cX5_add 3 none :: ([.fieldLink RX5 15 "DiveChairs$Panel" "size" "I", .fieldLink RX5 9 "DiveChairs$Panel" "sorted" "[I"] ++ wsX50)
def wsX5_gather : List Cond := .code yX5_gather cX5_gather 3 none :: ([.fieldLink RX5 15 "DiveChairs$Panel" "size" "I", .fieldLink RX5 25 "DiveChairs$Dive" "marks" "[I", .methodLink RX5 19 yX1_hasMark, .instanceMethod yX1_hasMark, .selects RX1 yX1_hasMark yX1_hasMark, .initialized RX1, .code yX1_hasMark cX1_hasMark 2 (some .boolean), .fieldLink RX1 9 "DiveChairs$Dive" "marks" "[I", .static yX11_within, .initialized RX11, .code yX11_within cX11_within 2 (some .boolean), .methodLink RX5 28 yX5_add, .instanceMethod yX5_add, .selects RX5 yX5_add yX5_add, .initialized RX5, .code yX5_add cX5_add 3 none, .fieldLink RX5 9 "DiveChairs$Panel" "sorted" "[I"] ++ wsX50 ++ wsX10)
def wsX9_landOf : List Cond := .code yX9_landOf cX9_landOf 2 (some .int) :: ([.fieldLink RX9 89 "DiveChairs$Dive" "diver" "I", .fieldLink RX9 65 "DiveChairs$State" "divers" "I", .fieldLink RX9 9 "DiveChairs$State" "lands" "[I", .static yX11_within, .initialized RX11, .code yX11_within cX11_within 2 (some .boolean)] ++ wsX10 ++ wsX90)
def wsX5_middle : List Cond := .code yX5_middle cX5_middle 1 (some .int) :: ([.fieldLink RX5 15 "DiveChairs$Panel" "size" "I", .fieldLink RX5 9 "DiveChairs$Panel" "sorted" "[I"] ++ wsX50)
def wsX3_addLeans : List Cond := .code yX3_addLeans cX3_addLeans 6 none :: ([.fieldLink RX3 72 "DiveChairs$Dive" "markers" "[I", .fieldLink RX3 18 "DiveChairs$LandDealing" "leans" "[I", .fieldLink RX3 81 "DiveChairs$Dive" "marks" "[I", .static yX11_within, .initialized RX11, .code yX11_within cX11_within 2 (some .boolean)] ++ wsX10 ++ wsX30)
def wsX3_takeFrom_r1 : List Cond := [Cond.fieldLink RX3 21 "DiveChairs$State" "judges" "I", Cond.fieldLink RX3 27 "DiveChairs$LandDealing" "size" "I", Cond.sameField "DiveChairs$LandDealing" "DiveChairs$Dealing" "size" "I", Cond.fieldLink RX3 9 "DiveChairs$LandDealing" "lands" "[I", Cond.fieldLink RX3 34 "DiveChairs$Judge" "land" "I", Cond.fieldLink RX3 15 "DiveChairs$LandDealing" "halls" "[I", Cond.fieldLink RX3 18 "DiveChairs$LandDealing" "leans" "[I", Cond.fieldLink RX3 43 "DiveChairs$State" "dives" "I", Cond.fieldLink RX3 50 "DiveChairs$State" "panel" "LDiveChairs$Panel;", Cond.methodLink RX3 30 yX9_judgeAt, Cond.instanceMethod yX9_judgeAt, Cond.selects RX9 yX9_judgeAt yX9_judgeAt, Cond.initialized RX9, Cond.code yX9_judgeAt cX9_judgeAt 2 (some (.object "DiveChairs$Judge")), Cond.fieldLink RX9 69 "DiveChairs$State" "judges" "I", Cond.fieldLink RX9 33 "DiveChairs$State" "judgesMade" "[LDiveChairs$Judge;", Cond.static yX11_within, Cond.initialized RX11, Cond.code yX11_within cX11_within 2 (some .boolean), Cond.methodLink RX3 39 yX9_hallsOf, Cond.instanceMethod yX9_hallsOf, Cond.selects RX9 yX9_hallsOf yX9_hallsOf, Cond.code yX9_hallsOf cX9_hallsOf 4 (some .int), Cond.fieldLink RX9 21 "DiveChairs$State" "seats" "[I"]
def wsX3_takeFrom_r2 : List Cond := [Cond.methodLink RX3 46 yX9_diveAt, Cond.instanceMethod yX9_diveAt, Cond.selects RX9 yX9_diveAt yX9_diveAt, Cond.code yX9_diveAt cX9_diveAt 2 (some (.object "DiveChairs$Dive")), Cond.fieldLink RX9 72 "DiveChairs$State" "dives" "I", Cond.fieldLink RX9 39 "DiveChairs$State" "divesMade" "[LDiveChairs$Dive;", Cond.methodLink RX3 54 yX5_gather, Cond.instanceMethod yX5_gather, Cond.selects RX5 yX5_gather yX5_gather, Cond.initialized RX5, Cond.code yX5_gather cX5_gather 3 none, Cond.fieldLink RX5 15 "DiveChairs$Panel" "size" "I", Cond.fieldLink RX5 25 "DiveChairs$Dive" "marks" "[I", Cond.methodLink RX5 19 yX1_hasMark, Cond.instanceMethod yX1_hasMark, Cond.selects RX1 yX1_hasMark yX1_hasMark, Cond.initialized RX1, Cond.code yX1_hasMark cX1_hasMark 2 (some .boolean), Cond.fieldLink RX1 9 "DiveChairs$Dive" "marks" "[I", Cond.methodLink RX5 28 yX5_add, Cond.instanceMethod yX5_add, Cond.selects RX5 yX5_add yX5_add, Cond.code yX5_add cX5_add 3 none, Cond.fieldLink RX5 9 "DiveChairs$Panel" "sorted" "[I"]
def wsX3_takeFrom_r3 : List Cond := [Cond.methodLink RX3 60 yX9_landOf, Cond.instanceMethod yX9_landOf, Cond.selects RX9 yX9_landOf yX9_landOf, Cond.code yX9_landOf cX9_landOf 2 (some .int), Cond.fieldLink RX9 89 "DiveChairs$Dive" "diver" "I", Cond.fieldLink RX9 65 "DiveChairs$State" "divers" "I", Cond.fieldLink RX9 9 "DiveChairs$State" "lands" "[I", Cond.methodLink RX3 64 yX5_middle, Cond.instanceMethod yX5_middle, Cond.selects RX5 yX5_middle yX5_middle, Cond.code yX5_middle cX5_middle 1 (some .int), Cond.methodLink RX3 68 yX3_addLeans, Cond.instanceMethod yX3_addLeans, Cond.selects RX3 yX3_addLeans yX3_addLeans, Cond.initialized RX3, Cond.code yX3_addLeans cX3_addLeans 6 none, Cond.fieldLink RX3 72 "DiveChairs$Dive" "markers" "[I", Cond.fieldLink RX3 81 "DiveChairs$Dive" "marks" "[I"]
def wsX3_takeFrom : List Cond := .code yX3_takeFrom cX3_takeFrom 4 none :: ((wsX3_takeFrom_r1 ++ (wsX3_takeFrom_r2 ++ wsX3_takeFrom_r3)) ++ wsX90 ++ wsX30 ++ wsX40 ++ wsX20 ++ wsX50 ++ wsX10)
def wsX4_init : List Cond := .code yX4_init cX4_init 1 none :: ([.arrayClass .int, .fieldLink RX4 9 "DiveChairs$OrderDealing" "counted" "[I", .instanceMethod yX0_init, .initialized RX0, .code yX0_init cX0_init 1 none, .methodLink RX0 3 objectInit, .instanceMethod objectInit, .code objectInit ⟨#[0xb1]⟩ 1 none, .fieldLink RX0 9 "DiveChairs$Dealing" "dealt" "[I"] ++ wsX40 ++ wsX30)
def wsX6_isWorking : List Cond := .code yX6_isWorking cX6_isWorking 1 (some .boolean) :: ([])
def wsX5_sumBetween : List Cond := .code yX5_sumBetween cX5_sumBetween 5 (some .int) :: ([.fieldLink RX5 15 "DiveChairs$Panel" "size" "I", .fieldLink RX5 9 "DiveChairs$Panel" "sorted" "[I"] ++ wsX50)
def wsX5_highest : List Cond := .code yX5_highest cX5_highest 1 (some .int) :: ([.fieldLink RX5 15 "DiveChairs$Panel" "size" "I", .fieldLink RX5 9 "DiveChairs$Panel" "sorted" "[I"] ++ wsX50)
def wsX5_lowest : List Cond := .code yX5_lowest cX5_lowest 1 (some .int) :: ([.fieldLink RX5 15 "DiveChairs$Panel" "size" "I", .fieldLink RX5 9 "DiveChairs$Panel" "sorted" "[I"] ++ wsX50)
def wsX6_fieldOf : List Cond := .code yX6_fieldOf cX6_fieldOf 4 (some .int) :: ([.fieldLink RX6 19 "DiveChairs$Rule" "dropLowest" "I", .fieldLink RX6 15 "DiveChairs$Rule" "dropHighest" "I", .fieldLink RX6 41 "DiveChairs$Panel" "size" "I", .fieldLink RX6 70 "DiveChairs$Dive" "hard" "I", .fieldLink RX6 85 "DiveChairs$Dive" "splash" "I", .methodLink RX6 67 yX5_sumBetween, .instanceMethod yX5_sumBetween, .selects RX5 yX5_sumBetween yX5_sumBetween, .initialized RX5, .code yX5_sumBetween cX5_sumBetween 5 (some .int), .fieldLink RX5 15 "DiveChairs$Panel" "size" "I", .fieldLink RX5 9 "DiveChairs$Panel" "sorted" "[I", .methodLink RX6 75 yX5_middle, .instanceMethod yX5_middle, .selects RX5 yX5_middle yX5_middle, .code yX5_middle cX5_middle 1 (some .int), .methodLink RX6 79 yX5_highest, .instanceMethod yX5_highest, .selects RX5 yX5_highest yX5_highest, .code yX5_highest cX5_highest 1 (some .int), .methodLink RX6 82 yX5_lowest, .instanceMethod yX5_lowest, .selects RX5 yX5_lowest yX5_lowest, .code yX5_lowest cX5_lowest 1 (some .int)] ++ wsX60 ++ wsX50 ++ wsX10)
def wsX6_worked : List Cond := .code yX6_worked cX6_worked 3 (some .int) :: ([.methodLink RX6 58 Lib.Math.min.name, .static Lib.Math.min.name, .initialized "java/lang/Math", .code Lib.Math.min.name Lib.Math.min.code 2 (some .int), .methodLink RX6 64 Lib.Math.max.name, .static Lib.Math.max.name, .code Lib.Math.max.name Lib.Math.max.code 2 (some .int)])
def wsX6_countFor_r1 : List Cond := [Cond.fieldLink RX6 41 "DiveChairs$Panel" "size" "I", Cond.fieldLink RX6 15 "DiveChairs$Rule" "dropHighest" "I", Cond.fieldLink RX6 19 "DiveChairs$Rule" "dropLowest" "I", Cond.fieldLink RX6 38 "DiveChairs$Rule" "length" "I", Cond.fieldLink RX6 22 "DiveChairs$Rule" "code" "[I", Cond.fieldLink RX6 25 "DiveChairs$Rule" "stack" "[I", Cond.methodLink RX6 46 yX6_isWorking, Cond.static yX6_isWorking, Cond.initialized RX6, Cond.code yX6_isWorking cX6_isWorking 1 (some .boolean), Cond.methodLink RX6 50 yX6_fieldOf, Cond.instanceMethod yX6_fieldOf, Cond.selects RX6 yX6_fieldOf yX6_fieldOf, Cond.code yX6_fieldOf cX6_fieldOf 4 (some .int), Cond.fieldLink RX6 70 "DiveChairs$Dive" "hard" "I", Cond.fieldLink RX6 85 "DiveChairs$Dive" "splash" "I", Cond.methodLink RX6 67 yX5_sumBetween, Cond.instanceMethod yX5_sumBetween, Cond.selects RX5 yX5_sumBetween yX5_sumBetween, Cond.initialized RX5, Cond.code yX5_sumBetween cX5_sumBetween 5 (some .int), Cond.fieldLink RX5 15 "DiveChairs$Panel" "size" "I", Cond.fieldLink RX5 9 "DiveChairs$Panel" "sorted" "[I", Cond.methodLink RX6 75 yX5_middle]
def wsX6_countFor_r2 : List Cond := [Cond.instanceMethod yX5_middle, Cond.selects RX5 yX5_middle yX5_middle, Cond.code yX5_middle cX5_middle 1 (some .int), Cond.methodLink RX6 79 yX5_highest, Cond.instanceMethod yX5_highest, Cond.selects RX5 yX5_highest yX5_highest, Cond.code yX5_highest cX5_highest 1 (some .int), Cond.methodLink RX6 82 yX5_lowest, Cond.instanceMethod yX5_lowest, Cond.selects RX5 yX5_lowest yX5_lowest, Cond.code yX5_lowest cX5_lowest 1 (some .int), Cond.methodLink RX6 54 yX6_worked, Cond.static yX6_worked, Cond.code yX6_worked cX6_worked 3 (some .int), Cond.methodLink RX6 58 Lib.Math.min.name, Cond.static Lib.Math.min.name, Cond.initialized "java/lang/Math", Cond.code Lib.Math.min.name Lib.Math.min.code 2 (some .int), Cond.methodLink RX6 64 Lib.Math.max.name, Cond.static Lib.Math.max.name, Cond.code Lib.Math.max.name Lib.Math.max.code 2 (some .int)]
def wsX6_countFor : List Cond := .code yX6_countFor cX6_countFor 6 (some .int) :: ((wsX6_countFor_r1 ++ wsX6_countFor_r2) ++ wsX50 ++ wsX60 ++ wsX10)
def wsX9_countOf_r1 : List Cond := [Cond.fieldLink RX9 50 "DiveChairs$State" "panel" "LDiveChairs$Panel;", Cond.fieldLink RX9 27 "DiveChairs$State" "rule" "LDiveChairs$Rule;", Cond.methodLink RX9 100 yX5_gather, Cond.instanceMethod yX5_gather, Cond.selects RX5 yX5_gather yX5_gather, Cond.initialized RX5, Cond.code yX5_gather cX5_gather 3 none, Cond.fieldLink RX5 15 "DiveChairs$Panel" "size" "I", Cond.fieldLink RX5 25 "DiveChairs$Dive" "marks" "[I", Cond.methodLink RX5 19 yX1_hasMark, Cond.instanceMethod yX1_hasMark, Cond.selects RX1 yX1_hasMark yX1_hasMark, Cond.initialized RX1, Cond.code yX1_hasMark cX1_hasMark 2 (some .boolean), Cond.fieldLink RX1 9 "DiveChairs$Dive" "marks" "[I", Cond.static yX11_within, Cond.initialized RX11, Cond.code yX11_within cX11_within 2 (some .boolean), Cond.methodLink RX5 28 yX5_add, Cond.instanceMethod yX5_add, Cond.selects RX5 yX5_add yX5_add, Cond.code yX5_add cX5_add 3 none, Cond.fieldLink RX5 9 "DiveChairs$Panel" "sorted" "[I", Cond.methodLink RX9 118 yX6_countFor]
def wsX9_countOf_r2 : List Cond := [Cond.instanceMethod yX6_countFor, Cond.selects RX6 yX6_countFor yX6_countFor, Cond.initialized RX6, Cond.code yX6_countFor cX6_countFor 6 (some .int), Cond.fieldLink RX6 41 "DiveChairs$Panel" "size" "I", Cond.fieldLink RX6 15 "DiveChairs$Rule" "dropHighest" "I", Cond.fieldLink RX6 19 "DiveChairs$Rule" "dropLowest" "I", Cond.fieldLink RX6 38 "DiveChairs$Rule" "length" "I", Cond.fieldLink RX6 22 "DiveChairs$Rule" "code" "[I", Cond.fieldLink RX6 25 "DiveChairs$Rule" "stack" "[I", Cond.methodLink RX6 46 yX6_isWorking, Cond.static yX6_isWorking, Cond.code yX6_isWorking cX6_isWorking 1 (some .boolean), Cond.methodLink RX6 50 yX6_fieldOf, Cond.instanceMethod yX6_fieldOf, Cond.selects RX6 yX6_fieldOf yX6_fieldOf, Cond.code yX6_fieldOf cX6_fieldOf 4 (some .int), Cond.fieldLink RX6 70 "DiveChairs$Dive" "hard" "I", Cond.fieldLink RX6 85 "DiveChairs$Dive" "splash" "I", Cond.methodLink RX6 67 yX5_sumBetween, Cond.instanceMethod yX5_sumBetween, Cond.selects RX5 yX5_sumBetween yX5_sumBetween, Cond.code yX5_sumBetween cX5_sumBetween 5 (some .int), Cond.methodLink RX6 75 yX5_middle]
def wsX9_countOf_r3 : List Cond := [Cond.instanceMethod yX5_middle, Cond.selects RX5 yX5_middle yX5_middle, Cond.code yX5_middle cX5_middle 1 (some .int), Cond.methodLink RX6 79 yX5_highest, Cond.instanceMethod yX5_highest, Cond.selects RX5 yX5_highest yX5_highest, Cond.code yX5_highest cX5_highest 1 (some .int), Cond.methodLink RX6 82 yX5_lowest, Cond.instanceMethod yX5_lowest, Cond.selects RX5 yX5_lowest yX5_lowest, Cond.code yX5_lowest cX5_lowest 1 (some .int), Cond.methodLink RX6 54 yX6_worked, Cond.static yX6_worked, Cond.code yX6_worked cX6_worked 3 (some .int), Cond.methodLink RX6 58 Lib.Math.min.name, Cond.static Lib.Math.min.name, Cond.initialized "java/lang/Math", Cond.code Lib.Math.min.name Lib.Math.min.code 2 (some .int), Cond.methodLink RX6 64 Lib.Math.max.name, Cond.static Lib.Math.max.name, Cond.code Lib.Math.max.name Lib.Math.max.code 2 (some .int)]
def wsX9_countOf : List Cond := .code yX9_countOf cX9_countOf 2 (some .int) :: ((wsX9_countOf_r1 ++ (wsX9_countOf_r2 ++ wsX9_countOf_r3)) ++ wsX90 ++ wsX50 ++ wsX10 ++ wsX60)
def wsX4_takeFrom_r1 : List Cond := [Cond.fieldLink RX4 15 "DiveChairs$OrderDealing" "size" "I", Cond.sameField "DiveChairs$OrderDealing" "DiveChairs$Dealing" "size" "I", Cond.fieldLink RX4 19 "DiveChairs$State" "dives" "I", Cond.fieldLink RX4 28 "DiveChairs$Dive" "hall" "I", Cond.fieldLink RX4 9 "DiveChairs$OrderDealing" "counted" "[I", Cond.methodLink RX4 24 yX9_diveAt, Cond.instanceMethod yX9_diveAt, Cond.selects RX9 yX9_diveAt yX9_diveAt, Cond.initialized RX9, Cond.code yX9_diveAt cX9_diveAt 2 (some (.object "DiveChairs$Dive")), Cond.fieldLink RX9 72 "DiveChairs$State" "dives" "I", Cond.fieldLink RX9 39 "DiveChairs$State" "divesMade" "[LDiveChairs$Dive;", Cond.static yX11_within, Cond.initialized RX11, Cond.code yX11_within cX11_within 2 (some .boolean), Cond.methodLink RX4 37 yX9_countOf, Cond.instanceMethod yX9_countOf, Cond.selects RX9 yX9_countOf yX9_countOf, Cond.code yX9_countOf cX9_countOf 2 (some .int), Cond.fieldLink RX9 50 "DiveChairs$State" "panel" "LDiveChairs$Panel;", Cond.fieldLink RX9 27 "DiveChairs$State" "rule" "LDiveChairs$Rule;", Cond.methodLink RX9 100 yX5_gather, Cond.instanceMethod yX5_gather, Cond.selects RX5 yX5_gather yX5_gather]
def wsX4_takeFrom_r2 : List Cond := [Cond.initialized RX5, Cond.code yX5_gather cX5_gather 3 none, Cond.fieldLink RX5 15 "DiveChairs$Panel" "size" "I", Cond.fieldLink RX5 25 "DiveChairs$Dive" "marks" "[I", Cond.methodLink RX5 19 yX1_hasMark, Cond.instanceMethod yX1_hasMark, Cond.selects RX1 yX1_hasMark yX1_hasMark, Cond.initialized RX1, Cond.code yX1_hasMark cX1_hasMark 2 (some .boolean), Cond.fieldLink RX1 9 "DiveChairs$Dive" "marks" "[I", Cond.methodLink RX5 28 yX5_add, Cond.instanceMethod yX5_add, Cond.selects RX5 yX5_add yX5_add, Cond.code yX5_add cX5_add 3 none, Cond.fieldLink RX5 9 "DiveChairs$Panel" "sorted" "[I", Cond.methodLink RX9 118 yX6_countFor, Cond.instanceMethod yX6_countFor, Cond.selects RX6 yX6_countFor yX6_countFor, Cond.initialized RX6, Cond.code yX6_countFor cX6_countFor 6 (some .int), Cond.fieldLink RX6 41 "DiveChairs$Panel" "size" "I", Cond.fieldLink RX6 15 "DiveChairs$Rule" "dropHighest" "I", Cond.fieldLink RX6 19 "DiveChairs$Rule" "dropLowest" "I", Cond.fieldLink RX6 38 "DiveChairs$Rule" "length" "I"]
def wsX4_takeFrom_r3 : List Cond := [Cond.fieldLink RX6 22 "DiveChairs$Rule" "code" "[I", Cond.fieldLink RX6 25 "DiveChairs$Rule" "stack" "[I", Cond.methodLink RX6 46 yX6_isWorking, Cond.static yX6_isWorking, Cond.code yX6_isWorking cX6_isWorking 1 (some .boolean), Cond.methodLink RX6 50 yX6_fieldOf, Cond.instanceMethod yX6_fieldOf, Cond.selects RX6 yX6_fieldOf yX6_fieldOf, Cond.code yX6_fieldOf cX6_fieldOf 4 (some .int), Cond.fieldLink RX6 70 "DiveChairs$Dive" "hard" "I", Cond.fieldLink RX6 85 "DiveChairs$Dive" "splash" "I", Cond.methodLink RX6 67 yX5_sumBetween, Cond.instanceMethod yX5_sumBetween, Cond.selects RX5 yX5_sumBetween yX5_sumBetween, Cond.code yX5_sumBetween cX5_sumBetween 5 (some .int), Cond.methodLink RX6 75 yX5_middle, Cond.instanceMethod yX5_middle, Cond.selects RX5 yX5_middle yX5_middle, Cond.code yX5_middle cX5_middle 1 (some .int), Cond.methodLink RX6 79 yX5_highest, Cond.instanceMethod yX5_highest, Cond.selects RX5 yX5_highest yX5_highest, Cond.code yX5_highest cX5_highest 1 (some .int), Cond.methodLink RX6 82 yX5_lowest]
def wsX4_takeFrom_r4 : List Cond := [Cond.instanceMethod yX5_lowest, Cond.selects RX5 yX5_lowest yX5_lowest, Cond.code yX5_lowest cX5_lowest 1 (some .int), Cond.methodLink RX6 54 yX6_worked, Cond.static yX6_worked, Cond.code yX6_worked cX6_worked 3 (some .int), Cond.methodLink RX6 58 Lib.Math.min.name, Cond.static Lib.Math.min.name, Cond.initialized "java/lang/Math", Cond.code Lib.Math.min.name Lib.Math.min.code 2 (some .int), Cond.methodLink RX6 64 Lib.Math.max.name, Cond.static Lib.Math.max.name, Cond.code Lib.Math.max.name Lib.Math.max.code 2 (some .int)]
def wsX4_takeFrom : List Cond := .code yX4_takeFrom cX4_takeFrom 5 none :: ((wsX4_takeFrom_r1 ++ (wsX4_takeFrom_r2 ++ (wsX4_takeFrom_r3 ++ wsX4_takeFrom_r4))) ++ wsX30 ++ wsX40 ++ wsX90 ++ wsX10 ++ wsX50 ++ wsX60)
def wsX5_init : List Cond := .code yX5_init cX5_init 1 none :: ([.methodLink RX5 3 objectInit, .instanceMethod objectInit, .code objectInit ⟨#[0xb1]⟩ 1 none, .arrayClass .int, .fieldLink RX5 9 "DiveChairs$Panel" "sorted" "[I"] ++ wsX50)
def wsX6_append : List Cond := .code yX6_append cX6_append 2 none :: ([.fieldLink RX6 38 "DiveChairs$Rule" "length" "I", .fieldLink RX6 22 "DiveChairs$Rule" "code" "[I"] ++ wsX60)
def wsX6_init : List Cond := .code yX6_init cX6_init 2 none :: ([.methodLink RX6 3 objectInit, .instanceMethod objectInit, .code objectInit ⟨#[0xb1]⟩ 1 none, .arrayClass .int, .fieldLink RX6 9 "DiveChairs$Rule" "off" "[I", .fieldLink RX6 15 "DiveChairs$Rule" "dropHighest" "I", .fieldLink RX6 19 "DiveChairs$Rule" "dropLowest" "I", .fieldLink RX6 22 "DiveChairs$Rule" "code" "[I", .fieldLink RX6 25 "DiveChairs$Rule" "stack" "[I", .methodLink RX6 28 yX6_append, .instanceMethod yX6_append, .selects RX6 yX6_append yX6_append, .initialized RX6, .code yX6_append cX6_append 2 none, .fieldLink RX6 38 "DiveChairs$Rule" "length" "I"] ++ wsX60)
def wsX6_copyFrom : List Cond := .code yX6_copyFrom cX6_copyFrom 2 none :: ([.fieldLink RX6 9 "DiveChairs$Rule" "off" "[I", .methodLink RX6 32 arraycopyName, .native arraycopyName, .static arraycopyName, .initialized "java/lang/System", .fieldLink RX6 15 "DiveChairs$Rule" "dropHighest" "I", .fieldLink RX6 19 "DiveChairs$Rule" "dropLowest" "I", .fieldLink RX6 22 "DiveChairs$Rule" "code" "[I", .fieldLink RX6 38 "DiveChairs$Rule" "length" "I"] ++ wsX60)
def wsX6_forgetSum : List Cond := .code yX6_forgetSum cX6_forgetSum 1 none :: ([.fieldLink RX6 38 "DiveChairs$Rule" "length" "I"] ++ wsX60)
def wsX6_offFor : List Cond := .code yX6_offFor cX6_offFor 4 (some .int) :: ([.fieldLink RX6 9 "DiveChairs$Rule" "off" "[I"] ++ wsX60)
def wsX7_init : List Cond := .code yX7_init cX7_init 1 none :: ([.methodLink RX7 3 objectInit, .instanceMethod objectInit, .code objectInit ⟨#[0xb1]⟩ 1 none, .classLink RX7 9 RX6, .instantiable RX6 6, .initialized RX6, .fieldLink RX7 12 "DiveChairs$RuleReader" "draft" "LDiveChairs$Rule;", .arrayClass .int, .fieldLink RX7 18 "DiveChairs$RuleReader" "text" "[I", .methodLink RX7 11 yX6_init, .instanceMethod yX6_init, .code yX6_init cX6_init 2 none, .methodLink RX6 3 objectInit, .fieldLink RX6 9 "DiveChairs$Rule" "off" "[I", .fieldLink RX6 15 "DiveChairs$Rule" "dropHighest" "I", .fieldLink RX6 19 "DiveChairs$Rule" "dropLowest" "I", .fieldLink RX6 22 "DiveChairs$Rule" "code" "[I", .fieldLink RX6 25 "DiveChairs$Rule" "stack" "[I", .methodLink RX6 28 yX6_append, .instanceMethod yX6_append, .selects RX6 yX6_append yX6_append, .code yX6_append cX6_append 2 none, .fieldLink RX6 38 "DiveChairs$Rule" "length" "I"] ++ wsX60 ++ wsX70)
def wsX7_next : List Cond := .code yX7_next cX7_next 1 (some .int) :: ([.fieldLink RX7 42 "DiveChairs$RuleReader" "at" "I", .fieldLink RX7 41 "DiveChairs$RuleReader" "size" "I", .fieldLink RX7 18 "DiveChairs$RuleReader" "text" "[I"] ++ wsX70)
def wsX7_isAtDigit : List Cond := .code yX7_isAtDigit cX7_isAtDigit 1 (some .boolean) :: ([.fieldLink RX7 45 "DiveChairs$RuleReader" "stopped" "Z", .fieldLink RX7 42 "DiveChairs$RuleReader" "at" "I", .fieldLink RX7 41 "DiveChairs$RuleReader" "size" "I", .fieldLink RX7 18 "DiveChairs$RuleReader" "text" "[I"] ++ wsX70)
def wsX7_readNumber : List Cond := .code yX7_readNumber cX7_readNumber 3 (some .int) :: ([.fieldLink RX7 18 "DiveChairs$RuleReader" "text" "[I", .fieldLink RX7 42 "DiveChairs$RuleReader" "at" "I", .fieldLink RX7 45 "DiveChairs$RuleReader" "stopped" "Z", .methodLink RX7 107 yX7_isAtDigit, .instanceMethod yX7_isAtDigit, .selects RX7 yX7_isAtDigit yX7_isAtDigit, .initialized RX7, .code yX7_isAtDigit cX7_isAtDigit 1 (some .boolean), .fieldLink RX7 41 "DiveChairs$RuleReader" "size" "I"] ++ wsX70)
def wsX7_expect : List Cond := .code yX7_expect cX7_expect 2 none :: ([.fieldLink RX7 45 "DiveChairs$RuleReader" "stopped" "Z", .fieldLink RX7 42 "DiveChairs$RuleReader" "at" "I", .fieldLink RX7 41 "DiveChairs$RuleReader" "size" "I", .fieldLink RX7 18 "DiveChairs$RuleReader" "text" "[I"] ++ wsX70)
def wsX7_wrongAt : List Cond := .code yX7_wrongAt cX7_wrongAt 2 none :: ([.fieldLink RX7 49 "DiveChairs$RuleReader" "firstWrong" "I"] ++ wsX70)
def wsX7_readOff_r1 : List Cond := [Cond.fieldLink RX7 12 "DiveChairs$RuleReader" "draft" "LDiveChairs$Rule;", Cond.fieldLink RX7 82 "DiveChairs$Rule" "off" "[I", Cond.methodLink RX7 75 yX7_readNumber, Cond.instanceMethod yX7_readNumber, Cond.selects RX7 yX7_readNumber yX7_readNumber, Cond.initialized RX7, Cond.code yX7_readNumber cX7_readNumber 3 (some .int), Cond.fieldLink RX7 18 "DiveChairs$RuleReader" "text" "[I", Cond.fieldLink RX7 42 "DiveChairs$RuleReader" "at" "I", Cond.fieldLink RX7 45 "DiveChairs$RuleReader" "stopped" "Z", Cond.methodLink RX7 107 yX7_isAtDigit, Cond.instanceMethod yX7_isAtDigit, Cond.selects RX7 yX7_isAtDigit yX7_isAtDigit, Cond.code yX7_isAtDigit cX7_isAtDigit 1 (some .boolean), Cond.fieldLink RX7 41 "DiveChairs$RuleReader" "size" "I", Cond.methodLink RX7 72 yX7_expect, Cond.instanceMethod yX7_expect, Cond.selects RX7 yX7_expect yX7_expect, Cond.code yX7_expect cX7_expect 2 none, Cond.static yX11_within, Cond.initialized RX11, Cond.code yX11_within cX11_within 2 (some .boolean), Cond.methodLink RX7 85 yX7_wrongAt, Cond.instanceMethod yX7_wrongAt]
def wsX7_readOff_r2 : List Cond := [Cond.selects RX7 yX7_wrongAt yX7_wrongAt, Cond.code yX7_wrongAt cX7_wrongAt 2 none, Cond.fieldLink RX7 49 "DiveChairs$RuleReader" "firstWrong" "I"]
def wsX7_readOff : List Cond := .code yX7_readOff cX7_readOff 4 none :: ((wsX7_readOff_r1 ++ wsX7_readOff_r2) ++ wsX70 ++ wsX60)
def wsX7_readDropped_r1 : List Cond := [Cond.fieldLink RX7 12 "DiveChairs$RuleReader" "draft" "LDiveChairs$Rule;", Cond.fieldLink RX7 88 "DiveChairs$Rule" "dropHighest" "I", Cond.fieldLink RX7 91 "DiveChairs$Rule" "dropLowest" "I", Cond.methodLink RX7 75 yX7_readNumber, Cond.instanceMethod yX7_readNumber, Cond.selects RX7 yX7_readNumber yX7_readNumber, Cond.initialized RX7, Cond.code yX7_readNumber cX7_readNumber 3 (some .int), Cond.fieldLink RX7 18 "DiveChairs$RuleReader" "text" "[I", Cond.fieldLink RX7 42 "DiveChairs$RuleReader" "at" "I", Cond.fieldLink RX7 45 "DiveChairs$RuleReader" "stopped" "Z", Cond.methodLink RX7 107 yX7_isAtDigit, Cond.instanceMethod yX7_isAtDigit, Cond.selects RX7 yX7_isAtDigit yX7_isAtDigit, Cond.code yX7_isAtDigit cX7_isAtDigit 1 (some .boolean), Cond.fieldLink RX7 41 "DiveChairs$RuleReader" "size" "I", Cond.methodLink RX7 72 yX7_expect, Cond.instanceMethod yX7_expect, Cond.selects RX7 yX7_expect yX7_expect, Cond.code yX7_expect cX7_expect 2 none, Cond.methodLink RX7 85 yX7_wrongAt, Cond.instanceMethod yX7_wrongAt, Cond.selects RX7 yX7_wrongAt yX7_wrongAt, Cond.code yX7_wrongAt cX7_wrongAt 2 none]
def wsX7_readDropped_r2 : List Cond := [Cond.fieldLink RX7 49 "DiveChairs$RuleReader" "firstWrong" "I"]
def wsX7_readDropped : List Cond := .code yX7_readDropped cX7_readDropped 4 none :: ((wsX7_readDropped_r1 ++ wsX7_readDropped_r2) ++ wsX70 ++ wsX60)
def wsX7_readAtom_r1 : List Cond := [Cond.fieldLink RX7 42 "DiveChairs$RuleReader" "at" "I", Cond.fieldLink RX7 12 "DiveChairs$RuleReader" "draft" "LDiveChairs$Rule;", Cond.methodLink RX7 55 yX7_next, Cond.instanceMethod yX7_next, Cond.selects RX7 yX7_next yX7_next, Cond.initialized RX7, Cond.code yX7_next cX7_next 1 (some .int), Cond.fieldLink RX7 41 "DiveChairs$RuleReader" "size" "I", Cond.fieldLink RX7 18 "DiveChairs$RuleReader" "text" "[I", Cond.methodLink RX7 103 yX7_readBrackets, Cond.instanceMethod yX7_readBrackets, Cond.selects RX7 yX7_readBrackets yX7_readBrackets, Cond.methodLink RX7 97 yX6_append, Cond.instanceMethod yX6_append, Cond.selects RX6 yX6_append yX6_append, Cond.initialized RX6, Cond.code yX6_append cX6_append 2 none, Cond.fieldLink RX6 38 "DiveChairs$Rule" "length" "I", Cond.fieldLink RX6 22 "DiveChairs$Rule" "code" "[I", Cond.methodLink RX7 75 yX7_readNumber, Cond.instanceMethod yX7_readNumber, Cond.selects RX7 yX7_readNumber yX7_readNumber, Cond.code yX7_readNumber cX7_readNumber 3 (some .int), Cond.fieldLink RX7 45 "DiveChairs$RuleReader" "stopped" "Z"]
def wsX7_readAtom_r2 : List Cond := [Cond.methodLink RX7 107 yX7_isAtDigit, Cond.instanceMethod yX7_isAtDigit, Cond.selects RX7 yX7_isAtDigit yX7_isAtDigit, Cond.code yX7_isAtDigit cX7_isAtDigit 1 (some .boolean), Cond.code yX7_readBrackets cX7_readBrackets 4 none, Cond.methodLink RX7 69 yX7_readSum, Cond.instanceMethod yX7_readSum, Cond.selects RX7 yX7_readSum yX7_readSum, Cond.methodLink RX7 72 yX7_expect, Cond.instanceMethod yX7_expect, Cond.selects RX7 yX7_expect yX7_expect, Cond.code yX7_expect cX7_expect 2 none, Cond.code yX7_readProduct cX7_readProduct 4 none, Cond.methodLink RX7 100 yX7_readAtom, Cond.instanceMethod yX7_readAtom, Cond.selects RX7 yX7_readAtom yX7_readAtom, Cond.code yX7_readSum cX7_readSum 4 none, Cond.methodLink RX7 94 yX7_readProduct, Cond.instanceMethod yX7_readProduct, Cond.selects RX7 yX7_readProduct yX7_readProduct]
def wsX7_readAtom : List Cond := .code yX7_readAtom cX7_readAtom 3 none :: ((wsX7_readAtom_r1 ++ wsX7_readAtom_r2) ++ wsX70 ++ wsX60)
def wsX7_readBrackets_r1 : List Cond := [Cond.fieldLink RX7 45 "DiveChairs$RuleReader" "stopped" "Z", Cond.fieldLink RX7 42 "DiveChairs$RuleReader" "at" "I", Cond.fieldLink RX7 12 "DiveChairs$RuleReader" "draft" "LDiveChairs$Rule;", Cond.methodLink RX7 69 yX7_readSum, Cond.instanceMethod yX7_readSum, Cond.selects RX7 yX7_readSum yX7_readSum, Cond.initialized RX7, Cond.methodLink RX7 72 yX7_expect, Cond.instanceMethod yX7_expect, Cond.selects RX7 yX7_expect yX7_expect, Cond.code yX7_expect cX7_expect 2 none, Cond.fieldLink RX7 41 "DiveChairs$RuleReader" "size" "I", Cond.fieldLink RX7 18 "DiveChairs$RuleReader" "text" "[I", Cond.methodLink RX7 97 yX6_append, Cond.instanceMethod yX6_append, Cond.selects RX6 yX6_append yX6_append, Cond.initialized RX6, Cond.code yX6_append cX6_append 2 none, Cond.fieldLink RX6 38 "DiveChairs$Rule" "length" "I", Cond.fieldLink RX6 22 "DiveChairs$Rule" "code" "[I", Cond.code yX7_readAtom cX7_readAtom 3 none, Cond.methodLink RX7 55 yX7_next, Cond.instanceMethod yX7_next, Cond.selects RX7 yX7_next yX7_next]
def wsX7_readBrackets_r2 : List Cond := [Cond.code yX7_next cX7_next 1 (some .int), Cond.methodLink RX7 103 yX7_readBrackets, Cond.instanceMethod yX7_readBrackets, Cond.selects RX7 yX7_readBrackets yX7_readBrackets, Cond.methodLink RX7 75 yX7_readNumber, Cond.instanceMethod yX7_readNumber, Cond.selects RX7 yX7_readNumber yX7_readNumber, Cond.code yX7_readNumber cX7_readNumber 3 (some .int), Cond.methodLink RX7 107 yX7_isAtDigit, Cond.instanceMethod yX7_isAtDigit, Cond.selects RX7 yX7_isAtDigit yX7_isAtDigit, Cond.code yX7_isAtDigit cX7_isAtDigit 1 (some .boolean), Cond.code yX7_readProduct cX7_readProduct 4 none, Cond.methodLink RX7 100 yX7_readAtom, Cond.instanceMethod yX7_readAtom, Cond.selects RX7 yX7_readAtom yX7_readAtom, Cond.code yX7_readSum cX7_readSum 4 none, Cond.methodLink RX7 94 yX7_readProduct, Cond.instanceMethod yX7_readProduct, Cond.selects RX7 yX7_readProduct yX7_readProduct]
def wsX7_readBrackets : List Cond := .code yX7_readBrackets cX7_readBrackets 4 none :: ((wsX7_readBrackets_r1 ++ wsX7_readBrackets_r2) ++ wsX70 ++ wsX60)
def wsX7_readProduct_r1 : List Cond := [Cond.fieldLink RX7 45 "DiveChairs$RuleReader" "stopped" "Z", Cond.fieldLink RX7 42 "DiveChairs$RuleReader" "at" "I", Cond.fieldLink RX7 12 "DiveChairs$RuleReader" "draft" "LDiveChairs$Rule;", Cond.methodLink RX7 100 yX7_readAtom, Cond.instanceMethod yX7_readAtom, Cond.selects RX7 yX7_readAtom yX7_readAtom, Cond.initialized RX7, Cond.methodLink RX7 55 yX7_next, Cond.instanceMethod yX7_next, Cond.selects RX7 yX7_next yX7_next, Cond.code yX7_next cX7_next 1 (some .int), Cond.fieldLink RX7 41 "DiveChairs$RuleReader" "size" "I", Cond.fieldLink RX7 18 "DiveChairs$RuleReader" "text" "[I", Cond.methodLink RX7 97 yX6_append, Cond.instanceMethod yX6_append, Cond.selects RX6 yX6_append yX6_append, Cond.initialized RX6, Cond.code yX6_append cX6_append 2 none, Cond.fieldLink RX6 38 "DiveChairs$Rule" "length" "I", Cond.fieldLink RX6 22 "DiveChairs$Rule" "code" "[I", Cond.code yX7_readAtom cX7_readAtom 3 none, Cond.methodLink RX7 103 yX7_readBrackets, Cond.instanceMethod yX7_readBrackets, Cond.selects RX7 yX7_readBrackets yX7_readBrackets]
def wsX7_readProduct_r2 : List Cond := [Cond.methodLink RX7 75 yX7_readNumber, Cond.instanceMethod yX7_readNumber, Cond.selects RX7 yX7_readNumber yX7_readNumber, Cond.code yX7_readNumber cX7_readNumber 3 (some .int), Cond.methodLink RX7 107 yX7_isAtDigit, Cond.instanceMethod yX7_isAtDigit, Cond.selects RX7 yX7_isAtDigit yX7_isAtDigit, Cond.code yX7_isAtDigit cX7_isAtDigit 1 (some .boolean), Cond.code yX7_readBrackets cX7_readBrackets 4 none, Cond.methodLink RX7 69 yX7_readSum, Cond.instanceMethod yX7_readSum, Cond.selects RX7 yX7_readSum yX7_readSum, Cond.methodLink RX7 72 yX7_expect, Cond.instanceMethod yX7_expect, Cond.selects RX7 yX7_expect yX7_expect, Cond.code yX7_expect cX7_expect 2 none, Cond.code yX7_readSum cX7_readSum 4 none, Cond.methodLink RX7 94 yX7_readProduct, Cond.instanceMethod yX7_readProduct, Cond.selects RX7 yX7_readProduct yX7_readProduct]
def wsX7_readProduct : List Cond := .code yX7_readProduct cX7_readProduct 4 none :: ((wsX7_readProduct_r1 ++ wsX7_readProduct_r2) ++ wsX70 ++ wsX60)
def wsX7_readSum_r1 : List Cond := [Cond.fieldLink RX7 45 "DiveChairs$RuleReader" "stopped" "Z", Cond.fieldLink RX7 42 "DiveChairs$RuleReader" "at" "I", Cond.fieldLink RX7 12 "DiveChairs$RuleReader" "draft" "LDiveChairs$Rule;", Cond.methodLink RX7 94 yX7_readProduct, Cond.instanceMethod yX7_readProduct, Cond.selects RX7 yX7_readProduct yX7_readProduct, Cond.initialized RX7, Cond.methodLink RX7 55 yX7_next, Cond.instanceMethod yX7_next, Cond.selects RX7 yX7_next yX7_next, Cond.code yX7_next cX7_next 1 (some .int), Cond.fieldLink RX7 41 "DiveChairs$RuleReader" "size" "I", Cond.fieldLink RX7 18 "DiveChairs$RuleReader" "text" "[I", Cond.methodLink RX7 97 yX6_append, Cond.instanceMethod yX6_append, Cond.selects RX6 yX6_append yX6_append, Cond.initialized RX6, Cond.code yX6_append cX6_append 2 none, Cond.fieldLink RX6 38 "DiveChairs$Rule" "length" "I", Cond.fieldLink RX6 22 "DiveChairs$Rule" "code" "[I", Cond.code yX7_readAtom cX7_readAtom 3 none, Cond.methodLink RX7 103 yX7_readBrackets, Cond.instanceMethod yX7_readBrackets, Cond.selects RX7 yX7_readBrackets yX7_readBrackets]
def wsX7_readSum_r2 : List Cond := [Cond.methodLink RX7 75 yX7_readNumber, Cond.instanceMethod yX7_readNumber, Cond.selects RX7 yX7_readNumber yX7_readNumber, Cond.code yX7_readNumber cX7_readNumber 3 (some .int), Cond.methodLink RX7 107 yX7_isAtDigit, Cond.instanceMethod yX7_isAtDigit, Cond.selects RX7 yX7_isAtDigit yX7_isAtDigit, Cond.code yX7_isAtDigit cX7_isAtDigit 1 (some .boolean), Cond.code yX7_readBrackets cX7_readBrackets 4 none, Cond.methodLink RX7 69 yX7_readSum, Cond.instanceMethod yX7_readSum, Cond.selects RX7 yX7_readSum yX7_readSum, Cond.methodLink RX7 72 yX7_expect, Cond.instanceMethod yX7_expect, Cond.selects RX7 yX7_expect yX7_expect, Cond.code yX7_expect cX7_expect 2 none, Cond.code yX7_readProduct cX7_readProduct 4 none, Cond.methodLink RX7 100 yX7_readAtom, Cond.instanceMethod yX7_readAtom, Cond.selects RX7 yX7_readAtom yX7_readAtom]
def wsX7_readSum : List Cond := .code yX7_readSum cX7_readSum 4 none :: ((wsX7_readSum_r1 ++ wsX7_readSum_r2) ++ wsX70 ++ wsX60)
def wsX7_readStatement_r1 : List Cond := [Cond.fieldLink RX7 42 "DiveChairs$RuleReader" "at" "I", Cond.fieldLink RX7 12 "DiveChairs$RuleReader" "draft" "LDiveChairs$Rule;", Cond.fieldLink RX7 45 "DiveChairs$RuleReader" "stopped" "Z", Cond.methodLink RX7 55 yX7_next, Cond.instanceMethod yX7_next, Cond.selects RX7 yX7_next yX7_next, Cond.initialized RX7, Cond.code yX7_next cX7_next 1 (some .int), Cond.fieldLink RX7 41 "DiveChairs$RuleReader" "size" "I", Cond.fieldLink RX7 18 "DiveChairs$RuleReader" "text" "[I", Cond.methodLink RX7 59 yX7_readOff, Cond.instanceMethod yX7_readOff, Cond.selects RX7 yX7_readOff yX7_readOff, Cond.code yX7_readOff cX7_readOff 4 none, Cond.fieldLink RX7 82 "DiveChairs$Rule" "off" "[I", Cond.methodLink RX7 75 yX7_readNumber, Cond.instanceMethod yX7_readNumber, Cond.selects RX7 yX7_readNumber yX7_readNumber, Cond.code yX7_readNumber cX7_readNumber 3 (some .int), Cond.methodLink RX7 107 yX7_isAtDigit, Cond.instanceMethod yX7_isAtDigit, Cond.selects RX7 yX7_isAtDigit yX7_isAtDigit, Cond.code yX7_isAtDigit cX7_isAtDigit 1 (some .boolean), Cond.methodLink RX7 72 yX7_expect]
def wsX7_readStatement_r2 : List Cond := [Cond.instanceMethod yX7_expect, Cond.selects RX7 yX7_expect yX7_expect, Cond.code yX7_expect cX7_expect 2 none, Cond.static yX11_within, Cond.initialized RX11, Cond.code yX11_within cX11_within 2 (some .boolean), Cond.methodLink RX7 85 yX7_wrongAt, Cond.instanceMethod yX7_wrongAt, Cond.selects RX7 yX7_wrongAt yX7_wrongAt, Cond.code yX7_wrongAt cX7_wrongAt 2 none, Cond.fieldLink RX7 49 "DiveChairs$RuleReader" "firstWrong" "I", Cond.methodLink RX7 63 yX7_readDropped, Cond.instanceMethod yX7_readDropped, Cond.selects RX7 yX7_readDropped yX7_readDropped, Cond.code yX7_readDropped cX7_readDropped 4 none, Cond.fieldLink RX7 88 "DiveChairs$Rule" "dropHighest" "I", Cond.fieldLink RX7 91 "DiveChairs$Rule" "dropLowest" "I", Cond.methodLink RX7 66 yX6_forgetSum, Cond.instanceMethod yX6_forgetSum, Cond.selects RX6 yX6_forgetSum yX6_forgetSum, Cond.initialized RX6, Cond.code yX6_forgetSum cX6_forgetSum 1 none, Cond.fieldLink RX6 38 "DiveChairs$Rule" "length" "I", Cond.methodLink RX7 69 yX7_readSum]
def wsX7_readStatement_r3 : List Cond := [Cond.instanceMethod yX7_readSum, Cond.selects RX7 yX7_readSum yX7_readSum, Cond.code yX7_readSum cX7_readSum 4 none, Cond.methodLink RX7 94 yX7_readProduct, Cond.instanceMethod yX7_readProduct, Cond.selects RX7 yX7_readProduct yX7_readProduct, Cond.methodLink RX7 97 yX6_append, Cond.instanceMethod yX6_append, Cond.selects RX6 yX6_append yX6_append, Cond.code yX6_append cX6_append 2 none, Cond.fieldLink RX6 22 "DiveChairs$Rule" "code" "[I", Cond.code yX7_readAtom cX7_readAtom 3 none, Cond.methodLink RX7 103 yX7_readBrackets, Cond.instanceMethod yX7_readBrackets, Cond.selects RX7 yX7_readBrackets yX7_readBrackets, Cond.code yX7_readBrackets cX7_readBrackets 4 none, Cond.code yX7_readProduct cX7_readProduct 4 none, Cond.methodLink RX7 100 yX7_readAtom, Cond.instanceMethod yX7_readAtom, Cond.selects RX7 yX7_readAtom yX7_readAtom]
def wsX7_readStatement : List Cond := .code yX7_readStatement cX7_readStatement 2 none :: ((wsX7_readStatement_r1 ++ (wsX7_readStatement_r2 ++ wsX7_readStatement_r3)) ++ wsX70 ++ wsX60)
def wsX7_read_r1 : List Cond := [Cond.fieldLink RX7 12 "DiveChairs$RuleReader" "draft" "LDiveChairs$Rule;", Cond.fieldLink RX7 26 "DiveChairs$Shelf" "elements" "[I", Cond.fieldLink RX7 18 "DiveChairs$RuleReader" "text" "[I", Cond.fieldLink RX7 31 "DiveChairs$Shelf" "size" "I", Cond.methodLink RX7 35 Lib.Math.min.name, Cond.static Lib.Math.min.name, Cond.initialized "java/lang/Math", Cond.code Lib.Math.min.name Lib.Math.min.code 2 (some .int), Cond.fieldLink RX7 41 "DiveChairs$RuleReader" "size" "I", Cond.fieldLink RX7 42 "DiveChairs$RuleReader" "at" "I", Cond.fieldLink RX7 45 "DiveChairs$RuleReader" "stopped" "Z", Cond.fieldLink RX7 49 "DiveChairs$RuleReader" "firstWrong" "I", Cond.methodLink RX7 22 yX6_copyFrom, Cond.instanceMethod yX6_copyFrom, Cond.selects RX6 yX6_copyFrom yX6_copyFrom, Cond.initialized RX6, Cond.code yX6_copyFrom cX6_copyFrom 2 none, Cond.fieldLink RX6 9 "DiveChairs$Rule" "off" "[I", Cond.methodLink RX6 32 arraycopyName, Cond.native arraycopyName, Cond.static arraycopyName, Cond.initialized "java/lang/System", Cond.fieldLink RX6 15 "DiveChairs$Rule" "dropHighest" "I", Cond.fieldLink RX6 19 "DiveChairs$Rule" "dropLowest" "I"]
def wsX7_read_r2 : List Cond := [Cond.fieldLink RX6 22 "DiveChairs$Rule" "code" "[I", Cond.fieldLink RX6 38 "DiveChairs$Rule" "length" "I", Cond.methodLink RX7 52 yX7_readStatement, Cond.instanceMethod yX7_readStatement, Cond.selects RX7 yX7_readStatement yX7_readStatement, Cond.initialized RX7, Cond.code yX7_readStatement cX7_readStatement 2 none, Cond.methodLink RX7 55 yX7_next, Cond.instanceMethod yX7_next, Cond.selects RX7 yX7_next yX7_next, Cond.code yX7_next cX7_next 1 (some .int), Cond.methodLink RX7 59 yX7_readOff, Cond.instanceMethod yX7_readOff, Cond.selects RX7 yX7_readOff yX7_readOff, Cond.code yX7_readOff cX7_readOff 4 none, Cond.fieldLink RX7 82 "DiveChairs$Rule" "off" "[I", Cond.methodLink RX7 75 yX7_readNumber, Cond.instanceMethod yX7_readNumber, Cond.selects RX7 yX7_readNumber yX7_readNumber, Cond.code yX7_readNumber cX7_readNumber 3 (some .int), Cond.methodLink RX7 107 yX7_isAtDigit, Cond.instanceMethod yX7_isAtDigit, Cond.selects RX7 yX7_isAtDigit yX7_isAtDigit, Cond.code yX7_isAtDigit cX7_isAtDigit 1 (some .boolean)]
def wsX7_read_r3 : List Cond := [Cond.methodLink RX7 72 yX7_expect, Cond.instanceMethod yX7_expect, Cond.selects RX7 yX7_expect yX7_expect, Cond.code yX7_expect cX7_expect 2 none, Cond.static yX11_within, Cond.initialized RX11, Cond.code yX11_within cX11_within 2 (some .boolean), Cond.methodLink RX7 85 yX7_wrongAt, Cond.instanceMethod yX7_wrongAt, Cond.selects RX7 yX7_wrongAt yX7_wrongAt, Cond.code yX7_wrongAt cX7_wrongAt 2 none, Cond.methodLink RX7 63 yX7_readDropped, Cond.instanceMethod yX7_readDropped, Cond.selects RX7 yX7_readDropped yX7_readDropped, Cond.code yX7_readDropped cX7_readDropped 4 none, Cond.fieldLink RX7 88 "DiveChairs$Rule" "dropHighest" "I", Cond.fieldLink RX7 91 "DiveChairs$Rule" "dropLowest" "I", Cond.methodLink RX7 66 yX6_forgetSum, Cond.instanceMethod yX6_forgetSum, Cond.selects RX6 yX6_forgetSum yX6_forgetSum, Cond.code yX6_forgetSum cX6_forgetSum 1 none, Cond.methodLink RX7 69 yX7_readSum, Cond.instanceMethod yX7_readSum, Cond.selects RX7 yX7_readSum yX7_readSum]
def wsX7_read_r4 : List Cond := [Cond.code yX7_readSum cX7_readSum 4 none, Cond.methodLink RX7 94 yX7_readProduct, Cond.instanceMethod yX7_readProduct, Cond.selects RX7 yX7_readProduct yX7_readProduct, Cond.methodLink RX7 97 yX6_append, Cond.instanceMethod yX6_append, Cond.selects RX6 yX6_append yX6_append, Cond.code yX6_append cX6_append 2 none, Cond.code yX7_readAtom cX7_readAtom 3 none, Cond.methodLink RX7 103 yX7_readBrackets, Cond.instanceMethod yX7_readBrackets, Cond.selects RX7 yX7_readBrackets yX7_readBrackets, Cond.code yX7_readBrackets cX7_readBrackets 4 none, Cond.code yX7_readProduct cX7_readProduct 4 none, Cond.methodLink RX7 100 yX7_readAtom, Cond.instanceMethod yX7_readAtom, Cond.selects RX7 yX7_readAtom yX7_readAtom]
def wsX7_read : List Cond := .code yX7_read cX7_read 4 (some .int) :: ((wsX7_read_r1 ++ (wsX7_read_r2 ++ (wsX7_read_r3 ++ wsX7_read_r4))) ++ wsX70 ++ wsX80 ++ wsX60)
def wsX8_init : List Cond := .code yX8_init cX8_init 1 none :: ([.methodLink RX8 3 objectInit, .instanceMethod objectInit, .code objectInit ⟨#[0xb1]⟩ 1 none, .arrayClass .int, .fieldLink RX8 9 "DiveChairs$Shelf" "elements" "[I"] ++ wsX80)
def wsX8_clear : List Cond := .code yX8_clear cX8_clear 1 none :: ([.fieldLink RX8 15 "DiveChairs$Shelf" "judge" "LDiveChairs$Judge;", .fieldLink RX8 19 "DiveChairs$Shelf" "isRow" "Z", .fieldLink RX8 23 "DiveChairs$Shelf" "size" "I"] ++ wsX80)
def wsX8_holdJudge : List Cond := .code yX8_holdJudge cX8_holdJudge 2 none :: ([.fieldLink RX8 15 "DiveChairs$Shelf" "judge" "LDiveChairs$Judge;", .methodLink RX8 27 yX8_clear, .instanceMethod yX8_clear, .selects RX8 yX8_clear yX8_clear, .initialized RX8, .code yX8_clear cX8_clear 1 none, .fieldLink RX8 19 "DiveChairs$Shelf" "isRow" "Z", .fieldLink RX8 23 "DiveChairs$Shelf" "size" "I"] ++ wsX80)
def wsX8_holdRow : List Cond := .code yX8_holdRow cX8_holdRow 4 none :: ([.fieldLink RX8 19 "DiveChairs$Shelf" "isRow" "Z", .fieldLink RX8 30 "DiveChairs$Shelf" "sort" "I", .fieldLink RX8 23 "DiveChairs$Shelf" "size" "I", .fieldLink RX8 9 "DiveChairs$Shelf" "elements" "[I", .methodLink RX8 27 yX8_clear, .instanceMethod yX8_clear, .selects RX8 yX8_clear yX8_clear, .initialized RX8, .code yX8_clear cX8_clear 1 none, .fieldLink RX8 15 "DiveChairs$Shelf" "judge" "LDiveChairs$Judge;"] ++ wsX80)
def wsX8_holdsNothing : List Cond := .code yX8_holdsNothing cX8_holdsNothing 1 (some .boolean) :: ([.fieldLink RX8 15 "DiveChairs$Shelf" "judge" "LDiveChairs$Judge;", .fieldLink RX8 19 "DiveChairs$Shelf" "isRow" "Z"] ++ wsX80)
def wsX8_refusalAsRow : List Cond := .code yX8_refusalAsRow cX8_refusalAsRow 1 (some .int) :: ([.fieldLink RX8 19 "DiveChairs$Shelf" "isRow" "Z", .fieldLink RX8 15 "DiveChairs$Shelf" "judge" "LDiveChairs$Judge;"] ++ wsX80)
def wsX8_refusalAsText : List Cond := .code yX8_refusalAsText cX8_refusalAsText 1 (some .int) :: ([.fieldLink RX8 19 "DiveChairs$Shelf" "isRow" "Z", .fieldLink RX8 30 "DiveChairs$Shelf" "sort" "I", .methodLink RX8 33 yX8_refusalAsRow, .instanceMethod yX8_refusalAsRow, .selects RX8 yX8_refusalAsRow yX8_refusalAsRow, .initialized RX8, .code yX8_refusalAsRow cX8_refusalAsRow 1 (some .int), .fieldLink RX8 15 "DiveChairs$Shelf" "judge" "LDiveChairs$Judge;"] ++ wsX80)
def wsX8_refusalAsJudge : List Cond := .code yX8_refusalAsJudge cX8_refusalAsJudge 1 (some .int) :: ([.fieldLink RX8 19 "DiveChairs$Shelf" "isRow" "Z"] ++ wsX80)
def wsX8_hasPlaces : List Cond := .code yX8_hasPlaces cX8_hasPlaces 3 (some .boolean) :: ([.fieldLink RX8 23 "DiveChairs$Shelf" "size" "I"] ++ wsX80)
def wsX8_holdsMarks : List Cond := .code yX8_holdsMarks cX8_holdsMarks 3 (some .boolean) :: ([.fieldLink RX8 23 "DiveChairs$Shelf" "size" "I", .fieldLink RX8 9 "DiveChairs$Shelf" "elements" "[I", .static yX11_within, .initialized RX11, .code yX11_within cX11_within 2 (some .boolean)] ++ wsX80)
def wsX8_lowestBits : List Cond := .code yX8_lowestBits cX8_lowestBits 2 (some .int) :: ([.fieldLink RX8 30 "DiveChairs$Shelf" "sort" "I"] ++ wsX80)
def wsX9_init_r1 : List Cond := [Cond.methodLink RX9 3 objectInit, Cond.instanceMethod objectInit, Cond.code objectInit ⟨#[0xb1]⟩ 1 none, Cond.arrayClass .int, Cond.fieldLink RX9 9 "DiveChairs$State" "lands" "[I", Cond.fieldLink RX9 15 "DiveChairs$State" "names" "[I", Cond.fieldLink RX9 18 "DiveChairs$State" "years" "[I", Cond.fieldLink RX9 21 "DiveChairs$State" "seats" "[I", Cond.classLink RX9 24 RX6, Cond.instantiable RX6 6, Cond.initialized RX6, Cond.fieldLink RX9 27 "DiveChairs$State" "rule" "LDiveChairs$Rule;", Cond.classLink RX9 31 RX2, Cond.fieldLink RX9 33 "DiveChairs$State" "judgesMade" "[LDiveChairs$Judge;", Cond.classLink RX9 37 RX1, Cond.fieldLink RX9 39 "DiveChairs$State" "divesMade" "[LDiveChairs$Dive;", Cond.arrayClass .long, Cond.fieldLink RX9 43 "DiveChairs$State" "totals" "[J", Cond.classLink RX9 47 RX5, Cond.instantiable RX5 2, Cond.initialized RX5, Cond.fieldLink RX9 50 "DiveChairs$State" "panel" "LDiveChairs$Panel;", Cond.instantiable RX1 7, Cond.initialized RX1]
def wsX9_init_r2 : List Cond := [Cond.methodLink RX9 26 yX6_init, Cond.instanceMethod yX6_init, Cond.code yX6_init cX6_init 2 none, Cond.methodLink RX6 3 objectInit, Cond.fieldLink RX6 9 "DiveChairs$Rule" "off" "[I", Cond.fieldLink RX6 15 "DiveChairs$Rule" "dropHighest" "I", Cond.fieldLink RX6 19 "DiveChairs$Rule" "dropLowest" "I", Cond.fieldLink RX6 22 "DiveChairs$Rule" "code" "[I", Cond.fieldLink RX6 25 "DiveChairs$Rule" "stack" "[I", Cond.methodLink RX6 28 yX6_append, Cond.instanceMethod yX6_append, Cond.selects RX6 yX6_append yX6_append, Cond.code yX6_append cX6_append 2 none, Cond.fieldLink RX6 38 "DiveChairs$Rule" "length" "I", Cond.instanceMethod yX5_init, Cond.code yX5_init cX5_init 1 none, Cond.methodLink RX5 3 objectInit, Cond.fieldLink RX5 9 "DiveChairs$Panel" "sorted" "[I", Cond.instanceMethod yX1_init, Cond.code yX1_init cX1_init 1 none, Cond.methodLink RX1 3 objectInit, Cond.fieldLink RX1 9 "DiveChairs$Dive" "marks" "[I", Cond.fieldLink RX1 15 "DiveChairs$Dive" "markers" "[I"]
def wsX9_init : List Cond := .code yX9_init cX9_init 2 none :: ((wsX9_init_r1 ++ wsX9_init_r2) ++ wsX90 ++ wsX60 ++ wsX50 ++ wsX10)
def wsX9_copyFrom_r1 : List Cond := [Cond.fieldLink RX9 9 "DiveChairs$State" "lands" "[I", Cond.methodLink RX9 55 arraycopyName, Cond.native arraycopyName, Cond.static arraycopyName, Cond.initialized "java/lang/System", Cond.fieldLink RX9 15 "DiveChairs$State" "names" "[I", Cond.fieldLink RX9 18 "DiveChairs$State" "years" "[I", Cond.fieldLink RX9 21 "DiveChairs$State" "seats" "[I", Cond.fieldLink RX9 27 "DiveChairs$State" "rule" "LDiveChairs$Rule;", Cond.fieldLink RX9 65 "DiveChairs$State" "divers" "I", Cond.fieldLink RX9 69 "DiveChairs$State" "judges" "I", Cond.fieldLink RX9 72 "DiveChairs$State" "dives" "I", Cond.fieldLink RX9 33 "DiveChairs$State" "judgesMade" "[LDiveChairs$Judge;", Cond.fieldLink RX9 39 "DiveChairs$State" "divesMade" "[LDiveChairs$Dive;", Cond.methodLink RX9 61 yX6_copyFrom, Cond.instanceMethod yX6_copyFrom, Cond.selects RX6 yX6_copyFrom yX6_copyFrom, Cond.initialized RX6, Cond.code yX6_copyFrom cX6_copyFrom 2 none, Cond.fieldLink RX6 9 "DiveChairs$Rule" "off" "[I", Cond.methodLink RX6 32 arraycopyName, Cond.fieldLink RX6 15 "DiveChairs$Rule" "dropHighest" "I", Cond.fieldLink RX6 19 "DiveChairs$Rule" "dropLowest" "I", Cond.fieldLink RX6 22 "DiveChairs$Rule" "code" "[I"]
def wsX9_copyFrom_r2 : List Cond := [Cond.fieldLink RX6 38 "DiveChairs$Rule" "length" "I", Cond.methodLink RX9 75 yX1_copyFrom, Cond.instanceMethod yX1_copyFrom, Cond.selects RX1 yX1_copyFrom yX1_copyFrom, Cond.initialized RX1, Cond.code yX1_copyFrom cX1_copyFrom 2 none, Cond.fieldLink RX1 18 "DiveChairs$Dive" "hall" "I", Cond.fieldLink RX1 22 "DiveChairs$Dive" "diver" "I", Cond.fieldLink RX1 25 "DiveChairs$Dive" "flaws" "I", Cond.fieldLink RX1 28 "DiveChairs$Dive" "splash" "I", Cond.fieldLink RX1 31 "DiveChairs$Dive" "hard" "I", Cond.fieldLink RX1 9 "DiveChairs$Dive" "marks" "[I", Cond.methodLink RX1 38 arraycopyName, Cond.fieldLink RX1 15 "DiveChairs$Dive" "markers" "[I"]
def wsX9_copyFrom : List Cond := .code yX9_copyFrom cX9_copyFrom 3 none :: ((wsX9_copyFrom_r1 ++ wsX9_copyFrom_r2) ++ wsX90 ++ wsX60 ++ wsX10)
def wsX9_addDiver : List Cond := .code yX9_addDiver cX9_addDiver 3 (some .int) :: ([.fieldLink RX9 65 "DiveChairs$State" "divers" "I", .fieldLink RX9 9 "DiveChairs$State" "lands" "[I", .fieldLink RX9 15 "DiveChairs$State" "names" "[I", .static yX11_within, .initialized RX11, .code yX11_within cX11_within 2 (some .boolean)] ++ wsX90)
def wsX9_addJudge : List Cond := .code yX9_addJudge cX9_addJudge 3 (some .int) :: ([.fieldLink RX9 69 "DiveChairs$State" "judges" "I", .fieldLink RX9 33 "DiveChairs$State" "judgesMade" "[LDiveChairs$Judge;", .classLink RX9 31 RX2, .instantiable RX2 5, .initialized RX2, .static yX11_within, .initialized RX11, .code yX11_within cX11_within 2 (some .boolean), .methodLink RX9 82 yX2_init, .instanceMethod yX2_init, .code yX2_init cX2_init 4 none, .methodLink RX2 3 objectInit, .instanceMethod objectInit, .code objectInit ⟨#[0xb1]⟩ 1 none, .fieldLink RX2 9 "DiveChairs$Judge" "number" "I", .fieldLink RX2 15 "DiveChairs$Judge" "kind" "I", .fieldLink RX2 18 "DiveChairs$Judge" "land" "I", .fieldLink RX2 21 "DiveChairs$Judge" "leaning" "I", .fieldLink RX2 24 "DiveChairs$Judge" "partner" "I"] ++ wsX90 ++ wsX20)
def wsX9_addDive : List Cond := .code yX9_addDive cX9_addDive 5 (some .int) :: ([.fieldLink RX9 72 "DiveChairs$State" "dives" "I", .fieldLink RX9 39 "DiveChairs$State" "divesMade" "[LDiveChairs$Dive;", .static yX11_within, .initialized RX11, .code yX11_within cX11_within 2 (some .boolean), .methodLink RX9 85 yX1_begin, .instanceMethod yX1_begin, .selects RX1 yX1_begin yX1_begin, .initialized RX1, .code yX1_begin cX1_begin 6 none, .fieldLink RX1 18 "DiveChairs$Dive" "hall" "I", .fieldLink RX1 22 "DiveChairs$Dive" "diver" "I", .fieldLink RX1 25 "DiveChairs$Dive" "flaws" "I", .fieldLink RX1 28 "DiveChairs$Dive" "splash" "I", .fieldLink RX1 31 "DiveChairs$Dive" "hard" "I", .methodLink RX1 34 yX1_tell, .instanceMethod yX1_tell, .selects RX1 yX1_tell yX1_tell, .code yX1_tell cX1_tell 4 none, .fieldLink RX1 9 "DiveChairs$Dive" "marks" "[I", .fieldLink RX1 15 "DiveChairs$Dive" "markers" "[I"] ++ wsX90 ++ wsX10)
def wsX9_seatOf : List Cond := .code yX9_seatOf cX9_seatOf 3 (some .int) :: ([.fieldLink RX9 21 "DiveChairs$State" "seats" "[I", .static yX11_within, .initialized RX11, .code yX11_within cX11_within 2 (some .boolean)] ++ wsX90)
def wsX9_isOnOtherChair : List Cond := .code yX9_isOnOtherChair cX9_isOnOtherChair 5 (some .boolean) :: ([.methodLink RX9 92 yX9_seatOf, .instanceMethod yX9_seatOf, .selects RX9 yX9_seatOf yX9_seatOf, .initialized RX9, .code yX9_seatOf cX9_seatOf 3 (some .int), .fieldLink RX9 21 "DiveChairs$State" "seats" "[I", .static yX11_within, .initialized RX11, .code yX11_within cX11_within 2 (some .boolean)] ++ wsX90)
def wsX9_seatsTaken : List Cond := .code yX9_seatsTaken cX9_seatsTaken 3 (some .int) :: ([.fieldLink RX9 21 "DiveChairs$State" "seats" "[I"] ++ wsX90)
def wsX9_marksThere : List Cond := .code yX9_marksThere cX9_marksThere 3 (some .int) :: ([.fieldLink RX9 72 "DiveChairs$State" "dives" "I", .fieldLink RX9 39 "DiveChairs$State" "divesMade" "[LDiveChairs$Dive;", .methodLink RX9 96 yX1_marksThere, .instanceMethod yX1_marksThere, .selects RX1 yX1_marksThere yX1_marksThere, .initialized RX1, .code yX1_marksThere cX1_marksThere 3 (some .int), .fieldLink RX1 9 "DiveChairs$Dive" "marks" "[I"] ++ wsX90 ++ wsX10)
def wsX9_sumOfMarks_r1 : List Cond := [Cond.fieldLink RX9 72 "DiveChairs$State" "dives" "I", Cond.fieldLink RX9 50 "DiveChairs$State" "panel" "LDiveChairs$Panel;", Cond.fieldLink RX9 39 "DiveChairs$State" "divesMade" "[LDiveChairs$Dive;", Cond.methodLink RX9 100 yX5_gather, Cond.instanceMethod yX5_gather, Cond.selects RX5 yX5_gather yX5_gather, Cond.initialized RX5, Cond.code yX5_gather cX5_gather 3 none, Cond.fieldLink RX5 15 "DiveChairs$Panel" "size" "I", Cond.fieldLink RX5 25 "DiveChairs$Dive" "marks" "[I", Cond.methodLink RX5 19 yX1_hasMark, Cond.instanceMethod yX1_hasMark, Cond.selects RX1 yX1_hasMark yX1_hasMark, Cond.initialized RX1, Cond.code yX1_hasMark cX1_hasMark 2 (some .boolean), Cond.fieldLink RX1 9 "DiveChairs$Dive" "marks" "[I", Cond.static yX11_within, Cond.initialized RX11, Cond.code yX11_within cX11_within 2 (some .boolean), Cond.methodLink RX5 28 yX5_add, Cond.instanceMethod yX5_add, Cond.selects RX5 yX5_add yX5_add, Cond.code yX5_add cX5_add 3 none, Cond.fieldLink RX5 9 "DiveChairs$Panel" "sorted" "[I"]
def wsX9_sumOfMarks_r2 : List Cond := [Cond.methodLink RX9 103 yX5_sumBetween, Cond.instanceMethod yX5_sumBetween, Cond.selects RX5 yX5_sumBetween yX5_sumBetween, Cond.code yX5_sumBetween cX5_sumBetween 5 (some .int)]
def wsX9_sumOfMarks : List Cond := .code yX9_sumOfMarks cX9_sumOfMarks 3 (some .int) :: ((wsX9_sumOfMarks_r1 ++ wsX9_sumOfMarks_r2) ++ wsX90 ++ wsX50 ++ wsX10)
def wsX9_worthOf : List Cond := .code yX9_worthOf cX9_worthOf 2 (some .int) :: ([.fieldLink RX9 27 "DiveChairs$State" "rule" "LDiveChairs$Rule;", .fieldLink RX9 106 "DiveChairs$Dive" "flaws" "I", .methodLink RX9 113 Lib.Math.max.name, .static Lib.Math.max.name, .initialized "java/lang/Math", .code Lib.Math.max.name Lib.Math.max.code 2 (some .int), .methodLink RX9 109 yX6_offFor, .instanceMethod yX6_offFor, .selects RX6 yX6_offFor yX6_offFor, .initialized RX6, .code yX6_offFor cX6_offFor 4 (some .int), .fieldLink RX6 9 "DiveChairs$Rule" "off" "[I"] ++ wsX90 ++ wsX10 ++ wsX60)
def wsX11_partsSeen : List Cond := .code yX11_partsSeen cX11_partsSeen 5 (some .int) :: ([])
def wsX9_drawnBy : List Cond := .code yX9_drawnBy cX9_drawnBy 6 (some .int) :: ([.fieldLink RX9 89 "DiveChairs$Dive" "diver" "I", .fieldLink RX9 65 "DiveChairs$State" "divers" "I", .fieldLink RX9 15 "DiveChairs$State" "names" "[I", .fieldLink RX9 72 "DiveChairs$State" "dives" "I", .methodLink RX9 172 Lib.Math.min.name, .static Lib.Math.min.name, .initialized "java/lang/Math", .code Lib.Math.min.name Lib.Math.min.code 2 (some .int), .fieldLink RX9 39 "DiveChairs$State" "divesMade" "[LDiveChairs$Dive;", .fieldLink RX9 126 "DiveChairs$Dive" "hall" "I", .fieldLink RX9 27 "DiveChairs$State" "rule" "LDiveChairs$Rule;", .fieldLink RX9 106 "DiveChairs$Dive" "flaws" "I", .static yX11_within, .initialized RX11, .code yX11_within cX11_within 2 (some .boolean), .methodLink RX9 109 yX6_offFor, .instanceMethod yX6_offFor, .selects RX6 yX6_offFor yX6_offFor, .initialized RX6, .code yX6_offFor cX6_offFor 4 (some .int), .fieldLink RX6 9 "DiveChairs$Rule" "off" "[I"] ++ wsX10 ++ wsX90 ++ wsX60)
def wsX9_markOf_r1 : List Cond := [Cond.fieldLink RX9 133 "DiveChairs$Judge" "kind" "I", Cond.fieldLink RX9 154 "DiveChairs$Dive" "splash" "I", Cond.fieldLink RX9 27 "DiveChairs$State" "rule" "LDiveChairs$Rule;", Cond.fieldLink RX9 106 "DiveChairs$Dive" "flaws" "I", Cond.static yX11_partsSeen, Cond.initialized RX11, Cond.code yX11_partsSeen cX11_partsSeen 5 (some .int), Cond.methodLink RX9 109 yX6_offFor, Cond.instanceMethod yX6_offFor, Cond.selects RX6 yX6_offFor yX6_offFor, Cond.initialized RX6, Cond.code yX6_offFor cX6_offFor 4 (some .int), Cond.fieldLink RX6 9 "DiveChairs$Rule" "off" "[I", Cond.methodLink RX9 160 yX9_drawnBy, Cond.instanceMethod yX9_drawnBy, Cond.selects RX9 yX9_drawnBy yX9_drawnBy, Cond.initialized RX9, Cond.code yX9_drawnBy cX9_drawnBy 6 (some .int), Cond.fieldLink RX9 89 "DiveChairs$Dive" "diver" "I", Cond.fieldLink RX9 65 "DiveChairs$State" "divers" "I", Cond.fieldLink RX9 15 "DiveChairs$State" "names" "[I", Cond.fieldLink RX9 72 "DiveChairs$State" "dives" "I", Cond.methodLink RX9 172 Lib.Math.min.name, Cond.static Lib.Math.min.name]
def wsX9_markOf_r2 : List Cond := [Cond.initialized "java/lang/Math", Cond.code Lib.Math.min.name Lib.Math.min.code 2 (some .int), Cond.fieldLink RX9 39 "DiveChairs$State" "divesMade" "[LDiveChairs$Dive;", Cond.fieldLink RX9 126 "DiveChairs$Dive" "hall" "I", Cond.static yX11_within, Cond.code yX11_within cX11_within 2 (some .boolean), Cond.methodLink RX9 164 yX9_landOf, Cond.instanceMethod yX9_landOf, Cond.selects RX9 yX9_landOf yX9_landOf, Cond.code yX9_landOf cX9_landOf 2 (some .int), Cond.fieldLink RX9 9 "DiveChairs$State" "lands" "[I", Cond.methodLink RX9 168 yX2_markFor, Cond.instanceMethod yX2_markFor, Cond.selects RX2 yX2_markFor yX2_markFor, Cond.initialized RX2, Cond.code yX2_markFor cX2_markFor 4 (some .int), Cond.fieldLink RX2 15 "DiveChairs$Judge" "kind" "I", Cond.methodLink RX2 27 yX2_held, Cond.static yX2_held, Cond.code yX2_held cX2_held 1 (some .int), Cond.methodLink RX2 31 yX2_leanTo, Cond.instanceMethod yX2_leanTo, Cond.selects RX2 yX2_leanTo yX2_leanTo, Cond.code yX2_leanTo cX2_leanTo 4 (some .int)]
def wsX9_markOf_r3 : List Cond := [Cond.fieldLink RX2 18 "DiveChairs$Judge" "land" "I", Cond.fieldLink RX2 24 "DiveChairs$Judge" "partner" "I", Cond.fieldLink RX2 21 "DiveChairs$Judge" "leaning" "I"]
def wsX9_markOf : List Cond := .code yX9_markOf cX9_markOf 8 (some .int) :: ((wsX9_markOf_r1 ++ (wsX9_markOf_r2 ++ wsX9_markOf_r3)) ++ wsX20 ++ wsX10 ++ wsX90 ++ wsX60)
def wsX9_gatherOthers_r1 : List Cond := [Cond.fieldLink RX9 50 "DiveChairs$State" "panel" "LDiveChairs$Panel;", Cond.fieldLink RX9 140 "DiveChairs$Panel" "size" "I", Cond.fieldLink RX9 126 "DiveChairs$Dive" "hall" "I", Cond.fieldLink RX9 133 "DiveChairs$Judge" "kind" "I", Cond.methodLink RX9 92 yX9_seatOf, Cond.instanceMethod yX9_seatOf, Cond.selects RX9 yX9_seatOf yX9_seatOf, Cond.initialized RX9, Cond.code yX9_seatOf cX9_seatOf 3 (some .int), Cond.fieldLink RX9 21 "DiveChairs$State" "seats" "[I", Cond.static yX11_within, Cond.initialized RX11, Cond.code yX11_within cX11_within 2 (some .boolean), Cond.methodLink RX9 129 yX9_judgeAt, Cond.instanceMethod yX9_judgeAt, Cond.selects RX9 yX9_judgeAt yX9_judgeAt, Cond.code yX9_judgeAt cX9_judgeAt 2 (some (.object "DiveChairs$Judge")), Cond.fieldLink RX9 69 "DiveChairs$State" "judges" "I", Cond.fieldLink RX9 33 "DiveChairs$State" "judgesMade" "[LDiveChairs$Judge;", Cond.methodLink RX9 146 yX9_markOf, Cond.instanceMethod yX9_markOf, Cond.selects RX9 yX9_markOf yX9_markOf, Cond.code yX9_markOf cX9_markOf 8 (some .int), Cond.fieldLink RX9 154 "DiveChairs$Dive" "splash" "I"]
def wsX9_gatherOthers_r2 : List Cond := [Cond.fieldLink RX9 27 "DiveChairs$State" "rule" "LDiveChairs$Rule;", Cond.fieldLink RX9 106 "DiveChairs$Dive" "flaws" "I", Cond.static yX11_partsSeen, Cond.code yX11_partsSeen cX11_partsSeen 5 (some .int), Cond.methodLink RX9 109 yX6_offFor, Cond.instanceMethod yX6_offFor, Cond.selects RX6 yX6_offFor yX6_offFor, Cond.initialized RX6, Cond.code yX6_offFor cX6_offFor 4 (some .int), Cond.fieldLink RX6 9 "DiveChairs$Rule" "off" "[I", Cond.methodLink RX9 160 yX9_drawnBy, Cond.instanceMethod yX9_drawnBy, Cond.selects RX9 yX9_drawnBy yX9_drawnBy, Cond.code yX9_drawnBy cX9_drawnBy 6 (some .int), Cond.fieldLink RX9 89 "DiveChairs$Dive" "diver" "I", Cond.fieldLink RX9 65 "DiveChairs$State" "divers" "I", Cond.fieldLink RX9 15 "DiveChairs$State" "names" "[I", Cond.fieldLink RX9 72 "DiveChairs$State" "dives" "I", Cond.methodLink RX9 172 Lib.Math.min.name, Cond.static Lib.Math.min.name, Cond.initialized "java/lang/Math", Cond.code Lib.Math.min.name Lib.Math.min.code 2 (some .int), Cond.fieldLink RX9 39 "DiveChairs$State" "divesMade" "[LDiveChairs$Dive;", Cond.methodLink RX9 164 yX9_landOf]
def wsX9_gatherOthers_r3 : List Cond := [Cond.instanceMethod yX9_landOf, Cond.selects RX9 yX9_landOf yX9_landOf, Cond.code yX9_landOf cX9_landOf 2 (some .int), Cond.fieldLink RX9 9 "DiveChairs$State" "lands" "[I", Cond.methodLink RX9 168 yX2_markFor, Cond.instanceMethod yX2_markFor, Cond.selects RX2 yX2_markFor yX2_markFor, Cond.initialized RX2, Cond.code yX2_markFor cX2_markFor 4 (some .int), Cond.fieldLink RX2 15 "DiveChairs$Judge" "kind" "I", Cond.methodLink RX2 27 yX2_held, Cond.static yX2_held, Cond.code yX2_held cX2_held 1 (some .int), Cond.methodLink RX2 31 yX2_leanTo, Cond.instanceMethod yX2_leanTo, Cond.selects RX2 yX2_leanTo yX2_leanTo, Cond.code yX2_leanTo cX2_leanTo 4 (some .int), Cond.fieldLink RX2 18 "DiveChairs$Judge" "land" "I", Cond.fieldLink RX2 24 "DiveChairs$Judge" "partner" "I", Cond.fieldLink RX2 21 "DiveChairs$Judge" "leaning" "I", Cond.methodLink RX9 150 yX5_add, Cond.instanceMethod yX5_add, Cond.selects RX5 yX5_add yX5_add, Cond.initialized RX5]
def wsX9_gatherOthers_r4 : List Cond := [Cond.code yX5_add cX5_add 3 none, Cond.fieldLink RX5 15 "DiveChairs$Panel" "size" "I", Cond.fieldLink RX5 9 "DiveChairs$Panel" "sorted" "[I"]
def wsX9_gatherOthers : List Cond := .code yX9_gatherOthers cX9_gatherOthers 5 none :: ((wsX9_gatherOthers_r1 ++ (wsX9_gatherOthers_r2 ++ (wsX9_gatherOthers_r3 ++ wsX9_gatherOthers_r4))) ++ wsX90 ++ wsX50 ++ wsX10 ++ wsX20 ++ wsX60)
def wsX9_wouldMark_r1 : List Cond := [Cond.fieldLink RX9 126 "DiveChairs$Dive" "hall" "I", Cond.fieldLink RX9 133 "DiveChairs$Judge" "kind" "I", Cond.fieldLink RX9 50 "DiveChairs$State" "panel" "LDiveChairs$Panel;", Cond.fieldLink RX9 140 "DiveChairs$Panel" "size" "I", Cond.methodLink RX9 122 yX9_diveAt, Cond.instanceMethod yX9_diveAt, Cond.selects RX9 yX9_diveAt yX9_diveAt, Cond.initialized RX9, Cond.code yX9_diveAt cX9_diveAt 2 (some (.object "DiveChairs$Dive")), Cond.fieldLink RX9 72 "DiveChairs$State" "dives" "I", Cond.fieldLink RX9 39 "DiveChairs$State" "divesMade" "[LDiveChairs$Dive;", Cond.static yX11_within, Cond.initialized RX11, Cond.code yX11_within cX11_within 2 (some .boolean), Cond.methodLink RX9 92 yX9_seatOf, Cond.instanceMethod yX9_seatOf, Cond.selects RX9 yX9_seatOf yX9_seatOf, Cond.code yX9_seatOf cX9_seatOf 3 (some .int), Cond.fieldLink RX9 21 "DiveChairs$State" "seats" "[I", Cond.methodLink RX9 129 yX9_judgeAt, Cond.instanceMethod yX9_judgeAt, Cond.selects RX9 yX9_judgeAt yX9_judgeAt, Cond.code yX9_judgeAt cX9_judgeAt 2 (some (.object "DiveChairs$Judge")), Cond.fieldLink RX9 69 "DiveChairs$State" "judges" "I"]
def wsX9_wouldMark_r2 : List Cond := [Cond.fieldLink RX9 33 "DiveChairs$State" "judgesMade" "[LDiveChairs$Judge;", Cond.methodLink RX9 136 yX9_gatherOthers, Cond.instanceMethod yX9_gatherOthers, Cond.selects RX9 yX9_gatherOthers yX9_gatherOthers, Cond.code yX9_gatherOthers cX9_gatherOthers 5 none, Cond.methodLink RX9 146 yX9_markOf, Cond.instanceMethod yX9_markOf, Cond.selects RX9 yX9_markOf yX9_markOf, Cond.code yX9_markOf cX9_markOf 8 (some .int), Cond.fieldLink RX9 154 "DiveChairs$Dive" "splash" "I", Cond.fieldLink RX9 27 "DiveChairs$State" "rule" "LDiveChairs$Rule;", Cond.fieldLink RX9 106 "DiveChairs$Dive" "flaws" "I", Cond.static yX11_partsSeen, Cond.code yX11_partsSeen cX11_partsSeen 5 (some .int), Cond.methodLink RX9 109 yX6_offFor, Cond.instanceMethod yX6_offFor, Cond.selects RX6 yX6_offFor yX6_offFor, Cond.initialized RX6, Cond.code yX6_offFor cX6_offFor 4 (some .int), Cond.fieldLink RX6 9 "DiveChairs$Rule" "off" "[I", Cond.methodLink RX9 160 yX9_drawnBy, Cond.instanceMethod yX9_drawnBy, Cond.selects RX9 yX9_drawnBy yX9_drawnBy, Cond.code yX9_drawnBy cX9_drawnBy 6 (some .int)]
def wsX9_wouldMark_r3 : List Cond := [Cond.fieldLink RX9 89 "DiveChairs$Dive" "diver" "I", Cond.fieldLink RX9 65 "DiveChairs$State" "divers" "I", Cond.fieldLink RX9 15 "DiveChairs$State" "names" "[I", Cond.methodLink RX9 172 Lib.Math.min.name, Cond.static Lib.Math.min.name, Cond.initialized "java/lang/Math", Cond.code Lib.Math.min.name Lib.Math.min.code 2 (some .int), Cond.methodLink RX9 164 yX9_landOf, Cond.instanceMethod yX9_landOf, Cond.selects RX9 yX9_landOf yX9_landOf, Cond.code yX9_landOf cX9_landOf 2 (some .int), Cond.fieldLink RX9 9 "DiveChairs$State" "lands" "[I", Cond.methodLink RX9 168 yX2_markFor, Cond.instanceMethod yX2_markFor, Cond.selects RX2 yX2_markFor yX2_markFor, Cond.initialized RX2, Cond.code yX2_markFor cX2_markFor 4 (some .int), Cond.fieldLink RX2 15 "DiveChairs$Judge" "kind" "I", Cond.methodLink RX2 27 yX2_held, Cond.static yX2_held, Cond.code yX2_held cX2_held 1 (some .int), Cond.methodLink RX2 31 yX2_leanTo, Cond.instanceMethod yX2_leanTo, Cond.selects RX2 yX2_leanTo yX2_leanTo]
def wsX9_wouldMark_r4 : List Cond := [Cond.code yX2_leanTo cX2_leanTo 4 (some .int), Cond.fieldLink RX2 18 "DiveChairs$Judge" "land" "I", Cond.fieldLink RX2 24 "DiveChairs$Judge" "partner" "I", Cond.fieldLink RX2 21 "DiveChairs$Judge" "leaning" "I", Cond.methodLink RX9 150 yX5_add, Cond.instanceMethod yX5_add, Cond.selects RX5 yX5_add yX5_add, Cond.initialized RX5, Cond.code yX5_add cX5_add 3 none, Cond.fieldLink RX5 15 "DiveChairs$Panel" "size" "I", Cond.fieldLink RX5 9 "DiveChairs$Panel" "sorted" "[I", Cond.methodLink RX9 143 yX5_middle, Cond.instanceMethod yX5_middle, Cond.selects RX5 yX5_middle yX5_middle, Cond.code yX5_middle cX5_middle 1 (some .int)]
def wsX9_wouldMark : List Cond := .code yX9_wouldMark cX9_wouldMark 5 (some .int) :: ((wsX9_wouldMark_r1 ++ (wsX9_wouldMark_r2 ++ (wsX9_wouldMark_r3 ++ wsX9_wouldMark_r4))) ++ wsX10 ++ wsX20 ++ wsX90 ++ wsX50 ++ wsX60)
def wsX9_markDive_r1 : List Cond := [Cond.fieldLink RX9 126 "DiveChairs$Dive" "hall" "I", Cond.methodLink RX9 122 yX9_diveAt, Cond.instanceMethod yX9_diveAt, Cond.selects RX9 yX9_diveAt yX9_diveAt, Cond.initialized RX9, Cond.code yX9_diveAt cX9_diveAt 2 (some (.object "DiveChairs$Dive")), Cond.fieldLink RX9 72 "DiveChairs$State" "dives" "I", Cond.fieldLink RX9 39 "DiveChairs$State" "divesMade" "[LDiveChairs$Dive;", Cond.static yX11_within, Cond.initialized RX11, Cond.code yX11_within cX11_within 2 (some .boolean), Cond.methodLink RX9 175 yX9_wouldMark, Cond.instanceMethod yX9_wouldMark, Cond.selects RX9 yX9_wouldMark yX9_wouldMark, Cond.code yX9_wouldMark cX9_wouldMark 5 (some .int), Cond.fieldLink RX9 133 "DiveChairs$Judge" "kind" "I", Cond.fieldLink RX9 50 "DiveChairs$State" "panel" "LDiveChairs$Panel;", Cond.fieldLink RX9 140 "DiveChairs$Panel" "size" "I", Cond.methodLink RX9 92 yX9_seatOf, Cond.instanceMethod yX9_seatOf, Cond.selects RX9 yX9_seatOf yX9_seatOf, Cond.code yX9_seatOf cX9_seatOf 3 (some .int), Cond.fieldLink RX9 21 "DiveChairs$State" "seats" "[I", Cond.methodLink RX9 129 yX9_judgeAt]
def wsX9_markDive_r2 : List Cond := [Cond.instanceMethod yX9_judgeAt, Cond.selects RX9 yX9_judgeAt yX9_judgeAt, Cond.code yX9_judgeAt cX9_judgeAt 2 (some (.object "DiveChairs$Judge")), Cond.fieldLink RX9 69 "DiveChairs$State" "judges" "I", Cond.fieldLink RX9 33 "DiveChairs$State" "judgesMade" "[LDiveChairs$Judge;", Cond.methodLink RX9 136 yX9_gatherOthers, Cond.instanceMethod yX9_gatherOthers, Cond.selects RX9 yX9_gatherOthers yX9_gatherOthers, Cond.code yX9_gatherOthers cX9_gatherOthers 5 none, Cond.methodLink RX9 146 yX9_markOf, Cond.instanceMethod yX9_markOf, Cond.selects RX9 yX9_markOf yX9_markOf, Cond.code yX9_markOf cX9_markOf 8 (some .int), Cond.fieldLink RX9 154 "DiveChairs$Dive" "splash" "I", Cond.fieldLink RX9 27 "DiveChairs$State" "rule" "LDiveChairs$Rule;", Cond.fieldLink RX9 106 "DiveChairs$Dive" "flaws" "I", Cond.static yX11_partsSeen, Cond.code yX11_partsSeen cX11_partsSeen 5 (some .int), Cond.methodLink RX9 109 yX6_offFor, Cond.instanceMethod yX6_offFor, Cond.selects RX6 yX6_offFor yX6_offFor, Cond.initialized RX6, Cond.code yX6_offFor cX6_offFor 4 (some .int), Cond.fieldLink RX6 9 "DiveChairs$Rule" "off" "[I"]
def wsX9_markDive_r3 : List Cond := [Cond.methodLink RX9 160 yX9_drawnBy, Cond.instanceMethod yX9_drawnBy, Cond.selects RX9 yX9_drawnBy yX9_drawnBy, Cond.code yX9_drawnBy cX9_drawnBy 6 (some .int), Cond.fieldLink RX9 89 "DiveChairs$Dive" "diver" "I", Cond.fieldLink RX9 65 "DiveChairs$State" "divers" "I", Cond.fieldLink RX9 15 "DiveChairs$State" "names" "[I", Cond.methodLink RX9 172 Lib.Math.min.name, Cond.static Lib.Math.min.name, Cond.initialized "java/lang/Math", Cond.code Lib.Math.min.name Lib.Math.min.code 2 (some .int), Cond.methodLink RX9 164 yX9_landOf, Cond.instanceMethod yX9_landOf, Cond.selects RX9 yX9_landOf yX9_landOf, Cond.code yX9_landOf cX9_landOf 2 (some .int), Cond.fieldLink RX9 9 "DiveChairs$State" "lands" "[I", Cond.methodLink RX9 168 yX2_markFor, Cond.instanceMethod yX2_markFor, Cond.selects RX2 yX2_markFor yX2_markFor, Cond.initialized RX2, Cond.code yX2_markFor cX2_markFor 4 (some .int), Cond.fieldLink RX2 15 "DiveChairs$Judge" "kind" "I", Cond.methodLink RX2 27 yX2_held, Cond.static yX2_held]
def wsX9_markDive_r4 : List Cond := [Cond.code yX2_held cX2_held 1 (some .int), Cond.methodLink RX2 31 yX2_leanTo, Cond.instanceMethod yX2_leanTo, Cond.selects RX2 yX2_leanTo yX2_leanTo, Cond.code yX2_leanTo cX2_leanTo 4 (some .int), Cond.fieldLink RX2 18 "DiveChairs$Judge" "land" "I", Cond.fieldLink RX2 24 "DiveChairs$Judge" "partner" "I", Cond.fieldLink RX2 21 "DiveChairs$Judge" "leaning" "I", Cond.methodLink RX9 150 yX5_add, Cond.instanceMethod yX5_add, Cond.selects RX5 yX5_add yX5_add, Cond.initialized RX5, Cond.code yX5_add cX5_add 3 none, Cond.fieldLink RX5 15 "DiveChairs$Panel" "size" "I", Cond.fieldLink RX5 9 "DiveChairs$Panel" "sorted" "[I", Cond.methodLink RX9 143 yX5_middle, Cond.instanceMethod yX5_middle, Cond.selects RX5 yX5_middle yX5_middle, Cond.code yX5_middle cX5_middle 1 (some .int), Cond.methodLink RX9 178 yX1_tell, Cond.instanceMethod yX1_tell, Cond.selects RX1 yX1_tell yX1_tell, Cond.initialized RX1, Cond.code yX1_tell cX1_tell 4 none]
def wsX9_markDive_r5 : List Cond := [Cond.fieldLink RX1 9 "DiveChairs$Dive" "marks" "[I", Cond.fieldLink RX1 15 "DiveChairs$Dive" "markers" "[I", Cond.methodLink RX9 96 yX1_marksThere, Cond.instanceMethod yX1_marksThere, Cond.selects RX1 yX1_marksThere yX1_marksThere, Cond.code yX1_marksThere cX1_marksThere 3 (some .int)]
def wsX9_markDive : List Cond := .code yX9_markDive cX9_markDive 5 (some .int) :: ((wsX9_markDive_r1 ++ (wsX9_markDive_r2 ++ (wsX9_markDive_r3 ++ (wsX9_markDive_r4 ++ wsX9_markDive_r5)))) ++ wsX10 ++ wsX90 ++ wsX20 ++ wsX50 ++ wsX60)
def wsX9_addUp_r1 : List Cond := [Cond.fieldLink RX9 43 "DiveChairs$State" "totals" "[J", Cond.fieldLink RX9 72 "DiveChairs$State" "dives" "I", Cond.fieldLink RX9 39 "DiveChairs$State" "divesMade" "[LDiveChairs$Dive;", Cond.fieldLink RX9 126 "DiveChairs$Dive" "hall" "I", Cond.fieldLink RX9 89 "DiveChairs$Dive" "diver" "I", Cond.fieldLink RX9 184 "DiveChairs$Dive" "hard" "I", Cond.static yX11_within, Cond.initialized RX11, Cond.code yX11_within cX11_within 2 (some .boolean), Cond.methodLink RX9 181 yX9_worthOf, Cond.instanceMethod yX9_worthOf, Cond.selects RX9 yX9_worthOf yX9_worthOf, Cond.initialized RX9, Cond.code yX9_worthOf cX9_worthOf 2 (some .int), Cond.fieldLink RX9 27 "DiveChairs$State" "rule" "LDiveChairs$Rule;", Cond.fieldLink RX9 106 "DiveChairs$Dive" "flaws" "I", Cond.methodLink RX9 113 Lib.Math.max.name, Cond.static Lib.Math.max.name, Cond.initialized "java/lang/Math", Cond.code Lib.Math.max.name Lib.Math.max.code 2 (some .int), Cond.methodLink RX9 109 yX6_offFor, Cond.instanceMethod yX6_offFor, Cond.selects RX6 yX6_offFor yX6_offFor, Cond.initialized RX6]
def wsX9_addUp_r2 : List Cond := [Cond.code yX6_offFor cX6_offFor 4 (some .int), Cond.fieldLink RX6 9 "DiveChairs$Rule" "off" "[I", Cond.methodLink RX9 187 yX9_countOf, Cond.instanceMethod yX9_countOf, Cond.selects RX9 yX9_countOf yX9_countOf, Cond.code yX9_countOf cX9_countOf 2 (some .int), Cond.fieldLink RX9 50 "DiveChairs$State" "panel" "LDiveChairs$Panel;", Cond.methodLink RX9 100 yX5_gather, Cond.instanceMethod yX5_gather, Cond.selects RX5 yX5_gather yX5_gather, Cond.initialized RX5, Cond.code yX5_gather cX5_gather 3 none, Cond.fieldLink RX5 15 "DiveChairs$Panel" "size" "I", Cond.fieldLink RX5 25 "DiveChairs$Dive" "marks" "[I", Cond.methodLink RX5 19 yX1_hasMark, Cond.instanceMethod yX1_hasMark, Cond.selects RX1 yX1_hasMark yX1_hasMark, Cond.initialized RX1, Cond.code yX1_hasMark cX1_hasMark 2 (some .boolean), Cond.fieldLink RX1 9 "DiveChairs$Dive" "marks" "[I", Cond.methodLink RX5 28 yX5_add, Cond.instanceMethod yX5_add, Cond.selects RX5 yX5_add yX5_add, Cond.code yX5_add cX5_add 3 none]
def wsX9_addUp_r3 : List Cond := [Cond.fieldLink RX5 9 "DiveChairs$Panel" "sorted" "[I", Cond.methodLink RX9 118 yX6_countFor, Cond.instanceMethod yX6_countFor, Cond.selects RX6 yX6_countFor yX6_countFor, Cond.code yX6_countFor cX6_countFor 6 (some .int), Cond.fieldLink RX6 41 "DiveChairs$Panel" "size" "I", Cond.fieldLink RX6 15 "DiveChairs$Rule" "dropHighest" "I", Cond.fieldLink RX6 19 "DiveChairs$Rule" "dropLowest" "I", Cond.fieldLink RX6 38 "DiveChairs$Rule" "length" "I", Cond.fieldLink RX6 22 "DiveChairs$Rule" "code" "[I", Cond.fieldLink RX6 25 "DiveChairs$Rule" "stack" "[I", Cond.methodLink RX6 46 yX6_isWorking, Cond.static yX6_isWorking, Cond.code yX6_isWorking cX6_isWorking 1 (some .boolean), Cond.methodLink RX6 50 yX6_fieldOf, Cond.instanceMethod yX6_fieldOf, Cond.selects RX6 yX6_fieldOf yX6_fieldOf, Cond.code yX6_fieldOf cX6_fieldOf 4 (some .int), Cond.fieldLink RX6 70 "DiveChairs$Dive" "hard" "I", Cond.fieldLink RX6 85 "DiveChairs$Dive" "splash" "I", Cond.methodLink RX6 67 yX5_sumBetween, Cond.instanceMethod yX5_sumBetween, Cond.selects RX5 yX5_sumBetween yX5_sumBetween, Cond.code yX5_sumBetween cX5_sumBetween 5 (some .int)]
def wsX9_addUp_r4 : List Cond := [Cond.methodLink RX6 75 yX5_middle, Cond.instanceMethod yX5_middle, Cond.selects RX5 yX5_middle yX5_middle, Cond.code yX5_middle cX5_middle 1 (some .int), Cond.methodLink RX6 79 yX5_highest, Cond.instanceMethod yX5_highest, Cond.selects RX5 yX5_highest yX5_highest, Cond.code yX5_highest cX5_highest 1 (some .int), Cond.methodLink RX6 82 yX5_lowest, Cond.instanceMethod yX5_lowest, Cond.selects RX5 yX5_lowest yX5_lowest, Cond.code yX5_lowest cX5_lowest 1 (some .int), Cond.methodLink RX6 54 yX6_worked, Cond.static yX6_worked, Cond.code yX6_worked cX6_worked 3 (some .int), Cond.methodLink RX6 58 Lib.Math.min.name, Cond.static Lib.Math.min.name, Cond.code Lib.Math.min.name Lib.Math.min.code 2 (some .int), Cond.methodLink RX6 64 Lib.Math.max.name]
def wsX9_addUp : List Cond := .code yX9_addUp cX9_addUp 6 (some .int) :: ((wsX9_addUp_r1 ++ (wsX9_addUp_r2 ++ (wsX9_addUp_r3 ++ wsX9_addUp_r4))) ++ wsX90 ++ wsX10 ++ wsX60 ++ wsX50)
def wsX9_placeOf_r1 : List Cond := [Cond.fieldLink RX9 43 "DiveChairs$State" "totals" "[J", Cond.methodLink RX9 190 yX9_addUp, Cond.instanceMethod yX9_addUp, Cond.selects RX9 yX9_addUp yX9_addUp, Cond.initialized RX9, Cond.code yX9_addUp cX9_addUp 6 (some .int), Cond.fieldLink RX9 72 "DiveChairs$State" "dives" "I", Cond.fieldLink RX9 39 "DiveChairs$State" "divesMade" "[LDiveChairs$Dive;", Cond.fieldLink RX9 126 "DiveChairs$Dive" "hall" "I", Cond.fieldLink RX9 89 "DiveChairs$Dive" "diver" "I", Cond.fieldLink RX9 184 "DiveChairs$Dive" "hard" "I", Cond.static yX11_within, Cond.initialized RX11, Cond.code yX11_within cX11_within 2 (some .boolean), Cond.methodLink RX9 181 yX9_worthOf, Cond.instanceMethod yX9_worthOf, Cond.selects RX9 yX9_worthOf yX9_worthOf, Cond.code yX9_worthOf cX9_worthOf 2 (some .int), Cond.fieldLink RX9 27 "DiveChairs$State" "rule" "LDiveChairs$Rule;", Cond.fieldLink RX9 106 "DiveChairs$Dive" "flaws" "I", Cond.methodLink RX9 113 Lib.Math.max.name, Cond.static Lib.Math.max.name, Cond.initialized "java/lang/Math", Cond.code Lib.Math.max.name Lib.Math.max.code 2 (some .int)]
def wsX9_placeOf_r2 : List Cond := [Cond.methodLink RX9 109 yX6_offFor, Cond.instanceMethod yX6_offFor, Cond.selects RX6 yX6_offFor yX6_offFor, Cond.initialized RX6, Cond.code yX6_offFor cX6_offFor 4 (some .int), Cond.fieldLink RX6 9 "DiveChairs$Rule" "off" "[I", Cond.methodLink RX9 187 yX9_countOf, Cond.instanceMethod yX9_countOf, Cond.selects RX9 yX9_countOf yX9_countOf, Cond.code yX9_countOf cX9_countOf 2 (some .int), Cond.fieldLink RX9 50 "DiveChairs$State" "panel" "LDiveChairs$Panel;", Cond.methodLink RX9 100 yX5_gather, Cond.instanceMethod yX5_gather, Cond.selects RX5 yX5_gather yX5_gather, Cond.initialized RX5, Cond.code yX5_gather cX5_gather 3 none, Cond.fieldLink RX5 15 "DiveChairs$Panel" "size" "I", Cond.fieldLink RX5 25 "DiveChairs$Dive" "marks" "[I", Cond.methodLink RX5 19 yX1_hasMark, Cond.instanceMethod yX1_hasMark, Cond.selects RX1 yX1_hasMark yX1_hasMark, Cond.initialized RX1, Cond.code yX1_hasMark cX1_hasMark 2 (some .boolean), Cond.fieldLink RX1 9 "DiveChairs$Dive" "marks" "[I"]
def wsX9_placeOf_r3 : List Cond := [Cond.methodLink RX5 28 yX5_add, Cond.instanceMethod yX5_add, Cond.selects RX5 yX5_add yX5_add, Cond.code yX5_add cX5_add 3 none, Cond.fieldLink RX5 9 "DiveChairs$Panel" "sorted" "[I", Cond.methodLink RX9 118 yX6_countFor, Cond.instanceMethod yX6_countFor, Cond.selects RX6 yX6_countFor yX6_countFor, Cond.code yX6_countFor cX6_countFor 6 (some .int), Cond.fieldLink RX6 41 "DiveChairs$Panel" "size" "I", Cond.fieldLink RX6 15 "DiveChairs$Rule" "dropHighest" "I", Cond.fieldLink RX6 19 "DiveChairs$Rule" "dropLowest" "I", Cond.fieldLink RX6 38 "DiveChairs$Rule" "length" "I", Cond.fieldLink RX6 22 "DiveChairs$Rule" "code" "[I", Cond.fieldLink RX6 25 "DiveChairs$Rule" "stack" "[I", Cond.methodLink RX6 46 yX6_isWorking, Cond.static yX6_isWorking, Cond.code yX6_isWorking cX6_isWorking 1 (some .boolean), Cond.methodLink RX6 50 yX6_fieldOf, Cond.instanceMethod yX6_fieldOf, Cond.selects RX6 yX6_fieldOf yX6_fieldOf, Cond.code yX6_fieldOf cX6_fieldOf 4 (some .int), Cond.fieldLink RX6 70 "DiveChairs$Dive" "hard" "I", Cond.fieldLink RX6 85 "DiveChairs$Dive" "splash" "I"]
def wsX9_placeOf_r4 : List Cond := [Cond.methodLink RX6 67 yX5_sumBetween, Cond.instanceMethod yX5_sumBetween, Cond.selects RX5 yX5_sumBetween yX5_sumBetween, Cond.code yX5_sumBetween cX5_sumBetween 5 (some .int), Cond.methodLink RX6 75 yX5_middle, Cond.instanceMethod yX5_middle, Cond.selects RX5 yX5_middle yX5_middle, Cond.code yX5_middle cX5_middle 1 (some .int), Cond.methodLink RX6 79 yX5_highest, Cond.instanceMethod yX5_highest, Cond.selects RX5 yX5_highest yX5_highest, Cond.code yX5_highest cX5_highest 1 (some .int), Cond.methodLink RX6 82 yX5_lowest, Cond.instanceMethod yX5_lowest, Cond.selects RX5 yX5_lowest yX5_lowest, Cond.code yX5_lowest cX5_lowest 1 (some .int), Cond.methodLink RX6 54 yX6_worked, Cond.static yX6_worked, Cond.code yX6_worked cX6_worked 3 (some .int), Cond.methodLink RX6 58 Lib.Math.min.name, Cond.static Lib.Math.min.name, Cond.code Lib.Math.min.name Lib.Math.min.code 2 (some .int), Cond.methodLink RX6 64 Lib.Math.max.name, Cond.static yX11_holds]
def wsX9_placeOf_r5 : List Cond := [Cond.code yX11_holds cX11_holds 2 (some .boolean)]
def wsX9_placeOf : List Cond := .code yX9_placeOf cX9_placeOf 7 (some .int) :: ((wsX9_placeOf_r1 ++ (wsX9_placeOf_r2 ++ (wsX9_placeOf_r3 ++ (wsX9_placeOf_r4 ++ wsX9_placeOf_r5)))) ++ wsX90 ++ wsX10 ++ wsX60 ++ wsX50)
def wsX9_winner_r1 : List Cond := [Cond.fieldLink RX9 43 "DiveChairs$State" "totals" "[J", Cond.methodLink RX9 190 yX9_addUp, Cond.instanceMethod yX9_addUp, Cond.selects RX9 yX9_addUp yX9_addUp, Cond.initialized RX9, Cond.code yX9_addUp cX9_addUp 6 (some .int), Cond.fieldLink RX9 72 "DiveChairs$State" "dives" "I", Cond.fieldLink RX9 39 "DiveChairs$State" "divesMade" "[LDiveChairs$Dive;", Cond.fieldLink RX9 126 "DiveChairs$Dive" "hall" "I", Cond.fieldLink RX9 89 "DiveChairs$Dive" "diver" "I", Cond.fieldLink RX9 184 "DiveChairs$Dive" "hard" "I", Cond.static yX11_within, Cond.initialized RX11, Cond.code yX11_within cX11_within 2 (some .boolean), Cond.methodLink RX9 181 yX9_worthOf, Cond.instanceMethod yX9_worthOf, Cond.selects RX9 yX9_worthOf yX9_worthOf, Cond.code yX9_worthOf cX9_worthOf 2 (some .int), Cond.fieldLink RX9 27 "DiveChairs$State" "rule" "LDiveChairs$Rule;", Cond.fieldLink RX9 106 "DiveChairs$Dive" "flaws" "I", Cond.methodLink RX9 113 Lib.Math.max.name, Cond.static Lib.Math.max.name, Cond.initialized "java/lang/Math", Cond.code Lib.Math.max.name Lib.Math.max.code 2 (some .int)]
def wsX9_winner_r2 : List Cond := [Cond.methodLink RX9 109 yX6_offFor, Cond.instanceMethod yX6_offFor, Cond.selects RX6 yX6_offFor yX6_offFor, Cond.initialized RX6, Cond.code yX6_offFor cX6_offFor 4 (some .int), Cond.fieldLink RX6 9 "DiveChairs$Rule" "off" "[I", Cond.methodLink RX9 187 yX9_countOf, Cond.instanceMethod yX9_countOf, Cond.selects RX9 yX9_countOf yX9_countOf, Cond.code yX9_countOf cX9_countOf 2 (some .int), Cond.fieldLink RX9 50 "DiveChairs$State" "panel" "LDiveChairs$Panel;", Cond.methodLink RX9 100 yX5_gather, Cond.instanceMethod yX5_gather, Cond.selects RX5 yX5_gather yX5_gather, Cond.initialized RX5, Cond.code yX5_gather cX5_gather 3 none, Cond.fieldLink RX5 15 "DiveChairs$Panel" "size" "I", Cond.fieldLink RX5 25 "DiveChairs$Dive" "marks" "[I", Cond.methodLink RX5 19 yX1_hasMark, Cond.instanceMethod yX1_hasMark, Cond.selects RX1 yX1_hasMark yX1_hasMark, Cond.initialized RX1, Cond.code yX1_hasMark cX1_hasMark 2 (some .boolean), Cond.fieldLink RX1 9 "DiveChairs$Dive" "marks" "[I"]
def wsX9_winner_r3 : List Cond := [Cond.methodLink RX5 28 yX5_add, Cond.instanceMethod yX5_add, Cond.selects RX5 yX5_add yX5_add, Cond.code yX5_add cX5_add 3 none, Cond.fieldLink RX5 9 "DiveChairs$Panel" "sorted" "[I", Cond.methodLink RX9 118 yX6_countFor, Cond.instanceMethod yX6_countFor, Cond.selects RX6 yX6_countFor yX6_countFor, Cond.code yX6_countFor cX6_countFor 6 (some .int), Cond.fieldLink RX6 41 "DiveChairs$Panel" "size" "I", Cond.fieldLink RX6 15 "DiveChairs$Rule" "dropHighest" "I", Cond.fieldLink RX6 19 "DiveChairs$Rule" "dropLowest" "I", Cond.fieldLink RX6 38 "DiveChairs$Rule" "length" "I", Cond.fieldLink RX6 22 "DiveChairs$Rule" "code" "[I", Cond.fieldLink RX6 25 "DiveChairs$Rule" "stack" "[I", Cond.methodLink RX6 46 yX6_isWorking, Cond.static yX6_isWorking, Cond.code yX6_isWorking cX6_isWorking 1 (some .boolean), Cond.methodLink RX6 50 yX6_fieldOf, Cond.instanceMethod yX6_fieldOf, Cond.selects RX6 yX6_fieldOf yX6_fieldOf, Cond.code yX6_fieldOf cX6_fieldOf 4 (some .int), Cond.fieldLink RX6 70 "DiveChairs$Dive" "hard" "I", Cond.fieldLink RX6 85 "DiveChairs$Dive" "splash" "I"]
def wsX9_winner_r4 : List Cond := [Cond.methodLink RX6 67 yX5_sumBetween, Cond.instanceMethod yX5_sumBetween, Cond.selects RX5 yX5_sumBetween yX5_sumBetween, Cond.code yX5_sumBetween cX5_sumBetween 5 (some .int), Cond.methodLink RX6 75 yX5_middle, Cond.instanceMethod yX5_middle, Cond.selects RX5 yX5_middle yX5_middle, Cond.code yX5_middle cX5_middle 1 (some .int), Cond.methodLink RX6 79 yX5_highest, Cond.instanceMethod yX5_highest, Cond.selects RX5 yX5_highest yX5_highest, Cond.code yX5_highest cX5_highest 1 (some .int), Cond.methodLink RX6 82 yX5_lowest, Cond.instanceMethod yX5_lowest, Cond.selects RX5 yX5_lowest yX5_lowest, Cond.code yX5_lowest cX5_lowest 1 (some .int), Cond.methodLink RX6 54 yX6_worked, Cond.static yX6_worked, Cond.code yX6_worked cX6_worked 3 (some .int), Cond.methodLink RX6 58 Lib.Math.min.name, Cond.static Lib.Math.min.name, Cond.code Lib.Math.min.name Lib.Math.min.code 2 (some .int), Cond.methodLink RX6 64 Lib.Math.max.name, Cond.static yX11_holds]
def wsX9_winner_r5 : List Cond := [Cond.code yX11_holds cX11_holds 2 (some .boolean)]
def wsX9_winner : List Cond := .code yX9_winner cX9_winner 5 (some .int) :: ((wsX9_winner_r1 ++ (wsX9_winner_r2 ++ (wsX9_winner_r3 ++ (wsX9_winner_r4 ++ wsX9_winner_r5)))) ++ wsX90 ++ wsX10 ++ wsX60 ++ wsX50)
def wsX9_takeChairOff : List Cond := .code yX9_takeChairOff cX9_takeChairOff 3 none :: ([.fieldLink RX9 72 "DiveChairs$State" "dives" "I", .fieldLink RX9 39 "DiveChairs$State" "divesMade" "[LDiveChairs$Dive;", .methodLink RX9 178 yX1_tell, .instanceMethod yX1_tell, .selects RX1 yX1_tell yX1_tell, .initialized RX1, .code yX1_tell cX1_tell 4 none, .fieldLink RX1 9 "DiveChairs$Dive" "marks" "[I", .fieldLink RX1 15 "DiveChairs$Dive" "markers" "[I", .static yX11_within, .initialized RX11, .code yX11_within cX11_within 2 (some .boolean)] ++ wsX90 ++ wsX10)
def wsX9_takeLeansOff_r1 : List Cond := [Cond.fieldLink RX9 72 "DiveChairs$State" "dives" "I", Cond.fieldLink RX9 39 "DiveChairs$State" "divesMade" "[LDiveChairs$Dive;", Cond.fieldLink RX9 197 "DiveChairs$Dive" "markers" "[I", Cond.fieldLink RX9 204 "DiveChairs$Dive" "marks" "[I", Cond.methodLink RX9 113 Lib.Math.max.name, Cond.static Lib.Math.max.name, Cond.initialized "java/lang/Math", Cond.code Lib.Math.max.name Lib.Math.max.code 2 (some .int), Cond.methodLink RX9 129 yX9_judgeAt, Cond.instanceMethod yX9_judgeAt, Cond.selects RX9 yX9_judgeAt yX9_judgeAt, Cond.initialized RX9, Cond.code yX9_judgeAt cX9_judgeAt 2 (some (.object "DiveChairs$Judge")), Cond.fieldLink RX9 69 "DiveChairs$State" "judges" "I", Cond.fieldLink RX9 33 "DiveChairs$State" "judgesMade" "[LDiveChairs$Judge;", Cond.static yX11_within, Cond.initialized RX11, Cond.code yX11_within cX11_within 2 (some .boolean), Cond.methodLink RX9 200 yX1_hasMark, Cond.instanceMethod yX1_hasMark, Cond.selects RX1 yX1_hasMark yX1_hasMark, Cond.initialized RX1, Cond.code yX1_hasMark cX1_hasMark 2 (some .boolean), Cond.fieldLink RX1 9 "DiveChairs$Dive" "marks" "[I"]
def wsX9_takeLeansOff_r2 : List Cond := [Cond.methodLink RX9 164 yX9_landOf, Cond.instanceMethod yX9_landOf, Cond.selects RX9 yX9_landOf yX9_landOf, Cond.code yX9_landOf cX9_landOf 2 (some .int), Cond.fieldLink RX9 89 "DiveChairs$Dive" "diver" "I", Cond.fieldLink RX9 65 "DiveChairs$State" "divers" "I", Cond.fieldLink RX9 9 "DiveChairs$State" "lands" "[I", Cond.methodLink RX9 207 yX2_leanTo, Cond.instanceMethod yX2_leanTo, Cond.selects RX2 yX2_leanTo yX2_leanTo, Cond.initialized RX2, Cond.code yX2_leanTo cX2_leanTo 4 (some .int), Cond.fieldLink RX2 15 "DiveChairs$Judge" "kind" "I", Cond.fieldLink RX2 18 "DiveChairs$Judge" "land" "I", Cond.fieldLink RX2 24 "DiveChairs$Judge" "partner" "I", Cond.fieldLink RX2 21 "DiveChairs$Judge" "leaning" "I"]
def wsX9_takeLeansOff : List Cond := .code yX9_takeLeansOff cX9_takeLeansOff 5 none :: ((wsX9_takeLeansOff_r1 ++ wsX9_takeLeansOff_r2) ++ wsX90 ++ wsX10 ++ wsX20)
def wsX9_moveUp : List Cond := .code yX9_moveUp cX9_moveUp 7 none :: ([.fieldLink RX9 72 "DiveChairs$State" "dives" "I", .fieldLink RX9 39 "DiveChairs$State" "divesMade" "[LDiveChairs$Dive;", .fieldLink RX9 126 "DiveChairs$Dive" "hall" "I", .fieldLink RX9 204 "DiveChairs$Dive" "marks" "[I", .fieldLink RX9 89 "DiveChairs$Dive" "diver" "I", .static yX11_holds, .initialized RX11, .code yX11_holds cX11_holds 2 (some .boolean), .methodLink RX9 200 yX1_hasMark, .instanceMethod yX1_hasMark, .selects RX1 yX1_hasMark yX1_hasMark, .initialized RX1, .code yX1_hasMark cX1_hasMark 2 (some .boolean), .fieldLink RX1 9 "DiveChairs$Dive" "marks" "[I", .static yX11_within, .code yX11_within cX11_within 2 (some .boolean)] ++ wsX90 ++ wsX10)
def wsX10_start : List Cond := .code yX10_start cX10_start 1 none :: ([.fieldLink RX10 7 "DiveChairs$Tally" "sum" "I", .fieldLink RX10 13 "DiveChairs$Tally" "many" "I", .fieldLink RX10 16 "DiveChairs$Tally" "least" "I", .fieldLink RX10 19 "DiveChairs$Tally" "greatest" "I", .fieldLink RX10 22 "DiveChairs$Tally" "distance" "I"] ++ wsX100)
def wsX10_take : List Cond := .code yX10_take cX10_take 2 none :: ([.fieldLink RX10 13 "DiveChairs$Tally" "many" "I", .fieldLink RX10 16 "DiveChairs$Tally" "least" "I", .methodLink RX10 25 Lib.Math.min.name, .static Lib.Math.min.name, .initialized "java/lang/Math", .code Lib.Math.min.name Lib.Math.min.code 2 (some .int), .fieldLink RX10 19 "DiveChairs$Tally" "greatest" "I", .methodLink RX10 31 Lib.Math.max.name, .static Lib.Math.max.name, .code Lib.Math.max.name Lib.Math.max.code 2 (some .int), .fieldLink RX10 7 "DiveChairs$Tally" "sum" "I", .fieldLink RX10 22 "DiveChairs$Tally" "distance" "I", .methodLink RX10 34 Lib.Math.abs.name, .static Lib.Math.abs.name, .code Lib.Math.abs.name Lib.Math.abs.code 1 (some .int)] ++ wsX100)
def wsX9_tallyUp_r1 : List Cond := [Cond.fieldLink RX9 72 "DiveChairs$State" "dives" "I", Cond.fieldLink RX9 39 "DiveChairs$State" "divesMade" "[LDiveChairs$Dive;", Cond.fieldLink RX9 50 "DiveChairs$State" "panel" "LDiveChairs$Panel;", Cond.methodLink RX9 210 yX10_start, Cond.instanceMethod yX10_start, Cond.selects RX10 yX10_start yX10_start, Cond.initialized RX10, Cond.code yX10_start cX10_start 1 none, Cond.fieldLink RX10 7 "DiveChairs$Tally" "sum" "I", Cond.fieldLink RX10 13 "DiveChairs$Tally" "many" "I", Cond.fieldLink RX10 16 "DiveChairs$Tally" "least" "I", Cond.fieldLink RX10 19 "DiveChairs$Tally" "greatest" "I", Cond.fieldLink RX10 22 "DiveChairs$Tally" "distance" "I", Cond.methodLink RX9 215 yX1_markBy, Cond.instanceMethod yX1_markBy, Cond.selects RX1 yX1_markBy yX1_markBy, Cond.initialized RX1, Cond.code yX1_markBy cX1_markBy 3 (some .int), Cond.fieldLink RX1 15 "DiveChairs$Dive" "markers" "[I", Cond.fieldLink RX1 9 "DiveChairs$Dive" "marks" "[I", Cond.methodLink RX9 164 yX9_landOf, Cond.instanceMethod yX9_landOf, Cond.selects RX9 yX9_landOf yX9_landOf, Cond.initialized RX9]
def wsX9_tallyUp_r2 : List Cond := [Cond.code yX9_landOf cX9_landOf 2 (some .int), Cond.fieldLink RX9 89 "DiveChairs$Dive" "diver" "I", Cond.fieldLink RX9 65 "DiveChairs$State" "divers" "I", Cond.fieldLink RX9 9 "DiveChairs$State" "lands" "[I", Cond.static yX11_within, Cond.initialized RX11, Cond.code yX11_within cX11_within 2 (some .boolean), Cond.methodLink RX9 100 yX5_gather, Cond.instanceMethod yX5_gather, Cond.selects RX5 yX5_gather yX5_gather, Cond.initialized RX5, Cond.code yX5_gather cX5_gather 3 none, Cond.fieldLink RX5 15 "DiveChairs$Panel" "size" "I", Cond.fieldLink RX5 25 "DiveChairs$Dive" "marks" "[I", Cond.methodLink RX5 19 yX1_hasMark, Cond.instanceMethod yX1_hasMark, Cond.selects RX1 yX1_hasMark yX1_hasMark, Cond.code yX1_hasMark cX1_hasMark 2 (some .boolean), Cond.methodLink RX5 28 yX5_add, Cond.instanceMethod yX5_add, Cond.selects RX5 yX5_add yX5_add, Cond.code yX5_add cX5_add 3 none, Cond.fieldLink RX5 9 "DiveChairs$Panel" "sorted" "[I", Cond.methodLink RX9 143 yX5_middle]
def wsX9_tallyUp_r3 : List Cond := [Cond.instanceMethod yX5_middle, Cond.selects RX5 yX5_middle yX5_middle, Cond.code yX5_middle cX5_middle 1 (some .int), Cond.methodLink RX9 218 yX10_take, Cond.instanceMethod yX10_take, Cond.selects RX10 yX10_take yX10_take, Cond.code yX10_take cX10_take 2 none, Cond.methodLink RX10 25 Lib.Math.min.name, Cond.static Lib.Math.min.name, Cond.initialized "java/lang/Math", Cond.code Lib.Math.min.name Lib.Math.min.code 2 (some .int), Cond.methodLink RX10 31 Lib.Math.max.name, Cond.static Lib.Math.max.name, Cond.code Lib.Math.max.name Lib.Math.max.code 2 (some .int), Cond.methodLink RX10 34 Lib.Math.abs.name, Cond.static Lib.Math.abs.name, Cond.code Lib.Math.abs.name Lib.Math.abs.code 1 (some .int)]
def wsX9_tallyUp : List Cond := .code yX9_tallyUp cX9_tallyUp 7 none :: ((wsX9_tallyUp_r1 ++ (wsX9_tallyUp_r2 ++ wsX9_tallyUp_r3)) ++ wsX90 ++ wsX100 ++ wsX10 ++ wsX50)
def wsX9_meanOf : List Cond := .code yX9_meanOf cX9_meanOf 8 (some .int) :: ([.fieldLink RX9 72 "DiveChairs$State" "dives" "I", .fieldLink RX9 39 "DiveChairs$State" "divesMade" "[LDiveChairs$Dive;", .fieldLink RX9 126 "DiveChairs$Dive" "hall" "I", .fieldLink RX9 18 "DiveChairs$State" "years" "[I", .methodLink RX9 215 yX1_markBy, .instanceMethod yX1_markBy, .selects RX1 yX1_markBy yX1_markBy, .initialized RX1, .code yX1_markBy cX1_markBy 3 (some .int), .fieldLink RX1 15 "DiveChairs$Dive" "markers" "[I", .fieldLink RX1 9 "DiveChairs$Dive" "marks" "[I", .static yX11_within, .initialized RX11, .code yX11_within cX11_within 2 (some .boolean)] ++ wsX90 ++ wsX10)
def wsX9_flawAnew : List Cond := .code yX9_flawAnew cX9_flawAnew 6 (some .int) :: ([.fieldLink RX9 72 "DiveChairs$State" "dives" "I", .fieldLink RX9 39 "DiveChairs$State" "divesMade" "[LDiveChairs$Dive;", .fieldLink RX9 126 "DiveChairs$Dive" "hall" "I", .constant RX9 221 (1103515245), .constant RX9 222 (2147483647), .constant RX9 223 (65536), .fieldLink RX9 106 "DiveChairs$Dive" "flaws" "I"] ++ wsX90 ++ wsX10)
def wsX9_isRight_r1 : List Cond := [Cond.fieldLink RX9 72 "DiveChairs$State" "dives" "I", Cond.fieldLink RX9 39 "DiveChairs$State" "divesMade" "[LDiveChairs$Dive;", Cond.fieldLink RX9 126 "DiveChairs$Dive" "hall" "I", Cond.methodLink RX9 224 yX9_markDive, Cond.instanceMethod yX9_markDive, Cond.selects RX9 yX9_markDive yX9_markDive, Cond.initialized RX9, Cond.code yX9_markDive cX9_markDive 5 (some .int), Cond.methodLink RX9 122 yX9_diveAt, Cond.instanceMethod yX9_diveAt, Cond.selects RX9 yX9_diveAt yX9_diveAt, Cond.code yX9_diveAt cX9_diveAt 2 (some (.object "DiveChairs$Dive")), Cond.static yX11_within, Cond.initialized RX11, Cond.code yX11_within cX11_within 2 (some .boolean), Cond.methodLink RX9 175 yX9_wouldMark, Cond.instanceMethod yX9_wouldMark, Cond.selects RX9 yX9_wouldMark yX9_wouldMark, Cond.code yX9_wouldMark cX9_wouldMark 5 (some .int), Cond.fieldLink RX9 133 "DiveChairs$Judge" "kind" "I", Cond.fieldLink RX9 50 "DiveChairs$State" "panel" "LDiveChairs$Panel;", Cond.fieldLink RX9 140 "DiveChairs$Panel" "size" "I", Cond.methodLink RX9 92 yX9_seatOf, Cond.instanceMethod yX9_seatOf]
def wsX9_isRight_r2 : List Cond := [Cond.selects RX9 yX9_seatOf yX9_seatOf, Cond.code yX9_seatOf cX9_seatOf 3 (some .int), Cond.fieldLink RX9 21 "DiveChairs$State" "seats" "[I", Cond.methodLink RX9 129 yX9_judgeAt, Cond.instanceMethod yX9_judgeAt, Cond.selects RX9 yX9_judgeAt yX9_judgeAt, Cond.code yX9_judgeAt cX9_judgeAt 2 (some (.object "DiveChairs$Judge")), Cond.fieldLink RX9 69 "DiveChairs$State" "judges" "I", Cond.fieldLink RX9 33 "DiveChairs$State" "judgesMade" "[LDiveChairs$Judge;", Cond.methodLink RX9 136 yX9_gatherOthers, Cond.instanceMethod yX9_gatherOthers, Cond.selects RX9 yX9_gatherOthers yX9_gatherOthers, Cond.code yX9_gatherOthers cX9_gatherOthers 5 none, Cond.methodLink RX9 146 yX9_markOf, Cond.instanceMethod yX9_markOf, Cond.selects RX9 yX9_markOf yX9_markOf, Cond.code yX9_markOf cX9_markOf 8 (some .int), Cond.fieldLink RX9 154 "DiveChairs$Dive" "splash" "I", Cond.fieldLink RX9 27 "DiveChairs$State" "rule" "LDiveChairs$Rule;", Cond.fieldLink RX9 106 "DiveChairs$Dive" "flaws" "I", Cond.static yX11_partsSeen, Cond.code yX11_partsSeen cX11_partsSeen 5 (some .int), Cond.methodLink RX9 109 yX6_offFor, Cond.instanceMethod yX6_offFor]
def wsX9_isRight_r3 : List Cond := [Cond.selects RX6 yX6_offFor yX6_offFor, Cond.initialized RX6, Cond.code yX6_offFor cX6_offFor 4 (some .int), Cond.fieldLink RX6 9 "DiveChairs$Rule" "off" "[I", Cond.methodLink RX9 160 yX9_drawnBy, Cond.instanceMethod yX9_drawnBy, Cond.selects RX9 yX9_drawnBy yX9_drawnBy, Cond.code yX9_drawnBy cX9_drawnBy 6 (some .int), Cond.fieldLink RX9 89 "DiveChairs$Dive" "diver" "I", Cond.fieldLink RX9 65 "DiveChairs$State" "divers" "I", Cond.fieldLink RX9 15 "DiveChairs$State" "names" "[I", Cond.methodLink RX9 172 Lib.Math.min.name, Cond.static Lib.Math.min.name, Cond.initialized "java/lang/Math", Cond.code Lib.Math.min.name Lib.Math.min.code 2 (some .int), Cond.methodLink RX9 164 yX9_landOf, Cond.instanceMethod yX9_landOf, Cond.selects RX9 yX9_landOf yX9_landOf, Cond.code yX9_landOf cX9_landOf 2 (some .int), Cond.fieldLink RX9 9 "DiveChairs$State" "lands" "[I", Cond.methodLink RX9 168 yX2_markFor, Cond.instanceMethod yX2_markFor, Cond.selects RX2 yX2_markFor yX2_markFor, Cond.initialized RX2]
def wsX9_isRight_r4 : List Cond := [Cond.code yX2_markFor cX2_markFor 4 (some .int), Cond.fieldLink RX2 15 "DiveChairs$Judge" "kind" "I", Cond.methodLink RX2 27 yX2_held, Cond.static yX2_held, Cond.code yX2_held cX2_held 1 (some .int), Cond.methodLink RX2 31 yX2_leanTo, Cond.instanceMethod yX2_leanTo, Cond.selects RX2 yX2_leanTo yX2_leanTo, Cond.code yX2_leanTo cX2_leanTo 4 (some .int), Cond.fieldLink RX2 18 "DiveChairs$Judge" "land" "I", Cond.fieldLink RX2 24 "DiveChairs$Judge" "partner" "I", Cond.fieldLink RX2 21 "DiveChairs$Judge" "leaning" "I", Cond.methodLink RX9 150 yX5_add, Cond.instanceMethod yX5_add, Cond.selects RX5 yX5_add yX5_add, Cond.initialized RX5, Cond.code yX5_add cX5_add 3 none, Cond.fieldLink RX5 15 "DiveChairs$Panel" "size" "I", Cond.fieldLink RX5 9 "DiveChairs$Panel" "sorted" "[I", Cond.methodLink RX9 143 yX5_middle, Cond.instanceMethod yX5_middle, Cond.selects RX5 yX5_middle yX5_middle, Cond.code yX5_middle cX5_middle 1 (some .int), Cond.methodLink RX9 178 yX1_tell]
def wsX9_isRight_r5 : List Cond := [Cond.instanceMethod yX1_tell, Cond.selects RX1 yX1_tell yX1_tell, Cond.initialized RX1, Cond.code yX1_tell cX1_tell 4 none, Cond.fieldLink RX1 9 "DiveChairs$Dive" "marks" "[I", Cond.fieldLink RX1 15 "DiveChairs$Dive" "markers" "[I", Cond.methodLink RX9 96 yX1_marksThere, Cond.instanceMethod yX1_marksThere, Cond.selects RX1 yX1_marksThere yX1_marksThere, Cond.code yX1_marksThere cX1_marksThere 3 (some .int), Cond.methodLink RX9 227 yX9_winner, Cond.instanceMethod yX9_winner, Cond.selects RX9 yX9_winner yX9_winner, Cond.code yX9_winner cX9_winner 5 (some .int), Cond.fieldLink RX9 43 "DiveChairs$State" "totals" "[J", Cond.methodLink RX9 190 yX9_addUp, Cond.instanceMethod yX9_addUp, Cond.selects RX9 yX9_addUp yX9_addUp, Cond.code yX9_addUp cX9_addUp 6 (some .int), Cond.fieldLink RX9 184 "DiveChairs$Dive" "hard" "I", Cond.methodLink RX9 181 yX9_worthOf, Cond.instanceMethod yX9_worthOf, Cond.selects RX9 yX9_worthOf yX9_worthOf, Cond.code yX9_worthOf cX9_worthOf 2 (some .int)]
def wsX9_isRight_r6 : List Cond := [Cond.methodLink RX9 113 Lib.Math.max.name, Cond.static Lib.Math.max.name, Cond.code Lib.Math.max.name Lib.Math.max.code 2 (some .int), Cond.methodLink RX9 187 yX9_countOf, Cond.instanceMethod yX9_countOf, Cond.selects RX9 yX9_countOf yX9_countOf, Cond.code yX9_countOf cX9_countOf 2 (some .int), Cond.methodLink RX9 100 yX5_gather, Cond.instanceMethod yX5_gather, Cond.selects RX5 yX5_gather yX5_gather, Cond.code yX5_gather cX5_gather 3 none, Cond.fieldLink RX5 25 "DiveChairs$Dive" "marks" "[I", Cond.methodLink RX5 19 yX1_hasMark, Cond.instanceMethod yX1_hasMark, Cond.selects RX1 yX1_hasMark yX1_hasMark, Cond.code yX1_hasMark cX1_hasMark 2 (some .boolean), Cond.methodLink RX5 28 yX5_add, Cond.methodLink RX9 118 yX6_countFor, Cond.instanceMethod yX6_countFor, Cond.selects RX6 yX6_countFor yX6_countFor, Cond.code yX6_countFor cX6_countFor 6 (some .int), Cond.fieldLink RX6 41 "DiveChairs$Panel" "size" "I", Cond.fieldLink RX6 15 "DiveChairs$Rule" "dropHighest" "I", Cond.fieldLink RX6 19 "DiveChairs$Rule" "dropLowest" "I"]
def wsX9_isRight_r7 : List Cond := [Cond.fieldLink RX6 38 "DiveChairs$Rule" "length" "I", Cond.fieldLink RX6 22 "DiveChairs$Rule" "code" "[I", Cond.fieldLink RX6 25 "DiveChairs$Rule" "stack" "[I", Cond.methodLink RX6 46 yX6_isWorking, Cond.static yX6_isWorking, Cond.code yX6_isWorking cX6_isWorking 1 (some .boolean), Cond.methodLink RX6 50 yX6_fieldOf, Cond.instanceMethod yX6_fieldOf, Cond.selects RX6 yX6_fieldOf yX6_fieldOf, Cond.code yX6_fieldOf cX6_fieldOf 4 (some .int), Cond.fieldLink RX6 70 "DiveChairs$Dive" "hard" "I", Cond.fieldLink RX6 85 "DiveChairs$Dive" "splash" "I", Cond.methodLink RX6 67 yX5_sumBetween, Cond.instanceMethod yX5_sumBetween, Cond.selects RX5 yX5_sumBetween yX5_sumBetween, Cond.code yX5_sumBetween cX5_sumBetween 5 (some .int), Cond.methodLink RX6 75 yX5_middle, Cond.methodLink RX6 79 yX5_highest, Cond.instanceMethod yX5_highest, Cond.selects RX5 yX5_highest yX5_highest, Cond.code yX5_highest cX5_highest 1 (some .int), Cond.methodLink RX6 82 yX5_lowest, Cond.instanceMethod yX5_lowest, Cond.selects RX5 yX5_lowest yX5_lowest]
def wsX9_isRight_r8 : List Cond := [Cond.code yX5_lowest cX5_lowest 1 (some .int), Cond.methodLink RX6 54 yX6_worked, Cond.static yX6_worked, Cond.code yX6_worked cX6_worked 3 (some .int), Cond.methodLink RX6 58 Lib.Math.min.name, Cond.methodLink RX6 64 Lib.Math.max.name, Cond.static yX11_holds, Cond.code yX11_holds cX11_holds 2 (some .boolean), Cond.methodLink RX9 230 yX9_placeOf, Cond.instanceMethod yX9_placeOf, Cond.selects RX9 yX9_placeOf yX9_placeOf, Cond.code yX9_placeOf cX9_placeOf 7 (some .int)]
def wsX9_isRight : List Cond := .code yX9_isRight cX9_isRight 3 (some .boolean) :: ((wsX9_isRight_r1 ++ (wsX9_isRight_r2 ++ (wsX9_isRight_r3 ++ (wsX9_isRight_r4 ++ (wsX9_isRight_r5 ++ (wsX9_isRight_r6 ++ (wsX9_isRight_r7 ++ wsX9_isRight_r8))))))) ++ wsX90 ++ wsX10 ++ wsX20 ++ wsX50 ++ wsX60)
def wsX10_init : List Cond := .code yX10_init cX10_init 1 none :: ([.methodLink RX10 1 objectInit, .instanceMethod objectInit, .code objectInit ⟨#[0xb1]⟩ 1 none])
def wsX11_init_r1 : List Cond := [Cond.methodLink RX11 1 objectInit, Cond.instanceMethod objectInit, Cond.code objectInit ⟨#[0xb1]⟩ 1 none, Cond.classLink RX11 7 RX9, Cond.instantiable RX9 12, Cond.initialized RX9, Cond.fieldLink RX11 10 "DiveChairs" "now" "LDiveChairs$State;", Cond.fieldLink RX11 16 "DiveChairs" "imaged" "LDiveChairs$State;", Cond.fieldLink RX11 19 "DiveChairs" "mind" "LDiveChairs$State;", Cond.classLink RX11 22 RX8, Cond.fieldLink RX11 24 "DiveChairs" "shelves" "[LDiveChairs$Shelf;", Cond.classLink RX11 28 RX7, Cond.instantiable RX7 6, Cond.initialized RX7, Cond.fieldLink RX11 31 "DiveChairs" "reader" "LDiveChairs$RuleReader;", Cond.classLink RX11 35 RX4, Cond.instantiable RX4 4, Cond.initialized RX4, Cond.fieldLink RX11 38 "DiveChairs" "orders" "LDiveChairs$OrderDealing;", Cond.classLink RX11 42 RX3, Cond.instantiable RX3 6, Cond.initialized RX3, Cond.fieldLink RX11 45 "DiveChairs" "deals" "LDiveChairs$LandDealing;", Cond.classLink RX11 49 RX10]
def wsX11_init_r2 : List Cond := [Cond.instantiable RX10 5, Cond.initialized RX10, Cond.fieldLink RX11 52 "DiveChairs" "tally" "LDiveChairs$Tally;", Cond.instantiable RX8 5, Cond.initialized RX8, Cond.methodLink RX11 9 yX9_init, Cond.instanceMethod yX9_init, Cond.code yX9_init cX9_init 2 none, Cond.methodLink RX9 3 objectInit, Cond.arrayClass .int, Cond.fieldLink RX9 9 "DiveChairs$State" "lands" "[I", Cond.fieldLink RX9 15 "DiveChairs$State" "names" "[I", Cond.fieldLink RX9 18 "DiveChairs$State" "years" "[I", Cond.fieldLink RX9 21 "DiveChairs$State" "seats" "[I", Cond.classLink RX9 24 RX6, Cond.instantiable RX6 6, Cond.initialized RX6, Cond.fieldLink RX9 27 "DiveChairs$State" "rule" "LDiveChairs$Rule;", Cond.classLink RX9 31 RX2, Cond.fieldLink RX9 33 "DiveChairs$State" "judgesMade" "[LDiveChairs$Judge;", Cond.classLink RX9 37 RX1, Cond.fieldLink RX9 39 "DiveChairs$State" "divesMade" "[LDiveChairs$Dive;", Cond.arrayClass .long, Cond.fieldLink RX9 43 "DiveChairs$State" "totals" "[J"]
def wsX11_init_r3 : List Cond := [Cond.classLink RX9 47 RX5, Cond.instantiable RX5 2, Cond.initialized RX5, Cond.fieldLink RX9 50 "DiveChairs$State" "panel" "LDiveChairs$Panel;", Cond.instantiable RX1 7, Cond.initialized RX1, Cond.methodLink RX9 26 yX6_init, Cond.instanceMethod yX6_init, Cond.code yX6_init cX6_init 2 none, Cond.methodLink RX6 3 objectInit, Cond.fieldLink RX6 9 "DiveChairs$Rule" "off" "[I", Cond.fieldLink RX6 15 "DiveChairs$Rule" "dropHighest" "I", Cond.fieldLink RX6 19 "DiveChairs$Rule" "dropLowest" "I", Cond.fieldLink RX6 22 "DiveChairs$Rule" "code" "[I", Cond.fieldLink RX6 25 "DiveChairs$Rule" "stack" "[I", Cond.methodLink RX6 28 yX6_append, Cond.instanceMethod yX6_append, Cond.selects RX6 yX6_append yX6_append, Cond.code yX6_append cX6_append 2 none, Cond.fieldLink RX6 38 "DiveChairs$Rule" "length" "I", Cond.instanceMethod yX5_init, Cond.code yX5_init cX5_init 1 none, Cond.methodLink RX5 3 objectInit, Cond.fieldLink RX5 9 "DiveChairs$Panel" "sorted" "[I"]
def wsX11_init_r4 : List Cond := [Cond.instanceMethod yX1_init, Cond.code yX1_init cX1_init 1 none, Cond.methodLink RX1 3 objectInit, Cond.fieldLink RX1 9 "DiveChairs$Dive" "marks" "[I", Cond.fieldLink RX1 15 "DiveChairs$Dive" "markers" "[I", Cond.instanceMethod yX7_init, Cond.code yX7_init cX7_init 1 none, Cond.methodLink RX7 3 objectInit, Cond.classLink RX7 9 RX6, Cond.fieldLink RX7 12 "DiveChairs$RuleReader" "draft" "LDiveChairs$Rule;", Cond.fieldLink RX7 18 "DiveChairs$RuleReader" "text" "[I", Cond.methodLink RX7 11 yX6_init, Cond.instanceMethod yX4_init, Cond.code yX4_init cX4_init 1 none, Cond.fieldLink RX4 9 "DiveChairs$OrderDealing" "counted" "[I", Cond.instanceMethod yX0_init, Cond.initialized RX0, Cond.code yX0_init cX0_init 1 none, Cond.methodLink RX0 3 objectInit, Cond.fieldLink RX0 9 "DiveChairs$Dealing" "dealt" "[I", Cond.instanceMethod yX3_init, Cond.code yX3_init cX3_init 1 none, Cond.fieldLink RX3 9 "DiveChairs$LandDealing" "lands" "[I", Cond.fieldLink RX3 15 "DiveChairs$LandDealing" "halls" "[I"]
def wsX11_init_r5 : List Cond := [Cond.fieldLink RX3 18 "DiveChairs$LandDealing" "leans" "[I", Cond.instanceMethod yX10_init, Cond.code yX10_init cX10_init 1 none, Cond.methodLink RX10 1 objectInit, Cond.instanceMethod yX8_init, Cond.code yX8_init cX8_init 1 none, Cond.methodLink RX8 3 objectInit, Cond.fieldLink RX8 9 "DiveChairs$Shelf" "elements" "[I"]
def wsX11_init : List Cond := .code yX11_init cX11_init 2 none :: ((wsX11_init_r1 ++ (wsX11_init_r2 ++ (wsX11_init_r3 ++ (wsX11_init_r4 ++ wsX11_init_r5)))) ++ wsX90 ++ wsX110 ++ wsX70 ++ wsX40 ++ wsX30 ++ wsX100 ++ wsX80 ++ wsX60 ++ wsX50 ++ wsX10)
def wsX11_diver : List Cond := .code yX11_diver cX11_diver 3 (some .int) :: ([.fieldLink RX11 10 "DiveChairs" "now" "LDiveChairs$State;", .methodLink RX11 57 yX11_within, .static yX11_within, .initialized RX11, .code yX11_within cX11_within 2 (some .boolean), .methodLink RX11 61 yX9_addDiver, .instanceMethod yX9_addDiver, .selects RX9 yX9_addDiver yX9_addDiver, .initialized RX9, .code yX9_addDiver cX9_addDiver 3 (some .int), .fieldLink RX9 65 "DiveChairs$State" "divers" "I", .fieldLink RX9 9 "DiveChairs$State" "lands" "[I", .fieldLink RX9 15 "DiveChairs$State" "names" "[I"] ++ wsX110 ++ wsX90)
def wsX11_judge_r1 : List Cond := [Cond.fieldLink RX11 10 "DiveChairs" "now" "LDiveChairs$State;", Cond.methodLink RX11 57 yX11_within, Cond.static yX11_within, Cond.initialized RX11, Cond.code yX11_within cX11_within 2 (some .boolean), Cond.methodLink RX11 65 yX9_addJudge, Cond.instanceMethod yX9_addJudge, Cond.selects RX9 yX9_addJudge yX9_addJudge, Cond.initialized RX9, Cond.code yX9_addJudge cX9_addJudge 3 (some .int), Cond.fieldLink RX9 69 "DiveChairs$State" "judges" "I", Cond.fieldLink RX9 33 "DiveChairs$State" "judgesMade" "[LDiveChairs$Judge;", Cond.classLink RX9 31 RX2, Cond.instantiable RX2 5, Cond.initialized RX2, Cond.methodLink RX9 82 yX2_init, Cond.instanceMethod yX2_init, Cond.code yX2_init cX2_init 4 none, Cond.methodLink RX2 3 objectInit, Cond.instanceMethod objectInit, Cond.code objectInit ⟨#[0xb1]⟩ 1 none, Cond.fieldLink RX2 9 "DiveChairs$Judge" "number" "I", Cond.fieldLink RX2 15 "DiveChairs$Judge" "kind" "I", Cond.fieldLink RX2 18 "DiveChairs$Judge" "land" "I"]
def wsX11_judge_r2 : List Cond := [Cond.fieldLink RX2 21 "DiveChairs$Judge" "leaning" "I", Cond.fieldLink RX2 24 "DiveChairs$Judge" "partner" "I"]
def wsX11_judge : List Cond := .code yX11_judge cX11_judge 3 (some .int) :: ((wsX11_judge_r1 ++ wsX11_judge_r2) ++ wsX110 ++ wsX90 ++ wsX20)
def wsX11_year : List Cond := .code yX11_year cX11_year 4 (some .int) :: ([.fieldLink RX11 10 "DiveChairs" "now" "LDiveChairs$State;", .fieldLink RX11 68 "DiveChairs$State" "years" "[I", .methodLink RX11 57 yX11_within, .static yX11_within, .initialized RX11, .code yX11_within cX11_within 2 (some .boolean)] ++ wsX110 ++ wsX90)
def wsX11_chair : List Cond := .code yX11_chair cX11_chair 6 (some .int) :: ([.fieldLink RX11 10 "DiveChairs" "now" "LDiveChairs$State;", .fieldLink RX11 72 "DiveChairs$State" "judges" "I", .fieldLink RX11 83 "DiveChairs$State" "seats" "[I", .methodLink RX11 57 yX11_within, .static yX11_within, .initialized RX11, .code yX11_within cX11_within 2 (some .boolean), .methodLink RX11 76 yX9_isOnOtherChair, .instanceMethod yX9_isOnOtherChair, .selects RX9 yX9_isOnOtherChair yX9_isOnOtherChair, .initialized RX9, .code yX9_isOnOtherChair cX9_isOnOtherChair 5 (some .boolean), .methodLink RX9 92 yX9_seatOf, .instanceMethod yX9_seatOf, .selects RX9 yX9_seatOf yX9_seatOf, .code yX9_seatOf cX9_seatOf 3 (some .int), .fieldLink RX9 21 "DiveChairs$State" "seats" "[I", .methodLink RX11 80 yX9_seatOf] ++ wsX110 ++ wsX90)
def wsX11_dive_r1 : List Cond := [Cond.fieldLink RX11 10 "DiveChairs" "now" "LDiveChairs$State;", Cond.fieldLink RX11 86 "DiveChairs$State" "divers" "I", Cond.methodLink RX11 57 yX11_within, Cond.static yX11_within, Cond.initialized RX11, Cond.code yX11_within cX11_within 2 (some .boolean), Cond.methodLink RX11 89 yX9_addDive, Cond.instanceMethod yX9_addDive, Cond.selects RX9 yX9_addDive yX9_addDive, Cond.initialized RX9, Cond.code yX9_addDive cX9_addDive 5 (some .int), Cond.fieldLink RX9 72 "DiveChairs$State" "dives" "I", Cond.fieldLink RX9 39 "DiveChairs$State" "divesMade" "[LDiveChairs$Dive;", Cond.methodLink RX9 85 yX1_begin, Cond.instanceMethod yX1_begin, Cond.selects RX1 yX1_begin yX1_begin, Cond.initialized RX1, Cond.code yX1_begin cX1_begin 6 none, Cond.fieldLink RX1 18 "DiveChairs$Dive" "hall" "I", Cond.fieldLink RX1 22 "DiveChairs$Dive" "diver" "I", Cond.fieldLink RX1 25 "DiveChairs$Dive" "flaws" "I", Cond.fieldLink RX1 28 "DiveChairs$Dive" "splash" "I", Cond.fieldLink RX1 31 "DiveChairs$Dive" "hard" "I", Cond.methodLink RX1 34 yX1_tell]
def wsX11_dive_r2 : List Cond := [Cond.instanceMethod yX1_tell, Cond.selects RX1 yX1_tell yX1_tell, Cond.code yX1_tell cX1_tell 4 none, Cond.fieldLink RX1 9 "DiveChairs$Dive" "marks" "[I", Cond.fieldLink RX1 15 "DiveChairs$Dive" "markers" "[I"]
def wsX11_dive : List Cond := .code yX11_dive cX11_dive 5 (some .int) :: ((wsX11_dive_r1 ++ wsX11_dive_r2) ++ wsX110 ++ wsX90 ++ wsX10)
def wsX11_of_r1 : List Cond := [Cond.fieldLink RX11 10 "DiveChairs" "now" "LDiveChairs$State;", Cond.fieldLink RX11 97 "DiveChairs$Dive" "hall" "I", Cond.fieldLink RX11 102 "DiveChairs$Dive" "diver" "I", Cond.fieldLink RX11 105 "DiveChairs$Dive" "flaws" "I", Cond.fieldLink RX11 108 "DiveChairs$Dive" "splash" "I", Cond.fieldLink RX11 111 "DiveChairs$Dive" "hard" "I", Cond.methodLink RX11 93 yX9_diveAt, Cond.instanceMethod yX9_diveAt, Cond.selects RX9 yX9_diveAt yX9_diveAt, Cond.initialized RX9, Cond.code yX9_diveAt cX9_diveAt 2 (some (.object "DiveChairs$Dive")), Cond.fieldLink RX9 72 "DiveChairs$State" "dives" "I", Cond.fieldLink RX9 39 "DiveChairs$State" "divesMade" "[LDiveChairs$Dive;", Cond.static yX11_within, Cond.initialized RX11, Cond.code yX11_within cX11_within 2 (some .boolean), Cond.methodLink RX11 114 yX9_worthOf, Cond.instanceMethod yX9_worthOf, Cond.selects RX9 yX9_worthOf yX9_worthOf, Cond.code yX9_worthOf cX9_worthOf 2 (some .int), Cond.fieldLink RX9 27 "DiveChairs$State" "rule" "LDiveChairs$Rule;", Cond.fieldLink RX9 106 "DiveChairs$Dive" "flaws" "I", Cond.methodLink RX9 113 Lib.Math.max.name, Cond.static Lib.Math.max.name]
def wsX11_of_r2 : List Cond := [Cond.initialized "java/lang/Math", Cond.code Lib.Math.max.name Lib.Math.max.code 2 (some .int), Cond.methodLink RX9 109 yX6_offFor, Cond.instanceMethod yX6_offFor, Cond.selects RX6 yX6_offFor yX6_offFor, Cond.initialized RX6, Cond.code yX6_offFor cX6_offFor 4 (some .int), Cond.fieldLink RX6 9 "DiveChairs$Rule" "off" "[I", Cond.methodLink RX11 118 yX1_marksThere, Cond.instanceMethod yX1_marksThere, Cond.selects RX1 yX1_marksThere yX1_marksThere, Cond.initialized RX1, Cond.code yX1_marksThere cX1_marksThere 3 (some .int), Cond.fieldLink RX1 9 "DiveChairs$Dive" "marks" "[I"]
def wsX11_of : List Cond := .code yX11_of cX11_of 4 (some .int) :: ((wsX11_of_r1 ++ wsX11_of_r2) ++ wsX110 ++ wsX10 ++ wsX90 ++ wsX60)
def wsX11_seen : List Cond := .code yX11_seen cX11_seen 4 (some .int) :: ([.methodLink RX11 57 yX11_within, .static yX11_within, .initialized RX11, .code yX11_within cX11_within 2 (some .boolean), .methodLink RX11 122 yX11_partsSeen, .static yX11_partsSeen, .code yX11_partsSeen cX11_partsSeen 5 (some .int)])
def wsX11_would_r1 : List Cond := [Cond.fieldLink RX11 10 "DiveChairs" "now" "LDiveChairs$State;", Cond.fieldLink RX11 125 "DiveChairs$State" "dives" "I", Cond.methodLink RX11 57 yX11_within, Cond.static yX11_within, Cond.initialized RX11, Cond.code yX11_within cX11_within 2 (some .boolean), Cond.methodLink RX11 128 yX9_wouldMark, Cond.instanceMethod yX9_wouldMark, Cond.selects RX9 yX9_wouldMark yX9_wouldMark, Cond.initialized RX9, Cond.code yX9_wouldMark cX9_wouldMark 5 (some .int), Cond.fieldLink RX9 126 "DiveChairs$Dive" "hall" "I", Cond.fieldLink RX9 133 "DiveChairs$Judge" "kind" "I", Cond.fieldLink RX9 50 "DiveChairs$State" "panel" "LDiveChairs$Panel;", Cond.fieldLink RX9 140 "DiveChairs$Panel" "size" "I", Cond.methodLink RX9 122 yX9_diveAt, Cond.instanceMethod yX9_diveAt, Cond.selects RX9 yX9_diveAt yX9_diveAt, Cond.code yX9_diveAt cX9_diveAt 2 (some (.object "DiveChairs$Dive")), Cond.fieldLink RX9 72 "DiveChairs$State" "dives" "I", Cond.fieldLink RX9 39 "DiveChairs$State" "divesMade" "[LDiveChairs$Dive;", Cond.methodLink RX9 92 yX9_seatOf, Cond.instanceMethod yX9_seatOf, Cond.selects RX9 yX9_seatOf yX9_seatOf]
def wsX11_would_r2 : List Cond := [Cond.code yX9_seatOf cX9_seatOf 3 (some .int), Cond.fieldLink RX9 21 "DiveChairs$State" "seats" "[I", Cond.methodLink RX9 129 yX9_judgeAt, Cond.instanceMethod yX9_judgeAt, Cond.selects RX9 yX9_judgeAt yX9_judgeAt, Cond.code yX9_judgeAt cX9_judgeAt 2 (some (.object "DiveChairs$Judge")), Cond.fieldLink RX9 69 "DiveChairs$State" "judges" "I", Cond.fieldLink RX9 33 "DiveChairs$State" "judgesMade" "[LDiveChairs$Judge;", Cond.methodLink RX9 136 yX9_gatherOthers, Cond.instanceMethod yX9_gatherOthers, Cond.selects RX9 yX9_gatherOthers yX9_gatherOthers, Cond.code yX9_gatherOthers cX9_gatherOthers 5 none, Cond.methodLink RX9 146 yX9_markOf, Cond.instanceMethod yX9_markOf, Cond.selects RX9 yX9_markOf yX9_markOf, Cond.code yX9_markOf cX9_markOf 8 (some .int), Cond.fieldLink RX9 154 "DiveChairs$Dive" "splash" "I", Cond.fieldLink RX9 27 "DiveChairs$State" "rule" "LDiveChairs$Rule;", Cond.fieldLink RX9 106 "DiveChairs$Dive" "flaws" "I", Cond.static yX11_partsSeen, Cond.code yX11_partsSeen cX11_partsSeen 5 (some .int), Cond.methodLink RX9 109 yX6_offFor, Cond.instanceMethod yX6_offFor, Cond.selects RX6 yX6_offFor yX6_offFor]
def wsX11_would_r3 : List Cond := [Cond.initialized RX6, Cond.code yX6_offFor cX6_offFor 4 (some .int), Cond.fieldLink RX6 9 "DiveChairs$Rule" "off" "[I", Cond.methodLink RX9 160 yX9_drawnBy, Cond.instanceMethod yX9_drawnBy, Cond.selects RX9 yX9_drawnBy yX9_drawnBy, Cond.code yX9_drawnBy cX9_drawnBy 6 (some .int), Cond.fieldLink RX9 89 "DiveChairs$Dive" "diver" "I", Cond.fieldLink RX9 65 "DiveChairs$State" "divers" "I", Cond.fieldLink RX9 15 "DiveChairs$State" "names" "[I", Cond.methodLink RX9 172 Lib.Math.min.name, Cond.static Lib.Math.min.name, Cond.initialized "java/lang/Math", Cond.code Lib.Math.min.name Lib.Math.min.code 2 (some .int), Cond.methodLink RX9 164 yX9_landOf, Cond.instanceMethod yX9_landOf, Cond.selects RX9 yX9_landOf yX9_landOf, Cond.code yX9_landOf cX9_landOf 2 (some .int), Cond.fieldLink RX9 9 "DiveChairs$State" "lands" "[I", Cond.methodLink RX9 168 yX2_markFor, Cond.instanceMethod yX2_markFor, Cond.selects RX2 yX2_markFor yX2_markFor, Cond.initialized RX2, Cond.code yX2_markFor cX2_markFor 4 (some .int)]
def wsX11_would_r4 : List Cond := [Cond.fieldLink RX2 15 "DiveChairs$Judge" "kind" "I", Cond.methodLink RX2 27 yX2_held, Cond.static yX2_held, Cond.code yX2_held cX2_held 1 (some .int), Cond.methodLink RX2 31 yX2_leanTo, Cond.instanceMethod yX2_leanTo, Cond.selects RX2 yX2_leanTo yX2_leanTo, Cond.code yX2_leanTo cX2_leanTo 4 (some .int), Cond.fieldLink RX2 18 "DiveChairs$Judge" "land" "I", Cond.fieldLink RX2 24 "DiveChairs$Judge" "partner" "I", Cond.fieldLink RX2 21 "DiveChairs$Judge" "leaning" "I", Cond.methodLink RX9 150 yX5_add, Cond.instanceMethod yX5_add, Cond.selects RX5 yX5_add yX5_add, Cond.initialized RX5, Cond.code yX5_add cX5_add 3 none, Cond.fieldLink RX5 15 "DiveChairs$Panel" "size" "I", Cond.fieldLink RX5 9 "DiveChairs$Panel" "sorted" "[I", Cond.methodLink RX9 143 yX5_middle, Cond.instanceMethod yX5_middle, Cond.selects RX5 yX5_middle yX5_middle, Cond.code yX5_middle cX5_middle 1 (some .int)]
def wsX11_would : List Cond := .code yX11_would cX11_would 3 (some .int) :: ((wsX11_would_r1 ++ (wsX11_would_r2 ++ (wsX11_would_r3 ++ wsX11_would_r4))) ++ wsX110 ++ wsX90 ++ wsX10 ++ wsX20 ++ wsX50 ++ wsX60)
def wsX11_markAll_r1 : List Cond := [Cond.fieldLink RX11 10 "DiveChairs" "now" "LDiveChairs$State;", Cond.fieldLink RX11 125 "DiveChairs$State" "dives" "I", Cond.methodLink RX11 57 yX11_within, Cond.static yX11_within, Cond.initialized RX11, Cond.code yX11_within cX11_within 2 (some .boolean), Cond.methodLink RX11 131 yX9_markDive, Cond.instanceMethod yX9_markDive, Cond.selects RX9 yX9_markDive yX9_markDive, Cond.initialized RX9, Cond.code yX9_markDive cX9_markDive 5 (some .int), Cond.fieldLink RX9 126 "DiveChairs$Dive" "hall" "I", Cond.methodLink RX9 122 yX9_diveAt, Cond.instanceMethod yX9_diveAt, Cond.selects RX9 yX9_diveAt yX9_diveAt, Cond.code yX9_diveAt cX9_diveAt 2 (some (.object "DiveChairs$Dive")), Cond.fieldLink RX9 72 "DiveChairs$State" "dives" "I", Cond.fieldLink RX9 39 "DiveChairs$State" "divesMade" "[LDiveChairs$Dive;", Cond.methodLink RX9 175 yX9_wouldMark, Cond.instanceMethod yX9_wouldMark, Cond.selects RX9 yX9_wouldMark yX9_wouldMark, Cond.code yX9_wouldMark cX9_wouldMark 5 (some .int), Cond.fieldLink RX9 133 "DiveChairs$Judge" "kind" "I", Cond.fieldLink RX9 50 "DiveChairs$State" "panel" "LDiveChairs$Panel;"]
def wsX11_markAll_r2 : List Cond := [Cond.fieldLink RX9 140 "DiveChairs$Panel" "size" "I", Cond.methodLink RX9 92 yX9_seatOf, Cond.instanceMethod yX9_seatOf, Cond.selects RX9 yX9_seatOf yX9_seatOf, Cond.code yX9_seatOf cX9_seatOf 3 (some .int), Cond.fieldLink RX9 21 "DiveChairs$State" "seats" "[I", Cond.methodLink RX9 129 yX9_judgeAt, Cond.instanceMethod yX9_judgeAt, Cond.selects RX9 yX9_judgeAt yX9_judgeAt, Cond.code yX9_judgeAt cX9_judgeAt 2 (some (.object "DiveChairs$Judge")), Cond.fieldLink RX9 69 "DiveChairs$State" "judges" "I", Cond.fieldLink RX9 33 "DiveChairs$State" "judgesMade" "[LDiveChairs$Judge;", Cond.methodLink RX9 136 yX9_gatherOthers, Cond.instanceMethod yX9_gatherOthers, Cond.selects RX9 yX9_gatherOthers yX9_gatherOthers, Cond.code yX9_gatherOthers cX9_gatherOthers 5 none, Cond.methodLink RX9 146 yX9_markOf, Cond.instanceMethod yX9_markOf, Cond.selects RX9 yX9_markOf yX9_markOf, Cond.code yX9_markOf cX9_markOf 8 (some .int), Cond.fieldLink RX9 154 "DiveChairs$Dive" "splash" "I", Cond.fieldLink RX9 27 "DiveChairs$State" "rule" "LDiveChairs$Rule;", Cond.fieldLink RX9 106 "DiveChairs$Dive" "flaws" "I", Cond.static yX11_partsSeen]
def wsX11_markAll_r3 : List Cond := [Cond.code yX11_partsSeen cX11_partsSeen 5 (some .int), Cond.methodLink RX9 109 yX6_offFor, Cond.instanceMethod yX6_offFor, Cond.selects RX6 yX6_offFor yX6_offFor, Cond.initialized RX6, Cond.code yX6_offFor cX6_offFor 4 (some .int), Cond.fieldLink RX6 9 "DiveChairs$Rule" "off" "[I", Cond.methodLink RX9 160 yX9_drawnBy, Cond.instanceMethod yX9_drawnBy, Cond.selects RX9 yX9_drawnBy yX9_drawnBy, Cond.code yX9_drawnBy cX9_drawnBy 6 (some .int), Cond.fieldLink RX9 89 "DiveChairs$Dive" "diver" "I", Cond.fieldLink RX9 65 "DiveChairs$State" "divers" "I", Cond.fieldLink RX9 15 "DiveChairs$State" "names" "[I", Cond.methodLink RX9 172 Lib.Math.min.name, Cond.static Lib.Math.min.name, Cond.initialized "java/lang/Math", Cond.code Lib.Math.min.name Lib.Math.min.code 2 (some .int), Cond.methodLink RX9 164 yX9_landOf, Cond.instanceMethod yX9_landOf, Cond.selects RX9 yX9_landOf yX9_landOf, Cond.code yX9_landOf cX9_landOf 2 (some .int), Cond.fieldLink RX9 9 "DiveChairs$State" "lands" "[I", Cond.methodLink RX9 168 yX2_markFor]
def wsX11_markAll_r4 : List Cond := [Cond.instanceMethod yX2_markFor, Cond.selects RX2 yX2_markFor yX2_markFor, Cond.initialized RX2, Cond.code yX2_markFor cX2_markFor 4 (some .int), Cond.fieldLink RX2 15 "DiveChairs$Judge" "kind" "I", Cond.methodLink RX2 27 yX2_held, Cond.static yX2_held, Cond.code yX2_held cX2_held 1 (some .int), Cond.methodLink RX2 31 yX2_leanTo, Cond.instanceMethod yX2_leanTo, Cond.selects RX2 yX2_leanTo yX2_leanTo, Cond.code yX2_leanTo cX2_leanTo 4 (some .int), Cond.fieldLink RX2 18 "DiveChairs$Judge" "land" "I", Cond.fieldLink RX2 24 "DiveChairs$Judge" "partner" "I", Cond.fieldLink RX2 21 "DiveChairs$Judge" "leaning" "I", Cond.methodLink RX9 150 yX5_add, Cond.instanceMethod yX5_add, Cond.selects RX5 yX5_add yX5_add, Cond.initialized RX5, Cond.code yX5_add cX5_add 3 none, Cond.fieldLink RX5 15 "DiveChairs$Panel" "size" "I", Cond.fieldLink RX5 9 "DiveChairs$Panel" "sorted" "[I", Cond.methodLink RX9 143 yX5_middle, Cond.instanceMethod yX5_middle]
def wsX11_markAll_r5 : List Cond := [Cond.selects RX5 yX5_middle yX5_middle, Cond.code yX5_middle cX5_middle 1 (some .int), Cond.methodLink RX9 178 yX1_tell, Cond.instanceMethod yX1_tell, Cond.selects RX1 yX1_tell yX1_tell, Cond.initialized RX1, Cond.code yX1_tell cX1_tell 4 none, Cond.fieldLink RX1 9 "DiveChairs$Dive" "marks" "[I", Cond.fieldLink RX1 15 "DiveChairs$Dive" "markers" "[I", Cond.methodLink RX9 96 yX1_marksThere, Cond.instanceMethod yX1_marksThere, Cond.selects RX1 yX1_marksThere yX1_marksThere, Cond.code yX1_marksThere cX1_marksThere 3 (some .int)]
def wsX11_markAll : List Cond := .code yX11_markAll cX11_markAll 4 (some .int) :: ((wsX11_markAll_r1 ++ (wsX11_markAll_r2 ++ (wsX11_markAll_r3 ++ (wsX11_markAll_r4 ++ wsX11_markAll_r5)))) ++ wsX110 ++ wsX90 ++ wsX10 ++ wsX20 ++ wsX50 ++ wsX60)
def wsX11_shelfAt : List Cond := .code yX11_shelfAt cX11_shelfAt 2 (some (.object "DiveChairs$Shelf")) :: ([.fieldLink RX11 24 "DiveChairs" "shelves" "[LDiveChairs$Shelf;", .methodLink RX11 57 yX11_within, .static yX11_within, .initialized RX11, .code yX11_within cX11_within 2 (some .boolean)] ++ wsX110)
def wsX11_marks_r1 : List Cond := [Cond.fieldLink RX11 10 "DiveChairs" "now" "LDiveChairs$State;", Cond.fieldLink RX11 146 "DiveChairs$Shelf" "size" "I", Cond.fieldLink RX11 149 "DiveChairs$Shelf" "elements" "[I", Cond.fieldLink RX11 97 "DiveChairs$Dive" "hall" "I", Cond.methodLink RX11 93 yX9_diveAt, Cond.instanceMethod yX9_diveAt, Cond.selects RX9 yX9_diveAt yX9_diveAt, Cond.initialized RX9, Cond.code yX9_diveAt cX9_diveAt 2 (some (.object "DiveChairs$Dive")), Cond.fieldLink RX9 72 "DiveChairs$State" "dives" "I", Cond.fieldLink RX9 39 "DiveChairs$State" "divesMade" "[LDiveChairs$Dive;", Cond.static yX11_within, Cond.initialized RX11, Cond.code yX11_within cX11_within 2 (some .boolean), Cond.methodLink RX11 135 yX11_shelfAt, Cond.instanceMethod yX11_shelfAt, Cond.selects RX11 yX11_shelfAt yX11_shelfAt, Cond.code yX11_shelfAt cX11_shelfAt 2 (some (.object "DiveChairs$Shelf")), Cond.fieldLink RX11 24 "DiveChairs" "shelves" "[LDiveChairs$Shelf;", Cond.methodLink RX11 57 yX11_within, Cond.methodLink RX11 139 yX8_refusalAsText, Cond.instanceMethod yX8_refusalAsText, Cond.selects RX8 yX8_refusalAsText yX8_refusalAsText, Cond.initialized RX8]
def wsX11_marks_r2 : List Cond := [Cond.code yX8_refusalAsText cX8_refusalAsText 1 (some .int), Cond.fieldLink RX8 19 "DiveChairs$Shelf" "isRow" "Z", Cond.fieldLink RX8 30 "DiveChairs$Shelf" "sort" "I", Cond.methodLink RX8 33 yX8_refusalAsRow, Cond.instanceMethod yX8_refusalAsRow, Cond.selects RX8 yX8_refusalAsRow yX8_refusalAsRow, Cond.code yX8_refusalAsRow cX8_refusalAsRow 1 (some .int), Cond.fieldLink RX8 15 "DiveChairs$Shelf" "judge" "LDiveChairs$Judge;", Cond.methodLink RX11 142 yX8_holdsMarks, Cond.instanceMethod yX8_holdsMarks, Cond.selects RX8 yX8_holdsMarks yX8_holdsMarks, Cond.code yX8_holdsMarks cX8_holdsMarks 3 (some .boolean), Cond.fieldLink RX8 23 "DiveChairs$Shelf" "size" "I", Cond.fieldLink RX8 9 "DiveChairs$Shelf" "elements" "[I", Cond.methodLink RX11 80 yX9_seatOf, Cond.instanceMethod yX9_seatOf, Cond.selects RX9 yX9_seatOf yX9_seatOf, Cond.code yX9_seatOf cX9_seatOf 3 (some .int), Cond.fieldLink RX9 21 "DiveChairs$State" "seats" "[I", Cond.methodLink RX11 152 yX1_tell, Cond.instanceMethod yX1_tell, Cond.selects RX1 yX1_tell yX1_tell, Cond.initialized RX1, Cond.code yX1_tell cX1_tell 4 none]
def wsX11_marks_r3 : List Cond := [Cond.fieldLink RX1 9 "DiveChairs$Dive" "marks" "[I", Cond.fieldLink RX1 15 "DiveChairs$Dive" "markers" "[I", Cond.methodLink RX11 118 yX1_marksThere, Cond.instanceMethod yX1_marksThere, Cond.selects RX1 yX1_marksThere yX1_marksThere, Cond.code yX1_marksThere cX1_marksThere 3 (some .int)]
def wsX11_marks : List Cond := .code yX11_marks cX11_marks 8 (some .int) :: ((wsX11_marks_r1 ++ (wsX11_marks_r2 ++ wsX11_marks_r3)) ++ wsX110 ++ wsX80 ++ wsX10 ++ wsX90)
def wsX11_mark : List Cond := .code yX11_mark cX11_mark 4 (some .int) :: ([.fieldLink RX11 10 "DiveChairs" "now" "LDiveChairs$State;", .fieldLink RX11 160 "DiveChairs$Dive" "marks" "[I", .methodLink RX11 93 yX9_diveAt, .instanceMethod yX9_diveAt, .selects RX9 yX9_diveAt yX9_diveAt, .initialized RX9, .code yX9_diveAt cX9_diveAt 2 (some (.object "DiveChairs$Dive")), .fieldLink RX9 72 "DiveChairs$State" "dives" "I", .fieldLink RX9 39 "DiveChairs$State" "divesMade" "[LDiveChairs$Dive;", .static yX11_within, .initialized RX11, .code yX11_within cX11_within 2 (some .boolean), .methodLink RX11 57 yX11_within, .methodLink RX11 156 yX1_hasMark, .instanceMethod yX1_hasMark, .selects RX1 yX1_hasMark yX1_hasMark, .initialized RX1, .code yX1_hasMark cX1_hasMark 2 (some .boolean), .fieldLink RX1 9 "DiveChairs$Dive" "marks" "[I"] ++ wsX110 ++ wsX10 ++ wsX90)
def wsX11_rule_r1 : List Cond := [Cond.fieldLink RX11 31 "DiveChairs" "reader" "LDiveChairs$RuleReader;", Cond.fieldLink RX11 10 "DiveChairs" "now" "LDiveChairs$State;", Cond.fieldLink RX11 163 "DiveChairs$State" "rule" "LDiveChairs$Rule;", Cond.fieldLink RX11 171 "DiveChairs$RuleReader" "draft" "LDiveChairs$Rule;", Cond.methodLink RX11 135 yX11_shelfAt, Cond.instanceMethod yX11_shelfAt, Cond.selects RX11 yX11_shelfAt yX11_shelfAt, Cond.initialized RX11, Cond.code yX11_shelfAt cX11_shelfAt 2 (some (.object "DiveChairs$Shelf")), Cond.fieldLink RX11 24 "DiveChairs" "shelves" "[LDiveChairs$Shelf;", Cond.methodLink RX11 57 yX11_within, Cond.static yX11_within, Cond.code yX11_within cX11_within 2 (some .boolean), Cond.methodLink RX11 139 yX8_refusalAsText, Cond.instanceMethod yX8_refusalAsText, Cond.selects RX8 yX8_refusalAsText yX8_refusalAsText, Cond.initialized RX8, Cond.code yX8_refusalAsText cX8_refusalAsText 1 (some .int), Cond.fieldLink RX8 19 "DiveChairs$Shelf" "isRow" "Z", Cond.fieldLink RX8 30 "DiveChairs$Shelf" "sort" "I", Cond.methodLink RX8 33 yX8_refusalAsRow, Cond.instanceMethod yX8_refusalAsRow, Cond.selects RX8 yX8_refusalAsRow yX8_refusalAsRow, Cond.code yX8_refusalAsRow cX8_refusalAsRow 1 (some .int)]
def wsX11_rule_r2 : List Cond := [Cond.fieldLink RX8 15 "DiveChairs$Shelf" "judge" "LDiveChairs$Judge;", Cond.methodLink RX11 167 yX7_read, Cond.instanceMethod yX7_read, Cond.selects RX7 yX7_read yX7_read, Cond.initialized RX7, Cond.code yX7_read cX7_read 4 (some .int), Cond.fieldLink RX7 12 "DiveChairs$RuleReader" "draft" "LDiveChairs$Rule;", Cond.fieldLink RX7 26 "DiveChairs$Shelf" "elements" "[I", Cond.fieldLink RX7 18 "DiveChairs$RuleReader" "text" "[I", Cond.fieldLink RX7 31 "DiveChairs$Shelf" "size" "I", Cond.methodLink RX7 35 Lib.Math.min.name, Cond.static Lib.Math.min.name, Cond.initialized "java/lang/Math", Cond.code Lib.Math.min.name Lib.Math.min.code 2 (some .int), Cond.fieldLink RX7 41 "DiveChairs$RuleReader" "size" "I", Cond.fieldLink RX7 42 "DiveChairs$RuleReader" "at" "I", Cond.fieldLink RX7 45 "DiveChairs$RuleReader" "stopped" "Z", Cond.fieldLink RX7 49 "DiveChairs$RuleReader" "firstWrong" "I", Cond.methodLink RX7 22 yX6_copyFrom, Cond.instanceMethod yX6_copyFrom, Cond.selects RX6 yX6_copyFrom yX6_copyFrom, Cond.initialized RX6, Cond.code yX6_copyFrom cX6_copyFrom 2 none, Cond.fieldLink RX6 9 "DiveChairs$Rule" "off" "[I"]
def wsX11_rule_r3 : List Cond := [Cond.methodLink RX6 32 arraycopyName, Cond.native arraycopyName, Cond.static arraycopyName, Cond.initialized "java/lang/System", Cond.fieldLink RX6 15 "DiveChairs$Rule" "dropHighest" "I", Cond.fieldLink RX6 19 "DiveChairs$Rule" "dropLowest" "I", Cond.fieldLink RX6 22 "DiveChairs$Rule" "code" "[I", Cond.fieldLink RX6 38 "DiveChairs$Rule" "length" "I", Cond.methodLink RX7 52 yX7_readStatement, Cond.instanceMethod yX7_readStatement, Cond.selects RX7 yX7_readStatement yX7_readStatement, Cond.code yX7_readStatement cX7_readStatement 2 none, Cond.methodLink RX7 55 yX7_next, Cond.instanceMethod yX7_next, Cond.selects RX7 yX7_next yX7_next, Cond.code yX7_next cX7_next 1 (some .int), Cond.methodLink RX7 59 yX7_readOff, Cond.instanceMethod yX7_readOff, Cond.selects RX7 yX7_readOff yX7_readOff, Cond.code yX7_readOff cX7_readOff 4 none, Cond.fieldLink RX7 82 "DiveChairs$Rule" "off" "[I", Cond.methodLink RX7 75 yX7_readNumber, Cond.instanceMethod yX7_readNumber, Cond.selects RX7 yX7_readNumber yX7_readNumber]
def wsX11_rule_r4 : List Cond := [Cond.code yX7_readNumber cX7_readNumber 3 (some .int), Cond.methodLink RX7 107 yX7_isAtDigit, Cond.instanceMethod yX7_isAtDigit, Cond.selects RX7 yX7_isAtDigit yX7_isAtDigit, Cond.code yX7_isAtDigit cX7_isAtDigit 1 (some .boolean), Cond.methodLink RX7 72 yX7_expect, Cond.instanceMethod yX7_expect, Cond.selects RX7 yX7_expect yX7_expect, Cond.code yX7_expect cX7_expect 2 none, Cond.methodLink RX7 85 yX7_wrongAt, Cond.instanceMethod yX7_wrongAt, Cond.selects RX7 yX7_wrongAt yX7_wrongAt, Cond.code yX7_wrongAt cX7_wrongAt 2 none, Cond.methodLink RX7 63 yX7_readDropped, Cond.instanceMethod yX7_readDropped, Cond.selects RX7 yX7_readDropped yX7_readDropped, Cond.code yX7_readDropped cX7_readDropped 4 none, Cond.fieldLink RX7 88 "DiveChairs$Rule" "dropHighest" "I", Cond.fieldLink RX7 91 "DiveChairs$Rule" "dropLowest" "I", Cond.methodLink RX7 66 yX6_forgetSum, Cond.instanceMethod yX6_forgetSum, Cond.selects RX6 yX6_forgetSum yX6_forgetSum, Cond.code yX6_forgetSum cX6_forgetSum 1 none, Cond.methodLink RX7 69 yX7_readSum]
def wsX11_rule_r5 : List Cond := [Cond.instanceMethod yX7_readSum, Cond.selects RX7 yX7_readSum yX7_readSum, Cond.code yX7_readSum cX7_readSum 4 none, Cond.methodLink RX7 94 yX7_readProduct, Cond.instanceMethod yX7_readProduct, Cond.selects RX7 yX7_readProduct yX7_readProduct, Cond.methodLink RX7 97 yX6_append, Cond.instanceMethod yX6_append, Cond.selects RX6 yX6_append yX6_append, Cond.code yX6_append cX6_append 2 none, Cond.code yX7_readAtom cX7_readAtom 3 none, Cond.methodLink RX7 103 yX7_readBrackets, Cond.instanceMethod yX7_readBrackets, Cond.selects RX7 yX7_readBrackets yX7_readBrackets, Cond.code yX7_readBrackets cX7_readBrackets 4 none, Cond.code yX7_readProduct cX7_readProduct 4 none, Cond.methodLink RX7 100 yX7_readAtom, Cond.instanceMethod yX7_readAtom, Cond.selects RX7 yX7_readAtom yX7_readAtom, Cond.methodLink RX11 174 yX6_copyFrom]
def wsX11_rule : List Cond := .code yX11_rule cX11_rule 5 (some .int) :: ((wsX11_rule_r1 ++ (wsX11_rule_r2 ++ (wsX11_rule_r3 ++ (wsX11_rule_r4 ++ wsX11_rule_r5)))) ++ wsX110 ++ wsX90 ++ wsX70 ++ wsX80 ++ wsX60)
def wsX11_counts_r1 : List Cond := [Cond.fieldLink RX11 10 "DiveChairs" "now" "LDiveChairs$State;", Cond.constant RX11 180 (-1000000001), Cond.methodLink RX11 93 yX9_diveAt, Cond.instanceMethod yX9_diveAt, Cond.selects RX9 yX9_diveAt yX9_diveAt, Cond.initialized RX9, Cond.code yX9_diveAt cX9_diveAt 2 (some (.object "DiveChairs$Dive")), Cond.fieldLink RX9 72 "DiveChairs$State" "dives" "I", Cond.fieldLink RX9 39 "DiveChairs$State" "divesMade" "[LDiveChairs$Dive;", Cond.static yX11_within, Cond.initialized RX11, Cond.code yX11_within cX11_within 2 (some .boolean), Cond.methodLink RX11 181 yX9_countOf, Cond.instanceMethod yX9_countOf, Cond.selects RX9 yX9_countOf yX9_countOf, Cond.code yX9_countOf cX9_countOf 2 (some .int), Cond.fieldLink RX9 50 "DiveChairs$State" "panel" "LDiveChairs$Panel;", Cond.fieldLink RX9 27 "DiveChairs$State" "rule" "LDiveChairs$Rule;", Cond.methodLink RX9 100 yX5_gather, Cond.instanceMethod yX5_gather, Cond.selects RX5 yX5_gather yX5_gather, Cond.initialized RX5, Cond.code yX5_gather cX5_gather 3 none, Cond.fieldLink RX5 15 "DiveChairs$Panel" "size" "I"]
def wsX11_counts_r2 : List Cond := [Cond.fieldLink RX5 25 "DiveChairs$Dive" "marks" "[I", Cond.methodLink RX5 19 yX1_hasMark, Cond.instanceMethod yX1_hasMark, Cond.selects RX1 yX1_hasMark yX1_hasMark, Cond.initialized RX1, Cond.code yX1_hasMark cX1_hasMark 2 (some .boolean), Cond.fieldLink RX1 9 "DiveChairs$Dive" "marks" "[I", Cond.methodLink RX5 28 yX5_add, Cond.instanceMethod yX5_add, Cond.selects RX5 yX5_add yX5_add, Cond.code yX5_add cX5_add 3 none, Cond.fieldLink RX5 9 "DiveChairs$Panel" "sorted" "[I", Cond.methodLink RX9 118 yX6_countFor, Cond.instanceMethod yX6_countFor, Cond.selects RX6 yX6_countFor yX6_countFor, Cond.initialized RX6, Cond.code yX6_countFor cX6_countFor 6 (some .int), Cond.fieldLink RX6 41 "DiveChairs$Panel" "size" "I", Cond.fieldLink RX6 15 "DiveChairs$Rule" "dropHighest" "I", Cond.fieldLink RX6 19 "DiveChairs$Rule" "dropLowest" "I", Cond.fieldLink RX6 38 "DiveChairs$Rule" "length" "I", Cond.fieldLink RX6 22 "DiveChairs$Rule" "code" "[I", Cond.fieldLink RX6 25 "DiveChairs$Rule" "stack" "[I", Cond.methodLink RX6 46 yX6_isWorking]
def wsX11_counts_r3 : List Cond := [Cond.static yX6_isWorking, Cond.code yX6_isWorking cX6_isWorking 1 (some .boolean), Cond.methodLink RX6 50 yX6_fieldOf, Cond.instanceMethod yX6_fieldOf, Cond.selects RX6 yX6_fieldOf yX6_fieldOf, Cond.code yX6_fieldOf cX6_fieldOf 4 (some .int), Cond.fieldLink RX6 70 "DiveChairs$Dive" "hard" "I", Cond.fieldLink RX6 85 "DiveChairs$Dive" "splash" "I", Cond.methodLink RX6 67 yX5_sumBetween, Cond.instanceMethod yX5_sumBetween, Cond.selects RX5 yX5_sumBetween yX5_sumBetween, Cond.code yX5_sumBetween cX5_sumBetween 5 (some .int), Cond.methodLink RX6 75 yX5_middle, Cond.instanceMethod yX5_middle, Cond.selects RX5 yX5_middle yX5_middle, Cond.code yX5_middle cX5_middle 1 (some .int), Cond.methodLink RX6 79 yX5_highest, Cond.instanceMethod yX5_highest, Cond.selects RX5 yX5_highest yX5_highest, Cond.code yX5_highest cX5_highest 1 (some .int), Cond.methodLink RX6 82 yX5_lowest, Cond.instanceMethod yX5_lowest, Cond.selects RX5 yX5_lowest yX5_lowest, Cond.code yX5_lowest cX5_lowest 1 (some .int)]
def wsX11_counts_r4 : List Cond := [Cond.methodLink RX6 54 yX6_worked, Cond.static yX6_worked, Cond.code yX6_worked cX6_worked 3 (some .int), Cond.methodLink RX6 58 Lib.Math.min.name, Cond.static Lib.Math.min.name, Cond.initialized "java/lang/Math", Cond.code Lib.Math.min.name Lib.Math.min.code 2 (some .int), Cond.methodLink RX6 64 Lib.Math.max.name, Cond.static Lib.Math.max.name, Cond.code Lib.Math.max.name Lib.Math.max.code 2 (some .int)]
def wsX11_counts : List Cond := .code yX11_counts cX11_counts 3 (some .int) :: ((wsX11_counts_r1 ++ (wsX11_counts_r2 ++ (wsX11_counts_r3 ++ wsX11_counts_r4))) ++ wsX110 ++ wsX90 ++ wsX50 ++ wsX10 ++ wsX60)
def wsX11_total_r1 : List Cond := [Cond.fieldLink RX11 10 "DiveChairs" "now" "LDiveChairs$State;", Cond.fieldLink RX11 86 "DiveChairs$State" "divers" "I", Cond.constantLong RX11 184 (-4611686018427387904), Cond.fieldLink RX11 193 "DiveChairs$State" "totals" "[J", Cond.methodLink RX11 57 yX11_within, Cond.static yX11_within, Cond.initialized RX11, Cond.code yX11_within cX11_within 2 (some .boolean), Cond.methodLink RX11 186 yX9_addUp, Cond.instanceMethod yX9_addUp, Cond.selects RX9 yX9_addUp yX9_addUp, Cond.initialized RX9, Cond.code yX9_addUp cX9_addUp 6 (some .int), Cond.fieldLink RX9 43 "DiveChairs$State" "totals" "[J", Cond.fieldLink RX9 72 "DiveChairs$State" "dives" "I", Cond.fieldLink RX9 39 "DiveChairs$State" "divesMade" "[LDiveChairs$Dive;", Cond.fieldLink RX9 126 "DiveChairs$Dive" "hall" "I", Cond.fieldLink RX9 89 "DiveChairs$Dive" "diver" "I", Cond.fieldLink RX9 184 "DiveChairs$Dive" "hard" "I", Cond.methodLink RX9 181 yX9_worthOf, Cond.instanceMethod yX9_worthOf, Cond.selects RX9 yX9_worthOf yX9_worthOf, Cond.code yX9_worthOf cX9_worthOf 2 (some .int), Cond.fieldLink RX9 27 "DiveChairs$State" "rule" "LDiveChairs$Rule;"]
def wsX11_total_r2 : List Cond := [Cond.fieldLink RX9 106 "DiveChairs$Dive" "flaws" "I", Cond.methodLink RX9 113 Lib.Math.max.name, Cond.static Lib.Math.max.name, Cond.initialized "java/lang/Math", Cond.code Lib.Math.max.name Lib.Math.max.code 2 (some .int), Cond.methodLink RX9 109 yX6_offFor, Cond.instanceMethod yX6_offFor, Cond.selects RX6 yX6_offFor yX6_offFor, Cond.initialized RX6, Cond.code yX6_offFor cX6_offFor 4 (some .int), Cond.fieldLink RX6 9 "DiveChairs$Rule" "off" "[I", Cond.methodLink RX9 187 yX9_countOf, Cond.instanceMethod yX9_countOf, Cond.selects RX9 yX9_countOf yX9_countOf, Cond.code yX9_countOf cX9_countOf 2 (some .int), Cond.fieldLink RX9 50 "DiveChairs$State" "panel" "LDiveChairs$Panel;", Cond.methodLink RX9 100 yX5_gather, Cond.instanceMethod yX5_gather, Cond.selects RX5 yX5_gather yX5_gather, Cond.initialized RX5, Cond.code yX5_gather cX5_gather 3 none, Cond.fieldLink RX5 15 "DiveChairs$Panel" "size" "I", Cond.fieldLink RX5 25 "DiveChairs$Dive" "marks" "[I", Cond.methodLink RX5 19 yX1_hasMark]
def wsX11_total_r3 : List Cond := [Cond.instanceMethod yX1_hasMark, Cond.selects RX1 yX1_hasMark yX1_hasMark, Cond.initialized RX1, Cond.code yX1_hasMark cX1_hasMark 2 (some .boolean), Cond.fieldLink RX1 9 "DiveChairs$Dive" "marks" "[I", Cond.methodLink RX5 28 yX5_add, Cond.instanceMethod yX5_add, Cond.selects RX5 yX5_add yX5_add, Cond.code yX5_add cX5_add 3 none, Cond.fieldLink RX5 9 "DiveChairs$Panel" "sorted" "[I", Cond.methodLink RX9 118 yX6_countFor, Cond.instanceMethod yX6_countFor, Cond.selects RX6 yX6_countFor yX6_countFor, Cond.code yX6_countFor cX6_countFor 6 (some .int), Cond.fieldLink RX6 41 "DiveChairs$Panel" "size" "I", Cond.fieldLink RX6 15 "DiveChairs$Rule" "dropHighest" "I", Cond.fieldLink RX6 19 "DiveChairs$Rule" "dropLowest" "I", Cond.fieldLink RX6 38 "DiveChairs$Rule" "length" "I", Cond.fieldLink RX6 22 "DiveChairs$Rule" "code" "[I", Cond.fieldLink RX6 25 "DiveChairs$Rule" "stack" "[I", Cond.methodLink RX6 46 yX6_isWorking, Cond.static yX6_isWorking, Cond.code yX6_isWorking cX6_isWorking 1 (some .boolean), Cond.methodLink RX6 50 yX6_fieldOf]
def wsX11_total_r4 : List Cond := [Cond.instanceMethod yX6_fieldOf, Cond.selects RX6 yX6_fieldOf yX6_fieldOf, Cond.code yX6_fieldOf cX6_fieldOf 4 (some .int), Cond.fieldLink RX6 70 "DiveChairs$Dive" "hard" "I", Cond.fieldLink RX6 85 "DiveChairs$Dive" "splash" "I", Cond.methodLink RX6 67 yX5_sumBetween, Cond.instanceMethod yX5_sumBetween, Cond.selects RX5 yX5_sumBetween yX5_sumBetween, Cond.code yX5_sumBetween cX5_sumBetween 5 (some .int), Cond.methodLink RX6 75 yX5_middle, Cond.instanceMethod yX5_middle, Cond.selects RX5 yX5_middle yX5_middle, Cond.code yX5_middle cX5_middle 1 (some .int), Cond.methodLink RX6 79 yX5_highest, Cond.instanceMethod yX5_highest, Cond.selects RX5 yX5_highest yX5_highest, Cond.code yX5_highest cX5_highest 1 (some .int), Cond.methodLink RX6 82 yX5_lowest, Cond.instanceMethod yX5_lowest, Cond.selects RX5 yX5_lowest yX5_lowest, Cond.code yX5_lowest cX5_lowest 1 (some .int), Cond.methodLink RX6 54 yX6_worked, Cond.static yX6_worked, Cond.code yX6_worked cX6_worked 3 (some .int)]
def wsX11_total_r5 : List Cond := [Cond.methodLink RX6 58 Lib.Math.min.name, Cond.static Lib.Math.min.name, Cond.code Lib.Math.min.name Lib.Math.min.code 2 (some .int), Cond.methodLink RX6 64 Lib.Math.max.name, Cond.methodLink RX11 190 yX11_holds, Cond.static yX11_holds, Cond.code yX11_holds cX11_holds 2 (some .boolean)]
def wsX11_total : List Cond := .code yX11_total cX11_total 4 (some .long) :: ((wsX11_total_r1 ++ (wsX11_total_r2 ++ (wsX11_total_r3 ++ (wsX11_total_r4 ++ wsX11_total_r5)))) ++ wsX110 ++ wsX90 ++ wsX10 ++ wsX60 ++ wsX50)
def wsX11_place_r1 : List Cond := [Cond.fieldLink RX11 10 "DiveChairs" "now" "LDiveChairs$State;", Cond.fieldLink RX11 86 "DiveChairs$State" "divers" "I", Cond.methodLink RX11 57 yX11_within, Cond.static yX11_within, Cond.initialized RX11, Cond.code yX11_within cX11_within 2 (some .boolean), Cond.methodLink RX11 197 yX9_placeOf, Cond.instanceMethod yX9_placeOf, Cond.selects RX9 yX9_placeOf yX9_placeOf, Cond.initialized RX9, Cond.code yX9_placeOf cX9_placeOf 7 (some .int), Cond.fieldLink RX9 43 "DiveChairs$State" "totals" "[J", Cond.methodLink RX9 190 yX9_addUp, Cond.instanceMethod yX9_addUp, Cond.selects RX9 yX9_addUp yX9_addUp, Cond.code yX9_addUp cX9_addUp 6 (some .int), Cond.fieldLink RX9 72 "DiveChairs$State" "dives" "I", Cond.fieldLink RX9 39 "DiveChairs$State" "divesMade" "[LDiveChairs$Dive;", Cond.fieldLink RX9 126 "DiveChairs$Dive" "hall" "I", Cond.fieldLink RX9 89 "DiveChairs$Dive" "diver" "I", Cond.fieldLink RX9 184 "DiveChairs$Dive" "hard" "I", Cond.methodLink RX9 181 yX9_worthOf, Cond.instanceMethod yX9_worthOf, Cond.selects RX9 yX9_worthOf yX9_worthOf]
def wsX11_place_r2 : List Cond := [Cond.code yX9_worthOf cX9_worthOf 2 (some .int), Cond.fieldLink RX9 27 "DiveChairs$State" "rule" "LDiveChairs$Rule;", Cond.fieldLink RX9 106 "DiveChairs$Dive" "flaws" "I", Cond.methodLink RX9 113 Lib.Math.max.name, Cond.static Lib.Math.max.name, Cond.initialized "java/lang/Math", Cond.code Lib.Math.max.name Lib.Math.max.code 2 (some .int), Cond.methodLink RX9 109 yX6_offFor, Cond.instanceMethod yX6_offFor, Cond.selects RX6 yX6_offFor yX6_offFor, Cond.initialized RX6, Cond.code yX6_offFor cX6_offFor 4 (some .int), Cond.fieldLink RX6 9 "DiveChairs$Rule" "off" "[I", Cond.methodLink RX9 187 yX9_countOf, Cond.instanceMethod yX9_countOf, Cond.selects RX9 yX9_countOf yX9_countOf, Cond.code yX9_countOf cX9_countOf 2 (some .int), Cond.fieldLink RX9 50 "DiveChairs$State" "panel" "LDiveChairs$Panel;", Cond.methodLink RX9 100 yX5_gather, Cond.instanceMethod yX5_gather, Cond.selects RX5 yX5_gather yX5_gather, Cond.initialized RX5, Cond.code yX5_gather cX5_gather 3 none, Cond.fieldLink RX5 15 "DiveChairs$Panel" "size" "I"]
def wsX11_place_r3 : List Cond := [Cond.fieldLink RX5 25 "DiveChairs$Dive" "marks" "[I", Cond.methodLink RX5 19 yX1_hasMark, Cond.instanceMethod yX1_hasMark, Cond.selects RX1 yX1_hasMark yX1_hasMark, Cond.initialized RX1, Cond.code yX1_hasMark cX1_hasMark 2 (some .boolean), Cond.fieldLink RX1 9 "DiveChairs$Dive" "marks" "[I", Cond.methodLink RX5 28 yX5_add, Cond.instanceMethod yX5_add, Cond.selects RX5 yX5_add yX5_add, Cond.code yX5_add cX5_add 3 none, Cond.fieldLink RX5 9 "DiveChairs$Panel" "sorted" "[I", Cond.methodLink RX9 118 yX6_countFor, Cond.instanceMethod yX6_countFor, Cond.selects RX6 yX6_countFor yX6_countFor, Cond.code yX6_countFor cX6_countFor 6 (some .int), Cond.fieldLink RX6 41 "DiveChairs$Panel" "size" "I", Cond.fieldLink RX6 15 "DiveChairs$Rule" "dropHighest" "I", Cond.fieldLink RX6 19 "DiveChairs$Rule" "dropLowest" "I", Cond.fieldLink RX6 38 "DiveChairs$Rule" "length" "I", Cond.fieldLink RX6 22 "DiveChairs$Rule" "code" "[I", Cond.fieldLink RX6 25 "DiveChairs$Rule" "stack" "[I", Cond.methodLink RX6 46 yX6_isWorking, Cond.static yX6_isWorking]
def wsX11_place_r4 : List Cond := [Cond.code yX6_isWorking cX6_isWorking 1 (some .boolean), Cond.methodLink RX6 50 yX6_fieldOf, Cond.instanceMethod yX6_fieldOf, Cond.selects RX6 yX6_fieldOf yX6_fieldOf, Cond.code yX6_fieldOf cX6_fieldOf 4 (some .int), Cond.fieldLink RX6 70 "DiveChairs$Dive" "hard" "I", Cond.fieldLink RX6 85 "DiveChairs$Dive" "splash" "I", Cond.methodLink RX6 67 yX5_sumBetween, Cond.instanceMethod yX5_sumBetween, Cond.selects RX5 yX5_sumBetween yX5_sumBetween, Cond.code yX5_sumBetween cX5_sumBetween 5 (some .int), Cond.methodLink RX6 75 yX5_middle, Cond.instanceMethod yX5_middle, Cond.selects RX5 yX5_middle yX5_middle, Cond.code yX5_middle cX5_middle 1 (some .int), Cond.methodLink RX6 79 yX5_highest, Cond.instanceMethod yX5_highest, Cond.selects RX5 yX5_highest yX5_highest, Cond.code yX5_highest cX5_highest 1 (some .int), Cond.methodLink RX6 82 yX5_lowest, Cond.instanceMethod yX5_lowest, Cond.selects RX5 yX5_lowest yX5_lowest, Cond.code yX5_lowest cX5_lowest 1 (some .int), Cond.methodLink RX6 54 yX6_worked]
def wsX11_place_r5 : List Cond := [Cond.static yX6_worked, Cond.code yX6_worked cX6_worked 3 (some .int), Cond.methodLink RX6 58 Lib.Math.min.name, Cond.static Lib.Math.min.name, Cond.code Lib.Math.min.name Lib.Math.min.code 2 (some .int), Cond.methodLink RX6 64 Lib.Math.max.name, Cond.static yX11_holds, Cond.code yX11_holds cX11_holds 2 (some .boolean)]
def wsX11_place : List Cond := .code yX11_place cX11_place 3 (some .int) :: ((wsX11_place_r1 ++ (wsX11_place_r2 ++ (wsX11_place_r3 ++ (wsX11_place_r4 ++ wsX11_place_r5)))) ++ wsX110 ++ wsX90 ++ wsX10 ++ wsX60 ++ wsX50)
def wsX11_won_r1 : List Cond := [Cond.fieldLink RX11 10 "DiveChairs" "now" "LDiveChairs$State;", Cond.methodLink RX11 57 yX11_within, Cond.static yX11_within, Cond.initialized RX11, Cond.code yX11_within cX11_within 2 (some .boolean), Cond.methodLink RX11 201 yX9_winner, Cond.instanceMethod yX9_winner, Cond.selects RX9 yX9_winner yX9_winner, Cond.initialized RX9, Cond.code yX9_winner cX9_winner 5 (some .int), Cond.fieldLink RX9 43 "DiveChairs$State" "totals" "[J", Cond.methodLink RX9 190 yX9_addUp, Cond.instanceMethod yX9_addUp, Cond.selects RX9 yX9_addUp yX9_addUp, Cond.code yX9_addUp cX9_addUp 6 (some .int), Cond.fieldLink RX9 72 "DiveChairs$State" "dives" "I", Cond.fieldLink RX9 39 "DiveChairs$State" "divesMade" "[LDiveChairs$Dive;", Cond.fieldLink RX9 126 "DiveChairs$Dive" "hall" "I", Cond.fieldLink RX9 89 "DiveChairs$Dive" "diver" "I", Cond.fieldLink RX9 184 "DiveChairs$Dive" "hard" "I", Cond.methodLink RX9 181 yX9_worthOf, Cond.instanceMethod yX9_worthOf, Cond.selects RX9 yX9_worthOf yX9_worthOf, Cond.code yX9_worthOf cX9_worthOf 2 (some .int)]
def wsX11_won_r2 : List Cond := [Cond.fieldLink RX9 27 "DiveChairs$State" "rule" "LDiveChairs$Rule;", Cond.fieldLink RX9 106 "DiveChairs$Dive" "flaws" "I", Cond.methodLink RX9 113 Lib.Math.max.name, Cond.static Lib.Math.max.name, Cond.initialized "java/lang/Math", Cond.code Lib.Math.max.name Lib.Math.max.code 2 (some .int), Cond.methodLink RX9 109 yX6_offFor, Cond.instanceMethod yX6_offFor, Cond.selects RX6 yX6_offFor yX6_offFor, Cond.initialized RX6, Cond.code yX6_offFor cX6_offFor 4 (some .int), Cond.fieldLink RX6 9 "DiveChairs$Rule" "off" "[I", Cond.methodLink RX9 187 yX9_countOf, Cond.instanceMethod yX9_countOf, Cond.selects RX9 yX9_countOf yX9_countOf, Cond.code yX9_countOf cX9_countOf 2 (some .int), Cond.fieldLink RX9 50 "DiveChairs$State" "panel" "LDiveChairs$Panel;", Cond.methodLink RX9 100 yX5_gather, Cond.instanceMethod yX5_gather, Cond.selects RX5 yX5_gather yX5_gather, Cond.initialized RX5, Cond.code yX5_gather cX5_gather 3 none, Cond.fieldLink RX5 15 "DiveChairs$Panel" "size" "I", Cond.fieldLink RX5 25 "DiveChairs$Dive" "marks" "[I"]
def wsX11_won_r3 : List Cond := [Cond.methodLink RX5 19 yX1_hasMark, Cond.instanceMethod yX1_hasMark, Cond.selects RX1 yX1_hasMark yX1_hasMark, Cond.initialized RX1, Cond.code yX1_hasMark cX1_hasMark 2 (some .boolean), Cond.fieldLink RX1 9 "DiveChairs$Dive" "marks" "[I", Cond.methodLink RX5 28 yX5_add, Cond.instanceMethod yX5_add, Cond.selects RX5 yX5_add yX5_add, Cond.code yX5_add cX5_add 3 none, Cond.fieldLink RX5 9 "DiveChairs$Panel" "sorted" "[I", Cond.methodLink RX9 118 yX6_countFor, Cond.instanceMethod yX6_countFor, Cond.selects RX6 yX6_countFor yX6_countFor, Cond.code yX6_countFor cX6_countFor 6 (some .int), Cond.fieldLink RX6 41 "DiveChairs$Panel" "size" "I", Cond.fieldLink RX6 15 "DiveChairs$Rule" "dropHighest" "I", Cond.fieldLink RX6 19 "DiveChairs$Rule" "dropLowest" "I", Cond.fieldLink RX6 38 "DiveChairs$Rule" "length" "I", Cond.fieldLink RX6 22 "DiveChairs$Rule" "code" "[I", Cond.fieldLink RX6 25 "DiveChairs$Rule" "stack" "[I", Cond.methodLink RX6 46 yX6_isWorking, Cond.static yX6_isWorking, Cond.code yX6_isWorking cX6_isWorking 1 (some .boolean)]
def wsX11_won_r4 : List Cond := [Cond.methodLink RX6 50 yX6_fieldOf, Cond.instanceMethod yX6_fieldOf, Cond.selects RX6 yX6_fieldOf yX6_fieldOf, Cond.code yX6_fieldOf cX6_fieldOf 4 (some .int), Cond.fieldLink RX6 70 "DiveChairs$Dive" "hard" "I", Cond.fieldLink RX6 85 "DiveChairs$Dive" "splash" "I", Cond.methodLink RX6 67 yX5_sumBetween, Cond.instanceMethod yX5_sumBetween, Cond.selects RX5 yX5_sumBetween yX5_sumBetween, Cond.code yX5_sumBetween cX5_sumBetween 5 (some .int), Cond.methodLink RX6 75 yX5_middle, Cond.instanceMethod yX5_middle, Cond.selects RX5 yX5_middle yX5_middle, Cond.code yX5_middle cX5_middle 1 (some .int), Cond.methodLink RX6 79 yX5_highest, Cond.instanceMethod yX5_highest, Cond.selects RX5 yX5_highest yX5_highest, Cond.code yX5_highest cX5_highest 1 (some .int), Cond.methodLink RX6 82 yX5_lowest, Cond.instanceMethod yX5_lowest, Cond.selects RX5 yX5_lowest yX5_lowest, Cond.code yX5_lowest cX5_lowest 1 (some .int), Cond.methodLink RX6 54 yX6_worked, Cond.static yX6_worked]
def wsX11_won_r5 : List Cond := [Cond.code yX6_worked cX6_worked 3 (some .int), Cond.methodLink RX6 58 Lib.Math.min.name, Cond.static Lib.Math.min.name, Cond.code Lib.Math.min.name Lib.Math.min.code 2 (some .int), Cond.methodLink RX6 64 Lib.Math.max.name, Cond.static yX11_holds, Cond.code yX11_holds cX11_holds 2 (some .boolean)]
def wsX11_won : List Cond := .code yX11_won cX11_won 2 (some .int) :: ((wsX11_won_r1 ++ (wsX11_won_r2 ++ (wsX11_won_r3 ++ (wsX11_won_r4 ++ wsX11_won_r5)))) ++ wsX110 ++ wsX90 ++ wsX10 ++ wsX60 ++ wsX50)
def wsX11_isSupposable : List Cond := .code yX11_isSupposable cX11_isSupposable 2 (some .boolean) :: ([.methodLink RX11 57 yX11_within, .static yX11_within, .initialized RX11, .code yX11_within cX11_within 2 (some .boolean)])
def wsX11_wonIf_r1 : List Cond := [Cond.fieldLink RX11 19 "DiveChairs" "mind" "LDiveChairs$State;", Cond.fieldLink RX11 10 "DiveChairs" "now" "LDiveChairs$State;", Cond.fieldLink RX11 163 "DiveChairs$State" "rule" "LDiveChairs$Rule;", Cond.fieldLink RX11 214 "DiveChairs$Rule" "dropHighest" "I", Cond.fieldLink RX11 217 "DiveChairs$Rule" "dropLowest" "I", Cond.methodLink RX11 57 yX11_within, Cond.static yX11_within, Cond.initialized RX11, Cond.code yX11_within cX11_within 2 (some .boolean), Cond.methodLink RX11 204 yX11_isSupposable, Cond.static yX11_isSupposable, Cond.code yX11_isSupposable cX11_isSupposable 2 (some .boolean), Cond.methodLink RX11 207 yX9_copyFrom, Cond.instanceMethod yX9_copyFrom, Cond.selects RX9 yX9_copyFrom yX9_copyFrom, Cond.initialized RX9, Cond.code yX9_copyFrom cX9_copyFrom 3 none, Cond.fieldLink RX9 9 "DiveChairs$State" "lands" "[I", Cond.methodLink RX9 55 arraycopyName, Cond.native arraycopyName, Cond.static arraycopyName, Cond.initialized "java/lang/System", Cond.fieldLink RX9 15 "DiveChairs$State" "names" "[I", Cond.fieldLink RX9 18 "DiveChairs$State" "years" "[I"]
def wsX11_wonIf_r2 : List Cond := [Cond.fieldLink RX9 21 "DiveChairs$State" "seats" "[I", Cond.fieldLink RX9 27 "DiveChairs$State" "rule" "LDiveChairs$Rule;", Cond.fieldLink RX9 65 "DiveChairs$State" "divers" "I", Cond.fieldLink RX9 69 "DiveChairs$State" "judges" "I", Cond.fieldLink RX9 72 "DiveChairs$State" "dives" "I", Cond.fieldLink RX9 33 "DiveChairs$State" "judgesMade" "[LDiveChairs$Judge;", Cond.fieldLink RX9 39 "DiveChairs$State" "divesMade" "[LDiveChairs$Dive;", Cond.methodLink RX9 61 yX6_copyFrom, Cond.instanceMethod yX6_copyFrom, Cond.selects RX6 yX6_copyFrom yX6_copyFrom, Cond.initialized RX6, Cond.code yX6_copyFrom cX6_copyFrom 2 none, Cond.fieldLink RX6 9 "DiveChairs$Rule" "off" "[I", Cond.methodLink RX6 32 arraycopyName, Cond.fieldLink RX6 15 "DiveChairs$Rule" "dropHighest" "I", Cond.fieldLink RX6 19 "DiveChairs$Rule" "dropLowest" "I", Cond.fieldLink RX6 22 "DiveChairs$Rule" "code" "[I", Cond.fieldLink RX6 38 "DiveChairs$Rule" "length" "I", Cond.methodLink RX9 75 yX1_copyFrom, Cond.instanceMethod yX1_copyFrom, Cond.selects RX1 yX1_copyFrom yX1_copyFrom, Cond.initialized RX1, Cond.code yX1_copyFrom cX1_copyFrom 2 none, Cond.fieldLink RX1 18 "DiveChairs$Dive" "hall" "I"]
def wsX11_wonIf_r3 : List Cond := [Cond.fieldLink RX1 22 "DiveChairs$Dive" "diver" "I", Cond.fieldLink RX1 25 "DiveChairs$Dive" "flaws" "I", Cond.fieldLink RX1 28 "DiveChairs$Dive" "splash" "I", Cond.fieldLink RX1 31 "DiveChairs$Dive" "hard" "I", Cond.fieldLink RX1 9 "DiveChairs$Dive" "marks" "[I", Cond.methodLink RX1 38 arraycopyName, Cond.fieldLink RX1 15 "DiveChairs$Dive" "markers" "[I", Cond.methodLink RX11 210 yX9_takeChairOff, Cond.instanceMethod yX9_takeChairOff, Cond.selects RX9 yX9_takeChairOff yX9_takeChairOff, Cond.code yX9_takeChairOff cX9_takeChairOff 3 none, Cond.methodLink RX9 178 yX1_tell, Cond.instanceMethod yX1_tell, Cond.selects RX1 yX1_tell yX1_tell, Cond.code yX1_tell cX1_tell 4 none, Cond.methodLink RX11 220 yX9_takeLeansOff, Cond.instanceMethod yX9_takeLeansOff, Cond.selects RX9 yX9_takeLeansOff yX9_takeLeansOff, Cond.code yX9_takeLeansOff cX9_takeLeansOff 5 none, Cond.fieldLink RX9 197 "DiveChairs$Dive" "markers" "[I", Cond.fieldLink RX9 204 "DiveChairs$Dive" "marks" "[I", Cond.methodLink RX9 113 Lib.Math.max.name, Cond.static Lib.Math.max.name, Cond.initialized "java/lang/Math"]
def wsX11_wonIf_r4 : List Cond := [Cond.code Lib.Math.max.name Lib.Math.max.code 2 (some .int), Cond.methodLink RX9 129 yX9_judgeAt, Cond.instanceMethod yX9_judgeAt, Cond.selects RX9 yX9_judgeAt yX9_judgeAt, Cond.code yX9_judgeAt cX9_judgeAt 2 (some (.object "DiveChairs$Judge")), Cond.methodLink RX9 200 yX1_hasMark, Cond.instanceMethod yX1_hasMark, Cond.selects RX1 yX1_hasMark yX1_hasMark, Cond.code yX1_hasMark cX1_hasMark 2 (some .boolean), Cond.methodLink RX9 164 yX9_landOf, Cond.instanceMethod yX9_landOf, Cond.selects RX9 yX9_landOf yX9_landOf, Cond.code yX9_landOf cX9_landOf 2 (some .int), Cond.fieldLink RX9 89 "DiveChairs$Dive" "diver" "I", Cond.methodLink RX9 207 yX2_leanTo, Cond.instanceMethod yX2_leanTo, Cond.selects RX2 yX2_leanTo yX2_leanTo, Cond.initialized RX2, Cond.code yX2_leanTo cX2_leanTo 4 (some .int), Cond.fieldLink RX2 15 "DiveChairs$Judge" "kind" "I", Cond.fieldLink RX2 18 "DiveChairs$Judge" "land" "I", Cond.fieldLink RX2 24 "DiveChairs$Judge" "partner" "I", Cond.fieldLink RX2 21 "DiveChairs$Judge" "leaning" "I", Cond.methodLink RX11 201 yX9_winner]
def wsX11_wonIf_r5 : List Cond := [Cond.instanceMethod yX9_winner, Cond.selects RX9 yX9_winner yX9_winner, Cond.code yX9_winner cX9_winner 5 (some .int), Cond.fieldLink RX9 43 "DiveChairs$State" "totals" "[J", Cond.methodLink RX9 190 yX9_addUp, Cond.instanceMethod yX9_addUp, Cond.selects RX9 yX9_addUp yX9_addUp, Cond.code yX9_addUp cX9_addUp 6 (some .int), Cond.fieldLink RX9 126 "DiveChairs$Dive" "hall" "I", Cond.fieldLink RX9 184 "DiveChairs$Dive" "hard" "I", Cond.methodLink RX9 181 yX9_worthOf, Cond.instanceMethod yX9_worthOf, Cond.selects RX9 yX9_worthOf yX9_worthOf, Cond.code yX9_worthOf cX9_worthOf 2 (some .int), Cond.fieldLink RX9 106 "DiveChairs$Dive" "flaws" "I", Cond.methodLink RX9 109 yX6_offFor, Cond.instanceMethod yX6_offFor, Cond.selects RX6 yX6_offFor yX6_offFor, Cond.code yX6_offFor cX6_offFor 4 (some .int), Cond.methodLink RX9 187 yX9_countOf, Cond.instanceMethod yX9_countOf, Cond.selects RX9 yX9_countOf yX9_countOf, Cond.code yX9_countOf cX9_countOf 2 (some .int), Cond.fieldLink RX9 50 "DiveChairs$State" "panel" "LDiveChairs$Panel;"]
def wsX11_wonIf_r6 : List Cond := [Cond.methodLink RX9 100 yX5_gather, Cond.instanceMethod yX5_gather, Cond.selects RX5 yX5_gather yX5_gather, Cond.initialized RX5, Cond.code yX5_gather cX5_gather 3 none, Cond.fieldLink RX5 15 "DiveChairs$Panel" "size" "I", Cond.fieldLink RX5 25 "DiveChairs$Dive" "marks" "[I", Cond.methodLink RX5 19 yX1_hasMark, Cond.methodLink RX5 28 yX5_add, Cond.instanceMethod yX5_add, Cond.selects RX5 yX5_add yX5_add, Cond.code yX5_add cX5_add 3 none, Cond.fieldLink RX5 9 "DiveChairs$Panel" "sorted" "[I", Cond.methodLink RX9 118 yX6_countFor, Cond.instanceMethod yX6_countFor, Cond.selects RX6 yX6_countFor yX6_countFor, Cond.code yX6_countFor cX6_countFor 6 (some .int), Cond.fieldLink RX6 41 "DiveChairs$Panel" "size" "I", Cond.fieldLink RX6 25 "DiveChairs$Rule" "stack" "[I", Cond.methodLink RX6 46 yX6_isWorking, Cond.static yX6_isWorking, Cond.code yX6_isWorking cX6_isWorking 1 (some .boolean), Cond.methodLink RX6 50 yX6_fieldOf, Cond.instanceMethod yX6_fieldOf]
def wsX11_wonIf_r7 : List Cond := [Cond.selects RX6 yX6_fieldOf yX6_fieldOf, Cond.code yX6_fieldOf cX6_fieldOf 4 (some .int), Cond.fieldLink RX6 70 "DiveChairs$Dive" "hard" "I", Cond.fieldLink RX6 85 "DiveChairs$Dive" "splash" "I", Cond.methodLink RX6 67 yX5_sumBetween, Cond.instanceMethod yX5_sumBetween, Cond.selects RX5 yX5_sumBetween yX5_sumBetween, Cond.code yX5_sumBetween cX5_sumBetween 5 (some .int), Cond.methodLink RX6 75 yX5_middle, Cond.instanceMethod yX5_middle, Cond.selects RX5 yX5_middle yX5_middle, Cond.code yX5_middle cX5_middle 1 (some .int), Cond.methodLink RX6 79 yX5_highest, Cond.instanceMethod yX5_highest, Cond.selects RX5 yX5_highest yX5_highest, Cond.code yX5_highest cX5_highest 1 (some .int), Cond.methodLink RX6 82 yX5_lowest, Cond.instanceMethod yX5_lowest, Cond.selects RX5 yX5_lowest yX5_lowest, Cond.code yX5_lowest cX5_lowest 1 (some .int), Cond.methodLink RX6 54 yX6_worked, Cond.static yX6_worked, Cond.code yX6_worked cX6_worked 3 (some .int), Cond.methodLink RX6 58 Lib.Math.min.name]
def wsX11_wonIf_r8 : List Cond := [Cond.static Lib.Math.min.name, Cond.code Lib.Math.min.name Lib.Math.min.code 2 (some .int), Cond.methodLink RX6 64 Lib.Math.max.name, Cond.static yX11_holds, Cond.code yX11_holds cX11_holds 2 (some .boolean)]
def wsX11_wonIf : List Cond := .code yX11_wonIf cX11_wonIf 4 (some .int) :: ((wsX11_wonIf_r1 ++ (wsX11_wonIf_r2 ++ (wsX11_wonIf_r3 ++ (wsX11_wonIf_r4 ++ (wsX11_wonIf_r5 ++ (wsX11_wonIf_r6 ++ (wsX11_wonIf_r7 ++ wsX11_wonIf_r8))))))) ++ wsX110 ++ wsX90 ++ wsX60 ++ wsX10 ++ wsX20 ++ wsX50)
def wsJ6_bitCount_0f7a4 : List Cond := .code yJ6_bitCount_0f7a4 cJ6_bitCount_0f7a4 1 (some .int) :: ([.constant RJ6 265 (1431655765), .constant RJ6 266 (858993459), .constant RJ6 267 (252645135)])
def wsX11_placeMovedBy_r1 : List Cond := [Cond.fieldLink RX11 19 "DiveChairs" "mind" "LDiveChairs$State;", Cond.fieldLink RX11 10 "DiveChairs" "now" "LDiveChairs$State;", Cond.methodLink RX11 207 yX9_copyFrom, Cond.instanceMethod yX9_copyFrom, Cond.selects RX9 yX9_copyFrom yX9_copyFrom, Cond.initialized RX9, Cond.code yX9_copyFrom cX9_copyFrom 3 none, Cond.fieldLink RX9 9 "DiveChairs$State" "lands" "[I", Cond.methodLink RX9 55 arraycopyName, Cond.native arraycopyName, Cond.static arraycopyName, Cond.initialized "java/lang/System", Cond.fieldLink RX9 15 "DiveChairs$State" "names" "[I", Cond.fieldLink RX9 18 "DiveChairs$State" "years" "[I", Cond.fieldLink RX9 21 "DiveChairs$State" "seats" "[I", Cond.fieldLink RX9 27 "DiveChairs$State" "rule" "LDiveChairs$Rule;", Cond.fieldLink RX9 65 "DiveChairs$State" "divers" "I", Cond.fieldLink RX9 69 "DiveChairs$State" "judges" "I", Cond.fieldLink RX9 72 "DiveChairs$State" "dives" "I", Cond.fieldLink RX9 33 "DiveChairs$State" "judgesMade" "[LDiveChairs$Judge;", Cond.fieldLink RX9 39 "DiveChairs$State" "divesMade" "[LDiveChairs$Dive;", Cond.methodLink RX9 61 yX6_copyFrom, Cond.instanceMethod yX6_copyFrom, Cond.selects RX6 yX6_copyFrom yX6_copyFrom]
def wsX11_placeMovedBy_r2 : List Cond := [Cond.initialized RX6, Cond.code yX6_copyFrom cX6_copyFrom 2 none, Cond.fieldLink RX6 9 "DiveChairs$Rule" "off" "[I", Cond.methodLink RX6 32 arraycopyName, Cond.fieldLink RX6 15 "DiveChairs$Rule" "dropHighest" "I", Cond.fieldLink RX6 19 "DiveChairs$Rule" "dropLowest" "I", Cond.fieldLink RX6 22 "DiveChairs$Rule" "code" "[I", Cond.fieldLink RX6 38 "DiveChairs$Rule" "length" "I", Cond.methodLink RX9 75 yX1_copyFrom, Cond.instanceMethod yX1_copyFrom, Cond.selects RX1 yX1_copyFrom yX1_copyFrom, Cond.initialized RX1, Cond.code yX1_copyFrom cX1_copyFrom 2 none, Cond.fieldLink RX1 18 "DiveChairs$Dive" "hall" "I", Cond.fieldLink RX1 22 "DiveChairs$Dive" "diver" "I", Cond.fieldLink RX1 25 "DiveChairs$Dive" "flaws" "I", Cond.fieldLink RX1 28 "DiveChairs$Dive" "splash" "I", Cond.fieldLink RX1 31 "DiveChairs$Dive" "hard" "I", Cond.fieldLink RX1 9 "DiveChairs$Dive" "marks" "[I", Cond.methodLink RX1 38 arraycopyName, Cond.fieldLink RX1 15 "DiveChairs$Dive" "markers" "[I", Cond.methodLink RX11 367 yX9_moveUp, Cond.instanceMethod yX9_moveUp, Cond.selects RX9 yX9_moveUp yX9_moveUp]
def wsX11_placeMovedBy_r3 : List Cond := [Cond.code yX9_moveUp cX9_moveUp 7 none, Cond.fieldLink RX9 126 "DiveChairs$Dive" "hall" "I", Cond.fieldLink RX9 204 "DiveChairs$Dive" "marks" "[I", Cond.fieldLink RX9 89 "DiveChairs$Dive" "diver" "I", Cond.static yX11_holds, Cond.initialized RX11, Cond.code yX11_holds cX11_holds 2 (some .boolean), Cond.methodLink RX9 200 yX1_hasMark, Cond.instanceMethod yX1_hasMark, Cond.selects RX1 yX1_hasMark yX1_hasMark, Cond.code yX1_hasMark cX1_hasMark 2 (some .boolean), Cond.static yX11_within, Cond.code yX11_within cX11_within 2 (some .boolean), Cond.methodLink RX11 197 yX9_placeOf, Cond.instanceMethod yX9_placeOf, Cond.selects RX9 yX9_placeOf yX9_placeOf, Cond.code yX9_placeOf cX9_placeOf 7 (some .int), Cond.fieldLink RX9 43 "DiveChairs$State" "totals" "[J", Cond.methodLink RX9 190 yX9_addUp, Cond.instanceMethod yX9_addUp, Cond.selects RX9 yX9_addUp yX9_addUp, Cond.code yX9_addUp cX9_addUp 6 (some .int), Cond.fieldLink RX9 184 "DiveChairs$Dive" "hard" "I", Cond.methodLink RX9 181 yX9_worthOf]
def wsX11_placeMovedBy_r4 : List Cond := [Cond.instanceMethod yX9_worthOf, Cond.selects RX9 yX9_worthOf yX9_worthOf, Cond.code yX9_worthOf cX9_worthOf 2 (some .int), Cond.fieldLink RX9 106 "DiveChairs$Dive" "flaws" "I", Cond.methodLink RX9 113 Lib.Math.max.name, Cond.static Lib.Math.max.name, Cond.initialized "java/lang/Math", Cond.code Lib.Math.max.name Lib.Math.max.code 2 (some .int), Cond.methodLink RX9 109 yX6_offFor, Cond.instanceMethod yX6_offFor, Cond.selects RX6 yX6_offFor yX6_offFor, Cond.code yX6_offFor cX6_offFor 4 (some .int), Cond.methodLink RX9 187 yX9_countOf, Cond.instanceMethod yX9_countOf, Cond.selects RX9 yX9_countOf yX9_countOf, Cond.code yX9_countOf cX9_countOf 2 (some .int), Cond.fieldLink RX9 50 "DiveChairs$State" "panel" "LDiveChairs$Panel;", Cond.methodLink RX9 100 yX5_gather, Cond.instanceMethod yX5_gather, Cond.selects RX5 yX5_gather yX5_gather, Cond.initialized RX5, Cond.code yX5_gather cX5_gather 3 none, Cond.fieldLink RX5 15 "DiveChairs$Panel" "size" "I", Cond.fieldLink RX5 25 "DiveChairs$Dive" "marks" "[I"]
def wsX11_placeMovedBy_r5 : List Cond := [Cond.methodLink RX5 19 yX1_hasMark, Cond.methodLink RX5 28 yX5_add, Cond.instanceMethod yX5_add, Cond.selects RX5 yX5_add yX5_add, Cond.code yX5_add cX5_add 3 none, Cond.fieldLink RX5 9 "DiveChairs$Panel" "sorted" "[I", Cond.methodLink RX9 118 yX6_countFor, Cond.instanceMethod yX6_countFor, Cond.selects RX6 yX6_countFor yX6_countFor, Cond.code yX6_countFor cX6_countFor 6 (some .int), Cond.fieldLink RX6 41 "DiveChairs$Panel" "size" "I", Cond.fieldLink RX6 25 "DiveChairs$Rule" "stack" "[I", Cond.methodLink RX6 46 yX6_isWorking, Cond.static yX6_isWorking, Cond.code yX6_isWorking cX6_isWorking 1 (some .boolean), Cond.methodLink RX6 50 yX6_fieldOf, Cond.instanceMethod yX6_fieldOf, Cond.selects RX6 yX6_fieldOf yX6_fieldOf, Cond.code yX6_fieldOf cX6_fieldOf 4 (some .int), Cond.fieldLink RX6 70 "DiveChairs$Dive" "hard" "I", Cond.fieldLink RX6 85 "DiveChairs$Dive" "splash" "I", Cond.methodLink RX6 67 yX5_sumBetween, Cond.instanceMethod yX5_sumBetween, Cond.selects RX5 yX5_sumBetween yX5_sumBetween]
def wsX11_placeMovedBy_r6 : List Cond := [Cond.code yX5_sumBetween cX5_sumBetween 5 (some .int), Cond.methodLink RX6 75 yX5_middle, Cond.instanceMethod yX5_middle, Cond.selects RX5 yX5_middle yX5_middle, Cond.code yX5_middle cX5_middle 1 (some .int), Cond.methodLink RX6 79 yX5_highest, Cond.instanceMethod yX5_highest, Cond.selects RX5 yX5_highest yX5_highest, Cond.code yX5_highest cX5_highest 1 (some .int), Cond.methodLink RX6 82 yX5_lowest, Cond.instanceMethod yX5_lowest, Cond.selects RX5 yX5_lowest yX5_lowest, Cond.code yX5_lowest cX5_lowest 1 (some .int), Cond.methodLink RX6 54 yX6_worked, Cond.static yX6_worked, Cond.code yX6_worked cX6_worked 3 (some .int), Cond.methodLink RX6 58 Lib.Math.min.name, Cond.static Lib.Math.min.name, Cond.code Lib.Math.min.name Lib.Math.min.code 2 (some .int), Cond.methodLink RX6 64 Lib.Math.max.name]
def wsX11_placeMovedBy : List Cond := .code yX11_placeMovedBy cX11_placeMovedBy 4 (some .int) :: ((wsX11_placeMovedBy_r1 ++ (wsX11_placeMovedBy_r2 ++ (wsX11_placeMovedBy_r3 ++ (wsX11_placeMovedBy_r4 ++ (wsX11_placeMovedBy_r5 ++ wsX11_placeMovedBy_r6))))) ++ wsX110 ++ wsX90 ++ wsX60 ++ wsX10 ++ wsX50)
def wsX11_moved_r1 : List Cond := [Cond.fieldLink RX11 10 "DiveChairs" "now" "LDiveChairs$State;", Cond.fieldLink RX11 86 "DiveChairs$State" "divers" "I", Cond.methodLink RX11 57 yX11_within, Cond.static yX11_within, Cond.initialized RX11, Cond.code yX11_within cX11_within 2 (some .boolean), Cond.methodLink RX11 223 yJ6_bitCount_0f7a4, Cond.static yJ6_bitCount_0f7a4, Cond.initialized RJ6, Cond.code yJ6_bitCount_0f7a4 cJ6_bitCount_0f7a4 1 (some .int), Cond.constant RJ6 265 (1431655765), Cond.constant RJ6 266 (858993459), Cond.constant RJ6 267 (252645135), Cond.methodLink RX11 228 yX11_placeMovedBy, Cond.instanceMethod yX11_placeMovedBy, Cond.selects RX11 yX11_placeMovedBy yX11_placeMovedBy, Cond.code yX11_placeMovedBy cX11_placeMovedBy 4 (some .int), Cond.fieldLink RX11 19 "DiveChairs" "mind" "LDiveChairs$State;", Cond.methodLink RX11 207 yX9_copyFrom, Cond.instanceMethod yX9_copyFrom, Cond.selects RX9 yX9_copyFrom yX9_copyFrom, Cond.initialized RX9, Cond.code yX9_copyFrom cX9_copyFrom 3 none, Cond.fieldLink RX9 9 "DiveChairs$State" "lands" "[I"]
def wsX11_moved_r2 : List Cond := [Cond.methodLink RX9 55 arraycopyName, Cond.native arraycopyName, Cond.static arraycopyName, Cond.initialized "java/lang/System", Cond.fieldLink RX9 15 "DiveChairs$State" "names" "[I", Cond.fieldLink RX9 18 "DiveChairs$State" "years" "[I", Cond.fieldLink RX9 21 "DiveChairs$State" "seats" "[I", Cond.fieldLink RX9 27 "DiveChairs$State" "rule" "LDiveChairs$Rule;", Cond.fieldLink RX9 65 "DiveChairs$State" "divers" "I", Cond.fieldLink RX9 69 "DiveChairs$State" "judges" "I", Cond.fieldLink RX9 72 "DiveChairs$State" "dives" "I", Cond.fieldLink RX9 33 "DiveChairs$State" "judgesMade" "[LDiveChairs$Judge;", Cond.fieldLink RX9 39 "DiveChairs$State" "divesMade" "[LDiveChairs$Dive;", Cond.methodLink RX9 61 yX6_copyFrom, Cond.instanceMethod yX6_copyFrom, Cond.selects RX6 yX6_copyFrom yX6_copyFrom, Cond.initialized RX6, Cond.code yX6_copyFrom cX6_copyFrom 2 none, Cond.fieldLink RX6 9 "DiveChairs$Rule" "off" "[I", Cond.methodLink RX6 32 arraycopyName, Cond.fieldLink RX6 15 "DiveChairs$Rule" "dropHighest" "I", Cond.fieldLink RX6 19 "DiveChairs$Rule" "dropLowest" "I", Cond.fieldLink RX6 22 "DiveChairs$Rule" "code" "[I", Cond.fieldLink RX6 38 "DiveChairs$Rule" "length" "I"]
def wsX11_moved_r3 : List Cond := [Cond.methodLink RX9 75 yX1_copyFrom, Cond.instanceMethod yX1_copyFrom, Cond.selects RX1 yX1_copyFrom yX1_copyFrom, Cond.initialized RX1, Cond.code yX1_copyFrom cX1_copyFrom 2 none, Cond.fieldLink RX1 18 "DiveChairs$Dive" "hall" "I", Cond.fieldLink RX1 22 "DiveChairs$Dive" "diver" "I", Cond.fieldLink RX1 25 "DiveChairs$Dive" "flaws" "I", Cond.fieldLink RX1 28 "DiveChairs$Dive" "splash" "I", Cond.fieldLink RX1 31 "DiveChairs$Dive" "hard" "I", Cond.fieldLink RX1 9 "DiveChairs$Dive" "marks" "[I", Cond.methodLink RX1 38 arraycopyName, Cond.fieldLink RX1 15 "DiveChairs$Dive" "markers" "[I", Cond.methodLink RX11 367 yX9_moveUp, Cond.instanceMethod yX9_moveUp, Cond.selects RX9 yX9_moveUp yX9_moveUp, Cond.code yX9_moveUp cX9_moveUp 7 none, Cond.fieldLink RX9 126 "DiveChairs$Dive" "hall" "I", Cond.fieldLink RX9 204 "DiveChairs$Dive" "marks" "[I", Cond.fieldLink RX9 89 "DiveChairs$Dive" "diver" "I", Cond.static yX11_holds, Cond.code yX11_holds cX11_holds 2 (some .boolean), Cond.methodLink RX9 200 yX1_hasMark, Cond.instanceMethod yX1_hasMark]
def wsX11_moved_r4 : List Cond := [Cond.selects RX1 yX1_hasMark yX1_hasMark, Cond.code yX1_hasMark cX1_hasMark 2 (some .boolean), Cond.methodLink RX11 197 yX9_placeOf, Cond.instanceMethod yX9_placeOf, Cond.selects RX9 yX9_placeOf yX9_placeOf, Cond.code yX9_placeOf cX9_placeOf 7 (some .int), Cond.fieldLink RX9 43 "DiveChairs$State" "totals" "[J", Cond.methodLink RX9 190 yX9_addUp, Cond.instanceMethod yX9_addUp, Cond.selects RX9 yX9_addUp yX9_addUp, Cond.code yX9_addUp cX9_addUp 6 (some .int), Cond.fieldLink RX9 184 "DiveChairs$Dive" "hard" "I", Cond.methodLink RX9 181 yX9_worthOf, Cond.instanceMethod yX9_worthOf, Cond.selects RX9 yX9_worthOf yX9_worthOf, Cond.code yX9_worthOf cX9_worthOf 2 (some .int), Cond.fieldLink RX9 106 "DiveChairs$Dive" "flaws" "I", Cond.methodLink RX9 113 Lib.Math.max.name, Cond.static Lib.Math.max.name, Cond.initialized "java/lang/Math", Cond.code Lib.Math.max.name Lib.Math.max.code 2 (some .int), Cond.methodLink RX9 109 yX6_offFor, Cond.instanceMethod yX6_offFor, Cond.selects RX6 yX6_offFor yX6_offFor]
def wsX11_moved_r5 : List Cond := [Cond.code yX6_offFor cX6_offFor 4 (some .int), Cond.methodLink RX9 187 yX9_countOf, Cond.instanceMethod yX9_countOf, Cond.selects RX9 yX9_countOf yX9_countOf, Cond.code yX9_countOf cX9_countOf 2 (some .int), Cond.fieldLink RX9 50 "DiveChairs$State" "panel" "LDiveChairs$Panel;", Cond.methodLink RX9 100 yX5_gather, Cond.instanceMethod yX5_gather, Cond.selects RX5 yX5_gather yX5_gather, Cond.initialized RX5, Cond.code yX5_gather cX5_gather 3 none, Cond.fieldLink RX5 15 "DiveChairs$Panel" "size" "I", Cond.fieldLink RX5 25 "DiveChairs$Dive" "marks" "[I", Cond.methodLink RX5 19 yX1_hasMark, Cond.methodLink RX5 28 yX5_add, Cond.instanceMethod yX5_add, Cond.selects RX5 yX5_add yX5_add, Cond.code yX5_add cX5_add 3 none, Cond.fieldLink RX5 9 "DiveChairs$Panel" "sorted" "[I", Cond.methodLink RX9 118 yX6_countFor, Cond.instanceMethod yX6_countFor, Cond.selects RX6 yX6_countFor yX6_countFor, Cond.code yX6_countFor cX6_countFor 6 (some .int), Cond.fieldLink RX6 41 "DiveChairs$Panel" "size" "I"]
def wsX11_moved_r6 : List Cond := [Cond.fieldLink RX6 25 "DiveChairs$Rule" "stack" "[I", Cond.methodLink RX6 46 yX6_isWorking, Cond.static yX6_isWorking, Cond.code yX6_isWorking cX6_isWorking 1 (some .boolean), Cond.methodLink RX6 50 yX6_fieldOf, Cond.instanceMethod yX6_fieldOf, Cond.selects RX6 yX6_fieldOf yX6_fieldOf, Cond.code yX6_fieldOf cX6_fieldOf 4 (some .int), Cond.fieldLink RX6 70 "DiveChairs$Dive" "hard" "I", Cond.fieldLink RX6 85 "DiveChairs$Dive" "splash" "I", Cond.methodLink RX6 67 yX5_sumBetween, Cond.instanceMethod yX5_sumBetween, Cond.selects RX5 yX5_sumBetween yX5_sumBetween, Cond.code yX5_sumBetween cX5_sumBetween 5 (some .int), Cond.methodLink RX6 75 yX5_middle, Cond.instanceMethod yX5_middle, Cond.selects RX5 yX5_middle yX5_middle, Cond.code yX5_middle cX5_middle 1 (some .int), Cond.methodLink RX6 79 yX5_highest, Cond.instanceMethod yX5_highest, Cond.selects RX5 yX5_highest yX5_highest, Cond.code yX5_highest cX5_highest 1 (some .int), Cond.methodLink RX6 82 yX5_lowest, Cond.instanceMethod yX5_lowest]
def wsX11_moved_r7 : List Cond := [Cond.selects RX5 yX5_lowest yX5_lowest, Cond.code yX5_lowest cX5_lowest 1 (some .int), Cond.methodLink RX6 54 yX6_worked, Cond.static yX6_worked, Cond.code yX6_worked cX6_worked 3 (some .int), Cond.methodLink RX6 58 Lib.Math.min.name, Cond.static Lib.Math.min.name, Cond.code Lib.Math.min.name Lib.Math.min.code 2 (some .int), Cond.methodLink RX6 64 Lib.Math.max.name]
def wsX11_moved : List Cond := .code yX11_moved cX11_moved 9 (some .int) :: ((wsX11_moved_r1 ++ (wsX11_moved_r2 ++ (wsX11_moved_r3 ++ (wsX11_moved_r4 ++ (wsX11_moved_r5 ++ (wsX11_moved_r6 ++ wsX11_moved_r7)))))) ++ wsX110 ++ wsX90 ++ wsX60 ++ wsX10 ++ wsX50)
def wsX11_lean_r1 : List Cond := [Cond.fieldLink RX11 10 "DiveChairs" "now" "LDiveChairs$State;", Cond.fieldLink RX11 72 "DiveChairs$State" "judges" "I", Cond.constant RX11 180 (-1000000001), Cond.fieldLink RX11 52 "DiveChairs" "tally" "LDiveChairs$Tally;", Cond.fieldLink RX11 236 "DiveChairs$Tally" "sum" "I", Cond.fieldLink RX11 239 "DiveChairs$Tally" "many" "I", Cond.constant RX11 242 (-1000000004), Cond.fieldLink RX11 243 "DiveChairs$Tally" "least" "I", Cond.fieldLink RX11 246 "DiveChairs$Tally" "greatest" "I", Cond.methodLink RX11 57 yX11_within, Cond.static yX11_within, Cond.initialized RX11, Cond.code yX11_within cX11_within 2 (some .boolean), Cond.methodLink RX11 232 yX9_tallyUp, Cond.instanceMethod yX9_tallyUp, Cond.selects RX9 yX9_tallyUp yX9_tallyUp, Cond.initialized RX9, Cond.code yX9_tallyUp cX9_tallyUp 7 none, Cond.fieldLink RX9 72 "DiveChairs$State" "dives" "I", Cond.fieldLink RX9 39 "DiveChairs$State" "divesMade" "[LDiveChairs$Dive;", Cond.fieldLink RX9 50 "DiveChairs$State" "panel" "LDiveChairs$Panel;", Cond.methodLink RX9 210 yX10_start, Cond.instanceMethod yX10_start, Cond.selects RX10 yX10_start yX10_start]
def wsX11_lean_r2 : List Cond := [Cond.initialized RX10, Cond.code yX10_start cX10_start 1 none, Cond.fieldLink RX10 7 "DiveChairs$Tally" "sum" "I", Cond.fieldLink RX10 13 "DiveChairs$Tally" "many" "I", Cond.fieldLink RX10 16 "DiveChairs$Tally" "least" "I", Cond.fieldLink RX10 19 "DiveChairs$Tally" "greatest" "I", Cond.fieldLink RX10 22 "DiveChairs$Tally" "distance" "I", Cond.methodLink RX9 215 yX1_markBy, Cond.instanceMethod yX1_markBy, Cond.selects RX1 yX1_markBy yX1_markBy, Cond.initialized RX1, Cond.code yX1_markBy cX1_markBy 3 (some .int), Cond.fieldLink RX1 15 "DiveChairs$Dive" "markers" "[I", Cond.fieldLink RX1 9 "DiveChairs$Dive" "marks" "[I", Cond.methodLink RX9 164 yX9_landOf, Cond.instanceMethod yX9_landOf, Cond.selects RX9 yX9_landOf yX9_landOf, Cond.code yX9_landOf cX9_landOf 2 (some .int), Cond.fieldLink RX9 89 "DiveChairs$Dive" "diver" "I", Cond.fieldLink RX9 65 "DiveChairs$State" "divers" "I", Cond.fieldLink RX9 9 "DiveChairs$State" "lands" "[I", Cond.methodLink RX9 100 yX5_gather, Cond.instanceMethod yX5_gather, Cond.selects RX5 yX5_gather yX5_gather]
def wsX11_lean_r3 : List Cond := [Cond.initialized RX5, Cond.code yX5_gather cX5_gather 3 none, Cond.fieldLink RX5 15 "DiveChairs$Panel" "size" "I", Cond.fieldLink RX5 25 "DiveChairs$Dive" "marks" "[I", Cond.methodLink RX5 19 yX1_hasMark, Cond.instanceMethod yX1_hasMark, Cond.selects RX1 yX1_hasMark yX1_hasMark, Cond.code yX1_hasMark cX1_hasMark 2 (some .boolean), Cond.methodLink RX5 28 yX5_add, Cond.instanceMethod yX5_add, Cond.selects RX5 yX5_add yX5_add, Cond.code yX5_add cX5_add 3 none, Cond.fieldLink RX5 9 "DiveChairs$Panel" "sorted" "[I", Cond.methodLink RX9 143 yX5_middle, Cond.instanceMethod yX5_middle, Cond.selects RX5 yX5_middle yX5_middle, Cond.code yX5_middle cX5_middle 1 (some .int), Cond.methodLink RX9 218 yX10_take, Cond.instanceMethod yX10_take, Cond.selects RX10 yX10_take yX10_take, Cond.code yX10_take cX10_take 2 none, Cond.methodLink RX10 25 Lib.Math.min.name, Cond.static Lib.Math.min.name, Cond.initialized "java/lang/Math"]
def wsX11_lean_r4 : List Cond := [Cond.code Lib.Math.min.name Lib.Math.min.code 2 (some .int), Cond.methodLink RX10 31 Lib.Math.max.name, Cond.static Lib.Math.max.name, Cond.code Lib.Math.max.name Lib.Math.max.code 2 (some .int), Cond.methodLink RX10 34 Lib.Math.abs.name, Cond.static Lib.Math.abs.name, Cond.code Lib.Math.abs.name Lib.Math.abs.code 1 (some .int)]
def wsX11_lean : List Cond := .code yX11_lean cX11_lean 4 (some .int) :: ((wsX11_lean_r1 ++ (wsX11_lean_r2 ++ (wsX11_lean_r3 ++ wsX11_lean_r4))) ++ wsX110 ++ wsX90 ++ wsX100 ++ wsX10 ++ wsX50)
def wsX11_pairs_r1 : List Cond := [Cond.fieldLink RX11 45 "DiveChairs" "deals" "LDiveChairs$LandDealing;", Cond.fieldLink RX11 10 "DiveChairs" "now" "LDiveChairs$State;", Cond.methodLink RX11 249 yX3_takeFrom, Cond.instanceMethod yX3_takeFrom, Cond.selects RX3 yX3_takeFrom yX3_takeFrom, Cond.initialized RX3, Cond.code yX3_takeFrom cX3_takeFrom 4 none, Cond.fieldLink RX3 21 "DiveChairs$State" "judges" "I", Cond.fieldLink RX3 27 "DiveChairs$LandDealing" "size" "I", Cond.sameField "DiveChairs$LandDealing" "DiveChairs$Dealing" "size" "I", Cond.fieldLink RX3 9 "DiveChairs$LandDealing" "lands" "[I", Cond.fieldLink RX3 34 "DiveChairs$Judge" "land" "I", Cond.fieldLink RX3 15 "DiveChairs$LandDealing" "halls" "[I", Cond.fieldLink RX3 18 "DiveChairs$LandDealing" "leans" "[I", Cond.fieldLink RX3 43 "DiveChairs$State" "dives" "I", Cond.fieldLink RX3 50 "DiveChairs$State" "panel" "LDiveChairs$Panel;", Cond.methodLink RX3 30 yX9_judgeAt, Cond.instanceMethod yX9_judgeAt, Cond.selects RX9 yX9_judgeAt yX9_judgeAt, Cond.initialized RX9, Cond.code yX9_judgeAt cX9_judgeAt 2 (some (.object "DiveChairs$Judge")), Cond.fieldLink RX9 69 "DiveChairs$State" "judges" "I", Cond.fieldLink RX9 33 "DiveChairs$State" "judgesMade" "[LDiveChairs$Judge;", Cond.static yX11_within]
def wsX11_pairs_r2 : List Cond := [Cond.initialized RX11, Cond.code yX11_within cX11_within 2 (some .boolean), Cond.methodLink RX3 39 yX9_hallsOf, Cond.instanceMethod yX9_hallsOf, Cond.selects RX9 yX9_hallsOf yX9_hallsOf, Cond.code yX9_hallsOf cX9_hallsOf 4 (some .int), Cond.fieldLink RX9 21 "DiveChairs$State" "seats" "[I", Cond.methodLink RX3 46 yX9_diveAt, Cond.instanceMethod yX9_diveAt, Cond.selects RX9 yX9_diveAt yX9_diveAt, Cond.code yX9_diveAt cX9_diveAt 2 (some (.object "DiveChairs$Dive")), Cond.fieldLink RX9 72 "DiveChairs$State" "dives" "I", Cond.fieldLink RX9 39 "DiveChairs$State" "divesMade" "[LDiveChairs$Dive;", Cond.methodLink RX3 54 yX5_gather, Cond.instanceMethod yX5_gather, Cond.selects RX5 yX5_gather yX5_gather, Cond.initialized RX5, Cond.code yX5_gather cX5_gather 3 none, Cond.fieldLink RX5 15 "DiveChairs$Panel" "size" "I", Cond.fieldLink RX5 25 "DiveChairs$Dive" "marks" "[I", Cond.methodLink RX5 19 yX1_hasMark, Cond.instanceMethod yX1_hasMark, Cond.selects RX1 yX1_hasMark yX1_hasMark, Cond.initialized RX1]
def wsX11_pairs_r3 : List Cond := [Cond.code yX1_hasMark cX1_hasMark 2 (some .boolean), Cond.fieldLink RX1 9 "DiveChairs$Dive" "marks" "[I", Cond.methodLink RX5 28 yX5_add, Cond.instanceMethod yX5_add, Cond.selects RX5 yX5_add yX5_add, Cond.code yX5_add cX5_add 3 none, Cond.fieldLink RX5 9 "DiveChairs$Panel" "sorted" "[I", Cond.methodLink RX3 60 yX9_landOf, Cond.instanceMethod yX9_landOf, Cond.selects RX9 yX9_landOf yX9_landOf, Cond.code yX9_landOf cX9_landOf 2 (some .int), Cond.fieldLink RX9 89 "DiveChairs$Dive" "diver" "I", Cond.fieldLink RX9 65 "DiveChairs$State" "divers" "I", Cond.fieldLink RX9 9 "DiveChairs$State" "lands" "[I", Cond.methodLink RX3 64 yX5_middle, Cond.instanceMethod yX5_middle, Cond.selects RX5 yX5_middle yX5_middle, Cond.code yX5_middle cX5_middle 1 (some .int), Cond.methodLink RX3 68 yX3_addLeans, Cond.instanceMethod yX3_addLeans, Cond.selects RX3 yX3_addLeans yX3_addLeans, Cond.code yX3_addLeans cX3_addLeans 6 none, Cond.fieldLink RX3 72 "DiveChairs$Dive" "markers" "[I", Cond.fieldLink RX3 81 "DiveChairs$Dive" "marks" "[I"]
def wsX11_pairs_r4 : List Cond := [Cond.methodLink RX11 252 ⟨"DiveChairs$LandDealing", "asItStands", "()I"⟩, Cond.sameMethod "DiveChairs$LandDealing" "DiveChairs$Dealing" "asItStands" "()I", Cond.selects RX3 ⟨"DiveChairs$LandDealing", "asItStands", "()I"⟩ yX0_asItStands, Cond.instanceMethod yX0_asItStands, Cond.initialized RX0, Cond.code yX0_asItStands cX0_asItStands 4 (some .int), Cond.fieldLink RX0 15 "DiveChairs$Dealing" "size" "I", Cond.methodLink RX0 19 ⟨"DiveChairs$Dealing", "between", "(IIII)I"⟩, Cond.sameMethod "DiveChairs$Dealing" "DiveChairs$Dealing" "between" "(IIII)I", Cond.selects RX3 ⟨"DiveChairs$Dealing", "between", "(IIII)I"⟩ yX3_between, Cond.instanceMethod yX3_between, Cond.code yX3_between cX3_between 9 (some .int), Cond.methodLink RX3 84 yX3_leansTo, Cond.instanceMethod yX3_leansTo, Cond.selects RX3 yX3_leansTo yX3_leansTo, Cond.code yX3_leansTo cX3_leansTo 3 (some .boolean), Cond.selects RX4 ⟨"DiveChairs$Dealing", "between", "(IIII)I"⟩ yX4_between, Cond.instanceMethod yX4_between, Cond.initialized RX4, Cond.code yX4_between cX4_between 7 (some .int), Cond.fieldLink RX4 9 "DiveChairs$OrderDealing" "counted" "[I"]
def wsX11_pairs : List Cond := .code yX11_pairs cX11_pairs 1 (some .int) :: ((wsX11_pairs_r1 ++ (wsX11_pairs_r2 ++ (wsX11_pairs_r3 ++ wsX11_pairs_r4))) ++ wsX110 ++ wsX90 ++ wsX30 ++ wsX40 ++ wsX20 ++ wsX50 ++ wsX10)
def wsX11_pairOdds_r1 : List Cond := [Cond.fieldLink RX11 10 "DiveChairs" "now" "LDiveChairs$State;", Cond.fieldLink RX11 72 "DiveChairs$State" "judges" "I", Cond.fieldLink RX11 45 "DiveChairs" "deals" "LDiveChairs$LandDealing;", Cond.methodLink RX11 57 yX11_within, Cond.static yX11_within, Cond.initialized RX11, Cond.code yX11_within cX11_within 2 (some .boolean), Cond.methodLink RX11 249 yX3_takeFrom, Cond.instanceMethod yX3_takeFrom, Cond.selects RX3 yX3_takeFrom yX3_takeFrom, Cond.initialized RX3, Cond.code yX3_takeFrom cX3_takeFrom 4 none, Cond.fieldLink RX3 21 "DiveChairs$State" "judges" "I", Cond.fieldLink RX3 27 "DiveChairs$LandDealing" "size" "I", Cond.sameField "DiveChairs$LandDealing" "DiveChairs$Dealing" "size" "I", Cond.fieldLink RX3 9 "DiveChairs$LandDealing" "lands" "[I", Cond.fieldLink RX3 34 "DiveChairs$Judge" "land" "I", Cond.fieldLink RX3 15 "DiveChairs$LandDealing" "halls" "[I", Cond.fieldLink RX3 18 "DiveChairs$LandDealing" "leans" "[I", Cond.fieldLink RX3 43 "DiveChairs$State" "dives" "I", Cond.fieldLink RX3 50 "DiveChairs$State" "panel" "LDiveChairs$Panel;", Cond.methodLink RX3 30 yX9_judgeAt, Cond.instanceMethod yX9_judgeAt, Cond.selects RX9 yX9_judgeAt yX9_judgeAt]
def wsX11_pairOdds_r2 : List Cond := [Cond.initialized RX9, Cond.code yX9_judgeAt cX9_judgeAt 2 (some (.object "DiveChairs$Judge")), Cond.fieldLink RX9 69 "DiveChairs$State" "judges" "I", Cond.fieldLink RX9 33 "DiveChairs$State" "judgesMade" "[LDiveChairs$Judge;", Cond.methodLink RX3 39 yX9_hallsOf, Cond.instanceMethod yX9_hallsOf, Cond.selects RX9 yX9_hallsOf yX9_hallsOf, Cond.code yX9_hallsOf cX9_hallsOf 4 (some .int), Cond.fieldLink RX9 21 "DiveChairs$State" "seats" "[I", Cond.methodLink RX3 46 yX9_diveAt, Cond.instanceMethod yX9_diveAt, Cond.selects RX9 yX9_diveAt yX9_diveAt, Cond.code yX9_diveAt cX9_diveAt 2 (some (.object "DiveChairs$Dive")), Cond.fieldLink RX9 72 "DiveChairs$State" "dives" "I", Cond.fieldLink RX9 39 "DiveChairs$State" "divesMade" "[LDiveChairs$Dive;", Cond.methodLink RX3 54 yX5_gather, Cond.instanceMethod yX5_gather, Cond.selects RX5 yX5_gather yX5_gather, Cond.initialized RX5, Cond.code yX5_gather cX5_gather 3 none, Cond.fieldLink RX5 15 "DiveChairs$Panel" "size" "I", Cond.fieldLink RX5 25 "DiveChairs$Dive" "marks" "[I", Cond.methodLink RX5 19 yX1_hasMark, Cond.instanceMethod yX1_hasMark]
def wsX11_pairOdds_r3 : List Cond := [Cond.selects RX1 yX1_hasMark yX1_hasMark, Cond.initialized RX1, Cond.code yX1_hasMark cX1_hasMark 2 (some .boolean), Cond.fieldLink RX1 9 "DiveChairs$Dive" "marks" "[I", Cond.methodLink RX5 28 yX5_add, Cond.instanceMethod yX5_add, Cond.selects RX5 yX5_add yX5_add, Cond.code yX5_add cX5_add 3 none, Cond.fieldLink RX5 9 "DiveChairs$Panel" "sorted" "[I", Cond.methodLink RX3 60 yX9_landOf, Cond.instanceMethod yX9_landOf, Cond.selects RX9 yX9_landOf yX9_landOf, Cond.code yX9_landOf cX9_landOf 2 (some .int), Cond.fieldLink RX9 89 "DiveChairs$Dive" "diver" "I", Cond.fieldLink RX9 65 "DiveChairs$State" "divers" "I", Cond.fieldLink RX9 9 "DiveChairs$State" "lands" "[I", Cond.methodLink RX3 64 yX5_middle, Cond.instanceMethod yX5_middle, Cond.selects RX5 yX5_middle yX5_middle, Cond.code yX5_middle cX5_middle 1 (some .int), Cond.methodLink RX3 68 yX3_addLeans, Cond.instanceMethod yX3_addLeans, Cond.selects RX3 yX3_addLeans yX3_addLeans, Cond.code yX3_addLeans cX3_addLeans 6 none]
def wsX11_pairOdds_r4 : List Cond := [Cond.fieldLink RX3 72 "DiveChairs$Dive" "markers" "[I", Cond.fieldLink RX3 81 "DiveChairs$Dive" "marks" "[I", Cond.methodLink RX11 255 ⟨"DiveChairs$LandDealing", "waysAsGood", "()I"⟩, Cond.sameMethod "DiveChairs$LandDealing" "DiveChairs$Dealing" "waysAsGood" "()I", Cond.selects RX3 ⟨"DiveChairs$LandDealing", "waysAsGood", "()I"⟩ yX0_waysAsGood, Cond.instanceMethod yX0_waysAsGood, Cond.initialized RX0, Cond.code yX0_waysAsGood cX0_waysAsGood 1 (some .int), Cond.fieldLink RX0 27 "DiveChairs$Dealing" "wanted" "I", Cond.methodLink RX0 23 ⟨"DiveChairs$Dealing", "asItStands", "()I"⟩, Cond.sameMethod "DiveChairs$Dealing" "DiveChairs$Dealing" "asItStands" "()I", Cond.selects RX3 ⟨"DiveChairs$Dealing", "asItStands", "()I"⟩ yX0_asItStands, Cond.instanceMethod yX0_asItStands, Cond.code yX0_asItStands cX0_asItStands 4 (some .int), Cond.fieldLink RX0 15 "DiveChairs$Dealing" "size" "I", Cond.methodLink RX0 19 ⟨"DiveChairs$Dealing", "between", "(IIII)I"⟩, Cond.sameMethod "DiveChairs$Dealing" "DiveChairs$Dealing" "between" "(IIII)I", Cond.selects RX3 ⟨"DiveChairs$Dealing", "between", "(IIII)I"⟩ yX3_between, Cond.instanceMethod yX3_between, Cond.code yX3_between cX3_between 9 (some .int), Cond.methodLink RX3 84 yX3_leansTo, Cond.instanceMethod yX3_leansTo, Cond.selects RX3 yX3_leansTo yX3_leansTo, Cond.code yX3_leansTo cX3_leansTo 3 (some .boolean)]
def wsX11_pairOdds_r5 : List Cond := [Cond.selects RX4 ⟨"DiveChairs$Dealing", "between", "(IIII)I"⟩ yX4_between, Cond.instanceMethod yX4_between, Cond.initialized RX4, Cond.code yX4_between cX4_between 7 (some .int), Cond.fieldLink RX4 9 "DiveChairs$OrderDealing" "counted" "[I", Cond.selects RX4 ⟨"DiveChairs$Dealing", "asItStands", "()I"⟩ yX0_asItStands, Cond.methodLink RX0 30 ⟨"DiveChairs$Dealing", "waysFrom", "(III)I"⟩, Cond.sameMethod "DiveChairs$Dealing" "DiveChairs$Dealing" "waysFrom" "(III)I", Cond.selects RX3 ⟨"DiveChairs$Dealing", "waysFrom", "(III)I"⟩ yX0_waysFrom, Cond.instanceMethod yX0_waysFrom, Cond.code yX0_waysFrom cX0_waysFrom 6 (some .int), Cond.fieldLink RX0 9 "DiveChairs$Dealing" "dealt" "[I", Cond.static yX11_holds, Cond.code yX11_holds cX11_holds 2 (some .boolean), Cond.methodLink RX0 41 ⟨"DiveChairs$Dealing", "gainAt", "(I)I"⟩, Cond.sameMethod "DiveChairs$Dealing" "DiveChairs$Dealing" "gainAt" "(I)I", Cond.selects RX3 ⟨"DiveChairs$Dealing", "gainAt", "(I)I"⟩ yX0_gainAt, Cond.instanceMethod yX0_gainAt, Cond.code yX0_gainAt cX0_gainAt 4 (some .int), Cond.selects RX4 ⟨"DiveChairs$Dealing", "gainAt", "(I)I"⟩ yX0_gainAt, Cond.selects RX4 ⟨"DiveChairs$Dealing", "waysFrom", "(III)I"⟩ yX0_waysFrom, Cond.methodLink RX11 258 ⟨"DiveChairs$LandDealing", "allWays", "()I"⟩, Cond.sameMethod "DiveChairs$LandDealing" "DiveChairs$Dealing" "allWays" "()I", Cond.selects RX3 ⟨"DiveChairs$LandDealing", "allWays", "()I"⟩ yX0_allWays]
def wsX11_pairOdds_r6 : List Cond := [Cond.instanceMethod yX0_allWays, Cond.code yX0_allWays cX0_allWays 3 (some .int)]
def wsX11_pairOdds : List Cond := .code yX11_pairOdds cX11_pairOdds 2 (some .int) :: ((wsX11_pairOdds_r1 ++ (wsX11_pairOdds_r2 ++ (wsX11_pairOdds_r3 ++ (wsX11_pairOdds_r4 ++ (wsX11_pairOdds_r5 ++ wsX11_pairOdds_r6))))) ++ wsX110 ++ wsX90 ++ wsX30 ++ wsX40 ++ wsX20 ++ wsX50 ++ wsX10)
def wsX11_order_r1 : List Cond := [Cond.constant RX11 180 (-1000000001), Cond.fieldLink RX11 38 "DiveChairs" "orders" "LDiveChairs$OrderDealing;", Cond.fieldLink RX11 10 "DiveChairs" "now" "LDiveChairs$State;", Cond.methodLink RX11 57 yX11_within, Cond.static yX11_within, Cond.initialized RX11, Cond.code yX11_within cX11_within 2 (some .boolean), Cond.methodLink RX11 261 yX4_takeFrom, Cond.instanceMethod yX4_takeFrom, Cond.selects RX4 yX4_takeFrom yX4_takeFrom, Cond.initialized RX4, Cond.code yX4_takeFrom cX4_takeFrom 5 none, Cond.fieldLink RX4 15 "DiveChairs$OrderDealing" "size" "I", Cond.sameField "DiveChairs$OrderDealing" "DiveChairs$Dealing" "size" "I", Cond.fieldLink RX4 19 "DiveChairs$State" "dives" "I", Cond.fieldLink RX4 28 "DiveChairs$Dive" "hall" "I", Cond.fieldLink RX4 9 "DiveChairs$OrderDealing" "counted" "[I", Cond.methodLink RX4 24 yX9_diveAt, Cond.instanceMethod yX9_diveAt, Cond.selects RX9 yX9_diveAt yX9_diveAt, Cond.initialized RX9, Cond.code yX9_diveAt cX9_diveAt 2 (some (.object "DiveChairs$Dive")), Cond.fieldLink RX9 72 "DiveChairs$State" "dives" "I", Cond.fieldLink RX9 39 "DiveChairs$State" "divesMade" "[LDiveChairs$Dive;"]
def wsX11_order_r2 : List Cond := [Cond.methodLink RX4 37 yX9_countOf, Cond.instanceMethod yX9_countOf, Cond.selects RX9 yX9_countOf yX9_countOf, Cond.code yX9_countOf cX9_countOf 2 (some .int), Cond.fieldLink RX9 50 "DiveChairs$State" "panel" "LDiveChairs$Panel;", Cond.fieldLink RX9 27 "DiveChairs$State" "rule" "LDiveChairs$Rule;", Cond.methodLink RX9 100 yX5_gather, Cond.instanceMethod yX5_gather, Cond.selects RX5 yX5_gather yX5_gather, Cond.initialized RX5, Cond.code yX5_gather cX5_gather 3 none, Cond.fieldLink RX5 15 "DiveChairs$Panel" "size" "I", Cond.fieldLink RX5 25 "DiveChairs$Dive" "marks" "[I", Cond.methodLink RX5 19 yX1_hasMark, Cond.instanceMethod yX1_hasMark, Cond.selects RX1 yX1_hasMark yX1_hasMark, Cond.initialized RX1, Cond.code yX1_hasMark cX1_hasMark 2 (some .boolean), Cond.fieldLink RX1 9 "DiveChairs$Dive" "marks" "[I", Cond.methodLink RX5 28 yX5_add, Cond.instanceMethod yX5_add, Cond.selects RX5 yX5_add yX5_add, Cond.code yX5_add cX5_add 3 none, Cond.fieldLink RX5 9 "DiveChairs$Panel" "sorted" "[I"]
def wsX11_order_r3 : List Cond := [Cond.methodLink RX9 118 yX6_countFor, Cond.instanceMethod yX6_countFor, Cond.selects RX6 yX6_countFor yX6_countFor, Cond.initialized RX6, Cond.code yX6_countFor cX6_countFor 6 (some .int), Cond.fieldLink RX6 41 "DiveChairs$Panel" "size" "I", Cond.fieldLink RX6 15 "DiveChairs$Rule" "dropHighest" "I", Cond.fieldLink RX6 19 "DiveChairs$Rule" "dropLowest" "I", Cond.fieldLink RX6 38 "DiveChairs$Rule" "length" "I", Cond.fieldLink RX6 22 "DiveChairs$Rule" "code" "[I", Cond.fieldLink RX6 25 "DiveChairs$Rule" "stack" "[I", Cond.methodLink RX6 46 yX6_isWorking, Cond.static yX6_isWorking, Cond.code yX6_isWorking cX6_isWorking 1 (some .boolean), Cond.methodLink RX6 50 yX6_fieldOf, Cond.instanceMethod yX6_fieldOf, Cond.selects RX6 yX6_fieldOf yX6_fieldOf, Cond.code yX6_fieldOf cX6_fieldOf 4 (some .int), Cond.fieldLink RX6 70 "DiveChairs$Dive" "hard" "I", Cond.fieldLink RX6 85 "DiveChairs$Dive" "splash" "I", Cond.methodLink RX6 67 yX5_sumBetween, Cond.instanceMethod yX5_sumBetween, Cond.selects RX5 yX5_sumBetween yX5_sumBetween, Cond.code yX5_sumBetween cX5_sumBetween 5 (some .int)]
def wsX11_order_r4 : List Cond := [Cond.methodLink RX6 75 yX5_middle, Cond.instanceMethod yX5_middle, Cond.selects RX5 yX5_middle yX5_middle, Cond.code yX5_middle cX5_middle 1 (some .int), Cond.methodLink RX6 79 yX5_highest, Cond.instanceMethod yX5_highest, Cond.selects RX5 yX5_highest yX5_highest, Cond.code yX5_highest cX5_highest 1 (some .int), Cond.methodLink RX6 82 yX5_lowest, Cond.instanceMethod yX5_lowest, Cond.selects RX5 yX5_lowest yX5_lowest, Cond.code yX5_lowest cX5_lowest 1 (some .int), Cond.methodLink RX6 54 yX6_worked, Cond.static yX6_worked, Cond.code yX6_worked cX6_worked 3 (some .int), Cond.methodLink RX6 58 Lib.Math.min.name, Cond.static Lib.Math.min.name, Cond.initialized "java/lang/Math", Cond.code Lib.Math.min.name Lib.Math.min.code 2 (some .int), Cond.methodLink RX6 64 Lib.Math.max.name, Cond.static Lib.Math.max.name, Cond.code Lib.Math.max.name Lib.Math.max.code 2 (some .int), Cond.methodLink RX11 264 ⟨"DiveChairs$OrderDealing", "asItStands", "()I"⟩, Cond.sameMethod "DiveChairs$OrderDealing" "DiveChairs$Dealing" "asItStands" "()I"]
def wsX11_order_r5 : List Cond := [Cond.selects RX4 ⟨"DiveChairs$OrderDealing", "asItStands", "()I"⟩ yX0_asItStands, Cond.instanceMethod yX0_asItStands, Cond.initialized RX0, Cond.code yX0_asItStands cX0_asItStands 4 (some .int), Cond.fieldLink RX0 15 "DiveChairs$Dealing" "size" "I", Cond.methodLink RX0 19 ⟨"DiveChairs$Dealing", "between", "(IIII)I"⟩, Cond.sameMethod "DiveChairs$Dealing" "DiveChairs$Dealing" "between" "(IIII)I", Cond.selects RX3 ⟨"DiveChairs$Dealing", "between", "(IIII)I"⟩ yX3_between, Cond.instanceMethod yX3_between, Cond.initialized RX3, Cond.code yX3_between cX3_between 9 (some .int), Cond.fieldLink RX3 9 "DiveChairs$LandDealing" "lands" "[I", Cond.fieldLink RX3 15 "DiveChairs$LandDealing" "halls" "[I", Cond.methodLink RX3 84 yX3_leansTo, Cond.instanceMethod yX3_leansTo, Cond.selects RX3 yX3_leansTo yX3_leansTo, Cond.code yX3_leansTo cX3_leansTo 3 (some .boolean), Cond.fieldLink RX3 18 "DiveChairs$LandDealing" "leans" "[I", Cond.selects RX4 ⟨"DiveChairs$Dealing", "between", "(IIII)I"⟩ yX4_between, Cond.instanceMethod yX4_between, Cond.code yX4_between cX4_between 7 (some .int)]
def wsX11_order : List Cond := .code yX11_order cX11_order 2 (some .int) :: ((wsX11_order_r1 ++ (wsX11_order_r2 ++ (wsX11_order_r3 ++ (wsX11_order_r4 ++ wsX11_order_r5)))) ++ wsX110 ++ wsX30 ++ wsX40 ++ wsX90 ++ wsX10 ++ wsX50 ++ wsX60)
def wsX11_orderOdds_r1 : List Cond := [Cond.fieldLink RX11 38 "DiveChairs" "orders" "LDiveChairs$OrderDealing;", Cond.fieldLink RX11 10 "DiveChairs" "now" "LDiveChairs$State;", Cond.fieldLink RX11 265 "DiveChairs$OrderDealing" "size" "I", Cond.sameField "DiveChairs$OrderDealing" "DiveChairs$Dealing" "size" "I", Cond.methodLink RX11 57 yX11_within, Cond.static yX11_within, Cond.initialized RX11, Cond.code yX11_within cX11_within 2 (some .boolean), Cond.methodLink RX11 261 yX4_takeFrom, Cond.instanceMethod yX4_takeFrom, Cond.selects RX4 yX4_takeFrom yX4_takeFrom, Cond.initialized RX4, Cond.code yX4_takeFrom cX4_takeFrom 5 none, Cond.fieldLink RX4 15 "DiveChairs$OrderDealing" "size" "I", Cond.fieldLink RX4 19 "DiveChairs$State" "dives" "I", Cond.fieldLink RX4 28 "DiveChairs$Dive" "hall" "I", Cond.fieldLink RX4 9 "DiveChairs$OrderDealing" "counted" "[I", Cond.methodLink RX4 24 yX9_diveAt, Cond.instanceMethod yX9_diveAt, Cond.selects RX9 yX9_diveAt yX9_diveAt, Cond.initialized RX9, Cond.code yX9_diveAt cX9_diveAt 2 (some (.object "DiveChairs$Dive")), Cond.fieldLink RX9 72 "DiveChairs$State" "dives" "I", Cond.fieldLink RX9 39 "DiveChairs$State" "divesMade" "[LDiveChairs$Dive;"]
def wsX11_orderOdds_r2 : List Cond := [Cond.methodLink RX4 37 yX9_countOf, Cond.instanceMethod yX9_countOf, Cond.selects RX9 yX9_countOf yX9_countOf, Cond.code yX9_countOf cX9_countOf 2 (some .int), Cond.fieldLink RX9 50 "DiveChairs$State" "panel" "LDiveChairs$Panel;", Cond.fieldLink RX9 27 "DiveChairs$State" "rule" "LDiveChairs$Rule;", Cond.methodLink RX9 100 yX5_gather, Cond.instanceMethod yX5_gather, Cond.selects RX5 yX5_gather yX5_gather, Cond.initialized RX5, Cond.code yX5_gather cX5_gather 3 none, Cond.fieldLink RX5 15 "DiveChairs$Panel" "size" "I", Cond.fieldLink RX5 25 "DiveChairs$Dive" "marks" "[I", Cond.methodLink RX5 19 yX1_hasMark, Cond.instanceMethod yX1_hasMark, Cond.selects RX1 yX1_hasMark yX1_hasMark, Cond.initialized RX1, Cond.code yX1_hasMark cX1_hasMark 2 (some .boolean), Cond.fieldLink RX1 9 "DiveChairs$Dive" "marks" "[I", Cond.methodLink RX5 28 yX5_add, Cond.instanceMethod yX5_add, Cond.selects RX5 yX5_add yX5_add, Cond.code yX5_add cX5_add 3 none, Cond.fieldLink RX5 9 "DiveChairs$Panel" "sorted" "[I"]
def wsX11_orderOdds_r3 : List Cond := [Cond.methodLink RX9 118 yX6_countFor, Cond.instanceMethod yX6_countFor, Cond.selects RX6 yX6_countFor yX6_countFor, Cond.initialized RX6, Cond.code yX6_countFor cX6_countFor 6 (some .int), Cond.fieldLink RX6 41 "DiveChairs$Panel" "size" "I", Cond.fieldLink RX6 15 "DiveChairs$Rule" "dropHighest" "I", Cond.fieldLink RX6 19 "DiveChairs$Rule" "dropLowest" "I", Cond.fieldLink RX6 38 "DiveChairs$Rule" "length" "I", Cond.fieldLink RX6 22 "DiveChairs$Rule" "code" "[I", Cond.fieldLink RX6 25 "DiveChairs$Rule" "stack" "[I", Cond.methodLink RX6 46 yX6_isWorking, Cond.static yX6_isWorking, Cond.code yX6_isWorking cX6_isWorking 1 (some .boolean), Cond.methodLink RX6 50 yX6_fieldOf, Cond.instanceMethod yX6_fieldOf, Cond.selects RX6 yX6_fieldOf yX6_fieldOf, Cond.code yX6_fieldOf cX6_fieldOf 4 (some .int), Cond.fieldLink RX6 70 "DiveChairs$Dive" "hard" "I", Cond.fieldLink RX6 85 "DiveChairs$Dive" "splash" "I", Cond.methodLink RX6 67 yX5_sumBetween, Cond.instanceMethod yX5_sumBetween, Cond.selects RX5 yX5_sumBetween yX5_sumBetween, Cond.code yX5_sumBetween cX5_sumBetween 5 (some .int)]
def wsX11_orderOdds_r4 : List Cond := [Cond.methodLink RX6 75 yX5_middle, Cond.instanceMethod yX5_middle, Cond.selects RX5 yX5_middle yX5_middle, Cond.code yX5_middle cX5_middle 1 (some .int), Cond.methodLink RX6 79 yX5_highest, Cond.instanceMethod yX5_highest, Cond.selects RX5 yX5_highest yX5_highest, Cond.code yX5_highest cX5_highest 1 (some .int), Cond.methodLink RX6 82 yX5_lowest, Cond.instanceMethod yX5_lowest, Cond.selects RX5 yX5_lowest yX5_lowest, Cond.code yX5_lowest cX5_lowest 1 (some .int), Cond.methodLink RX6 54 yX6_worked, Cond.static yX6_worked, Cond.code yX6_worked cX6_worked 3 (some .int), Cond.methodLink RX6 58 Lib.Math.min.name, Cond.static Lib.Math.min.name, Cond.initialized "java/lang/Math", Cond.code Lib.Math.min.name Lib.Math.min.code 2 (some .int), Cond.methodLink RX6 64 Lib.Math.max.name, Cond.static Lib.Math.max.name, Cond.code Lib.Math.max.name Lib.Math.max.code 2 (some .int), Cond.methodLink RX11 266 ⟨"DiveChairs$OrderDealing", "waysAsGood", "()I"⟩, Cond.sameMethod "DiveChairs$OrderDealing" "DiveChairs$Dealing" "waysAsGood" "()I"]
def wsX11_orderOdds_r5 : List Cond := [Cond.selects RX4 ⟨"DiveChairs$OrderDealing", "waysAsGood", "()I"⟩ yX0_waysAsGood, Cond.instanceMethod yX0_waysAsGood, Cond.initialized RX0, Cond.code yX0_waysAsGood cX0_waysAsGood 1 (some .int), Cond.fieldLink RX0 27 "DiveChairs$Dealing" "wanted" "I", Cond.methodLink RX0 23 ⟨"DiveChairs$Dealing", "asItStands", "()I"⟩, Cond.sameMethod "DiveChairs$Dealing" "DiveChairs$Dealing" "asItStands" "()I", Cond.selects RX3 ⟨"DiveChairs$Dealing", "asItStands", "()I"⟩ yX0_asItStands, Cond.instanceMethod yX0_asItStands, Cond.code yX0_asItStands cX0_asItStands 4 (some .int), Cond.fieldLink RX0 15 "DiveChairs$Dealing" "size" "I", Cond.methodLink RX0 19 ⟨"DiveChairs$Dealing", "between", "(IIII)I"⟩, Cond.sameMethod "DiveChairs$Dealing" "DiveChairs$Dealing" "between" "(IIII)I", Cond.selects RX3 ⟨"DiveChairs$Dealing", "between", "(IIII)I"⟩ yX3_between, Cond.instanceMethod yX3_between, Cond.initialized RX3, Cond.code yX3_between cX3_between 9 (some .int), Cond.fieldLink RX3 9 "DiveChairs$LandDealing" "lands" "[I", Cond.fieldLink RX3 15 "DiveChairs$LandDealing" "halls" "[I", Cond.methodLink RX3 84 yX3_leansTo, Cond.instanceMethod yX3_leansTo, Cond.selects RX3 yX3_leansTo yX3_leansTo, Cond.code yX3_leansTo cX3_leansTo 3 (some .boolean), Cond.fieldLink RX3 18 "DiveChairs$LandDealing" "leans" "[I"]
def wsX11_orderOdds_r6 : List Cond := [Cond.selects RX4 ⟨"DiveChairs$Dealing", "between", "(IIII)I"⟩ yX4_between, Cond.instanceMethod yX4_between, Cond.code yX4_between cX4_between 7 (some .int), Cond.selects RX4 ⟨"DiveChairs$Dealing", "asItStands", "()I"⟩ yX0_asItStands, Cond.methodLink RX0 30 ⟨"DiveChairs$Dealing", "waysFrom", "(III)I"⟩, Cond.sameMethod "DiveChairs$Dealing" "DiveChairs$Dealing" "waysFrom" "(III)I", Cond.selects RX3 ⟨"DiveChairs$Dealing", "waysFrom", "(III)I"⟩ yX0_waysFrom, Cond.instanceMethod yX0_waysFrom, Cond.code yX0_waysFrom cX0_waysFrom 6 (some .int), Cond.fieldLink RX0 9 "DiveChairs$Dealing" "dealt" "[I", Cond.static yX11_holds, Cond.code yX11_holds cX11_holds 2 (some .boolean), Cond.methodLink RX0 41 ⟨"DiveChairs$Dealing", "gainAt", "(I)I"⟩, Cond.sameMethod "DiveChairs$Dealing" "DiveChairs$Dealing" "gainAt" "(I)I", Cond.selects RX3 ⟨"DiveChairs$Dealing", "gainAt", "(I)I"⟩ yX0_gainAt, Cond.instanceMethod yX0_gainAt, Cond.code yX0_gainAt cX0_gainAt 4 (some .int), Cond.selects RX4 ⟨"DiveChairs$Dealing", "gainAt", "(I)I"⟩ yX0_gainAt, Cond.selects RX4 ⟨"DiveChairs$Dealing", "waysFrom", "(III)I"⟩ yX0_waysFrom, Cond.methodLink RX11 267 ⟨"DiveChairs$OrderDealing", "allWays", "()I"⟩, Cond.sameMethod "DiveChairs$OrderDealing" "DiveChairs$Dealing" "allWays" "()I", Cond.selects RX4 ⟨"DiveChairs$OrderDealing", "allWays", "()I"⟩ yX0_allWays, Cond.instanceMethod yX0_allWays, Cond.code yX0_allWays cX0_allWays 3 (some .int)]
def wsX11_orderOdds : List Cond := .code yX11_orderOdds cX11_orderOdds 3 (some .int) :: ((wsX11_orderOdds_r1 ++ (wsX11_orderOdds_r2 ++ (wsX11_orderOdds_r3 ++ (wsX11_orderOdds_r4 ++ (wsX11_orderOdds_r5 ++ wsX11_orderOdds_r6))))) ++ wsX110 ++ wsX30 ++ wsX40 ++ wsX90 ++ wsX10 ++ wsX50 ++ wsX60)
def wsX11_creep : List Cond := .code yX11_creep cX11_creep 8 (some .int) :: ([.constant RX11 180 (-1000000001), .fieldLink RX11 10 "DiveChairs" "now" "LDiveChairs$State;", .fieldLink RX11 72 "DiveChairs$State" "judges" "I", .constant RX11 242 (-1000000004), .methodLink RX11 57 yX11_within, .static yX11_within, .initialized RX11, .code yX11_within cX11_within 2 (some .boolean), .methodLink RX11 268 yX9_meanOf, .instanceMethod yX9_meanOf, .selects RX9 yX9_meanOf yX9_meanOf, .initialized RX9, .code yX9_meanOf cX9_meanOf 8 (some .int), .fieldLink RX9 72 "DiveChairs$State" "dives" "I", .fieldLink RX9 39 "DiveChairs$State" "divesMade" "[LDiveChairs$Dive;", .fieldLink RX9 126 "DiveChairs$Dive" "hall" "I", .fieldLink RX9 18 "DiveChairs$State" "years" "[I", .methodLink RX9 215 yX1_markBy, .instanceMethod yX1_markBy, .selects RX1 yX1_markBy yX1_markBy, .initialized RX1, .code yX1_markBy cX1_markBy 3 (some .int), .fieldLink RX1 15 "DiveChairs$Dive" "markers" "[I", .fieldLink RX1 9 "DiveChairs$Dive" "marks" "[I"] ++ wsX110 ++ wsX90 ++ wsX10)
def wsX11_near_r1 : List Cond := [Cond.fieldLink RX11 10 "DiveChairs" "now" "LDiveChairs$State;", Cond.fieldLink RX11 72 "DiveChairs$State" "judges" "I", Cond.fieldLink RX11 52 "DiveChairs" "tally" "LDiveChairs$Tally;", Cond.fieldLink RX11 239 "DiveChairs$Tally" "many" "I", Cond.fieldLink RX11 271 "DiveChairs$Tally" "distance" "I", Cond.methodLink RX11 57 yX11_within, Cond.static yX11_within, Cond.initialized RX11, Cond.code yX11_within cX11_within 2 (some .boolean), Cond.methodLink RX11 232 yX9_tallyUp, Cond.instanceMethod yX9_tallyUp, Cond.selects RX9 yX9_tallyUp yX9_tallyUp, Cond.initialized RX9, Cond.code yX9_tallyUp cX9_tallyUp 7 none, Cond.fieldLink RX9 72 "DiveChairs$State" "dives" "I", Cond.fieldLink RX9 39 "DiveChairs$State" "divesMade" "[LDiveChairs$Dive;", Cond.fieldLink RX9 50 "DiveChairs$State" "panel" "LDiveChairs$Panel;", Cond.methodLink RX9 210 yX10_start, Cond.instanceMethod yX10_start, Cond.selects RX10 yX10_start yX10_start, Cond.initialized RX10, Cond.code yX10_start cX10_start 1 none, Cond.fieldLink RX10 7 "DiveChairs$Tally" "sum" "I", Cond.fieldLink RX10 13 "DiveChairs$Tally" "many" "I"]
def wsX11_near_r2 : List Cond := [Cond.fieldLink RX10 16 "DiveChairs$Tally" "least" "I", Cond.fieldLink RX10 19 "DiveChairs$Tally" "greatest" "I", Cond.fieldLink RX10 22 "DiveChairs$Tally" "distance" "I", Cond.methodLink RX9 215 yX1_markBy, Cond.instanceMethod yX1_markBy, Cond.selects RX1 yX1_markBy yX1_markBy, Cond.initialized RX1, Cond.code yX1_markBy cX1_markBy 3 (some .int), Cond.fieldLink RX1 15 "DiveChairs$Dive" "markers" "[I", Cond.fieldLink RX1 9 "DiveChairs$Dive" "marks" "[I", Cond.methodLink RX9 164 yX9_landOf, Cond.instanceMethod yX9_landOf, Cond.selects RX9 yX9_landOf yX9_landOf, Cond.code yX9_landOf cX9_landOf 2 (some .int), Cond.fieldLink RX9 89 "DiveChairs$Dive" "diver" "I", Cond.fieldLink RX9 65 "DiveChairs$State" "divers" "I", Cond.fieldLink RX9 9 "DiveChairs$State" "lands" "[I", Cond.methodLink RX9 100 yX5_gather, Cond.instanceMethod yX5_gather, Cond.selects RX5 yX5_gather yX5_gather, Cond.initialized RX5, Cond.code yX5_gather cX5_gather 3 none, Cond.fieldLink RX5 15 "DiveChairs$Panel" "size" "I", Cond.fieldLink RX5 25 "DiveChairs$Dive" "marks" "[I"]
def wsX11_near_r3 : List Cond := [Cond.methodLink RX5 19 yX1_hasMark, Cond.instanceMethod yX1_hasMark, Cond.selects RX1 yX1_hasMark yX1_hasMark, Cond.code yX1_hasMark cX1_hasMark 2 (some .boolean), Cond.methodLink RX5 28 yX5_add, Cond.instanceMethod yX5_add, Cond.selects RX5 yX5_add yX5_add, Cond.code yX5_add cX5_add 3 none, Cond.fieldLink RX5 9 "DiveChairs$Panel" "sorted" "[I", Cond.methodLink RX9 143 yX5_middle, Cond.instanceMethod yX5_middle, Cond.selects RX5 yX5_middle yX5_middle, Cond.code yX5_middle cX5_middle 1 (some .int), Cond.methodLink RX9 218 yX10_take, Cond.instanceMethod yX10_take, Cond.selects RX10 yX10_take yX10_take, Cond.code yX10_take cX10_take 2 none, Cond.methodLink RX10 25 Lib.Math.min.name, Cond.static Lib.Math.min.name, Cond.initialized "java/lang/Math", Cond.code Lib.Math.min.name Lib.Math.min.code 2 (some .int), Cond.methodLink RX10 31 Lib.Math.max.name, Cond.static Lib.Math.max.name, Cond.code Lib.Math.max.name Lib.Math.max.code 2 (some .int)]
def wsX11_near_r4 : List Cond := [Cond.methodLink RX10 34 Lib.Math.abs.name, Cond.static Lib.Math.abs.name, Cond.code Lib.Math.abs.name Lib.Math.abs.code 1 (some .int)]
def wsX11_near : List Cond := .code yX11_near cX11_near 2 (some .int) :: ((wsX11_near_r1 ++ (wsX11_near_r2 ++ (wsX11_near_r3 ++ wsX11_near_r4))) ++ wsX110 ++ wsX90 ++ wsX100 ++ wsX10 ++ wsX50)
def wsX11_nearest_r1 : List Cond := [Cond.fieldLink RX11 10 "DiveChairs" "now" "LDiveChairs$State;", Cond.fieldLink RX11 72 "DiveChairs$State" "judges" "I", Cond.fieldLink RX11 52 "DiveChairs" "tally" "LDiveChairs$Tally;", Cond.fieldLink RX11 271 "DiveChairs$Tally" "distance" "I", Cond.fieldLink RX11 239 "DiveChairs$Tally" "many" "I", Cond.methodLink RX11 232 yX9_tallyUp, Cond.instanceMethod yX9_tallyUp, Cond.selects RX9 yX9_tallyUp yX9_tallyUp, Cond.initialized RX9, Cond.code yX9_tallyUp cX9_tallyUp 7 none, Cond.fieldLink RX9 72 "DiveChairs$State" "dives" "I", Cond.fieldLink RX9 39 "DiveChairs$State" "divesMade" "[LDiveChairs$Dive;", Cond.fieldLink RX9 50 "DiveChairs$State" "panel" "LDiveChairs$Panel;", Cond.methodLink RX9 210 yX10_start, Cond.instanceMethod yX10_start, Cond.selects RX10 yX10_start yX10_start, Cond.initialized RX10, Cond.code yX10_start cX10_start 1 none, Cond.fieldLink RX10 7 "DiveChairs$Tally" "sum" "I", Cond.fieldLink RX10 13 "DiveChairs$Tally" "many" "I", Cond.fieldLink RX10 16 "DiveChairs$Tally" "least" "I", Cond.fieldLink RX10 19 "DiveChairs$Tally" "greatest" "I", Cond.fieldLink RX10 22 "DiveChairs$Tally" "distance" "I", Cond.methodLink RX9 215 yX1_markBy]
def wsX11_nearest_r2 : List Cond := [Cond.instanceMethod yX1_markBy, Cond.selects RX1 yX1_markBy yX1_markBy, Cond.initialized RX1, Cond.code yX1_markBy cX1_markBy 3 (some .int), Cond.fieldLink RX1 15 "DiveChairs$Dive" "markers" "[I", Cond.fieldLink RX1 9 "DiveChairs$Dive" "marks" "[I", Cond.methodLink RX9 164 yX9_landOf, Cond.instanceMethod yX9_landOf, Cond.selects RX9 yX9_landOf yX9_landOf, Cond.code yX9_landOf cX9_landOf 2 (some .int), Cond.fieldLink RX9 89 "DiveChairs$Dive" "diver" "I", Cond.fieldLink RX9 65 "DiveChairs$State" "divers" "I", Cond.fieldLink RX9 9 "DiveChairs$State" "lands" "[I", Cond.static yX11_within, Cond.initialized RX11, Cond.code yX11_within cX11_within 2 (some .boolean), Cond.methodLink RX9 100 yX5_gather, Cond.instanceMethod yX5_gather, Cond.selects RX5 yX5_gather yX5_gather, Cond.initialized RX5, Cond.code yX5_gather cX5_gather 3 none, Cond.fieldLink RX5 15 "DiveChairs$Panel" "size" "I", Cond.fieldLink RX5 25 "DiveChairs$Dive" "marks" "[I", Cond.methodLink RX5 19 yX1_hasMark]
def wsX11_nearest_r3 : List Cond := [Cond.instanceMethod yX1_hasMark, Cond.selects RX1 yX1_hasMark yX1_hasMark, Cond.code yX1_hasMark cX1_hasMark 2 (some .boolean), Cond.methodLink RX5 28 yX5_add, Cond.instanceMethod yX5_add, Cond.selects RX5 yX5_add yX5_add, Cond.code yX5_add cX5_add 3 none, Cond.fieldLink RX5 9 "DiveChairs$Panel" "sorted" "[I", Cond.methodLink RX9 143 yX5_middle, Cond.instanceMethod yX5_middle, Cond.selects RX5 yX5_middle yX5_middle, Cond.code yX5_middle cX5_middle 1 (some .int), Cond.methodLink RX9 218 yX10_take, Cond.instanceMethod yX10_take, Cond.selects RX10 yX10_take yX10_take, Cond.code yX10_take cX10_take 2 none, Cond.methodLink RX10 25 Lib.Math.min.name, Cond.static Lib.Math.min.name, Cond.initialized "java/lang/Math", Cond.code Lib.Math.min.name Lib.Math.min.code 2 (some .int), Cond.methodLink RX10 31 Lib.Math.max.name, Cond.static Lib.Math.max.name, Cond.code Lib.Math.max.name Lib.Math.max.code 2 (some .int), Cond.methodLink RX10 34 Lib.Math.abs.name]
def wsX11_nearest_r4 : List Cond := [Cond.static Lib.Math.abs.name, Cond.code Lib.Math.abs.name Lib.Math.abs.code 1 (some .int)]
def wsX11_nearest : List Cond := .code yX11_nearest cX11_nearest 6 (some .int) :: ((wsX11_nearest_r1 ++ (wsX11_nearest_r2 ++ (wsX11_nearest_r3 ++ wsX11_nearest_r4))) ++ wsX110 ++ wsX90 ++ wsX100 ++ wsX10 ++ wsX50)
def wsX11_partsSeenFrom : List Cond := .code yX11_partsSeenFrom cX11_partsSeenFrom 4 (some .int) :: ([.methodLink RX11 190 yX11_holds, .static yX11_holds, .initialized RX11, .code yX11_holds cX11_holds 2 (some .boolean), .methodLink RX11 122 yX11_partsSeen, .static yX11_partsSeen, .code yX11_partsSeen cX11_partsSeen 5 (some .int), .methodLink RX11 223 yJ6_bitCount_0f7a4, .static yJ6_bitCount_0f7a4, .initialized RJ6, .code yJ6_bitCount_0f7a4 cJ6_bitCount_0f7a4 1 (some .int), .constant RJ6 265 (1431655765), .constant RJ6 266 (858993459), .constant RJ6 267 (252645135)])
def wsX11_seeing : List Cond := .code yX11_seeing cX11_seeing 8 (some .int) :: ([.methodLink RX11 57 yX11_within, .static yX11_within, .initialized RX11, .code yX11_within cX11_within 2 (some .boolean), .methodLink RX11 223 yJ6_bitCount_0f7a4, .static yJ6_bitCount_0f7a4, .initialized RJ6, .code yJ6_bitCount_0f7a4 cJ6_bitCount_0f7a4 1 (some .int), .constant RJ6 265 (1431655765), .constant RJ6 266 (858993459), .constant RJ6 267 (252645135), .methodLink RX11 274 yX11_partsSeenFrom, .static yX11_partsSeenFrom, .code yX11_partsSeenFrom cX11_partsSeenFrom 4 (some .int), .methodLink RX11 190 yX11_holds, .static yX11_holds, .code yX11_holds cX11_holds 2 (some .boolean), .methodLink RX11 122 yX11_partsSeen, .static yX11_partsSeen, .code yX11_partsSeen cX11_partsSeen 5 (some .int)])
def wsX11_worlds_r1 : List Cond := [Cond.fieldLink RX11 10 "DiveChairs" "now" "LDiveChairs$State;", Cond.fieldLink RX11 19 "DiveChairs" "mind" "LDiveChairs$State;", Cond.methodLink RX11 57 yX11_within, Cond.static yX11_within, Cond.initialized RX11, Cond.code yX11_within cX11_within 2 (some .boolean), Cond.methodLink RX11 201 yX9_winner, Cond.instanceMethod yX9_winner, Cond.selects RX9 yX9_winner yX9_winner, Cond.initialized RX9, Cond.code yX9_winner cX9_winner 5 (some .int), Cond.fieldLink RX9 43 "DiveChairs$State" "totals" "[J", Cond.methodLink RX9 190 yX9_addUp, Cond.instanceMethod yX9_addUp, Cond.selects RX9 yX9_addUp yX9_addUp, Cond.code yX9_addUp cX9_addUp 6 (some .int), Cond.fieldLink RX9 72 "DiveChairs$State" "dives" "I", Cond.fieldLink RX9 39 "DiveChairs$State" "divesMade" "[LDiveChairs$Dive;", Cond.fieldLink RX9 126 "DiveChairs$Dive" "hall" "I", Cond.fieldLink RX9 89 "DiveChairs$Dive" "diver" "I", Cond.fieldLink RX9 184 "DiveChairs$Dive" "hard" "I", Cond.methodLink RX9 181 yX9_worthOf, Cond.instanceMethod yX9_worthOf, Cond.selects RX9 yX9_worthOf yX9_worthOf]
def wsX11_worlds_r2 : List Cond := [Cond.code yX9_worthOf cX9_worthOf 2 (some .int), Cond.fieldLink RX9 27 "DiveChairs$State" "rule" "LDiveChairs$Rule;", Cond.fieldLink RX9 106 "DiveChairs$Dive" "flaws" "I", Cond.methodLink RX9 113 Lib.Math.max.name, Cond.static Lib.Math.max.name, Cond.initialized "java/lang/Math", Cond.code Lib.Math.max.name Lib.Math.max.code 2 (some .int), Cond.methodLink RX9 109 yX6_offFor, Cond.instanceMethod yX6_offFor, Cond.selects RX6 yX6_offFor yX6_offFor, Cond.initialized RX6, Cond.code yX6_offFor cX6_offFor 4 (some .int), Cond.fieldLink RX6 9 "DiveChairs$Rule" "off" "[I", Cond.methodLink RX9 187 yX9_countOf, Cond.instanceMethod yX9_countOf, Cond.selects RX9 yX9_countOf yX9_countOf, Cond.code yX9_countOf cX9_countOf 2 (some .int), Cond.fieldLink RX9 50 "DiveChairs$State" "panel" "LDiveChairs$Panel;", Cond.methodLink RX9 100 yX5_gather, Cond.instanceMethod yX5_gather, Cond.selects RX5 yX5_gather yX5_gather, Cond.initialized RX5, Cond.code yX5_gather cX5_gather 3 none, Cond.fieldLink RX5 15 "DiveChairs$Panel" "size" "I"]
def wsX11_worlds_r3 : List Cond := [Cond.fieldLink RX5 25 "DiveChairs$Dive" "marks" "[I", Cond.methodLink RX5 19 yX1_hasMark, Cond.instanceMethod yX1_hasMark, Cond.selects RX1 yX1_hasMark yX1_hasMark, Cond.initialized RX1, Cond.code yX1_hasMark cX1_hasMark 2 (some .boolean), Cond.fieldLink RX1 9 "DiveChairs$Dive" "marks" "[I", Cond.methodLink RX5 28 yX5_add, Cond.instanceMethod yX5_add, Cond.selects RX5 yX5_add yX5_add, Cond.code yX5_add cX5_add 3 none, Cond.fieldLink RX5 9 "DiveChairs$Panel" "sorted" "[I", Cond.methodLink RX9 118 yX6_countFor, Cond.instanceMethod yX6_countFor, Cond.selects RX6 yX6_countFor yX6_countFor, Cond.code yX6_countFor cX6_countFor 6 (some .int), Cond.fieldLink RX6 41 "DiveChairs$Panel" "size" "I", Cond.fieldLink RX6 15 "DiveChairs$Rule" "dropHighest" "I", Cond.fieldLink RX6 19 "DiveChairs$Rule" "dropLowest" "I", Cond.fieldLink RX6 38 "DiveChairs$Rule" "length" "I", Cond.fieldLink RX6 22 "DiveChairs$Rule" "code" "[I", Cond.fieldLink RX6 25 "DiveChairs$Rule" "stack" "[I", Cond.methodLink RX6 46 yX6_isWorking, Cond.static yX6_isWorking]
def wsX11_worlds_r4 : List Cond := [Cond.code yX6_isWorking cX6_isWorking 1 (some .boolean), Cond.methodLink RX6 50 yX6_fieldOf, Cond.instanceMethod yX6_fieldOf, Cond.selects RX6 yX6_fieldOf yX6_fieldOf, Cond.code yX6_fieldOf cX6_fieldOf 4 (some .int), Cond.fieldLink RX6 70 "DiveChairs$Dive" "hard" "I", Cond.fieldLink RX6 85 "DiveChairs$Dive" "splash" "I", Cond.methodLink RX6 67 yX5_sumBetween, Cond.instanceMethod yX5_sumBetween, Cond.selects RX5 yX5_sumBetween yX5_sumBetween, Cond.code yX5_sumBetween cX5_sumBetween 5 (some .int), Cond.methodLink RX6 75 yX5_middle, Cond.instanceMethod yX5_middle, Cond.selects RX5 yX5_middle yX5_middle, Cond.code yX5_middle cX5_middle 1 (some .int), Cond.methodLink RX6 79 yX5_highest, Cond.instanceMethod yX5_highest, Cond.selects RX5 yX5_highest yX5_highest, Cond.code yX5_highest cX5_highest 1 (some .int), Cond.methodLink RX6 82 yX5_lowest, Cond.instanceMethod yX5_lowest, Cond.selects RX5 yX5_lowest yX5_lowest, Cond.code yX5_lowest cX5_lowest 1 (some .int), Cond.methodLink RX6 54 yX6_worked]
def wsX11_worlds_r5 : List Cond := [Cond.static yX6_worked, Cond.code yX6_worked cX6_worked 3 (some .int), Cond.methodLink RX6 58 Lib.Math.min.name, Cond.static Lib.Math.min.name, Cond.code Lib.Math.min.name Lib.Math.min.code 2 (some .int), Cond.methodLink RX6 64 Lib.Math.max.name, Cond.static yX11_holds, Cond.code yX11_holds cX11_holds 2 (some .boolean), Cond.methodLink RX11 207 yX9_copyFrom, Cond.instanceMethod yX9_copyFrom, Cond.selects RX9 yX9_copyFrom yX9_copyFrom, Cond.code yX9_copyFrom cX9_copyFrom 3 none, Cond.fieldLink RX9 9 "DiveChairs$State" "lands" "[I", Cond.methodLink RX9 55 arraycopyName, Cond.native arraycopyName, Cond.static arraycopyName, Cond.initialized "java/lang/System", Cond.fieldLink RX9 15 "DiveChairs$State" "names" "[I", Cond.fieldLink RX9 18 "DiveChairs$State" "years" "[I", Cond.fieldLink RX9 21 "DiveChairs$State" "seats" "[I", Cond.fieldLink RX9 65 "DiveChairs$State" "divers" "I", Cond.fieldLink RX9 69 "DiveChairs$State" "judges" "I", Cond.fieldLink RX9 33 "DiveChairs$State" "judgesMade" "[LDiveChairs$Judge;", Cond.methodLink RX9 61 yX6_copyFrom]
def wsX11_worlds_r6 : List Cond := [Cond.instanceMethod yX6_copyFrom, Cond.selects RX6 yX6_copyFrom yX6_copyFrom, Cond.code yX6_copyFrom cX6_copyFrom 2 none, Cond.methodLink RX6 32 arraycopyName, Cond.methodLink RX9 75 yX1_copyFrom, Cond.instanceMethod yX1_copyFrom, Cond.selects RX1 yX1_copyFrom yX1_copyFrom, Cond.code yX1_copyFrom cX1_copyFrom 2 none, Cond.fieldLink RX1 18 "DiveChairs$Dive" "hall" "I", Cond.fieldLink RX1 22 "DiveChairs$Dive" "diver" "I", Cond.fieldLink RX1 25 "DiveChairs$Dive" "flaws" "I", Cond.fieldLink RX1 28 "DiveChairs$Dive" "splash" "I", Cond.fieldLink RX1 31 "DiveChairs$Dive" "hard" "I", Cond.methodLink RX1 38 arraycopyName, Cond.fieldLink RX1 15 "DiveChairs$Dive" "markers" "[I", Cond.methodLink RX11 277 yX9_flawAnew, Cond.instanceMethod yX9_flawAnew, Cond.selects RX9 yX9_flawAnew yX9_flawAnew, Cond.code yX9_flawAnew cX9_flawAnew 6 (some .int), Cond.constant RX9 221 (1103515245), Cond.constant RX9 222 (2147483647), Cond.constant RX9 223 (65536), Cond.methodLink RX11 280 yX9_isRight, Cond.instanceMethod yX9_isRight]
def wsX11_worlds_r7 : List Cond := [Cond.selects RX9 yX9_isRight yX9_isRight, Cond.code yX9_isRight cX9_isRight 3 (some .boolean), Cond.methodLink RX9 224 yX9_markDive, Cond.instanceMethod yX9_markDive, Cond.selects RX9 yX9_markDive yX9_markDive, Cond.code yX9_markDive cX9_markDive 5 (some .int), Cond.methodLink RX9 122 yX9_diveAt, Cond.instanceMethod yX9_diveAt, Cond.selects RX9 yX9_diveAt yX9_diveAt, Cond.code yX9_diveAt cX9_diveAt 2 (some (.object "DiveChairs$Dive")), Cond.methodLink RX9 175 yX9_wouldMark, Cond.instanceMethod yX9_wouldMark, Cond.selects RX9 yX9_wouldMark yX9_wouldMark, Cond.code yX9_wouldMark cX9_wouldMark 5 (some .int), Cond.fieldLink RX9 133 "DiveChairs$Judge" "kind" "I", Cond.fieldLink RX9 140 "DiveChairs$Panel" "size" "I", Cond.methodLink RX9 92 yX9_seatOf, Cond.instanceMethod yX9_seatOf, Cond.selects RX9 yX9_seatOf yX9_seatOf, Cond.code yX9_seatOf cX9_seatOf 3 (some .int), Cond.methodLink RX9 129 yX9_judgeAt, Cond.instanceMethod yX9_judgeAt, Cond.selects RX9 yX9_judgeAt yX9_judgeAt, Cond.code yX9_judgeAt cX9_judgeAt 2 (some (.object "DiveChairs$Judge"))]
def wsX11_worlds_r8 : List Cond := [Cond.methodLink RX9 136 yX9_gatherOthers, Cond.instanceMethod yX9_gatherOthers, Cond.selects RX9 yX9_gatherOthers yX9_gatherOthers, Cond.code yX9_gatherOthers cX9_gatherOthers 5 none, Cond.methodLink RX9 146 yX9_markOf, Cond.instanceMethod yX9_markOf, Cond.selects RX9 yX9_markOf yX9_markOf, Cond.code yX9_markOf cX9_markOf 8 (some .int), Cond.fieldLink RX9 154 "DiveChairs$Dive" "splash" "I", Cond.static yX11_partsSeen, Cond.code yX11_partsSeen cX11_partsSeen 5 (some .int), Cond.methodLink RX9 160 yX9_drawnBy, Cond.instanceMethod yX9_drawnBy, Cond.selects RX9 yX9_drawnBy yX9_drawnBy, Cond.code yX9_drawnBy cX9_drawnBy 6 (some .int), Cond.methodLink RX9 172 Lib.Math.min.name, Cond.methodLink RX9 164 yX9_landOf, Cond.instanceMethod yX9_landOf, Cond.selects RX9 yX9_landOf yX9_landOf, Cond.code yX9_landOf cX9_landOf 2 (some .int), Cond.methodLink RX9 168 yX2_markFor, Cond.instanceMethod yX2_markFor, Cond.selects RX2 yX2_markFor yX2_markFor, Cond.initialized RX2]
def wsX11_worlds_r9 : List Cond := [Cond.code yX2_markFor cX2_markFor 4 (some .int), Cond.fieldLink RX2 15 "DiveChairs$Judge" "kind" "I", Cond.methodLink RX2 27 yX2_held, Cond.static yX2_held, Cond.code yX2_held cX2_held 1 (some .int), Cond.methodLink RX2 31 yX2_leanTo, Cond.instanceMethod yX2_leanTo, Cond.selects RX2 yX2_leanTo yX2_leanTo, Cond.code yX2_leanTo cX2_leanTo 4 (some .int), Cond.fieldLink RX2 18 "DiveChairs$Judge" "land" "I", Cond.fieldLink RX2 24 "DiveChairs$Judge" "partner" "I", Cond.fieldLink RX2 21 "DiveChairs$Judge" "leaning" "I", Cond.methodLink RX9 150 yX5_add, Cond.methodLink RX9 143 yX5_middle, Cond.methodLink RX9 178 yX1_tell, Cond.instanceMethod yX1_tell, Cond.selects RX1 yX1_tell yX1_tell, Cond.code yX1_tell cX1_tell 4 none, Cond.methodLink RX9 96 yX1_marksThere, Cond.instanceMethod yX1_marksThere, Cond.selects RX1 yX1_marksThere yX1_marksThere, Cond.code yX1_marksThere cX1_marksThere 3 (some .int), Cond.methodLink RX9 227 yX9_winner, Cond.methodLink RX9 230 yX9_placeOf]
def wsX11_worlds_r10 : List Cond := [Cond.instanceMethod yX9_placeOf, Cond.selects RX9 yX9_placeOf yX9_placeOf, Cond.code yX9_placeOf cX9_placeOf 7 (some .int)]
def wsX11_worlds : List Cond := .code yX11_worlds cX11_worlds 7 (some .int) :: ((wsX11_worlds_r1 ++ (wsX11_worlds_r2 ++ (wsX11_worlds_r3 ++ (wsX11_worlds_r4 ++ (wsX11_worlds_r5 ++ (wsX11_worlds_r6 ++ (wsX11_worlds_r7 ++ (wsX11_worlds_r8 ++ (wsX11_worlds_r9 ++ wsX11_worlds_r10))))))))) ++ wsX110 ++ wsX90 ++ wsX10 ++ wsX60 ++ wsX50 ++ wsX20)
def wsX11_image_r1 : List Cond := [Cond.fieldLink RX11 16 "DiveChairs" "imaged" "LDiveChairs$State;", Cond.fieldLink RX11 10 "DiveChairs" "now" "LDiveChairs$State;", Cond.fieldLink RX11 283 "DiveChairs" "imageTaken" "Z", Cond.fieldLink RX11 125 "DiveChairs$State" "dives" "I", Cond.methodLink RX11 207 yX9_copyFrom, Cond.instanceMethod yX9_copyFrom, Cond.selects RX9 yX9_copyFrom yX9_copyFrom, Cond.initialized RX9, Cond.code yX9_copyFrom cX9_copyFrom 3 none, Cond.fieldLink RX9 9 "DiveChairs$State" "lands" "[I", Cond.methodLink RX9 55 arraycopyName, Cond.native arraycopyName, Cond.static arraycopyName, Cond.initialized "java/lang/System", Cond.fieldLink RX9 15 "DiveChairs$State" "names" "[I", Cond.fieldLink RX9 18 "DiveChairs$State" "years" "[I", Cond.fieldLink RX9 21 "DiveChairs$State" "seats" "[I", Cond.fieldLink RX9 27 "DiveChairs$State" "rule" "LDiveChairs$Rule;", Cond.fieldLink RX9 65 "DiveChairs$State" "divers" "I", Cond.fieldLink RX9 69 "DiveChairs$State" "judges" "I", Cond.fieldLink RX9 72 "DiveChairs$State" "dives" "I", Cond.fieldLink RX9 33 "DiveChairs$State" "judgesMade" "[LDiveChairs$Judge;", Cond.fieldLink RX9 39 "DiveChairs$State" "divesMade" "[LDiveChairs$Dive;", Cond.methodLink RX9 61 yX6_copyFrom]
def wsX11_image_r2 : List Cond := [Cond.instanceMethod yX6_copyFrom, Cond.selects RX6 yX6_copyFrom yX6_copyFrom, Cond.initialized RX6, Cond.code yX6_copyFrom cX6_copyFrom 2 none, Cond.fieldLink RX6 9 "DiveChairs$Rule" "off" "[I", Cond.methodLink RX6 32 arraycopyName, Cond.fieldLink RX6 15 "DiveChairs$Rule" "dropHighest" "I", Cond.fieldLink RX6 19 "DiveChairs$Rule" "dropLowest" "I", Cond.fieldLink RX6 22 "DiveChairs$Rule" "code" "[I", Cond.fieldLink RX6 38 "DiveChairs$Rule" "length" "I", Cond.methodLink RX9 75 yX1_copyFrom, Cond.instanceMethod yX1_copyFrom, Cond.selects RX1 yX1_copyFrom yX1_copyFrom, Cond.initialized RX1, Cond.code yX1_copyFrom cX1_copyFrom 2 none, Cond.fieldLink RX1 18 "DiveChairs$Dive" "hall" "I", Cond.fieldLink RX1 22 "DiveChairs$Dive" "diver" "I", Cond.fieldLink RX1 25 "DiveChairs$Dive" "flaws" "I", Cond.fieldLink RX1 28 "DiveChairs$Dive" "splash" "I", Cond.fieldLink RX1 31 "DiveChairs$Dive" "hard" "I", Cond.fieldLink RX1 9 "DiveChairs$Dive" "marks" "[I", Cond.methodLink RX1 38 arraycopyName, Cond.fieldLink RX1 15 "DiveChairs$Dive" "markers" "[I"]
def wsX11_image : List Cond := .code yX11_image cX11_image 1 (some .int) :: ((wsX11_image_r1 ++ wsX11_image_r2) ++ wsX110 ++ wsX90 ++ wsX60 ++ wsX10)
def wsX11_restore_r1 : List Cond := [Cond.fieldLink RX11 283 "DiveChairs" "imageTaken" "Z", Cond.fieldLink RX11 10 "DiveChairs" "now" "LDiveChairs$State;", Cond.fieldLink RX11 16 "DiveChairs" "imaged" "LDiveChairs$State;", Cond.fieldLink RX11 125 "DiveChairs$State" "dives" "I", Cond.methodLink RX11 207 yX9_copyFrom, Cond.instanceMethod yX9_copyFrom, Cond.selects RX9 yX9_copyFrom yX9_copyFrom, Cond.initialized RX9, Cond.code yX9_copyFrom cX9_copyFrom 3 none, Cond.fieldLink RX9 9 "DiveChairs$State" "lands" "[I", Cond.methodLink RX9 55 arraycopyName, Cond.native arraycopyName, Cond.static arraycopyName, Cond.initialized "java/lang/System", Cond.fieldLink RX9 15 "DiveChairs$State" "names" "[I", Cond.fieldLink RX9 18 "DiveChairs$State" "years" "[I", Cond.fieldLink RX9 21 "DiveChairs$State" "seats" "[I", Cond.fieldLink RX9 27 "DiveChairs$State" "rule" "LDiveChairs$Rule;", Cond.fieldLink RX9 65 "DiveChairs$State" "divers" "I", Cond.fieldLink RX9 69 "DiveChairs$State" "judges" "I", Cond.fieldLink RX9 72 "DiveChairs$State" "dives" "I", Cond.fieldLink RX9 33 "DiveChairs$State" "judgesMade" "[LDiveChairs$Judge;", Cond.fieldLink RX9 39 "DiveChairs$State" "divesMade" "[LDiveChairs$Dive;", Cond.methodLink RX9 61 yX6_copyFrom]
def wsX11_restore_r2 : List Cond := [Cond.instanceMethod yX6_copyFrom, Cond.selects RX6 yX6_copyFrom yX6_copyFrom, Cond.initialized RX6, Cond.code yX6_copyFrom cX6_copyFrom 2 none, Cond.fieldLink RX6 9 "DiveChairs$Rule" "off" "[I", Cond.methodLink RX6 32 arraycopyName, Cond.fieldLink RX6 15 "DiveChairs$Rule" "dropHighest" "I", Cond.fieldLink RX6 19 "DiveChairs$Rule" "dropLowest" "I", Cond.fieldLink RX6 22 "DiveChairs$Rule" "code" "[I", Cond.fieldLink RX6 38 "DiveChairs$Rule" "length" "I", Cond.methodLink RX9 75 yX1_copyFrom, Cond.instanceMethod yX1_copyFrom, Cond.selects RX1 yX1_copyFrom yX1_copyFrom, Cond.initialized RX1, Cond.code yX1_copyFrom cX1_copyFrom 2 none, Cond.fieldLink RX1 18 "DiveChairs$Dive" "hall" "I", Cond.fieldLink RX1 22 "DiveChairs$Dive" "diver" "I", Cond.fieldLink RX1 25 "DiveChairs$Dive" "flaws" "I", Cond.fieldLink RX1 28 "DiveChairs$Dive" "splash" "I", Cond.fieldLink RX1 31 "DiveChairs$Dive" "hard" "I", Cond.fieldLink RX1 9 "DiveChairs$Dive" "marks" "[I", Cond.methodLink RX1 38 arraycopyName, Cond.fieldLink RX1 15 "DiveChairs$Dive" "markers" "[I"]
def wsX11_restore : List Cond := .code yX11_restore cX11_restore 1 (some .int) :: ((wsX11_restore_r1 ++ wsX11_restore_r2) ++ wsX110 ++ wsX90 ++ wsX60 ++ wsX10)
def wsX11_count_r1 : List Cond := [Cond.fieldLink RX11 10 "DiveChairs" "now" "LDiveChairs$State;", Cond.fieldLink RX11 86 "DiveChairs$State" "divers" "I", Cond.fieldLink RX11 72 "DiveChairs$State" "judges" "I", Cond.fieldLink RX11 125 "DiveChairs$State" "dives" "I", Cond.fieldLink RX11 163 "DiveChairs$State" "rule" "LDiveChairs$Rule;", Cond.fieldLink RX11 214 "DiveChairs$Rule" "dropHighest" "I", Cond.fieldLink RX11 217 "DiveChairs$Rule" "dropLowest" "I", Cond.fieldLink RX11 294 "DiveChairs$Rule" "off" "[I", Cond.methodLink RX11 287 yX9_marksThere, Cond.instanceMethod yX9_marksThere, Cond.selects RX9 yX9_marksThere yX9_marksThere, Cond.initialized RX9, Cond.code yX9_marksThere cX9_marksThere 3 (some .int), Cond.fieldLink RX9 72 "DiveChairs$State" "dives" "I", Cond.fieldLink RX9 39 "DiveChairs$State" "divesMade" "[LDiveChairs$Dive;", Cond.methodLink RX9 96 yX1_marksThere, Cond.instanceMethod yX1_marksThere, Cond.selects RX1 yX1_marksThere yX1_marksThere, Cond.initialized RX1, Cond.code yX1_marksThere cX1_marksThere 3 (some .int), Cond.fieldLink RX1 9 "DiveChairs$Dive" "marks" "[I", Cond.methodLink RX11 288 yX9_sumOfMarks, Cond.instanceMethod yX9_sumOfMarks, Cond.selects RX9 yX9_sumOfMarks yX9_sumOfMarks]
def wsX11_count_r2 : List Cond := [Cond.code yX9_sumOfMarks cX9_sumOfMarks 3 (some .int), Cond.fieldLink RX9 50 "DiveChairs$State" "panel" "LDiveChairs$Panel;", Cond.methodLink RX9 100 yX5_gather, Cond.instanceMethod yX5_gather, Cond.selects RX5 yX5_gather yX5_gather, Cond.initialized RX5, Cond.code yX5_gather cX5_gather 3 none, Cond.fieldLink RX5 15 "DiveChairs$Panel" "size" "I", Cond.fieldLink RX5 25 "DiveChairs$Dive" "marks" "[I", Cond.methodLink RX5 19 yX1_hasMark, Cond.instanceMethod yX1_hasMark, Cond.selects RX1 yX1_hasMark yX1_hasMark, Cond.code yX1_hasMark cX1_hasMark 2 (some .boolean), Cond.static yX11_within, Cond.initialized RX11, Cond.code yX11_within cX11_within 2 (some .boolean), Cond.methodLink RX5 28 yX5_add, Cond.instanceMethod yX5_add, Cond.selects RX5 yX5_add yX5_add, Cond.code yX5_add cX5_add 3 none, Cond.fieldLink RX5 9 "DiveChairs$Panel" "sorted" "[I", Cond.methodLink RX9 103 yX5_sumBetween, Cond.instanceMethod yX5_sumBetween, Cond.selects RX5 yX5_sumBetween yX5_sumBetween]
def wsX11_count_r3 : List Cond := [Cond.code yX5_sumBetween cX5_sumBetween 5 (some .int), Cond.methodLink RX11 291 yX9_seatsTaken, Cond.instanceMethod yX9_seatsTaken, Cond.selects RX9 yX9_seatsTaken yX9_seatsTaken, Cond.code yX9_seatsTaken cX9_seatsTaken 3 (some .int), Cond.fieldLink RX9 21 "DiveChairs$State" "seats" "[I", Cond.methodLink RX11 57 yX11_within]
def wsX11_count : List Cond := .code yX11_count cX11_count 2 (some .int) :: ((wsX11_count_r1 ++ (wsX11_count_r2 ++ wsX11_count_r3)) ++ wsX110 ++ wsX90 ++ wsX60 ++ wsX10 ++ wsX50)
def wsX11_keep_r1 : List Cond := [Cond.fieldLink RX11 10 "DiveChairs" "now" "LDiveChairs$State;", Cond.methodLink RX11 135 yX11_shelfAt, Cond.instanceMethod yX11_shelfAt, Cond.selects RX11 yX11_shelfAt yX11_shelfAt, Cond.initialized RX11, Cond.code yX11_shelfAt cX11_shelfAt 2 (some (.object "DiveChairs$Shelf")), Cond.fieldLink RX11 24 "DiveChairs" "shelves" "[LDiveChairs$Shelf;", Cond.methodLink RX11 57 yX11_within, Cond.static yX11_within, Cond.code yX11_within cX11_within 2 (some .boolean), Cond.methodLink RX11 297 yX8_clear, Cond.instanceMethod yX8_clear, Cond.selects RX8 yX8_clear yX8_clear, Cond.initialized RX8, Cond.code yX8_clear cX8_clear 1 none, Cond.fieldLink RX8 15 "DiveChairs$Shelf" "judge" "LDiveChairs$Judge;", Cond.fieldLink RX8 19 "DiveChairs$Shelf" "isRow" "Z", Cond.fieldLink RX8 23 "DiveChairs$Shelf" "size" "I", Cond.methodLink RX11 300 yX9_judgeAt, Cond.instanceMethod yX9_judgeAt, Cond.selects RX9 yX9_judgeAt yX9_judgeAt, Cond.initialized RX9, Cond.code yX9_judgeAt cX9_judgeAt 2 (some (.object "DiveChairs$Judge")), Cond.fieldLink RX9 69 "DiveChairs$State" "judges" "I"]
def wsX11_keep_r2 : List Cond := [Cond.fieldLink RX9 33 "DiveChairs$State" "judgesMade" "[LDiveChairs$Judge;", Cond.methodLink RX11 304 yX8_holdJudge, Cond.instanceMethod yX8_holdJudge, Cond.selects RX8 yX8_holdJudge yX8_holdJudge, Cond.code yX8_holdJudge cX8_holdJudge 2 none, Cond.methodLink RX8 27 yX8_clear]
def wsX11_keep : List Cond := .code yX11_keep cX11_keep 6 (some .int) :: ((wsX11_keep_r1 ++ wsX11_keep_r2) ++ wsX110 ++ wsX80 ++ wsX90)
def wsX11_row : List Cond := .code yX11_row cX11_row 5 (some .int) :: ([.methodLink RX11 135 yX11_shelfAt, .instanceMethod yX11_shelfAt, .selects RX11 yX11_shelfAt yX11_shelfAt, .initialized RX11, .code yX11_shelfAt cX11_shelfAt 2 (some (.object "DiveChairs$Shelf")), .fieldLink RX11 24 "DiveChairs" "shelves" "[LDiveChairs$Shelf;", .methodLink RX11 57 yX11_within, .static yX11_within, .code yX11_within cX11_within 2 (some .boolean), .methodLink RX11 308 yX8_holdRow, .instanceMethod yX8_holdRow, .selects RX8 yX8_holdRow yX8_holdRow, .initialized RX8, .code yX8_holdRow cX8_holdRow 4 none, .fieldLink RX8 19 "DiveChairs$Shelf" "isRow" "Z", .fieldLink RX8 30 "DiveChairs$Shelf" "sort" "I", .fieldLink RX8 23 "DiveChairs$Shelf" "size" "I", .fieldLink RX8 9 "DiveChairs$Shelf" "elements" "[I", .methodLink RX8 27 yX8_clear, .instanceMethod yX8_clear, .selects RX8 yX8_clear yX8_clear, .code yX8_clear cX8_clear 1 none, .fieldLink RX8 15 "DiveChairs$Shelf" "judge" "LDiveChairs$Judge;"] ++ wsX110 ++ wsX80)
def wsX11_put : List Cond := .code yX11_put cX11_put 6 (some .int) :: ([.fieldLink RX11 146 "DiveChairs$Shelf" "size" "I", .fieldLink RX11 149 "DiveChairs$Shelf" "elements" "[I", .methodLink RX11 135 yX11_shelfAt, .instanceMethod yX11_shelfAt, .selects RX11 yX11_shelfAt yX11_shelfAt, .initialized RX11, .code yX11_shelfAt cX11_shelfAt 2 (some (.object "DiveChairs$Shelf")), .fieldLink RX11 24 "DiveChairs" "shelves" "[LDiveChairs$Shelf;", .methodLink RX11 57 yX11_within, .static yX11_within, .code yX11_within cX11_within 2 (some .boolean), .methodLink RX11 312 yX8_refusalAsRow, .instanceMethod yX8_refusalAsRow, .selects RX8 yX8_refusalAsRow yX8_refusalAsRow, .initialized RX8, .code yX8_refusalAsRow cX8_refusalAsRow 1 (some .int), .fieldLink RX8 19 "DiveChairs$Shelf" "isRow" "Z", .fieldLink RX8 15 "DiveChairs$Shelf" "judge" "LDiveChairs$Judge;", .methodLink RX11 315 yX8_lowestBits, .instanceMethod yX8_lowestBits, .selects RX8 yX8_lowestBits yX8_lowestBits, .code yX8_lowestBits cX8_lowestBits 2 (some .int), .fieldLink RX8 30 "DiveChairs$Shelf" "sort" "I"] ++ wsX80 ++ wsX110)
def wsX11_element : List Cond := .code yX11_element cX11_element 4 (some .long) :: ([.classLink RX11 318 "java/lang/IllegalArgumentException", .initialized "java/lang/IllegalArgumentException", .classLink RX11 325 "java/lang/IllegalStateException", .initialized "java/lang/IllegalStateException", .fieldLink RX11 146 "DiveChairs$Shelf" "size" "I", .fieldLink RX11 149 "DiveChairs$Shelf" "elements" "[I", .methodLink RX11 135 yX11_shelfAt, .instanceMethod yX11_shelfAt, .selects RX11 yX11_shelfAt yX11_shelfAt, .initialized RX11, .code yX11_shelfAt cX11_shelfAt 2 (some (.object "DiveChairs$Shelf")), .fieldLink RX11 24 "DiveChairs" "shelves" "[LDiveChairs$Shelf;", .methodLink RX11 57 yX11_within, .static yX11_within, .code yX11_within cX11_within 2 (some .boolean), .methodLink RX11 312 yX8_refusalAsRow, .instanceMethod yX8_refusalAsRow, .selects RX8 yX8_refusalAsRow yX8_refusalAsRow, .initialized RX8, .code yX8_refusalAsRow cX8_refusalAsRow 1 (some .int), .fieldLink RX8 19 "DiveChairs$Shelf" "isRow" "Z", .fieldLink RX8 15 "DiveChairs$Shelf" "judge" "LDiveChairs$Judge;"] ++ wsX80 ++ wsX110 ++ (vx_atS RX11 322 "java/lang/IllegalArgumentException" ["java/lang/RuntimeException", "java/lang/Exception"]).filter goodWord ++ (vx_atS RX11 329 "java/lang/IllegalStateException" ["java/lang/RuntimeException", "java/lang/Exception"]).filter goodWord)
def wsX11_copy_r1 : List Cond := [Cond.fieldLink RX11 333 "DiveChairs$Shelf" "sort" "I", Cond.fieldLink RX11 149 "DiveChairs$Shelf" "elements" "[I", Cond.methodLink RX11 339 arraycopyName, Cond.native arraycopyName, Cond.static arraycopyName, Cond.initialized "java/lang/System", Cond.methodLink RX11 135 yX11_shelfAt, Cond.instanceMethod yX11_shelfAt, Cond.selects RX11 yX11_shelfAt yX11_shelfAt, Cond.initialized RX11, Cond.code yX11_shelfAt cX11_shelfAt 2 (some (.object "DiveChairs$Shelf")), Cond.fieldLink RX11 24 "DiveChairs" "shelves" "[LDiveChairs$Shelf;", Cond.methodLink RX11 57 yX11_within, Cond.static yX11_within, Cond.code yX11_within cX11_within 2 (some .boolean), Cond.methodLink RX11 330 yX8_holdsNothing, Cond.instanceMethod yX8_holdsNothing, Cond.selects RX8 yX8_holdsNothing yX8_holdsNothing, Cond.initialized RX8, Cond.code yX8_holdsNothing cX8_holdsNothing 1 (some .boolean), Cond.fieldLink RX8 15 "DiveChairs$Shelf" "judge" "LDiveChairs$Judge;", Cond.fieldLink RX8 19 "DiveChairs$Shelf" "isRow" "Z", Cond.methodLink RX11 312 yX8_refusalAsRow, Cond.instanceMethod yX8_refusalAsRow]
def wsX11_copy_r2 : List Cond := [Cond.selects RX8 yX8_refusalAsRow yX8_refusalAsRow, Cond.code yX8_refusalAsRow cX8_refusalAsRow 1 (some .int), Cond.methodLink RX11 336 yX8_hasPlaces, Cond.instanceMethod yX8_hasPlaces, Cond.selects RX8 yX8_hasPlaces yX8_hasPlaces, Cond.code yX8_hasPlaces cX8_hasPlaces 3 (some .boolean), Cond.fieldLink RX8 23 "DiveChairs$Shelf" "size" "I"]
def wsX11_copy : List Cond := .code yX11_copy cX11_copy 8 (some .int) :: ((wsX11_copy_r1 ++ wsX11_copy_r2) ++ wsX80 ++ wsX110)
def wsX11_weight_r1 : List Cond := [Cond.fieldLink RX11 345 "DiveChairs$Shelf" "judge" "LDiveChairs$Judge;", Cond.methodLink RX11 135 yX11_shelfAt, Cond.instanceMethod yX11_shelfAt, Cond.selects RX11 yX11_shelfAt yX11_shelfAt, Cond.initialized RX11, Cond.code yX11_shelfAt cX11_shelfAt 2 (some (.object "DiveChairs$Shelf")), Cond.fieldLink RX11 24 "DiveChairs" "shelves" "[LDiveChairs$Shelf;", Cond.methodLink RX11 57 yX11_within, Cond.static yX11_within, Cond.code yX11_within cX11_within 2 (some .boolean), Cond.methodLink RX11 349 yX8_refusalAsJudge, Cond.instanceMethod yX8_refusalAsJudge, Cond.selects RX8 yX8_refusalAsJudge yX8_refusalAsJudge, Cond.initialized RX8, Cond.code yX8_refusalAsJudge cX8_refusalAsJudge 1 (some .int), Cond.fieldLink RX8 19 "DiveChairs$Shelf" "isRow" "Z", Cond.methodLink RX11 352 yX2_heft, Cond.instanceMethod yX2_heft, Cond.selects RX2 yX2_heft yX2_heft, Cond.initialized RX2, Cond.code yX2_heft cX2_heft 2 (some .int), Cond.fieldLink RX2 18 "DiveChairs$Judge" "land" "I", Cond.fieldLink RX2 15 "DiveChairs$Judge" "kind" "I", Cond.fieldLink RX2 21 "DiveChairs$Judge" "leaning" "I"]
def wsX11_weight_r2 : List Cond := [Cond.fieldLink RX2 24 "DiveChairs$Judge" "partner" "I"]
def wsX11_weight : List Cond := .code yX11_weight cX11_weight 3 (some .int) :: ((wsX11_weight_r1 ++ wsX11_weight_r2) ++ wsX80 ++ wsX110 ++ wsX20)
def wsX11_fails : List Cond := .codeWith yX11_fails cX11_fails 2 (some .boolean) [(0, 5, 6, 325)] :: ([.classLink RX11 325 "java/lang/IllegalStateException", .methodLink RX11 364 yX2_throwFailure, .instanceMethod yX2_throwFailure, .selects RX2 yX2_throwFailure yX2_throwFailure, .initialized RX2, .code yX2_throwFailure cX2_throwFailure 2 none, .classLink RX2 34 "java/lang/IllegalStateException", .initialized "java/lang/IllegalStateException", .fieldLink RX2 15 "DiveChairs$Judge" "kind" "I", .fieldLink RX2 21 "DiveChairs$Judge" "leaning" "I"] ++ wsX20 ++ (vx_atS RX2 38 "java/lang/IllegalStateException" ["java/lang/RuntimeException", "java/lang/Exception"]).filter goodWord)
def wsX11_toss_r1 : List Cond := [Cond.fieldLink RX11 345 "DiveChairs$Shelf" "judge" "LDiveChairs$Judge;", Cond.methodLink RX11 135 yX11_shelfAt, Cond.instanceMethod yX11_shelfAt, Cond.selects RX11 yX11_shelfAt yX11_shelfAt, Cond.initialized RX11, Cond.code yX11_shelfAt cX11_shelfAt 2 (some (.object "DiveChairs$Shelf")), Cond.fieldLink RX11 24 "DiveChairs" "shelves" "[LDiveChairs$Shelf;", Cond.methodLink RX11 57 yX11_within, Cond.static yX11_within, Cond.code yX11_within cX11_within 2 (some .boolean), Cond.methodLink RX11 349 yX8_refusalAsJudge, Cond.instanceMethod yX8_refusalAsJudge, Cond.selects RX8 yX8_refusalAsJudge yX8_refusalAsJudge, Cond.initialized RX8, Cond.code yX8_refusalAsJudge cX8_refusalAsJudge 1 (some .int), Cond.fieldLink RX8 19 "DiveChairs$Shelf" "isRow" "Z", Cond.methodLink RX11 357 yX11_fails, Cond.static yX11_fails, Cond.codeWith yX11_fails cX11_fails 2 (some .boolean) [(0, 5, 6, 325)], Cond.classLink RX11 325 "java/lang/IllegalStateException", Cond.methodLink RX11 364 yX2_throwFailure, Cond.instanceMethod yX2_throwFailure, Cond.selects RX2 yX2_throwFailure yX2_throwFailure, Cond.initialized RX2]
def wsX11_toss_r2 : List Cond := [Cond.code yX2_throwFailure cX2_throwFailure 2 none, Cond.classLink RX2 34 "java/lang/IllegalStateException", Cond.initialized "java/lang/IllegalStateException", Cond.fieldLink RX2 15 "DiveChairs$Judge" "kind" "I", Cond.fieldLink RX2 21 "DiveChairs$Judge" "leaning" "I", Cond.methodLink RX11 361 yX2_failureNumber, Cond.instanceMethod yX2_failureNumber, Cond.selects RX2 yX2_failureNumber yX2_failureNumber, Cond.code yX2_failureNumber cX2_failureNumber 1 (some .int), Cond.fieldLink RX2 9 "DiveChairs$Judge" "number" "I", Cond.fieldLink RX2 24 "DiveChairs$Judge" "partner" "I"]
def wsX11_toss : List Cond := .code yX11_toss cX11_toss 3 (some .int) :: ((wsX11_toss_r1 ++ wsX11_toss_r2) ++ wsX80 ++ wsX110 ++ wsX20 ++ (vx_atS RX2 38 "java/lang/IllegalStateException" ["java/lang/RuntimeException", "java/lang/Exception"]).filter goodWord)
def wsX12_init : List Cond := .code yX12_init cX12_init 2 none :: ([.methodLink RX12 1 objectInit, .instanceMethod objectInit, .code objectInit ⟨#[0xb1]⟩ 1 none, .arrayClass .int, .fieldLink RX12 9 "DiveChairsModel" "s" "[I", .fieldLink RX12 13 "DiveChairsModel" "image" "[I", .fieldLink RX12 16 "DiveChairsModel" "kept" "[I", .fieldLink RX12 19 "DiveChairsModel" "sort" "[I", .fieldLink RX12 22 "DiveChairsModel" "size" "[I", .fieldLink RX12 25 "DiveChairsModel" "element" "[I", .fieldLink RX12 28 "DiveChairsModel" "keptWeight" "[I", .fieldLink RX12 31 "DiveChairsModel" "keptToss" "[I", .fieldLink RX12 34 "DiveChairsModel" "row" "[I", .fieldLink RX12 37 "DiveChairsModel" "text" "[I", .fieldLink RX12 40 "DiveChairsModel" "without" "I", .fieldLink RX12 44 "DiveChairsModel" "mover" "I", .fieldLink RX12 47 "DiveChairsModel" "sums" "[I", .fieldLink RX12 50 "DiveChairsModel" "lands" "[I", .arrayClass .boolean, .fieldLink RX12 53 "DiveChairsModel" "together" "[Z", .fieldLink RX12 57 "DiveChairsModel" "counted" "[I", .fieldLink RX12 60 "DiveChairsModel" "orderOf" "[I", .fieldLink RX12 63 "DiveChairsModel" "saved" "[I"] ++ wsX120)
def wsX12_thrown : List Cond := .code yX12_thrown cX12_thrown 1 (some .int) :: ([.fieldLink RX12 66 "DiveChairsModel" "thrown" "I"] ++ wsX120)
def wsX12_isIn : List Cond := .code yX12_isIn cX12_isIn 6 (some .boolean) :: ([])
def wsX12_isDiver : List Cond := .code yX12_isDiver cX12_isDiver 2 (some .boolean) :: ([.fieldLink RX12 9 "DiveChairsModel" "s" "[I", .methodLink RX12 69 yX12_isIn, .static yX12_isIn, .initialized RX12, .code yX12_isIn cX12_isIn 6 (some .boolean)] ++ wsX120)
def wsX12_isJudge : List Cond := .code yX12_isJudge cX12_isJudge 2 (some .boolean) :: ([.fieldLink RX12 9 "DiveChairsModel" "s" "[I", .methodLink RX12 69 yX12_isIn, .static yX12_isIn, .initialized RX12, .code yX12_isIn cX12_isIn 6 (some .boolean)] ++ wsX120)
def wsX12_isDive : List Cond := .code yX12_isDive cX12_isDive 2 (some .boolean) :: ([.fieldLink RX12 9 "DiveChairsModel" "s" "[I", .methodLink RX12 69 yX12_isIn, .static yX12_isIn, .initialized RX12, .code yX12_isIn cX12_isIn 6 (some .boolean)] ++ wsX120)
def wsX12_isHall : List Cond := .code yX12_isHall cX12_isHall 1 (some .boolean) :: ([.constantLong RX12 73 (5), .methodLink RX12 69 yX12_isIn, .static yX12_isIn, .initialized RX12, .code yX12_isIn cX12_isIn 6 (some .boolean)])
def wsX12_isChair : List Cond := .code yX12_isChair cX12_isChair 1 (some .boolean) :: ([.constantLong RX12 75 (6), .methodLink RX12 69 yX12_isIn, .static yX12_isIn, .initialized RX12, .code yX12_isIn cX12_isIn 6 (some .boolean)])
def wsX12_isShelf : List Cond := .code yX12_isShelf cX12_isShelf 1 (some .boolean) :: ([.constantLong RX12 77 (7), .methodLink RX12 69 yX12_isIn, .static yX12_isIn, .initialized RX12, .code yX12_isIn cX12_isIn 6 (some .boolean)])
def wsX12_get : List Cond := .code yX12_get cX12_get 3 (some .int) :: ([.fieldLink RX12 9 "DiveChairsModel" "s" "[I"] ++ wsX120)
def wsX12_becomes : List Cond := .code yX12_becomes cX12_becomes 4 (some .int) :: ([.fieldLink RX12 9 "DiveChairsModel" "s" "[I"] ++ wsX120)
def wsX12_diver : List Cond := .code yX12_diver cX12_diver 3 (some .int) :: ([.constantLong RX12 73 (5), .constantLong RX12 79 (9), .fieldLink RX12 9 "DiveChairsModel" "s" "[I", .methodLink RX12 69 yX12_isIn, .static yX12_isIn, .initialized RX12, .code yX12_isIn cX12_isIn 6 (some .boolean)] ++ wsX120)
def wsX12_judge : List Cond := .code yX12_judge cX12_judge 4 (some .int) :: ([.constantLong RX12 77 (7), .constantLong RX12 81 (599), .fieldLink RX12 9 "DiveChairsModel" "s" "[I", .methodLink RX12 69 yX12_isIn, .static yX12_isIn, .initialized RX12, .code yX12_isIn cX12_isIn 6 (some .boolean)] ++ wsX120)
def wsX12_year : List Cond := .code yX12_year cX12_year 3 (some .int) :: ([.constantLong RX12 87 (40), .methodLink RX12 83 yX12_isHall, .static yX12_isHall, .initialized RX12, .code yX12_isHall cX12_isHall 1 (some .boolean), .constantLong RX12 73 (5), .methodLink RX12 69 yX12_isIn, .static yX12_isIn, .code yX12_isIn cX12_isIn 6 (some .boolean), .methodLink RX12 89 yX12_becomes, .instanceMethod yX12_becomes, .selects RX12 yX12_becomes yX12_becomes, .code yX12_becomes cX12_becomes 4 (some .int), .fieldLink RX12 9 "DiveChairsModel" "s" "[I"] ++ wsX120)
def wsX12_onChair : List Cond := .code yX12_onChair cX12_onChair 3 (some .int) :: ([.fieldLink RX12 9 "DiveChairsModel" "s" "[I"] ++ wsX120)
def wsX12_chair_r1 : List Cond := [Cond.methodLink RX12 83 yX12_isHall, Cond.static yX12_isHall, Cond.initialized RX12, Cond.code yX12_isHall cX12_isHall 1 (some .boolean), Cond.constantLong RX12 73 (5), Cond.methodLink RX12 69 yX12_isIn, Cond.static yX12_isIn, Cond.code yX12_isIn cX12_isIn 6 (some .boolean), Cond.methodLink RX12 93 yX12_isChair, Cond.static yX12_isChair, Cond.code yX12_isChair cX12_isChair 1 (some .boolean), Cond.constantLong RX12 75 (6), Cond.methodLink RX12 96 yX12_isJudge, Cond.instanceMethod yX12_isJudge, Cond.selects RX12 yX12_isJudge yX12_isJudge, Cond.code yX12_isJudge cX12_isJudge 2 (some .boolean), Cond.fieldLink RX12 9 "DiveChairsModel" "s" "[I", Cond.methodLink RX12 99 yX12_onChair, Cond.instanceMethod yX12_onChair, Cond.selects RX12 yX12_onChair yX12_onChair, Cond.code yX12_onChair cX12_onChair 3 (some .int), Cond.methodLink RX12 89 yX12_becomes, Cond.instanceMethod yX12_becomes, Cond.selects RX12 yX12_becomes yX12_becomes]
def wsX12_chair_r2 : List Cond := [Cond.code yX12_becomes cX12_becomes 4 (some .int)]
def wsX12_chair : List Cond := .code yX12_chair cX12_chair 5 (some .int) :: ((wsX12_chair_r1 ++ wsX12_chair_r2) ++ wsX120)
def wsX12_dive : List Cond := .code yX12_dive cX12_dive 7 (some .int) :: ([.constantLong RX12 105 (63), .constantLong RX12 107 (1000), .constantLong RX12 109 (4099), .fieldLink RX12 9 "DiveChairsModel" "s" "[I", .methodLink RX12 83 yX12_isHall, .static yX12_isHall, .initialized RX12, .code yX12_isHall cX12_isHall 1 (some .boolean), .constantLong RX12 73 (5), .methodLink RX12 69 yX12_isIn, .static yX12_isIn, .code yX12_isIn cX12_isIn 6 (some .boolean), .methodLink RX12 102 yX12_isDiver, .instanceMethod yX12_isDiver, .selects RX12 yX12_isDiver yX12_isDiver, .code yX12_isDiver cX12_isDiver 2 (some .boolean)] ++ wsX120)
def wsX12_worth : List Cond := .code yX12_worth cX12_worth 4 (some .int) :: ([.fieldLink RX12 9 "DiveChairsModel" "s" "[I", .methodLink RX12 111 yX12_get, .instanceMethod yX12_get, .selects RX12 yX12_get yX12_get, .initialized RX12, .code yX12_get cX12_get 3 (some .int)] ++ wsX120)
def wsX12_marksOf : List Cond := .code yX12_marksOf cX12_marksOf 4 (some .int) :: ([.methodLink RX12 111 yX12_get, .instanceMethod yX12_get, .selects RX12 yX12_get yX12_get, .initialized RX12, .code yX12_get cX12_get 3 (some .int), .fieldLink RX12 9 "DiveChairsModel" "s" "[I"] ++ wsX120)
def wsX12_of : List Cond := .code yX12_of cX12_of 3 (some .int) :: ([.constantLong RX12 75 (6), .methodLink RX12 114 yX12_isDive, .instanceMethod yX12_isDive, .selects RX12 yX12_isDive yX12_isDive, .initialized RX12, .code yX12_isDive cX12_isDive 2 (some .boolean), .fieldLink RX12 9 "DiveChairsModel" "s" "[I", .methodLink RX12 69 yX12_isIn, .static yX12_isIn, .code yX12_isIn cX12_isIn 6 (some .boolean), .methodLink RX12 111 yX12_get, .instanceMethod yX12_get, .selects RX12 yX12_get yX12_get, .code yX12_get cX12_get 3 (some .int), .methodLink RX12 117 yX12_worth, .instanceMethod yX12_worth, .selects RX12 yX12_worth yX12_worth, .code yX12_worth cX12_worth 4 (some .int), .methodLink RX12 121 yX12_marksOf, .instanceMethod yX12_marksOf, .selects RX12 yX12_marksOf yX12_marksOf, .code yX12_marksOf cX12_marksOf 4 (some .int)] ++ wsX120)
def wsX12_isSeen : List Cond := .code yX12_isSeen cX12_isSeen 3 (some .boolean) :: ([])
def wsX12_seen : List Cond := .code yX12_seen cX12_seen 4 (some .int) :: ([.constantLong RX12 73 (5), .constantLong RX12 79 (9), .methodLink RX12 69 yX12_isIn, .static yX12_isIn, .initialized RX12, .code yX12_isIn cX12_isIn 6 (some .boolean), .methodLink RX12 93 yX12_isChair, .static yX12_isChair, .code yX12_isChair cX12_isChair 1 (some .boolean), .constantLong RX12 75 (6), .methodLink RX12 124 yX12_isSeen, .static yX12_isSeen, .code yX12_isSeen cX12_isSeen 3 (some .boolean)])
def wsX12_lessOff : List Cond := .code yX12_lessOff cX12_lessOff 6 (some .int) :: ([.fieldLink RX12 9 "DiveChairsModel" "s" "[I", .methodLink RX12 111 yX12_get, .instanceMethod yX12_get, .selects RX12 yX12_get yX12_get, .initialized RX12, .code yX12_get cX12_get 3 (some .int), .methodLink RX12 124 yX12_isSeen, .static yX12_isSeen, .code yX12_isSeen cX12_isSeen 3 (some .boolean)] ++ wsX120)
def wsX12_aheadOf : List Cond := .code yX12_aheadOf cX12_aheadOf 3 (some .int) :: ([.methodLink RX12 111 yX12_get, .instanceMethod yX12_get, .selects RX12 yX12_get yX12_get, .initialized RX12, .code yX12_get cX12_get 3 (some .int), .fieldLink RX12 9 "DiveChairsModel" "s" "[I"] ++ wsX120)
def wsX12_held : List Cond := .code yX12_held cX12_held 1 (some .int) :: ([])
def wsX12_comes : List Cond := .code yX12_comes cX12_comes 3 none :: ([.fieldLink RX12 128 "DiveChairsModel" "rowed" "I", .fieldLink RX12 34 "DiveChairsModel" "row" "[I"] ++ wsX120)
def wsX12_middleWould_r1 : List Cond := [Cond.fieldLink RX12 128 "DiveChairsModel" "rowed" "I", Cond.fieldLink RX12 9 "DiveChairsModel" "s" "[I", Cond.fieldLink RX12 34 "DiveChairsModel" "row" "[I", Cond.methodLink RX12 111 yX12_get, Cond.instanceMethod yX12_get, Cond.selects RX12 yX12_get yX12_get, Cond.initialized RX12, Cond.code yX12_get cX12_get 3 (some .int), Cond.methodLink RX12 99 yX12_onChair, Cond.instanceMethod yX12_onChair, Cond.selects RX12 yX12_onChair yX12_onChair, Cond.code yX12_onChair cX12_onChair 3 (some .int), Cond.methodLink RX12 131 yX12_wouldOf, Cond.instanceMethod yX12_wouldOf, Cond.selects RX12 yX12_wouldOf yX12_wouldOf, Cond.methodLink RX12 134 yX12_comes, Cond.instanceMethod yX12_comes, Cond.selects RX12 yX12_comes yX12_comes, Cond.code yX12_comes cX12_comes 3 none, Cond.code yX12_wouldOf cX12_wouldOf 8 (some .int), Cond.methodLink RX12 138 yX12_lessOff, Cond.instanceMethod yX12_lessOff, Cond.selects RX12 yX12_lessOff yX12_lessOff, Cond.code yX12_lessOff cX12_lessOff 6 (some .int)]
def wsX12_middleWould_r2 : List Cond := [Cond.methodLink RX12 124 yX12_isSeen, Cond.static yX12_isSeen, Cond.code yX12_isSeen cX12_isSeen 3 (some .boolean), Cond.methodLink RX12 142 yX12_held, Cond.static yX12_held, Cond.code yX12_held cX12_held 1 (some .int), Cond.methodLink RX12 145 yX12_aheadOf, Cond.instanceMethod yX12_aheadOf, Cond.selects RX12 yX12_aheadOf yX12_aheadOf, Cond.code yX12_aheadOf cX12_aheadOf 3 (some .int), Cond.methodLink RX12 117 yX12_worth, Cond.instanceMethod yX12_worth, Cond.selects RX12 yX12_worth yX12_worth, Cond.code yX12_worth cX12_worth 4 (some .int), Cond.methodLink RX12 148 yX12_middleWould, Cond.instanceMethod yX12_middleWould, Cond.selects RX12 yX12_middleWould yX12_middleWould]
def wsX12_middleWould : List Cond := .code yX12_middleWould cX12_middleWould 4 (some .int) :: ((wsX12_middleWould_r1 ++ wsX12_middleWould_r2) ++ wsX120)
def wsX12_wouldOf_r1 : List Cond := [Cond.fieldLink RX12 9 "DiveChairsModel" "s" "[I", Cond.methodLink RX12 111 yX12_get, Cond.instanceMethod yX12_get, Cond.selects RX12 yX12_get yX12_get, Cond.initialized RX12, Cond.code yX12_get cX12_get 3 (some .int), Cond.methodLink RX12 99 yX12_onChair, Cond.instanceMethod yX12_onChair, Cond.selects RX12 yX12_onChair yX12_onChair, Cond.code yX12_onChair cX12_onChair 3 (some .int), Cond.methodLink RX12 138 yX12_lessOff, Cond.instanceMethod yX12_lessOff, Cond.selects RX12 yX12_lessOff yX12_lessOff, Cond.code yX12_lessOff cX12_lessOff 6 (some .int), Cond.methodLink RX12 124 yX12_isSeen, Cond.static yX12_isSeen, Cond.code yX12_isSeen cX12_isSeen 3 (some .boolean), Cond.methodLink RX12 142 yX12_held, Cond.static yX12_held, Cond.code yX12_held cX12_held 1 (some .int), Cond.methodLink RX12 145 yX12_aheadOf, Cond.instanceMethod yX12_aheadOf, Cond.selects RX12 yX12_aheadOf yX12_aheadOf, Cond.code yX12_aheadOf cX12_aheadOf 3 (some .int)]
def wsX12_wouldOf_r2 : List Cond := [Cond.methodLink RX12 117 yX12_worth, Cond.instanceMethod yX12_worth, Cond.selects RX12 yX12_worth yX12_worth, Cond.code yX12_worth cX12_worth 4 (some .int), Cond.methodLink RX12 148 yX12_middleWould, Cond.instanceMethod yX12_middleWould, Cond.selects RX12 yX12_middleWould yX12_middleWould, Cond.code yX12_middleWould cX12_middleWould 4 (some .int), Cond.fieldLink RX12 128 "DiveChairsModel" "rowed" "I", Cond.fieldLink RX12 34 "DiveChairsModel" "row" "[I", Cond.methodLink RX12 131 yX12_wouldOf, Cond.instanceMethod yX12_wouldOf, Cond.selects RX12 yX12_wouldOf yX12_wouldOf, Cond.methodLink RX12 134 yX12_comes, Cond.instanceMethod yX12_comes, Cond.selects RX12 yX12_comes yX12_comes, Cond.code yX12_comes cX12_comes 3 none]
def wsX12_wouldOf : List Cond := .code yX12_wouldOf cX12_wouldOf 8 (some .int) :: ((wsX12_wouldOf_r1 ++ wsX12_wouldOf_r2) ++ wsX120)
def wsX12_would_r1 : List Cond := [Cond.methodLink RX12 114 yX12_isDive, Cond.instanceMethod yX12_isDive, Cond.selects RX12 yX12_isDive yX12_isDive, Cond.initialized RX12, Cond.code yX12_isDive cX12_isDive 2 (some .boolean), Cond.fieldLink RX12 9 "DiveChairsModel" "s" "[I", Cond.methodLink RX12 69 yX12_isIn, Cond.static yX12_isIn, Cond.code yX12_isIn cX12_isIn 6 (some .boolean), Cond.methodLink RX12 93 yX12_isChair, Cond.static yX12_isChair, Cond.code yX12_isChair cX12_isChair 1 (some .boolean), Cond.constantLong RX12 75 (6), Cond.methodLink RX12 111 yX12_get, Cond.instanceMethod yX12_get, Cond.selects RX12 yX12_get yX12_get, Cond.code yX12_get cX12_get 3 (some .int), Cond.methodLink RX12 99 yX12_onChair, Cond.instanceMethod yX12_onChair, Cond.selects RX12 yX12_onChair yX12_onChair, Cond.code yX12_onChair cX12_onChair 3 (some .int), Cond.methodLink RX12 131 yX12_wouldOf, Cond.instanceMethod yX12_wouldOf, Cond.selects RX12 yX12_wouldOf yX12_wouldOf]
def wsX12_would_r2 : List Cond := [Cond.code yX12_wouldOf cX12_wouldOf 8 (some .int), Cond.methodLink RX12 138 yX12_lessOff, Cond.instanceMethod yX12_lessOff, Cond.selects RX12 yX12_lessOff yX12_lessOff, Cond.code yX12_lessOff cX12_lessOff 6 (some .int), Cond.methodLink RX12 124 yX12_isSeen, Cond.static yX12_isSeen, Cond.code yX12_isSeen cX12_isSeen 3 (some .boolean), Cond.methodLink RX12 142 yX12_held, Cond.static yX12_held, Cond.code yX12_held cX12_held 1 (some .int), Cond.methodLink RX12 145 yX12_aheadOf, Cond.instanceMethod yX12_aheadOf, Cond.selects RX12 yX12_aheadOf yX12_aheadOf, Cond.code yX12_aheadOf cX12_aheadOf 3 (some .int), Cond.methodLink RX12 117 yX12_worth, Cond.instanceMethod yX12_worth, Cond.selects RX12 yX12_worth yX12_worth, Cond.code yX12_worth cX12_worth 4 (some .int), Cond.methodLink RX12 148 yX12_middleWould, Cond.instanceMethod yX12_middleWould, Cond.selects RX12 yX12_middleWould yX12_middleWould, Cond.code yX12_middleWould cX12_middleWould 4 (some .int), Cond.fieldLink RX12 128 "DiveChairsModel" "rowed" "I"]
def wsX12_would_r3 : List Cond := [Cond.fieldLink RX12 34 "DiveChairsModel" "row" "[I", Cond.methodLink RX12 134 yX12_comes, Cond.instanceMethod yX12_comes, Cond.selects RX12 yX12_comes yX12_comes, Cond.code yX12_comes cX12_comes 3 none]
def wsX12_would : List Cond := .code yX12_would cX12_would 3 (some .int) :: ((wsX12_would_r1 ++ (wsX12_would_r2 ++ wsX12_would_r3)) ++ wsX120)
def wsX12_marksAs_r1 : List Cond := [Cond.fieldLink RX12 9 "DiveChairsModel" "s" "[I", Cond.methodLink RX12 111 yX12_get, Cond.instanceMethod yX12_get, Cond.selects RX12 yX12_get yX12_get, Cond.initialized RX12, Cond.code yX12_get cX12_get 3 (some .int), Cond.methodLink RX12 99 yX12_onChair, Cond.instanceMethod yX12_onChair, Cond.selects RX12 yX12_onChair yX12_onChair, Cond.code yX12_onChair cX12_onChair 3 (some .int), Cond.methodLink RX12 131 yX12_wouldOf, Cond.instanceMethod yX12_wouldOf, Cond.selects RX12 yX12_wouldOf yX12_wouldOf, Cond.code yX12_wouldOf cX12_wouldOf 8 (some .int), Cond.methodLink RX12 138 yX12_lessOff, Cond.instanceMethod yX12_lessOff, Cond.selects RX12 yX12_lessOff yX12_lessOff, Cond.code yX12_lessOff cX12_lessOff 6 (some .int), Cond.methodLink RX12 124 yX12_isSeen, Cond.static yX12_isSeen, Cond.code yX12_isSeen cX12_isSeen 3 (some .boolean), Cond.methodLink RX12 142 yX12_held, Cond.static yX12_held, Cond.code yX12_held cX12_held 1 (some .int)]
def wsX12_marksAs_r2 : List Cond := [Cond.methodLink RX12 145 yX12_aheadOf, Cond.instanceMethod yX12_aheadOf, Cond.selects RX12 yX12_aheadOf yX12_aheadOf, Cond.code yX12_aheadOf cX12_aheadOf 3 (some .int), Cond.methodLink RX12 117 yX12_worth, Cond.instanceMethod yX12_worth, Cond.selects RX12 yX12_worth yX12_worth, Cond.code yX12_worth cX12_worth 4 (some .int), Cond.methodLink RX12 148 yX12_middleWould, Cond.instanceMethod yX12_middleWould, Cond.selects RX12 yX12_middleWould yX12_middleWould, Cond.code yX12_middleWould cX12_middleWould 4 (some .int), Cond.fieldLink RX12 128 "DiveChairsModel" "rowed" "I", Cond.fieldLink RX12 34 "DiveChairsModel" "row" "[I", Cond.methodLink RX12 134 yX12_comes, Cond.instanceMethod yX12_comes, Cond.selects RX12 yX12_comes yX12_comes, Cond.code yX12_comes cX12_comes 3 none]
def wsX12_marksAs : List Cond := .code yX12_marksAs cX12_marksAs 4 none :: ((wsX12_marksAs_r1 ++ wsX12_marksAs_r2) ++ wsX120)
def wsX12_markAll_r1 : List Cond := [Cond.fieldLink RX12 9 "DiveChairsModel" "s" "[I", Cond.methodLink RX12 114 yX12_isDive, Cond.instanceMethod yX12_isDive, Cond.selects RX12 yX12_isDive yX12_isDive, Cond.initialized RX12, Cond.code yX12_isDive cX12_isDive 2 (some .boolean), Cond.methodLink RX12 69 yX12_isIn, Cond.static yX12_isIn, Cond.code yX12_isIn cX12_isIn 6 (some .boolean), Cond.methodLink RX12 151 yX12_marksAs, Cond.instanceMethod yX12_marksAs, Cond.selects RX12 yX12_marksAs yX12_marksAs, Cond.code yX12_marksAs cX12_marksAs 4 none, Cond.methodLink RX12 111 yX12_get, Cond.instanceMethod yX12_get, Cond.selects RX12 yX12_get yX12_get, Cond.code yX12_get cX12_get 3 (some .int), Cond.methodLink RX12 99 yX12_onChair, Cond.instanceMethod yX12_onChair, Cond.selects RX12 yX12_onChair yX12_onChair, Cond.code yX12_onChair cX12_onChair 3 (some .int), Cond.methodLink RX12 131 yX12_wouldOf, Cond.instanceMethod yX12_wouldOf, Cond.selects RX12 yX12_wouldOf yX12_wouldOf]
def wsX12_markAll_r2 : List Cond := [Cond.code yX12_wouldOf cX12_wouldOf 8 (some .int), Cond.methodLink RX12 138 yX12_lessOff, Cond.instanceMethod yX12_lessOff, Cond.selects RX12 yX12_lessOff yX12_lessOff, Cond.code yX12_lessOff cX12_lessOff 6 (some .int), Cond.methodLink RX12 124 yX12_isSeen, Cond.static yX12_isSeen, Cond.code yX12_isSeen cX12_isSeen 3 (some .boolean), Cond.methodLink RX12 142 yX12_held, Cond.static yX12_held, Cond.code yX12_held cX12_held 1 (some .int), Cond.methodLink RX12 145 yX12_aheadOf, Cond.instanceMethod yX12_aheadOf, Cond.selects RX12 yX12_aheadOf yX12_aheadOf, Cond.code yX12_aheadOf cX12_aheadOf 3 (some .int), Cond.methodLink RX12 117 yX12_worth, Cond.instanceMethod yX12_worth, Cond.selects RX12 yX12_worth yX12_worth, Cond.code yX12_worth cX12_worth 4 (some .int), Cond.methodLink RX12 148 yX12_middleWould, Cond.instanceMethod yX12_middleWould, Cond.selects RX12 yX12_middleWould yX12_middleWould, Cond.code yX12_middleWould cX12_middleWould 4 (some .int), Cond.fieldLink RX12 128 "DiveChairsModel" "rowed" "I"]
def wsX12_markAll_r3 : List Cond := [Cond.fieldLink RX12 34 "DiveChairsModel" "row" "[I", Cond.methodLink RX12 134 yX12_comes, Cond.instanceMethod yX12_comes, Cond.selects RX12 yX12_comes yX12_comes, Cond.code yX12_comes cX12_comes 3 none, Cond.methodLink RX12 121 yX12_marksOf, Cond.instanceMethod yX12_marksOf, Cond.selects RX12 yX12_marksOf yX12_marksOf, Cond.code yX12_marksOf cX12_marksOf 4 (some .int)]
def wsX12_markAll : List Cond := .code yX12_markAll cX12_markAll 4 (some .int) :: ((wsX12_markAll_r1 ++ (wsX12_markAll_r2 ++ wsX12_markAll_r3)) ++ wsX120)
def wsX12_wrongRow : List Cond := .code yX12_wrongRow cX12_wrongRow 3 (some .int) :: ([.fieldLink RX12 16 "DiveChairsModel" "kept" "[I", .fieldLink RX12 19 "DiveChairsModel" "sort" "[I", .methodLink RX12 154 yX12_isShelf, .static yX12_isShelf, .initialized RX12, .code yX12_isShelf cX12_isShelf 1 (some .boolean), .constantLong RX12 77 (7), .methodLink RX12 69 yX12_isIn, .static yX12_isIn, .code yX12_isIn cX12_isIn 6 (some .boolean)] ++ wsX120)
def wsX12_marks_r1 : List Cond := [Cond.fieldLink RX12 22 "DiveChairsModel" "size" "[I", Cond.fieldLink RX12 25 "DiveChairsModel" "element" "[I", Cond.constantLong RX12 160 (20), Cond.fieldLink RX12 9 "DiveChairsModel" "s" "[I", Cond.methodLink RX12 114 yX12_isDive, Cond.instanceMethod yX12_isDive, Cond.selects RX12 yX12_isDive yX12_isDive, Cond.initialized RX12, Cond.code yX12_isDive cX12_isDive 2 (some .boolean), Cond.methodLink RX12 69 yX12_isIn, Cond.static yX12_isIn, Cond.code yX12_isIn cX12_isIn 6 (some .boolean), Cond.methodLink RX12 157 yX12_wrongRow, Cond.instanceMethod yX12_wrongRow, Cond.selects RX12 yX12_wrongRow yX12_wrongRow, Cond.code yX12_wrongRow cX12_wrongRow 3 (some .int), Cond.fieldLink RX12 16 "DiveChairsModel" "kept" "[I", Cond.fieldLink RX12 19 "DiveChairsModel" "sort" "[I", Cond.methodLink RX12 154 yX12_isShelf, Cond.static yX12_isShelf, Cond.code yX12_isShelf cX12_isShelf 1 (some .boolean), Cond.constantLong RX12 77 (7), Cond.methodLink RX12 111 yX12_get, Cond.instanceMethod yX12_get]
def wsX12_marks_r2 : List Cond := [Cond.selects RX12 yX12_get yX12_get, Cond.code yX12_get cX12_get 3 (some .int), Cond.methodLink RX12 99 yX12_onChair, Cond.instanceMethod yX12_onChair, Cond.selects RX12 yX12_onChair yX12_onChair, Cond.code yX12_onChair cX12_onChair 3 (some .int), Cond.methodLink RX12 121 yX12_marksOf, Cond.instanceMethod yX12_marksOf, Cond.selects RX12 yX12_marksOf yX12_marksOf, Cond.code yX12_marksOf cX12_marksOf 4 (some .int)]
def wsX12_marks : List Cond := .code yX12_marks cX12_marks 6 (some .int) :: ((wsX12_marks_r1 ++ wsX12_marks_r2) ++ wsX120)
def wsX12_markOf : List Cond := .code yX12_markOf cX12_markOf 3 (some .int) :: ([.methodLink RX12 111 yX12_get, .instanceMethod yX12_get, .selects RX12 yX12_get yX12_get, .initialized RX12, .code yX12_get cX12_get 3 (some .int), .fieldLink RX12 9 "DiveChairsModel" "s" "[I"] ++ wsX120)
def wsX12_mark : List Cond := .code yX12_mark cX12_mark 3 (some .int) :: ([.methodLink RX12 114 yX12_isDive, .instanceMethod yX12_isDive, .selects RX12 yX12_isDive yX12_isDive, .initialized RX12, .code yX12_isDive cX12_isDive 2 (some .boolean), .fieldLink RX12 9 "DiveChairsModel" "s" "[I", .methodLink RX12 69 yX12_isIn, .static yX12_isIn, .code yX12_isIn cX12_isIn 6 (some .boolean), .methodLink RX12 93 yX12_isChair, .static yX12_isChair, .code yX12_isChair cX12_isChair 1 (some .boolean), .constantLong RX12 75 (6), .methodLink RX12 162 yX12_markOf, .instanceMethod yX12_markOf, .selects RX12 yX12_markOf yX12_markOf, .code yX12_markOf cX12_markOf 3 (some .int), .methodLink RX12 111 yX12_get, .instanceMethod yX12_get, .selects RX12 yX12_get yX12_get, .code yX12_get cX12_get 3 (some .int)] ++ wsX120)
def wsX12_sign : List Cond := .code yX12_sign cX12_sign 1 (some .int) :: ([.fieldLink RX12 165 "DiveChairsModel" "pos" "I", .fieldLink RX12 168 "DiveChairsModel" "end" "I", .fieldLink RX12 37 "DiveChairsModel" "text" "[I", .fieldLink RX12 171 "DiveChairsModel" "base" "I"] ++ wsX120)
def wsX12_takes : List Cond := .code yX12_takes cX12_takes 2 (some .boolean) :: ([.fieldLink RX12 165 "DiveChairsModel" "pos" "I", .methodLink RX12 174 yX12_sign, .instanceMethod yX12_sign, .selects RX12 yX12_sign yX12_sign, .initialized RX12, .code yX12_sign cX12_sign 1 (some .int), .fieldLink RX12 168 "DiveChairsModel" "end" "I", .fieldLink RX12 37 "DiveChairsModel" "text" "[I", .fieldLink RX12 171 "DiveChairsModel" "base" "I"] ++ wsX120)
def wsX12_readsNumber : List Cond := .code yX12_readsNumber cX12_readsNumber 2 (some .boolean) :: ([.constantLong RX12 178 (48), .constantLong RX12 180 (57), .fieldLink RX12 182 "DiveChairsModel" "number" "I", .fieldLink RX12 165 "DiveChairsModel" "pos" "I", .methodLink RX12 174 yX12_sign, .instanceMethod yX12_sign, .selects RX12 yX12_sign yX12_sign, .initialized RX12, .code yX12_sign cX12_sign 1 (some .int), .fieldLink RX12 168 "DiveChairsModel" "end" "I", .fieldLink RX12 37 "DiveChairsModel" "text" "[I", .fieldLink RX12 171 "DiveChairsModel" "base" "I", .methodLink RX12 69 yX12_isIn, .static yX12_isIn, .code yX12_isIn cX12_isIn 6 (some .boolean)] ++ wsX120)
def wsX12_isField : List Cond := .code yX12_isField cX12_isField 1 (some .boolean) :: ([])
def wsX12_readsAtom_r1 : List Cond := [Cond.fieldLink RX12 195 "DiveChairsModel" "deep" "I", Cond.fieldLink RX12 165 "DiveChairsModel" "pos" "I", Cond.methodLink RX12 174 yX12_sign, Cond.instanceMethod yX12_sign, Cond.selects RX12 yX12_sign yX12_sign, Cond.initialized RX12, Cond.code yX12_sign cX12_sign 1 (some .int), Cond.fieldLink RX12 168 "DiveChairsModel" "end" "I", Cond.fieldLink RX12 37 "DiveChairsModel" "text" "[I", Cond.fieldLink RX12 171 "DiveChairsModel" "base" "I", Cond.methodLink RX12 198 yX12_readsSum, Cond.instanceMethod yX12_readsSum, Cond.selects RX12 yX12_readsSum yX12_readsSum, Cond.methodLink RX12 189 yX12_takes, Cond.instanceMethod yX12_takes, Cond.selects RX12 yX12_takes yX12_takes, Cond.code yX12_takes cX12_takes 2 (some .boolean), Cond.methodLink RX12 201 yX12_isField, Cond.static yX12_isField, Cond.code yX12_isField cX12_isField 1 (some .boolean), Cond.methodLink RX12 204 yX12_readsNumber, Cond.instanceMethod yX12_readsNumber, Cond.selects RX12 yX12_readsNumber yX12_readsNumber, Cond.code yX12_readsNumber cX12_readsNumber 2 (some .boolean)]
def wsX12_readsAtom_r2 : List Cond := [Cond.constantLong RX12 178 (48), Cond.constantLong RX12 180 (57), Cond.fieldLink RX12 182 "DiveChairsModel" "number" "I", Cond.methodLink RX12 69 yX12_isIn, Cond.static yX12_isIn, Cond.code yX12_isIn cX12_isIn 6 (some .boolean), Cond.code yX12_readsProduct cX12_readsProduct 1 (some .boolean), Cond.methodLink RX12 192 yX12_readsAtom, Cond.instanceMethod yX12_readsAtom, Cond.selects RX12 yX12_readsAtom yX12_readsAtom, Cond.code yX12_readsSum cX12_readsSum 1 (some .boolean), Cond.methodLink RX12 185 yX12_readsProduct, Cond.instanceMethod yX12_readsProduct, Cond.selects RX12 yX12_readsProduct yX12_readsProduct]
def wsX12_readsAtom : List Cond := .code yX12_readsAtom cX12_readsAtom 2 (some .boolean) :: ((wsX12_readsAtom_r1 ++ wsX12_readsAtom_r2) ++ wsX120)
def wsX12_readsProduct_r1 : List Cond := [Cond.methodLink RX12 192 yX12_readsAtom, Cond.instanceMethod yX12_readsAtom, Cond.selects RX12 yX12_readsAtom yX12_readsAtom, Cond.initialized RX12, Cond.methodLink RX12 189 yX12_takes, Cond.instanceMethod yX12_takes, Cond.selects RX12 yX12_takes yX12_takes, Cond.code yX12_takes cX12_takes 2 (some .boolean), Cond.fieldLink RX12 165 "DiveChairsModel" "pos" "I", Cond.methodLink RX12 174 yX12_sign, Cond.instanceMethod yX12_sign, Cond.selects RX12 yX12_sign yX12_sign, Cond.code yX12_sign cX12_sign 1 (some .int), Cond.fieldLink RX12 168 "DiveChairsModel" "end" "I", Cond.fieldLink RX12 37 "DiveChairsModel" "text" "[I", Cond.fieldLink RX12 171 "DiveChairsModel" "base" "I", Cond.code yX12_readsAtom cX12_readsAtom 2 (some .boolean), Cond.fieldLink RX12 195 "DiveChairsModel" "deep" "I", Cond.methodLink RX12 198 yX12_readsSum, Cond.instanceMethod yX12_readsSum, Cond.selects RX12 yX12_readsSum yX12_readsSum, Cond.methodLink RX12 201 yX12_isField, Cond.static yX12_isField, Cond.code yX12_isField cX12_isField 1 (some .boolean)]
def wsX12_readsProduct_r2 : List Cond := [Cond.methodLink RX12 204 yX12_readsNumber, Cond.instanceMethod yX12_readsNumber, Cond.selects RX12 yX12_readsNumber yX12_readsNumber, Cond.code yX12_readsNumber cX12_readsNumber 2 (some .boolean), Cond.constantLong RX12 178 (48), Cond.constantLong RX12 180 (57), Cond.fieldLink RX12 182 "DiveChairsModel" "number" "I", Cond.methodLink RX12 69 yX12_isIn, Cond.static yX12_isIn, Cond.code yX12_isIn cX12_isIn 6 (some .boolean), Cond.code yX12_readsSum cX12_readsSum 1 (some .boolean), Cond.methodLink RX12 185 yX12_readsProduct, Cond.instanceMethod yX12_readsProduct, Cond.selects RX12 yX12_readsProduct yX12_readsProduct]
def wsX12_readsProduct : List Cond := .code yX12_readsProduct cX12_readsProduct 1 (some .boolean) :: ((wsX12_readsProduct_r1 ++ wsX12_readsProduct_r2) ++ wsX120)
def wsX12_readsSum_r1 : List Cond := [Cond.methodLink RX12 185 yX12_readsProduct, Cond.instanceMethod yX12_readsProduct, Cond.selects RX12 yX12_readsProduct yX12_readsProduct, Cond.initialized RX12, Cond.methodLink RX12 189 yX12_takes, Cond.instanceMethod yX12_takes, Cond.selects RX12 yX12_takes yX12_takes, Cond.code yX12_takes cX12_takes 2 (some .boolean), Cond.fieldLink RX12 165 "DiveChairsModel" "pos" "I", Cond.methodLink RX12 174 yX12_sign, Cond.instanceMethod yX12_sign, Cond.selects RX12 yX12_sign yX12_sign, Cond.code yX12_sign cX12_sign 1 (some .int), Cond.fieldLink RX12 168 "DiveChairsModel" "end" "I", Cond.fieldLink RX12 37 "DiveChairsModel" "text" "[I", Cond.fieldLink RX12 171 "DiveChairsModel" "base" "I", Cond.code yX12_readsAtom cX12_readsAtom 2 (some .boolean), Cond.fieldLink RX12 195 "DiveChairsModel" "deep" "I", Cond.methodLink RX12 198 yX12_readsSum, Cond.instanceMethod yX12_readsSum, Cond.selects RX12 yX12_readsSum yX12_readsSum, Cond.methodLink RX12 201 yX12_isField, Cond.static yX12_isField, Cond.code yX12_isField cX12_isField 1 (some .boolean)]
def wsX12_readsSum_r2 : List Cond := [Cond.methodLink RX12 204 yX12_readsNumber, Cond.instanceMethod yX12_readsNumber, Cond.selects RX12 yX12_readsNumber yX12_readsNumber, Cond.code yX12_readsNumber cX12_readsNumber 2 (some .boolean), Cond.constantLong RX12 178 (48), Cond.constantLong RX12 180 (57), Cond.fieldLink RX12 182 "DiveChairsModel" "number" "I", Cond.methodLink RX12 69 yX12_isIn, Cond.static yX12_isIn, Cond.code yX12_isIn cX12_isIn 6 (some .boolean), Cond.code yX12_readsProduct cX12_readsProduct 1 (some .boolean), Cond.methodLink RX12 192 yX12_readsAtom, Cond.instanceMethod yX12_readsAtom, Cond.selects RX12 yX12_readsAtom yX12_readsAtom]
def wsX12_readsSum : List Cond := .code yX12_readsSum cX12_readsSum 1 (some .boolean) :: ((wsX12_readsSum_r1 ++ wsX12_readsSum_r2) ++ wsX120)
def wsX12_readsStatement_r1 : List Cond := [Cond.fieldLink RX12 165 "DiveChairsModel" "pos" "I", Cond.fieldLink RX12 195 "DiveChairsModel" "deep" "I", Cond.fieldLink RX12 207 "DiveChairsModel" "from" "I", Cond.fieldLink RX12 210 "DiveChairsModel" "to" "I", Cond.fieldLink RX12 182 "DiveChairsModel" "number" "I", Cond.fieldLink RX12 213 "DiveChairsModel" "one" "I", Cond.fieldLink RX12 216 "DiveChairsModel" "two" "I", Cond.methodLink RX12 174 yX12_sign, Cond.instanceMethod yX12_sign, Cond.selects RX12 yX12_sign yX12_sign, Cond.initialized RX12, Cond.code yX12_sign cX12_sign 1 (some .int), Cond.fieldLink RX12 168 "DiveChairsModel" "end" "I", Cond.fieldLink RX12 37 "DiveChairsModel" "text" "[I", Cond.fieldLink RX12 171 "DiveChairsModel" "base" "I", Cond.methodLink RX12 198 yX12_readsSum, Cond.instanceMethod yX12_readsSum, Cond.selects RX12 yX12_readsSum yX12_readsSum, Cond.code yX12_readsSum cX12_readsSum 1 (some .boolean), Cond.methodLink RX12 185 yX12_readsProduct, Cond.instanceMethod yX12_readsProduct, Cond.selects RX12 yX12_readsProduct yX12_readsProduct, Cond.methodLink RX12 189 yX12_takes, Cond.instanceMethod yX12_takes]
def wsX12_readsStatement_r2 : List Cond := [Cond.selects RX12 yX12_takes yX12_takes, Cond.code yX12_takes cX12_takes 2 (some .boolean), Cond.code yX12_readsAtom cX12_readsAtom 2 (some .boolean), Cond.methodLink RX12 201 yX12_isField, Cond.static yX12_isField, Cond.code yX12_isField cX12_isField 1 (some .boolean), Cond.methodLink RX12 204 yX12_readsNumber, Cond.instanceMethod yX12_readsNumber, Cond.selects RX12 yX12_readsNumber yX12_readsNumber, Cond.code yX12_readsNumber cX12_readsNumber 2 (some .boolean), Cond.constantLong RX12 178 (48), Cond.constantLong RX12 180 (57), Cond.methodLink RX12 69 yX12_isIn, Cond.static yX12_isIn, Cond.code yX12_isIn cX12_isIn 6 (some .boolean), Cond.code yX12_readsProduct cX12_readsProduct 1 (some .boolean), Cond.methodLink RX12 192 yX12_readsAtom, Cond.instanceMethod yX12_readsAtom, Cond.selects RX12 yX12_readsAtom yX12_readsAtom]
def wsX12_readsStatement : List Cond := .code yX12_readsStatement cX12_readsStatement 2 (some .boolean) :: ((wsX12_readsStatement_r1 ++ wsX12_readsStatement_r2) ++ wsX120)
def wsX12_begins : List Cond := .code yX12_begins cX12_begins 2 none :: ([.fieldLink RX12 25 "DiveChairsModel" "element" "[I", .fieldLink RX12 37 "DiveChairsModel" "text" "[I", .fieldLink RX12 171 "DiveChairsModel" "base" "I", .fieldLink RX12 22 "DiveChairsModel" "size" "[I", .fieldLink RX12 168 "DiveChairsModel" "end" "I", .fieldLink RX12 165 "DiveChairsModel" "pos" "I"] ++ wsX120)
def wsX12_rule_r1 : List Cond := [Cond.fieldLink RX12 165 "DiveChairsModel" "pos" "I", Cond.fieldLink RX12 168 "DiveChairsModel" "end" "I", Cond.fieldLink RX12 213 "DiveChairsModel" "one" "I", Cond.fieldLink RX12 216 "DiveChairsModel" "two" "I", Cond.fieldLink RX12 9 "DiveChairsModel" "s" "[I", Cond.fieldLink RX12 210 "DiveChairsModel" "to" "I", Cond.fieldLink RX12 207 "DiveChairsModel" "from" "I", Cond.fieldLink RX12 25 "DiveChairsModel" "element" "[I", Cond.fieldLink RX12 171 "DiveChairsModel" "base" "I", Cond.methodLink RX12 157 yX12_wrongRow, Cond.instanceMethod yX12_wrongRow, Cond.selects RX12 yX12_wrongRow yX12_wrongRow, Cond.initialized RX12, Cond.code yX12_wrongRow cX12_wrongRow 3 (some .int), Cond.fieldLink RX12 16 "DiveChairsModel" "kept" "[I", Cond.fieldLink RX12 19 "DiveChairsModel" "sort" "[I", Cond.methodLink RX12 154 yX12_isShelf, Cond.static yX12_isShelf, Cond.code yX12_isShelf cX12_isShelf 1 (some .boolean), Cond.constantLong RX12 77 (7), Cond.methodLink RX12 69 yX12_isIn, Cond.static yX12_isIn, Cond.code yX12_isIn cX12_isIn 6 (some .boolean), Cond.methodLink RX12 219 yX12_begins]
def wsX12_rule_r2 : List Cond := [Cond.instanceMethod yX12_begins, Cond.selects RX12 yX12_begins yX12_begins, Cond.code yX12_begins cX12_begins 2 none, Cond.fieldLink RX12 37 "DiveChairsModel" "text" "[I", Cond.fieldLink RX12 22 "DiveChairsModel" "size" "[I", Cond.methodLink RX12 222 yX12_readsStatement, Cond.instanceMethod yX12_readsStatement, Cond.selects RX12 yX12_readsStatement yX12_readsStatement, Cond.code yX12_readsStatement cX12_readsStatement 2 (some .boolean), Cond.fieldLink RX12 195 "DiveChairsModel" "deep" "I", Cond.fieldLink RX12 182 "DiveChairsModel" "number" "I", Cond.methodLink RX12 174 yX12_sign, Cond.instanceMethod yX12_sign, Cond.selects RX12 yX12_sign yX12_sign, Cond.code yX12_sign cX12_sign 1 (some .int), Cond.methodLink RX12 198 yX12_readsSum, Cond.instanceMethod yX12_readsSum, Cond.selects RX12 yX12_readsSum yX12_readsSum, Cond.code yX12_readsSum cX12_readsSum 1 (some .boolean), Cond.methodLink RX12 185 yX12_readsProduct, Cond.instanceMethod yX12_readsProduct, Cond.selects RX12 yX12_readsProduct yX12_readsProduct, Cond.methodLink RX12 189 yX12_takes, Cond.instanceMethod yX12_takes]
def wsX12_rule_r3 : List Cond := [Cond.selects RX12 yX12_takes yX12_takes, Cond.code yX12_takes cX12_takes 2 (some .boolean), Cond.code yX12_readsAtom cX12_readsAtom 2 (some .boolean), Cond.methodLink RX12 201 yX12_isField, Cond.static yX12_isField, Cond.code yX12_isField cX12_isField 1 (some .boolean), Cond.methodLink RX12 204 yX12_readsNumber, Cond.instanceMethod yX12_readsNumber, Cond.selects RX12 yX12_readsNumber yX12_readsNumber, Cond.code yX12_readsNumber cX12_readsNumber 2 (some .boolean), Cond.constantLong RX12 178 (48), Cond.constantLong RX12 180 (57), Cond.code yX12_readsProduct cX12_readsProduct 1 (some .boolean), Cond.methodLink RX12 192 yX12_readsAtom, Cond.instanceMethod yX12_readsAtom, Cond.selects RX12 yX12_readsAtom yX12_readsAtom]
def wsX12_rule : List Cond := .code yX12_rule cX12_rule 7 (some .int) :: ((wsX12_rule_r1 ++ (wsX12_rule_r2 ++ wsX12_rule_r3)) ++ wsX120)
def wsX12_atom_r1 : List Cond := [Cond.constantLong RX12 178 (48), Cond.constantLong RX12 180 (57), Cond.fieldLink RX12 182 "DiveChairsModel" "number" "I", Cond.fieldLink RX12 165 "DiveChairsModel" "pos" "I", Cond.fieldLink RX12 234 "DiveChairsModel" "sum" "I", Cond.fieldLink RX12 237 "DiveChairsModel" "many" "I", Cond.fieldLink RX12 240 "DiveChairsModel" "hard" "I", Cond.fieldLink RX12 243 "DiveChairsModel" "middle" "I", Cond.fieldLink RX12 246 "DiveChairsModel" "highest" "I", Cond.fieldLink RX12 249 "DiveChairsModel" "lowest" "I", Cond.fieldLink RX12 252 "DiveChairsModel" "splash" "I", Cond.methodLink RX12 174 yX12_sign, Cond.instanceMethod yX12_sign, Cond.selects RX12 yX12_sign yX12_sign, Cond.initialized RX12, Cond.code yX12_sign cX12_sign 1 (some .int), Cond.fieldLink RX12 168 "DiveChairsModel" "end" "I", Cond.fieldLink RX12 37 "DiveChairsModel" "text" "[I", Cond.fieldLink RX12 171 "DiveChairsModel" "base" "I", Cond.methodLink RX12 69 yX12_isIn, Cond.static yX12_isIn, Cond.code yX12_isIn cX12_isIn 6 (some .boolean), Cond.methodLink RX12 204 yX12_readsNumber, Cond.instanceMethod yX12_readsNumber]
def wsX12_atom_r2 : List Cond := [Cond.selects RX12 yX12_readsNumber yX12_readsNumber, Cond.code yX12_readsNumber cX12_readsNumber 2 (some .boolean), Cond.methodLink RX12 231 yX12_sumOf, Cond.instanceMethod yX12_sumOf, Cond.selects RX12 yX12_sumOf yX12_sumOf, Cond.code yX12_product cX12_product 4 (some .int), Cond.methodLink RX12 228 yX12_atom, Cond.instanceMethod yX12_atom, Cond.selects RX12 yX12_atom yX12_atom, Cond.code yX12_sumOf cX12_sumOf 4 (some .int), Cond.methodLink RX12 225 yX12_product, Cond.instanceMethod yX12_product, Cond.selects RX12 yX12_product yX12_product]
def wsX12_atom : List Cond := .code yX12_atom cX12_atom 4 (some .int) :: ((wsX12_atom_r1 ++ wsX12_atom_r2) ++ wsX120)
def wsX12_product_r1 : List Cond := [Cond.fieldLink RX12 165 "DiveChairsModel" "pos" "I", Cond.methodLink RX12 228 yX12_atom, Cond.instanceMethod yX12_atom, Cond.selects RX12 yX12_atom yX12_atom, Cond.initialized RX12, Cond.methodLink RX12 174 yX12_sign, Cond.instanceMethod yX12_sign, Cond.selects RX12 yX12_sign yX12_sign, Cond.code yX12_sign cX12_sign 1 (some .int), Cond.fieldLink RX12 168 "DiveChairsModel" "end" "I", Cond.fieldLink RX12 37 "DiveChairsModel" "text" "[I", Cond.fieldLink RX12 171 "DiveChairsModel" "base" "I", Cond.code yX12_atom cX12_atom 4 (some .int), Cond.constantLong RX12 178 (48), Cond.constantLong RX12 180 (57), Cond.fieldLink RX12 182 "DiveChairsModel" "number" "I", Cond.fieldLink RX12 234 "DiveChairsModel" "sum" "I", Cond.fieldLink RX12 237 "DiveChairsModel" "many" "I", Cond.fieldLink RX12 240 "DiveChairsModel" "hard" "I", Cond.fieldLink RX12 243 "DiveChairsModel" "middle" "I", Cond.fieldLink RX12 246 "DiveChairsModel" "highest" "I", Cond.fieldLink RX12 249 "DiveChairsModel" "lowest" "I", Cond.fieldLink RX12 252 "DiveChairsModel" "splash" "I", Cond.methodLink RX12 69 yX12_isIn]
def wsX12_product_r2 : List Cond := [Cond.static yX12_isIn, Cond.code yX12_isIn cX12_isIn 6 (some .boolean), Cond.methodLink RX12 204 yX12_readsNumber, Cond.instanceMethod yX12_readsNumber, Cond.selects RX12 yX12_readsNumber yX12_readsNumber, Cond.code yX12_readsNumber cX12_readsNumber 2 (some .boolean), Cond.methodLink RX12 231 yX12_sumOf, Cond.instanceMethod yX12_sumOf, Cond.selects RX12 yX12_sumOf yX12_sumOf, Cond.code yX12_sumOf cX12_sumOf 4 (some .int), Cond.methodLink RX12 225 yX12_product, Cond.instanceMethod yX12_product, Cond.selects RX12 yX12_product yX12_product]
def wsX12_product : List Cond := .code yX12_product cX12_product 4 (some .int) :: ((wsX12_product_r1 ++ wsX12_product_r2) ++ wsX120)
def wsX12_sumOf_r1 : List Cond := [Cond.fieldLink RX12 165 "DiveChairsModel" "pos" "I", Cond.methodLink RX12 225 yX12_product, Cond.instanceMethod yX12_product, Cond.selects RX12 yX12_product yX12_product, Cond.initialized RX12, Cond.methodLink RX12 174 yX12_sign, Cond.instanceMethod yX12_sign, Cond.selects RX12 yX12_sign yX12_sign, Cond.code yX12_sign cX12_sign 1 (some .int), Cond.fieldLink RX12 168 "DiveChairsModel" "end" "I", Cond.fieldLink RX12 37 "DiveChairsModel" "text" "[I", Cond.fieldLink RX12 171 "DiveChairsModel" "base" "I", Cond.code yX12_atom cX12_atom 4 (some .int), Cond.constantLong RX12 178 (48), Cond.constantLong RX12 180 (57), Cond.fieldLink RX12 182 "DiveChairsModel" "number" "I", Cond.fieldLink RX12 234 "DiveChairsModel" "sum" "I", Cond.fieldLink RX12 237 "DiveChairsModel" "many" "I", Cond.fieldLink RX12 240 "DiveChairsModel" "hard" "I", Cond.fieldLink RX12 243 "DiveChairsModel" "middle" "I", Cond.fieldLink RX12 246 "DiveChairsModel" "highest" "I", Cond.fieldLink RX12 249 "DiveChairsModel" "lowest" "I", Cond.fieldLink RX12 252 "DiveChairsModel" "splash" "I", Cond.methodLink RX12 69 yX12_isIn]
def wsX12_sumOf_r2 : List Cond := [Cond.static yX12_isIn, Cond.code yX12_isIn cX12_isIn 6 (some .boolean), Cond.methodLink RX12 204 yX12_readsNumber, Cond.instanceMethod yX12_readsNumber, Cond.selects RX12 yX12_readsNumber yX12_readsNumber, Cond.code yX12_readsNumber cX12_readsNumber 2 (some .boolean), Cond.methodLink RX12 231 yX12_sumOf, Cond.instanceMethod yX12_sumOf, Cond.selects RX12 yX12_sumOf yX12_sumOf, Cond.code yX12_product cX12_product 4 (some .int), Cond.methodLink RX12 228 yX12_atom, Cond.instanceMethod yX12_atom, Cond.selects RX12 yX12_atom yX12_atom]
def wsX12_sumOf : List Cond := .code yX12_sumOf cX12_sumOf 4 (some .int) :: ((wsX12_sumOf_r1 ++ wsX12_sumOf_r2) ++ wsX120)
def wsX12_asTold : List Cond := .code yX12_asTold cX12_asTold 1 none :: ([.fieldLink RX12 40 "DiveChairsModel" "without" "I", .fieldLink RX12 255 "DiveChairsModel" "leansOff" "Z", .fieldLink RX12 9 "DiveChairsModel" "s" "[I", .fieldLink RX12 259 "DiveChairsModel" "dropHigh" "I", .fieldLink RX12 262 "DiveChairsModel" "dropLow" "I"] ++ wsX120)
def wsX12_leanIn : List Cond := .code yX12_leanIn cX12_leanIn 5 (some .int) :: ([.fieldLink RX12 9 "DiveChairsModel" "s" "[I", .methodLink RX12 111 yX12_get, .instanceMethod yX12_get, .selects RX12 yX12_get yX12_get, .initialized RX12, .code yX12_get cX12_get 3 (some .int)] ++ wsX120)
def wsX12_gathers : List Cond := .code yX12_gathers cX12_gathers 5 none :: ([.fieldLink RX12 128 "DiveChairsModel" "rowed" "I", .fieldLink RX12 40 "DiveChairsModel" "without" "I", .fieldLink RX12 255 "DiveChairsModel" "leansOff" "Z", .fieldLink RX12 268 "DiveChairsModel" "movers" "I", .fieldLink RX12 44 "DiveChairsModel" "mover" "I", .methodLink RX12 162 yX12_markOf, .instanceMethod yX12_markOf, .selects RX12 yX12_markOf yX12_markOf, .initialized RX12, .code yX12_markOf cX12_markOf 3 (some .int), .methodLink RX12 111 yX12_get, .instanceMethod yX12_get, .selects RX12 yX12_get yX12_get, .code yX12_get cX12_get 3 (some .int), .fieldLink RX12 9 "DiveChairsModel" "s" "[I", .methodLink RX12 265 yX12_leanIn, .instanceMethod yX12_leanIn, .selects RX12 yX12_leanIn yX12_leanIn, .code yX12_leanIn cX12_leanIn 5 (some .int), .methodLink RX12 134 yX12_comes, .instanceMethod yX12_comes, .selects RX12 yX12_comes yX12_comes, .code yX12_comes cX12_comes 3 none, .fieldLink RX12 34 "DiveChairsModel" "row" "[I"] ++ wsX120)
def wsX12_middleOf_r1 : List Cond := [Cond.fieldLink RX12 128 "DiveChairsModel" "rowed" "I", Cond.fieldLink RX12 34 "DiveChairsModel" "row" "[I", Cond.methodLink RX12 271 yX12_asTold, Cond.instanceMethod yX12_asTold, Cond.selects RX12 yX12_asTold yX12_asTold, Cond.initialized RX12, Cond.code yX12_asTold cX12_asTold 1 none, Cond.fieldLink RX12 40 "DiveChairsModel" "without" "I", Cond.fieldLink RX12 255 "DiveChairsModel" "leansOff" "Z", Cond.fieldLink RX12 9 "DiveChairsModel" "s" "[I", Cond.fieldLink RX12 259 "DiveChairsModel" "dropHigh" "I", Cond.fieldLink RX12 262 "DiveChairsModel" "dropLow" "I", Cond.methodLink RX12 274 yX12_gathers, Cond.instanceMethod yX12_gathers, Cond.selects RX12 yX12_gathers yX12_gathers, Cond.code yX12_gathers cX12_gathers 5 none, Cond.fieldLink RX12 268 "DiveChairsModel" "movers" "I", Cond.fieldLink RX12 44 "DiveChairsModel" "mover" "I", Cond.methodLink RX12 162 yX12_markOf, Cond.instanceMethod yX12_markOf, Cond.selects RX12 yX12_markOf yX12_markOf, Cond.code yX12_markOf cX12_markOf 3 (some .int), Cond.methodLink RX12 111 yX12_get, Cond.instanceMethod yX12_get]
def wsX12_middleOf_r2 : List Cond := [Cond.selects RX12 yX12_get yX12_get, Cond.code yX12_get cX12_get 3 (some .int), Cond.methodLink RX12 265 yX12_leanIn, Cond.instanceMethod yX12_leanIn, Cond.selects RX12 yX12_leanIn yX12_leanIn, Cond.code yX12_leanIn cX12_leanIn 5 (some .int), Cond.methodLink RX12 134 yX12_comes, Cond.instanceMethod yX12_comes, Cond.selects RX12 yX12_comes yX12_comes, Cond.code yX12_comes cX12_comes 3 none]
def wsX12_middleOf : List Cond := .code yX12_middleOf cX12_middleOf 2 (some .int) :: ((wsX12_middleOf_r1 ++ wsX12_middleOf_r2) ++ wsX120)
def wsX12_countsNow_r1 : List Cond := [Cond.fieldLink RX12 128 "DiveChairsModel" "rowed" "I", Cond.fieldLink RX12 259 "DiveChairsModel" "dropHigh" "I", Cond.fieldLink RX12 262 "DiveChairsModel" "dropLow" "I", Cond.fieldLink RX12 234 "DiveChairsModel" "sum" "I", Cond.fieldLink RX12 237 "DiveChairsModel" "many" "I", Cond.fieldLink RX12 34 "DiveChairsModel" "row" "[I", Cond.fieldLink RX12 240 "DiveChairsModel" "hard" "I", Cond.fieldLink RX12 243 "DiveChairsModel" "middle" "I", Cond.fieldLink RX12 246 "DiveChairsModel" "highest" "I", Cond.fieldLink RX12 249 "DiveChairsModel" "lowest" "I", Cond.fieldLink RX12 252 "DiveChairsModel" "splash" "I", Cond.fieldLink RX12 9 "DiveChairsModel" "s" "[I", Cond.fieldLink RX12 37 "DiveChairsModel" "text" "[I", Cond.fieldLink RX12 171 "DiveChairsModel" "base" "I", Cond.fieldLink RX12 168 "DiveChairsModel" "end" "I", Cond.fieldLink RX12 165 "DiveChairsModel" "pos" "I", Cond.methodLink RX12 274 yX12_gathers, Cond.instanceMethod yX12_gathers, Cond.selects RX12 yX12_gathers yX12_gathers, Cond.initialized RX12, Cond.code yX12_gathers cX12_gathers 5 none, Cond.fieldLink RX12 40 "DiveChairsModel" "without" "I", Cond.fieldLink RX12 255 "DiveChairsModel" "leansOff" "Z", Cond.fieldLink RX12 268 "DiveChairsModel" "movers" "I"]
def wsX12_countsNow_r2 : List Cond := [Cond.fieldLink RX12 44 "DiveChairsModel" "mover" "I", Cond.methodLink RX12 162 yX12_markOf, Cond.instanceMethod yX12_markOf, Cond.selects RX12 yX12_markOf yX12_markOf, Cond.code yX12_markOf cX12_markOf 3 (some .int), Cond.methodLink RX12 111 yX12_get, Cond.instanceMethod yX12_get, Cond.selects RX12 yX12_get yX12_get, Cond.code yX12_get cX12_get 3 (some .int), Cond.methodLink RX12 265 yX12_leanIn, Cond.instanceMethod yX12_leanIn, Cond.selects RX12 yX12_leanIn yX12_leanIn, Cond.code yX12_leanIn cX12_leanIn 5 (some .int), Cond.methodLink RX12 134 yX12_comes, Cond.instanceMethod yX12_comes, Cond.selects RX12 yX12_comes yX12_comes, Cond.code yX12_comes cX12_comes 3 none, Cond.methodLink RX12 231 yX12_sumOf, Cond.instanceMethod yX12_sumOf, Cond.selects RX12 yX12_sumOf yX12_sumOf, Cond.code yX12_sumOf cX12_sumOf 4 (some .int), Cond.methodLink RX12 225 yX12_product, Cond.instanceMethod yX12_product, Cond.selects RX12 yX12_product yX12_product]
def wsX12_countsNow_r3 : List Cond := [Cond.methodLink RX12 174 yX12_sign, Cond.instanceMethod yX12_sign, Cond.selects RX12 yX12_sign yX12_sign, Cond.code yX12_sign cX12_sign 1 (some .int), Cond.code yX12_atom cX12_atom 4 (some .int), Cond.constantLong RX12 178 (48), Cond.constantLong RX12 180 (57), Cond.fieldLink RX12 182 "DiveChairsModel" "number" "I", Cond.methodLink RX12 69 yX12_isIn, Cond.static yX12_isIn, Cond.code yX12_isIn cX12_isIn 6 (some .boolean), Cond.methodLink RX12 204 yX12_readsNumber, Cond.instanceMethod yX12_readsNumber, Cond.selects RX12 yX12_readsNumber yX12_readsNumber, Cond.code yX12_readsNumber cX12_readsNumber 2 (some .boolean), Cond.code yX12_product cX12_product 4 (some .int), Cond.methodLink RX12 228 yX12_atom, Cond.instanceMethod yX12_atom, Cond.selects RX12 yX12_atom yX12_atom]
def wsX12_countsNow : List Cond := .code yX12_countsNow cX12_countsNow 3 (some .int) :: ((wsX12_countsNow_r1 ++ (wsX12_countsNow_r2 ++ wsX12_countsNow_r3)) ++ wsX120)
def wsX12_counts_r1 : List Cond := [Cond.constant RX12 277 (-1000000001), Cond.methodLink RX12 114 yX12_isDive, Cond.instanceMethod yX12_isDive, Cond.selects RX12 yX12_isDive yX12_isDive, Cond.initialized RX12, Cond.code yX12_isDive cX12_isDive 2 (some .boolean), Cond.fieldLink RX12 9 "DiveChairsModel" "s" "[I", Cond.methodLink RX12 69 yX12_isIn, Cond.static yX12_isIn, Cond.code yX12_isIn cX12_isIn 6 (some .boolean), Cond.methodLink RX12 271 yX12_asTold, Cond.instanceMethod yX12_asTold, Cond.selects RX12 yX12_asTold yX12_asTold, Cond.code yX12_asTold cX12_asTold 1 none, Cond.fieldLink RX12 40 "DiveChairsModel" "without" "I", Cond.fieldLink RX12 255 "DiveChairsModel" "leansOff" "Z", Cond.fieldLink RX12 259 "DiveChairsModel" "dropHigh" "I", Cond.fieldLink RX12 262 "DiveChairsModel" "dropLow" "I", Cond.methodLink RX12 278 yX12_countsNow, Cond.instanceMethod yX12_countsNow, Cond.selects RX12 yX12_countsNow yX12_countsNow, Cond.code yX12_countsNow cX12_countsNow 3 (some .int), Cond.fieldLink RX12 128 "DiveChairsModel" "rowed" "I", Cond.fieldLink RX12 234 "DiveChairsModel" "sum" "I"]
def wsX12_counts_r2 : List Cond := [Cond.fieldLink RX12 237 "DiveChairsModel" "many" "I", Cond.fieldLink RX12 34 "DiveChairsModel" "row" "[I", Cond.fieldLink RX12 240 "DiveChairsModel" "hard" "I", Cond.fieldLink RX12 243 "DiveChairsModel" "middle" "I", Cond.fieldLink RX12 246 "DiveChairsModel" "highest" "I", Cond.fieldLink RX12 249 "DiveChairsModel" "lowest" "I", Cond.fieldLink RX12 252 "DiveChairsModel" "splash" "I", Cond.fieldLink RX12 37 "DiveChairsModel" "text" "[I", Cond.fieldLink RX12 171 "DiveChairsModel" "base" "I", Cond.fieldLink RX12 168 "DiveChairsModel" "end" "I", Cond.fieldLink RX12 165 "DiveChairsModel" "pos" "I", Cond.methodLink RX12 274 yX12_gathers, Cond.instanceMethod yX12_gathers, Cond.selects RX12 yX12_gathers yX12_gathers, Cond.code yX12_gathers cX12_gathers 5 none, Cond.fieldLink RX12 268 "DiveChairsModel" "movers" "I", Cond.fieldLink RX12 44 "DiveChairsModel" "mover" "I", Cond.methodLink RX12 162 yX12_markOf, Cond.instanceMethod yX12_markOf, Cond.selects RX12 yX12_markOf yX12_markOf, Cond.code yX12_markOf cX12_markOf 3 (some .int), Cond.methodLink RX12 111 yX12_get, Cond.instanceMethod yX12_get, Cond.selects RX12 yX12_get yX12_get]
def wsX12_counts_r3 : List Cond := [Cond.code yX12_get cX12_get 3 (some .int), Cond.methodLink RX12 265 yX12_leanIn, Cond.instanceMethod yX12_leanIn, Cond.selects RX12 yX12_leanIn yX12_leanIn, Cond.code yX12_leanIn cX12_leanIn 5 (some .int), Cond.methodLink RX12 134 yX12_comes, Cond.instanceMethod yX12_comes, Cond.selects RX12 yX12_comes yX12_comes, Cond.code yX12_comes cX12_comes 3 none, Cond.methodLink RX12 231 yX12_sumOf, Cond.instanceMethod yX12_sumOf, Cond.selects RX12 yX12_sumOf yX12_sumOf, Cond.code yX12_sumOf cX12_sumOf 4 (some .int), Cond.methodLink RX12 225 yX12_product, Cond.instanceMethod yX12_product, Cond.selects RX12 yX12_product yX12_product, Cond.methodLink RX12 174 yX12_sign, Cond.instanceMethod yX12_sign, Cond.selects RX12 yX12_sign yX12_sign, Cond.code yX12_sign cX12_sign 1 (some .int), Cond.code yX12_atom cX12_atom 4 (some .int), Cond.constantLong RX12 178 (48), Cond.constantLong RX12 180 (57), Cond.fieldLink RX12 182 "DiveChairsModel" "number" "I"]
def wsX12_counts_r4 : List Cond := [Cond.methodLink RX12 204 yX12_readsNumber, Cond.instanceMethod yX12_readsNumber, Cond.selects RX12 yX12_readsNumber yX12_readsNumber, Cond.code yX12_readsNumber cX12_readsNumber 2 (some .boolean), Cond.code yX12_product cX12_product 4 (some .int), Cond.methodLink RX12 228 yX12_atom, Cond.instanceMethod yX12_atom, Cond.selects RX12 yX12_atom yX12_atom]
def wsX12_counts : List Cond := .code yX12_counts cX12_counts 2 (some .int) :: ((wsX12_counts_r1 ++ (wsX12_counts_r2 ++ (wsX12_counts_r3 ++ wsX12_counts_r4))) ++ wsX120)
def wsX12_dives : List Cond := .code yX12_dives cX12_dives 4 (some .boolean) :: ([.fieldLink RX12 9 "DiveChairsModel" "s" "[I", .methodLink RX12 111 yX12_get, .instanceMethod yX12_get, .selects RX12 yX12_get yX12_get, .initialized RX12, .code yX12_get cX12_get 3 (some .int)] ++ wsX120)
def wsX12_totalNow_r1 : List Cond := [Cond.fieldLink RX12 9 "DiveChairsModel" "s" "[I", Cond.methodLink RX12 111 yX12_get, Cond.instanceMethod yX12_get, Cond.selects RX12 yX12_get yX12_get, Cond.initialized RX12, Cond.code yX12_get cX12_get 3 (some .int), Cond.methodLink RX12 278 yX12_countsNow, Cond.instanceMethod yX12_countsNow, Cond.selects RX12 yX12_countsNow yX12_countsNow, Cond.code yX12_countsNow cX12_countsNow 3 (some .int), Cond.fieldLink RX12 128 "DiveChairsModel" "rowed" "I", Cond.fieldLink RX12 259 "DiveChairsModel" "dropHigh" "I", Cond.fieldLink RX12 262 "DiveChairsModel" "dropLow" "I", Cond.fieldLink RX12 234 "DiveChairsModel" "sum" "I", Cond.fieldLink RX12 237 "DiveChairsModel" "many" "I", Cond.fieldLink RX12 34 "DiveChairsModel" "row" "[I", Cond.fieldLink RX12 240 "DiveChairsModel" "hard" "I", Cond.fieldLink RX12 243 "DiveChairsModel" "middle" "I", Cond.fieldLink RX12 246 "DiveChairsModel" "highest" "I", Cond.fieldLink RX12 249 "DiveChairsModel" "lowest" "I", Cond.fieldLink RX12 252 "DiveChairsModel" "splash" "I", Cond.fieldLink RX12 37 "DiveChairsModel" "text" "[I", Cond.fieldLink RX12 171 "DiveChairsModel" "base" "I", Cond.fieldLink RX12 168 "DiveChairsModel" "end" "I"]
def wsX12_totalNow_r2 : List Cond := [Cond.fieldLink RX12 165 "DiveChairsModel" "pos" "I", Cond.methodLink RX12 274 yX12_gathers, Cond.instanceMethod yX12_gathers, Cond.selects RX12 yX12_gathers yX12_gathers, Cond.code yX12_gathers cX12_gathers 5 none, Cond.fieldLink RX12 40 "DiveChairsModel" "without" "I", Cond.fieldLink RX12 255 "DiveChairsModel" "leansOff" "Z", Cond.fieldLink RX12 268 "DiveChairsModel" "movers" "I", Cond.fieldLink RX12 44 "DiveChairsModel" "mover" "I", Cond.methodLink RX12 162 yX12_markOf, Cond.instanceMethod yX12_markOf, Cond.selects RX12 yX12_markOf yX12_markOf, Cond.code yX12_markOf cX12_markOf 3 (some .int), Cond.methodLink RX12 265 yX12_leanIn, Cond.instanceMethod yX12_leanIn, Cond.selects RX12 yX12_leanIn yX12_leanIn, Cond.code yX12_leanIn cX12_leanIn 5 (some .int), Cond.methodLink RX12 134 yX12_comes, Cond.instanceMethod yX12_comes, Cond.selects RX12 yX12_comes yX12_comes, Cond.code yX12_comes cX12_comes 3 none, Cond.methodLink RX12 231 yX12_sumOf, Cond.instanceMethod yX12_sumOf, Cond.selects RX12 yX12_sumOf yX12_sumOf]
def wsX12_totalNow_r3 : List Cond := [Cond.code yX12_sumOf cX12_sumOf 4 (some .int), Cond.methodLink RX12 225 yX12_product, Cond.instanceMethod yX12_product, Cond.selects RX12 yX12_product yX12_product, Cond.methodLink RX12 174 yX12_sign, Cond.instanceMethod yX12_sign, Cond.selects RX12 yX12_sign yX12_sign, Cond.code yX12_sign cX12_sign 1 (some .int), Cond.code yX12_atom cX12_atom 4 (some .int), Cond.constantLong RX12 178 (48), Cond.constantLong RX12 180 (57), Cond.fieldLink RX12 182 "DiveChairsModel" "number" "I", Cond.methodLink RX12 69 yX12_isIn, Cond.static yX12_isIn, Cond.code yX12_isIn cX12_isIn 6 (some .boolean), Cond.methodLink RX12 204 yX12_readsNumber, Cond.instanceMethod yX12_readsNumber, Cond.selects RX12 yX12_readsNumber yX12_readsNumber, Cond.code yX12_readsNumber cX12_readsNumber 2 (some .boolean), Cond.code yX12_product cX12_product 4 (some .int), Cond.methodLink RX12 228 yX12_atom, Cond.instanceMethod yX12_atom, Cond.selects RX12 yX12_atom yX12_atom]
def wsX12_totalNow : List Cond := .code yX12_totalNow cX12_totalNow 6 (some .long) :: ((wsX12_totalNow_r1 ++ (wsX12_totalNow_r2 ++ wsX12_totalNow_r3)) ++ wsX120)
def wsX12_total_r1 : List Cond := [Cond.constantLong RX12 285 (-4611686018427387904), Cond.methodLink RX12 83 yX12_isHall, Cond.static yX12_isHall, Cond.initialized RX12, Cond.code yX12_isHall cX12_isHall 1 (some .boolean), Cond.constantLong RX12 73 (5), Cond.methodLink RX12 69 yX12_isIn, Cond.static yX12_isIn, Cond.code yX12_isIn cX12_isIn 6 (some .boolean), Cond.methodLink RX12 102 yX12_isDiver, Cond.instanceMethod yX12_isDiver, Cond.selects RX12 yX12_isDiver yX12_isDiver, Cond.code yX12_isDiver cX12_isDiver 2 (some .boolean), Cond.fieldLink RX12 9 "DiveChairsModel" "s" "[I", Cond.methodLink RX12 281 yX12_dives, Cond.instanceMethod yX12_dives, Cond.selects RX12 yX12_dives yX12_dives, Cond.code yX12_dives cX12_dives 4 (some .boolean), Cond.methodLink RX12 111 yX12_get, Cond.instanceMethod yX12_get, Cond.selects RX12 yX12_get yX12_get, Cond.code yX12_get cX12_get 3 (some .int), Cond.methodLink RX12 271 yX12_asTold, Cond.instanceMethod yX12_asTold]
def wsX12_total_r2 : List Cond := [Cond.selects RX12 yX12_asTold yX12_asTold, Cond.code yX12_asTold cX12_asTold 1 none, Cond.fieldLink RX12 40 "DiveChairsModel" "without" "I", Cond.fieldLink RX12 255 "DiveChairsModel" "leansOff" "Z", Cond.fieldLink RX12 259 "DiveChairsModel" "dropHigh" "I", Cond.fieldLink RX12 262 "DiveChairsModel" "dropLow" "I", Cond.methodLink RX12 287 yX12_totalNow, Cond.instanceMethod yX12_totalNow, Cond.selects RX12 yX12_totalNow yX12_totalNow, Cond.code yX12_totalNow cX12_totalNow 6 (some .long), Cond.methodLink RX12 278 yX12_countsNow, Cond.instanceMethod yX12_countsNow, Cond.selects RX12 yX12_countsNow yX12_countsNow, Cond.code yX12_countsNow cX12_countsNow 3 (some .int), Cond.fieldLink RX12 128 "DiveChairsModel" "rowed" "I", Cond.fieldLink RX12 234 "DiveChairsModel" "sum" "I", Cond.fieldLink RX12 237 "DiveChairsModel" "many" "I", Cond.fieldLink RX12 34 "DiveChairsModel" "row" "[I", Cond.fieldLink RX12 240 "DiveChairsModel" "hard" "I", Cond.fieldLink RX12 243 "DiveChairsModel" "middle" "I", Cond.fieldLink RX12 246 "DiveChairsModel" "highest" "I", Cond.fieldLink RX12 249 "DiveChairsModel" "lowest" "I", Cond.fieldLink RX12 252 "DiveChairsModel" "splash" "I", Cond.fieldLink RX12 37 "DiveChairsModel" "text" "[I"]
def wsX12_total_r3 : List Cond := [Cond.fieldLink RX12 171 "DiveChairsModel" "base" "I", Cond.fieldLink RX12 168 "DiveChairsModel" "end" "I", Cond.fieldLink RX12 165 "DiveChairsModel" "pos" "I", Cond.methodLink RX12 274 yX12_gathers, Cond.instanceMethod yX12_gathers, Cond.selects RX12 yX12_gathers yX12_gathers, Cond.code yX12_gathers cX12_gathers 5 none, Cond.fieldLink RX12 268 "DiveChairsModel" "movers" "I", Cond.fieldLink RX12 44 "DiveChairsModel" "mover" "I", Cond.methodLink RX12 162 yX12_markOf, Cond.instanceMethod yX12_markOf, Cond.selects RX12 yX12_markOf yX12_markOf, Cond.code yX12_markOf cX12_markOf 3 (some .int), Cond.methodLink RX12 265 yX12_leanIn, Cond.instanceMethod yX12_leanIn, Cond.selects RX12 yX12_leanIn yX12_leanIn, Cond.code yX12_leanIn cX12_leanIn 5 (some .int), Cond.methodLink RX12 134 yX12_comes, Cond.instanceMethod yX12_comes, Cond.selects RX12 yX12_comes yX12_comes, Cond.code yX12_comes cX12_comes 3 none, Cond.methodLink RX12 231 yX12_sumOf, Cond.instanceMethod yX12_sumOf, Cond.selects RX12 yX12_sumOf yX12_sumOf]
def wsX12_total_r4 : List Cond := [Cond.code yX12_sumOf cX12_sumOf 4 (some .int), Cond.methodLink RX12 225 yX12_product, Cond.instanceMethod yX12_product, Cond.selects RX12 yX12_product yX12_product, Cond.methodLink RX12 174 yX12_sign, Cond.instanceMethod yX12_sign, Cond.selects RX12 yX12_sign yX12_sign, Cond.code yX12_sign cX12_sign 1 (some .int), Cond.code yX12_atom cX12_atom 4 (some .int), Cond.constantLong RX12 178 (48), Cond.constantLong RX12 180 (57), Cond.fieldLink RX12 182 "DiveChairsModel" "number" "I", Cond.methodLink RX12 204 yX12_readsNumber, Cond.instanceMethod yX12_readsNumber, Cond.selects RX12 yX12_readsNumber yX12_readsNumber, Cond.code yX12_readsNumber cX12_readsNumber 2 (some .boolean), Cond.code yX12_product cX12_product 4 (some .int), Cond.methodLink RX12 228 yX12_atom, Cond.instanceMethod yX12_atom, Cond.selects RX12 yX12_atom yX12_atom]
def wsX12_total : List Cond := .code yX12_total cX12_total 3 (some .long) :: ((wsX12_total_r1 ++ (wsX12_total_r2 ++ (wsX12_total_r3 ++ wsX12_total_r4))) ++ wsX120)
def wsX12_placeNow_r1 : List Cond := [Cond.fieldLink RX12 9 "DiveChairsModel" "s" "[I", Cond.methodLink RX12 287 yX12_totalNow, Cond.instanceMethod yX12_totalNow, Cond.selects RX12 yX12_totalNow yX12_totalNow, Cond.initialized RX12, Cond.code yX12_totalNow cX12_totalNow 6 (some .long), Cond.methodLink RX12 111 yX12_get, Cond.instanceMethod yX12_get, Cond.selects RX12 yX12_get yX12_get, Cond.code yX12_get cX12_get 3 (some .int), Cond.methodLink RX12 278 yX12_countsNow, Cond.instanceMethod yX12_countsNow, Cond.selects RX12 yX12_countsNow yX12_countsNow, Cond.code yX12_countsNow cX12_countsNow 3 (some .int), Cond.fieldLink RX12 128 "DiveChairsModel" "rowed" "I", Cond.fieldLink RX12 259 "DiveChairsModel" "dropHigh" "I", Cond.fieldLink RX12 262 "DiveChairsModel" "dropLow" "I", Cond.fieldLink RX12 234 "DiveChairsModel" "sum" "I", Cond.fieldLink RX12 237 "DiveChairsModel" "many" "I", Cond.fieldLink RX12 34 "DiveChairsModel" "row" "[I", Cond.fieldLink RX12 240 "DiveChairsModel" "hard" "I", Cond.fieldLink RX12 243 "DiveChairsModel" "middle" "I", Cond.fieldLink RX12 246 "DiveChairsModel" "highest" "I", Cond.fieldLink RX12 249 "DiveChairsModel" "lowest" "I"]
def wsX12_placeNow_r2 : List Cond := [Cond.fieldLink RX12 252 "DiveChairsModel" "splash" "I", Cond.fieldLink RX12 37 "DiveChairsModel" "text" "[I", Cond.fieldLink RX12 171 "DiveChairsModel" "base" "I", Cond.fieldLink RX12 168 "DiveChairsModel" "end" "I", Cond.fieldLink RX12 165 "DiveChairsModel" "pos" "I", Cond.methodLink RX12 274 yX12_gathers, Cond.instanceMethod yX12_gathers, Cond.selects RX12 yX12_gathers yX12_gathers, Cond.code yX12_gathers cX12_gathers 5 none, Cond.fieldLink RX12 40 "DiveChairsModel" "without" "I", Cond.fieldLink RX12 255 "DiveChairsModel" "leansOff" "Z", Cond.fieldLink RX12 268 "DiveChairsModel" "movers" "I", Cond.fieldLink RX12 44 "DiveChairsModel" "mover" "I", Cond.methodLink RX12 162 yX12_markOf, Cond.instanceMethod yX12_markOf, Cond.selects RX12 yX12_markOf yX12_markOf, Cond.code yX12_markOf cX12_markOf 3 (some .int), Cond.methodLink RX12 265 yX12_leanIn, Cond.instanceMethod yX12_leanIn, Cond.selects RX12 yX12_leanIn yX12_leanIn, Cond.code yX12_leanIn cX12_leanIn 5 (some .int), Cond.methodLink RX12 134 yX12_comes, Cond.instanceMethod yX12_comes, Cond.selects RX12 yX12_comes yX12_comes]
def wsX12_placeNow_r3 : List Cond := [Cond.code yX12_comes cX12_comes 3 none, Cond.methodLink RX12 231 yX12_sumOf, Cond.instanceMethod yX12_sumOf, Cond.selects RX12 yX12_sumOf yX12_sumOf, Cond.code yX12_sumOf cX12_sumOf 4 (some .int), Cond.methodLink RX12 225 yX12_product, Cond.instanceMethod yX12_product, Cond.selects RX12 yX12_product yX12_product, Cond.methodLink RX12 174 yX12_sign, Cond.instanceMethod yX12_sign, Cond.selects RX12 yX12_sign yX12_sign, Cond.code yX12_sign cX12_sign 1 (some .int), Cond.code yX12_atom cX12_atom 4 (some .int), Cond.constantLong RX12 178 (48), Cond.constantLong RX12 180 (57), Cond.fieldLink RX12 182 "DiveChairsModel" "number" "I", Cond.methodLink RX12 69 yX12_isIn, Cond.static yX12_isIn, Cond.code yX12_isIn cX12_isIn 6 (some .boolean), Cond.methodLink RX12 204 yX12_readsNumber, Cond.instanceMethod yX12_readsNumber, Cond.selects RX12 yX12_readsNumber yX12_readsNumber, Cond.code yX12_readsNumber cX12_readsNumber 2 (some .boolean), Cond.code yX12_product cX12_product 4 (some .int)]
def wsX12_placeNow_r4 : List Cond := [Cond.methodLink RX12 228 yX12_atom, Cond.instanceMethod yX12_atom, Cond.selects RX12 yX12_atom yX12_atom, Cond.methodLink RX12 281 yX12_dives, Cond.instanceMethod yX12_dives, Cond.selects RX12 yX12_dives yX12_dives, Cond.code yX12_dives cX12_dives 4 (some .boolean)]
def wsX12_placeNow : List Cond := .code yX12_placeNow cX12_placeNow 7 (some .int) :: ((wsX12_placeNow_r1 ++ (wsX12_placeNow_r2 ++ (wsX12_placeNow_r3 ++ wsX12_placeNow_r4))) ++ wsX120)
def wsX12_place_r1 : List Cond := [Cond.methodLink RX12 83 yX12_isHall, Cond.static yX12_isHall, Cond.initialized RX12, Cond.code yX12_isHall cX12_isHall 1 (some .boolean), Cond.constantLong RX12 73 (5), Cond.methodLink RX12 69 yX12_isIn, Cond.static yX12_isIn, Cond.code yX12_isIn cX12_isIn 6 (some .boolean), Cond.methodLink RX12 102 yX12_isDiver, Cond.instanceMethod yX12_isDiver, Cond.selects RX12 yX12_isDiver yX12_isDiver, Cond.code yX12_isDiver cX12_isDiver 2 (some .boolean), Cond.fieldLink RX12 9 "DiveChairsModel" "s" "[I", Cond.methodLink RX12 271 yX12_asTold, Cond.instanceMethod yX12_asTold, Cond.selects RX12 yX12_asTold yX12_asTold, Cond.code yX12_asTold cX12_asTold 1 none, Cond.fieldLink RX12 40 "DiveChairsModel" "without" "I", Cond.fieldLink RX12 255 "DiveChairsModel" "leansOff" "Z", Cond.fieldLink RX12 259 "DiveChairsModel" "dropHigh" "I", Cond.fieldLink RX12 262 "DiveChairsModel" "dropLow" "I", Cond.methodLink RX12 281 yX12_dives, Cond.instanceMethod yX12_dives, Cond.selects RX12 yX12_dives yX12_dives]
def wsX12_place_r2 : List Cond := [Cond.code yX12_dives cX12_dives 4 (some .boolean), Cond.methodLink RX12 111 yX12_get, Cond.instanceMethod yX12_get, Cond.selects RX12 yX12_get yX12_get, Cond.code yX12_get cX12_get 3 (some .int), Cond.methodLink RX12 291 yX12_placeNow, Cond.instanceMethod yX12_placeNow, Cond.selects RX12 yX12_placeNow yX12_placeNow, Cond.code yX12_placeNow cX12_placeNow 7 (some .int), Cond.methodLink RX12 287 yX12_totalNow, Cond.instanceMethod yX12_totalNow, Cond.selects RX12 yX12_totalNow yX12_totalNow, Cond.code yX12_totalNow cX12_totalNow 6 (some .long), Cond.methodLink RX12 278 yX12_countsNow, Cond.instanceMethod yX12_countsNow, Cond.selects RX12 yX12_countsNow yX12_countsNow, Cond.code yX12_countsNow cX12_countsNow 3 (some .int), Cond.fieldLink RX12 128 "DiveChairsModel" "rowed" "I", Cond.fieldLink RX12 234 "DiveChairsModel" "sum" "I", Cond.fieldLink RX12 237 "DiveChairsModel" "many" "I", Cond.fieldLink RX12 34 "DiveChairsModel" "row" "[I", Cond.fieldLink RX12 240 "DiveChairsModel" "hard" "I", Cond.fieldLink RX12 243 "DiveChairsModel" "middle" "I", Cond.fieldLink RX12 246 "DiveChairsModel" "highest" "I"]
def wsX12_place_r3 : List Cond := [Cond.fieldLink RX12 249 "DiveChairsModel" "lowest" "I", Cond.fieldLink RX12 252 "DiveChairsModel" "splash" "I", Cond.fieldLink RX12 37 "DiveChairsModel" "text" "[I", Cond.fieldLink RX12 171 "DiveChairsModel" "base" "I", Cond.fieldLink RX12 168 "DiveChairsModel" "end" "I", Cond.fieldLink RX12 165 "DiveChairsModel" "pos" "I", Cond.methodLink RX12 274 yX12_gathers, Cond.instanceMethod yX12_gathers, Cond.selects RX12 yX12_gathers yX12_gathers, Cond.code yX12_gathers cX12_gathers 5 none, Cond.fieldLink RX12 268 "DiveChairsModel" "movers" "I", Cond.fieldLink RX12 44 "DiveChairsModel" "mover" "I", Cond.methodLink RX12 162 yX12_markOf, Cond.instanceMethod yX12_markOf, Cond.selects RX12 yX12_markOf yX12_markOf, Cond.code yX12_markOf cX12_markOf 3 (some .int), Cond.methodLink RX12 265 yX12_leanIn, Cond.instanceMethod yX12_leanIn, Cond.selects RX12 yX12_leanIn yX12_leanIn, Cond.code yX12_leanIn cX12_leanIn 5 (some .int), Cond.methodLink RX12 134 yX12_comes, Cond.instanceMethod yX12_comes, Cond.selects RX12 yX12_comes yX12_comes, Cond.code yX12_comes cX12_comes 3 none]
def wsX12_place_r4 : List Cond := [Cond.methodLink RX12 231 yX12_sumOf, Cond.instanceMethod yX12_sumOf, Cond.selects RX12 yX12_sumOf yX12_sumOf, Cond.code yX12_sumOf cX12_sumOf 4 (some .int), Cond.methodLink RX12 225 yX12_product, Cond.instanceMethod yX12_product, Cond.selects RX12 yX12_product yX12_product, Cond.methodLink RX12 174 yX12_sign, Cond.instanceMethod yX12_sign, Cond.selects RX12 yX12_sign yX12_sign, Cond.code yX12_sign cX12_sign 1 (some .int), Cond.code yX12_atom cX12_atom 4 (some .int), Cond.constantLong RX12 178 (48), Cond.constantLong RX12 180 (57), Cond.fieldLink RX12 182 "DiveChairsModel" "number" "I", Cond.methodLink RX12 204 yX12_readsNumber, Cond.instanceMethod yX12_readsNumber, Cond.selects RX12 yX12_readsNumber yX12_readsNumber, Cond.code yX12_readsNumber cX12_readsNumber 2 (some .boolean), Cond.code yX12_product cX12_product 4 (some .int), Cond.methodLink RX12 228 yX12_atom, Cond.instanceMethod yX12_atom, Cond.selects RX12 yX12_atom yX12_atom]
def wsX12_place : List Cond := .code yX12_place cX12_place 3 (some .int) :: ((wsX12_place_r1 ++ (wsX12_place_r2 ++ (wsX12_place_r3 ++ wsX12_place_r4))) ++ wsX120)
def wsX12_wonNow_r1 : List Cond := [Cond.fieldLink RX12 9 "DiveChairsModel" "s" "[I", Cond.methodLink RX12 281 yX12_dives, Cond.instanceMethod yX12_dives, Cond.selects RX12 yX12_dives yX12_dives, Cond.initialized RX12, Cond.code yX12_dives cX12_dives 4 (some .boolean), Cond.methodLink RX12 111 yX12_get, Cond.instanceMethod yX12_get, Cond.selects RX12 yX12_get yX12_get, Cond.code yX12_get cX12_get 3 (some .int), Cond.methodLink RX12 287 yX12_totalNow, Cond.instanceMethod yX12_totalNow, Cond.selects RX12 yX12_totalNow yX12_totalNow, Cond.code yX12_totalNow cX12_totalNow 6 (some .long), Cond.methodLink RX12 278 yX12_countsNow, Cond.instanceMethod yX12_countsNow, Cond.selects RX12 yX12_countsNow yX12_countsNow, Cond.code yX12_countsNow cX12_countsNow 3 (some .int), Cond.fieldLink RX12 128 "DiveChairsModel" "rowed" "I", Cond.fieldLink RX12 259 "DiveChairsModel" "dropHigh" "I", Cond.fieldLink RX12 262 "DiveChairsModel" "dropLow" "I", Cond.fieldLink RX12 234 "DiveChairsModel" "sum" "I", Cond.fieldLink RX12 237 "DiveChairsModel" "many" "I", Cond.fieldLink RX12 34 "DiveChairsModel" "row" "[I"]
def wsX12_wonNow_r2 : List Cond := [Cond.fieldLink RX12 240 "DiveChairsModel" "hard" "I", Cond.fieldLink RX12 243 "DiveChairsModel" "middle" "I", Cond.fieldLink RX12 246 "DiveChairsModel" "highest" "I", Cond.fieldLink RX12 249 "DiveChairsModel" "lowest" "I", Cond.fieldLink RX12 252 "DiveChairsModel" "splash" "I", Cond.fieldLink RX12 37 "DiveChairsModel" "text" "[I", Cond.fieldLink RX12 171 "DiveChairsModel" "base" "I", Cond.fieldLink RX12 168 "DiveChairsModel" "end" "I", Cond.fieldLink RX12 165 "DiveChairsModel" "pos" "I", Cond.methodLink RX12 274 yX12_gathers, Cond.instanceMethod yX12_gathers, Cond.selects RX12 yX12_gathers yX12_gathers, Cond.code yX12_gathers cX12_gathers 5 none, Cond.fieldLink RX12 40 "DiveChairsModel" "without" "I", Cond.fieldLink RX12 255 "DiveChairsModel" "leansOff" "Z", Cond.fieldLink RX12 268 "DiveChairsModel" "movers" "I", Cond.fieldLink RX12 44 "DiveChairsModel" "mover" "I", Cond.methodLink RX12 162 yX12_markOf, Cond.instanceMethod yX12_markOf, Cond.selects RX12 yX12_markOf yX12_markOf, Cond.code yX12_markOf cX12_markOf 3 (some .int), Cond.methodLink RX12 265 yX12_leanIn, Cond.instanceMethod yX12_leanIn, Cond.selects RX12 yX12_leanIn yX12_leanIn]
def wsX12_wonNow_r3 : List Cond := [Cond.code yX12_leanIn cX12_leanIn 5 (some .int), Cond.methodLink RX12 134 yX12_comes, Cond.instanceMethod yX12_comes, Cond.selects RX12 yX12_comes yX12_comes, Cond.code yX12_comes cX12_comes 3 none, Cond.methodLink RX12 231 yX12_sumOf, Cond.instanceMethod yX12_sumOf, Cond.selects RX12 yX12_sumOf yX12_sumOf, Cond.code yX12_sumOf cX12_sumOf 4 (some .int), Cond.methodLink RX12 225 yX12_product, Cond.instanceMethod yX12_product, Cond.selects RX12 yX12_product yX12_product, Cond.methodLink RX12 174 yX12_sign, Cond.instanceMethod yX12_sign, Cond.selects RX12 yX12_sign yX12_sign, Cond.code yX12_sign cX12_sign 1 (some .int), Cond.code yX12_atom cX12_atom 4 (some .int), Cond.constantLong RX12 178 (48), Cond.constantLong RX12 180 (57), Cond.fieldLink RX12 182 "DiveChairsModel" "number" "I", Cond.methodLink RX12 69 yX12_isIn, Cond.static yX12_isIn, Cond.code yX12_isIn cX12_isIn 6 (some .boolean), Cond.methodLink RX12 204 yX12_readsNumber]
def wsX12_wonNow_r4 : List Cond := [Cond.instanceMethod yX12_readsNumber, Cond.selects RX12 yX12_readsNumber yX12_readsNumber, Cond.code yX12_readsNumber cX12_readsNumber 2 (some .boolean), Cond.code yX12_product cX12_product 4 (some .int), Cond.methodLink RX12 228 yX12_atom, Cond.instanceMethod yX12_atom, Cond.selects RX12 yX12_atom yX12_atom]
def wsX12_wonNow : List Cond := .code yX12_wonNow cX12_wonNow 8 (some .int) :: ((wsX12_wonNow_r1 ++ (wsX12_wonNow_r2 ++ (wsX12_wonNow_r3 ++ wsX12_wonNow_r4))) ++ wsX120)
def wsX12_won_r1 : List Cond := [Cond.methodLink RX12 83 yX12_isHall, Cond.static yX12_isHall, Cond.initialized RX12, Cond.code yX12_isHall cX12_isHall 1 (some .boolean), Cond.constantLong RX12 73 (5), Cond.methodLink RX12 69 yX12_isIn, Cond.static yX12_isIn, Cond.code yX12_isIn cX12_isIn 6 (some .boolean), Cond.methodLink RX12 271 yX12_asTold, Cond.instanceMethod yX12_asTold, Cond.selects RX12 yX12_asTold yX12_asTold, Cond.code yX12_asTold cX12_asTold 1 none, Cond.fieldLink RX12 40 "DiveChairsModel" "without" "I", Cond.fieldLink RX12 255 "DiveChairsModel" "leansOff" "Z", Cond.fieldLink RX12 9 "DiveChairsModel" "s" "[I", Cond.fieldLink RX12 259 "DiveChairsModel" "dropHigh" "I", Cond.fieldLink RX12 262 "DiveChairsModel" "dropLow" "I", Cond.methodLink RX12 294 yX12_wonNow, Cond.instanceMethod yX12_wonNow, Cond.selects RX12 yX12_wonNow yX12_wonNow, Cond.code yX12_wonNow cX12_wonNow 8 (some .int), Cond.methodLink RX12 281 yX12_dives, Cond.instanceMethod yX12_dives, Cond.selects RX12 yX12_dives yX12_dives]
def wsX12_won_r2 : List Cond := [Cond.code yX12_dives cX12_dives 4 (some .boolean), Cond.methodLink RX12 111 yX12_get, Cond.instanceMethod yX12_get, Cond.selects RX12 yX12_get yX12_get, Cond.code yX12_get cX12_get 3 (some .int), Cond.methodLink RX12 287 yX12_totalNow, Cond.instanceMethod yX12_totalNow, Cond.selects RX12 yX12_totalNow yX12_totalNow, Cond.code yX12_totalNow cX12_totalNow 6 (some .long), Cond.methodLink RX12 278 yX12_countsNow, Cond.instanceMethod yX12_countsNow, Cond.selects RX12 yX12_countsNow yX12_countsNow, Cond.code yX12_countsNow cX12_countsNow 3 (some .int), Cond.fieldLink RX12 128 "DiveChairsModel" "rowed" "I", Cond.fieldLink RX12 234 "DiveChairsModel" "sum" "I", Cond.fieldLink RX12 237 "DiveChairsModel" "many" "I", Cond.fieldLink RX12 34 "DiveChairsModel" "row" "[I", Cond.fieldLink RX12 240 "DiveChairsModel" "hard" "I", Cond.fieldLink RX12 243 "DiveChairsModel" "middle" "I", Cond.fieldLink RX12 246 "DiveChairsModel" "highest" "I", Cond.fieldLink RX12 249 "DiveChairsModel" "lowest" "I", Cond.fieldLink RX12 252 "DiveChairsModel" "splash" "I", Cond.fieldLink RX12 37 "DiveChairsModel" "text" "[I", Cond.fieldLink RX12 171 "DiveChairsModel" "base" "I"]
def wsX12_won_r3 : List Cond := [Cond.fieldLink RX12 168 "DiveChairsModel" "end" "I", Cond.fieldLink RX12 165 "DiveChairsModel" "pos" "I", Cond.methodLink RX12 274 yX12_gathers, Cond.instanceMethod yX12_gathers, Cond.selects RX12 yX12_gathers yX12_gathers, Cond.code yX12_gathers cX12_gathers 5 none, Cond.fieldLink RX12 268 "DiveChairsModel" "movers" "I", Cond.fieldLink RX12 44 "DiveChairsModel" "mover" "I", Cond.methodLink RX12 162 yX12_markOf, Cond.instanceMethod yX12_markOf, Cond.selects RX12 yX12_markOf yX12_markOf, Cond.code yX12_markOf cX12_markOf 3 (some .int), Cond.methodLink RX12 265 yX12_leanIn, Cond.instanceMethod yX12_leanIn, Cond.selects RX12 yX12_leanIn yX12_leanIn, Cond.code yX12_leanIn cX12_leanIn 5 (some .int), Cond.methodLink RX12 134 yX12_comes, Cond.instanceMethod yX12_comes, Cond.selects RX12 yX12_comes yX12_comes, Cond.code yX12_comes cX12_comes 3 none, Cond.methodLink RX12 231 yX12_sumOf, Cond.instanceMethod yX12_sumOf, Cond.selects RX12 yX12_sumOf yX12_sumOf, Cond.code yX12_sumOf cX12_sumOf 4 (some .int)]
def wsX12_won_r4 : List Cond := [Cond.methodLink RX12 225 yX12_product, Cond.instanceMethod yX12_product, Cond.selects RX12 yX12_product yX12_product, Cond.methodLink RX12 174 yX12_sign, Cond.instanceMethod yX12_sign, Cond.selects RX12 yX12_sign yX12_sign, Cond.code yX12_sign cX12_sign 1 (some .int), Cond.code yX12_atom cX12_atom 4 (some .int), Cond.constantLong RX12 178 (48), Cond.constantLong RX12 180 (57), Cond.fieldLink RX12 182 "DiveChairsModel" "number" "I", Cond.methodLink RX12 204 yX12_readsNumber, Cond.instanceMethod yX12_readsNumber, Cond.selects RX12 yX12_readsNumber yX12_readsNumber, Cond.code yX12_readsNumber cX12_readsNumber 2 (some .boolean), Cond.code yX12_product cX12_product 4 (some .int), Cond.methodLink RX12 228 yX12_atom, Cond.instanceMethod yX12_atom, Cond.selects RX12 yX12_atom yX12_atom]
def wsX12_won : List Cond := .code yX12_won cX12_won 2 (some .int) :: ((wsX12_won_r1 ++ (wsX12_won_r2 ++ (wsX12_won_r3 ++ wsX12_won_r4))) ++ wsX120)
def wsX12_wonIf_r1 : List Cond := [Cond.constantLong RX12 297 (2), Cond.constantLong RX12 299 (33), Cond.fieldLink RX12 40 "DiveChairsModel" "without" "I", Cond.fieldLink RX12 255 "DiveChairsModel" "leansOff" "Z", Cond.fieldLink RX12 259 "DiveChairsModel" "dropHigh" "I", Cond.fieldLink RX12 262 "DiveChairsModel" "dropLow" "I", Cond.methodLink RX12 83 yX12_isHall, Cond.static yX12_isHall, Cond.initialized RX12, Cond.code yX12_isHall cX12_isHall 1 (some .boolean), Cond.constantLong RX12 73 (5), Cond.methodLink RX12 69 yX12_isIn, Cond.static yX12_isIn, Cond.code yX12_isIn cX12_isIn 6 (some .boolean), Cond.methodLink RX12 93 yX12_isChair, Cond.static yX12_isChair, Cond.code yX12_isChair cX12_isChair 1 (some .boolean), Cond.constantLong RX12 75 (6), Cond.methodLink RX12 271 yX12_asTold, Cond.instanceMethod yX12_asTold, Cond.selects RX12 yX12_asTold yX12_asTold, Cond.code yX12_asTold cX12_asTold 1 none, Cond.fieldLink RX12 9 "DiveChairsModel" "s" "[I", Cond.methodLink RX12 294 yX12_wonNow]
def wsX12_wonIf_r2 : List Cond := [Cond.instanceMethod yX12_wonNow, Cond.selects RX12 yX12_wonNow yX12_wonNow, Cond.code yX12_wonNow cX12_wonNow 8 (some .int), Cond.methodLink RX12 281 yX12_dives, Cond.instanceMethod yX12_dives, Cond.selects RX12 yX12_dives yX12_dives, Cond.code yX12_dives cX12_dives 4 (some .boolean), Cond.methodLink RX12 111 yX12_get, Cond.instanceMethod yX12_get, Cond.selects RX12 yX12_get yX12_get, Cond.code yX12_get cX12_get 3 (some .int), Cond.methodLink RX12 287 yX12_totalNow, Cond.instanceMethod yX12_totalNow, Cond.selects RX12 yX12_totalNow yX12_totalNow, Cond.code yX12_totalNow cX12_totalNow 6 (some .long), Cond.methodLink RX12 278 yX12_countsNow, Cond.instanceMethod yX12_countsNow, Cond.selects RX12 yX12_countsNow yX12_countsNow, Cond.code yX12_countsNow cX12_countsNow 3 (some .int), Cond.fieldLink RX12 128 "DiveChairsModel" "rowed" "I", Cond.fieldLink RX12 234 "DiveChairsModel" "sum" "I", Cond.fieldLink RX12 237 "DiveChairsModel" "many" "I", Cond.fieldLink RX12 34 "DiveChairsModel" "row" "[I", Cond.fieldLink RX12 240 "DiveChairsModel" "hard" "I"]
def wsX12_wonIf_r3 : List Cond := [Cond.fieldLink RX12 243 "DiveChairsModel" "middle" "I", Cond.fieldLink RX12 246 "DiveChairsModel" "highest" "I", Cond.fieldLink RX12 249 "DiveChairsModel" "lowest" "I", Cond.fieldLink RX12 252 "DiveChairsModel" "splash" "I", Cond.fieldLink RX12 37 "DiveChairsModel" "text" "[I", Cond.fieldLink RX12 171 "DiveChairsModel" "base" "I", Cond.fieldLink RX12 168 "DiveChairsModel" "end" "I", Cond.fieldLink RX12 165 "DiveChairsModel" "pos" "I", Cond.methodLink RX12 274 yX12_gathers, Cond.instanceMethod yX12_gathers, Cond.selects RX12 yX12_gathers yX12_gathers, Cond.code yX12_gathers cX12_gathers 5 none, Cond.fieldLink RX12 268 "DiveChairsModel" "movers" "I", Cond.fieldLink RX12 44 "DiveChairsModel" "mover" "I", Cond.methodLink RX12 162 yX12_markOf, Cond.instanceMethod yX12_markOf, Cond.selects RX12 yX12_markOf yX12_markOf, Cond.code yX12_markOf cX12_markOf 3 (some .int), Cond.methodLink RX12 265 yX12_leanIn, Cond.instanceMethod yX12_leanIn, Cond.selects RX12 yX12_leanIn yX12_leanIn, Cond.code yX12_leanIn cX12_leanIn 5 (some .int), Cond.methodLink RX12 134 yX12_comes, Cond.instanceMethod yX12_comes]
def wsX12_wonIf_r4 : List Cond := [Cond.selects RX12 yX12_comes yX12_comes, Cond.code yX12_comes cX12_comes 3 none, Cond.methodLink RX12 231 yX12_sumOf, Cond.instanceMethod yX12_sumOf, Cond.selects RX12 yX12_sumOf yX12_sumOf, Cond.code yX12_sumOf cX12_sumOf 4 (some .int), Cond.methodLink RX12 225 yX12_product, Cond.instanceMethod yX12_product, Cond.selects RX12 yX12_product yX12_product, Cond.methodLink RX12 174 yX12_sign, Cond.instanceMethod yX12_sign, Cond.selects RX12 yX12_sign yX12_sign, Cond.code yX12_sign cX12_sign 1 (some .int), Cond.code yX12_atom cX12_atom 4 (some .int), Cond.constantLong RX12 178 (48), Cond.constantLong RX12 180 (57), Cond.fieldLink RX12 182 "DiveChairsModel" "number" "I", Cond.methodLink RX12 204 yX12_readsNumber, Cond.instanceMethod yX12_readsNumber, Cond.selects RX12 yX12_readsNumber yX12_readsNumber, Cond.code yX12_readsNumber cX12_readsNumber 2 (some .boolean), Cond.code yX12_product cX12_product 4 (some .int), Cond.methodLink RX12 228 yX12_atom, Cond.instanceMethod yX12_atom]
def wsX12_wonIf_r5 : List Cond := [Cond.selects RX12 yX12_atom yX12_atom]
def wsX12_wonIf : List Cond := .code yX12_wonIf cX12_wonIf 5 (some .int) :: ((wsX12_wonIf_r1 ++ (wsX12_wonIf_r2 ++ (wsX12_wonIf_r3 ++ (wsX12_wonIf_r4 ++ wsX12_wonIf_r5)))) ++ wsX120)
def wsX12_bits : List Cond := .code yX12_bits cX12_bits 3 (some .int) :: ([])
def wsX12_moved_r1 : List Cond := [Cond.constantLong RX12 301 (3), Cond.fieldLink RX12 44 "DiveChairsModel" "mover" "I", Cond.fieldLink RX12 268 "DiveChairsModel" "movers" "I", Cond.methodLink RX12 83 yX12_isHall, Cond.static yX12_isHall, Cond.initialized RX12, Cond.code yX12_isHall cX12_isHall 1 (some .boolean), Cond.constantLong RX12 73 (5), Cond.methodLink RX12 69 yX12_isIn, Cond.static yX12_isIn, Cond.code yX12_isIn cX12_isIn 6 (some .boolean), Cond.methodLink RX12 102 yX12_isDiver, Cond.instanceMethod yX12_isDiver, Cond.selects RX12 yX12_isDiver yX12_isDiver, Cond.code yX12_isDiver cX12_isDiver 2 (some .boolean), Cond.fieldLink RX12 9 "DiveChairsModel" "s" "[I", Cond.methodLink RX12 281 yX12_dives, Cond.instanceMethod yX12_dives, Cond.selects RX12 yX12_dives yX12_dives, Cond.code yX12_dives cX12_dives 4 (some .boolean), Cond.methodLink RX12 111 yX12_get, Cond.instanceMethod yX12_get, Cond.selects RX12 yX12_get yX12_get, Cond.code yX12_get cX12_get 3 (some .int)]
def wsX12_moved_r2 : List Cond := [Cond.methodLink RX12 271 yX12_asTold, Cond.instanceMethod yX12_asTold, Cond.selects RX12 yX12_asTold yX12_asTold, Cond.code yX12_asTold cX12_asTold 1 none, Cond.fieldLink RX12 40 "DiveChairsModel" "without" "I", Cond.fieldLink RX12 255 "DiveChairsModel" "leansOff" "Z", Cond.fieldLink RX12 259 "DiveChairsModel" "dropHigh" "I", Cond.fieldLink RX12 262 "DiveChairsModel" "dropLow" "I", Cond.methodLink RX12 303 yX12_bits, Cond.static yX12_bits, Cond.code yX12_bits cX12_bits 3 (some .int), Cond.methodLink RX12 291 yX12_placeNow, Cond.instanceMethod yX12_placeNow, Cond.selects RX12 yX12_placeNow yX12_placeNow, Cond.code yX12_placeNow cX12_placeNow 7 (some .int), Cond.methodLink RX12 287 yX12_totalNow, Cond.instanceMethod yX12_totalNow, Cond.selects RX12 yX12_totalNow yX12_totalNow, Cond.code yX12_totalNow cX12_totalNow 6 (some .long), Cond.methodLink RX12 278 yX12_countsNow, Cond.instanceMethod yX12_countsNow, Cond.selects RX12 yX12_countsNow yX12_countsNow, Cond.code yX12_countsNow cX12_countsNow 3 (some .int), Cond.fieldLink RX12 128 "DiveChairsModel" "rowed" "I"]
def wsX12_moved_r3 : List Cond := [Cond.fieldLink RX12 234 "DiveChairsModel" "sum" "I", Cond.fieldLink RX12 237 "DiveChairsModel" "many" "I", Cond.fieldLink RX12 34 "DiveChairsModel" "row" "[I", Cond.fieldLink RX12 240 "DiveChairsModel" "hard" "I", Cond.fieldLink RX12 243 "DiveChairsModel" "middle" "I", Cond.fieldLink RX12 246 "DiveChairsModel" "highest" "I", Cond.fieldLink RX12 249 "DiveChairsModel" "lowest" "I", Cond.fieldLink RX12 252 "DiveChairsModel" "splash" "I", Cond.fieldLink RX12 37 "DiveChairsModel" "text" "[I", Cond.fieldLink RX12 171 "DiveChairsModel" "base" "I", Cond.fieldLink RX12 168 "DiveChairsModel" "end" "I", Cond.fieldLink RX12 165 "DiveChairsModel" "pos" "I", Cond.methodLink RX12 274 yX12_gathers, Cond.instanceMethod yX12_gathers, Cond.selects RX12 yX12_gathers yX12_gathers, Cond.code yX12_gathers cX12_gathers 5 none, Cond.methodLink RX12 162 yX12_markOf, Cond.instanceMethod yX12_markOf, Cond.selects RX12 yX12_markOf yX12_markOf, Cond.code yX12_markOf cX12_markOf 3 (some .int), Cond.methodLink RX12 265 yX12_leanIn, Cond.instanceMethod yX12_leanIn, Cond.selects RX12 yX12_leanIn yX12_leanIn, Cond.code yX12_leanIn cX12_leanIn 5 (some .int)]
def wsX12_moved_r4 : List Cond := [Cond.methodLink RX12 134 yX12_comes, Cond.instanceMethod yX12_comes, Cond.selects RX12 yX12_comes yX12_comes, Cond.code yX12_comes cX12_comes 3 none, Cond.methodLink RX12 231 yX12_sumOf, Cond.instanceMethod yX12_sumOf, Cond.selects RX12 yX12_sumOf yX12_sumOf, Cond.code yX12_sumOf cX12_sumOf 4 (some .int), Cond.methodLink RX12 225 yX12_product, Cond.instanceMethod yX12_product, Cond.selects RX12 yX12_product yX12_product, Cond.methodLink RX12 174 yX12_sign, Cond.instanceMethod yX12_sign, Cond.selects RX12 yX12_sign yX12_sign, Cond.code yX12_sign cX12_sign 1 (some .int), Cond.code yX12_atom cX12_atom 4 (some .int), Cond.constantLong RX12 178 (48), Cond.constantLong RX12 180 (57), Cond.fieldLink RX12 182 "DiveChairsModel" "number" "I", Cond.methodLink RX12 204 yX12_readsNumber, Cond.instanceMethod yX12_readsNumber, Cond.selects RX12 yX12_readsNumber yX12_readsNumber, Cond.code yX12_readsNumber cX12_readsNumber 2 (some .boolean), Cond.code yX12_product cX12_product 4 (some .int)]
def wsX12_moved_r5 : List Cond := [Cond.methodLink RX12 228 yX12_atom, Cond.instanceMethod yX12_atom, Cond.selects RX12 yX12_atom yX12_atom]
def wsX12_moved : List Cond := .code yX12_moved cX12_moved 9 (some .int) :: ((wsX12_moved_r1 ++ (wsX12_moved_r2 ++ (wsX12_moved_r3 ++ (wsX12_moved_r4 ++ wsX12_moved_r5)))) ++ wsX120)
def wsX12_findLean_r1 : List Cond := [Cond.fieldLink RX12 306 "DiveChairsModel" "leanSum" "I", Cond.fieldLink RX12 309 "DiveChairsModel" "leanMany" "I", Cond.fieldLink RX12 9 "DiveChairsModel" "s" "[I", Cond.fieldLink RX12 315 "DiveChairsModel" "leanLeast" "I", Cond.fieldLink RX12 318 "DiveChairsModel" "leanMost" "I", Cond.methodLink RX12 111 yX12_get, Cond.instanceMethod yX12_get, Cond.selects RX12 yX12_get yX12_get, Cond.initialized RX12, Cond.code yX12_get cX12_get 3 (some .int), Cond.methodLink RX12 312 yX12_middleOf, Cond.instanceMethod yX12_middleOf, Cond.selects RX12 yX12_middleOf yX12_middleOf, Cond.code yX12_middleOf cX12_middleOf 2 (some .int), Cond.fieldLink RX12 128 "DiveChairsModel" "rowed" "I", Cond.fieldLink RX12 34 "DiveChairsModel" "row" "[I", Cond.methodLink RX12 271 yX12_asTold, Cond.instanceMethod yX12_asTold, Cond.selects RX12 yX12_asTold yX12_asTold, Cond.code yX12_asTold cX12_asTold 1 none, Cond.fieldLink RX12 40 "DiveChairsModel" "without" "I", Cond.fieldLink RX12 255 "DiveChairsModel" "leansOff" "Z", Cond.fieldLink RX12 259 "DiveChairsModel" "dropHigh" "I", Cond.fieldLink RX12 262 "DiveChairsModel" "dropLow" "I"]
def wsX12_findLean_r2 : List Cond := [Cond.methodLink RX12 274 yX12_gathers, Cond.instanceMethod yX12_gathers, Cond.selects RX12 yX12_gathers yX12_gathers, Cond.code yX12_gathers cX12_gathers 5 none, Cond.fieldLink RX12 268 "DiveChairsModel" "movers" "I", Cond.fieldLink RX12 44 "DiveChairsModel" "mover" "I", Cond.methodLink RX12 162 yX12_markOf, Cond.instanceMethod yX12_markOf, Cond.selects RX12 yX12_markOf yX12_markOf, Cond.code yX12_markOf cX12_markOf 3 (some .int), Cond.methodLink RX12 265 yX12_leanIn, Cond.instanceMethod yX12_leanIn, Cond.selects RX12 yX12_leanIn yX12_leanIn, Cond.code yX12_leanIn cX12_leanIn 5 (some .int), Cond.methodLink RX12 134 yX12_comes, Cond.instanceMethod yX12_comes, Cond.selects RX12 yX12_comes yX12_comes, Cond.code yX12_comes cX12_comes 3 none]
def wsX12_findLean : List Cond := .code yX12_findLean cX12_findLean 7 none :: ((wsX12_findLean_r1 ++ wsX12_findLean_r2) ++ wsX120)
def wsX12_lean_r1 : List Cond := [Cond.constantLong RX12 73 (5), Cond.constantLong RX12 301 (3), Cond.constant RX12 277 (-1000000001), Cond.fieldLink RX12 306 "DiveChairsModel" "leanSum" "I", Cond.fieldLink RX12 309 "DiveChairsModel" "leanMany" "I", Cond.constant RX12 325 (-1000000004), Cond.fieldLink RX12 315 "DiveChairsModel" "leanLeast" "I", Cond.fieldLink RX12 318 "DiveChairsModel" "leanMost" "I", Cond.methodLink RX12 96 yX12_isJudge, Cond.instanceMethod yX12_isJudge, Cond.selects RX12 yX12_isJudge yX12_isJudge, Cond.initialized RX12, Cond.code yX12_isJudge cX12_isJudge 2 (some .boolean), Cond.fieldLink RX12 9 "DiveChairsModel" "s" "[I", Cond.methodLink RX12 69 yX12_isIn, Cond.static yX12_isIn, Cond.code yX12_isIn cX12_isIn 6 (some .boolean), Cond.methodLink RX12 321 yX12_findLean, Cond.instanceMethod yX12_findLean, Cond.selects RX12 yX12_findLean yX12_findLean, Cond.code yX12_findLean cX12_findLean 7 none, Cond.methodLink RX12 111 yX12_get, Cond.instanceMethod yX12_get, Cond.selects RX12 yX12_get yX12_get]
def wsX12_lean_r2 : List Cond := [Cond.code yX12_get cX12_get 3 (some .int), Cond.methodLink RX12 312 yX12_middleOf, Cond.instanceMethod yX12_middleOf, Cond.selects RX12 yX12_middleOf yX12_middleOf, Cond.code yX12_middleOf cX12_middleOf 2 (some .int), Cond.fieldLink RX12 128 "DiveChairsModel" "rowed" "I", Cond.fieldLink RX12 34 "DiveChairsModel" "row" "[I", Cond.methodLink RX12 271 yX12_asTold, Cond.instanceMethod yX12_asTold, Cond.selects RX12 yX12_asTold yX12_asTold, Cond.code yX12_asTold cX12_asTold 1 none, Cond.fieldLink RX12 40 "DiveChairsModel" "without" "I", Cond.fieldLink RX12 255 "DiveChairsModel" "leansOff" "Z", Cond.fieldLink RX12 259 "DiveChairsModel" "dropHigh" "I", Cond.fieldLink RX12 262 "DiveChairsModel" "dropLow" "I", Cond.methodLink RX12 274 yX12_gathers, Cond.instanceMethod yX12_gathers, Cond.selects RX12 yX12_gathers yX12_gathers, Cond.code yX12_gathers cX12_gathers 5 none, Cond.fieldLink RX12 268 "DiveChairsModel" "movers" "I", Cond.fieldLink RX12 44 "DiveChairsModel" "mover" "I", Cond.methodLink RX12 162 yX12_markOf, Cond.instanceMethod yX12_markOf, Cond.selects RX12 yX12_markOf yX12_markOf]
def wsX12_lean_r3 : List Cond := [Cond.code yX12_markOf cX12_markOf 3 (some .int), Cond.methodLink RX12 265 yX12_leanIn, Cond.instanceMethod yX12_leanIn, Cond.selects RX12 yX12_leanIn yX12_leanIn, Cond.code yX12_leanIn cX12_leanIn 5 (some .int), Cond.methodLink RX12 134 yX12_comes, Cond.instanceMethod yX12_comes, Cond.selects RX12 yX12_comes yX12_comes, Cond.code yX12_comes cX12_comes 3 none]
def wsX12_lean : List Cond := .code yX12_lean cX12_lean 4 (some .int) :: ((wsX12_lean_r1 ++ (wsX12_lean_r2 ++ wsX12_lean_r3)) ++ wsX120)
def wsX12_sits : List Cond := .code yX12_sits cX12_sits 7 (some .boolean) :: ([.methodLink RX12 99 yX12_onChair, .instanceMethod yX12_onChair, .selects RX12 yX12_onChair yX12_onChair, .initialized RX12, .code yX12_onChair cX12_onChair 3 (some .int), .fieldLink RX12 9 "DiveChairsModel" "s" "[I"] ++ wsX120)
def wsX12_findSums_r1 : List Cond := [Cond.fieldLink RX12 9 "DiveChairsModel" "s" "[I", Cond.fieldLink RX12 50 "DiveChairsModel" "lands" "[I", Cond.fieldLink RX12 47 "DiveChairsModel" "sums" "[I", Cond.fieldLink RX12 306 "DiveChairsModel" "leanSum" "I", Cond.fieldLink RX12 53 "DiveChairsModel" "together" "[Z", Cond.methodLink RX12 321 yX12_findLean, Cond.instanceMethod yX12_findLean, Cond.selects RX12 yX12_findLean yX12_findLean, Cond.initialized RX12, Cond.code yX12_findLean cX12_findLean 7 none, Cond.fieldLink RX12 309 "DiveChairsModel" "leanMany" "I", Cond.fieldLink RX12 315 "DiveChairsModel" "leanLeast" "I", Cond.fieldLink RX12 318 "DiveChairsModel" "leanMost" "I", Cond.methodLink RX12 111 yX12_get, Cond.instanceMethod yX12_get, Cond.selects RX12 yX12_get yX12_get, Cond.code yX12_get cX12_get 3 (some .int), Cond.methodLink RX12 312 yX12_middleOf, Cond.instanceMethod yX12_middleOf, Cond.selects RX12 yX12_middleOf yX12_middleOf, Cond.code yX12_middleOf cX12_middleOf 2 (some .int), Cond.fieldLink RX12 128 "DiveChairsModel" "rowed" "I", Cond.fieldLink RX12 34 "DiveChairsModel" "row" "[I", Cond.methodLink RX12 271 yX12_asTold]
def wsX12_findSums_r2 : List Cond := [Cond.instanceMethod yX12_asTold, Cond.selects RX12 yX12_asTold yX12_asTold, Cond.code yX12_asTold cX12_asTold 1 none, Cond.fieldLink RX12 40 "DiveChairsModel" "without" "I", Cond.fieldLink RX12 255 "DiveChairsModel" "leansOff" "Z", Cond.fieldLink RX12 259 "DiveChairsModel" "dropHigh" "I", Cond.fieldLink RX12 262 "DiveChairsModel" "dropLow" "I", Cond.methodLink RX12 274 yX12_gathers, Cond.instanceMethod yX12_gathers, Cond.selects RX12 yX12_gathers yX12_gathers, Cond.code yX12_gathers cX12_gathers 5 none, Cond.fieldLink RX12 268 "DiveChairsModel" "movers" "I", Cond.fieldLink RX12 44 "DiveChairsModel" "mover" "I", Cond.methodLink RX12 162 yX12_markOf, Cond.instanceMethod yX12_markOf, Cond.selects RX12 yX12_markOf yX12_markOf, Cond.code yX12_markOf cX12_markOf 3 (some .int), Cond.methodLink RX12 265 yX12_leanIn, Cond.instanceMethod yX12_leanIn, Cond.selects RX12 yX12_leanIn yX12_leanIn, Cond.code yX12_leanIn cX12_leanIn 5 (some .int), Cond.methodLink RX12 134 yX12_comes, Cond.instanceMethod yX12_comes, Cond.selects RX12 yX12_comes yX12_comes]
def wsX12_findSums_r3 : List Cond := [Cond.code yX12_comes cX12_comes 3 none, Cond.methodLink RX12 326 yX12_sits, Cond.instanceMethod yX12_sits, Cond.selects RX12 yX12_sits yX12_sits, Cond.code yX12_sits cX12_sits 7 (some .boolean), Cond.methodLink RX12 99 yX12_onChair, Cond.instanceMethod yX12_onChair, Cond.selects RX12 yX12_onChair yX12_onChair, Cond.code yX12_onChair cX12_onChair 3 (some .int)]
def wsX12_findSums : List Cond := .code yX12_findSums cX12_findSums 3 none :: ((wsX12_findSums_r1 ++ (wsX12_findSums_r2 ++ wsX12_findSums_r3)) ++ wsX120)
def wsX12_pairsNow : List Cond := .code yX12_pairsNow cX12_pairsNow 4 (some .int) :: ([.fieldLink RX12 9 "DiveChairsModel" "s" "[I", .fieldLink RX12 50 "DiveChairsModel" "lands" "[I", .fieldLink RX12 53 "DiveChairsModel" "together" "[Z", .fieldLink RX12 47 "DiveChairsModel" "sums" "[I"] ++ wsX120)
def wsX12_pairs_r1 : List Cond := [Cond.methodLink RX12 329 yX12_findSums, Cond.instanceMethod yX12_findSums, Cond.selects RX12 yX12_findSums yX12_findSums, Cond.initialized RX12, Cond.code yX12_findSums cX12_findSums 3 none, Cond.fieldLink RX12 9 "DiveChairsModel" "s" "[I", Cond.fieldLink RX12 50 "DiveChairsModel" "lands" "[I", Cond.fieldLink RX12 47 "DiveChairsModel" "sums" "[I", Cond.fieldLink RX12 306 "DiveChairsModel" "leanSum" "I", Cond.fieldLink RX12 53 "DiveChairsModel" "together" "[Z", Cond.methodLink RX12 321 yX12_findLean, Cond.instanceMethod yX12_findLean, Cond.selects RX12 yX12_findLean yX12_findLean, Cond.code yX12_findLean cX12_findLean 7 none, Cond.fieldLink RX12 309 "DiveChairsModel" "leanMany" "I", Cond.fieldLink RX12 315 "DiveChairsModel" "leanLeast" "I", Cond.fieldLink RX12 318 "DiveChairsModel" "leanMost" "I", Cond.methodLink RX12 111 yX12_get, Cond.instanceMethod yX12_get, Cond.selects RX12 yX12_get yX12_get, Cond.code yX12_get cX12_get 3 (some .int), Cond.methodLink RX12 312 yX12_middleOf, Cond.instanceMethod yX12_middleOf, Cond.selects RX12 yX12_middleOf yX12_middleOf]
def wsX12_pairs_r2 : List Cond := [Cond.code yX12_middleOf cX12_middleOf 2 (some .int), Cond.fieldLink RX12 128 "DiveChairsModel" "rowed" "I", Cond.fieldLink RX12 34 "DiveChairsModel" "row" "[I", Cond.methodLink RX12 271 yX12_asTold, Cond.instanceMethod yX12_asTold, Cond.selects RX12 yX12_asTold yX12_asTold, Cond.code yX12_asTold cX12_asTold 1 none, Cond.fieldLink RX12 40 "DiveChairsModel" "without" "I", Cond.fieldLink RX12 255 "DiveChairsModel" "leansOff" "Z", Cond.fieldLink RX12 259 "DiveChairsModel" "dropHigh" "I", Cond.fieldLink RX12 262 "DiveChairsModel" "dropLow" "I", Cond.methodLink RX12 274 yX12_gathers, Cond.instanceMethod yX12_gathers, Cond.selects RX12 yX12_gathers yX12_gathers, Cond.code yX12_gathers cX12_gathers 5 none, Cond.fieldLink RX12 268 "DiveChairsModel" "movers" "I", Cond.fieldLink RX12 44 "DiveChairsModel" "mover" "I", Cond.methodLink RX12 162 yX12_markOf, Cond.instanceMethod yX12_markOf, Cond.selects RX12 yX12_markOf yX12_markOf, Cond.code yX12_markOf cX12_markOf 3 (some .int), Cond.methodLink RX12 265 yX12_leanIn, Cond.instanceMethod yX12_leanIn, Cond.selects RX12 yX12_leanIn yX12_leanIn]
def wsX12_pairs_r3 : List Cond := [Cond.code yX12_leanIn cX12_leanIn 5 (some .int), Cond.methodLink RX12 134 yX12_comes, Cond.instanceMethod yX12_comes, Cond.selects RX12 yX12_comes yX12_comes, Cond.code yX12_comes cX12_comes 3 none, Cond.methodLink RX12 326 yX12_sits, Cond.instanceMethod yX12_sits, Cond.selects RX12 yX12_sits yX12_sits, Cond.code yX12_sits cX12_sits 7 (some .boolean), Cond.methodLink RX12 99 yX12_onChair, Cond.instanceMethod yX12_onChair, Cond.selects RX12 yX12_onChair yX12_onChair, Cond.code yX12_onChair cX12_onChair 3 (some .int), Cond.methodLink RX12 332 yX12_pairsNow, Cond.instanceMethod yX12_pairsNow, Cond.selects RX12 yX12_pairsNow yX12_pairsNow, Cond.code yX12_pairsNow cX12_pairsNow 4 (some .int)]
def wsX12_pairs : List Cond := .code yX12_pairs cX12_pairs 1 (some .int) :: ((wsX12_pairs_r1 ++ (wsX12_pairs_r2 ++ wsX12_pairs_r3)) ++ wsX120)
def wsX12_deals : List Cond := .code yX12_deals cX12_deals 5 none :: ([.fieldLink RX12 9 "DiveChairsModel" "s" "[I", .fieldLink RX12 335 "DiveChairsModel" "ways" "I", .fieldLink RX12 338 "DiveChairsModel" "asMany" "I", .fieldLink RX12 50 "DiveChairsModel" "lands" "[I", .methodLink RX12 332 yX12_pairsNow, .instanceMethod yX12_pairsNow, .selects RX12 yX12_pairsNow yX12_pairsNow, .initialized RX12, .code yX12_pairsNow cX12_pairsNow 4 (some .int), .fieldLink RX12 53 "DiveChairsModel" "together" "[Z", .fieldLink RX12 47 "DiveChairsModel" "sums" "[I", .methodLink RX12 341 yX12_deals, .instanceMethod yX12_deals, .selects RX12 yX12_deals yX12_deals] ++ wsX120)
def wsX12_pairOdds_r1 : List Cond := [Cond.fieldLink RX12 9 "DiveChairsModel" "s" "[I", Cond.fieldLink RX12 335 "DiveChairsModel" "ways" "I", Cond.fieldLink RX12 338 "DiveChairsModel" "asMany" "I", Cond.methodLink RX12 69 yX12_isIn, Cond.static yX12_isIn, Cond.initialized RX12, Cond.code yX12_isIn cX12_isIn 6 (some .boolean), Cond.methodLink RX12 329 yX12_findSums, Cond.instanceMethod yX12_findSums, Cond.selects RX12 yX12_findSums yX12_findSums, Cond.code yX12_findSums cX12_findSums 3 none, Cond.fieldLink RX12 50 "DiveChairsModel" "lands" "[I", Cond.fieldLink RX12 47 "DiveChairsModel" "sums" "[I", Cond.fieldLink RX12 306 "DiveChairsModel" "leanSum" "I", Cond.fieldLink RX12 53 "DiveChairsModel" "together" "[Z", Cond.methodLink RX12 321 yX12_findLean, Cond.instanceMethod yX12_findLean, Cond.selects RX12 yX12_findLean yX12_findLean, Cond.code yX12_findLean cX12_findLean 7 none, Cond.fieldLink RX12 309 "DiveChairsModel" "leanMany" "I", Cond.fieldLink RX12 315 "DiveChairsModel" "leanLeast" "I", Cond.fieldLink RX12 318 "DiveChairsModel" "leanMost" "I", Cond.methodLink RX12 111 yX12_get, Cond.instanceMethod yX12_get]
def wsX12_pairOdds_r2 : List Cond := [Cond.selects RX12 yX12_get yX12_get, Cond.code yX12_get cX12_get 3 (some .int), Cond.methodLink RX12 312 yX12_middleOf, Cond.instanceMethod yX12_middleOf, Cond.selects RX12 yX12_middleOf yX12_middleOf, Cond.code yX12_middleOf cX12_middleOf 2 (some .int), Cond.fieldLink RX12 128 "DiveChairsModel" "rowed" "I", Cond.fieldLink RX12 34 "DiveChairsModel" "row" "[I", Cond.methodLink RX12 271 yX12_asTold, Cond.instanceMethod yX12_asTold, Cond.selects RX12 yX12_asTold yX12_asTold, Cond.code yX12_asTold cX12_asTold 1 none, Cond.fieldLink RX12 40 "DiveChairsModel" "without" "I", Cond.fieldLink RX12 255 "DiveChairsModel" "leansOff" "Z", Cond.fieldLink RX12 259 "DiveChairsModel" "dropHigh" "I", Cond.fieldLink RX12 262 "DiveChairsModel" "dropLow" "I", Cond.methodLink RX12 274 yX12_gathers, Cond.instanceMethod yX12_gathers, Cond.selects RX12 yX12_gathers yX12_gathers, Cond.code yX12_gathers cX12_gathers 5 none, Cond.fieldLink RX12 268 "DiveChairsModel" "movers" "I", Cond.fieldLink RX12 44 "DiveChairsModel" "mover" "I", Cond.methodLink RX12 162 yX12_markOf, Cond.instanceMethod yX12_markOf]
def wsX12_pairOdds_r3 : List Cond := [Cond.selects RX12 yX12_markOf yX12_markOf, Cond.code yX12_markOf cX12_markOf 3 (some .int), Cond.methodLink RX12 265 yX12_leanIn, Cond.instanceMethod yX12_leanIn, Cond.selects RX12 yX12_leanIn yX12_leanIn, Cond.code yX12_leanIn cX12_leanIn 5 (some .int), Cond.methodLink RX12 134 yX12_comes, Cond.instanceMethod yX12_comes, Cond.selects RX12 yX12_comes yX12_comes, Cond.code yX12_comes cX12_comes 3 none, Cond.methodLink RX12 326 yX12_sits, Cond.instanceMethod yX12_sits, Cond.selects RX12 yX12_sits yX12_sits, Cond.code yX12_sits cX12_sits 7 (some .boolean), Cond.methodLink RX12 99 yX12_onChair, Cond.instanceMethod yX12_onChair, Cond.selects RX12 yX12_onChair yX12_onChair, Cond.code yX12_onChair cX12_onChair 3 (some .int), Cond.methodLink RX12 332 yX12_pairsNow, Cond.instanceMethod yX12_pairsNow, Cond.selects RX12 yX12_pairsNow yX12_pairsNow, Cond.code yX12_pairsNow cX12_pairsNow 4 (some .int), Cond.methodLink RX12 341 yX12_deals, Cond.instanceMethod yX12_deals]
def wsX12_pairOdds_r4 : List Cond := [Cond.selects RX12 yX12_deals yX12_deals, Cond.code yX12_deals cX12_deals 5 none]
def wsX12_pairOdds : List Cond := .code yX12_pairOdds cX12_pairOdds 2 (some .int) :: ((wsX12_pairOdds_r1 ++ (wsX12_pairOdds_r2 ++ (wsX12_pairOdds_r3 ++ wsX12_pairOdds_r4))) ++ wsX120)
def wsX12_findCounts_r1 : List Cond := [Cond.fieldLink RX12 345 "DiveChairsModel" "countedMany" "I", Cond.fieldLink RX12 9 "DiveChairsModel" "s" "[I", Cond.fieldLink RX12 57 "DiveChairsModel" "counted" "[I", Cond.fieldLink RX12 60 "DiveChairsModel" "orderOf" "[I", Cond.methodLink RX12 271 yX12_asTold, Cond.instanceMethod yX12_asTold, Cond.selects RX12 yX12_asTold yX12_asTold, Cond.initialized RX12, Cond.code yX12_asTold cX12_asTold 1 none, Cond.fieldLink RX12 40 "DiveChairsModel" "without" "I", Cond.fieldLink RX12 255 "DiveChairsModel" "leansOff" "Z", Cond.fieldLink RX12 259 "DiveChairsModel" "dropHigh" "I", Cond.fieldLink RX12 262 "DiveChairsModel" "dropLow" "I", Cond.methodLink RX12 111 yX12_get, Cond.instanceMethod yX12_get, Cond.selects RX12 yX12_get yX12_get, Cond.code yX12_get cX12_get 3 (some .int), Cond.methodLink RX12 278 yX12_countsNow, Cond.instanceMethod yX12_countsNow, Cond.selects RX12 yX12_countsNow yX12_countsNow, Cond.code yX12_countsNow cX12_countsNow 3 (some .int), Cond.fieldLink RX12 128 "DiveChairsModel" "rowed" "I", Cond.fieldLink RX12 234 "DiveChairsModel" "sum" "I", Cond.fieldLink RX12 237 "DiveChairsModel" "many" "I"]
def wsX12_findCounts_r2 : List Cond := [Cond.fieldLink RX12 34 "DiveChairsModel" "row" "[I", Cond.fieldLink RX12 240 "DiveChairsModel" "hard" "I", Cond.fieldLink RX12 243 "DiveChairsModel" "middle" "I", Cond.fieldLink RX12 246 "DiveChairsModel" "highest" "I", Cond.fieldLink RX12 249 "DiveChairsModel" "lowest" "I", Cond.fieldLink RX12 252 "DiveChairsModel" "splash" "I", Cond.fieldLink RX12 37 "DiveChairsModel" "text" "[I", Cond.fieldLink RX12 171 "DiveChairsModel" "base" "I", Cond.fieldLink RX12 168 "DiveChairsModel" "end" "I", Cond.fieldLink RX12 165 "DiveChairsModel" "pos" "I", Cond.methodLink RX12 274 yX12_gathers, Cond.instanceMethod yX12_gathers, Cond.selects RX12 yX12_gathers yX12_gathers, Cond.code yX12_gathers cX12_gathers 5 none, Cond.fieldLink RX12 268 "DiveChairsModel" "movers" "I", Cond.fieldLink RX12 44 "DiveChairsModel" "mover" "I", Cond.methodLink RX12 162 yX12_markOf, Cond.instanceMethod yX12_markOf, Cond.selects RX12 yX12_markOf yX12_markOf, Cond.code yX12_markOf cX12_markOf 3 (some .int), Cond.methodLink RX12 265 yX12_leanIn, Cond.instanceMethod yX12_leanIn, Cond.selects RX12 yX12_leanIn yX12_leanIn, Cond.code yX12_leanIn cX12_leanIn 5 (some .int)]
def wsX12_findCounts_r3 : List Cond := [Cond.methodLink RX12 134 yX12_comes, Cond.instanceMethod yX12_comes, Cond.selects RX12 yX12_comes yX12_comes, Cond.code yX12_comes cX12_comes 3 none, Cond.methodLink RX12 231 yX12_sumOf, Cond.instanceMethod yX12_sumOf, Cond.selects RX12 yX12_sumOf yX12_sumOf, Cond.code yX12_sumOf cX12_sumOf 4 (some .int), Cond.methodLink RX12 225 yX12_product, Cond.instanceMethod yX12_product, Cond.selects RX12 yX12_product yX12_product, Cond.methodLink RX12 174 yX12_sign, Cond.instanceMethod yX12_sign, Cond.selects RX12 yX12_sign yX12_sign, Cond.code yX12_sign cX12_sign 1 (some .int), Cond.code yX12_atom cX12_atom 4 (some .int), Cond.constantLong RX12 178 (48), Cond.constantLong RX12 180 (57), Cond.fieldLink RX12 182 "DiveChairsModel" "number" "I", Cond.methodLink RX12 69 yX12_isIn, Cond.static yX12_isIn, Cond.code yX12_isIn cX12_isIn 6 (some .boolean), Cond.methodLink RX12 204 yX12_readsNumber, Cond.instanceMethod yX12_readsNumber]
def wsX12_findCounts_r4 : List Cond := [Cond.selects RX12 yX12_readsNumber yX12_readsNumber, Cond.code yX12_readsNumber cX12_readsNumber 2 (some .boolean), Cond.code yX12_product cX12_product 4 (some .int), Cond.methodLink RX12 228 yX12_atom, Cond.instanceMethod yX12_atom, Cond.selects RX12 yX12_atom yX12_atom]
def wsX12_findCounts : List Cond := .code yX12_findCounts cX12_findCounts 3 none :: ((wsX12_findCounts_r1 ++ (wsX12_findCounts_r2 ++ (wsX12_findCounts_r3 ++ wsX12_findCounts_r4))) ++ wsX120)
def wsX12_orderNow : List Cond := .code yX12_orderNow cX12_orderNow 4 (some .int) :: ([.fieldLink RX12 345 "DiveChairsModel" "countedMany" "I", .fieldLink RX12 60 "DiveChairsModel" "orderOf" "[I"] ++ wsX120)
def wsX12_order_r1 : List Cond := [Cond.constant RX12 277 (-1000000001), Cond.methodLink RX12 83 yX12_isHall, Cond.static yX12_isHall, Cond.initialized RX12, Cond.code yX12_isHall cX12_isHall 1 (some .boolean), Cond.constantLong RX12 73 (5), Cond.methodLink RX12 69 yX12_isIn, Cond.static yX12_isIn, Cond.code yX12_isIn cX12_isIn 6 (some .boolean), Cond.methodLink RX12 348 yX12_findCounts, Cond.instanceMethod yX12_findCounts, Cond.selects RX12 yX12_findCounts yX12_findCounts, Cond.code yX12_findCounts cX12_findCounts 3 none, Cond.fieldLink RX12 345 "DiveChairsModel" "countedMany" "I", Cond.fieldLink RX12 9 "DiveChairsModel" "s" "[I", Cond.fieldLink RX12 57 "DiveChairsModel" "counted" "[I", Cond.fieldLink RX12 60 "DiveChairsModel" "orderOf" "[I", Cond.methodLink RX12 271 yX12_asTold, Cond.instanceMethod yX12_asTold, Cond.selects RX12 yX12_asTold yX12_asTold, Cond.code yX12_asTold cX12_asTold 1 none, Cond.fieldLink RX12 40 "DiveChairsModel" "without" "I", Cond.fieldLink RX12 255 "DiveChairsModel" "leansOff" "Z", Cond.fieldLink RX12 259 "DiveChairsModel" "dropHigh" "I"]
def wsX12_order_r2 : List Cond := [Cond.fieldLink RX12 262 "DiveChairsModel" "dropLow" "I", Cond.methodLink RX12 111 yX12_get, Cond.instanceMethod yX12_get, Cond.selects RX12 yX12_get yX12_get, Cond.code yX12_get cX12_get 3 (some .int), Cond.methodLink RX12 278 yX12_countsNow, Cond.instanceMethod yX12_countsNow, Cond.selects RX12 yX12_countsNow yX12_countsNow, Cond.code yX12_countsNow cX12_countsNow 3 (some .int), Cond.fieldLink RX12 128 "DiveChairsModel" "rowed" "I", Cond.fieldLink RX12 234 "DiveChairsModel" "sum" "I", Cond.fieldLink RX12 237 "DiveChairsModel" "many" "I", Cond.fieldLink RX12 34 "DiveChairsModel" "row" "[I", Cond.fieldLink RX12 240 "DiveChairsModel" "hard" "I", Cond.fieldLink RX12 243 "DiveChairsModel" "middle" "I", Cond.fieldLink RX12 246 "DiveChairsModel" "highest" "I", Cond.fieldLink RX12 249 "DiveChairsModel" "lowest" "I", Cond.fieldLink RX12 252 "DiveChairsModel" "splash" "I", Cond.fieldLink RX12 37 "DiveChairsModel" "text" "[I", Cond.fieldLink RX12 171 "DiveChairsModel" "base" "I", Cond.fieldLink RX12 168 "DiveChairsModel" "end" "I", Cond.fieldLink RX12 165 "DiveChairsModel" "pos" "I", Cond.methodLink RX12 274 yX12_gathers, Cond.instanceMethod yX12_gathers]
def wsX12_order_r3 : List Cond := [Cond.selects RX12 yX12_gathers yX12_gathers, Cond.code yX12_gathers cX12_gathers 5 none, Cond.fieldLink RX12 268 "DiveChairsModel" "movers" "I", Cond.fieldLink RX12 44 "DiveChairsModel" "mover" "I", Cond.methodLink RX12 162 yX12_markOf, Cond.instanceMethod yX12_markOf, Cond.selects RX12 yX12_markOf yX12_markOf, Cond.code yX12_markOf cX12_markOf 3 (some .int), Cond.methodLink RX12 265 yX12_leanIn, Cond.instanceMethod yX12_leanIn, Cond.selects RX12 yX12_leanIn yX12_leanIn, Cond.code yX12_leanIn cX12_leanIn 5 (some .int), Cond.methodLink RX12 134 yX12_comes, Cond.instanceMethod yX12_comes, Cond.selects RX12 yX12_comes yX12_comes, Cond.code yX12_comes cX12_comes 3 none, Cond.methodLink RX12 231 yX12_sumOf, Cond.instanceMethod yX12_sumOf, Cond.selects RX12 yX12_sumOf yX12_sumOf, Cond.code yX12_sumOf cX12_sumOf 4 (some .int), Cond.methodLink RX12 225 yX12_product, Cond.instanceMethod yX12_product, Cond.selects RX12 yX12_product yX12_product, Cond.methodLink RX12 174 yX12_sign]
def wsX12_order_r4 : List Cond := [Cond.instanceMethod yX12_sign, Cond.selects RX12 yX12_sign yX12_sign, Cond.code yX12_sign cX12_sign 1 (some .int), Cond.code yX12_atom cX12_atom 4 (some .int), Cond.constantLong RX12 178 (48), Cond.constantLong RX12 180 (57), Cond.fieldLink RX12 182 "DiveChairsModel" "number" "I", Cond.methodLink RX12 204 yX12_readsNumber, Cond.instanceMethod yX12_readsNumber, Cond.selects RX12 yX12_readsNumber yX12_readsNumber, Cond.code yX12_readsNumber cX12_readsNumber 2 (some .boolean), Cond.code yX12_product cX12_product 4 (some .int), Cond.methodLink RX12 228 yX12_atom, Cond.instanceMethod yX12_atom, Cond.selects RX12 yX12_atom yX12_atom, Cond.methodLink RX12 351 yX12_orderNow, Cond.instanceMethod yX12_orderNow, Cond.selects RX12 yX12_orderNow yX12_orderNow, Cond.code yX12_orderNow cX12_orderNow 4 (some .int)]
def wsX12_order : List Cond := .code yX12_order cX12_order 2 (some .int) :: ((wsX12_order_r1 ++ (wsX12_order_r2 ++ (wsX12_order_r3 ++ wsX12_order_r4))) ++ wsX120)
def wsX12_orders : List Cond := .code yX12_orders cX12_orders 5 none :: ([.fieldLink RX12 345 "DiveChairsModel" "countedMany" "I", .fieldLink RX12 335 "DiveChairsModel" "ways" "I", .fieldLink RX12 338 "DiveChairsModel" "asMany" "I", .fieldLink RX12 60 "DiveChairsModel" "orderOf" "[I", .fieldLink RX12 57 "DiveChairsModel" "counted" "[I", .methodLink RX12 351 yX12_orderNow, .instanceMethod yX12_orderNow, .selects RX12 yX12_orderNow yX12_orderNow, .initialized RX12, .code yX12_orderNow cX12_orderNow 4 (some .int), .methodLink RX12 354 yX12_orders, .instanceMethod yX12_orders, .selects RX12 yX12_orders yX12_orders] ++ wsX120)
def wsX12_orderOdds_r1 : List Cond := [Cond.fieldLink RX12 345 "DiveChairsModel" "countedMany" "I", Cond.fieldLink RX12 335 "DiveChairsModel" "ways" "I", Cond.fieldLink RX12 338 "DiveChairsModel" "asMany" "I", Cond.methodLink RX12 83 yX12_isHall, Cond.static yX12_isHall, Cond.initialized RX12, Cond.code yX12_isHall cX12_isHall 1 (some .boolean), Cond.constantLong RX12 73 (5), Cond.methodLink RX12 69 yX12_isIn, Cond.static yX12_isIn, Cond.code yX12_isIn cX12_isIn 6 (some .boolean), Cond.methodLink RX12 348 yX12_findCounts, Cond.instanceMethod yX12_findCounts, Cond.selects RX12 yX12_findCounts yX12_findCounts, Cond.code yX12_findCounts cX12_findCounts 3 none, Cond.fieldLink RX12 9 "DiveChairsModel" "s" "[I", Cond.fieldLink RX12 57 "DiveChairsModel" "counted" "[I", Cond.fieldLink RX12 60 "DiveChairsModel" "orderOf" "[I", Cond.methodLink RX12 271 yX12_asTold, Cond.instanceMethod yX12_asTold, Cond.selects RX12 yX12_asTold yX12_asTold, Cond.code yX12_asTold cX12_asTold 1 none, Cond.fieldLink RX12 40 "DiveChairsModel" "without" "I", Cond.fieldLink RX12 255 "DiveChairsModel" "leansOff" "Z"]
def wsX12_orderOdds_r2 : List Cond := [Cond.fieldLink RX12 259 "DiveChairsModel" "dropHigh" "I", Cond.fieldLink RX12 262 "DiveChairsModel" "dropLow" "I", Cond.methodLink RX12 111 yX12_get, Cond.instanceMethod yX12_get, Cond.selects RX12 yX12_get yX12_get, Cond.code yX12_get cX12_get 3 (some .int), Cond.methodLink RX12 278 yX12_countsNow, Cond.instanceMethod yX12_countsNow, Cond.selects RX12 yX12_countsNow yX12_countsNow, Cond.code yX12_countsNow cX12_countsNow 3 (some .int), Cond.fieldLink RX12 128 "DiveChairsModel" "rowed" "I", Cond.fieldLink RX12 234 "DiveChairsModel" "sum" "I", Cond.fieldLink RX12 237 "DiveChairsModel" "many" "I", Cond.fieldLink RX12 34 "DiveChairsModel" "row" "[I", Cond.fieldLink RX12 240 "DiveChairsModel" "hard" "I", Cond.fieldLink RX12 243 "DiveChairsModel" "middle" "I", Cond.fieldLink RX12 246 "DiveChairsModel" "highest" "I", Cond.fieldLink RX12 249 "DiveChairsModel" "lowest" "I", Cond.fieldLink RX12 252 "DiveChairsModel" "splash" "I", Cond.fieldLink RX12 37 "DiveChairsModel" "text" "[I", Cond.fieldLink RX12 171 "DiveChairsModel" "base" "I", Cond.fieldLink RX12 168 "DiveChairsModel" "end" "I", Cond.fieldLink RX12 165 "DiveChairsModel" "pos" "I", Cond.methodLink RX12 274 yX12_gathers]
def wsX12_orderOdds_r3 : List Cond := [Cond.instanceMethod yX12_gathers, Cond.selects RX12 yX12_gathers yX12_gathers, Cond.code yX12_gathers cX12_gathers 5 none, Cond.fieldLink RX12 268 "DiveChairsModel" "movers" "I", Cond.fieldLink RX12 44 "DiveChairsModel" "mover" "I", Cond.methodLink RX12 162 yX12_markOf, Cond.instanceMethod yX12_markOf, Cond.selects RX12 yX12_markOf yX12_markOf, Cond.code yX12_markOf cX12_markOf 3 (some .int), Cond.methodLink RX12 265 yX12_leanIn, Cond.instanceMethod yX12_leanIn, Cond.selects RX12 yX12_leanIn yX12_leanIn, Cond.code yX12_leanIn cX12_leanIn 5 (some .int), Cond.methodLink RX12 134 yX12_comes, Cond.instanceMethod yX12_comes, Cond.selects RX12 yX12_comes yX12_comes, Cond.code yX12_comes cX12_comes 3 none, Cond.methodLink RX12 231 yX12_sumOf, Cond.instanceMethod yX12_sumOf, Cond.selects RX12 yX12_sumOf yX12_sumOf, Cond.code yX12_sumOf cX12_sumOf 4 (some .int), Cond.methodLink RX12 225 yX12_product, Cond.instanceMethod yX12_product, Cond.selects RX12 yX12_product yX12_product]
def wsX12_orderOdds_r4 : List Cond := [Cond.methodLink RX12 174 yX12_sign, Cond.instanceMethod yX12_sign, Cond.selects RX12 yX12_sign yX12_sign, Cond.code yX12_sign cX12_sign 1 (some .int), Cond.code yX12_atom cX12_atom 4 (some .int), Cond.constantLong RX12 178 (48), Cond.constantLong RX12 180 (57), Cond.fieldLink RX12 182 "DiveChairsModel" "number" "I", Cond.methodLink RX12 204 yX12_readsNumber, Cond.instanceMethod yX12_readsNumber, Cond.selects RX12 yX12_readsNumber yX12_readsNumber, Cond.code yX12_readsNumber cX12_readsNumber 2 (some .boolean), Cond.code yX12_product cX12_product 4 (some .int), Cond.methodLink RX12 228 yX12_atom, Cond.instanceMethod yX12_atom, Cond.selects RX12 yX12_atom yX12_atom, Cond.methodLink RX12 351 yX12_orderNow, Cond.instanceMethod yX12_orderNow, Cond.selects RX12 yX12_orderNow yX12_orderNow, Cond.code yX12_orderNow cX12_orderNow 4 (some .int), Cond.methodLink RX12 354 yX12_orders, Cond.instanceMethod yX12_orders, Cond.selects RX12 yX12_orders yX12_orders, Cond.code yX12_orders cX12_orders 5 none]
def wsX12_orderOdds : List Cond := .code yX12_orderOdds cX12_orderOdds 3 (some .int) :: ((wsX12_orderOdds_r1 ++ (wsX12_orderOdds_r2 ++ (wsX12_orderOdds_r3 ++ wsX12_orderOdds_r4))) ++ wsX120)
def wsX12_meanIn : List Cond := .code yX12_meanIn cX12_meanIn 7 (some .int) :: ([.fieldLink RX12 9 "DiveChairsModel" "s" "[I", .methodLink RX12 111 yX12_get, .instanceMethod yX12_get, .selects RX12 yX12_get yX12_get, .initialized RX12, .code yX12_get cX12_get 3 (some .int), .methodLink RX12 162 yX12_markOf, .instanceMethod yX12_markOf, .selects RX12 yX12_markOf yX12_markOf, .code yX12_markOf cX12_markOf 3 (some .int)] ++ wsX120)
def wsX12_creep : List Cond := .code yX12_creep cX12_creep 8 (some .int) :: ([.constantLong RX12 87 (40), .constant RX12 277 (-1000000001), .fieldLink RX12 9 "DiveChairsModel" "s" "[I", .constant RX12 325 (-1000000004), .methodLink RX12 69 yX12_isIn, .static yX12_isIn, .initialized RX12, .code yX12_isIn cX12_isIn 6 (some .boolean), .methodLink RX12 357 yX12_meanIn, .instanceMethod yX12_meanIn, .selects RX12 yX12_meanIn yX12_meanIn, .code yX12_meanIn cX12_meanIn 7 (some .int), .methodLink RX12 111 yX12_get, .instanceMethod yX12_get, .selects RX12 yX12_get yX12_get, .code yX12_get cX12_get 3 (some .int), .methodLink RX12 162 yX12_markOf, .instanceMethod yX12_markOf, .selects RX12 yX12_markOf yX12_markOf, .code yX12_markOf cX12_markOf 3 (some .int)] ++ wsX120)
def wsX12_findNear_r1 : List Cond := [Cond.fieldLink RX12 360 "DiveChairsModel" "nearSum" "I", Cond.fieldLink RX12 363 "DiveChairsModel" "nearMany" "I", Cond.fieldLink RX12 9 "DiveChairsModel" "s" "[I", Cond.methodLink RX12 312 yX12_middleOf, Cond.instanceMethod yX12_middleOf, Cond.selects RX12 yX12_middleOf yX12_middleOf, Cond.initialized RX12, Cond.code yX12_middleOf cX12_middleOf 2 (some .int), Cond.fieldLink RX12 128 "DiveChairsModel" "rowed" "I", Cond.fieldLink RX12 34 "DiveChairsModel" "row" "[I", Cond.methodLink RX12 271 yX12_asTold, Cond.instanceMethod yX12_asTold, Cond.selects RX12 yX12_asTold yX12_asTold, Cond.code yX12_asTold cX12_asTold 1 none, Cond.fieldLink RX12 40 "DiveChairsModel" "without" "I", Cond.fieldLink RX12 255 "DiveChairsModel" "leansOff" "Z", Cond.fieldLink RX12 259 "DiveChairsModel" "dropHigh" "I", Cond.fieldLink RX12 262 "DiveChairsModel" "dropLow" "I", Cond.methodLink RX12 274 yX12_gathers, Cond.instanceMethod yX12_gathers, Cond.selects RX12 yX12_gathers yX12_gathers, Cond.code yX12_gathers cX12_gathers 5 none, Cond.fieldLink RX12 268 "DiveChairsModel" "movers" "I", Cond.fieldLink RX12 44 "DiveChairsModel" "mover" "I"]
def wsX12_findNear_r2 : List Cond := [Cond.methodLink RX12 162 yX12_markOf, Cond.instanceMethod yX12_markOf, Cond.selects RX12 yX12_markOf yX12_markOf, Cond.code yX12_markOf cX12_markOf 3 (some .int), Cond.methodLink RX12 111 yX12_get, Cond.instanceMethod yX12_get, Cond.selects RX12 yX12_get yX12_get, Cond.code yX12_get cX12_get 3 (some .int), Cond.methodLink RX12 265 yX12_leanIn, Cond.instanceMethod yX12_leanIn, Cond.selects RX12 yX12_leanIn yX12_leanIn, Cond.code yX12_leanIn cX12_leanIn 5 (some .int), Cond.methodLink RX12 134 yX12_comes, Cond.instanceMethod yX12_comes, Cond.selects RX12 yX12_comes yX12_comes, Cond.code yX12_comes cX12_comes 3 none]
def wsX12_findNear : List Cond := .code yX12_findNear cX12_findNear 6 none :: ((wsX12_findNear_r1 ++ wsX12_findNear_r2) ++ wsX120)
def wsX12_near_r1 : List Cond := [Cond.fieldLink RX12 363 "DiveChairsModel" "nearMany" "I", Cond.fieldLink RX12 360 "DiveChairsModel" "nearSum" "I", Cond.methodLink RX12 96 yX12_isJudge, Cond.instanceMethod yX12_isJudge, Cond.selects RX12 yX12_isJudge yX12_isJudge, Cond.initialized RX12, Cond.code yX12_isJudge cX12_isJudge 2 (some .boolean), Cond.fieldLink RX12 9 "DiveChairsModel" "s" "[I", Cond.methodLink RX12 69 yX12_isIn, Cond.static yX12_isIn, Cond.code yX12_isIn cX12_isIn 6 (some .boolean), Cond.methodLink RX12 366 yX12_findNear, Cond.instanceMethod yX12_findNear, Cond.selects RX12 yX12_findNear yX12_findNear, Cond.code yX12_findNear cX12_findNear 6 none, Cond.methodLink RX12 312 yX12_middleOf, Cond.instanceMethod yX12_middleOf, Cond.selects RX12 yX12_middleOf yX12_middleOf, Cond.code yX12_middleOf cX12_middleOf 2 (some .int), Cond.fieldLink RX12 128 "DiveChairsModel" "rowed" "I", Cond.fieldLink RX12 34 "DiveChairsModel" "row" "[I", Cond.methodLink RX12 271 yX12_asTold, Cond.instanceMethod yX12_asTold, Cond.selects RX12 yX12_asTold yX12_asTold]
def wsX12_near_r2 : List Cond := [Cond.code yX12_asTold cX12_asTold 1 none, Cond.fieldLink RX12 40 "DiveChairsModel" "without" "I", Cond.fieldLink RX12 255 "DiveChairsModel" "leansOff" "Z", Cond.fieldLink RX12 259 "DiveChairsModel" "dropHigh" "I", Cond.fieldLink RX12 262 "DiveChairsModel" "dropLow" "I", Cond.methodLink RX12 274 yX12_gathers, Cond.instanceMethod yX12_gathers, Cond.selects RX12 yX12_gathers yX12_gathers, Cond.code yX12_gathers cX12_gathers 5 none, Cond.fieldLink RX12 268 "DiveChairsModel" "movers" "I", Cond.fieldLink RX12 44 "DiveChairsModel" "mover" "I", Cond.methodLink RX12 162 yX12_markOf, Cond.instanceMethod yX12_markOf, Cond.selects RX12 yX12_markOf yX12_markOf, Cond.code yX12_markOf cX12_markOf 3 (some .int), Cond.methodLink RX12 111 yX12_get, Cond.instanceMethod yX12_get, Cond.selects RX12 yX12_get yX12_get, Cond.code yX12_get cX12_get 3 (some .int), Cond.methodLink RX12 265 yX12_leanIn, Cond.instanceMethod yX12_leanIn, Cond.selects RX12 yX12_leanIn yX12_leanIn, Cond.code yX12_leanIn cX12_leanIn 5 (some .int), Cond.methodLink RX12 134 yX12_comes]
def wsX12_near_r3 : List Cond := [Cond.instanceMethod yX12_comes, Cond.selects RX12 yX12_comes yX12_comes, Cond.code yX12_comes cX12_comes 3 none]
def wsX12_near : List Cond := .code yX12_near cX12_near 2 (some .int) :: ((wsX12_near_r1 ++ (wsX12_near_r2 ++ wsX12_near_r3)) ++ wsX120)
def wsX12_nearest_r1 : List Cond := [Cond.fieldLink RX12 9 "DiveChairsModel" "s" "[I", Cond.fieldLink RX12 363 "DiveChairsModel" "nearMany" "I", Cond.fieldLink RX12 360 "DiveChairsModel" "nearSum" "I", Cond.methodLink RX12 366 yX12_findNear, Cond.instanceMethod yX12_findNear, Cond.selects RX12 yX12_findNear yX12_findNear, Cond.initialized RX12, Cond.code yX12_findNear cX12_findNear 6 none, Cond.methodLink RX12 312 yX12_middleOf, Cond.instanceMethod yX12_middleOf, Cond.selects RX12 yX12_middleOf yX12_middleOf, Cond.code yX12_middleOf cX12_middleOf 2 (some .int), Cond.fieldLink RX12 128 "DiveChairsModel" "rowed" "I", Cond.fieldLink RX12 34 "DiveChairsModel" "row" "[I", Cond.methodLink RX12 271 yX12_asTold, Cond.instanceMethod yX12_asTold, Cond.selects RX12 yX12_asTold yX12_asTold, Cond.code yX12_asTold cX12_asTold 1 none, Cond.fieldLink RX12 40 "DiveChairsModel" "without" "I", Cond.fieldLink RX12 255 "DiveChairsModel" "leansOff" "Z", Cond.fieldLink RX12 259 "DiveChairsModel" "dropHigh" "I", Cond.fieldLink RX12 262 "DiveChairsModel" "dropLow" "I", Cond.methodLink RX12 274 yX12_gathers, Cond.instanceMethod yX12_gathers]
def wsX12_nearest_r2 : List Cond := [Cond.selects RX12 yX12_gathers yX12_gathers, Cond.code yX12_gathers cX12_gathers 5 none, Cond.fieldLink RX12 268 "DiveChairsModel" "movers" "I", Cond.fieldLink RX12 44 "DiveChairsModel" "mover" "I", Cond.methodLink RX12 162 yX12_markOf, Cond.instanceMethod yX12_markOf, Cond.selects RX12 yX12_markOf yX12_markOf, Cond.code yX12_markOf cX12_markOf 3 (some .int), Cond.methodLink RX12 111 yX12_get, Cond.instanceMethod yX12_get, Cond.selects RX12 yX12_get yX12_get, Cond.code yX12_get cX12_get 3 (some .int), Cond.methodLink RX12 265 yX12_leanIn, Cond.instanceMethod yX12_leanIn, Cond.selects RX12 yX12_leanIn yX12_leanIn, Cond.code yX12_leanIn cX12_leanIn 5 (some .int), Cond.methodLink RX12 134 yX12_comes, Cond.instanceMethod yX12_comes, Cond.selects RX12 yX12_comes yX12_comes, Cond.code yX12_comes cX12_comes 3 none]
def wsX12_nearest : List Cond := .code yX12_nearest cX12_nearest 7 (some .int) :: ((wsX12_nearest_r1 ++ wsX12_nearest_r2) ++ wsX120)
def wsX12_seeing : List Cond := .code yX12_seeing cX12_seeing 11 (some .int) :: ([.constantLong RX12 77 (7), .constantLong RX12 79 (9), .methodLink RX12 69 yX12_isIn, .static yX12_isIn, .initialized RX12, .code yX12_isIn cX12_isIn 6 (some .boolean), .methodLink RX12 303 yX12_bits, .static yX12_bits, .code yX12_bits cX12_bits 3 (some .int), .methodLink RX12 124 yX12_isSeen, .static yX12_isSeen, .code yX12_isSeen cX12_isSeen 3 (some .boolean)])
def wsX12_truly : List Cond := .code yX12_truly cX12_truly 6 (some .long) :: ([.fieldLink RX12 9 "DiveChairsModel" "s" "[I", .methodLink RX12 111 yX12_get, .instanceMethod yX12_get, .selects RX12 yX12_get yX12_get, .initialized RX12, .code yX12_get cX12_get 3 (some .int), .methodLink RX12 117 yX12_worth, .instanceMethod yX12_worth, .selects RX12 yX12_worth yX12_worth, .code yX12_worth cX12_worth 4 (some .int)] ++ wsX120)
def wsX12_isRight_r1 : List Cond := [Cond.fieldLink RX12 9 "DiveChairsModel" "s" "[I", Cond.methodLink RX12 294 yX12_wonNow, Cond.instanceMethod yX12_wonNow, Cond.selects RX12 yX12_wonNow yX12_wonNow, Cond.initialized RX12, Cond.code yX12_wonNow cX12_wonNow 8 (some .int), Cond.methodLink RX12 281 yX12_dives, Cond.instanceMethod yX12_dives, Cond.selects RX12 yX12_dives yX12_dives, Cond.code yX12_dives cX12_dives 4 (some .boolean), Cond.methodLink RX12 111 yX12_get, Cond.instanceMethod yX12_get, Cond.selects RX12 yX12_get yX12_get, Cond.code yX12_get cX12_get 3 (some .int), Cond.methodLink RX12 287 yX12_totalNow, Cond.instanceMethod yX12_totalNow, Cond.selects RX12 yX12_totalNow yX12_totalNow, Cond.code yX12_totalNow cX12_totalNow 6 (some .long), Cond.methodLink RX12 278 yX12_countsNow, Cond.instanceMethod yX12_countsNow, Cond.selects RX12 yX12_countsNow yX12_countsNow, Cond.code yX12_countsNow cX12_countsNow 3 (some .int), Cond.fieldLink RX12 128 "DiveChairsModel" "rowed" "I", Cond.fieldLink RX12 259 "DiveChairsModel" "dropHigh" "I"]
def wsX12_isRight_r2 : List Cond := [Cond.fieldLink RX12 262 "DiveChairsModel" "dropLow" "I", Cond.fieldLink RX12 234 "DiveChairsModel" "sum" "I", Cond.fieldLink RX12 237 "DiveChairsModel" "many" "I", Cond.fieldLink RX12 34 "DiveChairsModel" "row" "[I", Cond.fieldLink RX12 240 "DiveChairsModel" "hard" "I", Cond.fieldLink RX12 243 "DiveChairsModel" "middle" "I", Cond.fieldLink RX12 246 "DiveChairsModel" "highest" "I", Cond.fieldLink RX12 249 "DiveChairsModel" "lowest" "I", Cond.fieldLink RX12 252 "DiveChairsModel" "splash" "I", Cond.fieldLink RX12 37 "DiveChairsModel" "text" "[I", Cond.fieldLink RX12 171 "DiveChairsModel" "base" "I", Cond.fieldLink RX12 168 "DiveChairsModel" "end" "I", Cond.fieldLink RX12 165 "DiveChairsModel" "pos" "I", Cond.methodLink RX12 274 yX12_gathers, Cond.instanceMethod yX12_gathers, Cond.selects RX12 yX12_gathers yX12_gathers, Cond.code yX12_gathers cX12_gathers 5 none, Cond.fieldLink RX12 40 "DiveChairsModel" "without" "I", Cond.fieldLink RX12 255 "DiveChairsModel" "leansOff" "Z", Cond.fieldLink RX12 268 "DiveChairsModel" "movers" "I", Cond.fieldLink RX12 44 "DiveChairsModel" "mover" "I", Cond.methodLink RX12 162 yX12_markOf, Cond.instanceMethod yX12_markOf, Cond.selects RX12 yX12_markOf yX12_markOf]
def wsX12_isRight_r3 : List Cond := [Cond.code yX12_markOf cX12_markOf 3 (some .int), Cond.methodLink RX12 265 yX12_leanIn, Cond.instanceMethod yX12_leanIn, Cond.selects RX12 yX12_leanIn yX12_leanIn, Cond.code yX12_leanIn cX12_leanIn 5 (some .int), Cond.methodLink RX12 134 yX12_comes, Cond.instanceMethod yX12_comes, Cond.selects RX12 yX12_comes yX12_comes, Cond.code yX12_comes cX12_comes 3 none, Cond.methodLink RX12 231 yX12_sumOf, Cond.instanceMethod yX12_sumOf, Cond.selects RX12 yX12_sumOf yX12_sumOf, Cond.code yX12_sumOf cX12_sumOf 4 (some .int), Cond.methodLink RX12 225 yX12_product, Cond.instanceMethod yX12_product, Cond.selects RX12 yX12_product yX12_product, Cond.methodLink RX12 174 yX12_sign, Cond.instanceMethod yX12_sign, Cond.selects RX12 yX12_sign yX12_sign, Cond.code yX12_sign cX12_sign 1 (some .int), Cond.code yX12_atom cX12_atom 4 (some .int), Cond.constantLong RX12 178 (48), Cond.constantLong RX12 180 (57), Cond.fieldLink RX12 182 "DiveChairsModel" "number" "I"]
def wsX12_isRight_r4 : List Cond := [Cond.methodLink RX12 69 yX12_isIn, Cond.static yX12_isIn, Cond.code yX12_isIn cX12_isIn 6 (some .boolean), Cond.methodLink RX12 204 yX12_readsNumber, Cond.instanceMethod yX12_readsNumber, Cond.selects RX12 yX12_readsNumber yX12_readsNumber, Cond.code yX12_readsNumber cX12_readsNumber 2 (some .boolean), Cond.code yX12_product cX12_product 4 (some .int), Cond.methodLink RX12 228 yX12_atom, Cond.instanceMethod yX12_atom, Cond.selects RX12 yX12_atom yX12_atom, Cond.methodLink RX12 369 yX12_truly, Cond.instanceMethod yX12_truly, Cond.selects RX12 yX12_truly yX12_truly, Cond.code yX12_truly cX12_truly 6 (some .long), Cond.methodLink RX12 117 yX12_worth, Cond.instanceMethod yX12_worth, Cond.selects RX12 yX12_worth yX12_worth, Cond.code yX12_worth cX12_worth 4 (some .int)]
def wsX12_isRight : List Cond := .code yX12_isRight cX12_isRight 6 (some .boolean) :: ((wsX12_isRight_r1 ++ (wsX12_isRight_r2 ++ (wsX12_isRight_r3 ++ wsX12_isRight_r4))) ++ wsX120)
def wsX12_worlds_r1 : List Cond := [Cond.constantLong RX12 372 (30), Cond.fieldLink RX12 63 "DiveChairsModel" "saved" "[I", Cond.fieldLink RX12 9 "DiveChairsModel" "s" "[I", Cond.constant RX12 374 (1103515245), Cond.constant RX12 375 (2147483647), Cond.constant RX12 376 (65536), Cond.methodLink RX12 83 yX12_isHall, Cond.static yX12_isHall, Cond.initialized RX12, Cond.code yX12_isHall cX12_isHall 1 (some .boolean), Cond.constantLong RX12 73 (5), Cond.methodLink RX12 69 yX12_isIn, Cond.static yX12_isIn, Cond.code yX12_isIn cX12_isIn 6 (some .boolean), Cond.methodLink RX12 271 yX12_asTold, Cond.instanceMethod yX12_asTold, Cond.selects RX12 yX12_asTold yX12_asTold, Cond.code yX12_asTold cX12_asTold 1 none, Cond.fieldLink RX12 40 "DiveChairsModel" "without" "I", Cond.fieldLink RX12 255 "DiveChairsModel" "leansOff" "Z", Cond.fieldLink RX12 259 "DiveChairsModel" "dropHigh" "I", Cond.fieldLink RX12 262 "DiveChairsModel" "dropLow" "I", Cond.methodLink RX12 294 yX12_wonNow, Cond.instanceMethod yX12_wonNow]
def wsX12_worlds_r2 : List Cond := [Cond.selects RX12 yX12_wonNow yX12_wonNow, Cond.code yX12_wonNow cX12_wonNow 8 (some .int), Cond.methodLink RX12 281 yX12_dives, Cond.instanceMethod yX12_dives, Cond.selects RX12 yX12_dives yX12_dives, Cond.code yX12_dives cX12_dives 4 (some .boolean), Cond.methodLink RX12 111 yX12_get, Cond.instanceMethod yX12_get, Cond.selects RX12 yX12_get yX12_get, Cond.code yX12_get cX12_get 3 (some .int), Cond.methodLink RX12 287 yX12_totalNow, Cond.instanceMethod yX12_totalNow, Cond.selects RX12 yX12_totalNow yX12_totalNow, Cond.code yX12_totalNow cX12_totalNow 6 (some .long), Cond.methodLink RX12 278 yX12_countsNow, Cond.instanceMethod yX12_countsNow, Cond.selects RX12 yX12_countsNow yX12_countsNow, Cond.code yX12_countsNow cX12_countsNow 3 (some .int), Cond.fieldLink RX12 128 "DiveChairsModel" "rowed" "I", Cond.fieldLink RX12 234 "DiveChairsModel" "sum" "I", Cond.fieldLink RX12 237 "DiveChairsModel" "many" "I", Cond.fieldLink RX12 34 "DiveChairsModel" "row" "[I", Cond.fieldLink RX12 240 "DiveChairsModel" "hard" "I", Cond.fieldLink RX12 243 "DiveChairsModel" "middle" "I"]
def wsX12_worlds_r3 : List Cond := [Cond.fieldLink RX12 246 "DiveChairsModel" "highest" "I", Cond.fieldLink RX12 249 "DiveChairsModel" "lowest" "I", Cond.fieldLink RX12 252 "DiveChairsModel" "splash" "I", Cond.fieldLink RX12 37 "DiveChairsModel" "text" "[I", Cond.fieldLink RX12 171 "DiveChairsModel" "base" "I", Cond.fieldLink RX12 168 "DiveChairsModel" "end" "I", Cond.fieldLink RX12 165 "DiveChairsModel" "pos" "I", Cond.methodLink RX12 274 yX12_gathers, Cond.instanceMethod yX12_gathers, Cond.selects RX12 yX12_gathers yX12_gathers, Cond.code yX12_gathers cX12_gathers 5 none, Cond.fieldLink RX12 268 "DiveChairsModel" "movers" "I", Cond.fieldLink RX12 44 "DiveChairsModel" "mover" "I", Cond.methodLink RX12 162 yX12_markOf, Cond.instanceMethod yX12_markOf, Cond.selects RX12 yX12_markOf yX12_markOf, Cond.code yX12_markOf cX12_markOf 3 (some .int), Cond.methodLink RX12 265 yX12_leanIn, Cond.instanceMethod yX12_leanIn, Cond.selects RX12 yX12_leanIn yX12_leanIn, Cond.code yX12_leanIn cX12_leanIn 5 (some .int), Cond.methodLink RX12 134 yX12_comes, Cond.instanceMethod yX12_comes, Cond.selects RX12 yX12_comes yX12_comes]
def wsX12_worlds_r4 : List Cond := [Cond.code yX12_comes cX12_comes 3 none, Cond.methodLink RX12 231 yX12_sumOf, Cond.instanceMethod yX12_sumOf, Cond.selects RX12 yX12_sumOf yX12_sumOf, Cond.code yX12_sumOf cX12_sumOf 4 (some .int), Cond.methodLink RX12 225 yX12_product, Cond.instanceMethod yX12_product, Cond.selects RX12 yX12_product yX12_product, Cond.methodLink RX12 174 yX12_sign, Cond.instanceMethod yX12_sign, Cond.selects RX12 yX12_sign yX12_sign, Cond.code yX12_sign cX12_sign 1 (some .int), Cond.code yX12_atom cX12_atom 4 (some .int), Cond.constantLong RX12 178 (48), Cond.constantLong RX12 180 (57), Cond.fieldLink RX12 182 "DiveChairsModel" "number" "I", Cond.methodLink RX12 204 yX12_readsNumber, Cond.instanceMethod yX12_readsNumber, Cond.selects RX12 yX12_readsNumber yX12_readsNumber, Cond.code yX12_readsNumber cX12_readsNumber 2 (some .boolean), Cond.code yX12_product cX12_product 4 (some .int), Cond.methodLink RX12 228 yX12_atom, Cond.instanceMethod yX12_atom, Cond.selects RX12 yX12_atom yX12_atom]
def wsX12_worlds_r5 : List Cond := [Cond.methodLink RX12 151 yX12_marksAs, Cond.instanceMethod yX12_marksAs, Cond.selects RX12 yX12_marksAs yX12_marksAs, Cond.code yX12_marksAs cX12_marksAs 4 none, Cond.methodLink RX12 99 yX12_onChair, Cond.instanceMethod yX12_onChair, Cond.selects RX12 yX12_onChair yX12_onChair, Cond.code yX12_onChair cX12_onChair 3 (some .int), Cond.methodLink RX12 131 yX12_wouldOf, Cond.instanceMethod yX12_wouldOf, Cond.selects RX12 yX12_wouldOf yX12_wouldOf, Cond.code yX12_wouldOf cX12_wouldOf 8 (some .int), Cond.methodLink RX12 138 yX12_lessOff, Cond.instanceMethod yX12_lessOff, Cond.selects RX12 yX12_lessOff yX12_lessOff, Cond.code yX12_lessOff cX12_lessOff 6 (some .int), Cond.methodLink RX12 124 yX12_isSeen, Cond.static yX12_isSeen, Cond.code yX12_isSeen cX12_isSeen 3 (some .boolean), Cond.methodLink RX12 142 yX12_held, Cond.static yX12_held, Cond.code yX12_held cX12_held 1 (some .int), Cond.methodLink RX12 145 yX12_aheadOf, Cond.instanceMethod yX12_aheadOf]
def wsX12_worlds_r6 : List Cond := [Cond.selects RX12 yX12_aheadOf yX12_aheadOf, Cond.code yX12_aheadOf cX12_aheadOf 3 (some .int), Cond.methodLink RX12 117 yX12_worth, Cond.instanceMethod yX12_worth, Cond.selects RX12 yX12_worth yX12_worth, Cond.code yX12_worth cX12_worth 4 (some .int), Cond.methodLink RX12 148 yX12_middleWould, Cond.instanceMethod yX12_middleWould, Cond.selects RX12 yX12_middleWould yX12_middleWould, Cond.code yX12_middleWould cX12_middleWould 4 (some .int), Cond.methodLink RX12 377 yX12_isRight, Cond.instanceMethod yX12_isRight, Cond.selects RX12 yX12_isRight yX12_isRight, Cond.code yX12_isRight cX12_isRight 6 (some .boolean), Cond.methodLink RX12 369 yX12_truly, Cond.instanceMethod yX12_truly, Cond.selects RX12 yX12_truly yX12_truly, Cond.code yX12_truly cX12_truly 6 (some .long)]
def wsX12_worlds : List Cond := .code yX12_worlds cX12_worlds 8 (some .int) :: ((wsX12_worlds_r1 ++ (wsX12_worlds_r2 ++ (wsX12_worlds_r3 ++ (wsX12_worlds_r4 ++ (wsX12_worlds_r5 ++ wsX12_worlds_r6))))) ++ wsX120)
def wsX12_image : List Cond := .code yX12_image cX12_image 2 (some .int) :: ([.fieldLink RX12 13 "DiveChairsModel" "image" "[I", .fieldLink RX12 9 "DiveChairsModel" "s" "[I", .fieldLink RX12 380 "DiveChairsModel" "hasImage" "Z"] ++ wsX120)
def wsX12_restore : List Cond := .code yX12_restore cX12_restore 2 (some .int) :: ([.fieldLink RX12 380 "DiveChairsModel" "hasImage" "Z", .fieldLink RX12 9 "DiveChairsModel" "s" "[I", .fieldLink RX12 13 "DiveChairsModel" "image" "[I"] ++ wsX120)
def wsX12_count : List Cond := .code yX12_count cX12_count 5 (some .int) :: ([.constantLong RX12 383 (13), .fieldLink RX12 9 "DiveChairsModel" "s" "[I", .methodLink RX12 69 yX12_isIn, .static yX12_isIn, .initialized RX12, .code yX12_isIn cX12_isIn 6 (some .boolean), .methodLink RX12 162 yX12_markOf, .instanceMethod yX12_markOf, .selects RX12 yX12_markOf yX12_markOf, .code yX12_markOf cX12_markOf 3 (some .int), .methodLink RX12 111 yX12_get, .instanceMethod yX12_get, .selects RX12 yX12_get yX12_get, .code yX12_get cX12_get 3 (some .int)] ++ wsX120)
def wsX12_weightOf : List Cond := .code yX12_weightOf cX12_weightOf 4 (some .int) :: ([.fieldLink RX12 9 "DiveChairsModel" "s" "[I"] ++ wsX120)
def wsX12_keep : List Cond := .code yX12_keep cX12_keep 5 (some .int) :: ([.fieldLink RX12 16 "DiveChairsModel" "kept" "[I", .fieldLink RX12 28 "DiveChairsModel" "keptWeight" "[I", .fieldLink RX12 31 "DiveChairsModel" "keptToss" "[I", .fieldLink RX12 9 "DiveChairsModel" "s" "[I", .methodLink RX12 154 yX12_isShelf, .static yX12_isShelf, .initialized RX12, .code yX12_isShelf cX12_isShelf 1 (some .boolean), .constantLong RX12 77 (7), .methodLink RX12 69 yX12_isIn, .static yX12_isIn, .code yX12_isIn cX12_isIn 6 (some .boolean), .methodLink RX12 96 yX12_isJudge, .instanceMethod yX12_isJudge, .selects RX12 yX12_isJudge yX12_isJudge, .code yX12_isJudge cX12_isJudge 2 (some .boolean), .methodLink RX12 385 yX12_weightOf, .instanceMethod yX12_weightOf, .selects RX12 yX12_weightOf yX12_weightOf, .code yX12_weightOf cX12_weightOf 4 (some .int)] ++ wsX120)
def wsX12_row : List Cond := .code yX12_row cX12_row 5 (some .int) :: ([.constantLong RX12 297 (2), .fieldLink RX12 16 "DiveChairsModel" "kept" "[I", .fieldLink RX12 19 "DiveChairsModel" "sort" "[I", .fieldLink RX12 22 "DiveChairsModel" "size" "[I", .fieldLink RX12 25 "DiveChairsModel" "element" "[I", .methodLink RX12 154 yX12_isShelf, .static yX12_isShelf, .initialized RX12, .code yX12_isShelf cX12_isShelf 1 (some .boolean), .constantLong RX12 77 (7), .methodLink RX12 69 yX12_isIn, .static yX12_isIn, .code yX12_isIn cX12_isIn 6 (some .boolean)] ++ wsX120)
def wsX12_put : List Cond := .code yX12_put cX12_put 5 (some .int) :: ([.fieldLink RX12 22 "DiveChairsModel" "size" "[I", .fieldLink RX12 25 "DiveChairsModel" "element" "[I", .fieldLink RX12 19 "DiveChairsModel" "sort" "[I", .methodLink RX12 157 yX12_wrongRow, .instanceMethod yX12_wrongRow, .selects RX12 yX12_wrongRow yX12_wrongRow, .initialized RX12, .code yX12_wrongRow cX12_wrongRow 3 (some .int), .fieldLink RX12 16 "DiveChairsModel" "kept" "[I", .methodLink RX12 154 yX12_isShelf, .static yX12_isShelf, .code yX12_isShelf cX12_isShelf 1 (some .boolean), .constantLong RX12 77 (7), .methodLink RX12 69 yX12_isIn, .static yX12_isIn, .code yX12_isIn cX12_isIn 6 (some .boolean)] ++ wsX120)
def wsX12_element : List Cond := .code yX12_element cX12_element 3 (some .long) :: ([.fieldLink RX12 16 "DiveChairsModel" "kept" "[I", .fieldLink RX12 22 "DiveChairsModel" "size" "[I", .fieldLink RX12 66 "DiveChairsModel" "thrown" "I", .fieldLink RX12 25 "DiveChairsModel" "element" "[I", .methodLink RX12 154 yX12_isShelf, .static yX12_isShelf, .initialized RX12, .code yX12_isShelf cX12_isShelf 1 (some .boolean), .constantLong RX12 77 (7), .methodLink RX12 69 yX12_isIn, .static yX12_isIn, .code yX12_isIn cX12_isIn 6 (some .boolean)] ++ wsX120)
def wsX12_copy : List Cond := .code yX12_copy cX12_copy 8 (some .int) :: ([.fieldLink RX12 16 "DiveChairsModel" "kept" "[I", .fieldLink RX12 19 "DiveChairsModel" "sort" "[I", .fieldLink RX12 22 "DiveChairsModel" "size" "[I", .fieldLink RX12 25 "DiveChairsModel" "element" "[I", .methodLink RX12 154 yX12_isShelf, .static yX12_isShelf, .initialized RX12, .code yX12_isShelf cX12_isShelf 1 (some .boolean), .constantLong RX12 77 (7), .methodLink RX12 69 yX12_isIn, .static yX12_isIn, .code yX12_isIn cX12_isIn 6 (some .boolean)] ++ wsX120)
def wsX12_wrongKept : List Cond := .code yX12_wrongKept cX12_wrongKept 2 (some .int) :: ([.fieldLink RX12 16 "DiveChairsModel" "kept" "[I", .methodLink RX12 154 yX12_isShelf, .static yX12_isShelf, .initialized RX12, .code yX12_isShelf cX12_isShelf 1 (some .boolean), .constantLong RX12 77 (7), .methodLink RX12 69 yX12_isIn, .static yX12_isIn, .code yX12_isIn cX12_isIn 6 (some .boolean)] ++ wsX120)
def wsX12_weight : List Cond := .code yX12_weight cX12_weight 3 (some .int) :: ([.fieldLink RX12 28 "DiveChairsModel" "keptWeight" "[I", .methodLink RX12 388 yX12_wrongKept, .instanceMethod yX12_wrongKept, .selects RX12 yX12_wrongKept yX12_wrongKept, .initialized RX12, .code yX12_wrongKept cX12_wrongKept 2 (some .int), .fieldLink RX12 16 "DiveChairsModel" "kept" "[I", .methodLink RX12 154 yX12_isShelf, .static yX12_isShelf, .code yX12_isShelf cX12_isShelf 1 (some .boolean), .constantLong RX12 77 (7), .methodLink RX12 69 yX12_isIn, .static yX12_isIn, .code yX12_isIn cX12_isIn 6 (some .boolean)] ++ wsX120)
def wsX12_toss : List Cond := .code yX12_toss cX12_toss 3 (some .int) :: ([.fieldLink RX12 31 "DiveChairsModel" "keptToss" "[I", .methodLink RX12 388 yX12_wrongKept, .instanceMethod yX12_wrongKept, .selects RX12 yX12_wrongKept yX12_wrongKept, .initialized RX12, .code yX12_wrongKept cX12_wrongKept 2 (some .int), .fieldLink RX12 16 "DiveChairsModel" "kept" "[I", .methodLink RX12 154 yX12_isShelf, .static yX12_isShelf, .code yX12_isShelf cX12_isShelf 1 (some .boolean), .constantLong RX12 77 (7), .methodLink RX12 69 yX12_isIn, .static yX12_isIn, .code yX12_isIn cX12_isIn 6 (some .boolean)] ++ wsX120)
def wsJ9_abs_0f7a4 : List Cond := .code yJ9_abs_0f7a4 cJ9_abs_0f7a4 1 (some .int) :: ([])
def wsJ9_max_7cf53 : List Cond := .code yJ9_max_7cf53 cJ9_max_7cf53 2 (some .int) :: ([])
def wsJ9_min_7cf53 : List Cond := .code yJ9_min_7cf53 cJ9_min_7cf53 2 (some .int) :: ([])
def wsL_element_r1 : List Cond := [Cond.classLink RL 13 "java/lang/IllegalArgumentException", Cond.classLink RL 15 "java/lang/IllegalStateException", Cond.methodLink RL 7 yX11_element, Cond.instanceMethod yX11_element, Cond.selects RX11 yX11_element yX11_element, Cond.initialized RX11, Cond.code yX11_element cX11_element 4 (some .long), Cond.classLink RX11 318 "java/lang/IllegalArgumentException", Cond.initialized "java/lang/IllegalArgumentException", Cond.classLink RX11 325 "java/lang/IllegalStateException", Cond.initialized "java/lang/IllegalStateException", Cond.fieldLink RX11 146 "DiveChairs$Shelf" "size" "I", Cond.fieldLink RX11 149 "DiveChairs$Shelf" "elements" "[I", Cond.methodLink RX11 135 yX11_shelfAt, Cond.instanceMethod yX11_shelfAt, Cond.selects RX11 yX11_shelfAt yX11_shelfAt, Cond.code yX11_shelfAt cX11_shelfAt 2 (some (.object "DiveChairs$Shelf")), Cond.fieldLink RX11 24 "DiveChairs" "shelves" "[LDiveChairs$Shelf;", Cond.methodLink RX11 57 yX11_within, Cond.static yX11_within, Cond.code yX11_within cX11_within 2 (some .boolean), Cond.methodLink RX11 312 yX8_refusalAsRow, Cond.instanceMethod yX8_refusalAsRow, Cond.selects RX8 yX8_refusalAsRow yX8_refusalAsRow]
def wsL_element_r2 : List Cond := [Cond.initialized RX8, Cond.code yX8_refusalAsRow cX8_refusalAsRow 1 (some .int), Cond.fieldLink RX8 19 "DiveChairs$Shelf" "isRow" "Z", Cond.fieldLink RX8 15 "DiveChairs$Shelf" "judge" "LDiveChairs$Judge;"]
def wsL_element : List Cond := .codeWith yL_element cL_element 5 (some .int) [(0, 9, 12, 13), (0, 9, 16, 15)] :: ((wsL_element_r1 ++ wsL_element_r2) ++ wsX80 ++ wsX110 ++ (vx_atS RX11 322 "java/lang/IllegalArgumentException" ["java/lang/RuntimeException", "java/lang/Exception"]).filter goodWord ++ (vx_atS RX11 329 "java/lang/IllegalStateException" ["java/lang/RuntimeException", "java/lang/Exception"]).filter goodWord)
def wsL_law0_r1 : List Cond := [Cond.classLink RL 8 RX11, Cond.instantiable RX11 9, Cond.initialized RX11, Cond.classLink RL 18 RX12, Cond.instantiable RX12 50, Cond.initialized RX12, Cond.arrayClass .long, Cond.methodLink RL 17 yX11_init, Cond.instanceMethod yX11_init, Cond.code yX11_init cX11_init 2 none, Cond.methodLink RX11 1 objectInit, Cond.instanceMethod objectInit, Cond.code objectInit ⟨#[0xb1]⟩ 1 none, Cond.classLink RX11 7 RX9, Cond.instantiable RX9 12, Cond.initialized RX9, Cond.fieldLink RX11 10 "DiveChairs" "now" "LDiveChairs$State;", Cond.fieldLink RX11 16 "DiveChairs" "imaged" "LDiveChairs$State;", Cond.fieldLink RX11 19 "DiveChairs" "mind" "LDiveChairs$State;", Cond.classLink RX11 22 RX8, Cond.fieldLink RX11 24 "DiveChairs" "shelves" "[LDiveChairs$Shelf;", Cond.classLink RX11 28 RX7, Cond.instantiable RX7 6, Cond.initialized RX7]
def wsL_law0_r2 : List Cond := [Cond.fieldLink RX11 31 "DiveChairs" "reader" "LDiveChairs$RuleReader;", Cond.classLink RX11 35 RX4, Cond.instantiable RX4 4, Cond.initialized RX4, Cond.fieldLink RX11 38 "DiveChairs" "orders" "LDiveChairs$OrderDealing;", Cond.classLink RX11 42 RX3, Cond.instantiable RX3 6, Cond.initialized RX3, Cond.fieldLink RX11 45 "DiveChairs" "deals" "LDiveChairs$LandDealing;", Cond.classLink RX11 49 RX10, Cond.instantiable RX10 5, Cond.initialized RX10, Cond.fieldLink RX11 52 "DiveChairs" "tally" "LDiveChairs$Tally;", Cond.instantiable RX8 5, Cond.initialized RX8, Cond.methodLink RX11 9 yX9_init, Cond.instanceMethod yX9_init, Cond.code yX9_init cX9_init 2 none, Cond.methodLink RX9 3 objectInit, Cond.arrayClass .int, Cond.fieldLink RX9 9 "DiveChairs$State" "lands" "[I", Cond.fieldLink RX9 15 "DiveChairs$State" "names" "[I", Cond.fieldLink RX9 18 "DiveChairs$State" "years" "[I", Cond.fieldLink RX9 21 "DiveChairs$State" "seats" "[I"]
def wsL_law0_r3 : List Cond := [Cond.classLink RX9 24 RX6, Cond.instantiable RX6 6, Cond.initialized RX6, Cond.fieldLink RX9 27 "DiveChairs$State" "rule" "LDiveChairs$Rule;", Cond.classLink RX9 31 RX2, Cond.fieldLink RX9 33 "DiveChairs$State" "judgesMade" "[LDiveChairs$Judge;", Cond.classLink RX9 37 RX1, Cond.fieldLink RX9 39 "DiveChairs$State" "divesMade" "[LDiveChairs$Dive;", Cond.fieldLink RX9 43 "DiveChairs$State" "totals" "[J", Cond.classLink RX9 47 RX5, Cond.instantiable RX5 2, Cond.initialized RX5, Cond.fieldLink RX9 50 "DiveChairs$State" "panel" "LDiveChairs$Panel;", Cond.instantiable RX1 7, Cond.initialized RX1, Cond.methodLink RX9 26 yX6_init, Cond.instanceMethod yX6_init, Cond.code yX6_init cX6_init 2 none, Cond.methodLink RX6 3 objectInit, Cond.fieldLink RX6 9 "DiveChairs$Rule" "off" "[I", Cond.fieldLink RX6 15 "DiveChairs$Rule" "dropHighest" "I", Cond.fieldLink RX6 19 "DiveChairs$Rule" "dropLowest" "I", Cond.fieldLink RX6 22 "DiveChairs$Rule" "code" "[I", Cond.fieldLink RX6 25 "DiveChairs$Rule" "stack" "[I"]
def wsL_law0_r4 : List Cond := [Cond.methodLink RX6 28 yX6_append, Cond.instanceMethod yX6_append, Cond.selects RX6 yX6_append yX6_append, Cond.code yX6_append cX6_append 2 none, Cond.fieldLink RX6 38 "DiveChairs$Rule" "length" "I", Cond.instanceMethod yX5_init, Cond.code yX5_init cX5_init 1 none, Cond.methodLink RX5 3 objectInit, Cond.fieldLink RX5 9 "DiveChairs$Panel" "sorted" "[I", Cond.instanceMethod yX1_init, Cond.code yX1_init cX1_init 1 none, Cond.methodLink RX1 3 objectInit, Cond.fieldLink RX1 9 "DiveChairs$Dive" "marks" "[I", Cond.fieldLink RX1 15 "DiveChairs$Dive" "markers" "[I", Cond.instanceMethod yX7_init, Cond.code yX7_init cX7_init 1 none, Cond.methodLink RX7 3 objectInit, Cond.classLink RX7 9 RX6, Cond.fieldLink RX7 12 "DiveChairs$RuleReader" "draft" "LDiveChairs$Rule;", Cond.fieldLink RX7 18 "DiveChairs$RuleReader" "text" "[I", Cond.methodLink RX7 11 yX6_init, Cond.instanceMethod yX4_init, Cond.code yX4_init cX4_init 1 none, Cond.fieldLink RX4 9 "DiveChairs$OrderDealing" "counted" "[I"]
def wsL_law0_r5 : List Cond := [Cond.instanceMethod yX0_init, Cond.initialized RX0, Cond.code yX0_init cX0_init 1 none, Cond.methodLink RX0 3 objectInit, Cond.fieldLink RX0 9 "DiveChairs$Dealing" "dealt" "[I", Cond.instanceMethod yX3_init, Cond.code yX3_init cX3_init 1 none, Cond.fieldLink RX3 9 "DiveChairs$LandDealing" "lands" "[I", Cond.fieldLink RX3 15 "DiveChairs$LandDealing" "halls" "[I", Cond.fieldLink RX3 18 "DiveChairs$LandDealing" "leans" "[I", Cond.instanceMethod yX10_init, Cond.code yX10_init cX10_init 1 none, Cond.methodLink RX10 1 objectInit, Cond.instanceMethod yX8_init, Cond.code yX8_init cX8_init 1 none, Cond.methodLink RX8 3 objectInit, Cond.fieldLink RX8 9 "DiveChairs$Shelf" "elements" "[I", Cond.methodLink RL 20 yX12_init, Cond.instanceMethod yX12_init, Cond.code yX12_init cX12_init 2 none, Cond.methodLink RX12 1 objectInit, Cond.fieldLink RX12 9 "DiveChairsModel" "s" "[I", Cond.fieldLink RX12 13 "DiveChairsModel" "image" "[I", Cond.fieldLink RX12 16 "DiveChairsModel" "kept" "[I"]
def wsL_law0_r6 : List Cond := [Cond.fieldLink RX12 19 "DiveChairsModel" "sort" "[I", Cond.fieldLink RX12 22 "DiveChairsModel" "size" "[I", Cond.fieldLink RX12 25 "DiveChairsModel" "element" "[I", Cond.fieldLink RX12 28 "DiveChairsModel" "keptWeight" "[I", Cond.fieldLink RX12 31 "DiveChairsModel" "keptToss" "[I", Cond.fieldLink RX12 34 "DiveChairsModel" "row" "[I", Cond.fieldLink RX12 37 "DiveChairsModel" "text" "[I", Cond.fieldLink RX12 40 "DiveChairsModel" "without" "I", Cond.fieldLink RX12 44 "DiveChairsModel" "mover" "I", Cond.fieldLink RX12 47 "DiveChairsModel" "sums" "[I", Cond.fieldLink RX12 50 "DiveChairsModel" "lands" "[I", Cond.arrayClass .boolean, Cond.fieldLink RX12 53 "DiveChairsModel" "together" "[Z", Cond.fieldLink RX12 57 "DiveChairsModel" "counted" "[I", Cond.fieldLink RX12 60 "DiveChairsModel" "orderOf" "[I", Cond.fieldLink RX12 63 "DiveChairsModel" "saved" "[I", Cond.methodLink RL 21 yX11_diver, Cond.instanceMethod yX11_diver, Cond.selects RX11 yX11_diver yX11_diver, Cond.code yX11_diver cX11_diver 3 (some .int), Cond.methodLink RX11 57 yX11_within, Cond.static yX11_within, Cond.code yX11_within cX11_within 2 (some .boolean), Cond.methodLink RX11 61 yX9_addDiver]
def wsL_law0_r7 : List Cond := [Cond.instanceMethod yX9_addDiver, Cond.selects RX9 yX9_addDiver yX9_addDiver, Cond.code yX9_addDiver cX9_addDiver 3 (some .int), Cond.fieldLink RX9 65 "DiveChairs$State" "divers" "I", Cond.methodLink RL 25 yX12_diver, Cond.instanceMethod yX12_diver, Cond.selects RX12 yX12_diver yX12_diver, Cond.code yX12_diver cX12_diver 3 (some .int), Cond.constantLong RX12 73 (5), Cond.constantLong RX12 79 (9), Cond.methodLink RX12 69 yX12_isIn, Cond.static yX12_isIn, Cond.code yX12_isIn cX12_isIn 6 (some .boolean), Cond.methodLink RL 26 yX11_judge, Cond.instanceMethod yX11_judge, Cond.selects RX11 yX11_judge yX11_judge, Cond.code yX11_judge cX11_judge 3 (some .int), Cond.methodLink RX11 65 yX9_addJudge, Cond.instanceMethod yX9_addJudge, Cond.selects RX9 yX9_addJudge yX9_addJudge, Cond.code yX9_addJudge cX9_addJudge 3 (some .int), Cond.fieldLink RX9 69 "DiveChairs$State" "judges" "I", Cond.instantiable RX2 5, Cond.initialized RX2]
def wsL_law0_r8 : List Cond := [Cond.methodLink RX9 82 yX2_init, Cond.instanceMethod yX2_init, Cond.code yX2_init cX2_init 4 none, Cond.methodLink RX2 3 objectInit, Cond.fieldLink RX2 9 "DiveChairs$Judge" "number" "I", Cond.fieldLink RX2 15 "DiveChairs$Judge" "kind" "I", Cond.fieldLink RX2 18 "DiveChairs$Judge" "land" "I", Cond.fieldLink RX2 21 "DiveChairs$Judge" "leaning" "I", Cond.fieldLink RX2 24 "DiveChairs$Judge" "partner" "I", Cond.methodLink RL 29 yX12_judge, Cond.instanceMethod yX12_judge, Cond.selects RX12 yX12_judge yX12_judge, Cond.code yX12_judge cX12_judge 4 (some .int), Cond.constantLong RX12 77 (7), Cond.constantLong RX12 81 (599), Cond.methodLink RL 30 yX11_year, Cond.instanceMethod yX11_year, Cond.selects RX11 yX11_year yX11_year, Cond.code yX11_year cX11_year 4 (some .int), Cond.fieldLink RX11 68 "DiveChairs$State" "years" "[I", Cond.methodLink RL 33 yX12_year, Cond.instanceMethod yX12_year, Cond.selects RX12 yX12_year yX12_year, Cond.code yX12_year cX12_year 3 (some .int)]
def wsL_law0_r9 : List Cond := [Cond.constantLong RX12 87 (40), Cond.methodLink RX12 83 yX12_isHall, Cond.static yX12_isHall, Cond.code yX12_isHall cX12_isHall 1 (some .boolean), Cond.methodLink RX12 89 yX12_becomes, Cond.instanceMethod yX12_becomes, Cond.selects RX12 yX12_becomes yX12_becomes, Cond.code yX12_becomes cX12_becomes 4 (some .int), Cond.methodLink RL 34 yX11_chair, Cond.instanceMethod yX11_chair, Cond.selects RX11 yX11_chair yX11_chair, Cond.code yX11_chair cX11_chair 6 (some .int), Cond.fieldLink RX11 72 "DiveChairs$State" "judges" "I", Cond.fieldLink RX11 83 "DiveChairs$State" "seats" "[I", Cond.methodLink RX11 76 yX9_isOnOtherChair, Cond.instanceMethod yX9_isOnOtherChair, Cond.selects RX9 yX9_isOnOtherChair yX9_isOnOtherChair, Cond.code yX9_isOnOtherChair cX9_isOnOtherChair 5 (some .boolean), Cond.methodLink RX9 92 yX9_seatOf, Cond.instanceMethod yX9_seatOf, Cond.selects RX9 yX9_seatOf yX9_seatOf, Cond.code yX9_seatOf cX9_seatOf 3 (some .int), Cond.methodLink RX11 80 yX9_seatOf, Cond.methodLink RL 38 yX12_chair]
def wsL_law0_r10 : List Cond := [Cond.instanceMethod yX12_chair, Cond.selects RX12 yX12_chair yX12_chair, Cond.code yX12_chair cX12_chair 5 (some .int), Cond.methodLink RX12 93 yX12_isChair, Cond.static yX12_isChair, Cond.code yX12_isChair cX12_isChair 1 (some .boolean), Cond.constantLong RX12 75 (6), Cond.methodLink RX12 96 yX12_isJudge, Cond.instanceMethod yX12_isJudge, Cond.selects RX12 yX12_isJudge yX12_isJudge, Cond.code yX12_isJudge cX12_isJudge 2 (some .boolean), Cond.methodLink RX12 99 yX12_onChair, Cond.instanceMethod yX12_onChair, Cond.selects RX12 yX12_onChair yX12_onChair, Cond.code yX12_onChair cX12_onChair 3 (some .int), Cond.methodLink RL 39 yX11_dive, Cond.instanceMethod yX11_dive, Cond.selects RX11 yX11_dive yX11_dive, Cond.code yX11_dive cX11_dive 5 (some .int), Cond.fieldLink RX11 86 "DiveChairs$State" "divers" "I", Cond.methodLink RX11 89 yX9_addDive, Cond.instanceMethod yX9_addDive, Cond.selects RX9 yX9_addDive yX9_addDive, Cond.code yX9_addDive cX9_addDive 5 (some .int)]
def wsL_law0_r11 : List Cond := [Cond.fieldLink RX9 72 "DiveChairs$State" "dives" "I", Cond.methodLink RX9 85 yX1_begin, Cond.instanceMethod yX1_begin, Cond.selects RX1 yX1_begin yX1_begin, Cond.code yX1_begin cX1_begin 6 none, Cond.fieldLink RX1 18 "DiveChairs$Dive" "hall" "I", Cond.fieldLink RX1 22 "DiveChairs$Dive" "diver" "I", Cond.fieldLink RX1 25 "DiveChairs$Dive" "flaws" "I", Cond.fieldLink RX1 28 "DiveChairs$Dive" "splash" "I", Cond.fieldLink RX1 31 "DiveChairs$Dive" "hard" "I", Cond.methodLink RX1 34 yX1_tell, Cond.instanceMethod yX1_tell, Cond.selects RX1 yX1_tell yX1_tell, Cond.code yX1_tell cX1_tell 4 none, Cond.methodLink RL 43 yX12_dive, Cond.instanceMethod yX12_dive, Cond.selects RX12 yX12_dive yX12_dive, Cond.code yX12_dive cX12_dive 7 (some .int), Cond.constantLong RX12 105 (63), Cond.constantLong RX12 107 (1000), Cond.constantLong RX12 109 (4099), Cond.methodLink RX12 102 yX12_isDiver, Cond.instanceMethod yX12_isDiver, Cond.selects RX12 yX12_isDiver yX12_isDiver]
def wsL_law0_r12 : List Cond := [Cond.code yX12_isDiver cX12_isDiver 2 (some .boolean), Cond.methodLink RL 44 yX11_of, Cond.instanceMethod yX11_of, Cond.selects RX11 yX11_of yX11_of, Cond.code yX11_of cX11_of 4 (some .int), Cond.fieldLink RX11 97 "DiveChairs$Dive" "hall" "I", Cond.fieldLink RX11 102 "DiveChairs$Dive" "diver" "I", Cond.fieldLink RX11 105 "DiveChairs$Dive" "flaws" "I", Cond.fieldLink RX11 108 "DiveChairs$Dive" "splash" "I", Cond.fieldLink RX11 111 "DiveChairs$Dive" "hard" "I", Cond.methodLink RX11 93 yX9_diveAt, Cond.instanceMethod yX9_diveAt, Cond.selects RX9 yX9_diveAt yX9_diveAt, Cond.code yX9_diveAt cX9_diveAt 2 (some (.object "DiveChairs$Dive")), Cond.methodLink RX11 114 yX9_worthOf, Cond.instanceMethod yX9_worthOf, Cond.selects RX9 yX9_worthOf yX9_worthOf, Cond.code yX9_worthOf cX9_worthOf 2 (some .int), Cond.fieldLink RX9 106 "DiveChairs$Dive" "flaws" "I", Cond.methodLink RX9 113 Lib.Math.max.name, Cond.static Lib.Math.max.name, Cond.initialized "java/lang/Math", Cond.code Lib.Math.max.name Lib.Math.max.code 2 (some .int), Cond.methodLink RX9 109 yX6_offFor]
def wsL_law0_r13 : List Cond := [Cond.instanceMethod yX6_offFor, Cond.selects RX6 yX6_offFor yX6_offFor, Cond.code yX6_offFor cX6_offFor 4 (some .int), Cond.methodLink RX11 118 yX1_marksThere, Cond.instanceMethod yX1_marksThere, Cond.selects RX1 yX1_marksThere yX1_marksThere, Cond.code yX1_marksThere cX1_marksThere 3 (some .int), Cond.methodLink RL 47 yX12_of, Cond.instanceMethod yX12_of, Cond.selects RX12 yX12_of yX12_of, Cond.code yX12_of cX12_of 3 (some .int), Cond.methodLink RX12 114 yX12_isDive, Cond.instanceMethod yX12_isDive, Cond.selects RX12 yX12_isDive yX12_isDive, Cond.code yX12_isDive cX12_isDive 2 (some .boolean), Cond.methodLink RX12 111 yX12_get, Cond.instanceMethod yX12_get, Cond.selects RX12 yX12_get yX12_get, Cond.code yX12_get cX12_get 3 (some .int), Cond.methodLink RX12 117 yX12_worth, Cond.instanceMethod yX12_worth, Cond.selects RX12 yX12_worth yX12_worth, Cond.code yX12_worth cX12_worth 4 (some .int), Cond.methodLink RX12 121 yX12_marksOf]
def wsL_law0_r14 : List Cond := [Cond.instanceMethod yX12_marksOf, Cond.selects RX12 yX12_marksOf yX12_marksOf, Cond.code yX12_marksOf cX12_marksOf 4 (some .int), Cond.methodLink RL 48 yX11_seen, Cond.instanceMethod yX11_seen, Cond.selects RX11 yX11_seen yX11_seen, Cond.code yX11_seen cX11_seen 4 (some .int), Cond.methodLink RX11 122 yX11_partsSeen, Cond.static yX11_partsSeen, Cond.code yX11_partsSeen cX11_partsSeen 5 (some .int), Cond.methodLink RL 51 yX12_seen, Cond.instanceMethod yX12_seen, Cond.selects RX12 yX12_seen yX12_seen, Cond.code yX12_seen cX12_seen 4 (some .int), Cond.methodLink RX12 124 yX12_isSeen, Cond.static yX12_isSeen, Cond.code yX12_isSeen cX12_isSeen 3 (some .boolean), Cond.methodLink RL 52 yX11_would, Cond.instanceMethod yX11_would, Cond.selects RX11 yX11_would yX11_would, Cond.code yX11_would cX11_would 3 (some .int), Cond.fieldLink RX11 125 "DiveChairs$State" "dives" "I", Cond.methodLink RX11 128 yX9_wouldMark, Cond.instanceMethod yX9_wouldMark]
def wsL_law0_r15 : List Cond := [Cond.selects RX9 yX9_wouldMark yX9_wouldMark, Cond.code yX9_wouldMark cX9_wouldMark 5 (some .int), Cond.fieldLink RX9 126 "DiveChairs$Dive" "hall" "I", Cond.fieldLink RX9 133 "DiveChairs$Judge" "kind" "I", Cond.fieldLink RX9 140 "DiveChairs$Panel" "size" "I", Cond.methodLink RX9 122 yX9_diveAt, Cond.methodLink RX9 129 yX9_judgeAt, Cond.instanceMethod yX9_judgeAt, Cond.selects RX9 yX9_judgeAt yX9_judgeAt, Cond.code yX9_judgeAt cX9_judgeAt 2 (some (.object "DiveChairs$Judge")), Cond.methodLink RX9 136 yX9_gatherOthers, Cond.instanceMethod yX9_gatherOthers, Cond.selects RX9 yX9_gatherOthers yX9_gatherOthers, Cond.code yX9_gatherOthers cX9_gatherOthers 5 none, Cond.methodLink RX9 146 yX9_markOf, Cond.instanceMethod yX9_markOf, Cond.selects RX9 yX9_markOf yX9_markOf, Cond.code yX9_markOf cX9_markOf 8 (some .int), Cond.fieldLink RX9 154 "DiveChairs$Dive" "splash" "I", Cond.methodLink RX9 160 yX9_drawnBy, Cond.instanceMethod yX9_drawnBy, Cond.selects RX9 yX9_drawnBy yX9_drawnBy, Cond.code yX9_drawnBy cX9_drawnBy 6 (some .int), Cond.fieldLink RX9 89 "DiveChairs$Dive" "diver" "I"]
def wsL_law0_r16 : List Cond := [Cond.methodLink RX9 172 Lib.Math.min.name, Cond.static Lib.Math.min.name, Cond.code Lib.Math.min.name Lib.Math.min.code 2 (some .int), Cond.methodLink RX9 164 yX9_landOf, Cond.instanceMethod yX9_landOf, Cond.selects RX9 yX9_landOf yX9_landOf, Cond.code yX9_landOf cX9_landOf 2 (some .int), Cond.methodLink RX9 168 yX2_markFor, Cond.instanceMethod yX2_markFor, Cond.selects RX2 yX2_markFor yX2_markFor, Cond.code yX2_markFor cX2_markFor 4 (some .int), Cond.methodLink RX2 27 yX2_held, Cond.static yX2_held, Cond.code yX2_held cX2_held 1 (some .int), Cond.methodLink RX2 31 yX2_leanTo, Cond.instanceMethod yX2_leanTo, Cond.selects RX2 yX2_leanTo yX2_leanTo, Cond.code yX2_leanTo cX2_leanTo 4 (some .int), Cond.methodLink RX9 150 yX5_add, Cond.instanceMethod yX5_add, Cond.selects RX5 yX5_add yX5_add, Cond.code yX5_add cX5_add 3 none, Cond.fieldLink RX5 15 "DiveChairs$Panel" "size" "I", Cond.methodLink RX9 143 yX5_middle]
def wsL_law0_r17 : List Cond := [Cond.instanceMethod yX5_middle, Cond.selects RX5 yX5_middle yX5_middle, Cond.code yX5_middle cX5_middle 1 (some .int), Cond.methodLink RL 55 yX12_would, Cond.instanceMethod yX12_would, Cond.selects RX12 yX12_would yX12_would, Cond.code yX12_would cX12_would 3 (some .int), Cond.methodLink RX12 131 yX12_wouldOf, Cond.instanceMethod yX12_wouldOf, Cond.selects RX12 yX12_wouldOf yX12_wouldOf, Cond.code yX12_wouldOf cX12_wouldOf 8 (some .int), Cond.methodLink RX12 138 yX12_lessOff, Cond.instanceMethod yX12_lessOff, Cond.selects RX12 yX12_lessOff yX12_lessOff, Cond.code yX12_lessOff cX12_lessOff 6 (some .int), Cond.methodLink RX12 142 yX12_held, Cond.static yX12_held, Cond.code yX12_held cX12_held 1 (some .int), Cond.methodLink RX12 145 yX12_aheadOf, Cond.instanceMethod yX12_aheadOf, Cond.selects RX12 yX12_aheadOf yX12_aheadOf, Cond.code yX12_aheadOf cX12_aheadOf 3 (some .int), Cond.methodLink RX12 148 yX12_middleWould, Cond.instanceMethod yX12_middleWould]
def wsL_law0_r18 : List Cond := [Cond.selects RX12 yX12_middleWould yX12_middleWould, Cond.code yX12_middleWould cX12_middleWould 4 (some .int), Cond.fieldLink RX12 128 "DiveChairsModel" "rowed" "I", Cond.methodLink RX12 134 yX12_comes, Cond.instanceMethod yX12_comes, Cond.selects RX12 yX12_comes yX12_comes, Cond.code yX12_comes cX12_comes 3 none, Cond.methodLink RL 56 yX11_markAll, Cond.instanceMethod yX11_markAll, Cond.selects RX11 yX11_markAll yX11_markAll, Cond.code yX11_markAll cX11_markAll 4 (some .int), Cond.methodLink RX11 131 yX9_markDive, Cond.instanceMethod yX9_markDive, Cond.selects RX9 yX9_markDive yX9_markDive, Cond.code yX9_markDive cX9_markDive 5 (some .int), Cond.methodLink RX9 175 yX9_wouldMark, Cond.methodLink RX9 178 yX1_tell, Cond.methodLink RX9 96 yX1_marksThere, Cond.methodLink RL 60 yX12_markAll, Cond.instanceMethod yX12_markAll, Cond.selects RX12 yX12_markAll yX12_markAll, Cond.code yX12_markAll cX12_markAll 4 (some .int), Cond.methodLink RX12 151 yX12_marksAs, Cond.instanceMethod yX12_marksAs]
def wsL_law0_r19 : List Cond := [Cond.selects RX12 yX12_marksAs yX12_marksAs, Cond.code yX12_marksAs cX12_marksAs 4 none, Cond.methodLink RL 61 yX11_marks, Cond.instanceMethod yX11_marks, Cond.selects RX11 yX11_marks yX11_marks, Cond.code yX11_marks cX11_marks 8 (some .int), Cond.fieldLink RX11 146 "DiveChairs$Shelf" "size" "I", Cond.fieldLink RX11 149 "DiveChairs$Shelf" "elements" "[I", Cond.methodLink RX11 135 yX11_shelfAt, Cond.instanceMethod yX11_shelfAt, Cond.selects RX11 yX11_shelfAt yX11_shelfAt, Cond.code yX11_shelfAt cX11_shelfAt 2 (some (.object "DiveChairs$Shelf")), Cond.methodLink RX11 139 yX8_refusalAsText, Cond.instanceMethod yX8_refusalAsText, Cond.selects RX8 yX8_refusalAsText yX8_refusalAsText, Cond.code yX8_refusalAsText cX8_refusalAsText 1 (some .int), Cond.fieldLink RX8 19 "DiveChairs$Shelf" "isRow" "Z", Cond.fieldLink RX8 30 "DiveChairs$Shelf" "sort" "I", Cond.methodLink RX8 33 yX8_refusalAsRow, Cond.instanceMethod yX8_refusalAsRow, Cond.selects RX8 yX8_refusalAsRow yX8_refusalAsRow, Cond.code yX8_refusalAsRow cX8_refusalAsRow 1 (some .int), Cond.fieldLink RX8 15 "DiveChairs$Shelf" "judge" "LDiveChairs$Judge;", Cond.methodLink RX11 142 yX8_holdsMarks]
def wsL_law0_r20 : List Cond := [Cond.instanceMethod yX8_holdsMarks, Cond.selects RX8 yX8_holdsMarks yX8_holdsMarks, Cond.code yX8_holdsMarks cX8_holdsMarks 3 (some .boolean), Cond.fieldLink RX8 23 "DiveChairs$Shelf" "size" "I", Cond.methodLink RX11 152 yX1_tell, Cond.methodLink RL 64 yX12_marks, Cond.instanceMethod yX12_marks, Cond.selects RX12 yX12_marks yX12_marks, Cond.code yX12_marks cX12_marks 6 (some .int), Cond.constantLong RX12 160 (20), Cond.methodLink RX12 157 yX12_wrongRow, Cond.instanceMethod yX12_wrongRow, Cond.selects RX12 yX12_wrongRow yX12_wrongRow, Cond.code yX12_wrongRow cX12_wrongRow 3 (some .int), Cond.methodLink RX12 154 yX12_isShelf, Cond.static yX12_isShelf, Cond.code yX12_isShelf cX12_isShelf 1 (some .boolean), Cond.methodLink RL 65 yX11_mark, Cond.instanceMethod yX11_mark, Cond.selects RX11 yX11_mark yX11_mark, Cond.code yX11_mark cX11_mark 4 (some .int), Cond.fieldLink RX11 160 "DiveChairs$Dive" "marks" "[I", Cond.methodLink RX11 156 yX1_hasMark, Cond.instanceMethod yX1_hasMark]
def wsL_law0_r21 : List Cond := [Cond.selects RX1 yX1_hasMark yX1_hasMark, Cond.code yX1_hasMark cX1_hasMark 2 (some .boolean), Cond.methodLink RL 68 yX12_mark, Cond.instanceMethod yX12_mark, Cond.selects RX12 yX12_mark yX12_mark, Cond.code yX12_mark cX12_mark 3 (some .int), Cond.methodLink RX12 162 yX12_markOf, Cond.instanceMethod yX12_markOf, Cond.selects RX12 yX12_markOf yX12_markOf, Cond.code yX12_markOf cX12_markOf 3 (some .int), Cond.methodLink RL 69 yX11_rule, Cond.instanceMethod yX11_rule, Cond.selects RX11 yX11_rule yX11_rule, Cond.code yX11_rule cX11_rule 5 (some .int), Cond.fieldLink RX11 163 "DiveChairs$State" "rule" "LDiveChairs$Rule;", Cond.fieldLink RX11 171 "DiveChairs$RuleReader" "draft" "LDiveChairs$Rule;", Cond.methodLink RX11 167 yX7_read, Cond.instanceMethod yX7_read, Cond.selects RX7 yX7_read yX7_read, Cond.code yX7_read cX7_read 4 (some .int), Cond.fieldLink RX7 26 "DiveChairs$Shelf" "elements" "[I", Cond.fieldLink RX7 31 "DiveChairs$Shelf" "size" "I", Cond.methodLink RX7 35 Lib.Math.min.name, Cond.fieldLink RX7 41 "DiveChairs$RuleReader" "size" "I"]
def wsL_law0_r22 : List Cond := [Cond.fieldLink RX7 42 "DiveChairs$RuleReader" "at" "I", Cond.fieldLink RX7 45 "DiveChairs$RuleReader" "stopped" "Z", Cond.fieldLink RX7 49 "DiveChairs$RuleReader" "firstWrong" "I", Cond.methodLink RX7 22 yX6_copyFrom, Cond.instanceMethod yX6_copyFrom, Cond.selects RX6 yX6_copyFrom yX6_copyFrom, Cond.code yX6_copyFrom cX6_copyFrom 2 none, Cond.methodLink RX6 32 arraycopyName, Cond.native arraycopyName, Cond.static arraycopyName, Cond.initialized "java/lang/System", Cond.methodLink RX7 52 yX7_readStatement, Cond.instanceMethod yX7_readStatement, Cond.selects RX7 yX7_readStatement yX7_readStatement, Cond.code yX7_readStatement cX7_readStatement 2 none, Cond.methodLink RX7 55 yX7_next, Cond.instanceMethod yX7_next, Cond.selects RX7 yX7_next yX7_next, Cond.code yX7_next cX7_next 1 (some .int), Cond.methodLink RX7 59 yX7_readOff, Cond.instanceMethod yX7_readOff, Cond.selects RX7 yX7_readOff yX7_readOff, Cond.code yX7_readOff cX7_readOff 4 none, Cond.fieldLink RX7 82 "DiveChairs$Rule" "off" "[I"]
def wsL_law0_r23 : List Cond := [Cond.methodLink RX7 75 yX7_readNumber, Cond.instanceMethod yX7_readNumber, Cond.selects RX7 yX7_readNumber yX7_readNumber, Cond.code yX7_readNumber cX7_readNumber 3 (some .int), Cond.methodLink RX7 107 yX7_isAtDigit, Cond.instanceMethod yX7_isAtDigit, Cond.selects RX7 yX7_isAtDigit yX7_isAtDigit, Cond.code yX7_isAtDigit cX7_isAtDigit 1 (some .boolean), Cond.methodLink RX7 72 yX7_expect, Cond.instanceMethod yX7_expect, Cond.selects RX7 yX7_expect yX7_expect, Cond.code yX7_expect cX7_expect 2 none, Cond.methodLink RX7 85 yX7_wrongAt, Cond.instanceMethod yX7_wrongAt, Cond.selects RX7 yX7_wrongAt yX7_wrongAt, Cond.code yX7_wrongAt cX7_wrongAt 2 none, Cond.methodLink RX7 63 yX7_readDropped, Cond.instanceMethod yX7_readDropped, Cond.selects RX7 yX7_readDropped yX7_readDropped, Cond.code yX7_readDropped cX7_readDropped 4 none, Cond.fieldLink RX7 88 "DiveChairs$Rule" "dropHighest" "I", Cond.fieldLink RX7 91 "DiveChairs$Rule" "dropLowest" "I", Cond.methodLink RX7 66 yX6_forgetSum, Cond.instanceMethod yX6_forgetSum]
def wsL_law0_r24 : List Cond := [Cond.selects RX6 yX6_forgetSum yX6_forgetSum, Cond.code yX6_forgetSum cX6_forgetSum 1 none, Cond.methodLink RX7 69 yX7_readSum, Cond.instanceMethod yX7_readSum, Cond.selects RX7 yX7_readSum yX7_readSum, Cond.code yX7_readSum cX7_readSum 4 none, Cond.methodLink RX7 94 yX7_readProduct, Cond.instanceMethod yX7_readProduct, Cond.selects RX7 yX7_readProduct yX7_readProduct, Cond.methodLink RX7 97 yX6_append, Cond.code yX7_readAtom cX7_readAtom 3 none, Cond.methodLink RX7 103 yX7_readBrackets, Cond.instanceMethod yX7_readBrackets, Cond.selects RX7 yX7_readBrackets yX7_readBrackets, Cond.code yX7_readBrackets cX7_readBrackets 4 none, Cond.code yX7_readProduct cX7_readProduct 4 none, Cond.methodLink RX7 100 yX7_readAtom, Cond.instanceMethod yX7_readAtom, Cond.selects RX7 yX7_readAtom yX7_readAtom, Cond.methodLink RX11 174 yX6_copyFrom, Cond.methodLink RL 72 yX12_rule, Cond.instanceMethod yX12_rule, Cond.selects RX12 yX12_rule yX12_rule, Cond.code yX12_rule cX12_rule 7 (some .int)]
def wsL_law0_r25 : List Cond := [Cond.fieldLink RX12 165 "DiveChairsModel" "pos" "I", Cond.fieldLink RX12 168 "DiveChairsModel" "end" "I", Cond.fieldLink RX12 213 "DiveChairsModel" "one" "I", Cond.fieldLink RX12 216 "DiveChairsModel" "two" "I", Cond.fieldLink RX12 210 "DiveChairsModel" "to" "I", Cond.fieldLink RX12 207 "DiveChairsModel" "from" "I", Cond.fieldLink RX12 171 "DiveChairsModel" "base" "I", Cond.methodLink RX12 219 yX12_begins, Cond.instanceMethod yX12_begins, Cond.selects RX12 yX12_begins yX12_begins, Cond.code yX12_begins cX12_begins 2 none, Cond.methodLink RX12 222 yX12_readsStatement, Cond.instanceMethod yX12_readsStatement, Cond.selects RX12 yX12_readsStatement yX12_readsStatement, Cond.code yX12_readsStatement cX12_readsStatement 2 (some .boolean), Cond.fieldLink RX12 195 "DiveChairsModel" "deep" "I", Cond.fieldLink RX12 182 "DiveChairsModel" "number" "I", Cond.methodLink RX12 174 yX12_sign, Cond.instanceMethod yX12_sign, Cond.selects RX12 yX12_sign yX12_sign, Cond.code yX12_sign cX12_sign 1 (some .int), Cond.methodLink RX12 198 yX12_readsSum, Cond.instanceMethod yX12_readsSum, Cond.selects RX12 yX12_readsSum yX12_readsSum]
def wsL_law0_r26 : List Cond := [Cond.code yX12_readsSum cX12_readsSum 1 (some .boolean), Cond.methodLink RX12 185 yX12_readsProduct, Cond.instanceMethod yX12_readsProduct, Cond.selects RX12 yX12_readsProduct yX12_readsProduct, Cond.methodLink RX12 189 yX12_takes, Cond.instanceMethod yX12_takes, Cond.selects RX12 yX12_takes yX12_takes, Cond.code yX12_takes cX12_takes 2 (some .boolean), Cond.code yX12_readsAtom cX12_readsAtom 2 (some .boolean), Cond.methodLink RX12 201 yX12_isField, Cond.static yX12_isField, Cond.code yX12_isField cX12_isField 1 (some .boolean), Cond.methodLink RX12 204 yX12_readsNumber, Cond.instanceMethod yX12_readsNumber, Cond.selects RX12 yX12_readsNumber yX12_readsNumber, Cond.code yX12_readsNumber cX12_readsNumber 2 (some .boolean), Cond.constantLong RX12 178 (48), Cond.constantLong RX12 180 (57), Cond.code yX12_readsProduct cX12_readsProduct 1 (some .boolean), Cond.methodLink RX12 192 yX12_readsAtom, Cond.instanceMethod yX12_readsAtom, Cond.selects RX12 yX12_readsAtom yX12_readsAtom, Cond.methodLink RL 73 yX11_counts, Cond.instanceMethod yX11_counts]
def wsL_law0_r27 : List Cond := [Cond.selects RX11 yX11_counts yX11_counts, Cond.code yX11_counts cX11_counts 3 (some .int), Cond.constant RX11 180 (-1000000001), Cond.methodLink RX11 181 yX9_countOf, Cond.instanceMethod yX9_countOf, Cond.selects RX9 yX9_countOf yX9_countOf, Cond.code yX9_countOf cX9_countOf 2 (some .int), Cond.methodLink RX9 100 yX5_gather, Cond.instanceMethod yX5_gather, Cond.selects RX5 yX5_gather yX5_gather, Cond.code yX5_gather cX5_gather 3 none, Cond.fieldLink RX5 25 "DiveChairs$Dive" "marks" "[I", Cond.methodLink RX5 19 yX1_hasMark, Cond.methodLink RX5 28 yX5_add, Cond.methodLink RX9 118 yX6_countFor, Cond.instanceMethod yX6_countFor, Cond.selects RX6 yX6_countFor yX6_countFor, Cond.code yX6_countFor cX6_countFor 6 (some .int), Cond.fieldLink RX6 41 "DiveChairs$Panel" "size" "I", Cond.methodLink RX6 46 yX6_isWorking, Cond.static yX6_isWorking, Cond.code yX6_isWorking cX6_isWorking 1 (some .boolean), Cond.methodLink RX6 50 yX6_fieldOf, Cond.instanceMethod yX6_fieldOf]
def wsL_law0_r28 : List Cond := [Cond.selects RX6 yX6_fieldOf yX6_fieldOf, Cond.code yX6_fieldOf cX6_fieldOf 4 (some .int), Cond.fieldLink RX6 70 "DiveChairs$Dive" "hard" "I", Cond.fieldLink RX6 85 "DiveChairs$Dive" "splash" "I", Cond.methodLink RX6 67 yX5_sumBetween, Cond.instanceMethod yX5_sumBetween, Cond.selects RX5 yX5_sumBetween yX5_sumBetween, Cond.code yX5_sumBetween cX5_sumBetween 5 (some .int), Cond.methodLink RX6 75 yX5_middle, Cond.methodLink RX6 79 yX5_highest, Cond.instanceMethod yX5_highest, Cond.selects RX5 yX5_highest yX5_highest, Cond.code yX5_highest cX5_highest 1 (some .int), Cond.methodLink RX6 82 yX5_lowest, Cond.instanceMethod yX5_lowest, Cond.selects RX5 yX5_lowest yX5_lowest, Cond.code yX5_lowest cX5_lowest 1 (some .int), Cond.methodLink RX6 54 yX6_worked, Cond.static yX6_worked, Cond.code yX6_worked cX6_worked 3 (some .int), Cond.methodLink RX6 58 Lib.Math.min.name, Cond.methodLink RX6 64 Lib.Math.max.name, Cond.methodLink RL 76 yX12_counts, Cond.instanceMethod yX12_counts]
def wsL_law0_r29 : List Cond := [Cond.selects RX12 yX12_counts yX12_counts, Cond.code yX12_counts cX12_counts 2 (some .int), Cond.constant RX12 277 (-1000000001), Cond.methodLink RX12 271 yX12_asTold, Cond.instanceMethod yX12_asTold, Cond.selects RX12 yX12_asTold yX12_asTold, Cond.code yX12_asTold cX12_asTold 1 none, Cond.fieldLink RX12 255 "DiveChairsModel" "leansOff" "Z", Cond.fieldLink RX12 259 "DiveChairsModel" "dropHigh" "I", Cond.fieldLink RX12 262 "DiveChairsModel" "dropLow" "I", Cond.methodLink RX12 278 yX12_countsNow, Cond.instanceMethod yX12_countsNow, Cond.selects RX12 yX12_countsNow yX12_countsNow, Cond.code yX12_countsNow cX12_countsNow 3 (some .int), Cond.fieldLink RX12 234 "DiveChairsModel" "sum" "I", Cond.fieldLink RX12 237 "DiveChairsModel" "many" "I", Cond.fieldLink RX12 240 "DiveChairsModel" "hard" "I", Cond.fieldLink RX12 243 "DiveChairsModel" "middle" "I", Cond.fieldLink RX12 246 "DiveChairsModel" "highest" "I", Cond.fieldLink RX12 249 "DiveChairsModel" "lowest" "I", Cond.fieldLink RX12 252 "DiveChairsModel" "splash" "I", Cond.methodLink RX12 274 yX12_gathers, Cond.instanceMethod yX12_gathers, Cond.selects RX12 yX12_gathers yX12_gathers]
def wsL_law0_r30 : List Cond := [Cond.code yX12_gathers cX12_gathers 5 none, Cond.fieldLink RX12 268 "DiveChairsModel" "movers" "I", Cond.methodLink RX12 265 yX12_leanIn, Cond.instanceMethod yX12_leanIn, Cond.selects RX12 yX12_leanIn yX12_leanIn, Cond.code yX12_leanIn cX12_leanIn 5 (some .int), Cond.methodLink RX12 231 yX12_sumOf, Cond.instanceMethod yX12_sumOf, Cond.selects RX12 yX12_sumOf yX12_sumOf, Cond.code yX12_sumOf cX12_sumOf 4 (some .int), Cond.methodLink RX12 225 yX12_product, Cond.instanceMethod yX12_product, Cond.selects RX12 yX12_product yX12_product, Cond.code yX12_atom cX12_atom 4 (some .int), Cond.code yX12_product cX12_product 4 (some .int), Cond.methodLink RX12 228 yX12_atom, Cond.instanceMethod yX12_atom, Cond.selects RX12 yX12_atom yX12_atom, Cond.methodLink RL 77 yX11_total, Cond.instanceMethod yX11_total, Cond.selects RX11 yX11_total yX11_total, Cond.code yX11_total cX11_total 4 (some .long), Cond.constantLong RX11 184 (-4611686018427387904), Cond.fieldLink RX11 193 "DiveChairs$State" "totals" "[J"]
def wsL_law0_r31 : List Cond := [Cond.methodLink RX11 186 yX9_addUp, Cond.instanceMethod yX9_addUp, Cond.selects RX9 yX9_addUp yX9_addUp, Cond.code yX9_addUp cX9_addUp 6 (some .int), Cond.fieldLink RX9 184 "DiveChairs$Dive" "hard" "I", Cond.methodLink RX9 181 yX9_worthOf, Cond.methodLink RX9 187 yX9_countOf, Cond.methodLink RX11 190 yX11_holds, Cond.static yX11_holds, Cond.code yX11_holds cX11_holds 2 (some .boolean), Cond.methodLink RL 80 yX12_total, Cond.instanceMethod yX12_total, Cond.selects RX12 yX12_total yX12_total, Cond.code yX12_total cX12_total 3 (some .long), Cond.constantLong RX12 285 (-4611686018427387904), Cond.methodLink RX12 281 yX12_dives, Cond.instanceMethod yX12_dives, Cond.selects RX12 yX12_dives yX12_dives, Cond.code yX12_dives cX12_dives 4 (some .boolean), Cond.methodLink RX12 287 yX12_totalNow, Cond.instanceMethod yX12_totalNow, Cond.selects RX12 yX12_totalNow yX12_totalNow, Cond.code yX12_totalNow cX12_totalNow 6 (some .long), Cond.methodLink RL 81 yX11_place]
def wsL_law0_r32 : List Cond := [Cond.instanceMethod yX11_place, Cond.selects RX11 yX11_place yX11_place, Cond.code yX11_place cX11_place 3 (some .int), Cond.methodLink RX11 197 yX9_placeOf, Cond.instanceMethod yX9_placeOf, Cond.selects RX9 yX9_placeOf yX9_placeOf, Cond.code yX9_placeOf cX9_placeOf 7 (some .int), Cond.methodLink RX9 190 yX9_addUp, Cond.methodLink RL 84 yX12_place, Cond.instanceMethod yX12_place, Cond.selects RX12 yX12_place yX12_place, Cond.code yX12_place cX12_place 3 (some .int), Cond.methodLink RX12 291 yX12_placeNow, Cond.instanceMethod yX12_placeNow, Cond.selects RX12 yX12_placeNow yX12_placeNow, Cond.code yX12_placeNow cX12_placeNow 7 (some .int), Cond.methodLink RL 85 yX11_won, Cond.instanceMethod yX11_won, Cond.selects RX11 yX11_won yX11_won, Cond.code yX11_won cX11_won 2 (some .int), Cond.methodLink RX11 201 yX9_winner, Cond.instanceMethod yX9_winner, Cond.selects RX9 yX9_winner yX9_winner, Cond.code yX9_winner cX9_winner 5 (some .int)]
def wsL_law0_r33 : List Cond := [Cond.methodLink RL 88 yX12_won, Cond.instanceMethod yX12_won, Cond.selects RX12 yX12_won yX12_won, Cond.code yX12_won cX12_won 2 (some .int), Cond.methodLink RX12 294 yX12_wonNow, Cond.instanceMethod yX12_wonNow, Cond.selects RX12 yX12_wonNow yX12_wonNow, Cond.code yX12_wonNow cX12_wonNow 8 (some .int), Cond.methodLink RL 89 yX11_wonIf, Cond.instanceMethod yX11_wonIf, Cond.selects RX11 yX11_wonIf yX11_wonIf, Cond.code yX11_wonIf cX11_wonIf 4 (some .int), Cond.fieldLink RX11 214 "DiveChairs$Rule" "dropHighest" "I", Cond.fieldLink RX11 217 "DiveChairs$Rule" "dropLowest" "I", Cond.methodLink RX11 204 yX11_isSupposable, Cond.static yX11_isSupposable, Cond.code yX11_isSupposable cX11_isSupposable 2 (some .boolean), Cond.methodLink RX11 207 yX9_copyFrom, Cond.instanceMethod yX9_copyFrom, Cond.selects RX9 yX9_copyFrom yX9_copyFrom, Cond.code yX9_copyFrom cX9_copyFrom 3 none, Cond.methodLink RX9 55 arraycopyName, Cond.methodLink RX9 61 yX6_copyFrom, Cond.methodLink RX9 75 yX1_copyFrom]
def wsL_law0_r34 : List Cond := [Cond.instanceMethod yX1_copyFrom, Cond.selects RX1 yX1_copyFrom yX1_copyFrom, Cond.code yX1_copyFrom cX1_copyFrom 2 none, Cond.methodLink RX1 38 arraycopyName, Cond.methodLink RX11 210 yX9_takeChairOff, Cond.instanceMethod yX9_takeChairOff, Cond.selects RX9 yX9_takeChairOff yX9_takeChairOff, Cond.code yX9_takeChairOff cX9_takeChairOff 3 none, Cond.methodLink RX11 220 yX9_takeLeansOff, Cond.instanceMethod yX9_takeLeansOff, Cond.selects RX9 yX9_takeLeansOff yX9_takeLeansOff, Cond.code yX9_takeLeansOff cX9_takeLeansOff 5 none, Cond.fieldLink RX9 197 "DiveChairs$Dive" "markers" "[I", Cond.fieldLink RX9 204 "DiveChairs$Dive" "marks" "[I", Cond.methodLink RX9 200 yX1_hasMark, Cond.methodLink RX9 207 yX2_leanTo, Cond.methodLink RL 92 yX12_wonIf, Cond.instanceMethod yX12_wonIf, Cond.selects RX12 yX12_wonIf yX12_wonIf, Cond.code yX12_wonIf cX12_wonIf 5 (some .int), Cond.constantLong RX12 297 (2), Cond.constantLong RX12 299 (33), Cond.methodLink RL 93 yX11_moved, Cond.instanceMethod yX11_moved]
def wsL_law0_r35 : List Cond := [Cond.selects RX11 yX11_moved yX11_moved, Cond.code yX11_moved cX11_moved 9 (some .int), Cond.methodLink RX11 223 yJ6_bitCount_0f7a4, Cond.static yJ6_bitCount_0f7a4, Cond.initialized RJ6, Cond.code yJ6_bitCount_0f7a4 cJ6_bitCount_0f7a4 1 (some .int), Cond.constant RJ6 265 (1431655765), Cond.constant RJ6 266 (858993459), Cond.constant RJ6 267 (252645135), Cond.methodLink RX11 228 yX11_placeMovedBy, Cond.instanceMethod yX11_placeMovedBy, Cond.selects RX11 yX11_placeMovedBy yX11_placeMovedBy, Cond.code yX11_placeMovedBy cX11_placeMovedBy 4 (some .int), Cond.methodLink RX11 367 yX9_moveUp, Cond.instanceMethod yX9_moveUp, Cond.selects RX9 yX9_moveUp yX9_moveUp, Cond.code yX9_moveUp cX9_moveUp 7 none, Cond.methodLink RL 96 yX12_moved, Cond.instanceMethod yX12_moved, Cond.selects RX12 yX12_moved yX12_moved, Cond.code yX12_moved cX12_moved 9 (some .int), Cond.constantLong RX12 301 (3), Cond.methodLink RX12 303 yX12_bits, Cond.static yX12_bits]
def wsL_law0_r36 : List Cond := [Cond.code yX12_bits cX12_bits 3 (some .int), Cond.methodLink RL 97 yX11_lean, Cond.instanceMethod yX11_lean, Cond.selects RX11 yX11_lean yX11_lean, Cond.code yX11_lean cX11_lean 4 (some .int), Cond.fieldLink RX11 236 "DiveChairs$Tally" "sum" "I", Cond.fieldLink RX11 239 "DiveChairs$Tally" "many" "I", Cond.constant RX11 242 (-1000000004), Cond.fieldLink RX11 243 "DiveChairs$Tally" "least" "I", Cond.fieldLink RX11 246 "DiveChairs$Tally" "greatest" "I", Cond.methodLink RX11 232 yX9_tallyUp, Cond.instanceMethod yX9_tallyUp, Cond.selects RX9 yX9_tallyUp yX9_tallyUp, Cond.code yX9_tallyUp cX9_tallyUp 7 none, Cond.methodLink RX9 210 yX10_start, Cond.instanceMethod yX10_start, Cond.selects RX10 yX10_start yX10_start, Cond.code yX10_start cX10_start 1 none, Cond.fieldLink RX10 7 "DiveChairs$Tally" "sum" "I", Cond.fieldLink RX10 13 "DiveChairs$Tally" "many" "I", Cond.fieldLink RX10 16 "DiveChairs$Tally" "least" "I", Cond.fieldLink RX10 19 "DiveChairs$Tally" "greatest" "I", Cond.fieldLink RX10 22 "DiveChairs$Tally" "distance" "I", Cond.methodLink RX9 215 yX1_markBy]
def wsL_law0_r37 : List Cond := [Cond.instanceMethod yX1_markBy, Cond.selects RX1 yX1_markBy yX1_markBy, Cond.code yX1_markBy cX1_markBy 3 (some .int), Cond.methodLink RX9 218 yX10_take, Cond.instanceMethod yX10_take, Cond.selects RX10 yX10_take yX10_take, Cond.code yX10_take cX10_take 2 none, Cond.methodLink RX10 25 Lib.Math.min.name, Cond.methodLink RX10 31 Lib.Math.max.name, Cond.methodLink RX10 34 Lib.Math.abs.name, Cond.static Lib.Math.abs.name, Cond.code Lib.Math.abs.name Lib.Math.abs.code 1 (some .int), Cond.methodLink RL 100 yX12_lean, Cond.instanceMethod yX12_lean, Cond.selects RX12 yX12_lean yX12_lean, Cond.code yX12_lean cX12_lean 4 (some .int), Cond.fieldLink RX12 306 "DiveChairsModel" "leanSum" "I", Cond.fieldLink RX12 309 "DiveChairsModel" "leanMany" "I", Cond.constant RX12 325 (-1000000004), Cond.fieldLink RX12 315 "DiveChairsModel" "leanLeast" "I", Cond.fieldLink RX12 318 "DiveChairsModel" "leanMost" "I", Cond.methodLink RX12 321 yX12_findLean, Cond.instanceMethod yX12_findLean, Cond.selects RX12 yX12_findLean yX12_findLean]
def wsL_law0_r38 : List Cond := [Cond.code yX12_findLean cX12_findLean 7 none, Cond.methodLink RX12 312 yX12_middleOf, Cond.instanceMethod yX12_middleOf, Cond.selects RX12 yX12_middleOf yX12_middleOf, Cond.code yX12_middleOf cX12_middleOf 2 (some .int), Cond.methodLink RL 101 yX11_pairs, Cond.instanceMethod yX11_pairs, Cond.selects RX11 yX11_pairs yX11_pairs, Cond.code yX11_pairs cX11_pairs 1 (some .int), Cond.methodLink RX11 249 yX3_takeFrom, Cond.instanceMethod yX3_takeFrom, Cond.selects RX3 yX3_takeFrom yX3_takeFrom, Cond.code yX3_takeFrom cX3_takeFrom 4 none, Cond.fieldLink RX3 21 "DiveChairs$State" "judges" "I", Cond.fieldLink RX3 27 "DiveChairs$LandDealing" "size" "I", Cond.sameField "DiveChairs$LandDealing" "DiveChairs$Dealing" "size" "I", Cond.fieldLink RX3 34 "DiveChairs$Judge" "land" "I", Cond.fieldLink RX3 43 "DiveChairs$State" "dives" "I", Cond.fieldLink RX3 50 "DiveChairs$State" "panel" "LDiveChairs$Panel;", Cond.methodLink RX3 30 yX9_judgeAt, Cond.methodLink RX3 39 yX9_hallsOf, Cond.instanceMethod yX9_hallsOf, Cond.selects RX9 yX9_hallsOf yX9_hallsOf, Cond.code yX9_hallsOf cX9_hallsOf 4 (some .int)]
def wsL_law0_r39 : List Cond := [Cond.methodLink RX3 46 yX9_diveAt, Cond.methodLink RX3 54 yX5_gather, Cond.methodLink RX3 60 yX9_landOf, Cond.methodLink RX3 64 yX5_middle, Cond.methodLink RX3 68 yX3_addLeans, Cond.instanceMethod yX3_addLeans, Cond.selects RX3 yX3_addLeans yX3_addLeans, Cond.code yX3_addLeans cX3_addLeans 6 none, Cond.fieldLink RX3 72 "DiveChairs$Dive" "markers" "[I", Cond.fieldLink RX3 81 "DiveChairs$Dive" "marks" "[I", Cond.methodLink RX11 252 ⟨"DiveChairs$LandDealing", "asItStands", "()I"⟩, Cond.sameMethod "DiveChairs$LandDealing" "DiveChairs$Dealing" "asItStands" "()I", Cond.selects RX3 ⟨"DiveChairs$LandDealing", "asItStands", "()I"⟩ yX0_asItStands, Cond.instanceMethod yX0_asItStands, Cond.code yX0_asItStands cX0_asItStands 4 (some .int), Cond.fieldLink RX0 15 "DiveChairs$Dealing" "size" "I", Cond.methodLink RX0 19 ⟨"DiveChairs$Dealing", "between", "(IIII)I"⟩, Cond.sameMethod "DiveChairs$Dealing" "DiveChairs$Dealing" "between" "(IIII)I", Cond.selects RX3 ⟨"DiveChairs$Dealing", "between", "(IIII)I"⟩ yX3_between, Cond.instanceMethod yX3_between, Cond.code yX3_between cX3_between 9 (some .int), Cond.methodLink RX3 84 yX3_leansTo, Cond.instanceMethod yX3_leansTo, Cond.selects RX3 yX3_leansTo yX3_leansTo]
def wsL_law0_r40 : List Cond := [Cond.code yX3_leansTo cX3_leansTo 3 (some .boolean), Cond.selects RX4 ⟨"DiveChairs$Dealing", "between", "(IIII)I"⟩ yX4_between, Cond.instanceMethod yX4_between, Cond.code yX4_between cX4_between 7 (some .int), Cond.methodLink RL 105 yX12_pairs, Cond.instanceMethod yX12_pairs, Cond.selects RX12 yX12_pairs yX12_pairs, Cond.code yX12_pairs cX12_pairs 1 (some .int), Cond.methodLink RX12 329 yX12_findSums, Cond.instanceMethod yX12_findSums, Cond.selects RX12 yX12_findSums yX12_findSums, Cond.code yX12_findSums cX12_findSums 3 none, Cond.methodLink RX12 326 yX12_sits, Cond.instanceMethod yX12_sits, Cond.selects RX12 yX12_sits yX12_sits, Cond.code yX12_sits cX12_sits 7 (some .boolean), Cond.methodLink RX12 332 yX12_pairsNow, Cond.instanceMethod yX12_pairsNow, Cond.selects RX12 yX12_pairsNow yX12_pairsNow, Cond.code yX12_pairsNow cX12_pairsNow 4 (some .int), Cond.methodLink RL 106 yX11_pairOdds, Cond.instanceMethod yX11_pairOdds, Cond.selects RX11 yX11_pairOdds yX11_pairOdds, Cond.code yX11_pairOdds cX11_pairOdds 2 (some .int)]
def wsL_law0_r41 : List Cond := [Cond.methodLink RX11 255 ⟨"DiveChairs$LandDealing", "waysAsGood", "()I"⟩, Cond.sameMethod "DiveChairs$LandDealing" "DiveChairs$Dealing" "waysAsGood" "()I", Cond.selects RX3 ⟨"DiveChairs$LandDealing", "waysAsGood", "()I"⟩ yX0_waysAsGood, Cond.instanceMethod yX0_waysAsGood, Cond.code yX0_waysAsGood cX0_waysAsGood 1 (some .int), Cond.fieldLink RX0 27 "DiveChairs$Dealing" "wanted" "I", Cond.methodLink RX0 23 ⟨"DiveChairs$Dealing", "asItStands", "()I"⟩, Cond.sameMethod "DiveChairs$Dealing" "DiveChairs$Dealing" "asItStands" "()I", Cond.selects RX3 ⟨"DiveChairs$Dealing", "asItStands", "()I"⟩ yX0_asItStands, Cond.selects RX4 ⟨"DiveChairs$Dealing", "asItStands", "()I"⟩ yX0_asItStands, Cond.methodLink RX0 30 ⟨"DiveChairs$Dealing", "waysFrom", "(III)I"⟩, Cond.sameMethod "DiveChairs$Dealing" "DiveChairs$Dealing" "waysFrom" "(III)I", Cond.selects RX3 ⟨"DiveChairs$Dealing", "waysFrom", "(III)I"⟩ yX0_waysFrom, Cond.instanceMethod yX0_waysFrom, Cond.code yX0_waysFrom cX0_waysFrom 6 (some .int), Cond.methodLink RX0 41 ⟨"DiveChairs$Dealing", "gainAt", "(I)I"⟩, Cond.sameMethod "DiveChairs$Dealing" "DiveChairs$Dealing" "gainAt" "(I)I", Cond.selects RX3 ⟨"DiveChairs$Dealing", "gainAt", "(I)I"⟩ yX0_gainAt, Cond.instanceMethod yX0_gainAt, Cond.code yX0_gainAt cX0_gainAt 4 (some .int), Cond.selects RX4 ⟨"DiveChairs$Dealing", "gainAt", "(I)I"⟩ yX0_gainAt, Cond.selects RX4 ⟨"DiveChairs$Dealing", "waysFrom", "(III)I"⟩ yX0_waysFrom, Cond.methodLink RX11 258 ⟨"DiveChairs$LandDealing", "allWays", "()I"⟩, Cond.sameMethod "DiveChairs$LandDealing" "DiveChairs$Dealing" "allWays" "()I"]
def wsL_law0_r42 : List Cond := [Cond.selects RX3 ⟨"DiveChairs$LandDealing", "allWays", "()I"⟩ yX0_allWays, Cond.instanceMethod yX0_allWays, Cond.code yX0_allWays cX0_allWays 3 (some .int), Cond.methodLink RL 109 yX12_pairOdds, Cond.instanceMethod yX12_pairOdds, Cond.selects RX12 yX12_pairOdds yX12_pairOdds, Cond.code yX12_pairOdds cX12_pairOdds 2 (some .int), Cond.fieldLink RX12 335 "DiveChairsModel" "ways" "I", Cond.fieldLink RX12 338 "DiveChairsModel" "asMany" "I", Cond.methodLink RX12 341 yX12_deals, Cond.instanceMethod yX12_deals, Cond.selects RX12 yX12_deals yX12_deals, Cond.code yX12_deals cX12_deals 5 none, Cond.methodLink RL 110 yX11_order, Cond.instanceMethod yX11_order, Cond.selects RX11 yX11_order yX11_order, Cond.code yX11_order cX11_order 2 (some .int), Cond.methodLink RX11 261 yX4_takeFrom, Cond.instanceMethod yX4_takeFrom, Cond.selects RX4 yX4_takeFrom yX4_takeFrom, Cond.code yX4_takeFrom cX4_takeFrom 5 none, Cond.fieldLink RX4 15 "DiveChairs$OrderDealing" "size" "I", Cond.sameField "DiveChairs$OrderDealing" "DiveChairs$Dealing" "size" "I", Cond.fieldLink RX4 19 "DiveChairs$State" "dives" "I"]
def wsL_law0_r43 : List Cond := [Cond.fieldLink RX4 28 "DiveChairs$Dive" "hall" "I", Cond.methodLink RX4 24 yX9_diveAt, Cond.methodLink RX4 37 yX9_countOf, Cond.methodLink RX11 264 ⟨"DiveChairs$OrderDealing", "asItStands", "()I"⟩, Cond.sameMethod "DiveChairs$OrderDealing" "DiveChairs$Dealing" "asItStands" "()I", Cond.selects RX4 ⟨"DiveChairs$OrderDealing", "asItStands", "()I"⟩ yX0_asItStands, Cond.methodLink RL 113 yX12_order, Cond.instanceMethod yX12_order, Cond.selects RX12 yX12_order yX12_order, Cond.code yX12_order cX12_order 2 (some .int), Cond.methodLink RX12 348 yX12_findCounts, Cond.instanceMethod yX12_findCounts, Cond.selects RX12 yX12_findCounts yX12_findCounts, Cond.code yX12_findCounts cX12_findCounts 3 none, Cond.fieldLink RX12 345 "DiveChairsModel" "countedMany" "I", Cond.methodLink RX12 351 yX12_orderNow, Cond.instanceMethod yX12_orderNow, Cond.selects RX12 yX12_orderNow yX12_orderNow, Cond.code yX12_orderNow cX12_orderNow 4 (some .int), Cond.methodLink RL 114 yX11_orderOdds, Cond.instanceMethod yX11_orderOdds, Cond.selects RX11 yX11_orderOdds yX11_orderOdds, Cond.code yX11_orderOdds cX11_orderOdds 3 (some .int), Cond.fieldLink RX11 265 "DiveChairs$OrderDealing" "size" "I"]
def wsL_law0_r44 : List Cond := [Cond.methodLink RX11 266 ⟨"DiveChairs$OrderDealing", "waysAsGood", "()I"⟩, Cond.sameMethod "DiveChairs$OrderDealing" "DiveChairs$Dealing" "waysAsGood" "()I", Cond.selects RX4 ⟨"DiveChairs$OrderDealing", "waysAsGood", "()I"⟩ yX0_waysAsGood, Cond.methodLink RX11 267 ⟨"DiveChairs$OrderDealing", "allWays", "()I"⟩, Cond.sameMethod "DiveChairs$OrderDealing" "DiveChairs$Dealing" "allWays" "()I", Cond.selects RX4 ⟨"DiveChairs$OrderDealing", "allWays", "()I"⟩ yX0_allWays, Cond.methodLink RL 117 yX12_orderOdds, Cond.instanceMethod yX12_orderOdds, Cond.selects RX12 yX12_orderOdds yX12_orderOdds, Cond.code yX12_orderOdds cX12_orderOdds 3 (some .int), Cond.methodLink RX12 354 yX12_orders, Cond.instanceMethod yX12_orders, Cond.selects RX12 yX12_orders yX12_orders, Cond.code yX12_orders cX12_orders 5 none, Cond.methodLink RL 118 yX11_creep, Cond.instanceMethod yX11_creep, Cond.selects RX11 yX11_creep yX11_creep, Cond.code yX11_creep cX11_creep 8 (some .int), Cond.methodLink RX11 268 yX9_meanOf, Cond.instanceMethod yX9_meanOf, Cond.selects RX9 yX9_meanOf yX9_meanOf, Cond.code yX9_meanOf cX9_meanOf 8 (some .int), Cond.methodLink RL 121 yX12_creep, Cond.instanceMethod yX12_creep]
def wsL_law0_r45 : List Cond := [Cond.selects RX12 yX12_creep yX12_creep, Cond.code yX12_creep cX12_creep 8 (some .int), Cond.methodLink RX12 357 yX12_meanIn, Cond.instanceMethod yX12_meanIn, Cond.selects RX12 yX12_meanIn yX12_meanIn, Cond.code yX12_meanIn cX12_meanIn 7 (some .int), Cond.methodLink RL 122 yX11_near, Cond.instanceMethod yX11_near, Cond.selects RX11 yX11_near yX11_near, Cond.code yX11_near cX11_near 2 (some .int), Cond.fieldLink RX11 271 "DiveChairs$Tally" "distance" "I", Cond.methodLink RL 125 yX12_near, Cond.instanceMethod yX12_near, Cond.selects RX12 yX12_near yX12_near, Cond.code yX12_near cX12_near 2 (some .int), Cond.fieldLink RX12 363 "DiveChairsModel" "nearMany" "I", Cond.fieldLink RX12 360 "DiveChairsModel" "nearSum" "I", Cond.methodLink RX12 366 yX12_findNear, Cond.instanceMethod yX12_findNear, Cond.selects RX12 yX12_findNear yX12_findNear, Cond.code yX12_findNear cX12_findNear 6 none, Cond.methodLink RL 126 yX11_nearest, Cond.instanceMethod yX11_nearest, Cond.selects RX11 yX11_nearest yX11_nearest]
def wsL_law0_r46 : List Cond := [Cond.code yX11_nearest cX11_nearest 6 (some .int), Cond.methodLink RL 129 yX12_nearest, Cond.instanceMethod yX12_nearest, Cond.selects RX12 yX12_nearest yX12_nearest, Cond.code yX12_nearest cX12_nearest 7 (some .int), Cond.methodLink RL 130 yX11_seeing, Cond.instanceMethod yX11_seeing, Cond.selects RX11 yX11_seeing yX11_seeing, Cond.code yX11_seeing cX11_seeing 8 (some .int), Cond.methodLink RX11 274 yX11_partsSeenFrom, Cond.static yX11_partsSeenFrom, Cond.code yX11_partsSeenFrom cX11_partsSeenFrom 4 (some .int), Cond.methodLink RL 133 yX12_seeing, Cond.instanceMethod yX12_seeing, Cond.selects RX12 yX12_seeing yX12_seeing, Cond.code yX12_seeing cX12_seeing 11 (some .int), Cond.methodLink RL 134 yX11_worlds, Cond.instanceMethod yX11_worlds, Cond.selects RX11 yX11_worlds yX11_worlds, Cond.code yX11_worlds cX11_worlds 7 (some .int), Cond.methodLink RX11 277 yX9_flawAnew, Cond.instanceMethod yX9_flawAnew, Cond.selects RX9 yX9_flawAnew yX9_flawAnew, Cond.code yX9_flawAnew cX9_flawAnew 6 (some .int)]
def wsL_law0_r47 : List Cond := [Cond.constant RX9 221 (1103515245), Cond.constant RX9 222 (2147483647), Cond.constant RX9 223 (65536), Cond.methodLink RX11 280 yX9_isRight, Cond.instanceMethod yX9_isRight, Cond.selects RX9 yX9_isRight yX9_isRight, Cond.code yX9_isRight cX9_isRight 3 (some .boolean), Cond.methodLink RX9 224 yX9_markDive, Cond.methodLink RX9 227 yX9_winner, Cond.methodLink RX9 230 yX9_placeOf, Cond.methodLink RL 137 yX12_worlds, Cond.instanceMethod yX12_worlds, Cond.selects RX12 yX12_worlds yX12_worlds, Cond.code yX12_worlds cX12_worlds 8 (some .int), Cond.constantLong RX12 372 (30), Cond.constant RX12 374 (1103515245), Cond.constant RX12 375 (2147483647), Cond.constant RX12 376 (65536), Cond.methodLink RX12 377 yX12_isRight, Cond.instanceMethod yX12_isRight, Cond.selects RX12 yX12_isRight yX12_isRight, Cond.code yX12_isRight cX12_isRight 6 (some .boolean), Cond.methodLink RX12 369 yX12_truly, Cond.instanceMethod yX12_truly]
def wsL_law0_r48 : List Cond := [Cond.selects RX12 yX12_truly yX12_truly, Cond.code yX12_truly cX12_truly 6 (some .long), Cond.methodLink RL 138 yX11_image, Cond.instanceMethod yX11_image, Cond.selects RX11 yX11_image yX11_image, Cond.code yX11_image cX11_image 1 (some .int), Cond.fieldLink RX11 283 "DiveChairs" "imageTaken" "Z", Cond.methodLink RL 141 yX12_image, Cond.instanceMethod yX12_image, Cond.selects RX12 yX12_image yX12_image, Cond.code yX12_image cX12_image 2 (some .int), Cond.fieldLink RX12 380 "DiveChairsModel" "hasImage" "Z", Cond.methodLink RL 142 yX11_restore, Cond.instanceMethod yX11_restore, Cond.selects RX11 yX11_restore yX11_restore, Cond.code yX11_restore cX11_restore 1 (some .int), Cond.methodLink RL 145 yX12_restore, Cond.instanceMethod yX12_restore, Cond.selects RX12 yX12_restore yX12_restore, Cond.code yX12_restore cX12_restore 2 (some .int), Cond.methodLink RL 146 yX11_count, Cond.instanceMethod yX11_count, Cond.selects RX11 yX11_count yX11_count, Cond.code yX11_count cX11_count 2 (some .int)]
def wsL_law0_r49 : List Cond := [Cond.fieldLink RX11 294 "DiveChairs$Rule" "off" "[I", Cond.methodLink RX11 287 yX9_marksThere, Cond.instanceMethod yX9_marksThere, Cond.selects RX9 yX9_marksThere yX9_marksThere, Cond.code yX9_marksThere cX9_marksThere 3 (some .int), Cond.methodLink RX11 288 yX9_sumOfMarks, Cond.instanceMethod yX9_sumOfMarks, Cond.selects RX9 yX9_sumOfMarks yX9_sumOfMarks, Cond.code yX9_sumOfMarks cX9_sumOfMarks 3 (some .int), Cond.methodLink RX9 103 yX5_sumBetween, Cond.methodLink RX11 291 yX9_seatsTaken, Cond.instanceMethod yX9_seatsTaken, Cond.selects RX9 yX9_seatsTaken yX9_seatsTaken, Cond.code yX9_seatsTaken cX9_seatsTaken 3 (some .int), Cond.methodLink RL 149 yX12_count, Cond.instanceMethod yX12_count, Cond.selects RX12 yX12_count yX12_count, Cond.code yX12_count cX12_count 5 (some .int), Cond.constantLong RX12 383 (13), Cond.methodLink RL 150 yX11_keep, Cond.instanceMethod yX11_keep, Cond.selects RX11 yX11_keep yX11_keep, Cond.code yX11_keep cX11_keep 6 (some .int), Cond.methodLink RX11 297 yX8_clear]
def wsL_law0_r50 : List Cond := [Cond.instanceMethod yX8_clear, Cond.selects RX8 yX8_clear yX8_clear, Cond.code yX8_clear cX8_clear 1 none, Cond.methodLink RX11 300 yX9_judgeAt, Cond.methodLink RX11 304 yX8_holdJudge, Cond.instanceMethod yX8_holdJudge, Cond.selects RX8 yX8_holdJudge yX8_holdJudge, Cond.code yX8_holdJudge cX8_holdJudge 2 none, Cond.methodLink RX8 27 yX8_clear, Cond.methodLink RL 153 yX12_keep, Cond.instanceMethod yX12_keep, Cond.selects RX12 yX12_keep yX12_keep, Cond.code yX12_keep cX12_keep 5 (some .int), Cond.methodLink RX12 385 yX12_weightOf, Cond.instanceMethod yX12_weightOf, Cond.selects RX12 yX12_weightOf yX12_weightOf, Cond.code yX12_weightOf cX12_weightOf 4 (some .int), Cond.methodLink RL 154 yX11_row, Cond.instanceMethod yX11_row, Cond.selects RX11 yX11_row yX11_row, Cond.code yX11_row cX11_row 5 (some .int), Cond.methodLink RX11 308 yX8_holdRow, Cond.instanceMethod yX8_holdRow, Cond.selects RX8 yX8_holdRow yX8_holdRow]
def wsL_law0_r51 : List Cond := [Cond.code yX8_holdRow cX8_holdRow 4 none, Cond.methodLink RL 157 yX12_row, Cond.instanceMethod yX12_row, Cond.selects RX12 yX12_row yX12_row, Cond.code yX12_row cX12_row 5 (some .int), Cond.methodLink RL 158 yX11_put, Cond.instanceMethod yX11_put, Cond.selects RX11 yX11_put yX11_put, Cond.code yX11_put cX11_put 6 (some .int), Cond.methodLink RX11 312 yX8_refusalAsRow, Cond.methodLink RX11 315 yX8_lowestBits, Cond.instanceMethod yX8_lowestBits, Cond.selects RX8 yX8_lowestBits yX8_lowestBits, Cond.code yX8_lowestBits cX8_lowestBits 2 (some .int), Cond.methodLink RL 161 yX12_put, Cond.instanceMethod yX12_put, Cond.selects RX12 yX12_put yX12_put, Cond.code yX12_put cX12_put 5 (some .int), Cond.methodLink RL 162 yL_element, Cond.static yL_element, Cond.initialized RL, Cond.codeWith yL_element cL_element 5 (some .int) [(0, 9, 12, 13), (0, 9, 16, 15)], Cond.classLink RL 13 "java/lang/IllegalArgumentException", Cond.classLink RL 15 "java/lang/IllegalStateException"]
def wsL_law0_r52 : List Cond := [Cond.methodLink RL 7 yX11_element, Cond.instanceMethod yX11_element, Cond.selects RX11 yX11_element yX11_element, Cond.code yX11_element cX11_element 4 (some .long), Cond.classLink RX11 318 "java/lang/IllegalArgumentException", Cond.initialized "java/lang/IllegalArgumentException", Cond.classLink RX11 325 "java/lang/IllegalStateException", Cond.initialized "java/lang/IllegalStateException", Cond.methodLink RL 167 yX12_element, Cond.instanceMethod yX12_element, Cond.selects RX12 yX12_element yX12_element, Cond.code yX12_element cX12_element 3 (some .long), Cond.fieldLink RX12 66 "DiveChairsModel" "thrown" "I", Cond.methodLink RL 168 yX12_thrown, Cond.instanceMethod yX12_thrown, Cond.selects RX12 yX12_thrown yX12_thrown, Cond.code yX12_thrown cX12_thrown 1 (some .int), Cond.methodLink RL 171 yX11_copy, Cond.instanceMethod yX11_copy, Cond.selects RX11 yX11_copy yX11_copy, Cond.code yX11_copy cX11_copy 8 (some .int), Cond.fieldLink RX11 333 "DiveChairs$Shelf" "sort" "I", Cond.methodLink RX11 339 arraycopyName, Cond.methodLink RX11 330 yX8_holdsNothing]
def wsL_law0_r53 : List Cond := [Cond.instanceMethod yX8_holdsNothing, Cond.selects RX8 yX8_holdsNothing yX8_holdsNothing, Cond.code yX8_holdsNothing cX8_holdsNothing 1 (some .boolean), Cond.methodLink RX11 336 yX8_hasPlaces, Cond.instanceMethod yX8_hasPlaces, Cond.selects RX8 yX8_hasPlaces yX8_hasPlaces, Cond.code yX8_hasPlaces cX8_hasPlaces 3 (some .boolean), Cond.methodLink RL 175 yX12_copy, Cond.instanceMethod yX12_copy, Cond.selects RX12 yX12_copy yX12_copy, Cond.code yX12_copy cX12_copy 8 (some .int), Cond.methodLink RL 176 yX11_weight, Cond.instanceMethod yX11_weight, Cond.selects RX11 yX11_weight yX11_weight, Cond.code yX11_weight cX11_weight 3 (some .int), Cond.fieldLink RX11 345 "DiveChairs$Shelf" "judge" "LDiveChairs$Judge;", Cond.methodLink RX11 349 yX8_refusalAsJudge, Cond.instanceMethod yX8_refusalAsJudge, Cond.selects RX8 yX8_refusalAsJudge yX8_refusalAsJudge, Cond.code yX8_refusalAsJudge cX8_refusalAsJudge 1 (some .int), Cond.methodLink RX11 352 yX2_heft, Cond.instanceMethod yX2_heft, Cond.selects RX2 yX2_heft yX2_heft, Cond.code yX2_heft cX2_heft 2 (some .int)]
def wsL_law0_r54 : List Cond := [Cond.methodLink RL 179 yX12_weight, Cond.instanceMethod yX12_weight, Cond.selects RX12 yX12_weight yX12_weight, Cond.code yX12_weight cX12_weight 3 (some .int), Cond.methodLink RX12 388 yX12_wrongKept, Cond.instanceMethod yX12_wrongKept, Cond.selects RX12 yX12_wrongKept yX12_wrongKept, Cond.code yX12_wrongKept cX12_wrongKept 2 (some .int), Cond.methodLink RL 180 yX11_toss, Cond.instanceMethod yX11_toss, Cond.selects RX11 yX11_toss yX11_toss, Cond.code yX11_toss cX11_toss 3 (some .int), Cond.methodLink RX11 357 yX11_fails, Cond.static yX11_fails, Cond.codeWith yX11_fails cX11_fails 2 (some .boolean) [(0, 5, 6, 325)], Cond.methodLink RX11 364 yX2_throwFailure, Cond.instanceMethod yX2_throwFailure, Cond.selects RX2 yX2_throwFailure yX2_throwFailure, Cond.code yX2_throwFailure cX2_throwFailure 2 none, Cond.classLink RX2 34 "java/lang/IllegalStateException", Cond.methodLink RX11 361 yX2_failureNumber, Cond.instanceMethod yX2_failureNumber, Cond.selects RX2 yX2_failureNumber yX2_failureNumber, Cond.code yX2_failureNumber cX2_failureNumber 1 (some .int)]
def wsL_law0_r55 : List Cond := [Cond.methodLink RL 183 yX12_toss, Cond.instanceMethod yX12_toss, Cond.selects RX12 yX12_toss yX12_toss, Cond.code yX12_toss cX12_toss 3 (some .int)]
def wsL_law0 : List Cond := (wsL_law0_r1 ++ (wsL_law0_r2 ++ (wsL_law0_r3 ++ (wsL_law0_r4 ++ (wsL_law0_r5 ++ (wsL_law0_r6 ++ (wsL_law0_r7 ++ (wsL_law0_r8 ++ (wsL_law0_r9 ++ (wsL_law0_r10 ++ (wsL_law0_r11 ++ (wsL_law0_r12 ++ (wsL_law0_r13 ++ (wsL_law0_r14 ++ (wsL_law0_r15 ++ (wsL_law0_r16 ++ (wsL_law0_r17 ++ (wsL_law0_r18 ++ (wsL_law0_r19 ++ (wsL_law0_r20 ++ (wsL_law0_r21 ++ (wsL_law0_r22 ++ (wsL_law0_r23 ++ (wsL_law0_r24 ++ (wsL_law0_r25 ++ (wsL_law0_r26 ++ (wsL_law0_r27 ++ (wsL_law0_r28 ++ (wsL_law0_r29 ++ (wsL_law0_r30 ++ (wsL_law0_r31 ++ (wsL_law0_r32 ++ (wsL_law0_r33 ++ (wsL_law0_r34 ++ (wsL_law0_r35 ++ (wsL_law0_r36 ++ (wsL_law0_r37 ++ (wsL_law0_r38 ++ (wsL_law0_r39 ++ (wsL_law0_r40 ++ (wsL_law0_r41 ++ (wsL_law0_r42 ++ (wsL_law0_r43 ++ (wsL_law0_r44 ++ (wsL_law0_r45 ++ (wsL_law0_r46 ++ (wsL_law0_r47 ++ (wsL_law0_r48 ++ (wsL_law0_r49 ++ (wsL_law0_r50 ++ (wsL_law0_r51 ++ (wsL_law0_r52 ++ (wsL_law0_r53 ++ (wsL_law0_r54 ++ wsL_law0_r55)))))))))))))))))))))))))))))))))))))))))))))))))))))) ++ wsX110 ++ wsX120 ++ wsX90 ++ wsX70 ++ wsX40 ++ wsX30 ++ wsX100 ++ wsX80 ++ wsX60 ++ wsX50 ++ wsX10 ++ wsX20 ++ ([] : List Cond)
def wsL_law : List Cond := wsL_law0 ++ (vx_atS RX11 322 "java/lang/IllegalArgumentException" ["java/lang/RuntimeException", "java/lang/Exception"]).filter goodWord ++ (vx_atS RX11 329 "java/lang/IllegalStateException" ["java/lang/RuntimeException", "java/lang/Exception"]).filter goodWord ++ (vx_atS RX2 38 "java/lang/IllegalStateException" ["java/lang/RuntimeException", "java/lang/Exception"]).filter goodWord
set_option maxRecDepth 20000 in
theorem wsL_law_in0 : ∀ w ∈ wsL_law0, w ∈ lw_tbl := fun w h => (goodIn_p wsL_law0 [101, 104, 109, 115, 120, 155, 170, 267, 295, 298, 322, 341, 367, 1166, 422, 425, 429, 1327, 1331, 434, 438, 442, 1336, 465, 1342, 1345, 1350, 469, 473, 477, 1354, 1357, 1362, 1366, 482, 486, 490, 494, 1370, 1374, 499, 503, 507, 514, 511, 518, 1381, 1385, 1389, 1393, 1397, 522, 525, 1401, 1404, 529, 533, 538, 542, 546, 551, 554, 558, 562, 565, 569, 573, 577, 1408, 1412, 1416, 1419, 1423, 1427, 1431, 581, 585, 1435, 1439, 592, 596, 600, 604, 608, 1443, 1447, 1450, 614, 618, 1455, 1459, 622, 626, 630, 638, 642, 646, 650, 654, 658, 663, 667, 671, 675, 683, 687, 679, 1463, 1467, 1471, 1475, 1479, 1491, 1487, 1494, 1498, 1483, 693, 698, 702, 708, 711, 715, 719, 724, 728, 731, 1504, 1509, 1513, 1517, 1521, 1525, 1533, 1529, 737, 742, 747, 1537, 1541, 1546, 751, 755, 1550, 1554, 761, 765, 1558, 1562, 769, 772, 776, 782, 787, 791, 1566, 797, 800, 807, 811, 1572, 1576, 815, 819, 823, 827, 831, 836, 1580, 1584, 1588, 841, 845, 850, 858, 865, 871, 875, 878, 1593, 1597, 1601, 1605, 883, 889, 894, 900, 906, 1609, 1613, 910, 914, 1617, 1621, 1625, 923, 1629, 1633, 933, 937, 1637, 1641, 941, 1645, 1649, 945, 1653, 949, 952, 1657, 956, 960, 967, 1661, 1669, 1673, 974, 1677, 978, 1681, 982, 986, 990, 995, 1685, 999, 1003, 1008, 1690, 1694, 1013, 1017, 1698, 1021, 1026, 1702, 1143, 1706, 1323, 1030, 1034, 1038, 1710, 1043, 1047, 1051, 1714, 1718, 1055, 1063, 1134, 1722] (by decide +kernel) (by decide +kernel) w h).1
theorem wsL_law_x0 : ∀ w ∈ (vx_atS RX11 322 "java/lang/IllegalArgumentException" ["java/lang/RuntimeException", "java/lang/Exception"]).filter goodWord, w ∈ lw_tbl := by decide +kernel
theorem wsL_law_x1 : ∀ w ∈ (vx_atS RX11 329 "java/lang/IllegalStateException" ["java/lang/RuntimeException", "java/lang/Exception"]).filter goodWord, w ∈ lw_tbl := by decide +kernel
theorem wsL_law_x2 : ∀ w ∈ (vx_atS RX2 38 "java/lang/IllegalStateException" ["java/lang/RuntimeException", "java/lang/Exception"]).filter goodWord, w ∈ lw_tbl := by decide +kernel
theorem wsL_law_in : ∀ w ∈ wsL_law, w ∈ lw_tbl := fun w h => (List.mem_append.mp h).elim (fun h => (List.mem_append.mp h).elim (fun h => (List.mem_append.mp h).elim (fun h => wsL_law_in0 w h) (fun h => wsL_law_x0 w h)) (fun h => wsL_law_x1 w h)) (fun h => wsL_law_x2 w h)
theorem inX0 : ∀ w ∈ wsX00, w ∈ lw_tbl := by decide +kernel
theorem inlX1 : ∀ w ∈ wsX10, w ∈ wsL_law := fun _ h => List.mem_append_left _ (List.mem_append_left _ (List.mem_append_left _ (List.mem_append_left _ (List.mem_append_left _ (List.mem_append_right _ h)))))
theorem inX1 : ∀ w ∈ wsX10, w ∈ lw_tbl := fun w h => wsL_law_in w (inlX1 w h)
theorem inlX2 : ∀ w ∈ wsX20, w ∈ wsL_law := fun _ h => List.mem_append_left _ (List.mem_append_left _ (List.mem_append_left _ (List.mem_append_left _ (List.mem_append_right _ h))))
theorem inX2 : ∀ w ∈ wsX20, w ∈ lw_tbl := fun w h => wsL_law_in w (inlX2 w h)
theorem inlX3 : ∀ w ∈ wsX30, w ∈ wsL_law := fun _ h => List.mem_append_left _ (List.mem_append_left _ (List.mem_append_left _ (List.mem_append_left _ (List.mem_append_left _ (List.mem_append_left _ (List.mem_append_left _ (List.mem_append_left _ (List.mem_append_left _ (List.mem_append_left _ (List.mem_append_right _ h))))))))))
theorem inX3 : ∀ w ∈ wsX30, w ∈ lw_tbl := fun w h => wsL_law_in w (inlX3 w h)
theorem inlX4 : ∀ w ∈ wsX40, w ∈ wsL_law := fun _ h => List.mem_append_left _ (List.mem_append_left _ (List.mem_append_left _ (List.mem_append_left _ (List.mem_append_left _ (List.mem_append_left _ (List.mem_append_left _ (List.mem_append_left _ (List.mem_append_left _ (List.mem_append_left _ (List.mem_append_left _ (List.mem_append_right _ h)))))))))))
theorem inX4 : ∀ w ∈ wsX40, w ∈ lw_tbl := fun w h => wsL_law_in w (inlX4 w h)
theorem inlX5 : ∀ w ∈ wsX50, w ∈ wsL_law := fun _ h => List.mem_append_left _ (List.mem_append_left _ (List.mem_append_left _ (List.mem_append_left _ (List.mem_append_left _ (List.mem_append_left _ (List.mem_append_right _ h))))))
theorem inX5 : ∀ w ∈ wsX50, w ∈ lw_tbl := fun w h => wsL_law_in w (inlX5 w h)
theorem inlX6 : ∀ w ∈ wsX60, w ∈ wsL_law := fun _ h => List.mem_append_left _ (List.mem_append_left _ (List.mem_append_left _ (List.mem_append_left _ (List.mem_append_left _ (List.mem_append_left _ (List.mem_append_left _ (List.mem_append_right _ h)))))))
theorem inX6 : ∀ w ∈ wsX60, w ∈ lw_tbl := fun w h => wsL_law_in w (inlX6 w h)
theorem inlX7 : ∀ w ∈ wsX70, w ∈ wsL_law := fun _ h => List.mem_append_left _ (List.mem_append_left _ (List.mem_append_left _ (List.mem_append_left _ (List.mem_append_left _ (List.mem_append_left _ (List.mem_append_left _ (List.mem_append_left _ (List.mem_append_left _ (List.mem_append_left _ (List.mem_append_left _ (List.mem_append_left _ (List.mem_append_right _ h))))))))))))
theorem inX7 : ∀ w ∈ wsX70, w ∈ lw_tbl := fun w h => wsL_law_in w (inlX7 w h)
theorem inlX8 : ∀ w ∈ wsX80, w ∈ wsL_law := fun _ h => List.mem_append_left _ (List.mem_append_left _ (List.mem_append_left _ (List.mem_append_left _ (List.mem_append_left _ (List.mem_append_left _ (List.mem_append_left _ (List.mem_append_left _ (List.mem_append_right _ h))))))))
theorem inX8 : ∀ w ∈ wsX80, w ∈ lw_tbl := fun w h => wsL_law_in w (inlX8 w h)
theorem inlX9 : ∀ w ∈ wsX90, w ∈ wsL_law := fun _ h => List.mem_append_left _ (List.mem_append_left _ (List.mem_append_left _ (List.mem_append_left _ (List.mem_append_left _ (List.mem_append_left _ (List.mem_append_left _ (List.mem_append_left _ (List.mem_append_left _ (List.mem_append_left _ (List.mem_append_left _ (List.mem_append_left _ (List.mem_append_left _ (List.mem_append_right _ h)))))))))))))
theorem inX9 : ∀ w ∈ wsX90, w ∈ lw_tbl := fun w h => wsL_law_in w (inlX9 w h)
theorem inlX10 : ∀ w ∈ wsX100, w ∈ wsL_law := fun _ h => List.mem_append_left _ (List.mem_append_left _ (List.mem_append_left _ (List.mem_append_left _ (List.mem_append_left _ (List.mem_append_left _ (List.mem_append_left _ (List.mem_append_left _ (List.mem_append_left _ (List.mem_append_right _ h)))))))))
theorem inX10 : ∀ w ∈ wsX100, w ∈ lw_tbl := fun w h => wsL_law_in w (inlX10 w h)
theorem inlX11 : ∀ w ∈ wsX110, w ∈ wsL_law := fun _ h => List.mem_append_left _ (List.mem_append_left _ (List.mem_append_left _ (List.mem_append_left _ (List.mem_append_left _ (List.mem_append_left _ (List.mem_append_left _ (List.mem_append_left _ (List.mem_append_left _ (List.mem_append_left _ (List.mem_append_left _ (List.mem_append_left _ (List.mem_append_left _ (List.mem_append_left _ (List.mem_append_left _ (List.mem_append_right _ h)))))))))))))))
theorem inX11 : ∀ w ∈ wsX110, w ∈ lw_tbl := fun w h => wsL_law_in w (inlX11 w h)
theorem inlX12 : ∀ w ∈ wsX120, w ∈ wsL_law := fun _ h => List.mem_append_left _ (List.mem_append_left _ (List.mem_append_left _ (List.mem_append_left _ (List.mem_append_left _ (List.mem_append_left _ (List.mem_append_left _ (List.mem_append_left _ (List.mem_append_left _ (List.mem_append_left _ (List.mem_append_left _ (List.mem_append_left _ (List.mem_append_left _ (List.mem_append_left _ (List.mem_append_right _ h))))))))))))))
theorem inX12 : ∀ w ∈ wsX120, w ∈ lw_tbl := fun w h => wsL_law_in w (inlX12 w h)
theorem inJ6 : ∀ w ∈ wsJ60, w ∈ lw_tbl := by decide +kernel
theorem inJ9 : ∀ w ∈ wsJ90, w ∈ lw_tbl := by decide +kernel
theorem inJ0 : ∀ w ∈ wsJ00, w ∈ lw_tbl := by decide +kernel
theorem inJ10 : ∀ w ∈ wsJ100, w ∈ lw_tbl := by decide +kernel
theorem dX0_init_0 : decode cX0_init 0 = .ok (.aload_n 0, 1) := by decide +kernel
theorem dX0_init_1 : decode cX0_init 1 = .ok (.invokespecial 3, 3) := by decide +kernel
theorem dX0_init_4 : decode cX0_init 4 = .ok (.aload_n 0, 1) := by decide +kernel
theorem dX0_init_5 : decode cX0_init 5 = .ok (.bipush 7, 2) := by decide +kernel
theorem dX0_init_7 : decode cX0_init 7 = .ok (.newarray .int, 2) := by decide +kernel
theorem dX0_init_9 : decode cX0_init 9 = .ok (.putfield 9, 3) := by decide +kernel
theorem dX0_init_12 : decode cX0_init 12 = .ok (.return_, 1) := by decide +kernel
set_option maxRecDepth 20000 in
theorem ggX0_asItStands_X3_between : GoodIn wsX0_asItStands wsX3_between := goodIn_r _ [7, 8, 9, 10, 11, 12, 13, 14, 15, 6, 16, 17, 23, 24, 25, 26, 27, 28] (by decide +kernel) (by decide +kernel)
set_option maxRecDepth 20000 in
theorem gX0_asItStands_X3_between_u19X3 : GoodIn wsX0_asItStands (va_wsU RX0 19 RX3 "DiveChairs$Dealing" ⟨"DiveChairs$Dealing", "between", "(IIII)I"⟩ yX3_between wsX3_between) := goodIn_app (goodIn_of _ (by decide +kernel)) ggX0_asItStands_X3_between
set_option maxRecDepth 20000 in
theorem ggX0_asItStands_X4_between : GoodIn wsX0_asItStands wsX4_between := goodIn_r _ [21, 22, 10, 11, 12, 29, 30, 31, 32] (by decide +kernel) (by decide +kernel)
set_option maxRecDepth 20000 in
theorem gX0_asItStands_X4_between_u19X4 : GoodIn wsX0_asItStands (va_wsU RX0 19 RX4 "DiveChairs$Dealing" ⟨"DiveChairs$Dealing", "between", "(IIII)I"⟩ yX4_between wsX4_between) := goodIn_app (goodIn_of _ (by decide +kernel)) ggX0_asItStands_X4_between
theorem dX0_asItStands_0 : decode cX0_asItStands 0 = .ok (.iconst 0, 1) := by decide +kernel
theorem dX0_asItStands_1 : decode cX0_asItStands 1 = .ok (.istore_n 1, 1) := by decide +kernel
theorem dX0_asItStands_2 : decode cX0_asItStands 2 = .ok (.iconst 1, 1) := by decide +kernel
theorem dX0_asItStands_3 : decode cX0_asItStands 3 = .ok (.istore_n 2, 1) := by decide +kernel
theorem dX0_asItStands_4 : decode cX0_asItStands 4 = .ok (.iload_n 2, 1) := by decide +kernel
theorem dX0_asItStands_5 : decode cX0_asItStands 5 = .ok (.aload_n 0, 1) := by decide +kernel
theorem dX0_asItStands_6 : decode cX0_asItStands 6 = .ok (.getfield 15, 3) := by decide +kernel
theorem dX0_asItStands_9 : decode cX0_asItStands 9 = .ok (.if_icmp .ge 33, 3) := by decide +kernel
theorem dX0_asItStands_12 : decode cX0_asItStands 12 = .ok (.iconst 0, 1) := by decide +kernel
theorem dX0_asItStands_13 : decode cX0_asItStands 13 = .ok (.istore_n 3, 1) := by decide +kernel
theorem dX0_asItStands_14 : decode cX0_asItStands 14 = .ok (.iload_n 3, 1) := by decide +kernel
theorem dX0_asItStands_15 : decode cX0_asItStands 15 = .ok (.iload_n 2, 1) := by decide +kernel
theorem dX0_asItStands_16 : decode cX0_asItStands 16 = .ok (.if_icmp .ge 20, 3) := by decide +kernel
theorem dX0_asItStands_19 : decode cX0_asItStands 19 = .ok (.iload_n 1, 1) := by decide +kernel
theorem dX0_asItStands_20 : decode cX0_asItStands 20 = .ok (.aload_n 0, 1) := by decide +kernel
theorem dX0_asItStands_21 : decode cX0_asItStands 21 = .ok (.iload_n 3, 1) := by decide +kernel
theorem dX0_asItStands_22 : decode cX0_asItStands 22 = .ok (.iload_n 3, 1) := by decide +kernel
theorem dX0_asItStands_23 : decode cX0_asItStands 23 = .ok (.iload_n 2, 1) := by decide +kernel
theorem dX0_asItStands_24 : decode cX0_asItStands 24 = .ok (.iload_n 2, 1) := by decide +kernel
theorem dX0_asItStands_25 : decode cX0_asItStands 25 = .ok (.invokevirtual 19, 3) := by decide +kernel
theorem dX0_asItStands_28 : decode cX0_asItStands 28 = .ok (.iadd, 1) := by decide +kernel
theorem dX0_asItStands_29 : decode cX0_asItStands 29 = .ok (.istore_n 1, 1) := by decide +kernel
theorem dX0_asItStands_30 : decode cX0_asItStands 30 = .ok (.iinc 3 1, 3) := by decide +kernel
theorem dX0_asItStands_33 : decode cX0_asItStands 33 = .ok (.goto (-19), 3) := by decide +kernel
theorem dX0_asItStands_36 : decode cX0_asItStands 36 = .ok (.iinc 2 1, 3) := by decide +kernel
theorem dX0_asItStands_39 : decode cX0_asItStands 39 = .ok (.goto (-35), 3) := by decide +kernel
theorem dX0_asItStands_42 : decode cX0_asItStands 42 = .ok (.iload_n 1, 1) := by decide +kernel
theorem dX0_asItStands_43 : decode cX0_asItStands 43 = .ok (.ireturn, 1) := by decide +kernel
theorem dX0_allWays_0 : decode cX0_allWays 0 = .ok (.iconst 1, 1) := by decide +kernel
theorem dX0_allWays_1 : decode cX0_allWays 1 = .ok (.istore_n 1, 1) := by decide +kernel
theorem dX0_allWays_2 : decode cX0_allWays 2 = .ok (.iconst 2, 1) := by decide +kernel
theorem dX0_allWays_3 : decode cX0_allWays 3 = .ok (.istore_n 2, 1) := by decide +kernel
theorem dX0_allWays_4 : decode cX0_allWays 4 = .ok (.iload_n 2, 1) := by decide +kernel
theorem dX0_allWays_5 : decode cX0_allWays 5 = .ok (.aload_n 0, 1) := by decide +kernel
theorem dX0_allWays_6 : decode cX0_allWays 6 = .ok (.getfield 15, 3) := by decide +kernel
theorem dX0_allWays_9 : decode cX0_allWays 9 = .ok (.if_icmp .gt 19, 3) := by decide +kernel
theorem dX0_allWays_12 : decode cX0_allWays 12 = .ok (.iload_n 2, 1) := by decide +kernel
theorem dX0_allWays_13 : decode cX0_allWays 13 = .ok (.bipush 7, 2) := by decide +kernel
theorem dX0_allWays_15 : decode cX0_allWays 15 = .ok (.if_icmp .gt 13, 3) := by decide +kernel
theorem dX0_allWays_18 : decode cX0_allWays 18 = .ok (.iload_n 1, 1) := by decide +kernel
theorem dX0_allWays_19 : decode cX0_allWays 19 = .ok (.iload_n 2, 1) := by decide +kernel
theorem dX0_allWays_20 : decode cX0_allWays 20 = .ok (.imul, 1) := by decide +kernel
theorem dX0_allWays_21 : decode cX0_allWays 21 = .ok (.istore_n 1, 1) := by decide +kernel
theorem dX0_allWays_22 : decode cX0_allWays 22 = .ok (.iinc 2 1, 3) := by decide +kernel
theorem dX0_allWays_25 : decode cX0_allWays 25 = .ok (.goto (-21), 3) := by decide +kernel
theorem dX0_allWays_28 : decode cX0_allWays 28 = .ok (.iload_n 1, 1) := by decide +kernel
theorem dX0_allWays_29 : decode cX0_allWays 29 = .ok (.ireturn, 1) := by decide +kernel
set_option maxRecDepth 20000 in
theorem ggX0_waysAsGood_X0_asItStands : GoodIn wsX0_waysAsGood wsX0_asItStands := goodIn_r _ [7, 8, 9, 10, 11, 12, 13, 14, 15, 16, 17, 18, 19, 20, 21, 22, 23, 24, 25, 26, 27, 28, 29, 46, 47, 48, 49, 50, 51, 52, 53, 54, 55] (by decide +kernel) (by decide +kernel)
set_option maxRecDepth 20000 in
theorem gX0_waysAsGood_X0_asItStands_u23X3 : GoodIn wsX0_waysAsGood (va_wsU RX0 23 RX3 "DiveChairs$Dealing" ⟨"DiveChairs$Dealing", "asItStands", "()I"⟩ yX0_asItStands wsX0_asItStands) := goodIn_app (goodIn_of _ (by decide +kernel)) ggX0_waysAsGood_X0_asItStands
set_option maxRecDepth 20000 in
theorem gX0_waysAsGood_X0_asItStands_u23X4 : GoodIn wsX0_waysAsGood (va_wsU RX0 23 RX4 "DiveChairs$Dealing" ⟨"DiveChairs$Dealing", "asItStands", "()I"⟩ yX0_asItStands wsX0_asItStands) := goodIn_app (goodIn_of _ (by decide +kernel)) ggX0_waysAsGood_X0_asItStands
set_option maxRecDepth 20000 in
theorem ggX0_waysAsGood_X0_waysFrom : GoodIn wsX0_waysAsGood wsX0_waysFrom := goodIn_r _ [35, 8, 1, 36, 17, 18, 19, 37, 38, 39, 40, 41, 42, 6, 43, 9, 10, 11, 12, 13, 14, 15, 16, 20, 21, 22, 23, 24, 25, 26, 27, 28, 29, 44, 31, 32, 33, 34, 45, 46, 47, 48, 49, 50, 51, 52, 53, 54, 55] (by decide +kernel) (by decide +kernel)
set_option maxRecDepth 20000 in
theorem gX0_waysAsGood_X0_waysFrom_u30X3 : GoodIn wsX0_waysAsGood (va_wsU RX0 30 RX3 "DiveChairs$Dealing" ⟨"DiveChairs$Dealing", "waysFrom", "(III)I"⟩ yX0_waysFrom wsX0_waysFrom) := goodIn_app (goodIn_of _ (by decide +kernel)) ggX0_waysAsGood_X0_waysFrom
set_option maxRecDepth 20000 in
theorem gX0_waysAsGood_X0_waysFrom_u30X4 : GoodIn wsX0_waysAsGood (va_wsU RX0 30 RX4 "DiveChairs$Dealing" ⟨"DiveChairs$Dealing", "waysFrom", "(III)I"⟩ yX0_waysFrom wsX0_waysFrom) := goodIn_app (goodIn_of _ (by decide +kernel)) ggX0_waysAsGood_X0_waysFrom
theorem dX0_waysAsGood_0 : decode cX0_waysAsGood 0 = .ok (.aload_n 0, 1) := by decide +kernel
theorem dX0_waysAsGood_1 : decode cX0_waysAsGood 1 = .ok (.aload_n 0, 1) := by decide +kernel
theorem dX0_waysAsGood_2 : decode cX0_waysAsGood 2 = .ok (.invokevirtual 23, 3) := by decide +kernel
theorem dX0_waysAsGood_5 : decode cX0_waysAsGood 5 = .ok (.putfield 27, 3) := by decide +kernel
theorem dX0_waysAsGood_8 : decode cX0_waysAsGood 8 = .ok (.aload_n 0, 1) := by decide +kernel
theorem dX0_waysAsGood_9 : decode cX0_waysAsGood 9 = .ok (.iconst 0, 1) := by decide +kernel
theorem dX0_waysAsGood_10 : decode cX0_waysAsGood 10 = .ok (.iconst 0, 1) := by decide +kernel
theorem dX0_waysAsGood_11 : decode cX0_waysAsGood 11 = .ok (.iconst 0, 1) := by decide +kernel
theorem dX0_waysAsGood_12 : decode cX0_waysAsGood 12 = .ok (.invokevirtual 30, 3) := by decide +kernel
theorem dX0_waysAsGood_15 : decode cX0_waysAsGood 15 = .ok (.ireturn, 1) := by decide +kernel
set_option maxRecDepth 20000 in
theorem ggX0_waysFrom_X11_within : GoodIn wsX0_waysFrom wsX11_within := goodIn_r _ [6] (by decide +kernel) (by decide +kernel)
set_option maxRecDepth 20000 in
theorem gX0_waysFrom_X11_within_n34 : GoodIn wsX0_waysFrom (wsX11_within) := ggX0_waysFrom_X11_within
set_option maxRecDepth 20000 in
theorem ggX0_waysFrom_X11_holds : GoodIn wsX0_waysFrom wsX11_holds := goodIn_r _ [8] (by decide +kernel) (by decide +kernel)
set_option maxRecDepth 20000 in
theorem gX0_waysFrom_X11_holds_n38 : GoodIn wsX0_waysFrom (wsX11_holds) := ggX0_waysFrom_X11_holds
set_option maxRecDepth 20000 in
theorem ggX0_waysFrom_X0_gainAt : GoodIn wsX0_waysFrom wsX0_gainAt := goodIn_r _ [14, 3, 15, 16, 17, 18, 19, 20, 21, 22, 4, 5, 6, 23, 24, 25, 26, 27, 28, 29, 30, 31, 32, 39, 40, 41, 42, 43, 44, 45, 46, 47, 48] (by decide +kernel) (by decide +kernel)
set_option maxRecDepth 20000 in
theorem gX0_waysFrom_X0_gainAt_u41X3 : GoodIn wsX0_waysFrom (va_wsU RX0 41 RX3 "DiveChairs$Dealing" ⟨"DiveChairs$Dealing", "gainAt", "(I)I"⟩ yX0_gainAt wsX0_gainAt) := goodIn_app (goodIn_of _ (by decide +kernel)) ggX0_waysFrom_X0_gainAt
set_option maxRecDepth 20000 in
theorem gX0_waysFrom_X0_gainAt_u41X4 : GoodIn wsX0_waysFrom (va_wsU RX0 41 RX4 "DiveChairs$Dealing" ⟨"DiveChairs$Dealing", "gainAt", "(I)I"⟩ yX0_gainAt wsX0_gainAt) := goodIn_app (goodIn_of _ (by decide +kernel)) ggX0_waysFrom_X0_gainAt
set_option maxRecDepth 20000 in
theorem ggX0_waysFrom_X0_waysFrom : GoodIn wsX0_waysFrom wsX0_waysFrom := goodIn_r _ [0, 1, 2, 3, 4, 5, 6, 7, 8, 9, 10, 11, 12, 13, 14, 15, 16, 17, 18, 19, 20, 21, 22, 23, 24, 25, 26, 27, 28, 29, 30, 31, 32, 33, 34, 35, 36, 37, 38, 39, 40, 41, 42, 43, 44, 45, 46, 47, 48] (by decide +kernel) (by decide +kernel)
set_option maxRecDepth 20000 in
theorem gX0_waysFrom_X0_waysFrom_u30X3 : GoodIn wsX0_waysFrom (va_wsU RX0 30 RX3 "DiveChairs$Dealing" ⟨"DiveChairs$Dealing", "waysFrom", "(III)I"⟩ yX0_waysFrom wsX0_waysFrom) := goodIn_app (goodIn_of _ (by decide +kernel)) ggX0_waysFrom_X0_waysFrom
set_option maxRecDepth 20000 in
theorem gX0_waysFrom_X0_waysFrom_u30X4 : GoodIn wsX0_waysFrom (va_wsU RX0 30 RX4 "DiveChairs$Dealing" ⟨"DiveChairs$Dealing", "waysFrom", "(III)I"⟩ yX0_waysFrom wsX0_waysFrom) := goodIn_app (goodIn_of _ (by decide +kernel)) ggX0_waysFrom_X0_waysFrom
theorem dX0_waysFrom_0 : decode cX0_waysFrom 0 = .ok (.iload_n 1, 1) := by decide +kernel
theorem dX0_waysFrom_1 : decode cX0_waysFrom 1 = .ok (.aload_n 0, 1) := by decide +kernel
theorem dX0_waysFrom_2 : decode cX0_waysFrom 2 = .ok (.getfield 15, 3) := by decide +kernel
theorem dX0_waysFrom_5 : decode cX0_waysFrom 5 = .ok (.if_icmp .ge 12, 3) := by decide +kernel
theorem dX0_waysFrom_8 : decode cX0_waysFrom 8 = .ok (.iload_n 1, 1) := by decide +kernel
theorem dX0_waysFrom_9 : decode cX0_waysFrom 9 = .ok (.bipush 7, 2) := by decide +kernel
theorem dX0_waysFrom_11 : decode cX0_waysFrom 11 = .ok (.invokestatic 34, 3) := by decide +kernel
theorem dX0_waysFrom_14 : decode cX0_waysFrom 14 = .ok (.ifCond .ne 17, 3) := by decide +kernel
theorem dX0_waysFrom_17 : decode cX0_waysFrom 17 = .ok (.iload_n 3, 1) := by decide +kernel
theorem dX0_waysFrom_18 : decode cX0_waysFrom 18 = .ok (.aload_n 0, 1) := by decide +kernel
theorem dX0_waysFrom_19 : decode cX0_waysFrom 19 = .ok (.getfield 27, 3) := by decide +kernel
theorem dX0_waysFrom_22 : decode cX0_waysFrom 22 = .ok (.if_icmp .lt 7, 3) := by decide +kernel
theorem dX0_waysFrom_25 : decode cX0_waysFrom 25 = .ok (.iconst 1, 1) := by decide +kernel
theorem dX0_waysFrom_26 : decode cX0_waysFrom 26 = .ok (.goto 4, 3) := by decide +kernel
theorem dX0_waysFrom_29 : decode cX0_waysFrom 29 = .ok (.iconst 0, 1) := by decide +kernel
theorem dX0_waysFrom_30 : decode cX0_waysFrom 30 = .ok (.ireturn, 1) := by decide +kernel
theorem dX0_waysFrom_31 : decode cX0_waysFrom 31 = .ok (.iconst 0, 1) := by decide +kernel
theorem dX0_waysFrom_32 : decode cX0_waysFrom 32 = .ok (.istore 4, 2) := by decide +kernel
theorem dX0_waysFrom_34 : decode cX0_waysFrom 34 = .ok (.iconst 0, 1) := by decide +kernel
theorem dX0_waysFrom_35 : decode cX0_waysFrom 35 = .ok (.istore 5, 2) := by decide +kernel
theorem dX0_waysFrom_37 : decode cX0_waysFrom 37 = .ok (.iload 5, 2) := by decide +kernel
theorem dX0_waysFrom_39 : decode cX0_waysFrom 39 = .ok (.aload_n 0, 1) := by decide +kernel
theorem dX0_waysFrom_40 : decode cX0_waysFrom 40 = .ok (.getfield 15, 3) := by decide +kernel
theorem dX0_waysFrom_43 : decode cX0_waysFrom 43 = .ok (.if_icmp .ge 51, 3) := by decide +kernel
theorem dX0_waysFrom_46 : decode cX0_waysFrom 46 = .ok (.iload_n 2, 1) := by decide +kernel
theorem dX0_waysFrom_47 : decode cX0_waysFrom 47 = .ok (.iload 5, 2) := by decide +kernel
theorem dX0_waysFrom_49 : decode cX0_waysFrom 49 = .ok (.invokestatic 38, 3) := by decide +kernel
theorem dX0_waysFrom_52 : decode cX0_waysFrom 52 = .ok (.ifCond .ne 36, 3) := by decide +kernel
theorem dX0_waysFrom_55 : decode cX0_waysFrom 55 = .ok (.aload_n 0, 1) := by decide +kernel
theorem dX0_waysFrom_56 : decode cX0_waysFrom 56 = .ok (.getfield 9, 3) := by decide +kernel
theorem dX0_waysFrom_59 : decode cX0_waysFrom 59 = .ok (.iload_n 1, 1) := by decide +kernel
theorem dX0_waysFrom_60 : decode cX0_waysFrom 60 = .ok (.iload 5, 2) := by decide +kernel
theorem dX0_waysFrom_62 : decode cX0_waysFrom 62 = .ok (.iastore, 1) := by decide +kernel
theorem dX0_waysFrom_63 : decode cX0_waysFrom 63 = .ok (.iload 4, 2) := by decide +kernel
theorem dX0_waysFrom_65 : decode cX0_waysFrom 65 = .ok (.aload_n 0, 1) := by decide +kernel
theorem dX0_waysFrom_66 : decode cX0_waysFrom 66 = .ok (.iload_n 1, 1) := by decide +kernel
theorem dX0_waysFrom_67 : decode cX0_waysFrom 67 = .ok (.iconst 1, 1) := by decide +kernel
theorem dX0_waysFrom_68 : decode cX0_waysFrom 68 = .ok (.iadd, 1) := by decide +kernel
theorem dX0_waysFrom_69 : decode cX0_waysFrom 69 = .ok (.iload_n 2, 1) := by decide +kernel
theorem dX0_waysFrom_70 : decode cX0_waysFrom 70 = .ok (.iconst 1, 1) := by decide +kernel
theorem dX0_waysFrom_71 : decode cX0_waysFrom 71 = .ok (.iload 5, 2) := by decide +kernel
theorem dX0_waysFrom_73 : decode cX0_waysFrom 73 = .ok (.ishl, 1) := by decide +kernel
theorem dX0_waysFrom_74 : decode cX0_waysFrom 74 = .ok (.ior, 1) := by decide +kernel
theorem dX0_waysFrom_75 : decode cX0_waysFrom 75 = .ok (.iload_n 3, 1) := by decide +kernel
theorem dX0_waysFrom_76 : decode cX0_waysFrom 76 = .ok (.aload_n 0, 1) := by decide +kernel
theorem dX0_waysFrom_77 : decode cX0_waysFrom 77 = .ok (.iload_n 1, 1) := by decide +kernel
theorem dX0_waysFrom_78 : decode cX0_waysFrom 78 = .ok (.invokevirtual 41, 3) := by decide +kernel
theorem dX0_waysFrom_81 : decode cX0_waysFrom 81 = .ok (.iadd, 1) := by decide +kernel
theorem dX0_waysFrom_82 : decode cX0_waysFrom 82 = .ok (.invokevirtual 30, 3) := by decide +kernel
theorem dX0_waysFrom_85 : decode cX0_waysFrom 85 = .ok (.iadd, 1) := by decide +kernel
theorem dX0_waysFrom_86 : decode cX0_waysFrom 86 = .ok (.istore 4, 2) := by decide +kernel
theorem dX0_waysFrom_88 : decode cX0_waysFrom 88 = .ok (.iinc 5 1, 3) := by decide +kernel
theorem dX0_waysFrom_91 : decode cX0_waysFrom 91 = .ok (.goto (-54), 3) := by decide +kernel
theorem dX0_waysFrom_94 : decode cX0_waysFrom 94 = .ok (.iload 4, 2) := by decide +kernel
theorem dX0_waysFrom_96 : decode cX0_waysFrom 96 = .ok (.ireturn, 1) := by decide +kernel
set_option maxRecDepth 20000 in
theorem ggX0_gainAt_X3_between : GoodIn wsX0_gainAt wsX3_between := goodIn_r _ [7, 8, 9, 10, 11, 12, 13, 14, 15, 6, 16, 17, 23, 24, 25, 26, 27, 28] (by decide +kernel) (by decide +kernel)
set_option maxRecDepth 20000 in
theorem gX0_gainAt_X3_between_u19X3 : GoodIn wsX0_gainAt (va_wsU RX0 19 RX3 "DiveChairs$Dealing" ⟨"DiveChairs$Dealing", "between", "(IIII)I"⟩ yX3_between wsX3_between) := goodIn_app (goodIn_of _ (by decide +kernel)) ggX0_gainAt_X3_between
set_option maxRecDepth 20000 in
theorem ggX0_gainAt_X4_between : GoodIn wsX0_gainAt wsX4_between := goodIn_r _ [21, 22, 10, 11, 12, 29, 30, 31, 32] (by decide +kernel) (by decide +kernel)
set_option maxRecDepth 20000 in
theorem gX0_gainAt_X4_between_u19X4 : GoodIn wsX0_gainAt (va_wsU RX0 19 RX4 "DiveChairs$Dealing" ⟨"DiveChairs$Dealing", "between", "(IIII)I"⟩ yX4_between wsX4_between) := goodIn_app (goodIn_of _ (by decide +kernel)) ggX0_gainAt_X4_between
theorem dX0_gainAt_0 : decode cX0_gainAt 0 = .ok (.iconst 0, 1) := by decide +kernel
theorem dX0_gainAt_1 : decode cX0_gainAt 1 = .ok (.istore_n 2, 1) := by decide +kernel
theorem dX0_gainAt_2 : decode cX0_gainAt 2 = .ok (.iconst 0, 1) := by decide +kernel
theorem dX0_gainAt_3 : decode cX0_gainAt 3 = .ok (.istore_n 3, 1) := by decide +kernel
theorem dX0_gainAt_4 : decode cX0_gainAt 4 = .ok (.iload_n 3, 1) := by decide +kernel
theorem dX0_gainAt_5 : decode cX0_gainAt 5 = .ok (.iload_n 1, 1) := by decide +kernel
theorem dX0_gainAt_6 : decode cX0_gainAt 6 = .ok (.if_icmp .ge 30, 3) := by decide +kernel
theorem dX0_gainAt_9 : decode cX0_gainAt 9 = .ok (.iload_n 2, 1) := by decide +kernel
theorem dX0_gainAt_10 : decode cX0_gainAt 10 = .ok (.aload_n 0, 1) := by decide +kernel
theorem dX0_gainAt_11 : decode cX0_gainAt 11 = .ok (.iload_n 3, 1) := by decide +kernel
theorem dX0_gainAt_12 : decode cX0_gainAt 12 = .ok (.aload_n 0, 1) := by decide +kernel
theorem dX0_gainAt_13 : decode cX0_gainAt 13 = .ok (.getfield 9, 3) := by decide +kernel
theorem dX0_gainAt_16 : decode cX0_gainAt 16 = .ok (.iload_n 3, 1) := by decide +kernel
theorem dX0_gainAt_17 : decode cX0_gainAt 17 = .ok (.iaload, 1) := by decide +kernel
theorem dX0_gainAt_18 : decode cX0_gainAt 18 = .ok (.iload_n 1, 1) := by decide +kernel
theorem dX0_gainAt_19 : decode cX0_gainAt 19 = .ok (.aload_n 0, 1) := by decide +kernel
theorem dX0_gainAt_20 : decode cX0_gainAt 20 = .ok (.getfield 9, 3) := by decide +kernel
theorem dX0_gainAt_23 : decode cX0_gainAt 23 = .ok (.iload_n 1, 1) := by decide +kernel
theorem dX0_gainAt_24 : decode cX0_gainAt 24 = .ok (.iaload, 1) := by decide +kernel
theorem dX0_gainAt_25 : decode cX0_gainAt 25 = .ok (.invokevirtual 19, 3) := by decide +kernel
theorem dX0_gainAt_28 : decode cX0_gainAt 28 = .ok (.iadd, 1) := by decide +kernel
theorem dX0_gainAt_29 : decode cX0_gainAt 29 = .ok (.istore_n 2, 1) := by decide +kernel
theorem dX0_gainAt_30 : decode cX0_gainAt 30 = .ok (.iinc 3 1, 3) := by decide +kernel
theorem dX0_gainAt_33 : decode cX0_gainAt 33 = .ok (.goto (-29), 3) := by decide +kernel
theorem dX0_gainAt_36 : decode cX0_gainAt 36 = .ok (.iload_n 2, 1) := by decide +kernel
theorem dX0_gainAt_37 : decode cX0_gainAt 37 = .ok (.ireturn, 1) := by decide +kernel
theorem dX1_init_0 : decode cX1_init 0 = .ok (.aload_n 0, 1) := by decide +kernel
theorem dX1_init_1 : decode cX1_init 1 = .ok (.invokespecial 3, 3) := by decide +kernel
theorem dX1_init_4 : decode cX1_init 4 = .ok (.aload_n 0, 1) := by decide +kernel
theorem dX1_init_5 : decode cX1_init 5 = .ok (.bipush 7, 2) := by decide +kernel
theorem dX1_init_7 : decode cX1_init 7 = .ok (.newarray .int, 2) := by decide +kernel
theorem dX1_init_9 : decode cX1_init 9 = .ok (.putfield 9, 3) := by decide +kernel
theorem dX1_init_12 : decode cX1_init 12 = .ok (.aload_n 0, 1) := by decide +kernel
theorem dX1_init_13 : decode cX1_init 13 = .ok (.bipush 7, 2) := by decide +kernel
theorem dX1_init_15 : decode cX1_init 15 = .ok (.newarray .int, 2) := by decide +kernel
theorem dX1_init_17 : decode cX1_init 17 = .ok (.putfield 15, 3) := by decide +kernel
theorem dX1_init_20 : decode cX1_init 20 = .ok (.return_, 1) := by decide +kernel
set_option maxRecDepth 20000 in
theorem ggX1_begin_X1_tell : GoodIn wsX1_begin wsX1_tell := goodIn_r _ [10, 11, 12, 13, 14, 15, 16, 17, 18, 19, 20, 21, 22] (by decide +kernel) (by decide +kernel)
set_option maxRecDepth 20000 in
theorem gX1_begin_X1_tell : GoodIn wsX1_begin (wsV RX1 34 RX1 yX1_tell wsX1_tell) := goodIn_app (goodIn_of _ (by decide +kernel)) ggX1_begin_X1_tell
theorem dX1_begin_0 : decode cX1_begin 0 = .ok (.aload_n 0, 1) := by decide +kernel
theorem dX1_begin_1 : decode cX1_begin 1 = .ok (.iload_n 1, 1) := by decide +kernel
theorem dX1_begin_2 : decode cX1_begin 2 = .ok (.putfield 18, 3) := by decide +kernel
theorem dX1_begin_5 : decode cX1_begin 5 = .ok (.aload_n 0, 1) := by decide +kernel
theorem dX1_begin_6 : decode cX1_begin 6 = .ok (.iload_n 2, 1) := by decide +kernel
theorem dX1_begin_7 : decode cX1_begin 7 = .ok (.putfield 22, 3) := by decide +kernel
theorem dX1_begin_10 : decode cX1_begin 10 = .ok (.aload_n 0, 1) := by decide +kernel
theorem dX1_begin_11 : decode cX1_begin 11 = .ok (.iload_n 3, 1) := by decide +kernel
theorem dX1_begin_12 : decode cX1_begin 12 = .ok (.putfield 25, 3) := by decide +kernel
theorem dX1_begin_15 : decode cX1_begin 15 = .ok (.aload_n 0, 1) := by decide +kernel
theorem dX1_begin_16 : decode cX1_begin 16 = .ok (.iload 4, 2) := by decide +kernel
theorem dX1_begin_18 : decode cX1_begin 18 = .ok (.bipush 10, 2) := by decide +kernel
theorem dX1_begin_20 : decode cX1_begin 20 = .ok (.idiv, 1) := by decide +kernel
theorem dX1_begin_21 : decode cX1_begin 21 = .ok (.bipush 10, 2) := by decide +kernel
theorem dX1_begin_23 : decode cX1_begin 23 = .ok (.irem, 1) := by decide +kernel
theorem dX1_begin_24 : decode cX1_begin 24 = .ok (.putfield 28, 3) := by decide +kernel
theorem dX1_begin_27 : decode cX1_begin 27 = .ok (.aload_n 0, 1) := by decide +kernel
theorem dX1_begin_28 : decode cX1_begin 28 = .ok (.iload 4, 2) := by decide +kernel
theorem dX1_begin_30 : decode cX1_begin 30 = .ok (.bipush 100, 2) := by decide +kernel
theorem dX1_begin_32 : decode cX1_begin 32 = .ok (.idiv, 1) := by decide +kernel
theorem dX1_begin_33 : decode cX1_begin 33 = .ok (.putfield 31, 3) := by decide +kernel
theorem dX1_begin_36 : decode cX1_begin 36 = .ok (.iconst 0, 1) := by decide +kernel
theorem dX1_begin_37 : decode cX1_begin 37 = .ok (.istore 5, 2) := by decide +kernel
theorem dX1_begin_39 : decode cX1_begin 39 = .ok (.iload 5, 2) := by decide +kernel
theorem dX1_begin_41 : decode cX1_begin 41 = .ok (.bipush 7, 2) := by decide +kernel
theorem dX1_begin_43 : decode cX1_begin 43 = .ok (.if_icmp .ge 18, 3) := by decide +kernel
theorem dX1_begin_46 : decode cX1_begin 46 = .ok (.aload_n 0, 1) := by decide +kernel
theorem dX1_begin_47 : decode cX1_begin 47 = .ok (.iload 5, 2) := by decide +kernel
theorem dX1_begin_49 : decode cX1_begin 49 = .ok (.bipush (-128), 2) := by decide +kernel
theorem dX1_begin_51 : decode cX1_begin 51 = .ok (.iconst (-1), 1) := by decide +kernel
theorem dX1_begin_52 : decode cX1_begin 52 = .ok (.invokevirtual 34, 3) := by decide +kernel
theorem dX1_begin_55 : decode cX1_begin 55 = .ok (.iinc 5 1, 3) := by decide +kernel
theorem dX1_begin_58 : decode cX1_begin 58 = .ok (.goto (-19), 3) := by decide +kernel
theorem dX1_begin_61 : decode cX1_begin 61 = .ok (.return_, 1) := by decide +kernel
theorem dX1_copyFrom_0 : decode cX1_copyFrom 0 = .ok (.aload_n 0, 1) := by decide +kernel
theorem dX1_copyFrom_1 : decode cX1_copyFrom 1 = .ok (.aload_n 1, 1) := by decide +kernel
theorem dX1_copyFrom_2 : decode cX1_copyFrom 2 = .ok (.getfield 18, 3) := by decide +kernel
theorem dX1_copyFrom_5 : decode cX1_copyFrom 5 = .ok (.putfield 18, 3) := by decide +kernel
theorem dX1_copyFrom_8 : decode cX1_copyFrom 8 = .ok (.aload_n 0, 1) := by decide +kernel
theorem dX1_copyFrom_9 : decode cX1_copyFrom 9 = .ok (.aload_n 1, 1) := by decide +kernel
theorem dX1_copyFrom_10 : decode cX1_copyFrom 10 = .ok (.getfield 22, 3) := by decide +kernel
theorem dX1_copyFrom_13 : decode cX1_copyFrom 13 = .ok (.putfield 22, 3) := by decide +kernel
theorem dX1_copyFrom_16 : decode cX1_copyFrom 16 = .ok (.aload_n 0, 1) := by decide +kernel
theorem dX1_copyFrom_17 : decode cX1_copyFrom 17 = .ok (.aload_n 1, 1) := by decide +kernel
theorem dX1_copyFrom_18 : decode cX1_copyFrom 18 = .ok (.getfield 25, 3) := by decide +kernel
theorem dX1_copyFrom_21 : decode cX1_copyFrom 21 = .ok (.putfield 25, 3) := by decide +kernel
theorem dX1_copyFrom_24 : decode cX1_copyFrom 24 = .ok (.aload_n 0, 1) := by decide +kernel
theorem dX1_copyFrom_25 : decode cX1_copyFrom 25 = .ok (.aload_n 1, 1) := by decide +kernel
theorem dX1_copyFrom_26 : decode cX1_copyFrom 26 = .ok (.getfield 28, 3) := by decide +kernel
theorem dX1_copyFrom_29 : decode cX1_copyFrom 29 = .ok (.putfield 28, 3) := by decide +kernel
theorem dX1_copyFrom_32 : decode cX1_copyFrom 32 = .ok (.aload_n 0, 1) := by decide +kernel
theorem dX1_copyFrom_33 : decode cX1_copyFrom 33 = .ok (.aload_n 1, 1) := by decide +kernel
theorem dX1_copyFrom_34 : decode cX1_copyFrom 34 = .ok (.getfield 31, 3) := by decide +kernel
theorem dX1_copyFrom_37 : decode cX1_copyFrom 37 = .ok (.putfield 31, 3) := by decide +kernel
theorem dX1_copyFrom_40 : decode cX1_copyFrom 40 = .ok (.aload_n 1, 1) := by decide +kernel
theorem dX1_copyFrom_41 : decode cX1_copyFrom 41 = .ok (.getfield 9, 3) := by decide +kernel
theorem dX1_copyFrom_44 : decode cX1_copyFrom 44 = .ok (.iconst 0, 1) := by decide +kernel
theorem dX1_copyFrom_45 : decode cX1_copyFrom 45 = .ok (.aload_n 0, 1) := by decide +kernel
theorem dX1_copyFrom_46 : decode cX1_copyFrom 46 = .ok (.getfield 9, 3) := by decide +kernel
theorem dX1_copyFrom_49 : decode cX1_copyFrom 49 = .ok (.iconst 0, 1) := by decide +kernel
theorem dX1_copyFrom_50 : decode cX1_copyFrom 50 = .ok (.bipush 7, 2) := by decide +kernel
theorem dX1_copyFrom_52 : decode cX1_copyFrom 52 = .ok (.invokestatic 38, 3) := by decide +kernel
theorem dX1_copyFrom_55 : decode cX1_copyFrom 55 = .ok (.aload_n 1, 1) := by decide +kernel
theorem dX1_copyFrom_56 : decode cX1_copyFrom 56 = .ok (.getfield 15, 3) := by decide +kernel
theorem dX1_copyFrom_59 : decode cX1_copyFrom 59 = .ok (.iconst 0, 1) := by decide +kernel
theorem dX1_copyFrom_60 : decode cX1_copyFrom 60 = .ok (.aload_n 0, 1) := by decide +kernel
theorem dX1_copyFrom_61 : decode cX1_copyFrom 61 = .ok (.getfield 15, 3) := by decide +kernel
theorem dX1_copyFrom_64 : decode cX1_copyFrom 64 = .ok (.iconst 0, 1) := by decide +kernel
theorem dX1_copyFrom_65 : decode cX1_copyFrom 65 = .ok (.bipush 7, 2) := by decide +kernel
theorem dX1_copyFrom_67 : decode cX1_copyFrom 67 = .ok (.invokestatic 38, 3) := by decide +kernel
theorem dX1_copyFrom_70 : decode cX1_copyFrom 70 = .ok (.return_, 1) := by decide +kernel
set_option maxRecDepth 20000 in
theorem ggX1_tell_X11_within : GoodIn wsX1_tell wsX11_within := goodIn_r _ [5] (by decide +kernel) (by decide +kernel)
set_option maxRecDepth 20000 in
theorem gX1_tell_X11_within_n44 : GoodIn wsX1_tell (wsX11_within) := ggX1_tell_X11_within
theorem dX1_tell_0 : decode cX1_tell 0 = .ok (.iload_n 1, 1) := by decide +kernel
theorem dX1_tell_1 : decode cX1_tell 1 = .ok (.bipush 7, 2) := by decide +kernel
theorem dX1_tell_3 : decode cX1_tell 3 = .ok (.invokestatic 44, 3) := by decide +kernel
theorem dX1_tell_6 : decode cX1_tell 6 = .ok (.ifCond .eq 27, 3) := by decide +kernel
theorem dX1_tell_9 : decode cX1_tell 9 = .ok (.aload_n 0, 1) := by decide +kernel
theorem dX1_tell_10 : decode cX1_tell 10 = .ok (.getfield 9, 3) := by decide +kernel
theorem dX1_tell_13 : decode cX1_tell 13 = .ok (.iload_n 1, 1) := by decide +kernel
theorem dX1_tell_14 : decode cX1_tell 14 = .ok (.iload_n 2, 1) := by decide +kernel
theorem dX1_tell_15 : decode cX1_tell 15 = .ok (.iastore, 1) := by decide +kernel
theorem dX1_tell_16 : decode cX1_tell 16 = .ok (.aload_n 0, 1) := by decide +kernel
theorem dX1_tell_17 : decode cX1_tell 17 = .ok (.getfield 15, 3) := by decide +kernel
theorem dX1_tell_20 : decode cX1_tell 20 = .ok (.iload_n 1, 1) := by decide +kernel
theorem dX1_tell_21 : decode cX1_tell 21 = .ok (.iload_n 2, 1) := by decide +kernel
theorem dX1_tell_22 : decode cX1_tell 22 = .ok (.bipush (-128), 2) := by decide +kernel
theorem dX1_tell_24 : decode cX1_tell 24 = .ok (.if_icmp .ne 7, 3) := by decide +kernel
theorem dX1_tell_27 : decode cX1_tell 27 = .ok (.iconst (-1), 1) := by decide +kernel
theorem dX1_tell_28 : decode cX1_tell 28 = .ok (.goto 4, 3) := by decide +kernel
theorem dX1_tell_31 : decode cX1_tell 31 = .ok (.iload_n 3, 1) := by decide +kernel
theorem dX1_tell_32 : decode cX1_tell 32 = .ok (.iastore, 1) := by decide +kernel
theorem dX1_tell_33 : decode cX1_tell 33 = .ok (.return_, 1) := by decide +kernel
set_option maxRecDepth 20000 in
theorem ggX1_hasMark_X11_within : GoodIn wsX1_hasMark wsX11_within := goodIn_r _ [4] (by decide +kernel) (by decide +kernel)
set_option maxRecDepth 20000 in
theorem gX1_hasMark_X11_within_n44 : GoodIn wsX1_hasMark (wsX11_within) := ggX1_hasMark_X11_within
theorem dX1_hasMark_0 : decode cX1_hasMark 0 = .ok (.iload_n 1, 1) := by decide +kernel
theorem dX1_hasMark_1 : decode cX1_hasMark 1 = .ok (.bipush 7, 2) := by decide +kernel
theorem dX1_hasMark_3 : decode cX1_hasMark 3 = .ok (.invokestatic 44, 3) := by decide +kernel
theorem dX1_hasMark_6 : decode cX1_hasMark 6 = .ok (.ifCond .eq 18, 3) := by decide +kernel
theorem dX1_hasMark_9 : decode cX1_hasMark 9 = .ok (.aload_n 0, 1) := by decide +kernel
theorem dX1_hasMark_10 : decode cX1_hasMark 10 = .ok (.getfield 9, 3) := by decide +kernel
theorem dX1_hasMark_13 : decode cX1_hasMark 13 = .ok (.iload_n 1, 1) := by decide +kernel
theorem dX1_hasMark_14 : decode cX1_hasMark 14 = .ok (.iaload, 1) := by decide +kernel
theorem dX1_hasMark_15 : decode cX1_hasMark 15 = .ok (.bipush (-128), 2) := by decide +kernel
theorem dX1_hasMark_17 : decode cX1_hasMark 17 = .ok (.if_icmp .eq 7, 3) := by decide +kernel
theorem dX1_hasMark_20 : decode cX1_hasMark 20 = .ok (.iconst 1, 1) := by decide +kernel
theorem dX1_hasMark_21 : decode cX1_hasMark 21 = .ok (.goto 4, 3) := by decide +kernel
theorem dX1_hasMark_24 : decode cX1_hasMark 24 = .ok (.iconst 0, 1) := by decide +kernel
theorem dX1_hasMark_25 : decode cX1_hasMark 25 = .ok (.ireturn, 1) := by decide +kernel
theorem dX1_marksThere_0 : decode cX1_marksThere 0 = .ok (.iconst 0, 1) := by decide +kernel
theorem dX1_marksThere_1 : decode cX1_marksThere 1 = .ok (.istore_n 1, 1) := by decide +kernel
theorem dX1_marksThere_2 : decode cX1_marksThere 2 = .ok (.iconst 0, 1) := by decide +kernel
theorem dX1_marksThere_3 : decode cX1_marksThere 3 = .ok (.istore_n 2, 1) := by decide +kernel
theorem dX1_marksThere_4 : decode cX1_marksThere 4 = .ok (.iload_n 2, 1) := by decide +kernel
theorem dX1_marksThere_5 : decode cX1_marksThere 5 = .ok (.bipush 7, 2) := by decide +kernel
theorem dX1_marksThere_7 : decode cX1_marksThere 7 = .ok (.if_icmp .ge 23, 3) := by decide +kernel
theorem dX1_marksThere_10 : decode cX1_marksThere 10 = .ok (.aload_n 0, 1) := by decide +kernel
theorem dX1_marksThere_11 : decode cX1_marksThere 11 = .ok (.getfield 9, 3) := by decide +kernel
theorem dX1_marksThere_14 : decode cX1_marksThere 14 = .ok (.iload_n 2, 1) := by decide +kernel
theorem dX1_marksThere_15 : decode cX1_marksThere 15 = .ok (.iaload, 1) := by decide +kernel
theorem dX1_marksThere_16 : decode cX1_marksThere 16 = .ok (.bipush (-128), 2) := by decide +kernel
theorem dX1_marksThere_18 : decode cX1_marksThere 18 = .ok (.if_icmp .eq 6, 3) := by decide +kernel
theorem dX1_marksThere_21 : decode cX1_marksThere 21 = .ok (.iinc 1 1, 3) := by decide +kernel
theorem dX1_marksThere_24 : decode cX1_marksThere 24 = .ok (.iinc 2 1, 3) := by decide +kernel
theorem dX1_marksThere_27 : decode cX1_marksThere 27 = .ok (.goto (-23), 3) := by decide +kernel
theorem dX1_marksThere_30 : decode cX1_marksThere 30 = .ok (.iload_n 1, 1) := by decide +kernel
theorem dX1_marksThere_31 : decode cX1_marksThere 31 = .ok (.ireturn, 1) := by decide +kernel
theorem dX1_markBy_0 : decode cX1_markBy 0 = .ok (.iconst 0, 1) := by decide +kernel
theorem dX1_markBy_1 : decode cX1_markBy 1 = .ok (.istore_n 2, 1) := by decide +kernel
theorem dX1_markBy_2 : decode cX1_markBy 2 = .ok (.iload_n 2, 1) := by decide +kernel
theorem dX1_markBy_3 : decode cX1_markBy 3 = .ok (.bipush 7, 2) := by decide +kernel
theorem dX1_markBy_5 : decode cX1_markBy 5 = .ok (.if_icmp .ge 26, 3) := by decide +kernel
theorem dX1_markBy_8 : decode cX1_markBy 8 = .ok (.aload_n 0, 1) := by decide +kernel
theorem dX1_markBy_9 : decode cX1_markBy 9 = .ok (.getfield 15, 3) := by decide +kernel
theorem dX1_markBy_12 : decode cX1_markBy 12 = .ok (.iload_n 2, 1) := by decide +kernel
theorem dX1_markBy_13 : decode cX1_markBy 13 = .ok (.iaload, 1) := by decide +kernel
theorem dX1_markBy_14 : decode cX1_markBy 14 = .ok (.iload_n 1, 1) := by decide +kernel
theorem dX1_markBy_15 : decode cX1_markBy 15 = .ok (.if_icmp .ne 10, 3) := by decide +kernel
theorem dX1_markBy_18 : decode cX1_markBy 18 = .ok (.aload_n 0, 1) := by decide +kernel
theorem dX1_markBy_19 : decode cX1_markBy 19 = .ok (.getfield 9, 3) := by decide +kernel
theorem dX1_markBy_22 : decode cX1_markBy 22 = .ok (.iload_n 2, 1) := by decide +kernel
theorem dX1_markBy_23 : decode cX1_markBy 23 = .ok (.iaload, 1) := by decide +kernel
theorem dX1_markBy_24 : decode cX1_markBy 24 = .ok (.ireturn, 1) := by decide +kernel
theorem dX1_markBy_25 : decode cX1_markBy 25 = .ok (.iinc 2 1, 3) := by decide +kernel
theorem dX1_markBy_28 : decode cX1_markBy 28 = .ok (.goto (-26), 3) := by decide +kernel
theorem dX1_markBy_31 : decode cX1_markBy 31 = .ok (.bipush (-128), 2) := by decide +kernel
theorem dX1_markBy_33 : decode cX1_markBy 33 = .ok (.ireturn, 1) := by decide +kernel
theorem dX2_init_0 : decode cX2_init 0 = .ok (.aload_n 0, 1) := by decide +kernel
theorem dX2_init_1 : decode cX2_init 1 = .ok (.invokespecial 3, 3) := by decide +kernel
theorem dX2_init_4 : decode cX2_init 4 = .ok (.aload_n 0, 1) := by decide +kernel
theorem dX2_init_5 : decode cX2_init 5 = .ok (.iload_n 1, 1) := by decide +kernel
theorem dX2_init_6 : decode cX2_init 6 = .ok (.putfield 9, 3) := by decide +kernel
theorem dX2_init_9 : decode cX2_init 9 = .ok (.aload_n 0, 1) := by decide +kernel
theorem dX2_init_10 : decode cX2_init 10 = .ok (.iload_n 2, 1) := by decide +kernel
theorem dX2_init_11 : decode cX2_init 11 = .ok (.putfield 15, 3) := by decide +kernel
theorem dX2_init_14 : decode cX2_init 14 = .ok (.aload_n 0, 1) := by decide +kernel
theorem dX2_init_15 : decode cX2_init 15 = .ok (.iload_n 3, 1) := by decide +kernel
theorem dX2_init_16 : decode cX2_init 16 = .ok (.bipush 100, 2) := by decide +kernel
theorem dX2_init_18 : decode cX2_init 18 = .ok (.idiv, 1) := by decide +kernel
theorem dX2_init_19 : decode cX2_init 19 = .ok (.putfield 18, 3) := by decide +kernel
theorem dX2_init_22 : decode cX2_init 22 = .ok (.aload_n 0, 1) := by decide +kernel
theorem dX2_init_23 : decode cX2_init 23 = .ok (.iload_n 3, 1) := by decide +kernel
theorem dX2_init_24 : decode cX2_init 24 = .ok (.bipush 10, 2) := by decide +kernel
theorem dX2_init_26 : decode cX2_init 26 = .ok (.idiv, 1) := by decide +kernel
theorem dX2_init_27 : decode cX2_init 27 = .ok (.bipush 10, 2) := by decide +kernel
theorem dX2_init_29 : decode cX2_init 29 = .ok (.irem, 1) := by decide +kernel
theorem dX2_init_30 : decode cX2_init 30 = .ok (.putfield 21, 3) := by decide +kernel
theorem dX2_init_33 : decode cX2_init 33 = .ok (.aload_n 0, 1) := by decide +kernel
theorem dX2_init_34 : decode cX2_init 34 = .ok (.iload_n 3, 1) := by decide +kernel
theorem dX2_init_35 : decode cX2_init 35 = .ok (.bipush 10, 2) := by decide +kernel
theorem dX2_init_37 : decode cX2_init 37 = .ok (.irem, 1) := by decide +kernel
theorem dX2_init_38 : decode cX2_init 38 = .ok (.putfield 24, 3) := by decide +kernel
theorem dX2_init_41 : decode cX2_init 41 = .ok (.return_, 1) := by decide +kernel
theorem dX2_leanTo_0 : decode cX2_leanTo 0 = .ok (.aload_n 0, 1) := by decide +kernel
theorem dX2_leanTo_1 : decode cX2_leanTo 1 = .ok (.getfield 15, 3) := by decide +kernel
theorem dX2_leanTo_4 : decode cX2_leanTo 4 = .ok (.iconst 2, 1) := by decide +kernel
theorem dX2_leanTo_5 : decode cX2_leanTo 5 = .ok (.if_icmp .eq 11, 3) := by decide +kernel
theorem dX2_leanTo_8 : decode cX2_leanTo 8 = .ok (.aload_n 0, 1) := by decide +kernel
theorem dX2_leanTo_9 : decode cX2_leanTo 9 = .ok (.getfield 15, 3) := by decide +kernel
theorem dX2_leanTo_12 : decode cX2_leanTo 12 = .ok (.iconst 3, 1) := by decide +kernel
theorem dX2_leanTo_13 : decode cX2_leanTo 13 = .ok (.if_icmp .ne 15, 3) := by decide +kernel
theorem dX2_leanTo_16 : decode cX2_leanTo 16 = .ok (.iload_n 1, 1) := by decide +kernel
theorem dX2_leanTo_17 : decode cX2_leanTo 17 = .ok (.aload_n 0, 1) := by decide +kernel
theorem dX2_leanTo_18 : decode cX2_leanTo 18 = .ok (.getfield 18, 3) := by decide +kernel
theorem dX2_leanTo_21 : decode cX2_leanTo 21 = .ok (.if_icmp .ne 7, 3) := by decide +kernel
theorem dX2_leanTo_24 : decode cX2_leanTo 24 = .ok (.iconst 1, 1) := by decide +kernel
theorem dX2_leanTo_25 : decode cX2_leanTo 25 = .ok (.goto 4, 3) := by decide +kernel
theorem dX2_leanTo_28 : decode cX2_leanTo 28 = .ok (.iconst 0, 1) := by decide +kernel
theorem dX2_leanTo_29 : decode cX2_leanTo 29 = .ok (.istore_n 2, 1) := by decide +kernel
theorem dX2_leanTo_30 : decode cX2_leanTo 30 = .ok (.aload_n 0, 1) := by decide +kernel
theorem dX2_leanTo_31 : decode cX2_leanTo 31 = .ok (.getfield 15, 3) := by decide +kernel
theorem dX2_leanTo_34 : decode cX2_leanTo 34 = .ok (.iconst 3, 1) := by decide +kernel
theorem dX2_leanTo_35 : decode cX2_leanTo 35 = .ok (.if_icmp .ne 15, 3) := by decide +kernel
theorem dX2_leanTo_38 : decode cX2_leanTo 38 = .ok (.iload_n 1, 1) := by decide +kernel
theorem dX2_leanTo_39 : decode cX2_leanTo 39 = .ok (.aload_n 0, 1) := by decide +kernel
theorem dX2_leanTo_40 : decode cX2_leanTo 40 = .ok (.getfield 24, 3) := by decide +kernel
theorem dX2_leanTo_43 : decode cX2_leanTo 43 = .ok (.if_icmp .ne 7, 3) := by decide +kernel
theorem dX2_leanTo_46 : decode cX2_leanTo 46 = .ok (.iconst 1, 1) := by decide +kernel
theorem dX2_leanTo_47 : decode cX2_leanTo 47 = .ok (.goto 4, 3) := by decide +kernel
theorem dX2_leanTo_50 : decode cX2_leanTo 50 = .ok (.iconst 0, 1) := by decide +kernel
theorem dX2_leanTo_51 : decode cX2_leanTo 51 = .ok (.istore_n 3, 1) := by decide +kernel
theorem dX2_leanTo_52 : decode cX2_leanTo 52 = .ok (.iload_n 2, 1) := by decide +kernel
theorem dX2_leanTo_53 : decode cX2_leanTo 53 = .ok (.ifCond .ne 7, 3) := by decide +kernel
theorem dX2_leanTo_56 : decode cX2_leanTo 56 = .ok (.iload_n 3, 1) := by decide +kernel
theorem dX2_leanTo_57 : decode cX2_leanTo 57 = .ok (.ifCond .eq 10, 3) := by decide +kernel
theorem dX2_leanTo_60 : decode cX2_leanTo 60 = .ok (.aload_n 0, 1) := by decide +kernel
theorem dX2_leanTo_61 : decode cX2_leanTo 61 = .ok (.getfield 21, 3) := by decide +kernel
theorem dX2_leanTo_64 : decode cX2_leanTo 64 = .ok (.goto 4, 3) := by decide +kernel
theorem dX2_leanTo_67 : decode cX2_leanTo 67 = .ok (.iconst 0, 1) := by decide +kernel
theorem dX2_leanTo_68 : decode cX2_leanTo 68 = .ok (.ireturn, 1) := by decide +kernel
set_option maxRecDepth 20000 in
theorem ggX2_markFor_X2_held : GoodIn wsX2_markFor wsX2_held := goodIn_r _ [5] (by decide +kernel) (by decide +kernel)
set_option maxRecDepth 20000 in
theorem gX2_markFor_X2_held : GoodIn wsX2_markFor (va_wsS RX2 27 yX2_held wsX2_held) := goodIn_app (goodIn_of _ (by decide +kernel)) ggX2_markFor_X2_held
set_option maxRecDepth 20000 in
theorem ggX2_markFor_X2_leanTo : GoodIn wsX2_markFor wsX2_leanTo := goodIn_r _ [9, 1, 10, 11, 12, 13, 14, 15, 16, 17] (by decide +kernel) (by decide +kernel)
set_option maxRecDepth 20000 in
theorem gX2_markFor_X2_leanTo : GoodIn wsX2_markFor (wsV RX2 31 RX2 yX2_leanTo wsX2_leanTo) := goodIn_app (goodIn_of _ (by decide +kernel)) ggX2_markFor_X2_leanTo
theorem dX2_markFor_0 : decode cX2_markFor 0 = .ok (.aload_n 0, 1) := by decide +kernel
theorem dX2_markFor_1 : decode cX2_markFor 1 = .ok (.getfield 15, 3) := by decide +kernel
theorem dX2_markFor_4 : decode cX2_markFor 4 = .ok (.tableswitch 59 1 4 #[32, 41, 41, 52], 32) := by decide +kernel
theorem dX2_markFor_36 : decode cX2_markFor 36 = .ok (.iload_n 1, 1) := by decide +kernel
theorem dX2_markFor_37 : decode cX2_markFor 37 = .ok (.iload_n 1, 1) := by decide +kernel
theorem dX2_markFor_38 : decode cX2_markFor 38 = .ok (.iconst 1, 1) := by decide +kernel
theorem dX2_markFor_39 : decode cX2_markFor 39 = .ok (.iand, 1) := by decide +kernel
theorem dX2_markFor_40 : decode cX2_markFor 40 = .ok (.isub, 1) := by decide +kernel
theorem dX2_markFor_41 : decode cX2_markFor 41 = .ok (.invokestatic 27, 3) := by decide +kernel
theorem dX2_markFor_44 : decode cX2_markFor 44 = .ok (.ireturn, 1) := by decide +kernel
theorem dX2_markFor_45 : decode cX2_markFor 45 = .ok (.iload_n 1, 1) := by decide +kernel
theorem dX2_markFor_46 : decode cX2_markFor 46 = .ok (.aload_n 0, 1) := by decide +kernel
theorem dX2_markFor_47 : decode cX2_markFor 47 = .ok (.iload_n 2, 1) := by decide +kernel
theorem dX2_markFor_48 : decode cX2_markFor 48 = .ok (.invokevirtual 31, 3) := by decide +kernel
theorem dX2_markFor_51 : decode cX2_markFor 51 = .ok (.iadd, 1) := by decide +kernel
theorem dX2_markFor_52 : decode cX2_markFor 52 = .ok (.invokestatic 27, 3) := by decide +kernel
theorem dX2_markFor_55 : decode cX2_markFor 55 = .ok (.ireturn, 1) := by decide +kernel
theorem dX2_markFor_56 : decode cX2_markFor 56 = .ok (.iload_n 1, 1) := by decide +kernel
theorem dX2_markFor_57 : decode cX2_markFor 57 = .ok (.iload_n 3, 1) := by decide +kernel
theorem dX2_markFor_58 : decode cX2_markFor 58 = .ok (.iadd, 1) := by decide +kernel
theorem dX2_markFor_59 : decode cX2_markFor 59 = .ok (.invokestatic 27, 3) := by decide +kernel
theorem dX2_markFor_62 : decode cX2_markFor 62 = .ok (.ireturn, 1) := by decide +kernel
theorem dX2_markFor_63 : decode cX2_markFor 63 = .ok (.iload_n 1, 1) := by decide +kernel
theorem dX2_markFor_64 : decode cX2_markFor 64 = .ok (.invokestatic 27, 3) := by decide +kernel
theorem dX2_markFor_67 : decode cX2_markFor 67 = .ok (.ireturn, 1) := by decide +kernel
theorem dX2_heft_0 : decode cX2_heft 0 = .ok (.aload_n 0, 1) := by decide +kernel
theorem dX2_heft_1 : decode cX2_heft 1 = .ok (.getfield 18, 3) := by decide +kernel
theorem dX2_heft_4 : decode cX2_heft 4 = .ok (.bipush 10, 2) := by decide +kernel
theorem dX2_heft_6 : decode cX2_heft 6 = .ok (.iadd, 1) := by decide +kernel
theorem dX2_heft_7 : decode cX2_heft 7 = .ok (.istore_n 1, 1) := by decide +kernel
theorem dX2_heft_8 : decode cX2_heft 8 = .ok (.aload_n 0, 1) := by decide +kernel
theorem dX2_heft_9 : decode cX2_heft 9 = .ok (.getfield 15, 3) := by decide +kernel
theorem dX2_heft_12 : decode cX2_heft 12 = .ok (.tableswitch 92 1 7 #[44, 48, 55, 67, 71, 75, 82], 44) := by decide +kernel
theorem dX2_heft_56 : decode cX2_heft 56 = .ok (.iload_n 1, 1) := by decide +kernel
theorem dX2_heft_57 : decode cX2_heft 57 = .ok (.iconst 2, 1) := by decide +kernel
theorem dX2_heft_58 : decode cX2_heft 58 = .ok (.iadd, 1) := by decide +kernel
theorem dX2_heft_59 : decode cX2_heft 59 = .ok (.ireturn, 1) := by decide +kernel
theorem dX2_heft_60 : decode cX2_heft 60 = .ok (.iload_n 1, 1) := by decide +kernel
theorem dX2_heft_61 : decode cX2_heft 61 = .ok (.aload_n 0, 1) := by decide +kernel
theorem dX2_heft_62 : decode cX2_heft 62 = .ok (.getfield 21, 3) := by decide +kernel
theorem dX2_heft_65 : decode cX2_heft 65 = .ok (.iadd, 1) := by decide +kernel
theorem dX2_heft_66 : decode cX2_heft 66 = .ok (.ireturn, 1) := by decide +kernel
theorem dX2_heft_67 : decode cX2_heft 67 = .ok (.iload_n 1, 1) := by decide +kernel
theorem dX2_heft_68 : decode cX2_heft 68 = .ok (.aload_n 0, 1) := by decide +kernel
theorem dX2_heft_69 : decode cX2_heft 69 = .ok (.getfield 21, 3) := by decide +kernel
theorem dX2_heft_72 : decode cX2_heft 72 = .ok (.iadd, 1) := by decide +kernel
theorem dX2_heft_73 : decode cX2_heft 73 = .ok (.aload_n 0, 1) := by decide +kernel
theorem dX2_heft_74 : decode cX2_heft 74 = .ok (.getfield 24, 3) := by decide +kernel
theorem dX2_heft_77 : decode cX2_heft 77 = .ok (.iadd, 1) := by decide +kernel
theorem dX2_heft_78 : decode cX2_heft 78 = .ok (.ireturn, 1) := by decide +kernel
theorem dX2_heft_79 : decode cX2_heft 79 = .ok (.iconst 2, 1) := by decide +kernel
theorem dX2_heft_80 : decode cX2_heft 80 = .ok (.iload_n 1, 1) := by decide +kernel
theorem dX2_heft_81 : decode cX2_heft 81 = .ok (.imul, 1) := by decide +kernel
theorem dX2_heft_82 : decode cX2_heft 82 = .ok (.ireturn, 1) := by decide +kernel
theorem dX2_heft_83 : decode cX2_heft 83 = .ok (.iload_n 1, 1) := by decide +kernel
theorem dX2_heft_84 : decode cX2_heft 84 = .ok (.iconst 5, 1) := by decide +kernel
theorem dX2_heft_85 : decode cX2_heft 85 = .ok (.isub, 1) := by decide +kernel
theorem dX2_heft_86 : decode cX2_heft 86 = .ok (.ireturn, 1) := by decide +kernel
theorem dX2_heft_87 : decode cX2_heft 87 = .ok (.iload_n 1, 1) := by decide +kernel
theorem dX2_heft_88 : decode cX2_heft 88 = .ok (.aload_n 0, 1) := by decide +kernel
theorem dX2_heft_89 : decode cX2_heft 89 = .ok (.getfield 18, 3) := by decide +kernel
theorem dX2_heft_92 : decode cX2_heft 92 = .ok (.isub, 1) := by decide +kernel
theorem dX2_heft_93 : decode cX2_heft 93 = .ok (.ireturn, 1) := by decide +kernel
theorem dX2_heft_94 : decode cX2_heft 94 = .ok (.iload_n 1, 1) := by decide +kernel
theorem dX2_heft_95 : decode cX2_heft 95 = .ok (.aload_n 0, 1) := by decide +kernel
theorem dX2_heft_96 : decode cX2_heft 96 = .ok (.getfield 18, 3) := by decide +kernel
theorem dX2_heft_99 : decode cX2_heft 99 = .ok (.isub, 1) := by decide +kernel
theorem dX2_heft_100 : decode cX2_heft 100 = .ok (.bipush 7, 2) := by decide +kernel
theorem dX2_heft_102 : decode cX2_heft 102 = .ok (.iadd, 1) := by decide +kernel
theorem dX2_heft_103 : decode cX2_heft 103 = .ok (.ireturn, 1) := by decide +kernel
theorem dX2_heft_104 : decode cX2_heft 104 = .ok (.iload_n 1, 1) := by decide +kernel
theorem dX2_heft_105 : decode cX2_heft 105 = .ok (.ireturn, 1) := by decide +kernel
theorem dX2_throwFailure_0 : decode cX2_throwFailure 0 = .ok (.aload_n 0, 1) := by decide +kernel
theorem dX2_throwFailure_1 : decode cX2_throwFailure 1 = .ok (.getfield 15, 3) := by decide +kernel
theorem dX2_throwFailure_4 : decode cX2_throwFailure 4 = .ok (.iconst 2, 1) := by decide +kernel
theorem dX2_throwFailure_5 : decode cX2_throwFailure 5 = .ok (.if_icmp .eq 11, 3) := by decide +kernel
theorem dX2_throwFailure_8 : decode cX2_throwFailure 8 = .ok (.aload_n 0, 1) := by decide +kernel
theorem dX2_throwFailure_9 : decode cX2_throwFailure 9 = .ok (.getfield 15, 3) := by decide +kernel
theorem dX2_throwFailure_12 : decode cX2_throwFailure 12 = .ok (.iconst 3, 1) := by decide +kernel
theorem dX2_throwFailure_13 : decode cX2_throwFailure 13 = .ok (.if_icmp .ne 14, 3) := by decide +kernel
theorem dX2_throwFailure_16 : decode cX2_throwFailure 16 = .ok (.aload_n 0, 1) := by decide +kernel
theorem dX2_throwFailure_17 : decode cX2_throwFailure 17 = .ok (.getfield 21, 3) := by decide +kernel
theorem dX2_throwFailure_20 : decode cX2_throwFailure 20 = .ok (.ifCond .ne 7, 3) := by decide +kernel
theorem dX2_throwFailure_23 : decode cX2_throwFailure 23 = .ok (.iconst 1, 1) := by decide +kernel
theorem dX2_throwFailure_24 : decode cX2_throwFailure 24 = .ok (.goto 4, 3) := by decide +kernel
theorem dX2_throwFailure_27 : decode cX2_throwFailure 27 = .ok (.iconst 0, 1) := by decide +kernel
theorem dX2_throwFailure_28 : decode cX2_throwFailure 28 = .ok (.istore_n 1, 1) := by decide +kernel
theorem dX2_throwFailure_29 : decode cX2_throwFailure 29 = .ok (.aload_n 0, 1) := by decide +kernel
theorem dX2_throwFailure_30 : decode cX2_throwFailure 30 = .ok (.getfield 15, 3) := by decide +kernel
theorem dX2_throwFailure_33 : decode cX2_throwFailure 33 = .ok (.iconst 1, 1) := by decide +kernel
theorem dX2_throwFailure_34 : decode cX2_throwFailure 34 = .ok (.if_icmp .eq 17, 3) := by decide +kernel
theorem dX2_throwFailure_37 : decode cX2_throwFailure 37 = .ok (.iload_n 1, 1) := by decide +kernel
theorem dX2_throwFailure_38 : decode cX2_throwFailure 38 = .ok (.ifCond .ne 13, 3) := by decide +kernel
theorem dX2_throwFailure_41 : decode cX2_throwFailure 41 = .ok (.new 34, 3) := by decide +kernel
theorem dX2_throwFailure_44 : decode cX2_throwFailure 44 = .ok (.dup, 1) := by decide +kernel
theorem dX2_throwFailure_45 : decode cX2_throwFailure 45 = .ok (.ldc 36, 2) := by decide +kernel
theorem dX2_throwFailure_47 : decode cX2_throwFailure 47 = .ok (.invokespecial 38, 3) := by decide +kernel
theorem dX2_throwFailure_50 : decode cX2_throwFailure 50 = .ok (.athrow, 1) := by decide +kernel
theorem dX2_throwFailure_51 : decode cX2_throwFailure 51 = .ok (.return_, 1) := by decide +kernel
theorem dX2_failureNumber_0 : decode cX2_failureNumber 0 = .ok (.aload_n 0, 1) := by decide +kernel
theorem dX2_failureNumber_1 : decode cX2_failureNumber 1 = .ok (.getfield 15, 3) := by decide +kernel
theorem dX2_failureNumber_4 : decode cX2_failureNumber 4 = .ok (.iconst 3, 1) := by decide +kernel
theorem dX2_failureNumber_5 : decode cX2_failureNumber 5 = .ok (.if_icmp .ne 16, 3) := by decide +kernel
theorem dX2_failureNumber_8 : decode cX2_failureNumber 8 = .ok (.aload_n 0, 1) := by decide +kernel
theorem dX2_failureNumber_9 : decode cX2_failureNumber 9 = .ok (.getfield 9, 3) := by decide +kernel
theorem dX2_failureNumber_12 : decode cX2_failureNumber 12 = .ok (.bipush 100, 2) := by decide +kernel
theorem dX2_failureNumber_14 : decode cX2_failureNumber 14 = .ok (.iadd, 1) := by decide +kernel
theorem dX2_failureNumber_15 : decode cX2_failureNumber 15 = .ok (.aload_n 0, 1) := by decide +kernel
theorem dX2_failureNumber_16 : decode cX2_failureNumber 16 = .ok (.getfield 24, 3) := by decide +kernel
theorem dX2_failureNumber_19 : decode cX2_failureNumber 19 = .ok (.iadd, 1) := by decide +kernel
theorem dX2_failureNumber_20 : decode cX2_failureNumber 20 = .ok (.ireturn, 1) := by decide +kernel
theorem dX2_failureNumber_21 : decode cX2_failureNumber 21 = .ok (.aload_n 0, 1) := by decide +kernel
theorem dX2_failureNumber_22 : decode cX2_failureNumber 22 = .ok (.getfield 15, 3) := by decide +kernel
theorem dX2_failureNumber_25 : decode cX2_failureNumber 25 = .ok (.bipush 7, 2) := by decide +kernel
theorem dX2_failureNumber_27 : decode cX2_failureNumber 27 = .ok (.if_icmp .ne 14, 3) := by decide +kernel
theorem dX2_failureNumber_30 : decode cX2_failureNumber 30 = .ok (.aload_n 0, 1) := by decide +kernel
theorem dX2_failureNumber_31 : decode cX2_failureNumber 31 = .ok (.getfield 9, 3) := by decide +kernel
theorem dX2_failureNumber_34 : decode cX2_failureNumber 34 = .ok (.sipush 200, 3) := by decide +kernel
theorem dX2_failureNumber_37 : decode cX2_failureNumber 37 = .ok (.iadd, 1) := by decide +kernel
theorem dX2_failureNumber_38 : decode cX2_failureNumber 38 = .ok (.goto 7, 3) := by decide +kernel
theorem dX2_failureNumber_41 : decode cX2_failureNumber 41 = .ok (.aload_n 0, 1) := by decide +kernel
theorem dX2_failureNumber_42 : decode cX2_failureNumber 42 = .ok (.getfield 9, 3) := by decide +kernel
theorem dX2_failureNumber_45 : decode cX2_failureNumber 45 = .ok (.ireturn, 1) := by decide +kernel
theorem dX2_held_0 : decode cX2_held 0 = .ok (.iload_n 0, 1) := by decide +kernel
theorem dX2_held_1 : decode cX2_held 1 = .ok (.ifCond .ge 7, 3) := by decide +kernel
theorem dX2_held_4 : decode cX2_held 4 = .ok (.iconst 0, 1) := by decide +kernel
theorem dX2_held_5 : decode cX2_held 5 = .ok (.goto 15, 3) := by decide +kernel
theorem dX2_held_8 : decode cX2_held 8 = .ok (.iload_n 0, 1) := by decide +kernel
theorem dX2_held_9 : decode cX2_held 9 = .ok (.bipush 20, 2) := by decide +kernel
theorem dX2_held_11 : decode cX2_held 11 = .ok (.if_icmp .le 8, 3) := by decide +kernel
theorem dX2_held_14 : decode cX2_held 14 = .ok (.bipush 20, 2) := by decide +kernel
theorem dX2_held_16 : decode cX2_held 16 = .ok (.goto 4, 3) := by decide +kernel
theorem dX2_held_19 : decode cX2_held 19 = .ok (.iload_n 0, 1) := by decide +kernel
theorem dX2_held_20 : decode cX2_held 20 = .ok (.ireturn, 1) := by decide +kernel
set_option maxRecDepth 20000 in
theorem ggX3_init_X0_init : GoodIn wsX3_init wsX0_init := goodIn_r _ [7, 8, 9, 10, 1, 11, 12, 13, 14, 15, 16, 17, 18, 19, 20, 21] (by decide +kernel) (by decide +kernel)
set_option maxRecDepth 20000 in
theorem gX3_init_X0_init_n3 : GoodIn wsX3_init (wsX0_init) := ggX3_init_X0_init
theorem dX3_init_0 : decode cX3_init 0 = .ok (.aload_n 0, 1) := by decide +kernel
theorem dX3_init_1 : decode cX3_init 1 = .ok (.invokespecial 3, 3) := by decide +kernel
theorem dX3_init_4 : decode cX3_init 4 = .ok (.aload_n 0, 1) := by decide +kernel
theorem dX3_init_5 : decode cX3_init 5 = .ok (.bipush 12, 2) := by decide +kernel
theorem dX3_init_7 : decode cX3_init 7 = .ok (.newarray .int, 2) := by decide +kernel
theorem dX3_init_9 : decode cX3_init 9 = .ok (.putfield 9, 3) := by decide +kernel
theorem dX3_init_12 : decode cX3_init 12 = .ok (.aload_n 0, 1) := by decide +kernel
theorem dX3_init_13 : decode cX3_init 13 = .ok (.bipush 12, 2) := by decide +kernel
theorem dX3_init_15 : decode cX3_init 15 = .ok (.newarray .int, 2) := by decide +kernel
theorem dX3_init_17 : decode cX3_init 17 = .ok (.putfield 15, 3) := by decide +kernel
theorem dX3_init_20 : decode cX3_init 20 = .ok (.aload_n 0, 1) := by decide +kernel
theorem dX3_init_21 : decode cX3_init 21 = .ok (.bipush 72, 2) := by decide +kernel
theorem dX3_init_23 : decode cX3_init 23 = .ok (.newarray .int, 2) := by decide +kernel
theorem dX3_init_25 : decode cX3_init 25 = .ok (.putfield 18, 3) := by decide +kernel
theorem dX3_init_28 : decode cX3_init 28 = .ok (.return_, 1) := by decide +kernel
set_option maxRecDepth 20000 in
theorem ggX3_takeFrom_X9_judgeAt : GoodIn wsX3_takeFrom wsX9_judgeAt := goodIn_r _ [14, 15, 16, 17, 18, 19, 67, 68, 69, 70, 71, 72, 73, 74, 75, 76, 77, 78] (by decide +kernel) (by decide +kernel)
set_option maxRecDepth 20000 in
theorem gX3_takeFrom_X9_judgeAt : GoodIn wsX3_takeFrom (wsV RX3 30 RX9 yX9_judgeAt wsX9_judgeAt) := goodIn_app (goodIn_of _ (by decide +kernel)) ggX3_takeFrom_X9_judgeAt
set_option maxRecDepth 20000 in
theorem ggX3_takeFrom_X9_hallsOf : GoodIn wsX3_takeFrom wsX9_hallsOf := goodIn_r _ [23, 24, 67, 68, 69, 70, 71, 72, 73, 74, 75, 76, 77, 78] (by decide +kernel) (by decide +kernel)
set_option maxRecDepth 20000 in
theorem gX3_takeFrom_X9_hallsOf : GoodIn wsX3_takeFrom (wsV RX3 39 RX9 yX9_hallsOf wsX9_hallsOf) := goodIn_app (goodIn_of _ (by decide +kernel)) ggX3_takeFrom_X9_hallsOf
set_option maxRecDepth 20000 in
theorem ggX3_takeFrom_X9_diveAt : GoodIn wsX3_takeFrom wsX9_diveAt := goodIn_r _ [28, 29, 30, 17, 18, 19, 67, 68, 69, 70, 71, 72, 73, 74, 75, 76, 77, 78] (by decide +kernel) (by decide +kernel)
set_option maxRecDepth 20000 in
theorem gX3_takeFrom_X9_diveAt : GoodIn wsX3_takeFrom (wsV RX3 46 RX9 yX9_diveAt wsX9_diveAt) := goodIn_app (goodIn_of _ (by decide +kernel)) ggX3_takeFrom_X9_diveAt
set_option maxRecDepth 20000 in
theorem ggX3_takeFrom_X5_gather : GoodIn wsX3_takeFrom wsX5_gather := goodIn_r _ [35, 36, 37, 38, 39, 40, 41, 42, 43, 17, 18, 19, 44, 45, 46, 34, 47, 48, 94, 95, 96, 97, 98, 99, 100, 101, 102] (by decide +kernel) (by decide +kernel)
set_option maxRecDepth 20000 in
theorem gX3_takeFrom_X5_gather : GoodIn wsX3_takeFrom (wsV RX3 54 RX5 yX5_gather wsX5_gather) := goodIn_app (goodIn_of _ (by decide +kernel)) ggX3_takeFrom_X5_gather
set_option maxRecDepth 20000 in
theorem ggX3_takeFrom_X9_landOf : GoodIn wsX3_takeFrom wsX9_landOf := goodIn_r _ [52, 53, 54, 55, 17, 18, 19, 96, 97, 98, 99, 100, 101, 102, 67, 68, 69, 70, 71, 72, 73, 74, 75, 76, 77, 78] (by decide +kernel) (by decide +kernel)
set_option maxRecDepth 20000 in
theorem gX3_takeFrom_X9_landOf : GoodIn wsX3_takeFrom (wsV RX3 60 RX9 yX9_landOf wsX9_landOf) := goodIn_app (goodIn_of _ (by decide +kernel)) ggX3_takeFrom_X9_landOf
set_option maxRecDepth 20000 in
theorem ggX3_takeFrom_X5_middle : GoodIn wsX3_takeFrom wsX5_middle := goodIn_r _ [59, 36, 48, 94, 95] (by decide +kernel) (by decide +kernel)
set_option maxRecDepth 20000 in
theorem gX3_takeFrom_X5_middle : GoodIn wsX3_takeFrom (wsV RX3 64 RX5 yX5_middle wsX5_middle) := goodIn_app (goodIn_of _ (by decide +kernel)) ggX3_takeFrom_X5_middle
set_option maxRecDepth 20000 in
theorem ggX3_takeFrom_X3_addLeans : GoodIn wsX3_takeFrom wsX3_addLeans := goodIn_r _ [64, 65, 7, 66, 17, 18, 19, 96, 97, 98, 99, 100, 101, 102, 79, 80, 81, 82, 83, 84] (by decide +kernel) (by decide +kernel)
set_option maxRecDepth 20000 in
theorem gX3_takeFrom_X3_addLeans : GoodIn wsX3_takeFrom (wsV RX3 68 RX3 yX3_addLeans wsX3_addLeans) := goodIn_app (goodIn_of _ (by decide +kernel)) ggX3_takeFrom_X3_addLeans
theorem dX3_takeFrom_0 : decode cX3_takeFrom 0 = .ok (.aload_n 0, 1) := by decide +kernel
theorem dX3_takeFrom_1 : decode cX3_takeFrom 1 = .ok (.aload_n 1, 1) := by decide +kernel
theorem dX3_takeFrom_2 : decode cX3_takeFrom 2 = .ok (.getfield 21, 3) := by decide +kernel
theorem dX3_takeFrom_5 : decode cX3_takeFrom 5 = .ok (.putfield 27, 3) := by decide +kernel
theorem dX3_takeFrom_8 : decode cX3_takeFrom 8 = .ok (.iconst 0, 1) := by decide +kernel
theorem dX3_takeFrom_9 : decode cX3_takeFrom 9 = .ok (.istore_n 2, 1) := by decide +kernel
theorem dX3_takeFrom_10 : decode cX3_takeFrom 10 = .ok (.iload_n 2, 1) := by decide +kernel
theorem dX3_takeFrom_11 : decode cX3_takeFrom 11 = .ok (.bipush 12, 2) := by decide +kernel
theorem dX3_takeFrom_13 : decode cX3_takeFrom 13 = .ok (.if_icmp .ge 45, 3) := by decide +kernel
theorem dX3_takeFrom_16 : decode cX3_takeFrom 16 = .ok (.aload_n 1, 1) := by decide +kernel
theorem dX3_takeFrom_17 : decode cX3_takeFrom 17 = .ok (.iload_n 2, 1) := by decide +kernel
theorem dX3_takeFrom_18 : decode cX3_takeFrom 18 = .ok (.invokevirtual 30, 3) := by decide +kernel
theorem dX3_takeFrom_21 : decode cX3_takeFrom 21 = .ok (.astore_n 3, 1) := by decide +kernel
theorem dX3_takeFrom_22 : decode cX3_takeFrom 22 = .ok (.aload_n 0, 1) := by decide +kernel
theorem dX3_takeFrom_23 : decode cX3_takeFrom 23 = .ok (.getfield 9, 3) := by decide +kernel
theorem dX3_takeFrom_26 : decode cX3_takeFrom 26 = .ok (.iload_n 2, 1) := by decide +kernel
theorem dX3_takeFrom_27 : decode cX3_takeFrom 27 = .ok (.aload_n 3, 1) := by decide +kernel
theorem dX3_takeFrom_28 : decode cX3_takeFrom 28 = .ok (.ifnonnull 8, 3) := by decide +kernel
theorem dX3_takeFrom_31 : decode cX3_takeFrom 31 = .ok (.bipush (-4), 2) := by decide +kernel
theorem dX3_takeFrom_33 : decode cX3_takeFrom 33 = .ok (.goto 7, 3) := by decide +kernel
theorem dX3_takeFrom_36 : decode cX3_takeFrom 36 = .ok (.aload_n 3, 1) := by decide +kernel
theorem dX3_takeFrom_37 : decode cX3_takeFrom 37 = .ok (.getfield 34, 3) := by decide +kernel
theorem dX3_takeFrom_40 : decode cX3_takeFrom 40 = .ok (.iastore, 1) := by decide +kernel
theorem dX3_takeFrom_41 : decode cX3_takeFrom 41 = .ok (.aload_n 0, 1) := by decide +kernel
theorem dX3_takeFrom_42 : decode cX3_takeFrom 42 = .ok (.getfield 15, 3) := by decide +kernel
theorem dX3_takeFrom_45 : decode cX3_takeFrom 45 = .ok (.iload_n 2, 1) := by decide +kernel
theorem dX3_takeFrom_46 : decode cX3_takeFrom 46 = .ok (.aload_n 1, 1) := by decide +kernel
theorem dX3_takeFrom_47 : decode cX3_takeFrom 47 = .ok (.iload_n 2, 1) := by decide +kernel
theorem dX3_takeFrom_48 : decode cX3_takeFrom 48 = .ok (.invokevirtual 39, 3) := by decide +kernel
theorem dX3_takeFrom_51 : decode cX3_takeFrom 51 = .ok (.iastore, 1) := by decide +kernel
theorem dX3_takeFrom_52 : decode cX3_takeFrom 52 = .ok (.iinc 2 1, 3) := by decide +kernel
theorem dX3_takeFrom_55 : decode cX3_takeFrom 55 = .ok (.goto (-45), 3) := by decide +kernel
theorem dX3_takeFrom_58 : decode cX3_takeFrom 58 = .ok (.iconst 0, 1) := by decide +kernel
theorem dX3_takeFrom_59 : decode cX3_takeFrom 59 = .ok (.istore_n 2, 1) := by decide +kernel
theorem dX3_takeFrom_60 : decode cX3_takeFrom 60 = .ok (.iload_n 2, 1) := by decide +kernel
theorem dX3_takeFrom_61 : decode cX3_takeFrom 61 = .ok (.bipush 72, 2) := by decide +kernel
theorem dX3_takeFrom_63 : decode cX3_takeFrom 63 = .ok (.if_icmp .ge 16, 3) := by decide +kernel
theorem dX3_takeFrom_66 : decode cX3_takeFrom 66 = .ok (.aload_n 0, 1) := by decide +kernel
theorem dX3_takeFrom_67 : decode cX3_takeFrom 67 = .ok (.getfield 18, 3) := by decide +kernel
theorem dX3_takeFrom_70 : decode cX3_takeFrom 70 = .ok (.iload_n 2, 1) := by decide +kernel
theorem dX3_takeFrom_71 : decode cX3_takeFrom 71 = .ok (.iconst 0, 1) := by decide +kernel
theorem dX3_takeFrom_72 : decode cX3_takeFrom 72 = .ok (.iastore, 1) := by decide +kernel
theorem dX3_takeFrom_73 : decode cX3_takeFrom 73 = .ok (.iinc 2 1, 3) := by decide +kernel
theorem dX3_takeFrom_76 : decode cX3_takeFrom 76 = .ok (.goto (-16), 3) := by decide +kernel
theorem dX3_takeFrom_79 : decode cX3_takeFrom 79 = .ok (.iconst 0, 1) := by decide +kernel
theorem dX3_takeFrom_80 : decode cX3_takeFrom 80 = .ok (.istore_n 2, 1) := by decide +kernel
theorem dX3_takeFrom_81 : decode cX3_takeFrom 81 = .ok (.iload_n 2, 1) := by decide +kernel
theorem dX3_takeFrom_82 : decode cX3_takeFrom 82 = .ok (.aload_n 1, 1) := by decide +kernel
theorem dX3_takeFrom_83 : decode cX3_takeFrom 83 = .ok (.getfield 43, 3) := by decide +kernel
theorem dX3_takeFrom_86 : decode cX3_takeFrom 86 = .ok (.if_icmp .ge 44, 3) := by decide +kernel
theorem dX3_takeFrom_89 : decode cX3_takeFrom 89 = .ok (.aload_n 1, 1) := by decide +kernel
theorem dX3_takeFrom_90 : decode cX3_takeFrom 90 = .ok (.iload_n 2, 1) := by decide +kernel
theorem dX3_takeFrom_91 : decode cX3_takeFrom 91 = .ok (.invokevirtual 46, 3) := by decide +kernel
theorem dX3_takeFrom_94 : decode cX3_takeFrom 94 = .ok (.astore_n 3, 1) := by decide +kernel
theorem dX3_takeFrom_95 : decode cX3_takeFrom 95 = .ok (.aload_n 3, 1) := by decide +kernel
theorem dX3_takeFrom_96 : decode cX3_takeFrom 96 = .ok (.ifnull 28, 3) := by decide +kernel
theorem dX3_takeFrom_99 : decode cX3_takeFrom 99 = .ok (.aload_n 1, 1) := by decide +kernel
theorem dX3_takeFrom_100 : decode cX3_takeFrom 100 = .ok (.getfield 50, 3) := by decide +kernel
theorem dX3_takeFrom_103 : decode cX3_takeFrom 103 = .ok (.aload_n 3, 1) := by decide +kernel
theorem dX3_takeFrom_104 : decode cX3_takeFrom 104 = .ok (.invokevirtual 54, 3) := by decide +kernel
theorem dX3_takeFrom_107 : decode cX3_takeFrom 107 = .ok (.aload_n 0, 1) := by decide +kernel
theorem dX3_takeFrom_108 : decode cX3_takeFrom 108 = .ok (.aload_n 3, 1) := by decide +kernel
theorem dX3_takeFrom_109 : decode cX3_takeFrom 109 = .ok (.aload_n 1, 1) := by decide +kernel
theorem dX3_takeFrom_110 : decode cX3_takeFrom 110 = .ok (.aload_n 3, 1) := by decide +kernel
theorem dX3_takeFrom_111 : decode cX3_takeFrom 111 = .ok (.invokevirtual 60, 3) := by decide +kernel
theorem dX3_takeFrom_114 : decode cX3_takeFrom 114 = .ok (.aload_n 1, 1) := by decide +kernel
theorem dX3_takeFrom_115 : decode cX3_takeFrom 115 = .ok (.getfield 50, 3) := by decide +kernel
theorem dX3_takeFrom_118 : decode cX3_takeFrom 118 = .ok (.invokevirtual 64, 3) := by decide +kernel
theorem dX3_takeFrom_121 : decode cX3_takeFrom 121 = .ok (.invokevirtual 68, 3) := by decide +kernel
theorem dX3_takeFrom_124 : decode cX3_takeFrom 124 = .ok (.iinc 2 1, 3) := by decide +kernel
theorem dX3_takeFrom_127 : decode cX3_takeFrom 127 = .ok (.goto (-46), 3) := by decide +kernel
theorem dX3_takeFrom_130 : decode cX3_takeFrom 130 = .ok (.return_, 1) := by decide +kernel
set_option maxRecDepth 20000 in
theorem ggX3_addLeans_X11_within : GoodIn wsX3_addLeans wsX11_within := goodIn_r _ [6] (by decide +kernel) (by decide +kernel)
set_option maxRecDepth 20000 in
theorem gX3_addLeans_X11_within_n77 : GoodIn wsX3_addLeans (wsX11_within) := ggX3_addLeans_X11_within
theorem dX3_addLeans_0 : decode cX3_addLeans 0 = .ok (.iconst 0, 1) := by decide +kernel
theorem dX3_addLeans_1 : decode cX3_addLeans 1 = .ok (.istore 4, 2) := by decide +kernel
theorem dX3_addLeans_3 : decode cX3_addLeans 3 = .ok (.iload 4, 2) := by decide +kernel
theorem dX3_addLeans_5 : decode cX3_addLeans 5 = .ok (.bipush 7, 2) := by decide +kernel
theorem dX3_addLeans_7 : decode cX3_addLeans 7 = .ok (.if_icmp .ge 61, 3) := by decide +kernel
theorem dX3_addLeans_10 : decode cX3_addLeans 10 = .ok (.aload_n 1, 1) := by decide +kernel
theorem dX3_addLeans_11 : decode cX3_addLeans 11 = .ok (.getfield 72, 3) := by decide +kernel
theorem dX3_addLeans_14 : decode cX3_addLeans 14 = .ok (.iload 4, 2) := by decide +kernel
theorem dX3_addLeans_16 : decode cX3_addLeans 16 = .ok (.iaload, 1) := by decide +kernel
theorem dX3_addLeans_17 : decode cX3_addLeans 17 = .ok (.istore 5, 2) := by decide +kernel
theorem dX3_addLeans_19 : decode cX3_addLeans 19 = .ok (.iload 5, 2) := by decide +kernel
theorem dX3_addLeans_21 : decode cX3_addLeans 21 = .ok (.bipush 12, 2) := by decide +kernel
theorem dX3_addLeans_23 : decode cX3_addLeans 23 = .ok (.invokestatic 77, 3) := by decide +kernel
theorem dX3_addLeans_26 : decode cX3_addLeans 26 = .ok (.ifCond .eq 36, 3) := by decide +kernel
theorem dX3_addLeans_29 : decode cX3_addLeans 29 = .ok (.iload_n 2, 1) := by decide +kernel
theorem dX3_addLeans_30 : decode cX3_addLeans 30 = .ok (.bipush 6, 2) := by decide +kernel
theorem dX3_addLeans_32 : decode cX3_addLeans 32 = .ok (.invokestatic 77, 3) := by decide +kernel
theorem dX3_addLeans_35 : decode cX3_addLeans 35 = .ok (.ifCond .eq 27, 3) := by decide +kernel
theorem dX3_addLeans_38 : decode cX3_addLeans 38 = .ok (.aload_n 0, 1) := by decide +kernel
theorem dX3_addLeans_39 : decode cX3_addLeans 39 = .ok (.getfield 18, 3) := by decide +kernel
theorem dX3_addLeans_42 : decode cX3_addLeans 42 = .ok (.iload 5, 2) := by decide +kernel
theorem dX3_addLeans_44 : decode cX3_addLeans 44 = .ok (.bipush 6, 2) := by decide +kernel
theorem dX3_addLeans_46 : decode cX3_addLeans 46 = .ok (.imul, 1) := by decide +kernel
theorem dX3_addLeans_47 : decode cX3_addLeans 47 = .ok (.iload_n 2, 1) := by decide +kernel
theorem dX3_addLeans_48 : decode cX3_addLeans 48 = .ok (.iadd, 1) := by decide +kernel
theorem dX3_addLeans_49 : decode cX3_addLeans 49 = .ok (.dup2, 1) := by decide +kernel
theorem dX3_addLeans_50 : decode cX3_addLeans 50 = .ok (.iaload, 1) := by decide +kernel
theorem dX3_addLeans_51 : decode cX3_addLeans 51 = .ok (.aload_n 1, 1) := by decide +kernel
theorem dX3_addLeans_52 : decode cX3_addLeans 52 = .ok (.getfield 81, 3) := by decide +kernel
theorem dX3_addLeans_55 : decode cX3_addLeans 55 = .ok (.iload 4, 2) := by decide +kernel
theorem dX3_addLeans_57 : decode cX3_addLeans 57 = .ok (.iaload, 1) := by decide +kernel
theorem dX3_addLeans_58 : decode cX3_addLeans 58 = .ok (.iload_n 3, 1) := by decide +kernel
theorem dX3_addLeans_59 : decode cX3_addLeans 59 = .ok (.isub, 1) := by decide +kernel
theorem dX3_addLeans_60 : decode cX3_addLeans 60 = .ok (.iadd, 1) := by decide +kernel
theorem dX3_addLeans_61 : decode cX3_addLeans 61 = .ok (.iastore, 1) := by decide +kernel
theorem dX3_addLeans_62 : decode cX3_addLeans 62 = .ok (.iinc 4 1, 3) := by decide +kernel
theorem dX3_addLeans_65 : decode cX3_addLeans 65 = .ok (.goto (-62), 3) := by decide +kernel
theorem dX3_addLeans_68 : decode cX3_addLeans 68 = .ok (.return_, 1) := by decide +kernel
set_option maxRecDepth 20000 in
theorem ggX3_leansTo_X11_within : GoodIn wsX3_leansTo wsX11_within := goodIn_r _ [4] (by decide +kernel) (by decide +kernel)
set_option maxRecDepth 20000 in
theorem gX3_leansTo_X11_within_n77 : GoodIn wsX3_leansTo (wsX11_within) := ggX3_leansTo_X11_within
theorem dX3_leansTo_0 : decode cX3_leansTo 0 = .ok (.iload_n 1, 1) := by decide +kernel
theorem dX3_leansTo_1 : decode cX3_leansTo 1 = .ok (.bipush 12, 2) := by decide +kernel
theorem dX3_leansTo_3 : decode cX3_leansTo 3 = .ok (.invokestatic 77, 3) := by decide +kernel
theorem dX3_leansTo_6 : decode cX3_leansTo 6 = .ok (.ifCond .eq 30, 3) := by decide +kernel
theorem dX3_leansTo_9 : decode cX3_leansTo 9 = .ok (.iload_n 2, 1) := by decide +kernel
theorem dX3_leansTo_10 : decode cX3_leansTo 10 = .ok (.bipush 6, 2) := by decide +kernel
theorem dX3_leansTo_12 : decode cX3_leansTo 12 = .ok (.invokestatic 77, 3) := by decide +kernel
theorem dX3_leansTo_15 : decode cX3_leansTo 15 = .ok (.ifCond .eq 21, 3) := by decide +kernel
theorem dX3_leansTo_18 : decode cX3_leansTo 18 = .ok (.aload_n 0, 1) := by decide +kernel
theorem dX3_leansTo_19 : decode cX3_leansTo 19 = .ok (.getfield 18, 3) := by decide +kernel
theorem dX3_leansTo_22 : decode cX3_leansTo 22 = .ok (.iload_n 1, 1) := by decide +kernel
theorem dX3_leansTo_23 : decode cX3_leansTo 23 = .ok (.bipush 6, 2) := by decide +kernel
theorem dX3_leansTo_25 : decode cX3_leansTo 25 = .ok (.imul, 1) := by decide +kernel
theorem dX3_leansTo_26 : decode cX3_leansTo 26 = .ok (.iload_n 2, 1) := by decide +kernel
theorem dX3_leansTo_27 : decode cX3_leansTo 27 = .ok (.iadd, 1) := by decide +kernel
theorem dX3_leansTo_28 : decode cX3_leansTo 28 = .ok (.iaload, 1) := by decide +kernel
theorem dX3_leansTo_29 : decode cX3_leansTo 29 = .ok (.ifCond .le 7, 3) := by decide +kernel
theorem dX3_leansTo_32 : decode cX3_leansTo 32 = .ok (.iconst 1, 1) := by decide +kernel
theorem dX3_leansTo_33 : decode cX3_leansTo 33 = .ok (.goto 4, 3) := by decide +kernel
theorem dX3_leansTo_36 : decode cX3_leansTo 36 = .ok (.iconst 0, 1) := by decide +kernel
theorem dX3_leansTo_37 : decode cX3_leansTo 37 = .ok (.ireturn, 1) := by decide +kernel
set_option maxRecDepth 20000 in
theorem ggX3_between_X11_within : GoodIn wsX3_between wsX11_within := goodIn_r _ [5] (by decide +kernel) (by decide +kernel)
set_option maxRecDepth 20000 in
theorem gX3_between_X11_within_n77 : GoodIn wsX3_between (wsX11_within) := ggX3_between_X11_within
set_option maxRecDepth 20000 in
theorem ggX3_between_X3_leansTo : GoodIn wsX3_between wsX3_leansTo := goodIn_r _ [10, 11, 3, 4, 5, 12, 13, 14, 15, 16, 17] (by decide +kernel) (by decide +kernel)
set_option maxRecDepth 20000 in
theorem gX3_between_X3_leansTo : GoodIn wsX3_between (wsV RX3 84 RX3 yX3_leansTo wsX3_leansTo) := goodIn_app (goodIn_of _ (by decide +kernel)) ggX3_between_X3_leansTo
theorem dX3_between_0 : decode cX3_between 0 = .ok (.iload_n 2, 1) := by decide +kernel
theorem dX3_between_1 : decode cX3_between 1 = .ok (.bipush 12, 2) := by decide +kernel
theorem dX3_between_3 : decode cX3_between 3 = .ok (.invokestatic 77, 3) := by decide +kernel
theorem dX3_between_6 : decode cX3_between 6 = .ok (.ifCond .eq 31, 3) := by decide +kernel
theorem dX3_between_9 : decode cX3_between 9 = .ok (.iload 4, 2) := by decide +kernel
theorem dX3_between_11 : decode cX3_between 11 = .ok (.bipush 12, 2) := by decide +kernel
theorem dX3_between_13 : decode cX3_between 13 = .ok (.invokestatic 77, 3) := by decide +kernel
theorem dX3_between_16 : decode cX3_between 16 = .ok (.ifCond .eq 21, 3) := by decide +kernel
theorem dX3_between_19 : decode cX3_between 19 = .ok (.iload_n 1, 1) := by decide +kernel
theorem dX3_between_20 : decode cX3_between 20 = .ok (.bipush 12, 2) := by decide +kernel
theorem dX3_between_22 : decode cX3_between 22 = .ok (.invokestatic 77, 3) := by decide +kernel
theorem dX3_between_25 : decode cX3_between 25 = .ok (.ifCond .eq 12, 3) := by decide +kernel
theorem dX3_between_28 : decode cX3_between 28 = .ok (.iload_n 3, 1) := by decide +kernel
theorem dX3_between_29 : decode cX3_between 29 = .ok (.bipush 12, 2) := by decide +kernel
theorem dX3_between_31 : decode cX3_between 31 = .ok (.invokestatic 77, 3) := by decide +kernel
theorem dX3_between_34 : decode cX3_between 34 = .ok (.ifCond .ne 5, 3) := by decide +kernel
theorem dX3_between_37 : decode cX3_between 37 = .ok (.iconst 0, 1) := by decide +kernel
theorem dX3_between_38 : decode cX3_between 38 = .ok (.ireturn, 1) := by decide +kernel
theorem dX3_between_39 : decode cX3_between 39 = .ok (.aload_n 0, 1) := by decide +kernel
theorem dX3_between_40 : decode cX3_between 40 = .ok (.getfield 9, 3) := by decide +kernel
theorem dX3_between_43 : decode cX3_between 43 = .ok (.iload_n 2, 1) := by decide +kernel
theorem dX3_between_44 : decode cX3_between 44 = .ok (.iaload, 1) := by decide +kernel
theorem dX3_between_45 : decode cX3_between 45 = .ok (.istore 5, 2) := by decide +kernel
theorem dX3_between_47 : decode cX3_between 47 = .ok (.aload_n 0, 1) := by decide +kernel
theorem dX3_between_48 : decode cX3_between 48 = .ok (.getfield 9, 3) := by decide +kernel
theorem dX3_between_51 : decode cX3_between 51 = .ok (.iload 4, 2) := by decide +kernel
theorem dX3_between_53 : decode cX3_between 53 = .ok (.iaload, 1) := by decide +kernel
theorem dX3_between_54 : decode cX3_between 54 = .ok (.istore 6, 2) := by decide +kernel
theorem dX3_between_56 : decode cX3_between 56 = .ok (.aload_n 0, 1) := by decide +kernel
theorem dX3_between_57 : decode cX3_between 57 = .ok (.getfield 15, 3) := by decide +kernel
theorem dX3_between_60 : decode cX3_between 60 = .ok (.iload_n 1, 1) := by decide +kernel
theorem dX3_between_61 : decode cX3_between 61 = .ok (.iaload, 1) := by decide +kernel
theorem dX3_between_62 : decode cX3_between 62 = .ok (.aload_n 0, 1) := by decide +kernel
theorem dX3_between_63 : decode cX3_between 63 = .ok (.getfield 15, 3) := by decide +kernel
theorem dX3_between_66 : decode cX3_between 66 = .ok (.iload_n 3, 1) := by decide +kernel
theorem dX3_between_67 : decode cX3_between 67 = .ok (.iaload, 1) := by decide +kernel
theorem dX3_between_68 : decode cX3_between 68 = .ok (.iand, 1) := by decide +kernel
theorem dX3_between_69 : decode cX3_between 69 = .ok (.ifCond .ne 7, 3) := by decide +kernel
theorem dX3_between_72 : decode cX3_between 72 = .ok (.iconst 1, 1) := by decide +kernel
theorem dX3_between_73 : decode cX3_between 73 = .ok (.goto 4, 3) := by decide +kernel
theorem dX3_between_76 : decode cX3_between 76 = .ok (.iconst 0, 1) := by decide +kernel
theorem dX3_between_77 : decode cX3_between 77 = .ok (.istore 7, 2) := by decide +kernel
theorem dX3_between_79 : decode cX3_between 79 = .ok (.aload_n 0, 1) := by decide +kernel
theorem dX3_between_80 : decode cX3_between 80 = .ok (.iload_n 1, 1) := by decide +kernel
theorem dX3_between_81 : decode cX3_between 81 = .ok (.iload 6, 2) := by decide +kernel
theorem dX3_between_83 : decode cX3_between 83 = .ok (.invokevirtual 84, 3) := by decide +kernel
theorem dX3_between_86 : decode cX3_between 86 = .ok (.ifCond .eq 17, 3) := by decide +kernel
theorem dX3_between_89 : decode cX3_between 89 = .ok (.aload_n 0, 1) := by decide +kernel
theorem dX3_between_90 : decode cX3_between 90 = .ok (.iload_n 3, 1) := by decide +kernel
theorem dX3_between_91 : decode cX3_between 91 = .ok (.iload 5, 2) := by decide +kernel
theorem dX3_between_93 : decode cX3_between 93 = .ok (.invokevirtual 84, 3) := by decide +kernel
theorem dX3_between_96 : decode cX3_between 96 = .ok (.ifCond .eq 7, 3) := by decide +kernel
theorem dX3_between_99 : decode cX3_between 99 = .ok (.iconst 1, 1) := by decide +kernel
theorem dX3_between_100 : decode cX3_between 100 = .ok (.goto 4, 3) := by decide +kernel
theorem dX3_between_103 : decode cX3_between 103 = .ok (.iconst 0, 1) := by decide +kernel
theorem dX3_between_104 : decode cX3_between 104 = .ok (.istore 8, 2) := by decide +kernel
theorem dX3_between_106 : decode cX3_between 106 = .ok (.iload 7, 2) := by decide +kernel
theorem dX3_between_108 : decode cX3_between 108 = .ok (.ifCond .eq 19, 3) := by decide +kernel
theorem dX3_between_111 : decode cX3_between 111 = .ok (.iload 5, 2) := by decide +kernel
theorem dX3_between_113 : decode cX3_between 113 = .ok (.iload 6, 2) := by decide +kernel
theorem dX3_between_115 : decode cX3_between 115 = .ok (.if_icmp .eq 12, 3) := by decide +kernel
theorem dX3_between_118 : decode cX3_between 118 = .ok (.iload 8, 2) := by decide +kernel
theorem dX3_between_120 : decode cX3_between 120 = .ok (.ifCond .eq 7, 3) := by decide +kernel
theorem dX3_between_123 : decode cX3_between 123 = .ok (.iconst 1, 1) := by decide +kernel
theorem dX3_between_124 : decode cX3_between 124 = .ok (.goto 4, 3) := by decide +kernel
theorem dX3_between_127 : decode cX3_between 127 = .ok (.iconst 0, 1) := by decide +kernel
theorem dX3_between_128 : decode cX3_between 128 = .ok (.ireturn, 1) := by decide +kernel
set_option maxRecDepth 20000 in
theorem ggX4_init_X0_init : GoodIn wsX4_init wsX0_init := goodIn_r _ [5, 6, 7, 8, 1, 9, 14, 15, 16, 17, 18, 19, 10, 11, 12, 13] (by decide +kernel) (by decide +kernel)
set_option maxRecDepth 20000 in
theorem gX4_init_X0_init_n3 : GoodIn wsX4_init (wsX0_init) := ggX4_init_X0_init
theorem dX4_init_0 : decode cX4_init 0 = .ok (.aload_n 0, 1) := by decide +kernel
theorem dX4_init_1 : decode cX4_init 1 = .ok (.invokespecial 3, 3) := by decide +kernel
theorem dX4_init_4 : decode cX4_init 4 = .ok (.aload_n 0, 1) := by decide +kernel
theorem dX4_init_5 : decode cX4_init 5 = .ok (.bipush 40, 2) := by decide +kernel
theorem dX4_init_7 : decode cX4_init 7 = .ok (.newarray .int, 2) := by decide +kernel
theorem dX4_init_9 : decode cX4_init 9 = .ok (.putfield 9, 3) := by decide +kernel
theorem dX4_init_12 : decode cX4_init 12 = .ok (.return_, 1) := by decide +kernel
set_option maxRecDepth 20000 in
theorem ggX4_takeFrom_X9_diveAt : GoodIn wsX4_takeFrom wsX9_diveAt := goodIn_r _ [10, 11, 12, 13, 14, 15, 96, 97, 98, 99, 100, 101, 102, 103, 104, 105, 106, 107] (by decide +kernel) (by decide +kernel)
set_option maxRecDepth 20000 in
theorem gX4_takeFrom_X9_diveAt : GoodIn wsX4_takeFrom (wsV RX4 24 RX9 yX9_diveAt wsX9_diveAt) := goodIn_app (goodIn_of _ (by decide +kernel)) ggX4_takeFrom_X9_diveAt
set_option maxRecDepth 20000 in
theorem ggX4_takeFrom_X11_within : GoodIn wsX4_takeFrom wsX11_within := goodIn_r _ [15] (by decide +kernel) (by decide +kernel)
set_option maxRecDepth 20000 in
theorem gX4_takeFrom_X11_within_n33 : GoodIn wsX4_takeFrom (wsX11_within) := ggX4_takeFrom_X11_within
set_option maxRecDepth 20000 in
theorem ggX4_takeFrom_X9_countOf : GoodIn wsX4_takeFrom wsX9_countOf := goodIn_r _ [19, 20, 21, 22, 23, 24, 25, 26, 27, 28, 29, 30, 31, 32, 33, 34, 13, 14, 15, 35, 36, 37, 38, 39, 40, 41, 42, 43, 44, 45, 46, 47, 48, 49, 50, 51, 52, 53, 54, 55, 56, 57, 58, 59, 60, 61, 62, 63, 64, 65, 66, 67, 68, 69, 70, 71, 72, 73, 74, 75, 76, 77, 78, 79, 80, 81, 82, 83, 84, 85, 96, 97, 98, 99, 100, 101, 102, 103, 104, 105, 106, 107, 115, 116, 108, 109, 110, 111, 112, 113, 114, 117, 118, 119, 120, 121, 122] (by decide +kernel) (by decide +kernel)
set_option maxRecDepth 20000 in
theorem gX4_takeFrom_X9_countOf : GoodIn wsX4_takeFrom (wsV RX4 37 RX9 yX9_countOf wsX9_countOf) := goodIn_app (goodIn_of _ (by decide +kernel)) ggX4_takeFrom_X9_countOf
theorem dX4_takeFrom_0 : decode cX4_takeFrom 0 = .ok (.aload_n 0, 1) := by decide +kernel
theorem dX4_takeFrom_1 : decode cX4_takeFrom 1 = .ok (.iconst 0, 1) := by decide +kernel
theorem dX4_takeFrom_2 : decode cX4_takeFrom 2 = .ok (.putfield 15, 3) := by decide +kernel
theorem dX4_takeFrom_5 : decode cX4_takeFrom 5 = .ok (.iconst 0, 1) := by decide +kernel
theorem dX4_takeFrom_6 : decode cX4_takeFrom 6 = .ok (.istore_n 3, 1) := by decide +kernel
theorem dX4_takeFrom_7 : decode cX4_takeFrom 7 = .ok (.iload_n 3, 1) := by decide +kernel
theorem dX4_takeFrom_8 : decode cX4_takeFrom 8 = .ok (.aload_n 1, 1) := by decide +kernel
theorem dX4_takeFrom_9 : decode cX4_takeFrom 9 = .ok (.getfield 19, 3) := by decide +kernel
theorem dX4_takeFrom_12 : decode cX4_takeFrom 12 = .ok (.if_icmp .ge 67, 3) := by decide +kernel
theorem dX4_takeFrom_15 : decode cX4_takeFrom 15 = .ok (.aload_n 1, 1) := by decide +kernel
theorem dX4_takeFrom_16 : decode cX4_takeFrom 16 = .ok (.iload_n 3, 1) := by decide +kernel
theorem dX4_takeFrom_17 : decode cX4_takeFrom 17 = .ok (.invokevirtual 24, 3) := by decide +kernel
theorem dX4_takeFrom_20 : decode cX4_takeFrom 20 = .ok (.astore 4, 2) := by decide +kernel
theorem dX4_takeFrom_22 : decode cX4_takeFrom 22 = .ok (.aload 4, 2) := by decide +kernel
theorem dX4_takeFrom_24 : decode cX4_takeFrom 24 = .ok (.ifnull 49, 3) := by decide +kernel
theorem dX4_takeFrom_27 : decode cX4_takeFrom 27 = .ok (.aload 4, 2) := by decide +kernel
theorem dX4_takeFrom_29 : decode cX4_takeFrom 29 = .ok (.getfield 28, 3) := by decide +kernel
theorem dX4_takeFrom_32 : decode cX4_takeFrom 32 = .ok (.iload_n 2, 1) := by decide +kernel
theorem dX4_takeFrom_33 : decode cX4_takeFrom 33 = .ok (.if_icmp .ne 40, 3) := by decide +kernel
theorem dX4_takeFrom_36 : decode cX4_takeFrom 36 = .ok (.aload_n 0, 1) := by decide +kernel
theorem dX4_takeFrom_37 : decode cX4_takeFrom 37 = .ok (.getfield 15, 3) := by decide +kernel
theorem dX4_takeFrom_40 : decode cX4_takeFrom 40 = .ok (.bipush 40, 2) := by decide +kernel
theorem dX4_takeFrom_42 : decode cX4_takeFrom 42 = .ok (.invokestatic 33, 3) := by decide +kernel
theorem dX4_takeFrom_45 : decode cX4_takeFrom 45 = .ok (.ifCond .eq 28, 3) := by decide +kernel
theorem dX4_takeFrom_48 : decode cX4_takeFrom 48 = .ok (.aload_n 0, 1) := by decide +kernel
theorem dX4_takeFrom_49 : decode cX4_takeFrom 49 = .ok (.getfield 9, 3) := by decide +kernel
theorem dX4_takeFrom_52 : decode cX4_takeFrom 52 = .ok (.aload_n 0, 1) := by decide +kernel
theorem dX4_takeFrom_53 : decode cX4_takeFrom 53 = .ok (.getfield 15, 3) := by decide +kernel
theorem dX4_takeFrom_56 : decode cX4_takeFrom 56 = .ok (.aload_n 1, 1) := by decide +kernel
theorem dX4_takeFrom_57 : decode cX4_takeFrom 57 = .ok (.aload 4, 2) := by decide +kernel
theorem dX4_takeFrom_59 : decode cX4_takeFrom 59 = .ok (.invokevirtual 37, 3) := by decide +kernel
theorem dX4_takeFrom_62 : decode cX4_takeFrom 62 = .ok (.iastore, 1) := by decide +kernel
theorem dX4_takeFrom_63 : decode cX4_takeFrom 63 = .ok (.aload_n 0, 1) := by decide +kernel
theorem dX4_takeFrom_64 : decode cX4_takeFrom 64 = .ok (.dup, 1) := by decide +kernel
theorem dX4_takeFrom_65 : decode cX4_takeFrom 65 = .ok (.getfield 15, 3) := by decide +kernel
theorem dX4_takeFrom_68 : decode cX4_takeFrom 68 = .ok (.iconst 1, 1) := by decide +kernel
theorem dX4_takeFrom_69 : decode cX4_takeFrom 69 = .ok (.iadd, 1) := by decide +kernel
theorem dX4_takeFrom_70 : decode cX4_takeFrom 70 = .ok (.putfield 15, 3) := by decide +kernel
theorem dX4_takeFrom_73 : decode cX4_takeFrom 73 = .ok (.iinc 3 1, 3) := by decide +kernel
theorem dX4_takeFrom_76 : decode cX4_takeFrom 76 = .ok (.goto (-69), 3) := by decide +kernel
theorem dX4_takeFrom_79 : decode cX4_takeFrom 79 = .ok (.return_, 1) := by decide +kernel
set_option maxRecDepth 20000 in
theorem ggX4_between_X11_within : GoodIn wsX4_between wsX11_within := goodIn_r _ [4] (by decide +kernel) (by decide +kernel)
set_option maxRecDepth 20000 in
theorem gX4_between_X11_within_n33 : GoodIn wsX4_between (wsX11_within) := ggX4_between_X11_within
theorem dX4_between_0 : decode cX4_between 0 = .ok (.iload_n 2, 1) := by decide +kernel
theorem dX4_between_1 : decode cX4_between 1 = .ok (.bipush 40, 2) := by decide +kernel
theorem dX4_between_3 : decode cX4_between 3 = .ok (.invokestatic 33, 3) := by decide +kernel
theorem dX4_between_6 : decode cX4_between 6 = .ok (.ifCond .eq 13, 3) := by decide +kernel
theorem dX4_between_9 : decode cX4_between 9 = .ok (.iload 4, 2) := by decide +kernel
theorem dX4_between_11 : decode cX4_between 11 = .ok (.bipush 40, 2) := by decide +kernel
theorem dX4_between_13 : decode cX4_between 13 = .ok (.invokestatic 33, 3) := by decide +kernel
theorem dX4_between_16 : decode cX4_between 16 = .ok (.ifCond .ne 5, 3) := by decide +kernel
theorem dX4_between_19 : decode cX4_between 19 = .ok (.iconst 0, 1) := by decide +kernel
theorem dX4_between_20 : decode cX4_between 20 = .ok (.ireturn, 1) := by decide +kernel
theorem dX4_between_21 : decode cX4_between 21 = .ok (.aload_n 0, 1) := by decide +kernel
theorem dX4_between_22 : decode cX4_between 22 = .ok (.getfield 9, 3) := by decide +kernel
theorem dX4_between_25 : decode cX4_between 25 = .ok (.iload_n 2, 1) := by decide +kernel
theorem dX4_between_26 : decode cX4_between 26 = .ok (.iaload, 1) := by decide +kernel
theorem dX4_between_27 : decode cX4_between 27 = .ok (.istore 5, 2) := by decide +kernel
theorem dX4_between_29 : decode cX4_between 29 = .ok (.aload_n 0, 1) := by decide +kernel
theorem dX4_between_30 : decode cX4_between 30 = .ok (.getfield 9, 3) := by decide +kernel
theorem dX4_between_33 : decode cX4_between 33 = .ok (.iload 4, 2) := by decide +kernel
theorem dX4_between_35 : decode cX4_between 35 = .ok (.iaload, 1) := by decide +kernel
theorem dX4_between_36 : decode cX4_between 36 = .ok (.istore 6, 2) := by decide +kernel
theorem dX4_between_38 : decode cX4_between 38 = .ok (.iload 6, 2) := by decide +kernel
theorem dX4_between_40 : decode cX4_between 40 = .ok (.iload 5, 2) := by decide +kernel
theorem dX4_between_42 : decode cX4_between 42 = .ok (.if_icmp .le 7, 3) := by decide +kernel
theorem dX4_between_45 : decode cX4_between 45 = .ok (.iconst 1, 1) := by decide +kernel
theorem dX4_between_46 : decode cX4_between 46 = .ok (.goto 15, 3) := by decide +kernel
theorem dX4_between_49 : decode cX4_between 49 = .ok (.iload 6, 2) := by decide +kernel
theorem dX4_between_51 : decode cX4_between 51 = .ok (.iload 5, 2) := by decide +kernel
theorem dX4_between_53 : decode cX4_between 53 = .ok (.if_icmp .ge 7, 3) := by decide +kernel
theorem dX4_between_56 : decode cX4_between 56 = .ok (.iconst (-1), 1) := by decide +kernel
theorem dX4_between_57 : decode cX4_between 57 = .ok (.goto 4, 3) := by decide +kernel
theorem dX4_between_60 : decode cX4_between 60 = .ok (.iconst 0, 1) := by decide +kernel
theorem dX4_between_61 : decode cX4_between 61 = .ok (.ireturn, 1) := by decide +kernel
theorem dX5_init_0 : decode cX5_init 0 = .ok (.aload_n 0, 1) := by decide +kernel
theorem dX5_init_1 : decode cX5_init 1 = .ok (.invokespecial 3, 3) := by decide +kernel
theorem dX5_init_4 : decode cX5_init 4 = .ok (.aload_n 0, 1) := by decide +kernel
theorem dX5_init_5 : decode cX5_init 5 = .ok (.bipush 7, 2) := by decide +kernel
theorem dX5_init_7 : decode cX5_init 7 = .ok (.newarray .int, 2) := by decide +kernel
theorem dX5_init_9 : decode cX5_init 9 = .ok (.putfield 9, 3) := by decide +kernel
theorem dX5_init_12 : decode cX5_init 12 = .ok (.return_, 1) := by decide +kernel
set_option maxRecDepth 20000 in
theorem ggX5_gather_X1_hasMark : GoodIn wsX5_gather wsX1_hasMark := goodIn_r _ [7, 8, 9, 10, 11, 20, 21, 22, 23, 24, 25, 26] (by decide +kernel) (by decide +kernel)
set_option maxRecDepth 20000 in
theorem gX5_gather_X1_hasMark : GoodIn wsX5_gather (wsV RX5 19 RX1 yX1_hasMark wsX1_hasMark) := goodIn_app (goodIn_of _ (by decide +kernel)) ggX5_gather_X1_hasMark
set_option maxRecDepth 20000 in
theorem ggX5_gather_X5_add : GoodIn wsX5_gather wsX5_add := goodIn_r _ [16, 1, 17, 18, 19] (by decide +kernel) (by decide +kernel)
set_option maxRecDepth 20000 in
theorem gX5_gather_X5_add : GoodIn wsX5_gather (wsV RX5 28 RX5 yX5_add wsX5_add) := goodIn_app (goodIn_of _ (by decide +kernel)) ggX5_gather_X5_add
theorem dX5_gather_0 : decode cX5_gather 0 = .ok (.aload_n 0, 1) := by decide +kernel
theorem dX5_gather_1 : decode cX5_gather 1 = .ok (.iconst 0, 1) := by decide +kernel
theorem dX5_gather_2 : decode cX5_gather 2 = .ok (.putfield 15, 3) := by decide +kernel
theorem dX5_gather_5 : decode cX5_gather 5 = .ok (.iconst 0, 1) := by decide +kernel
theorem dX5_gather_6 : decode cX5_gather 6 = .ok (.istore_n 2, 1) := by decide +kernel
theorem dX5_gather_7 : decode cX5_gather 7 = .ok (.iload_n 2, 1) := by decide +kernel
theorem dX5_gather_8 : decode cX5_gather 8 = .ok (.bipush 7, 2) := by decide +kernel
theorem dX5_gather_10 : decode cX5_gather 10 = .ok (.if_icmp .ge 27, 3) := by decide +kernel
theorem dX5_gather_13 : decode cX5_gather 13 = .ok (.aload_n 1, 1) := by decide +kernel
theorem dX5_gather_14 : decode cX5_gather 14 = .ok (.iload_n 2, 1) := by decide +kernel
theorem dX5_gather_15 : decode cX5_gather 15 = .ok (.invokevirtual 19, 3) := by decide +kernel
theorem dX5_gather_18 : decode cX5_gather 18 = .ok (.ifCond .eq 13, 3) := by decide +kernel
theorem dX5_gather_21 : decode cX5_gather 21 = .ok (.aload_n 0, 1) := by decide +kernel
theorem dX5_gather_22 : decode cX5_gather 22 = .ok (.aload_n 1, 1) := by decide +kernel
theorem dX5_gather_23 : decode cX5_gather 23 = .ok (.getfield 25, 3) := by decide +kernel
theorem dX5_gather_26 : decode cX5_gather 26 = .ok (.iload_n 2, 1) := by decide +kernel
theorem dX5_gather_27 : decode cX5_gather 27 = .ok (.iaload, 1) := by decide +kernel
theorem dX5_gather_28 : decode cX5_gather 28 = .ok (.invokevirtual 28, 3) := by decide +kernel
theorem dX5_gather_31 : decode cX5_gather 31 = .ok (.iinc 2 1, 3) := by decide +kernel
theorem dX5_gather_34 : decode cX5_gather 34 = .ok (.goto (-27), 3) := by decide +kernel
theorem dX5_gather_37 : decode cX5_gather 37 = .ok (.return_, 1) := by decide +kernel
theorem dX5_add_0 : decode cX5_add 0 = .ok (.aload_n 0, 1) := by decide +kernel
theorem dX5_add_1 : decode cX5_add 1 = .ok (.getfield 15, 3) := by decide +kernel
theorem dX5_add_4 : decode cX5_add 4 = .ok (.bipush 7, 2) := by decide +kernel
theorem dX5_add_6 : decode cX5_add 6 = .ok (.if_icmp .lt 4, 3) := by decide +kernel
theorem dX5_add_9 : decode cX5_add 9 = .ok (.return_, 1) := by decide +kernel
theorem dX5_add_10 : decode cX5_add 10 = .ok (.aload_n 0, 1) := by decide +kernel
theorem dX5_add_11 : decode cX5_add 11 = .ok (.getfield 15, 3) := by decide +kernel
theorem dX5_add_14 : decode cX5_add 14 = .ok (.istore_n 2, 1) := by decide +kernel
theorem dX5_add_15 : decode cX5_add 15 = .ok (.iload_n 2, 1) := by decide +kernel
theorem dX5_add_16 : decode cX5_add 16 = .ok (.ifCond .le 35, 3) := by decide +kernel
theorem dX5_add_19 : decode cX5_add 19 = .ok (.aload_n 0, 1) := by decide +kernel
theorem dX5_add_20 : decode cX5_add 20 = .ok (.getfield 9, 3) := by decide +kernel
theorem dX5_add_23 : decode cX5_add 23 = .ok (.iload_n 2, 1) := by decide +kernel
theorem dX5_add_24 : decode cX5_add 24 = .ok (.iconst 1, 1) := by decide +kernel
theorem dX5_add_25 : decode cX5_add 25 = .ok (.isub, 1) := by decide +kernel
theorem dX5_add_26 : decode cX5_add 26 = .ok (.iaload, 1) := by decide +kernel
theorem dX5_add_27 : decode cX5_add 27 = .ok (.iload_n 1, 1) := by decide +kernel
theorem dX5_add_28 : decode cX5_add 28 = .ok (.if_icmp .le 23, 3) := by decide +kernel
theorem dX5_add_31 : decode cX5_add 31 = .ok (.aload_n 0, 1) := by decide +kernel
theorem dX5_add_32 : decode cX5_add 32 = .ok (.getfield 9, 3) := by decide +kernel
theorem dX5_add_35 : decode cX5_add 35 = .ok (.iload_n 2, 1) := by decide +kernel
theorem dX5_add_36 : decode cX5_add 36 = .ok (.aload_n 0, 1) := by decide +kernel
theorem dX5_add_37 : decode cX5_add 37 = .ok (.getfield 9, 3) := by decide +kernel
theorem dX5_add_40 : decode cX5_add 40 = .ok (.iload_n 2, 1) := by decide +kernel
theorem dX5_add_41 : decode cX5_add 41 = .ok (.iconst 1, 1) := by decide +kernel
theorem dX5_add_42 : decode cX5_add 42 = .ok (.isub, 1) := by decide +kernel
theorem dX5_add_43 : decode cX5_add 43 = .ok (.iaload, 1) := by decide +kernel
theorem dX5_add_44 : decode cX5_add 44 = .ok (.iastore, 1) := by decide +kernel
theorem dX5_add_45 : decode cX5_add 45 = .ok (.iinc 2 (-1), 3) := by decide +kernel
theorem dX5_add_48 : decode cX5_add 48 = .ok (.goto (-33), 3) := by decide +kernel
theorem dX5_add_51 : decode cX5_add 51 = .ok (.aload_n 0, 1) := by decide +kernel
theorem dX5_add_52 : decode cX5_add 52 = .ok (.getfield 9, 3) := by decide +kernel
theorem dX5_add_55 : decode cX5_add 55 = .ok (.iload_n 2, 1) := by decide +kernel
theorem dX5_add_56 : decode cX5_add 56 = .ok (.iload_n 1, 1) := by decide +kernel
theorem dX5_add_57 : decode cX5_add 57 = .ok (.iastore, 1) := by decide +kernel
theorem dX5_add_58 : decode cX5_add 58 = .ok (.aload_n 0, 1) := by decide +kernel
theorem dX5_add_59 : decode cX5_add 59 = .ok (.dup, 1) := by decide +kernel
theorem dX5_add_60 : decode cX5_add 60 = .ok (.getfield 15, 3) := by decide +kernel
theorem dX5_add_63 : decode cX5_add 63 = .ok (.iconst 1, 1) := by decide +kernel
theorem dX5_add_64 : decode cX5_add 64 = .ok (.iadd, 1) := by decide +kernel
theorem dX5_add_65 : decode cX5_add 65 = .ok (.putfield 15, 3) := by decide +kernel
theorem dX5_add_68 : decode cX5_add 68 = .ok (.return_, 1) := by decide +kernel
theorem dX5_lowest_0 : decode cX5_lowest 0 = .ok (.aload_n 0, 1) := by decide +kernel
theorem dX5_lowest_1 : decode cX5_lowest 1 = .ok (.getfield 15, 3) := by decide +kernel
theorem dX5_lowest_4 : decode cX5_lowest 4 = .ok (.ifCond .le 12, 3) := by decide +kernel
theorem dX5_lowest_7 : decode cX5_lowest 7 = .ok (.aload_n 0, 1) := by decide +kernel
theorem dX5_lowest_8 : decode cX5_lowest 8 = .ok (.getfield 9, 3) := by decide +kernel
theorem dX5_lowest_11 : decode cX5_lowest 11 = .ok (.iconst 0, 1) := by decide +kernel
theorem dX5_lowest_12 : decode cX5_lowest 12 = .ok (.iaload, 1) := by decide +kernel
theorem dX5_lowest_13 : decode cX5_lowest 13 = .ok (.goto 4, 3) := by decide +kernel
theorem dX5_lowest_16 : decode cX5_lowest 16 = .ok (.iconst 0, 1) := by decide +kernel
theorem dX5_lowest_17 : decode cX5_lowest 17 = .ok (.ireturn, 1) := by decide +kernel
theorem dX5_highest_0 : decode cX5_highest 0 = .ok (.aload_n 0, 1) := by decide +kernel
theorem dX5_highest_1 : decode cX5_highest 1 = .ok (.getfield 15, 3) := by decide +kernel
theorem dX5_highest_4 : decode cX5_highest 4 = .ok (.ifCond .le 17, 3) := by decide +kernel
theorem dX5_highest_7 : decode cX5_highest 7 = .ok (.aload_n 0, 1) := by decide +kernel
theorem dX5_highest_8 : decode cX5_highest 8 = .ok (.getfield 9, 3) := by decide +kernel
theorem dX5_highest_11 : decode cX5_highest 11 = .ok (.aload_n 0, 1) := by decide +kernel
theorem dX5_highest_12 : decode cX5_highest 12 = .ok (.getfield 15, 3) := by decide +kernel
theorem dX5_highest_15 : decode cX5_highest 15 = .ok (.iconst 1, 1) := by decide +kernel
theorem dX5_highest_16 : decode cX5_highest 16 = .ok (.isub, 1) := by decide +kernel
theorem dX5_highest_17 : decode cX5_highest 17 = .ok (.iaload, 1) := by decide +kernel
theorem dX5_highest_18 : decode cX5_highest 18 = .ok (.goto 4, 3) := by decide +kernel
theorem dX5_highest_21 : decode cX5_highest 21 = .ok (.iconst 0, 1) := by decide +kernel
theorem dX5_highest_22 : decode cX5_highest 22 = .ok (.ireturn, 1) := by decide +kernel
theorem dX5_middle_0 : decode cX5_middle 0 = .ok (.aload_n 0, 1) := by decide +kernel
theorem dX5_middle_1 : decode cX5_middle 1 = .ok (.getfield 15, 3) := by decide +kernel
theorem dX5_middle_4 : decode cX5_middle 4 = .ok (.ifCond .le 17, 3) := by decide +kernel
theorem dX5_middle_7 : decode cX5_middle 7 = .ok (.aload_n 0, 1) := by decide +kernel
theorem dX5_middle_8 : decode cX5_middle 8 = .ok (.getfield 9, 3) := by decide +kernel
theorem dX5_middle_11 : decode cX5_middle 11 = .ok (.aload_n 0, 1) := by decide +kernel
theorem dX5_middle_12 : decode cX5_middle 12 = .ok (.getfield 15, 3) := by decide +kernel
theorem dX5_middle_15 : decode cX5_middle 15 = .ok (.iconst 2, 1) := by decide +kernel
theorem dX5_middle_16 : decode cX5_middle 16 = .ok (.idiv, 1) := by decide +kernel
theorem dX5_middle_17 : decode cX5_middle 17 = .ok (.iaload, 1) := by decide +kernel
theorem dX5_middle_18 : decode cX5_middle 18 = .ok (.goto 4, 3) := by decide +kernel
theorem dX5_middle_21 : decode cX5_middle 21 = .ok (.iconst 0, 1) := by decide +kernel
theorem dX5_middle_22 : decode cX5_middle 22 = .ok (.ireturn, 1) := by decide +kernel
theorem dX5_sumBetween_0 : decode cX5_sumBetween 0 = .ok (.iconst 0, 1) := by decide +kernel
theorem dX5_sumBetween_1 : decode cX5_sumBetween 1 = .ok (.istore_n 3, 1) := by decide +kernel
theorem dX5_sumBetween_2 : decode cX5_sumBetween 2 = .ok (.iload_n 1, 1) := by decide +kernel
theorem dX5_sumBetween_3 : decode cX5_sumBetween 3 = .ok (.istore 4, 2) := by decide +kernel
theorem dX5_sumBetween_5 : decode cX5_sumBetween 5 = .ok (.iload 4, 2) := by decide +kernel
theorem dX5_sumBetween_7 : decode cX5_sumBetween 7 = .ok (.aload_n 0, 1) := by decide +kernel
theorem dX5_sumBetween_8 : decode cX5_sumBetween 8 = .ok (.getfield 15, 3) := by decide +kernel
theorem dX5_sumBetween_11 : decode cX5_sumBetween 11 = .ok (.iload_n 2, 1) := by decide +kernel
theorem dX5_sumBetween_12 : decode cX5_sumBetween 12 = .ok (.isub, 1) := by decide +kernel
theorem dX5_sumBetween_13 : decode cX5_sumBetween 13 = .ok (.if_icmp .ge 19, 3) := by decide +kernel
theorem dX5_sumBetween_16 : decode cX5_sumBetween 16 = .ok (.iload_n 3, 1) := by decide +kernel
theorem dX5_sumBetween_17 : decode cX5_sumBetween 17 = .ok (.aload_n 0, 1) := by decide +kernel
theorem dX5_sumBetween_18 : decode cX5_sumBetween 18 = .ok (.getfield 9, 3) := by decide +kernel
theorem dX5_sumBetween_21 : decode cX5_sumBetween 21 = .ok (.iload 4, 2) := by decide +kernel
theorem dX5_sumBetween_23 : decode cX5_sumBetween 23 = .ok (.iaload, 1) := by decide +kernel
theorem dX5_sumBetween_24 : decode cX5_sumBetween 24 = .ok (.iadd, 1) := by decide +kernel
theorem dX5_sumBetween_25 : decode cX5_sumBetween 25 = .ok (.istore_n 3, 1) := by decide +kernel
theorem dX5_sumBetween_26 : decode cX5_sumBetween 26 = .ok (.iinc 4 1, 3) := by decide +kernel
theorem dX5_sumBetween_29 : decode cX5_sumBetween 29 = .ok (.goto (-24), 3) := by decide +kernel
theorem dX5_sumBetween_32 : decode cX5_sumBetween 32 = .ok (.iload_n 3, 1) := by decide +kernel
theorem dX5_sumBetween_33 : decode cX5_sumBetween 33 = .ok (.ireturn, 1) := by decide +kernel
set_option maxRecDepth 20000 in
theorem ggX6_init_X6_append : GoodIn wsX6_init wsX6_append := goodIn_r _ [14, 15, 8, 16, 17, 18, 19, 20, 21] (by decide +kernel) (by decide +kernel)
set_option maxRecDepth 20000 in
theorem gX6_init_X6_append : GoodIn wsX6_init (wsV RX6 28 RX6 yX6_append wsX6_append) := goodIn_app (goodIn_of _ (by decide +kernel)) ggX6_init_X6_append
theorem dX6_init_0 : decode cX6_init 0 = .ok (.aload_n 0, 1) := by decide +kernel
theorem dX6_init_1 : decode cX6_init 1 = .ok (.invokespecial 3, 3) := by decide +kernel
theorem dX6_init_4 : decode cX6_init 4 = .ok (.aload_n 0, 1) := by decide +kernel
theorem dX6_init_5 : decode cX6_init 5 = .ok (.bipush 6, 2) := by decide +kernel
theorem dX6_init_7 : decode cX6_init 7 = .ok (.newarray .int, 2) := by decide +kernel
theorem dX6_init_9 : decode cX6_init 9 = .ok (.putfield 9, 3) := by decide +kernel
theorem dX6_init_12 : decode cX6_init 12 = .ok (.aload_n 0, 1) := by decide +kernel
theorem dX6_init_13 : decode cX6_init 13 = .ok (.iconst 1, 1) := by decide +kernel
theorem dX6_init_14 : decode cX6_init 14 = .ok (.putfield 15, 3) := by decide +kernel
theorem dX6_init_17 : decode cX6_init 17 = .ok (.aload_n 0, 1) := by decide +kernel
theorem dX6_init_18 : decode cX6_init 18 = .ok (.iconst 1, 1) := by decide +kernel
theorem dX6_init_19 : decode cX6_init 19 = .ok (.putfield 19, 3) := by decide +kernel
theorem dX6_init_22 : decode cX6_init 22 = .ok (.aload_n 0, 1) := by decide +kernel
theorem dX6_init_23 : decode cX6_init 23 = .ok (.bipush 120, 2) := by decide +kernel
theorem dX6_init_25 : decode cX6_init 25 = .ok (.newarray .int, 2) := by decide +kernel
theorem dX6_init_27 : decode cX6_init 27 = .ok (.putfield 22, 3) := by decide +kernel
theorem dX6_init_30 : decode cX6_init 30 = .ok (.aload_n 0, 1) := by decide +kernel
theorem dX6_init_31 : decode cX6_init 31 = .ok (.bipush 120, 2) := by decide +kernel
theorem dX6_init_33 : decode cX6_init 33 = .ok (.newarray .int, 2) := by decide +kernel
theorem dX6_init_35 : decode cX6_init 35 = .ok (.putfield 25, 3) := by decide +kernel
theorem dX6_init_38 : decode cX6_init 38 = .ok (.iconst 0, 1) := by decide +kernel
theorem dX6_init_39 : decode cX6_init 39 = .ok (.istore_n 1, 1) := by decide +kernel
theorem dX6_init_40 : decode cX6_init 40 = .ok (.iload_n 1, 1) := by decide +kernel
theorem dX6_init_41 : decode cX6_init 41 = .ok (.bipush 6, 2) := by decide +kernel
theorem dX6_init_43 : decode cX6_init 43 = .ok (.if_icmp .ge 16, 3) := by decide +kernel
theorem dX6_init_46 : decode cX6_init 46 = .ok (.aload_n 0, 1) := by decide +kernel
theorem dX6_init_47 : decode cX6_init 47 = .ok (.getfield 9, 3) := by decide +kernel
theorem dX6_init_50 : decode cX6_init 50 = .ok (.iload_n 1, 1) := by decide +kernel
theorem dX6_init_51 : decode cX6_init 51 = .ok (.iconst 2, 1) := by decide +kernel
theorem dX6_init_52 : decode cX6_init 52 = .ok (.iastore, 1) := by decide +kernel
theorem dX6_init_53 : decode cX6_init 53 = .ok (.iinc 1 1, 3) := by decide +kernel
theorem dX6_init_56 : decode cX6_init 56 = .ok (.goto (-16), 3) := by decide +kernel
theorem dX6_init_59 : decode cX6_init 59 = .ok (.aload_n 0, 1) := by decide +kernel
theorem dX6_init_60 : decode cX6_init 60 = .ok (.bipush (-115), 2) := by decide +kernel
theorem dX6_init_62 : decode cX6_init 62 = .ok (.invokevirtual 28, 3) := by decide +kernel
theorem dX6_init_65 : decode cX6_init 65 = .ok (.aload_n 0, 1) := by decide +kernel
theorem dX6_init_66 : decode cX6_init 66 = .ok (.bipush (-104), 2) := by decide +kernel
theorem dX6_init_68 : decode cX6_init 68 = .ok (.invokevirtual 28, 3) := by decide +kernel
theorem dX6_init_71 : decode cX6_init 71 = .ok (.aload_n 0, 1) := by decide +kernel
theorem dX6_init_72 : decode cX6_init 72 = .ok (.bipush (-42), 2) := by decide +kernel
theorem dX6_init_74 : decode cX6_init 74 = .ok (.invokevirtual 28, 3) := by decide +kernel
theorem dX6_init_77 : decode cX6_init 77 = .ok (.aload_n 0, 1) := by decide +kernel
theorem dX6_init_78 : decode cX6_init 78 = .ok (.bipush 10, 2) := by decide +kernel
theorem dX6_init_80 : decode cX6_init 80 = .ok (.invokevirtual 28, 3) := by decide +kernel
theorem dX6_init_83 : decode cX6_init 83 = .ok (.aload_n 0, 1) := by decide +kernel
theorem dX6_init_84 : decode cX6_init 84 = .ok (.bipush (-47), 2) := by decide +kernel
theorem dX6_init_86 : decode cX6_init 86 = .ok (.invokevirtual 28, 3) := by decide +kernel
theorem dX6_init_89 : decode cX6_init 89 = .ok (.return_, 1) := by decide +kernel
theorem dX6_copyFrom_0 : decode cX6_copyFrom 0 = .ok (.aload_n 1, 1) := by decide +kernel
theorem dX6_copyFrom_1 : decode cX6_copyFrom 1 = .ok (.getfield 9, 3) := by decide +kernel
theorem dX6_copyFrom_4 : decode cX6_copyFrom 4 = .ok (.iconst 0, 1) := by decide +kernel
theorem dX6_copyFrom_5 : decode cX6_copyFrom 5 = .ok (.aload_n 0, 1) := by decide +kernel
theorem dX6_copyFrom_6 : decode cX6_copyFrom 6 = .ok (.getfield 9, 3) := by decide +kernel
theorem dX6_copyFrom_9 : decode cX6_copyFrom 9 = .ok (.iconst 0, 1) := by decide +kernel
theorem dX6_copyFrom_10 : decode cX6_copyFrom 10 = .ok (.bipush 6, 2) := by decide +kernel
theorem dX6_copyFrom_12 : decode cX6_copyFrom 12 = .ok (.invokestatic 32, 3) := by decide +kernel
theorem dX6_copyFrom_15 : decode cX6_copyFrom 15 = .ok (.aload_n 0, 1) := by decide +kernel
theorem dX6_copyFrom_16 : decode cX6_copyFrom 16 = .ok (.aload_n 1, 1) := by decide +kernel
theorem dX6_copyFrom_17 : decode cX6_copyFrom 17 = .ok (.getfield 15, 3) := by decide +kernel
theorem dX6_copyFrom_20 : decode cX6_copyFrom 20 = .ok (.putfield 15, 3) := by decide +kernel
theorem dX6_copyFrom_23 : decode cX6_copyFrom 23 = .ok (.aload_n 0, 1) := by decide +kernel
theorem dX6_copyFrom_24 : decode cX6_copyFrom 24 = .ok (.aload_n 1, 1) := by decide +kernel
theorem dX6_copyFrom_25 : decode cX6_copyFrom 25 = .ok (.getfield 19, 3) := by decide +kernel
theorem dX6_copyFrom_28 : decode cX6_copyFrom 28 = .ok (.putfield 19, 3) := by decide +kernel
theorem dX6_copyFrom_31 : decode cX6_copyFrom 31 = .ok (.aload_n 1, 1) := by decide +kernel
theorem dX6_copyFrom_32 : decode cX6_copyFrom 32 = .ok (.getfield 22, 3) := by decide +kernel
theorem dX6_copyFrom_35 : decode cX6_copyFrom 35 = .ok (.iconst 0, 1) := by decide +kernel
theorem dX6_copyFrom_36 : decode cX6_copyFrom 36 = .ok (.aload_n 0, 1) := by decide +kernel
theorem dX6_copyFrom_37 : decode cX6_copyFrom 37 = .ok (.getfield 22, 3) := by decide +kernel
theorem dX6_copyFrom_40 : decode cX6_copyFrom 40 = .ok (.iconst 0, 1) := by decide +kernel
theorem dX6_copyFrom_41 : decode cX6_copyFrom 41 = .ok (.bipush 120, 2) := by decide +kernel
theorem dX6_copyFrom_43 : decode cX6_copyFrom 43 = .ok (.invokestatic 32, 3) := by decide +kernel
theorem dX6_copyFrom_46 : decode cX6_copyFrom 46 = .ok (.aload_n 0, 1) := by decide +kernel
theorem dX6_copyFrom_47 : decode cX6_copyFrom 47 = .ok (.aload_n 1, 1) := by decide +kernel
theorem dX6_copyFrom_48 : decode cX6_copyFrom 48 = .ok (.getfield 38, 3) := by decide +kernel
theorem dX6_copyFrom_51 : decode cX6_copyFrom 51 = .ok (.putfield 38, 3) := by decide +kernel
theorem dX6_copyFrom_54 : decode cX6_copyFrom 54 = .ok (.return_, 1) := by decide +kernel
theorem dX6_forgetSum_0 : decode cX6_forgetSum 0 = .ok (.aload_n 0, 1) := by decide +kernel
theorem dX6_forgetSum_1 : decode cX6_forgetSum 1 = .ok (.iconst 0, 1) := by decide +kernel
theorem dX6_forgetSum_2 : decode cX6_forgetSum 2 = .ok (.putfield 38, 3) := by decide +kernel
theorem dX6_forgetSum_5 : decode cX6_forgetSum 5 = .ok (.return_, 1) := by decide +kernel
theorem dX6_append_0 : decode cX6_append 0 = .ok (.aload_n 0, 1) := by decide +kernel
theorem dX6_append_1 : decode cX6_append 1 = .ok (.getfield 38, 3) := by decide +kernel
theorem dX6_append_4 : decode cX6_append 4 = .ok (.bipush 120, 2) := by decide +kernel
theorem dX6_append_6 : decode cX6_append 6 = .ok (.if_icmp .ge 23, 3) := by decide +kernel
theorem dX6_append_9 : decode cX6_append 9 = .ok (.aload_n 0, 1) := by decide +kernel
theorem dX6_append_10 : decode cX6_append 10 = .ok (.getfield 22, 3) := by decide +kernel
theorem dX6_append_13 : decode cX6_append 13 = .ok (.aload_n 0, 1) := by decide +kernel
theorem dX6_append_14 : decode cX6_append 14 = .ok (.getfield 38, 3) := by decide +kernel
theorem dX6_append_17 : decode cX6_append 17 = .ok (.iload_n 1, 1) := by decide +kernel
theorem dX6_append_18 : decode cX6_append 18 = .ok (.iastore, 1) := by decide +kernel
theorem dX6_append_19 : decode cX6_append 19 = .ok (.aload_n 0, 1) := by decide +kernel
theorem dX6_append_20 : decode cX6_append 20 = .ok (.dup, 1) := by decide +kernel
theorem dX6_append_21 : decode cX6_append 21 = .ok (.getfield 38, 3) := by decide +kernel
theorem dX6_append_24 : decode cX6_append 24 = .ok (.iconst 1, 1) := by decide +kernel
theorem dX6_append_25 : decode cX6_append 25 = .ok (.iadd, 1) := by decide +kernel
theorem dX6_append_26 : decode cX6_append 26 = .ok (.putfield 38, 3) := by decide +kernel
theorem dX6_append_29 : decode cX6_append 29 = .ok (.return_, 1) := by decide +kernel
theorem dX6_offFor_0 : decode cX6_offFor 0 = .ok (.iconst 0, 1) := by decide +kernel
theorem dX6_offFor_1 : decode cX6_offFor 1 = .ok (.istore_n 2, 1) := by decide +kernel
theorem dX6_offFor_2 : decode cX6_offFor 2 = .ok (.iconst 0, 1) := by decide +kernel
theorem dX6_offFor_3 : decode cX6_offFor 3 = .ok (.istore_n 3, 1) := by decide +kernel
theorem dX6_offFor_4 : decode cX6_offFor 4 = .ok (.iload_n 3, 1) := by decide +kernel
theorem dX6_offFor_5 : decode cX6_offFor 5 = .ok (.bipush 6, 2) := by decide +kernel
theorem dX6_offFor_7 : decode cX6_offFor 7 = .ok (.if_icmp .ge 26, 3) := by decide +kernel
theorem dX6_offFor_10 : decode cX6_offFor 10 = .ok (.iload_n 1, 1) := by decide +kernel
theorem dX6_offFor_11 : decode cX6_offFor 11 = .ok (.iload_n 3, 1) := by decide +kernel
theorem dX6_offFor_12 : decode cX6_offFor 12 = .ok (.ishr, 1) := by decide +kernel
theorem dX6_offFor_13 : decode cX6_offFor 13 = .ok (.iconst 1, 1) := by decide +kernel
theorem dX6_offFor_14 : decode cX6_offFor 14 = .ok (.iand, 1) := by decide +kernel
theorem dX6_offFor_15 : decode cX6_offFor 15 = .ok (.ifCond .eq 12, 3) := by decide +kernel
theorem dX6_offFor_18 : decode cX6_offFor 18 = .ok (.iload_n 2, 1) := by decide +kernel
theorem dX6_offFor_19 : decode cX6_offFor 19 = .ok (.aload_n 0, 1) := by decide +kernel
theorem dX6_offFor_20 : decode cX6_offFor 20 = .ok (.getfield 9, 3) := by decide +kernel
theorem dX6_offFor_23 : decode cX6_offFor 23 = .ok (.iload_n 3, 1) := by decide +kernel
theorem dX6_offFor_24 : decode cX6_offFor 24 = .ok (.iaload, 1) := by decide +kernel
theorem dX6_offFor_25 : decode cX6_offFor 25 = .ok (.iadd, 1) := by decide +kernel
theorem dX6_offFor_26 : decode cX6_offFor 26 = .ok (.istore_n 2, 1) := by decide +kernel
theorem dX6_offFor_27 : decode cX6_offFor 27 = .ok (.iinc 3 1, 3) := by decide +kernel
theorem dX6_offFor_30 : decode cX6_offFor 30 = .ok (.goto (-26), 3) := by decide +kernel
theorem dX6_offFor_33 : decode cX6_offFor 33 = .ok (.iload_n 2, 1) := by decide +kernel
theorem dX6_offFor_34 : decode cX6_offFor 34 = .ok (.ireturn, 1) := by decide +kernel
set_option maxRecDepth 20000 in
theorem ggX6_countFor_X6_isWorking : GoodIn wsX6_countFor wsX6_isWorking := goodIn_r _ [10] (by decide +kernel) (by decide +kernel)
set_option maxRecDepth 20000 in
theorem gX6_countFor_X6_isWorking : GoodIn wsX6_countFor (va_wsS RX6 46 yX6_isWorking wsX6_isWorking) := goodIn_app (goodIn_of _ (by decide +kernel)) ggX6_countFor_X6_isWorking
set_option maxRecDepth 20000 in
theorem ggX6_countFor_X6_fieldOf : GoodIn wsX6_countFor wsX6_fieldOf := goodIn_r _ [14, 3, 2, 1, 15, 16, 17, 18, 19, 20, 21, 22, 23, 24, 25, 26, 27, 28, 29, 30, 31, 32, 33, 34, 35, 48, 49, 50, 51, 52, 53, 46, 47, 54, 55, 56, 57, 58, 59, 60] (by decide +kernel) (by decide +kernel)
set_option maxRecDepth 20000 in
theorem gX6_countFor_X6_fieldOf : GoodIn wsX6_countFor (wsV RX6 50 RX6 yX6_fieldOf wsX6_fieldOf) := goodIn_app (goodIn_of _ (by decide +kernel)) ggX6_countFor_X6_fieldOf
set_option maxRecDepth 20000 in
theorem ggX6_countFor_X6_worked : GoodIn wsX6_countFor wsX6_worked := goodIn_r _ [38, 39, 40, 41, 42, 43, 44, 45] (by decide +kernel) (by decide +kernel)
set_option maxRecDepth 20000 in
theorem gX6_countFor_X6_worked : GoodIn wsX6_countFor (va_wsS RX6 54 yX6_worked wsX6_worked) := goodIn_app (goodIn_of _ (by decide +kernel)) ggX6_countFor_X6_worked
theorem dX6_countFor_0 : decode cX6_countFor 0 = .ok (.aload_n 1, 1) := by decide +kernel
theorem dX6_countFor_1 : decode cX6_countFor 1 = .ok (.getfield 41, 3) := by decide +kernel
theorem dX6_countFor_4 : decode cX6_countFor 4 = .ok (.aload_n 0, 1) := by decide +kernel
theorem dX6_countFor_5 : decode cX6_countFor 5 = .ok (.getfield 15, 3) := by decide +kernel
theorem dX6_countFor_8 : decode cX6_countFor 8 = .ok (.aload_n 0, 1) := by decide +kernel
theorem dX6_countFor_9 : decode cX6_countFor 9 = .ok (.getfield 19, 3) := by decide +kernel
theorem dX6_countFor_12 : decode cX6_countFor 12 = .ok (.iadd, 1) := by decide +kernel
theorem dX6_countFor_13 : decode cX6_countFor 13 = .ok (.iconst 1, 1) := by decide +kernel
theorem dX6_countFor_14 : decode cX6_countFor 14 = .ok (.iadd, 1) := by decide +kernel
theorem dX6_countFor_15 : decode cX6_countFor 15 = .ok (.if_icmp .ge 5, 3) := by decide +kernel
theorem dX6_countFor_18 : decode cX6_countFor 18 = .ok (.iconst 0, 1) := by decide +kernel
theorem dX6_countFor_19 : decode cX6_countFor 19 = .ok (.ireturn, 1) := by decide +kernel
theorem dX6_countFor_20 : decode cX6_countFor 20 = .ok (.iconst 0, 1) := by decide +kernel
theorem dX6_countFor_21 : decode cX6_countFor 21 = .ok (.istore_n 3, 1) := by decide +kernel
theorem dX6_countFor_22 : decode cX6_countFor 22 = .ok (.iconst 0, 1) := by decide +kernel
theorem dX6_countFor_23 : decode cX6_countFor 23 = .ok (.istore 4, 2) := by decide +kernel
theorem dX6_countFor_25 : decode cX6_countFor 25 = .ok (.iload 4, 2) := by decide +kernel
theorem dX6_countFor_27 : decode cX6_countFor 27 = .ok (.aload_n 0, 1) := by decide +kernel
theorem dX6_countFor_28 : decode cX6_countFor 28 = .ok (.getfield 38, 3) := by decide +kernel
theorem dX6_countFor_31 : decode cX6_countFor 31 = .ok (.if_icmp .ge 100, 3) := by decide +kernel
theorem dX6_countFor_34 : decode cX6_countFor 34 = .ok (.aload_n 0, 1) := by decide +kernel
theorem dX6_countFor_35 : decode cX6_countFor 35 = .ok (.getfield 22, 3) := by decide +kernel
theorem dX6_countFor_38 : decode cX6_countFor 38 = .ok (.iload 4, 2) := by decide +kernel
theorem dX6_countFor_40 : decode cX6_countFor 40 = .ok (.iaload, 1) := by decide +kernel
theorem dX6_countFor_41 : decode cX6_countFor 41 = .ok (.istore 5, 2) := by decide +kernel
theorem dX6_countFor_43 : decode cX6_countFor 43 = .ok (.iload 5, 2) := by decide +kernel
theorem dX6_countFor_45 : decode cX6_countFor 45 = .ok (.ineg, 1) := by decide +kernel
theorem dX6_countFor_46 : decode cX6_countFor 46 = .ok (.invokestatic 46, 3) := by decide +kernel
theorem dX6_countFor_49 : decode cX6_countFor 49 = .ok (.ifCond .ne 40, 3) := by decide +kernel
theorem dX6_countFor_52 : decode cX6_countFor 52 = .ok (.iload_n 3, 1) := by decide +kernel
theorem dX6_countFor_53 : decode cX6_countFor 53 = .ok (.bipush 120, 2) := by decide +kernel
theorem dX6_countFor_55 : decode cX6_countFor 55 = .ok (.if_icmp .ge 70, 3) := by decide +kernel
theorem dX6_countFor_58 : decode cX6_countFor 58 = .ok (.aload_n 0, 1) := by decide +kernel
theorem dX6_countFor_59 : decode cX6_countFor 59 = .ok (.getfield 25, 3) := by decide +kernel
theorem dX6_countFor_62 : decode cX6_countFor 62 = .ok (.iload_n 3, 1) := by decide +kernel
theorem dX6_countFor_63 : decode cX6_countFor 63 = .ok (.iload 5, 2) := by decide +kernel
theorem dX6_countFor_65 : decode cX6_countFor 65 = .ok (.ifCond .lt 8, 3) := by decide +kernel
theorem dX6_countFor_68 : decode cX6_countFor 68 = .ok (.iload 5, 2) := by decide +kernel
theorem dX6_countFor_70 : decode cX6_countFor 70 = .ok (.goto 12, 3) := by decide +kernel
theorem dX6_countFor_73 : decode cX6_countFor 73 = .ok (.aload_n 0, 1) := by decide +kernel
theorem dX6_countFor_74 : decode cX6_countFor 74 = .ok (.iload 5, 2) := by decide +kernel
theorem dX6_countFor_76 : decode cX6_countFor 76 = .ok (.ineg, 1) := by decide +kernel
theorem dX6_countFor_77 : decode cX6_countFor 77 = .ok (.aload_n 1, 1) := by decide +kernel
theorem dX6_countFor_78 : decode cX6_countFor 78 = .ok (.aload_n 2, 1) := by decide +kernel
theorem dX6_countFor_79 : decode cX6_countFor 79 = .ok (.invokevirtual 50, 3) := by decide +kernel
theorem dX6_countFor_82 : decode cX6_countFor 82 = .ok (.iastore, 1) := by decide +kernel
theorem dX6_countFor_83 : decode cX6_countFor 83 = .ok (.iinc 3 1, 3) := by decide +kernel
theorem dX6_countFor_86 : decode cX6_countFor 86 = .ok (.goto 39, 3) := by decide +kernel
theorem dX6_countFor_89 : decode cX6_countFor 89 = .ok (.iload_n 3, 1) := by decide +kernel
theorem dX6_countFor_90 : decode cX6_countFor 90 = .ok (.iconst 2, 1) := by decide +kernel
theorem dX6_countFor_91 : decode cX6_countFor 91 = .ok (.if_icmp .lt 34, 3) := by decide +kernel
theorem dX6_countFor_94 : decode cX6_countFor 94 = .ok (.iinc 3 (-1), 3) := by decide +kernel
theorem dX6_countFor_97 : decode cX6_countFor 97 = .ok (.aload_n 0, 1) := by decide +kernel
theorem dX6_countFor_98 : decode cX6_countFor 98 = .ok (.getfield 25, 3) := by decide +kernel
theorem dX6_countFor_101 : decode cX6_countFor 101 = .ok (.iload_n 3, 1) := by decide +kernel
theorem dX6_countFor_102 : decode cX6_countFor 102 = .ok (.iconst 1, 1) := by decide +kernel
theorem dX6_countFor_103 : decode cX6_countFor 103 = .ok (.isub, 1) := by decide +kernel
theorem dX6_countFor_104 : decode cX6_countFor 104 = .ok (.iload 5, 2) := by decide +kernel
theorem dX6_countFor_106 : decode cX6_countFor 106 = .ok (.ineg, 1) := by decide +kernel
theorem dX6_countFor_107 : decode cX6_countFor 107 = .ok (.aload_n 0, 1) := by decide +kernel
theorem dX6_countFor_108 : decode cX6_countFor 108 = .ok (.getfield 25, 3) := by decide +kernel
theorem dX6_countFor_111 : decode cX6_countFor 111 = .ok (.iload_n 3, 1) := by decide +kernel
theorem dX6_countFor_112 : decode cX6_countFor 112 = .ok (.iconst 1, 1) := by decide +kernel
theorem dX6_countFor_113 : decode cX6_countFor 113 = .ok (.isub, 1) := by decide +kernel
theorem dX6_countFor_114 : decode cX6_countFor 114 = .ok (.iaload, 1) := by decide +kernel
theorem dX6_countFor_115 : decode cX6_countFor 115 = .ok (.aload_n 0, 1) := by decide +kernel
theorem dX6_countFor_116 : decode cX6_countFor 116 = .ok (.getfield 25, 3) := by decide +kernel
theorem dX6_countFor_119 : decode cX6_countFor 119 = .ok (.iload_n 3, 1) := by decide +kernel
theorem dX6_countFor_120 : decode cX6_countFor 120 = .ok (.iaload, 1) := by decide +kernel
theorem dX6_countFor_121 : decode cX6_countFor 121 = .ok (.invokestatic 54, 3) := by decide +kernel
theorem dX6_countFor_124 : decode cX6_countFor 124 = .ok (.iastore, 1) := by decide +kernel
theorem dX6_countFor_125 : decode cX6_countFor 125 = .ok (.iinc 4 1, 3) := by decide +kernel
theorem dX6_countFor_128 : decode cX6_countFor 128 = .ok (.goto (-103), 3) := by decide +kernel
theorem dX6_countFor_131 : decode cX6_countFor 131 = .ok (.aload_n 0, 1) := by decide +kernel
theorem dX6_countFor_132 : decode cX6_countFor 132 = .ok (.getfield 25, 3) := by decide +kernel
theorem dX6_countFor_135 : decode cX6_countFor 135 = .ok (.iconst 0, 1) := by decide +kernel
theorem dX6_countFor_136 : decode cX6_countFor 136 = .ok (.iaload, 1) := by decide +kernel
theorem dX6_countFor_137 : decode cX6_countFor 137 = .ok (.ireturn, 1) := by decide +kernel
theorem dX6_isWorking_0 : decode cX6_isWorking 0 = .ok (.iload_n 0, 1) := by decide +kernel
theorem dX6_isWorking_1 : decode cX6_isWorking 1 = .ok (.lookupswitch 61 #[(42, 59), (43, 59), (45, 59), (47, 59), (91, 59), (123, 59)], 59) := by decide +kernel
theorem dX6_isWorking_60 : decode cX6_isWorking 60 = .ok (.iconst 1, 1) := by decide +kernel
theorem dX6_isWorking_61 : decode cX6_isWorking 61 = .ok (.ireturn, 1) := by decide +kernel
theorem dX6_isWorking_62 : decode cX6_isWorking 62 = .ok (.iconst 0, 1) := by decide +kernel
theorem dX6_isWorking_63 : decode cX6_isWorking 63 = .ok (.ireturn, 1) := by decide +kernel
theorem dX6_worked_0 : decode cX6_worked 0 = .ok (.iload_n 0, 1) := by decide +kernel
theorem dX6_worked_1 : decode cX6_worked 1 = .ok (.lookupswitch 81 #[(42, 59), (43, 51), (45, 55), (47, 63), (91, 75)], 51) := by decide +kernel
theorem dX6_worked_52 : decode cX6_worked 52 = .ok (.iload_n 1, 1) := by decide +kernel
theorem dX6_worked_53 : decode cX6_worked 53 = .ok (.iload_n 2, 1) := by decide +kernel
theorem dX6_worked_54 : decode cX6_worked 54 = .ok (.iadd, 1) := by decide +kernel
theorem dX6_worked_55 : decode cX6_worked 55 = .ok (.ireturn, 1) := by decide +kernel
theorem dX6_worked_56 : decode cX6_worked 56 = .ok (.iload_n 1, 1) := by decide +kernel
theorem dX6_worked_57 : decode cX6_worked 57 = .ok (.iload_n 2, 1) := by decide +kernel
theorem dX6_worked_58 : decode cX6_worked 58 = .ok (.isub, 1) := by decide +kernel
theorem dX6_worked_59 : decode cX6_worked 59 = .ok (.ireturn, 1) := by decide +kernel
theorem dX6_worked_60 : decode cX6_worked 60 = .ok (.iload_n 1, 1) := by decide +kernel
theorem dX6_worked_61 : decode cX6_worked 61 = .ok (.iload_n 2, 1) := by decide +kernel
theorem dX6_worked_62 : decode cX6_worked 62 = .ok (.imul, 1) := by decide +kernel
theorem dX6_worked_63 : decode cX6_worked 63 = .ok (.ireturn, 1) := by decide +kernel
theorem dX6_worked_64 : decode cX6_worked 64 = .ok (.iload_n 2, 1) := by decide +kernel
theorem dX6_worked_65 : decode cX6_worked 65 = .ok (.ifCond .ne 7, 3) := by decide +kernel
theorem dX6_worked_68 : decode cX6_worked 68 = .ok (.iconst 0, 1) := by decide +kernel
theorem dX6_worked_69 : decode cX6_worked 69 = .ok (.goto 6, 3) := by decide +kernel
theorem dX6_worked_72 : decode cX6_worked 72 = .ok (.iload_n 1, 1) := by decide +kernel
theorem dX6_worked_73 : decode cX6_worked 73 = .ok (.iload_n 2, 1) := by decide +kernel
theorem dX6_worked_74 : decode cX6_worked 74 = .ok (.idiv, 1) := by decide +kernel
theorem dX6_worked_75 : decode cX6_worked 75 = .ok (.ireturn, 1) := by decide +kernel
theorem dX6_worked_76 : decode cX6_worked 76 = .ok (.iload_n 1, 1) := by decide +kernel
theorem dX6_worked_77 : decode cX6_worked 77 = .ok (.iload_n 2, 1) := by decide +kernel
theorem dX6_worked_78 : decode cX6_worked 78 = .ok (.invokestatic 58, 3) := by decide +kernel
theorem dX6_worked_81 : decode cX6_worked 81 = .ok (.ireturn, 1) := by decide +kernel
theorem dX6_worked_82 : decode cX6_worked 82 = .ok (.iload_n 1, 1) := by decide +kernel
theorem dX6_worked_83 : decode cX6_worked 83 = .ok (.iload_n 2, 1) := by decide +kernel
theorem dX6_worked_84 : decode cX6_worked 84 = .ok (.invokestatic 64, 3) := by decide +kernel
theorem dX6_worked_87 : decode cX6_worked 87 = .ok (.ireturn, 1) := by decide +kernel
set_option maxRecDepth 20000 in
theorem ggX6_fieldOf_X5_sumBetween : GoodIn wsX6_fieldOf wsX5_sumBetween := goodIn_r _ [10, 11, 12, 31, 32] (by decide +kernel) (by decide +kernel)
set_option maxRecDepth 20000 in
theorem gX6_fieldOf_X5_sumBetween : GoodIn wsX6_fieldOf (wsV RX6 67 RX5 yX5_sumBetween wsX5_sumBetween) := goodIn_app (goodIn_of _ (by decide +kernel)) ggX6_fieldOf_X5_sumBetween
set_option maxRecDepth 20000 in
theorem ggX6_fieldOf_X5_middle : GoodIn wsX6_fieldOf wsX5_middle := goodIn_r _ [16, 11, 12, 31, 32] (by decide +kernel) (by decide +kernel)
set_option maxRecDepth 20000 in
theorem gX6_fieldOf_X5_middle : GoodIn wsX6_fieldOf (wsV RX6 75 RX5 yX5_middle wsX5_middle) := goodIn_app (goodIn_of _ (by decide +kernel)) ggX6_fieldOf_X5_middle
set_option maxRecDepth 20000 in
theorem ggX6_fieldOf_X5_highest : GoodIn wsX6_fieldOf wsX5_highest := goodIn_r _ [20, 11, 12, 31, 32] (by decide +kernel) (by decide +kernel)
set_option maxRecDepth 20000 in
theorem gX6_fieldOf_X5_highest : GoodIn wsX6_fieldOf (wsV RX6 79 RX5 yX5_highest wsX5_highest) := goodIn_app (goodIn_of _ (by decide +kernel)) ggX6_fieldOf_X5_highest
set_option maxRecDepth 20000 in
theorem ggX6_fieldOf_X5_lowest : GoodIn wsX6_fieldOf wsX5_lowest := goodIn_r _ [24, 11, 12, 31, 32] (by decide +kernel) (by decide +kernel)
set_option maxRecDepth 20000 in
theorem gX6_fieldOf_X5_lowest : GoodIn wsX6_fieldOf (wsV RX6 82 RX5 yX5_lowest wsX5_lowest) := goodIn_app (goodIn_of _ (by decide +kernel)) ggX6_fieldOf_X5_lowest
theorem dX6_fieldOf_0 : decode cX6_fieldOf 0 = .ok (.iload_n 1, 1) := by decide +kernel
theorem dX6_fieldOf_1 : decode cX6_fieldOf 1 = .ok (.lookupswitch 107 #[(97, 97), (104, 87), (109, 92), (110, 72), (115, 59), (122, 102)], 59) := by decide +kernel
theorem dX6_fieldOf_60 : decode cX6_fieldOf 60 = .ok (.aload_n 2, 1) := by decide +kernel
theorem dX6_fieldOf_61 : decode cX6_fieldOf 61 = .ok (.aload_n 0, 1) := by decide +kernel
theorem dX6_fieldOf_62 : decode cX6_fieldOf 62 = .ok (.getfield 19, 3) := by decide +kernel
theorem dX6_fieldOf_65 : decode cX6_fieldOf 65 = .ok (.aload_n 0, 1) := by decide +kernel
theorem dX6_fieldOf_66 : decode cX6_fieldOf 66 = .ok (.getfield 15, 3) := by decide +kernel
theorem dX6_fieldOf_69 : decode cX6_fieldOf 69 = .ok (.invokevirtual 67, 3) := by decide +kernel
theorem dX6_fieldOf_72 : decode cX6_fieldOf 72 = .ok (.ireturn, 1) := by decide +kernel
theorem dX6_fieldOf_73 : decode cX6_fieldOf 73 = .ok (.aload_n 2, 1) := by decide +kernel
theorem dX6_fieldOf_74 : decode cX6_fieldOf 74 = .ok (.getfield 41, 3) := by decide +kernel
theorem dX6_fieldOf_77 : decode cX6_fieldOf 77 = .ok (.aload_n 0, 1) := by decide +kernel
theorem dX6_fieldOf_78 : decode cX6_fieldOf 78 = .ok (.getfield 19, 3) := by decide +kernel
theorem dX6_fieldOf_81 : decode cX6_fieldOf 81 = .ok (.isub, 1) := by decide +kernel
theorem dX6_fieldOf_82 : decode cX6_fieldOf 82 = .ok (.aload_n 0, 1) := by decide +kernel
theorem dX6_fieldOf_83 : decode cX6_fieldOf 83 = .ok (.getfield 15, 3) := by decide +kernel
theorem dX6_fieldOf_86 : decode cX6_fieldOf 86 = .ok (.isub, 1) := by decide +kernel
theorem dX6_fieldOf_87 : decode cX6_fieldOf 87 = .ok (.ireturn, 1) := by decide +kernel
theorem dX6_fieldOf_88 : decode cX6_fieldOf 88 = .ok (.aload_n 3, 1) := by decide +kernel
theorem dX6_fieldOf_89 : decode cX6_fieldOf 89 = .ok (.getfield 70, 3) := by decide +kernel
theorem dX6_fieldOf_92 : decode cX6_fieldOf 92 = .ok (.ireturn, 1) := by decide +kernel
theorem dX6_fieldOf_93 : decode cX6_fieldOf 93 = .ok (.aload_n 2, 1) := by decide +kernel
theorem dX6_fieldOf_94 : decode cX6_fieldOf 94 = .ok (.invokevirtual 75, 3) := by decide +kernel
theorem dX6_fieldOf_97 : decode cX6_fieldOf 97 = .ok (.ireturn, 1) := by decide +kernel
theorem dX6_fieldOf_98 : decode cX6_fieldOf 98 = .ok (.aload_n 2, 1) := by decide +kernel
theorem dX6_fieldOf_99 : decode cX6_fieldOf 99 = .ok (.invokevirtual 79, 3) := by decide +kernel
theorem dX6_fieldOf_102 : decode cX6_fieldOf 102 = .ok (.ireturn, 1) := by decide +kernel
theorem dX6_fieldOf_103 : decode cX6_fieldOf 103 = .ok (.aload_n 2, 1) := by decide +kernel
theorem dX6_fieldOf_104 : decode cX6_fieldOf 104 = .ok (.invokevirtual 82, 3) := by decide +kernel
theorem dX6_fieldOf_107 : decode cX6_fieldOf 107 = .ok (.ireturn, 1) := by decide +kernel
theorem dX6_fieldOf_108 : decode cX6_fieldOf 108 = .ok (.aload_n 3, 1) := by decide +kernel
theorem dX6_fieldOf_109 : decode cX6_fieldOf 109 = .ok (.getfield 85, 3) := by decide +kernel
theorem dX6_fieldOf_112 : decode cX6_fieldOf 112 = .ok (.ireturn, 1) := by decide +kernel
set_option maxRecDepth 20000 in
theorem ggX7_init_X6_init : GoodIn wsX7_init wsX6_init := goodIn_r _ [12, 13, 2, 3, 8, 14, 15, 16, 17, 18, 19, 20, 21, 6, 22, 23, 24, 25, 26, 27, 28, 29] (by decide +kernel) (by decide +kernel)
set_option maxRecDepth 20000 in
theorem gX7_init_X6_init : GoodIn wsX7_init (wsX6_init) := ggX7_init_X6_init
theorem dX7_init_0 : decode cX7_init 0 = .ok (.aload_n 0, 1) := by decide +kernel
theorem dX7_init_1 : decode cX7_init 1 = .ok (.invokespecial 3, 3) := by decide +kernel
theorem dX7_init_4 : decode cX7_init 4 = .ok (.aload_n 0, 1) := by decide +kernel
theorem dX7_init_5 : decode cX7_init 5 = .ok (.new 9, 3) := by decide +kernel
theorem dX7_init_8 : decode cX7_init 8 = .ok (.dup, 1) := by decide +kernel
theorem dX7_init_9 : decode cX7_init 9 = .ok (.invokespecial 11, 3) := by decide +kernel
theorem dX7_init_12 : decode cX7_init 12 = .ok (.putfield 12, 3) := by decide +kernel
theorem dX7_init_15 : decode cX7_init 15 = .ok (.aload_n 0, 1) := by decide +kernel
theorem dX7_init_16 : decode cX7_init 16 = .ok (.iconst 0, 1) := by decide +kernel
theorem dX7_init_17 : decode cX7_init 17 = .ok (.newarray .int, 2) := by decide +kernel
theorem dX7_init_19 : decode cX7_init 19 = .ok (.putfield 18, 3) := by decide +kernel
theorem dX7_init_22 : decode cX7_init 22 = .ok (.return_, 1) := by decide +kernel
set_option maxRecDepth 20000 in
theorem ggX7_read_X6_copyFrom : GoodIn wsX7_read wsX6_copyFrom := goodIn_r _ [17, 18, 19, 20, 21, 22, 23, 24, 25, 26, 101, 102, 103, 104, 105, 106] (by decide +kernel) (by decide +kernel)
set_option maxRecDepth 20000 in
theorem gX7_read_X6_copyFrom : GoodIn wsX7_read (wsV RX7 22 RX6 yX6_copyFrom wsX6_copyFrom) := goodIn_app (goodIn_of _ (by decide +kernel)) ggX7_read_X6_copyFrom
set_option maxRecDepth 20000 in
theorem ggX7_read_X7_readStatement : GoodIn wsX7_read wsX7_readStatement := goodIn_r _ [31, 10, 1, 11, 32, 33, 34, 30, 35, 9, 3, 36, 37, 38, 39, 40, 41, 42, 43, 44, 45, 46, 47, 48, 49, 50, 51, 52, 53, 54, 55, 56, 57, 58, 59, 12, 60, 61, 62, 63, 64, 65, 66, 67, 68, 16, 69, 26, 70, 71, 72, 73, 74, 75, 76, 77, 78, 79, 80, 25, 81, 82, 83, 84, 85, 86, 87, 88, 89, 90, 91, 92, 93, 94, 95, 101, 102, 103, 104, 105, 106] (by decide +kernel) (by decide +kernel)
set_option maxRecDepth 20000 in
theorem gX7_read_X7_readStatement : GoodIn wsX7_read (wsV RX7 52 RX7 yX7_readStatement wsX7_readStatement) := goodIn_app (goodIn_of _ (by decide +kernel)) ggX7_read_X7_readStatement
theorem dX7_read_0 : decode cX7_read 0 = .ok (.aload_n 0, 1) := by decide +kernel
theorem dX7_read_1 : decode cX7_read 1 = .ok (.getfield 12, 3) := by decide +kernel
theorem dX7_read_4 : decode cX7_read 4 = .ok (.aload_n 2, 1) := by decide +kernel
theorem dX7_read_5 : decode cX7_read 5 = .ok (.invokevirtual 22, 3) := by decide +kernel
theorem dX7_read_8 : decode cX7_read 8 = .ok (.aload_n 0, 1) := by decide +kernel
theorem dX7_read_9 : decode cX7_read 9 = .ok (.aload_n 1, 1) := by decide +kernel
theorem dX7_read_10 : decode cX7_read 10 = .ok (.getfield 26, 3) := by decide +kernel
theorem dX7_read_13 : decode cX7_read 13 = .ok (.putfield 18, 3) := by decide +kernel
theorem dX7_read_16 : decode cX7_read 16 = .ok (.aload_n 0, 1) := by decide +kernel
theorem dX7_read_17 : decode cX7_read 17 = .ok (.aload_n 1, 1) := by decide +kernel
theorem dX7_read_18 : decode cX7_read 18 = .ok (.getfield 31, 3) := by decide +kernel
theorem dX7_read_21 : decode cX7_read 21 = .ok (.aload_n 0, 1) := by decide +kernel
theorem dX7_read_22 : decode cX7_read 22 = .ok (.getfield 18, 3) := by decide +kernel
theorem dX7_read_25 : decode cX7_read 25 = .ok (.arraylength, 1) := by decide +kernel
theorem dX7_read_26 : decode cX7_read 26 = .ok (.invokestatic 35, 3) := by decide +kernel
theorem dX7_read_29 : decode cX7_read 29 = .ok (.putfield 41, 3) := by decide +kernel
theorem dX7_read_32 : decode cX7_read 32 = .ok (.aload_n 0, 1) := by decide +kernel
theorem dX7_read_33 : decode cX7_read 33 = .ok (.iconst 0, 1) := by decide +kernel
theorem dX7_read_34 : decode cX7_read 34 = .ok (.putfield 42, 3) := by decide +kernel
theorem dX7_read_37 : decode cX7_read 37 = .ok (.aload_n 0, 1) := by decide +kernel
theorem dX7_read_38 : decode cX7_read 38 = .ok (.iconst 0, 1) := by decide +kernel
theorem dX7_read_39 : decode cX7_read 39 = .ok (.putfield 45, 3) := by decide +kernel
theorem dX7_read_42 : decode cX7_read 42 = .ok (.aload_n 0, 1) := by decide +kernel
theorem dX7_read_43 : decode cX7_read 43 = .ok (.bipush (-4), 2) := by decide +kernel
theorem dX7_read_45 : decode cX7_read 45 = .ok (.putfield 49, 3) := by decide +kernel
theorem dX7_read_48 : decode cX7_read 48 = .ok (.iconst 0, 1) := by decide +kernel
theorem dX7_read_49 : decode cX7_read 49 = .ok (.istore_n 3, 1) := by decide +kernel
theorem dX7_read_50 : decode cX7_read 50 = .ok (.iload_n 3, 1) := by decide +kernel
theorem dX7_read_51 : decode cX7_read 51 = .ok (.bipush 120, 2) := by decide +kernel
theorem dX7_read_53 : decode cX7_read 53 = .ok (.if_icmp .gt 35, 3) := by decide +kernel
theorem dX7_read_56 : decode cX7_read 56 = .ok (.aload_n 0, 1) := by decide +kernel
theorem dX7_read_57 : decode cX7_read 57 = .ok (.getfield 45, 3) := by decide +kernel
theorem dX7_read_60 : decode cX7_read 60 = .ok (.ifCond .ne 28, 3) := by decide +kernel
theorem dX7_read_63 : decode cX7_read 63 = .ok (.aload_n 0, 1) := by decide +kernel
theorem dX7_read_64 : decode cX7_read 64 = .ok (.getfield 42, 3) := by decide +kernel
theorem dX7_read_67 : decode cX7_read 67 = .ok (.aload_n 0, 1) := by decide +kernel
theorem dX7_read_68 : decode cX7_read 68 = .ok (.getfield 41, 3) := by decide +kernel
theorem dX7_read_71 : decode cX7_read 71 = .ok (.if_icmp .lt 7, 3) := by decide +kernel
theorem dX7_read_74 : decode cX7_read 74 = .ok (.iload_n 3, 1) := by decide +kernel
theorem dX7_read_75 : decode cX7_read 75 = .ok (.ifCond .ne 13, 3) := by decide +kernel
theorem dX7_read_78 : decode cX7_read 78 = .ok (.aload_n 0, 1) := by decide +kernel
theorem dX7_read_79 : decode cX7_read 79 = .ok (.invokevirtual 52, 3) := by decide +kernel
theorem dX7_read_82 : decode cX7_read 82 = .ok (.iinc 3 1, 3) := by decide +kernel
theorem dX7_read_85 : decode cX7_read 85 = .ok (.goto (-35), 3) := by decide +kernel
theorem dX7_read_88 : decode cX7_read 88 = .ok (.aload_n 0, 1) := by decide +kernel
theorem dX7_read_89 : decode cX7_read 89 = .ok (.getfield 45, 3) := by decide +kernel
theorem dX7_read_92 : decode cX7_read 92 = .ok (.ifCond .eq 12, 3) := by decide +kernel
theorem dX7_read_95 : decode cX7_read 95 = .ok (.sipush (-1000), 3) := by decide +kernel
theorem dX7_read_98 : decode cX7_read 98 = .ok (.aload_n 0, 1) := by decide +kernel
theorem dX7_read_99 : decode cX7_read 99 = .ok (.getfield 42, 3) := by decide +kernel
theorem dX7_read_102 : decode cX7_read 102 = .ok (.isub, 1) := by decide +kernel
theorem dX7_read_103 : decode cX7_read 103 = .ok (.ireturn, 1) := by decide +kernel
theorem dX7_read_104 : decode cX7_read 104 = .ok (.aload_n 0, 1) := by decide +kernel
theorem dX7_read_105 : decode cX7_read 105 = .ok (.getfield 49, 3) := by decide +kernel
theorem dX7_read_108 : decode cX7_read 108 = .ok (.ifCond .lt 14, 3) := by decide +kernel
theorem dX7_read_111 : decode cX7_read 111 = .ok (.sipush (-2000), 3) := by decide +kernel
theorem dX7_read_114 : decode cX7_read 114 = .ok (.aload_n 0, 1) := by decide +kernel
theorem dX7_read_115 : decode cX7_read 115 = .ok (.getfield 49, 3) := by decide +kernel
theorem dX7_read_118 : decode cX7_read 118 = .ok (.isub, 1) := by decide +kernel
theorem dX7_read_119 : decode cX7_read 119 = .ok (.goto 4, 3) := by decide +kernel
theorem dX7_read_122 : decode cX7_read 122 = .ok (.iload_n 3, 1) := by decide +kernel
theorem dX7_read_123 : decode cX7_read 123 = .ok (.ireturn, 1) := by decide +kernel
set_option maxRecDepth 20000 in
theorem ggX7_readStatement_X7_next : GoodIn wsX7_readStatement wsX7_next := goodIn_r _ [8, 1, 9, 10, 69, 70, 71, 72, 73, 74] (by decide +kernel) (by decide +kernel)
set_option maxRecDepth 20000 in
theorem gX7_readStatement_X7_next : GoodIn wsX7_readStatement (wsV RX7 55 RX7 yX7_next wsX7_next) := goodIn_app (goodIn_of _ (by decide +kernel)) ggX7_readStatement_X7_next
set_option maxRecDepth 20000 in
theorem ggX7_readStatement_X7_readOff : GoodIn wsX7_readStatement wsX7_readOff := goodIn_r _ [14, 2, 15, 16, 17, 18, 7, 19, 10, 1, 3, 20, 21, 22, 23, 9, 24, 25, 26, 27, 28, 29, 30, 31, 32, 33, 34, 35, 69, 70, 71, 72, 73, 74, 75, 76, 77, 78, 79, 80] (by decide +kernel) (by decide +kernel)
set_option maxRecDepth 20000 in
theorem gX7_readStatement_X7_readOff : GoodIn wsX7_readStatement (wsV RX7 59 RX7 yX7_readOff wsX7_readOff) := goodIn_app (goodIn_of _ (by decide +kernel)) ggX7_readStatement_X7_readOff
set_option maxRecDepth 20000 in
theorem ggX7_readStatement_X7_readDropped : GoodIn wsX7_readStatement wsX7_readDropped := goodIn_r _ [39, 2, 40, 41, 16, 17, 18, 7, 19, 10, 1, 3, 20, 21, 22, 23, 9, 24, 25, 26, 27, 31, 32, 33, 34, 35, 69, 70, 71, 72, 73, 74, 75, 76, 77, 78, 79, 80] (by decide +kernel) (by decide +kernel)
set_option maxRecDepth 20000 in
theorem gX7_readStatement_X7_readDropped : GoodIn wsX7_readStatement (wsV RX7 63 RX7 yX7_readDropped wsX7_readDropped) := goodIn_app (goodIn_of _ (by decide +kernel)) ggX7_readStatement_X7_readDropped
set_option maxRecDepth 20000 in
theorem ggX7_readStatement_X6_forgetSum : GoodIn wsX7_readStatement wsX6_forgetSum := goodIn_r _ [46, 47, 75, 76, 77, 78, 79, 80] (by decide +kernel) (by decide +kernel)
set_option maxRecDepth 20000 in
theorem gX7_readStatement_X6_forgetSum : GoodIn wsX7_readStatement (wsV RX7 66 RX6 yX6_forgetSum wsX6_forgetSum) := goodIn_app (goodIn_of _ (by decide +kernel)) ggX7_readStatement_X6_forgetSum
set_option maxRecDepth 20000 in
theorem ggX7_readStatement_X7_readSum : GoodIn wsX7_readStatement wsX7_readSum := goodIn_r _ [51, 3, 1, 2, 52, 53, 54, 7, 4, 5, 6, 8, 9, 10, 55, 56, 57, 45, 58, 47, 59, 60, 61, 62, 63, 16, 17, 18, 19, 20, 21, 22, 23, 64, 48, 49, 50, 24, 25, 26, 27, 65, 66, 67, 68, 69, 70, 71, 72, 73, 74, 75, 76, 77, 78, 79, 80] (by decide +kernel) (by decide +kernel)
set_option maxRecDepth 20000 in
theorem gX7_readStatement_X7_readSum : GoodIn wsX7_readStatement (wsV RX7 69 RX7 yX7_readSum wsX7_readSum) := goodIn_app (goodIn_of _ (by decide +kernel)) ggX7_readStatement_X7_readSum
set_option maxRecDepth 20000 in
theorem ggX7_readStatement_X7_expect : GoodIn wsX7_readStatement wsX7_expect := goodIn_r _ [27, 3, 1, 9, 10, 69, 70, 71, 72, 73, 74] (by decide +kernel) (by decide +kernel)
set_option maxRecDepth 20000 in
theorem gX7_readStatement_X7_expect : GoodIn wsX7_readStatement (wsV RX7 72 RX7 yX7_expect wsX7_expect) := goodIn_app (goodIn_of _ (by decide +kernel)) ggX7_readStatement_X7_expect
theorem dX7_readStatement_0 : decode cX7_readStatement 0 = .ok (.aload_n 0, 1) := by decide +kernel
theorem dX7_readStatement_1 : decode cX7_readStatement 1 = .ok (.getfield 42, 3) := by decide +kernel
theorem dX7_readStatement_4 : decode cX7_readStatement 4 = .ok (.istore_n 1, 1) := by decide +kernel
theorem dX7_readStatement_5 : decode cX7_readStatement 5 = .ok (.aload_n 0, 1) := by decide +kernel
theorem dX7_readStatement_6 : decode cX7_readStatement 6 = .ok (.invokevirtual 55, 3) := by decide +kernel
theorem dX7_readStatement_9 : decode cX7_readStatement 9 = .ok (.lookupswitch 96 #[(100, 53), (102, 71), (111, 35)], 35) := by decide +kernel
theorem dX7_readStatement_44 : decode cX7_readStatement 44 = .ok (.aload_n 0, 1) := by decide +kernel
theorem dX7_readStatement_45 : decode cX7_readStatement 45 = .ok (.dup, 1) := by decide +kernel
theorem dX7_readStatement_46 : decode cX7_readStatement 46 = .ok (.getfield 42, 3) := by decide +kernel
theorem dX7_readStatement_49 : decode cX7_readStatement 49 = .ok (.iconst 1, 1) := by decide +kernel
theorem dX7_readStatement_50 : decode cX7_readStatement 50 = .ok (.iadd, 1) := by decide +kernel
theorem dX7_readStatement_51 : decode cX7_readStatement 51 = .ok (.putfield 42, 3) := by decide +kernel
theorem dX7_readStatement_54 : decode cX7_readStatement 54 = .ok (.aload_n 0, 1) := by decide +kernel
theorem dX7_readStatement_55 : decode cX7_readStatement 55 = .ok (.iload_n 1, 1) := by decide +kernel
theorem dX7_readStatement_56 : decode cX7_readStatement 56 = .ok (.invokevirtual 59, 3) := by decide +kernel
theorem dX7_readStatement_59 : decode cX7_readStatement 59 = .ok (.goto 51, 3) := by decide +kernel
theorem dX7_readStatement_62 : decode cX7_readStatement 62 = .ok (.aload_n 0, 1) := by decide +kernel
theorem dX7_readStatement_63 : decode cX7_readStatement 63 = .ok (.dup, 1) := by decide +kernel
theorem dX7_readStatement_64 : decode cX7_readStatement 64 = .ok (.getfield 42, 3) := by decide +kernel
theorem dX7_readStatement_67 : decode cX7_readStatement 67 = .ok (.iconst 1, 1) := by decide +kernel
theorem dX7_readStatement_68 : decode cX7_readStatement 68 = .ok (.iadd, 1) := by decide +kernel
theorem dX7_readStatement_69 : decode cX7_readStatement 69 = .ok (.putfield 42, 3) := by decide +kernel
theorem dX7_readStatement_72 : decode cX7_readStatement 72 = .ok (.aload_n 0, 1) := by decide +kernel
theorem dX7_readStatement_73 : decode cX7_readStatement 73 = .ok (.iload_n 1, 1) := by decide +kernel
theorem dX7_readStatement_74 : decode cX7_readStatement 74 = .ok (.invokevirtual 63, 3) := by decide +kernel
theorem dX7_readStatement_77 : decode cX7_readStatement 77 = .ok (.goto 33, 3) := by decide +kernel
theorem dX7_readStatement_80 : decode cX7_readStatement 80 = .ok (.aload_n 0, 1) := by decide +kernel
theorem dX7_readStatement_81 : decode cX7_readStatement 81 = .ok (.dup, 1) := by decide +kernel
theorem dX7_readStatement_82 : decode cX7_readStatement 82 = .ok (.getfield 42, 3) := by decide +kernel
theorem dX7_readStatement_85 : decode cX7_readStatement 85 = .ok (.iconst 1, 1) := by decide +kernel
theorem dX7_readStatement_86 : decode cX7_readStatement 86 = .ok (.iadd, 1) := by decide +kernel
theorem dX7_readStatement_87 : decode cX7_readStatement 87 = .ok (.putfield 42, 3) := by decide +kernel
theorem dX7_readStatement_90 : decode cX7_readStatement 90 = .ok (.aload_n 0, 1) := by decide +kernel
theorem dX7_readStatement_91 : decode cX7_readStatement 91 = .ok (.getfield 12, 3) := by decide +kernel
theorem dX7_readStatement_94 : decode cX7_readStatement 94 = .ok (.invokevirtual 66, 3) := by decide +kernel
theorem dX7_readStatement_97 : decode cX7_readStatement 97 = .ok (.aload_n 0, 1) := by decide +kernel
theorem dX7_readStatement_98 : decode cX7_readStatement 98 = .ok (.iconst 0, 1) := by decide +kernel
theorem dX7_readStatement_99 : decode cX7_readStatement 99 = .ok (.invokevirtual 69, 3) := by decide +kernel
theorem dX7_readStatement_102 : decode cX7_readStatement 102 = .ok (.goto 8, 3) := by decide +kernel
theorem dX7_readStatement_105 : decode cX7_readStatement 105 = .ok (.aload_n 0, 1) := by decide +kernel
theorem dX7_readStatement_106 : decode cX7_readStatement 106 = .ok (.iconst 1, 1) := by decide +kernel
theorem dX7_readStatement_107 : decode cX7_readStatement 107 = .ok (.putfield 45, 3) := by decide +kernel
theorem dX7_readStatement_110 : decode cX7_readStatement 110 = .ok (.aload_n 0, 1) := by decide +kernel
theorem dX7_readStatement_111 : decode cX7_readStatement 111 = .ok (.bipush 59, 2) := by decide +kernel
theorem dX7_readStatement_113 : decode cX7_readStatement 113 = .ok (.invokevirtual 72, 3) := by decide +kernel
theorem dX7_readStatement_116 : decode cX7_readStatement 116 = .ok (.return_, 1) := by decide +kernel
set_option maxRecDepth 20000 in
theorem ggX7_readOff_X7_readNumber : GoodIn wsX7_readOff wsX7_readNumber := goodIn_r _ [7, 8, 9, 10, 11, 12, 13, 6, 14, 15, 28, 29, 30, 31, 32, 33] (by decide +kernel) (by decide +kernel)
set_option maxRecDepth 20000 in
theorem gX7_readOff_X7_readNumber : GoodIn wsX7_readOff (wsV RX7 75 RX7 yX7_readNumber wsX7_readNumber) := goodIn_app (goodIn_of _ (by decide +kernel)) ggX7_readOff_X7_readNumber
set_option maxRecDepth 20000 in
theorem ggX7_readOff_X7_expect : GoodIn wsX7_readOff wsX7_expect := goodIn_r _ [19, 10, 9, 15, 8, 28, 29, 30, 31, 32, 33] (by decide +kernel) (by decide +kernel)
set_option maxRecDepth 20000 in
theorem gX7_readOff_X7_expect : GoodIn wsX7_readOff (wsV RX7 72 RX7 yX7_expect wsX7_expect) := goodIn_app (goodIn_of _ (by decide +kernel)) ggX7_readOff_X7_expect
set_option maxRecDepth 20000 in
theorem ggX7_readOff_X11_within : GoodIn wsX7_readOff wsX11_within := goodIn_r _ [22] (by decide +kernel) (by decide +kernel)
set_option maxRecDepth 20000 in
theorem gX7_readOff_X11_within_n78 : GoodIn wsX7_readOff (wsX11_within) := ggX7_readOff_X11_within
set_option maxRecDepth 20000 in
theorem ggX7_readOff_X7_wrongAt : GoodIn wsX7_readOff wsX7_wrongAt := goodIn_r _ [26, 27, 28, 29, 30, 31, 32, 33] (by decide +kernel) (by decide +kernel)
set_option maxRecDepth 20000 in
theorem gX7_readOff_X7_wrongAt : GoodIn wsX7_readOff (wsV RX7 85 RX7 yX7_wrongAt wsX7_wrongAt) := goodIn_app (goodIn_of _ (by decide +kernel)) ggX7_readOff_X7_wrongAt
theorem dX7_readOff_0 : decode cX7_readOff 0 = .ok (.aload_n 0, 1) := by decide +kernel
theorem dX7_readOff_1 : decode cX7_readOff 1 = .ok (.invokevirtual 75, 3) := by decide +kernel
theorem dX7_readOff_4 : decode cX7_readOff 4 = .ok (.istore_n 2, 1) := by decide +kernel
theorem dX7_readOff_5 : decode cX7_readOff 5 = .ok (.aload_n 0, 1) := by decide +kernel
theorem dX7_readOff_6 : decode cX7_readOff 6 = .ok (.bipush 32, 2) := by decide +kernel
theorem dX7_readOff_8 : decode cX7_readOff 8 = .ok (.invokevirtual 72, 3) := by decide +kernel
theorem dX7_readOff_11 : decode cX7_readOff 11 = .ok (.aload_n 0, 1) := by decide +kernel
theorem dX7_readOff_12 : decode cX7_readOff 12 = .ok (.invokevirtual 75, 3) := by decide +kernel
theorem dX7_readOff_15 : decode cX7_readOff 15 = .ok (.istore_n 3, 1) := by decide +kernel
theorem dX7_readOff_16 : decode cX7_readOff 16 = .ok (.iload_n 2, 1) := by decide +kernel
theorem dX7_readOff_17 : decode cX7_readOff 17 = .ok (.bipush 6, 2) := by decide +kernel
theorem dX7_readOff_19 : decode cX7_readOff 19 = .ok (.invokestatic 78, 3) := by decide +kernel
theorem dX7_readOff_22 : decode cX7_readOff 22 = .ok (.ifCond .eq 22, 3) := by decide +kernel
theorem dX7_readOff_25 : decode cX7_readOff 25 = .ok (.iload_n 3, 1) := by decide +kernel
theorem dX7_readOff_26 : decode cX7_readOff 26 = .ok (.bipush 20, 2) := by decide +kernel
theorem dX7_readOff_28 : decode cX7_readOff 28 = .ok (.if_icmp .gt 16, 3) := by decide +kernel
theorem dX7_readOff_31 : decode cX7_readOff 31 = .ok (.aload_n 0, 1) := by decide +kernel
theorem dX7_readOff_32 : decode cX7_readOff 32 = .ok (.getfield 12, 3) := by decide +kernel
theorem dX7_readOff_35 : decode cX7_readOff 35 = .ok (.getfield 82, 3) := by decide +kernel
theorem dX7_readOff_38 : decode cX7_readOff 38 = .ok (.iload_n 2, 1) := by decide +kernel
theorem dX7_readOff_39 : decode cX7_readOff 39 = .ok (.iload_n 3, 1) := by decide +kernel
theorem dX7_readOff_40 : decode cX7_readOff 40 = .ok (.iastore, 1) := by decide +kernel
theorem dX7_readOff_41 : decode cX7_readOff 41 = .ok (.goto 8, 3) := by decide +kernel
theorem dX7_readOff_44 : decode cX7_readOff 44 = .ok (.aload_n 0, 1) := by decide +kernel
theorem dX7_readOff_45 : decode cX7_readOff 45 = .ok (.iload_n 1, 1) := by decide +kernel
theorem dX7_readOff_46 : decode cX7_readOff 46 = .ok (.invokevirtual 85, 3) := by decide +kernel
theorem dX7_readOff_49 : decode cX7_readOff 49 = .ok (.return_, 1) := by decide +kernel
set_option maxRecDepth 20000 in
theorem ggX7_readDropped_X7_readNumber : GoodIn wsX7_readDropped wsX7_readNumber := goodIn_r _ [8, 9, 10, 11, 12, 13, 14, 7, 15, 16, 26, 27, 28, 29, 30, 31] (by decide +kernel) (by decide +kernel)
set_option maxRecDepth 20000 in
theorem gX7_readDropped_X7_readNumber : GoodIn wsX7_readDropped (wsV RX7 75 RX7 yX7_readNumber wsX7_readNumber) := goodIn_app (goodIn_of _ (by decide +kernel)) ggX7_readDropped_X7_readNumber
set_option maxRecDepth 20000 in
theorem ggX7_readDropped_X7_expect : GoodIn wsX7_readDropped wsX7_expect := goodIn_r _ [20, 11, 10, 16, 9, 26, 27, 28, 29, 30, 31] (by decide +kernel) (by decide +kernel)
set_option maxRecDepth 20000 in
theorem gX7_readDropped_X7_expect : GoodIn wsX7_readDropped (wsV RX7 72 RX7 yX7_expect wsX7_expect) := goodIn_app (goodIn_of _ (by decide +kernel)) ggX7_readDropped_X7_expect
set_option maxRecDepth 20000 in
theorem ggX7_readDropped_X7_wrongAt : GoodIn wsX7_readDropped wsX7_wrongAt := goodIn_r _ [24, 25, 26, 27, 28, 29, 30, 31] (by decide +kernel) (by decide +kernel)
set_option maxRecDepth 20000 in
theorem gX7_readDropped_X7_wrongAt : GoodIn wsX7_readDropped (wsV RX7 85 RX7 yX7_wrongAt wsX7_wrongAt) := goodIn_app (goodIn_of _ (by decide +kernel)) ggX7_readDropped_X7_wrongAt
theorem dX7_readDropped_0 : decode cX7_readDropped 0 = .ok (.aload_n 0, 1) := by decide +kernel
theorem dX7_readDropped_1 : decode cX7_readDropped 1 = .ok (.invokevirtual 75, 3) := by decide +kernel
theorem dX7_readDropped_4 : decode cX7_readDropped 4 = .ok (.istore_n 2, 1) := by decide +kernel
theorem dX7_readDropped_5 : decode cX7_readDropped 5 = .ok (.aload_n 0, 1) := by decide +kernel
theorem dX7_readDropped_6 : decode cX7_readDropped 6 = .ok (.bipush 32, 2) := by decide +kernel
theorem dX7_readDropped_8 : decode cX7_readDropped 8 = .ok (.invokevirtual 72, 3) := by decide +kernel
theorem dX7_readDropped_11 : decode cX7_readDropped 11 = .ok (.aload_n 0, 1) := by decide +kernel
theorem dX7_readDropped_12 : decode cX7_readDropped 12 = .ok (.invokevirtual 75, 3) := by decide +kernel
theorem dX7_readDropped_15 : decode cX7_readDropped 15 = .ok (.istore_n 3, 1) := by decide +kernel
theorem dX7_readDropped_16 : decode cX7_readDropped 16 = .ok (.iload_n 2, 1) := by decide +kernel
theorem dX7_readDropped_17 : decode cX7_readDropped 17 = .ok (.iconst 3, 1) := by decide +kernel
theorem dX7_readDropped_18 : decode cX7_readDropped 18 = .ok (.if_icmp .gt 27, 3) := by decide +kernel
theorem dX7_readDropped_21 : decode cX7_readDropped 21 = .ok (.iload_n 3, 1) := by decide +kernel
theorem dX7_readDropped_22 : decode cX7_readDropped 22 = .ok (.iconst 3, 1) := by decide +kernel
theorem dX7_readDropped_23 : decode cX7_readDropped 23 = .ok (.if_icmp .gt 22, 3) := by decide +kernel
theorem dX7_readDropped_26 : decode cX7_readDropped 26 = .ok (.aload_n 0, 1) := by decide +kernel
theorem dX7_readDropped_27 : decode cX7_readDropped 27 = .ok (.getfield 12, 3) := by decide +kernel
theorem dX7_readDropped_30 : decode cX7_readDropped 30 = .ok (.iload_n 2, 1) := by decide +kernel
theorem dX7_readDropped_31 : decode cX7_readDropped 31 = .ok (.putfield 88, 3) := by decide +kernel
theorem dX7_readDropped_34 : decode cX7_readDropped 34 = .ok (.aload_n 0, 1) := by decide +kernel
theorem dX7_readDropped_35 : decode cX7_readDropped 35 = .ok (.getfield 12, 3) := by decide +kernel
theorem dX7_readDropped_38 : decode cX7_readDropped 38 = .ok (.iload_n 3, 1) := by decide +kernel
theorem dX7_readDropped_39 : decode cX7_readDropped 39 = .ok (.putfield 91, 3) := by decide +kernel
theorem dX7_readDropped_42 : decode cX7_readDropped 42 = .ok (.goto 8, 3) := by decide +kernel
theorem dX7_readDropped_45 : decode cX7_readDropped 45 = .ok (.aload_n 0, 1) := by decide +kernel
theorem dX7_readDropped_46 : decode cX7_readDropped 46 = .ok (.iload_n 1, 1) := by decide +kernel
theorem dX7_readDropped_47 : decode cX7_readDropped 47 = .ok (.invokevirtual 85, 3) := by decide +kernel
theorem dX7_readDropped_50 : decode cX7_readDropped 50 = .ok (.return_, 1) := by decide +kernel
theorem dX7_wrongAt_0 : decode cX7_wrongAt 0 = .ok (.aload_n 0, 1) := by decide +kernel
theorem dX7_wrongAt_1 : decode cX7_wrongAt 1 = .ok (.getfield 49, 3) := by decide +kernel
theorem dX7_wrongAt_4 : decode cX7_wrongAt 4 = .ok (.ifCond .ge 8, 3) := by decide +kernel
theorem dX7_wrongAt_7 : decode cX7_wrongAt 7 = .ok (.aload_n 0, 1) := by decide +kernel
theorem dX7_wrongAt_8 : decode cX7_wrongAt 8 = .ok (.iload_n 1, 1) := by decide +kernel
theorem dX7_wrongAt_9 : decode cX7_wrongAt 9 = .ok (.putfield 49, 3) := by decide +kernel
theorem dX7_wrongAt_12 : decode cX7_wrongAt 12 = .ok (.return_, 1) := by decide +kernel
set_option maxRecDepth 20000 in
theorem ggX7_readSum_X7_readProduct : GoodIn wsX7_readSum wsX7_readProduct := goodIn_r _ [41, 1, 2, 3, 42, 43, 44, 7, 8, 9, 10, 11, 12, 13, 14, 15, 16, 17, 18, 19, 20, 21, 22, 23, 24, 25, 26, 27, 28, 29, 30, 31, 32, 33, 34, 35, 36, 37, 38, 39, 40, 0, 4, 5, 6, 45, 46, 47, 48, 49, 50, 51, 52, 53, 54, 55, 56] (by decide +kernel) (by decide +kernel)
set_option maxRecDepth 20000 in
theorem gX7_readSum_X7_readProduct : GoodIn wsX7_readSum (wsV RX7 94 RX7 yX7_readProduct wsX7_readProduct) := goodIn_app (goodIn_of _ (by decide +kernel)) ggX7_readSum_X7_readProduct
set_option maxRecDepth 20000 in
theorem ggX7_readSum_X7_next : GoodIn wsX7_readSum wsX7_next := goodIn_r _ [11, 2, 12, 13, 45, 46, 47, 48, 49, 50] (by decide +kernel) (by decide +kernel)
set_option maxRecDepth 20000 in
theorem gX7_readSum_X7_next : GoodIn wsX7_readSum (wsV RX7 55 RX7 yX7_next wsX7_next) := goodIn_app (goodIn_of _ (by decide +kernel)) ggX7_readSum_X7_next
set_option maxRecDepth 20000 in
theorem ggX7_readSum_X6_append : GoodIn wsX7_readSum wsX6_append := goodIn_r _ [18, 19, 20, 51, 52, 53, 54, 55, 56] (by decide +kernel) (by decide +kernel)
set_option maxRecDepth 20000 in
theorem gX7_readSum_X6_append : GoodIn wsX7_readSum (wsV RX7 97 RX6 yX6_append wsX6_append) := goodIn_app (goodIn_of _ (by decide +kernel)) ggX7_readSum_X6_append
theorem dX7_readSum_0 : decode cX7_readSum 0 = .ok (.aload_n 0, 1) := by decide +kernel
theorem dX7_readSum_1 : decode cX7_readSum 1 = .ok (.iload_n 1, 1) := by decide +kernel
theorem dX7_readSum_2 : decode cX7_readSum 2 = .ok (.invokevirtual 94, 3) := by decide +kernel
theorem dX7_readSum_5 : decode cX7_readSum 5 = .ok (.iconst 0, 1) := by decide +kernel
theorem dX7_readSum_6 : decode cX7_readSum 6 = .ok (.istore_n 2, 1) := by decide +kernel
theorem dX7_readSum_7 : decode cX7_readSum 7 = .ok (.iload_n 2, 1) := by decide +kernel
theorem dX7_readSum_8 : decode cX7_readSum 8 = .ok (.bipush 120, 2) := by decide +kernel
theorem dX7_readSum_10 : decode cX7_readSum 10 = .ok (.if_icmp .ge 63, 3) := by decide +kernel
theorem dX7_readSum_13 : decode cX7_readSum 13 = .ok (.aload_n 0, 1) := by decide +kernel
theorem dX7_readSum_14 : decode cX7_readSum 14 = .ok (.getfield 45, 3) := by decide +kernel
theorem dX7_readSum_17 : decode cX7_readSum 17 = .ok (.ifCond .ne 56, 3) := by decide +kernel
theorem dX7_readSum_20 : decode cX7_readSum 20 = .ok (.aload_n 0, 1) := by decide +kernel
theorem dX7_readSum_21 : decode cX7_readSum 21 = .ok (.invokevirtual 55, 3) := by decide +kernel
theorem dX7_readSum_24 : decode cX7_readSum 24 = .ok (.bipush 43, 2) := by decide +kernel
theorem dX7_readSum_26 : decode cX7_readSum 26 = .ok (.if_icmp .eq 12, 3) := by decide +kernel
theorem dX7_readSum_29 : decode cX7_readSum 29 = .ok (.aload_n 0, 1) := by decide +kernel
theorem dX7_readSum_30 : decode cX7_readSum 30 = .ok (.invokevirtual 55, 3) := by decide +kernel
theorem dX7_readSum_33 : decode cX7_readSum 33 = .ok (.bipush 45, 2) := by decide +kernel
theorem dX7_readSum_35 : decode cX7_readSum 35 = .ok (.if_icmp .ne 38, 3) := by decide +kernel
theorem dX7_readSum_38 : decode cX7_readSum 38 = .ok (.aload_n 0, 1) := by decide +kernel
theorem dX7_readSum_39 : decode cX7_readSum 39 = .ok (.invokevirtual 55, 3) := by decide +kernel
theorem dX7_readSum_42 : decode cX7_readSum 42 = .ok (.istore_n 3, 1) := by decide +kernel
theorem dX7_readSum_43 : decode cX7_readSum 43 = .ok (.aload_n 0, 1) := by decide +kernel
theorem dX7_readSum_44 : decode cX7_readSum 44 = .ok (.dup, 1) := by decide +kernel
theorem dX7_readSum_45 : decode cX7_readSum 45 = .ok (.getfield 42, 3) := by decide +kernel
theorem dX7_readSum_48 : decode cX7_readSum 48 = .ok (.iconst 1, 1) := by decide +kernel
theorem dX7_readSum_49 : decode cX7_readSum 49 = .ok (.iadd, 1) := by decide +kernel
theorem dX7_readSum_50 : decode cX7_readSum 50 = .ok (.putfield 42, 3) := by decide +kernel
theorem dX7_readSum_53 : decode cX7_readSum 53 = .ok (.aload_n 0, 1) := by decide +kernel
theorem dX7_readSum_54 : decode cX7_readSum 54 = .ok (.iload_n 1, 1) := by decide +kernel
theorem dX7_readSum_55 : decode cX7_readSum 55 = .ok (.invokevirtual 94, 3) := by decide +kernel
theorem dX7_readSum_58 : decode cX7_readSum 58 = .ok (.aload_n 0, 1) := by decide +kernel
theorem dX7_readSum_59 : decode cX7_readSum 59 = .ok (.getfield 12, 3) := by decide +kernel
theorem dX7_readSum_62 : decode cX7_readSum 62 = .ok (.iload_n 3, 1) := by decide +kernel
theorem dX7_readSum_63 : decode cX7_readSum 63 = .ok (.ineg, 1) := by decide +kernel
theorem dX7_readSum_64 : decode cX7_readSum 64 = .ok (.invokevirtual 97, 3) := by decide +kernel
theorem dX7_readSum_67 : decode cX7_readSum 67 = .ok (.iinc 2 1, 3) := by decide +kernel
theorem dX7_readSum_70 : decode cX7_readSum 70 = .ok (.goto (-63), 3) := by decide +kernel
theorem dX7_readSum_73 : decode cX7_readSum 73 = .ok (.return_, 1) := by decide +kernel
set_option maxRecDepth 20000 in
theorem ggX7_readProduct_X7_readAtom : GoodIn wsX7_readProduct wsX7_readAtom := goodIn_r _ [21, 2, 3, 8, 9, 10, 7, 11, 12, 13, 22, 23, 24, 14, 15, 16, 17, 18, 19, 20, 25, 26, 27, 28, 1, 29, 30, 31, 32, 33, 34, 35, 36, 37, 38, 39, 40, 0, 4, 5, 6, 41, 42, 43, 44, 45, 46, 47, 48, 49, 50, 51, 52, 53, 54, 55, 56] (by decide +kernel) (by decide +kernel)
set_option maxRecDepth 20000 in
theorem gX7_readProduct_X7_readAtom : GoodIn wsX7_readProduct (wsV RX7 100 RX7 yX7_readAtom wsX7_readAtom) := goodIn_app (goodIn_of _ (by decide +kernel)) ggX7_readProduct_X7_readAtom
set_option maxRecDepth 20000 in
theorem ggX7_readProduct_X7_next : GoodIn wsX7_readProduct wsX7_next := goodIn_r _ [11, 2, 12, 13, 45, 46, 47, 48, 49, 50] (by decide +kernel) (by decide +kernel)
set_option maxRecDepth 20000 in
theorem gX7_readProduct_X7_next : GoodIn wsX7_readProduct (wsV RX7 55 RX7 yX7_next wsX7_next) := goodIn_app (goodIn_of _ (by decide +kernel)) ggX7_readProduct_X7_next
set_option maxRecDepth 20000 in
theorem ggX7_readProduct_X6_append : GoodIn wsX7_readProduct wsX6_append := goodIn_r _ [18, 19, 20, 51, 52, 53, 54, 55, 56] (by decide +kernel) (by decide +kernel)
set_option maxRecDepth 20000 in
theorem gX7_readProduct_X6_append : GoodIn wsX7_readProduct (wsV RX7 97 RX6 yX6_append wsX6_append) := goodIn_app (goodIn_of _ (by decide +kernel)) ggX7_readProduct_X6_append
theorem dX7_readProduct_0 : decode cX7_readProduct 0 = .ok (.aload_n 0, 1) := by decide +kernel
theorem dX7_readProduct_1 : decode cX7_readProduct 1 = .ok (.iload_n 1, 1) := by decide +kernel
theorem dX7_readProduct_2 : decode cX7_readProduct 2 = .ok (.invokevirtual 100, 3) := by decide +kernel
theorem dX7_readProduct_5 : decode cX7_readProduct 5 = .ok (.iconst 0, 1) := by decide +kernel
theorem dX7_readProduct_6 : decode cX7_readProduct 6 = .ok (.istore_n 2, 1) := by decide +kernel
theorem dX7_readProduct_7 : decode cX7_readProduct 7 = .ok (.iload_n 2, 1) := by decide +kernel
theorem dX7_readProduct_8 : decode cX7_readProduct 8 = .ok (.bipush 120, 2) := by decide +kernel
theorem dX7_readProduct_10 : decode cX7_readProduct 10 = .ok (.if_icmp .ge 63, 3) := by decide +kernel
theorem dX7_readProduct_13 : decode cX7_readProduct 13 = .ok (.aload_n 0, 1) := by decide +kernel
theorem dX7_readProduct_14 : decode cX7_readProduct 14 = .ok (.getfield 45, 3) := by decide +kernel
theorem dX7_readProduct_17 : decode cX7_readProduct 17 = .ok (.ifCond .ne 56, 3) := by decide +kernel
theorem dX7_readProduct_20 : decode cX7_readProduct 20 = .ok (.aload_n 0, 1) := by decide +kernel
theorem dX7_readProduct_21 : decode cX7_readProduct 21 = .ok (.invokevirtual 55, 3) := by decide +kernel
theorem dX7_readProduct_24 : decode cX7_readProduct 24 = .ok (.bipush 42, 2) := by decide +kernel
theorem dX7_readProduct_26 : decode cX7_readProduct 26 = .ok (.if_icmp .eq 12, 3) := by decide +kernel
theorem dX7_readProduct_29 : decode cX7_readProduct 29 = .ok (.aload_n 0, 1) := by decide +kernel
theorem dX7_readProduct_30 : decode cX7_readProduct 30 = .ok (.invokevirtual 55, 3) := by decide +kernel
theorem dX7_readProduct_33 : decode cX7_readProduct 33 = .ok (.bipush 47, 2) := by decide +kernel
theorem dX7_readProduct_35 : decode cX7_readProduct 35 = .ok (.if_icmp .ne 38, 3) := by decide +kernel
theorem dX7_readProduct_38 : decode cX7_readProduct 38 = .ok (.aload_n 0, 1) := by decide +kernel
theorem dX7_readProduct_39 : decode cX7_readProduct 39 = .ok (.invokevirtual 55, 3) := by decide +kernel
theorem dX7_readProduct_42 : decode cX7_readProduct 42 = .ok (.istore_n 3, 1) := by decide +kernel
theorem dX7_readProduct_43 : decode cX7_readProduct 43 = .ok (.aload_n 0, 1) := by decide +kernel
theorem dX7_readProduct_44 : decode cX7_readProduct 44 = .ok (.dup, 1) := by decide +kernel
theorem dX7_readProduct_45 : decode cX7_readProduct 45 = .ok (.getfield 42, 3) := by decide +kernel
theorem dX7_readProduct_48 : decode cX7_readProduct 48 = .ok (.iconst 1, 1) := by decide +kernel
theorem dX7_readProduct_49 : decode cX7_readProduct 49 = .ok (.iadd, 1) := by decide +kernel
theorem dX7_readProduct_50 : decode cX7_readProduct 50 = .ok (.putfield 42, 3) := by decide +kernel
theorem dX7_readProduct_53 : decode cX7_readProduct 53 = .ok (.aload_n 0, 1) := by decide +kernel
theorem dX7_readProduct_54 : decode cX7_readProduct 54 = .ok (.iload_n 1, 1) := by decide +kernel
theorem dX7_readProduct_55 : decode cX7_readProduct 55 = .ok (.invokevirtual 100, 3) := by decide +kernel
theorem dX7_readProduct_58 : decode cX7_readProduct 58 = .ok (.aload_n 0, 1) := by decide +kernel
theorem dX7_readProduct_59 : decode cX7_readProduct 59 = .ok (.getfield 12, 3) := by decide +kernel
theorem dX7_readProduct_62 : decode cX7_readProduct 62 = .ok (.iload_n 3, 1) := by decide +kernel
theorem dX7_readProduct_63 : decode cX7_readProduct 63 = .ok (.ineg, 1) := by decide +kernel
theorem dX7_readProduct_64 : decode cX7_readProduct 64 = .ok (.invokevirtual 97, 3) := by decide +kernel
theorem dX7_readProduct_67 : decode cX7_readProduct 67 = .ok (.iinc 2 1, 3) := by decide +kernel
theorem dX7_readProduct_70 : decode cX7_readProduct 70 = .ok (.goto (-63), 3) := by decide +kernel
theorem dX7_readProduct_73 : decode cX7_readProduct 73 = .ok (.return_, 1) := by decide +kernel
set_option maxRecDepth 20000 in
theorem ggX7_readAtom_X7_next : GoodIn wsX7_readAtom wsX7_next := goodIn_r _ [7, 1, 8, 9, 45, 46, 47, 48, 49, 50] (by decide +kernel) (by decide +kernel)
set_option maxRecDepth 20000 in
theorem gX7_readAtom_X7_next : GoodIn wsX7_readAtom (wsV RX7 55 RX7 yX7_next wsX7_next) := goodIn_app (goodIn_of _ (by decide +kernel)) ggX7_readAtom_X7_next
set_option maxRecDepth 20000 in
theorem ggX7_readAtom_X7_readBrackets : GoodIn wsX7_readAtom wsX7_readBrackets := goodIn_r _ [29, 24, 1, 2, 30, 31, 32, 6, 33, 34, 35, 36, 8, 9, 13, 14, 15, 16, 17, 18, 19, 0, 3, 4, 5, 7, 10, 11, 12, 20, 21, 22, 23, 25, 26, 27, 28, 37, 38, 39, 40, 41, 42, 43, 44, 45, 46, 47, 48, 49, 50, 51, 52, 53, 54, 55, 56] (by decide +kernel) (by decide +kernel)
set_option maxRecDepth 20000 in
theorem gX7_readAtom_X7_readBrackets : GoodIn wsX7_readAtom (wsV RX7 103 RX7 yX7_readBrackets wsX7_readBrackets) := goodIn_app (goodIn_of _ (by decide +kernel)) ggX7_readAtom_X7_readBrackets
set_option maxRecDepth 20000 in
theorem ggX7_readAtom_X6_append : GoodIn wsX7_readAtom wsX6_append := goodIn_r _ [17, 18, 19, 51, 52, 53, 54, 55, 56] (by decide +kernel) (by decide +kernel)
set_option maxRecDepth 20000 in
theorem gX7_readAtom_X6_append : GoodIn wsX7_readAtom (wsV RX7 97 RX6 yX6_append wsX6_append) := goodIn_app (goodIn_of _ (by decide +kernel)) ggX7_readAtom_X6_append
set_option maxRecDepth 20000 in
theorem ggX7_readAtom_X7_readNumber : GoodIn wsX7_readAtom wsX7_readNumber := goodIn_r _ [23, 9, 1, 24, 25, 26, 27, 6, 28, 8, 45, 46, 47, 48, 49, 50] (by decide +kernel) (by decide +kernel)
set_option maxRecDepth 20000 in
theorem gX7_readAtom_X7_readNumber : GoodIn wsX7_readAtom (wsV RX7 75 RX7 yX7_readNumber wsX7_readNumber) := goodIn_app (goodIn_of _ (by decide +kernel)) ggX7_readAtom_X7_readNumber
theorem dX7_readAtom_0 : decode cX7_readAtom 0 = .ok (.aload_n 0, 1) := by decide +kernel
theorem dX7_readAtom_1 : decode cX7_readAtom 1 = .ok (.invokevirtual 55, 3) := by decide +kernel
theorem dX7_readAtom_4 : decode cX7_readAtom 4 = .ok (.istore_n 2, 1) := by decide +kernel
theorem dX7_readAtom_5 : decode cX7_readAtom 5 = .ok (.iload_n 2, 1) := by decide +kernel
theorem dX7_readAtom_6 : decode cX7_readAtom 6 = .ok (.lookupswitch 151 #[(40, 116), (91, 90), (97, 129), (104, 129), (109, 129), (110, 129), (112, 129), (115, 129), (122, 129), (123, 103)], 90) := by decide +kernel
theorem dX7_readAtom_96 : decode cX7_readAtom 96 = .ok (.aload_n 0, 1) := by decide +kernel
theorem dX7_readAtom_97 : decode cX7_readAtom 97 = .ok (.iload_n 2, 1) := by decide +kernel
theorem dX7_readAtom_98 : decode cX7_readAtom 98 = .ok (.bipush 93, 2) := by decide +kernel
theorem dX7_readAtom_100 : decode cX7_readAtom 100 = .ok (.iload_n 1, 1) := by decide +kernel
theorem dX7_readAtom_101 : decode cX7_readAtom 101 = .ok (.iconst 1, 1) := by decide +kernel
theorem dX7_readAtom_102 : decode cX7_readAtom 102 = .ok (.iadd, 1) := by decide +kernel
theorem dX7_readAtom_103 : decode cX7_readAtom 103 = .ok (.invokevirtual 103, 3) := by decide +kernel
theorem dX7_readAtom_106 : decode cX7_readAtom 106 = .ok (.goto 62, 3) := by decide +kernel
theorem dX7_readAtom_109 : decode cX7_readAtom 109 = .ok (.aload_n 0, 1) := by decide +kernel
theorem dX7_readAtom_110 : decode cX7_readAtom 110 = .ok (.iload_n 2, 1) := by decide +kernel
theorem dX7_readAtom_111 : decode cX7_readAtom 111 = .ok (.bipush 125, 2) := by decide +kernel
theorem dX7_readAtom_113 : decode cX7_readAtom 113 = .ok (.iload_n 1, 1) := by decide +kernel
theorem dX7_readAtom_114 : decode cX7_readAtom 114 = .ok (.iconst 1, 1) := by decide +kernel
theorem dX7_readAtom_115 : decode cX7_readAtom 115 = .ok (.iadd, 1) := by decide +kernel
theorem dX7_readAtom_116 : decode cX7_readAtom 116 = .ok (.invokevirtual 103, 3) := by decide +kernel
theorem dX7_readAtom_119 : decode cX7_readAtom 119 = .ok (.goto 49, 3) := by decide +kernel
theorem dX7_readAtom_122 : decode cX7_readAtom 122 = .ok (.aload_n 0, 1) := by decide +kernel
theorem dX7_readAtom_123 : decode cX7_readAtom 123 = .ok (.iload_n 2, 1) := by decide +kernel
theorem dX7_readAtom_124 : decode cX7_readAtom 124 = .ok (.bipush 41, 2) := by decide +kernel
theorem dX7_readAtom_126 : decode cX7_readAtom 126 = .ok (.iload_n 1, 1) := by decide +kernel
theorem dX7_readAtom_127 : decode cX7_readAtom 127 = .ok (.iconst 1, 1) := by decide +kernel
theorem dX7_readAtom_128 : decode cX7_readAtom 128 = .ok (.iadd, 1) := by decide +kernel
theorem dX7_readAtom_129 : decode cX7_readAtom 129 = .ok (.invokevirtual 103, 3) := by decide +kernel
theorem dX7_readAtom_132 : decode cX7_readAtom 132 = .ok (.goto 36, 3) := by decide +kernel
theorem dX7_readAtom_135 : decode cX7_readAtom 135 = .ok (.aload_n 0, 1) := by decide +kernel
theorem dX7_readAtom_136 : decode cX7_readAtom 136 = .ok (.dup, 1) := by decide +kernel
theorem dX7_readAtom_137 : decode cX7_readAtom 137 = .ok (.getfield 42, 3) := by decide +kernel
theorem dX7_readAtom_140 : decode cX7_readAtom 140 = .ok (.iconst 1, 1) := by decide +kernel
theorem dX7_readAtom_141 : decode cX7_readAtom 141 = .ok (.iadd, 1) := by decide +kernel
theorem dX7_readAtom_142 : decode cX7_readAtom 142 = .ok (.putfield 42, 3) := by decide +kernel
theorem dX7_readAtom_145 : decode cX7_readAtom 145 = .ok (.aload_n 0, 1) := by decide +kernel
theorem dX7_readAtom_146 : decode cX7_readAtom 146 = .ok (.getfield 12, 3) := by decide +kernel
theorem dX7_readAtom_149 : decode cX7_readAtom 149 = .ok (.iload_n 2, 1) := by decide +kernel
theorem dX7_readAtom_150 : decode cX7_readAtom 150 = .ok (.ineg, 1) := by decide +kernel
theorem dX7_readAtom_151 : decode cX7_readAtom 151 = .ok (.invokevirtual 97, 3) := by decide +kernel
theorem dX7_readAtom_154 : decode cX7_readAtom 154 = .ok (.goto 14, 3) := by decide +kernel
theorem dX7_readAtom_157 : decode cX7_readAtom 157 = .ok (.aload_n 0, 1) := by decide +kernel
theorem dX7_readAtom_158 : decode cX7_readAtom 158 = .ok (.getfield 12, 3) := by decide +kernel
theorem dX7_readAtom_161 : decode cX7_readAtom 161 = .ok (.aload_n 0, 1) := by decide +kernel
theorem dX7_readAtom_162 : decode cX7_readAtom 162 = .ok (.invokevirtual 75, 3) := by decide +kernel
theorem dX7_readAtom_165 : decode cX7_readAtom 165 = .ok (.invokevirtual 97, 3) := by decide +kernel
theorem dX7_readAtom_168 : decode cX7_readAtom 168 = .ok (.return_, 1) := by decide +kernel
set_option maxRecDepth 20000 in
theorem ggX7_readBrackets_X7_readSum : GoodIn wsX7_readBrackets wsX7_readSum := goodIn_r _ [41, 1, 2, 3, 42, 43, 44, 7, 22, 23, 24, 25, 12, 13, 14, 15, 16, 17, 18, 19, 20, 21, 26, 27, 28, 29, 30, 31, 32, 33, 34, 35, 36, 0, 4, 5, 6, 8, 9, 10, 11, 37, 38, 39, 40, 45, 46, 47, 48, 49, 50, 51, 52, 53, 54, 55, 56] (by decide +kernel) (by decide +kernel)
set_option maxRecDepth 20000 in
theorem gX7_readBrackets_X7_readSum : GoodIn wsX7_readBrackets (wsV RX7 69 RX7 yX7_readSum wsX7_readSum) := goodIn_app (goodIn_of _ (by decide +kernel)) ggX7_readBrackets_X7_readSum
set_option maxRecDepth 20000 in
theorem ggX7_readBrackets_X7_expect : GoodIn wsX7_readBrackets wsX7_expect := goodIn_r _ [11, 1, 2, 12, 13, 45, 46, 47, 48, 49, 50] (by decide +kernel) (by decide +kernel)
set_option maxRecDepth 20000 in
theorem gX7_readBrackets_X7_expect : GoodIn wsX7_readBrackets (wsV RX7 72 RX7 yX7_expect wsX7_expect) := goodIn_app (goodIn_of _ (by decide +kernel)) ggX7_readBrackets_X7_expect
set_option maxRecDepth 20000 in
theorem ggX7_readBrackets_X6_append : GoodIn wsX7_readBrackets wsX6_append := goodIn_r _ [18, 19, 20, 51, 52, 53, 54, 55, 56] (by decide +kernel) (by decide +kernel)
set_option maxRecDepth 20000 in
theorem gX7_readBrackets_X6_append : GoodIn wsX7_readBrackets (wsV RX7 97 RX6 yX6_append wsX6_append) := goodIn_app (goodIn_of _ (by decide +kernel)) ggX7_readBrackets_X6_append
theorem dX7_readBrackets_0 : decode cX7_readBrackets 0 = .ok (.aload_n 0, 1) := by decide +kernel
theorem dX7_readBrackets_1 : decode cX7_readBrackets 1 = .ok (.getfield 45, 3) := by decide +kernel
theorem dX7_readBrackets_4 : decode cX7_readBrackets 4 = .ok (.ifCond .ne 9, 3) := by decide +kernel
theorem dX7_readBrackets_7 : decode cX7_readBrackets 7 = .ok (.iload_n 3, 1) := by decide +kernel
theorem dX7_readBrackets_8 : decode cX7_readBrackets 8 = .ok (.bipush 6, 2) := by decide +kernel
theorem dX7_readBrackets_10 : decode cX7_readBrackets 10 = .ok (.if_icmp .le 9, 3) := by decide +kernel
theorem dX7_readBrackets_13 : decode cX7_readBrackets 13 = .ok (.aload_n 0, 1) := by decide +kernel
theorem dX7_readBrackets_14 : decode cX7_readBrackets 14 = .ok (.iconst 1, 1) := by decide +kernel
theorem dX7_readBrackets_15 : decode cX7_readBrackets 15 = .ok (.putfield 45, 3) := by decide +kernel
theorem dX7_readBrackets_18 : decode cX7_readBrackets 18 = .ok (.return_, 1) := by decide +kernel
theorem dX7_readBrackets_19 : decode cX7_readBrackets 19 = .ok (.aload_n 0, 1) := by decide +kernel
theorem dX7_readBrackets_20 : decode cX7_readBrackets 20 = .ok (.dup, 1) := by decide +kernel
theorem dX7_readBrackets_21 : decode cX7_readBrackets 21 = .ok (.getfield 42, 3) := by decide +kernel
theorem dX7_readBrackets_24 : decode cX7_readBrackets 24 = .ok (.iconst 1, 1) := by decide +kernel
theorem dX7_readBrackets_25 : decode cX7_readBrackets 25 = .ok (.iadd, 1) := by decide +kernel
theorem dX7_readBrackets_26 : decode cX7_readBrackets 26 = .ok (.putfield 42, 3) := by decide +kernel
theorem dX7_readBrackets_29 : decode cX7_readBrackets 29 = .ok (.aload_n 0, 1) := by decide +kernel
theorem dX7_readBrackets_30 : decode cX7_readBrackets 30 = .ok (.iload_n 3, 1) := by decide +kernel
theorem dX7_readBrackets_31 : decode cX7_readBrackets 31 = .ok (.invokevirtual 69, 3) := by decide +kernel
theorem dX7_readBrackets_34 : decode cX7_readBrackets 34 = .ok (.iload_n 1, 1) := by decide +kernel
theorem dX7_readBrackets_35 : decode cX7_readBrackets 35 = .ok (.bipush 40, 2) := by decide +kernel
theorem dX7_readBrackets_37 : decode cX7_readBrackets 37 = .ok (.if_icmp .eq 30, 3) := by decide +kernel
theorem dX7_readBrackets_40 : decode cX7_readBrackets 40 = .ok (.aload_n 0, 1) := by decide +kernel
theorem dX7_readBrackets_41 : decode cX7_readBrackets 41 = .ok (.bipush 44, 2) := by decide +kernel
theorem dX7_readBrackets_43 : decode cX7_readBrackets 43 = .ok (.invokevirtual 72, 3) := by decide +kernel
theorem dX7_readBrackets_46 : decode cX7_readBrackets 46 = .ok (.aload_n 0, 1) := by decide +kernel
theorem dX7_readBrackets_47 : decode cX7_readBrackets 47 = .ok (.getfield 45, 3) := by decide +kernel
theorem dX7_readBrackets_50 : decode cX7_readBrackets 50 = .ok (.ifCond .ne 17, 3) := by decide +kernel
theorem dX7_readBrackets_53 : decode cX7_readBrackets 53 = .ok (.aload_n 0, 1) := by decide +kernel
theorem dX7_readBrackets_54 : decode cX7_readBrackets 54 = .ok (.iload_n 3, 1) := by decide +kernel
theorem dX7_readBrackets_55 : decode cX7_readBrackets 55 = .ok (.invokevirtual 69, 3) := by decide +kernel
theorem dX7_readBrackets_58 : decode cX7_readBrackets 58 = .ok (.aload_n 0, 1) := by decide +kernel
theorem dX7_readBrackets_59 : decode cX7_readBrackets 59 = .ok (.getfield 12, 3) := by decide +kernel
theorem dX7_readBrackets_62 : decode cX7_readBrackets 62 = .ok (.iload_n 1, 1) := by decide +kernel
theorem dX7_readBrackets_63 : decode cX7_readBrackets 63 = .ok (.ineg, 1) := by decide +kernel
theorem dX7_readBrackets_64 : decode cX7_readBrackets 64 = .ok (.invokevirtual 97, 3) := by decide +kernel
theorem dX7_readBrackets_67 : decode cX7_readBrackets 67 = .ok (.aload_n 0, 1) := by decide +kernel
theorem dX7_readBrackets_68 : decode cX7_readBrackets 68 = .ok (.iload_n 2, 1) := by decide +kernel
theorem dX7_readBrackets_69 : decode cX7_readBrackets 69 = .ok (.invokevirtual 72, 3) := by decide +kernel
theorem dX7_readBrackets_72 : decode cX7_readBrackets 72 = .ok (.return_, 1) := by decide +kernel
set_option maxRecDepth 20000 in
theorem ggX7_readNumber_X7_isAtDigit : GoodIn wsX7_readNumber wsX7_isAtDigit := goodIn_r _ [8, 3, 2, 9, 1, 10, 11, 12, 13, 14, 15] (by decide +kernel) (by decide +kernel)
set_option maxRecDepth 20000 in
theorem gX7_readNumber_X7_isAtDigit : GoodIn wsX7_readNumber (wsV RX7 107 RX7 yX7_isAtDigit wsX7_isAtDigit) := goodIn_app (goodIn_of _ (by decide +kernel)) ggX7_readNumber_X7_isAtDigit
theorem dX7_readNumber_0 : decode cX7_readNumber 0 = .ok (.iconst 0, 1) := by decide +kernel
theorem dX7_readNumber_1 : decode cX7_readNumber 1 = .ok (.istore_n 1, 1) := by decide +kernel
theorem dX7_readNumber_2 : decode cX7_readNumber 2 = .ok (.iconst 0, 1) := by decide +kernel
theorem dX7_readNumber_3 : decode cX7_readNumber 3 = .ok (.istore_n 2, 1) := by decide +kernel
theorem dX7_readNumber_4 : decode cX7_readNumber 4 = .ok (.iload_n 2, 1) := by decide +kernel
theorem dX7_readNumber_5 : decode cX7_readNumber 5 = .ok (.iconst 3, 1) := by decide +kernel
theorem dX7_readNumber_6 : decode cX7_readNumber 6 = .ok (.if_icmp .ge 52, 3) := by decide +kernel
theorem dX7_readNumber_9 : decode cX7_readNumber 9 = .ok (.iload_n 2, 1) := by decide +kernel
theorem dX7_readNumber_10 : decode cX7_readNumber 10 = .ok (.ifCond .eq 7, 3) := by decide +kernel
theorem dX7_readNumber_13 : decode cX7_readNumber 13 = .ok (.iload_n 1, 1) := by decide +kernel
theorem dX7_readNumber_14 : decode cX7_readNumber 14 = .ok (.ifCond .le 44, 3) := by decide +kernel
theorem dX7_readNumber_17 : decode cX7_readNumber 17 = .ok (.aload_n 0, 1) := by decide +kernel
theorem dX7_readNumber_18 : decode cX7_readNumber 18 = .ok (.invokevirtual 107, 3) := by decide +kernel
theorem dX7_readNumber_21 : decode cX7_readNumber 21 = .ok (.ifCond .eq 37, 3) := by decide +kernel
theorem dX7_readNumber_24 : decode cX7_readNumber 24 = .ok (.bipush 10, 2) := by decide +kernel
theorem dX7_readNumber_26 : decode cX7_readNumber 26 = .ok (.iload_n 1, 1) := by decide +kernel
theorem dX7_readNumber_27 : decode cX7_readNumber 27 = .ok (.imul, 1) := by decide +kernel
theorem dX7_readNumber_28 : decode cX7_readNumber 28 = .ok (.aload_n 0, 1) := by decide +kernel
theorem dX7_readNumber_29 : decode cX7_readNumber 29 = .ok (.getfield 18, 3) := by decide +kernel
theorem dX7_readNumber_32 : decode cX7_readNumber 32 = .ok (.aload_n 0, 1) := by decide +kernel
theorem dX7_readNumber_33 : decode cX7_readNumber 33 = .ok (.getfield 42, 3) := by decide +kernel
theorem dX7_readNumber_36 : decode cX7_readNumber 36 = .ok (.iaload, 1) := by decide +kernel
theorem dX7_readNumber_37 : decode cX7_readNumber 37 = .ok (.iadd, 1) := by decide +kernel
theorem dX7_readNumber_38 : decode cX7_readNumber 38 = .ok (.bipush 48, 2) := by decide +kernel
theorem dX7_readNumber_40 : decode cX7_readNumber 40 = .ok (.isub, 1) := by decide +kernel
theorem dX7_readNumber_41 : decode cX7_readNumber 41 = .ok (.istore_n 1, 1) := by decide +kernel
theorem dX7_readNumber_42 : decode cX7_readNumber 42 = .ok (.aload_n 0, 1) := by decide +kernel
theorem dX7_readNumber_43 : decode cX7_readNumber 43 = .ok (.dup, 1) := by decide +kernel
theorem dX7_readNumber_44 : decode cX7_readNumber 44 = .ok (.getfield 42, 3) := by decide +kernel
theorem dX7_readNumber_47 : decode cX7_readNumber 47 = .ok (.iconst 1, 1) := by decide +kernel
theorem dX7_readNumber_48 : decode cX7_readNumber 48 = .ok (.iadd, 1) := by decide +kernel
theorem dX7_readNumber_49 : decode cX7_readNumber 49 = .ok (.putfield 42, 3) := by decide +kernel
theorem dX7_readNumber_52 : decode cX7_readNumber 52 = .ok (.iinc 2 1, 3) := by decide +kernel
theorem dX7_readNumber_55 : decode cX7_readNumber 55 = .ok (.goto (-51), 3) := by decide +kernel
theorem dX7_readNumber_58 : decode cX7_readNumber 58 = .ok (.aload_n 0, 1) := by decide +kernel
theorem dX7_readNumber_59 : decode cX7_readNumber 59 = .ok (.aload_n 0, 1) := by decide +kernel
theorem dX7_readNumber_60 : decode cX7_readNumber 60 = .ok (.getfield 45, 3) := by decide +kernel
theorem dX7_readNumber_63 : decode cX7_readNumber 63 = .ok (.ifCond .ne 7, 3) := by decide +kernel
theorem dX7_readNumber_66 : decode cX7_readNumber 66 = .ok (.iload_n 2, 1) := by decide +kernel
theorem dX7_readNumber_67 : decode cX7_readNumber 67 = .ok (.ifCond .ne 7, 3) := by decide +kernel
theorem dX7_readNumber_70 : decode cX7_readNumber 70 = .ok (.iconst 1, 1) := by decide +kernel
theorem dX7_readNumber_71 : decode cX7_readNumber 71 = .ok (.goto 4, 3) := by decide +kernel
theorem dX7_readNumber_74 : decode cX7_readNumber 74 = .ok (.iconst 0, 1) := by decide +kernel
theorem dX7_readNumber_75 : decode cX7_readNumber 75 = .ok (.putfield 45, 3) := by decide +kernel
theorem dX7_readNumber_78 : decode cX7_readNumber 78 = .ok (.iload_n 1, 1) := by decide +kernel
theorem dX7_readNumber_79 : decode cX7_readNumber 79 = .ok (.ireturn, 1) := by decide +kernel
theorem dX7_expect_0 : decode cX7_expect 0 = .ok (.aload_n 0, 1) := by decide +kernel
theorem dX7_expect_1 : decode cX7_expect 1 = .ok (.aload_n 0, 1) := by decide +kernel
theorem dX7_expect_2 : decode cX7_expect 2 = .ok (.getfield 45, 3) := by decide +kernel
theorem dX7_expect_5 : decode cX7_expect 5 = .ok (.ifCond .ne 27, 3) := by decide +kernel
theorem dX7_expect_8 : decode cX7_expect 8 = .ok (.aload_n 0, 1) := by decide +kernel
theorem dX7_expect_9 : decode cX7_expect 9 = .ok (.getfield 42, 3) := by decide +kernel
theorem dX7_expect_12 : decode cX7_expect 12 = .ok (.aload_n 0, 1) := by decide +kernel
theorem dX7_expect_13 : decode cX7_expect 13 = .ok (.getfield 41, 3) := by decide +kernel
theorem dX7_expect_16 : decode cX7_expect 16 = .ok (.if_icmp .ge 16, 3) := by decide +kernel
theorem dX7_expect_19 : decode cX7_expect 19 = .ok (.aload_n 0, 1) := by decide +kernel
theorem dX7_expect_20 : decode cX7_expect 20 = .ok (.getfield 18, 3) := by decide +kernel
theorem dX7_expect_23 : decode cX7_expect 23 = .ok (.aload_n 0, 1) := by decide +kernel
theorem dX7_expect_24 : decode cX7_expect 24 = .ok (.getfield 42, 3) := by decide +kernel
theorem dX7_expect_27 : decode cX7_expect 27 = .ok (.iaload, 1) := by decide +kernel
theorem dX7_expect_28 : decode cX7_expect 28 = .ok (.iload_n 1, 1) := by decide +kernel
theorem dX7_expect_29 : decode cX7_expect 29 = .ok (.if_icmp .eq 7, 3) := by decide +kernel
theorem dX7_expect_32 : decode cX7_expect 32 = .ok (.iconst 1, 1) := by decide +kernel
theorem dX7_expect_33 : decode cX7_expect 33 = .ok (.goto 4, 3) := by decide +kernel
theorem dX7_expect_36 : decode cX7_expect 36 = .ok (.iconst 0, 1) := by decide +kernel
theorem dX7_expect_37 : decode cX7_expect 37 = .ok (.putfield 45, 3) := by decide +kernel
theorem dX7_expect_40 : decode cX7_expect 40 = .ok (.aload_n 0, 1) := by decide +kernel
theorem dX7_expect_41 : decode cX7_expect 41 = .ok (.getfield 45, 3) := by decide +kernel
theorem dX7_expect_44 : decode cX7_expect 44 = .ok (.ifCond .ne 13, 3) := by decide +kernel
theorem dX7_expect_47 : decode cX7_expect 47 = .ok (.aload_n 0, 1) := by decide +kernel
theorem dX7_expect_48 : decode cX7_expect 48 = .ok (.dup, 1) := by decide +kernel
theorem dX7_expect_49 : decode cX7_expect 49 = .ok (.getfield 42, 3) := by decide +kernel
theorem dX7_expect_52 : decode cX7_expect 52 = .ok (.iconst 1, 1) := by decide +kernel
theorem dX7_expect_53 : decode cX7_expect 53 = .ok (.iadd, 1) := by decide +kernel
theorem dX7_expect_54 : decode cX7_expect 54 = .ok (.putfield 42, 3) := by decide +kernel
theorem dX7_expect_57 : decode cX7_expect 57 = .ok (.return_, 1) := by decide +kernel
theorem dX7_isAtDigit_0 : decode cX7_isAtDigit 0 = .ok (.aload_n 0, 1) := by decide +kernel
theorem dX7_isAtDigit_1 : decode cX7_isAtDigit 1 = .ok (.getfield 45, 3) := by decide +kernel
theorem dX7_isAtDigit_4 : decode cX7_isAtDigit 4 = .ok (.ifCond .ne 46, 3) := by decide +kernel
theorem dX7_isAtDigit_7 : decode cX7_isAtDigit 7 = .ok (.aload_n 0, 1) := by decide +kernel
theorem dX7_isAtDigit_8 : decode cX7_isAtDigit 8 = .ok (.getfield 42, 3) := by decide +kernel
theorem dX7_isAtDigit_11 : decode cX7_isAtDigit 11 = .ok (.aload_n 0, 1) := by decide +kernel
theorem dX7_isAtDigit_12 : decode cX7_isAtDigit 12 = .ok (.getfield 41, 3) := by decide +kernel
theorem dX7_isAtDigit_15 : decode cX7_isAtDigit 15 = .ok (.if_icmp .ge 35, 3) := by decide +kernel
theorem dX7_isAtDigit_18 : decode cX7_isAtDigit 18 = .ok (.aload_n 0, 1) := by decide +kernel
theorem dX7_isAtDigit_19 : decode cX7_isAtDigit 19 = .ok (.getfield 18, 3) := by decide +kernel
theorem dX7_isAtDigit_22 : decode cX7_isAtDigit 22 = .ok (.aload_n 0, 1) := by decide +kernel
theorem dX7_isAtDigit_23 : decode cX7_isAtDigit 23 = .ok (.getfield 42, 3) := by decide +kernel
theorem dX7_isAtDigit_26 : decode cX7_isAtDigit 26 = .ok (.iaload, 1) := by decide +kernel
theorem dX7_isAtDigit_27 : decode cX7_isAtDigit 27 = .ok (.bipush 48, 2) := by decide +kernel
theorem dX7_isAtDigit_29 : decode cX7_isAtDigit 29 = .ok (.if_icmp .lt 21, 3) := by decide +kernel
theorem dX7_isAtDigit_32 : decode cX7_isAtDigit 32 = .ok (.aload_n 0, 1) := by decide +kernel
theorem dX7_isAtDigit_33 : decode cX7_isAtDigit 33 = .ok (.getfield 18, 3) := by decide +kernel
theorem dX7_isAtDigit_36 : decode cX7_isAtDigit 36 = .ok (.aload_n 0, 1) := by decide +kernel
theorem dX7_isAtDigit_37 : decode cX7_isAtDigit 37 = .ok (.getfield 42, 3) := by decide +kernel
theorem dX7_isAtDigit_40 : decode cX7_isAtDigit 40 = .ok (.iaload, 1) := by decide +kernel
theorem dX7_isAtDigit_41 : decode cX7_isAtDigit 41 = .ok (.bipush 57, 2) := by decide +kernel
theorem dX7_isAtDigit_43 : decode cX7_isAtDigit 43 = .ok (.if_icmp .gt 7, 3) := by decide +kernel
theorem dX7_isAtDigit_46 : decode cX7_isAtDigit 46 = .ok (.iconst 1, 1) := by decide +kernel
theorem dX7_isAtDigit_47 : decode cX7_isAtDigit 47 = .ok (.goto 4, 3) := by decide +kernel
theorem dX7_isAtDigit_50 : decode cX7_isAtDigit 50 = .ok (.iconst 0, 1) := by decide +kernel
theorem dX7_isAtDigit_51 : decode cX7_isAtDigit 51 = .ok (.ireturn, 1) := by decide +kernel
theorem dX7_next_0 : decode cX7_next 0 = .ok (.aload_n 0, 1) := by decide +kernel
theorem dX7_next_1 : decode cX7_next 1 = .ok (.getfield 42, 3) := by decide +kernel
theorem dX7_next_4 : decode cX7_next 4 = .ok (.aload_n 0, 1) := by decide +kernel
theorem dX7_next_5 : decode cX7_next 5 = .ok (.getfield 41, 3) := by decide +kernel
theorem dX7_next_8 : decode cX7_next 8 = .ok (.if_icmp .ge 15, 3) := by decide +kernel
theorem dX7_next_11 : decode cX7_next 11 = .ok (.aload_n 0, 1) := by decide +kernel
theorem dX7_next_12 : decode cX7_next 12 = .ok (.getfield 18, 3) := by decide +kernel
theorem dX7_next_15 : decode cX7_next 15 = .ok (.aload_n 0, 1) := by decide +kernel
theorem dX7_next_16 : decode cX7_next 16 = .ok (.getfield 42, 3) := by decide +kernel
theorem dX7_next_19 : decode cX7_next 19 = .ok (.iaload, 1) := by decide +kernel
theorem dX7_next_20 : decode cX7_next 20 = .ok (.goto 6, 3) := by decide +kernel
theorem dX7_next_23 : decode cX7_next 23 = .ok (.sipush 1000, 3) := by decide +kernel
theorem dX7_next_26 : decode cX7_next 26 = .ok (.ireturn, 1) := by decide +kernel
theorem dX8_init_0 : decode cX8_init 0 = .ok (.aload_n 0, 1) := by decide +kernel
theorem dX8_init_1 : decode cX8_init 1 = .ok (.invokespecial 3, 3) := by decide +kernel
theorem dX8_init_4 : decode cX8_init 4 = .ok (.aload_n 0, 1) := by decide +kernel
theorem dX8_init_5 : decode cX8_init 5 = .ok (.bipush 120, 2) := by decide +kernel
theorem dX8_init_7 : decode cX8_init 7 = .ok (.newarray .int, 2) := by decide +kernel
theorem dX8_init_9 : decode cX8_init 9 = .ok (.putfield 9, 3) := by decide +kernel
theorem dX8_init_12 : decode cX8_init 12 = .ok (.return_, 1) := by decide +kernel
theorem dX8_clear_0 : decode cX8_clear 0 = .ok (.aload_n 0, 1) := by decide +kernel
theorem dX8_clear_1 : decode cX8_clear 1 = .ok (.aconst_null, 1) := by decide +kernel
theorem dX8_clear_2 : decode cX8_clear 2 = .ok (.putfield 15, 3) := by decide +kernel
theorem dX8_clear_5 : decode cX8_clear 5 = .ok (.aload_n 0, 1) := by decide +kernel
theorem dX8_clear_6 : decode cX8_clear 6 = .ok (.iconst 0, 1) := by decide +kernel
theorem dX8_clear_7 : decode cX8_clear 7 = .ok (.putfield 19, 3) := by decide +kernel
theorem dX8_clear_10 : decode cX8_clear 10 = .ok (.aload_n 0, 1) := by decide +kernel
theorem dX8_clear_11 : decode cX8_clear 11 = .ok (.iconst 0, 1) := by decide +kernel
theorem dX8_clear_12 : decode cX8_clear 12 = .ok (.putfield 23, 3) := by decide +kernel
theorem dX8_clear_15 : decode cX8_clear 15 = .ok (.return_, 1) := by decide +kernel
set_option maxRecDepth 20000 in
theorem ggX8_holdJudge_X8_clear : GoodIn wsX8_holdJudge wsX8_clear := goodIn_r _ [6, 1, 7, 8, 9, 10, 11, 12, 13] (by decide +kernel) (by decide +kernel)
set_option maxRecDepth 20000 in
theorem gX8_holdJudge_X8_clear : GoodIn wsX8_holdJudge (wsV RX8 27 RX8 yX8_clear wsX8_clear) := goodIn_app (goodIn_of _ (by decide +kernel)) ggX8_holdJudge_X8_clear
theorem dX8_holdJudge_0 : decode cX8_holdJudge 0 = .ok (.aload_n 0, 1) := by decide +kernel
theorem dX8_holdJudge_1 : decode cX8_holdJudge 1 = .ok (.invokevirtual 27, 3) := by decide +kernel
theorem dX8_holdJudge_4 : decode cX8_holdJudge 4 = .ok (.aload_n 0, 1) := by decide +kernel
theorem dX8_holdJudge_5 : decode cX8_holdJudge 5 = .ok (.aload_n 1, 1) := by decide +kernel
theorem dX8_holdJudge_6 : decode cX8_holdJudge 6 = .ok (.putfield 15, 3) := by decide +kernel
theorem dX8_holdJudge_9 : decode cX8_holdJudge 9 = .ok (.return_, 1) := by decide +kernel
set_option maxRecDepth 20000 in
theorem ggX8_holdRow_X8_clear : GoodIn wsX8_holdRow wsX8_clear := goodIn_r _ [9, 10, 1, 3, 11, 12, 13, 14, 15] (by decide +kernel) (by decide +kernel)
set_option maxRecDepth 20000 in
theorem gX8_holdRow_X8_clear : GoodIn wsX8_holdRow (wsV RX8 27 RX8 yX8_clear wsX8_clear) := goodIn_app (goodIn_of _ (by decide +kernel)) ggX8_holdRow_X8_clear
theorem dX8_holdRow_0 : decode cX8_holdRow 0 = .ok (.aload_n 0, 1) := by decide +kernel
theorem dX8_holdRow_1 : decode cX8_holdRow 1 = .ok (.invokevirtual 27, 3) := by decide +kernel
theorem dX8_holdRow_4 : decode cX8_holdRow 4 = .ok (.aload_n 0, 1) := by decide +kernel
theorem dX8_holdRow_5 : decode cX8_holdRow 5 = .ok (.iconst 1, 1) := by decide +kernel
theorem dX8_holdRow_6 : decode cX8_holdRow 6 = .ok (.putfield 19, 3) := by decide +kernel
theorem dX8_holdRow_9 : decode cX8_holdRow 9 = .ok (.aload_n 0, 1) := by decide +kernel
theorem dX8_holdRow_10 : decode cX8_holdRow 10 = .ok (.iload_n 1, 1) := by decide +kernel
theorem dX8_holdRow_11 : decode cX8_holdRow 11 = .ok (.putfield 30, 3) := by decide +kernel
theorem dX8_holdRow_14 : decode cX8_holdRow 14 = .ok (.aload_n 0, 1) := by decide +kernel
theorem dX8_holdRow_15 : decode cX8_holdRow 15 = .ok (.iload_n 2, 1) := by decide +kernel
theorem dX8_holdRow_16 : decode cX8_holdRow 16 = .ok (.putfield 23, 3) := by decide +kernel
theorem dX8_holdRow_19 : decode cX8_holdRow 19 = .ok (.iconst 0, 1) := by decide +kernel
theorem dX8_holdRow_20 : decode cX8_holdRow 20 = .ok (.istore_n 3, 1) := by decide +kernel
theorem dX8_holdRow_21 : decode cX8_holdRow 21 = .ok (.iload_n 3, 1) := by decide +kernel
theorem dX8_holdRow_22 : decode cX8_holdRow 22 = .ok (.bipush 120, 2) := by decide +kernel
theorem dX8_holdRow_24 : decode cX8_holdRow 24 = .ok (.if_icmp .ge 16, 3) := by decide +kernel
theorem dX8_holdRow_27 : decode cX8_holdRow 27 = .ok (.aload_n 0, 1) := by decide +kernel
theorem dX8_holdRow_28 : decode cX8_holdRow 28 = .ok (.getfield 9, 3) := by decide +kernel
theorem dX8_holdRow_31 : decode cX8_holdRow 31 = .ok (.iload_n 3, 1) := by decide +kernel
theorem dX8_holdRow_32 : decode cX8_holdRow 32 = .ok (.iconst 0, 1) := by decide +kernel
theorem dX8_holdRow_33 : decode cX8_holdRow 33 = .ok (.iastore, 1) := by decide +kernel
theorem dX8_holdRow_34 : decode cX8_holdRow 34 = .ok (.iinc 3 1, 3) := by decide +kernel
theorem dX8_holdRow_37 : decode cX8_holdRow 37 = .ok (.goto (-16), 3) := by decide +kernel
theorem dX8_holdRow_40 : decode cX8_holdRow 40 = .ok (.return_, 1) := by decide +kernel
theorem dX8_holdsNothing_0 : decode cX8_holdsNothing 0 = .ok (.aload_n 0, 1) := by decide +kernel
theorem dX8_holdsNothing_1 : decode cX8_holdsNothing 1 = .ok (.getfield 15, 3) := by decide +kernel
theorem dX8_holdsNothing_4 : decode cX8_holdsNothing 4 = .ok (.ifnonnull 14, 3) := by decide +kernel
theorem dX8_holdsNothing_7 : decode cX8_holdsNothing 7 = .ok (.aload_n 0, 1) := by decide +kernel
theorem dX8_holdsNothing_8 : decode cX8_holdsNothing 8 = .ok (.getfield 19, 3) := by decide +kernel
theorem dX8_holdsNothing_11 : decode cX8_holdsNothing 11 = .ok (.ifCond .ne 7, 3) := by decide +kernel
theorem dX8_holdsNothing_14 : decode cX8_holdsNothing 14 = .ok (.iconst 1, 1) := by decide +kernel
theorem dX8_holdsNothing_15 : decode cX8_holdsNothing 15 = .ok (.goto 4, 3) := by decide +kernel
theorem dX8_holdsNothing_18 : decode cX8_holdsNothing 18 = .ok (.iconst 0, 1) := by decide +kernel
theorem dX8_holdsNothing_19 : decode cX8_holdsNothing 19 = .ok (.ireturn, 1) := by decide +kernel
theorem dX8_refusalAsRow_0 : decode cX8_refusalAsRow 0 = .ok (.aload_n 0, 1) := by decide +kernel
theorem dX8_refusalAsRow_1 : decode cX8_refusalAsRow 1 = .ok (.getfield 19, 3) := by decide +kernel
theorem dX8_refusalAsRow_4 : decode cX8_refusalAsRow 4 = .ok (.ifCond .eq 5, 3) := by decide +kernel
theorem dX8_refusalAsRow_7 : decode cX8_refusalAsRow 7 = .ok (.iconst 0, 1) := by decide +kernel
theorem dX8_refusalAsRow_8 : decode cX8_refusalAsRow 8 = .ok (.ireturn, 1) := by decide +kernel
theorem dX8_refusalAsRow_9 : decode cX8_refusalAsRow 9 = .ok (.aload_n 0, 1) := by decide +kernel
theorem dX8_refusalAsRow_10 : decode cX8_refusalAsRow 10 = .ok (.getfield 15, 3) := by decide +kernel
theorem dX8_refusalAsRow_13 : decode cX8_refusalAsRow 13 = .ok (.ifnonnull 8, 3) := by decide +kernel
theorem dX8_refusalAsRow_16 : decode cX8_refusalAsRow 16 = .ok (.bipush (-11), 2) := by decide +kernel
theorem dX8_refusalAsRow_18 : decode cX8_refusalAsRow 18 = .ok (.goto 5, 3) := by decide +kernel
theorem dX8_refusalAsRow_21 : decode cX8_refusalAsRow 21 = .ok (.bipush (-12), 2) := by decide +kernel
theorem dX8_refusalAsRow_23 : decode cX8_refusalAsRow 23 = .ok (.ireturn, 1) := by decide +kernel
set_option maxRecDepth 20000 in
theorem ggX8_refusalAsText_X8_refusalAsRow : GoodIn wsX8_refusalAsText wsX8_refusalAsRow := goodIn_r _ [7, 1, 8, 9, 10, 11, 12, 13] (by decide +kernel) (by decide +kernel)
set_option maxRecDepth 20000 in
theorem gX8_refusalAsText_X8_refusalAsRow : GoodIn wsX8_refusalAsText (wsV RX8 33 RX8 yX8_refusalAsRow wsX8_refusalAsRow) := goodIn_app (goodIn_of _ (by decide +kernel)) ggX8_refusalAsText_X8_refusalAsRow
theorem dX8_refusalAsText_0 : decode cX8_refusalAsText 0 = .ok (.aload_n 0, 1) := by decide +kernel
theorem dX8_refusalAsText_1 : decode cX8_refusalAsText 1 = .ok (.getfield 19, 3) := by decide +kernel
theorem dX8_refusalAsText_4 : decode cX8_refusalAsText 4 = .ok (.ifCond .eq 15, 3) := by decide +kernel
theorem dX8_refusalAsText_7 : decode cX8_refusalAsText 7 = .ok (.aload_n 0, 1) := by decide +kernel
theorem dX8_refusalAsText_8 : decode cX8_refusalAsText 8 = .ok (.getfield 30, 3) := by decide +kernel
theorem dX8_refusalAsText_11 : decode cX8_refusalAsText 11 = .ok (.ifCond .eq 8, 3) := by decide +kernel
theorem dX8_refusalAsText_14 : decode cX8_refusalAsText 14 = .ok (.bipush (-12), 2) := by decide +kernel
theorem dX8_refusalAsText_16 : decode cX8_refusalAsText 16 = .ok (.goto 7, 3) := by decide +kernel
theorem dX8_refusalAsText_19 : decode cX8_refusalAsText 19 = .ok (.aload_n 0, 1) := by decide +kernel
theorem dX8_refusalAsText_20 : decode cX8_refusalAsText 20 = .ok (.invokevirtual 33, 3) := by decide +kernel
theorem dX8_refusalAsText_23 : decode cX8_refusalAsText 23 = .ok (.ireturn, 1) := by decide +kernel
theorem dX8_refusalAsJudge_0 : decode cX8_refusalAsJudge 0 = .ok (.aload_n 0, 1) := by decide +kernel
theorem dX8_refusalAsJudge_1 : decode cX8_refusalAsJudge 1 = .ok (.getfield 19, 3) := by decide +kernel
theorem dX8_refusalAsJudge_4 : decode cX8_refusalAsJudge 4 = .ok (.ifCond .eq 8, 3) := by decide +kernel
theorem dX8_refusalAsJudge_7 : decode cX8_refusalAsJudge 7 = .ok (.bipush (-12), 2) := by decide +kernel
theorem dX8_refusalAsJudge_9 : decode cX8_refusalAsJudge 9 = .ok (.goto 5, 3) := by decide +kernel
theorem dX8_refusalAsJudge_12 : decode cX8_refusalAsJudge 12 = .ok (.bipush (-11), 2) := by decide +kernel
theorem dX8_refusalAsJudge_14 : decode cX8_refusalAsJudge 14 = .ok (.ireturn, 1) := by decide +kernel
theorem dX8_hasPlaces_0 : decode cX8_hasPlaces 0 = .ok (.iload_n 2, 1) := by decide +kernel
theorem dX8_hasPlaces_1 : decode cX8_hasPlaces 1 = .ok (.ifCond .lt 29, 3) := by decide +kernel
theorem dX8_hasPlaces_4 : decode cX8_hasPlaces 4 = .ok (.iload_n 1, 1) := by decide +kernel
theorem dX8_hasPlaces_5 : decode cX8_hasPlaces 5 = .ok (.ifCond .lt 25, 3) := by decide +kernel
theorem dX8_hasPlaces_8 : decode cX8_hasPlaces 8 = .ok (.iload_n 1, 1) := by decide +kernel
theorem dX8_hasPlaces_9 : decode cX8_hasPlaces 9 = .ok (.aload_n 0, 1) := by decide +kernel
theorem dX8_hasPlaces_10 : decode cX8_hasPlaces 10 = .ok (.getfield 23, 3) := by decide +kernel
theorem dX8_hasPlaces_13 : decode cX8_hasPlaces 13 = .ok (.if_icmp .gt 17, 3) := by decide +kernel
theorem dX8_hasPlaces_16 : decode cX8_hasPlaces 16 = .ok (.iload_n 2, 1) := by decide +kernel
theorem dX8_hasPlaces_17 : decode cX8_hasPlaces 17 = .ok (.aload_n 0, 1) := by decide +kernel
theorem dX8_hasPlaces_18 : decode cX8_hasPlaces 18 = .ok (.getfield 23, 3) := by decide +kernel
theorem dX8_hasPlaces_21 : decode cX8_hasPlaces 21 = .ok (.iload_n 1, 1) := by decide +kernel
theorem dX8_hasPlaces_22 : decode cX8_hasPlaces 22 = .ok (.isub, 1) := by decide +kernel
theorem dX8_hasPlaces_23 : decode cX8_hasPlaces 23 = .ok (.if_icmp .gt 7, 3) := by decide +kernel
theorem dX8_hasPlaces_26 : decode cX8_hasPlaces 26 = .ok (.iconst 1, 1) := by decide +kernel
theorem dX8_hasPlaces_27 : decode cX8_hasPlaces 27 = .ok (.goto 4, 3) := by decide +kernel
theorem dX8_hasPlaces_30 : decode cX8_hasPlaces 30 = .ok (.iconst 0, 1) := by decide +kernel
theorem dX8_hasPlaces_31 : decode cX8_hasPlaces 31 = .ok (.ireturn, 1) := by decide +kernel
set_option maxRecDepth 20000 in
theorem ggX8_holdsMarks_X11_within : GoodIn wsX8_holdsMarks wsX11_within := goodIn_r _ [5] (by decide +kernel) (by decide +kernel)
set_option maxRecDepth 20000 in
theorem gX8_holdsMarks_X11_within_n37 : GoodIn wsX8_holdsMarks (wsX11_within) := ggX8_holdsMarks_X11_within
theorem dX8_holdsMarks_0 : decode cX8_holdsMarks 0 = .ok (.aload_n 0, 1) := by decide +kernel
theorem dX8_holdsMarks_1 : decode cX8_holdsMarks 1 = .ok (.getfield 23, 3) := by decide +kernel
theorem dX8_holdsMarks_4 : decode cX8_holdsMarks 4 = .ok (.bipush 7, 2) := by decide +kernel
theorem dX8_holdsMarks_6 : decode cX8_holdsMarks 6 = .ok (.if_icmp .gt 7, 3) := by decide +kernel
