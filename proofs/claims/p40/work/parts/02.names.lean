/-! ===== BEGIN printed: names, fields, word lists, decode rows ===== -/
def RX0 : String := "CombTable$Image"
def TX0 : u_T := fun k => match k with
  | 0 => ("CombTable$Image", "kept", "Z", false)
  | 1 => ("CombTable$Image", "table", "LCombTable$Table;", true)
  | 2 => ("CombTable$Image", "size", "I", false)
  | 3 => ("CombTable$Image", "whos", "[I", true)
  | 4 => ("CombTable$Image", "sorts", "[I", true)
  | 5 => ("CombTable$Image", "minutes", "LCombTable$Minutes;", true)
  | _ => ("CombTable$Image", "sentence", "LCombTable$Sentence;", true)
def tyX0 : Nat → FieldType := fun k => match k with
  | 0 => .boolean
  | 1 => .object "CombTable$Table"
  | 2 => .int
  | 3 => .array .int
  | 4 => .array .int
  | 5 => .object "CombTable$Minutes"
  | _ => .object "CombTable$Sentence"
abbrev wsX00 : List Cond := u_ws RX0 TX0 7
theorem nmX0 : ∀ a, a < 7 → ∀ b, b < 7 → a ≠ b → (TX0 a).2.1 ≠ (TX0 b).2.1 := by decide +kernel
theorem tyX0_ok : ∀ k, k < 7 → parseFieldDescriptor (TX0 k).2.2.1 = some (tyX0 k) := by decide +kernel
abbrev cX0_init : ByteArray := prog_2_method_1_code
def yX0_init : MethodName := ⟨RX0, "<init>", "()V"⟩
def RX1 : String := "CombTable$Minutes"
def TX1 : u_T := fun k => match k with
  | 0 => ("CombTable$Minutes", "size", "I", false)
  | 1 => ("CombTable$Minutes", "torn", "I", false)
  | 2 => ("CombTable$Minutes", "whos", "[I", true)
  | _ => ("CombTable$Minutes", "sorts", "[I", true)
def tyX1 : Nat → FieldType := fun k => match k with
  | 0 => .int
  | 1 => .int
  | 2 => .array .int
  | _ => .array .int
abbrev wsX10 : List Cond := u_ws RX1 TX1 4
theorem nmX1 : ∀ a, a < 4 → ∀ b, b < 4 → a ≠ b → (TX1 a).2.1 ≠ (TX1 b).2.1 := by decide +kernel
theorem tyX1_ok : ∀ k, k < 4 → parseFieldDescriptor (TX1 k).2.2.1 = some (tyX1 k) := by decide +kernel
abbrev cX1_init : ByteArray := prog_3_method_1_code
def yX1_init : MethodName := ⟨RX1, "<init>", "()V"⟩
abbrev cX1_clear : ByteArray := prog_3_method_2_code
def yX1_clear : MethodName := ⟨RX1, "clear", "()V"⟩
abbrev cX1_whoAt : ByteArray := prog_3_method_4_code
def yX1_whoAt : MethodName := ⟨RX1, "whoAt", "(I)I"⟩
abbrev cX1_kindAt : ByteArray := prog_3_method_5_code
def yX1_kindAt : MethodName := ⟨RX1, "kindAt", "(I)I"⟩
abbrev cX1_ways : ByteArray := prog_3_method_6_code
def yX1_ways : MethodName := ⟨RX1, "ways", "(LCombTable$Table;)J"⟩
def RX2 : String := "CombTable$Repair"
def TX2 : u_T := fun k => match k with
  | 0 => ("CombTable$Repair", "fewest", "I", false)
  | 1 => ("CombTable$Repair", "outs", "I", false)
  | 2 => ("CombTable$Repair", "leftOut", "I", false)
  | 3 => ("CombTable$Repair", "orders", "I", false)
  | 4 => ("CombTable$Repair", "row", "[I", true)
  | 5 => ("CombTable$Repair", "first", "[I", true)
  | _ => ("CombTable$Repair", "firstSize", "I", false)
def tyX2 : Nat → FieldType := fun k => match k with
  | 0 => .int
  | 1 => .int
  | 2 => .int
  | 3 => .int
  | 4 => .array .int
  | 5 => .array .int
  | _ => .int
abbrev wsX20 : List Cond := u_ws RX2 TX2 7
theorem nmX2 : ∀ a, a < 7 → ∀ b, b < 7 → a ≠ b → (TX2 a).2.1 ≠ (TX2 b).2.1 := by decide +kernel
theorem tyX2_ok : ∀ k, k < 7 → parseFieldDescriptor (TX2 k).2.2.1 = some (tyX2 k) := by decide +kernel
abbrev cX2_init : ByteArray := prog_4_method_1_code
def yX2_init : MethodName := ⟨RX2, "<init>", "()V"⟩
abbrev cX2_arrange : ByteArray := prog_4_method_4_code
def yX2_arrange : MethodName := ⟨RX2, "arrange", "(LCombTable$Minutes;LCombTable$Talk;)I"⟩
abbrev cX2_orderFrom : ByteArray := prog_4_method_5_code
def yX2_orderFrom : MethodName := ⟨RX2, "orderFrom", "(LCombTable$Minutes;LCombTable$Talk;II)V"⟩
def RX3 : String := "CombTable$Search"
def TX3 : u_T := fun k => match k with
  | 0 => ("CombTable$Search", "aimed", "I", false)
  | 1 => ("CombTable$Search", "state", "I", false)
  | 2 => ("CombTable$Search", "silent", "I", false)
  | 3 => ("CombTable$Search", "side", "I", false)
  | 4 => ("CombTable$Search", "path", "[I", true)
  | 5 => ("CombTable$Search", "found", "[I", true)
  | _ => ("CombTable$Search", "foundSize", "I", false)
def tyX3 : Nat → FieldType := fun k => match k with
  | 0 => .int
  | 1 => .int
  | 2 => .int
  | 3 => .int
  | 4 => .array .int
  | 5 => .array .int
  | _ => .int
abbrev wsX30 : List Cond := u_ws RX3 TX3 7
theorem nmX3 : ∀ a, a < 7 → ∀ b, b < 7 → a ≠ b → (TX3 a).2.1 ≠ (TX3 b).2.1 := by decide +kernel
theorem tyX3_ok : ∀ k, k < 7 → parseFieldDescriptor (TX3 k).2.2.1 = some (tyX3 k) := by decide +kernel
abbrev cX3_init : ByteArray := prog_5_method_1_code
def yX3_init : MethodName := ⟨RX3, "<init>", "()V"⟩
def RX4 : String := "CombTable$Sentence"
def TX4 : u_T := fun k => match k with
  | 0 => ("CombTable$Sentence", "ones", "I", false)
  | 1 => ("CombTable$Sentence", "length", "I", false)
  | 2 => ("CombTable$Sentence", "steps", "[I", true)
  | 3 => ("CombTable$Sentence", "signs", "[I", true)
  | _ => ("CombTable$Sentence", "values", "[I", true)
def tyX4 : Nat → FieldType := fun k => match k with
  | 0 => .int
  | 1 => .int
  | 2 => .array .int
  | 3 => .array .int
  | _ => .array .int
abbrev wsX40 : List Cond := u_ws RX4 TX4 5
theorem nmX4 : ∀ a, a < 5 → ∀ b, b < 5 → a ≠ b → (TX4 a).2.1 ≠ (TX4 b).2.1 := by decide +kernel
theorem tyX4_ok : ∀ k, k < 5 → parseFieldDescriptor (TX4 k).2.2.1 = some (tyX4 k) := by decide +kernel
abbrev cX4_init : ByteArray := prog_6_method_1_code
def yX4_init : MethodName := ⟨RX4, "<init>", "()V"⟩
abbrev cX4_clear : ByteArray := prog_6_method_2_code
def yX4_clear : MethodName := ⟨RX4, "clear", "()V"⟩
abbrev cX4_holds : ByteArray := prog_6_method_5_code
def yX4_holds : MethodName := ⟨RX4, "holds", "(LCombTable$Talk;I)Z"⟩
abbrev cX4_isSo : ByteArray := prog_6_method_6_code
def yX4_isSo : MethodName := ⟨RX4, "isSo", "(LCombTable$Talk;II)Z"⟩
abbrev cX4_compares : ByteArray := prog_6_method_7_code
def yX4_compares : MethodName := ⟨RX4, "compares", "(III)Z"⟩
def RX5 : String := "CombTable$Table"
def TX5 : u_T := fun k => match k with
  | 0 => ("CombTable$Table", "lines", "I", false)
  | 1 => ("CombTable$Table", "people", "I", false)
  | 2 => ("CombTable$Table", "whoNames", "[J", true)
  | 3 => ("CombTable$Table", "ranks", "[I", true)
  | 4 => ("CombTable$Table", "kinds", "I", false)
  | 5 => ("CombTable$Table", "kindNames", "[J", true)
  | 6 => ("CombTable$Table", "opening", "[I", true)
  | 7 => ("CombTable$Table", "does", "[I", true)
  | 8 => ("CombTable$Table", "spans", "[I", true)
  | 9 => ("CombTable$Table", "answered", "[I", true)
  | 10 => ("CombTable$Table", "mays", "I", false)
  | 11 => ("CombTable$Table", "combs", "I", false)
  | 12 => ("CombTable$Table", "comb", "[I", true)
  | 13 => ("CombTable$Table", "combTold", "Z", false)
  | 14 => ("CombTable$Table", "byRanks", "Z", false)
  | _ => ("CombTable$Table", "twice", "Z", false)
def tyX5 : Nat → FieldType := fun k => match k with
  | 0 => .int
  | 1 => .int
  | 2 => .array .long
  | 3 => .array .int
  | 4 => .int
  | 5 => .array .long
  | 6 => .array .int
  | 7 => .array .int
  | 8 => .array .int
  | 9 => .array .int
  | 10 => .int
  | 11 => .int
  | 12 => .array .int
  | 13 => .boolean
  | 14 => .boolean
  | _ => .boolean
abbrev wsX50 : List Cond := u_ws RX5 TX5 16
theorem nmX5 : ∀ a, a < 16 → ∀ b, b < 16 → a ≠ b → (TX5 a).2.1 ≠ (TX5 b).2.1 := by decide +kernel
theorem tyX5_ok : ∀ k, k < 16 → parseFieldDescriptor (TX5 k).2.2.1 = some (tyX5 k) := by decide +kernel
abbrev cX5_init : ByteArray := prog_7_method_1_code
def yX5_init : MethodName := ⟨RX5, "<init>", "()V"⟩
abbrev cX5_clear : ByteArray := prog_7_method_2_code
def yX5_clear : MethodName := ⟨RX5, "clear", "()V"⟩
abbrev cX5_copy : ByteArray := prog_7_method_3_code
def yX5_copy : MethodName := ⟨RX5, "copy", "(LCombTable$Table;)V"⟩
abbrev cX5_hasWho : ByteArray := prog_7_method_4_code
def yX5_hasWho : MethodName := ⟨RX5, "hasWho", "(I)Z"⟩
abbrev cX5_hasKind : ByteArray := prog_7_method_5_code
def yX5_hasKind : MethodName := ⟨RX5, "hasKind", "(I)Z"⟩
abbrev cX5_whoNamed : ByteArray := prog_7_method_6_code
def yX5_whoNamed : MethodName := ⟨RX5, "whoNamed", "(J)I"⟩
abbrev cX5_kindNamed : ByteArray := prog_7_method_7_code
def yX5_kindNamed : MethodName := ⟨RX5, "kindNamed", "(J)I"⟩
abbrev cX5_mayAnswer : ByteArray := prog_7_method_8_code
def yX5_mayAnswer : MethodName := ⟨RX5, "mayAnswer", "(II)Z"⟩
abbrev cX5_openingOf : ByteArray := prog_7_method_9_code
def yX5_openingOf : MethodName := ⟨RX5, "openingOf", "(I)I"⟩
abbrev cX5_doingOf : ByteArray := prog_7_method_10_code
def yX5_doingOf : MethodName := ⟨RX5, "doingOf", "(I)I"⟩
abbrev cX5_spanOf : ByteArray := prog_7_method_11_code
def yX5_spanOf : MethodName := ⟨RX5, "spanOf", "(I)I"⟩
abbrev cX5_tell : ByteArray := prog_7_method_12_code
def yX5_tell : MethodName := ⟨RX5, "tell", "(II)I"⟩
abbrev cX5_reach : ByteArray := prog_7_method_13_code
def yX5_reach : MethodName := ⟨RX5, "reach", "(II)I"⟩
abbrev cX5_read : ByteArray := prog_7_method_14_code
def yX5_read : MethodName := ⟨RX5, "read", "(LCombTable$Tape;)Z"⟩
abbrev cX5_readLine : ByteArray := prog_7_method_15_code
def yX5_readLine : MethodName := ⟨RX5, "readLine", "(LCombTable$Tape;)Z"⟩
abbrev cX5_isNewName : ByteArray := prog_7_method_16_code
def yX5_isNewName : MethodName := ⟨RX5, "isNewName", "(LCombTable$Tape;)Z"⟩
abbrev cX5_readWho : ByteArray := prog_7_method_17_code
def yX5_readWho : MethodName := ⟨RX5, "readWho", "(LCombTable$Tape;)Z"⟩
abbrev cX5_readKind : ByteArray := prog_7_method_18_code
def yX5_readKind : MethodName := ⟨RX5, "readKind", "(LCombTable$Tape;)Z"⟩
abbrev cX5_readMay : ByteArray := prog_7_method_19_code
def yX5_readMay : MethodName := ⟨RX5, "readMay", "(LCombTable$Tape;)Z"⟩
abbrev cX5_readComb : ByteArray := prog_7_method_20_code
def yX5_readComb : MethodName := ⟨RX5, "readComb", "(LCombTable$Tape;)Z"⟩
def RX6 : String := "CombTable$Talk"
def TX6 : u_T := fun k => match k with
  | 0 => ("CombTable$Talk", "table", "LCombTable$Table;", false)
  | 1 => ("CombTable$Talk", "size", "I", false)
  | 2 => ("CombTable$Talk", "begun", "I", false)
  | 3 => ("CombTable$Talk", "why", "I", false)
  | 4 => ("CombTable$Talk", "speakers", "[I", true)
  | 5 => ("CombTable$Talk", "sorts", "[I", true)
  | 6 => ("CombTable$Talk", "heard", "[I", true)
  | 7 => ("CombTable$Talk", "lines", "[I", true)
  | 8 => ("CombTable$Talk", "depths", "[I", true)
  | _ => ("CombTable$Talk", "states", "[I", true)
def tyX6 : Nat → FieldType := fun k => match k with
  | 0 => .object "CombTable$Table"
  | 1 => .int
  | 2 => .int
  | 3 => .int
  | 4 => .array .int
  | 5 => .array .int
  | 6 => .array .int
  | 7 => .array .int
  | 8 => .array .int
  | _ => .array .int
abbrev wsX60 : List Cond := u_ws RX6 TX6 10
theorem nmX6 : ∀ a, a < 10 → ∀ b, b < 10 → a ≠ b → (TX6 a).2.1 ≠ (TX6 b).2.1 := by decide +kernel
theorem tyX6_ok : ∀ k, k < 10 → parseFieldDescriptor (TX6 k).2.2.1 = some (tyX6 k) := by decide +kernel
abbrev cX6_init : ByteArray := prog_8_method_1_code
def yX6_init : MethodName := ⟨RX6, "<init>", "(I)V"⟩
abbrev cX6_begin : ByteArray := prog_8_method_2_code
def yX6_begin : MethodName := ⟨RX6, "begin", "(LCombTable$Table;)V"⟩
abbrev cX6_has : ByteArray := prog_8_method_4_code
def yX6_has : MethodName := ⟨RX6, "has", "(I)Z"⟩
abbrev cX6_heardBy : ByteArray := prog_8_method_5_code
def yX6_heardBy : MethodName := ⟨RX6, "heardBy", "(II)I"⟩
abbrev cX6_repeats : ByteArray := prog_8_method_6_code
def yX6_repeats : MethodName := ⟨RX6, "repeats", "(I)Z"⟩
abbrev cX6_flaw : ByteArray := prog_8_method_7_code
def yX6_flaw : MethodName := ⟨RX6, "flaw", "(II)I"⟩
abbrev cX6_choices : ByteArray := prog_8_method_8_code
def yX6_choices : MethodName := ⟨RX6, "choices", "(I)I"⟩
abbrev cX6_add : ByteArray := prog_8_method_9_code
def yX6_add : MethodName := ⟨RX6, "add", "(II)V"⟩
abbrev cX6_takeBack : ByteArray := prog_8_method_10_code
def yX6_takeBack : MethodName := ⟨RX6, "takeBack", "()V"⟩
abbrev cX6_nextOnes : ByteArray := prog_8_method_11_code
def yX6_nextOnes : MethodName := ⟨RX6, "nextOnes", "()I"⟩
abbrev cX6_addNext : ByteArray := prog_8_method_12_code
def yX6_addNext : MethodName := ⟨RX6, "addNext", "(I)V"⟩
abbrev cX6_stateOf : ByteArray := prog_8_method_13_code
def yX6_stateOf : MethodName := ⟨RX6, "stateOf", "(I)I"⟩
abbrev cX6_promisee : ByteArray := prog_8_method_16_code
def yX6_promisee : MethodName := ⟨RX6, "promisee", "(I)I"⟩
abbrev cX6_dueOf : ByteArray := prog_8_method_17_code
def yX6_dueOf : MethodName := ⟨RX6, "dueOf", "(I)I"⟩
abbrev cX6_tell : ByteArray := prog_8_method_18_code
def yX6_tell : MethodName := ⟨RX6, "tell", "(II)I"⟩
def RX7 : String := "CombTable$Tape"
def TX7 : u_T := fun k => match k with
  | 0 => ("CombTable$Tape", "bytes", "[B", true)
  | 1 => ("CombTable$Tape", "length", "I", false)
  | 2 => ("CombTable$Tape", "most", "I", false)
  | 3 => ("CombTable$Tape", "next", "I", false)
  | 4 => ("CombTable$Tape", "sort", "I", false)
  | 5 => ("CombTable$Tape", "place", "I", false)
  | 6 => ("CombTable$Tape", "letters", "J", false)
  | 7 => ("CombTable$Tape", "term", "LCombTable$Term;", false)
  | 8 => ("CombTable$Tape", "value", "I", false)
  | 9 => ("CombTable$Tape", "fault", "I", false)
  | _ => ("CombTable$Tape", "faultPlace", "I", false)
def tyX7 : Nat → FieldType := fun k => match k with
  | 0 => .array .byte
  | 1 => .int
  | 2 => .int
  | 3 => .int
  | 4 => .int
  | 5 => .int
  | 6 => .long
  | 7 => .object "CombTable$Term"
  | 8 => .int
  | 9 => .int
  | _ => .int
abbrev wsX70 : List Cond := u_ws RX7 TX7 11
theorem nmX7 : ∀ a, a < 11 → ∀ b, b < 11 → a ≠ b → (TX7 a).2.1 ≠ (TX7 b).2.1 := by decide +kernel
theorem tyX7_ok : ∀ k, k < 11 → parseFieldDescriptor (TX7 k).2.2.1 = some (tyX7 k) := by decide +kernel
abbrev cX7_init : ByteArray := prog_9_method_1_code
def yX7_init : MethodName := ⟨RX7, "<init>", "()V"⟩
abbrev cX7_put : ByteArray := prog_9_method_2_code
def yX7_put : MethodName := ⟨RX7, "put", "(I)V"⟩
abbrev cX7_open : ByteArray := prog_9_method_3_code
def yX7_open : MethodName := ⟨RX7, "open", "(I)V"⟩
abbrev cX7_advance : ByteArray := prog_9_method_4_code
def yX7_advance : MethodName := ⟨RX7, "advance", "()V"⟩
abbrev cX7_readRun : ByteArray := prog_9_method_5_code
def yX7_readRun : MethodName := ⟨RX7, "readRun", "()V"⟩
abbrev cX7_termOf : ByteArray := prog_9_method_6_code
def yX7_termOf : MethodName := ⟨RX7, "termOf", "(J)LCombTable$Term;"⟩
abbrev cX7_isLetter : ByteArray := prog_9_method_7_code
def yX7_isLetter : MethodName := ⟨RX7, "isLetter", "(I)Z"⟩
abbrev cX7_isDigit : ByteArray := prog_9_method_8_code
def yX7_isDigit : MethodName := ⟨RX7, "isDigit", "(I)Z"⟩
abbrev cX7_fails : ByteArray := prog_9_method_9_code
def yX7_fails : MethodName := ⟨RX7, "fails", "(II)Z"⟩
abbrev cX7_isTerm : ByteArray := prog_9_method_10_code
def yX7_isTerm : MethodName := ⟨RX7, "isTerm", "(LCombTable$Term;)Z"⟩
abbrev cX7_isName : ByteArray := prog_9_method_11_code
def yX7_isName : MethodName := ⟨RX7, "isName", "()Z"⟩
abbrev cX7_isSign : ByteArray := prog_9_method_12_code
def yX7_isSign : MethodName := ⟨RX7, "isSign", "(C)Z"⟩
abbrev cX7_takes : ByteArray := prog_9_method_13_code
def yX7_takes : MethodName := ⟨RX7, "takes", "(C)Z"⟩
abbrev cX7_isNumber : ByteArray := prog_9_method_14_code
def yX7_isNumber : MethodName := ⟨RX7, "isNumber", "(II)Z"⟩
abbrev cX7_closes : ByteArray := prog_9_method_15_code
def yX7_closes : MethodName := ⟨RX7, "closes", "()Z"⟩
abbrev cX7_kindHere : ByteArray := prog_9_method_17_code
def yX7_kindHere : MethodName := ⟨RX7, "kindHere", "(LCombTable$Table;)I"⟩
def RX8 : String := "CombTable$Term"
def TX8 : u_T := fun k => match k with
  | _ => ("", "", "", false)
def tyX8 : Nat → FieldType := fun k => match k with
  | _ => .int
abbrev wsX80 : List Cond := u_ws RX8 TX8 0
theorem nmX8 : ∀ a, a < 0 → ∀ b, b < 0 → a ≠ b → (TX8 a).2.1 ≠ (TX8 b).2.1 := by decide +kernel
theorem tyX8_ok : ∀ k, k < 0 → parseFieldDescriptor (TX8 k).2.2.1 = some (tyX8 k) := by decide +kernel
abbrev cX8_withLetter : ByteArray := prog_10_method_4_code
def yX8_withLetter : MethodName := ⟨RX8, "withLetter", "(JI)J"⟩
def RX9 : String := "CombTable$Wholes"
def TX9 : u_T := fun k => match k with
  | 0 => ("CombTable$Wholes", "size", "I", false)
  | 1 => ("CombTable$Wholes", "whos", "[I", true)
  | 2 => ("CombTable$Wholes", "sorts", "[I", true)
  | 3 => ("CombTable$Wholes", "filled", "I", false)
  | 4 => ("CombTable$Wholes", "enough", "I", false)
  | 5 => ("CombTable$Wholes", "telling", "Z", false)
  | 6 => ("CombTable$Wholes", "sureSize", "I", false)
  | 7 => ("CombTable$Wholes", "sureWhos", "[I", true)
  | 8 => ("CombTable$Wholes", "sureKinds", "[I", true)
  | _ => ("CombTable$Wholes", "sureStates", "[I", true)
def tyX9 : Nat → FieldType := fun k => match k with
  | 0 => .int
  | 1 => .array .int
  | 2 => .array .int
  | 3 => .int
  | 4 => .int
  | 5 => .boolean
  | 6 => .int
  | 7 => .array .int
  | 8 => .array .int
  | _ => .array .int
abbrev wsX90 : List Cond := u_ws RX9 TX9 10
theorem nmX9 : ∀ a, a < 10 → ∀ b, b < 10 → a ≠ b → (TX9 a).2.1 ≠ (TX9 b).2.1 := by decide +kernel
theorem tyX9_ok : ∀ k, k < 10 → parseFieldDescriptor (TX9 k).2.2.1 = some (tyX9 k) := by decide +kernel
abbrev cX9_init : ByteArray := prog_11_method_1_code
def yX9_init : MethodName := ⟨RX9, "<init>", "()V"⟩
abbrev cX9_all : ByteArray := prog_11_method_2_code
def yX9_all : MethodName := ⟨RX9, "all", "(LCombTable$Minutes;LCombTable$Talk;I)I"⟩
abbrev cX9_start : ByteArray := prog_11_method_6_code
def yX9_start : MethodName := ⟨RX9, "start", "(Z)V"⟩
abbrev cX9_take : ByteArray := prog_11_method_7_code
def yX9_take : MethodName := ⟨RX9, "take", "(LCombTable$Minutes;I)V"⟩
abbrev cX9_exchange : ByteArray := prog_11_method_8_code
def yX9_exchange : MethodName := ⟨RX9, "exchange", "(I)V"⟩
abbrev cX9_fill : ByteArray := prog_11_method_9_code
def yX9_fill : MethodName := ⟨RX9, "fill", "(LCombTable$Talk;I)V"⟩
abbrev cX9_markStates : ByteArray := prog_11_method_10_code
def yX9_markStates : MethodName := ⟨RX9, "markStates", "(LCombTable$Talk;)V"⟩
def RX10 : String := "CombTable"
def TX10 : u_T := fun k => match k with
  | 0 => ("CombTable", "tape", "LCombTable$Tape;", true)
  | 1 => ("CombTable", "table", "LCombTable$Table;", true)
  | 2 => ("CombTable", "spareTable", "LCombTable$Table;", true)
  | 3 => ("CombTable", "talk", "LCombTable$Talk;", true)
  | 4 => ("CombTable", "trial", "LCombTable$Talk;", true)
  | 5 => ("CombTable", "otherTrial", "LCombTable$Talk;", true)
  | 6 => ("CombTable", "minutes", "LCombTable$Minutes;", true)
  | 7 => ("CombTable", "spareMinutes", "LCombTable$Minutes;", true)
  | 8 => ("CombTable", "sentence", "LCombTable$Sentence;", true)
  | 9 => ("CombTable", "spareSentence", "LCombTable$Sentence;", true)
  | 10 => ("CombTable", "firstImage", "LCombTable$Image;", true)
  | 11 => ("CombTable", "secondImage", "LCombTable$Image;", true)
  | 12 => ("CombTable", "search", "LCombTable$Search;", true)
  | 13 => ("CombTable", "wholes", "LCombTable$Wholes;", true)
  | _ => ("CombTable", "repair", "LCombTable$Repair;", true)
def tyX10 : Nat → FieldType := fun k => match k with
  | 0 => .object "CombTable$Tape"
  | 1 => .object "CombTable$Table"
  | 2 => .object "CombTable$Table"
  | 3 => .object "CombTable$Talk"
  | 4 => .object "CombTable$Talk"
  | 5 => .object "CombTable$Talk"
  | 6 => .object "CombTable$Minutes"
  | 7 => .object "CombTable$Minutes"
  | 8 => .object "CombTable$Sentence"
  | 9 => .object "CombTable$Sentence"
  | 10 => .object "CombTable$Image"
  | 11 => .object "CombTable$Image"
  | 12 => .object "CombTable$Search"
  | 13 => .object "CombTable$Wholes"
  | _ => .object "CombTable$Repair"
abbrev wsX100 : List Cond := u_ws RX10 TX10 15
theorem nmX10 : ∀ a, a < 15 → ∀ b, b < 15 → a ≠ b → (TX10 a).2.1 ≠ (TX10 b).2.1 := by decide +kernel
theorem tyX10_ok : ∀ k, k < 15 → parseFieldDescriptor (TX10 k).2.2.1 = some (tyX10 k) := by decide +kernel
abbrev cX10_init : ByteArray := prog_1_method_1_code
def yX10_init : MethodName := ⟨RX10, "<init>", "()V"⟩
abbrev cX10_feed : ByteArray := prog_1_method_2_code
def yX10_feed : MethodName := ⟨RX10, "feed", "(IIIII)I"⟩
abbrev cX10_end : ByteArray := prog_1_method_3_code
def yX10_end : MethodName := ⟨RX10, "end", "(I)Z"⟩
abbrev cX10_table : ByteArray := prog_1_method_4_code
def yX10_table : MethodName := ⟨RX10, "table", "()I"⟩
abbrev cX10_fault : ByteArray := prog_1_method_5_code
def yX10_fault : MethodName := ⟨RX10, "fault", "()I"⟩
abbrev cX10_rank : ByteArray := prog_1_method_6_code
def yX10_rank : MethodName := ⟨RX10, "rank", "(I)I"⟩
abbrev cX10_kind : ByteArray := prog_1_method_7_code
def yX10_kind : MethodName := ⟨RX10, "kind", "(II)I"⟩
abbrev cX10_say : ByteArray := prog_1_method_8_code
def yX10_say : MethodName := ⟨RX10, "say", "(II)I"⟩
abbrev cX10_wrong : ByteArray := prog_1_method_9_code
def yX10_wrong : MethodName := ⟨RX10, "wrong", "(II)I"⟩
abbrev cX10_may : ByteArray := prog_1_method_10_code
def yX10_may : MethodName := ⟨RX10, "may", "(I)I"⟩
abbrev cX10_undo : ByteArray := prog_1_method_11_code
def yX10_undo : MethodName := ⟨RX10, "undo", "()I"⟩
abbrev cX10_why : ByteArray := prog_1_method_13_code
def yX10_why : MethodName := ⟨RX10, "why", "()I"⟩
abbrev cX10_word : ByteArray := prog_1_method_14_code
def yX10_word : MethodName := ⟨RX10, "word", "(II)I"⟩
abbrev cX10_threads : ByteArray := prog_1_method_15_code
def yX10_threads : MethodName := ⟨RX10, "threads", "()I"⟩
abbrev cX10_wholes : ByteArray := prog_1_method_20_code
def yX10_wholes : MethodName := ⟨RX10, "wholes", "(I)I"⟩
abbrev cX10_mended : ByteArray := prog_1_method_24_code
def yX10_mended : MethodName := ⟨RX10, "mended", "()I"⟩
abbrev cX10_orders : ByteArray := prog_1_method_25_code
def yX10_orders : MethodName := ⟨RX10, "orders", "()I"⟩
abbrev cX10_drawn : ByteArray := prog_1_method_27_code
def yX10_drawn : MethodName := ⟨RX10, "drawn", "(II)I"⟩
abbrev cX10_spoke : ByteArray := prog_1_method_28_code
def yX10_spoke : MethodName := ⟨RX10, "spoke", "(II)I"⟩
abbrev cX10_said : ByteArray := prog_1_method_35_code
def yX10_said : MethodName := ⟨RX10, "said", "(I)I"⟩
abbrev cX10_count : ByteArray := prog_1_method_38_code
def yX10_count : MethodName := ⟨RX10, "count", "(I)I"⟩
abbrev cX10_afterReading : ByteArray := prog_1_method_39_code
def yX10_afterReading : MethodName := ⟨RX10, "afterReading", "(ZI)I"⟩
def RX11 : String := "CombTableModel"
def TX11 : u_T := fun k => match k with
  | _ => ("", "", "", false)
def tyX11 : Nat → FieldType := fun k => match k with
  | _ => .int
abbrev wsX110 : List Cond := u_ws RX11 TX11 0
theorem nmX11 : ∀ a, a < 0 → ∀ b, b < 0 → a ≠ b → (TX11 a).2.1 ≠ (TX11 b).2.1 := by decide +kernel
theorem tyX11_ok : ∀ k, k < 0 → parseFieldDescriptor (TX11 k).2.2.1 = some (tyX11 k) := by decide +kernel
def RJx145de : String := "java/io/Serializable"
def TJx145de : u_T := fun k => match k with
  | _ => ("", "", "", false)
def tyJx145de : Nat → FieldType := fun k => match k with
  | _ => .int
abbrev wsJx145de0 : List Cond := u_ws RJx145de TJx145de 0
theorem nmJx145de : ∀ a, a < 0 → ∀ b, b < 0 → a ≠ b → (TJx145de a).2.1 ≠ (TJx145de b).2.1 := by decide +kernel
theorem tyJx145de_ok : ∀ k, k < 0 → parseFieldDescriptor (TJx145de k).2.2.1 = some (tyJx145de k) := by decide +kernel
def RJx9f9b0 : String := "java/lang/CharSequence"
def TJx9f9b0 : u_T := fun k => match k with
  | _ => ("", "", "", false)
def tyJx9f9b0 : Nat → FieldType := fun k => match k with
  | _ => .int
abbrev wsJx9f9b00 : List Cond := u_ws RJx9f9b0 TJx9f9b0 0
theorem nmJx9f9b0 : ∀ a, a < 0 → ∀ b, b < 0 → a ≠ b → (TJx9f9b0 a).2.1 ≠ (TJx9f9b0 b).2.1 := by decide +kernel
theorem tyJx9f9b0_ok : ∀ k, k < 0 → parseFieldDescriptor (TJx9f9b0 k).2.2.1 = some (tyJx9f9b0 k) := by decide +kernel
def RJxb160c : String := "java/lang/Comparable"
def TJxb160c : u_T := fun k => match k with
  | _ => ("", "", "", false)
def tyJxb160c : Nat → FieldType := fun k => match k with
  | _ => .int
abbrev wsJxb160c0 : List Cond := u_ws RJxb160c TJxb160c 0
theorem nmJxb160c : ∀ a, a < 0 → ∀ b, b < 0 → a ≠ b → (TJxb160c a).2.1 ≠ (TJxb160c b).2.1 := by decide +kernel
theorem tyJxb160c_ok : ∀ k, k < 0 → parseFieldDescriptor (TJxb160c k).2.2.1 = some (tyJxb160c k) := by decide +kernel
def RJx29ce0 : String := "java/lang/Enum"
def TJx29ce0 : u_T := fun k => match k with
  | _ => ("", "", "", false)
def tyJx29ce0 : Nat → FieldType := fun k => match k with
  | _ => .int
abbrev wsJx29ce00 : List Cond := u_ws RJx29ce0 TJx29ce0 0
theorem nmJx29ce0 : ∀ a, a < 0 → ∀ b, b < 0 → a ≠ b → (TJx29ce0 a).2.1 ≠ (TJx29ce0 b).2.1 := by decide +kernel
theorem tyJx29ce0_ok : ∀ k, k < 0 → parseFieldDescriptor (TJx29ce0 k).2.2.1 = some (tyJx29ce0 k) := by decide +kernel
def RJ6 : String := "java/lang/Integer"
def TJ6 : u_T := fun k => match k with
  | _ => ("", "", "", false)
def tyJ6 : Nat → FieldType := fun k => match k with
  | _ => .int
abbrev wsJ60 : List Cond := u_ws RJ6 TJ6 0
theorem nmJ6 : ∀ a, a < 0 → ∀ b, b < 0 → a ≠ b → (TJ6 a).2.1 ≠ (TJ6 b).2.1 := by decide +kernel
theorem tyJ6_ok : ∀ k, k < 0 → parseFieldDescriptor (TJ6 k).2.2.1 = some (tyJ6 k) := by decide +kernel
abbrev cJ6_bitCount_0f7a4 : ByteArray := prog_19_method_49_code
def yJ6_bitCount_0f7a4 : MethodName := ⟨RJ6, "bitCount", "(I)I"⟩
def RJ9 : String := "java/lang/Math"
def TJ9 : u_T := fun k => match k with
  | _ => ("", "", "", false)
def tyJ9 : Nat → FieldType := fun k => match k with
  | _ => .int
abbrev wsJ90 : List Cond := u_ws RJ9 TJ9 0
theorem nmJ9 : ∀ a, a < 0 → ∀ b, b < 0 → a ≠ b → (TJ9 a).2.1 ≠ (TJ9 b).2.1 := by decide +kernel
theorem tyJ9_ok : ∀ k, k < 0 → parseFieldDescriptor (TJ9 k).2.2.1 = some (tyJ9 k) := by decide +kernel
abbrev cJ9_max_7cf53 : ByteArray := prog_20_method_65_code
def yJ9_max_7cf53 : MethodName := ⟨RJ9, "max", "(II)I"⟩
abbrev cJ9_min_7cf53 : ByteArray := prog_20_method_69_code
def yJ9_min_7cf53 : MethodName := ⟨RJ9, "min", "(II)I"⟩
def RJ0 : String := "java/lang/String"
def TJ0 : u_T := fun k => match k with
  | _ => ("", "", "", false)
def tyJ0 : Nat → FieldType := fun k => match k with
  | _ => .int
abbrev wsJ00 : List Cond := u_ws RJ0 TJ0 0
theorem nmJ0 : ∀ a, a < 0 → ∀ b, b < 0 → a ≠ b → (TJ0 a).2.1 ≠ (TJ0 b).2.1 := by decide +kernel
theorem tyJ0_ok : ∀ k, k < 0 → parseFieldDescriptor (TJ0 k).2.2.1 = some (tyJ0 k) := by decide +kernel
abbrev cJ0_length_8abf5 : ByteArray := prog_22_method_54_code
def yJ0_length_8abf5 : MethodName := ⟨RJ0, "length", "()I"⟩
abbrev cJ0_charAt_5068e : ByteArray := prog_22_method_56_code
def yJ0_charAt_5068e : MethodName := ⟨RJ0, "charAt", "(I)C"⟩
abbrev cJ0_coder_7d493 : ByteArray := prog_22_method_152_code
def yJ0_coder_7d493 : MethodName := ⟨RJ0, "coder", "()B"⟩
abbrev cJ0_isLatin1_aae02 : ByteArray := prog_22_method_154_code
def yJ0_isLatin1_aae02 : MethodName := ⟨RJ0, "isLatin1", "()Z"⟩
abbrev cJ0_checkIndex_df160 : ByteArray := prog_22_method_155_code
def yJ0_checkIndex_df160 : MethodName := ⟨RJ0, "checkIndex", "(II)V"⟩
def RJ1 : String := "java/lang/StringLatin1"
def TJ1 : u_T := fun k => match k with
  | _ => ("", "", "", false)
def tyJ1 : Nat → FieldType := fun k => match k with
  | _ => .int
abbrev wsJ10 : List Cond := u_ws RJ1 TJ1 0
theorem nmJ1 : ∀ a, a < 0 → ∀ b, b < 0 → a ≠ b → (TJ1 a).2.1 ≠ (TJ1 b).2.1 := by decide +kernel
theorem tyJ1_ok : ∀ k, k < 0 → parseFieldDescriptor (TJ1 k).2.2.1 = some (tyJ1 k) := by decide +kernel
abbrev cJ1_charAt_3b067 : ByteArray := prog_23_method_2_code
def yJ1_charAt_3b067 : MethodName := ⟨RJ1, "charAt", "([BI)C"⟩
def RJ2 : String := "java/lang/StringUTF16"
def TJ2 : u_T := fun k => match k with
  | _ => ("", "", "", false)
def tyJ2 : Nat → FieldType := fun k => match k with
  | _ => .int
abbrev wsJ20 : List Cond := u_ws RJ2 TJ2 0
theorem nmJ2 : ∀ a, a < 0 → ∀ b, b < 0 → a ≠ b → (TJ2 a).2.1 ≠ (TJ2 b).2.1 := by decide +kernel
theorem tyJ2_ok : ∀ k, k < 0 → parseFieldDescriptor (TJ2 k).2.2.1 = some (tyJ2 k) := by decide +kernel
abbrev cJ2_getChar_3b067 : ByteArray := prog_24_method_5_code
def yJ2_getChar_3b067 : MethodName := ⟨RJ2, "getChar", "([BI)C"⟩
abbrev cJ2_length_9d52b : ByteArray := prog_24_method_6_code
def yJ2_length_9d52b : MethodName := ⟨RJ2, "length", "([B)I"⟩
abbrev cJ2_charAt_3b067 : ByteArray := prog_24_method_83_code
def yJ2_charAt_3b067 : MethodName := ⟨RJ2, "charAt", "([BI)C"⟩
abbrev cJ2_checkIndex_2214a : ByteArray := prog_24_method_91_code
def yJ2_checkIndex_2214a : MethodName := ⟨RJ2, "checkIndex", "(I[B)V"⟩
def RJ10 : String := "java/lang/System"
def TJ10 : u_T := fun k => match k with
  | _ => ("", "", "", false)
def tyJ10 : Nat → FieldType := fun k => match k with
  | _ => .int
abbrev wsJ100 : List Cond := u_ws RJ10 TJ10 0
theorem nmJ10 : ∀ a, a < 0 → ∀ b, b < 0 → a ≠ b → (TJ10 a).2.1 ≠ (TJ10 b).2.1 := by decide +kernel
theorem tyJ10_ok : ∀ k, k < 0 → parseFieldDescriptor (TJ10 k).2.2.1 = some (tyJ10 k) := by decide +kernel
def RJxfd54e : String := "java/lang/constant/Constable"
def TJxfd54e : u_T := fun k => match k with
  | _ => ("", "", "", false)
def tyJxfd54e : Nat → FieldType := fun k => match k with
  | _ => .int
abbrev wsJxfd54e0 : List Cond := u_ws RJxfd54e TJxfd54e 0
theorem nmJxfd54e : ∀ a, a < 0 → ∀ b, b < 0 → a ≠ b → (TJxfd54e a).2.1 ≠ (TJxfd54e b).2.1 := by decide +kernel
theorem tyJxfd54e_ok : ∀ k, k < 0 → parseFieldDescriptor (TJxfd54e k).2.2.1 = some (tyJxfd54e k) := by decide +kernel
def RJx3cf43 : String := "java/lang/constant/ConstantDesc"
def TJx3cf43 : u_T := fun k => match k with
  | _ => ("", "", "", false)
def tyJx3cf43 : Nat → FieldType := fun k => match k with
  | _ => .int
abbrev wsJx3cf430 : List Cond := u_ws RJx3cf43 TJx3cf43 0
theorem nmJx3cf43 : ∀ a, a < 0 → ∀ b, b < 0 → a ≠ b → (TJx3cf43 a).2.1 ≠ (TJx3cf43 b).2.1 := by decide +kernel
theorem tyJx3cf43_ok : ∀ k, k < 0 → parseFieldDescriptor (TJx3cf43 k).2.2.1 = some (tyJx3cf43 k) := by decide +kernel
def RJ3 : String := "jdk/internal/util/Preconditions"
def TJ3 : u_T := fun k => match k with
  | _ => ("", "", "", false)
def tyJ3 : Nat → FieldType := fun k => match k with
  | _ => .int
abbrev wsJ30 : List Cond := u_ws RJ3 TJ3 0
theorem nmJ3 : ∀ a, a < 0 → ∀ b, b < 0 → a ≠ b → (TJ3 a).2.1 ≠ (TJ3 b).2.1 := by decide +kernel
theorem tyJ3_ok : ∀ k, k < 0 → parseFieldDescriptor (TJ3 k).2.2.1 = some (tyJ3 k) := by decide +kernel
abbrev cJ3_checkIndex_8e157 : ByteArray := prog_30_method_11_code
def yJ3_checkIndex_8e157 : MethodName := ⟨RJ3, "checkIndex", "(IILjava/util/function/BiFunction;)I"⟩
def RL : String := "CombTableLaw"
abbrev cL_put : ByteArray := method_2_code
def yL_put : MethodName := ⟨RL, "put", "([III)I"⟩
abbrev cL_add : ByteArray := method_3_code
def yL_add : MethodName := ⟨RL, "add", "([IILjava/lang/String;)I"⟩
abbrev cL_number : ByteArray := method_4_code
def yL_number : MethodName := ⟨RL, "number", "([III)I"⟩
abbrev cL_more : ByteArray := method_5_code
def yL_more : MethodName := ⟨RL, "more", "(LCombTable;[III)I"⟩
abbrev cL_lies : ByteArray := method_6_code
def yL_lies : MethodName := ⟨RL, "lies", "(LCombTable;[II)Z"⟩
abbrev cL_nameOf : ByteArray := method_7_code
def yL_nameOf : MethodName := ⟨RL, "nameOf", "(I)I"⟩
abbrev cL_kindOf : ByteArray := method_8_code
def yL_kindOf : MethodName := ⟨RL, "kindOf", "(I)Ljava/lang/String;"⟩
abbrev cL_told : ByteArray := method_9_code
def yL_told : MethodName := ⟨RL, "told", "(LCombTable;[I[III)Z"⟩
abbrev cL_live : ByteArray := method_10_code
def yL_live : MethodName := ⟨RL, "live", "([I[II[I)I"⟩
abbrev cL_state : ByteArray := method_11_code
def yL_state : MethodName := ⟨RL, "state", "([I[III)I"⟩
abbrev cL_speak : ByteArray := method_12_code
def yL_speak : MethodName := ⟨RL, "speak", "(LCombTable;[I[I[I[II)I"⟩
abbrev cL_law : ByteArray := code
def yL_law : MethodName := ⟨RL, "law", "([I)Z"⟩
abbrev cL_kind : ByteArray := method_14_code
def yL_kind : MethodName := ⟨RL, "kind", "(LCombTable;II)I"⟩
abbrev cL_word : ByteArray := method_15_code
def yL_word : MethodName := ⟨RL, "word", "(LCombTable;II)I"⟩
