section
-- ===== PART A: goes FIRST, ahead of the names: the tables' words, and 'selects' of the private methods out of them =====
/-- a private method of a class that the tables say can be made, by its rows of tables_1 -/
def lw_okq (q : MethodName × Nat) : Prop := (q.1.cls ≠ "java/lang/invoke/MethodHandle" ∧ q.1.cls ≠ "java/lang/invoke/VarHandle") ∧ Cond.instantiable q.1.cls q.2 ∈ tables_1 ∧ Cond.privateMethod q.1 ∈ tables_1 ∧ Cond.instanceMethod q.1 ∈ tables_1
theorem lw_p0 : lw_okq (⟨"CombTable$Talk", "repeats", "(I)Z"⟩, 10) := ⟨⟨by decide +kernel, by decide +kernel⟩, List.mem_of_getElem? (i := 156) (by decide +kernel), List.mem_of_getElem? (i := 434) (by decide +kernel), List.mem_of_getElem? (i := 435) (by decide +kernel)⟩
theorem lw_p1 : lw_okq (⟨"CombTable$Talk", "heardBy", "(II)I"⟩, 10) := ⟨⟨by decide +kernel, by decide +kernel⟩, List.mem_of_getElem? (i := 156) (by decide +kernel), List.mem_of_getElem? (i := 438) (by decide +kernel), List.mem_of_getElem? (i := 439) (by decide +kernel)⟩
theorem lw_p2 : lw_okq (⟨"CombTable$Talk", "dueOf", "(I)I"⟩, 10) := ⟨⟨by decide +kernel, by decide +kernel⟩, List.mem_of_getElem? (i := 156) (by decide +kernel), List.mem_of_getElem? (i := 463) (by decide +kernel), List.mem_of_getElem? (i := 464) (by decide +kernel)⟩
theorem lw_p3 : lw_okq (⟨"CombTable$Wholes", "start", "(Z)V"⟩, 10) := ⟨⟨by decide +kernel, by decide +kernel⟩, List.mem_of_getElem? (i := 303) (by decide +kernel), List.mem_of_getElem? (i := 525) (by decide +kernel), List.mem_of_getElem? (i := 526) (by decide +kernel)⟩
theorem lw_p4 : lw_okq (⟨"CombTable$Wholes", "take", "(LCombTable$Minutes;I)V"⟩, 10) := ⟨⟨by decide +kernel, by decide +kernel⟩, List.mem_of_getElem? (i := 303) (by decide +kernel), List.mem_of_getElem? (i := 530) (by decide +kernel), List.mem_of_getElem? (i := 531) (by decide +kernel)⟩
theorem lw_p5 : lw_okq (⟨"CombTable$Wholes", "exchange", "(I)V"⟩, 10) := ⟨⟨by decide +kernel, by decide +kernel⟩, List.mem_of_getElem? (i := 303) (by decide +kernel), List.mem_of_getElem? (i := 542) (by decide +kernel), List.mem_of_getElem? (i := 543) (by decide +kernel)⟩
theorem lw_p6 : lw_okq (⟨"CombTable$Wholes", "fill", "(LCombTable$Talk;I)V"⟩, 10) := ⟨⟨by decide +kernel, by decide +kernel⟩, List.mem_of_getElem? (i := 303) (by decide +kernel), List.mem_of_getElem? (i := 546) (by decide +kernel), List.mem_of_getElem? (i := 547) (by decide +kernel)⟩
theorem lw_p7 : lw_okq (⟨"CombTable$Wholes", "markStates", "(LCombTable$Talk;)V"⟩, 10) := ⟨⟨by decide +kernel, by decide +kernel⟩, List.mem_of_getElem? (i := 303) (by decide +kernel), List.mem_of_getElem? (i := 550) (by decide +kernel), List.mem_of_getElem? (i := 551) (by decide +kernel)⟩
theorem lw_p8 : lw_okq (⟨"CombTable$Repair", "orderFrom", "(LCombTable$Minutes;LCombTable$Talk;II)V"⟩, 7) := ⟨⟨by decide +kernel, by decide +kernel⟩, List.mem_of_getElem? (i := 340) (by decide +kernel), List.mem_of_getElem? (i := 573) (by decide +kernel), List.mem_of_getElem? (i := 574) (by decide +kernel)⟩
theorem lw_p9 : lw_okq (⟨"CombTable$Sentence", "isSo", "(LCombTable$Talk;II)Z"⟩, 5) := ⟨⟨by decide +kernel, by decide +kernel⟩, List.mem_of_getElem? (i := 225) (by decide +kernel), List.mem_of_getElem? (i := 624) (by decide +kernel), List.mem_of_getElem? (i := 625) (by decide +kernel)⟩
theorem lw_p10 : lw_okq (⟨"CombTable$Table", "clear", "()V"⟩, 16) := ⟨⟨by decide +kernel, by decide +kernel⟩, List.mem_of_getElem? (i := 84) (by decide +kernel), List.mem_of_getElem? (i := 743) (by decide +kernel), List.mem_of_getElem? (i := 744) (by decide +kernel)⟩
theorem lw_p11 : lw_okq (⟨"CombTable$Tape", "readRun", "()V"⟩, 11) := ⟨⟨by decide +kernel, by decide +kernel⟩, List.mem_of_getElem? (i := 33) (by decide +kernel), List.mem_of_getElem? (i := 764) (by decide +kernel), List.mem_of_getElem? (i := 765) (by decide +kernel)⟩
theorem lw_p12 : lw_okq (⟨"CombTable$Table", "readLine", "(LCombTable$Tape;)Z"⟩, 16) := ⟨⟨by decide +kernel, by decide +kernel⟩, List.mem_of_getElem? (i := 84) (by decide +kernel), List.mem_of_getElem? (i := 777) (by decide +kernel), List.mem_of_getElem? (i := 778) (by decide +kernel)⟩
theorem lw_p13 : lw_okq (⟨"CombTable$Table", "readWho", "(LCombTable$Tape;)Z"⟩, 16) := ⟨⟨by decide +kernel, by decide +kernel⟩, List.mem_of_getElem? (i := 84) (by decide +kernel), List.mem_of_getElem? (i := 787) (by decide +kernel), List.mem_of_getElem? (i := 788) (by decide +kernel)⟩
theorem lw_p14 : lw_okq (⟨"CombTable$Table", "isNewName", "(LCombTable$Tape;)Z"⟩, 16) := ⟨⟨by decide +kernel, by decide +kernel⟩, List.mem_of_getElem? (i := 84) (by decide +kernel), List.mem_of_getElem? (i := 796) (by decide +kernel), List.mem_of_getElem? (i := 797) (by decide +kernel)⟩
theorem lw_p15 : lw_okq (⟨"CombTable$Table", "readKind", "(LCombTable$Tape;)Z"⟩, 16) := ⟨⟨by decide +kernel, by decide +kernel⟩, List.mem_of_getElem? (i := 84) (by decide +kernel), List.mem_of_getElem? (i := 819) (by decide +kernel), List.mem_of_getElem? (i := 820) (by decide +kernel)⟩
def lw_privs_1 : List (MethodName × Nat) := [(⟨"CombTable$Talk", "repeats", "(I)Z"⟩, 10), (⟨"CombTable$Talk", "heardBy", "(II)I"⟩, 10), (⟨"CombTable$Talk", "dueOf", "(I)I"⟩, 10), (⟨"CombTable$Wholes", "start", "(Z)V"⟩, 10), (⟨"CombTable$Wholes", "take", "(LCombTable$Minutes;I)V"⟩, 10), (⟨"CombTable$Wholes", "exchange", "(I)V"⟩, 10), (⟨"CombTable$Wholes", "fill", "(LCombTable$Talk;I)V"⟩, 10), (⟨"CombTable$Wholes", "markStates", "(LCombTable$Talk;)V"⟩, 10), (⟨"CombTable$Repair", "orderFrom", "(LCombTable$Minutes;LCombTable$Talk;II)V"⟩, 7), (⟨"CombTable$Sentence", "isSo", "(LCombTable$Talk;II)Z"⟩, 5), (⟨"CombTable$Table", "clear", "()V"⟩, 16), (⟨"CombTable$Tape", "readRun", "()V"⟩, 11), (⟨"CombTable$Table", "readLine", "(LCombTable$Tape;)Z"⟩, 16), (⟨"CombTable$Table", "readWho", "(LCombTable$Tape;)Z"⟩, 16), (⟨"CombTable$Table", "isNewName", "(LCombTable$Tape;)Z"⟩, 16), (⟨"CombTable$Table", "readKind", "(LCombTable$Tape;)Z"⟩, 16)]
theorem lw_r1 : ∀ q ∈ lw_privs_1, lw_okq q := List.forall_mem_cons.mpr ⟨lw_p0, List.forall_mem_cons.mpr ⟨lw_p1, List.forall_mem_cons.mpr ⟨lw_p2, List.forall_mem_cons.mpr ⟨lw_p3, List.forall_mem_cons.mpr ⟨lw_p4, List.forall_mem_cons.mpr ⟨lw_p5, List.forall_mem_cons.mpr ⟨lw_p6, List.forall_mem_cons.mpr ⟨lw_p7, List.forall_mem_cons.mpr ⟨lw_p8, List.forall_mem_cons.mpr ⟨lw_p9, List.forall_mem_cons.mpr ⟨lw_p10, List.forall_mem_cons.mpr ⟨lw_p11, List.forall_mem_cons.mpr ⟨lw_p12, List.forall_mem_cons.mpr ⟨lw_p13, List.forall_mem_cons.mpr ⟨lw_p14, List.forall_mem_cons.mpr ⟨lw_p15, fun _ h => absurd h List.not_mem_nil⟩⟩⟩⟩⟩⟩⟩⟩⟩⟩⟩⟩⟩⟩⟩⟩
theorem lw_p16 : lw_okq (⟨"CombTable$Table", "readMay", "(LCombTable$Tape;)Z"⟩, 16) := ⟨⟨by decide +kernel, by decide +kernel⟩, List.mem_of_getElem? (i := 84) (by decide +kernel), List.mem_of_getElem? (i := 829) (by decide +kernel), List.mem_of_getElem? (i := 830) (by decide +kernel)⟩
theorem lw_p17 : lw_okq (⟨"CombTable$Table", "readComb", "(LCombTable$Tape;)Z"⟩, 16) := ⟨⟨by decide +kernel, by decide +kernel⟩, List.mem_of_getElem? (i := 84) (by decide +kernel), List.mem_of_getElem? (i := 842) (by decide +kernel), List.mem_of_getElem? (i := 843) (by decide +kernel)⟩
theorem lw_p18 : lw_okq (⟨"CombTable", "afterReading", "(ZI)I"⟩, 15) := ⟨⟨by decide +kernel, by decide +kernel⟩, List.mem_of_getElem? (i := 25) (by decide +kernel), List.mem_of_getElem? (i := 875) (by decide +kernel), List.mem_of_getElem? (i := 876) (by decide +kernel)⟩
theorem lw_p19 : lw_okq (⟨"java/lang/Throwable", "fillInStackTrace", "(I)Ljava/lang/Throwable;"⟩, 6) := ⟨⟨by decide +kernel, by decide +kernel⟩, List.mem_of_getElem? (i := 936) (by decide +kernel), List.mem_of_getElem? (i := 934) (by decide +kernel), List.mem_of_getElem? (i := 935) (by decide +kernel)⟩
def lw_privs_2 : List (MethodName × Nat) := [(⟨"CombTable$Table", "readMay", "(LCombTable$Tape;)Z"⟩, 16), (⟨"CombTable$Table", "readComb", "(LCombTable$Tape;)Z"⟩, 16), (⟨"CombTable", "afterReading", "(ZI)I"⟩, 15), (⟨"java/lang/Throwable", "fillInStackTrace", "(I)Ljava/lang/Throwable;"⟩, 6)]
theorem lw_r2 : ∀ q ∈ lw_privs_2, lw_okq q := List.forall_mem_cons.mpr ⟨lw_p16, List.forall_mem_cons.mpr ⟨lw_p17, List.forall_mem_cons.mpr ⟨lw_p18, List.forall_mem_cons.mpr ⟨lw_p19, fun _ h => absurd h List.not_mem_nil⟩⟩⟩⟩
def lw_privs : List (MethodName × Nat) := lw_privs_1 ++ (lw_privs_2)
def lw_tbl : List Cond := k2_sels lw_privs ++ tables_1
theorem lw_privs_ok : ∀ q ∈ lw_privs, lw_okq q := by
  show ∀ q ∈ lw_privs_1 ++ (lw_privs_2), lw_okq q
  exact List.forall_mem_append.mpr ⟨lw_r1, lw_r2⟩
-- ===== end of PART A; then your names; then what follows =====
end
section
/-! ===== BEGIN printed: names, fields, word lists, decode rows ===== -/
def RX0 : String := "CombTable$Image"
def TX0 : u_T := fun k => match k with
  | 0 => ("CombTable$Image", "kept", "Z", false)
  | 1 => ("CombTable$Image", "table", "LCombTable$Table;", true)
  | 2 => ("CombTable$Image", "size", "I", false)
  | 3 => ("CombTable$Image", "whos", "[I", true)
  | 4 => ("CombTable$Image", "sorts", "[I", true)
  | 5 => ("CombTable$Image", "minutes", "LCombTable$Minutes;", true)
  | _ => ("CombTable$Image", "sentence", "LCombTable$Sentence;", true)
def tyX0 : Nat → FieldType := fun k => match k with
  | 0 => .boolean
  | 1 => .object "CombTable$Table"
  | 2 => .int
  | 3 => .array .int
  | 4 => .array .int
  | 5 => .object "CombTable$Minutes"
  | _ => .object "CombTable$Sentence"
abbrev wsX00 : List Cond := u_ws RX0 TX0 7
theorem nmX0 : ∀ a, a < 7 → ∀ b, b < 7 → a ≠ b → (TX0 a).2.1 ≠ (TX0 b).2.1 := by decide +kernel
theorem tyX0_ok : ∀ k, k < 7 → parseFieldDescriptor (TX0 k).2.2.1 = some (tyX0 k) := by decide +kernel
abbrev cX0_init : ByteArray := prog_2_method_1_code
def yX0_init : MethodName := ⟨RX0, "<init>", "()V"⟩
def RX1 : String := "CombTable$Minutes"
def TX1 : u_T := fun k => match k with
  | 0 => ("CombTable$Minutes", "size", "I", false)
  | 1 => ("CombTable$Minutes", "torn", "I", false)
  | 2 => ("CombTable$Minutes", "whos", "[I", true)
  | _ => ("CombTable$Minutes", "sorts", "[I", true)
def tyX1 : Nat → FieldType := fun k => match k with
  | 0 => .int
  | 1 => .int
  | 2 => .array .int
  | _ => .array .int
abbrev wsX10 : List Cond := u_ws RX1 TX1 4
theorem nmX1 : ∀ a, a < 4 → ∀ b, b < 4 → a ≠ b → (TX1 a).2.1 ≠ (TX1 b).2.1 := by decide +kernel
theorem tyX1_ok : ∀ k, k < 4 → parseFieldDescriptor (TX1 k).2.2.1 = some (tyX1 k) := by decide +kernel
abbrev cX1_init : ByteArray := prog_3_method_1_code
def yX1_init : MethodName := ⟨RX1, "<init>", "()V"⟩
abbrev cX1_clear : ByteArray := prog_3_method_2_code
def yX1_clear : MethodName := ⟨RX1, "clear", "()V"⟩
abbrev cX1_whoAt : ByteArray := prog_3_method_4_code
def yX1_whoAt : MethodName := ⟨RX1, "whoAt", "(I)I"⟩
abbrev cX1_kindAt : ByteArray := prog_3_method_5_code
def yX1_kindAt : MethodName := ⟨RX1, "kindAt", "(I)I"⟩
abbrev cX1_ways : ByteArray := prog_3_method_6_code
def yX1_ways : MethodName := ⟨RX1, "ways", "(LCombTable$Table;)J"⟩
def RX2 : String := "CombTable$Repair"
def TX2 : u_T := fun k => match k with
  | 0 => ("CombTable$Repair", "fewest", "I", false)
  | 1 => ("CombTable$Repair", "outs", "I", false)
  | 2 => ("CombTable$Repair", "leftOut", "I", false)
  | 3 => ("CombTable$Repair", "orders", "I", false)
  | 4 => ("CombTable$Repair", "row", "[I", true)
  | 5 => ("CombTable$Repair", "first", "[I", true)
  | _ => ("CombTable$Repair", "firstSize", "I", false)
def tyX2 : Nat → FieldType := fun k => match k with
  | 0 => .int
  | 1 => .int
  | 2 => .int
  | 3 => .int
  | 4 => .array .int
  | 5 => .array .int
  | _ => .int
abbrev wsX20 : List Cond := u_ws RX2 TX2 7
theorem nmX2 : ∀ a, a < 7 → ∀ b, b < 7 → a ≠ b → (TX2 a).2.1 ≠ (TX2 b).2.1 := by decide +kernel
theorem tyX2_ok : ∀ k, k < 7 → parseFieldDescriptor (TX2 k).2.2.1 = some (tyX2 k) := by decide +kernel
abbrev cX2_init : ByteArray := prog_4_method_1_code
def yX2_init : MethodName := ⟨RX2, "<init>", "()V"⟩
abbrev cX2_arrange : ByteArray := prog_4_method_4_code
def yX2_arrange : MethodName := ⟨RX2, "arrange", "(LCombTable$Minutes;LCombTable$Talk;)I"⟩
abbrev cX2_orderFrom : ByteArray := prog_4_method_5_code
def yX2_orderFrom : MethodName := ⟨RX2, "orderFrom", "(LCombTable$Minutes;LCombTable$Talk;II)V"⟩
def RX3 : String := "CombTable$Search"
def TX3 : u_T := fun k => match k with
  | 0 => ("CombTable$Search", "aimed", "I", false)
  | 1 => ("CombTable$Search", "state", "I", false)
  | 2 => ("CombTable$Search", "silent", "I", false)
  | 3 => ("CombTable$Search", "side", "I", false)
  | 4 => ("CombTable$Search", "path", "[I", true)
  | 5 => ("CombTable$Search", "found", "[I", true)
  | _ => ("CombTable$Search", "foundSize", "I", false)
def tyX3 : Nat → FieldType := fun k => match k with
  | 0 => .int
  | 1 => .int
  | 2 => .int
  | 3 => .int
  | 4 => .array .int
  | 5 => .array .int
  | _ => .int
abbrev wsX30 : List Cond := u_ws RX3 TX3 7
theorem nmX3 : ∀ a, a < 7 → ∀ b, b < 7 → a ≠ b → (TX3 a).2.1 ≠ (TX3 b).2.1 := by decide +kernel
theorem tyX3_ok : ∀ k, k < 7 → parseFieldDescriptor (TX3 k).2.2.1 = some (tyX3 k) := by decide +kernel
abbrev cX3_init : ByteArray := prog_5_method_1_code
def yX3_init : MethodName := ⟨RX3, "<init>", "()V"⟩
def RX4 : String := "CombTable$Sentence"
def TX4 : u_T := fun k => match k with
  | 0 => ("CombTable$Sentence", "ones", "I", false)
  | 1 => ("CombTable$Sentence", "length", "I", false)
  | 2 => ("CombTable$Sentence", "steps", "[I", true)
  | 3 => ("CombTable$Sentence", "signs", "[I", true)
  | _ => ("CombTable$Sentence", "values", "[I", true)
def tyX4 : Nat → FieldType := fun k => match k with
  | 0 => .int
  | 1 => .int
  | 2 => .array .int
  | 3 => .array .int
  | _ => .array .int
abbrev wsX40 : List Cond := u_ws RX4 TX4 5
theorem nmX4 : ∀ a, a < 5 → ∀ b, b < 5 → a ≠ b → (TX4 a).2.1 ≠ (TX4 b).2.1 := by decide +kernel
theorem tyX4_ok : ∀ k, k < 5 → parseFieldDescriptor (TX4 k).2.2.1 = some (tyX4 k) := by decide +kernel
abbrev cX4_init : ByteArray := prog_6_method_1_code
def yX4_init : MethodName := ⟨RX4, "<init>", "()V"⟩
abbrev cX4_clear : ByteArray := prog_6_method_2_code
def yX4_clear : MethodName := ⟨RX4, "clear", "()V"⟩
abbrev cX4_holds : ByteArray := prog_6_method_5_code
def yX4_holds : MethodName := ⟨RX4, "holds", "(LCombTable$Talk;I)Z"⟩
abbrev cX4_isSo : ByteArray := prog_6_method_6_code
def yX4_isSo : MethodName := ⟨RX4, "isSo", "(LCombTable$Talk;II)Z"⟩
abbrev cX4_compares : ByteArray := prog_6_method_7_code
def yX4_compares : MethodName := ⟨RX4, "compares", "(III)Z"⟩
def RX5 : String := "CombTable$Table"
def TX5 : u_T := fun k => match k with
  | 0 => ("CombTable$Table", "lines", "I", false)
  | 1 => ("CombTable$Table", "people", "I", false)
  | 2 => ("CombTable$Table", "whoNames", "[J", true)
  | 3 => ("CombTable$Table", "ranks", "[I", true)
  | 4 => ("CombTable$Table", "kinds", "I", false)
  | 5 => ("CombTable$Table", "kindNames", "[J", true)
  | 6 => ("CombTable$Table", "opening", "[I", true)
  | 7 => ("CombTable$Table", "does", "[I", true)
  | 8 => ("CombTable$Table", "spans", "[I", true)
  | 9 => ("CombTable$Table", "answered", "[I", true)
  | 10 => ("CombTable$Table", "mays", "I", false)
  | 11 => ("CombTable$Table", "combs", "I", false)
  | 12 => ("CombTable$Table", "comb", "[I", true)
  | 13 => ("CombTable$Table", "combTold", "Z", false)
  | 14 => ("CombTable$Table", "byRanks", "Z", false)
  | _ => ("CombTable$Table", "twice", "Z", false)
def tyX5 : Nat → FieldType := fun k => match k with
  | 0 => .int
  | 1 => .int
  | 2 => .array .long
  | 3 => .array .int
  | 4 => .int
  | 5 => .array .long
  | 6 => .array .int
  | 7 => .array .int
  | 8 => .array .int
  | 9 => .array .int
  | 10 => .int
  | 11 => .int
  | 12 => .array .int
  | 13 => .boolean
  | 14 => .boolean
  | _ => .boolean
abbrev wsX50 : List Cond := u_ws RX5 TX5 16
theorem nmX5 : ∀ a, a < 16 → ∀ b, b < 16 → a ≠ b → (TX5 a).2.1 ≠ (TX5 b).2.1 := by decide +kernel
theorem tyX5_ok : ∀ k, k < 16 → parseFieldDescriptor (TX5 k).2.2.1 = some (tyX5 k) := by decide +kernel
abbrev cX5_init : ByteArray := prog_7_method_1_code
def yX5_init : MethodName := ⟨RX5, "<init>", "()V"⟩
abbrev cX5_clear : ByteArray := prog_7_method_2_code
def yX5_clear : MethodName := ⟨RX5, "clear", "()V"⟩
abbrev cX5_copy : ByteArray := prog_7_method_3_code
def yX5_copy : MethodName := ⟨RX5, "copy", "(LCombTable$Table;)V"⟩
abbrev cX5_hasWho : ByteArray := prog_7_method_4_code
def yX5_hasWho : MethodName := ⟨RX5, "hasWho", "(I)Z"⟩
abbrev cX5_hasKind : ByteArray := prog_7_method_5_code
def yX5_hasKind : MethodName := ⟨RX5, "hasKind", "(I)Z"⟩
abbrev cX5_whoNamed : ByteArray := prog_7_method_6_code
def yX5_whoNamed : MethodName := ⟨RX5, "whoNamed", "(J)I"⟩
abbrev cX5_kindNamed : ByteArray := prog_7_method_7_code
def yX5_kindNamed : MethodName := ⟨RX5, "kindNamed", "(J)I"⟩
abbrev cX5_mayAnswer : ByteArray := prog_7_method_8_code
def yX5_mayAnswer : MethodName := ⟨RX5, "mayAnswer", "(II)Z"⟩
abbrev cX5_openingOf : ByteArray := prog_7_method_9_code
def yX5_openingOf : MethodName := ⟨RX5, "openingOf", "(I)I"⟩
abbrev cX5_doingOf : ByteArray := prog_7_method_10_code
def yX5_doingOf : MethodName := ⟨RX5, "doingOf", "(I)I"⟩
abbrev cX5_spanOf : ByteArray := prog_7_method_11_code
def yX5_spanOf : MethodName := ⟨RX5, "spanOf", "(I)I"⟩
abbrev cX5_tell : ByteArray := prog_7_method_12_code
def yX5_tell : MethodName := ⟨RX5, "tell", "(II)I"⟩
abbrev cX5_reach : ByteArray := prog_7_method_13_code
def yX5_reach : MethodName := ⟨RX5, "reach", "(II)I"⟩
abbrev cX5_read : ByteArray := prog_7_method_14_code
def yX5_read : MethodName := ⟨RX5, "read", "(LCombTable$Tape;)Z"⟩
abbrev cX5_readLine : ByteArray := prog_7_method_15_code
def yX5_readLine : MethodName := ⟨RX5, "readLine", "(LCombTable$Tape;)Z"⟩
abbrev cX5_isNewName : ByteArray := prog_7_method_16_code
def yX5_isNewName : MethodName := ⟨RX5, "isNewName", "(LCombTable$Tape;)Z"⟩
abbrev cX5_readWho : ByteArray := prog_7_method_17_code
def yX5_readWho : MethodName := ⟨RX5, "readWho", "(LCombTable$Tape;)Z"⟩
abbrev cX5_readKind : ByteArray := prog_7_method_18_code
def yX5_readKind : MethodName := ⟨RX5, "readKind", "(LCombTable$Tape;)Z"⟩
abbrev cX5_readMay : ByteArray := prog_7_method_19_code
def yX5_readMay : MethodName := ⟨RX5, "readMay", "(LCombTable$Tape;)Z"⟩
abbrev cX5_readComb : ByteArray := prog_7_method_20_code
def yX5_readComb : MethodName := ⟨RX5, "readComb", "(LCombTable$Tape;)Z"⟩
def RX6 : String := "CombTable$Talk"
def TX6 : u_T := fun k => match k with
  | 0 => ("CombTable$Talk", "table", "LCombTable$Table;", false)
  | 1 => ("CombTable$Talk", "size", "I", false)
  | 2 => ("CombTable$Talk", "begun", "I", false)
  | 3 => ("CombTable$Talk", "why", "I", false)
  | 4 => ("CombTable$Talk", "speakers", "[I", true)
  | 5 => ("CombTable$Talk", "sorts", "[I", true)
  | 6 => ("CombTable$Talk", "heard", "[I", true)
  | 7 => ("CombTable$Talk", "lines", "[I", true)
  | 8 => ("CombTable$Talk", "depths", "[I", true)
  | _ => ("CombTable$Talk", "states", "[I", true)
def tyX6 : Nat → FieldType := fun k => match k with
  | 0 => .object "CombTable$Table"
  | 1 => .int
  | 2 => .int
  | 3 => .int
  | 4 => .array .int
  | 5 => .array .int
  | 6 => .array .int
  | 7 => .array .int
  | 8 => .array .int
  | _ => .array .int
abbrev wsX60 : List Cond := u_ws RX6 TX6 10
theorem nmX6 : ∀ a, a < 10 → ∀ b, b < 10 → a ≠ b → (TX6 a).2.1 ≠ (TX6 b).2.1 := by decide +kernel
theorem tyX6_ok : ∀ k, k < 10 → parseFieldDescriptor (TX6 k).2.2.1 = some (tyX6 k) := by decide +kernel
abbrev cX6_init : ByteArray := prog_8_method_1_code
def yX6_init : MethodName := ⟨RX6, "<init>", "(I)V"⟩
abbrev cX6_begin : ByteArray := prog_8_method_2_code
def yX6_begin : MethodName := ⟨RX6, "begin", "(LCombTable$Table;)V"⟩
abbrev cX6_has : ByteArray := prog_8_method_4_code
def yX6_has : MethodName := ⟨RX6, "has", "(I)Z"⟩
abbrev cX6_heardBy : ByteArray := prog_8_method_5_code
def yX6_heardBy : MethodName := ⟨RX6, "heardBy", "(II)I"⟩
abbrev cX6_repeats : ByteArray := prog_8_method_6_code
def yX6_repeats : MethodName := ⟨RX6, "repeats", "(I)Z"⟩
abbrev cX6_flaw : ByteArray := prog_8_method_7_code
def yX6_flaw : MethodName := ⟨RX6, "flaw", "(II)I"⟩
abbrev cX6_choices : ByteArray := prog_8_method_8_code
def yX6_choices : MethodName := ⟨RX6, "choices", "(I)I"⟩
abbrev cX6_add : ByteArray := prog_8_method_9_code
def yX6_add : MethodName := ⟨RX6, "add", "(II)V"⟩
abbrev cX6_takeBack : ByteArray := prog_8_method_10_code
def yX6_takeBack : MethodName := ⟨RX6, "takeBack", "()V"⟩
abbrev cX6_nextOnes : ByteArray := prog_8_method_11_code
def yX6_nextOnes : MethodName := ⟨RX6, "nextOnes", "()I"⟩
abbrev cX6_addNext : ByteArray := prog_8_method_12_code
def yX6_addNext : MethodName := ⟨RX6, "addNext", "(I)V"⟩
abbrev cX6_stateOf : ByteArray := prog_8_method_13_code
def yX6_stateOf : MethodName := ⟨RX6, "stateOf", "(I)I"⟩
abbrev cX6_promisee : ByteArray := prog_8_method_16_code
def yX6_promisee : MethodName := ⟨RX6, "promisee", "(I)I"⟩
abbrev cX6_dueOf : ByteArray := prog_8_method_17_code
def yX6_dueOf : MethodName := ⟨RX6, "dueOf", "(I)I"⟩
abbrev cX6_tell : ByteArray := prog_8_method_18_code
def yX6_tell : MethodName := ⟨RX6, "tell", "(II)I"⟩
def RX7 : String := "CombTable$Tape"
def TX7 : u_T := fun k => match k with
  | 0 => ("CombTable$Tape", "bytes", "[B", true)
  | 1 => ("CombTable$Tape", "length", "I", false)
  | 2 => ("CombTable$Tape", "most", "I", false)
  | 3 => ("CombTable$Tape", "next", "I", false)
  | 4 => ("CombTable$Tape", "sort", "I", false)
  | 5 => ("CombTable$Tape", "place", "I", false)
  | 6 => ("CombTable$Tape", "letters", "J", false)
  | 7 => ("CombTable$Tape", "term", "LCombTable$Term;", false)
  | 8 => ("CombTable$Tape", "value", "I", false)
  | 9 => ("CombTable$Tape", "fault", "I", false)
  | _ => ("CombTable$Tape", "faultPlace", "I", false)
def tyX7 : Nat → FieldType := fun k => match k with
  | 0 => .array .byte
  | 1 => .int
  | 2 => .int
  | 3 => .int
  | 4 => .int
  | 5 => .int
  | 6 => .long
  | 7 => .object "CombTable$Term"
  | 8 => .int
  | 9 => .int
  | _ => .int
abbrev wsX70 : List Cond := u_ws RX7 TX7 11
theorem nmX7 : ∀ a, a < 11 → ∀ b, b < 11 → a ≠ b → (TX7 a).2.1 ≠ (TX7 b).2.1 := by decide +kernel
theorem tyX7_ok : ∀ k, k < 11 → parseFieldDescriptor (TX7 k).2.2.1 = some (tyX7 k) := by decide +kernel
abbrev cX7_init : ByteArray := prog_9_method_1_code
def yX7_init : MethodName := ⟨RX7, "<init>", "()V"⟩
abbrev cX7_put : ByteArray := prog_9_method_2_code
def yX7_put : MethodName := ⟨RX7, "put", "(I)V"⟩
abbrev cX7_open : ByteArray := prog_9_method_3_code
def yX7_open : MethodName := ⟨RX7, "open", "(I)V"⟩
abbrev cX7_advance : ByteArray := prog_9_method_4_code
def yX7_advance : MethodName := ⟨RX7, "advance", "()V"⟩
abbrev cX7_readRun : ByteArray := prog_9_method_5_code
def yX7_readRun : MethodName := ⟨RX7, "readRun", "()V"⟩
abbrev cX7_termOf : ByteArray := prog_9_method_6_code
def yX7_termOf : MethodName := ⟨RX7, "termOf", "(J)LCombTable$Term;"⟩
abbrev cX7_isLetter : ByteArray := prog_9_method_7_code
def yX7_isLetter : MethodName := ⟨RX7, "isLetter", "(I)Z"⟩
abbrev cX7_isDigit : ByteArray := prog_9_method_8_code
def yX7_isDigit : MethodName := ⟨RX7, "isDigit", "(I)Z"⟩
abbrev cX7_fails : ByteArray := prog_9_method_9_code
def yX7_fails : MethodName := ⟨RX7, "fails", "(II)Z"⟩
abbrev cX7_isTerm : ByteArray := prog_9_method_10_code
def yX7_isTerm : MethodName := ⟨RX7, "isTerm", "(LCombTable$Term;)Z"⟩
abbrev cX7_isName : ByteArray := prog_9_method_11_code
def yX7_isName : MethodName := ⟨RX7, "isName", "()Z"⟩
abbrev cX7_isSign : ByteArray := prog_9_method_12_code
def yX7_isSign : MethodName := ⟨RX7, "isSign", "(C)Z"⟩
abbrev cX7_takes : ByteArray := prog_9_method_13_code
def yX7_takes : MethodName := ⟨RX7, "takes", "(C)Z"⟩
abbrev cX7_isNumber : ByteArray := prog_9_method_14_code
def yX7_isNumber : MethodName := ⟨RX7, "isNumber", "(II)Z"⟩
abbrev cX7_closes : ByteArray := prog_9_method_15_code
def yX7_closes : MethodName := ⟨RX7, "closes", "()Z"⟩
abbrev cX7_kindHere : ByteArray := prog_9_method_17_code
def yX7_kindHere : MethodName := ⟨RX7, "kindHere", "(LCombTable$Table;)I"⟩
def RX8 : String := "CombTable$Term"
def TX8 : u_T := fun k => match k with
  | _ => ("", "", "", false)
def tyX8 : Nat → FieldType := fun k => match k with
  | _ => .int
abbrev wsX80 : List Cond := u_ws RX8 TX8 0
theorem nmX8 : ∀ a, a < 0 → ∀ b, b < 0 → a ≠ b → (TX8 a).2.1 ≠ (TX8 b).2.1 := by decide +kernel
theorem tyX8_ok : ∀ k, k < 0 → parseFieldDescriptor (TX8 k).2.2.1 = some (tyX8 k) := by decide +kernel
abbrev cX8_withLetter : ByteArray := prog_10_method_4_code
def yX8_withLetter : MethodName := ⟨RX8, "withLetter", "(JI)J"⟩
def RX9 : String := "CombTable$Wholes"
def TX9 : u_T := fun k => match k with
  | 0 => ("CombTable$Wholes", "size", "I", false)
  | 1 => ("CombTable$Wholes", "whos", "[I", true)
  | 2 => ("CombTable$Wholes", "sorts", "[I", true)
  | 3 => ("CombTable$Wholes", "filled", "I", false)
  | 4 => ("CombTable$Wholes", "enough", "I", false)
  | 5 => ("CombTable$Wholes", "telling", "Z", false)
  | 6 => ("CombTable$Wholes", "sureSize", "I", false)
  | 7 => ("CombTable$Wholes", "sureWhos", "[I", true)
  | 8 => ("CombTable$Wholes", "sureKinds", "[I", true)
  | _ => ("CombTable$Wholes", "sureStates", "[I", true)
def tyX9 : Nat → FieldType := fun k => match k with
  | 0 => .int
  | 1 => .array .int
  | 2 => .array .int
  | 3 => .int
  | 4 => .int
  | 5 => .boolean
  | 6 => .int
  | 7 => .array .int
  | 8 => .array .int
  | _ => .array .int
abbrev wsX90 : List Cond := u_ws RX9 TX9 10
theorem nmX9 : ∀ a, a < 10 → ∀ b, b < 10 → a ≠ b → (TX9 a).2.1 ≠ (TX9 b).2.1 := by decide +kernel
theorem tyX9_ok : ∀ k, k < 10 → parseFieldDescriptor (TX9 k).2.2.1 = some (tyX9 k) := by decide +kernel
abbrev cX9_init : ByteArray := prog_11_method_1_code
def yX9_init : MethodName := ⟨RX9, "<init>", "()V"⟩
abbrev cX9_all : ByteArray := prog_11_method_2_code
def yX9_all : MethodName := ⟨RX9, "all", "(LCombTable$Minutes;LCombTable$Talk;I)I"⟩
abbrev cX9_start : ByteArray := prog_11_method_6_code
def yX9_start : MethodName := ⟨RX9, "start", "(Z)V"⟩
abbrev cX9_take : ByteArray := prog_11_method_7_code
def yX9_take : MethodName := ⟨RX9, "take", "(LCombTable$Minutes;I)V"⟩
abbrev cX9_exchange : ByteArray := prog_11_method_8_code
def yX9_exchange : MethodName := ⟨RX9, "exchange", "(I)V"⟩
abbrev cX9_fill : ByteArray := prog_11_method_9_code
def yX9_fill : MethodName := ⟨RX9, "fill", "(LCombTable$Talk;I)V"⟩
abbrev cX9_markStates : ByteArray := prog_11_method_10_code
def yX9_markStates : MethodName := ⟨RX9, "markStates", "(LCombTable$Talk;)V"⟩
def RX10 : String := "CombTable"
def TX10 : u_T := fun k => match k with
  | 0 => ("CombTable", "tape", "LCombTable$Tape;", true)
  | 1 => ("CombTable", "table", "LCombTable$Table;", true)
  | 2 => ("CombTable", "spareTable", "LCombTable$Table;", true)
  | 3 => ("CombTable", "talk", "LCombTable$Talk;", true)
  | 4 => ("CombTable", "trial", "LCombTable$Talk;", true)
  | 5 => ("CombTable", "otherTrial", "LCombTable$Talk;", true)
  | 6 => ("CombTable", "minutes", "LCombTable$Minutes;", true)
  | 7 => ("CombTable", "spareMinutes", "LCombTable$Minutes;", true)
  | 8 => ("CombTable", "sentence", "LCombTable$Sentence;", true)
  | 9 => ("CombTable", "spareSentence", "LCombTable$Sentence;", true)
  | 10 => ("CombTable", "firstImage", "LCombTable$Image;", true)
  | 11 => ("CombTable", "secondImage", "LCombTable$Image;", true)
  | 12 => ("CombTable", "search", "LCombTable$Search;", true)
  | 13 => ("CombTable", "wholes", "LCombTable$Wholes;", true)
  | _ => ("CombTable", "repair", "LCombTable$Repair;", true)
def tyX10 : Nat → FieldType := fun k => match k with
  | 0 => .object "CombTable$Tape"
  | 1 => .object "CombTable$Table"
  | 2 => .object "CombTable$Table"
  | 3 => .object "CombTable$Talk"
  | 4 => .object "CombTable$Talk"
  | 5 => .object "CombTable$Talk"
  | 6 => .object "CombTable$Minutes"
  | 7 => .object "CombTable$Minutes"
  | 8 => .object "CombTable$Sentence"
  | 9 => .object "CombTable$Sentence"
  | 10 => .object "CombTable$Image"
  | 11 => .object "CombTable$Image"
  | 12 => .object "CombTable$Search"
  | 13 => .object "CombTable$Wholes"
  | _ => .object "CombTable$Repair"
abbrev wsX100 : List Cond := u_ws RX10 TX10 15
theorem nmX10 : ∀ a, a < 15 → ∀ b, b < 15 → a ≠ b → (TX10 a).2.1 ≠ (TX10 b).2.1 := by decide +kernel
theorem tyX10_ok : ∀ k, k < 15 → parseFieldDescriptor (TX10 k).2.2.1 = some (tyX10 k) := by decide +kernel
abbrev cX10_init : ByteArray := prog_1_method_1_code
def yX10_init : MethodName := ⟨RX10, "<init>", "()V"⟩
abbrev cX10_feed : ByteArray := prog_1_method_2_code
def yX10_feed : MethodName := ⟨RX10, "feed", "(IIIII)I"⟩
abbrev cX10_end : ByteArray := prog_1_method_3_code
def yX10_end : MethodName := ⟨RX10, "end", "(I)Z"⟩
abbrev cX10_table : ByteArray := prog_1_method_4_code
def yX10_table : MethodName := ⟨RX10, "table", "()I"⟩
abbrev cX10_fault : ByteArray := prog_1_method_5_code
def yX10_fault : MethodName := ⟨RX10, "fault", "()I"⟩
abbrev cX10_rank : ByteArray := prog_1_method_6_code
def yX10_rank : MethodName := ⟨RX10, "rank", "(I)I"⟩
abbrev cX10_kind : ByteArray := prog_1_method_7_code
def yX10_kind : MethodName := ⟨RX10, "kind", "(II)I"⟩
abbrev cX10_say : ByteArray := prog_1_method_8_code
def yX10_say : MethodName := ⟨RX10, "say", "(II)I"⟩
abbrev cX10_wrong : ByteArray := prog_1_method_9_code
def yX10_wrong : MethodName := ⟨RX10, "wrong", "(II)I"⟩
abbrev cX10_may : ByteArray := prog_1_method_10_code
def yX10_may : MethodName := ⟨RX10, "may", "(I)I"⟩
abbrev cX10_undo : ByteArray := prog_1_method_11_code
def yX10_undo : MethodName := ⟨RX10, "undo", "()I"⟩
abbrev cX10_why : ByteArray := prog_1_method_13_code
def yX10_why : MethodName := ⟨RX10, "why", "()I"⟩
abbrev cX10_word : ByteArray := prog_1_method_14_code
def yX10_word : MethodName := ⟨RX10, "word", "(II)I"⟩
abbrev cX10_threads : ByteArray := prog_1_method_15_code
def yX10_threads : MethodName := ⟨RX10, "threads", "()I"⟩
abbrev cX10_wholes : ByteArray := prog_1_method_20_code
def yX10_wholes : MethodName := ⟨RX10, "wholes", "(I)I"⟩
abbrev cX10_mended : ByteArray := prog_1_method_24_code
def yX10_mended : MethodName := ⟨RX10, "mended", "()I"⟩
abbrev cX10_orders : ByteArray := prog_1_method_25_code
def yX10_orders : MethodName := ⟨RX10, "orders", "()I"⟩
abbrev cX10_drawn : ByteArray := prog_1_method_27_code
def yX10_drawn : MethodName := ⟨RX10, "drawn", "(II)I"⟩
abbrev cX10_spoke : ByteArray := prog_1_method_28_code
def yX10_spoke : MethodName := ⟨RX10, "spoke", "(II)I"⟩
abbrev cX10_said : ByteArray := prog_1_method_35_code
def yX10_said : MethodName := ⟨RX10, "said", "(I)I"⟩
abbrev cX10_count : ByteArray := prog_1_method_38_code
def yX10_count : MethodName := ⟨RX10, "count", "(I)I"⟩
abbrev cX10_afterReading : ByteArray := prog_1_method_39_code
def yX10_afterReading : MethodName := ⟨RX10, "afterReading", "(ZI)I"⟩
def RX11 : String := "CombTableModel"
def TX11 : u_T := fun k => match k with
  | _ => ("", "", "", false)
def tyX11 : Nat → FieldType := fun k => match k with
  | _ => .int
abbrev wsX110 : List Cond := u_ws RX11 TX11 0
theorem nmX11 : ∀ a, a < 0 → ∀ b, b < 0 → a ≠ b → (TX11 a).2.1 ≠ (TX11 b).2.1 := by decide +kernel
theorem tyX11_ok : ∀ k, k < 0 → parseFieldDescriptor (TX11 k).2.2.1 = some (tyX11 k) := by decide +kernel
def RJx145de : String := "java/io/Serializable"
def TJx145de : u_T := fun k => match k with
  | _ => ("", "", "", false)
def tyJx145de : Nat → FieldType := fun k => match k with
  | _ => .int
abbrev wsJx145de0 : List Cond := u_ws RJx145de TJx145de 0
theorem nmJx145de : ∀ a, a < 0 → ∀ b, b < 0 → a ≠ b → (TJx145de a).2.1 ≠ (TJx145de b).2.1 := by decide +kernel
theorem tyJx145de_ok : ∀ k, k < 0 → parseFieldDescriptor (TJx145de k).2.2.1 = some (tyJx145de k) := by decide +kernel
def RJx9f9b0 : String := "java/lang/CharSequence"
def TJx9f9b0 : u_T := fun k => match k with
  | _ => ("", "", "", false)
def tyJx9f9b0 : Nat → FieldType := fun k => match k with
  | _ => .int
abbrev wsJx9f9b00 : List Cond := u_ws RJx9f9b0 TJx9f9b0 0
theorem nmJx9f9b0 : ∀ a, a < 0 → ∀ b, b < 0 → a ≠ b → (TJx9f9b0 a).2.1 ≠ (TJx9f9b0 b).2.1 := by decide +kernel
theorem tyJx9f9b0_ok : ∀ k, k < 0 → parseFieldDescriptor (TJx9f9b0 k).2.2.1 = some (tyJx9f9b0 k) := by decide +kernel
def RJxb160c : String := "java/lang/Comparable"
def TJxb160c : u_T := fun k => match k with
  | _ => ("", "", "", false)
def tyJxb160c : Nat → FieldType := fun k => match k with
  | _ => .int
abbrev wsJxb160c0 : List Cond := u_ws RJxb160c TJxb160c 0
theorem nmJxb160c : ∀ a, a < 0 → ∀ b, b < 0 → a ≠ b → (TJxb160c a).2.1 ≠ (TJxb160c b).2.1 := by decide +kernel
theorem tyJxb160c_ok : ∀ k, k < 0 → parseFieldDescriptor (TJxb160c k).2.2.1 = some (tyJxb160c k) := by decide +kernel
def RJx29ce0 : String := "java/lang/Enum"
def TJx29ce0 : u_T := fun k => match k with
  | _ => ("", "", "", false)
def tyJx29ce0 : Nat → FieldType := fun k => match k with
  | _ => .int
abbrev wsJx29ce00 : List Cond := u_ws RJx29ce0 TJx29ce0 0
theorem nmJx29ce0 : ∀ a, a < 0 → ∀ b, b < 0 → a ≠ b → (TJx29ce0 a).2.1 ≠ (TJx29ce0 b).2.1 := by decide +kernel
theorem tyJx29ce0_ok : ∀ k, k < 0 → parseFieldDescriptor (TJx29ce0 k).2.2.1 = some (tyJx29ce0 k) := by decide +kernel
def RJ6 : String := "java/lang/Integer"
def TJ6 : u_T := fun k => match k with
  | _ => ("", "", "", false)
def tyJ6 : Nat → FieldType := fun k => match k with
  | _ => .int
abbrev wsJ60 : List Cond := u_ws RJ6 TJ6 0
theorem nmJ6 : ∀ a, a < 0 → ∀ b, b < 0 → a ≠ b → (TJ6 a).2.1 ≠ (TJ6 b).2.1 := by decide +kernel
theorem tyJ6_ok : ∀ k, k < 0 → parseFieldDescriptor (TJ6 k).2.2.1 = some (tyJ6 k) := by decide +kernel
abbrev cJ6_bitCount_0f7a4 : ByteArray := prog_19_method_49_code
def yJ6_bitCount_0f7a4 : MethodName := ⟨RJ6, "bitCount", "(I)I"⟩
def RJ9 : String := "java/lang/Math"
def TJ9 : u_T := fun k => match k with
  | _ => ("", "", "", false)
def tyJ9 : Nat → FieldType := fun k => match k with
  | _ => .int
abbrev wsJ90 : List Cond := u_ws RJ9 TJ9 0
theorem nmJ9 : ∀ a, a < 0 → ∀ b, b < 0 → a ≠ b → (TJ9 a).2.1 ≠ (TJ9 b).2.1 := by decide +kernel
theorem tyJ9_ok : ∀ k, k < 0 → parseFieldDescriptor (TJ9 k).2.2.1 = some (tyJ9 k) := by decide +kernel
abbrev cJ9_max_7cf53 : ByteArray := prog_20_method_65_code
def yJ9_max_7cf53 : MethodName := ⟨RJ9, "max", "(II)I"⟩
abbrev cJ9_min_7cf53 : ByteArray := prog_20_method_69_code
def yJ9_min_7cf53 : MethodName := ⟨RJ9, "min", "(II)I"⟩
def RJ0 : String := "java/lang/String"
def TJ0 : u_T := fun k => match k with
  | _ => ("", "", "", false)
def tyJ0 : Nat → FieldType := fun k => match k with
  | _ => .int
abbrev wsJ00 : List Cond := u_ws RJ0 TJ0 0
theorem nmJ0 : ∀ a, a < 0 → ∀ b, b < 0 → a ≠ b → (TJ0 a).2.1 ≠ (TJ0 b).2.1 := by decide +kernel
theorem tyJ0_ok : ∀ k, k < 0 → parseFieldDescriptor (TJ0 k).2.2.1 = some (tyJ0 k) := by decide +kernel
abbrev cJ0_length_8abf5 : ByteArray := prog_22_method_54_code
def yJ0_length_8abf5 : MethodName := ⟨RJ0, "length", "()I"⟩
abbrev cJ0_charAt_5068e : ByteArray := prog_22_method_56_code
def yJ0_charAt_5068e : MethodName := ⟨RJ0, "charAt", "(I)C"⟩
abbrev cJ0_coder_7d493 : ByteArray := prog_22_method_152_code
def yJ0_coder_7d493 : MethodName := ⟨RJ0, "coder", "()B"⟩
abbrev cJ0_isLatin1_aae02 : ByteArray := prog_22_method_154_code
def yJ0_isLatin1_aae02 : MethodName := ⟨RJ0, "isLatin1", "()Z"⟩
abbrev cJ0_checkIndex_df160 : ByteArray := prog_22_method_155_code
def yJ0_checkIndex_df160 : MethodName := ⟨RJ0, "checkIndex", "(II)V"⟩
def RJ1 : String := "java/lang/StringLatin1"
def TJ1 : u_T := fun k => match k with
  | _ => ("", "", "", false)
def tyJ1 : Nat → FieldType := fun k => match k with
  | _ => .int
abbrev wsJ10 : List Cond := u_ws RJ1 TJ1 0
theorem nmJ1 : ∀ a, a < 0 → ∀ b, b < 0 → a ≠ b → (TJ1 a).2.1 ≠ (TJ1 b).2.1 := by decide +kernel
theorem tyJ1_ok : ∀ k, k < 0 → parseFieldDescriptor (TJ1 k).2.2.1 = some (tyJ1 k) := by decide +kernel
abbrev cJ1_charAt_3b067 : ByteArray := prog_23_method_2_code
def yJ1_charAt_3b067 : MethodName := ⟨RJ1, "charAt", "([BI)C"⟩
def RJ2 : String := "java/lang/StringUTF16"
def TJ2 : u_T := fun k => match k with
  | _ => ("", "", "", false)
def tyJ2 : Nat → FieldType := fun k => match k with
  | _ => .int
abbrev wsJ20 : List Cond := u_ws RJ2 TJ2 0
theorem nmJ2 : ∀ a, a < 0 → ∀ b, b < 0 → a ≠ b → (TJ2 a).2.1 ≠ (TJ2 b).2.1 := by decide +kernel
theorem tyJ2_ok : ∀ k, k < 0 → parseFieldDescriptor (TJ2 k).2.2.1 = some (tyJ2 k) := by decide +kernel
abbrev cJ2_getChar_3b067 : ByteArray := prog_24_method_5_code
def yJ2_getChar_3b067 : MethodName := ⟨RJ2, "getChar", "([BI)C"⟩
abbrev cJ2_length_9d52b : ByteArray := prog_24_method_6_code
def yJ2_length_9d52b : MethodName := ⟨RJ2, "length", "([B)I"⟩
abbrev cJ2_charAt_3b067 : ByteArray := prog_24_method_83_code
def yJ2_charAt_3b067 : MethodName := ⟨RJ2, "charAt", "([BI)C"⟩
abbrev cJ2_checkIndex_2214a : ByteArray := prog_24_method_91_code
def yJ2_checkIndex_2214a : MethodName := ⟨RJ2, "checkIndex", "(I[B)V"⟩
def RJ10 : String := "java/lang/System"
def TJ10 : u_T := fun k => match k with
  | _ => ("", "", "", false)
def tyJ10 : Nat → FieldType := fun k => match k with
  | _ => .int
abbrev wsJ100 : List Cond := u_ws RJ10 TJ10 0
theorem nmJ10 : ∀ a, a < 0 → ∀ b, b < 0 → a ≠ b → (TJ10 a).2.1 ≠ (TJ10 b).2.1 := by decide +kernel
theorem tyJ10_ok : ∀ k, k < 0 → parseFieldDescriptor (TJ10 k).2.2.1 = some (tyJ10 k) := by decide +kernel
def RJxfd54e : String := "java/lang/constant/Constable"
def TJxfd54e : u_T := fun k => match k with
  | _ => ("", "", "", false)
def tyJxfd54e : Nat → FieldType := fun k => match k with
  | _ => .int
abbrev wsJxfd54e0 : List Cond := u_ws RJxfd54e TJxfd54e 0
theorem nmJxfd54e : ∀ a, a < 0 → ∀ b, b < 0 → a ≠ b → (TJxfd54e a).2.1 ≠ (TJxfd54e b).2.1 := by decide +kernel
theorem tyJxfd54e_ok : ∀ k, k < 0 → parseFieldDescriptor (TJxfd54e k).2.2.1 = some (tyJxfd54e k) := by decide +kernel
def RJx3cf43 : String := "java/lang/constant/ConstantDesc"
def TJx3cf43 : u_T := fun k => match k with
  | _ => ("", "", "", false)
def tyJx3cf43 : Nat → FieldType := fun k => match k with
  | _ => .int
abbrev wsJx3cf430 : List Cond := u_ws RJx3cf43 TJx3cf43 0
theorem nmJx3cf43 : ∀ a, a < 0 → ∀ b, b < 0 → a ≠ b → (TJx3cf43 a).2.1 ≠ (TJx3cf43 b).2.1 := by decide +kernel
theorem tyJx3cf43_ok : ∀ k, k < 0 → parseFieldDescriptor (TJx3cf43 k).2.2.1 = some (tyJx3cf43 k) := by decide +kernel
def RJ3 : String := "jdk/internal/util/Preconditions"
def TJ3 : u_T := fun k => match k with
  | _ => ("", "", "", false)
def tyJ3 : Nat → FieldType := fun k => match k with
  | _ => .int
abbrev wsJ30 : List Cond := u_ws RJ3 TJ3 0
theorem nmJ3 : ∀ a, a < 0 → ∀ b, b < 0 → a ≠ b → (TJ3 a).2.1 ≠ (TJ3 b).2.1 := by decide +kernel
theorem tyJ3_ok : ∀ k, k < 0 → parseFieldDescriptor (TJ3 k).2.2.1 = some (tyJ3 k) := by decide +kernel
abbrev cJ3_checkIndex_8e157 : ByteArray := prog_30_method_11_code
def yJ3_checkIndex_8e157 : MethodName := ⟨RJ3, "checkIndex", "(IILjava/util/function/BiFunction;)I"⟩
def RL : String := "CombTableLaw"
abbrev cL_put : ByteArray := method_2_code
def yL_put : MethodName := ⟨RL, "put", "([III)I"⟩
abbrev cL_add : ByteArray := method_3_code
def yL_add : MethodName := ⟨RL, "add", "([IILjava/lang/String;)I"⟩
abbrev cL_number : ByteArray := method_4_code
def yL_number : MethodName := ⟨RL, "number", "([III)I"⟩
abbrev cL_more : ByteArray := method_5_code
def yL_more : MethodName := ⟨RL, "more", "(LCombTable;[III)I"⟩
abbrev cL_lies : ByteArray := method_6_code
def yL_lies : MethodName := ⟨RL, "lies", "(LCombTable;[II)Z"⟩
abbrev cL_nameOf : ByteArray := method_7_code
def yL_nameOf : MethodName := ⟨RL, "nameOf", "(I)I"⟩
abbrev cL_kindOf : ByteArray := method_8_code
def yL_kindOf : MethodName := ⟨RL, "kindOf", "(I)Ljava/lang/String;"⟩
abbrev cL_told : ByteArray := method_9_code
def yL_told : MethodName := ⟨RL, "told", "(LCombTable;[I[III)Z"⟩
abbrev cL_live : ByteArray := method_10_code
def yL_live : MethodName := ⟨RL, "live", "([I[II[I)I"⟩
abbrev cL_state : ByteArray := method_11_code
def yL_state : MethodName := ⟨RL, "state", "([I[III)I"⟩
abbrev cL_speak : ByteArray := method_12_code
def yL_speak : MethodName := ⟨RL, "speak", "(LCombTable;[I[I[I[II)I"⟩
abbrev cL_law : ByteArray := code
def yL_law : MethodName := ⟨RL, "law", "([I)Z"⟩
abbrev cL_kind : ByteArray := method_14_code
def yL_kind : MethodName := ⟨RL, "kind", "(LCombTable;II)I"⟩
abbrev cL_word : ByteArray := method_15_code
def yL_word : MethodName := ⟨RL, "word", "(LCombTable;II)I"⟩
end
section
/-! the shape of the heap: place by place, in the order in which the law makes them: 1 object (its class), 2 int[], 3 long[], 4 byte[], 5 boolean[] -/
def jm_sh : List (Nat × Nat) := [(1, 9), (1, 7), (4, 940), (1, 5), (3, 8), (2, 8), (3, 10), (2, 10), (2, 10), (2, 10), (2, 10), (2, 6), (1, 5), (3, 8), (2, 8), (3, 10), (2, 10), (2, 10), (2, 10), (2, 10), (2, 6), (1, 6), (1, 5), (3, 8), (2, 8), (3, 10), (2, 10), (2, 10), (2, 10), (2, 10), (2, 6), (2, 400), (2, 400), (2, 400), (2, 400), (2, 400), (2, 400), (1, 6), (1, 5), (3, 8), (2, 8), (3, 10), (2, 10), (2, 10), (2, 10), (2, 10), (2, 6), (2, 400), (2, 400), (2, 400), (2, 400), (2, 400), (2, 400), (1, 6), (1, 5), (3, 8), (2, 8), (3, 10), (2, 10), (2, 10), (2, 10), (2, 10), (2, 6), (2, 8), (2, 8), (2, 8), (2, 8), (2, 8), (2, 8), (1, 1), (2, 24), (2, 24), (1, 1), (2, 24), (2, 24), (1, 4), (2, 64), (2, 64), (2, 64), (1, 4), (2, 64), (2, 64), (2, 64), (1, 0), (1, 5), (3, 8), (2, 8), (3, 10), (2, 10), (2, 10), (2, 10), (2, 10), (2, 6), (2, 400), (2, 400), (1, 1), (2, 24), (2, 24), (1, 4), (2, 64), (2, 64), (2, 64), (1, 0), (1, 5), (3, 8), (2, 8), (3, 10), (2, 10), (2, 10), (2, 10), (2, 10), (2, 6), (2, 400), (2, 400), (1, 1), (2, 24), (2, 24), (1, 4), (2, 64), (2, 64), (2, 64), (1, 3), (2, 8), (2, 8), (1, 8), (2, 24), (2, 24), (2, 24), (2, 24), (2, 24), (1, 2), (2, 7), (2, 7), (2, 64), (2, 32), (2, 16), (2, 56)]
def jm_N : Nat := 137
abbrev jm_cl : List vw_C := [(RX0, TX0, 7), (RX1, TX1, 4), (RX2, TX2, 7), (RX3, TX3, 7), (RX4, TX4, 5), (RX5, TX5, 16), (RX6, TX6, 10), (RX7, TX7, 11), (RX9, TX9, 10), (RX10, TX10, 15)]
def jm_nf (c : Nat) : Nat := ([7, 4, 7, 7, 5, 16, 10, 11, 10, 15] : List Nat).getD c 0
/-- a field: 0 a number, 1 a long, 2 a reference -/
def jm_ft (c k : Nat) : Nat := (([[0, 2, 0, 2, 2, 2, 2], [0, 0, 2, 2], [0, 0, 0, 0, 2, 2, 0], [0, 0, 0, 0, 2, 2, 0], [0, 0, 2, 2, 2], [0, 0, 2, 2, 0, 2, 2, 2, 2, 2, 0, 0, 2, 0, 0, 0], [2, 0, 0, 0, 2, 2, 2, 2, 2, 2], [2, 0, 0, 0, 0, 0, 1, 2, 0, 0, 0], [0, 2, 2, 0, 0, 0, 0, 2, 2, 2], [2, 2, 2, 2, 2, 2, 2, 2, 2, 2, 2, 2, 2, 2, 2]] : List (List Nat)).getD c []).getD k 0
/-- the fields that are set once: place, slot, what it holds -/
def jm_frl : List (Int × Int × Int) := [(0, 0, 1), (0, 1, 3), (0, 2, 12), (0, 3, 21), (0, 4, 37), (0, 5, 53), (0, 6, 69), (0, 7, 72), (0, 8, 75), (0, 9, 79), (0, 10, 83), (0, 11, 102), (0, 12, 121), (0, 13, 124), (0, 14, 130), (1, 0, 2), (3, 2, 4), (3, 3, 5), (3, 5, 6), (3, 6, 7), (3, 7, 8), (3, 8, 9), (3, 9, 10), (3, 12, 11), (12, 2, 13), (12, 3, 14), (12, 5, 15), (12, 6, 16), (12, 7, 17), (12, 8, 18), (12, 9, 19), (12, 12, 20), (21, 4, 31), (21, 5, 32), (21, 6, 33), (21, 7, 34), (21, 8, 35), (21, 9, 36), (22, 2, 23), (22, 3, 24), (22, 5, 25), (22, 6, 26), (22, 7, 27), (22, 8, 28), (22, 9, 29), (22, 12, 30), (37, 4, 47), (37, 5, 48), (37, 6, 49), (37, 7, 50), (37, 8, 51), (37, 9, 52), (38, 2, 39), (38, 3, 40), (38, 5, 41), (38, 6, 42), (38, 7, 43), (38, 8, 44), (38, 9, 45), (38, 12, 46), (53, 4, 63), (53, 5, 64), (53, 6, 65), (53, 7, 66), (53, 8, 67), (53, 9, 68), (54, 2, 55), (54, 3, 56), (54, 5, 57), (54, 6, 58), (54, 7, 59), (54, 8, 60), (54, 9, 61), (54, 12, 62), (69, 2, 70), (69, 3, 71), (72, 2, 73), (72, 3, 74), (75, 2, 76), (75, 3, 77), (75, 4, 78), (79, 2, 80), (79, 3, 81), (79, 4, 82), (83, 1, 84), (83, 3, 93), (83, 4, 94), (83, 5, 95), (83, 6, 98), (84, 2, 85), (84, 3, 86), (84, 5, 87), (84, 6, 88), (84, 7, 89), (84, 8, 90), (84, 9, 91), (84, 12, 92), (95, 2, 96), (95, 3, 97), (98, 2, 99), (98, 3, 100), (98, 4, 101), (102, 1, 103), (102, 3, 112), (102, 4, 113), (102, 5, 114), (102, 6, 117), (103, 2, 104), (103, 3, 105), (103, 5, 106), (103, 6, 107), (103, 7, 108), (103, 8, 109), (103, 9, 110), (103, 12, 111), (114, 2, 115), (114, 3, 116), (117, 2, 118), (117, 3, 119), (117, 4, 120), (121, 4, 122), (121, 5, 123), (124, 1, 125), (124, 2, 126), (124, 7, 127), (124, 8, 128), (124, 9, 129), (130, 4, 131), (130, 5, 132)]
def jm_fin (c k : Nat) : Bool := (([[false, true, false, true, true, true, true], [false, false, true, true], [false, false, false, false, true, true, false], [false, false, false, false, true, true, false], [false, false, true, true, true], [false, false, true, true, false, true, true, true, true, true, false, false, true, false, false, false], [false, false, false, false, true, true, true, true, true, true], [true, false, false, false, false, false, false, false, false, false, false], [false, true, true, false, false, false, false, true, true, true], [true, true, true, true, true, true, true, true, true, true, true, true, true, true, true]] : List (List Bool)).getD c []).getD k false
end
section
/-! ===== BEGIN words of one list among another's, by their places ===== -/
theorem goodIn_r {big : List Cond} (ws : List Cond) (ps : List Nat) (hp : ws = ps.filterMap (fun i => big[i]?)) (h : ws.all goodWord = true) : GoodIn big ws := by
  intro w hw
  have h1 := List.all_eq_true.mp h w hw
  rw [hp] at hw
  obtain ⟨i, -, hi⟩ := List.mem_filterMap.mp hw
  have hm : w ∈ big := by first | exact List.mem_of_getElem? hi | exact List.getElem?_mem hi
  exact ⟨hm, good_of_word h1⟩
theorem goodIn_app {big a b : List Cond} (ha : GoodIn big a) (hb : GoodIn big b) : GoodIn big (a ++ b) := fun w h => (List.mem_append.mp h).elim (ha w) (hb w)
theorem goodIn_ca {big a b : List Cond} {c : Cond} (ha : GoodIn big (c :: a)) (hb : GoodIn big b) : GoodIn big (c :: (a ++ b)) := fun w h => (List.mem_cons.mp h).elim (fun e => ha w (List.mem_cons.mpr (Or.inl e))) (fun h => (List.mem_append.mp h).elim (fun h => ha w (List.mem_cons.mpr (Or.inr h))) (hb w))
theorem goodIn_sub {big ws : List Cond} (hm : ∀ w ∈ ws, w ∈ big) (h : ws.all goodWord = true) : GoodIn big ws := fun w hw => ⟨hm w hw, good_of_word (List.all_eq_true.mp h w hw)⟩
/-! ===== END ===== -/
/-! ===== BEGIN exceptions that leave a method, and their catching by the caller (launches without stack traces) ===== -/
section VXA
/-! The laws vx_back, vx_callV, vx_callS, vx_callSW, vx_throw0, vx_throwS follow proofs of the library, with one case more: JvmDerived/Free/Laws.lean (Back.of_free), Shelf42/LK1.lean (callV, callS), Shelf/KitTraced.lean (throwNew0V, throwNewS). -/
/-- where a method has thrown q: the class by its name, the cell, what was written, the world -/
def vx_T (XC : String → State → State → Prop) (st : State) (q : Addr) (t : State) (mc ms : Nat) (free : Addr → Prop) : Prop :=
  ∃ (E : String) (ce : Cell) (L : List Loc), XC E st t ∧ t.heap[q]? = some ce ∧ ce.vm = .none ∧ st.vm.findClass E = some ce.cls ∧ st.WarmedH t.vm ∧ st.sameButNew ({ t with vm := st.vm } : State) L mc ms ∧ ∀ z ∈ L, free z.base
def vx_Q (Qc : Array Value → State → Outcome → State → Prop) (XC : String → State → State → Prop) (mc ms : Nat) (free : Addr → Prop) : Array Value → State → Outcome → State → Prop := fun a st o t =>
  (Qc a st o t ∧ ∃ L, FrameEnd st o t L mc ms ∧ ∀ q ∈ L, free q.base) ∨ ∃ q, o = .threw q ∧ vx_T XC st q t mc ms free
/-- a callee that returns or throws -/
def vx_Met (l : Launch) (y : MethodName) (ws : List Cond) (rm : Room) (Pc : Array Value → State → Prop) (Qc : Array Value → State → Outcome → State → Prop) (XC : String → State → State → Prop) (mc ms : Nat) (free : Addr → Prop) : Prop :=
  MetFree l y (headSpec ws rm) Pc (fun _ _ _ _ _ => True) (vx_Q Qc XC mc ms free)
def vx_Post (XC : String → State → State → Prop) (mc ms : Nat) (free : Addr → Prop) : Pt → Array Value → Addr → Pt → Prop := fun A a q B =>
  ∃ (g : JFrame) (mk : MethodId) (t : State) (L : List Loc) (E : String) (ce : Cell), B.U.heap = t.heap ∧ B.U.vm = t.vm ∧ XC E (A.U.calling g mk a) t ∧ t.heap[q]? = some ce ∧ ce.vm = .none ∧ A.U.vm.findClass E = some ce.cls ∧ B.locs = A.locs ++ L ∧ (∀ z ∈ L, free z.base) ∧ B.cells = A.cells + mc ∧ B.slots = A.slots + ms
def vx_Back (l : Launch) (R : Room) (p : Program) (e : Env) (below : List Frame) (s : State) (sargs : Array Value) (y : MethodName) (len W9 : Nat)
    (Pre : Pt → Array Value → Prop) (Post : Pt → Array Value → Option Value → Pt → Prop) (PostX : Pt → Array Value → Addr → Pt → Prop) : Prop :=
  ∀ (m : MethodId) (meth : Method) (c : Code) (A : Pt) (g : JFrame) (ig : Instr) (mk : MethodId) (a : Array Value),
    Stand p l e R s m sargs below meth c A.U A.locs A.cells A.slots → g.method = m → g.locals.size = c.maxLocals → decode c.code g.pc = .ok (ig, len) →
    2 * g.monitorRoom + (g.stack.map fun v => v.category).sum ≤ W9 → A.U.methodNamed? y = some mk → Pre A a →
    (∃ (v : Option Value) (B : Pt), Stand p l e R s m sargs below meth c B.U B.locs B.cells B.slots ∧ Post A a v B ∧
      Steps p.tables e below (doInvoke e (A.U.setTop g) [] mk a).1 (B.U.setTop { g with pc := g.pc + len, stack := v.toList ++ g.stack })) ∨
    (∃ (q : Addr) (B : Pt), Stand p l e R s m sargs below meth c B.U B.locs B.cells B.slots ∧ PostX A a q B ∧
      Steps p.tables e below (doInvoke e (A.U.setTop g) [] mk a).1 ((B.U.setTop g).pushFrame (.throwing q)))
section Payer
variable {l : Launch} {R : Room} {p : Program} {e : Env} {below : List Frame} {s : State} {sargs : Array Value} {y : MethodName} {len W9 : Nat}
theorem vx_back {ws : List Cond} {rm : Room} {Pc : Array Value → State → Prop} {Qc : Array Value → State → Outcome → State → Prop} {XC : String → State → State → Prop} {mc ms : Nat} {free : Addr → Prop} {bytes : ByteArray} {maxL : Nat} {ret : Option FieldType}
    (hM : vx_Met l y ws rm Pc Qc XC mc ms free) (hblind : FrameBlind Pc) (hrc : rm.cells = mc) (hrs : rm.slots = ms)
    (hframes : rm.frames + 1 ≤ R.frames) (hlocals : W9 + (maxL + 11) + rm.locals ≤ R.locals)
    (hws : ∀ w ∈ ws, ∀ a' U, s.WarmedH U.vm → w.before a' U = true) (hcode : Cond.code y bytes maxL ret ∈ ws) (hinit : ∀ a' U, s.WarmedH U.vm → (Cond.initialized y.cls).before a' U = true) :
    vx_Back l R p e below s sargs y len W9 (PreOf R mc ms Pc) (PostOf Qc mc ms free) (vx_Post XC mc ms free) := by
  intro m meth c A g ig mk a X hg hsize hdg hW hn hp
  have h1 : (headSpec ws rm).pre.before a A.U = true := atoms_intro fun w hw => hws w hw _ _ X.warmed
  have h2 : (Cond.code y bytes maxL ret).before a A.U = true := hws _ hcode _ _ X.warmed
  have h3 : (Cond.initialized y.cls).before a A.U = true := hinit _ _ X.warmed
  have h4 : A.cells + (headSpec ws rm).room.cells ≤ R.cells := by rw [show (headSpec ws rm).room.cells = mc from hrc]; exact hp.1
  have h5 : A.slots + (headSpec ws rm).room.slots ≤ R.slots := by rw [show (headSpec ws rm).room.slots = ms from hrs]; exact hp.2.1
  have hPc : Pc a (A.U.calling g mk a) := hblind _ _ _ _ hp.2.2
  obtain ⟨U, Ls, c0, s0⟩ := A
  dsimp only [Pt.U, Pt.locs, Pt.cells, Pt.slots] at h1 h2 h3 h4 h5 X hn hPc ⊢
  obtain ⟨methY, cY, hmY, hcY, -, hlY, -, -, -, -⟩ := Cond.code_spec hn h2
  obtain ⟨kY, hkY, -⟩ := className_of_methodNamed hn
  have hinitY : kY.init = .initialized := Cond.initialized_spec (findClass_of_methodNamed hn) hkY h3
  have h : At U g.method c below := by rw [hg]; exact X.here
  have hlocals9 : W9 + (maxL + 11) + (headSpec ws rm).room.locals ≤ R.locals := hlocals
  have happ : (headSpec ws rm).appliesLoose y e.platform (U.calling g mk a) = true :=
    Spec.appliesLoose_calling (g := g) h hdg hn hkY hinitY
      (X.room_calling (g := g) (R' := (headSpec ws rm).room) hsize hmY hcY hframes (by rw [hlY]; omega) h4 h5) h1
  obtain ⟨mid, hmid⟩ := h.above
  have hfr : (U.setTop g).frames = (.java g :: mid) ++ below := by rw [State.frames_setTop' g h.top, hmid]; rfl
  obtain ⟨o, s₂, hsteps, -, hend, hq⟩ := Steps.callFree hM p X.admits X.cas X.clock (acts := []) hfr happ hPc trivial
  have hq' : vx_Q Qc XC mc ms free a (U.calling g mk a) o s₂ := hq
  rw [State.frames_setTop' g h.top] at hend
  obtain ⟨g₀, hg0⟩ := Option.isSome_iff_exists.mp h.top
  obtain ⟨r, hr⟩ := State.topJava?_eq_some.mp hg0
  have hr' : (({ U with heap := s₂.heap, slotsUsed := s₂.slotsUsed } : State).setVm s₂.vm).frames = .java g₀ :: r := hr
  rcases hq' with ⟨hqc, L, hfe, hL⟩ | ⟨q, rfl, E, ce, L, hx, hce, hcv, hcl, hW₂, hsm, hL⟩
  · obtain ⟨⟨v, rfl⟩, hW₂, e2, q2, q3, q4, q5, q6⟩ := id hfe
    have e3 : s₂ = ({ (U.calling g mk a).setFrames s₂.frames with heap := s₂.heap, slotsUsed := s₂.slotsUsed } : State).setVm s₂.vm := by
      have : s₂ = ({ s₂ with vm := (U.calling g mk a).vm } : State).setVm s₂.vm := rfl
      rw [e2] at this
      exact this
    obtain ⟨c₂, i₂, len₂, hc₂, hd₂, hf₂⟩ := hend
    have hW' : U.WarmedH s₂.vm := hW₂
    have hcc : c₂ = c := by
      have h1 : s₂.code? g.method = U.code? g.method := by
        rw [State.code?_eq, State.code?_eq, hW'.alike.method?]
      exact Option.some.inj (hc₂.symm.trans (h1.trans h.code))
    subst hcc
    have hlen : len₂ = len := by rw [hdg] at hd₂; cases hd₂; rfl
    subst hlen
    have hs₂ : s₂ = (({ U with heap := s₂.heap, slotsUsed := s₂.slotsUsed } : State).setVm s₂.vm).setTop { g with pc := g.pc + len₂, stack := v.toList ++ g.stack } := by
      refine e3.trans ?_
      rw [hf₂, State.calling_eq h.top, State.setFrames_setFrames, State.setTop_of_frames _ hr', hr]
      rfl
    have hsame : U.sameButNew ({ U with heap := s₂.heap, slotsUsed := s₂.slotsUsed } : State) L mc ms := by
      refine ⟨?_, q2, q3, q4, q5, q6⟩
      obtain ⟨t, ht, -⟩ := State.frames_cons hr
      show ({ U with heap := s₂.heap, slotsUsed := s₂.slotsUsed } : State) = { U.setFrames U.frames with heap := s₂.heap, slotsUsed := s₂.slotsUsed }
      rw [State.setFrames_self ht]
    subst hg
    refine Or.inl ⟨v, ⟨(({ U with heap := s₂.heap, slotsUsed := s₂.slotsUsed } : State).setVm s₂.vm), Ls ++ L, c0 + mc, s0 + ms⟩,
      ⟨X.admits, X.cas, X.clock, X.frames, X.room, X.hears, X.method, X.code, (X.here.setHeapUsed s₂.heap s₂.slotsUsed).setVm hW'.alike, X.tail, State.WarmedH.trans X.warmed hW', X.limits, X.bytes, X.same.trans (hsame.setVm s.vm)⟩,
      ⟨g, mk, s₂, L, rfl, rfl, hqc, rfl, hL, rfl, rfl⟩, ?_⟩
    show Steps p.tables e below _ ((({ U with heap := s₂.heap, slotsUsed := s₂.slotsUsed } : State).setVm s₂.vm).setTop { g with pc := g.pc + len₂, stack := v.toList ++ g.stack })
    rw [← hs₂]
    exact hsteps
  · obtain ⟨e2, q2, q3, q4, q5, q6⟩ := id hsm
    have e3 : s₂ = ({ (U.calling g mk a).setFrames s₂.frames with heap := s₂.heap, slotsUsed := s₂.slotsUsed } : State).setVm s₂.vm := by
      have : s₂ = ({ s₂ with vm := (U.calling g mk a).vm } : State).setVm s₂.vm := rfl
      rw [e2] at this
      exact this
    have hf₂ : s₂.frames = .throwing q :: .java g :: U.frames.tail := hend
    have hW' : U.WarmedH s₂.vm := hW₂
    have hs₂ : s₂ = ((({ U with heap := s₂.heap, slotsUsed := s₂.slotsUsed } : State).setVm s₂.vm).setTop g).pushFrame (.throwing q) := by
      refine e3.trans ?_
      rw [hf₂, State.calling_eq h.top, State.setFrames_setFrames, State.pushFrame, State.frames_setTop _ hr', State.setTop_of_frames _ hr', State.setFrames_setFrames, hr]
      rfl
    have hsame : U.sameButNew ({ U with heap := s₂.heap, slotsUsed := s₂.slotsUsed } : State) L mc ms := by
      refine ⟨?_, q2, q3, q4, q5, q6⟩
      obtain ⟨t, ht, -⟩ := State.frames_cons hr
      show ({ U with heap := s₂.heap, slotsUsed := s₂.slotsUsed } : State) = { U.setFrames U.frames with heap := s₂.heap, slotsUsed := s₂.slotsUsed }
      rw [State.setFrames_self ht]
    subst hg
    refine Or.inr ⟨q, ⟨(({ U with heap := s₂.heap, slotsUsed := s₂.slotsUsed } : State).setVm s₂.vm), Ls ++ L, c0 + mc, s0 + ms⟩,
      ⟨X.admits, X.cas, X.clock, X.frames, X.room, X.hears, X.method, X.code, (X.here.setHeapUsed s₂.heap s₂.slotsUsed).setVm hW'.alike, X.tail, State.WarmedH.trans X.warmed hW', X.limits, X.bytes, X.same.trans (hsame.setVm s.vm)⟩,
      ⟨g, mk, s₂, L, E, ce, rfl, rfl, hx, hce, hcv, hcl, rfl, hL, rfl, rfl⟩, ?_⟩
    show Steps p.tables e below _ (((({ U with heap := s₂.heap, slotsUsed := s₂.slotsUsed } : State).setVm s₂.vm).setTop g).pushFrame (.throwing q))
    rw [← hs₂]
    exact hsteps
end Payer
section Calls
variable {p : Program} {l : Launch} {e : Env} {R : Room} {s : State} {m : MethodId} {args : Array Value} {below : List Frame} {meth : Method} {c : Code} {T : State} {locs : List Loc} {cells slots : Nat}
theorem vx_callV (X : Stand p l e R s m args below meth c T locs cells slots) (hexec : p.tables.exec = Jvm.exec) {own C : String} {index : Nat} {y : MethodName} {bytes : ByteArray} {maxL : Nat} {ret : Option FieldType}
    (hown : s.vm.findClass own = some m.cls) (hlink : (Cond.methodLink own index y).before args s = true) (hinst : (Cond.instanceMethod y).before args s = true) (hsel : (Cond.selects C y y).before args s = true)
    (hcode : (Cond.code y bytes maxL ret).before args s = true) (hy : y.cls ≠ "java/lang/invoke/MethodHandle" ∧ y.cls ≠ "java/lang/invoke/VarHandle")
    {W9 : Nat} {Pre : Pt → Array Value → Prop} {Post : Pt → Array Value → Option Value → Pt → Prop} {PostX : Pt → Array Value → Addr → Pt → Prop} (hK : vx_Back l R p e below s args y 3 W9 Pre Post PostX)
    {b : Addr} {cellB : Cell} (hcell : T.heap[b]? = some cellB) (hobj : cellB.vm.isStatics = false) (hcls : s.vm.findClass C = some cellB.cls)
    {g : JFrame} (hg : g.method = m) (hsize : g.locals.size = c.maxLocals) {argsL rest : List Value} (hlen : ∀ sig, parseMethodDescriptor y.desc = some sig → argsL.length = sig.parameters.length)
    (hstack : g.stack = argsL.reverse ++ .ref b :: rest) (hW : 2 * g.monitorRoom + (rest.map fun v => v.category).sum ≤ W9) (hdg : decode c.code g.pc = .ok (.invokevirtual index, 3))
    (hpre : ∀ vm₁, s.WarmedH vm₁ → Pre ⟨T.setVm vm₁, locs, cells, slots⟩ (Value.ref b :: argsL).toArray) :
    (∃ (v : Option Value) (vm₁ : Vm) (B : Pt), s.WarmedH vm₁ ∧ Stand p l e R s m args below meth c B.U B.locs B.cells B.slots ∧ Post ⟨T.setVm vm₁, locs, cells, slots⟩ (Value.ref b :: argsL).toArray v B ∧
      ∀ target, Steps p.tables e below (B.U.setTop { g with pc := g.pc + 3, stack := v.toList ++ rest }) target → Steps p.tables e below (T.setTop g) target) ∨
    (∃ (q : Addr) (vm₁ : Vm) (B : Pt), s.WarmedH vm₁ ∧ Stand p l e R s m args below meth c B.U B.locs B.cells B.slots ∧ PostX ⟨T.setVm vm₁, locs, cells, slots⟩ (Value.ref b :: argsL).toArray q B ∧
      Steps p.tables e below (T.setTop g) ((B.U.setTop { g with stack := rest }).pushFrame (.throwing q))) := by
  obtain ⟨mk, methM, hnamed, hmethM, hstM, habM⟩ := Cond.instanceMethod_spec hinst
  obtain ⟨methM', cM, hmethM', -, -, -, -, -, -, hsigM⟩ := Cond.code_spec hnamed hcode
  cases hmethM.symm.trans hmethM'
  obtain ⟨c2, r2, m2, q1, q2, q3, q4, kP, hkP, hkPi⟩ := Cond.selects_spec hsel
  cases hcls.symm.trans q1
  cases (State.methodFound?_of_named hnamed hy).symm.trans q2
  cases hnamed.symm.trans q3
  have hselP : selectMethod e.platform s.vm cellB.cls mk = .method mk := by rw [Launch.admits_selectMethod X.admits]; exact q4
  obtain ⟨vm₁, X₁, hstep₁⟩ := X.invokevirtual hexec hown hlink hnamed hmethM hstM hkP hkPi hy (a := b) (cell := cellB) hcell
    (fun z h => by rw [h] at hobj; cases hobj) hselP hmethM habM hkP hkPi (g := g) hg (argsL := argsL) (rest := rest) (hlen _ hsigM) hstack hdg
  rcases hK m meth c ⟨T.setVm vm₁, locs, cells, slots⟩ { g with stack := rest } (.invokevirtual index) mk (Value.ref b :: argsL).toArray X₁ hg hsize hdg hW (X₁.named hnamed) (hpre vm₁ X₁.warmed) with ⟨v, B, X', hpost, hsteps⟩ | ⟨q, B, X', hpost, hsteps⟩
  · exact Or.inl ⟨v, vm₁, B, X₁.warmed, X', hpost, fun target h => hstep₁ _ fun acts => by rw [doInvoke_state]; exact hsteps.trans h⟩
  · exact Or.inr ⟨q, vm₁, B, X₁.warmed, X', hpost, hstep₁ _ fun acts => by rw [doInvoke_state]; exact hsteps⟩
theorem vx_callS (X : Stand p l e R s m args below meth c T locs cells slots) (hexec : p.tables.exec = Jvm.exec) {own : String} {index : Nat} {y : MethodName} {bytes : ByteArray} {maxL : Nat} {ret : Option FieldType}
    (hown : s.vm.findClass own = some m.cls) (hlink : (Cond.methodLink own index y).before args s = true) (hstat : (Cond.static y).before args s = true) (hinit : (Cond.initialized y.cls).before args s = true)
    (hcode : (Cond.code y bytes maxL ret).before args s = true) (hy : y.cls ≠ "java/lang/invoke/MethodHandle" ∧ y.cls ≠ "java/lang/invoke/VarHandle")
    {W9 : Nat} {Pre : Pt → Array Value → Prop} {Post : Pt → Array Value → Option Value → Pt → Prop} {PostX : Pt → Array Value → Addr → Pt → Prop} (hK : vx_Back l R p e below s args y 3 W9 Pre Post PostX)
    {g : JFrame} (hg : g.method = m) (hsize : g.locals.size = c.maxLocals) {argsL rest : List Value} (hlen : ∀ sig, parseMethodDescriptor y.desc = some sig → argsL.length = sig.parameters.length)
    (hstack : g.stack = argsL.reverse ++ rest) (hW : 2 * g.monitorRoom + (rest.map fun v => v.category).sum ≤ W9) (hdg : decode c.code g.pc = .ok (.invokestatic index, 3))
    (hpre : ∀ vm₁, s.WarmedH vm₁ → Pre ⟨T.setVm vm₁, locs, cells, slots⟩ argsL.toArray) :
    (∃ (v : Option Value) (vm₁ : Vm) (B : Pt), s.WarmedH vm₁ ∧ Stand p l e R s m args below meth c B.U B.locs B.cells B.slots ∧ Post ⟨T.setVm vm₁, locs, cells, slots⟩ argsL.toArray v B ∧
      ∀ target, Steps p.tables e below (B.U.setTop { g with pc := g.pc + 3, stack := v.toList ++ rest }) target → Steps p.tables e below (T.setTop g) target) ∨
    (∃ (q : Addr) (vm₁ : Vm) (B : Pt), s.WarmedH vm₁ ∧ Stand p l e R s m args below meth c B.U B.locs B.cells B.slots ∧ PostX ⟨T.setVm vm₁, locs, cells, slots⟩ argsL.toArray q B ∧
      Steps p.tables e below (T.setTop g) ((B.U.setTop { g with stack := rest }).pushFrame (.throwing q))) := by
  obtain ⟨mk, hnamed⟩ := Cond.code_named hcode
  obtain ⟨methM, cM, hmethM, -, -, -, -, -, -, hsigM⟩ := Cond.code_spec hnamed hcode
  have hstatic : methM.isStatic = true := Cond.static_spec hnamed hmethM hstat
  obtain ⟨kP, hkP, -⟩ := className_of_methodNamed hnamed
  have hinitP : kP.init = .initialized := Cond.initialized_spec (findClass_of_methodNamed hnamed) hkP hinit
  obtain ⟨vm₁, X₁, hstep₁⟩ := X.invokestatic hexec hown hlink hnamed hmethM hstatic hkP hinitP hy (g := g) hg (argsL := argsL) (rest := rest) (hlen _ hsigM) hstack hdg
  rcases hK m meth c ⟨T.setVm vm₁, locs, cells, slots⟩ { g with stack := rest } (.invokestatic index) mk argsL.toArray X₁ hg hsize hdg hW (X₁.named hnamed) (hpre vm₁ X₁.warmed) with ⟨v, B, X', hpost, hsteps⟩ | ⟨q, B, X', hpost, hsteps⟩
  · exact Or.inl ⟨v, vm₁, B, X₁.warmed, X', hpost, fun target h => hstep₁ _ fun acts => by rw [doInvoke_state]; exact hsteps.trans h⟩
  · exact Or.inr ⟨q, vm₁, B, X₁.warmed, X', hpost, hstep₁ _ fun acts => by rw [doInvoke_state]; exact hsteps⟩
end Calls
theorem vx_cls {s : State} {T : State} {vm₁ : Vm} {E : String} {k : ClassId} (hW : s.WarmedH vm₁) (h : (T.setVm vm₁).vm.findClass E = some k) : s.vm.findClass E = some k := by
  have h1 : vm₁.findClass E = some k := h
  rw [hW.alike.findClass] at h1
  exact h1
/-- the method's frame g, with q thrown over it -/
def vx_W (p : Program) (l : Launch) (e : Env) (R : Room) (s : State) (m : MethodId) (args : Array Value) (below : List Frame) (meth : Method) (c : Code) (H : Heap) (locs : List Loc) (cells slots : Nat) (Q : State → Prop) (g : JFrame) (q : Addr) : Prop :=
  ∀ T : State, T.heap = H → Stand p l e R s m args below meth c T locs cells slots → ∃ t, Steps p.tables e below ((T.setTop g).pushFrame (.throwing q)) t ∧ Q t
def vx_Run (p : Program) (l : Launch) (e : Env) (R : Room) (s : State) (m : MethodId) (args : Array Value) (below : List Frame) (meth : Method) (c : Code) (H : Heap) (locs : List Loc) (cells slots mc ms : Nat) (g : JFrame) (rest : List Value) (Qa : State → Outcome → State → Prop) (XC : String → State → State → Prop) (free : Addr → Prop) : Prop :=
  ∀ T : State, T.heap = H → Stand p l e R s m args below meth c T locs cells slots →
    (∃ (v : Option Value) (st₀ t T' : State) (L : List Loc), st₀.heap = H ∧ Stand p l e R s m args below meth c T' (locs ++ L) (cells + mc) (slots + ms) ∧ (∀ q ∈ L, free q.base) ∧ T'.heap = t.heap ∧ T'.vm = t.vm ∧ Qa st₀ (.returned v) t ∧
      Goes p e below T g T' { g with pc := g.pc + 3, stack := v.toList ++ rest }) ∨
    (∃ (q : Addr) (st₀ t T' : State) (L : List Loc) (E : String) (ce : Cell), st₀.heap = H ∧ Stand p l e R s m args below meth c T' (locs ++ L) (cells + mc) (slots + ms) ∧ (∀ z ∈ L, free z.base) ∧ T'.heap = t.heap ∧ T'.vm = t.vm ∧ XC E st₀ t ∧ t.heap[q]? = some ce ∧ ce.vm = .none ∧ s.vm.findClass E = some ce.cls ∧
      Steps p.tables e below (T.setTop g) ((T'.setTop { g with stack := rest }).pushFrame (.throwing q)))
def vx_X {S : Type} (px : S → Prop) (B : String → S → State → Prop) (A : Nat → Prop) : String → State → State → Prop := fun E st t => ∃ u : S, px u ∧ B E u t ∧ va_F A st t
section Runs
variable {p : Program} {l : Launch} {e : Env} {R : Room} {s : State} {m : MethodId} {args : Array Value} {below : List Frame} {meth : Method} {c : Code} {H : Heap} {locs : List Loc} {cells slots : Nat}
variable {y : MethodName} {bytes cc : ByteArray} {maxL nL mc ms n index : Nat} {ret : Option FieldType} {ws : List Cond} {rm : Room} {Pc : Array Value → State → Prop} {Qc : Array Value → State → Outcome → State → Prop} {XC : String → State → State → Prop} {free : Addr → Prop} {Ts : List Cond} {own C : String} {b : Addr} {As rest : List Value} {g : JFrame}
theorem vx_callBack (cb : CallB R s args own index y bytes maxL ret ws rm mc ms n) (hM : vx_Met l y ws rm Pc Qc XC mc ms free) (hbl : FrameBlind Pc) : vx_Back l R p e below s args y 3 8 (PreOf R mc ms Pc) (PostOf Qc mc ms free) (vx_Post XC mc ms free) := by
  obtain ⟨hrc, hrs, hfr, hlo, hws, hcw, -, hini, -⟩ := cb
  exact vx_back (bytes := bytes) (maxL := maxL) (ret := ret) hM hbl hrc hrs hfr hlo hws hcw (fun a' U hW => word_at hW (Or.inl (by first | rfl | simp [Cond.onTables, Cond.keeps, Cond.steady])) hini)
theorem vx_runV (S : CallFix p m c cc nL s args Ts own) (hM : vx_Met l y ws rm Pc Qc XC mc ms free) (cw : CallW R s args own C index y bytes maxL ret ws rm mc ms n) (hp : PreV s H C b Pc As)
    (hg : g.method = m) (hn : As.length = n) (hsize : g.locals.size = nL) (hstack : g.stack = As.reverse ++ .ref b :: rest) (hW : 2 * g.monitorRoom + (rest.map fun v => v.category).sum ≤ 8) (hdg : decode cc g.pc = .ok (.invokevirtual index, 3)) (hf : cells + mc ≤ R.cells ∧ slots + ms ≤ R.slots) :
    vx_Run p l e R s m args below meth c H locs cells slots mc ms g rest (Qc (Value.ref b :: As).toArray) XC free := by
  have hK : vx_Back l R p e below s args y 3 8 (PreOf R mc ms Pc) (PostOf Qc mc ms free) (vx_Post XC mc ms free) := vx_callBack cw.1 hM hp.1
  obtain ⟨⟨-, -, -, -, -, -, hcode, -, hy, hlen, hl⟩, hin, hse⟩ := cw
  obtain ⟨hx, hb, hml, ho, -⟩ := S
  obtain ⟨-, ⟨cellB, hcB, hoB, hclB⟩, hPc⟩ := hp
  intro T hT X
  rcases vx_callV X hx (C := C) (bytes := bytes) (maxL := maxL) (ret := ret) ho hl hin hse hcode hy hK (by rw [hT]; exact hcB) hoB hclB hg (hsize.trans hml.symm) (argsL := As) (rest := rest) (fun sig h => hn.trans (hlen sig h)) hstack hW (by rw [hb]; exact hdg)
    (fun vm₁ hW₁ => ⟨hf.1, hf.2, hPc (T.setVm vm₁) hT hW₁⟩) with ⟨v, vm₁, ⟨U', l2, c2, s2⟩, hW₁, X', ⟨g', mk, t, L, e1, e2, hq, h1, hL, h2, h3⟩, st⟩ | ⟨q, vm₁, ⟨U', l2, c2, s2⟩, hW₁, X', ⟨g', mk, t, L, E, ce, e1, e2, hq, hce, hcv, hcl, h1, hL, h2, h3⟩, st⟩
  · dsimp only [Pt.U, Pt.locs, Pt.cells, Pt.slots] at X' e1 e2 h1 h2 h3 st
    subst h1; subst h2; subst h3
    exact Or.inl ⟨v, (T.setVm vm₁).calling g' mk (Value.ref b :: As).toArray, t, U', L, hT, X', hL, e1, e2, hq, st⟩
  · dsimp only [Pt.U, Pt.locs, Pt.cells, Pt.slots] at X' e1 e2 h1 h2 h3 st hcl
    subst h1; subst h2; subst h3
    exact Or.inr ⟨q, (T.setVm vm₁).calling g' mk (Value.ref b :: As).toArray, t, U', L, E, ce, hT, X', hL, e1, e2, hq, hce, hcv, vx_cls hW₁ hcl, st⟩
theorem vx_runS (S : CallFix p m c cc nL s args Ts own) (hM : vx_Met l y ws rm Pc Qc XC mc ms free) (cw : CallB R s args own index y bytes maxL ret ws rm mc ms n ∧ (Cond.static y).before args s = true) (hp : PreS s H Pc As)
    (hg : g.method = m) (hn : As.length = n) (hsize : g.locals.size = nL) (hstack : g.stack = As.reverse ++ rest) (hW : 2 * g.monitorRoom + (rest.map fun v => v.category).sum ≤ 8) (hdg : decode cc g.pc = .ok (.invokestatic index, 3)) (hf : cells + mc ≤ R.cells ∧ slots + ms ≤ R.slots) :
    vx_Run p l e R s m args below meth c H locs cells slots mc ms g rest (Qc As.toArray) XC free := by
  have hK : vx_Back l R p e below s args y 3 8 (PreOf R mc ms Pc) (PostOf Qc mc ms free) (vx_Post XC mc ms free) := vx_callBack cw.1 hM hp.1
  obtain ⟨⟨-, -, -, -, -, -, hcode, hini, hy, hlen, hl⟩, hstt⟩ := cw
  obtain ⟨hx, hb, hml, ho, -⟩ := S
  intro T hT X
  rcases vx_callS X hx (bytes := bytes) (maxL := maxL) (ret := ret) ho hl hstt hini hcode hy hK hg (hsize.trans hml.symm) (argsL := As) (rest := rest) (fun sig h => hn.trans (hlen sig h)) hstack hW (by rw [hb]; exact hdg)
    (fun vm₁ hW₁ => ⟨hf.1, hf.2, hp.2 (T.setVm vm₁) hT hW₁⟩) with ⟨v, vm₁, ⟨U', l2, c2, s2⟩, hW₁, X', ⟨g', mk, t, L, e1, e2, hq, h1, hL, h2, h3⟩, st⟩ | ⟨q, vm₁, ⟨U', l2, c2, s2⟩, hW₁, X', ⟨g', mk, t, L, E, ce, e1, e2, hq, hce, hcv, hcl, h1, hL, h2, h3⟩, st⟩
  · dsimp only [Pt.U, Pt.locs, Pt.cells, Pt.slots] at X' e1 e2 h1 h2 h3 st
    subst h1; subst h2; subst h3
    exact Or.inl ⟨v, (T.setVm vm₁).calling g' mk As.toArray, t, U', L, hT, X', hL, e1, e2, hq, st⟩
  · dsimp only [Pt.U, Pt.locs, Pt.cells, Pt.slots] at X' e1 e2 h1 h2 h3 st hcl
    subst h1; subst h2; subst h3
    exact Or.inr ⟨q, (T.setVm vm₁).calling g' mk As.toArray, t, U', L, E, ce, hT, X', hL, e1, e2, hq, hce, hcv, vx_cls hW₁ hcl, st⟩
end Runs
section Rows
variable {p : Program} {l : Launch} {e : Env} {R : Room} {s : State} {m : MethodId} {args : Array Value} {below : List Frame} {meth : Method} {c : Code} {H : Heap} {locs : List Loc} {cells slots : Nat} {Q : State → Prop}
variable {mc ms : Nat} {free : Addr → Prop} {A0 A1 : Nat → Prop} {H0 : Heap} {a : Array Value} {pc : Nat} {ls : Array Slot} {st0 rest : List Value}
theorem vx_keep {st₀ t T' : State} {L : List Loc} (h0 : st₀.heap = H) (e1 : T'.heap = t.heap) (hS : va_S A0 H0 H locs) (hA : ∀ q, q < H.size → A1 q → A0 q) (hf : ∀ q, free q → A0 q) (hL : ∀ q ∈ L, free q.base) (hF : va_F A1 st₀ t) :
    H.size ≤ T'.heap.size ∧ (∀ q : Nat, q < H.size → ¬ A1 q → T'.heap[q]? = H[q]?) ∧ va_S A0 H0 T'.heap (locs ++ L) := by
  obtain ⟨hz, hk⟩ := hF
  rw [h0] at hz hk
  exact ⟨by rw [e1]; exact hz, fun q h1 h2 => by rw [e1]; exact hk q h1 h2,
    ⟨Nat.le_trans hS.1 (by rw [e1]; exact hz), fun q h1 h2 => by rw [e1, hk q (Nat.lt_of_lt_of_le h1 hS.1) (fun z => h2 (hA q (Nat.lt_of_lt_of_le h1 hS.1) z))]; exact hS.2.1 q h1 h2, fun q hq => by
      rcases List.mem_append.mp hq with h | h
      · exact hS.2.2 q h
      · exact hf _ (hL q h)⟩⟩
theorem vx_calli {S SX : Type} {post : Int32 → S → Prop} {px : SX → Prop} {B : S → State → Prop} {BX : String → SX → State → Prop} {AX : Nat → Prop} (hr : vx_Run p l e R s m args below meth c H locs cells slots mc ms (F0 m pc ls st0) rest (va_Qi post B A1 a) (vx_X px BX AX) free) (hS : va_S A0 H0 H locs) (hA : ∀ q, q < H.size → A1 q → A0 q) (hf : ∀ q, free q → A0 q) (hAX : ∀ q, q < H.size → AX q → A0 q)
    (kx : ∀ (E : String) (ce : Cell) (q9 : Addr) (u : SX) (t : State) (H1 : Heap) (locs1 : List Loc), t.heap = H1 → s.vm.Alike t.vm → px u → BX E u t → H.size ≤ H1.size → (∀ q : Nat, q < H.size → ¬ AX q → H1[q]? = H[q]?) → va_S A0 H0 H1 locs1 → H1[q9]? = some ce → ce.vm = .none → s.vm.findClass E = some ce.cls → vx_W p l e R s m args below meth c H1 locs1 (cells + mc) (slots + ms) Q (F0 m pc ls rest) q9)
    (kk : ∀ (r : Int32) (u : S) (t : State) (H1 : Heap) (locs1 : List Loc), t.heap = H1 → s.vm.Alike t.vm → post r u → B u t → H.size ≤ H1.size → (∀ q : Nat, q < H.size → ¬ A1 q → H1[q]? = H[q]?) → va_S A0 H0 H1 locs1 → W p l e R s m args below meth c H1 locs1 (cells + mc) (slots + ms) Q (F0 m (pc + 3) ls (.int r :: rest))) : W p l e R s m args below meth c H locs cells slots Q (F0 m pc ls st0) := by
  intro T hT X
  rcases hr T hT X with ⟨v, st₀, t, T', L, h0, X', hL, e1, e2, ⟨⟨r, u, hv, hp, hb⟩, hF⟩, st⟩ | ⟨q, st₀, t, T', L, E, ce, h0, X', hL, e1, e2, ⟨u, hp, hb, hF⟩, hce, hcv, hcl, st⟩
  · cases hv
    obtain ⟨k1, k2, k3⟩ := vx_keep h0 e1 hS hA hf hL hF
    obtain ⟨t2, a1, b1⟩ := kk r u t T'.heap (locs ++ L) e1.symm (by rw [← e2]; exact X'.warmed.alike) hp hb k1 k2 k3 T' rfl X'
    exact ⟨t2, st t2 a1, b1⟩
  · obtain ⟨k1, k2, k3⟩ := vx_keep h0 e1 hS hAX hf hL hF
    obtain ⟨t2, a1, b1⟩ := kx E ce q u t T'.heap (locs ++ L) e1.symm (by rw [← e2]; exact X'.warmed.alike) hp hb k1 k2 k3 (by rw [e1]; exact hce) hcv hcl T' rfl X'
    exact ⟨t2, st.trans a1, b1⟩
theorem vx_calll {S SX : Type} {post : Int64 → S → Prop} {px : SX → Prop} {B : S → State → Prop} {BX : String → SX → State → Prop} {AX : Nat → Prop} (hr : vx_Run p l e R s m args below meth c H locs cells slots mc ms (F0 m pc ls st0) rest (va_Ql post B A1 a) (vx_X px BX AX) free) (hS : va_S A0 H0 H locs) (hA : ∀ q, q < H.size → A1 q → A0 q) (hf : ∀ q, free q → A0 q) (hAX : ∀ q, q < H.size → AX q → A0 q)
    (kx : ∀ (E : String) (ce : Cell) (q9 : Addr) (u : SX) (t : State) (H1 : Heap) (locs1 : List Loc), t.heap = H1 → s.vm.Alike t.vm → px u → BX E u t → H.size ≤ H1.size → (∀ q : Nat, q < H.size → ¬ AX q → H1[q]? = H[q]?) → va_S A0 H0 H1 locs1 → H1[q9]? = some ce → ce.vm = .none → s.vm.findClass E = some ce.cls → vx_W p l e R s m args below meth c H1 locs1 (cells + mc) (slots + ms) Q (F0 m pc ls rest) q9)
    (kk : ∀ (r : Int64) (u : S) (t : State) (H1 : Heap) (locs1 : List Loc), t.heap = H1 → s.vm.Alike t.vm → post r u → B u t → H.size ≤ H1.size → (∀ q : Nat, q < H.size → ¬ A1 q → H1[q]? = H[q]?) → va_S A0 H0 H1 locs1 → W p l e R s m args below meth c H1 locs1 (cells + mc) (slots + ms) Q (F0 m (pc + 3) ls (.long r :: rest))) : W p l e R s m args below meth c H locs cells slots Q (F0 m pc ls st0) := by
  intro T hT X
  rcases hr T hT X with ⟨v, st₀, t, T', L, h0, X', hL, e1, e2, ⟨⟨r, u, hv, hp, hb⟩, hF⟩, st⟩ | ⟨q, st₀, t, T', L, E, ce, h0, X', hL, e1, e2, ⟨u, hp, hb, hF⟩, hce, hcv, hcl, st⟩
  · cases hv
    obtain ⟨k1, k2, k3⟩ := vx_keep h0 e1 hS hA hf hL hF
    obtain ⟨t2, a1, b1⟩ := kk r u t T'.heap (locs ++ L) e1.symm (by rw [← e2]; exact X'.warmed.alike) hp hb k1 k2 k3 T' rfl X'
    exact ⟨t2, st t2 a1, b1⟩
  · obtain ⟨k1, k2, k3⟩ := vx_keep h0 e1 hS hAX hf hL hF
    obtain ⟨t2, a1, b1⟩ := kx E ce q u t T'.heap (locs ++ L) e1.symm (by rw [← e2]; exact X'.warmed.alike) hp hb k1 k2 k3 (by rw [e1]; exact hce) hcv hcl T' rfl X'
    exact ⟨t2, st.trans a1, b1⟩
theorem vx_callf {S SX : Type} {post : UInt32 → S → Prop} {px : SX → Prop} {B : S → State → Prop} {BX : String → SX → State → Prop} {AX : Nat → Prop} (hr : vx_Run p l e R s m args below meth c H locs cells slots mc ms (F0 m pc ls st0) rest (va_Qf post B A1 a) (vx_X px BX AX) free) (hS : va_S A0 H0 H locs) (hA : ∀ q, q < H.size → A1 q → A0 q) (hf : ∀ q, free q → A0 q) (hAX : ∀ q, q < H.size → AX q → A0 q)
    (kx : ∀ (E : String) (ce : Cell) (q9 : Addr) (u : SX) (t : State) (H1 : Heap) (locs1 : List Loc), t.heap = H1 → s.vm.Alike t.vm → px u → BX E u t → H.size ≤ H1.size → (∀ q : Nat, q < H.size → ¬ AX q → H1[q]? = H[q]?) → va_S A0 H0 H1 locs1 → H1[q9]? = some ce → ce.vm = .none → s.vm.findClass E = some ce.cls → vx_W p l e R s m args below meth c H1 locs1 (cells + mc) (slots + ms) Q (F0 m pc ls rest) q9)
    (kk : ∀ (r : UInt32) (u : S) (t : State) (H1 : Heap) (locs1 : List Loc), t.heap = H1 → s.vm.Alike t.vm → post r u → B u t → H.size ≤ H1.size → (∀ q : Nat, q < H.size → ¬ A1 q → H1[q]? = H[q]?) → va_S A0 H0 H1 locs1 → W p l e R s m args below meth c H1 locs1 (cells + mc) (slots + ms) Q (F0 m (pc + 3) ls (.float r :: rest))) : W p l e R s m args below meth c H locs cells slots Q (F0 m pc ls st0) := by
  intro T hT X
  rcases hr T hT X with ⟨v, st₀, t, T', L, h0, X', hL, e1, e2, ⟨⟨r, u, hv, hp, hb⟩, hF⟩, st⟩ | ⟨q, st₀, t, T', L, E, ce, h0, X', hL, e1, e2, ⟨u, hp, hb, hF⟩, hce, hcv, hcl, st⟩
  · cases hv
    obtain ⟨k1, k2, k3⟩ := vx_keep h0 e1 hS hA hf hL hF
    obtain ⟨t2, a1, b1⟩ := kk r u t T'.heap (locs ++ L) e1.symm (by rw [← e2]; exact X'.warmed.alike) hp hb k1 k2 k3 T' rfl X'
    exact ⟨t2, st t2 a1, b1⟩
  · obtain ⟨k1, k2, k3⟩ := vx_keep h0 e1 hS hAX hf hL hF
    obtain ⟨t2, a1, b1⟩ := kx E ce q u t T'.heap (locs ++ L) e1.symm (by rw [← e2]; exact X'.warmed.alike) hp hb k1 k2 k3 (by rw [e1]; exact hce) hcv hcl T' rfl X'
    exact ⟨t2, st.trans a1, b1⟩
theorem vx_calld {S SX : Type} {post : UInt64 → S → Prop} {px : SX → Prop} {B : S → State → Prop} {BX : String → SX → State → Prop} {AX : Nat → Prop} (hr : vx_Run p l e R s m args below meth c H locs cells slots mc ms (F0 m pc ls st0) rest (va_Qd post B A1 a) (vx_X px BX AX) free) (hS : va_S A0 H0 H locs) (hA : ∀ q, q < H.size → A1 q → A0 q) (hf : ∀ q, free q → A0 q) (hAX : ∀ q, q < H.size → AX q → A0 q)
    (kx : ∀ (E : String) (ce : Cell) (q9 : Addr) (u : SX) (t : State) (H1 : Heap) (locs1 : List Loc), t.heap = H1 → s.vm.Alike t.vm → px u → BX E u t → H.size ≤ H1.size → (∀ q : Nat, q < H.size → ¬ AX q → H1[q]? = H[q]?) → va_S A0 H0 H1 locs1 → H1[q9]? = some ce → ce.vm = .none → s.vm.findClass E = some ce.cls → vx_W p l e R s m args below meth c H1 locs1 (cells + mc) (slots + ms) Q (F0 m pc ls rest) q9)
    (kk : ∀ (r : UInt64) (u : S) (t : State) (H1 : Heap) (locs1 : List Loc), t.heap = H1 → s.vm.Alike t.vm → post r u → B u t → H.size ≤ H1.size → (∀ q : Nat, q < H.size → ¬ A1 q → H1[q]? = H[q]?) → va_S A0 H0 H1 locs1 → W p l e R s m args below meth c H1 locs1 (cells + mc) (slots + ms) Q (F0 m (pc + 3) ls (.double r :: rest))) : W p l e R s m args below meth c H locs cells slots Q (F0 m pc ls st0) := by
  intro T hT X
  rcases hr T hT X with ⟨v, st₀, t, T', L, h0, X', hL, e1, e2, ⟨⟨r, u, hv, hp, hb⟩, hF⟩, st⟩ | ⟨q, st₀, t, T', L, E, ce, h0, X', hL, e1, e2, ⟨u, hp, hb, hF⟩, hce, hcv, hcl, st⟩
  · cases hv
    obtain ⟨k1, k2, k3⟩ := vx_keep h0 e1 hS hA hf hL hF
    obtain ⟨t2, a1, b1⟩ := kk r u t T'.heap (locs ++ L) e1.symm (by rw [← e2]; exact X'.warmed.alike) hp hb k1 k2 k3 T' rfl X'
    exact ⟨t2, st t2 a1, b1⟩
  · obtain ⟨k1, k2, k3⟩ := vx_keep h0 e1 hS hAX hf hL hF
    obtain ⟨t2, a1, b1⟩ := kx E ce q u t T'.heap (locs ++ L) e1.symm (by rw [← e2]; exact X'.warmed.alike) hp hb k1 k2 k3 (by rw [e1]; exact hce) hcv hcl T' rfl X'
    exact ⟨t2, st.trans a1, b1⟩
theorem vx_callv {S SX : Type} {post : S → Prop} {px : SX → Prop} {B : S → State → Prop} {BX : String → SX → State → Prop} {AX : Nat → Prop} (hr : vx_Run p l e R s m args below meth c H locs cells slots mc ms (F0 m pc ls st0) rest (va_Qv post B A1 a) (vx_X px BX AX) free) (hS : va_S A0 H0 H locs) (hA : ∀ q, q < H.size → A1 q → A0 q) (hf : ∀ q, free q → A0 q) (hAX : ∀ q, q < H.size → AX q → A0 q)
    (kx : ∀ (E : String) (ce : Cell) (q9 : Addr) (u : SX) (t : State) (H1 : Heap) (locs1 : List Loc), t.heap = H1 → s.vm.Alike t.vm → px u → BX E u t → H.size ≤ H1.size → (∀ q : Nat, q < H.size → ¬ AX q → H1[q]? = H[q]?) → va_S A0 H0 H1 locs1 → H1[q9]? = some ce → ce.vm = .none → s.vm.findClass E = some ce.cls → vx_W p l e R s m args below meth c H1 locs1 (cells + mc) (slots + ms) Q (F0 m pc ls rest) q9)
    (kk : ∀ (u : S) (t : State) (H1 : Heap) (locs1 : List Loc), t.heap = H1 → s.vm.Alike t.vm → post u → B u t → H.size ≤ H1.size → (∀ q : Nat, q < H.size → ¬ A1 q → H1[q]? = H[q]?) → va_S A0 H0 H1 locs1 → W p l e R s m args below meth c H1 locs1 (cells + mc) (slots + ms) Q (F0 m (pc + 3) ls (rest))) : W p l e R s m args below meth c H locs cells slots Q (F0 m pc ls st0) := by
  intro T hT X
  rcases hr T hT X with ⟨v, st₀, t, T', L, h0, X', hL, e1, e2, ⟨⟨u, hv, hp, hb⟩, hF⟩, st⟩ | ⟨q, st₀, t, T', L, E, ce, h0, X', hL, e1, e2, ⟨u, hp, hb, hF⟩, hce, hcv, hcl, st⟩
  · cases hv
    obtain ⟨k1, k2, k3⟩ := vx_keep h0 e1 hS hA hf hL hF
    obtain ⟨t2, a1, b1⟩ := kk u t T'.heap (locs ++ L) e1.symm (by rw [← e2]; exact X'.warmed.alike) hp hb k1 k2 k3 T' rfl X'
    exact ⟨t2, st t2 a1, b1⟩
  · obtain ⟨k1, k2, k3⟩ := vx_keep h0 e1 hS hAX hf hL hF
    obtain ⟨t2, a1, b1⟩ := kx E ce q u t T'.heap (locs ++ L) e1.symm (by rw [← e2]; exact X'.warmed.alike) hp hb k1 k2 k3 (by rw [e1]; exact hce) hcv hcl T' rfl X'
    exact ⟨t2, st.trans a1, b1⟩
/-- caught by the row x of this method's table; the rows ahead don't take it -/
theorem vx_catch {own name : String} {E : String} {ce : Cell} {q : Addr} (hown : s.vm.findClass own = some m.cls) (pre : List ExceptionTableEntry) (x : ExceptionTableEntry) (suf : List ExceptionTableEntry) (hsplit : c.exceptionTable.toList = pre ++ x :: suf)
    (hpass : ∀ z ∈ pre, covers z pc = false ∨ (z.catchType ≠ 0 ∧ ∃ nm : String, (Cond.classLink own z.catchType nm).before args s = true ∧ va_Nc E nm s)) (hx : covers x pc = true) (h0 : x.catchType ≠ 0)
    (hlink : (Cond.classLink own x.catchType name).before args s = true) (hcast : (Cond.castable E name).before args s = true) (hcell : H[q]? = some ce) (hv : ce.vm = .none) (hcl : s.vm.findClass E = some ce.cls)
    (kk : W p l e R s m args below meth c H locs cells slots Q (F0 m x.handlerPc ls [.ref q])) : vx_W p l e R s m args below meth c H locs cells slots Q (F0 m pc ls rest) q := by
  intro T hT X
  have hpl : e.platform.magicAccessors = ({} : Platform).magicAccessors := by rw [X.admits.platform]
  obtain ⟨c3, c4, hc3, hc4, hasg⟩ := Cond.castable_spec hcast
  cases Option.some.inj (hc3.symm.trans hcl)
  obtain ⟨c5, hc5, hcl5⟩ := Cond.classLink_spec hown hlink e.platform hpl
  cases Option.some.inj (hc4.symm.trans hc5)
  obtain ⟨vm', X', st⟩ := X.thenCaughtThrough q (g := F0 m pc ls rest) rfl (Steps.refl _) (by rw [hT]; exact hcell) (by rw [hv]; rfl) (by obtain ⟨k9, h9, -⟩ := Vm.findClass_spec hcl; exact ⟨k9, h9⟩) pre x suf hsplit
    (fun z hz => by
      rcases hpass z hz with h | ⟨hz0, nm, hl1, hn1⟩
      · exact Or.inl h
      · obtain ⟨c6, hc6, hcl6⟩ := Cond.classLink_spec hown hl1 e.platform hpl
        obtain ⟨a8, b8, h1, h2, h3⟩ := hn1
        cases Option.some.inj (h1.symm.trans hcl)
        cases Option.some.inj (h2.symm.trans hc6)
        exact Or.inr ⟨hz0, _, hcl6, h3⟩) hx (Or.inr ⟨h0, c4, hcl5, hasg⟩)
  obtain ⟨t, a1, b1⟩ := kk (T.setVm vm') hT X'
  exact ⟨t, st.trans a1, b1⟩
end Rows
section Ends
variable {p : Program} {l : Launch} {e : Env} {R : Room} {s : State} {m : MethodId} {args : Array Value} {below : List Frame} {meth : Method} {c : Code} {H : Heap} {locs : List Loc} {cells slots : Nat} {Q : State → Prop}
variable {mc ms : Nat} {free : Addr → Prop} {A0 A1 : Nat → Prop} {H0 : Heap} {a : Array Value} {ls : Array Slot} {st0 rest : List Value}
variable {Qc : Array Value → State → Outcome → State → Prop} {XC : String → State → State → Prop}
/-- what a body that may throw owes at its end -/
def vx_MQ (below : List Frame) (Qc : Array Value → State → Outcome → State → Prop) (XC : String → State → State → Prop) (a : Array Value) (s : State) (mc ms : Nat) (free : Addr → Prop) : State → Prop := fun t =>
  ∃ o, t.status = .running ∧ Ended t below o ∧ vx_Q Qc XC mc ms free a s o t
theorem vx_ret {g : JFrame} {mc ms : Nat} (k : W p l e R s m args below meth c H locs cells slots (MQ below Qc args s mc ms free) g) : W p l e R s m args below meth c H locs cells slots (vx_MQ below Qc XC args s mc ms free) g := by
  intro T hT X
  obtain ⟨t, a1, o, b1, b2, b3, b4⟩ := k T hT X
  exact ⟨t, a1, o, b1, b2, Or.inl ⟨b3, b4⟩⟩
/-- not caught here: it goes on to the caller -/
theorem vx_widen {g : JFrame} {q : Addr} {k n : Nat} (h1 : cells ≤ k) (h2 : slots ≤ n) (kk : vx_W p l e R s m args below meth c H locs k n Q g q) : vx_W p l e R s m args below meth c H locs cells slots Q g q := fun T hT X => kk T hT (stand_widen X h1 h2)
theorem vx_out {pc : Nat} {E : String} {ce : Cell} {q : Addr} {mc ms : Nat} (hout : ∀ x ∈ c.exceptionTable.toList, covers x pc = false) (hlocks : meth.locks = false) (hcell : H[q]? = some ce) (hv : ce.vm = .none) (hcl : s.vm.findClass E = some ce.cls)
    (hx : ∀ t : State, t.heap = H → s.vm.Alike t.vm → XC E s t) (hf : ∀ z ∈ locs, free z.base) (hc : cells ≤ mc) (hs : slots ≤ ms) :
    vx_W p l e R s m args below meth c H locs cells slots (vx_MQ below Qc XC args s mc ms free) (F0 m pc ls rest) q := by
  intro T hT X
  obtain ⟨st1, hrun, hend, hW, hsm⟩ := X.leaveThrown q (g := F0 m pc ls rest) rfl rfl rfl hout hlocks
  have hcell9 : (T.setFrames (.throwing q :: below)).heap[q]? = some ce := by
    show T.heap[q]? = some ce
    rw [hT]; exact hcell
  exact ⟨_, st1, .threw q, hrun, hend, Or.inr ⟨q, rfl, E, ce, locs, hx _ hT hW.alike, hcell9, hv, hcl, hW, hsm.mono hc hs, hf⟩⟩
theorem vx_frame {U : State} {k n : Nat} (h : s.sameButNew ({ U with vm := s.vm } : State) locs k n) : s.heap.size ≤ U.heap.size ∧ ∀ q : Nat, q < s.heap.size → (∀ z ∈ locs, z.base ≠ q) → U.heap[q]? = s.heap[q]? := by
  obtain ⟨-, h2, -, -, -, h6⟩ := h
  refine ⟨h2, fun q hq hz => ?_⟩
  obtain ⟨c9, e1, e2, e3, e4⟩ := h6 q _ (Array.getElem?_eq_getElem hq)
  have hs : c9.slots = (s.heap[q]).slots := Array.ext_getElem? fun i => e4 i fun hm => hz _ hm rfl
  have h9 : c9 = s.heap[q] := by
    rw [hs] at e2
    exact e2
  have e5 : U.heap[q]? = some c9 := e1
  rw [e5, h9, Array.getElem?_eq_getElem hq]
/-- the words of a throw but the four that speak of the heap -/
def vx_no (w : Cond) : Bool := decide (w ≠ .isRef (.static Bundle.tN "UNASSIGNED_STACK" Bundle.steD)) && decide (w ≠ .isRef (.static Bundle.tN "SUPPRESSED_SENTINEL" Bundle.listD)) && decide (w ≠ .laysStatic Bundle.tN "UNASSIGNED_STACK" Bundle.steD) && decide (w ≠ .laysStatic Bundle.tN "SUPPRESSED_SENTINEL" Bundle.listD)
def vx_at0 (own : String) (ic : Nat) (X : String) (names : List String) : List Cond := (Bundle.ownAtoms0 own ic X names).filter vx_no
def vx_atS (own : String) (ic : Nat) (X : String) (names : List String) : List Cond := (Bundle.ownAtoms own ic X names).filter vx_no
/-- a word that the tables alone decide, or a good one -/
def vx_ot (w : Cond) : Bool := w.onTables || goodWord w
theorem vx_ot_at {args a' : Array Value} {s U : State} {w : Cond} (hW : s.WarmedH U.vm) (hvm : s.vm = U.vm) (hg : vx_ot w = true) (h : w.before args s = true) : w.before a' U = true := by
  simp only [vx_ot, Bool.or_eq_true] at hg
  rcases hg with hg | hg
  · exact va_tabs hg hvm h
  · exact word_at hW (good_of_word hg) h
/-- a list's words: the good ones out of the method's own list, the others by premises of their own -/
theorem vx_hat {args : Array Value} {s : State} {L B : List Cond} (h1 : ∀ w ∈ L.filter goodWord, w.before args s = true) (h2 : ∀ w ∈ L.filter (fun w => !goodWord w), w ∈ B) (h3 : ∀ w ∈ B, w.before args s = true) : ∀ w ∈ L, w.before args s = true := by
  intro w hw
  by_cases g : goodWord w = true
  · exact h1 w (List.mem_filter.mpr ⟨hw, g⟩)
  · refine h3 w (h2 w (List.mem_filter.mpr ⟨hw, ?_⟩))
    show (!goodWord w) = true
    cases hgw : goodWord w
    · rfl
    · exact absurd hgw g
theorem vx_c {args : Array Value} {s : State} {w : Cond} {B : List Cond} (h : w.before args s = true) (t : ∀ w ∈ B, w.before args s = true) : ∀ w' ∈ w :: B, w'.before args s = true := fun w' h' => (List.mem_cons.mp h').elim (fun e => by rw [e]; exact h) (t w')
theorem vx_n {args : Array Value} {s : State} : ∀ w ∈ ([] : List Cond), w.before args s = true := fun _ h => nomatch h
theorem vx_own {args : Array Value} {s : State} {L : List Cond} (h1 : ∀ w ∈ L.filter vx_no, w.before args s = true)
    (hU : (Cond.isRef (.static Bundle.tN "UNASSIGNED_STACK" Bundle.steD)).before args s = true) (hN : (Cond.isRef (.static Bundle.tN "SUPPRESSED_SENTINEL" Bundle.listD)).before args s = true)
    (lU : (Cond.laysStatic Bundle.tN "UNASSIGNED_STACK" Bundle.steD).before args s = true) (lN : (Cond.laysStatic Bundle.tN "SUPPRESSED_SENTINEL" Bundle.listD).before args s = true) : ∀ w ∈ L, w.before args s = true := by
  intro w hw
  by_cases e1 : w = .isRef (.static Bundle.tN "UNASSIGNED_STACK" Bundle.steD)
  · rw [e1]; exact hU
  · by_cases e2 : w = .isRef (.static Bundle.tN "SUPPRESSED_SENTINEL" Bundle.listD)
    · rw [e2]; exact hN
    · by_cases e3 : w = .laysStatic Bundle.tN "UNASSIGNED_STACK" Bundle.steD
      · rw [e3]; exact lU
      · by_cases e4 : w = .laysStatic Bundle.tN "SUPPRESSED_SENTINEL" Bundle.listD
        · rw [e4]; exact lN
        · exact h1 w (List.mem_filter.mpr ⟨hw, by unfold vx_no; rw [decide_eq_true e1, decide_eq_true e2, decide_eq_true e3, decide_eq_true e4]; rfl⟩)
/-- where a static field lies, its class's statics cell in H -/
def vx_L (C n d : String) (A : Nat → Prop) (U : State) (H : Heap) : Prop := ∃ (c : ClassId) (k : Class) (i : Nat) (f : Field) (a : Nat) (cell : Cell), U.vm.findClass C = some c ∧ U.fieldFound? C n d = some (c, k, i, f) ∧ f.isStatic = true ∧ k.statics = some a ∧ H[a]? = some cell ∧ cell.vm.isStatics = true ∧ cell.cls = c ∧ f.slot < cell.slots.size ∧ k.staticTypes[f.slot]? = some f.type ∧ ¬ A a
theorem vx_L.moved {C n d : String} {A : Nat → Prop} {u U : State} {H : Heap} (hvm : u.vm.Alike U.vm) (h : vx_L C n d A u H) : vx_L C n d A U H := by
  obtain ⟨c, k, i, f, a, cell, h1, h2, h3, h4, h5, h6, h7, h8, h9, h10⟩ := h
  obtain ⟨k', hi', he⟩ := State.fieldFound?_setVm hvm h2
  exact ⟨c, k', i, f, a, cell, by rw [hvm.findClass]; exact h1, hi', h3, by rw [he]; exact h4, h5, h6, h7, h8, by rw [he]; exact h9, h10⟩
theorem vx_L.kept {C n d : String} {A : Nat → Prop} {U : State} {H H1 : Heap} (h : vx_L C n d A U H) (hq : ∀ a : Nat, a < H.size → ¬ A a → H1[a]? = H[a]?) : vx_L C n d A U H1 := by
  obtain ⟨c, k, i, f, a, cell, h1, h2, h3, h4, h5, h6, h7, h8, h9, h10⟩ := h
  exact ⟨c, k, i, f, a, cell, h1, h2, h3, h4, by rw [hq a (Array.getElem?_eq_some_iff.mp h5).1 h10]; exact h5, h6, h7, h8, h9, h10⟩
theorem vx_L.narrow {C n d : String} {A B : Nat → Prop} {U : State} {H : Heap} (h : vx_L C n d A U H) (hAB : ∀ q, B q → A q) : vx_L C n d B U H := by
  obtain ⟨c, k, i, f, a, cell, h1, h2, h3, h4, h5, h6, h7, h8, h9, h10⟩ := h
  exact ⟨c, k, i, f, a, cell, h1, h2, h3, h4, h5, h6, h7, h8, h9, fun z => h10 (hAB _ z)⟩
theorem vx_L.word {C n d : String} {A : Nat → Prop} {s : State} {args : Array Value} (h : vx_L C n d A s s.heap) : (Cond.laysStatic C n d).before args s = true := by
  obtain ⟨c, k, i, f, a, cell, h1, h2, h3, h4, h5, h6, h7, h8, h9, -⟩ := h
  show (Cond.laysStatic C n d).holds args s none s [] = true
  exact Cond.laysStatic_of h1 h2 h3 h4 h5 h6 h7 h8 h9
/-- .. and what it holds: null or some reference -/
def vx_Zq (C n d : String) (A : Nat → Prop) (U : State) (H : Heap) : Prop := va_Zq C n d A U H ∧ vx_L C n d A U H
theorem vx_Zq.moved {C n d : String} {A : Nat → Prop} {u U : State} {H : Heap} (hvm : u.vm.Alike U.vm) (h : vx_Zq C n d A u H) : vx_Zq C n d A U H := ⟨va_Zq.moved hvm h.1, vx_L.moved hvm h.2⟩
theorem vx_Zq.kept {C n d : String} {A : Nat → Prop} {U : State} {H H1 : Heap} (h : vx_Zq C n d A U H) (hq : ∀ a : Nat, a < H.size → ¬ A a → H1[a]? = H[a]?) : vx_Zq C n d A U H1 := ⟨va_Zq.kept h.1 hq, vx_L.kept h.2 hq⟩
theorem vx_Zq.narrow {C n d : String} {A B : Nat → Prop} {U : State} {H : Heap} (h : vx_Zq C n d A U H) (hAB : ∀ q, B q → A q) : vx_Zq C n d B U H := ⟨va_Zq.narrow h.1 hAB, vx_L.narrow h.2 hAB⟩
theorem vx_Zqof {args : Array Value} {s : State} {C n d : String} {A : Nat → Prop} (hl : (Cond.laysStatic C n d).before args s = true) (hini : (Cond.initialized C).before args s = true) (h : (Cond.isRef (.static C n d)).before args s = true) (hA : ∀ a : Nat, a < s.heap.size → ¬ A a) : vx_Zq C n d A s s.heap := by
  refine ⟨va_Zqof hl hini h hA, ?_⟩
  obtain ⟨c, k, i, f, a, cell, h1, h2, h3, h4, h5, h6, h7, h8, h9⟩ := Cond.laysStatic_spec hl
  exact ⟨c, k, i, f, a, cell, h1, h2, h3, h4, h5, h6, h7, h8, h9, hA a (Array.getElem?_eq_some_iff.mp h5).1⟩
theorem vx_isRef {C n d : String} {v : Value} {A : Nat → Prop} {s : State} {args : Array Value} (h : va_Z C n d v A s s.heap) (hv : v.isRef = true) : (Cond.isRef (.static C n d)).before args s = true := by
  obtain ⟨cf, kf, fi, f, a, cell, h1, h2, h3, h4, h5, h6, h7, -⟩ := h
  have he : (Term.static C n d).eval args s none [] s = some v := by
    simp [Term.eval, State.fieldNamed?, h1, h2, h4, h5, h6, h7]
  simp only [Cond.before, Cond.holds, Cond.value, he]
  cases v <;> simp_all [Value.isRef]
theorem vx_isRefq {C n d : String} {A : Nat → Prop} {s : State} {args : Array Value} (h : va_Zq C n d A s s.heap) : (Cond.isRef (.static C n d)).before args s = true := by
  rcases h with h | ⟨t, h⟩
  · exact vx_isRef h rfl
  · exact vx_isRef h rfl
/-- the same frame, seen from here: as if the method were called anew in this heap -/
theorem vx_rebase {T : State} (X : Stand p l e R s m args below meth c T locs cells slots) {R' : Room} (hf : R'.frames ≤ R.frames) (hl : R'.locals ≤ R.locals) (hc : cells + R'.cells ≤ R.cells) (hs : slots + R'.slots ≤ R.slots) :
    Stand p l e R' ((T.setVm s.vm).setFrames (.invoking m args :: below)) m args below meth c T [] 0 0 := by
  have htop : (T.setVm s.vm).topJava?.isSome := X.here.top
  have hF : ((T.setVm s.vm).setFrames (.invoking m args :: below)).frames = .invoking m args :: below := State.frames_setFrames _ (State.cur_lt_of_top htop)
  obtain ⟨g₀, hg0⟩ := Option.isSome_iff_exists.mp htop
  obtain ⟨r, hr⟩ := State.topJava?_eq_some.mp hg0
  have hl9 : e.platform.stackLimits (T.setVm s.vm).me = e.platform.stackLimits s.me := X.limits
  have hb9 : (T.setVm s.vm).me.stackBytes = s.me.stackBytes := X.bytes
  refine ⟨X.admits, X.cas, X.clock, hF, ?_, X.hears, X.method, X.code, X.here, X.tail, X.warmed, ?_, ?_, ?_⟩
  · have h := X.room
    have hU : ((T.setVm s.vm).setFrames (.invoking m args :: below)).localsInUse = s.localsInUse := by
      rw [State.localsInUse_invoking hF (meth := meth) (c := c) X.method X.code, State.localsInUse_invoking X.frames X.method X.code]
    simp only [State.hasRoom, Bool.and_eq_true, decide_eq_true_eq] at h ⊢
    obtain ⟨⟨⟨⟨h1, h2, h3, h4, h5, h6⟩, h7⟩, h8⟩, h9⟩ := h
    rw [X.frames, List.length_cons] at h2 h3
    have q1 := X.heapSize
    have q2 := X.used
    simp only [hF, hU, List.length_cons, State.stackLimits_setFrames, State.stackBytes_setFrames, hl9, hb9]
    refine ⟨⟨⟨⟨by omega, by omega, by omega, by omega, by omega, h6⟩, ?_⟩, ?_⟩, X.book⟩
    · show T.heap.size + R'.cells ≤ e.platform.maxCells
      omega
    · show T.slotsUsed + R'.slots ≤ e.platform.maxSlots
      omega
  · rw [State.stackLimits_setFrames]; rfl
  · rw [State.stackBytes_setFrames]; rfl
  · refine ⟨?_, Nat.le_refl _, Nat.le_refl _, ?_, ?_, fun a c9 h9 => ⟨c9, h9, rfl, rfl, fun _ _ => rfl⟩⟩
    · obtain ⟨t, ht, -⟩ := State.frames_cons hr
      show T.setVm s.vm = { ((T.setVm s.vm).setFrames (.invoking m args :: below)).setFrames (T.setVm s.vm).frames with heap := T.heap, slotsUsed := T.slotsUsed }
      rw [State.setFrames_setFrames, State.setFrames_self ht]
      rfl
    · show T.slotsUsed = T.slotsUsed + ((T.heap.toList.drop T.heap.size).map (·.slots.size)).sum
      rw [List.drop_eq_nil_of_le (Nat.le_of_eq Array.length_toList)]
      rfl
    · show ((T.heap.toList.drop T.heap.size).map (·.slots.size)).sum ≤ 0
      rw [List.drop_eq_nil_of_le (Nat.le_of_eq Array.length_toList)]
      exact Nat.le_refl _
/-- 'throw new E()': new; dup; invokespecial; athrow -/
theorem vx_throw0 {cc : ByteArray} {pc : Nat} (hexec : p.tables.exec = Jvm.exec) (hb : c.code = cc) (hl : l.stackTraces = false) {own cls : String} {names : List String} {ik ic mc ms : Nat} {A : Nat → Prop}
    (hown : s.vm.findClass own = some m.cls) (hcls : Bundle.fit cls = true) (hnames : ∀ n ∈ names, Bundle.fit n = true)
    (hk : (Cond.classLink own ik cls).before args s = true) (hini : (Cond.initialized cls).before args s = true) (hat : ∀ w ∈ vx_at0 own ic cls names, w.before args s = true)
    (hgood : ∀ w ∈ Cond.classLink own ik cls :: Cond.initialized cls :: vx_at0 own ic cls names, vx_ot w = true)
    (hU : vx_Zq Bundle.tN "UNASSIGNED_STACK" Bundle.steD A s s.heap) (hN : vx_Zq Bundle.tN "SUPPRESSED_SENTINEL" Bundle.listD A s s.heap) (hS : va_S A s.heap H locs) (hsize : ls.size = c.maxLocals)
    (d0 : decode cc pc = .ok (.new ik, 3)) (d3 : decode cc (pc + 3) = .ok (.dup, 1)) (d4 : decode cc (pc + 4) = .ok (.invokespecial ic, 3)) (d7 : decode cc (pc + 7) = .ok (.athrow, 1))
    (hout : ∀ x ∈ c.exceptionTable.toList, covers x (pc + 7) = false)
    (hRframes : names.length + 3 < R.frames) (hRlocals : (rest.map fun v => v.category).sum + (13 * (names.length + 1) + 42) ≤ R.locals) (hRcells : cells + 1 ≤ R.cells) (hRslots : slots + 6 ≤ R.slots) (hlocks : meth.locks = false)
    (hx : ∀ t : State, s.vm.Alike t.vm → H.size ≤ t.heap.size → (∀ q : Nat, q < H.size → t.heap[q]? = H[q]?) → XC cls s t)
    (hf : ∀ z ∈ locs, free z.base) (hc : cells + 1 ≤ mc) (hs : slots + 6 ≤ ms) :
    W p l e R s m args below meth c H locs cells slots (vx_MQ below Qc XC args s mc ms free) (F0 m pc ls rest) := by
  intro T hT X
  have htr : e.platform.stackTraces = false := (show e.platform.stackTraces = l.stackTraces by rw [X.admits.platform]).trans hl
  have Y := vx_rebase X (R' := { frames := R.frames, locals := R.locals, cells := 1, slots := 6 }) (Nat.le_refl _) (Nat.le_refl _) hRcells hRslots
  obtain ⟨s', hA⟩ : ∃ z, z = (T.setVm s.vm).setFrames (.invoking m args :: below) := ⟨_, rfl⟩
  rw [← hA] at Y
  have hvm : s'.vm = s.vm := by rw [hA]; rfl
  have hhp : s'.heap = H := by rw [hA]; exact hT
  have hW0 : s.WarmedH s'.vm := by rw [hvm]; exact State.WarmedH.refl s
  have hat' : ∀ w ∈ vx_at0 own ic cls names, w.before args s' = true := fun w hw => vx_ot_at hW0 hvm.symm (hgood w (List.mem_cons_of_mem _ (List.mem_cons_of_mem _ hw))) (hat w hw)
  have hk' : (Cond.classLink own ik cls).before args s' = true := vx_ot_at hW0 hvm.symm (hgood _ List.mem_cons_self) hk
  have hini' : (Cond.initialized cls).before args s' = true := vx_ot_at hW0 hvm.symm (hgood _ (List.mem_cons_of_mem _ List.mem_cons_self)) hini
  have hU' : vx_Zq Bundle.tN "UNASSIGNED_STACK" Bundle.steD A s' s'.heap := by rw [hhp]; exact vx_Zq.moved hW0.alike (hU.kept hS.2.1)
  have hN' : vx_Zq Bundle.tN "SUPPRESSED_SENTINEL" Bundle.listD A s' s'.heap := by rw [hhp]; exact vx_Zq.moved hW0.alike (hN.kept hS.2.1)
  have h : ∀ w ∈ Bundle.ownAtoms0 own ic cls names, w.before args s' = true := vx_own hat' (vx_isRefq hU'.1) (vx_isRefq hN'.1) hU'.2.word hN'.2.word
  have hown' : s'.vm.findClass own = some m.cls := by rw [hvm]; exact hown
  have hins : (Cond.instantiable cls 6).before args s' = true := h _ (by simp [Bundle.ownAtoms0])
  obtain ⟨vm₁, cX, kX, hfX, hkX, -, -, X₁, st1⟩ := Y.newCold hexec (own := own) (C := cls) (index := ik) (n := 6) hown' hk' hins hini'
    (g := F0 m pc ls rest) rfl (by rw [hb]; exact d0) (Nat.le_refl _) (Nat.le_refl _)
  generalize hT1 : (T.setVm vm₁).pushCell { cls := cX, slots := kX.instanceTypes.map defaultValue, vm := .none } = T1 at X₁ st1
  have hcat : (Value.ref T.heap.size).category = 1 := rfl
  have hcellA : T1.heap[T.heap.size]? = some (freshCell cX kX) := by rw [← hT1]; exact State.heap_pushCell_size _ _
  have d3' : decode c.code (pc + 3) = .ok (.dup, 1) := by rw [hb]; exact d3
  obtain ⟨U, hsteps, hrun, hend, hW, hsame, ce, hce, hO⟩ := X₁.ctorThrow0 hexec htr (own := own) (cls := cls) (names := names) (ic := ic) hown' hcls hnames h (fun x hx => nomatch hx) hfX hkX hcellA (by rw [hhp, hT]; exact Nat.le_refl _)
    (g := { method := m, pc := pc + 4, locals := ls, stack := .ref T.heap.size :: .ref T.heap.size :: rest, locked := none }) rfl hsize rfl rfl (rest := rest) rfl
    (by rw [hb]; exact d4) (by rw [hb]; exact d7) hout hRframes (by simp only [List.map_cons, List.sum_cons, hcat]; omega) hlocks
  obtain ⟨f1, f2⟩ := vx_frame hsame
  rw [hhp] at f1 f2
  have hWs : s.WarmedH U.vm := State.WarmedH.trans hW0 hW
  have hcl : s.vm.findClass cls = some ce.cls := by
    have h9 := hO.cls
    rw [hvm] at h9
    exact h9
  have hall : s.sameButNew ({ U with vm := s.vm } : State) locs mc ms := by
    subst hA
    obtain ⟨e1, e2⟩ := hsame
    rw [State.setFrames_setFrames] at e1
    have h2 : (T.setVm s.vm).sameButNew ({ U with vm := s.vm } : State) [] (0 + 1) (0 + 6) := ⟨e1, e2⟩
    have h3 := X.same.trans h2
    rw [List.append_nil] at h3
    exact h3.mono hc hs
  refine ⟨U, ?_, .threw T.heap.size, hrun, hend, Or.inr ⟨T.heap.size, rfl, cls, ce, locs, hx U hWs.alike f1 (fun q hq => f2 q hq (fun z hz => nomatch hz)), hce, hO.vm, hcl, hWs, hall, hf⟩⟩
  refine st1 _ ?_
  show Steps p.tables e below (T1.setTop { method := m, pc := pc + 3, locals := ls, stack := .ref T.heap.size :: rest, locked := none }) _
  jvm_step X₁.here [X₁.here.top, hexec, d3', Value.category]
  exact hsteps
/-- 'throw new E("text")': new; dup; ldc; invokespecial; athrow -/
theorem vx_throwS {cc : ByteArray} {pc : Nat} (hexec : p.tables.exec = Jvm.exec) (hb : c.code = cc) (hl : l.stackTraces = false) {own cls text : String} {names : List String} {ik is ic mc ms sa : Nat} {A : Nat → Prop}
    (hown : s.vm.findClass own = some m.cls) (hcls : Bundle.fit cls = true) (hnames : ∀ n ∈ names, Bundle.fit n = true)
    (hk : (Cond.classLink own ik cls).before args s = true) (hini : (Cond.initialized cls).before args s = true) (hstr : vk_R own is text sa s) (hat : ∀ w ∈ vx_atS own ic cls names, w.before args s = true)
    (hgood : ∀ w ∈ Cond.classLink own ik cls :: Cond.initialized cls :: vx_atS own ic cls names, vx_ot w = true)
    (hU : vx_Zq Bundle.tN "UNASSIGNED_STACK" Bundle.steD A s s.heap) (hN : vx_Zq Bundle.tN "SUPPRESSED_SENTINEL" Bundle.listD A s s.heap) (hS : va_S A s.heap H locs) (hsize : ls.size = c.maxLocals)
    (d0 : decode cc pc = .ok (.new ik, 3)) (d3 : decode cc (pc + 3) = .ok (.dup, 1)) (d4 : decode cc (pc + 4) = .ok (.ldc is, 2)) (d6 : decode cc (pc + 6) = .ok (.invokespecial ic, 3)) (d9 : decode cc (pc + 9) = .ok (.athrow, 1))
    (hout : ∀ x ∈ c.exceptionTable.toList, covers x (pc + 9) = false)
    (hRframes : names.length + 3 < R.frames) (hRlocals : (rest.map fun v => v.category).sum + (13 * (names.length + 1) + 43) ≤ R.locals) (hRcells : cells + 1 ≤ R.cells) (hRslots : slots + 6 ≤ R.slots) (hlocks : meth.locks = false)
    (hx : ∀ t : State, s.vm.Alike t.vm → H.size ≤ t.heap.size → (∀ q : Nat, q < H.size → t.heap[q]? = H[q]?) → XC cls s t)
    (hf : ∀ z ∈ locs, free z.base) (hc : cells + 1 ≤ mc) (hs : slots + 6 ≤ ms) :
    W p l e R s m args below meth c H locs cells slots (vx_MQ below Qc XC args s mc ms free) (F0 m pc ls rest) := by
  intro T hT X
  have htr : e.platform.stackTraces = false := (show e.platform.stackTraces = l.stackTraces by rw [X.admits.platform]).trans hl
  have Y := vx_rebase X (R' := { frames := R.frames, locals := R.locals, cells := 1, slots := 6 }) (Nat.le_refl _) (Nat.le_refl _) hRcells hRslots
  obtain ⟨s', hA⟩ : ∃ z, z = (T.setVm s.vm).setFrames (.invoking m args :: below) := ⟨_, rfl⟩
  rw [← hA] at Y
  have hvm : s'.vm = s.vm := by rw [hA]; rfl
  have hhp : s'.heap = H := by rw [hA]; exact hT
  have hW0 : s.WarmedH s'.vm := by rw [hvm]; exact State.WarmedH.refl s
  have hat' : ∀ w ∈ vx_atS own ic cls names, w.before args s' = true := fun w hw => vx_ot_at hW0 hvm.symm (hgood w (List.mem_cons_of_mem _ (List.mem_cons_of_mem _ hw))) (hat w hw)
  have hk' : (Cond.classLink own ik cls).before args s' = true := vx_ot_at hW0 hvm.symm (hgood _ List.mem_cons_self) hk
  have hini' : (Cond.initialized cls).before args s' = true := vx_ot_at hW0 hvm.symm (hgood _ (List.mem_cons_of_mem _ List.mem_cons_self)) hini
  have hU' : vx_Zq Bundle.tN "UNASSIGNED_STACK" Bundle.steD A s' s'.heap := by rw [hhp]; exact vx_Zq.moved hW0.alike (hU.kept hS.2.1)
  have hN' : vx_Zq Bundle.tN "SUPPRESSED_SENTINEL" Bundle.listD A s' s'.heap := by rw [hhp]; exact vx_Zq.moved hW0.alike (hN.kept hS.2.1)
  have h : ∀ w ∈ Bundle.ownAtoms own ic cls names, w.before args s' = true := vx_own hat' (vx_isRefq hU'.1) (vx_isRefq hN'.1) hU'.2.word hN'.2.word
  have hown' : s'.vm.findClass own = some m.cls := by rw [hvm]; exact hown
  have hins : (Cond.instantiable cls 6).before args s' = true := h _ (by simp [Bundle.ownAtoms])
  obtain ⟨vm₁, cX, kX, hfX, hkX, -, -, X₁, st1⟩ := Y.newCold hexec (own := own) (C := cls) (index := ik) (n := 6) hown' hk' hins hini'
    (g := F0 m pc ls rest) rfl (by rw [hb]; exact d0) (Nat.le_refl _) (Nat.le_refl _)
  generalize hT1 : (T.setVm vm₁).pushCell { cls := cX, slots := kX.instanceTypes.map defaultValue, vm := .none } = T1 at X₁ st1
  have hcat : (Value.ref T.heap.size).category = 1 := rfl
  have hcellA : T1.heap[T.heap.size]? = some (freshCell cX kX) := by rw [← hT1]; exact State.heap_pushCell_size _ _
  have d3' : decode c.code (pc + 3) = .ok (.dup, 1) := by rw [hb]; exact d3
  have d4' : decode c.code (pc + 4) = .ok (.ldc is, 2) := by rw [hb]; exact d4
  have hstr' : vk_R own is text sa s' := vk_R.warm hW0 hstr
  obtain ⟨U, hsteps, hrun, hend, hW, hsame, ce, hce, hO⟩ := X₁.ctorThrowS hexec htr (own := own) (cls := cls) (names := names) (ic := ic) hown' hcls hnames h (fun x hx => nomatch hx) hfX hkX hcellA (by rw [hhp, hT]; exact Nat.le_refl _) (msg := .ref sa) rfl
    (g := { method := m, pc := pc + 6, locals := ls, stack := .ref sa :: .ref T.heap.size :: .ref T.heap.size :: rest, locked := none }) rfl hsize rfl rfl (rest := rest) rfl
    (by rw [hb]; exact d6) (by rw [hb]; exact d9) hout hRframes (by simp only [List.map_cons, List.sum_cons, hcat]; omega) hlocks
  obtain ⟨f1, f2⟩ := vx_frame hsame
  rw [hhp] at f1 f2
  have hWs : s.WarmedH U.vm := State.WarmedH.trans hW0 hW
  have hcl : s.vm.findClass cls = some ce.cls := by
    have h9 := hO.cls
    rw [hvm] at h9
    exact h9
  have hall : s.sameButNew ({ U with vm := s.vm } : State) locs mc ms := by
    subst hA
    obtain ⟨e1, e2⟩ := hsame
    rw [State.setFrames_setFrames] at e1
    have h2 : (T.setVm s.vm).sameButNew ({ U with vm := s.vm } : State) [] (0 + 1) (0 + 6) := ⟨e1, e2⟩
    have h3 := X.same.trans h2
    rw [List.append_nil] at h3
    exact h3.mono hc hs
  refine ⟨U, ?_, .threw T.heap.size, hrun, hend, Or.inr ⟨T.heap.size, rfl, cls, ce, locs, hx U hWs.alike f1 (fun q hq => f2 q hq (fun z hz => nomatch hz)), hce, hO.vm, hcl, hWs, hall, hf⟩⟩
  refine st1 _ ?_
  show Steps p.tables e below (T1.setTop { method := m, pc := pc + 3, locals := ls, stack := .ref T.heap.size :: rest, locked := none }) _
  jvm_step X₁.here [X₁.here.top, hexec, d3', Value.category]
  exact X₁.ldcString hexec (own := own) (text := text) (index := is) (a := sa) hown' hstr'.1 hstr'.2
    (g := { method := m, pc := pc + 4, locals := ls, stack := .ref T.heap.size :: .ref T.heap.size :: rest, locked := none }) rfl d4' _ hsteps
/-- 'throw new E("text")', the text by a wide index -/
theorem vx_throwSW {cc : ByteArray} {pc : Nat} (hexec : p.tables.exec = Jvm.exec) (hb : c.code = cc) (hl : l.stackTraces = false) {own cls text : String} {names : List String} {ik is ic mc ms sa : Nat} {A : Nat → Prop}
    (hown : s.vm.findClass own = some m.cls) (hcls : Bundle.fit cls = true) (hnames : ∀ n ∈ names, Bundle.fit n = true)
    (hk : (Cond.classLink own ik cls).before args s = true) (hini : (Cond.initialized cls).before args s = true) (hstr : vk_R own is text sa s) (hat : ∀ w ∈ vx_atS own ic cls names, w.before args s = true)
    (hgood : ∀ w ∈ Cond.classLink own ik cls :: Cond.initialized cls :: vx_atS own ic cls names, vx_ot w = true)
    (hU : vx_Zq Bundle.tN "UNASSIGNED_STACK" Bundle.steD A s s.heap) (hN : vx_Zq Bundle.tN "SUPPRESSED_SENTINEL" Bundle.listD A s s.heap) (hS : va_S A s.heap H locs) (hsize : ls.size = c.maxLocals)
    (d0 : decode cc pc = .ok (.new ik, 3)) (d3 : decode cc (pc + 3) = .ok (.dup, 1)) (d4 : decode cc (pc + 4) = .ok (.ldc_w is, 3)) (d7 : decode cc (pc + 7) = .ok (.invokespecial ic, 3)) (d10 : decode cc (pc + 10) = .ok (.athrow, 1))
    (hout : ∀ x ∈ c.exceptionTable.toList, covers x (pc + 10) = false)
    (hRframes : names.length + 3 < R.frames) (hRlocals : (rest.map fun v => v.category).sum + (13 * (names.length + 1) + 43) ≤ R.locals) (hRcells : cells + 1 ≤ R.cells) (hRslots : slots + 6 ≤ R.slots) (hlocks : meth.locks = false)
    (hx : ∀ t : State, s.vm.Alike t.vm → H.size ≤ t.heap.size → (∀ q : Nat, q < H.size → t.heap[q]? = H[q]?) → XC cls s t)
    (hf : ∀ z ∈ locs, free z.base) (hc : cells + 1 ≤ mc) (hs : slots + 6 ≤ ms) :
    W p l e R s m args below meth c H locs cells slots (vx_MQ below Qc XC args s mc ms free) (F0 m pc ls rest) := by
  intro T hT X
  have htr : e.platform.stackTraces = false := (show e.platform.stackTraces = l.stackTraces by rw [X.admits.platform]).trans hl
  have Y := vx_rebase X (R' := { frames := R.frames, locals := R.locals, cells := 1, slots := 6 }) (Nat.le_refl _) (Nat.le_refl _) hRcells hRslots
  obtain ⟨s', hA⟩ : ∃ z, z = (T.setVm s.vm).setFrames (.invoking m args :: below) := ⟨_, rfl⟩
  rw [← hA] at Y
  have hvm : s'.vm = s.vm := by rw [hA]; rfl
  have hhp : s'.heap = H := by rw [hA]; exact hT
  have hW0 : s.WarmedH s'.vm := by rw [hvm]; exact State.WarmedH.refl s
  have hat' : ∀ w ∈ vx_atS own ic cls names, w.before args s' = true := fun w hw => vx_ot_at hW0 hvm.symm (hgood w (List.mem_cons_of_mem _ (List.mem_cons_of_mem _ hw))) (hat w hw)
  have hk' : (Cond.classLink own ik cls).before args s' = true := vx_ot_at hW0 hvm.symm (hgood _ List.mem_cons_self) hk
  have hini' : (Cond.initialized cls).before args s' = true := vx_ot_at hW0 hvm.symm (hgood _ (List.mem_cons_of_mem _ List.mem_cons_self)) hini
  have hU' : vx_Zq Bundle.tN "UNASSIGNED_STACK" Bundle.steD A s' s'.heap := by rw [hhp]; exact vx_Zq.moved hW0.alike (hU.kept hS.2.1)
  have hN' : vx_Zq Bundle.tN "SUPPRESSED_SENTINEL" Bundle.listD A s' s'.heap := by rw [hhp]; exact vx_Zq.moved hW0.alike (hN.kept hS.2.1)
  have h : ∀ w ∈ Bundle.ownAtoms own ic cls names, w.before args s' = true := vx_own hat' (vx_isRefq hU'.1) (vx_isRefq hN'.1) hU'.2.word hN'.2.word
  have hown' : s'.vm.findClass own = some m.cls := by rw [hvm]; exact hown
  have hins : (Cond.instantiable cls 6).before args s' = true := h _ (by simp [Bundle.ownAtoms])
  obtain ⟨vm₁, cX, kX, hfX, hkX, -, -, X₁, st1⟩ := Y.newCold hexec (own := own) (C := cls) (index := ik) (n := 6) hown' hk' hins hini'
    (g := F0 m pc ls rest) rfl (by rw [hb]; exact d0) (Nat.le_refl _) (Nat.le_refl _)
  generalize hT1 : (T.setVm vm₁).pushCell { cls := cX, slots := kX.instanceTypes.map defaultValue, vm := .none } = T1 at X₁ st1
  have hcat : (Value.ref T.heap.size).category = 1 := rfl
  have hcellA : T1.heap[T.heap.size]? = some (freshCell cX kX) := by rw [← hT1]; exact State.heap_pushCell_size _ _
  have d3' : decode c.code (pc + 3) = .ok (.dup, 1) := by rw [hb]; exact d3
  have d4' : decode c.code (pc + 4) = .ok (.ldc_w is, 3) := by rw [hb]; exact d4
  have hstr' : vk_R own is text sa s' := vk_R.warm hW0 hstr
  obtain ⟨U, hsteps, hrun, hend, hW, hsame, ce, hce, hO⟩ := X₁.ctorThrowS hexec htr (own := own) (cls := cls) (names := names) (ic := ic) hown' hcls hnames h (fun x hx => nomatch hx) hfX hkX hcellA (by rw [hhp, hT]; exact Nat.le_refl _) (msg := .ref sa) rfl
    (g := { method := m, pc := pc + 7, locals := ls, stack := .ref sa :: .ref T.heap.size :: .ref T.heap.size :: rest, locked := none }) rfl hsize rfl rfl (rest := rest) rfl
    (by rw [hb]; exact d7) (by rw [hb]; exact d10) hout hRframes (by simp only [List.map_cons, List.sum_cons, hcat]; omega) hlocks
  obtain ⟨f1, f2⟩ := vx_frame hsame
  rw [hhp] at f1 f2
  have hWs : s.WarmedH U.vm := State.WarmedH.trans hW0 hW
  have hcl : s.vm.findClass cls = some ce.cls := by
    have h9 := hO.cls
    rw [hvm] at h9
    exact h9
  have hall : s.sameButNew ({ U with vm := s.vm } : State) locs mc ms := by
    subst hA
    obtain ⟨e1, e2⟩ := hsame
    rw [State.setFrames_setFrames] at e1
    have h2 : (T.setVm s.vm).sameButNew ({ U with vm := s.vm } : State) [] (0 + 1) (0 + 6) := ⟨e1, e2⟩
    have h3 := X.same.trans h2
    rw [List.append_nil] at h3
    exact h3.mono hc hs
  refine ⟨U, ?_, .threw T.heap.size, hrun, hend, Or.inr ⟨T.heap.size, rfl, cls, ce, locs, hx U hWs.alike f1 (fun q hq => f2 q hq (fun z hz => nomatch hz)), hce, hO.vm, hcl, hWs, hall, hf⟩⟩
  refine st1 _ ?_
  show Steps p.tables e below (T1.setTop { method := m, pc := pc + 3, locals := ls, stack := .ref T.heap.size :: rest, locked := none }) _
  jvm_step X₁.here [X₁.here.top, hexec, d3', Value.category]
  exact X₁.ldcStringW hexec (own := own) (text := text) (index := is) (a := sa) hown' hstr'.1 hstr'.2
    (g := { method := m, pc := pc + 4, locals := ls, stack := .ref T.heap.size :: .ref T.heap.size :: rest, locked := none }) rfl d4' _ hsteps
end Ends
section Bodies
variable {l : Launch}
theorem vx_ofW {y : MethodName} {ws ws' : List Cond} {rm : Room} {Pc : Array Value → State → Prop} {Qc : Array Value → State → Outcome → State → Prop} {XC : String → State → State → Prop} {mc ms : Nat} {free : Addr → Prop} {cc : ByteArray} {maxL : Nat} {ret : Option FieldType}
    (hy : plainName y.cls = true) (hw : ws = Cond.code y cc maxL ret :: ws')
    (body : ∀ p e s m args below meth c s₁, BodyLoose p l y (headSpec ws rm) cc maxL ret e s m args below meth c s₁ → c.maxLocals = maxL → (∀ x ∈ c.exceptionTable.toList, False) → Pc args s →
      W p l e (headSpec ws rm).room s m args below meth c s.heap [] 0 0 (vx_MQ below Qc XC args s mc ms free) (entryFrame m args maxL)) : vx_Met l y ws rm Pc Qc XC mc ms free := by
  refine MetFree.of_bodyS (code := cc) (maxLocals := maxL) (ret := ret) hy ?_ ?_
  · intro args s m h hn
    obtain ⟨meth, c, h1, h2, h3, h4, h5, h6, -, -⟩ := Cond.code_spec hn (atoms_spec (ws := ws) h _ (by rw [hw]; exact List.mem_cons_self))
    exact ⟨meth, c, h1, h2, h3, h4, h5, h6⟩
  · intro p e s m args below meth c s₁ B hml hP _
    have hh0 : s₁.heap = s.heap := by rw [B.state]; rfl
    have ht : ∀ x ∈ c.exceptionTable.toList, False := by
      obtain ⟨meth9, c9, h1, h2, -, -, -, -, h7, -⟩ := Cond.code_spec B.named (atoms_spec (ws := ws) B.pre _ (by rw [hw]; exact List.mem_cons_self))
      cases Option.some.inj (h1.symm.trans B.method)
      cases Option.some.inj (h2.symm.trans (Stand.of_body B).code)
      intro x hx
      rw [Array.isEmpty_iff.mp h7] at hx
      cases hx
    obtain ⟨t, a1, o, b1, b2, b3⟩ := body p e s m args below meth c s₁ B hml ht hP s₁ hh0 (Stand.of_body B)
    exact ⟨t, o, a1, b1, b2, b3⟩
/-- the table of a body with handlers -/
theorem vx_table {p : Program} {x y : MethodName} {S : Spec} {cc bytes : ByteArray} {maxL maxL' : Nat} {ret ret' : Option FieldType} {e : Env} {s s₁ : State} {m : MethodId} {args : Array Value} {below : List Frame} {meth : Method} {c : Code} {hh : List (Nat × Nat × Nat × Nat)}
    (B : BodyLoose p l y S cc maxL ret e s m args below meth c s₁) (h : (Cond.codeWith y bytes maxL' ret' hh).before args s = true) : c.exceptionTable.toList = tableOf hh := by
  obtain ⟨m9, meth9, c9, hn9, h1, h2, -, -, h6, -⟩ := Cond.codeWith_spec h
  cases Option.some.inj (hn9.symm.trans B.named)
  cases Option.some.inj (h1.symm.trans B.method)
  cases Option.some.inj (h2.symm.trans (Stand.of_body B).code)
  rw [← h6, table_eq]
end Bodies
end VXA
/-! ===== END ===== -/
/-! ===== BEGIN a static call of a method with an exception table ===== -/
section VXS
variable {p : Program} {l : Launch} {e : Env} {R : Room} {s : State} {m : MethodId} {args : Array Value} {below : List Frame} {meth : Method} {c : Code} {T : State} {H : Heap} {locs : List Loc} {cells slots : Nat}
abbrev vx_CSW (R : Room) (s : State) (args : Array Value) (own : String) (index : Nat) (y : MethodName) (bytes : ByteArray) (maxL : Nat) (ret : Option FieldType) (hh : List (Nat × Nat × Nat × Nat)) (ws : List Cond) (rm : Room) (mc ms n : Nat) : Prop :=
  (rm.cells = mc ∧ rm.slots = ms ∧ rm.frames + 1 ≤ R.frames ∧ 8 + (maxL + 11) + rm.locals ≤ R.locals ∧ (∀ w ∈ ws, ∀ (a' : Array Value) (U : State), s.WarmedH U.vm → w.before a' U = true) ∧ Cond.codeWith y bytes maxL ret hh ∈ ws) ∧
  (Cond.codeWith y bytes maxL ret hh).before args s = true ∧ (Cond.initialized y.cls).before args s = true ∧ (y.cls ≠ "java/lang/invoke/MethodHandle" ∧ y.cls ≠ "java/lang/invoke/VarHandle") ∧
  (∀ sig, parseMethodDescriptor y.desc = some sig → n = sig.parameters.length) ∧ (Cond.methodLink own index y).before args s = true ∧ (Cond.static y).before args s = true
theorem vx_cwSW {own : String} {index maxL mc ms : Nat} {y : MethodName} {bytes : ByteArray} {ret : Option FieldType} {hh : List (Nat × Nat × Nat × Nat)} {Ts ws ws' : List Cond} {rm : Room} (n : Nat) (ht : ∀ w ∈ Ts, w.before args s = true) (hT : GoodIn Ts (va_wsS own index y ws)) (hw : ws = Cond.codeWith y bytes maxL ret hh :: ws') (hrc : rm.cells = mc) (hrs : rm.slots = ms)
    (hd : y.cls ≠ "java/lang/invoke/MethodHandle" ∧ y.cls ≠ "java/lang/invoke/VarHandle" ∧ (parseMethodDescriptor y.desc).map (fun d => d.parameters.length) = some n) (hR : rm.frames + 1 ≤ R.frames ∧ 8 + (maxL + 11) + rm.locals ≤ R.locals) :
    vx_CSW R s args own index y bytes maxL ret hh ws rm mc ms n := by
  have ok : ∀ w ∈ va_wsS own index y ws, w.before args s = true := fun w h => ht w (hT w h).1
  have hG : GoodIn Ts ws := fun w h => hT w (by unfold va_wsS; exact List.mem_append_right _ h)
  have hc : Cond.codeWith y bytes maxL ret hh ∈ ws := by rw [hw]; exact List.mem_cons_self
  refine ⟨⟨hrc, hrs, hR.1, hR.2, pay_in ht hG, hc⟩, ht _ (hG _ hc).1, ok _ (by simp [va_wsS]), ⟨hd.1, hd.2.1⟩, fun sig h => ?_, ok _ (by simp [va_wsS]), ok _ (by simp [va_wsS])⟩
  have h2 := hd.2.2
  rw [h] at h2
  exact (Option.some.inj h2).symm
theorem vx_callSW (X : Stand p l e R s m args below meth c T locs cells slots) (hexec : p.tables.exec = Jvm.exec) {own : String} {index : Nat} {y : MethodName} {bytes : ByteArray} {maxL : Nat} {ret : Option FieldType} {hh : List (Nat × Nat × Nat × Nat)}
    (hown : s.vm.findClass own = some m.cls) (hlink : (Cond.methodLink own index y).before args s = true) (hstat : (Cond.static y).before args s = true) (hinit : (Cond.initialized y.cls).before args s = true)
    (hcode : (Cond.codeWith y bytes maxL ret hh).before args s = true) (hy : y.cls ≠ "java/lang/invoke/MethodHandle" ∧ y.cls ≠ "java/lang/invoke/VarHandle")
    {W9 : Nat} {Pre : Pt → Array Value → Prop} {Post : Pt → Array Value → Option Value → Pt → Prop} (hK : Back l R p e below s args y 3 W9 Pre Post)
    {g : JFrame} (hg : g.method = m) (hsize : g.locals.size = c.maxLocals) {argsL rest : List Value} (hlen : ∀ sig, parseMethodDescriptor y.desc = some sig → argsL.length = sig.parameters.length)
    (hstack : g.stack = argsL.reverse ++ rest) (hW : 2 * g.monitorRoom + (rest.map fun v => v.category).sum ≤ W9) (hdg : decode c.code g.pc = .ok (.invokestatic index, 3))
    (hpre : ∀ vm₁, s.WarmedH vm₁ → Pre ⟨T.setVm vm₁, locs, cells, slots⟩ argsL.toArray) :
    ∃ (v : Option Value) (vm₁ : Vm) (B : Pt), s.WarmedH vm₁ ∧ Stand p l e R s m args below meth c B.U B.locs B.cells B.slots ∧ Post ⟨T.setVm vm₁, locs, cells, slots⟩ argsL.toArray v B ∧
      ∀ target, Steps p.tables e below (B.U.setTop { g with pc := g.pc + 3, stack := v.toList ++ rest }) target → Steps p.tables e below (T.setTop g) target := by
  obtain ⟨mk, methM, cM, hnamed, hmethM, -, -, -, -, -, -, hsigM⟩ := Cond.codeWith_spec hcode
  have hstatic : methM.isStatic = true := Cond.static_spec hnamed hmethM hstat
  obtain ⟨kP, hkP, -⟩ := className_of_methodNamed hnamed
  have hinitP : kP.init = .initialized := Cond.initialized_spec (findClass_of_methodNamed hnamed) hkP hinit
  obtain ⟨vm₁, X₁, hstep₁⟩ := X.invokestatic hexec hown hlink hnamed hmethM hstatic hkP hinitP hy (g := g) hg (argsL := argsL) (rest := rest) (hlen _ hsigM) hstack hdg
  obtain ⟨v, B, X', hpost, hsteps⟩ := hK m meth c ⟨T.setVm vm₁, locs, cells, slots⟩ { g with stack := rest } (.invokestatic index) mk argsL.toArray X₁ hg hsize hdg hW (X₁.named hnamed) (hpre vm₁ X₁.warmed)
  exact ⟨v, vm₁, B, X₁.warmed, X', hpost, fun target h => hstep₁ _ fun acts => by rw [doInvoke_state]; exact hsteps.trans h⟩
theorem vx_runSW {y : MethodName} {bytes cc : ByteArray} {maxL nL mc ms n index : Nat} {ret : Option FieldType} {hh : List (Nat × Nat × Nat × Nat)} {ws : List Cond} {rm : Room} {Pc : Array Value → State → Prop} {Qc : Array Value → State → Outcome → State → Prop} {free : Addr → Prop} {Ts : List Cond} {own : String} {As rest : List Value} {g : JFrame}
    (S : CallFix p m c cc nL s args Ts own) (hM : Met l y ws rm Pc Qc mc ms free) (cw : vx_CSW R s args own index y bytes maxL ret hh ws rm mc ms n) (hp : PreS s H Pc As)
    (hg : g.method = m) (hn : As.length = n) (hsize : g.locals.size = nL) (hstack : g.stack = As.reverse ++ rest) (hW : 2 * g.monitorRoom + (rest.map fun v => v.category).sum ≤ 8) (hdg : decode cc g.pc = .ok (.invokestatic index, 3)) (hf : cells + mc ≤ R.cells ∧ slots + ms ≤ R.slots) :
    va_Run p l e R s m args below meth c H locs cells slots mc ms g rest (Qc As.toArray) (free) := by
  obtain ⟨⟨hrc, hrs, hfr, hlo, hws, hcw⟩, hcode, hini, hy, hlen, hl, hstt⟩ := cw
  have hK : Back l R p e below s args y 3 8 (PreOf R mc ms Pc) (PostOf Qc mc ms free) := va_backW (hh := hh) (bytes := bytes) (maxL := maxL) (ret := ret) hM hp.1 hrc hrs hfr hlo hws hcw (fun a' U hW => word_at hW (Or.inl (by first | rfl | simp [Cond.onTables, Cond.keeps, Cond.steady])) hini)
  obtain ⟨hx, hb, hml, ho, -⟩ := S
  intro T hT X
  obtain ⟨v, vm₁, ⟨U', l2, c2, s2⟩, hW₁, X', ⟨g', mk, t, L, e1, e2, hq, h1, hL, h2, h3⟩, st⟩ := vx_callSW X hx (hh := hh) (bytes := bytes) (maxL := maxL) (ret := ret) ho hl hstt hini hcode hy hK hg (hsize.trans hml.symm) (argsL := As) (rest := rest) (fun sig h => hn.trans (hlen sig h)) hstack hW (by rw [hb]; exact hdg)
    (fun vm₁ hW₁ => ⟨hf.1, hf.2, hp.2 (T.setVm vm₁) hT hW₁⟩)
  dsimp only [Pt.U, Pt.locs, Pt.cells, Pt.slots] at X' e1 e2 h1 h2 h3 st
  subst h1; subst h2; subst h3
  exact ⟨v, (T.setVm vm₁).calling g' mk As.toArray, t, U', L, hT, X', hL, e1, e2, hq, st⟩
/-- not caught here, past rows that name other classes: it goes on to the caller -/
theorem vx_outP {p : Program} {l : Launch} {e : Env} {R : Room} {s : State} {m : MethodId} {args : Array Value} {below : List Frame} {meth : Method} {c : Code} {H : Heap} {locs : List Loc} {cells slots : Nat} {free : Addr → Prop} {ls : Array Slot} {rest : List Value} {Qc : Array Value → State → Outcome → State → Prop} {XC : String → State → State → Prop}
    {pc : Nat} {own E : String} {ce : Cell} {q : Addr} {mc ms : Nat} (hown : s.vm.findClass own = some m.cls) (hlocks : meth.locks = false)
    (hpass : ∀ z ∈ c.exceptionTable.toList, covers z pc = false ∨ (z.catchType ≠ 0 ∧ ∃ nm : String, (Cond.classLink own z.catchType nm).before args s = true ∧ va_Nc E nm s)) (hcell : H[q]? = some ce) (hv : ce.vm = .none) (hcl : s.vm.findClass E = some ce.cls)
    (hx : ∀ t : State, t.heap = H → s.vm.Alike t.vm → XC E s t) (hf : ∀ z ∈ locs, free z.base) (hc : cells ≤ mc) (hs : slots ≤ ms) :
    vx_W p l e R s m args below meth c H locs cells slots (vx_MQ below Qc XC args s mc ms free) (F0 m pc ls rest) q := by
  intro T hT X
  have hpl : e.platform.magicAccessors = ({} : Platform).magicAccessors := by rw [X.admits.platform]
  obtain ⟨vm', hW', X', st⟩ := X.outThrough hlocks q (g := F0 m pc ls rest) rfl rfl rfl (cell := ce) (by rw [hT]; exact hcell) (by rw [hv]; rfl)
    (by obtain ⟨k9, h9, -⟩ := Vm.findClass_spec hcl; exact ⟨k9, h9⟩) (fun z hz => by
      rcases hpass z hz with h | ⟨hz0, nm, hl1, hn1⟩
      · exact Or.inl h
      · obtain ⟨c6, hc6, hcl6⟩ := Cond.classLink_spec hown hl1 e.platform hpl
        obtain ⟨a8, b8, h1, h2, h3⟩ := hn1
        cases Option.some.inj (h1.symm.trans hcl)
        cases Option.some.inj (h2.symm.trans hc6)
        exact Or.inr ⟨hz0, _, hcl6, h3⟩)
  obtain ⟨g₀, hfr⟩ := X'.frames_eq
  have hcell9 : ((T.setVm vm').setFrames (.throwing q :: below)).heap[q]? = some ce := by
    show T.heap[q]? = some ce
    rw [hT]; exact hcell
  have hend : Ended ((T.setVm vm').setFrames (.throwing q :: below)) below (.threw q) := State.frames_setFrames _ (State.cur_lt_of_frames hfr)
  refine ⟨(T.setVm vm').setFrames (.throwing q :: below), ?_, .threw q, X'.here.running, hend, Or.inr ⟨q, rfl, E, ce, locs, hx _ hT (X'.ends _).1.alike, hcell9, hv, hcl, (X'.ends _).1, (X'.ends _).2.mono hc hs, hf⟩⟩
  rw [X.pushThrowing_eq]
  exact st
/-- a thing of a world lies in the heap -/
theorem vx_lt {D : va_G} {cl : List vw_C} {ws : va_W} {H1 : Heap} (h : va_P D cl ws H1) {k : Nat} {q : Nat × va_E} (hk : ws[k]? = some q) : q.1 < H1.size := (h k q hk).lt
end VXS
/-! ===== END ===== -/
/-! ===== BEGIN methods with a table of their own: called by a name, returning or throwing ===== -/
section VXH
/-! vx_backW, vx_callVX, vx_callSX, vx_callVW, vx_runVW, vx_runVX, vx_runSX, vx_ofWH follow the same proofs as their sisters above (Free/Laws.lean, Shelf42/LK1.lean); vx_outP calls Shelf42/NT130.lean (outThrough). -/
section
variable {l : Launch} {R : Room} {p : Program} {e : Env} {below : List Frame} {s : State} {sargs : Array Value} {y : MethodName} {len W9 : Nat}
theorem vx_backW {ws : List Cond} {rm : Room} {Pc : Array Value → State → Prop} {Qc : Array Value → State → Outcome → State → Prop} {XC : String → State → State → Prop} {mc ms : Nat} {free : Addr → Prop} {bytes : ByteArray} {maxL : Nat} {ret : Option FieldType} {hh : List (Nat × Nat × Nat × Nat)}
    (hM : vx_Met l y ws rm Pc Qc XC mc ms free) (hblind : FrameBlind Pc) (hrc : rm.cells = mc) (hrs : rm.slots = ms)
    (hframes : rm.frames + 1 ≤ R.frames) (hlocals : W9 + (maxL + 11) + rm.locals ≤ R.locals)
    (hws : ∀ w ∈ ws, ∀ a' U, s.WarmedH U.vm → w.before a' U = true) (hcode : Cond.codeWith y bytes maxL ret hh ∈ ws) (hinit : ∀ a' U, s.WarmedH U.vm → (Cond.initialized y.cls).before a' U = true) :
    vx_Back l R p e below s sargs y len W9 (PreOf R mc ms Pc) (PostOf Qc mc ms free) (vx_Post XC mc ms free) := by
  intro m meth c A g ig mk a X hg hsize hdg hW hn hp
  have h1 : (headSpec ws rm).pre.before a A.U = true := atoms_intro fun w hw => hws w hw _ _ X.warmed
  have h2 : (Cond.codeWith y bytes maxL ret hh).before a A.U = true := hws _ hcode _ _ X.warmed
  have h3 : (Cond.initialized y.cls).before a A.U = true := hinit _ _ X.warmed
  have h4 : A.cells + (headSpec ws rm).room.cells ≤ R.cells := by rw [show (headSpec ws rm).room.cells = mc from hrc]; exact hp.1
  have h5 : A.slots + (headSpec ws rm).room.slots ≤ R.slots := by rw [show (headSpec ws rm).room.slots = ms from hrs]; exact hp.2.1
  have hPc : Pc a (A.U.calling g mk a) := hblind _ _ _ _ hp.2.2
  obtain ⟨U, Ls, c0, s0⟩ := A
  dsimp only [Pt.U, Pt.locs, Pt.cells, Pt.slots] at h1 h2 h3 h4 h5 X hn hPc ⊢
  obtain ⟨m9, methY, cY, hn9, hmY, hcY, -, hlY, -⟩ := Cond.codeWith_spec h2
  cases Option.some.inj (hn9.symm.trans hn)
  obtain ⟨kY, hkY, -⟩ := className_of_methodNamed hn
  have hinitY : kY.init = .initialized := Cond.initialized_spec (findClass_of_methodNamed hn) hkY h3
  have h : At U g.method c below := by rw [hg]; exact X.here
  have hlocals9 : W9 + (maxL + 11) + (headSpec ws rm).room.locals ≤ R.locals := hlocals
  have happ : (headSpec ws rm).appliesLoose y e.platform (U.calling g mk a) = true :=
    Spec.appliesLoose_calling (g := g) h hdg hn hkY hinitY
      (X.room_calling (g := g) (R' := (headSpec ws rm).room) hsize hmY hcY hframes (by rw [hlY]; omega) h4 h5) h1
  obtain ⟨mid, hmid⟩ := h.above
  have hfr : (U.setTop g).frames = (.java g :: mid) ++ below := by rw [State.frames_setTop' g h.top, hmid]; rfl
  obtain ⟨o, s₂, hsteps, -, hend, hq⟩ := Steps.callFree hM p X.admits X.cas X.clock (acts := []) hfr happ hPc trivial
  have hq' : vx_Q Qc XC mc ms free a (U.calling g mk a) o s₂ := hq
  rw [State.frames_setTop' g h.top] at hend
  obtain ⟨g₀, hg0⟩ := Option.isSome_iff_exists.mp h.top
  obtain ⟨r, hr⟩ := State.topJava?_eq_some.mp hg0
  have hr' : (({ U with heap := s₂.heap, slotsUsed := s₂.slotsUsed } : State).setVm s₂.vm).frames = .java g₀ :: r := hr
  rcases hq' with ⟨hqc, L, hfe, hL⟩ | ⟨q, rfl, E, ce, L, hx, hce, hcv, hcl, hW₂, hsm, hL⟩
  · obtain ⟨⟨v, rfl⟩, hW₂, e2, q2, q3, q4, q5, q6⟩ := id hfe
    have e3 : s₂ = ({ (U.calling g mk a).setFrames s₂.frames with heap := s₂.heap, slotsUsed := s₂.slotsUsed } : State).setVm s₂.vm := by
      have : s₂ = ({ s₂ with vm := (U.calling g mk a).vm } : State).setVm s₂.vm := rfl
      rw [e2] at this
      exact this
    obtain ⟨c₂, i₂, len₂, hc₂, hd₂, hf₂⟩ := hend
    have hW' : U.WarmedH s₂.vm := hW₂
    have hcc : c₂ = c := by
      have h1 : s₂.code? g.method = U.code? g.method := by
        rw [State.code?_eq, State.code?_eq, hW'.alike.method?]
      exact Option.some.inj (hc₂.symm.trans (h1.trans h.code))
    subst hcc
    have hlen : len₂ = len := by rw [hdg] at hd₂; cases hd₂; rfl
    subst hlen
    have hs₂ : s₂ = (({ U with heap := s₂.heap, slotsUsed := s₂.slotsUsed } : State).setVm s₂.vm).setTop { g with pc := g.pc + len₂, stack := v.toList ++ g.stack } := by
      refine e3.trans ?_
      rw [hf₂, State.calling_eq h.top, State.setFrames_setFrames, State.setTop_of_frames _ hr', hr]
      rfl
    have hsame : U.sameButNew ({ U with heap := s₂.heap, slotsUsed := s₂.slotsUsed } : State) L mc ms := by
      refine ⟨?_, q2, q3, q4, q5, q6⟩
      obtain ⟨t, ht, -⟩ := State.frames_cons hr
      show ({ U with heap := s₂.heap, slotsUsed := s₂.slotsUsed } : State) = { U.setFrames U.frames with heap := s₂.heap, slotsUsed := s₂.slotsUsed }
      rw [State.setFrames_self ht]
    subst hg
    refine Or.inl ⟨v, ⟨(({ U with heap := s₂.heap, slotsUsed := s₂.slotsUsed } : State).setVm s₂.vm), Ls ++ L, c0 + mc, s0 + ms⟩,
      ⟨X.admits, X.cas, X.clock, X.frames, X.room, X.hears, X.method, X.code, (X.here.setHeapUsed s₂.heap s₂.slotsUsed).setVm hW'.alike, X.tail, State.WarmedH.trans X.warmed hW', X.limits, X.bytes, X.same.trans (hsame.setVm s.vm)⟩,
      ⟨g, mk, s₂, L, rfl, rfl, hqc, rfl, hL, rfl, rfl⟩, ?_⟩
    show Steps p.tables e below _ ((({ U with heap := s₂.heap, slotsUsed := s₂.slotsUsed } : State).setVm s₂.vm).setTop { g with pc := g.pc + len₂, stack := v.toList ++ g.stack })
    rw [← hs₂]
    exact hsteps
  · obtain ⟨e2, q2, q3, q4, q5, q6⟩ := id hsm
    have e3 : s₂ = ({ (U.calling g mk a).setFrames s₂.frames with heap := s₂.heap, slotsUsed := s₂.slotsUsed } : State).setVm s₂.vm := by
      have : s₂ = ({ s₂ with vm := (U.calling g mk a).vm } : State).setVm s₂.vm := rfl
      rw [e2] at this
      exact this
    have hf₂ : s₂.frames = .throwing q :: .java g :: U.frames.tail := hend
    have hW' : U.WarmedH s₂.vm := hW₂
    have hs₂ : s₂ = ((({ U with heap := s₂.heap, slotsUsed := s₂.slotsUsed } : State).setVm s₂.vm).setTop g).pushFrame (.throwing q) := by
      refine e3.trans ?_
      rw [hf₂, State.calling_eq h.top, State.setFrames_setFrames, State.pushFrame, State.frames_setTop _ hr', State.setTop_of_frames _ hr', State.setFrames_setFrames, hr]
      rfl
    have hsame : U.sameButNew ({ U with heap := s₂.heap, slotsUsed := s₂.slotsUsed } : State) L mc ms := by
      refine ⟨?_, q2, q3, q4, q5, q6⟩
      obtain ⟨t, ht, -⟩ := State.frames_cons hr
      show ({ U with heap := s₂.heap, slotsUsed := s₂.slotsUsed } : State) = { U.setFrames U.frames with heap := s₂.heap, slotsUsed := s₂.slotsUsed }
      rw [State.setFrames_self ht]
    subst hg
    refine Or.inr ⟨q, ⟨(({ U with heap := s₂.heap, slotsUsed := s₂.slotsUsed } : State).setVm s₂.vm), Ls ++ L, c0 + mc, s0 + ms⟩,
      ⟨X.admits, X.cas, X.clock, X.frames, X.room, X.hears, X.method, X.code, (X.here.setHeapUsed s₂.heap s₂.slotsUsed).setVm hW'.alike, X.tail, State.WarmedH.trans X.warmed hW', X.limits, X.bytes, X.same.trans (hsame.setVm s.vm)⟩,
      ⟨g, mk, s₂, L, E, ce, rfl, rfl, hx, hce, hcv, hcl, rfl, hL, rfl, rfl⟩, ?_⟩
    show Steps p.tables e below _ (((({ U with heap := s₂.heap, slotsUsed := s₂.slotsUsed } : State).setVm s₂.vm).setTop g).pushFrame (.throwing q))
    rw [← hs₂]
    exact hsteps
end
variable {p : Program} {l : Launch} {e : Env} {R : Room} {s : State} {m : MethodId} {args : Array Value} {below : List Frame} {meth : Method} {c : Code} {T : State} {H : Heap} {locs : List Loc} {cells slots : Nat}
theorem vx_callVX (X : Stand p l e R s m args below meth c T locs cells slots) (hexec : p.tables.exec = Jvm.exec) {own C : String} {index : Nat} {y : MethodName} {bytes : ByteArray} {maxL : Nat} {ret : Option FieldType} {hh : List (Nat × Nat × Nat × Nat)}
    (hown : s.vm.findClass own = some m.cls) (hlink : (Cond.methodLink own index y).before args s = true) (hinst : (Cond.instanceMethod y).before args s = true) (hsel : (Cond.selects C y y).before args s = true)
    (hcode : (Cond.codeWith y bytes maxL ret hh).before args s = true) (hy : y.cls ≠ "java/lang/invoke/MethodHandle" ∧ y.cls ≠ "java/lang/invoke/VarHandle")
    {W9 : Nat} {Pre : Pt → Array Value → Prop} {Post : Pt → Array Value → Option Value → Pt → Prop} {PostX : Pt → Array Value → Addr → Pt → Prop} (hK : vx_Back l R p e below s args y 3 W9 Pre Post PostX)
    {b : Addr} {cellB : Cell} (hcell : T.heap[b]? = some cellB) (hobj : cellB.vm.isStatics = false) (hcls : s.vm.findClass C = some cellB.cls)
    {g : JFrame} (hg : g.method = m) (hsize : g.locals.size = c.maxLocals) {argsL rest : List Value} (hlen : ∀ sig, parseMethodDescriptor y.desc = some sig → argsL.length = sig.parameters.length)
    (hstack : g.stack = argsL.reverse ++ .ref b :: rest) (hW : 2 * g.monitorRoom + (rest.map fun v => v.category).sum ≤ W9) (hdg : decode c.code g.pc = .ok (.invokevirtual index, 3))
    (hpre : ∀ vm₁, s.WarmedH vm₁ → Pre ⟨T.setVm vm₁, locs, cells, slots⟩ (Value.ref b :: argsL).toArray) :
    (∃ (v : Option Value) (vm₁ : Vm) (B : Pt), s.WarmedH vm₁ ∧ Stand p l e R s m args below meth c B.U B.locs B.cells B.slots ∧ Post ⟨T.setVm vm₁, locs, cells, slots⟩ (Value.ref b :: argsL).toArray v B ∧
      ∀ target, Steps p.tables e below (B.U.setTop { g with pc := g.pc + 3, stack := v.toList ++ rest }) target → Steps p.tables e below (T.setTop g) target) ∨
    (∃ (q : Addr) (vm₁ : Vm) (B : Pt), s.WarmedH vm₁ ∧ Stand p l e R s m args below meth c B.U B.locs B.cells B.slots ∧ PostX ⟨T.setVm vm₁, locs, cells, slots⟩ (Value.ref b :: argsL).toArray q B ∧
      Steps p.tables e below (T.setTop g) ((B.U.setTop { g with stack := rest }).pushFrame (.throwing q))) := by
  obtain ⟨mk, methM, hnamed, hmethM, hstM, habM⟩ := Cond.instanceMethod_spec hinst
  obtain ⟨m8, methM', cM, hn8, hmethM', -, -, -, -, -, -, hsigM⟩ := Cond.codeWith_spec hcode
  cases Option.some.inj (hn8.symm.trans hnamed)
  cases hmethM.symm.trans hmethM'
  obtain ⟨c2, r2, m2, q1, q2, q3, q4, kP, hkP, hkPi⟩ := Cond.selects_spec hsel
  cases hcls.symm.trans q1
  cases (State.methodFound?_of_named hnamed hy).symm.trans q2
  cases hnamed.symm.trans q3
  have hselP : selectMethod e.platform s.vm cellB.cls mk = .method mk := by rw [Launch.admits_selectMethod X.admits]; exact q4
  obtain ⟨vm₁, X₁, hstep₁⟩ := X.invokevirtual hexec hown hlink hnamed hmethM hstM hkP hkPi hy (a := b) (cell := cellB) hcell
    (fun z h => by rw [h] at hobj; cases hobj) hselP hmethM habM hkP hkPi (g := g) hg (argsL := argsL) (rest := rest) (hlen _ hsigM) hstack hdg
  rcases hK m meth c ⟨T.setVm vm₁, locs, cells, slots⟩ { g with stack := rest } (.invokevirtual index) mk (Value.ref b :: argsL).toArray X₁ hg hsize hdg hW (X₁.named hnamed) (hpre vm₁ X₁.warmed) with ⟨v, B, X', hpost, hsteps⟩ | ⟨q, B, X', hpost, hsteps⟩
  · exact Or.inl ⟨v, vm₁, B, X₁.warmed, X', hpost, fun target h => hstep₁ _ fun acts => by rw [doInvoke_state]; exact hsteps.trans h⟩
  · exact Or.inr ⟨q, vm₁, B, X₁.warmed, X', hpost, hstep₁ _ fun acts => by rw [doInvoke_state]; exact hsteps⟩
theorem vx_callSX (X : Stand p l e R s m args below meth c T locs cells slots) (hexec : p.tables.exec = Jvm.exec) {own : String} {index : Nat} {y : MethodName} {bytes : ByteArray} {maxL : Nat} {ret : Option FieldType} {hh : List (Nat × Nat × Nat × Nat)}
    (hown : s.vm.findClass own = some m.cls) (hlink : (Cond.methodLink own index y).before args s = true) (hstat : (Cond.static y).before args s = true) (hinit : (Cond.initialized y.cls).before args s = true)
    (hcode : (Cond.codeWith y bytes maxL ret hh).before args s = true) (hy : y.cls ≠ "java/lang/invoke/MethodHandle" ∧ y.cls ≠ "java/lang/invoke/VarHandle")
    {W9 : Nat} {Pre : Pt → Array Value → Prop} {Post : Pt → Array Value → Option Value → Pt → Prop} {PostX : Pt → Array Value → Addr → Pt → Prop} (hK : vx_Back l R p e below s args y 3 W9 Pre Post PostX)
    {g : JFrame} (hg : g.method = m) (hsize : g.locals.size = c.maxLocals) {argsL rest : List Value} (hlen : ∀ sig, parseMethodDescriptor y.desc = some sig → argsL.length = sig.parameters.length)
    (hstack : g.stack = argsL.reverse ++ rest) (hW : 2 * g.monitorRoom + (rest.map fun v => v.category).sum ≤ W9) (hdg : decode c.code g.pc = .ok (.invokestatic index, 3))
    (hpre : ∀ vm₁, s.WarmedH vm₁ → Pre ⟨T.setVm vm₁, locs, cells, slots⟩ argsL.toArray) :
    (∃ (v : Option Value) (vm₁ : Vm) (B : Pt), s.WarmedH vm₁ ∧ Stand p l e R s m args below meth c B.U B.locs B.cells B.slots ∧ Post ⟨T.setVm vm₁, locs, cells, slots⟩ argsL.toArray v B ∧
      ∀ target, Steps p.tables e below (B.U.setTop { g with pc := g.pc + 3, stack := v.toList ++ rest }) target → Steps p.tables e below (T.setTop g) target) ∨
    (∃ (q : Addr) (vm₁ : Vm) (B : Pt), s.WarmedH vm₁ ∧ Stand p l e R s m args below meth c B.U B.locs B.cells B.slots ∧ PostX ⟨T.setVm vm₁, locs, cells, slots⟩ argsL.toArray q B ∧
      Steps p.tables e below (T.setTop g) ((B.U.setTop { g with stack := rest }).pushFrame (.throwing q))) := by
  obtain ⟨mk, methM, cM, hnamed, hmethM, -, -, -, -, -, -, hsigM⟩ := Cond.codeWith_spec hcode
  have hstatic : methM.isStatic = true := Cond.static_spec hnamed hmethM hstat
  obtain ⟨kP, hkP, -⟩ := className_of_methodNamed hnamed
  have hinitP : kP.init = .initialized := Cond.initialized_spec (findClass_of_methodNamed hnamed) hkP hinit
  obtain ⟨vm₁, X₁, hstep₁⟩ := X.invokestatic hexec hown hlink hnamed hmethM hstatic hkP hinitP hy (g := g) hg (argsL := argsL) (rest := rest) (hlen _ hsigM) hstack hdg
  rcases hK m meth c ⟨T.setVm vm₁, locs, cells, slots⟩ { g with stack := rest } (.invokestatic index) mk argsL.toArray X₁ hg hsize hdg hW (X₁.named hnamed) (hpre vm₁ X₁.warmed) with ⟨v, B, X', hpost, hsteps⟩ | ⟨q, B, X', hpost, hsteps⟩
  · exact Or.inl ⟨v, vm₁, B, X₁.warmed, X', hpost, fun target h => hstep₁ _ fun acts => by rw [doInvoke_state]; exact hsteps.trans h⟩
  · exact Or.inr ⟨q, vm₁, B, X₁.warmed, X', hpost, hstep₁ _ fun acts => by rw [doInvoke_state]; exact hsteps⟩
theorem vx_callVW (X : Stand p l e R s m args below meth c T locs cells slots) (hexec : p.tables.exec = Jvm.exec) {own C : String} {index : Nat} {y : MethodName} {bytes : ByteArray} {maxL : Nat} {ret : Option FieldType} {hh : List (Nat × Nat × Nat × Nat)}
    (hown : s.vm.findClass own = some m.cls) (hlink : (Cond.methodLink own index y).before args s = true) (hinst : (Cond.instanceMethod y).before args s = true) (hsel : (Cond.selects C y y).before args s = true)
    (hcode : (Cond.codeWith y bytes maxL ret hh).before args s = true) (hy : y.cls ≠ "java/lang/invoke/MethodHandle" ∧ y.cls ≠ "java/lang/invoke/VarHandle")
    {W9 : Nat} {Pre : Pt → Array Value → Prop} {Post : Pt → Array Value → Option Value → Pt → Prop} (hK : Back l R p e below s args y 3 W9 Pre Post)
    {b : Addr} {cellB : Cell} (hcell : T.heap[b]? = some cellB) (hobj : cellB.vm.isStatics = false) (hcls : s.vm.findClass C = some cellB.cls)
    {g : JFrame} (hg : g.method = m) (hsize : g.locals.size = c.maxLocals) {argsL rest : List Value} (hlen : ∀ sig, parseMethodDescriptor y.desc = some sig → argsL.length = sig.parameters.length)
    (hstack : g.stack = argsL.reverse ++ .ref b :: rest) (hW : 2 * g.monitorRoom + (rest.map fun v => v.category).sum ≤ W9) (hdg : decode c.code g.pc = .ok (.invokevirtual index, 3))
    (hpre : ∀ vm₁, s.WarmedH vm₁ → Pre ⟨T.setVm vm₁, locs, cells, slots⟩ (Value.ref b :: argsL).toArray) :
    ∃ (v : Option Value) (vm₁ : Vm) (B : Pt), s.WarmedH vm₁ ∧ Stand p l e R s m args below meth c B.U B.locs B.cells B.slots ∧ Post ⟨T.setVm vm₁, locs, cells, slots⟩ (Value.ref b :: argsL).toArray v B ∧
      ∀ target, Steps p.tables e below (B.U.setTop { g with pc := g.pc + 3, stack := v.toList ++ rest }) target → Steps p.tables e below (T.setTop g) target := by
  obtain ⟨mk, methM, hnamed, hmethM, hstM, habM⟩ := Cond.instanceMethod_spec hinst
  obtain ⟨m8, methM', cM, hn8, hmethM', -, -, -, -, -, -, hsigM⟩ := Cond.codeWith_spec hcode
  cases Option.some.inj (hn8.symm.trans hnamed)
  cases hmethM.symm.trans hmethM'
  obtain ⟨c2, r2, m2, q1, q2, q3, q4, kP, hkP, hkPi⟩ := Cond.selects_spec hsel
  cases hcls.symm.trans q1
  cases (State.methodFound?_of_named hnamed hy).symm.trans q2
  cases hnamed.symm.trans q3
  have hselP : selectMethod e.platform s.vm cellB.cls mk = .method mk := by rw [Launch.admits_selectMethod X.admits]; exact q4
  obtain ⟨vm₁, X₁, hstep₁⟩ := X.invokevirtual hexec hown hlink hnamed hmethM hstM hkP hkPi hy (a := b) (cell := cellB) hcell
    (fun z h => by rw [h] at hobj; cases hobj) hselP hmethM habM hkP hkPi (g := g) hg (argsL := argsL) (rest := rest) (hlen _ hsigM) hstack hdg
  obtain ⟨v, B, X', hpost, hsteps⟩ := hK m meth c ⟨T.setVm vm₁, locs, cells, slots⟩ { g with stack := rest } (.invokevirtual index) mk (Value.ref b :: argsL).toArray X₁ hg hsize hdg hW (X₁.named hnamed) (hpre vm₁ X₁.warmed)
  exact ⟨v, vm₁, B, X₁.warmed, X', hpost, fun target h => hstep₁ _ fun acts => by rw [doInvoke_state]; exact hsteps.trans h⟩
abbrev vx_CVW (R : Room) (s : State) (args : Array Value) (own C : String) (index : Nat) (y : MethodName) (bytes : ByteArray) (maxL : Nat) (ret : Option FieldType) (hh : List (Nat × Nat × Nat × Nat)) (ws : List Cond) (rm : Room) (mc ms n : Nat) : Prop :=
  (rm.cells = mc ∧ rm.slots = ms ∧ rm.frames + 1 ≤ R.frames ∧ 8 + (maxL + 11) + rm.locals ≤ R.locals ∧ (∀ w ∈ ws, ∀ (a' : Array Value) (U : State), s.WarmedH U.vm → w.before a' U = true) ∧ Cond.codeWith y bytes maxL ret hh ∈ ws) ∧
  (Cond.codeWith y bytes maxL ret hh).before args s = true ∧ (Cond.initialized y.cls).before args s = true ∧ (y.cls ≠ "java/lang/invoke/MethodHandle" ∧ y.cls ≠ "java/lang/invoke/VarHandle") ∧
  (∀ sig, parseMethodDescriptor y.desc = some sig → n = sig.parameters.length) ∧ (Cond.methodLink own index y).before args s = true ∧ (Cond.instanceMethod y).before args s = true ∧ (Cond.selects C y y).before args s = true
theorem vx_cwVW {own C : String} {index maxL mc ms : Nat} {y : MethodName} {bytes : ByteArray} {ret : Option FieldType} {hh : List (Nat × Nat × Nat × Nat)} {Ts ws ws' : List Cond} {rm : Room} (n : Nat) (ht : ∀ w ∈ Ts, w.before args s = true) (hT : GoodIn Ts (wsV own index C y ws)) (hw : ws = Cond.codeWith y bytes maxL ret hh :: ws') (hrc : rm.cells = mc) (hrs : rm.slots = ms)
    (hd : y.cls = C ∧ y.cls ≠ "java/lang/invoke/MethodHandle" ∧ y.cls ≠ "java/lang/invoke/VarHandle" ∧ (parseMethodDescriptor y.desc).map (fun d => d.parameters.length) = some n) (hR : rm.frames + 1 ≤ R.frames ∧ 8 + (maxL + 11) + rm.locals ≤ R.locals) :
    vx_CVW R s args own C index y bytes maxL ret hh ws rm mc ms n := by
  obtain ⟨hC, hd⟩ := hd
  subst hC
  have ok : ∀ w ∈ wsV own index y.cls y ws, w.before args s = true := fun w h => ht w (hT w h).1
  have hG : GoodIn Ts ws := fun w h => hT w (by unfold wsV; exact List.mem_append_right _ h)
  have hc : Cond.codeWith y bytes maxL ret hh ∈ ws := by rw [hw]; exact List.mem_cons_self
  refine ⟨⟨hrc, hrs, hR.1, hR.2, pay_in ht hG, hc⟩, ht _ (hG _ hc).1, ok _ (by simp [wsV]), ⟨hd.1, hd.2.1⟩, fun sig h => ?_, ok _ (by simp [wsV]), ok _ (by simp [wsV]), ok _ (by simp [wsV])⟩
  have h2 := hd.2.2
  rw [h] at h2
  exact (Option.some.inj h2).symm
theorem vx_runVW {y : MethodName} {bytes cc : ByteArray} {maxL nL mc ms n index : Nat} {ret : Option FieldType} {hh : List (Nat × Nat × Nat × Nat)} {ws : List Cond} {rm : Room} {Pc : Array Value → State → Prop} {Qc : Array Value → State → Outcome → State → Prop} {free : Addr → Prop} {Ts : List Cond} {own C : String} {b : Addr} {As rest : List Value} {g : JFrame}
    (S : CallFix p m c cc nL s args Ts own) (hM : Met l y ws rm Pc Qc mc ms free) (cw : vx_CVW R s args own C index y bytes maxL ret hh ws rm mc ms n) (hp : PreV s H C b Pc As)
    (hg : g.method = m) (hn : As.length = n) (hsize : g.locals.size = nL) (hstack : g.stack = As.reverse ++ .ref b :: rest) (hW : 2 * g.monitorRoom + (rest.map fun v => v.category).sum ≤ 8) (hdg : decode cc g.pc = .ok (.invokevirtual index, 3)) (hf : cells + mc ≤ R.cells ∧ slots + ms ≤ R.slots) :
    va_Run p l e R s m args below meth c H locs cells slots mc ms g rest (Qc (Value.ref b :: As).toArray) free := by
  obtain ⟨⟨hrc, hrs, hfr, hlo, hws, hcw⟩, hcode, hini, hy, hlen, hl, hin, hse⟩ := cw
  have hK : Back l R p e below s args y 3 8 (PreOf R mc ms Pc) (PostOf Qc mc ms free) := va_backW (hh := hh) (bytes := bytes) (maxL := maxL) (ret := ret) hM hp.1 hrc hrs hfr hlo hws hcw (fun a' U hW => word_at hW (Or.inl (by first | rfl | simp [Cond.onTables, Cond.keeps, Cond.steady])) hini)
  obtain ⟨hx, hb, hml, ho, -⟩ := S
  obtain ⟨-, ⟨cellB, hcB, hoB, hclB⟩, hPc⟩ := hp
  intro T hT X
  obtain ⟨v, vm₁, ⟨U', l2, c2, s2⟩, hW₁, X', ⟨g', mk, t, L, e1, e2, hq, h1, hL, h2, h3⟩, st⟩ := vx_callVW X hx (C := C) (hh := hh) (bytes := bytes) (maxL := maxL) (ret := ret) ho hl hin hse hcode hy hK (by rw [hT]; exact hcB) hoB hclB hg (hsize.trans hml.symm) (argsL := As) (rest := rest) (fun sig h => hn.trans (hlen sig h)) hstack hW (by rw [hb]; exact hdg)
    (fun vm₁ hW₁ => ⟨hf.1, hf.2, hPc (T.setVm vm₁) hT hW₁⟩)
  dsimp only [Pt.U, Pt.locs, Pt.cells, Pt.slots] at X' e1 e2 h1 h2 h3 st
  subst h1; subst h2; subst h3
  exact ⟨v, (T.setVm vm₁).calling g' mk (Value.ref b :: As).toArray, t, U', L, hT, X', hL, e1, e2, hq, st⟩
section
variable {y : MethodName} {bytes cc : ByteArray} {maxL nL mc ms n index : Nat} {ret : Option FieldType} {ws : List Cond} {rm : Room} {Pc : Array Value → State → Prop} {Qc : Array Value → State → Outcome → State → Prop} {XC : String → State → State → Prop} {free : Addr → Prop} {Ts : List Cond} {own C : String} {b : Addr} {As rest : List Value} {g : JFrame}
theorem vx_runVX {hh : List (Nat × Nat × Nat × Nat)} (S : CallFix p m c cc nL s args Ts own) (hM : vx_Met l y ws rm Pc Qc XC mc ms free) (cw : vx_CVW R s args own C index y bytes maxL ret hh ws rm mc ms n) (hp : PreV s H C b Pc As)
    (hg : g.method = m) (hn : As.length = n) (hsize : g.locals.size = nL) (hstack : g.stack = As.reverse ++ .ref b :: rest) (hW : 2 * g.monitorRoom + (rest.map fun v => v.category).sum ≤ 8) (hdg : decode cc g.pc = .ok (.invokevirtual index, 3)) (hf : cells + mc ≤ R.cells ∧ slots + ms ≤ R.slots) :
    vx_Run p l e R s m args below meth c H locs cells slots mc ms g rest (Qc (Value.ref b :: As).toArray) XC free := by
  obtain ⟨⟨hrc, hrs, hfr, hlo, hws, hcw⟩, hcode, hini, hy, hlen, hl, hin, hse⟩ := cw
  have hK : vx_Back l R p e below s args y 3 8 (PreOf R mc ms Pc) (PostOf Qc mc ms free) (vx_Post XC mc ms free) := vx_backW (hh := hh) (bytes := bytes) (maxL := maxL) (ret := ret) hM hp.1 hrc hrs hfr hlo hws hcw (fun a' U hW => word_at hW (Or.inl (by first | rfl | simp [Cond.onTables, Cond.keeps, Cond.steady])) hini)
  obtain ⟨hx, hb, hml, ho, -⟩ := S
  obtain ⟨-, ⟨cellB, hcB, hoB, hclB⟩, hPc⟩ := hp
  intro T hT X
  rcases vx_callVX X hx (C := C) (hh := hh) (bytes := bytes) (maxL := maxL) (ret := ret) ho hl hin hse hcode hy hK (by rw [hT]; exact hcB) hoB hclB hg (hsize.trans hml.symm) (argsL := As) (rest := rest) (fun sig h => hn.trans (hlen sig h)) hstack hW (by rw [hb]; exact hdg)
    (fun vm₁ hW₁ => ⟨hf.1, hf.2, hPc (T.setVm vm₁) hT hW₁⟩) with ⟨v, vm₁, ⟨U', l2, c2, s2⟩, hW₁, X', ⟨g', mk, t, L, e1, e2, hq, h1, hL, h2, h3⟩, st⟩ | ⟨q, vm₁, ⟨U', l2, c2, s2⟩, hW₁, X', ⟨g', mk, t, L, E, ce, e1, e2, hq, hce, hcv, hcl, h1, hL, h2, h3⟩, st⟩
  · dsimp only [Pt.U, Pt.locs, Pt.cells, Pt.slots] at X' e1 e2 h1 h2 h3 st
    subst h1; subst h2; subst h3
    exact Or.inl ⟨v, (T.setVm vm₁).calling g' mk (Value.ref b :: As).toArray, t, U', L, hT, X', hL, e1, e2, hq, st⟩
  · dsimp only [Pt.U, Pt.locs, Pt.cells, Pt.slots] at X' e1 e2 h1 h2 h3 st hcl
    subst h1; subst h2; subst h3
    exact Or.inr ⟨q, (T.setVm vm₁).calling g' mk (Value.ref b :: As).toArray, t, U', L, E, ce, hT, X', hL, e1, e2, hq, hce, hcv, vx_cls hW₁ hcl, st⟩
theorem vx_runSX {hh : List (Nat × Nat × Nat × Nat)} (S : CallFix p m c cc nL s args Ts own) (hM : vx_Met l y ws rm Pc Qc XC mc ms free) (cw : vx_CSW R s args own index y bytes maxL ret hh ws rm mc ms n) (hp : PreS s H Pc As)
    (hg : g.method = m) (hn : As.length = n) (hsize : g.locals.size = nL) (hstack : g.stack = As.reverse ++ rest) (hW : 2 * g.monitorRoom + (rest.map fun v => v.category).sum ≤ 8) (hdg : decode cc g.pc = .ok (.invokestatic index, 3)) (hf : cells + mc ≤ R.cells ∧ slots + ms ≤ R.slots) :
    vx_Run p l e R s m args below meth c H locs cells slots mc ms g rest (Qc As.toArray) XC free := by
  obtain ⟨⟨hrc, hrs, hfr, hlo, hws, hcw⟩, hcode, hini, hy, hlen, hl, hstt⟩ := cw
  have hK : vx_Back l R p e below s args y 3 8 (PreOf R mc ms Pc) (PostOf Qc mc ms free) (vx_Post XC mc ms free) := vx_backW (hh := hh) (bytes := bytes) (maxL := maxL) (ret := ret) hM hp.1 hrc hrs hfr hlo hws hcw (fun a' U hW => word_at hW (Or.inl (by first | rfl | simp [Cond.onTables, Cond.keeps, Cond.steady])) hini)
  obtain ⟨hx, hb, hml, ho, -⟩ := S
  intro T hT X
  rcases vx_callSX X hx (hh := hh) (bytes := bytes) (maxL := maxL) (ret := ret) ho hl hstt hini hcode hy hK hg (hsize.trans hml.symm) (argsL := As) (rest := rest) (fun sig h => hn.trans (hlen sig h)) hstack hW (by rw [hb]; exact hdg)
    (fun vm₁ hW₁ => ⟨hf.1, hf.2, hp.2 (T.setVm vm₁) hT hW₁⟩) with ⟨v, vm₁, ⟨U', l2, c2, s2⟩, hW₁, X', ⟨g', mk, t, L, e1, e2, hq, h1, hL, h2, h3⟩, st⟩ | ⟨q, vm₁, ⟨U', l2, c2, s2⟩, hW₁, X', ⟨g', mk, t, L, E, ce, e1, e2, hq, hce, hcv, hcl, h1, hL, h2, h3⟩, st⟩
  · dsimp only [Pt.U, Pt.locs, Pt.cells, Pt.slots] at X' e1 e2 h1 h2 h3 st
    subst h1; subst h2; subst h3
    exact Or.inl ⟨v, (T.setVm vm₁).calling g' mk As.toArray, t, U', L, hT, X', hL, e1, e2, hq, st⟩
  · dsimp only [Pt.U, Pt.locs, Pt.cells, Pt.slots] at X' e1 e2 h1 h2 h3 st hcl
    subst h1; subst h2; subst h3
    exact Or.inr ⟨q, (T.setVm vm₁).calling g' mk As.toArray, t, U', L, E, ce, hT, X', hL, e1, e2, hq, hce, hcv, vx_cls hW₁ hcl, st⟩
end
end VXH
theorem vx_ofWH {l : Launch} {y : MethodName} {ws ws' : List Cond} {rm : Room} {Pc : Array Value → State → Prop} {Qc : Array Value → State → Outcome → State → Prop} {XC : String → State → State → Prop} {mc ms : Nat} {free : Addr → Prop} {cc : ByteArray} {maxL : Nat} {ret : Option FieldType} {hh : List (Nat × Nat × Nat × Nat)}
    (hy : plainName y.cls = true) (hw : ws = Cond.codeWith y cc maxL ret hh :: ws')
    (body : ∀ p e s m args below meth c s₁, BodyLoose p l y (headSpec ws rm) cc maxL ret e s m args below meth c s₁ → c.maxLocals = maxL → Pc args s →
      W p l e (headSpec ws rm).room s m args below meth c s.heap [] 0 0 (vx_MQ below Qc XC args s mc ms free) (entryFrame m args maxL)) : vx_Met l y ws rm Pc Qc XC mc ms free := by
  refine MetFree.of_bodyS (code := cc) (maxLocals := maxL) (ret := ret) hy ?_ ?_
  · intro args s m h hn
    obtain ⟨m9, meth, c, hn9, h1, h2, h3, h4, -, h5, h6, -⟩ := Cond.codeWith_spec (atoms_spec (ws := ws) h _ (by rw [hw]; exact List.mem_cons_self))
    cases hn.symm.trans hn9
    exact ⟨meth, c, h1, h2, h3, h4, h5, h6⟩
  · intro p e s m args below meth c s₁ B hml hP _
    have hh0 : s₁.heap = s.heap := by rw [B.state]; rfl
    obtain ⟨t, a1, o, b1, b2, b3⟩ := body p e s m args below meth c s₁ B hml hP s₁ hh0 (Stand.of_body B)
    exact ⟨t, o, a1, b1, b2, b3⟩
/-! ===== END ===== -/
/-! ===== BEGIN what the machine throws by itself, no traces kept ===== -/
section VXM
set_option maxHeartbeats 1000000 in
/-- the machine throws cls with the message text, no traces kept: from its note over the frame g to 'throwing' over the same frame (follows the proofs of Stand.vmThrowsMessage, Shelf/KitTracedVmS.lean, and Stand.throwsMessageColdBareV, StandMessageColdV.lean, without the step out of the frame) -/
theorem vx_vmAt {p : Program} {l : Launch} {e : Env} {R : Room} {s : State} {m₀ : MethodId} {args : Array Value} {below : List Frame} {meth : Method} {c : Code} {W : State} {locs : List Loc} {cells slots : Nat}
    (X : Stand p l e R s m₀ args below meth c W locs cells slots) (hexec : p.tables.exec = Jvm.exec) (htr : e.platform.stackTraces = false) {cls : String} {names : List String} {text : String}
    (hcls : Bundle.fit cls = true) (hnames : ∀ n ∈ names, Bundle.fit n = true) (hsoe : (cls == "java/lang/StackOverflowError") = false) (hoom : (cls == "java/lang/OutOfMemoryError") = false)
    (h : ∀ a ∈ Bundle.messageArmAtoms cls names, a.before args s = true)
    (hlocs : ∀ x ∈ locs, ∀ cell, s.heap[x.base]? = some cell → cell.vm.isStatics = false)
    (htext : (text == notModelled) = false) (hlimit : ¬ (stringBytes (stringToUtf16 text)).size > e.platform.arrayLengthLimit) (hheap : ¬ (stringBytes (stringToUtf16 text)).size * componentBytes .byte > e.platform.maxHeapBytes)
    {g : JFrame} (hg : g.method = m₀) (hsize : g.locals.size = c.maxLocals)
    (hRframes : names.length + 4 < R.frames) (hRlocals : 2 * g.monitorRoom + (g.stack.map fun v => v.category).sum + 10240 ≤ R.locals) (hshort : 13 * names.length + 55 ≤ 10240)
    (hRcells : cells + 3 ≤ R.cells) (hRslots : slots + ((stringBytes (stringToUtf16 text)).size + 4 + 6) ≤ R.slots) (hlocks : meth.locks = false) :
    ∃ (S : State) (q : Addr) (ce : Cell), (∀ target, Steps p.tables e below ((S.setTop g).pushFrame (.throwing q)) target → Steps p.tables e below ((W.setTop g).pushFrame (.throwNew cls (some text) none)) target) ∧
      Stand p l e R s m₀ args below meth c S locs (cells + 3) (slots + ((stringBytes (stringToUtf16 text)).size + 4 + 6)) ∧ S.heap[q]? = some ce ∧ s.vm.findClass cls = some ce.cls ∧ ce.vm = .none := by
  have howns : e.platform.frameOwnsMonitors = true := by rw [X.admits.platform]
  have hfin : e.platform.finalization = false := by rw [X.admits.platform]
  have hpl : e.platform.magicAccessors = ({} : Platform).magicAccessors := by rw [X.admits.platform]
  have a : ∀ x, x ∈ Bundle.messageArmAtoms cls names → x.holds args s none s [] = true := fun x hx => h x hx
  obtain ⟨T, Z0, L, -, Y⟩ := ThrowableC.of_atoms (args := args) howns hfin hpl (fun x hx => h x (by simp [Bundle.messageArmAtoms, hx]))
  obtain ⟨Z, M, LZ, LM, hnZ⟩ := Init0T.ofS_atoms (args := args) hpl L Y (fun x hx => h x (by simp [Bundle.messageArmAtoms, hx]))
  obtain ⟨P1, Ps, hlen, L1, hL, hP1m, hlink1, hlink⟩ := Bundle.chainS (args := args) hpl hnZ names cls hcls hnames (fun x hx => h x (by simp [Bundle.messageArmAtoms, hx]))
  obtain ⟨Zs, LZs, hn4, hfitv, hfitc⟩ := StringT.of_atoms (args := args) (fun x hx => h x (by simp [Bundle.messageArmAtoms, hx]))
  have hfound : s.vm.findClass cls = some P1.m.cls := findClass_of_methodNamed hP1m
  obtain ⟨c1, kX, hc1, hk, hord, -, -, hn6⟩ := Cond.instantiable_spec (a (.instantiable cls 6) (by simp [Bundle.messageArmAtoms]))
  cases Option.some.inj (hc1.symm.trans hfound)
  have hinit := Cond.initialized_spec hfound hk (a (.initialized cls) (by simp [Bundle.messageArmAtoms]))
  have hctor : kX.findMethod "<init>" "(Ljava/lang/String;)V" = some P1.m.idx := findMethod_of_methodNamed hP1m hk
  have hsel0 : selectMethod e.platform s.vm P1.m.cls T.fill0 = .method T.fill0 := by
    obtain ⟨c2, r2, m2, q1, q2, q3, q4, -⟩ := Cond.selects_spec (a (.selects cls Bundle.tFill0 Bundle.tFill0) (by simp [Bundle.messageArmAtoms]))
    cases Option.some.inj (q1.symm.trans hfound)
    cases Option.some.inj (q2.symm.trans (State.methodFound?_of_named Y.fill0 (by decide)))
    cases Option.some.inj (q3.symm.trans Y.fill0)
    rw [Launch.admits_selectMethod X.admits]; exact q4
  have hselF : selectMethod e.platform s.vm P1.m.cls T.fill = .method T.fill := by
    obtain ⟨c2, r2, m2, q1, q2, q3, q4, -⟩ := Cond.selects_spec (a (.selects cls Bundle.tFill Bundle.tFill) (by simp [Bundle.messageArmAtoms]))
    cases Option.some.inj (q1.symm.trans hfound)
    cases Option.some.inj (q2.symm.trans (State.methodFound?_of_named Y.fill (by decide)))
    cases Option.some.inj (q3.symm.trans Y.fill)
    rw [Launch.admits_selectMethod X.admits]; exact q4
  obtain ⟨cellS0, hcS0, hiss⟩ := Y.statics
  obtain ⟨u0, hu0⟩ := Cond.staticRefV Y.unassigned L.unassignedStatic L.statics hcS0 hiss (a (.isRef (.static Bundle.tN "UNASSIGNED_STACK" Bundle.steD)) (by simp [Bundle.messageArmAtoms]))
  obtain ⟨sen, hsen⟩ := Cond.staticRefV Y.sentinel L.sentinelStatic L.statics hcS0 hiss (a (.isRef (.static Bundle.tN "SUPPRESSED_SENTINEL" Bundle.listD)) (by simp [Bundle.messageArmAtoms]))
  obtain ⟨ci198, i198, fB, hk198, hg198, ha198, hsB, -, hnB, htB, hffB⟩ := Cond.ownField (t := .object "java/lang/Object") Y.found L.cls (by decide +kernel) (a (.fieldLink Bundle.tN 198 Bundle.tN "backtrace" "Ljava/lang/Object;") (by simp [Bundle.messageArmAtoms])) (a (.lays Bundle.tN Bundle.tN "backtrace" "Ljava/lang/Object;") (by simp [Bundle.messageArmAtoms])) e.platform hpl
  obtain ⟨cellS, hcS', heS, -, hkeep⟩ := X.same.2.2.2.2.2 T.aS cellS0 hcS0
  have hcellS : W.heap[T.aS]? = some cellS := hcS'
  have hout' : ∀ i, (⟨T.aS, i⟩ : Loc) ∉ locs := fun i hmem => by
    have := hlocs _ hmem cellS0 hcS0
    rw [hiss] at this; cases this
  have hknownS : cellS.vm ≠ .unknown := by
    rw [heS]; intro hu
    rw [show cellS0.vm = .unknown from hu] at hiss
    cases hiss
  have hvU : cellS.slots[T.fUnassigned.slot]? = some u0.v := by rw [hkeep _ (hout' _)]; exact hu0
  have hvSen : cellS.slots[T.fSentinel.slot]? = some sen.v := by rw [hkeep _ (hout' _)]; exact hsen
  obtain ⟨iM, hffM⟩ := Y.msg
  obtain ⟨tyC, dC, hdC, hdnC⟩ := Cond.laysAt hfound hk Y.cause (a (.lays cls Bundle.tN "cause" "Ljava/lang/Throwable;") (by simp [Bundle.messageArmAtoms]))
  obtain ⟨tyS, dS, hdS, hdnS⟩ := Cond.laysAt hfound hk Y.stack (a (.lays cls Bundle.tN "stackTrace" Bundle.steD) (by simp [Bundle.messageArmAtoms]))
  obtain ⟨tyP, dP, hdP, hdnP⟩ := Cond.laysAt hfound hk Y.supp (a (.lays cls Bundle.tN "suppressedExceptions" Bundle.listD) (by simp [Bundle.messageArmAtoms]))
  obtain ⟨tyM, dM, hdM, hdnM⟩ := Cond.laysAt hfound hk hffM (a (.lays cls Bundle.tN "detailMessage" "Ljava/lang/String;") (by simp [Bundle.messageArmAtoms]))
  obtain ⟨tyB, dB, hdB, hdnB⟩ := Cond.laysAt hfound hk hffB (a (.lays cls Bundle.tN "backtrace" "Ljava/lang/Object;") (by simp [Bundle.messageArmAtoms]))
  have bC := Cond.laysApart hdB hdC hdnB hdnC (by rw [hnB, Y.causeName]; decide)
  have bS := Cond.laysApart hdB hdS hdnB hdnS (by rw [hnB, Y.stackName]; decide)
  have bP := Cond.laysApart hdB hdP hdnB hdnP (by rw [hnB, Y.suppName]; decide)
  have hbk : ((preparedCellV T.toThrowableT (freshCell P1.m.cls kX) (W.heap.size + 2) u0 sen).withEntry W.cur).slots[fB.slot]? = some .null := by
    have := fresh_default (c := P1.m.cls) tyB
    rw [htB] at this
    simpa [preparedCellV, Cell.setSlot, Cell.withEntry, Array.getElem?_setIfInBounds, bC, bS, bP, bC.symm, bS.symm, bP.symm, defaultValue] using this
  have tkC := Takes.of_laid (v := .ref (W.heap.size + 2)) hk hord tyC (by rw [Y.causeType]; rfl)
  have tkS := Takes.of_laid (v := u0.v) hk hord tyS (by rw [Y.stackType]; exact fits_refV_array _ u0)
  have tkP := Takes.of_laid (v := sen.v) hk hord tyP (by rw [Y.suppType]; exact fits_refV_object _ sen)
  have tkM := Takes.of_laid (v := .ref (W.heap.size + 1)) hk hord tyM (by rw [Y.msgType]; rfl)
  have hskip : SkipFacts T e.platform s (fun u => u) u0 ((preparedCellV T.toThrowableT (freshCell P1.m.cls kX) (W.heap.size + 2) u0 sen).withEntry W.cur) := ⟨{ ci198 := ci198, i198 := i198, fBack := fB }, ⟨hk198, hg198, ha198, hsB⟩, hbk, fun _ _ => rfl⟩
  have h0 : At W g.method c below := by rw [hg]; exact X.here
  obtain ⟨hbeyond, hfreeW⟩ := X.vmMayThrow hsize (.throwNew cls (some text) none) (fun f hf => by cases hf) rfl hRlocals
  have hfr' : W.frames.length + Ps.length + 4 < (e.platform.stackLimits W.me).1 := by have := X.framesAbove hRframes; omega
  have hwd' : (stackUse (.java g :: W.frames.tail)).2 + 13 * Ps.length + 55 ≤ (e.platform.stackLimits W.me).2 := by have := X.stackAbove hsize (K := 13 * Ps.length + 55) (by omega); omega
  have hslots : W.slotsUsed + (stringBytes (stringToUtf16 text)).size + Zs.kS.instanceTypes.size + kX.instanceTypes.size ≤ e.platform.maxSlots := by
    have := X.slotsAbove hRslots
    rw [hn4, hn6]
    omega
  obtain ⟨vm', hW', st⟩ := Steps.vmThrowsMessageColdByV p (s₀ := s) (S := W) (g := g) h0 hexec T L Z LZ M LM X.warmed (t := W.cur) rfl Zs LZs P1 L1 Ps hL hlink1 hlink hsoe hoom hfound hk hinit hord hctor
    (Launch.admits_hotImplicitExceptions X.admits) hbeyond hfreeW htext hlimit hheap (X.cellsAbove hRcells) hslots (hfitv _) (hfitc _)
    (Nn := fun u => u) heapOnly_id (fun _ _ => rfl) (fun _ => rfl) (fun u x y => setCell_twice _ _ _ _) (fun _ => Nat.le_refl _) (cN := ((preparedCellV T.toThrowableT (freshCell P1.m.cls kX) (W.heap.size + 2) u0 sen).withEntry W.cur))
    hsel0 hcellS hknownS hvU tkS (fun _ hu => hu) (fun _ hu => hu) rfl rfl rfl (by simp [preparedCellV, Cell.setSlot, Cell.withEntry]) hskip (fun _ _ hA hW _ hroom _ hrest => L.nativeOff p htr hA hW hroom hrest) hselF hvSen tkC tkP tkM Y.objLocals rfl hfr' hwd'
  rw [plainBareV_eq T.toThrowableT (W.heap.size + 2) u0 sen (.ref (W.heap.size + 1)) W.cur rfl rfl] at st
  obtain ⟨-, -, w3, w4, -, -, -⟩ := withThrown_facts e.platform W Zs text P1.m.cls kX
  have X3 := ((X.pushed (bytesOf Zs.cB (stringToUtf16 text))).pushed (stringAt Zs.cS Zs.kS Zs.fv Zs.fc (stringToUtf16 text) W.heap.size)).pushed (freshCell P1.m.cls kX)
  rw [← withString_eq] at X3
  have X4 := X3.noted hW'
  have ha : (W.heap.size + 2) < ((withThrown W Zs text P1.m.cls kX).setVm vm').heap.size := by show _ < (withThrown W Zs text P1.m.cls kX).heap.size; rw [w3]; omega
  have hcell : ((withThrown W Zs text P1.m.cls kX).setVm vm').heap[(W.heap.size + 2)]? = some (freshCell P1.m.cls kX) := w4
  have X5 := ((((X4.stored hcell T.fCause.slot (.ref (W.heap.size + 2))).storedAgain ha T.fStack.slot u0.v).storedAgain ha T.fSupp.slot sen.v).storedAgain ha T.fStack.slot u0.v).storedAgain ha T.fMsg.slot (.ref (W.heap.size + 1))
  obtain ⟨g₁, hfrM⟩ := X5.frames_eq
  have hU : ((((withThrown W Zs text P1.m.cls kX).setVm vm').setCell (W.heap.size + 2) (plainBareV T.toThrowableT (freshCell P1.m.cls kX) (W.heap.size + 2) u0 sen (.ref (W.heap.size + 1)))).setTop g).pushFrame (.throwing (W.heap.size + 2)) = (((withThrown W Zs text P1.m.cls kX).setVm vm').setCell (W.heap.size + 2) (plainBareV T.toThrowableT (freshCell P1.m.cls kX) (W.heap.size + 2) u0 sen (.ref (W.heap.size + 1)))).setFrames (.throwing (W.heap.size + 2) :: .java g :: below) := by
    rw [State.pushFrame, State.frames_setTop _ hfrM, State.setTop_of_frames _ hfrM, State.setFrames_setFrames]
  have b1 : (bytesOf Zs.cB (stringToUtf16 text)).slots.size = (stringBytes (stringToUtf16 text)).size := by
    rw [(Cell.writeAll_facts _ _).2.2]; simp [bytes0]
  have b2 : (stringAt Zs.cS Zs.kS Zs.fv Zs.fc (stringToUtf16 text) W.heap.size).slots.size = 4 := by simp [string0, Cell.setSlot, hn4]
  have b3 : (freshCell P1.m.cls kX).slots.size = 6 := by simp [hn6]
  rw [b1, b2, b3] at X5
  have e9 : slots + (stringBytes (stringToUtf16 text)).size + 4 + 6 = slots + ((stringBytes (stringToUtf16 text)).size + 4 + 6) := by omega
  rw [e9] at X5
  simp only [List.append_assoc, List.cons_append, List.nil_append] at X5
  refine ⟨((withThrown W Zs text P1.m.cls kX).setVm vm').setCell (W.heap.size + 2) (plainBareV T.toThrowableT (freshCell P1.m.cls kX) (W.heap.size + 2) u0 sen (.ref (W.heap.size + 1))), W.heap.size + 2, _, fun target ht => st _ (by rw [X.tail, ← hU]; exact ht),
    X5.forget (fun y hy => ?_), heapAt_setCell_self _ ha, hfound, rfl⟩
  simp only [List.mem_cons, List.not_mem_nil, or_false] at hy
  have hge : s.heap.size ≤ W.heap.size := X.same.2.1
  rcases hy with rfl | rfl | rfl | rfl | rfl <;> exact Nat.le_trans hge (Nat.le_add_right _ 2)
set_option maxHeartbeats 1000000 in
/-- the machine throws NullPointerException, no traces kept: from its note over the frame g to 'throwing' over the same frame (follows the proof of Stand.vmThrowsNpe, Shelf42/KT2.lean; throwsNpeColdBareVAt, Shelf42/NT91.lean, called) -/
theorem vx_npeAt {p : Program} {l : Launch} {e : Env} {R : Room} {s : State} {m₀ : MethodId} {args : Array Value} {below : List Frame} {meth : Method} {c : Code} {W : State} {locs : List Loc} {cells slots : Nat}
    (X : Stand p l e R s m₀ args below meth c W locs cells slots) (hexec : p.tables.exec = Jvm.exec) (htr : e.platform.stackTraces = false) {n : Nat}
    (h : ∀ a ∈ Bundle.npeArmAtoms n, a.before args s = true)
    (hlocs : ∀ x ∈ locs, ∀ cell, s.heap[x.base]? = some cell → cell.vm.isStatics = false)
    {g : JFrame} (hg : g.method = m₀) (hsize : g.locals.size = c.maxLocals)
    (hRframes : 7 < R.frames) (hRlocals : 2 * g.monitorRoom + (g.stack.map fun v => v.category).sum + 10240 ≤ R.locals)
    (hRcells : cells + 1 ≤ R.cells) (hRslots : slots + n ≤ R.slots) (hlocks : meth.locks = false) :
    ∃ (S : State) (q : Addr) (ce : Cell), (∀ target, Steps p.tables e below ((S.setTop g).pushFrame (.throwing q)) target → Steps p.tables e below ((W.setTop g).pushFrame (.throwNew "java/lang/NullPointerException" none none)) target) ∧
      Stand p l e R s m₀ args below meth c S locs (cells + 1) (slots + n) ∧ S.heap[q]? = some ce ∧ s.vm.findClass "java/lang/NullPointerException" = some ce.cls ∧ ce.vm = .none := by
  have howns : e.platform.frameOwnsMonitors = true := by rw [X.admits.platform]
  have hfin : e.platform.finalization = false := by rw [X.admits.platform]
  have hpl : e.platform.magicAccessors = ({} : Platform).magicAccessors := by rw [X.admits.platform]
  have hpl2 : e.platform.arrayCloneIsPublic = true := by rw [X.admits.platform]
  have a' : ∀ x, x ∈ Bundle.npeArmAtoms n → x.holds args s none s [] = true := fun x hx => h x hx
  obtain ⟨T, Z, L, LZ, Y⟩ := ThrowableC.of_atoms (args := args) howns hfin hpl (fun x hx => h x (by simp [Bundle.npeArmAtoms, hx]))
  obtain ⟨N, LN, hcN, hnNF, hordN, hffS⟩ := NpeC.of_atoms (args := args) hpl hpl2 L Y (fun x hx => h x (by simp [Bundle.npeArmAtoms, hx]))
  obtain ⟨P1, L1, hP1m, hP1s⟩ := PassC.of_atoms (args := args) (s := s) hpl (X := Bundle.nN) (Y := Bundle.rN) (by decide) (by decide) LibCode.NullPointerException.Init0.at_0 LibCode.NullPointerException.Init0.at_1 LibCode.NullPointerException.Init0.at_4 (fun x hx => h x (by simp [Bundle.npeArmAtoms, hx]))
  obtain ⟨PR, LR, hPRm, hPRs⟩ := PassC.of_atoms (args := args) (s := s) hpl (X := Bundle.rN) (Y := Bundle.eN) (by decide) (by decide) LibCode.RuntimeException.Init0.at_0 LibCode.RuntimeException.Init0.at_1 LibCode.RuntimeException.Init0.at_4 (fun x hx => h x (by simp [Bundle.npeArmAtoms, hx]))
  obtain ⟨PE, LEx, hPEm, hPEs⟩ := PassC.of_atoms (args := args) (s := s) hpl (X := Bundle.eN) (Y := Bundle.tN) (by decide) (by decide) LibCode.Exception.Init0.at_0 LibCode.Exception.Init0.at_1 LibCode.Exception.Init0.at_4 (fun x hx => h x (by simp [Bundle.npeArmAtoms, hx]))
  have hfound : s.vm.findClass Bundle.nN = some P1.m.cls := findClass_of_methodNamed hP1m
  have ecls : N.cN = P1.m.cls := Option.some.inj (hcN.symm.trans hfound)
  have hk : s.vm.classes[P1.m.cls]? = some N.kN := by rw [← ecls]; exact LN.cls
  have hinit := Cond.initialized_spec hfound hk (a' (.initialized Bundle.nN) (by simp [Bundle.npeArmAtoms]))
  have hctor : N.kN.findMethod "<init>" "()V" = some P1.m.idx := findMethod_of_methodNamed hP1m hk
  obtain ⟨c1, k1, hc1, hk1, -, -, -, hn⟩ := Cond.instantiable_spec (a' (.instantiable Bundle.nN n) (by simp [Bundle.npeArmAtoms]))
  cases Option.some.inj (hc1.symm.trans hfound)
  cases Option.some.inj (hk1.symm.trans hk)
  have hfsz : (freshCell P1.m.cls N.kN).slots.size = n := by simp [hn]
  have hlink1 : P1.sup = PR.m := Option.some.inj (hP1s.symm.trans hPRm)
  have hlinkR : PR.sup = PE.m := Option.some.inj (hPRs.symm.trans hPEm)
  have hlinkE : PE.sup = Z.m T.toThrowableT := Option.some.inj (hPEs.symm.trans Y.init0)
  have hLs : ∀ P, P ∈ [PR, PE] → P.Links0 e.platform s := fun P hP => by
    simp only [List.mem_cons, List.not_mem_nil, or_false] at hP
    rcases hP with rfl | rfl
    · exact LR
    · exact LEx
  have hsel0 : selectMethod e.platform s.vm P1.m.cls T.fill0 = .method T.fill0 := by
    obtain ⟨c2, r2, m2, q1, q2, q3, q4, -⟩ := Cond.selects_spec (a' (.selects Bundle.nN Bundle.tFill0 Bundle.tFill0) (by simp [Bundle.npeArmAtoms]))
    cases Option.some.inj (q1.symm.trans hfound)
    cases Option.some.inj (q2.symm.trans (State.methodFound?_of_named Y.fill0 (by decide)))
    cases Option.some.inj (q3.symm.trans Y.fill0)
    rw [Launch.admits_selectMethod X.admits]; exact q4
  have hselF : selectMethod e.platform s.vm P1.m.cls T.fill = .method N.fill := by
    obtain ⟨c2, r2, m2, q1, q2, q3, q4, -⟩ := Cond.selects_spec (a' (.selects Bundle.nN Bundle.tFill Bundle.nFill) (by simp [Bundle.npeArmAtoms]))
    cases Option.some.inj (q1.symm.trans hfound)
    cases Option.some.inj (q2.symm.trans (State.methodFound?_of_named Y.fill (by decide)))
    cases Option.some.inj (q3.symm.trans hnNF)
    rw [Launch.admits_selectMethod X.admits]; exact q4
  obtain ⟨cellS0, hcS0, hiss⟩ := Y.statics
  obtain ⟨u0, hu0⟩ := Cond.staticRefV Y.unassigned L.unassignedStatic L.statics hcS0 hiss (a' (.isRef (.static Bundle.tN "UNASSIGNED_STACK" Bundle.steD)) (by simp [Bundle.npeArmAtoms]))
  obtain ⟨sen, hsen⟩ := Cond.staticRefV Y.sentinel L.sentinelStatic L.statics hcS0 hiss (a' (.isRef (.static Bundle.tN "SUPPRESSED_SENTINEL" Bundle.listD)) (by simp [Bundle.npeArmAtoms]))
  obtain ⟨ci198, i198, fB, hk198, hg198, ha198, hsB, -, hnB, htB, hffB⟩ := Cond.ownField (t := .object "java/lang/Object") Y.found L.cls (by decide +kernel) (a' (.fieldLink Bundle.tN 198 Bundle.tN "backtrace" Bundle.objD) (by simp [Bundle.npeArmAtoms])) (a' (.lays Bundle.tN Bundle.tN "backtrace" Bundle.objD) (by simp [Bundle.npeArmAtoms])) e.platform hpl
  obtain ⟨cellS, hcS', heS, -, hkeep⟩ := X.same.2.2.2.2.2 T.aS cellS0 hcS0
  have hcellS : W.heap[T.aS]? = some cellS := hcS'
  have hout' : ∀ i, (⟨T.aS, i⟩ : Loc) ∉ locs := fun i hmem => by
    have := hlocs _ hmem cellS0 hcS0
    rw [hiss] at this; cases this
  have hknownS : cellS.vm ≠ .unknown := by
    rw [heS]; intro hu
    rw [show cellS0.vm = .unknown from hu] at hiss
    cases hiss
  have hvU : cellS.slots[T.fUnassigned.slot]? = some u0.v := by rw [hkeep _ (hout' _)]; exact hu0
  have hvSen : cellS.slots[T.fSentinel.slot]? = some sen.v := by rw [hkeep _ (hout' _)]; exact hsen
  obtain ⟨tyC, dC, hdC, hdnC⟩ := Cond.laysAt hfound hk Y.cause (a' (.lays Bundle.nN Bundle.tN "cause" "Ljava/lang/Throwable;") (by simp [Bundle.npeArmAtoms]))
  obtain ⟨tyS, dS, hdS, hdnS⟩ := Cond.laysAt hfound hk Y.stack (a' (.lays Bundle.nN Bundle.tN "stackTrace" Bundle.steD) (by simp [Bundle.npeArmAtoms]))
  obtain ⟨tyP, dP, hdP, hdnP⟩ := Cond.laysAt hfound hk Y.supp (a' (.lays Bundle.nN Bundle.tN "suppressedExceptions" Bundle.listD) (by simp [Bundle.npeArmAtoms]))
  obtain ⟨tyX, dX, hdX, hdnX⟩ := Cond.laysAt hfound hk hffS (a' (.lays Bundle.nN Bundle.nN "extendedMessageState" "I") (by simp [Bundle.npeArmAtoms, Bundle.npeAtoms]))
  obtain ⟨hnX, htX⟩ := State.fieldFound?_type hffS (t := .int) (by decide +kernel)
  have xC := Cond.laysApart hdC hdX hdnC hdnX (by rw [hnX, Y.causeName]; decide)
  have xS := Cond.laysApart hdS hdX hdnS hdnX (by rw [hnX, Y.stackName]; decide)
  have xP := Cond.laysApart hdP hdX hdnP hdnX (by rw [hnX, Y.suppName]; decide)
  have hv0 : (freshCell P1.m.cls N.kN).slots[N.fState.slot]? = some (.int 0) := by
    have := fresh_default (c := P1.m.cls) tyX
    rw [htX] at this; exact this
  obtain ⟨tyB, dB, hdB, hdnB⟩ := Cond.laysAt hfound hk hffB (a' (.lays Bundle.nN Bundle.tN "backtrace" Bundle.objD) (by simp [Bundle.npeArmAtoms]))
  have bC := Cond.laysApart hdB hdC hdnB hdnC (by rw [hnB, Y.causeName]; decide)
  have bS := Cond.laysApart hdB hdS hdnB hdnS (by rw [hnB, Y.stackName]; decide)
  have bP := Cond.laysApart hdB hdP hdnB hdnP (by rw [hnB, Y.suppName]; decide)
  have bX := Cond.laysApart hdB hdX hdnB hdnX (by rw [hnB, hnX]; decide)
  have hbk : ((npeCell N.toNpeT (preparedCellV T.toThrowableT (freshCell P1.m.cls N.kN) W.heap.size u0 sen) W.cur).withEntry W.cur).slots[fB.slot]? = some .null := by
    have := fresh_default (c := P1.m.cls) tyB
    rw [htB] at this
    simpa [npeCell, preparedCellV, Cell.setSlot, Cell.withEntry, Array.getElem?_setIfInBounds, bC, bS, bP, bX, bC.symm, bS.symm, bP.symm, bX.symm, defaultValue] using this
  have tkC := Takes.of_laid (v := .ref W.heap.size) hk hordN tyC (by rw [Y.causeType]; rfl)
  have tkS := Takes.of_laid (v := u0.v) hk hordN tyS (by rw [Y.stackType]; exact fits_refV_array _ u0)
  have tkP := Takes.of_laid (v := sen.v) hk hordN tyP (by rw [Y.suppType]; exact fits_refV_object _ sen)
  have tkX := Takes.of_laid (v := .int 1) hk hordN tyX (by rw [htX]; rfl)
  have hskip : SkipFacts T e.platform s (fun u => u) u0 ((npeCell N.toNpeT (preparedCellV T.toThrowableT (freshCell P1.m.cls N.kN) W.heap.size u0 sen) W.cur).withEntry W.cur) := ⟨{ ci198 := ci198, i198 := i198, fBack := fB }, ⟨hk198, hg198, ha198, hsB⟩, hbk, fun _ _ => rfl⟩
  obtain ⟨vm', X3, st, -⟩ := X.throwsNpeColdBareVAt hexec hg hsize T L Z LZ N LN P1 L1 [PR, PE] hLs hlink1 ⟨hlinkR, hlinkE, trivial⟩ hfound hk hinit hordN hctor hsel0 hselF hcellS hknownS hvU hvSen
    hv0 xC xS xP tkC tkS tkP tkX Y.objLocals hskip (fun _ _ hA hW _ hroom _ hrest => L.nativeOff p htr hA hW hroom hrest) (by simpa using hRframes) hRlocals (by simp) hRcells (by rw [hn]; exact hRslots)
  have hlt : W.heap.size < ((W.pushCell (freshCell P1.m.cls N.kN)).setVm vm').heap.size := by
    show W.heap.size < (W.pushCell (freshCell P1.m.cls N.kN)).heap.size
    rw [State.heap_size_pushCell]; omega
  rw [hfsz] at X3
  obtain ⟨g₁, hfrM⟩ := X3.frames_eq
  have hU : ((((W.pushCell (freshCell P1.m.cls N.kN)).setVm vm').setCell W.heap.size (npeBareV T.toThrowableT N.toNpeT (freshCell P1.m.cls N.kN) W.heap.size u0 sen)).setTop g).pushFrame (.throwing W.heap.size) = (((W.pushCell (freshCell P1.m.cls N.kN)).setVm vm').setCell W.heap.size (npeBareV T.toThrowableT N.toNpeT (freshCell P1.m.cls N.kN) W.heap.size u0 sen)).setFrames (.throwing W.heap.size :: .java g :: below) := by
    rw [State.pushFrame, State.frames_setTop _ hfrM, State.setTop_of_frames _ hfrM, State.setFrames_setFrames]
  refine ⟨_, W.heap.size, _, fun target ht => st.trans (by rw [← hU]; exact ht), X3.forget (fun y hy => ?_), heapAt_setCell_self _ hlt, hfound, rfl⟩
  simp only [List.mem_cons, List.not_mem_nil, or_false] at hy
  have hge : s.heap.size ≤ W.heap.size := X.same.2.1
  rcases hy with rfl | rfl | rfl | rfl | rfl <;> exact hge
/-- the words of a machine's NullPointerException, but the four that speak of the heap -/
def vx_atN (n : Nat) : List Cond := (Bundle.npeArmAtoms n).filter vx_no
/-- the words of a machine's throw with a message, but the four that speak of the heap -/
def vx_atM (X : String) (names : List String) : List Cond := (Bundle.messageArmAtoms X names).filter vx_no
section
variable {p : Program} {l : Launch} {e : Env} {R : Room} {s : State} {m : MethodId} {args : Array Value} {below : List Frame} {meth : Method} {c : Code} {H : Heap} {locs : List Loc} {cells slots : Nat}
/-- a frame seen from a rebased start, seen from the first start again -/
theorem vx_back9 {T S : State} {R' : Room} {k n : Nat} (X : Stand p l e R s m args below meth c T locs cells slots) (Y : Stand p l e R' ((T.setVm s.vm).setFrames (.invoking m args :: below)) m args below meth c T [] 0 0) (Z : Stand p l e R' ((T.setVm s.vm).setFrames (.invoking m args :: below)) m args below meth c S [] k n) :
    Stand p l e R s m args below meth c S locs (cells + k) (slots + n) := by
  have hW0 : s.WarmedH ((T.setVm s.vm).setFrames (.invoking m args :: below)).vm := State.WarmedH.refl s
  refine { admits := X.admits, cas := X.cas, clock := X.clock, frames := X.frames, room := X.room, hears := X.hears, method := X.method, code := X.code, here := Z.here, tail := Z.tail, warmed := State.WarmedH.trans hW0 Z.warmed, limits := Z.limits.trans (Y.limits.symm.trans X.limits), bytes := Z.bytes.trans (Y.bytes.symm.trans X.bytes), same := ?_ }
  obtain ⟨e1, e2⟩ := Z.same
  rw [State.setFrames_setFrames] at e1
  have h2 : (T.setVm s.vm).sameButNew (S.setVm s.vm) [] k n := ⟨e1, e2⟩
  have h3 := X.same.trans h2
  rw [List.append_nil] at h3
  exact h3
/-- from the machine's note that E is thrown here with this text -/
def vx_Note (p : Program) (l : Launch) (e : Env) (R : Room) (s : State) (m : MethodId) (args : Array Value) (below : List Frame) (meth : Method) (c : Code) (H : Heap) (locs : List Loc) (cells slots : Nat) (Q : State → Prop) (g : JFrame) (E text : String) : Prop :=
  ∀ T : State, T.heap = H → Stand p l e R s m args below meth c T locs cells slots → ∃ t, Steps p.tables e below ((T.setTop g).pushFrame (.throwNew E (some text) none)) t ∧ Q t
theorem vx_vm {pc : Nat} {ls : Array Slot} {rest : List Value} {Q : State → Prop} (hexec : p.tables.exec = Jvm.exec) (hl : l.stackTraces = false) {cls text : String} {names : List String} {nb : Nat} {A : Nat → Prop}
    (hcls : Bundle.fit cls = true) (hnames : ∀ n ∈ names, Bundle.fit n = true) (hsoe : (cls == "java/lang/StackOverflowError") = false) (hoom : (cls == "java/lang/OutOfMemoryError") = false)
    (hat : ∀ w ∈ vx_atM cls names, w.before args s = true) (hgood : ∀ w ∈ vx_atM cls names, vx_ot w = true)
    (hU : vx_Zq Bundle.tN "UNASSIGNED_STACK" Bundle.steD A s s.heap) (hN : vx_Zq Bundle.tN "SUPPRESSED_SENTINEL" Bundle.listD A s s.heap) (hS : va_S A s.heap H locs) (hsize : ls.size = c.maxLocals)
    (htext : (text == notModelled) = false) (hnb : (stringBytes (stringToUtf16 text)).size ≤ nb) (hnb1 : nb ≤ 1000)
    (hRframes : names.length + 4 < R.frames) (hRlocals : (rest.map fun v => v.category).sum + 10240 ≤ R.locals) (hshort : 13 * names.length + 55 ≤ 10240) (hRcells : cells + 3 ≤ R.cells) (hRslots : slots + (nb + 10) ≤ R.slots) (hlocks : meth.locks = false)
    (k : ∀ (H1 : Heap) (q9 : Addr) (ce : Cell), H.size ≤ H1.size → (∀ q : Nat, q < H.size → H1[q]? = H[q]?) → va_S A s.heap H1 locs → H1[q9]? = some ce → ce.vm = .none → s.vm.findClass cls = some ce.cls → vx_W p l e R s m args below meth c H1 locs (cells + 3) (slots + (nb + 10)) Q (F0 m pc ls rest) q9) :
    vx_Note p l e R s m args below meth c H locs cells slots Q (F0 m pc ls rest) cls text := by
  intro T hT X
  have htr : e.platform.stackTraces = false := (show e.platform.stackTraces = l.stackTraces by rw [X.admits.platform]).trans hl
  have Y := vx_rebase X (R' := { frames := R.frames, locals := R.locals, cells := 3, slots := nb + 10 }) (Nat.le_refl _) (Nat.le_refl _) hRcells hRslots
  have hhp : ((T.setVm s.vm).setFrames (.invoking m args :: below)).heap = H := hT
  have hW0 : s.WarmedH ((T.setVm s.vm).setFrames (.invoking m args :: below)).vm := State.WarmedH.refl s
  have hat' : ∀ w ∈ vx_atM cls names, w.before args ((T.setVm s.vm).setFrames (.invoking m args :: below)) = true := fun w hw => vx_ot_at hW0 rfl (hgood w hw) (hat w hw)
  have hU' : vx_Zq Bundle.tN "UNASSIGNED_STACK" Bundle.steD A ((T.setVm s.vm).setFrames (.invoking m args :: below)) ((T.setVm s.vm).setFrames (.invoking m args :: below)).heap := by rw [hhp]; exact vx_Zq.moved hW0.alike (hU.kept hS.2.1)
  have hN' : vx_Zq Bundle.tN "SUPPRESSED_SENTINEL" Bundle.listD A ((T.setVm s.vm).setFrames (.invoking m args :: below)) ((T.setVm s.vm).setFrames (.invoking m args :: below)).heap := by rw [hhp]; exact vx_Zq.moved hW0.alike (hN.kept hS.2.1)
  obtain ⟨S, q, ce, st, Z, hce, hcl', hv⟩ := vx_vmAt Y hexec htr (cls := cls) (names := names) (text := text) hcls hnames hsoe hoom (vx_own hat' (vx_isRefq hU'.1) (vx_isRefq hN'.1) hU'.2.word hN'.2.word) (fun x hx => nomatch hx) htext
    (by rw [Launch.admits_arrayLengthLimit X.admits]; omega) (by rw [Launch.admits_maxHeapBytes X.admits]; simp only [componentBytes]; omega)
    (g := F0 m pc ls rest) rfl hsize hRframes (by show 2 * 0 + (rest.map fun v => v.category).sum + 10240 ≤ R.locals; omega) hshort (by show 0 + 3 ≤ 3; omega) (by show 0 + (_ + 4 + 6) ≤ nb + 10; omega) hlocks
  obtain ⟨f1, f2⟩ := vx_frame Z.same
  have f1' : H.size ≤ S.heap.size := by rw [← hT]; exact f1
  have f2' : ∀ q : Nat, q < H.size → S.heap[q]? = H[q]? := fun q hq => by
    rw [← hT]
    exact f2 q (by rw [← hT] at hq; exact hq) (fun z hz => nomatch hz)
  have X5 := vx_back9 X Y Z
  have X6 : Stand p l e R s m args below meth c S locs (cells + 3) (slots + (nb + 10)) := { X5 with same := X5.same.mono (by omega) (by omega) }
  obtain ⟨t, a1, b1⟩ := k S.heap q ce f1' f2' ⟨Nat.le_trans hS.1 f1', fun q h1 h2 => (f2' q (Nat.lt_of_lt_of_le h1 hS.1)).trans (hS.2.1 q h1 h2), hS.2.2⟩ hce hv hcl' S rfl X6
  exact ⟨t, st t a1, b1⟩
/-- from the machine's note that NullPointerException is thrown here -/
def vx_NoteN (p : Program) (l : Launch) (e : Env) (R : Room) (s : State) (m : MethodId) (args : Array Value) (below : List Frame) (meth : Method) (c : Code) (H : Heap) (locs : List Loc) (cells slots : Nat) (Q : State → Prop) (g : JFrame) : Prop :=
  ∀ T : State, T.heap = H → Stand p l e R s m args below meth c T locs cells slots → ∃ t, Steps p.tables e below ((T.setTop g).pushFrame (.throwNew "java/lang/NullPointerException" none none)) t ∧ Q t
theorem vx_npe {pc : Nat} {ls : Array Slot} {rest : List Value} {Q : State → Prop} (hexec : p.tables.exec = Jvm.exec) (hl : l.stackTraces = false) {nb : Nat} {A : Nat → Prop}
    (hat : ∀ w ∈ vx_atN nb, w.before args s = true) (hgood : ∀ w ∈ vx_atN nb, vx_ot w = true)
    (hU : vx_Zq Bundle.tN "UNASSIGNED_STACK" Bundle.steD A s s.heap) (hN : vx_Zq Bundle.tN "SUPPRESSED_SENTINEL" Bundle.listD A s s.heap) (hS : va_S A s.heap H locs) (hsize : ls.size = c.maxLocals)
    (hRframes : 7 < R.frames) (hRlocals : (rest.map fun v => v.category).sum + 10240 ≤ R.locals) (hRcells : cells + 1 ≤ R.cells) (hRslots : slots + nb ≤ R.slots) (hlocks : meth.locks = false)
    (k : ∀ (H1 : Heap) (q9 : Addr) (ce : Cell), H.size ≤ H1.size → (∀ q : Nat, q < H.size → H1[q]? = H[q]?) → va_S A s.heap H1 locs → H1[q9]? = some ce → ce.vm = .none → s.vm.findClass "java/lang/NullPointerException" = some ce.cls → vx_W p l e R s m args below meth c H1 locs (cells + 1) (slots + nb) Q (F0 m pc ls rest) q9) :
    vx_NoteN p l e R s m args below meth c H locs cells slots Q (F0 m pc ls rest) := by
  intro T hT X
  have htr : e.platform.stackTraces = false := (show e.platform.stackTraces = l.stackTraces by rw [X.admits.platform]).trans hl
  have Y := vx_rebase X (R' := { frames := R.frames, locals := R.locals, cells := 1, slots := nb }) (Nat.le_refl _) (Nat.le_refl _) hRcells hRslots
  have hhp : ((T.setVm s.vm).setFrames (.invoking m args :: below)).heap = H := hT
  have hW0 : s.WarmedH ((T.setVm s.vm).setFrames (.invoking m args :: below)).vm := State.WarmedH.refl s
  have hat' : ∀ w ∈ vx_atN nb, w.before args ((T.setVm s.vm).setFrames (.invoking m args :: below)) = true := fun w hw => vx_ot_at hW0 rfl (hgood w hw) (hat w hw)
  have hU' : vx_Zq Bundle.tN "UNASSIGNED_STACK" Bundle.steD A ((T.setVm s.vm).setFrames (.invoking m args :: below)) ((T.setVm s.vm).setFrames (.invoking m args :: below)).heap := by rw [hhp]; exact vx_Zq.moved hW0.alike (hU.kept hS.2.1)
  have hN' : vx_Zq Bundle.tN "SUPPRESSED_SENTINEL" Bundle.listD A ((T.setVm s.vm).setFrames (.invoking m args :: below)) ((T.setVm s.vm).setFrames (.invoking m args :: below)).heap := by rw [hhp]; exact vx_Zq.moved hW0.alike (hN.kept hS.2.1)
  obtain ⟨S, q, ce, st, Z, hce, hcl', hv⟩ := vx_npeAt Y hexec htr (n := nb) (vx_own hat' (vx_isRefq hU'.1) (vx_isRefq hN'.1) hU'.2.word hN'.2.word) (fun x hx => nomatch hx)
    (g := F0 m pc ls rest) rfl hsize hRframes (by show 2 * 0 + (rest.map fun v => v.category).sum + 10240 ≤ R.locals; omega) (by show 0 + 1 ≤ 1; omega) (by show 0 + nb ≤ nb; omega) hlocks
  obtain ⟨f1, f2⟩ := vx_frame Z.same
  have f1' : H.size ≤ S.heap.size := by rw [← hT]; exact f1
  have f2' : ∀ q : Nat, q < H.size → S.heap[q]? = H[q]? := fun q hq => by
    rw [← hT]
    exact f2 q (by rw [← hT] at hq; exact hq) (fun z hz => nomatch hz)
  have X5 := vx_back9 X Y Z
  have X6 : Stand p l e R s m args below meth c S locs (cells + 1) (slots + nb) := { X5 with same := X5.same.mono (by omega) (by omega) }
  obtain ⟨t, a1, b1⟩ := k S.heap q ce f1' f2' ⟨Nat.le_trans hS.1 f1', fun q h1 h2 => (f2' q (Nat.lt_of_lt_of_le h1 hS.1)).trans (hS.2.1 q h1 h2), hS.2.2⟩ hce hv hcl' S rfl X6
  exact ⟨t, st t a1, b1⟩
variable {Q : State → Prop} {cc : ByteArray} {pc : Nat} {ls : Array Slot} {rest : List Value}
theorem vx_idivZ (hexec : p.tables.exec = Jvm.exec) (hb : c.code = cc) {a b : Int32} (h0 : b = 0) (d : decode cc pc = .ok (.idiv, 1)) (k : vx_Note p l e R s m args below meth c H locs cells slots Q (F0 m pc ls rest) "java/lang/ArithmeticException" "/ by zero") :
    W p l e R s m args below meth c H locs cells slots Q (F0 m pc ls (.int b :: .int a :: rest)) := by
  intro T hT X
  obtain ⟨t, st, q⟩ := k T hT X
  exact ⟨t, X.idivZero hexec (g := F0 m pc ls (.int b :: .int a :: rest)) rfl (a := a) (rest := rest) (by rw [h0]) (by rw [hb]; exact d) t st, q⟩
theorem vx_iremZ (hexec : p.tables.exec = Jvm.exec) (hb : c.code = cc) {a b : Int32} (h0 : b = 0) (d : decode cc pc = .ok (.irem, 1)) (k : vx_Note p l e R s m args below meth c H locs cells slots Q (F0 m pc ls rest) "java/lang/ArithmeticException" "/ by zero") :
    W p l e R s m args below meth c H locs cells slots Q (F0 m pc ls (.int b :: .int a :: rest)) := by
  intro T hT X
  obtain ⟨t, st, q⟩ := k T hT X
  exact ⟨t, X.iremZero hexec (g := F0 m pc ls (.int b :: .int a :: rest)) rfl (a := a) (rest := rest) (by rw [h0]) (by rw [hb]; exact d) t st, q⟩
theorem vx_ldivZ (hexec : p.tables.exec = Jvm.exec) (hb : c.code = cc) {a b : Int64} (h0 : b = 0) (d : decode cc pc = .ok (.ldiv, 1)) (k : vx_Note p l e R s m args below meth c H locs cells slots Q (F0 m pc ls rest) "java/lang/ArithmeticException" "/ by zero") :
    W p l e R s m args below meth c H locs cells slots Q (F0 m pc ls (.long b :: .long a :: rest)) := by
  intro T hT X
  obtain ⟨t, st, q⟩ := k T hT X
  exact ⟨t, X.ldivZero hexec (g := F0 m pc ls (.long b :: .long a :: rest)) rfl (a := a) (rest := rest) (by rw [h0]) (by rw [hb]; exact d) t st, q⟩
theorem vx_lremZ (hexec : p.tables.exec = Jvm.exec) (hb : c.code = cc) {a b : Int64} (h0 : b = 0) (d : decode cc pc = .ok (.lrem, 1)) (k : vx_Note p l e R s m args below meth c H locs cells slots Q (F0 m pc ls rest) "java/lang/ArithmeticException" "/ by zero") :
    W p l e R s m args below meth c H locs cells slots Q (F0 m pc ls (.long b :: .long a :: rest)) := by
  intro T hT X
  obtain ⟨t, st, q⟩ := k T hT X
  exact ⟨t, X.lremZero hexec (g := F0 m pc ls (.long b :: .long a :: rest)) rfl (a := a) (rest := rest) (by rw [h0]) (by rw [hb]; exact d) t st, q⟩
theorem vx_ialdZ {D : va_G} {cl : List vw_C} {ws : va_W} {tys : List (ClassId × FieldType)} {a : Nat} (hexec : p.tables.exec = Jvm.exec) (hb : c.code = cc) (hK : va_K D cl tys s) (hP : va_P D cl ws H) (q0 t0 : Nat) {cA : ClassId} {n : Nat} {f : Nat → Int32} (ha : ws[q0]? = some (a, .inl (cA, n, .inl f))) (ht : tys[t0]? = some (cA, .int)) {i : Int32} (hout : ¬ vp_in i n) (hdg : decode cc pc = .ok (.iaload, 1))
    (k : ∀ tx : String, tx = (toString "Index " ++ toString i ++ toString " out of bounds for length " ++ toString n : String) → vx_Note p l e R s m args below meth c H locs cells slots Q (F0 m pc ls rest) "java/lang/ArrayIndexOutOfBoundsException" tx) : W p l e R s m args below meth c H locs cells slots Q (F0 m pc ls (.int i :: .ref a :: rest)) := by
  intro T hT X
  obtain ⟨t, st, q⟩ := k _ rfl T hT X
  refine ⟨t, ?_, q⟩
  have h1 := X.ialoadOut hexec (by rw [hT]; exact hP q0 _ ha) ((hK.2 t0 _ ht).1 n (fun j => .int (f j))) (j := i) (by show (i < 0 ∨ (arrV _ _ _).slots.size ≤ _); rw [arrV_size]; exact Classical.byContradiction hout) (g := F0 m pc ls (.int i :: .ref a :: rest)) rfl (rest := rest) rfl (by rw [hb]; exact hdg) t
  simp only [arrV_size] at h1
  exact h1 st
theorem vx_iastZ {D : va_G} {cl : List vw_C} {ws : va_W} {tys : List (ClassId × FieldType)} {a : Nat} (hexec : p.tables.exec = Jvm.exec) (hb : c.code = cc) (hK : va_K D cl tys s) (hP : va_P D cl ws H) (q0 t0 : Nat) {cA : ClassId} {n : Nat} {f : Nat → Int32} (ha : ws[q0]? = some (a, .inl (cA, n, .inl f))) (ht : tys[t0]? = some (cA, .int)) {i : Int32} {x : Int32} (hout : ¬ vp_in i n) (hdg : decode cc pc = .ok (.iastore, 1))
    (k : ∀ tx : String, tx = (toString "Index " ++ toString i ++ toString " out of bounds for length " ++ toString n : String) → vx_Note p l e R s m args below meth c H locs cells slots Q (F0 m pc ls rest) "java/lang/ArrayIndexOutOfBoundsException" tx) : W p l e R s m args below meth c H locs cells slots Q (F0 m pc ls (.int x :: .int i :: .ref a :: rest)) := by
  intro T hT X
  obtain ⟨t, st, q⟩ := k _ rfl T hT X
  refine ⟨t, ?_, q⟩
  have h1 := X.iastoreOut hexec (by rw [hT]; exact hP q0 _ ha) ((hK.2 t0 _ ht).1 n (fun j => .int (f j))) (j := i) (by show (i < 0 ∨ (arrV _ _ _).slots.size ≤ _); rw [arrV_size]; exact Classical.byContradiction hout) (g := F0 m pc ls (.int x :: .int i :: .ref a :: rest)) rfl (rest := rest) rfl (by rw [hb]; exact hdg) t
  simp only [arrV_size] at h1
  exact h1 st
theorem vx_baldZ {D : va_G} {cl : List vw_C} {ws : va_W} {tys : List (ClassId × FieldType)} {a : Nat} (hexec : p.tables.exec = Jvm.exec) (hb : c.code = cc) (hK : va_K D cl tys s) (hP : va_P D cl ws H) (q0 t0 : Nat) {cA : ClassId} {n : Nat} {f : Nat → Int32} (ha : ws[q0]? = some (a, .inl (cA, n, .inl f))) (ht : tys[t0]? = some (cA, .byte)) {i : Int32} (hout : ¬ vp_in i n) (hdg : decode cc pc = .ok (.baload, 1))
    (k : ∀ tx : String, tx = (toString "Index " ++ toString i ++ toString " out of bounds for length " ++ toString n : String) → vx_Note p l e R s m args below meth c H locs cells slots Q (F0 m pc ls rest) "java/lang/ArrayIndexOutOfBoundsException" tx) : W p l e R s m args below meth c H locs cells slots Q (F0 m pc ls (.int i :: .ref a :: rest)) := by
  intro T hT X
  obtain ⟨t, st, q⟩ := k _ rfl T hT X
  refine ⟨t, ?_, q⟩
  have h1 := X.baloadOut hexec (by rw [hT]; exact hP q0 _ ha) ((hK.2 t0 _ ht).1 n (fun j => .int (f j))) (j := i) (by show (i < 0 ∨ (arrV _ _ _).slots.size ≤ _); rw [arrV_size]; exact Classical.byContradiction hout) (g := F0 m pc ls (.int i :: .ref a :: rest)) rfl (rest := rest) rfl (by rw [hb]; exact hdg) t
  simp only [arrV_size] at h1
  exact h1 st
theorem vx_bastZ {D : va_G} {cl : List vw_C} {ws : va_W} {tys : List (ClassId × FieldType)} {a : Nat} (hexec : p.tables.exec = Jvm.exec) (hb : c.code = cc) (hK : va_K D cl tys s) (hP : va_P D cl ws H) (q0 t0 : Nat) {cA : ClassId} {n : Nat} {f : Nat → Int32} (ha : ws[q0]? = some (a, .inl (cA, n, .inl f))) (ht : tys[t0]? = some (cA, .byte)) {i : Int32} {x : Int32} (hout : ¬ vp_in i n) (hdg : decode cc pc = .ok (.bastore, 1))
    (k : ∀ tx : String, tx = (toString "Index " ++ toString i ++ toString " out of bounds for length " ++ toString n : String) → vx_Note p l e R s m args below meth c H locs cells slots Q (F0 m pc ls rest) "java/lang/ArrayIndexOutOfBoundsException" tx) : W p l e R s m args below meth c H locs cells slots Q (F0 m pc ls (.int x :: .int i :: .ref a :: rest)) := by
  intro T hT X
  obtain ⟨t, st, q⟩ := k _ rfl T hT X
  refine ⟨t, ?_, q⟩
  have h1 := X.bastoreOut hexec (by rw [hT]; exact hP q0 _ ha) ((hK.2 t0 _ ht).1 n (fun j => .int (f j))) (j := i) (by show (i < 0 ∨ (arrV _ _ _).slots.size ≤ _); rw [arrV_size]; exact Classical.byContradiction hout) (g := F0 m pc ls (.int x :: .int i :: .ref a :: rest)) rfl (rest := rest) rfl (by rw [hb]; exact hdg) t
  simp only [arrV_size] at h1
  exact h1 st
theorem vx_zaldZ {D : va_G} {cl : List vw_C} {ws : va_W} {tys : List (ClassId × FieldType)} {a : Nat} (hexec : p.tables.exec = Jvm.exec) (hb : c.code = cc) (hK : va_K D cl tys s) (hP : va_P D cl ws H) (q0 t0 : Nat) {cA : ClassId} {n : Nat} {f : Nat → Int32} (ha : ws[q0]? = some (a, .inl (cA, n, .inl f))) (ht : tys[t0]? = some (cA, .boolean)) {i : Int32} (hout : ¬ vp_in i n) (hdg : decode cc pc = .ok (.baload, 1))
    (k : ∀ tx : String, tx = (toString "Index " ++ toString i ++ toString " out of bounds for length " ++ toString n : String) → vx_Note p l e R s m args below meth c H locs cells slots Q (F0 m pc ls rest) "java/lang/ArrayIndexOutOfBoundsException" tx) : W p l e R s m args below meth c H locs cells slots Q (F0 m pc ls (.int i :: .ref a :: rest)) := by
  intro T hT X
  obtain ⟨t, st, q⟩ := k _ rfl T hT X
  refine ⟨t, ?_, q⟩
  have h1 := X.baloadOut hexec (by rw [hT]; exact hP q0 _ ha) ((hK.2 t0 _ ht).1 n (fun j => .int (f j))) (j := i) (by show (i < 0 ∨ (arrV _ _ _).slots.size ≤ _); rw [arrV_size]; exact Classical.byContradiction hout) (g := F0 m pc ls (.int i :: .ref a :: rest)) rfl (rest := rest) rfl (by rw [hb]; exact hdg) t
  simp only [arrV_size] at h1
  exact h1 st
theorem vx_zastZ {D : va_G} {cl : List vw_C} {ws : va_W} {tys : List (ClassId × FieldType)} {a : Nat} (hexec : p.tables.exec = Jvm.exec) (hb : c.code = cc) (hK : va_K D cl tys s) (hP : va_P D cl ws H) (q0 t0 : Nat) {cA : ClassId} {n : Nat} {f : Nat → Int32} (ha : ws[q0]? = some (a, .inl (cA, n, .inl f))) (ht : tys[t0]? = some (cA, .boolean)) {i : Int32} {x : Int32} (hout : ¬ vp_in i n) (hdg : decode cc pc = .ok (.bastore, 1))
    (k : ∀ tx : String, tx = (toString "Index " ++ toString i ++ toString " out of bounds for length " ++ toString n : String) → vx_Note p l e R s m args below meth c H locs cells slots Q (F0 m pc ls rest) "java/lang/ArrayIndexOutOfBoundsException" tx) : W p l e R s m args below meth c H locs cells slots Q (F0 m pc ls (.int x :: .int i :: .ref a :: rest)) := by
  intro T hT X
  obtain ⟨t, st, q⟩ := k _ rfl T hT X
  refine ⟨t, ?_, q⟩
  have h1 := X.bastoreOut hexec (by rw [hT]; exact hP q0 _ ha) ((hK.2 t0 _ ht).1 n (fun j => .int (f j))) (j := i) (by show (i < 0 ∨ (arrV _ _ _).slots.size ≤ _); rw [arrV_size]; exact Classical.byContradiction hout) (g := F0 m pc ls (.int x :: .int i :: .ref a :: rest)) rfl (rest := rest) rfl (by rw [hb]; exact hdg) t
  simp only [arrV_size] at h1
  exact h1 st
theorem vx_caldZ {D : va_G} {cl : List vw_C} {ws : va_W} {tys : List (ClassId × FieldType)} {a : Nat} (hexec : p.tables.exec = Jvm.exec) (hb : c.code = cc) (hK : va_K D cl tys s) (hP : va_P D cl ws H) (q0 t0 : Nat) {cA : ClassId} {n : Nat} {f : Nat → Int32} (ha : ws[q0]? = some (a, .inl (cA, n, .inl f))) (ht : tys[t0]? = some (cA, .char)) {i : Int32} (hout : ¬ vp_in i n) (hdg : decode cc pc = .ok (.caload, 1))
    (k : ∀ tx : String, tx = (toString "Index " ++ toString i ++ toString " out of bounds for length " ++ toString n : String) → vx_Note p l e R s m args below meth c H locs cells slots Q (F0 m pc ls rest) "java/lang/ArrayIndexOutOfBoundsException" tx) : W p l e R s m args below meth c H locs cells slots Q (F0 m pc ls (.int i :: .ref a :: rest)) := by
  intro T hT X
  obtain ⟨t, st, q⟩ := k _ rfl T hT X
  refine ⟨t, ?_, q⟩
  have h1 := X.caloadOut hexec (by rw [hT]; exact hP q0 _ ha) ((hK.2 t0 _ ht).1 n (fun j => .int (f j))) (j := i) (by show (i < 0 ∨ (arrV _ _ _).slots.size ≤ _); rw [arrV_size]; exact Classical.byContradiction hout) (g := F0 m pc ls (.int i :: .ref a :: rest)) rfl (rest := rest) rfl (by rw [hb]; exact hdg) t
  simp only [arrV_size] at h1
  exact h1 st
theorem vx_castZ {D : va_G} {cl : List vw_C} {ws : va_W} {tys : List (ClassId × FieldType)} {a : Nat} (hexec : p.tables.exec = Jvm.exec) (hb : c.code = cc) (hK : va_K D cl tys s) (hP : va_P D cl ws H) (q0 t0 : Nat) {cA : ClassId} {n : Nat} {f : Nat → Int32} (ha : ws[q0]? = some (a, .inl (cA, n, .inl f))) (ht : tys[t0]? = some (cA, .char)) {i : Int32} {x : Int32} (hout : ¬ vp_in i n) (hdg : decode cc pc = .ok (.castore, 1))
    (k : ∀ tx : String, tx = (toString "Index " ++ toString i ++ toString " out of bounds for length " ++ toString n : String) → vx_Note p l e R s m args below meth c H locs cells slots Q (F0 m pc ls rest) "java/lang/ArrayIndexOutOfBoundsException" tx) : W p l e R s m args below meth c H locs cells slots Q (F0 m pc ls (.int x :: .int i :: .ref a :: rest)) := by
  intro T hT X
  obtain ⟨t, st, q⟩ := k _ rfl T hT X
  refine ⟨t, ?_, q⟩
  have h1 := X.castoreOut hexec (by rw [hT]; exact hP q0 _ ha) ((hK.2 t0 _ ht).1 n (fun j => .int (f j))) (j := i) (by show (i < 0 ∨ (arrV _ _ _).slots.size ≤ _); rw [arrV_size]; exact Classical.byContradiction hout) (g := F0 m pc ls (.int x :: .int i :: .ref a :: rest)) rfl (rest := rest) rfl (by rw [hb]; exact hdg) t
  simp only [arrV_size] at h1
  exact h1 st
theorem vx_saldZ {D : va_G} {cl : List vw_C} {ws : va_W} {tys : List (ClassId × FieldType)} {a : Nat} (hexec : p.tables.exec = Jvm.exec) (hb : c.code = cc) (hK : va_K D cl tys s) (hP : va_P D cl ws H) (q0 t0 : Nat) {cA : ClassId} {n : Nat} {f : Nat → Int32} (ha : ws[q0]? = some (a, .inl (cA, n, .inl f))) (ht : tys[t0]? = some (cA, .short)) {i : Int32} (hout : ¬ vp_in i n) (hdg : decode cc pc = .ok (.saload, 1))
    (k : ∀ tx : String, tx = (toString "Index " ++ toString i ++ toString " out of bounds for length " ++ toString n : String) → vx_Note p l e R s m args below meth c H locs cells slots Q (F0 m pc ls rest) "java/lang/ArrayIndexOutOfBoundsException" tx) : W p l e R s m args below meth c H locs cells slots Q (F0 m pc ls (.int i :: .ref a :: rest)) := by
  intro T hT X
  obtain ⟨t, st, q⟩ := k _ rfl T hT X
  refine ⟨t, ?_, q⟩
  have h1 := X.saloadOut hexec (by rw [hT]; exact hP q0 _ ha) ((hK.2 t0 _ ht).1 n (fun j => .int (f j))) (j := i) (by show (i < 0 ∨ (arrV _ _ _).slots.size ≤ _); rw [arrV_size]; exact Classical.byContradiction hout) (g := F0 m pc ls (.int i :: .ref a :: rest)) rfl (rest := rest) rfl (by rw [hb]; exact hdg) t
  simp only [arrV_size] at h1
  exact h1 st
theorem vx_sastZ {D : va_G} {cl : List vw_C} {ws : va_W} {tys : List (ClassId × FieldType)} {a : Nat} (hexec : p.tables.exec = Jvm.exec) (hb : c.code = cc) (hK : va_K D cl tys s) (hP : va_P D cl ws H) (q0 t0 : Nat) {cA : ClassId} {n : Nat} {f : Nat → Int32} (ha : ws[q0]? = some (a, .inl (cA, n, .inl f))) (ht : tys[t0]? = some (cA, .short)) {i : Int32} {x : Int32} (hout : ¬ vp_in i n) (hdg : decode cc pc = .ok (.sastore, 1))
    (k : ∀ tx : String, tx = (toString "Index " ++ toString i ++ toString " out of bounds for length " ++ toString n : String) → vx_Note p l e R s m args below meth c H locs cells slots Q (F0 m pc ls rest) "java/lang/ArrayIndexOutOfBoundsException" tx) : W p l e R s m args below meth c H locs cells slots Q (F0 m pc ls (.int x :: .int i :: .ref a :: rest)) := by
  intro T hT X
  obtain ⟨t, st, q⟩ := k _ rfl T hT X
  refine ⟨t, ?_, q⟩
  have h1 := X.sastoreOut hexec (by rw [hT]; exact hP q0 _ ha) ((hK.2 t0 _ ht).1 n (fun j => .int (f j))) (j := i) (by show (i < 0 ∨ (arrV _ _ _).slots.size ≤ _); rw [arrV_size]; exact Classical.byContradiction hout) (g := F0 m pc ls (.int x :: .int i :: .ref a :: rest)) rfl (rest := rest) rfl (by rw [hb]; exact hdg) t
  simp only [arrV_size] at h1
  exact h1 st
theorem vx_laldZ {D : va_G} {cl : List vw_C} {ws : va_W} {tys : List (ClassId × FieldType)} {a : Nat} (hexec : p.tables.exec = Jvm.exec) (hb : c.code = cc) (hK : va_K D cl tys s) (hP : va_P D cl ws H) (q0 t0 : Nat) {cA : ClassId} {n : Nat} {f : Nat → Int64} (ha : ws[q0]? = some (a, .inl (cA, n, .inr (.inl f)))) (ht : tys[t0]? = some (cA, .long)) {i : Int32} (hout : ¬ vp_in i n) (hdg : decode cc pc = .ok (.laload, 1))
    (k : ∀ tx : String, tx = (toString "Index " ++ toString i ++ toString " out of bounds for length " ++ toString n : String) → vx_Note p l e R s m args below meth c H locs cells slots Q (F0 m pc ls rest) "java/lang/ArrayIndexOutOfBoundsException" tx) : W p l e R s m args below meth c H locs cells slots Q (F0 m pc ls (.int i :: .ref a :: rest)) := by
  intro T hT X
  obtain ⟨t, st, q⟩ := k _ rfl T hT X
  refine ⟨t, ?_, q⟩
  have h1 := X.laloadOut hexec (by rw [hT]; exact hP q0 _ ha) ((hK.2 t0 _ ht).1 n (fun j => .long (f j))) (j := i) (by show (i < 0 ∨ (arrV _ _ _).slots.size ≤ _); rw [arrV_size]; exact Classical.byContradiction hout) (g := F0 m pc ls (.int i :: .ref a :: rest)) rfl (rest := rest) rfl (by rw [hb]; exact hdg) t
  simp only [arrV_size] at h1
  exact h1 st
theorem vx_lastZ {D : va_G} {cl : List vw_C} {ws : va_W} {tys : List (ClassId × FieldType)} {a : Nat} (hexec : p.tables.exec = Jvm.exec) (hb : c.code = cc) (hK : va_K D cl tys s) (hP : va_P D cl ws H) (q0 t0 : Nat) {cA : ClassId} {n : Nat} {f : Nat → Int64} (ha : ws[q0]? = some (a, .inl (cA, n, .inr (.inl f)))) (ht : tys[t0]? = some (cA, .long)) {i : Int32} {x : Int64} (hout : ¬ vp_in i n) (hdg : decode cc pc = .ok (.lastore, 1))
    (k : ∀ tx : String, tx = (toString "Index " ++ toString i ++ toString " out of bounds for length " ++ toString n : String) → vx_Note p l e R s m args below meth c H locs cells slots Q (F0 m pc ls rest) "java/lang/ArrayIndexOutOfBoundsException" tx) : W p l e R s m args below meth c H locs cells slots Q (F0 m pc ls (.long x :: .int i :: .ref a :: rest)) := by
  intro T hT X
  obtain ⟨t, st, q⟩ := k _ rfl T hT X
  refine ⟨t, ?_, q⟩
  have h1 := X.lastoreOut hexec (by rw [hT]; exact hP q0 _ ha) ((hK.2 t0 _ ht).1 n (fun j => .long (f j))) (j := i) (by show (i < 0 ∨ (arrV _ _ _).slots.size ≤ _); rw [arrV_size]; exact Classical.byContradiction hout) (g := F0 m pc ls (.long x :: .int i :: .ref a :: rest)) rfl (rest := rest) rfl (by rw [hb]; exact hdg) t
  simp only [arrV_size] at h1
  exact h1 st
theorem vx_faldZ {D : va_G} {cl : List vw_C} {ws : va_W} {tys : List (ClassId × FieldType)} {a : Nat} (hexec : p.tables.exec = Jvm.exec) (hb : c.code = cc) (hK : va_K D cl tys s) (hP : va_P D cl ws H) (q0 t0 : Nat) {cA : ClassId} {n : Nat} {f : Nat → UInt32} (ha : ws[q0]? = some (a, .inl (cA, n, .inr (.inr (.inl f))))) (ht : tys[t0]? = some (cA, .float)) {i : Int32} (hout : ¬ vp_in i n) (hdg : decode cc pc = .ok (.faload, 1))
    (k : ∀ tx : String, tx = (toString "Index " ++ toString i ++ toString " out of bounds for length " ++ toString n : String) → vx_Note p l e R s m args below meth c H locs cells slots Q (F0 m pc ls rest) "java/lang/ArrayIndexOutOfBoundsException" tx) : W p l e R s m args below meth c H locs cells slots Q (F0 m pc ls (.int i :: .ref a :: rest)) := by
  intro T hT X
  obtain ⟨t, st, q⟩ := k _ rfl T hT X
  refine ⟨t, ?_, q⟩
  have h1 := X.faloadOut hexec (by rw [hT]; exact hP q0 _ ha) ((hK.2 t0 _ ht).1 n (fun j => .float (f j))) (j := i) (by show (i < 0 ∨ (arrV _ _ _).slots.size ≤ _); rw [arrV_size]; exact Classical.byContradiction hout) (g := F0 m pc ls (.int i :: .ref a :: rest)) rfl (rest := rest) rfl (by rw [hb]; exact hdg) t
  simp only [arrV_size] at h1
  exact h1 st
theorem vx_fastZ {D : va_G} {cl : List vw_C} {ws : va_W} {tys : List (ClassId × FieldType)} {a : Nat} (hexec : p.tables.exec = Jvm.exec) (hb : c.code = cc) (hK : va_K D cl tys s) (hP : va_P D cl ws H) (q0 t0 : Nat) {cA : ClassId} {n : Nat} {f : Nat → UInt32} (ha : ws[q0]? = some (a, .inl (cA, n, .inr (.inr (.inl f))))) (ht : tys[t0]? = some (cA, .float)) {i : Int32} {x : UInt32} (hout : ¬ vp_in i n) (hdg : decode cc pc = .ok (.fastore, 1))
    (k : ∀ tx : String, tx = (toString "Index " ++ toString i ++ toString " out of bounds for length " ++ toString n : String) → vx_Note p l e R s m args below meth c H locs cells slots Q (F0 m pc ls rest) "java/lang/ArrayIndexOutOfBoundsException" tx) : W p l e R s m args below meth c H locs cells slots Q (F0 m pc ls (.float x :: .int i :: .ref a :: rest)) := by
  intro T hT X
  obtain ⟨t, st, q⟩ := k _ rfl T hT X
  refine ⟨t, ?_, q⟩
  have h1 := X.fastoreOut hexec (by rw [hT]; exact hP q0 _ ha) ((hK.2 t0 _ ht).1 n (fun j => .float (f j))) (j := i) (by show (i < 0 ∨ (arrV _ _ _).slots.size ≤ _); rw [arrV_size]; exact Classical.byContradiction hout) (g := F0 m pc ls (.float x :: .int i :: .ref a :: rest)) rfl (rest := rest) rfl (by rw [hb]; exact hdg) t
  simp only [arrV_size] at h1
  exact h1 st
theorem vx_daldZ {D : va_G} {cl : List vw_C} {ws : va_W} {tys : List (ClassId × FieldType)} {a : Nat} (hexec : p.tables.exec = Jvm.exec) (hb : c.code = cc) (hK : va_K D cl tys s) (hP : va_P D cl ws H) (q0 t0 : Nat) {cA : ClassId} {n : Nat} {f : Nat → UInt64} (ha : ws[q0]? = some (a, .inl (cA, n, .inr (.inr (.inr (.inl f)))))) (ht : tys[t0]? = some (cA, .double)) {i : Int32} (hout : ¬ vp_in i n) (hdg : decode cc pc = .ok (.daload, 1))
    (k : ∀ tx : String, tx = (toString "Index " ++ toString i ++ toString " out of bounds for length " ++ toString n : String) → vx_Note p l e R s m args below meth c H locs cells slots Q (F0 m pc ls rest) "java/lang/ArrayIndexOutOfBoundsException" tx) : W p l e R s m args below meth c H locs cells slots Q (F0 m pc ls (.int i :: .ref a :: rest)) := by
  intro T hT X
  obtain ⟨t, st, q⟩ := k _ rfl T hT X
  refine ⟨t, ?_, q⟩
  have h1 := X.daloadOut hexec (by rw [hT]; exact hP q0 _ ha) ((hK.2 t0 _ ht).1 n (fun j => .double (f j))) (j := i) (by show (i < 0 ∨ (arrV _ _ _).slots.size ≤ _); rw [arrV_size]; exact Classical.byContradiction hout) (g := F0 m pc ls (.int i :: .ref a :: rest)) rfl (rest := rest) rfl (by rw [hb]; exact hdg) t
  simp only [arrV_size] at h1
  exact h1 st
theorem vx_dastZ {D : va_G} {cl : List vw_C} {ws : va_W} {tys : List (ClassId × FieldType)} {a : Nat} (hexec : p.tables.exec = Jvm.exec) (hb : c.code = cc) (hK : va_K D cl tys s) (hP : va_P D cl ws H) (q0 t0 : Nat) {cA : ClassId} {n : Nat} {f : Nat → UInt64} (ha : ws[q0]? = some (a, .inl (cA, n, .inr (.inr (.inr (.inl f)))))) (ht : tys[t0]? = some (cA, .double)) {i : Int32} {x : UInt64} (hout : ¬ vp_in i n) (hdg : decode cc pc = .ok (.dastore, 1))
    (k : ∀ tx : String, tx = (toString "Index " ++ toString i ++ toString " out of bounds for length " ++ toString n : String) → vx_Note p l e R s m args below meth c H locs cells slots Q (F0 m pc ls rest) "java/lang/ArrayIndexOutOfBoundsException" tx) : W p l e R s m args below meth c H locs cells slots Q (F0 m pc ls (.double x :: .int i :: .ref a :: rest)) := by
  intro T hT X
  obtain ⟨t, st, q⟩ := k _ rfl T hT X
  refine ⟨t, ?_, q⟩
  have h1 := X.dastoreOut hexec (by rw [hT]; exact hP q0 _ ha) ((hK.2 t0 _ ht).1 n (fun j => .double (f j))) (j := i) (by show (i < 0 ∨ (arrV _ _ _).slots.size ≤ _); rw [arrV_size]; exact Classical.byContradiction hout) (g := F0 m pc ls (.double x :: .int i :: .ref a :: rest)) rfl (rest := rest) rfl (by rw [hb]; exact hdg) t
  simp only [arrV_size] at h1
  exact h1 st
theorem vx_arraylengthN (hexec : p.tables.exec = Jvm.exec) (hb : c.code = cc) (hdg : decode cc pc = .ok (.arraylength, 1)) (k : vx_NoteN p l e R s m args below meth c H locs cells slots Q (F0 m pc ls rest)) : W p l e R s m args below meth c H locs cells slots Q (F0 m pc ls (.null :: rest)) := by
  intro T hT X
  obtain ⟨t, st, q⟩ := k T hT X
  exact ⟨t, X.arraylengthNull hexec (g := F0 m pc ls (.null :: rest)) rfl (rest := rest) rfl (by rw [hb]; exact hdg) t st, q⟩
theorem vx_ialoadN (hexec : p.tables.exec = Jvm.exec) (hb : c.code = cc) {i : Int32} (hdg : decode cc pc = .ok (.iaload, 1)) (k : vx_NoteN p l e R s m args below meth c H locs cells slots Q (F0 m pc ls rest)) : W p l e R s m args below meth c H locs cells slots Q (F0 m pc ls (.int i :: .null :: rest)) := by
  intro T hT X
  obtain ⟨t, st, q⟩ := k T hT X
  exact ⟨t, X.ialoadNull hexec (g := F0 m pc ls (.int i :: .null :: rest)) rfl (rest := rest) rfl (by rw [hb]; exact hdg) t st, q⟩
theorem vx_laloadN (hexec : p.tables.exec = Jvm.exec) (hb : c.code = cc) {i : Int32} (hdg : decode cc pc = .ok (.laload, 1)) (k : vx_NoteN p l e R s m args below meth c H locs cells slots Q (F0 m pc ls rest)) : W p l e R s m args below meth c H locs cells slots Q (F0 m pc ls (.int i :: .null :: rest)) := by
  intro T hT X
  obtain ⟨t, st, q⟩ := k T hT X
  exact ⟨t, X.laloadNull hexec (g := F0 m pc ls (.int i :: .null :: rest)) rfl (rest := rest) rfl (by rw [hb]; exact hdg) t st, q⟩
theorem vx_faloadN (hexec : p.tables.exec = Jvm.exec) (hb : c.code = cc) {i : Int32} (hdg : decode cc pc = .ok (.faload, 1)) (k : vx_NoteN p l e R s m args below meth c H locs cells slots Q (F0 m pc ls rest)) : W p l e R s m args below meth c H locs cells slots Q (F0 m pc ls (.int i :: .null :: rest)) := by
  intro T hT X
  obtain ⟨t, st, q⟩ := k T hT X
  exact ⟨t, X.faloadNull hexec (g := F0 m pc ls (.int i :: .null :: rest)) rfl (rest := rest) rfl (by rw [hb]; exact hdg) t st, q⟩
theorem vx_daloadN (hexec : p.tables.exec = Jvm.exec) (hb : c.code = cc) {i : Int32} (hdg : decode cc pc = .ok (.daload, 1)) (k : vx_NoteN p l e R s m args below meth c H locs cells slots Q (F0 m pc ls rest)) : W p l e R s m args below meth c H locs cells slots Q (F0 m pc ls (.int i :: .null :: rest)) := by
  intro T hT X
  obtain ⟨t, st, q⟩ := k T hT X
  exact ⟨t, X.daloadNull hexec (g := F0 m pc ls (.int i :: .null :: rest)) rfl (rest := rest) rfl (by rw [hb]; exact hdg) t st, q⟩
theorem vx_aaloadN (hexec : p.tables.exec = Jvm.exec) (hb : c.code = cc) {i : Int32} (hdg : decode cc pc = .ok (.aaload, 1)) (k : vx_NoteN p l e R s m args below meth c H locs cells slots Q (F0 m pc ls rest)) : W p l e R s m args below meth c H locs cells slots Q (F0 m pc ls (.int i :: .null :: rest)) := by
  intro T hT X
  obtain ⟨t, st, q⟩ := k T hT X
  exact ⟨t, X.aaloadNull hexec (g := F0 m pc ls (.int i :: .null :: rest)) rfl (rest := rest) rfl (by rw [hb]; exact hdg) t st, q⟩
theorem vx_baloadN (hexec : p.tables.exec = Jvm.exec) (hb : c.code = cc) {i : Int32} (hdg : decode cc pc = .ok (.baload, 1)) (k : vx_NoteN p l e R s m args below meth c H locs cells slots Q (F0 m pc ls rest)) : W p l e R s m args below meth c H locs cells slots Q (F0 m pc ls (.int i :: .null :: rest)) := by
  intro T hT X
  obtain ⟨t, st, q⟩ := k T hT X
  exact ⟨t, X.baloadNull hexec (g := F0 m pc ls (.int i :: .null :: rest)) rfl (rest := rest) rfl (by rw [hb]; exact hdg) t st, q⟩
theorem vx_caloadN (hexec : p.tables.exec = Jvm.exec) (hb : c.code = cc) {i : Int32} (hdg : decode cc pc = .ok (.caload, 1)) (k : vx_NoteN p l e R s m args below meth c H locs cells slots Q (F0 m pc ls rest)) : W p l e R s m args below meth c H locs cells slots Q (F0 m pc ls (.int i :: .null :: rest)) := by
  intro T hT X
  obtain ⟨t, st, q⟩ := k T hT X
  exact ⟨t, X.caloadNull hexec (g := F0 m pc ls (.int i :: .null :: rest)) rfl (rest := rest) rfl (by rw [hb]; exact hdg) t st, q⟩
theorem vx_saloadN (hexec : p.tables.exec = Jvm.exec) (hb : c.code = cc) {i : Int32} (hdg : decode cc pc = .ok (.saload, 1)) (k : vx_NoteN p l e R s m args below meth c H locs cells slots Q (F0 m pc ls rest)) : W p l e R s m args below meth c H locs cells slots Q (F0 m pc ls (.int i :: .null :: rest)) := by
  intro T hT X
  obtain ⟨t, st, q⟩ := k T hT X
  exact ⟨t, X.saloadNull hexec (g := F0 m pc ls (.int i :: .null :: rest)) rfl (rest := rest) rfl (by rw [hb]; exact hdg) t st, q⟩
theorem vx_iastoreN (hexec : p.tables.exec = Jvm.exec) (hb : c.code = cc) {x : Int32} {i : Int32} (hdg : decode cc pc = .ok (.iastore, 1)) (k : vx_NoteN p l e R s m args below meth c H locs cells slots Q (F0 m pc ls rest)) : W p l e R s m args below meth c H locs cells slots Q (F0 m pc ls (.int x :: .int i :: .null :: rest)) := by
  intro T hT X
  obtain ⟨t, st, q⟩ := k T hT X
  exact ⟨t, X.iastoreNull hexec (g := F0 m pc ls (.int x :: .int i :: .null :: rest)) rfl (rest := rest) rfl (by rw [hb]; exact hdg) t st, q⟩
theorem vx_lastoreN (hexec : p.tables.exec = Jvm.exec) (hb : c.code = cc) {x : Int64} {i : Int32} (hdg : decode cc pc = .ok (.lastore, 1)) (k : vx_NoteN p l e R s m args below meth c H locs cells slots Q (F0 m pc ls rest)) : W p l e R s m args below meth c H locs cells slots Q (F0 m pc ls (.long x :: .int i :: .null :: rest)) := by
  intro T hT X
  obtain ⟨t, st, q⟩ := k T hT X
  exact ⟨t, X.lastoreNull hexec (g := F0 m pc ls (.long x :: .int i :: .null :: rest)) rfl (rest := rest) rfl (by rw [hb]; exact hdg) t st, q⟩
theorem vx_fastoreN (hexec : p.tables.exec = Jvm.exec) (hb : c.code = cc) {x : UInt32} {i : Int32} (hdg : decode cc pc = .ok (.fastore, 1)) (k : vx_NoteN p l e R s m args below meth c H locs cells slots Q (F0 m pc ls rest)) : W p l e R s m args below meth c H locs cells slots Q (F0 m pc ls (.float x :: .int i :: .null :: rest)) := by
  intro T hT X
  obtain ⟨t, st, q⟩ := k T hT X
  exact ⟨t, X.fastoreNull hexec (g := F0 m pc ls (.float x :: .int i :: .null :: rest)) rfl (rest := rest) rfl (by rw [hb]; exact hdg) t st, q⟩
theorem vx_dastoreN (hexec : p.tables.exec = Jvm.exec) (hb : c.code = cc) {x : UInt64} {i : Int32} (hdg : decode cc pc = .ok (.dastore, 1)) (k : vx_NoteN p l e R s m args below meth c H locs cells slots Q (F0 m pc ls rest)) : W p l e R s m args below meth c H locs cells slots Q (F0 m pc ls (.double x :: .int i :: .null :: rest)) := by
  intro T hT X
  obtain ⟨t, st, q⟩ := k T hT X
  exact ⟨t, X.dastoreNull hexec (g := F0 m pc ls (.double x :: .int i :: .null :: rest)) rfl (rest := rest) rfl (by rw [hb]; exact hdg) t st, q⟩
theorem vx_bastoreN (hexec : p.tables.exec = Jvm.exec) (hb : c.code = cc) {x : Int32} {i : Int32} (hdg : decode cc pc = .ok (.bastore, 1)) (k : vx_NoteN p l e R s m args below meth c H locs cells slots Q (F0 m pc ls rest)) : W p l e R s m args below meth c H locs cells slots Q (F0 m pc ls (.int x :: .int i :: .null :: rest)) := by
  intro T hT X
  obtain ⟨t, st, q⟩ := k T hT X
  exact ⟨t, X.bastoreNull hexec (g := F0 m pc ls (.int x :: .int i :: .null :: rest)) rfl (rest := rest) rfl (by rw [hb]; exact hdg) t st, q⟩
theorem vx_castoreN (hexec : p.tables.exec = Jvm.exec) (hb : c.code = cc) {x : Int32} {i : Int32} (hdg : decode cc pc = .ok (.castore, 1)) (k : vx_NoteN p l e R s m args below meth c H locs cells slots Q (F0 m pc ls rest)) : W p l e R s m args below meth c H locs cells slots Q (F0 m pc ls (.int x :: .int i :: .null :: rest)) := by
  intro T hT X
  obtain ⟨t, st, q⟩ := k T hT X
  exact ⟨t, X.castoreNull hexec (g := F0 m pc ls (.int x :: .int i :: .null :: rest)) rfl (rest := rest) rfl (by rw [hb]; exact hdg) t st, q⟩
theorem vx_sastoreN (hexec : p.tables.exec = Jvm.exec) (hb : c.code = cc) {x : Int32} {i : Int32} (hdg : decode cc pc = .ok (.sastore, 1)) (k : vx_NoteN p l e R s m args below meth c H locs cells slots Q (F0 m pc ls rest)) : W p l e R s m args below meth c H locs cells slots Q (F0 m pc ls (.int x :: .int i :: .null :: rest)) := by
  intro T hT X
  obtain ⟨t, st, q⟩ := k T hT X
  exact ⟨t, X.sastoreNull hexec (g := F0 m pc ls (.int x :: .int i :: .null :: rest)) rfl (rest := rest) rfl (by rw [hb]; exact hdg) t st, q⟩
theorem vx_invokeN {own C : String} {index maxL : Nat} {y : MethodName} {bytes : ByteArray} {ret : Option FieldType} (hexec : p.tables.exec = Jvm.exec) (hb : c.code = cc) (hown : s.vm.findClass own = some m.cls) (hlink : (Cond.methodLink own index y).before args s = true) (hinst : (Cond.instanceMethod y).before args s = true) (hcode : (Cond.code y bytes maxL ret).before args s = true) (hsel : (Cond.selects C y y).before args s = true)
    (hx : y.cls ≠ "java/lang/invoke/MethodHandle" ∧ y.cls ≠ "java/lang/invoke/VarHandle") {As : List Value} (hlen : (parseMethodDescriptor y.desc).map (fun d => d.parameters.length) = some As.length) (hdg : decode cc pc = .ok (.invokevirtual index, 3))
    (k : vx_NoteN p l e R s m args below meth c H locs cells slots Q (F0 m pc ls rest)) {st0 : List Value} (hst : st0 = As.reverse ++ .null :: rest) : W p l e R s m args below meth c H locs cells slots Q (F0 m pc ls st0) := by
  intro T hT X
  obtain ⟨r0, r, hn, hrm, hstR, hsigR⟩ := va_Decl.of hinst hcode
  obtain ⟨c2, r2, m2, q1, q2, q3, q4, kP, hkP, hkPi⟩ := Cond.selects_spec hsel
  cases hn.symm.trans q3
  have hl9 : As.length = r.sig.parameters.length := by
    rw [hsigR] at hlen
    exact (Option.some.inj hlen).symm
  obtain ⟨vm', X1, st1⟩ := X.invokevirtualNull hexec hown hlink hn hrm hstR hkP hkPi hx (g := F0 m pc ls st0) rfl (argsL := As) (rest := rest) hl9 hst (by rw [hb]; exact hdg)
  obtain ⟨t, st, q⟩ := k (T.setVm vm') hT X1
  exact ⟨t, st1 t st, q⟩
theorem vx_newarrayZ {atype : ArrayType} (hexec : p.tables.exec = Jvm.exec) (hb : c.code = cc) {n : Int32} (h0 : n < 0) (hdg : decode cc pc = .ok (.newarray atype, 2)) (k : ∀ tx : String, tx = toString n → vx_Note p l e R s m args below meth c H locs cells slots Q (F0 m pc ls rest) "java/lang/NegativeArraySizeException" tx) : W p l e R s m args below meth c H locs cells slots Q (F0 m pc ls (.int n :: rest)) := by
  intro T hT X
  obtain ⟨t, st, q⟩ := k _ rfl T hT X
  exact ⟨t, X.newarrayNegative hexec (g := F0 m pc ls (.int n :: rest)) rfl h0 (rest := rest) rfl (by rw [hb]; exact hdg) t st, q⟩
end
end VXM
/-! ===== END ===== -/
/-! ===== BEGIN an exception as an object: made, kept, thrown later (no traces kept) ===== -/
section VXK
variable {p : Program} {l : Launch} {e : Env} {R : Room} {s : State} {m₀ : MethodId} {args : Array Value} {below : List Frame} {meth : Method} {c : Code} {W : State} {locs : List Loc} {cells slots : Nat}
set_option maxHeartbeats 1000000 in
theorem vx_ctorMadeS (X : Stand p l e R s m₀ args below meth c W locs cells slots) (hexec : p.tables.exec = Jvm.exec) (htr : e.platform.stackTraces = false) {own cls : String} {names : List String} {ic : Nat}
    (hown : s.vm.findClass own = some m₀.cls) (hcls : Bundle.fit cls = true) (hnames : ∀ n ∈ names, Bundle.fit n = true)
    (h : ∀ a ∈ Bundle.ownAtoms own ic cls names, a.before args s = true)
    (hlocs : ∀ x ∈ locs, ∀ cell, s.heap[x.base]? = some cell → cell.vm.isStatics = false)
    {a : Addr} {cX : ClassId} {kX : Class} (hfoundX : s.vm.findClass cls = some cX) (hkX : s.vm.classes[cX]? = some kX) (hcell : W.heap[a]? = some (freshCell cX kX)) (hnew : s.heap.size ≤ a)
    {msg : Value} (hmsg : msg.isRef = true)
    {g : JFrame} (hg : g.method = m₀) (hsize : g.locals.size = c.maxLocals) {rest : List Value} (hstack : g.stack = msg :: .ref a :: .ref a :: rest)
    (hd6 : decode c.code g.pc = .ok (.invokespecial ic, 3))
    (hRframes : names.length + 3 < R.frames) (hRlocals : 2 * g.monitorRoom + ((Value.ref a :: rest).map fun v => v.category).sum + (13 * (names.length + 1) + 42) ≤ R.locals) :
    ∃ (V : State) (ce : Cell) (L : List Loc), Stand p l e R s m₀ args below meth c (V.setCell a ce) (locs ++ L) cells slots ∧ (∀ y ∈ L, y.base = a) ∧ a < V.heap.size ∧ ce.cls = cX ∧ ce.vm = .none ∧
      ∀ target, Steps p.tables e below ((V.setCell a ce).setTop { g with stack := .ref a :: rest, pc := g.pc + 3 }) target → Steps p.tables e below (W.setTop g) target := by
  have howns : e.platform.frameOwnsMonitors = true := by rw [X.admits.platform]
  have hfin : e.platform.finalization = false := by rw [X.admits.platform]
  have hpl : e.platform.magicAccessors = ({} : Platform).magicAccessors := by rw [X.admits.platform]
  have a' : ∀ x, x ∈ Bundle.ownAtoms own ic cls names → x.holds args s none s [] = true := fun x hx => h x hx
  obtain ⟨T, Z0, L, -, Y⟩ := ThrowableC.of_atoms (args := args) howns hfin hpl (fun x hx => h x (by simp [Bundle.ownAtoms, hx]))
  obtain ⟨Z, M, LZ, LM, hnZ⟩ := Init0T.ofS_atoms (args := args) hpl L Y (fun x hx => h x (by simp [Bundle.ownAtoms, hx]))
  obtain ⟨P1, Ps, hlen, L1, hL, hP1m, hlink1, hlink⟩ := Bundle.chainS (args := args) hpl hnZ names cls hcls hnames (fun x hx => h x (by simp [Bundle.ownAtoms, hx]))
  have hfound : s.vm.findClass cls = some P1.m.cls := findClass_of_methodNamed hP1m
  cases Option.some.inj (hfoundX.symm.trans hfound)
  obtain ⟨c1, kX', hc1, hk, hord, -, -, hn6⟩ := Cond.instantiable_spec (a' (.instantiable cls 6) (by simp [Bundle.ownAtoms]))
  cases Option.some.inj (hc1.symm.trans hfound)
  cases Option.some.inj (hkX.symm.trans hk)
  have hsel0 : selectMethod e.platform s.vm P1.m.cls T.fill0 = .method T.fill0 := by
    obtain ⟨c2, r2, m2, q1, q2, q3, q4, -⟩ := Cond.selects_spec (a' (.selects cls Bundle.tFill0 Bundle.tFill0) (by simp [Bundle.ownAtoms]))
    cases Option.some.inj (q1.symm.trans hfound)
    cases Option.some.inj (q2.symm.trans (State.methodFound?_of_named Y.fill0 (by decide)))
    cases Option.some.inj (q3.symm.trans Y.fill0)
    rw [Launch.admits_selectMethod X.admits]; exact q4
  have hselF : selectMethod e.platform s.vm P1.m.cls T.fill = .method T.fill := by
    obtain ⟨c2, r2, m2, q1, q2, q3, q4, -⟩ := Cond.selects_spec (a' (.selects cls Bundle.tFill Bundle.tFill) (by simp [Bundle.ownAtoms]))
    cases Option.some.inj (q1.symm.trans hfound)
    cases Option.some.inj (q2.symm.trans (State.methodFound?_of_named Y.fill (by decide)))
    cases Option.some.inj (q3.symm.trans Y.fill)
    rw [Launch.admits_selectMethod X.admits]; exact q4
  obtain ⟨cellS0, hcS0, hiss⟩ := Y.statics
  obtain ⟨u0, hu0⟩ := Cond.staticRefV Y.unassigned L.unassignedStatic L.statics hcS0 hiss (a' (.isRef (.static Bundle.tN "UNASSIGNED_STACK" Bundle.steD)) (by simp [Bundle.ownAtoms]))
  obtain ⟨sen, hsen⟩ := Cond.staticRefV Y.sentinel L.sentinelStatic L.statics hcS0 hiss (a' (.isRef (.static Bundle.tN "SUPPRESSED_SENTINEL" Bundle.listD)) (by simp [Bundle.ownAtoms]))
  obtain ⟨ci198, i198, fB, hk198, hg198, ha198, hsB, -, hnB, htB, hffB⟩ := Cond.ownField (t := .object "java/lang/Object") Y.found L.cls (by decide +kernel) (a' (.fieldLink Bundle.tN 198 Bundle.tN "backtrace" "Ljava/lang/Object;") (by simp [Bundle.ownAtoms])) (a' (.lays Bundle.tN Bundle.tN "backtrace" "Ljava/lang/Object;") (by simp [Bundle.ownAtoms])) e.platform hpl
  obtain ⟨cellS, hcS', heS, -, hkeep⟩ := X.same.2.2.2.2.2 T.aS cellS0 hcS0
  have hcellS : W.heap[T.aS]? = some cellS := hcS'
  have hout' : ∀ i, (⟨T.aS, i⟩ : Loc) ∉ locs := fun i hmem => by
    have := hlocs _ hmem cellS0 hcS0
    rw [hiss] at this; cases this
  have hknownS : cellS.vm ≠ .unknown := by
    rw [heS]; intro hu
    rw [show cellS0.vm = .unknown from hu] at hiss
    cases hiss
  have hneS : T.aS ≠ a := Nat.ne_of_lt (Nat.lt_of_lt_of_le (Array.getElem?_eq_some_iff.mp hcS0).1 hnew)
  obtain ⟨iM, hffM⟩ := Y.msg
  obtain ⟨tyC, dC, hdC, hdnC⟩ := Cond.laysAt hfound hk Y.cause (a' (.lays cls Bundle.tN "cause" "Ljava/lang/Throwable;") (by simp [Bundle.ownAtoms]))
  obtain ⟨tyS, dS, hdS, hdnS⟩ := Cond.laysAt hfound hk Y.stack (a' (.lays cls Bundle.tN "stackTrace" Bundle.steD) (by simp [Bundle.ownAtoms]))
  obtain ⟨tyP, dP, hdP, hdnP⟩ := Cond.laysAt hfound hk Y.supp (a' (.lays cls Bundle.tN "suppressedExceptions" Bundle.listD) (by simp [Bundle.ownAtoms]))
  obtain ⟨tyM, dM, hdM, hdnM⟩ := Cond.laysAt hfound hk hffM (a' (.lays cls Bundle.tN "detailMessage" "Ljava/lang/String;") (by simp [Bundle.ownAtoms]))
  obtain ⟨tyB, dB, hdB, hdnB⟩ := Cond.laysAt hfound hk hffB (a' (.lays cls Bundle.tN "backtrace" "Ljava/lang/Object;") (by simp [Bundle.ownAtoms]))
  have bC := Cond.laysApart hdB hdC hdnB hdnC (by rw [hnB, Y.causeName]; decide)
  have bS := Cond.laysApart hdB hdS hdnB hdnS (by rw [hnB, Y.stackName]; decide)
  have bP := Cond.laysApart hdB hdP hdnB hdnP (by rw [hnB, Y.suppName]; decide)
  have hskip : SkipFacts T e.platform s (fun u => u) u0 ((preparedCellV T.toThrowableT (freshCell P1.m.cls kX) a u0 sen).withEntry W.cur) :=
    ⟨{ ci198 := ci198, i198 := i198, fBack := fB }, ⟨hk198, hg198, ha198, hsB⟩, by
      have := fresh_default (c := P1.m.cls) tyB
      rw [htB] at this
      simpa [preparedCellV, Cell.setSlot, Cell.withEntry, Array.getElem?_setIfInBounds, bC, bS, bP, bC.symm, bS.symm, bP.symm, defaultValue] using this, fun _ _ => rfl⟩
  obtain ⟨tm, methC, cdC, kC, vm₁, hnC, -, -, -, -, -, -, -, hW₁, st1⟩ := Steps.initColdS (tb := p.tables) (e := e) (below := below) (s := s) (U := W) X.here hexec X.warmed hpl hown (t := Bundle.initS cls) rfl rfl (Bundle.fit_spec hcls).2
    (a' (.methodLink own ic (Bundle.initS cls)) (by simp [Bundle.ownAtoms])) (h (.instanceMethod (Bundle.initS cls)) (by cases names <;> simp [Bundle.ownAtoms, Bundle.chainSAtoms, Bundle.passSAtoms])) (bytes := Bundle.six) (maxL := 2) (h (.code (Bundle.initS cls) Bundle.six 2 none) (by cases names <;> simp [Bundle.ownAtoms, Bundle.chainSAtoms, Bundle.passSAtoms]))
    (f := g) hg (a := a) (msg := msg) (rest := .ref a :: rest) hstack hd6
  cases Option.some.inj (hnC.symm.trans hP1m)
  have X₁ := X.noted hW₁
  obtain ⟨vm₂, X₂, st2⟩ := X₁.ctorMessageOffV hexec (g := { g with stack := .ref a :: rest }) hg hsize T L Z LZ M LM (P1 :: Ps)
    (fun P hP => by rcases List.mem_cons.mp hP with rfl | hP; exact L1; exact hL P hP) ⟨hlink1, hlink⟩ (u0 := u0) (sen := sen) (self := a) hmsg (cell := freshCell P1.m.cls kX) (cellS := cellS)
    hcell (fun _ => by simp) (by simp) rfl rfl hsel0 hselF hcellS hneS hknownS (by rw [hkeep _ (hout' _)]; exact hu0) (by rw [hkeep _ (hout' _)]; exact hsen)
    (Takes.of_laid hk hord tyC (by rw [Y.causeType]; rfl)) (Takes.of_laid hk hord tyS (by rw [Y.stackType]; exact fits_refV_array _ u0)) (Takes.of_laid hk hord tyP (by rw [Y.suppType]; exact fits_refV_object _ sen))
    (Takes.of_laid hk hord tyM (by rw [Y.msgType]; exact fits_refV_object _ ⟨msg, hmsg⟩)) Y.objLocals hskip htr [] hd6
    (by simp only [List.length_cons, hlen]; omega) (by simp only [List.length_cons, hlen]; exact hRlocals)
  have hlt : a < ((W.setVm vm₁).setVm vm₂).heap.size := (Array.getElem?_eq_some_iff.mp hcell).1
  refine ⟨(W.setVm vm₁).setVm vm₂, _, _, X₂, fun y hy => ?_, hlt, rfl, rfl, fun target hwalk => st1 _ (fun acts => ?_)⟩
  · simp only [List.mem_cons, List.not_mem_nil, or_false] at hy
    rcases hy with rfl | rfl | rfl | rfl | rfl <;> rfl
  · rw [doInvoke_state]
    exact st2 _ hwalk
set_option maxHeartbeats 1000000 in
theorem vx_ctorMade0 (X : Stand p l e R s m₀ args below meth c W locs cells slots) (hexec : p.tables.exec = Jvm.exec) (htr : e.platform.stackTraces = false) {own cls : String} {names : List String} {ic : Nat}
    (hown : s.vm.findClass own = some m₀.cls) (hcls : Bundle.fit cls = true) (hnames : ∀ n ∈ names, Bundle.fit n = true)
    (h : ∀ a ∈ Bundle.ownAtoms0 own ic cls names, a.before args s = true)
    (hlocs : ∀ x ∈ locs, ∀ cell, s.heap[x.base]? = some cell → cell.vm.isStatics = false)
    {a : Addr} {cX : ClassId} {kX : Class} (hfoundX : s.vm.findClass cls = some cX) (hkX : s.vm.classes[cX]? = some kX) (hcell : W.heap[a]? = some (freshCell cX kX)) (hnew : s.heap.size ≤ a)
    {g : JFrame} (hg : g.method = m₀) (hsize : g.locals.size = c.maxLocals) {rest : List Value} (hstack : g.stack = .ref a :: .ref a :: rest)
    (hd6 : decode c.code g.pc = .ok (.invokespecial ic, 3))
    (hRframes : names.length + 3 < R.frames) (hRlocals : 2 * g.monitorRoom + ((Value.ref a :: rest).map fun v => v.category).sum + (13 * (names.length + 1) + 41) ≤ R.locals) :
    ∃ (V : State) (ce : Cell) (L : List Loc), Stand p l e R s m₀ args below meth c (V.setCell a ce) (locs ++ L) cells slots ∧ (∀ y ∈ L, y.base = a) ∧ a < V.heap.size ∧ ce.cls = cX ∧ ce.vm = .none ∧
      ∀ target, Steps p.tables e below ((V.setCell a ce).setTop { g with stack := .ref a :: rest, pc := g.pc + 3 }) target → Steps p.tables e below (W.setTop g) target := by
  have howns : e.platform.frameOwnsMonitors = true := by rw [X.admits.platform]
  have hfin : e.platform.finalization = false := by rw [X.admits.platform]
  have hpl : e.platform.magicAccessors = ({} : Platform).magicAccessors := by rw [X.admits.platform]
  have a' : ∀ x, x ∈ Bundle.ownAtoms0 own ic cls names → x.holds args s none s [] = true := fun x hx => h x hx
  obtain ⟨T, Z, L, LZ, Y⟩ := ThrowableC.of_atoms (args := args) howns hfin hpl (fun x hx => h x (by simp [Bundle.ownAtoms0, hx]))
  obtain ⟨P1, Ps, hlen, L1, hL, hP1m, hlink1, hlink⟩ := Bundle.chain0 (args := args) hpl Y.init0 names cls hcls hnames (fun x hx => h x (by simp [Bundle.ownAtoms0, hx]))
  have hfound : s.vm.findClass cls = some P1.m.cls := findClass_of_methodNamed hP1m
  cases Option.some.inj (hfoundX.symm.trans hfound)
  obtain ⟨c1, kX', hc1, hk, hord, -, -, hn6⟩ := Cond.instantiable_spec (a' (.instantiable cls 6) (by simp [Bundle.ownAtoms0]))
  cases Option.some.inj (hc1.symm.trans hfound)
  cases Option.some.inj (hkX.symm.trans hk)
  have hsel0 : selectMethod e.platform s.vm P1.m.cls T.fill0 = .method T.fill0 := by
    obtain ⟨c2, r2, m2, q1, q2, q3, q4, -⟩ := Cond.selects_spec (a' (.selects cls Bundle.tFill0 Bundle.tFill0) (by simp [Bundle.ownAtoms0]))
    cases Option.some.inj (q1.symm.trans hfound)
    cases Option.some.inj (q2.symm.trans (State.methodFound?_of_named Y.fill0 (by decide)))
    cases Option.some.inj (q3.symm.trans Y.fill0)
    rw [Launch.admits_selectMethod X.admits]; exact q4
  have hselF : selectMethod e.platform s.vm P1.m.cls T.fill = .method T.fill := by
    obtain ⟨c2, r2, m2, q1, q2, q3, q4, -⟩ := Cond.selects_spec (a' (.selects cls Bundle.tFill Bundle.tFill) (by simp [Bundle.ownAtoms0]))
    cases Option.some.inj (q1.symm.trans hfound)
    cases Option.some.inj (q2.symm.trans (State.methodFound?_of_named Y.fill (by decide)))
    cases Option.some.inj (q3.symm.trans Y.fill)
    rw [Launch.admits_selectMethod X.admits]; exact q4
  obtain ⟨cellS0, hcS0, hiss⟩ := Y.statics
  obtain ⟨u0, hu0⟩ := Cond.staticRefV Y.unassigned L.unassignedStatic L.statics hcS0 hiss (a' (.isRef (.static Bundle.tN "UNASSIGNED_STACK" Bundle.steD)) (by simp [Bundle.ownAtoms0]))
  obtain ⟨sen, hsen⟩ := Cond.staticRefV Y.sentinel L.sentinelStatic L.statics hcS0 hiss (a' (.isRef (.static Bundle.tN "SUPPRESSED_SENTINEL" Bundle.listD)) (by simp [Bundle.ownAtoms0]))
  obtain ⟨ci198, i198, fB, hk198, hg198, ha198, hsB, -, hnB, htB, hffB⟩ := Cond.ownField (t := .object "java/lang/Object") Y.found L.cls (by decide +kernel) (a' (.fieldLink Bundle.tN 198 Bundle.tN "backtrace" "Ljava/lang/Object;") (by simp [Bundle.ownAtoms0])) (a' (.lays Bundle.tN Bundle.tN "backtrace" "Ljava/lang/Object;") (by simp [Bundle.ownAtoms0])) e.platform hpl
  obtain ⟨cellS, hcS', heS, -, hkeep⟩ := X.same.2.2.2.2.2 T.aS cellS0 hcS0
  have hcellS : W.heap[T.aS]? = some cellS := hcS'
  have hout' : ∀ i, (⟨T.aS, i⟩ : Loc) ∉ locs := fun i hmem => by
    have := hlocs _ hmem cellS0 hcS0
    rw [hiss] at this; cases this
  have hknownS : cellS.vm ≠ .unknown := by
    rw [heS]; intro hu
    rw [show cellS0.vm = .unknown from hu] at hiss
    cases hiss
  have hneS : T.aS ≠ a := Nat.ne_of_lt (Nat.lt_of_lt_of_le (Array.getElem?_eq_some_iff.mp hcS0).1 hnew)
  obtain ⟨iM, hffM⟩ := Y.msg
  obtain ⟨tyC, dC, hdC, hdnC⟩ := Cond.laysAt hfound hk Y.cause (a' (.lays cls Bundle.tN "cause" "Ljava/lang/Throwable;") (by simp [Bundle.ownAtoms0]))
  obtain ⟨tyS, dS, hdS, hdnS⟩ := Cond.laysAt hfound hk Y.stack (a' (.lays cls Bundle.tN "stackTrace" Bundle.steD) (by simp [Bundle.ownAtoms0]))
  obtain ⟨tyP, dP, hdP, hdnP⟩ := Cond.laysAt hfound hk Y.supp (a' (.lays cls Bundle.tN "suppressedExceptions" Bundle.listD) (by simp [Bundle.ownAtoms0]))
  obtain ⟨tyM, dM, hdM, hdnM⟩ := Cond.laysAt hfound hk hffM (a' (.lays cls Bundle.tN "detailMessage" "Ljava/lang/String;") (by simp [Bundle.ownAtoms0]))
  obtain ⟨tyB, dB, hdB, hdnB⟩ := Cond.laysAt hfound hk hffB (a' (.lays cls Bundle.tN "backtrace" "Ljava/lang/Object;") (by simp [Bundle.ownAtoms0]))
  have bC := Cond.laysApart hdB hdC hdnB hdnC (by rw [hnB, Y.causeName]; decide)
  have bS := Cond.laysApart hdB hdS hdnB hdnS (by rw [hnB, Y.stackName]; decide)
  have bP := Cond.laysApart hdB hdP hdnB hdnP (by rw [hnB, Y.suppName]; decide)
  have hskip : SkipFacts T e.platform s (fun u => u) u0 ((preparedCellV T.toThrowableT (freshCell P1.m.cls kX) a u0 sen).withEntry W.cur) :=
    ⟨{ ci198 := ci198, i198 := i198, fBack := fB }, ⟨hk198, hg198, ha198, hsB⟩, by
      have := fresh_default (c := P1.m.cls) tyB
      rw [htB] at this
      simpa [preparedCellV, Cell.setSlot, Cell.withEntry, Array.getElem?_setIfInBounds, bC, bS, bP, bC.symm, bS.symm, bP.symm, defaultValue] using this, fun _ _ => rfl⟩
  obtain ⟨tm, methC, cdC, kC, vm₁, hnC, -, -, -, -, -, -, -, hW₁, st1⟩ := Steps.initCold (tb := p.tables) (e := e) (below := below) (s := s) (U := W) X.here hexec X.warmed hpl hown (t := Bundle.init0 cls) rfl rfl (Bundle.fit_spec hcls).2
    (a' (.methodLink own ic (Bundle.init0 cls)) (by simp [Bundle.ownAtoms0])) (h (.instanceMethod (Bundle.init0 cls)) (by cases names <;> simp [Bundle.ownAtoms0, Bundle.chain0Atoms, Bundle.passAtoms])) (bytes := Bundle.five) (maxL := 1) (h (.code (Bundle.init0 cls) Bundle.five 1 none) (by cases names <;> simp [Bundle.ownAtoms0, Bundle.chain0Atoms, Bundle.passAtoms]))
    (f := g) hg (a := a) (rest := .ref a :: rest) hstack hd6
  cases Option.some.inj (hnC.symm.trans hP1m)
  have X₁ := X.noted hW₁
  obtain ⟨vm₂, X₂, st2⟩ := X₁.ctorPlainOffV hexec (g := { g with stack := .ref a :: rest }) hg hsize T L Z LZ (P1 :: Ps)
    (fun P hP => by rcases List.mem_cons.mp hP with rfl | hP; exact L1; exact hL P hP) ⟨hlink1, hlink⟩ (u0 := u0) (sen := sen) (self := a) (cell := freshCell P1.m.cls kX) (cellS := cellS)
    hcell (fun _ => by simp) (by simp) rfl rfl hsel0 hselF hcellS hneS hknownS (by rw [hkeep _ (hout' _)]; exact hu0) (by rw [hkeep _ (hout' _)]; exact hsen)
    (Takes.of_laid hk hord tyC (by rw [Y.causeType]; rfl)) (Takes.of_laid hk hord tyS (by rw [Y.stackType]; exact fits_refV_array _ u0)) (Takes.of_laid hk hord tyP (by rw [Y.suppType]; exact fits_refV_object _ sen)) Y.objLocals hskip htr [] hd6
    (by simp only [List.length_cons, hlen]; omega) (by simp only [List.length_cons, hlen]; exact hRlocals)
  have hlt : a < ((W.setVm vm₁).setVm vm₂).heap.size := (Array.getElem?_eq_some_iff.mp hcell).1
  refine ⟨(W.setVm vm₁).setVm vm₂, _, _, X₂, fun y hy => ?_, hlt, rfl, rfl, fun target hwalk => st1 _ (fun acts => ?_)⟩
  · simp only [List.mem_cons, List.not_mem_nil, or_false] at hy
    rcases hy with rfl | rfl | rfl | rfl <;> rfl
  · rw [doInvoke_state]
    exact st2 _ hwalk
end VXK
section VXK2
variable {p : Program} {l : Launch} {e : Env} {R : Room} {s : State} {m : MethodId} {args : Array Value} {below : List Frame} {meth : Method} {c : Code} {H : Heap} {locs : List Loc} {cells slots : Nat} {Q : State → Prop}
variable {ls : Array Slot} {rest : List Value} {D : va_G} {cl : List vw_C} {tys : List (ClassId × FieldType)} {ws : va_W}
/-- 'new E("text")' that isn't thrown at once: the object goes on the stack -/
theorem vx_makeS {cc : ByteArray} {pc : Nat} (hexec : p.tables.exec = Jvm.exec) (hb : c.code = cc) (hl : l.stackTraces = false) {own cls text : String} {names : List String} {ik is ic sa ci : Nat} {A : Nat → Prop} {T0 : u_T}
    (hown : s.vm.findClass own = some m.cls) (hcls : Bundle.fit cls = true) (hnames : ∀ n ∈ names, Bundle.fit n = true)
    (hk : (Cond.classLink own ik cls).before args s = true) (hini : (Cond.initialized cls).before args s = true) (hstr : vk_R own is text sa s) (hat : ∀ w ∈ vx_atS own ic cls names, w.before args s = true)
    (hgood : ∀ w ∈ Cond.classLink own ik cls :: Cond.initialized cls :: vx_atS own ic cls names, vx_ot w = true)
    (hU : vx_Zq Bundle.tN "UNASSIGNED_STACK" Bundle.steD A s s.heap) (hN : vx_Zq Bundle.tN "SUPPRESSED_SENTINEL" Bundle.listD A s s.heap) (hS : va_S A s.heap H locs) (hsize : ls.size = c.maxLocals)
    (d0 : decode cc pc = .ok (.new ik, 3)) (d3 : decode cc (pc + 3) = .ok (.dup, 1)) (d4 : decode cc (pc + 4) = .ok (.ldc is, 2)) (d6 : decode cc (pc + 6) = .ok (.invokespecial ic, 3))
    (hK : va_K D cl tys s) (hP : va_P D cl ws H) (hD : va_D A ws) (hA : ∀ q, s.heap.size ≤ q → A q) (hc : cl[ci]? = some (cls, T0, 0))
    (hRframes : names.length + 3 < R.frames) (hRlocals : (rest.map fun v => v.category).sum + (13 * (names.length + 1) + 43) ≤ R.locals) (hRcells : cells + 1 ≤ R.cells) (hRslots : slots + 6 ≤ R.slots)
    (kk : ∀ (q : Nat) (H1 : Heap), va_P D cl (ws ++ [(q, .inr (ci, []))]) H1 → va_D A (ws ++ [(q, .inr (ci, []))]) → va_S A s.heap H1 locs → W p l e R s m args below meth c H1 locs (cells + 1) (slots + 6) Q (F0 m (pc + 9) ls (.ref q :: rest))) :
    W p l e R s m args below meth c H locs cells slots Q (F0 m pc ls rest) := by
  intro T hT X
  subst hT
  have htr : e.platform.stackTraces = false := (show e.platform.stackTraces = l.stackTraces by rw [X.admits.platform]).trans hl
  have Y := vx_rebase X (R' := { frames := R.frames, locals := R.locals, cells := 1, slots := 6 }) (Nat.le_refl _) (Nat.le_refl _) hRcells hRslots
  obtain ⟨s', hA'⟩ : ∃ z, z = (T.setVm s.vm).setFrames (.invoking m args :: below) := ⟨_, rfl⟩
  rw [← hA'] at Y
  have hvm : s'.vm = s.vm := by rw [hA']; rfl
  have hhp : s'.heap = T.heap := by rw [hA']; rfl
  have hW0 : s.WarmedH s'.vm := by rw [hvm]; exact State.WarmedH.refl s
  have hat' : ∀ w ∈ vx_atS own ic cls names, w.before args s' = true := fun w hw => vx_ot_at hW0 hvm.symm (hgood w (List.mem_cons_of_mem _ (List.mem_cons_of_mem _ hw))) (hat w hw)
  have hk' : (Cond.classLink own ik cls).before args s' = true := vx_ot_at hW0 hvm.symm (hgood _ List.mem_cons_self) hk
  have hini' : (Cond.initialized cls).before args s' = true := vx_ot_at hW0 hvm.symm (hgood _ (List.mem_cons_of_mem _ List.mem_cons_self)) hini
  have hU' : vx_Zq Bundle.tN "UNASSIGNED_STACK" Bundle.steD A s' s'.heap := by rw [hhp]; exact vx_Zq.moved hW0.alike (hU.kept hS.2.1)
  have hN' : vx_Zq Bundle.tN "SUPPRESSED_SENTINEL" Bundle.listD A s' s'.heap := by rw [hhp]; exact vx_Zq.moved hW0.alike (hN.kept hS.2.1)
  have h : ∀ w ∈ Bundle.ownAtoms own ic cls names, w.before args s' = true := vx_own hat' (vx_isRefq hU'.1) (vx_isRefq hN'.1) hU'.2.word hN'.2.word
  have hown' : s'.vm.findClass own = some m.cls := by rw [hvm]; exact hown
  have hins : (Cond.instantiable cls 6).before args s' = true := h _ (by simp [Bundle.ownAtoms])
  obtain ⟨vm₁, cX, kX, hfX, hkX, -, -, X₁, st1⟩ := Y.newCold hexec (own := own) (C := cls) (index := ik) (n := 6) hown' hk' hins hini'
    (g := F0 m pc ls rest) rfl (by rw [hb]; exact d0) (Nat.le_refl _) (Nat.le_refl _)
  generalize hT1 : (T.setVm vm₁).pushCell { cls := cX, slots := kX.instanceTypes.map defaultValue, vm := .none } = T1 at X₁ st1
  have hcat : (Value.ref T.heap.size).category = 1 := rfl
  have hcellA : T1.heap[T.heap.size]? = some (freshCell cX kX) := by rw [← hT1]; exact State.heap_pushCell_size _ _
  have d3' : decode c.code (pc + 3) = .ok (.dup, 1) := by rw [hb]; exact d3
  have d4' : decode c.code (pc + 4) = .ok (.ldc is, 2) := by rw [hb]; exact d4
  have hstr' : vk_R own is text sa s' := vk_R.warm hW0 hstr
  obtain ⟨V, ce, L, Z, hL, hlt, hcl9, hvm9, st⟩ := vx_ctorMadeS X₁ hexec htr (own := own) (cls := cls) (names := names) (ic := ic) hown' hcls hnames h (fun x hx => nomatch hx) hfX hkX hcellA (by rw [hhp]; exact Nat.le_refl _) (msg := .ref sa) rfl
    (g := { method := m, pc := pc + 6, locals := ls, stack := .ref sa :: .ref T.heap.size :: .ref T.heap.size :: rest, locked := none }) rfl hsize (rest := rest) rfl
    (by rw [hb]; exact d6) hRframes (by simp only [List.map_cons, List.sum_cons, hcat]; omega)
  have Z0 := Stand.forget (locs := []) Z (fun y hy => by rw [hL y hy, hhp]; exact Nat.le_refl _)
  obtain ⟨f1, f2⟩ := vx_frame Z0.same
  rw [hhp] at f1 f2
  have hcid : ce.cls = D.1 ci := by
    rw [hcl9]
    have h1 := (hK.1 ci _ hc).2.1
    rw [hvm] at hfX
    exact Option.some.inj (hfX.symm.trans h1)
  have hh : (V.setCell T.heap.size ce).heap[T.heap.size]? = some ce := heapAt_setCell_self (s := V) ce hlt
  subst hA'
  have X5 := vx_back9 X Y Z0
  have X6 : Stand p l e R s m args below meth c (V.setCell T.heap.size ce) locs (cells + 1) (slots + 6) := { X5 with same := X5.same.mono (by omega) (by omega) }
  have hk9 : ∀ (k : Nat) (x : Nat × va_E), ws[k]? = some x → (V.setCell T.heap.size ce).heap[x.1]? = T.heap[x.1]? := fun k x hx => f2 x.1 ((hP k x hx).lt) (fun z hz => nomatch hz)
  obtain ⟨t, a1, b1⟩ := kk T.heap.size (V.setCell T.heap.size ce).heap ((hP.kept hk9).app (fun k x hx => by
      have hz : k < 1 := (List.getElem?_eq_some_iff.mp hx).1
      rw [show k = 0 by omega] at hx
      cases hx
      exact ⟨_, hc, ce, hh, hcid, hvm9, fun k hk => absurd hk (Nat.not_lt_zero k)⟩)) (hD.push hP rfl (hA _ hS.1)) ⟨Nat.le_trans hS.1 f1, fun q h1 h2 => (f2 q (Nat.lt_of_lt_of_le h1 hS.1) (fun z hz => nomatch hz)).trans (hS.2.1 q h1 h2), hS.2.2⟩ _ rfl X6
  refine ⟨t, st1 _ ?_, b1⟩
  show Steps p.tables e below (T1.setTop { method := m, pc := pc + 3, locals := ls, stack := .ref T.heap.size :: rest, locked := none }) _
  jvm_step X₁.here [X₁.here.top, hexec, d3', Value.category]
  exact X₁.ldcString hexec (own := own) (text := text) (index := is) (a := sa) hown' hstr'.1 hstr'.2
    (g := { method := m, pc := pc + 4, locals := ls, stack := .ref T.heap.size :: .ref T.heap.size :: rest, locked := none }) rfl d4' _ (st _ a1)
/-- 'new E()' that isn't thrown at once: the object goes on the stack -/
theorem vx_make0 {cc : ByteArray} {pc : Nat} (hexec : p.tables.exec = Jvm.exec) (hb : c.code = cc) (hl : l.stackTraces = false) {own cls : String} {names : List String} {ik ic ci : Nat} {A : Nat → Prop} {T0 : u_T}
    (hown : s.vm.findClass own = some m.cls) (hcls : Bundle.fit cls = true) (hnames : ∀ n ∈ names, Bundle.fit n = true)
    (hk : (Cond.classLink own ik cls).before args s = true) (hini : (Cond.initialized cls).before args s = true) (hat : ∀ w ∈ vx_at0 own ic cls names, w.before args s = true)
    (hgood : ∀ w ∈ Cond.classLink own ik cls :: Cond.initialized cls :: vx_at0 own ic cls names, vx_ot w = true)
    (hU : vx_Zq Bundle.tN "UNASSIGNED_STACK" Bundle.steD A s s.heap) (hN : vx_Zq Bundle.tN "SUPPRESSED_SENTINEL" Bundle.listD A s s.heap) (hS : va_S A s.heap H locs) (hsize : ls.size = c.maxLocals)
    (d0 : decode cc pc = .ok (.new ik, 3)) (d3 : decode cc (pc + 3) = .ok (.dup, 1)) (d4 : decode cc (pc + 4) = .ok (.invokespecial ic, 3))
    (hK : va_K D cl tys s) (hP : va_P D cl ws H) (hD : va_D A ws) (hA : ∀ q, s.heap.size ≤ q → A q) (hc : cl[ci]? = some (cls, T0, 0))
    (hRframes : names.length + 3 < R.frames) (hRlocals : (rest.map fun v => v.category).sum + (13 * (names.length + 1) + 42) ≤ R.locals) (hRcells : cells + 1 ≤ R.cells) (hRslots : slots + 6 ≤ R.slots)
    (kk : ∀ (q : Nat) (H1 : Heap), va_P D cl (ws ++ [(q, .inr (ci, []))]) H1 → va_D A (ws ++ [(q, .inr (ci, []))]) → va_S A s.heap H1 locs → W p l e R s m args below meth c H1 locs (cells + 1) (slots + 6) Q (F0 m (pc + 7) ls (.ref q :: rest))) :
    W p l e R s m args below meth c H locs cells slots Q (F0 m pc ls rest) := by
  intro T hT X
  subst hT
  have htr : e.platform.stackTraces = false := (show e.platform.stackTraces = l.stackTraces by rw [X.admits.platform]).trans hl
  have Y := vx_rebase X (R' := { frames := R.frames, locals := R.locals, cells := 1, slots := 6 }) (Nat.le_refl _) (Nat.le_refl _) hRcells hRslots
  obtain ⟨s', hA'⟩ : ∃ z, z = (T.setVm s.vm).setFrames (.invoking m args :: below) := ⟨_, rfl⟩
  rw [← hA'] at Y
  have hvm : s'.vm = s.vm := by rw [hA']; rfl
  have hhp : s'.heap = T.heap := by rw [hA']; rfl
  have hW0 : s.WarmedH s'.vm := by rw [hvm]; exact State.WarmedH.refl s
  have hat' : ∀ w ∈ vx_at0 own ic cls names, w.before args s' = true := fun w hw => vx_ot_at hW0 hvm.symm (hgood w (List.mem_cons_of_mem _ (List.mem_cons_of_mem _ hw))) (hat w hw)
  have hk' : (Cond.classLink own ik cls).before args s' = true := vx_ot_at hW0 hvm.symm (hgood _ List.mem_cons_self) hk
  have hini' : (Cond.initialized cls).before args s' = true := vx_ot_at hW0 hvm.symm (hgood _ (List.mem_cons_of_mem _ List.mem_cons_self)) hini
  have hU' : vx_Zq Bundle.tN "UNASSIGNED_STACK" Bundle.steD A s' s'.heap := by rw [hhp]; exact vx_Zq.moved hW0.alike (hU.kept hS.2.1)
  have hN' : vx_Zq Bundle.tN "SUPPRESSED_SENTINEL" Bundle.listD A s' s'.heap := by rw [hhp]; exact vx_Zq.moved hW0.alike (hN.kept hS.2.1)
  have h : ∀ w ∈ Bundle.ownAtoms0 own ic cls names, w.before args s' = true := vx_own hat' (vx_isRefq hU'.1) (vx_isRefq hN'.1) hU'.2.word hN'.2.word
  have hown' : s'.vm.findClass own = some m.cls := by rw [hvm]; exact hown
  have hins : (Cond.instantiable cls 6).before args s' = true := h _ (by simp [Bundle.ownAtoms0])
  obtain ⟨vm₁, cX, kX, hfX, hkX, -, -, X₁, st1⟩ := Y.newCold hexec (own := own) (C := cls) (index := ik) (n := 6) hown' hk' hins hini'
    (g := F0 m pc ls rest) rfl (by rw [hb]; exact d0) (Nat.le_refl _) (Nat.le_refl _)
  generalize hT1 : (T.setVm vm₁).pushCell { cls := cX, slots := kX.instanceTypes.map defaultValue, vm := .none } = T1 at X₁ st1
  have hcat : (Value.ref T.heap.size).category = 1 := rfl
  have hcellA : T1.heap[T.heap.size]? = some (freshCell cX kX) := by rw [← hT1]; exact State.heap_pushCell_size _ _
  have d3' : decode c.code (pc + 3) = .ok (.dup, 1) := by rw [hb]; exact d3
  obtain ⟨V, ce, L, Z, hL, hlt, hcl9, hvm9, st⟩ := vx_ctorMade0 X₁ hexec htr (own := own) (cls := cls) (names := names) (ic := ic) hown' hcls hnames h (fun x hx => nomatch hx) hfX hkX hcellA (by rw [hhp]; exact Nat.le_refl _)
    (g := { method := m, pc := pc + 4, locals := ls, stack := .ref T.heap.size :: .ref T.heap.size :: rest, locked := none }) rfl hsize (rest := rest) rfl
    (by rw [hb]; exact d4) hRframes (by simp only [List.map_cons, List.sum_cons, hcat]; omega)
  have Z0 := Stand.forget (locs := []) Z (fun y hy => by rw [hL y hy, hhp]; exact Nat.le_refl _)
  obtain ⟨f1, f2⟩ := vx_frame Z0.same
  rw [hhp] at f1 f2
  have hcid : ce.cls = D.1 ci := by
    rw [hcl9]
    have h1 := (hK.1 ci _ hc).2.1
    rw [hvm] at hfX
    exact Option.some.inj (hfX.symm.trans h1)
  have hh : (V.setCell T.heap.size ce).heap[T.heap.size]? = some ce := heapAt_setCell_self (s := V) ce hlt
  subst hA'
  have X5 := vx_back9 X Y Z0
  have X6 : Stand p l e R s m args below meth c (V.setCell T.heap.size ce) locs (cells + 1) (slots + 6) := { X5 with same := X5.same.mono (by omega) (by omega) }
  have hk9 : ∀ (k : Nat) (x : Nat × va_E), ws[k]? = some x → (V.setCell T.heap.size ce).heap[x.1]? = T.heap[x.1]? := fun k x hx => f2 x.1 ((hP k x hx).lt) (fun z hz => nomatch hz)
  obtain ⟨t, a1, b1⟩ := kk T.heap.size (V.setCell T.heap.size ce).heap ((hP.kept hk9).app (fun k x hx => by
      have hz : k < 1 := (List.getElem?_eq_some_iff.mp hx).1
      rw [show k = 0 by omega] at hx
      cases hx
      exact ⟨_, hc, ce, hh, hcid, hvm9, fun k hk => absurd hk (Nat.not_lt_zero k)⟩)) (hD.push hP rfl (hA _ hS.1)) ⟨Nat.le_trans hS.1 f1, fun q h1 h2 => (f2 q (Nat.lt_of_lt_of_le h1 hS.1) (fun z hz => nomatch hz)).trans (hS.2.1 q h1 h2), hS.2.2⟩ _ rfl X6
  refine ⟨t, st1 _ ?_, b1⟩
  show Steps p.tables e below (T1.setTop { method := m, pc := pc + 3, locals := ls, stack := .ref T.heap.size :: rest, locked := none }) _
  jvm_step X₁.here [X₁.here.top, hexec, d3', Value.category]
  exact st _ a1
/-- 'throw x' of an object that was made before -/
theorem vx_athrow {cc : ByteArray} {pc : Nat} (hexec : p.tables.exec = Jvm.exec) (hb : c.code = cc) {q : Addr} (hdg : decode cc pc = .ok (.athrow, 1)) (k : vx_W p l e R s m args below meth c H locs cells slots Q (F0 m pc ls rest) q) : W p l e R s m args below meth c H locs cells slots Q (F0 m pc ls (.ref q :: rest)) := by
  intro T hT X
  obtain ⟨t, st, hq⟩ := k T hT X
  refine ⟨t, ?_, hq⟩
  have hdg' : decode c.code pc = .ok (.athrow, 1) := by rw [hb]; exact hdg
  jvm_step X.here [X.here.top, hexec, hdg', athrow.wp_sem]
  exact st
end VXK2
/-! ===== END ===== -/
/-! ===== BEGIN a constructor that throws (launches without stack traces) ===== -/
section VXIA
variable {p : Program} {l : Launch} {e : Env} {R : Room} {s : State} {m : MethodId} {args : Array Value} {below : List Frame} {meth : Method} {c : Code} {T : State} {locs : List Loc} {cells slots : Nat}
theorem vx_callI (X : Stand p l e R s m args below meth c T locs cells slots) (hexec : p.tables.exec = Jvm.exec) {own : String} {index : Nat} {y : MethodName} {bytes : ByteArray} {maxL : Nat}
    (hown : s.vm.findClass own = some m.cls) (hy1 : y.name = "<init>") (hlink : (Cond.methodLink own index y).before args s = true) (hinst : (Cond.instanceMethod y).before args s = true)
    (hcode : (Cond.code y bytes maxL none).before args s = true) (hy : y.cls ≠ "java/lang/invoke/MethodHandle" ∧ y.cls ≠ "java/lang/invoke/VarHandle")
    {W9 : Nat} {Pre : Pt → Array Value → Prop} {Post : Pt → Array Value → Option Value → Pt → Prop} {PostX : Pt → Array Value → Addr → Pt → Prop} (hK : vx_Back l R p e below s args y 3 W9 Pre Post PostX)
    {g : JFrame} (hg : g.method = m) (hsize : g.locals.size = c.maxLocals) {a : Addr} {argsL rest : List Value} (hlen : ∀ sig, parseMethodDescriptor y.desc = some sig → argsL.length = sig.parameters.length)
    (hstack : g.stack = argsL.reverse ++ .ref a :: rest) (hW : 2 * g.monitorRoom + (rest.map fun v => v.category).sum ≤ W9) (hdg : decode c.code g.pc = .ok (.invokespecial index, 3))
    (hpre : ∀ vm₁, s.WarmedH vm₁ → Pre ⟨T.setVm vm₁, locs, cells, slots⟩ (Value.ref a :: argsL).toArray) :
    (∃ (v : Option Value) (vm₁ : Vm) (B : Pt), s.WarmedH vm₁ ∧ Stand p l e R s m args below meth c B.U B.locs B.cells B.slots ∧ Post ⟨T.setVm vm₁, locs, cells, slots⟩ (Value.ref a :: argsL).toArray v B ∧
      ∀ target, Steps p.tables e below (B.U.setTop { g with pc := g.pc + 3, stack := v.toList ++ rest }) target → Steps p.tables e below (T.setTop g) target) ∨
    (∃ (q : Addr) (vm₁ : Vm) (B : Pt), s.WarmedH vm₁ ∧ Stand p l e R s m args below meth c B.U B.locs B.cells B.slots ∧ PostX ⟨T.setVm vm₁, locs, cells, slots⟩ (Value.ref a :: argsL).toArray q B ∧
      Steps p.tables e below (T.setTop g) ((B.U.setTop { g with stack := rest }).pushFrame (.throwing q))) := by
  subst hg
  have hpl : e.platform.magicAccessors = ({} : Platform).magicAccessors := by rw [X.admits.platform]
  obtain ⟨mk, methM, cM, kP, vm₁, hnamed, hmethM, hcodeM, -, hlocalsM, -, hkP, -, hW₁, hstep₁⟩ := Steps.initColdArgs (e := e) X.here hexec X.warmed hpl hown hy1 hy hlink hinst hcode (f := g) rfl hlen hstack hdg
  have X₁ := X.noted hW₁
  rcases hK g.method meth c ⟨T.setVm vm₁, locs, cells, slots⟩ { g with stack := rest } (.invokespecial index) mk (Value.ref a :: argsL).toArray X₁ rfl hsize hdg hW (X₁.named hnamed) (hpre vm₁ X₁.warmed) with ⟨v, B, X', hpost, hsteps⟩ | ⟨q, B, X', hpost, hsteps⟩
  · exact Or.inl ⟨v, vm₁, B, X₁.warmed, X', hpost, fun target h => hstep₁ _ fun acts => by rw [doInvoke_state]; exact hsteps.trans h⟩
  · exact Or.inr ⟨q, vm₁, B, X₁.warmed, X', hpost, hstep₁ _ fun acts => by rw [doInvoke_state]; exact hsteps⟩
end VXIA
section VXIB
variable {p : Program} {l : Launch} {e : Env} {R : Room} {s : State} {m : MethodId} {args : Array Value} {below : List Frame} {meth : Method} {c : Code} {H : Heap} {locs : List Loc} {cells slots : Nat}
variable {y : MethodName} {bytes cc : ByteArray} {maxL nL mc ms n index : Nat} {ret : Option FieldType} {ws : List Cond} {rm : Room} {Pc : Array Value → State → Prop} {Qc : Array Value → State → Outcome → State → Prop} {XC : String → State → State → Prop} {free : Addr → Prop} {Ts : List Cond} {own C : String} {b : Addr} {As rest : List Value} {g : JFrame}
theorem vx_runI (S : CallFix p m c cc nL s args Ts own) (hM : vx_Met l y ws rm Pc Qc XC mc ms free) (cw : CallB R s args own index y bytes maxL none ws rm mc ms n ∧ y.name = "<init>" ∧ (Cond.instanceMethod y).before args s = true) (hp : PreS s H Pc (.ref b :: As))
    (hg : g.method = m) (hn : As.length = n) (hsize : g.locals.size = nL) (hstack : g.stack = As.reverse ++ .ref b :: rest) (hW : 2 * g.monitorRoom + (rest.map fun v => v.category).sum ≤ 8) (hdg : decode cc g.pc = .ok (.invokespecial index, 3)) (hf : cells + mc ≤ R.cells ∧ slots + ms ≤ R.slots) :
    vx_Run p l e R s m args below meth c H locs cells slots mc ms g rest (Qc (Value.ref b :: As).toArray) XC free := by
  have hK : vx_Back l R p e below s args y 3 8 (PreOf R mc ms Pc) (PostOf Qc mc ms free) (vx_Post XC mc ms free) := vx_callBack cw.1 hM hp.1
  obtain ⟨⟨-, -, -, -, -, -, hcode, -, hy, hlen, hl⟩, hy1, hin⟩ := cw
  obtain ⟨hx, hb, hml, ho, -⟩ := S
  have hPc := hp.2
  intro T hT X
  rcases vx_callI X hx (bytes := bytes) (maxL := maxL) ho hy1 hl hin hcode hy hK hg (hsize.trans hml.symm) (a := b) (argsL := As) (rest := rest) (fun sig h => hn.trans (hlen sig h)) hstack hW (by rw [hb]; exact hdg)
    (fun vm₁ hW₁ => ⟨hf.1, hf.2, hPc (T.setVm vm₁) hT hW₁⟩) with ⟨v, vm₁, ⟨U', l2, c2, s2⟩, hW₁, X', ⟨g', mk, t, L, e1, e2, hq, h1, hL, h2, h3⟩, st⟩ | ⟨q, vm₁, ⟨U', l2, c2, s2⟩, hW₁, X', ⟨g', mk, t, L, E, ce, e1, e2, hq, hce, hcv, hcl, h1, hL, h2, h3⟩, st⟩
  · dsimp only [Pt.U, Pt.locs, Pt.cells, Pt.slots] at X' e1 e2 h1 h2 h3 st
    subst h1; subst h2; subst h3
    exact Or.inl ⟨v, (T.setVm vm₁).calling g' mk (Value.ref b :: As).toArray, t, U', L, hT, X', hL, e1, e2, hq, st⟩
  · dsimp only [Pt.U, Pt.locs, Pt.cells, Pt.slots] at X' e1 e2 h1 h2 h3 st hcl
    subst h1; subst h2; subst h3
    exact Or.inr ⟨q, (T.setVm vm₁).calling g' mk (Value.ref b :: As).toArray, t, U', L, E, ce, hT, X', hL, e1, e2, hq, hce, hcv, vx_cls hW₁ hcl, st⟩
end VXIB
/-! ===== END ===== -/
/-! ===== BEGIN a private constructor of a nest mate that throws ===== -/
section VXIC
variable {p : Program} {l : Launch} {e : Env} {R : Room} {s : State} {m : MethodId} {args : Array Value} {below : List Frame} {meth : Method} {c : Code} {T : State} {locs : List Loc} {cells slots : Nat}
theorem vx_callIN (X : Stand p l e R s m args below meth c T locs cells slots) (hexec : p.tables.exec = Jvm.exec) {own : String} {index : Nat} {host : String} {y : MethodName} {bytes : ByteArray} {maxL : Nat}
    (hown : s.vm.findClass own = some m.cls) (hy1 : y.name = "<init>") (hlink : (Cond.methodLinkNest own index y host).before args s = true) (hinst : (Cond.instanceMethod y).before args s = true)
    (hcode : (Cond.code y bytes maxL none).before args s = true) (hy : y.cls ≠ "java/lang/invoke/MethodHandle" ∧ y.cls ≠ "java/lang/invoke/VarHandle")
    {W9 : Nat} {Pre : Pt → Array Value → Prop} {Post : Pt → Array Value → Option Value → Pt → Prop} {PostX : Pt → Array Value → Addr → Pt → Prop} (hK : vx_Back l R p e below s args y 3 W9 Pre Post PostX)
    {g : JFrame} (hg : g.method = m) (hsize : g.locals.size = c.maxLocals) {a : Addr} {argsL rest : List Value} (hlen : ∀ sig, parseMethodDescriptor y.desc = some sig → argsL.length = sig.parameters.length)
    (hstack : g.stack = argsL.reverse ++ .ref a :: rest) (hW : 2 * g.monitorRoom + (rest.map fun v => v.category).sum ≤ W9) (hdg : decode c.code g.pc = .ok (.invokespecial index, 3))
    (hpre : ∀ vm₁, s.WarmedH vm₁ → Pre ⟨T.setVm vm₁, locs, cells, slots⟩ (Value.ref a :: argsL).toArray) :
    (∃ (v : Option Value) (vm₁ : Vm) (B : Pt), s.WarmedH vm₁ ∧ Stand p l e R s m args below meth c B.U B.locs B.cells B.slots ∧ Post ⟨T.setVm vm₁, locs, cells, slots⟩ (Value.ref a :: argsL).toArray v B ∧
      ∀ target, Steps p.tables e below (B.U.setTop { g with pc := g.pc + 3, stack := v.toList ++ rest }) target → Steps p.tables e below (T.setTop g) target) ∨
    (∃ (q : Addr) (vm₁ : Vm) (B : Pt), s.WarmedH vm₁ ∧ Stand p l e R s m args below meth c B.U B.locs B.cells B.slots ∧ PostX ⟨T.setVm vm₁, locs, cells, slots⟩ (Value.ref a :: argsL).toArray q B ∧
      Steps p.tables e below (T.setTop g) ((B.U.setTop { g with stack := rest }).pushFrame (.throwing q))) := by
  subst hg
  have hpl : e.platform.magicAccessors = ({} : Platform).magicAccessors := by rw [X.admits.platform]
  obtain ⟨mk, methM, cM, kP, vm₁, hnamed, hmethM, hcodeM, -, hlocalsM, -, hkP, -, hW₁, hstep₁⟩ := Steps.initColdArgsNest (e := e) X.here hexec X.warmed hpl hown hy1 hy hlink hinst hcode (f := g) rfl hlen hstack hdg
  have X₁ := X.noted hW₁
  rcases hK g.method meth c ⟨T.setVm vm₁, locs, cells, slots⟩ { g with stack := rest } (.invokespecial index) mk (Value.ref a :: argsL).toArray X₁ rfl hsize hdg hW (X₁.named hnamed) (hpre vm₁ X₁.warmed) with ⟨v, B, X', hpost, hsteps⟩ | ⟨q, B, X', hpost, hsteps⟩
  · exact Or.inl ⟨v, vm₁, B, X₁.warmed, X', hpost, fun target h => hstep₁ _ fun acts => by rw [doInvoke_state]; exact hsteps.trans h⟩
  · exact Or.inr ⟨q, vm₁, B, X₁.warmed, X', hpost, hstep₁ _ fun acts => by rw [doInvoke_state]; exact hsteps⟩
end VXIC
section VXID
variable {p : Program} {l : Launch} {e : Env} {R : Room} {s : State} {m : MethodId} {args : Array Value} {below : List Frame} {meth : Method} {c : Code} {H : Heap} {locs : List Loc} {cells slots : Nat}
theorem vx_runIN {y : MethodName} {bytes cc : ByteArray} {maxL nL mc ms n index : Nat} {ws : List Cond} {rm : Room} {Pc : Array Value → State → Prop} {Qc : Array Value → State → Outcome → State → Prop} {XC : String → State → State → Prop} {free : Addr → Prop} {Ts : List Cond} {own host : String} {b : Addr} {As rest : List Value} {g : JFrame}
    (S : CallFix p m c cc nL s args Ts own) (hM : vx_Met l y ws rm Pc Qc XC mc ms free) (cw : va_CN R s args own index y host bytes maxL none ws rm mc ms n ∧ y.name = "<init>" ∧ (Cond.instanceMethod y).before args s = true) (hp : PreS s H Pc (.ref b :: As))
    (hg : g.method = m) (hn : As.length = n) (hsize : g.locals.size = nL) (hstack : g.stack = As.reverse ++ .ref b :: rest) (hW : 2 * g.monitorRoom + (rest.map fun v => v.category).sum ≤ 8) (hdg : decode cc g.pc = .ok (.invokespecial index, 3)) (hf : cells + mc ≤ R.cells ∧ slots + ms ≤ R.slots) :
    vx_Run p l e R s m args below meth c H locs cells slots mc ms g rest (Qc (Value.ref b :: As).toArray) XC free := by
  obtain ⟨⟨⟨hrc, hrs, hfr, hlo, hws, hcw⟩, hcode, hini, hy, hlen, hl⟩, hx1, hx2⟩ := cw
  have hK : vx_Back l R p e below s args y 3 8 (PreOf R mc ms Pc) (PostOf Qc mc ms free) (vx_Post XC mc ms free) := vx_back (bytes := bytes) (maxL := maxL) (ret := none) hM hp.1 hrc hrs hfr hlo hws hcw (fun a' U hW => word_at hW (Or.inl (by first | rfl | simp [Cond.onTables, Cond.keeps, Cond.steady])) hini)
  obtain ⟨hx, hb, hml, ho, -⟩ := S
  have hPc := hp.2
  intro T hT X
  rcases vx_callIN X hx (bytes := bytes) (maxL := maxL) ho hx1 hl hx2 hcode hy hK hg (hsize.trans hml.symm) (a := b) (argsL := As) (rest := rest) (fun sig h => hn.trans (hlen sig h)) hstack hW (by rw [hb]; exact hdg)
    (fun vm₁ hW₁ => ⟨hf.1, hf.2, hPc (T.setVm vm₁) hT hW₁⟩) with ⟨v, vm₁, ⟨U', l2, c2, s2⟩, hW₁, X', ⟨g', mk, t, L, e1, e2, hq, h1, hL, h2, h3⟩, st⟩ | ⟨q, vm₁, ⟨U', l2, c2, s2⟩, hW₁, X', ⟨g', mk, t, L, E, ce, e1, e2, hq, hce, hcv, hcl, h1, hL, h2, h3⟩, st⟩
  · dsimp only [Pt.U, Pt.locs, Pt.cells, Pt.slots] at X' e1 e2 h1 h2 h3 st
    subst h1; subst h2; subst h3
    exact Or.inl ⟨v, (T.setVm vm₁).calling g' mk (Value.ref b :: As).toArray, t, U', L, hT, X', hL, e1, e2, hq, st⟩
  · dsimp only [Pt.U, Pt.locs, Pt.cells, Pt.slots] at X' e1 e2 h1 h2 h3 st hcl
    subst h1; subst h2; subst h3
    exact Or.inr ⟨q, (T.setVm vm₁).calling g' mk (Value.ref b :: As).toArray, t, U', L, E, ce, hT, X', hL, e1, e2, hq, hce, hcv, vx_cls hW₁ hcl, st⟩
end VXID
/-! ===== END ===== -/
/-! ===== BEGIN a method of a class above, found by the receiver, that may throw (follows va_callVU, va_runU of this kit) ===== -/
section
variable {p : Program} {l : Launch} {e : Env} {R : Room} {s : State} {m : MethodId} {args : Array Value} {below : List Frame} {meth : Method} {c : Code} {H : Heap} {locs : List Loc} {cells slots : Nat}
theorem vx_callVU {T : State} {locs : List Loc} {cells slots : Nat} (X : Stand p l e R s m args below meth c T locs cells slots) (hexec : p.tables.exec = Jvm.exec) {own C owner : String} {index : Nat} {x y : MethodName} {bytes : ByteArray} {maxL : Nat} {ret : Option FieldType}
    (hown : s.vm.findClass own = some m.cls) (hlink : (Cond.methodLink own index x).before args s = true) (hsame : (Cond.sameMethod x.cls owner x.name x.desc).before args s = true)
    (hd0 : va_Decl s ⟨owner, x.name, x.desc⟩) (howner : owner ≠ "java/lang/invoke/MethodHandle" ∧ owner ≠ "java/lang/invoke/VarHandle")
    (hsel : (Cond.selects C x y).before args s = true) (hinst : (Cond.instanceMethod y).before args s = true) (hcode : (Cond.code y bytes maxL ret).before args s = true)
    {W : Nat} {Pre : Pt → Array Value → Prop} {Post : Pt → Array Value → Option Value → Pt → Prop} {PostX : Pt → Array Value → Addr → Pt → Prop} (hK : vx_Back l R p e below s args y 3 W Pre Post PostX)
    {b : Addr} {cellB : Cell} (hcell : T.heap[b]? = some cellB) (hobj : cellB.vm.isStatics = false) (hcls : s.vm.findClass C = some cellB.cls)
    {g : JFrame} (hg : g.method = m) (hsize : g.locals.size = c.maxLocals) {argsL rest : List Value} (hlen : ∀ sig, parseMethodDescriptor x.desc = some sig → argsL.length = sig.parameters.length)
    (hstack : g.stack = argsL.reverse ++ .ref b :: rest) (hW : 2 * g.monitorRoom + (rest.map fun v => v.category).sum ≤ W) (hdg : decode c.code g.pc = .ok (.invokevirtual index, 3))
    (hpre : ∀ vm₁, s.WarmedH vm₁ → Pre ⟨T.setVm vm₁, locs, cells, slots⟩ (Value.ref b :: argsL).toArray) :
    (∃ (v : Option Value) (vm₁ : Vm) (B : Pt), s.WarmedH vm₁ ∧ Stand p l e R s m args below meth c B.U B.locs B.cells B.slots ∧ Post ⟨T.setVm vm₁, locs, cells, slots⟩ (Value.ref b :: argsL).toArray v B ∧
      ∀ target, Steps p.tables e below (B.U.setTop { g with pc := g.pc + 3, stack := v.toList ++ rest }) target → Steps p.tables e below (T.setTop g) target) ∨
    (∃ (q : Addr) (vm₁ : Vm) (B : Pt), s.WarmedH vm₁ ∧ Stand p l e R s m args below meth c B.U B.locs B.cells B.slots ∧ PostX ⟨T.setVm vm₁, locs, cells, slots⟩ (Value.ref b :: argsL).toArray q B ∧
      Steps p.tables e below (T.setTop g) ((B.U.setTop { g with stack := rest }).pushFrame (.throwing q))) := by
  obtain ⟨r0, r, hn, hrm, hstR, hsigR⟩ := hd0
  obtain ⟨cn, ck, r1, hcn, hck, hni, hf, hn1⟩ := Cond.sameMethod_found hsame
  cases hn.symm.trans hn1
  obtain ⟨mk, methM, hnamed, hmethM, -, habM⟩ := Cond.instanceMethod_spec hinst
  obtain ⟨c2, r2, m2, q1, q2, q3, q4, kP, hkP, hkPi⟩ := Cond.selects_spec hsel
  cases hcls.symm.trans q1
  cases hf.symm.trans q2
  cases hnamed.symm.trans q3
  have hselP : selectMethod e.platform s.vm cellB.cls r0 = .method mk := by rw [Launch.admits_selectMethod X.admits]; exact q4
  obtain ⟨vm₁, X₁, hstep₁⟩ := X.invokevirtualUp hexec hown hlink hsame howner hn hrm hstR (a := b) (cell := cellB) hcell
    (fun z h => by rw [h] at hobj; cases hobj) hselP hmethM habM hkP hkPi (g := g) hg (argsL := argsL) (rest := rest) (hlen _ hsigR) hstack hdg
  rcases hK m meth c ⟨T.setVm vm₁, locs, cells, slots⟩ { g with stack := rest } (.invokevirtual index) mk (Value.ref b :: argsL).toArray X₁ hg hsize hdg hW (X₁.named hnamed) (hpre vm₁ X₁.warmed) with ⟨v, B, X', hpost, hsteps⟩ | ⟨q, B, X', hpost, hsteps⟩
  · exact Or.inl ⟨v, vm₁, B, X₁.warmed, X', hpost, fun target h => hstep₁ _ fun acts => by rw [doInvoke_state]; exact hsteps.trans h⟩
  · exact Or.inr ⟨q, vm₁, B, X₁.warmed, X', hpost, hstep₁ _ fun acts => by rw [doInvoke_state]; exact hsteps⟩
theorem vx_runU {x y : MethodName} {bytes cc : ByteArray} {maxL nL mc ms n index : Nat} {ret : Option FieldType} {ws : List Cond} {rm : Room} {Pc : Array Value → State → Prop} {Qc : Array Value → State → Outcome → State → Prop} {XC : String → State → State → Prop} {free : Addr → Prop} {Ts : List Cond} {own C owner : String} {b : Addr} {As rest : List Value} {g : JFrame}
    (S : CallFix p m c cc nL s args Ts own) (hM : vx_Met l y ws rm Pc Qc XC mc ms free) (cw : va_CU R s args own C owner index x y bytes maxL ret ws rm mc ms n) (hp : PreV s H C b Pc As)
    (hg : g.method = m) (hn : As.length = n) (hsize : g.locals.size = nL) (hstack : g.stack = As.reverse ++ .ref b :: rest) (hW : 2 * g.monitorRoom + (rest.map fun v => v.category).sum ≤ 8) (hdg : decode cc g.pc = .ok (.invokevirtual index, 3)) (hf : cells + mc ≤ R.cells ∧ slots + ms ≤ R.slots) :
    vx_Run p l e R s m args below meth c H locs cells slots mc ms g rest (Qc (Value.ref b :: As).toArray) XC free := by
  obtain ⟨hrc, hrs, hfr, hlo, hws, hcw⟩ := cw.back
  have hini := cw.init
  have hK : vx_Back l R p e below s args y 3 8 (PreOf R mc ms Pc) (PostOf Qc mc ms free) (vx_Post XC mc ms free) := vx_back (bytes := bytes) (maxL := maxL) (ret := ret) hM hp.1 hrc hrs hfr hlo hws hcw (fun a' U hW => word_at hW (Or.inl (by first | rfl | simp [Cond.onTables, Cond.keeps, Cond.steady])) hini)
  obtain ⟨hx, hb, hml, ho, -⟩ := S
  obtain ⟨-, ⟨cellB, hcB, hoB, hclB⟩, hPc⟩ := hp
  intro T hT X
  rcases vx_callVU X hx (C := C) (owner := owner) (bytes := bytes) (maxL := maxL) (ret := ret) ho cw.link cw.same cw.decl cw.notMH cw.sel cw.inst cw.code hK (by rw [hT]; exact hcB) hoB hclB hg (hsize.trans hml.symm) (argsL := As) (rest := rest) (fun sig h => hn.trans (cw.len sig h)) hstack hW (by rw [hb]; exact hdg)
    (fun vm₁ hW₁ => ⟨hf.1, hf.2, hPc (T.setVm vm₁) hT hW₁⟩) with ⟨v, vm₁, ⟨U', l2, c2, s2⟩, hW₁, X', ⟨g', mk, t, L, e1, e2, hq, h1, hL, h2, h3⟩, st⟩ | ⟨q, vm₁, ⟨U', l2, c2, s2⟩, hW₁, X', ⟨g', mk, t, L, E, ce, e1, e2, hq, hce, hcv, hcl, h1, hL, h2, h3⟩, st⟩
  · dsimp only [Pt.U, Pt.locs, Pt.cells, Pt.slots] at X' e1 e2 h1 h2 h3 st
    subst h1; subst h2; subst h3
    exact Or.inl ⟨v, (T.setVm vm₁).calling g' mk (Value.ref b :: As).toArray, t, U', L, hT, X', hL, e1, e2, hq, st⟩
  · dsimp only [Pt.U, Pt.locs, Pt.cells, Pt.slots] at X' e1 e2 h1 h2 h3 st hcl
    subst h1; subst h2; subst h3
    exact Or.inr ⟨q, (T.setVm vm₁).calling g' mk (Value.ref b :: As).toArray, t, U', L, E, ce, hT, X', hL, e1, e2, hq, hce, hcv, vx_cls hW₁ hcl, st⟩
end
/-! ===== END ===== -/
/-! ===== BEGIN super.m(..) that may throw (follows va_callSU, va_runSU) ===== -/
section
variable {p : Program} {l : Launch} {e : Env} {R : Room} {s : State} {m : MethodId} {args : Array Value} {below : List Frame} {meth : Method} {c : Code} {H : Heap} {locs : List Loc} {cells slots : Nat}
theorem vx_callSU {T : State} {locs : List Loc} {cells slots : Nat} (X : Stand p l e R s m args below meth c T locs cells slots) (hexec : p.tables.exec = Jvm.exec) {own : String} {index : Nat} {y : MethodName} {bytes : ByteArray} {maxL : Nat} {ret : Option FieldType}
    (hown : s.vm.findClass own = some m.cls) (hlink : (Cond.methodLink own index y).before args s = true) (hsame : (Cond.sameMethod y.cls y.cls y.name y.desc).before args s = true) (hsup : (Cond.superclass own y.cls).before args s = true)
    (hinst : (Cond.instanceMethod y).before args s = true) (hcode : (Cond.code y bytes maxL ret).before args s = true) (hno : y.name ≠ "<init>")
    {W : Nat} {Pre : Pt → Array Value → Prop} {Post : Pt → Array Value → Option Value → Pt → Prop} {PostX : Pt → Array Value → Addr → Pt → Prop} (hK : vx_Back l R p e below s args y 3 W Pre Post PostX)
    {b : Addr} {cellB : Cell} {kB : Class} (hcell : T.heap[b]? = some cellB) (hobj : cellB.vm.isStatics = false) (hkB : s.vm.classes[cellB.cls]? = some kB)
    {g : JFrame} (hg : g.method = m) (hsize : g.locals.size = c.maxLocals) {argsL rest : List Value} (hlen : ∀ sig, parseMethodDescriptor y.desc = some sig → argsL.length = sig.parameters.length)
    (hstack : g.stack = argsL.reverse ++ .ref b :: rest) (hW : 2 * g.monitorRoom + (rest.map fun v => v.category).sum ≤ W) (hdg : decode c.code g.pc = .ok (.invokespecial index, 3))
    (hpre : ∀ vm₁, s.WarmedH vm₁ → Pre ⟨T.setVm vm₁, locs, cells, slots⟩ (Value.ref b :: argsL).toArray) :
    (∃ (v : Option Value) (vm₁ : Vm) (B : Pt), s.WarmedH vm₁ ∧ Stand p l e R s m args below meth c B.U B.locs B.cells B.slots ∧ Post ⟨T.setVm vm₁, locs, cells, slots⟩ (Value.ref b :: argsL).toArray v B ∧
      ∀ target, Steps p.tables e below (B.U.setTop { g with pc := g.pc + 3, stack := v.toList ++ rest }) target → Steps p.tables e below (T.setTop g) target) ∨
    (∃ (q : Addr) (vm₁ : Vm) (B : Pt), s.WarmedH vm₁ ∧ Stand p l e R s m args below meth c B.U B.locs B.cells B.slots ∧ PostX ⟨T.setVm vm₁, locs, cells, slots⟩ (Value.ref b :: argsL).toArray q B ∧
      Steps p.tables e below (T.setTop g) ((B.U.setTop { g with stack := rest }).pushFrame (.throwing q))) := by
  obtain ⟨mk, methM, hnamed, hmethM, hstM, habM⟩ := Cond.instanceMethod_spec hinst
  obtain ⟨methM', cM, hmethM', -, -, -, -, -, -, hsigM⟩ := Cond.code_spec hnamed hcode
  cases hmethM.symm.trans hmethM'
  obtain ⟨ps, dk, kp, hps, hdk, hkp, hsuper, -, -, hnid⟩ := Cond.superclass_spec hown hsup
  have hn : s.methodNamed? ⟨y.cls, y.name, y.desc⟩ = some mk := hnamed
  have hpm : ps = mk.cls := Option.some.inj (hps.symm.trans (findClass_of_methodNamed hnamed))
  have hsub : s.vm.isSubclass ps mk.cls = true := by rw [hpm]; simp [Vm.isSubclass, Vm.isSubclassAux]
  obtain ⟨vm₁, X₁, hstep₁⟩ := X.invokespecialUp hexec hown hlink hsame hn hmethM hstM habM hno hdk hnid hps hsuper hsub (a := b) (cell := cellB) hcell
    (fun z h => by rw [h] at hobj; cases hobj) hkB (g := g) hg (argsL := argsL) (rest := rest) (hlen _ hsigM) hstack hdg
  rcases hK m meth c ⟨T.setVm vm₁, locs, cells, slots⟩ { g with stack := rest } (.invokespecial index) mk (Value.ref b :: argsL).toArray X₁ hg hsize hdg hW (X₁.named hnamed) (hpre vm₁ X₁.warmed) with ⟨v, B, X', hpost, hsteps⟩ | ⟨q, B, X', hpost, hsteps⟩
  · exact Or.inl ⟨v, vm₁, B, X₁.warmed, X', hpost, fun target h => hstep₁ _ (by rw [doInvoke_state]; exact hsteps.trans h)⟩
  · exact Or.inr ⟨q, vm₁, B, X₁.warmed, X', hpost, hstep₁ _ (by rw [doInvoke_state]; exact hsteps)⟩
theorem vx_runSU {y : MethodName} {bytes cc : ByteArray} {maxL nL mc ms n index : Nat} {ret : Option FieldType} {ws : List Cond} {rm : Room} {Pc : Array Value → State → Prop} {Qc : Array Value → State → Outcome → State → Prop} {XC : String → State → State → Prop} {free : Addr → Prop} {Ts : List Cond} {own C : String} {cC : ClassId} {b : Addr} {As rest : List Value} {g : JFrame}
    (hat : ClassAt s C cC) (S : CallFix p m c cc nL s args Ts own) (hM : vx_Met l y ws rm Pc Qc XC mc ms free) (cw : va_CS R s args own index y bytes maxL ret ws rm mc ms n) (hp : PreV s H C b Pc As)
    (hg : g.method = m) (hn : As.length = n) (hsize : g.locals.size = nL) (hstack : g.stack = As.reverse ++ .ref b :: rest) (hW : 2 * g.monitorRoom + (rest.map fun v => v.category).sum ≤ 8) (hdg : decode cc g.pc = .ok (.invokespecial index, 3)) (hf : cells + mc ≤ R.cells ∧ slots + ms ≤ R.slots) :
    vx_Run p l e R s m args below meth c H locs cells slots mc ms g rest (Qc (Value.ref b :: As).toArray) XC free := by
  obtain ⟨⟨hrc, hrs, hfr, hlo, hws, hcw⟩, hl1, hl2, hl3, hl4, hini, hcode, hno, hlen⟩ := cw
  have hK : vx_Back l R p e below s args y 3 8 (PreOf R mc ms Pc) (PostOf Qc mc ms free) (vx_Post XC mc ms free) := vx_back (bytes := bytes) (maxL := maxL) (ret := ret) hM hp.1 hrc hrs hfr hlo hws hcw (fun a' U hW => word_at hW (Or.inl (by first | rfl | simp [Cond.onTables, Cond.keeps, Cond.steady])) hini)
  obtain ⟨hx, hb, hml, ho, -⟩ := S
  obtain ⟨-, ⟨cellB, hcB, hoB, hclB⟩, hPc⟩ := hp
  obtain ⟨hfc, kB, hkB, -⟩ := hat
  cases hfc.symm.trans hclB
  intro T hT X
  rcases vx_callSU X hx (bytes := bytes) (maxL := maxL) (ret := ret) ho hl1 hl2 hl3 hl4 hcode hno hK (by rw [hT]; exact hcB) hoB hkB hg (hsize.trans hml.symm) (argsL := As) (rest := rest) (fun sig h => hn.trans (hlen sig h)) hstack hW (by rw [hb]; exact hdg)
    (fun vm₁ hW₁ => ⟨hf.1, hf.2, hPc (T.setVm vm₁) hT hW₁⟩) with ⟨v, vm₁, ⟨U', l2, c2, s2⟩, hW₁, X', ⟨g', mk, t, L, e1, e2, hq, h1, hL, h2, h3⟩, st⟩ | ⟨q, vm₁, ⟨U', l2, c2, s2⟩, hW₁, X', ⟨g', mk, t, L, E, ce, e1, e2, hq, hce, hcv, hcl, h1, hL, h2, h3⟩, st⟩
  · dsimp only [Pt.U, Pt.locs, Pt.cells, Pt.slots] at X' e1 e2 h1 h2 h3 st
    subst h1; subst h2; subst h3
    exact Or.inl ⟨v, (T.setVm vm₁).calling g' mk (Value.ref b :: As).toArray, t, U', L, hT, X', hL, e1, e2, hq, st⟩
  · dsimp only [Pt.U, Pt.locs, Pt.cells, Pt.slots] at X' e1 e2 h1 h2 h3 st hcl
    subst h1; subst h2; subst h3
    exact Or.inr ⟨q, (T.setVm vm₁).calling g' mk (Value.ref b :: As).toArray, t, U', L, E, ce, hT, X', hL, e1, e2, hq, hce, hcv, vx_cls hW₁ hcl, st⟩
end
/-! ===== END ===== -/
/-! ===== BEGIN a private method of a nest mate that may throw (follows va_callVN, va_callSN, va_runVN, va_runSN) ===== -/
section
variable {p : Program} {l : Launch} {e : Env} {R : Room} {s : State} {m : MethodId} {args : Array Value} {below : List Frame} {meth : Method} {c : Code} {H : Heap} {locs : List Loc} {cells slots : Nat}
variable {T : State}
theorem vx_callVN (X : Stand p l e R s m args below meth c T locs cells slots) (hexec : p.tables.exec = Jvm.exec) {own C : String} {index : Nat} {host : String} {y : MethodName} {bytes : ByteArray} {maxL : Nat} {ret : Option FieldType}
    (hown : s.vm.findClass own = some m.cls) (hlink : (Cond.methodLinkNest own index y host).before args s = true) (hinst : (Cond.instanceMethod y).before args s = true) (hsel : (Cond.selects C y y).before args s = true)
    (hcode : (Cond.code y bytes maxL ret).before args s = true) (hy : y.cls ≠ "java/lang/invoke/MethodHandle" ∧ y.cls ≠ "java/lang/invoke/VarHandle")
    {W : Nat} {Pre : Pt → Array Value → Prop} {Post : Pt → Array Value → Option Value → Pt → Prop} {PostX : Pt → Array Value → Addr → Pt → Prop} (hK : vx_Back l R p e below s args y 3 W Pre Post PostX)
    {b : Addr} {cellB : Cell} (hcell : T.heap[b]? = some cellB) (hobj : cellB.vm.isStatics = false) (hcls : s.vm.findClass C = some cellB.cls)
    {g : JFrame} (hg : g.method = m) (hsize : g.locals.size = c.maxLocals) {argsL rest : List Value} (hlen : ∀ sig, parseMethodDescriptor y.desc = some sig → argsL.length = sig.parameters.length)
    (hstack : g.stack = argsL.reverse ++ .ref b :: rest) (hW : 2 * g.monitorRoom + (rest.map fun v => v.category).sum ≤ W) (hdg : decode c.code g.pc = .ok (.invokevirtual index, 3))
    (hpre : ∀ vm₁, s.WarmedH vm₁ → Pre ⟨T.setVm vm₁, locs, cells, slots⟩ (Value.ref b :: argsL).toArray) :
    (∃ (v : Option Value) (vm₁ : Vm) (B : Pt), s.WarmedH vm₁ ∧ Stand p l e R s m args below meth c B.U B.locs B.cells B.slots ∧ Post ⟨T.setVm vm₁, locs, cells, slots⟩ (Value.ref b :: argsL).toArray v B ∧
      ∀ target, Steps p.tables e below (B.U.setTop { g with pc := g.pc + 3, stack := v.toList ++ rest }) target → Steps p.tables e below (T.setTop g) target) ∨
    (∃ (q : Addr) (vm₁ : Vm) (B : Pt), s.WarmedH vm₁ ∧ Stand p l e R s m args below meth c B.U B.locs B.cells B.slots ∧ PostX ⟨T.setVm vm₁, locs, cells, slots⟩ (Value.ref b :: argsL).toArray q B ∧
      Steps p.tables e below (T.setTop g) ((B.U.setTop { g with stack := rest }).pushFrame (.throwing q))) := by
  obtain ⟨mk, methM, hnamed, hmethM, hstM, habM⟩ := Cond.instanceMethod_spec hinst
  obtain ⟨methM', cM, hmethM', -, -, -, -, -, -, hsigM⟩ := Cond.code_spec hnamed hcode
  cases hmethM.symm.trans hmethM'
  obtain ⟨c2, r2, m2, q1, q2, q3, q4, kP, hkP, hkPi⟩ := Cond.selects_spec hsel
  cases hcls.symm.trans q1
  cases (State.methodFound?_of_named hnamed hy).symm.trans q2
  cases hnamed.symm.trans q3
  have hselP : selectMethod e.platform s.vm cellB.cls mk = .method mk := by rw [Launch.admits_selectMethod X.admits]; exact q4
  obtain ⟨vm₁, X₁, hstep₁⟩ := X.invokevirtualNest hexec hown hlink hnamed hmethM hstM hkP hkPi hy (a := b) (cell := cellB) hcell
    (fun z h => by rw [h] at hobj; cases hobj) hselP hmethM habM hkP hkPi (g := g) hg (argsL := argsL) (rest := rest) (hlen _ hsigM) hstack hdg
  rcases hK m meth c ⟨T.setVm vm₁, locs, cells, slots⟩ { g with stack := rest } (.invokevirtual index) mk (Value.ref b :: argsL).toArray X₁ hg hsize hdg hW (X₁.named hnamed) (hpre vm₁ X₁.warmed) with ⟨v, B, X', hpost, hsteps⟩ | ⟨q, B, X', hpost, hsteps⟩
  · exact Or.inl ⟨v, vm₁, B, X₁.warmed, X', hpost, fun target h => hstep₁ _ fun acts => by rw [doInvoke_state]; exact hsteps.trans h⟩
  · exact Or.inr ⟨q, vm₁, B, X₁.warmed, X', hpost, hstep₁ _ fun acts => by rw [doInvoke_state]; exact hsteps⟩
theorem vx_callSN (X : Stand p l e R s m args below meth c T locs cells slots) (hexec : p.tables.exec = Jvm.exec) {own : String} {index : Nat} {host : String} {y : MethodName} {bytes : ByteArray} {maxL : Nat} {ret : Option FieldType}
    (hown : s.vm.findClass own = some m.cls) (hlink : (Cond.methodLinkNest own index y host).before args s = true) (hstat : (Cond.static y).before args s = true) (hinit : (Cond.initialized y.cls).before args s = true)
    (hcode : (Cond.code y bytes maxL ret).before args s = true) (hy : y.cls ≠ "java/lang/invoke/MethodHandle" ∧ y.cls ≠ "java/lang/invoke/VarHandle")
    {W : Nat} {Pre : Pt → Array Value → Prop} {Post : Pt → Array Value → Option Value → Pt → Prop} {PostX : Pt → Array Value → Addr → Pt → Prop} (hK : vx_Back l R p e below s args y 3 W Pre Post PostX)
    {g : JFrame} (hg : g.method = m) (hsize : g.locals.size = c.maxLocals) {argsL rest : List Value} (hlen : ∀ sig, parseMethodDescriptor y.desc = some sig → argsL.length = sig.parameters.length)
    (hstack : g.stack = argsL.reverse ++ rest) (hW : 2 * g.monitorRoom + (rest.map fun v => v.category).sum ≤ W) (hdg : decode c.code g.pc = .ok (.invokestatic index, 3))
    (hpre : ∀ vm₁, s.WarmedH vm₁ → Pre ⟨T.setVm vm₁, locs, cells, slots⟩ argsL.toArray) :
    (∃ (v : Option Value) (vm₁ : Vm) (B : Pt), s.WarmedH vm₁ ∧ Stand p l e R s m args below meth c B.U B.locs B.cells B.slots ∧ Post ⟨T.setVm vm₁, locs, cells, slots⟩ argsL.toArray v B ∧
      ∀ target, Steps p.tables e below (B.U.setTop { g with pc := g.pc + 3, stack := v.toList ++ rest }) target → Steps p.tables e below (T.setTop g) target) ∨
    (∃ (q : Addr) (vm₁ : Vm) (B : Pt), s.WarmedH vm₁ ∧ Stand p l e R s m args below meth c B.U B.locs B.cells B.slots ∧ PostX ⟨T.setVm vm₁, locs, cells, slots⟩ argsL.toArray q B ∧
      Steps p.tables e below (T.setTop g) ((B.U.setTop { g with stack := rest }).pushFrame (.throwing q))) := by
  obtain ⟨mk, hnamed⟩ := Cond.code_named hcode
  obtain ⟨methM, cM, hmethM, -, -, -, -, -, -, hsigM⟩ := Cond.code_spec hnamed hcode
  have hstatic : methM.isStatic = true := Cond.static_spec hnamed hmethM hstat
  obtain ⟨kP, hkP, -⟩ := className_of_methodNamed hnamed
  have hinitP : kP.init = .initialized := Cond.initialized_spec (findClass_of_methodNamed hnamed) hkP hinit
  obtain ⟨vm₁, X₁, hstep₁⟩ := X.invokestaticNest hexec hown hlink hnamed hmethM hstatic hkP hinitP hy (g := g) hg (argsL := argsL) (rest := rest) (hlen _ hsigM) hstack hdg
  rcases hK m meth c ⟨T.setVm vm₁, locs, cells, slots⟩ { g with stack := rest } (.invokestatic index) mk argsL.toArray X₁ hg hsize hdg hW (X₁.named hnamed) (hpre vm₁ X₁.warmed) with ⟨v, B, X', hpost, hsteps⟩ | ⟨q, B, X', hpost, hsteps⟩
  · exact Or.inl ⟨v, vm₁, B, X₁.warmed, X', hpost, fun target h => hstep₁ _ fun acts => by rw [doInvoke_state]; exact hsteps.trans h⟩
  · exact Or.inr ⟨q, vm₁, B, X₁.warmed, X', hpost, hstep₁ _ fun acts => by rw [doInvoke_state]; exact hsteps⟩
theorem vx_runVN {y : MethodName} {bytes cc : ByteArray} {maxL nL mc ms n index : Nat} {ret : Option FieldType} {ws : List Cond} {rm : Room} {Pc : Array Value → State → Prop} {Qc : Array Value → State → Outcome → State → Prop} {XC : String → State → State → Prop} {free : Addr → Prop} {Ts : List Cond} {own C host : String} {b : Addr} {As rest : List Value} {g : JFrame}
    (S : CallFix p m c cc nL s args Ts own) (hM : vx_Met l y ws rm Pc Qc XC mc ms free) (cw : va_CN R s args own index y host bytes maxL ret ws rm mc ms n ∧ (Cond.instanceMethod y).before args s = true ∧ (Cond.selects C y y).before args s = true) (hp : PreV s H C b Pc As)
    (hg : g.method = m) (hn : As.length = n) (hsize : g.locals.size = nL) (hstack : g.stack = As.reverse ++ .ref b :: rest) (hW : 2 * g.monitorRoom + (rest.map fun v => v.category).sum ≤ 8) (hdg : decode cc g.pc = .ok (.invokevirtual index, 3)) (hf : cells + mc ≤ R.cells ∧ slots + ms ≤ R.slots) :
    vx_Run p l e R s m args below meth c H locs cells slots mc ms g rest (Qc (Value.ref b :: As).toArray) XC free := by
  obtain ⟨⟨⟨hrc, hrs, hfr, hlo, hws, hcw⟩, hcode, hini, hy, hlen, hl⟩, hx1, hx2⟩ := cw
  have hK : vx_Back l R p e below s args y 3 8 (PreOf R mc ms Pc) (PostOf Qc mc ms free) (vx_Post XC mc ms free) := vx_back (bytes := bytes) (maxL := maxL) (ret := ret) hM hp.1 hrc hrs hfr hlo hws hcw (fun a' U hW => word_at hW (Or.inl (by first | rfl | simp [Cond.onTables, Cond.keeps, Cond.steady])) hini)
  obtain ⟨hx, hb, hml, ho, -⟩ := S
  obtain ⟨-, ⟨cellB, hcB, hoB, hclB⟩, hPc⟩ := hp
  intro T hT X
  rcases vx_callVN X hx (C := C) (bytes := bytes) (maxL := maxL) (ret := ret) ho hl hx1 hx2 hcode hy hK (by rw [hT]; exact hcB) hoB hclB hg (hsize.trans hml.symm) (argsL := As) (rest := rest) (fun sig h => hn.trans (hlen sig h)) hstack hW (by rw [hb]; exact hdg)
    (fun vm₁ hW₁ => ⟨hf.1, hf.2, hPc (T.setVm vm₁) hT hW₁⟩) with ⟨v, vm₁, ⟨U', l2, c2, s2⟩, hW₁, X', ⟨g', mk, t, L, e1, e2, hq, h1, hL, h2, h3⟩, st⟩ | ⟨q, vm₁, ⟨U', l2, c2, s2⟩, hW₁, X', ⟨g', mk, t, L, E, ce, e1, e2, hq, hce, hcv, hcl, h1, hL, h2, h3⟩, st⟩
  · dsimp only [Pt.U, Pt.locs, Pt.cells, Pt.slots] at X' e1 e2 h1 h2 h3 st
    subst h1; subst h2; subst h3
    exact Or.inl ⟨v, (T.setVm vm₁).calling g' mk (Value.ref b :: As).toArray, t, U', L, hT, X', hL, e1, e2, hq, st⟩
  · dsimp only [Pt.U, Pt.locs, Pt.cells, Pt.slots] at X' e1 e2 h1 h2 h3 st hcl
    subst h1; subst h2; subst h3
    exact Or.inr ⟨q, (T.setVm vm₁).calling g' mk (Value.ref b :: As).toArray, t, U', L, E, ce, hT, X', hL, e1, e2, hq, hce, hcv, vx_cls hW₁ hcl, st⟩
theorem vx_runSN {y : MethodName} {bytes cc : ByteArray} {maxL nL mc ms n index : Nat} {ret : Option FieldType} {ws : List Cond} {rm : Room} {Pc : Array Value → State → Prop} {Qc : Array Value → State → Outcome → State → Prop} {XC : String → State → State → Prop} {free : Addr → Prop} {Ts : List Cond} {own host : String} {As rest : List Value} {g : JFrame}
    (S : CallFix p m c cc nL s args Ts own) (hM : vx_Met l y ws rm Pc Qc XC mc ms free) (cw : va_CN R s args own index y host bytes maxL ret ws rm mc ms n ∧ (Cond.static y).before args s = true ∧ True) (hp : PreS s H Pc As)
    (hg : g.method = m) (hn : As.length = n) (hsize : g.locals.size = nL) (hstack : g.stack = As.reverse ++ rest) (hW : 2 * g.monitorRoom + (rest.map fun v => v.category).sum ≤ 8) (hdg : decode cc g.pc = .ok (.invokestatic index, 3)) (hf : cells + mc ≤ R.cells ∧ slots + ms ≤ R.slots) :
    vx_Run p l e R s m args below meth c H locs cells slots mc ms g rest (Qc As.toArray) XC free := by
  obtain ⟨⟨⟨hrc, hrs, hfr, hlo, hws, hcw⟩, hcode, hini, hy, hlen, hl⟩, hx1, hx2⟩ := cw
  have hK : vx_Back l R p e below s args y 3 8 (PreOf R mc ms Pc) (PostOf Qc mc ms free) (vx_Post XC mc ms free) := vx_back (bytes := bytes) (maxL := maxL) (ret := ret) hM hp.1 hrc hrs hfr hlo hws hcw (fun a' U hW => word_at hW (Or.inl (by first | rfl | simp [Cond.onTables, Cond.keeps, Cond.steady])) hini)
  obtain ⟨hx, hb, hml, ho, -⟩ := S
  have hPc := hp.2
  intro T hT X
  rcases vx_callSN X hx (bytes := bytes) (maxL := maxL) (ret := ret) ho hl hx1 hini hcode hy hK hg (hsize.trans hml.symm) (argsL := As) (rest := rest) (fun sig h => hn.trans (hlen sig h)) hstack hW (by rw [hb]; exact hdg)
    (fun vm₁ hW₁ => ⟨hf.1, hf.2, hPc (T.setVm vm₁) hT hW₁⟩) with ⟨v, vm₁, ⟨U', l2, c2, s2⟩, hW₁, X', ⟨g', mk, t, L, e1, e2, hq, h1, hL, h2, h3⟩, st⟩ | ⟨q, vm₁, ⟨U', l2, c2, s2⟩, hW₁, X', ⟨g', mk, t, L, E, ce, e1, e2, hq, hce, hcv, hcl, h1, hL, h2, h3⟩, st⟩
  · dsimp only [Pt.U, Pt.locs, Pt.cells, Pt.slots] at X' e1 e2 h1 h2 h3 st
    subst h1; subst h2; subst h3
    exact Or.inl ⟨v, (T.setVm vm₁).calling g' mk As.toArray, t, U', L, hT, X', hL, e1, e2, hq, st⟩
  · dsimp only [Pt.U, Pt.locs, Pt.cells, Pt.slots] at X' e1 e2 h1 h2 h3 st hcl
    subst h1; subst h2; subst h3
    exact Or.inr ⟨q, (T.setVm vm₁).calling g' mk As.toArray, t, U', L, E, ce, hT, X', hL, e1, e2, hq, hce, hcv, vx_cls hW₁ hcl, st⟩
end
/-! ===== END ===== -/
/-! ===== BEGIN calls by an interface of methods that may throw (vx_callIF, vx_runF follow va_callIF, va_runF of this kit) ===== -/
section
variable {p : Program} {l : Launch} {e : Env} {R : Room} {s : State} {m : MethodId} {args : Array Value} {below : List Frame} {meth : Method} {c : Code} {H : Heap} {locs : List Loc} {cells slots : Nat} {Q : State → Prop}
variable {mc ms : Nat} {free : Addr → Prop} {A0 A1 : Nat → Prop} {H0 : Heap} {a : Array Value} {pc : Nat} {ls : Array Slot} {st0 rest : List Value}
def vx_Run5 (p : Program) (l : Launch) (e : Env) (R : Room) (s : State) (m : MethodId) (args : Array Value) (below : List Frame) (meth : Method) (c : Code) (H : Heap) (locs : List Loc) (cells slots mc ms : Nat) (g : JFrame) (rest : List Value) (Qa : State → Outcome → State → Prop) (XC : String → State → State → Prop) (free : Addr → Prop) : Prop :=
  ∀ T : State, T.heap = H → Stand p l e R s m args below meth c T locs cells slots →
    (∃ (v : Option Value) (st₀ t T' : State) (L : List Loc), st₀.heap = H ∧ Stand p l e R s m args below meth c T' (locs ++ L) (cells + mc) (slots + ms) ∧ (∀ q ∈ L, free q.base) ∧ T'.heap = t.heap ∧ T'.vm = t.vm ∧ Qa st₀ (.returned v) t ∧
      Goes p e below T g T' { g with pc := g.pc + 5, stack := v.toList ++ rest }) ∨
    (∃ (q : Addr) (st₀ t T' : State) (L : List Loc) (E : String) (ce : Cell), st₀.heap = H ∧ Stand p l e R s m args below meth c T' (locs ++ L) (cells + mc) (slots + ms) ∧ (∀ z ∈ L, free z.base) ∧ T'.heap = t.heap ∧ T'.vm = t.vm ∧ XC E st₀ t ∧ t.heap[q]? = some ce ∧ ce.vm = .none ∧ s.vm.findClass E = some ce.cls ∧
      Steps p.tables e below (T.setTop g) ((T'.setTop { g with stack := rest }).pushFrame (.throwing q)))
theorem vx_callIF {T : State} (X : Stand p l e R s m args below meth c T locs cells slots) (hexec : p.tables.exec = Jvm.exec) {own C : String} {index count : Nat} {x y : MethodName} {bytes : ByteArray} {maxL : Nat} {ret : Option FieldType}
    (hown : s.vm.findClass own = some m.cls) (hlink : (Cond.methodLink own index x).before args s = true) (hdecl : (Cond.declares x).before args s = true) (hface : (Cond.interfaceMethod x.cls x.cls x.name x.desc).before args s = true)
    (hsel : (Cond.selects C x y).before args s = true) (hinst : (Cond.instanceMethod y).before args s = true) (hpub : (Cond.publicMethod y).before args s = true) (hunh : (Cond.unhidden C x.name x.desc).before args s = true)
    (hcast : (Cond.castable C x.cls).before args s = true) (hcode : (Cond.code y bytes maxL ret).before args s = true) (hx : x.cls ≠ "java/lang/invoke/MethodHandle" ∧ x.cls ≠ "java/lang/invoke/VarHandle")
    {W9 : Nat} {Pre : Pt → Array Value → Prop} {Post : Pt → Array Value → Option Value → Pt → Prop} {PostX : Pt → Array Value → Addr → Pt → Prop} (hK : vx_Back l R p e below s args y 5 W9 Pre Post PostX)
    {b : Addr} {cellB : Cell} {kB : Class} (hcell : T.heap[b]? = some cellB) (hobj : cellB.vm.isStatics = false) (hcls : s.vm.findClass C = some cellB.cls) (hkB : s.vm.classes[cellB.cls]? = some kB)
    {g : JFrame} (hg : g.method = m) (hsize : g.locals.size = c.maxLocals) {argsL rest : List Value} (hlen : ∀ sig, parseMethodDescriptor x.desc = some sig → argsL.length = sig.parameters.length)
    (hstack : g.stack = argsL.reverse ++ .ref b :: rest) (hW : 2 * g.monitorRoom + (rest.map fun v => v.category).sum ≤ W9) (hdg : decode c.code g.pc = .ok (.invokeinterface index count, 5))
    (hpre : ∀ vm₁, s.WarmedH vm₁ → Pre ⟨T.setVm vm₁, locs, cells, slots⟩ (Value.ref b :: argsL).toArray) :
    (∃ (v : Option Value) (vm₁ : Vm) (B : Pt), s.WarmedH vm₁ ∧ Stand p l e R s m args below meth c B.U B.locs B.cells B.slots ∧ Post ⟨T.setVm vm₁, locs, cells, slots⟩ (Value.ref b :: argsL).toArray v B ∧
      ∀ target, Steps p.tables e below (B.U.setTop { g with pc := g.pc + 5, stack := v.toList ++ rest }) target → Steps p.tables e below (T.setTop g) target) ∨
    (∃ (q : Addr) (vm₁ : Vm) (B : Pt), s.WarmedH vm₁ ∧ Stand p l e R s m args below meth c B.U B.locs B.cells B.slots ∧ PostX ⟨T.setVm vm₁, locs, cells, slots⟩ (Value.ref b :: argsL).toArray q B ∧
      Steps p.tables e below (T.setTop g) ((B.U.setTop { g with stack := rest }).pushFrame (.throwing q))) := by
  obtain ⟨r0, r, hn, hrm, hstR, hsigR⟩ := Cond.declares_spec hdecl
  obtain ⟨cL, kL, r1, hcL, hkL, hiL, hfoundL, hn1⟩ := Cond.interfaceMethod_spec hface
  cases hn.symm.trans hn1
  have hr0cls : r0.cls = cL := Option.some.inj ((findClass_of_methodNamed hn).symm.trans hcL)
  obtain ⟨hnameR, hdescR⟩ := name_of_methodNamed hn hrm
  obtain ⟨mk, methM, hnamed, hmethM, -, habM⟩ := Cond.instanceMethod_spec hinst
  obtain ⟨c2, r2, m2, q1, q2, q3, q4, -⟩ := Cond.selects_spec hsel
  cases hcls.symm.trans q1
  cases hfoundL.symm.trans q2
  cases hnamed.symm.trans q3
  have hselP : selectMethod e.platform s.vm cellB.cls r0 = .method mk := by rw [Launch.admits_selectMethod X.admits]; exact q4
  have hpubM : hasFlag methM.accessFlags Acc.public_ = true := Cond.publicMethod_spec hnamed hmethM hpub
  have hway : ((cellB.cls :: s.vm.superclasses cellB.cls).any fun k => (declaredIn s.vm r.name r.desc k).any fun (_, z) => z.isPrivate || z.isStatic) = false := by
    rw [hnameR, hdescR]; exact Cond.unhidden_spec hcls hunh
  obtain ⟨c3, t3, w1, w2, w3⟩ := Cond.castable_spec hcast
  cases hcls.symm.trans w1
  cases hcL.symm.trans w2
  obtain ⟨vm₁, X₁, hstep₁⟩ := X.invokeinterface hexec hown hlink hn hrm hstR (by rw [hr0cls]; exact hkL) hiL hx (a := b) (cell := cellB) (kcell := kB) hcell
    (fun z h => by rw [h] at hobj; cases hobj) hkB (by rw [hr0cls]; exact w3) hselP hmethM hway hpubM habM (g := g) hg (argsL := argsL) (rest := rest) (hlen _ hsigR) hstack hdg
  rcases hK m meth c ⟨T.setVm vm₁, locs, cells, slots⟩ { g with stack := rest } (.invokeinterface index count) mk (Value.ref b :: argsL).toArray X₁ hg hsize hdg hW (X₁.named hnamed) (hpre vm₁ X₁.warmed) with ⟨v, B, X', hpost, hsteps⟩ | ⟨q, B, X', hpost, hsteps⟩
  · exact Or.inl ⟨v, vm₁, B, X₁.warmed, X', hpost, fun target h => hstep₁ _ fun acts => by rw [doInvoke_state]; exact hsteps.trans h⟩
  · exact Or.inr ⟨q, vm₁, B, X₁.warmed, X', hpost, hstep₁ _ fun acts => by rw [doInvoke_state]; exact hsteps⟩
theorem vx_runF {x y : MethodName} {bytes cc : ByteArray} {maxL nL mc ms n index count : Nat} {ret : Option FieldType} {ws : List Cond} {rm : Room} {Pc : Array Value → State → Prop} {Qc : Array Value → State → Outcome → State → Prop} {XC : String → State → State → Prop} {free : Addr → Prop} {Ts : List Cond} {own C : String} {cC : ClassId} {b : Addr} {As rest : List Value} {g : JFrame}
    (hat : ClassAt s C cC) (S : CallFix p m c cc nL s args Ts own) (hM : vx_Met l y ws rm Pc Qc XC mc ms free) (cw : va_CI R s args own C index x y bytes maxL ret ws rm mc ms n) (hp : PreV s H C b Pc As)
    (hg : g.method = m) (hn : As.length = n) (hsize : g.locals.size = nL) (hstack : g.stack = As.reverse ++ .ref b :: rest) (hW : 2 * g.monitorRoom + (rest.map fun v => v.category).sum ≤ 8) (hdg : decode cc g.pc = .ok (.invokeinterface index count, 5)) (hf : cells + mc ≤ R.cells ∧ slots + ms ≤ R.slots) :
    vx_Run5 p l e R s m args below meth c H locs cells slots mc ms g rest (Qc (Value.ref b :: As).toArray) XC free := by
  obtain ⟨hrc, hrs, hfr, hlo, hws, hcw⟩ := cw.back
  have hini := cw.init
  have hK : vx_Back l R p e below s args y 5 8 (PreOf R mc ms Pc) (PostOf Qc mc ms free) (vx_Post XC mc ms free) := vx_back (bytes := bytes) (maxL := maxL) (ret := ret) hM hp.1 hrc hrs hfr hlo hws hcw (fun a' U hW => word_at hW (Or.inl (by first | rfl | simp [Cond.onTables, Cond.keeps, Cond.steady])) hini)
  obtain ⟨hx, hb, hml, ho, -⟩ := S
  obtain ⟨-, ⟨cellB, hcB, hoB, hclB⟩, hPc⟩ := hp
  obtain ⟨hfc, kB, hkB, -⟩ := hat
  cases hfc.symm.trans hclB
  intro T hT X
  rcases vx_callIF X hx (C := C) (bytes := bytes) (maxL := maxL) (ret := ret) ho cw.link cw.decl cw.face cw.sel cw.inst cw.pub cw.unh cw.cast cw.code cw.notMH hK (by rw [hT]; exact hcB) hoB hclB hkB hg (hsize.trans hml.symm) (argsL := As) (rest := rest) (fun sig h => hn.trans (cw.len sig h)) hstack hW (by rw [hb]; exact hdg)
    (fun vm₁ hW₁ => ⟨hf.1, hf.2, hPc (T.setVm vm₁) hT hW₁⟩) with ⟨v, vm₁, ⟨U', l2, c2, s2⟩, hW₁, X', ⟨g', mk, t, L, e1, e2, hq, h1, hL, h2, h3⟩, st⟩ | ⟨q, vm₁, ⟨U', l2, c2, s2⟩, hW₁, X', ⟨g', mk, t, L, E, ce, e1, e2, hq, hce, hcv, hcl, h1, hL, h2, h3⟩, st⟩
  · dsimp only [Pt.U, Pt.locs, Pt.cells, Pt.slots] at X' e1 e2 h1 h2 h3 st
    subst h1; subst h2; subst h3
    exact Or.inl ⟨v, (T.setVm vm₁).calling g' mk (Value.ref b :: As).toArray, t, U', L, hT, X', hL, e1, e2, hq, st⟩
  · dsimp only [Pt.U, Pt.locs, Pt.cells, Pt.slots] at X' e1 e2 h1 h2 h3 st hcl
    subst h1; subst h2; subst h3
    exact Or.inr ⟨q, (T.setVm vm₁).calling g' mk (Value.ref b :: As).toArray, t, U', L, E, ce, hT, X', hL, e1, e2, hq, hce, hcv, vx_cls hW₁ hcl, st⟩
theorem vx_callFv {S SX : Type} {post : S → Prop} {px : SX → Prop} {B : S → State → Prop} {BX : String → SX → State → Prop} {AX : Nat → Prop} (hr : vx_Run5 p l e R s m args below meth c H locs cells slots mc ms (F0 m pc ls st0) rest (va_Qv post B A1 a) (vx_X px BX AX) free) (hS : va_S A0 H0 H locs) (hA : ∀ q, q < H.size → A1 q → A0 q) (hf : ∀ q, free q → A0 q) (hAX : ∀ q, q < H.size → AX q → A0 q)
    (kx : ∀ (E : String) (ce : Cell) (q9 : Addr) (u : SX) (t : State) (H1 : Heap) (locs1 : List Loc), t.heap = H1 → s.vm.Alike t.vm → px u → BX E u t → H.size ≤ H1.size → (∀ q : Nat, q < H.size → ¬ AX q → H1[q]? = H[q]?) → va_S A0 H0 H1 locs1 → H1[q9]? = some ce → ce.vm = .none → s.vm.findClass E = some ce.cls → vx_W p l e R s m args below meth c H1 locs1 (cells + mc) (slots + ms) Q (F0 m pc ls rest) q9)
    (kk : ∀ (u : S) (t : State) (H1 : Heap) (locs1 : List Loc), t.heap = H1 → s.vm.Alike t.vm → post u → B u t → H.size ≤ H1.size → (∀ q : Nat, q < H.size → ¬ A1 q → H1[q]? = H[q]?) → va_S A0 H0 H1 locs1 → W p l e R s m args below meth c H1 locs1 (cells + mc) (slots + ms) Q (F0 m (pc + 5) ls (rest))) : W p l e R s m args below meth c H locs cells slots Q (F0 m pc ls st0) := by
  intro T hT X
  rcases hr T hT X with ⟨v, st₀, t, T', L, h0, X', hL, e1, e2, ⟨⟨u, hv, hp, hb⟩, hF⟩, st⟩ | ⟨q, st₀, t, T', L, E, ce, h0, X', hL, e1, e2, ⟨u, hp, hb, hF⟩, hce, hcv, hcl, st⟩
  · cases hv
    obtain ⟨k1, k2, k3⟩ := vx_keep h0 e1 hS hA hf hL hF
    obtain ⟨t2, a1, b1⟩ := kk u t T'.heap (locs ++ L) e1.symm (by rw [← e2]; exact X'.warmed.alike) hp hb k1 k2 k3 T' rfl X'
    exact ⟨t2, st t2 a1, b1⟩
  · obtain ⟨k1, k2, k3⟩ := vx_keep h0 e1 hS hAX hf hL hF
    obtain ⟨t2, a1, b1⟩ := kx E ce q u t T'.heap (locs ++ L) e1.symm (by rw [← e2]; exact X'.warmed.alike) hp hb k1 k2 k3 (by rw [e1]; exact hce) hcv hcl T' rfl X'
    exact ⟨t2, st.trans a1, b1⟩
theorem vx_callFi {S SX : Type} {post : Int32 → S → Prop} {px : SX → Prop} {B : S → State → Prop} {BX : String → SX → State → Prop} {AX : Nat → Prop} (hr : vx_Run5 p l e R s m args below meth c H locs cells slots mc ms (F0 m pc ls st0) rest (va_Qi post B A1 a) (vx_X px BX AX) free) (hS : va_S A0 H0 H locs) (hA : ∀ q, q < H.size → A1 q → A0 q) (hf : ∀ q, free q → A0 q) (hAX : ∀ q, q < H.size → AX q → A0 q)
    (kx : ∀ (E : String) (ce : Cell) (q9 : Addr) (u : SX) (t : State) (H1 : Heap) (locs1 : List Loc), t.heap = H1 → s.vm.Alike t.vm → px u → BX E u t → H.size ≤ H1.size → (∀ q : Nat, q < H.size → ¬ AX q → H1[q]? = H[q]?) → va_S A0 H0 H1 locs1 → H1[q9]? = some ce → ce.vm = .none → s.vm.findClass E = some ce.cls → vx_W p l e R s m args below meth c H1 locs1 (cells + mc) (slots + ms) Q (F0 m pc ls rest) q9)
    (kk : ∀ (r : Int32) (u : S) (t : State) (H1 : Heap) (locs1 : List Loc), t.heap = H1 → s.vm.Alike t.vm → post r u → B u t → H.size ≤ H1.size → (∀ q : Nat, q < H.size → ¬ A1 q → H1[q]? = H[q]?) → va_S A0 H0 H1 locs1 → W p l e R s m args below meth c H1 locs1 (cells + mc) (slots + ms) Q (F0 m (pc + 5) ls (.int r :: rest))) : W p l e R s m args below meth c H locs cells slots Q (F0 m pc ls st0) := by
  intro T hT X
  rcases hr T hT X with ⟨v, st₀, t, T', L, h0, X', hL, e1, e2, ⟨⟨r, u, hv, hp, hb⟩, hF⟩, st⟩ | ⟨q, st₀, t, T', L, E, ce, h0, X', hL, e1, e2, ⟨u, hp, hb, hF⟩, hce, hcv, hcl, st⟩
  · cases hv
    obtain ⟨k1, k2, k3⟩ := vx_keep h0 e1 hS hA hf hL hF
    obtain ⟨t2, a1, b1⟩ := kk r u t T'.heap (locs ++ L) e1.symm (by rw [← e2]; exact X'.warmed.alike) hp hb k1 k2 k3 T' rfl X'
    exact ⟨t2, st t2 a1, b1⟩
  · obtain ⟨k1, k2, k3⟩ := vx_keep h0 e1 hS hAX hf hL hF
    obtain ⟨t2, a1, b1⟩ := kx E ce q u t T'.heap (locs ++ L) e1.symm (by rw [← e2]; exact X'.warmed.alike) hp hb k1 k2 k3 (by rw [e1]; exact hce) hcv hcl T' rfl X'
    exact ⟨t2, st.trans a1, b1⟩
theorem vx_callFl {S SX : Type} {post : Int64 → S → Prop} {px : SX → Prop} {B : S → State → Prop} {BX : String → SX → State → Prop} {AX : Nat → Prop} (hr : vx_Run5 p l e R s m args below meth c H locs cells slots mc ms (F0 m pc ls st0) rest (va_Ql post B A1 a) (vx_X px BX AX) free) (hS : va_S A0 H0 H locs) (hA : ∀ q, q < H.size → A1 q → A0 q) (hf : ∀ q, free q → A0 q) (hAX : ∀ q, q < H.size → AX q → A0 q)
    (kx : ∀ (E : String) (ce : Cell) (q9 : Addr) (u : SX) (t : State) (H1 : Heap) (locs1 : List Loc), t.heap = H1 → s.vm.Alike t.vm → px u → BX E u t → H.size ≤ H1.size → (∀ q : Nat, q < H.size → ¬ AX q → H1[q]? = H[q]?) → va_S A0 H0 H1 locs1 → H1[q9]? = some ce → ce.vm = .none → s.vm.findClass E = some ce.cls → vx_W p l e R s m args below meth c H1 locs1 (cells + mc) (slots + ms) Q (F0 m pc ls rest) q9)
    (kk : ∀ (r : Int64) (u : S) (t : State) (H1 : Heap) (locs1 : List Loc), t.heap = H1 → s.vm.Alike t.vm → post r u → B u t → H.size ≤ H1.size → (∀ q : Nat, q < H.size → ¬ A1 q → H1[q]? = H[q]?) → va_S A0 H0 H1 locs1 → W p l e R s m args below meth c H1 locs1 (cells + mc) (slots + ms) Q (F0 m (pc + 5) ls (.long r :: rest))) : W p l e R s m args below meth c H locs cells slots Q (F0 m pc ls st0) := by
  intro T hT X
  rcases hr T hT X with ⟨v, st₀, t, T', L, h0, X', hL, e1, e2, ⟨⟨r, u, hv, hp, hb⟩, hF⟩, st⟩ | ⟨q, st₀, t, T', L, E, ce, h0, X', hL, e1, e2, ⟨u, hp, hb, hF⟩, hce, hcv, hcl, st⟩
  · cases hv
    obtain ⟨k1, k2, k3⟩ := vx_keep h0 e1 hS hA hf hL hF
    obtain ⟨t2, a1, b1⟩ := kk r u t T'.heap (locs ++ L) e1.symm (by rw [← e2]; exact X'.warmed.alike) hp hb k1 k2 k3 T' rfl X'
    exact ⟨t2, st t2 a1, b1⟩
  · obtain ⟨k1, k2, k3⟩ := vx_keep h0 e1 hS hAX hf hL hF
    obtain ⟨t2, a1, b1⟩ := kx E ce q u t T'.heap (locs ++ L) e1.symm (by rw [← e2]; exact X'.warmed.alike) hp hb k1 k2 k3 (by rw [e1]; exact hce) hcv hcl T' rfl X'
    exact ⟨t2, st.trans a1, b1⟩
theorem vx_callFf {S SX : Type} {post : UInt32 → S → Prop} {px : SX → Prop} {B : S → State → Prop} {BX : String → SX → State → Prop} {AX : Nat → Prop} (hr : vx_Run5 p l e R s m args below meth c H locs cells slots mc ms (F0 m pc ls st0) rest (va_Qf post B A1 a) (vx_X px BX AX) free) (hS : va_S A0 H0 H locs) (hA : ∀ q, q < H.size → A1 q → A0 q) (hf : ∀ q, free q → A0 q) (hAX : ∀ q, q < H.size → AX q → A0 q)
    (kx : ∀ (E : String) (ce : Cell) (q9 : Addr) (u : SX) (t : State) (H1 : Heap) (locs1 : List Loc), t.heap = H1 → s.vm.Alike t.vm → px u → BX E u t → H.size ≤ H1.size → (∀ q : Nat, q < H.size → ¬ AX q → H1[q]? = H[q]?) → va_S A0 H0 H1 locs1 → H1[q9]? = some ce → ce.vm = .none → s.vm.findClass E = some ce.cls → vx_W p l e R s m args below meth c H1 locs1 (cells + mc) (slots + ms) Q (F0 m pc ls rest) q9)
    (kk : ∀ (r : UInt32) (u : S) (t : State) (H1 : Heap) (locs1 : List Loc), t.heap = H1 → s.vm.Alike t.vm → post r u → B u t → H.size ≤ H1.size → (∀ q : Nat, q < H.size → ¬ A1 q → H1[q]? = H[q]?) → va_S A0 H0 H1 locs1 → W p l e R s m args below meth c H1 locs1 (cells + mc) (slots + ms) Q (F0 m (pc + 5) ls (.float r :: rest))) : W p l e R s m args below meth c H locs cells slots Q (F0 m pc ls st0) := by
  intro T hT X
  rcases hr T hT X with ⟨v, st₀, t, T', L, h0, X', hL, e1, e2, ⟨⟨r, u, hv, hp, hb⟩, hF⟩, st⟩ | ⟨q, st₀, t, T', L, E, ce, h0, X', hL, e1, e2, ⟨u, hp, hb, hF⟩, hce, hcv, hcl, st⟩
  · cases hv
    obtain ⟨k1, k2, k3⟩ := vx_keep h0 e1 hS hA hf hL hF
    obtain ⟨t2, a1, b1⟩ := kk r u t T'.heap (locs ++ L) e1.symm (by rw [← e2]; exact X'.warmed.alike) hp hb k1 k2 k3 T' rfl X'
    exact ⟨t2, st t2 a1, b1⟩
  · obtain ⟨k1, k2, k3⟩ := vx_keep h0 e1 hS hAX hf hL hF
    obtain ⟨t2, a1, b1⟩ := kx E ce q u t T'.heap (locs ++ L) e1.symm (by rw [← e2]; exact X'.warmed.alike) hp hb k1 k2 k3 (by rw [e1]; exact hce) hcv hcl T' rfl X'
    exact ⟨t2, st.trans a1, b1⟩
theorem vx_callFd {S SX : Type} {post : UInt64 → S → Prop} {px : SX → Prop} {B : S → State → Prop} {BX : String → SX → State → Prop} {AX : Nat → Prop} (hr : vx_Run5 p l e R s m args below meth c H locs cells slots mc ms (F0 m pc ls st0) rest (va_Qd post B A1 a) (vx_X px BX AX) free) (hS : va_S A0 H0 H locs) (hA : ∀ q, q < H.size → A1 q → A0 q) (hf : ∀ q, free q → A0 q) (hAX : ∀ q, q < H.size → AX q → A0 q)
    (kx : ∀ (E : String) (ce : Cell) (q9 : Addr) (u : SX) (t : State) (H1 : Heap) (locs1 : List Loc), t.heap = H1 → s.vm.Alike t.vm → px u → BX E u t → H.size ≤ H1.size → (∀ q : Nat, q < H.size → ¬ AX q → H1[q]? = H[q]?) → va_S A0 H0 H1 locs1 → H1[q9]? = some ce → ce.vm = .none → s.vm.findClass E = some ce.cls → vx_W p l e R s m args below meth c H1 locs1 (cells + mc) (slots + ms) Q (F0 m pc ls rest) q9)
    (kk : ∀ (r : UInt64) (u : S) (t : State) (H1 : Heap) (locs1 : List Loc), t.heap = H1 → s.vm.Alike t.vm → post r u → B u t → H.size ≤ H1.size → (∀ q : Nat, q < H.size → ¬ A1 q → H1[q]? = H[q]?) → va_S A0 H0 H1 locs1 → W p l e R s m args below meth c H1 locs1 (cells + mc) (slots + ms) Q (F0 m (pc + 5) ls (.double r :: rest))) : W p l e R s m args below meth c H locs cells slots Q (F0 m pc ls st0) := by
  intro T hT X
  rcases hr T hT X with ⟨v, st₀, t, T', L, h0, X', hL, e1, e2, ⟨⟨r, u, hv, hp, hb⟩, hF⟩, st⟩ | ⟨q, st₀, t, T', L, E, ce, h0, X', hL, e1, e2, ⟨u, hp, hb, hF⟩, hce, hcv, hcl, st⟩
  · cases hv
    obtain ⟨k1, k2, k3⟩ := vx_keep h0 e1 hS hA hf hL hF
    obtain ⟨t2, a1, b1⟩ := kk r u t T'.heap (locs ++ L) e1.symm (by rw [← e2]; exact X'.warmed.alike) hp hb k1 k2 k3 T' rfl X'
    exact ⟨t2, st t2 a1, b1⟩
  · obtain ⟨k1, k2, k3⟩ := vx_keep h0 e1 hS hAX hf hL hF
    obtain ⟨t2, a1, b1⟩ := kx E ce q u t T'.heap (locs ++ L) e1.symm (by rw [← e2]; exact X'.warmed.alike) hp hb k1 k2 k3 (by rw [e1]; exact hce) hcv hcl T' rfl X'
    exact ⟨t2, st.trans a1, b1⟩
end
/-! ===== END ===== -/
/-! ===== BEGIN by an interface, a method with a table of its own that may throw (follows va_callIFW, va_runFW) ===== -/
section
variable {p : Program} {l : Launch} {e : Env} {R : Room} {s : State} {m : MethodId} {args : Array Value} {below : List Frame} {meth : Method} {c : Code} {H : Heap} {locs : List Loc} {cells slots : Nat}
theorem vx_callIFW {T : State} (X : Stand p l e R s m args below meth c T locs cells slots) (hexec : p.tables.exec = Jvm.exec) {own C : String} {index count : Nat} {x y : MethodName} {bytes : ByteArray} {maxL : Nat} {ret : Option FieldType} {hh : List (Nat × Nat × Nat × Nat)}
    (hown : s.vm.findClass own = some m.cls) (hlink : (Cond.methodLink own index x).before args s = true) (hdecl : (Cond.declares x).before args s = true) (hface : (Cond.interfaceMethod x.cls x.cls x.name x.desc).before args s = true)
    (hsel : (Cond.selects C x y).before args s = true) (hinst : (Cond.instanceMethod y).before args s = true) (hpub : (Cond.publicMethod y).before args s = true) (hunh : (Cond.unhidden C x.name x.desc).before args s = true)
    (hcast : (Cond.castable C x.cls).before args s = true) (hcode : (Cond.codeWith y bytes maxL ret hh).before args s = true) (hx : x.cls ≠ "java/lang/invoke/MethodHandle" ∧ x.cls ≠ "java/lang/invoke/VarHandle")
    {W : Nat} {Pre : Pt → Array Value → Prop} {Post : Pt → Array Value → Option Value → Pt → Prop} {PostX : Pt → Array Value → Addr → Pt → Prop} (hK : vx_Back l R p e below s args y 5 W Pre Post PostX)
    {b : Addr} {cellB : Cell} {kB : Class} (hcell : T.heap[b]? = some cellB) (hobj : cellB.vm.isStatics = false) (hcls : s.vm.findClass C = some cellB.cls) (hkB : s.vm.classes[cellB.cls]? = some kB)
    {g : JFrame} (hg : g.method = m) (hsize : g.locals.size = c.maxLocals) {argsL rest : List Value} (hlen : ∀ sig, parseMethodDescriptor x.desc = some sig → argsL.length = sig.parameters.length)
    (hstack : g.stack = argsL.reverse ++ .ref b :: rest) (hW : 2 * g.monitorRoom + (rest.map fun v => v.category).sum ≤ W) (hdg : decode c.code g.pc = .ok (.invokeinterface index count, 5))
    (hpre : ∀ vm₁, s.WarmedH vm₁ → Pre ⟨T.setVm vm₁, locs, cells, slots⟩ (Value.ref b :: argsL).toArray) :
    (∃ (v : Option Value) (vm₁ : Vm) (B : Pt), s.WarmedH vm₁ ∧ Stand p l e R s m args below meth c B.U B.locs B.cells B.slots ∧ Post ⟨T.setVm vm₁, locs, cells, slots⟩ (Value.ref b :: argsL).toArray v B ∧
      ∀ target, Steps p.tables e below (B.U.setTop { g with pc := g.pc + 5, stack := v.toList ++ rest }) target → Steps p.tables e below (T.setTop g) target) ∨
    (∃ (q : Addr) (vm₁ : Vm) (B : Pt), s.WarmedH vm₁ ∧ Stand p l e R s m args below meth c B.U B.locs B.cells B.slots ∧ PostX ⟨T.setVm vm₁, locs, cells, slots⟩ (Value.ref b :: argsL).toArray q B ∧
      Steps p.tables e below (T.setTop g) ((B.U.setTop { g with stack := rest }).pushFrame (.throwing q))) := by
  obtain ⟨r0, r, hn, hrm, hstR, hsigR⟩ := Cond.declares_spec hdecl
  obtain ⟨cL, kL, r1, hcL, hkL, hiL, hfoundL, hn1⟩ := Cond.interfaceMethod_spec hface
  cases hn.symm.trans hn1
  have hr0cls : r0.cls = cL := Option.some.inj ((findClass_of_methodNamed hn).symm.trans hcL)
  obtain ⟨hnameR, hdescR⟩ := name_of_methodNamed hn hrm
  obtain ⟨mk, methM, hnamed, hmethM, -, habM⟩ := Cond.instanceMethod_spec hinst
  obtain ⟨c2, r2, m2, q1, q2, q3, q4, -⟩ := Cond.selects_spec hsel
  cases hcls.symm.trans q1
  cases hfoundL.symm.trans q2
  cases hnamed.symm.trans q3
  have hselP : selectMethod e.platform s.vm cellB.cls r0 = .method mk := by rw [Launch.admits_selectMethod X.admits]; exact q4
  have hpubM : hasFlag methM.accessFlags Acc.public_ = true := Cond.publicMethod_spec hnamed hmethM hpub
  have hway : ((cellB.cls :: s.vm.superclasses cellB.cls).any fun k => (declaredIn s.vm r.name r.desc k).any fun (_, z) => z.isPrivate || z.isStatic) = false := by
    rw [hnameR, hdescR]; exact Cond.unhidden_spec hcls hunh
  obtain ⟨c3, t3, w1, w2, w3⟩ := Cond.castable_spec hcast
  cases hcls.symm.trans w1
  cases hcL.symm.trans w2
  obtain ⟨vm₁, X₁, hstep₁⟩ := X.invokeinterface hexec hown hlink hn hrm hstR (by rw [hr0cls]; exact hkL) hiL hx (a := b) (cell := cellB) (kcell := kB) hcell
    (fun z h => by rw [h] at hobj; cases hobj) hkB (by rw [hr0cls]; exact w3) hselP hmethM hway hpubM habM (g := g) hg (argsL := argsL) (rest := rest) (hlen _ hsigR) hstack hdg
  rcases hK m meth c ⟨T.setVm vm₁, locs, cells, slots⟩ { g with stack := rest } (.invokeinterface index count) mk (Value.ref b :: argsL).toArray X₁ hg hsize hdg hW (X₁.named hnamed) (hpre vm₁ X₁.warmed) with ⟨v, B, X', hpost, hsteps⟩ | ⟨q, B, X', hpost, hsteps⟩
  · exact Or.inl ⟨v, vm₁, B, X₁.warmed, X', hpost, fun target h => hstep₁ _ fun acts => by rw [doInvoke_state]; exact hsteps.trans h⟩
  · exact Or.inr ⟨q, vm₁, B, X₁.warmed, X', hpost, hstep₁ _ fun acts => by rw [doInvoke_state]; exact hsteps⟩
theorem vx_runFW {x y : MethodName} {bytes cc : ByteArray} {maxL nL mc ms n index count : Nat} {ret : Option FieldType} {hh : List (Nat × Nat × Nat × Nat)} {ws : List Cond} {rm : Room} {Pc : Array Value → State → Prop} {Qc : Array Value → State → Outcome → State → Prop} {XC : String → State → State → Prop} {free : Addr → Prop} {Ts : List Cond} {own C : String} {cC : ClassId} {b : Addr} {As rest : List Value} {g : JFrame}
    (hat : ClassAt s C cC) (S : CallFix p m c cc nL s args Ts own) (hM : vx_Met l y ws rm Pc Qc XC mc ms free) (cw : va_CIW R s args own C index x y bytes maxL ret hh ws rm mc ms n) (hp : PreV s H C b Pc As)
    (hg : g.method = m) (hn : As.length = n) (hsize : g.locals.size = nL) (hstack : g.stack = As.reverse ++ .ref b :: rest) (hW : 2 * g.monitorRoom + (rest.map fun v => v.category).sum ≤ 8) (hdg : decode cc g.pc = .ok (.invokeinterface index count, 5)) (hf : cells + mc ≤ R.cells ∧ slots + ms ≤ R.slots) :
    vx_Run5 p l e R s m args below meth c H locs cells slots mc ms g rest (Qc (Value.ref b :: As).toArray) XC free := by
  obtain ⟨hrc, hrs, hfr, hlo, hws, hcw⟩ := cw.back
  have hini := cw.init
  have hK : vx_Back l R p e below s args y 5 8 (PreOf R mc ms Pc) (PostOf Qc mc ms free) (vx_Post XC mc ms free) := vx_backW (hh := hh) (bytes := bytes) (maxL := maxL) (ret := ret) hM hp.1 hrc hrs hfr hlo hws hcw (fun a' U hW => word_at hW (Or.inl (by first | rfl | simp [Cond.onTables, Cond.keeps, Cond.steady])) hini)
  obtain ⟨hx, hb, hml, ho, -⟩ := S
  obtain ⟨-, ⟨cellB, hcB, hoB, hclB⟩, hPc⟩ := hp
  obtain ⟨hfc, kB, hkB, -⟩ := hat
  cases hfc.symm.trans hclB
  intro T hT X
  rcases vx_callIFW X hx (C := C) (hh := hh) (bytes := bytes) (maxL := maxL) (ret := ret) ho cw.link cw.decl cw.face cw.sel cw.inst cw.pub cw.unh cw.cast cw.code cw.notMH hK (by rw [hT]; exact hcB) hoB hclB hkB hg (hsize.trans hml.symm) (argsL := As) (rest := rest) (fun sig h => hn.trans (cw.len sig h)) hstack hW (by rw [hb]; exact hdg)
    (fun vm₁ hW₁ => ⟨hf.1, hf.2, hPc (T.setVm vm₁) hT hW₁⟩) with ⟨v, vm₁, ⟨U', l2, c2, s2⟩, hW₁, X', ⟨g', mk, t, L, e1, e2, hq, h1, hL, h2, h3⟩, st⟩ | ⟨q, vm₁, ⟨U', l2, c2, s2⟩, hW₁, X', ⟨g', mk, t, L, E, ce, e1, e2, hq, hce, hcv, hcl, h1, hL, h2, h3⟩, st⟩
  · dsimp only [Pt.U, Pt.locs, Pt.cells, Pt.slots] at X' e1 e2 h1 h2 h3 st
    subst h1; subst h2; subst h3
    exact Or.inl ⟨v, (T.setVm vm₁).calling g' mk (Value.ref b :: As).toArray, t, U', L, hT, X', hL, e1, e2, hq, st⟩
  · dsimp only [Pt.U, Pt.locs, Pt.cells, Pt.slots] at X' e1 e2 h1 h2 h3 st hcl
    subst h1; subst h2; subst h3
    exact Or.inr ⟨q, (T.setVm vm₁).calling g' mk (Value.ref b :: As).toArray, t, U', L, E, ce, hT, X', hL, e1, e2, hq, hce, hcv, vx_cls hW₁ hcl, st⟩
end
/-! ===== END ===== -/
/-! ===== BEGIN .. of methods that hand back an object of the pool ===== -/
section
variable {p : Program} {l : Launch} {e : Env} {R : Room} {s : State} {m : MethodId} {args : Array Value} {below : List Frame} {meth : Method} {c : Code} {H : Heap} {locs : List Loc} {cells slots : Nat} {Q : State → Prop}
variable {mc ms : Nat} {free : Addr → Prop} {A0 A1 : Nat → Prop} {H0 : Heap} {a : Array Value} {pc : Nat} {ls : Array Slot} {st0 rest : List Value}
theorem vx_callq {S SX : Type} {post : Option Nat → S → Prop} {px : SX → Prop} {B : S → State → Prop} {BX : String → SX → State → Prop} {AX : Nat → Prop} (hr : vx_Run p l e R s m args below meth c H locs cells slots mc ms (F0 m pc ls st0) rest (va_Qq post B A1 a) (vx_X px BX AX) free) (hS : va_S A0 H0 H locs) (hA : ∀ q, q < H.size → A1 q → A0 q) (hf : ∀ q, free q → A0 q) (hAX : ∀ q, q < H.size → AX q → A0 q)
    (kx : ∀ (E : String) (ce : Cell) (q9 : Addr) (u : SX) (t : State) (H1 : Heap) (locs1 : List Loc), t.heap = H1 → s.vm.Alike t.vm → px u → BX E u t → H.size ≤ H1.size → (∀ q : Nat, q < H.size → ¬ AX q → H1[q]? = H[q]?) → va_S A0 H0 H1 locs1 → H1[q9]? = some ce → ce.vm = .none → s.vm.findClass E = some ce.cls → vx_W p l e R s m args below meth c H1 locs1 (cells + mc) (slots + ms) Q (F0 m pc ls rest) q9)
    (kk : ∀ (r : Option Nat) (u : S) (t : State) (H1 : Heap) (locs1 : List Loc), t.heap = H1 → s.vm.Alike t.vm → post r u → B u t → H.size ≤ H1.size → (∀ q : Nat, q < H.size → ¬ A1 q → H1[q]? = H[q]?) → va_S A0 H0 H1 locs1 → W p l e R s m args below meth c H1 locs1 (cells + mc) (slots + ms) Q (F0 m (pc + 3) ls (va_rf r :: rest))) : W p l e R s m args below meth c H locs cells slots Q (F0 m pc ls st0) := by
  intro T hT X
  rcases hr T hT X with ⟨v, st₀, t, T', L, h0, X', hL, e1, e2, ⟨⟨r, u, hv, hp, hb⟩, hF⟩, st⟩ | ⟨q, st₀, t, T', L, E, ce, h0, X', hL, e1, e2, ⟨u, hp, hb, hF⟩, hce, hcv, hcl, st⟩
  · cases hv
    obtain ⟨k1, k2, k3⟩ := vx_keep h0 e1 hS hA hf hL hF
    obtain ⟨t2, a1, b1⟩ := kk r u t T'.heap (locs ++ L) e1.symm (by rw [← e2]; exact X'.warmed.alike) hp hb k1 k2 k3 T' rfl X'
    exact ⟨t2, st t2 a1, b1⟩
  · obtain ⟨k1, k2, k3⟩ := vx_keep h0 e1 hS hAX hf hL hF
    obtain ⟨t2, a1, b1⟩ := kx E ce q u t T'.heap (locs ++ L) e1.symm (by rw [← e2]; exact X'.warmed.alike) hp hb k1 k2 k3 (by rw [e1]; exact hce) hcv hcl T' rfl X'
    exact ⟨t2, st.trans a1, b1⟩
end
/-! ===== END ===== -/
/-! ===== BEGIN .. a constant ===== -/
section
variable {p : Program} {l : Launch} {e : Env} {R : Room} {s : State} {m : MethodId} {args : Array Value} {below : List Frame} {meth : Method} {c : Code} {H : Heap} {locs : List Loc} {cells slots : Nat} {Q : State → Prop}
variable {mc ms : Nat} {free : Addr → Prop} {A0 A1 : Nat → Prop} {H0 : Heap} {a : Array Value} {pc : Nat} {ls : Array Slot} {st0 rest : List Value}
theorem vx_calle {ad : Nat → Nat} {S SX : Type} {post : Option Nat → S → Prop} {px : SX → Prop} {B : S → State → Prop} {BX : String → SX → State → Prop} {AX : Nat → Prop} (hr : vx_Run p l e R s m args below meth c H locs cells slots mc ms (F0 m pc ls st0) rest (va_Qe ad post B A1 a) (vx_X px BX AX) free) (hS : va_S A0 H0 H locs) (hA : ∀ q, q < H.size → A1 q → A0 q) (hf : ∀ q, free q → A0 q) (hAX : ∀ q, q < H.size → AX q → A0 q)
    (kx : ∀ (E : String) (ce : Cell) (q9 : Addr) (u : SX) (t : State) (H1 : Heap) (locs1 : List Loc), t.heap = H1 → s.vm.Alike t.vm → px u → BX E u t → H.size ≤ H1.size → (∀ q : Nat, q < H.size → ¬ AX q → H1[q]? = H[q]?) → va_S A0 H0 H1 locs1 → H1[q9]? = some ce → ce.vm = .none → s.vm.findClass E = some ce.cls → vx_W p l e R s m args below meth c H1 locs1 (cells + mc) (slots + ms) Q (F0 m pc ls rest) q9)
    (kk : ∀ (r : Option Nat) (u : S) (t : State) (H1 : Heap) (locs1 : List Loc), t.heap = H1 → s.vm.Alike t.vm → post r u → B u t → H.size ≤ H1.size → (∀ q : Nat, q < H.size → ¬ A1 q → H1[q]? = H[q]?) → va_S A0 H0 H1 locs1 → W p l e R s m args below meth c H1 locs1 (cells + mc) (slots + ms) Q (F0 m (pc + 3) ls (va_re ad r :: rest))) : W p l e R s m args below meth c H locs cells slots Q (F0 m pc ls st0) := by
  intro T hT X
  rcases hr T hT X with ⟨v, st₀, t, T', L, h0, X', hL, e1, e2, ⟨⟨r, u, hv, hp, hb⟩, hF⟩, st⟩ | ⟨q, st₀, t, T', L, E, ce, h0, X', hL, e1, e2, ⟨u, hp, hb, hF⟩, hce, hcv, hcl, st⟩
  · cases hv
    obtain ⟨k1, k2, k3⟩ := vx_keep h0 e1 hS hA hf hL hF
    obtain ⟨t2, a1, b1⟩ := kk r u t T'.heap (locs ++ L) e1.symm (by rw [← e2]; exact X'.warmed.alike) hp hb k1 k2 k3 T' rfl X'
    exact ⟨t2, st t2 a1, b1⟩
  · obtain ⟨k1, k2, k3⟩ := vx_keep h0 e1 hS hAX hf hL hF
    obtain ⟨t2, a1, b1⟩ := kx E ce q u t T'.heap (locs ++ L) e1.symm (by rw [← e2]; exact X'.warmed.alike) hp hb k1 k2 k3 (by rw [e1]; exact hce) hcv hcl T' rfl X'
    exact ⟨t2, st.trans a1, b1⟩
end
/-! ===== END ===== -/
/-! ===== BEGIN .. by an interface, an object ===== -/
section
variable {p : Program} {l : Launch} {e : Env} {R : Room} {s : State} {m : MethodId} {args : Array Value} {below : List Frame} {meth : Method} {c : Code} {H : Heap} {locs : List Loc} {cells slots : Nat} {Q : State → Prop}
variable {mc ms : Nat} {free : Addr → Prop} {A0 A1 : Nat → Prop} {H0 : Heap} {a : Array Value} {pc : Nat} {ls : Array Slot} {st0 rest : List Value}
theorem vx_callFq {S SX : Type} {post : Option Nat → S → Prop} {px : SX → Prop} {B : S → State → Prop} {BX : String → SX → State → Prop} {AX : Nat → Prop} (hr : vx_Run5 p l e R s m args below meth c H locs cells slots mc ms (F0 m pc ls st0) rest (va_Qq post B A1 a) (vx_X px BX AX) free) (hS : va_S A0 H0 H locs) (hA : ∀ q, q < H.size → A1 q → A0 q) (hf : ∀ q, free q → A0 q) (hAX : ∀ q, q < H.size → AX q → A0 q)
    (kx : ∀ (E : String) (ce : Cell) (q9 : Addr) (u : SX) (t : State) (H1 : Heap) (locs1 : List Loc), t.heap = H1 → s.vm.Alike t.vm → px u → BX E u t → H.size ≤ H1.size → (∀ q : Nat, q < H.size → ¬ AX q → H1[q]? = H[q]?) → va_S A0 H0 H1 locs1 → H1[q9]? = some ce → ce.vm = .none → s.vm.findClass E = some ce.cls → vx_W p l e R s m args below meth c H1 locs1 (cells + mc) (slots + ms) Q (F0 m pc ls rest) q9)
    (kk : ∀ (r : Option Nat) (u : S) (t : State) (H1 : Heap) (locs1 : List Loc), t.heap = H1 → s.vm.Alike t.vm → post r u → B u t → H.size ≤ H1.size → (∀ q : Nat, q < H.size → ¬ A1 q → H1[q]? = H[q]?) → va_S A0 H0 H1 locs1 → W p l e R s m args below meth c H1 locs1 (cells + mc) (slots + ms) Q (F0 m (pc + 5) ls (va_rf r :: rest))) : W p l e R s m args below meth c H locs cells slots Q (F0 m pc ls st0) := by
  intro T hT X
  rcases hr T hT X with ⟨v, st₀, t, T', L, h0, X', hL, e1, e2, ⟨⟨r, u, hv, hp, hb⟩, hF⟩, st⟩ | ⟨q, st₀, t, T', L, E, ce, h0, X', hL, e1, e2, ⟨u, hp, hb, hF⟩, hce, hcv, hcl, st⟩
  · cases hv
    obtain ⟨k1, k2, k3⟩ := vx_keep h0 e1 hS hA hf hL hF
    obtain ⟨t2, a1, b1⟩ := kk r u t T'.heap (locs ++ L) e1.symm (by rw [← e2]; exact X'.warmed.alike) hp hb k1 k2 k3 T' rfl X'
    exact ⟨t2, st t2 a1, b1⟩
  · obtain ⟨k1, k2, k3⟩ := vx_keep h0 e1 hS hAX hf hL hF
    obtain ⟨t2, a1, b1⟩ := kx E ce q u t T'.heap (locs ++ L) e1.symm (by rw [← e2]; exact X'.warmed.alike) hp hb k1 k2 k3 (by rw [e1]; exact hce) hcv hcl T' rfl X'
    exact ⟨t2, st.trans a1, b1⟩
end
/-! ===== END ===== -/
/-! ===== BEGIN .. by an interface, a constant ===== -/
section
variable {p : Program} {l : Launch} {e : Env} {R : Room} {s : State} {m : MethodId} {args : Array Value} {below : List Frame} {meth : Method} {c : Code} {H : Heap} {locs : List Loc} {cells slots : Nat} {Q : State → Prop}
variable {mc ms : Nat} {free : Addr → Prop} {A0 A1 : Nat → Prop} {H0 : Heap} {a : Array Value} {pc : Nat} {ls : Array Slot} {st0 rest : List Value}
theorem vx_callFe {ad : Nat → Nat} {S SX : Type} {post : Option Nat → S → Prop} {px : SX → Prop} {B : S → State → Prop} {BX : String → SX → State → Prop} {AX : Nat → Prop} (hr : vx_Run5 p l e R s m args below meth c H locs cells slots mc ms (F0 m pc ls st0) rest (va_Qe ad post B A1 a) (vx_X px BX AX) free) (hS : va_S A0 H0 H locs) (hA : ∀ q, q < H.size → A1 q → A0 q) (hf : ∀ q, free q → A0 q) (hAX : ∀ q, q < H.size → AX q → A0 q)
    (kx : ∀ (E : String) (ce : Cell) (q9 : Addr) (u : SX) (t : State) (H1 : Heap) (locs1 : List Loc), t.heap = H1 → s.vm.Alike t.vm → px u → BX E u t → H.size ≤ H1.size → (∀ q : Nat, q < H.size → ¬ AX q → H1[q]? = H[q]?) → va_S A0 H0 H1 locs1 → H1[q9]? = some ce → ce.vm = .none → s.vm.findClass E = some ce.cls → vx_W p l e R s m args below meth c H1 locs1 (cells + mc) (slots + ms) Q (F0 m pc ls rest) q9)
    (kk : ∀ (r : Option Nat) (u : S) (t : State) (H1 : Heap) (locs1 : List Loc), t.heap = H1 → s.vm.Alike t.vm → post r u → B u t → H.size ≤ H1.size → (∀ q : Nat, q < H.size → ¬ A1 q → H1[q]? = H[q]?) → va_S A0 H0 H1 locs1 → W p l e R s m args below meth c H1 locs1 (cells + mc) (slots + ms) Q (F0 m (pc + 5) ls (va_re ad r :: rest))) : W p l e R s m args below meth c H locs cells slots Q (F0 m pc ls st0) := by
  intro T hT X
  rcases hr T hT X with ⟨v, st₀, t, T', L, h0, X', hL, e1, e2, ⟨⟨r, u, hv, hp, hb⟩, hF⟩, st⟩ | ⟨q, st₀, t, T', L, E, ce, h0, X', hL, e1, e2, ⟨u, hp, hb, hF⟩, hce, hcv, hcl, st⟩
  · cases hv
    obtain ⟨k1, k2, k3⟩ := vx_keep h0 e1 hS hA hf hL hF
    obtain ⟨t2, a1, b1⟩ := kk r u t T'.heap (locs ++ L) e1.symm (by rw [← e2]; exact X'.warmed.alike) hp hb k1 k2 k3 T' rfl X'
    exact ⟨t2, st t2 a1, b1⟩
  · obtain ⟨k1, k2, k3⟩ := vx_keep h0 e1 hS hAX hf hL hF
    obtain ⟨t2, a1, b1⟩ := kx E ce q u t T'.heap (locs ++ L) e1.symm (by rw [← e2]; exact X'.warmed.alike) hp hb k1 k2 k3 (by rw [e1]; exact hce) hcv hcl T' rfl X'
    exact ⟨t2, st.trans a1, b1⟩
end
/-! ===== END ===== -/
/-! ===== BEGIN what the machine throws by itself: null at a field, at athrow ===== -/
section VXM2
variable {p : Program} {l : Launch} {e : Env} {R : Room} {s : State} {m : MethodId} {args : Array Value} {below : List Frame} {meth : Method} {c : Code} {H : Heap} {locs : List Loc} {cells slots : Nat}
variable {Q : State → Prop} {cc : ByteArray} {pc : Nat} {ls : Array Slot} {rest : List Value}
theorem vx_getfN {D cl tys} {own ref C : String} {T : u_T} {N ci index : Nat} {Ts : List Cond} (hexec : p.tables.exec = Jvm.exec) (hb : c.code = cc) (hts : ∀ w ∈ Ts, w.before args s = true) (hin : ∀ w ∈ u_ws C T N, w ∈ Ts) (hown : s.vm.findClass own = some m.cls) (hK : va_K D cl tys s) (hc : cl[ci]? = some (C, T, N)) (k : Nat) (hk : k < N) (hlink : (Cond.fieldLink own index ref (T k).2.1 (T k).2.2.1).before args s = true) (hsame : ∀ x, s.fieldFound? (T k).1 (T k).2.1 (T k).2.2.1 = some x → s.fieldFound? ref (T k).2.1 (T k).2.2.1 = some x) (hdg : decode cc pc = .ok (.getfield index, 3)) (kk : vx_NoteN p l e R s m args below meth c H locs cells slots Q (F0 m pc ls rest)) : W p l e R s m args below meth c H locs cells slots Q (F0 m pc ls (.null :: rest)) := by
  obtain ⟨hS, hfc, kC, hkC, -⟩ := hK.1 ci _ hc
  obtain ⟨cf, kf, fi, f, hi, -⟩ := hS k hk
  intro U hU X
  obtain ⟨vm', X1, st1⟩ := X.getfieldNull hexec hown hlink (hsame _ hi) (u_facts hfc hkC (u_lays hts hin hk) hi).1 (g := F0 m pc ls (.null :: rest)) rfl (rest := rest) rfl (by rw [hb]; exact hdg)
  obtain ⟨t, st, q⟩ := kk (U.setVm vm') hU X1
  exact ⟨t, st1 t st, q⟩
theorem vx_getfNN {D cl tys} {own ref C host : String} {T : u_T} {N ci index : Nat} {Ts : List Cond} (hexec : p.tables.exec = Jvm.exec) (hb : c.code = cc) (hts : ∀ w ∈ Ts, w.before args s = true) (hin : ∀ w ∈ u_ws C T N, w ∈ Ts) (hown : s.vm.findClass own = some m.cls) (hK : va_K D cl tys s) (hc : cl[ci]? = some (C, T, N)) (k : Nat) (hk : k < N) (hlink : (Cond.fieldLinkNest own index ref (T k).2.1 (T k).2.2.1 host).before args s = true) (hsame : ∀ x, s.fieldFound? (T k).1 (T k).2.1 (T k).2.2.1 = some x → s.fieldFound? ref (T k).2.1 (T k).2.2.1 = some x) (hdg : decode cc pc = .ok (.getfield index, 3)) (kk : vx_NoteN p l e R s m args below meth c H locs cells slots Q (F0 m pc ls rest)) : W p l e R s m args below meth c H locs cells slots Q (F0 m pc ls (.null :: rest)) := by
  obtain ⟨hS, hfc, kC, hkC, -⟩ := hK.1 ci _ hc
  obtain ⟨cf, kf, fi, f, hi, -⟩ := hS k hk
  intro U hU X
  obtain ⟨vm', X1, st1⟩ := X.getfieldNullNest hexec hown hlink (hsame _ hi) (u_facts hfc hkC (u_lays hts hin hk) hi).1 (g := F0 m pc ls (.null :: rest)) rfl (rest := rest) rfl (by rw [hb]; exact hdg)
  obtain ⟨t, st, q⟩ := kk (U.setVm vm') hU X1
  exact ⟨t, st1 t st, q⟩
theorem vx_putfN {D cl tys} {own ref C : String} {T : u_T} {N ci index : Nat} {Ts : List Cond} (hexec : p.tables.exec = Jvm.exec) (hb : c.code = cc) (hts : ∀ w ∈ Ts, w.before args s = true) (hin : ∀ w ∈ u_ws C T N, w ∈ Ts) (hown : s.vm.findClass own = some m.cls) (hK : va_K D cl tys s) (hc : cl[ci]? = some (C, T, N)) (k : Nat) (hk : k < N) (hlink : (Cond.fieldLink own index ref (T k).2.1 (T k).2.2.1).before args s = true) (hsame : ∀ x, s.fieldFound? (T k).1 (T k).2.1 (T k).2.2.1 = some x → s.fieldFound? ref (T k).2.1 (T k).2.2.1 = some x) (hfin : (T k).2.2.2 = false) {v : Value} (hdg : decode cc pc = .ok (.putfield index, 3)) (kk : vx_NoteN p l e R s m args below meth c H locs cells slots Q (F0 m pc ls rest)) : W p l e R s m args below meth c H locs cells slots Q (F0 m pc ls (v :: .null :: rest)) := by
  obtain ⟨hS, hfc, kC, hkC, -⟩ := hK.1 ci _ hc
  obtain ⟨cf, kf, fi, f, hi, -⟩ := hS k hk
  have hlay := hts _ (hin _ (u_in_lay hk))
  unfold u_lay at hlay
  rw [if_neg (by rw [hfin]; decide)] at hlay
  obtain ⟨c9, k9, cf9, kf9, fi9, f9, -, -, hi9, hst9, hnf9, -⟩ := Cond.lays_spec hlay
  cases hi.symm.trans hi9
  intro U hU X
  obtain ⟨vm', X1, st1⟩ := X.putfieldNull hexec hown hlink (hsame _ hi) hst9 hnf9 (g := F0 m pc ls (v :: .null :: rest)) rfl (v := v) (rest := rest) rfl (by rw [hb]; exact hdg)
  obtain ⟨t, st, q⟩ := kk (U.setVm vm') hU X1
  exact ⟨t, st1 t st, q⟩
theorem vx_putfNN {D cl tys} {own ref C host : String} {T : u_T} {N ci index : Nat} {Ts : List Cond} (hexec : p.tables.exec = Jvm.exec) (hb : c.code = cc) (hts : ∀ w ∈ Ts, w.before args s = true) (hin : ∀ w ∈ u_ws C T N, w ∈ Ts) (hown : s.vm.findClass own = some m.cls) (hK : va_K D cl tys s) (hc : cl[ci]? = some (C, T, N)) (k : Nat) (hk : k < N) (hlink : (Cond.fieldLinkNest own index ref (T k).2.1 (T k).2.2.1 host).before args s = true) (hsame : ∀ x, s.fieldFound? (T k).1 (T k).2.1 (T k).2.2.1 = some x → s.fieldFound? ref (T k).2.1 (T k).2.2.1 = some x) (hfin : (T k).2.2.2 = false) {v : Value} (hdg : decode cc pc = .ok (.putfield index, 3)) (kk : vx_NoteN p l e R s m args below meth c H locs cells slots Q (F0 m pc ls rest)) : W p l e R s m args below meth c H locs cells slots Q (F0 m pc ls (v :: .null :: rest)) := by
  obtain ⟨hS, hfc, kC, hkC, -⟩ := hK.1 ci _ hc
  obtain ⟨cf, kf, fi, f, hi, -⟩ := hS k hk
  have hlay := hts _ (hin _ (u_in_lay hk))
  unfold u_lay at hlay
  rw [if_neg (by rw [hfin]; decide)] at hlay
  obtain ⟨c9, k9, cf9, kf9, fi9, f9, -, -, hi9, hst9, hnf9, -⟩ := Cond.lays_spec hlay
  cases hi.symm.trans hi9
  intro U hU X
  obtain ⟨vm', X1, st1⟩ := X.putfieldNullNest hexec hown hlink (hsame _ hi) hst9 hnf9 (g := F0 m pc ls (v :: .null :: rest)) rfl (v := v) (rest := rest) rfl (by rw [hb]; exact hdg)
  obtain ⟨t, st, q⟩ := kk (U.setVm vm') hU X1
  exact ⟨t, st1 t st, q⟩
theorem vx_athrowN (hexec : p.tables.exec = Jvm.exec) (hb : c.code = cc) (hdg : decode cc pc = .ok (.athrow, 1)) (k : vx_NoteN p l e R s m args below meth c H locs cells slots Q (F0 m pc ls rest)) : W p l e R s m args below meth c H locs cells slots Q (F0 m pc ls (.null :: rest)) := by
  intro T hT X
  obtain ⟨t, st, q⟩ := k T hT X
  exact ⟨t, X.athrowNull hexec (g := F0 m pc ls (.null :: rest)) rfl (rest := rest) rfl (by rw [hb]; exact hdg) t st, q⟩
end VXM2
/-! ===== END ===== -/
end
section
/-- the tables' words that a callee may take with it -/
def jm_tbl : List Cond := lw_tbl.filter goodWord
theorem jm_tb {w : Cond} (h : w ∈ lw_tbl) (g : goodWord w = true) : w ∈ jm_tbl := List.mem_filter.mpr ⟨h, g⟩
/-! THE ABSTRACT MACHINE: numbers are whole numbers (Int), objects and rows are places, memory is a function of place and slot -/
abbrev jm_V : Type := Int ⊕ (Int ⊕ Int)
abbrev jm_I (x : Int) : jm_V := .inl x
abbrev jm_L (x : Int) : jm_V := .inr (.inl x)
abbrev jm_R (x : Int) : jm_V := .inr (.inr x)
abbrev jm_M : Type := Int → Int → Int
def jm_up (m : jm_M) (p i v : Int) : jm_M := fun q j => if j = i then (if q = p then v else m q j) else m q j
/-- launch, classes and slots, array classes, first address, Term's constants, TERMS, the script's address, length and numbers; the place of the law's row of cells (0: not made yet), addresses of String constants and of their bytes -/
abbrev jm_E : Type := Launch × va_G × (Nat → ClassId) × Nat × (Nat → Nat) × Nat × Nat × Nat × (Nat → Int32) × Nat × (Nat → Nat) × (Nat → Nat)
abbrev jm_l (E : jm_E) : Launch := E.1
abbrev jm_D (E : jm_E) : va_G := E.2.1
abbrev jm_cA (E : jm_E) : Nat → ClassId := E.2.2.1
abbrev jm_b (E : jm_E) : Nat := E.2.2.2.1
abbrev jm_aT (E : jm_E) : Nat → Nat := E.2.2.2.2.1
abbrev jm_ts (E : jm_E) : Nat := E.2.2.2.2.2.1
abbrev jm_sc (E : jm_E) : Nat := E.2.2.2.2.2.2.1
abbrev jm_sL (E : jm_E) : Nat := E.2.2.2.2.2.2.2.1
abbrev jm_sx (E : jm_E) : Nat → Int32 := E.2.2.2.2.2.2.2.2.1
abbrev jm_xp (E : jm_E) : Nat := E.2.2.2.2.2.2.2.2.2.1
abbrev jm_aK (E : jm_E) : Nat → Nat := E.2.2.2.2.2.2.2.2.2.2.1
abbrev jm_aV (E : jm_E) : Nat → Nat := E.2.2.2.2.2.2.2.2.2.2.2
def jm_setx (E : jm_E) (x : Nat) : jm_E := (E.1, E.2.1, E.2.2.1, E.2.2.2.1, E.2.2.2.2.1, E.2.2.2.2.2.1, E.2.2.2.2.2.2.1, E.2.2.2.2.2.2.2.1, E.2.2.2.2.2.2.2.2.1, x, E.2.2.2.2.2.2.2.2.2.2.1, E.2.2.2.2.2.2.2.2.2.2.2)
def jm_ad (E : jm_E) (p : Int) : Nat := if 0 ≤ p then jm_b E + p.toNat else if p = -2 then jm_sc E else if p = -3 then jm_ts E else if p ≤ -201 then jm_aV E (-201 - p).toNat else if p ≤ -101 then jm_aK E (-101 - p).toNat else jm_aT E (-11 - p).toNat
def jm_cv (E : jm_E) : jm_V → Value
  | .inl x => .int (Int32.ofInt x)
  | .inr (.inl x) => .long (Int64.ofInt x)
  | .inr (.inr p) => if p = -1 then .null else .ref (jm_ad E p)
def jm_ok : jm_V → Prop
  | .inl x => -2147483648 ≤ x ∧ x < 2147483648
  | .inr (.inl x) => -9223372036854775808 ≤ x ∧ x < 9223372036854775808
  | .inr (.inr _) => True
def jm_mk (t : Nat) (x : Int) : jm_V := if t = 0 then jm_I x else if t = 1 then jm_L x else jm_R x
def jm_wr (x : Int) : Int := (Int32.ofInt x).toInt
def jm_wl (x : Int) : Int := (Int64.ofInt x).toInt
theorem jm_wr_of (x : Int) : Int32.ofInt (jm_wr x) = Int32.ofInt x := Int32.ofInt_toInt _
theorem jm_wl_of (x : Int) : Int64.ofInt (jm_wl x) = Int64.ofInt x := Int64.ofInt_toInt _
theorem jm_ok32 (x : Int32) : jm_ok (jm_I x.toInt) := by
  have h1 := Int32.le_toInt x
  have h2 := Int32.toInt_lt x
  exact ⟨by simpa using h1, by simpa using h2⟩
theorem jm_ok64 (x : Int64) : jm_ok (jm_L x.toInt) := by
  have h1 := Int64.le_toInt x
  have h2 := Int64.toInt_lt x
  exact ⟨by simpa using h1, by simpa using h2⟩
theorem jm_ti {a : Int} (h : jm_ok (jm_I a)) : (Int32.ofInt a).toInt = a := Int32.toInt_ofInt_of_le (by simpa using h.1) (by simpa using h.2)
theorem jm_tl {a : Int} (h : jm_ok (jm_L a)) : (Int64.ofInt a).toInt = a := Int64.toInt_ofInt_of_le (by simpa using h.1) (by simpa using h.2)
theorem jm_wr_id {a : Int} (h1 : -2147483648 ≤ a) (h2 : a < 2147483648) : jm_wr a = a := jm_ti ⟨h1, h2⟩
theorem jm_wl_id {a : Int} (h1 : -9223372036854775808 ≤ a) (h2 : a < 9223372036854775808) : jm_wl a = a := jm_tl ⟨h1, h2⟩
theorem jm_lt32 {a b : Int} (ha : jm_ok (jm_I a)) (hb : jm_ok (jm_I b)) : Int32.ofInt a < Int32.ofInt b ↔ a < b := by rw [Int32.lt_iff_toInt_lt, jm_ti ha, jm_ti hb]
theorem jm_le32 {a b : Int} (ha : jm_ok (jm_I a)) (hb : jm_ok (jm_I b)) : Int32.ofInt a ≤ Int32.ofInt b ↔ a ≤ b := by rw [Int32.le_iff_toInt_le, jm_ti ha, jm_ti hb]
theorem jm_eq32 {a b : Int} (ha : jm_ok (jm_I a)) (hb : jm_ok (jm_I b)) : Int32.ofInt a = Int32.ofInt b ↔ a = b := by rw [← Int32.toInt_inj, jm_ti ha, jm_ti hb]
theorem jm_lt64 {a b : Int} (ha : jm_ok (jm_L a)) (hb : jm_ok (jm_L b)) : Int64.ofInt a < Int64.ofInt b ↔ a < b := by rw [Int64.lt_iff_toInt_lt, jm_tl ha, jm_tl hb]
theorem jm_eq64 {a b : Int} (ha : jm_ok (jm_L a)) (hb : jm_ok (jm_L b)) : Int64.ofInt a = Int64.ofInt b ↔ a = b := by rw [← Int64.toInt_inj, jm_tl ha, jm_tl hb]
/-! shapes -/
def jm_s (k : Nat) : Nat × Nat := jm_sh.getD k (0, 0)
def jm_sk (p : Int) : Nat := if p < 0 then 0 else (jm_s p.toNat).1
def jm_sn (p : Int) : Nat := if p < 0 then 0 else (jm_s p.toNat).2
def jm_cell (E : jm_E) (m : jm_M) (k : Nat) : va_E :=
  if (jm_s k).1 = 1 then .inr ((jm_s k).2, (List.range (jm_nf (jm_s k).2)).map fun j : Nat => jm_cv E (jm_mk (jm_ft (jm_s k).2 j) (m k j)))
  else if (jm_s k).1 = 3 then .inl (jm_cA E 1, (jm_s k).2, .inr (.inl fun j : Nat => Int64.ofInt (m k j)))
  else .inl (jm_cA E ((jm_s k).1 - 2), (jm_s k).2, .inl fun j : Nat => Int32.ofInt (m k j))
def jm_tys (E : jm_E) : List (ClassId × FieldType) := [(jm_cA E 0, .int), (jm_cA E 1, .long), (jm_cA E 2, .byte)]
def jm_ws (E : jm_E) (n : Nat) (m : jm_M) : va_W := (List.range n).map fun k : Nat => (jm_b E + k, jm_cell E m k)
/-- numbers are in range -/
def jm_okc (m : jm_M) (k : Nat) : Prop :=
  if (jm_s k).1 = 1 then ∀ j : Nat, j < jm_nf (jm_s k).2 → jm_ok (jm_mk (jm_ft (jm_s k).2 j) (m k j))
  else if (jm_s k).1 = 3 then ∀ j : Nat, j < (jm_s k).2 → jm_ok (jm_L (m k j))
  else ∀ j : Nat, j < (jm_s k).2 → jm_ok (jm_I (m k j))
def jm_A (E : jm_E) : Nat → Prop := fun q => jm_b E ≤ q
def jm_WF (m : jm_M) : Prop := ∀ q ∈ jm_frl, m q.1 q.2.1 = q.2.2
theorem jm_frl_ok : ∀ q ∈ jm_frl, 0 ≤ q.1 ∧ 0 ≤ q.2.1 ∧ (jm_s q.1.toNat).1 = 1 ∧ jm_fin (jm_s q.1.toNat).2 q.2.1.toNat = true := by decide +kernel
/-- the law's row of cells: what it holds is of no account -/
def jm_xr (E : jm_E) (H : Heap) : Prop := jm_xp E = 0 ∨ (jm_N ≤ jm_xp E ∧ ∃ f : Nat → Int32, va_at (jm_D E) jm_cl (jm_b E + jm_xp E, .inl (jm_cA E 0, 60, .inl f)) H)
theorem jm_xr.kept {E : jm_E} {H H1 : Heap} (h : jm_xr E H) (hq : ∀ q : Nat, jm_b E + jm_N ≤ q → q < H.size → H1[q]? = H[q]?) : jm_xr E H1 := by
  rcases h with h | ⟨h1, f, h2⟩
  · exact Or.inl h
  · exact Or.inr ⟨h1, f, h2.kept (hq _ (Nat.add_le_add_left h1 _) h2.lt)⟩
def jm_Rel (E : jm_E) (n : Nat) (m : jm_M) (H : Heap) : Prop :=
  va_P (jm_D E) jm_cl (jm_ws E n m) H ∧ (∀ k : Nat, k < n → jm_okc m k) ∧ n ≤ jm_N ∧ jm_b E + n ≤ H.size ∧ (n < jm_N → H.size = jm_b E + n ∧ jm_xp E = 0) ∧ (n = jm_N → jm_WF m ∧ jm_xr E H)
theorem jm_ws_get {E : jm_E} {n : Nat} {m : jm_M} {k : Nat} (h : k < n) : (jm_ws E n m)[k]? = some (jm_b E + k, jm_cell E m k) := by
  unfold jm_ws
  rw [List.getElem?_map, List.getElem?_range h]
  rfl
theorem jm_ws_len {E : jm_E} {n : Nat} {m : jm_M} : (jm_ws E n m).length = n := by simp [jm_ws]
theorem jm_ws_D {E : jm_E} {n : Nat} {m : jm_M} : va_D (jm_A E) (jm_ws E n m) := by
  have key : ∀ (k : Nat) (q : Nat × va_E), (jm_ws E n m)[k]? = some q → q.1 = jm_b E + k := by
    intro k q hk
    have hl : k < n := by
      have := (List.getElem?_eq_some_iff.mp hk).1
      rwa [jm_ws_len] at this
    rw [jm_ws_get hl] at hk
    cases hk
    rfl
  refine ⟨fun i j p q hi hj hpq => ?_, fun k q hk => ?_⟩
  · have h1 := key i p hi
    have h2 := key j q hj
    omega
  · have h1 := key k q hk
    show jm_b E ≤ q.1
    omega
theorem jm_ws_set {E : jm_E} {n : Nat} {m m' : jm_M} {k : Nat} {e : va_E} (hk : k < n) (he : jm_cell E m' k = e) (ho : ∀ j : Nat, j ≠ k → jm_cell E m' j = jm_cell E m j) : (jm_ws E n m).set k (jm_b E + k, e) = jm_ws E n m' := by
  apply List.ext_getElem?
  intro i
  by_cases hi : i < n
  · rw [jm_ws_get hi]
    by_cases h : i = k
    · subst h
      rw [List.getElem?_set_self (by rw [jm_ws_len]; exact hi), he]
    · rw [List.getElem?_set_ne (fun z => h z.symm), jm_ws_get hi, ho i h]
  · have h1 : (jm_ws E n m')[i]? = none := List.getElem?_eq_none (by rw [jm_ws_len]; omega)
    have h2 : ((jm_ws E n m).set k (jm_b E + k, e))[i]? = none := List.getElem?_eq_none (by rw [List.length_set, jm_ws_len]; omega)
    rw [h1, h2]
theorem jm_up_ne {m : jm_M} {p i v q : Int} (h : q ≠ p) : jm_up m p i v q = m q := by
  funext j
  unfold jm_up
  split <;> simp [h]
theorem jm_up_at {m : jm_M} {p i v : Int} : jm_up m p i v p i = v := by simp [jm_up]
theorem jm_up_i {m : jm_M} {p i v q j : Int} (h : j ≠ i) : jm_up m p i v q j = m q j := by simp [jm_up, h]
theorem jm_up_cell {E : jm_E} {m : jm_M} {k j : Nat} {i v : Int} (h : j ≠ k) : jm_cell E (jm_up m k i v) j = jm_cell E m j := by
  have e : jm_up m (k : Int) i v (j : Int) = m j := jm_up_ne (fun z => h (by omega))
  unfold jm_cell
  rw [e]
theorem jm_up_okc {m : jm_M} {k j : Nat} {i v : Int} (h : j ≠ k) (h1 : jm_okc m j) : jm_okc (jm_up m k i v) j := by
  have e : jm_up m (k : Int) i v (j : Int) = m j := jm_up_ne (fun z => h (by omega))
  unfold jm_okc at h1 ⊢
  rw [e]
  exact h1
end
section
/-! what the statement gives of Term's constants, TERMS and the script -/
def jm_tn : List String := ["NAME", "WHO", "KIND", "MAY", "COMB", "RANKS", "TWICE", "OPENS", "BEGINS", "ASKS", "GRANTS", "REFUSES", "KEEPS", "BREAKS", "FREES", "ANY", "OR", "AND", "NOT", "BY", "TO", "IS", "PLACE", "THREAD", "DEPTH", "STATE"]
def jm_td : List Int := [0, 0, 0, 0, 0, 0, 0, 0, 0, 1, 2, 3, 4, 5, 6, 0, 0, 0, 0, 0, 0, 0, 0, 0, 0, 0]
def jm_tle : List Int := [0, 23823, 370116, 13369, 114082, 18921843, 21734501, 16258515, 72590803, 52595, 253803155, 19502124211, 11703827, 86148467, 6886579, 1497, 498, 1476, 14836, 89, 655, 307, 17171557, 680072228, 4375176, 20579973]
def jm_X0 (E : jm_E) (U : State) (H : Heap) : Prop :=
  (∀ i, i < 26 → va_Z "CombTable$Term" (jm_tn.getD i "") "LCombTable$Term;" (.ref (jm_aT E i)) (jm_A E) U H ∧ va_OF "CombTable$Term" "letters" "J" (.long (Int64.ofInt (jm_tle.getD i 0))) (jm_aT E i) (jm_A E) U H ∧ va_OF "CombTable$Term" "does" "I" (.int (Int32.ofInt (jm_td.getD i 0))) (jm_aT E i) (jm_A E) U H) ∧
  (∀ i j, i < 26 → j < 26 → jm_aT E i = jm_aT E j → i = j) ∧
  va_Z "CombTable$Tape" "TERMS" "[LCombTable$Term;" (.ref (jm_ts E)) (jm_A E) U H ∧ va_T (.object "CombTable$Term") (jm_ts E) 26 (fun i => .ref (jm_aT E i)) (jm_A E) U H ∧
  va_X (jm_sc E) (jm_sL E) (jm_sx E) U H ∧ jm_sc E < jm_b E
theorem jm_X0.moved {E : jm_E} {u U : State} {H : Heap} (hvm : u.vm.Alike U.vm) (h : jm_X0 E u H) : jm_X0 E U H :=
  ⟨fun i hi => ⟨va_Z.moved hvm (h.1 i hi).1, va_OF.moved hvm (h.1 i hi).2.1, va_OF.moved hvm (h.1 i hi).2.2⟩, h.2.1, va_Z.moved hvm h.2.2.1, va_T.moved hvm h.2.2.2.1, va_X.moved hvm h.2.2.2.2.1, h.2.2.2.2.2⟩
theorem jm_X0.kept {E : jm_E} {U : State} {H H1 : Heap} (h : jm_X0 E U H) (hb : jm_b E ≤ H.size) (hq : ∀ a : Nat, a < H.size → ¬ jm_A E a → H1[a]? = H[a]?) : jm_X0 E U H1 :=
  ⟨fun i hi => ⟨va_Z.kept (h.1 i hi).1 hq, va_OF.kept (h.1 i hi).2.1 hq, va_OF.kept (h.1 i hi).2.2 hq⟩, h.2.1, va_Z.kept h.2.2.1 hq, va_T.kept h.2.2.2.1 hq, va_X.kept h.2.2.2.2.1 (hq _ (Nat.lt_of_lt_of_le h.2.2.2.2.2 hb) (Nat.not_le.mpr h.2.2.2.2.2)), h.2.2.2.2.2⟩
/-- what a throw wants, and the links to makers inside the nest -/
def jm_nx : String := "java/util/NoSuchElementException"
def jm_nl : List (String × Nat × MethodName × String) := [(RX10, 9, yX7_init, RX10), (RX10, 43, yX1_init, RX10), (RX10, 53, yX4_init, RX10), (RX10, 63, yX0_init, RX10), (RX0, 27, yX1_init, RX10), (RX0, 34, yX4_init, RX10), (RX10, 73, yX3_init, RX10), (RX10, 80, yX9_init, RX10), (RX10, 87, yX2_init, RX10)]
def jm_X1 (E : jm_E) (U : State) (H : Heap) : Prop :=
  (jm_l E).stackTraces = false ∧ (va_Nw (.declares (Bundle.init0 "java/lang/RuntimeException")) U ∧ va_Nw (.declares (Bundle.init0 "java/lang/Exception")) U ∧ va_Nw (.declares (Bundle.init0 Bundle.tN)) U ∧ va_Nw (.castable jm_nx jm_nx) U ∧ ∀ q ∈ jm_nl, va_Nw (.methodLinkNest q.1 q.2.1 q.2.2.1 q.2.2.2) U) ∧
  vx_Zq Bundle.tN "UNASSIGNED_STACK" Bundle.steD (jm_A E) U H ∧ vx_Zq Bundle.tN "SUPPRESSED_SENTINEL" Bundle.listD (jm_A E) U H
theorem jm_X1.moved {E : jm_E} {u U : State} {H : Heap} (hW : u.WarmedH U.vm) (h : jm_X1 E u H) : jm_X1 E U H :=
  ⟨h.1, ⟨h.2.1.1.warmD hW, h.2.1.2.1.warmD hW, h.2.1.2.2.1.warmD hW, h.2.1.2.2.2.1.warmC hW, fun q hq => (h.2.1.2.2.2.2 q hq).warmM hW⟩, vx_Zq.moved hW.alike h.2.2.1, vx_Zq.moved hW.alike h.2.2.2⟩
theorem jm_X1.kept {E : jm_E} {U : State} {H H1 : Heap} (h : jm_X1 E U H) (hq : ∀ a : Nat, a < H.size → ¬ jm_A E a → H1[a]? = H[a]?) : jm_X1 E U H1 := ⟨h.1, h.2.1, h.2.2.1.kept hq, h.2.2.2.kept hq⟩
/-- String constants of the law: numbers of the pool, texts, letters -/
def jm_ks : List (Nat × String) := [(51, "who "), (37, "kind q opens asks"), (39, "kind y grants "), (41, "kind n refuses"), (43, "kind k keeps"), (45, "kind x breaks"), (47, "kind f frees"), (49, "kind s"), (64, " opens"), (66, " begins"), (68, "comb"), (70, "ranks;"), (72, "twice;"), (78, "may ")]
def jm_kt : List (List Int) := [[119, 104, 111, 32], [107, 105, 110, 100, 32, 113, 32, 111, 112, 101, 110, 115, 32, 97, 115, 107, 115], [107, 105, 110, 100, 32, 121, 32, 103, 114, 97, 110, 116, 115, 32], [107, 105, 110, 100, 32, 110, 32, 114, 101, 102, 117, 115, 101, 115], [107, 105, 110, 100, 32, 107, 32, 107, 101, 101, 112, 115], [107, 105, 110, 100, 32, 120, 32, 98, 114, 101, 97, 107, 115], [107, 105, 110, 100, 32, 102, 32, 102, 114, 101, 101, 115], [107, 105, 110, 100, 32, 115], [32, 111, 112, 101, 110, 115], [32, 98, 101, 103, 105, 110, 115], [99, 111, 109, 98], [114, 97, 110, 107, 115, 59], [116, 119, 105, 99, 101, 59], [109, 97, 121, 32]]
def jm_kn : List Nat := [4, 17, 14, 14, 12, 13, 12, 6, 6, 7, 4, 6, 6, 4]
def jm_kb : List (List Int32) := [[119, 104, 111, 32], [107, 105, 110, 100, 32, 113, 32, 111, 112, 101, 110, 115, 32, 97, 115, 107, 115], [107, 105, 110, 100, 32, 121, 32, 103, 114, 97, 110, 116, 115, 32], [107, 105, 110, 100, 32, 110, 32, 114, 101, 102, 117, 115, 101, 115], [107, 105, 110, 100, 32, 107, 32, 107, 101, 101, 112, 115], [107, 105, 110, 100, 32, 120, 32, 98, 114, 101, 97, 107, 115], [107, 105, 110, 100, 32, 102, 32, 102, 114, 101, 101, 115], [107, 105, 110, 100, 32, 115], [32, 111, 112, 101, 110, 115], [32, 98, 101, 103, 105, 110, 115], [99, 111, 109, 98], [114, 97, 110, 107, 115, 59], [116, 119, 105, 99, 101, 59], [109, 97, 121, 32]]
def jm_fmC : String := "jdk/internal/util/Preconditions"
def jm_fmD : String := "Ljava/util/function/BiFunction;"
def jm_XS (E : jm_E) (U : State) (H : Heap) : Prop :=
  va_Z "java/lang/String" "COMPACT_STRINGS" "Z" (.int 1) (jm_A E) U H ∧ (va_Z jm_fmC "SIOOBE_FORMATTER" jm_fmD .null (jm_A E) U H ∨ va_Z jm_fmC "SIOOBE_FORMATTER" jm_fmD (.ref (jm_aK E 20)) (jm_A E) U H) ∧
  vk_S 14 jm_kn jm_kb (jm_aK E) (jm_aV E) (jm_A E) U H ∧ ∀ i, i < 14 → vk_R "CombTableLaw" (jm_ks.getD i (0, "")).1 (jm_ks.getD i (0, "")).2 (jm_aK E i) U
theorem jm_XS.moved {E : jm_E} {u U : State} {H : Heap} (hW : u.WarmedH U.vm) (h : jm_XS E u H) : jm_XS E U H := ⟨va_Z.moved hW.alike h.1, h.2.1.imp (va_Z.moved hW.alike) (va_Z.moved hW.alike), vk_S.moved hW.alike h.2.2.1, fun i hi => (h.2.2.2 i hi).warm hW⟩
theorem jm_XS.kept {E : jm_E} {U : State} {H H1 : Heap} (h : jm_XS E U H) (hq : ∀ a : Nat, a < H.size → ¬ jm_A E a → H1[a]? = H[a]?) : jm_XS E U H1 := ⟨va_Z.kept h.1 hq, h.2.1.imp (fun q => va_Z.kept q hq) (fun q => va_Z.kept q hq), vk_S.kept h.2.2.1 hq, h.2.2.2⟩
def jm_X (E : jm_E) (U : State) (H : Heap) : Prop := jm_X0 E U H ∧ jm_X1 E U H ∧ jm_XS E U H
theorem jm_X.moved {E : jm_E} {u U : State} {H : Heap} (hW : u.WarmedH U.vm) (h : jm_X E u H) : jm_X E U H := ⟨h.1.moved hW.alike, h.2.1.moved hW, h.2.2.moved hW⟩
theorem jm_X.kept {E : jm_E} {U : State} {H H1 : Heap} (h : jm_X E U H) (hb : jm_b E ≤ H.size) (hq : ∀ a : Nat, a < H.size → ¬ jm_A E a → H1[a]? = H[a]?) : jm_X E U H1 := ⟨h.1.kept hb hq, h.2.1.kept hq, h.2.2.kept hq⟩
/-! a method: its name, bytes, locals, what it returns -/
abbrev jm_Y : Type := MethodName × ByteArray × Nat × Option FieldType
def jm_ctx (E : jm_E) (Y : jm_Y) (p : Program) (s : State) (m : MethodId) (args : Array Value) (meth : Method) (c : Code) : Prop :=
  p.tables.exec = Jvm.exec ∧ c.code = Y.2.1 ∧ c.maxLocals = Y.2.2.1 ∧ s.vm.findClass Y.1.cls = some m.cls ∧ (∀ w ∈ jm_tbl, w.before args s = true) ∧ meth.sig.returnType = Y.2.2.2 ∧ meth.name = Y.1.name ∧ va_K (jm_D E) jm_cl (jm_tys E) s ∧ jm_X E s s.heap ∧ jm_b E ≤ s.heap.size
/-- the instruction that returns it -/
def jm_ri : Option jm_V → Instr
  | none => .return_
  | some (.inl _) => .ireturn
  | some (.inr (.inl _)) => .lreturn
  | some (.inr (.inr _)) => .areturn
def jm_rok (r : Option FieldType) (o : Option jm_V) : Prop :=
  (r = none ∧ o = none) ∨ (r = some .int ∧ ∃ x, o = some (jm_I x)) ∨ (r = some .boolean ∧ ∃ x, o = some (jm_I x) ∧ (x = 0 ∨ x = 1)) ∨ (r = some .long ∧ ∃ x, o = some (jm_L x)) ∨ ((∃ n, r = some (.object n)) ∧ ∃ x, o = some (jm_R x)) ∨ (∃ ty, (ty = .char ∨ ty = .byte) ∧ r = some ty ∧ ∃ x, o = some (jm_I x) ∧ narrow ty (.int (Int32.ofInt x)) = .int (Int32.ofInt x))
def jm_lo (E : jm_E) : Nat → List (Option jm_V) → List (Nat × Value)
  | _, [] => []
  | i, none :: t => jm_lo E (i + 1) t
  | i, some v :: t => (i, jm_cv E v) :: jm_lo E (i + 1) t
def jm_HZ (E : jm_E) (Y : jm_Y) (R : Room) (n' : Nat) (Q : Option jm_V → jm_M → Prop) (p : Program) (e : Env) (s : State) (m : MethodId) (args : Array Value) (below : List Frame) (meth : Method) (c : Code) (Z : State → Prop) : Prop :=
  ∀ (o : Option jm_V) (m1 : jm_M) (H1 : Heap) (locs1 : List Loc) (pc1 : Nat) (ls1 : Array Slot), Q o m1 → (∀ v, o = some v → jm_ok v) → jm_rok Y.2.2.2 o → jm_Rel E n' m1 H1 → va_S (jm_A E) s.heap H1 locs1 → decode Y.2.1 pc1 = .ok (jm_ri o, 1) →
    W p (jm_l E) e R s m args below meth c H1 locs1 R.cells R.slots Z (F0 m pc1 ls1 (o.map (jm_cv E)).toList)
/-- from here on the method comes to an end at which Q holds of its answer and the memory -/
def jm_G (E : jm_E) (Y : jm_Y) (R : Room) (n' n cs sl pc : Nat) (L : List (Option jm_V)) (st : List jm_V) (μ : jm_M) (Q : Option jm_V → jm_M → Prop) : Prop :=
  ∀ (p : Program) (e : Env) (s : State) (m : MethodId) (args : Array Value) (below : List Frame) (meth : Method) (c : Code) (Z : State → Prop) (H : Heap) (locs : List Loc) (ls : Array Slot),
    jm_ctx E Y p s m args meth c → jm_HZ E Y R n' Q p e s m args below meth c Z → jm_Rel E n μ H → va_S (jm_A E) s.heap H locs → lv_has ls Y.2.2.1 (jm_lo E 0 L) → (∀ (i : Nat) (v : jm_V), L[i]? = some (some v) → jm_ok v) → (∀ v ∈ st, jm_ok v) →
    W p (jm_l E) e R s m args below meth c H locs cs sl Z (F0 m pc ls (st.map (jm_cv E)))
section JMS
variable {E : jm_E} {Y : jm_Y} {R : Room} {n' n cs sl pc : Nat} {L : List (Option jm_V)} {st : List jm_V} {μ : jm_M} {Q : Option jm_V → jm_M → Prop}
theorem jm_lo_mem : ∀ (L : List (Option jm_V)) (k i : Nat) (v : jm_V), L[i]? = some (some v) → (k + i, jm_cv E v) ∈ jm_lo E k L
  | [], k, i, v, h => by simp at h
  | none :: t, k, 0, v, h => by simp at h
  | none :: t, k, i + 1, v, h => by
    have h1 : t[i]? = some (some v) := by simpa using h
    have h2 := jm_lo_mem t (k + 1) i v h1
    have e : k + 1 + i = k + (i + 1) := by omega
    rw [e] at h2
    exact h2
  | some w :: t, k, 0, v, h => by
    have h1 : w = v := by simpa using h
    subst h1
    exact List.mem_cons_self
  | some w :: t, k, i + 1, v, h => by
    have h1 : t[i]? = some (some v) := by simpa using h
    have h2 := jm_lo_mem t (k + 1) i v h1
    have e : k + 1 + i = k + (i + 1) := by omega
    rw [e] at h2
    exact List.mem_cons_of_mem _ h2
theorem jm_lo_inv : ∀ (L : List (Option jm_V)) (k : Nat) (q : Nat × Value), q ∈ jm_lo E k L → ∃ (i : Nat) (v : jm_V), q = (k + i, jm_cv E v) ∧ L[i]? = some (some v)
  | [], k, q, h => by simp [jm_lo] at h
  | none :: t, k, q, h => by
    obtain ⟨i, v, h1, h2⟩ := jm_lo_inv t (k + 1) q h
    exact ⟨i + 1, v, by rw [h1]; congr 1; omega, by simpa using h2⟩
  | some w :: t, k, q, h => by
    rcases List.mem_cons.mp h with h | h
    · exact ⟨0, w, h, rfl⟩
    · obtain ⟨i, v, h1, h2⟩ := jm_lo_inv t (k + 1) q h
      exact ⟨i + 1, v, by rw [h1]; congr 1; omega, by simpa using h2⟩
theorem jm_lo_at {ls : Array Slot} {nL i : Nat} {v : jm_V} (h : lv_has ls nL (jm_lo E 0 L)) (hv : L[i]? = some (some v)) : ls[i]? = some (.val (jm_cv E v)) := by
  have h1 := h.2.2 _ (jm_lo_mem L 0 i v hv)
  rwa [Nat.zero_add] at h1
theorem jm_lv_mono {ls : Array Slot} {nL : Nat} {l l' : List (Nat × Value)} (h : lv_has ls nL l) (hs : ∀ q ∈ l', q ∈ l) : lv_has ls nL l' := ⟨h.1, h.2.1, fun q hq => h.2.2 q (hs q hq)⟩
/-- the general step that moves the stack alone -/
theorem jm_step {pc' : Nat} {st' : List jm_V} (k : jm_G E Y R n' n cs sl pc' L st' μ Q) (hok : (∀ v ∈ st, jm_ok v) → (∀ (i : Nat) (v : jm_V), L[i]? = some (some v) → jm_ok v) → ∀ v ∈ st', jm_ok v)
    (hw : ∀ (p : Program) (e : Env) (s : State) (m : MethodId) (args : Array Value) (below : List Frame) (meth : Method) (c : Code) (Z : State → Prop) (H : Heap) (locs : List Loc) (ls : Array Slot), p.tables.exec = Jvm.exec → c.code = Y.2.1 → jm_ctx E Y p s m args meth c → va_S (jm_A E) s.heap H locs → jm_Rel E n μ H → lv_has ls Y.2.2.1 (jm_lo E 0 L) → (∀ v ∈ st, jm_ok v) →
      W p (jm_l E) e R s m args below meth c H locs cs sl Z (F0 m pc' ls (st'.map (jm_cv E))) → W p (jm_l E) e R s m args below meth c H locs cs sl Z (F0 m pc ls (st.map (jm_cv E)))) : jm_G E Y R n' n cs sl pc L st μ Q := by
  intro p e s m args below meth c Z H locs ls C hZ hR hS hl hL hst
  exact hw p e s m args below meth c Z H locs ls C.1 C.2.1 C hS hR hl hst (k p e s m args below meth c Z H locs ls C hZ hR hS hl hL (hok hst hL))
theorem jm_tail {v : jm_V} {l : List jm_V} (h : ∀ w ∈ v :: l, jm_ok w) : ∀ w ∈ l, jm_ok w := fun w hw => h w (List.mem_cons_of_mem _ hw)
theorem jm_cons {v : jm_V} {l : List jm_V} (h1 : jm_ok v) (h : ∀ w ∈ l, jm_ok w) : ∀ w ∈ v :: l, jm_ok w := fun w hw => by
  rcases List.mem_cons.mp hw with h2 | h2
  · rw [h2]; exact h1
  · exact h w h2
/-! constants -/
theorem jm_iconst {k : Int} {v : Int} (hd : decode Y.2.1 pc = .ok (.iconst k, 1)) (hv : Int32.ofInt k = Int32.ofInt v) (ho : jm_ok (jm_I v)) (h : jm_G E Y R n' n cs sl (pc + 1) L (jm_I v :: st) μ Q) : jm_G E Y R n' n cs sl pc L st μ Q :=
  jm_step h (fun q _ => jm_cons ho q) (fun p e s m args below meth c Z H locs ls hx hb _ _ _ _ _ w => lv_iconst hx hb hd hv w)
theorem jm_bipush {k : Int} {v : Int} (hd : decode Y.2.1 pc = .ok (.bipush k, 2)) (hv : (Int8.ofInt k).toInt32 = Int32.ofInt v) (ho : jm_ok (jm_I v)) (h : jm_G E Y R n' n cs sl (pc + 2) L (jm_I v :: st) μ Q) : jm_G E Y R n' n cs sl pc L st μ Q :=
  jm_step h (fun q _ => jm_cons ho q) (fun p e s m args below meth c Z H locs ls hx hb _ _ _ _ _ w => lv_bipush hx hb hd hv w)
theorem jm_sipush {k : Int} {v : Int} (hd : decode Y.2.1 pc = .ok (.sipush k, 3)) (hv : (Int16.ofInt k).toInt32 = Int32.ofInt v) (ho : jm_ok (jm_I v)) (h : jm_G E Y R n' n cs sl (pc + 3) L (jm_I v :: st) μ Q) : jm_G E Y R n' n cs sl pc L st μ Q :=
  jm_step h (fun q _ => jm_cons ho q) (fun p e s m args below meth c Z H locs ls hx hb _ _ _ _ _ w => lv_sipush hx hb hd hv w)
theorem jm_lconst {k : Fin 2} {v : Int} (hd : decode Y.2.1 pc = .ok (.lconst k, 1)) (hv : Int64.ofNat (k : Nat) = Int64.ofInt v) (ho : jm_ok (jm_L v)) (h : jm_G E Y R n' n cs sl (pc + 1) L (jm_L v :: st) μ Q) : jm_G E Y R n' n cs sl pc L st μ Q :=
  jm_step h (fun q _ => jm_cons ho q) (fun p e s m args below meth c Z H locs ls hx hb _ _ _ _ _ w => lv_lconst hx hb hd hv w)
theorem jm_ldc {i : Nat} {v : Int} (hd : decode Y.2.1 pc = .ok (.ldc i, 2)) (hw : Cond.constant Y.1.cls i (Int32.ofInt v) ∈ jm_tbl) (ho : jm_ok (jm_I v)) (h : jm_G E Y R n' n cs sl (pc + 2) L (jm_I v :: st) μ Q) : jm_G E Y R n' n cs sl pc L st μ Q :=
  jm_step h (fun q _ => jm_cons ho q) (fun p e s m args below meth c Z H locs ls hx hb C _ _ _ _ w => lv_ldc hx hb C.2.2.2.1 (C.2.2.2.2.1 _ hw) hd w)
theorem jm_ldcw {i : Nat} {v : Int} (hd : decode Y.2.1 pc = .ok (.ldc_w i, 3)) (hw : Cond.constant Y.1.cls i (Int32.ofInt v) ∈ jm_tbl) (ho : jm_ok (jm_I v)) (h : jm_G E Y R n' n cs sl (pc + 3) L (jm_I v :: st) μ Q) : jm_G E Y R n' n cs sl pc L st μ Q :=
  jm_step h (fun q _ => jm_cons ho q) (fun p e s m args below meth c Z H locs ls hx hb C _ _ _ _ w => lv_ldcw hx hb C.2.2.2.1 (C.2.2.2.2.1 _ hw) hd w)
theorem jm_ldc2 {i : Nat} {v : Int} (hd : decode Y.2.1 pc = .ok (.ldc2_w i, 3)) (hw : Cond.constantLong Y.1.cls i (Int64.ofInt v) ∈ jm_tbl) (ho : jm_ok (jm_L v)) (h : jm_G E Y R n' n cs sl (pc + 3) L (jm_L v :: st) μ Q) : jm_G E Y R n' n cs sl pc L st μ Q :=
  jm_step h (fun q _ => jm_cons ho q) (fun p e s m args below meth c Z H locs ls hx hb C _ _ _ _ w => lv_ldc2 hx hb C.2.2.2.1 (C.2.2.2.2.1 _ hw) hd w)
theorem jm_aconst (hd : decode Y.2.1 pc = .ok (.aconst_null, 1)) (h : jm_G E Y R n' n cs sl (pc + 1) L (jm_R (-1) :: st) μ Q) : jm_G E Y R n' n cs sl pc L st μ Q :=
  jm_step h (fun q _ => jm_cons trivial q) (fun p e s m args below meth c Z H locs ls hx hb _ _ _ _ _ w => lv_null hx hb hd w)
/-! locals -/
theorem jm_iload {i : Nat} {x : Int} (hd : decode Y.2.1 pc = .ok (.iload i, 2)) (hv : L[i]? = some (some (jm_I x))) (h : jm_G E Y R n' n cs sl (pc + 2) L (jm_I x :: st) μ Q) : jm_G E Y R n' n cs sl pc L st μ Q :=
  jm_step h (fun q g => jm_cons (g i _ hv) q) (fun p e s m args below meth c Z H locs ls hx hb _ _ _ hl _ w => lv_iload hx hb hd (jm_lo_at hl hv) w)
theorem jm_iloadn {k : Fin 4} {x : Int} (hd : decode Y.2.1 pc = .ok (.iload_n k, 1)) (hv : L[(k : Nat)]? = some (some (jm_I x))) (h : jm_G E Y R n' n cs sl (pc + 1) L (jm_I x :: st) μ Q) : jm_G E Y R n' n cs sl pc L st μ Q :=
  jm_step h (fun q g => jm_cons (g _ _ hv) q) (fun p e s m args below meth c Z H locs ls hx hb _ _ _ hl _ w => lv_iload_n hx hb hd rfl (jm_lo_at hl hv) w)
theorem jm_lload {i : Nat} {x : Int} (hd : decode Y.2.1 pc = .ok (.lload i, 2)) (hv : L[i]? = some (some (jm_L x))) (h : jm_G E Y R n' n cs sl (pc + 2) L (jm_L x :: st) μ Q) : jm_G E Y R n' n cs sl pc L st μ Q :=
  jm_step h (fun q g => jm_cons (g i _ hv) q) (fun p e s m args below meth c Z H locs ls hx hb _ _ _ hl _ w => lv_lload hx hb hd (jm_lo_at hl hv) w)
theorem jm_lloadn {k : Fin 4} {x : Int} (hd : decode Y.2.1 pc = .ok (.lload_n k, 1)) (hv : L[(k : Nat)]? = some (some (jm_L x))) (h : jm_G E Y R n' n cs sl (pc + 1) L (jm_L x :: st) μ Q) : jm_G E Y R n' n cs sl pc L st μ Q :=
  jm_step h (fun q g => jm_cons (g _ _ hv) q) (fun p e s m args below meth c Z H locs ls hx hb _ _ _ hl _ w => lv_lload_n hx hb hd rfl (jm_lo_at hl hv) w)
end JMS
end
section
/-! locals are stored -/
def jm_kl : Option jm_V → Option jm_V
  | some (.inr (.inl _)) => none
  | v => v
def jm_lg : jm_V → Bool
  | .inr (.inl _) => true
  | _ => false
def jm_hd (b : Bool) : List (Option jm_V) → List (Option jm_V)
  | [] => []
  | a :: t => (if b then none else a) :: t
def jm_sto : List (Option jm_V) → Nat → jm_V → List (Option jm_V)
  | [], _, _ => []
  | _ :: t, 0, v => some v :: jm_hd (jm_lg v) t
  | a :: t, 1, v => jm_kl a :: jm_sto t 0 v
  | a :: t, i + 2, v => a :: jm_sto t (i + 1) v
section JMO
variable {E : jm_E} {Y : jm_Y} {R : Room} {n' n cs sl pc : Nat} {L : List (Option jm_V)} {st : List jm_V} {μ : jm_M} {Q : Option jm_V → jm_M → Prop}
theorem jm_sto_at : ∀ (L : List (Option jm_V)) (i j : Nat) (v u : jm_V), (jm_sto L i v)[j]? = some (some u) → (j = i ∧ u = v) ∨ (j ≠ i ∧ L[j]? = some (some u) ∧ ¬ (j + 1 = i ∧ jm_lg u = true) ∧ ¬ (jm_lg v = true ∧ j = i + 1))
  | [], i, j, v, u, h => by simp [jm_sto] at h
  | a :: t, 0, 0, v, u, h => by
    have h1 : v = u := by simpa [jm_sto] using h
    exact Or.inl ⟨rfl, h1.symm⟩
  | a :: t, 0, j + 1, v, u, h => by
    have h1 : (jm_hd (jm_lg v) t)[j]? = some (some u) := by simpa [jm_sto] using h
    refine Or.inr ⟨by omega, ?_, fun q => by omega, fun q => ?_⟩
    · cases t with
      | nil => simp [jm_hd] at h1
      | cons b t =>
        cases j with
        | zero =>
          cases hb : jm_lg v with
          | true => simp [jm_hd, hb] at h1
          | false => simpa [jm_hd, hb] using h1
        | succ j => simpa [jm_hd] using h1
    · obtain ⟨q1, q2⟩ := q
      have hj : j = 0 := by omega
      subst hj
      cases t with
      | nil => simp [jm_hd] at h1
      | cons b t => simp [jm_hd, q1] at h1
  | a :: t, 1, 0, v, u, h => by
    have h1 : jm_kl a = some u := by simpa [jm_sto] using h
    refine Or.inr ⟨by omega, ?_, fun q => ?_, fun q => by omega⟩
    · cases a with
      | none => simp [jm_kl] at h1
      | some w =>
        rcases w with w | w | w <;> simp [jm_kl] at h1 <;> simp [h1]
    · cases a with
      | none => simp [jm_kl] at h1
      | some w =>
        rcases w with w | w | w <;> simp [jm_kl] at h1 <;> subst h1 <;> simp [jm_lg] at q
  | a :: t, 1, j + 1, v, u, h => by
    have h1 : (jm_sto t 0 v)[j]? = some (some u) := by simpa [jm_sto] using h
    rcases jm_sto_at t 0 j v u h1 with ⟨h2, h3⟩ | ⟨h2, h3, h4, h5⟩
    · exact Or.inl ⟨by omega, h3⟩
    · exact Or.inr ⟨by omega, by simpa using h3, fun q => by omega, fun q => h5 ⟨q.1, by omega⟩⟩
  | a :: t, i + 2, 0, v, u, h => by
    have h1 : a = some u := by simpa [jm_sto] using h
    exact Or.inr ⟨by omega, by simp [h1], fun q => by omega, fun q => by omega⟩
  | a :: t, i + 2, j + 1, v, u, h => by
    have h1 : (jm_sto t (i + 1) v)[j]? = some (some u) := by simpa [jm_sto] using h
    rcases jm_sto_at t (i + 1) j v u h1 with ⟨h2, h3⟩ | ⟨h2, h3, h4, h5⟩
    · exact Or.inl ⟨by omega, h3⟩
    · exact Or.inr ⟨by omega, by simpa using h3, fun q => h4 ⟨by omega, q.2⟩, fun q => h5 ⟨q.1, by omega⟩⟩
theorem jm_sto_ok {i : Nat} {v : jm_V} (hv : jm_ok v) (hL : ∀ (i : Nat) (v : jm_V), L[i]? = some (some v) → jm_ok v) : ∀ (j : Nat) (u : jm_V), (jm_sto L i v)[j]? = some (some u) → jm_ok u := by
  intro j u h
  rcases jm_sto_at L i j v u h with ⟨-, h2⟩ | ⟨-, h2, -⟩
  · rw [h2]; exact hv
  · exact hL j u h2
theorem jm_cat1 {v : jm_V} (h : jm_lg v = false) : (jm_cv E v).category = 1 := by
  rcases v with v | v | v
  · rfl
  · simp [jm_lg] at h
  · show (if v = -1 then Value.null else Value.ref (jm_ad E v)).category = 1
    split <;> rfl
theorem jm_cat2 {v : jm_V} (h : (jm_cv E v).category = 2) : jm_lg v = true := by
  rcases v with v | v | v
  · cases h
  · rfl
  · have h1 : (if v = -1 then Value.null else Value.ref (jm_ad E v)).category = 2 := h
    split at h1 <;> cases h1
theorem jm_lo_sto1 {i : Nat} {v : jm_V} : ∀ q ∈ jm_lo E 0 (jm_sto L i v), q ∈ (i, jm_cv E v) :: (jm_lo E 0 L).filter (fun q => !(q.1 == i) && !(q.1 + 1 == i && q.2.category == 2)) := by
  intro q hq
  obtain ⟨j, u, h1, h2⟩ := jm_lo_inv _ _ _ hq
  rw [Nat.zero_add] at h1
  subst h1
  rcases jm_sto_at L i j v u h2 with ⟨h3, h4⟩ | ⟨h3, h4, h5, -⟩
  · rw [h3, h4]; exact List.mem_cons_self
  · refine List.mem_cons_of_mem _ (List.mem_filter.mpr ⟨?_, ?_⟩)
    · have := jm_lo_mem (E := E) L 0 j u h4
      rwa [Nat.zero_add] at this
    · by_cases hc : j + 1 = i ∧ (jm_cv E u).category = 2
      · exact absurd ⟨hc.1, jm_cat2 hc.2⟩ h5
      · have : ¬ (j + 1 = i) ∨ ¬ ((jm_cv E u).category = 2) := by
          by_cases h : j + 1 = i
          · exact Or.inr fun z => hc ⟨h, z⟩
          · exact Or.inl h
        rcases this with h | h <;> simp [h3, h]
theorem jm_lo_sto2 {i : Nat} {x : Int} : ∀ q ∈ jm_lo E 0 (jm_sto L i (jm_L x)), q ∈ (i, jm_cv E (jm_L x)) :: (jm_lo E 0 L).filter (fun q => !(q.1 == i) && (!(q.1 == i + 1) && !(q.1 + 1 == i && q.2.category == 2))) := by
  intro q hq
  obtain ⟨j, u, h1, h2⟩ := jm_lo_inv _ _ _ hq
  rw [Nat.zero_add] at h1
  subst h1
  rcases jm_sto_at L i j (jm_L x) u h2 with ⟨h3, h4⟩ | ⟨h3, h4, h5, h6⟩
  · rw [h3, h4]; exact List.mem_cons_self
  · refine List.mem_cons_of_mem _ (List.mem_filter.mpr ⟨?_, ?_⟩)
    · have := jm_lo_mem (E := E) L 0 j u h4
      rwa [Nat.zero_add] at this
    · have h7 : ¬ j = i + 1 := fun z => h6 ⟨rfl, z⟩
      have : ¬ (j + 1 = i) ∨ ¬ ((jm_cv E u).category = 2) := by
        by_cases h : j + 1 = i
        · exact Or.inr fun z => h5 ⟨h, jm_cat2 z⟩
        · exact Or.inl h
      rcases this with h | h <;> simp [h3, h7, h]
theorem jm_aload {i : Nat} {x : Int} (hd : decode Y.2.1 pc = .ok (.aload i, 2)) (hv : L[i]? = some (some (jm_R x))) (h : jm_G E Y R n' n cs sl (pc + 2) L (jm_R x :: st) μ Q) : jm_G E Y R n' n cs sl pc L st μ Q :=
  jm_step h (fun q _ => jm_cons trivial q) (fun p e s m args below meth c Z H locs ls hx hb _ _ _ hl _ w => by
    have h1 := jm_lo_at hl hv
    by_cases hz : x = -1
    · have e1 : jm_cv E (jm_R x) = .null := by simp [jm_cv, hz]
      rw [List.map_cons, e1] at w
      rw [e1] at h1
      exact lv_aloadN hx hb hd h1 w
    · have e1 : jm_cv E (jm_R x) = .ref (jm_ad E x) := by simp [jm_cv, hz]
      rw [List.map_cons, e1] at w
      rw [e1] at h1
      exact lv_aload hx hb hd h1 w)
theorem jm_aloadn {k : Fin 4} {x : Int} (hd : decode Y.2.1 pc = .ok (.aload_n k, 1)) (hv : L[(k : Nat)]? = some (some (jm_R x))) (h : jm_G E Y R n' n cs sl (pc + 1) L (jm_R x :: st) μ Q) : jm_G E Y R n' n cs sl pc L st μ Q :=
  jm_step h (fun q _ => jm_cons trivial q) (fun p e s m args below meth c Z H locs ls hx hb _ _ _ hl _ w => by
    have h1 := jm_lo_at hl hv
    by_cases hz : x = -1
    · have e1 : jm_cv E (jm_R x) = .null := by simp [jm_cv, hz]
      rw [List.map_cons, e1] at w
      rw [e1] at h1
      exact lv_aload_nN hx hb hd rfl h1 w
    · have e1 : jm_cv E (jm_R x) = .ref (jm_ad E x) := by simp [jm_cv, hz]
      rw [List.map_cons, e1] at w
      rw [e1] at h1
      exact lv_aload_n hx hb hd rfl h1 w)
/-- a store of a local, by the kit's row for it -/
theorem jm_store {i pc' : Nat} {v : jm_V} {L' : List (Option jm_V)} (hL' : jm_sto L i v = L') (h : jm_G E Y R n' n cs sl pc' L' st μ Q)
    (hw : ∀ (p : Program) (e : Env) (s : State) (m : MethodId) (args : Array Value) (below : List Frame) (meth : Method) (c : Code) (Z : State → Prop) (H : Heap) (locs : List Loc) (ls : Array Slot), p.tables.exec = Jvm.exec → c.code = Y.2.1 → lv_has ls Y.2.2.1 (jm_lo E 0 L) →
      (∀ ls' : Array Slot, lv_has ls' Y.2.2.1 (jm_lo E 0 L') → W p (jm_l E) e R s m args below meth c H locs cs sl Z (F0 m pc' ls' (st.map (jm_cv E)))) → W p (jm_l E) e R s m args below meth c H locs cs sl Z (F0 m pc ls ((v :: st).map (jm_cv E)))) :
    jm_G E Y R n' n cs sl pc L (v :: st) μ Q := by
  intro p e s m args below meth c Z H locs ls C hZ hR hS hl hL hst
  refine hw p e s m args below meth c Z H locs ls C.1 C.2.1 hl fun ls' hl' => ?_
  subst hL'
  exact h p e s m args below meth c Z H locs ls' C hZ hR hS hl' (jm_sto_ok (hst _ List.mem_cons_self) hL) (jm_tail hst)
theorem jm_istore {i : Nat} {x : Int} {L' : List (Option jm_V)} (hd : decode Y.2.1 pc = .ok (.istore i, 2)) (hi : i < Y.2.2.1) (hL' : jm_sto L i (jm_I x) = L') (h : jm_G E Y R n' n cs sl (pc + 2) L' st μ Q) : jm_G E Y R n' n cs sl pc L (jm_I x :: st) μ Q :=
  jm_store hL' h (fun p e s m args below meth c Z H locs ls hx hb hl w => lv_istore hx hb hd hl hi rfl (fun ls' hl' => w ls' (by rw [← hL']; exact jm_lv_mono hl' jm_lo_sto1)))
theorem jm_istoren {k : Fin 4} {x : Int} {L' : List (Option jm_V)} (hd : decode Y.2.1 pc = .ok (.istore_n k, 1)) (hi : (k : Nat) < Y.2.2.1) (hL' : jm_sto L (k : Nat) (jm_I x) = L') (h : jm_G E Y R n' n cs sl (pc + 1) L' st μ Q) : jm_G E Y R n' n cs sl pc L (jm_I x :: st) μ Q :=
  jm_store hL' h (fun p e s m args below meth c Z H locs ls hx hb hl w => lv_istore_n hx hb hd rfl hl hi rfl (fun ls' hl' => w ls' (by rw [← hL']; exact jm_lv_mono hl' jm_lo_sto1)))
theorem jm_lstore {i : Nat} {x : Int} {L' : List (Option jm_V)} (hd : decode Y.2.1 pc = .ok (.lstore i, 2)) (hi : i + 1 < Y.2.2.1) (hL' : jm_sto L i (jm_L x) = L') (h : jm_G E Y R n' n cs sl (pc + 2) L' st μ Q) : jm_G E Y R n' n cs sl pc L (jm_L x :: st) μ Q :=
  jm_store hL' h (fun p e s m args below meth c Z H locs ls hx hb hl w => lv_lstore hx hb hd hl hi rfl (fun ls' hl' => w ls' (by rw [← hL']; exact jm_lv_mono hl' jm_lo_sto2)))
theorem jm_lstoren {k : Fin 4} {x : Int} {L' : List (Option jm_V)} (hd : decode Y.2.1 pc = .ok (.lstore_n k, 1)) (hi : (k : Nat) + 1 < Y.2.2.1) (hL' : jm_sto L (k : Nat) (jm_L x) = L') (h : jm_G E Y R n' n cs sl (pc + 1) L' st μ Q) : jm_G E Y R n' n cs sl pc L (jm_L x :: st) μ Q :=
  jm_store hL' h (fun p e s m args below meth c Z H locs ls hx hb hl w => lv_lstore_n hx hb hd rfl hl hi rfl (fun ls' hl' => w ls' (by rw [← hL']; exact jm_lv_mono hl' jm_lo_sto2)))
theorem jm_astore {i : Nat} {x : Int} {L' : List (Option jm_V)} (hd : decode Y.2.1 pc = .ok (.astore i, 2)) (hi : i < Y.2.2.1) (hL' : jm_sto L i (jm_R x) = L') (h : jm_G E Y R n' n cs sl (pc + 2) L' st μ Q) : jm_G E Y R n' n cs sl pc L (jm_R x :: st) μ Q :=
  jm_store hL' h (fun p e s m args below meth c Z H locs ls hx hb hl w => by
    have h1 : ∀ q ∈ jm_lo E 0 L', q ∈ (i, jm_cv E (jm_R x)) :: (jm_lo E 0 L).filter (fun q => !(q.1 == i) && !(q.1 + 1 == i && q.2.category == 2)) := by rw [← hL']; exact jm_lo_sto1
    by_cases hz : x = -1
    · have e1 : jm_cv E (jm_R x) = .null := by simp [jm_cv, hz]
      rw [e1] at h1
      rw [List.map_cons, e1]
      exact lv_astoreN hx hb hd hl hi rfl (fun ls' hl' => w ls' (jm_lv_mono hl' h1))
    · have e1 : jm_cv E (jm_R x) = .ref (jm_ad E x) := by simp [jm_cv, hz]
      rw [e1] at h1
      rw [List.map_cons, e1]
      exact lv_astore hx hb hd hl hi rfl (fun ls' hl' => w ls' (jm_lv_mono hl' h1)))
theorem jm_astoren {k : Fin 4} {x : Int} {L' : List (Option jm_V)} (hd : decode Y.2.1 pc = .ok (.astore_n k, 1)) (hi : (k : Nat) < Y.2.2.1) (hL' : jm_sto L (k : Nat) (jm_R x) = L') (h : jm_G E Y R n' n cs sl (pc + 1) L' st μ Q) : jm_G E Y R n' n cs sl pc L (jm_R x :: st) μ Q :=
  jm_store hL' h (fun p e s m args below meth c Z H locs ls hx hb hl w => by
    have h1 : ∀ q ∈ jm_lo E 0 L', q ∈ ((k : Nat), jm_cv E (jm_R x)) :: (jm_lo E 0 L).filter (fun q => !(q.1 == (k : Nat)) && !(q.1 + 1 == (k : Nat) && q.2.category == 2)) := by rw [← hL']; exact jm_lo_sto1
    by_cases hz : x = -1
    · have e1 : jm_cv E (jm_R x) = .null := by simp [jm_cv, hz]
      rw [e1] at h1
      rw [List.map_cons, e1]
      exact lv_astore_nN hx hb hd rfl hl hi rfl (fun ls' hl' => w ls' (jm_lv_mono hl' h1))
    · have e1 : jm_cv E (jm_R x) = .ref (jm_ad E x) := by simp [jm_cv, hz]
      rw [e1] at h1
      rw [List.map_cons, e1]
      exact lv_astore_n hx hb hd rfl hl hi rfl (fun ls' hl' => w ls' (jm_lv_mono hl' h1)))
end JMO
end
section
/-! arithmetic and branches -/
def jm_and (a b : Int) : Int := (Int32.ofInt a &&& Int32.ofInt b).toInt
def jm_or (a b : Int) : Int := (Int32.ofInt a ||| Int32.ofInt b).toInt
def jm_xor (a b : Int) : Int := (Int32.ofInt a ^^^ Int32.ofInt b).toInt
def jm_shl (a b : Int) : Int := (Int32.ofInt a <<< (Int32.ofInt b &&& 31)).toInt
def jm_shr (a b : Int) : Int := (Int32.ofInt a >>> (Int32.ofInt b &&& 31)).toInt
def jm_ushr (a b : Int) : Int := ((Int32.ofInt a).toUInt32 >>> ((Int32.ofInt b).toUInt32 &&& Int32.toUInt32 31)).toInt32.toInt
def jm_quo (a b : Int) : Int := (Int32.ofInt a / Int32.ofInt b).toInt
def jm_rem (a b : Int) : Int := (Int32.ofInt a - Int32.ofInt a / Int32.ofInt b * Int32.ofInt b).toInt
def jm_i2b (a : Int) : Int := (Int32.ofInt a).toInt8.toInt32.toInt
def jm_cmp (a b : Int) : Int := if b < a then 1 else if a = b then 0 else -1
section JMT
variable {E : jm_E} {Y : jm_Y} {R : Room} {n' n cs sl pc : Nat} {L : List (Option jm_V)} {st : List jm_V} {μ : jm_M} {Q : Option jm_V → jm_M → Prop}
theorem jm_ofToInt (x : Int32) : Int32.ofInt x.toInt = x := Int32.ofInt_toInt x
theorem jm_tail2 {v w : jm_V} {l : List jm_V} (h : ∀ u ∈ v :: w :: l, jm_ok u) : ∀ u ∈ l, jm_ok u := jm_tail (jm_tail h)
/-- two numbers give one -/
theorem jm_bin {a b v : Int} {x : Int32} (hx : Int32.ofInt v = x) (ho : jm_ok (jm_I v)) (h : jm_G E Y R n' n cs sl (pc + 1) L (jm_I v :: st) μ Q)
    (hw : ∀ (p : Program) (e : Env) (s : State) (m : MethodId) (args : Array Value) (below : List Frame) (meth : Method) (c : Code) (Z : State → Prop) (H : Heap) (locs : List Loc) (ls : Array Slot), p.tables.exec = Jvm.exec → c.code = Y.2.1 →
      W p (jm_l E) e R s m args below meth c H locs cs sl Z (F0 m (pc + 1) ls (.int x :: st.map (jm_cv E))) → W p (jm_l E) e R s m args below meth c H locs cs sl Z (F0 m pc ls (.int (Int32.ofInt b) :: .int (Int32.ofInt a) :: st.map (jm_cv E)))) :
    jm_G E Y R n' n cs sl pc L (jm_I b :: jm_I a :: st) μ Q :=
  jm_step h (fun q _ => jm_cons ho (jm_tail2 q)) (fun p e s m args below meth c Z H locs ls he hb _ _ _ _ _ w => hw p e s m args below meth c Z H locs ls he hb (by rw [← hx]; exact w))
theorem jm_iadd {a b : Int} (hd : decode Y.2.1 pc = .ok (.iadd, 1)) (h : jm_G E Y R n' n cs sl (pc + 1) L (jm_I (jm_wr (a + b)) :: st) μ Q) : jm_G E Y R n' n cs sl pc L (jm_I b :: jm_I a :: st) μ Q :=
  jm_bin (v := jm_wr _) ((jm_wr_of _).trans (Int32.ofInt_add _ _)) (jm_ok32 _) h (fun p e s m args below meth c Z H locs ls he hb w => lv_iadd he hb hd w)
theorem jm_isub {a b : Int} (hd : decode Y.2.1 pc = .ok (.isub, 1)) (h : jm_G E Y R n' n cs sl (pc + 1) L (jm_I (jm_wr (a - b)) :: st) μ Q) : jm_G E Y R n' n cs sl pc L (jm_I b :: jm_I a :: st) μ Q :=
  jm_bin (v := jm_wr _) ((jm_wr_of _).trans (Int32.ofInt_sub _ _)) (jm_ok32 _) h (fun p e s m args below meth c Z H locs ls he hb w => lv_isub he hb hd w)
theorem jm_imul {a b : Int} (hd : decode Y.2.1 pc = .ok (.imul, 1)) (h : jm_G E Y R n' n cs sl (pc + 1) L (jm_I (jm_wr (a * b)) :: st) μ Q) : jm_G E Y R n' n cs sl pc L (jm_I b :: jm_I a :: st) μ Q :=
  jm_bin (v := jm_wr _) ((jm_wr_of _).trans (Int32.ofInt_mul _ _)) (jm_ok32 _) h (fun p e s m args below meth c Z H locs ls he hb w => lv_imul he hb hd w)
theorem jm_iand {a b : Int} (hd : decode Y.2.1 pc = .ok (.iand, 1)) (h : jm_G E Y R n' n cs sl (pc + 1) L (jm_I (jm_and a b) :: st) μ Q) : jm_G E Y R n' n cs sl pc L (jm_I b :: jm_I a :: st) μ Q :=
  jm_bin (jm_ofToInt _) (jm_ok32 _) h (fun p e s m args below meth c Z H locs ls he hb w => lv_iand he hb hd w)
theorem jm_ior {a b : Int} (hd : decode Y.2.1 pc = .ok (.ior, 1)) (h : jm_G E Y R n' n cs sl (pc + 1) L (jm_I (jm_or a b) :: st) μ Q) : jm_G E Y R n' n cs sl pc L (jm_I b :: jm_I a :: st) μ Q :=
  jm_bin (jm_ofToInt _) (jm_ok32 _) h (fun p e s m args below meth c Z H locs ls he hb w => lv_ior he hb hd w)
theorem jm_ixor {a b : Int} (hd : decode Y.2.1 pc = .ok (.ixor, 1)) (h : jm_G E Y R n' n cs sl (pc + 1) L (jm_I (jm_xor a b) :: st) μ Q) : jm_G E Y R n' n cs sl pc L (jm_I b :: jm_I a :: st) μ Q :=
  jm_bin (jm_ofToInt _) (jm_ok32 _) h (fun p e s m args below meth c Z H locs ls he hb w => lv_ixor he hb hd w)
theorem jm_ishl {a b : Int} (hd : decode Y.2.1 pc = .ok (.ishl, 1)) (h : jm_G E Y R n' n cs sl (pc + 1) L (jm_I (jm_shl a b) :: st) μ Q) : jm_G E Y R n' n cs sl pc L (jm_I b :: jm_I a :: st) μ Q :=
  jm_bin (jm_ofToInt _) (jm_ok32 _) h (fun p e s m args below meth c Z H locs ls he hb w => lv_ishl he hb hd w)
theorem jm_ishr {a b : Int} (hd : decode Y.2.1 pc = .ok (.ishr, 1)) (h : jm_G E Y R n' n cs sl (pc + 1) L (jm_I (jm_shr a b) :: st) μ Q) : jm_G E Y R n' n cs sl pc L (jm_I b :: jm_I a :: st) μ Q :=
  jm_bin (jm_ofToInt _) (jm_ok32 _) h (fun p e s m args below meth c Z H locs ls he hb w => lv_ishr he hb hd w)
theorem jm_iushr {a b : Int} (hd : decode Y.2.1 pc = .ok (.iushr, 1)) (h : jm_G E Y R n' n cs sl (pc + 1) L (jm_I (jm_ushr a b) :: st) μ Q) : jm_G E Y R n' n cs sl pc L (jm_I b :: jm_I a :: st) μ Q :=
  jm_bin (jm_ofToInt _) (jm_ok32 _) h (fun p e s m args below meth c Z H locs ls he hb w => lv_iushr he hb hd rfl w)
theorem jm_ne0 {b : Int} (hb : jm_ok (jm_I b)) (h : b ≠ 0) : ¬ Int32.ofInt b = 0 := fun z => h ((jm_eq32 hb (b := 0) ⟨by omega, by omega⟩).mp z)
theorem jm_idiv {a b : Int} (hd : decode Y.2.1 pc = .ok (.idiv, 1)) (hz : b ≠ 0) (h : jm_G E Y R n' n cs sl (pc + 1) L (jm_I (jm_quo a b) :: st) μ Q) : jm_G E Y R n' n cs sl pc L (jm_I b :: jm_I a :: st) μ Q :=
  jm_step h (fun q _ => jm_cons (jm_ok32 _) (jm_tail2 q)) (fun p e s m args below meth c Z H locs ls he hb _ _ _ _ hs w => lv_idiv he hb hd (jm_ne0 (hs _ List.mem_cons_self) hz) (by rw [← jm_ofToInt (Int32.ofInt a / Int32.ofInt b)]; exact w))
theorem jm_irem {a b : Int} (hd : decode Y.2.1 pc = .ok (.irem, 1)) (hz : b ≠ 0) (h : jm_G E Y R n' n cs sl (pc + 1) L (jm_I (jm_rem a b) :: st) μ Q) : jm_G E Y R n' n cs sl pc L (jm_I b :: jm_I a :: st) μ Q :=
  jm_step h (fun q _ => jm_cons (jm_ok32 _) (jm_tail2 q)) (fun p e s m args below meth c Z H locs ls he hb _ _ _ _ hs w => lv_irem he hb hd (jm_ne0 (hs _ List.mem_cons_self) hz) (by rw [← jm_ofToInt (Int32.ofInt a - Int32.ofInt a / Int32.ofInt b * Int32.ofInt b)]; exact w))
theorem jm_ladd {a b : Int} (hd : decode Y.2.1 pc = .ok (.ladd, 1)) (h : jm_G E Y R n' n cs sl (pc + 1) L (jm_L (jm_wl (a + b)) :: st) μ Q) : jm_G E Y R n' n cs sl pc L (jm_L b :: jm_L a :: st) μ Q :=
  jm_step h (fun q _ => jm_cons (jm_ok64 _) (jm_tail2 q)) (fun p e s m args below meth c Z H locs ls he hb _ _ _ _ _ w => lv_ladd he hb hd (by rw [← Int64.ofInt_add, ← jm_wl_of]; exact w))
theorem jm_lsub {a b : Int} (hd : decode Y.2.1 pc = .ok (.lsub, 1)) (h : jm_G E Y R n' n cs sl (pc + 1) L (jm_L (jm_wl (a - b)) :: st) μ Q) : jm_G E Y R n' n cs sl pc L (jm_L b :: jm_L a :: st) μ Q :=
  jm_step h (fun q _ => jm_cons (jm_ok64 _) (jm_tail2 q)) (fun p e s m args below meth c Z H locs ls he hb _ _ _ _ _ w => lv_lsub he hb hd (by rw [← Int64.ofInt_sub, ← jm_wl_of]; exact w))
theorem jm_lmul {a b : Int} (hd : decode Y.2.1 pc = .ok (.lmul, 1)) (h : jm_G E Y R n' n cs sl (pc + 1) L (jm_L (jm_wl (a * b)) :: st) μ Q) : jm_G E Y R n' n cs sl pc L (jm_L b :: jm_L a :: st) μ Q :=
  jm_step h (fun q _ => jm_cons (jm_ok64 _) (jm_tail2 q)) (fun p e s m args below meth c Z H locs ls he hb _ _ _ _ _ w => lv_lmul he hb hd (by rw [← Int64.ofInt_mul, ← jm_wl_of]; exact w))
theorem jm_i2l {a : Int} (hd : decode Y.2.1 pc = .ok (.i2l, 1)) (h : jm_G E Y R n' n cs sl (pc + 1) L (jm_L a :: st) μ Q) : jm_G E Y R n' n cs sl pc L (jm_I a :: st) μ Q :=
  jm_step h (fun q _ => jm_cons (by have := q _ List.mem_cons_self; exact ⟨by have := this.1; omega, by have := this.2; omega⟩) (jm_tail q)) (fun p e s m args below meth c Z H locs ls he hb _ _ _ _ hs w => lv_i2l he hb hd (v := Int64.ofInt a) (by rw [← Int64.ofInt_int32ToInt, jm_ti (hs _ List.mem_cons_self)]) w)
theorem jm_i2bt {a : Int} (hd : decode Y.2.1 pc = .ok (.i2b, 1)) (h : jm_G E Y R n' n cs sl (pc + 1) L (jm_I (jm_i2b a) :: st) μ Q) : jm_G E Y R n' n cs sl pc L (jm_I a :: st) μ Q :=
  jm_step h (fun q _ => jm_cons (jm_ok32 _) (jm_tail q)) (fun p e s m args below meth c Z H locs ls he hb _ _ _ _ hs w => lv_i2b he hb hd (v := Int32.ofInt (jm_i2b a)) (jm_ofToInt _).symm w)
theorem jm_cmp_of {a b : Int} (ha : jm_ok (jm_L a)) (hb : jm_ok (jm_L b)) : lg_cmp (Int64.ofInt a) (Int64.ofInt b) = Int32.ofInt (jm_cmp a b) := by
  unfold lg_cmp jm_cmp
  simp only [gt_iff_lt, jm_lt64 hb ha, jm_eq64 ha hb]
  split
  · rfl
  · split <;> rfl
theorem jm_cmp_ok (a b : Int) : jm_ok (jm_I (jm_cmp a b)) := by
  show -2147483648 ≤ jm_cmp a b ∧ jm_cmp a b < 2147483648
  unfold jm_cmp
  split
  · omega
  · split <;> omega
theorem jm_lcmp {a b : Int} (hd : decode Y.2.1 pc = .ok (.lcmp, 1)) (h : jm_G E Y R n' n cs sl (pc + 1) L (jm_I (jm_cmp a b) :: st) μ Q) : jm_G E Y R n' n cs sl pc L (jm_L b :: jm_L a :: st) μ Q :=
  jm_step h (fun q _ => jm_cons (jm_cmp_ok _ _) (jm_tail2 q)) (fun p e s m args below meth c Z H locs ls he hb _ _ _ _ hs w => W.lcmp he hb hd (by rw [jm_cmp_of (hs _ (List.mem_cons_of_mem _ List.mem_cons_self)) (hs _ List.mem_cons_self)]; exact w))
/-! the stack -/
theorem jm_dup {v : jm_V} (hl : jm_lg v = false) (hd : decode Y.2.1 pc = .ok (.dup, 1)) (h : jm_G E Y R n' n cs sl (pc + 1) L (v :: v :: st) μ Q) : jm_G E Y R n' n cs sl pc L (v :: st) μ Q :=
  jm_step h (fun q _ => jm_cons (q _ List.mem_cons_self) q) (fun p e s m args below meth c Z H locs ls he hb _ _ _ _ _ w => lv_dup he hb hd (jm_cat1 hl) w)
theorem jm_pop {v : jm_V} (hl : jm_lg v = false) (hd : decode Y.2.1 pc = .ok (.pop, 1)) (h : jm_G E Y R n' n cs sl (pc + 1) L st μ Q) : jm_G E Y R n' n cs sl pc L (v :: st) μ Q :=
  jm_step h (fun q _ => jm_tail q) (fun p e s m args below meth c Z H locs ls he hb _ _ _ _ _ w => lv_pop he hb hd (jm_cat1 hl) w)
theorem jm_dup2 {v w : jm_V} (hl : jm_lg v = false) (hl2 : jm_lg w = false) (hd : decode Y.2.1 pc = .ok (.dup2, 1)) (h : jm_G E Y R n' n cs sl (pc + 1) L (v :: w :: v :: w :: st) μ Q) : jm_G E Y R n' n cs sl pc L (v :: w :: st) μ Q :=
  jm_step h (fun q _ => jm_cons (q _ List.mem_cons_self) (jm_cons (q _ (List.mem_cons_of_mem _ List.mem_cons_self)) q)) (fun p e s m args below meth c Z H locs ls he hb _ _ _ _ _ w => lv_dup2_11 he hb hd (jm_cat1 hl) (jm_cat1 hl2) w)
/-! branches -/
theorem jm_goto {off : Int} {tgt : Nat} (hd : decode Y.2.1 pc = .ok (.goto off, 3)) (ht : (pc : Int) + off = (tgt : Int)) (h : jm_G E Y R n' n cs sl tgt L st μ Q) : jm_G E Y R n' n cs sl pc L st μ Q :=
  jm_step h (fun q _ => q) (fun p e s m args below meth c Z H locs ls he hb _ _ _ _ _ w => lv_goto he hb hd ht w)
theorem jm_br2 {st2 : List jm_V} {tgt fall : Nat} {c : Prop} (hst : (∀ v ∈ st2, jm_ok v) → ∀ v ∈ st, jm_ok v) (ht : c → jm_G E Y R n' n cs sl tgt L st μ Q) (hf : ¬ c → jm_G E Y R n' n cs sl fall L st μ Q)
    (hw : ∀ (p : Program) (e : Env) (s : State) (m : MethodId) (args : Array Value) (below : List Frame) (meth : Method) (cc : Code) (Z : State → Prop) (H : Heap) (locs : List Loc) (ls : Array Slot), p.tables.exec = Jvm.exec → cc.code = Y.2.1 → jm_X E s s.heap → (∀ v ∈ st2, jm_ok v) →
      (c → W p (jm_l E) e R s m args below meth cc H locs cs sl Z (F0 m tgt ls (st.map (jm_cv E)))) → (¬ c → W p (jm_l E) e R s m args below meth cc H locs cs sl Z (F0 m fall ls (st.map (jm_cv E)))) → W p (jm_l E) e R s m args below meth cc H locs cs sl Z (F0 m pc ls (st2.map (jm_cv E)))) :
    jm_G E Y R n' n cs sl pc L st2 μ Q := by
  intro p e s m args below meth cc Z H locs ls C hZ hR hS hl hL hs
  exact hw p e s m args below meth cc Z H locs ls C.1 C.2.1 C.2.2.2.2.2.2.2.2.1 hs (fun q => ht q p e s m args below meth cc Z H locs ls C hZ hR hS hl hL (hst hs)) (fun q => hf q p e s m args below meth cc Z H locs ls C hZ hR hS hl hL (hst hs))
theorem jm_0ok : jm_ok (jm_I 0) := ⟨by omega, by omega⟩
theorem jm_icmp_eq {a b off : Int} {tgt : Nat} (hd : decode Y.2.1 pc = .ok (.if_icmp .eq off, 3)) (ht : (pc : Int) + off = (tgt : Int)) (kt : a = b → jm_G E Y R n' n cs sl tgt L st μ Q) (kf : ¬ (a = b) → jm_G E Y R n' n cs sl (pc + 3) L st μ Q) : jm_G E Y R n' n cs sl pc L (jm_I b :: jm_I a :: st) μ Q :=
  jm_br2 jm_tail2 kt kf (fun p e s m args below meth cc Z H locs ls he hb _ hs kt kf => by
    have h1 := hs _ (List.mem_cons_of_mem _ List.mem_cons_self)
    have h2 := hs _ List.mem_cons_self
    exact lv_icmp_eq he hb hd ht (fun z => kt ((jm_eq32 h1 h2).mp z)) (fun z => kf (fun w => z ((jm_eq32 h1 h2).mpr w))))
theorem jm_icmp_ne {a b off : Int} {tgt : Nat} (hd : decode Y.2.1 pc = .ok (.if_icmp .ne off, 3)) (ht : (pc : Int) + off = (tgt : Int)) (kt : a ≠ b → jm_G E Y R n' n cs sl tgt L st μ Q) (kf : ¬ (a ≠ b) → jm_G E Y R n' n cs sl (pc + 3) L st μ Q) : jm_G E Y R n' n cs sl pc L (jm_I b :: jm_I a :: st) μ Q :=
  jm_br2 jm_tail2 kt kf (fun p e s m args below meth cc Z H locs ls he hb _ hs kt kf => by
    have h1 := hs _ (List.mem_cons_of_mem _ List.mem_cons_self)
    have h2 := hs _ List.mem_cons_self
    exact lv_icmp_ne he hb hd ht (fun z => kt (fun w => z ((jm_eq32 h1 h2).mpr w))) (fun z => kf (fun w => w ((jm_eq32 h1 h2).mp z))))
theorem jm_icmp_lt {a b off : Int} {tgt : Nat} (hd : decode Y.2.1 pc = .ok (.if_icmp .lt off, 3)) (ht : (pc : Int) + off = (tgt : Int)) (kt : a < b → jm_G E Y R n' n cs sl tgt L st μ Q) (kf : ¬ (a < b) → jm_G E Y R n' n cs sl (pc + 3) L st μ Q) : jm_G E Y R n' n cs sl pc L (jm_I b :: jm_I a :: st) μ Q :=
  jm_br2 jm_tail2 kt kf (fun p e s m args below meth cc Z H locs ls he hb _ hs kt kf => by
    have h1 := hs _ (List.mem_cons_of_mem _ List.mem_cons_self)
    have h2 := hs _ List.mem_cons_self
    exact lv_icmp_lt he hb hd ht (fun z => kt ((jm_lt32 h1 h2).mp z)) (fun z => kf (fun w => z ((jm_lt32 h1 h2).mpr w))))
theorem jm_icmp_ge {a b off : Int} {tgt : Nat} (hd : decode Y.2.1 pc = .ok (.if_icmp .ge off, 3)) (ht : (pc : Int) + off = (tgt : Int)) (kt : b ≤ a → jm_G E Y R n' n cs sl tgt L st μ Q) (kf : ¬ (b ≤ a) → jm_G E Y R n' n cs sl (pc + 3) L st μ Q) : jm_G E Y R n' n cs sl pc L (jm_I b :: jm_I a :: st) μ Q :=
  jm_br2 jm_tail2 kt kf (fun p e s m args below meth cc Z H locs ls he hb _ hs kt kf => by
    have h1 := hs _ (List.mem_cons_of_mem _ List.mem_cons_self)
    have h2 := hs _ List.mem_cons_self
    exact lv_icmp_ge he hb hd ht (fun z => kt ((jm_le32 h2 h1).mp z)) (fun z => kf (fun w => z ((jm_le32 h2 h1).mpr w))))
theorem jm_icmp_gt {a b off : Int} {tgt : Nat} (hd : decode Y.2.1 pc = .ok (.if_icmp .gt off, 3)) (ht : (pc : Int) + off = (tgt : Int)) (kt : b < a → jm_G E Y R n' n cs sl tgt L st μ Q) (kf : ¬ (b < a) → jm_G E Y R n' n cs sl (pc + 3) L st μ Q) : jm_G E Y R n' n cs sl pc L (jm_I b :: jm_I a :: st) μ Q :=
  jm_br2 jm_tail2 kt kf (fun p e s m args below meth cc Z H locs ls he hb _ hs kt kf => by
    have h1 := hs _ (List.mem_cons_of_mem _ List.mem_cons_self)
    have h2 := hs _ List.mem_cons_self
    exact lv_icmp_gt he hb hd ht (fun z => kt ((jm_lt32 h2 h1).mp z)) (fun z => kf (fun w => z ((jm_lt32 h2 h1).mpr w))))
theorem jm_icmp_le {a b off : Int} {tgt : Nat} (hd : decode Y.2.1 pc = .ok (.if_icmp .le off, 3)) (ht : (pc : Int) + off = (tgt : Int)) (kt : a ≤ b → jm_G E Y R n' n cs sl tgt L st μ Q) (kf : ¬ (a ≤ b) → jm_G E Y R n' n cs sl (pc + 3) L st μ Q) : jm_G E Y R n' n cs sl pc L (jm_I b :: jm_I a :: st) μ Q :=
  jm_br2 jm_tail2 kt kf (fun p e s m args below meth cc Z H locs ls he hb _ hs kt kf => by
    have h1 := hs _ (List.mem_cons_of_mem _ List.mem_cons_self)
    have h2 := hs _ List.mem_cons_self
    exact lv_icmp_le he hb hd ht (fun z => kt ((jm_le32 h1 h2).mp z)) (fun z => kf (fun w => z ((jm_le32 h1 h2).mpr w))))
theorem jm_if_eq {a off : Int} {tgt : Nat} (hd : decode Y.2.1 pc = .ok (.ifCond .eq off, 3)) (ht : (pc : Int) + off = (tgt : Int)) (kt : a = 0 → jm_G E Y R n' n cs sl tgt L st μ Q) (kf : ¬ (a = 0) → jm_G E Y R n' n cs sl (pc + 3) L st μ Q) : jm_G E Y R n' n cs sl pc L (jm_I a :: st) μ Q :=
  jm_br2 jm_tail kt kf (fun p e s m args below meth cc Z H locs ls he hb _ hs kt kf => by
    have h1 := hs _ List.mem_cons_self
    exact lv_if_eq he hb hd ht (fun z => kt ((jm_eq32 h1 jm_0ok).mp z)) (fun z => kf (fun w => z ((jm_eq32 h1 jm_0ok).mpr w))))
theorem jm_if_ne {a off : Int} {tgt : Nat} (hd : decode Y.2.1 pc = .ok (.ifCond .ne off, 3)) (ht : (pc : Int) + off = (tgt : Int)) (kt : a ≠ 0 → jm_G E Y R n' n cs sl tgt L st μ Q) (kf : ¬ (a ≠ 0) → jm_G E Y R n' n cs sl (pc + 3) L st μ Q) : jm_G E Y R n' n cs sl pc L (jm_I a :: st) μ Q :=
  jm_br2 jm_tail kt kf (fun p e s m args below meth cc Z H locs ls he hb _ hs kt kf => by
    have h1 := hs _ List.mem_cons_self
    exact lv_if_ne he hb hd ht (fun z => kt (fun w => z ((jm_eq32 h1 jm_0ok).mpr w))) (fun z => kf (fun w => w ((jm_eq32 h1 jm_0ok).mp z))))
theorem jm_if_lt {a off : Int} {tgt : Nat} (hd : decode Y.2.1 pc = .ok (.ifCond .lt off, 3)) (ht : (pc : Int) + off = (tgt : Int)) (kt : a < 0 → jm_G E Y R n' n cs sl tgt L st μ Q) (kf : ¬ (a < 0) → jm_G E Y R n' n cs sl (pc + 3) L st μ Q) : jm_G E Y R n' n cs sl pc L (jm_I a :: st) μ Q :=
  jm_br2 jm_tail kt kf (fun p e s m args below meth cc Z H locs ls he hb _ hs kt kf => by
    have h1 := hs _ List.mem_cons_self
    exact lv_if_lt he hb hd ht (fun z => kt ((jm_lt32 h1 jm_0ok).mp z)) (fun z => kf (fun w => z ((jm_lt32 h1 jm_0ok).mpr w))))
theorem jm_if_ge {a off : Int} {tgt : Nat} (hd : decode Y.2.1 pc = .ok (.ifCond .ge off, 3)) (ht : (pc : Int) + off = (tgt : Int)) (kt : 0 ≤ a → jm_G E Y R n' n cs sl tgt L st μ Q) (kf : ¬ (0 ≤ a) → jm_G E Y R n' n cs sl (pc + 3) L st μ Q) : jm_G E Y R n' n cs sl pc L (jm_I a :: st) μ Q :=
  jm_br2 jm_tail kt kf (fun p e s m args below meth cc Z H locs ls he hb _ hs kt kf => by
    have h1 := hs _ List.mem_cons_self
    exact lv_if_ge he hb hd ht (fun z => kt ((jm_le32 jm_0ok h1).mp z)) (fun z => kf (fun w => z ((jm_le32 jm_0ok h1).mpr w))))
theorem jm_if_gt {a off : Int} {tgt : Nat} (hd : decode Y.2.1 pc = .ok (.ifCond .gt off, 3)) (ht : (pc : Int) + off = (tgt : Int)) (kt : 0 < a → jm_G E Y R n' n cs sl tgt L st μ Q) (kf : ¬ (0 < a) → jm_G E Y R n' n cs sl (pc + 3) L st μ Q) : jm_G E Y R n' n cs sl pc L (jm_I a :: st) μ Q :=
  jm_br2 jm_tail kt kf (fun p e s m args below meth cc Z H locs ls he hb _ hs kt kf => by
    have h1 := hs _ List.mem_cons_self
    exact lv_if_gt he hb hd ht (fun z => kt ((jm_lt32 jm_0ok h1).mp z)) (fun z => kf (fun w => z ((jm_lt32 jm_0ok h1).mpr w))))
theorem jm_if_le {a off : Int} {tgt : Nat} (hd : decode Y.2.1 pc = .ok (.ifCond .le off, 3)) (ht : (pc : Int) + off = (tgt : Int)) (kt : a ≤ 0 → jm_G E Y R n' n cs sl tgt L st μ Q) (kf : ¬ (a ≤ 0) → jm_G E Y R n' n cs sl (pc + 3) L st μ Q) : jm_G E Y R n' n cs sl pc L (jm_I a :: st) μ Q :=
  jm_br2 jm_tail kt kf (fun p e s m args below meth cc Z H locs ls he hb _ hs kt kf => by
    have h1 := hs _ List.mem_cons_self
    exact lv_if_le he hb hd ht (fun z => kt ((jm_le32 h1 jm_0ok).mp z)) (fun z => kf (fun w => z ((jm_le32 h1 jm_0ok).mpr w))))
theorem jm_ifnull {a off : Int} {tgt : Nat} (hd : decode Y.2.1 pc = .ok (.ifnull off, 3)) (ht : (pc : Int) + off = (tgt : Int)) (kt : a = -1 → jm_G E Y R n' n cs sl tgt L st μ Q) (kf : ¬ (a = -1) → jm_G E Y R n' n cs sl (pc + 3) L st μ Q) : jm_G E Y R n' n cs sl pc L (jm_R a :: st) μ Q :=
  jm_br2 jm_tail kt kf (fun p e s m args below meth cc Z H locs ls he hb _ hs kt kf => by
    by_cases hz : a = -1
    · have e1 : jm_cv E (jm_R a) = .null := by simp [jm_cv, hz]
      rw [List.map_cons, e1]
      exact lv_ifnullN he hb hd ht (kt hz)
    · have e1 : jm_cv E (jm_R a) = .ref (jm_ad E a) := by simp [jm_cv, hz]
      rw [List.map_cons, e1]
      exact lv_ifnull he hb hd (kf hz))
theorem jm_ifnonnull {a off : Int} {tgt : Nat} (hd : decode Y.2.1 pc = .ok (.ifnonnull off, 3)) (ht : (pc : Int) + off = (tgt : Int)) (kt : ¬ (a = -1) → jm_G E Y R n' n cs sl tgt L st μ Q) (kf : ¬ ¬ (a = -1) → jm_G E Y R n' n cs sl (pc + 3) L st μ Q) : jm_G E Y R n' n cs sl pc L (jm_R a :: st) μ Q :=
  jm_br2 jm_tail kt kf (fun p e s m args below meth cc Z H locs ls he hb _ hs kt kf => by
    by_cases hz : a = -1
    · have e1 : jm_cv E (jm_R a) = .null := by simp [jm_cv, hz]
      rw [List.map_cons, e1]
      exact lv_ifnonnullN he hb hd (kf (fun w => w hz))
    · have e1 : jm_cv E (jm_R a) = .ref (jm_ad E a) := by simp [jm_cv, hz]
      rw [List.map_cons, e1]
      exact lv_ifnonnull he hb hd ht (kt hz))
/-- a place of one of Term's constants -/
def jm_it (a : Int) : Prop := -36 ≤ a ∧ a ≤ -11
theorem jm_acmp_ne {a b off : Int} {tgt : Nat} (hd : decode Y.2.1 pc = .ok (.if_acmp .ne off, 3)) (ht : (pc : Int) + off = (tgt : Int)) (ha : jm_it a) (hb2 : jm_it b) (kt : a ≠ b → jm_G E Y R n' n cs sl tgt L st μ Q) (kf : ¬ (a ≠ b) → jm_G E Y R n' n cs sl (pc + 3) L st μ Q) : jm_G E Y R n' n cs sl pc L (jm_R b :: jm_R a :: st) μ Q :=
  jm_br2 jm_tail2 kt kf (fun p e s m args below meth cc Z H locs ls he hb hX hs kt kf => by
    obtain ⟨a1, a2⟩ := ha
    obtain ⟨b1, b2⟩ := hb2
    have e1 : jm_cv E (jm_R a) = va_rf (some (jm_aT E (-11 - a).toNat)) := by
      show (if a = -1 then Value.null else Value.ref (jm_ad E a)) = _
      rw [if_neg (by omega)]
      unfold jm_ad
      rw [if_neg (by omega), if_neg (by omega), if_neg (by omega), if_neg (by omega), if_neg (by omega)]
      rfl
    have e2 : jm_cv E (jm_R b) = va_rf (some (jm_aT E (-11 - b).toNat)) := by
      show (if b = -1 then Value.null else Value.ref (jm_ad E b)) = _
      rw [if_neg (by omega)]
      unfold jm_ad
      rw [if_neg (by omega), if_neg (by omega), if_neg (by omega), if_neg (by omega), if_neg (by omega)]
      rfl
    rw [List.map_cons, List.map_cons, e1, e2]
    refine lv_acmp_ne he hb hd ht (fun z => kt (fun w => z (by rw [w]))) (fun z => kf (fun w => w ?_))
    have h1 := hX.1.2.1 _ _ (show (-11 - a).toNat < 26 by omega) (show (-11 - b).toNat < 26 by omega) (Option.some.inj z)
    omega)
theorem jm_table {dflt lo hi : Int} {offs : Array Int} {len tgt : Nat} {a off : Int} (hd : decode Y.2.1 pc = .ok (.tableswitch dflt lo hi offs, len)) (h1 : ¬ a < lo) (h2 : ¬ hi < a) (ho : offs[(a - lo).toNat]? = some off) (ht : (pc : Int) + off = (tgt : Int)) (h : jm_G E Y R n' n cs sl tgt L st μ Q) : jm_G E Y R n' n cs sl pc L (jm_I a :: st) μ Q :=
  jm_step h (fun q _ => jm_tail q) (fun p e s m args below meth c Z H locs ls he hb _ _ _ _ hs w => by
    have h3 := jm_ti (hs _ List.mem_cons_self)
    exact lv_tableIn he hb hd (by rw [h3]; exact h1) (by rw [h3]; exact h2) (by rw [h3]; exact ho) ht w)
theorem jm_tableD {dflt lo hi : Int} {offs : Array Int} {len tgt : Nat} {a : Int} (hd : decode Y.2.1 pc = .ok (.tableswitch dflt lo hi offs, len)) (h1 : a < lo ∨ hi < a) (ht : (pc : Int) + dflt = (tgt : Int)) (h : jm_G E Y R n' n cs sl tgt L st μ Q) : jm_G E Y R n' n cs sl pc L (jm_I a :: st) μ Q :=
  jm_step h (fun q _ => jm_tail q) (fun p e s m args below meth c Z H locs ls he hb _ _ _ _ hs w => by
    have h3 := jm_ti (hs _ List.mem_cons_self)
    exact lv_tableOut he hb hd (by rw [h3]; exact h1) ht w)
theorem jm_iinc {i : Nat} {k x v : Int} {L' : List (Option jm_V)} (hd : decode Y.2.1 pc = .ok (.iinc i k, 3)) (hv : L[i]? = some (some (jm_I x))) (hx : jm_wr (x + k) = v) (hi : i < Y.2.2.1) (hL' : jm_sto L i (jm_I v) = L') (h : jm_G E Y R n' n cs sl (pc + 3) L' st μ Q) : jm_G E Y R n' n cs sl pc L st μ Q := by
  intro p e s m args below meth c Z H locs ls C hZ hR hS hl hL hst
  have hm := jm_lo_mem (E := E) L 0 i _ hv
  rw [Nat.zero_add] at hm
  obtain ⟨j, hj⟩ := List.getElem?_of_mem hm
  have hvo : jm_ok (jm_I v) := by rw [← hx]; exact jm_ok32 _
  refine lv_iinc C.1 C.2.1 hd hl (k := j) (x := Int32.ofInt x) (v := Int32.ofInt v) hj (by rw [← hx, jm_wr_of, Int32.ofInt_add]) hi rfl (fun ls' hl' => ?_)
  subst hL'
  exact h p e s m args below meth c Z H locs ls' C hZ hR hS (jm_lv_mono hl' jm_lo_sto1) (jm_sto_ok hvo hL) hst
end JMT
end
section
/-! the heap: rows of numbers, fields -/
/-- a place that is made: an object of a class -/
def jm_is (n : Nat) (a : Int) (k c : Nat) : Prop := 0 ≤ a ∧ a < n ∧ jm_sk a = k ∧ jm_sn a = c
/-- an index within a row -/
def jm_ix (n : Nat) (a : Int) (k : Nat) (i : Int) : Prop := 0 ≤ a ∧ a < n ∧ jm_sk a = k ∧ 0 ≤ i ∧ i < jm_sn a
section JMH
variable {E : jm_E} {Y : jm_Y} {R : Room} {n' n cs sl pc : Nat} {L : List (Option jm_V)} {st : List jm_V} {μ : jm_M} {Q : Option jm_V → jm_M → Prop}
theorem jm_cvR (k : Nat) : jm_cv E (jm_R (k : Int)) = .ref (jm_b E + k) := by
  show (if (k : Int) = -1 then Value.null else Value.ref (jm_ad E k)) = _
  rw [if_neg (by omega)]
  unfold jm_ad
  rw [if_pos (by omega)]
  rfl
theorem jm_clamp {j : Nat} (h : jm_ok (jm_I (j : Int))) : (Int32.ofInt (j : Int)).toNatClampNeg = j := by
  show (Int32.ofInt (j : Int)).toInt.toNat = j
  rw [jm_ti h]
  rfl
theorem jm_vpin {j N : Nat} (h : jm_ok (jm_I (j : Int))) (hj : j < N) : vp_in (Int32.ofInt (j : Int)) N := by
  rw [vp_in_iff, jm_ti h]
  omega
theorem jm_sk_nat (k : Nat) : jm_sk (k : Int) = (jm_s k).1 := by
  unfold jm_sk
  rw [if_neg (by omega)]
  rfl
theorem jm_sn_nat (k : Nat) : jm_sn (k : Int) = (jm_s k).2 := by
  unfold jm_sn
  rw [if_neg (by omega)]
  rfl
theorem jm_nat {a : Int} (h : 0 ≤ a) : ∃ k : Nat, a = k := ⟨a.toNat, by omega⟩
theorem jm_Rel_up {H H1 : Heap} {k : Nat} {i v : Int} (hR : jm_Rel E n μ H) (hk : k < n) (hz : H1.size = H.size) (oq : ∀ q : Nat, q ≠ jm_b E + k → H1[q]? = H[q]?) (hc : va_at (jm_D E) jm_cl (jm_b E + k, jm_cell E (jm_up μ k i v) k) H1) (ho : jm_okc (jm_up μ k i v) k) (hw : n = jm_N → ∀ q ∈ jm_frl, ¬ (q.1 = (k : Int) ∧ q.2.1 = i)) : jm_Rel E n (jm_up μ k i v) H1 := by
  obtain ⟨hP, hO, h1, h2, h3, h4⟩ := hR
  refine ⟨fun j q hq => ?_, fun j hj => ?_, h1, by rw [hz]; exact h2, fun z => by rw [hz]; exact h3 z, fun z => ⟨fun q hq => ?_, (h4 z).2.kept fun q q1 _ => oq q (by omega)⟩⟩
  · have hj : j < n := by
      have := (List.getElem?_eq_some_iff.mp hq).1
      rwa [jm_ws_len] at this
    rw [jm_ws_get hj] at hq
    cases hq
    by_cases e : j = k
    · subst e; exact hc
    · rw [jm_up_cell e]
      exact (hP j _ (jm_ws_get hj)).kept (oq _ (show jm_b E + j ≠ jm_b E + k by omega))
  · by_cases e : j = k
    · subst e; exact ho
    · exact jm_up_okc e (hO j hj)
  · have h5 := (h4 z).1 q hq
    have h6 := hw z q hq
    unfold jm_up
    by_cases e1 : q.2.1 = i
    · rw [if_pos e1, if_neg (fun e2 => h6 ⟨e2, e1⟩)]
      exact h5
    · rw [if_neg e1]
      exact h5
theorem jm_frl_arr {k : Nat} (h : (jm_s k).1 ≠ 1) {i : Int} : ∀ q ∈ jm_frl, ¬ (q.1 = (k : Int) ∧ q.2.1 = i) := by
  intro q hq ⟨e1, _⟩
  have h1 := (jm_frl_ok q hq).2.2.1
  rw [e1] at h1
  exact h h1
theorem jm_frl_fld {k c j : Nat} (hc : (jm_s k).2 = c) (h : jm_fin c j = false) : ∀ q ∈ jm_frl, ¬ (q.1 = (k : Int) ∧ q.2.1 = (j : Int)) := by
  intro q hq ⟨e1, e2⟩
  have h1 := (jm_frl_ok q hq).2.2.2
  rw [e1, e2] at h1
  have e3 : ((k : Int).toNat) = k := rfl
  have e4 : ((j : Int).toNat) = j := rfl
  rw [e3, e4, hc, h] at h1
  cases h1
theorem jm_cell_a {k : Nat} (h1 : (jm_s k).1 ≠ 1) (h3 : (jm_s k).1 ≠ 3) : jm_cell E μ k = .inl (jm_cA E ((jm_s k).1 - 2), (jm_s k).2, .inl fun j : Nat => Int32.ofInt (μ k j)) := by
  unfold jm_cell
  rw [if_neg h1, if_neg h3]
theorem jm_cell_l {k : Nat} (h3 : (jm_s k).1 = 3) : jm_cell E μ k = .inl (jm_cA E 1, (jm_s k).2, .inr (.inl fun j : Nat => Int64.ofInt (μ k j))) := by
  unfold jm_cell
  rw [if_neg (by omega), if_pos h3]
theorem jm_okc_a {k j : Nat} (h1 : (jm_s k).1 ≠ 1) (h3 : (jm_s k).1 ≠ 3) (h : jm_okc μ k) (hj : j < (jm_s k).2) : jm_ok (jm_I (μ k j)) := by
  unfold jm_okc at h
  rw [if_neg h1, if_neg h3] at h
  exact h j hj
theorem jm_okc_l {k j : Nat} (h3 : (jm_s k).1 = 3) (h : jm_okc μ k) (hj : j < (jm_s k).2) : jm_ok (jm_L (μ k j)) := by
  unfold jm_okc at h
  rw [if_neg (by omega), if_pos h3] at h
  exact h j hj
/-- a row of numbers is read -/
theorem jm_ald {t : Nat} {a i : Int} (ht : t = 2 ∨ t = 4 ∨ t = 5) (hx : jm_ix n a t i) (h : jm_G E Y R n' n cs sl (pc + 1) L (jm_I (μ a i) :: st) μ Q)
    (hw : ∀ (p : Program) (e : Env) (s : State) (m : MethodId) (args : Array Value) (below : List Frame) (meth : Method) (c : Code) (Z : State → Prop) (H : Heap) (locs : List Loc) (ls : Array Slot) (rest : List Value), p.tables.exec = Jvm.exec → c.code = Y.2.1 → va_K (jm_D E) jm_cl (jm_tys E) s → va_P (jm_D E) jm_cl (jm_ws E n μ) H → ∀ (q0 : Nat) (ad N : Nat) (f : Nat → Int32) (x : Int32), (jm_ws E n μ)[q0]? = some (ad, .inl (jm_cA E (t - 2), N, .inl f)) → vp_in x N →
      W p (jm_l E) e R s m args below meth c H locs cs sl Z (F0 m (pc + 1) ls (.int (f x.toNatClampNeg) :: rest)) → W p (jm_l E) e R s m args below meth c H locs cs sl Z (F0 m pc ls (.int x :: .ref ad :: rest))) :
    jm_G E Y R n' n cs sl pc L (jm_I i :: jm_R a :: st) μ Q := by
  obtain ⟨x1, x2, x3, x4, x5⟩ := hx
  obtain ⟨k, rfl⟩ := jm_nat x1
  obtain ⟨j, rfl⟩ := jm_nat x4
  rw [jm_sk_nat] at x3
  rw [jm_sn_nat] at x5
  have hk : k < n := by omega
  have hj : j < (jm_s k).2 := by omega
  have t1 : (jm_s k).1 ≠ 1 := by omega
  have t3 : (jm_s k).1 ≠ 3 := by omega
  intro p e s m args below meth c Z H locs ls C hZ hR hS hl hL hst
  have hi := hst _ List.mem_cons_self
  have hg := jm_ws_get (E := E) (m := μ) hk
  rw [jm_cell_a t1 t3, x3] at hg
  have h1 := hw p e s m args below meth c Z H locs ls (st.map (jm_cv E)) C.1 C.2.1 C.2.2.2.2.2.2.2.1 hR.1 k _ _ _ (Int32.ofInt j) hg (jm_vpin hi hj)
  rw [List.map_cons, List.map_cons, jm_cvR]
  refine h1 ?_
  rw [jm_clamp hi]
  exact h p e s m args below meth c Z H locs ls C hZ hR hS hl hL (jm_cons (jm_okc_a t1 t3 (hR.2.1 k hk) hj) (jm_tail2 hst))
theorem jm_iaload {a i : Int} (hd : decode Y.2.1 pc = .ok (.iaload, 1)) (hx : jm_ix n a 2 i) (h : jm_G E Y R n' n cs sl (pc + 1) L (jm_I (μ a i) :: st) μ Q) : jm_G E Y R n' n cs sl pc L (jm_I i :: jm_R a :: st) μ Q :=
  jm_ald (Or.inl rfl) hx h (fun p e s m args below meth c Z H locs ls rest he hb hK hP q0 ad N f x hg hin w => va_iald he hb hK hP q0 0 hg rfl hin hd w)
theorem jm_baload {a i : Int} (hd : decode Y.2.1 pc = .ok (.baload, 1)) (hx : jm_ix n a 4 i) (h : jm_G E Y R n' n cs sl (pc + 1) L (jm_I (μ a i) :: st) μ Q) : jm_G E Y R n' n cs sl pc L (jm_I i :: jm_R a :: st) μ Q :=
  jm_ald (Or.inr (Or.inl rfl)) hx h (fun p e s m args below meth c Z H locs ls rest he hb hK hP q0 ad N f x hg hin w => va_bald he hb hK hP q0 2 hg rfl hin hd w)
theorem jm_laload {a i : Int} (hd : decode Y.2.1 pc = .ok (.laload, 1)) (hx : jm_ix n a 3 i) (h : jm_G E Y R n' n cs sl (pc + 1) L (jm_L (μ a i) :: st) μ Q) : jm_G E Y R n' n cs sl pc L (jm_I i :: jm_R a :: st) μ Q := by
  obtain ⟨x1, x2, x3, x4, x5⟩ := hx
  obtain ⟨k, rfl⟩ := jm_nat x1
  obtain ⟨j, rfl⟩ := jm_nat x4
  rw [jm_sk_nat] at x3
  rw [jm_sn_nat] at x5
  have hk : k < n := by omega
  have hj : j < (jm_s k).2 := by omega
  intro p e s m args below meth c Z H locs ls C hZ hR hS hl hL hst
  have hi := hst _ List.mem_cons_self
  have hg := jm_ws_get (E := E) (m := μ) hk
  rw [jm_cell_l x3] at hg
  rw [List.map_cons, List.map_cons, jm_cvR]
  refine va_lald C.1 C.2.1 C.2.2.2.2.2.2.2.1 hR.1 k 1 hg rfl (jm_vpin hi hj) hd ?_
  rw [jm_clamp hi]
  exact h p e s m args below meth c Z H locs ls C hZ hR hS hl hL (jm_cons (jm_okc_l x3 (hR.2.1 k hk) hj) (jm_tail2 hst))
/-- a row of numbers is written -/
theorem jm_ast {t : Nat} {a i v x : Int} (ht : t = 2 ∨ t = 4 ∨ t = 5) (hx : jm_ix n a t i) (hv : jm_ok (jm_I x) → jm_ok (jm_I v)) (h : jm_G E Y R n' n cs sl (pc + 1) L st (jm_up μ a i v) Q)
    (hw : ∀ (p : Program) (e : Env) (s : State) (m : MethodId) (args : Array Value) (below : List Frame) (meth : Method) (c : Code) (Z : State → Prop) (H : Heap) (locs : List Loc) (ls : Array Slot) (rest : List Value), p.tables.exec = Jvm.exec → c.code = Y.2.1 → va_K (jm_D E) jm_cl (jm_tys E) s → ∀ (ad N : Nat) (f : Nat → Int32) (j : Int32), H[ad]? = some (arrV (jm_cA E (t - 2)) N (fun j => .int (f j))) → vp_in j N →
      (∀ H1 : Heap, H1[ad]? = some ((arrV (jm_cA E (t - 2)) N (fun j => .int (f j))).setSlot j.toNatClampNeg (.int (Int32.ofInt v))) → H1.size = H.size → (∀ q, q ≠ ad → H1[q]? = H[q]?) → W p (jm_l E) e R s m args below meth c H1 (locs ++ [⟨ad, j.toNatClampNeg⟩]) cs sl Z (F0 m (pc + 1) ls rest)) → W p (jm_l E) e R s m args below meth c H locs cs sl Z (F0 m pc ls (.int (Int32.ofInt x) :: .int j :: .ref ad :: rest))) :
    jm_G E Y R n' n cs sl pc L (jm_I x :: jm_I i :: jm_R a :: st) μ Q := by
  obtain ⟨x1, x2, x3, x4, x5⟩ := hx
  obtain ⟨k, rfl⟩ := jm_nat x1
  obtain ⟨j, rfl⟩ := jm_nat x4
  rw [jm_sk_nat] at x3
  rw [jm_sn_nat] at x5
  have hk : k < n := by omega
  have hj : j < (jm_s k).2 := by omega
  have t1 : (jm_s k).1 ≠ 1 := by omega
  have t3 : (jm_s k).1 ≠ 3 := by omega
  intro p e s m args below meth c Z H locs ls C hZ hR hS hl hL hst
  have hi := hst _ (List.mem_cons_of_mem _ List.mem_cons_self)
  have hg := jm_ws_get (E := E) (m := μ) hk
  rw [jm_cell_a t1 t3, x3] at hg
  have hcell : H[jm_b E + k]? = some (arrV (jm_cA E (t - 2)) (jm_s k).2 (fun q : Nat => .int (Int32.ofInt (μ k q)))) := hR.1 k _ hg
  rw [List.map_cons, List.map_cons, List.map_cons, jm_cvR]
  refine hw p e s m args below meth c Z H locs ls (st.map (jm_cv E)) C.1 C.2.1 C.2.2.2.2.2.2.2.1 _ _ (fun q : Nat => Int32.ofInt (μ k q)) (Int32.ofInt j) hcell (jm_vpin hi hj) fun H1 e1 z oq => ?_
  rw [jm_clamp hi] at e1 ⊢
  have ha : jm_A E (jm_b E + k) := Nat.le_add_right _ _
  refine h p e s m args below meth c Z H1 _ ls C hZ (jm_Rel_up hR hk z oq ?_ ?_ (fun _ => jm_frl_arr (by omega))) (hS.put z oq ha) hl hL (jm_tail (jm_tail2 hst))
  · show va_at _ _ (jm_b E + k, jm_cell E (jm_up μ k j v) k) H1
    rw [jm_cell_a t1 t3, x3]
    show H1[jm_b E + k]? = some (vp_cell _ _)
    rw [e1, vp_cell_i, arrV_store]
    congr 2
    funext q
    unfold updV jm_up
    by_cases hq : q = j
    · subst hq; simp
    · have hq2 : ¬ (q : Int) = (j : Int) := by omega
      simp [hq, hq2]
  · unfold jm_okc
    rw [if_neg t1, if_neg t3]
    intro q hq
    unfold jm_up
    by_cases hqj : (q : Int) = (j : Int)
    · rw [if_pos hqj, if_pos rfl]
      exact hv (hst _ List.mem_cons_self)
    · rw [if_neg hqj]
      exact jm_okc_a t1 t3 (hR.2.1 k hk) hq
theorem jm_iastore {a i x : Int} (hd : decode Y.2.1 pc = .ok (.iastore, 1)) (hx : jm_ix n a 2 i) (h : jm_G E Y R n' n cs sl (pc + 1) L st (jm_up μ a i x) Q) : jm_G E Y R n' n cs sl pc L (jm_I x :: jm_I i :: jm_R a :: st) μ Q :=
  jm_ast (Or.inl rfl) hx id h (fun p e s m args below meth c Z H locs ls rest he hb hK ad N f j hc hin w =>
    W.iast he hb hc ((hK.2 0 _ rfl).1 N _) (fun q => by cases q) (by rw [arrV_size]; exact hin) rfl rfl hd w)
theorem jm_bastore {a i x : Int} (hd : decode Y.2.1 pc = .ok (.bastore, 1)) (hx : jm_ix n a 4 i) (h : jm_G E Y R n' n cs sl (pc + 1) L st (jm_up μ a i (jm_i2b x)) Q) : jm_G E Y R n' n cs sl pc L (jm_I x :: jm_I i :: jm_R a :: st) μ Q :=
  jm_ast (Or.inr (Or.inl rfl)) hx (fun _ => jm_ok32 _) h (fun p e s m args below meth c Z H locs ls rest he hb hK ad N f j hc hin w =>
    W.bast he hb hc ((hK.2 2 _ rfl).1 N _) (fun q => by cases q) (by rw [arrV_size]; exact hin) rfl rfl hd (fun H1 e1 => w H1 (by rw [e1, jm_ofToInt]; rfl)))
theorem jm_nz {x : Int} (h : x = 0 ∨ x = 1) : narrow .boolean (.int (Int32.ofInt x)) = .int (Int32.ofInt x) := by
  rcases h with rfl | rfl <;> decide +kernel
theorem jm_fz {x : Int} (h : x = 0 ∨ x = 1) : fits .boolean (.int (Int32.ofInt x)) = true := by
  rcases h with rfl | rfl <;> decide +kernel
theorem jm_lastore {a i x : Int} (hd : decode Y.2.1 pc = .ok (.lastore, 1)) (hx : jm_ix n a 3 i) (h : jm_G E Y R n' n cs sl (pc + 1) L st (jm_up μ a i x) Q) : jm_G E Y R n' n cs sl pc L (jm_L x :: jm_I i :: jm_R a :: st) μ Q := by
  obtain ⟨x1, x2, x3, x4, x5⟩ := hx
  obtain ⟨k, rfl⟩ := jm_nat x1
  obtain ⟨j, rfl⟩ := jm_nat x4
  rw [jm_sk_nat] at x3
  rw [jm_sn_nat] at x5
  have hk : k < n := by omega
  have hj : j < (jm_s k).2 := by omega
  intro p e s m args below meth c Z H locs ls C hZ hR hS hl hL hst
  have hi := hst _ (List.mem_cons_of_mem _ List.mem_cons_self)
  have hg := jm_ws_get (E := E) (m := μ) hk
  rw [jm_cell_l x3] at hg
  have hcell := hR.1 k _ hg
  have hK : va_K (jm_D E) jm_cl (jm_tys E) s := C.2.2.2.2.2.2.2.1
  rw [List.map_cons, List.map_cons, List.map_cons, jm_cvR]
  refine W.last C.1 C.2.1 hcell ((hK.2 1 _ rfl).1 _ _) (fun q => by cases q) (by rw [vp_cell_l, arrV_size]; exact jm_vpin hi hj) rfl rfl hd fun H1 e1 z oq => ?_
  rw [jm_clamp hi] at e1 ⊢
  have ha : jm_A E (jm_b E + k) := Nat.le_add_right _ _
  refine h p e s m args below meth c Z H1 _ ls C hZ (jm_Rel_up hR hk z oq ?_ ?_ (fun _ => jm_frl_arr (by omega))) (hS.put z oq ha) hl hL (jm_tail (jm_tail2 hst))
  · rw [jm_cell_l x3]
    show H1[jm_b E + k]? = some (vp_cell _ _)
    rw [e1, vp_cell_l, vp_cell_l, arrV_store]
    congr 2
    funext q
    unfold updV jm_up
    by_cases hq : q = j
    · subst hq; simp
    · have hq2 : ¬ (q : Int) = (j : Int) := by omega
      simp [hq, hq2]
  · unfold jm_okc
    rw [if_neg (by omega), if_pos x3]
    intro q hq
    unfold jm_up
    by_cases hqj : (q : Int) = (j : Int)
    · rw [if_pos hqj, if_pos rfl]
      exact hst _ List.mem_cons_self
    · rw [if_neg hqj]
      exact jm_okc_l x3 (hR.2.1 k hk) hq
theorem jm_arrlen {a : Int} {t : Nat} (ht : t = 2 ∨ t = 3) (hx : 0 ≤ a ∧ a < n ∧ jm_sk a = t) (hd : decode Y.2.1 pc = .ok (.arraylength, 1)) (hn : jm_sn a < 2147483648) (h : jm_G E Y R n' n cs sl (pc + 1) L (jm_I (jm_sn a) :: st) μ Q) : jm_G E Y R n' n cs sl pc L (jm_R a :: st) μ Q := by
  obtain ⟨x1, x2, x3⟩ := hx
  obtain ⟨k, rfl⟩ := jm_nat x1
  rw [jm_sk_nat] at x3
  have hk : k < n := by omega
  intro p e s m args below meth c Z H locs ls C hZ hR hS hl hL hst
  have hK : va_K (jm_D E) jm_cl (jm_tys E) s := C.2.2.2.2.2.2.2.1
  have hg := jm_ws_get (E := E) (m := μ) hk
  have hz := h p e s m args below meth c Z H locs ls C hZ hR hS hl hL (jm_cons ⟨by omega, by omega⟩ (jm_tail hst))
  rw [List.map_cons] at hz
  rw [List.map_cons, jm_cvR]
  rw [jm_sn_nat] at hz
  rcases ht with rfl | rfl
  · rw [jm_cell_a (by omega) (by omega), x3] at hg
    exact va_alen C.1 C.2.1 hK hR.1 k 0 hg rfl rfl hd hz
  · rw [jm_cell_l x3] at hg
    exact va_alen C.1 C.2.1 hK hR.1 k 1 hg rfl rfl hd hz
end JMH
end
section
/-! fields, new objects and rows, Term's constants, the script, copies of rows -/
section JMF
variable {E : jm_E} {Y : jm_Y} {R : Room} {n' n cs sl pc : Nat} {L : List (Option jm_V)} {st : List jm_V} {μ : jm_M} {Q : Option jm_V → jm_M → Prop}
theorem jm_cell_o {k c : Nat} (h : (jm_s k).1 = 1) (hc : (jm_s k).2 = c) : jm_cell E μ k = .inr (c, (List.range (jm_nf c)).map fun j : Nat => jm_cv E (jm_mk (jm_ft c j) (μ k j))) := by
  subst hc
  unfold jm_cell
  rw [if_pos h]
theorem jm_okc_o {k c j : Nat} (h1 : (jm_s k).1 = 1) (hc : (jm_s k).2 = c) (h : jm_okc μ k) (hj : j < jm_nf c) : jm_ok (jm_mk (jm_ft c j) (μ k j)) := by
  subst hc
  unfold jm_okc at h
  rw [if_pos h1] at h
  exact h j hj
theorem jm_fs_get {k c j : Nat} (hj : j < jm_nf c) : ((List.range (jm_nf c)).map fun j : Nat => jm_cv E (jm_mk (jm_ft c j) (μ k j)))[j]? = some (jm_cv E (jm_mk (jm_ft c j) (μ k j))) := by
  rw [List.getElem?_map, List.getElem?_range hj]
  rfl
theorem jm_getf {C : String} {T : u_T} {N c idx k : Nat} {a : Int} (hin : ∀ w ∈ u_ws C T N, w ∈ jm_tbl) (hc : jm_cl[c]? = some (C, T, N)) (hN : jm_nf c = N) (hk : k < N) (hlink : Cond.fieldLink Y.1.cls idx (T k).1 (T k).2.1 (T k).2.2.1 ∈ jm_tbl) (hd : decode Y.2.1 pc = .ok (.getfield idx, 3))
    (hx : jm_is n a 1 c) (h : jm_G E Y R n' n cs sl (pc + 3) L (jm_mk (jm_ft c k) (μ a k) :: st) μ Q) : jm_G E Y R n' n cs sl pc L (jm_R a :: st) μ Q := by
  obtain ⟨x1, x2, x3, x4⟩ := hx
  obtain ⟨q, rfl⟩ := jm_nat x1
  rw [jm_sk_nat] at x3
  rw [jm_sn_nat] at x4
  have hq : q < n := by omega
  intro p e s m args below meth cc Z H locs ls C hZ hR hS hl hL hst
  have hg := jm_ws_get (E := E) (m := μ) hq
  rw [jm_cell_o x3 x4] at hg
  rw [List.map_cons, jm_cvR]
  refine va_get C.1 C.2.1 C.2.2.2.2.1 hin C.2.2.2.1 C.2.2.2.2.2.2.2.1 hR.1 q hg hc k hk (C.2.2.2.2.1 _ hlink) (fun _ z => z) (jm_fs_get (by omega)) hd ?_
  exact h p e s m args below meth cc Z H locs ls C hZ hR hS hl hL (jm_cons (jm_okc_o x3 x4 (hR.2.1 q hq) (by omega)) (jm_tail hst))
/-- a field is written: what holds of the class -/
theorem jm_putf {C : String} {T : u_T} {N c idx k : Nat} {a x : Int} {v : jm_V} (ty0 : Nat → FieldType) (hin : ∀ w ∈ u_ws C T N, w ∈ jm_tbl) (hty : ∀ k, k < N → parseFieldDescriptor (T k).2.2.1 = some (ty0 k)) (hnm : ∀ a, a < N → ∀ b, b < N → a ≠ b → (T a).2.1 ≠ (T b).2.1) (hc : jm_cl[c]? = some (C, T, N)) (hN : jm_nf c = N) (hk : k < N)
    (hlink : Cond.fieldLink Y.1.cls idx (T k).1 (T k).2.1 (T k).2.2.1 ∈ jm_tbl) (hfin : (T k).2.2.2 = true → Y.1.name = "<init>" ∧ (T k).1 = Y.1.cls) (hd : decode Y.2.1 pc = .ok (.putfield idx, 3)) (hv : v = jm_mk (jm_ft c k) x) (hn : narrow (ty0 k) (jm_cv E v) = jm_cv E v) (hf : fits (ty0 k) (jm_cv E v) = true)
    (hwf : n = jm_N → jm_fin c k = false) (hx : jm_is n a 1 c) (h : jm_G E Y R n' n cs sl (pc + 3) L st (jm_up μ a k x) Q) : jm_G E Y R n' n cs sl pc L (v :: jm_R a :: st) μ Q := by
  obtain ⟨x1, x2, x3, x4⟩ := hx
  obtain ⟨q, rfl⟩ := jm_nat x1
  rw [jm_sk_nat] at x3
  rw [jm_sn_nat] at x4
  have hq : q < n := by omega
  subst hv
  intro p e s m args below meth cc Z H locs ls X hZ hR hS hl hL hst
  have hts := X.2.2.2.2.1
  have hown := X.2.2.2.1
  have hK : va_K (jm_D E) jm_cl (jm_tys E) s := X.2.2.2.2.2.2.2.1
  have hg := jm_ws_get (E := E) (m := μ) hq
  rw [jm_cell_o x3 x4] at hg
  have hap := va_apart (own := C) hts hin ty0 hty hnm hK hc
  obtain ⟨r, h1, cell, q1, q2, q3, q4⟩ := hR.1 q _ hg
  have hr : r = (C, T, N) := Option.some.inj (h1.symm.trans hc)
  subst hr
  obtain ⟨hSl, hfc, kC, hkC, hkind⟩ := hK.1 c _ hc
  obtain ⟨cf, kf, fi, f, hi, hsl⟩ := hSl k hk
  have hst0 := (u_facts hfc hkC (u_lays hts hin hk) hi).1
  rw [List.map_cons, List.map_cons, jm_cvR]
  have fin : ∀ (H1 : Heap), H1[jm_b E + q]? = some (cell.setSlot f.slot (jm_cv E (jm_mk (jm_ft c k) x))) → H1.size = H.size → (∀ z : Nat, z ≠ jm_b E + q → H1[z]? = H[z]?) →
      W p (jm_l E) e R s m args below meth cc H1 (locs ++ [⟨jm_b E + q, f.slot⟩]) cs sl Z (F0 m (pc + 3) ls (st.map (jm_cv E))) := by
    intro H1 e1 e2 e3
    have ha : jm_A E (jm_b E + q) := Nat.le_add_right _ _
    refine h p e s m args below meth cc Z H1 _ ls X hZ (jm_Rel_up hR hq e2 e3 ?_ ?_ (fun z => jm_frl_fld x4 (hwf z))) (hS.put e2 e3 ha) hl hL (jm_tail2 hst)
    · rw [jm_cell_o x3 x4]
      rw [hsl] at e1
      have hlen : k < ((List.range (jm_nf c)).map fun j : Nat => jm_cv E (jm_mk (jm_ft c j) (μ q j))).length := by
        rw [List.length_map, List.length_range]; omega
      refine ⟨_, hc, t_OB.to (V := updV (vp_V ((List.range (jm_nf c)).map fun j : Nat => jm_cv E (jm_mk (jm_ft c j) (μ q j)))) k (jm_cv E (jm_mk (jm_ft c k) x))) ⟨_, e1, q2, q3, t_set q4 hap hk _⟩ (fun j hj => ?_)⟩
      have hj2 : j < jm_nf c := by
        have : j < N := hj
        omega
      have r1 : vp_V ((List.range (jm_nf c)).map fun j : Nat => jm_cv E (jm_mk (jm_ft c j) (jm_up μ q k x q j))) j = jm_cv E (jm_mk (jm_ft c j) (jm_up μ q k x q j)) := by
        unfold vp_V
        rw [List.getD_eq_getElem?_getD, jm_fs_get hj2]
        rfl
      have r2 : vp_V ((List.range (jm_nf c)).map fun j : Nat => jm_cv E (jm_mk (jm_ft c j) (μ q j))) j = jm_cv E (jm_mk (jm_ft c j) (μ q j)) := by
        unfold vp_V
        rw [List.getD_eq_getElem?_getD, jm_fs_get hj2]
        rfl
      show updV _ k _ j = vp_V _ j
      rw [r1]
      unfold updV jm_up
      by_cases hjk : j = k
      · subst hjk; simp
      · have hz : ¬ (j : Int) = (k : Int) := by omega
        simp only [hjk, hz, if_false]
        exact r2
    · unfold jm_okc
      rw [if_pos x3, x4]
      intro j hj
      unfold jm_up
      by_cases hjk : (j : Int) = (k : Int)
      · have : j = k := by omega
        subst this
        rw [if_pos rfl, if_pos rfl]
        exact hst _ List.mem_cons_self
      · rw [if_neg hjk]
        exact jm_okc_o x3 x4 (hR.2.1 q hq) hj
  have hlay := hts _ (hin _ (u_in_lay hk))
  unfold u_lay at hlay
  have hl2 := hts _ hlink
  by_cases hfi : (T k).2.2.2 = true
  · rw [if_pos hfi] at hlay
    obtain ⟨f1, f2⟩ := hfin hfi
    have hcf : m.cls = cf := by
      obtain ⟨_, _, c', _, _, _, -, -, hf', -, -, -, hown2, -⟩ := Cond.laysFinal_spec hlay
      have e1 : c' = cf := by have := hi.symm.trans hf'; simp at this; exact this.1.symm
      rw [f2] at hown2
      rw [← e1]; exact Option.some.inj (hown.symm.trans hown2)
    have h6 := u_fits hfc hkC hkind (Or.inr hlay) hi (hty k hk) hn hf
    exact W.putFinK X.1 X.2.1 hown hl2 hi hst0 hcf (X.2.2.2.2.2.2.1.trans f1) (by rw [q2]; exact h6) q1 q3 (by rw [hsl]; exact k2_hasslot (q4 k hk)) rfl rfl hd fin
  · rw [if_neg hfi] at hlay
    have h6 := u_store hfc hkC hkind hlay hi (hty k hk) hn hf
    exact W.putK X.1 X.2.1 (f := f) ⟨hown, hl2, ⟨_, _, _, hi⟩, hst0⟩ (by rw [q2]; exact h6) q1 q3 (by rw [hsl]; exact k2_hasslot (q4 k hk)) rfl rfl hd fin
/-- what a new place holds -/
def jm_z (t : Nat) : Int := if t = 2 then -1 else 0
def jm_new (μ : jm_M) (n : Nat) : jm_M := fun q j => if q = (n : Int) then (if (jm_s n).1 = 1 then jm_z (jm_ft (jm_s n).2 j.toNat) else 0) else μ q j
theorem jm_new_ne {k : Nat} (h : k ≠ n) : jm_new μ n (k : Int) = μ k := by
  funext j
  unfold jm_new
  rw [if_neg (by omega)]
theorem jm_ws_push : jm_ws E (n + 1) (jm_new μ n) = jm_ws E n μ ++ [(jm_b E + n, jm_cell E (jm_new μ n) n)] := by
  unfold jm_ws
  rw [List.range_succ, List.map_append]
  congr 1
  apply List.map_congr_left
  intro k hk
  have h : k ≠ n := by have := List.mem_range.mp hk; omega
  have e : jm_new μ n (k : Int) = μ k := jm_new_ne h
  unfold jm_cell
  rw [e]
theorem jm_Rel_new {H H1 : Heap} (hR : jm_Rel E n μ H) (hn : n < jm_N) (z1 : H1.size = H.size + 1) (o1 : ∀ q : Nat, q < H.size → H1[q]? = H[q]?) (hc : va_at (jm_D E) jm_cl (jm_b E + n, jm_cell E (jm_new μ n) n) H1) (ho : jm_okc (jm_new μ n) n) (hw : n + 1 = jm_N → jm_WF (jm_new μ n)) : jm_Rel E (n + 1) (jm_new μ n) H1 := by
  obtain ⟨hP, hO, h1, h2, h3, h4⟩ := hR
  have hz := (h3 hn).1
  refine ⟨?_, fun j hj => ?_, hn, by omega, fun _ => ⟨by omega, (h3 hn).2⟩, fun z => ⟨hw z, Or.inl (h3 hn).2⟩⟩
  · rw [jm_ws_push]
    refine (hP.kept fun k x hx => o1 x.1 ((hP k x hx).lt)).app fun k x hx => ?_
    have hk0 : k < 1 := (List.getElem?_eq_some_iff.mp hx).1
    rw [show k = 0 by omega] at hx
    cases hx
    exact hc
  · by_cases e : j = n
    · subst e; exact ho
    · have h4 := hO j (by omega)
      have e2 : jm_new μ n (j : Int) = μ j := jm_new_ne e
      unfold jm_okc at h4 ⊢
      rw [e2]
      exact h4
theorem jm_newo {C : String} {T : u_T} {N c idx : Nat} (ty0 : Nat → FieldType) (hin : ∀ w ∈ u_ws C T N, w ∈ jm_tbl) (hty : ∀ k, k < N → parseFieldDescriptor (T k).2.2.1 = some (ty0 k)) (hc : jm_cl[c]? = some (C, T, N)) (hN : jm_nf c = N) (hz0 : ∀ k, k < N → defaultValue (ty0 k) = jm_cv E (jm_mk (jm_ft c k) (jm_z (jm_ft c k))))
    (hcl : Cond.classLink Y.1.cls idx C ∈ jm_tbl) (hinst : Cond.instantiable C N ∈ jm_tbl) (hini : Cond.initialized C ∈ jm_tbl) (hd : decode Y.2.1 pc = .ok (.new idx, 3)) (hs : jm_s n = (1, c)) (hn : n < jm_N) (hcells : cs + 1 ≤ R.cells) (hslots : sl + N ≤ R.slots) (hwf : n + 1 = jm_N → jm_WF (jm_new μ n))
    (h : jm_G E Y R n' (n + 1) (cs + 1) (sl + N) (pc + 3) L (jm_R n :: st) (jm_new μ n) Q) : jm_G E Y R n' n cs sl pc L st μ Q := by
  intro p e s m args below meth cc Z H locs ls X hZ hR hS hl hL hst
  have hts := X.2.2.2.2.1
  have hK : va_K (jm_D E) jm_cl (jm_tys E) s := X.2.2.2.2.2.2.2.1
  have hKn := hK.1 c _ hc
  have hsz := (hR.2.2.2.2.1 hn).1
  refine W.newcK X.1 X.2.1 X.2.2.2.1 (hts _ hcl) (hts _ hinst) (hts _ hini) rfl hd hcells hslots hKn.2.1 hsz fun H1 kC hkC e1 z1 o1 => ?_
  rw [← jm_cvR]
  refine h p e s m args below meth cc Z H1 locs ls X hZ (jm_Rel_new hR hn (by omega) (fun q hq => o1 q (by omega)) ?_ ?_ hwf) ⟨by have := hS.1; omega, fun x h1 h2 => (o1 x (by have := hS.1; omega)).trans (hS.2.1 x h1 h2), hS.2.2⟩ hl hL (jm_cons trivial hst)
  · rw [jm_cell_o (c := c) (by rw [hs]) (by rw [hs])]
    refine ⟨_, hc, (u_born ty0 hts hin hKn hkC e1 hty).to (fun j hj => ?_)⟩
    have hj2 : j < jm_nf c := by have : j < N := hj; omega
    have r1 : vp_V ((List.range (jm_nf c)).map fun j : Nat => jm_cv E (jm_mk (jm_ft c j) (jm_new μ n n j))) j = jm_cv E (jm_mk (jm_ft c j) (jm_new μ n n j)) := by
      unfold vp_V
      rw [List.getD_eq_getElem?_getD, jm_fs_get hj2]
      rfl
    show defaultValue (ty0 j) = vp_V _ j
    rw [r1, hz0 j hj]
    unfold jm_new
    rw [if_pos rfl, hs, if_pos rfl]
    rfl
  · unfold jm_okc
    rw [if_pos (by rw [hs])]
    intro j hj
    unfold jm_new
    rw [if_pos rfl, if_pos (by rw [hs])]
    show jm_ok (jm_mk (jm_ft (jm_s n).2 j) (jm_z (jm_ft (jm_s n).2 j)))
    unfold jm_mk jm_z
    split
    · rename_i h0; rw [if_neg (by omega)]; exact ⟨by omega, by omega⟩
    · split
      · rename_i h0; rw [if_neg (by omega)]; exact ⟨by omega, by omega⟩
      · exact trivial
/-- a new row of numbers -/
theorem jm_newa {t N : Nat} {at0 : ArrayType} {ty : FieldType} {k : Int} (hty : newarray.typeOf at0 = ty) (ht : (t = 2 ∧ ty = .int) ∨ (t = 3 ∧ ty = .long) ∨ (t = 4 ∧ ty = .byte)) (harr : Cond.arrayClass ty ∈ jm_tbl) (hd : decode Y.2.1 pc = .ok (.newarray at0, 2)) (hs : jm_s n = (t, N)) (hn : n < jm_N) (hk : k = N) (hN : N < 65536) (hcells : cs + 1 ≤ R.cells) (hslots : sl + N ≤ R.slots) (hwf : n + 1 = jm_N → jm_WF (jm_new μ n))
    (h : jm_G E Y R n' (n + 1) (cs + 1) (sl + N) (pc + 2) L (jm_R n :: st) (jm_new μ n) Q) : jm_G E Y R n' n cs sl pc L (jm_I k :: st) μ Q := by
  intro p e s m args below meth cc Z H locs ls X hZ hR hS hl hL hst
  have hts := X.2.2.2.2.1
  have hK : va_K (jm_D E) jm_cl (jm_tys E) s := X.2.2.2.2.2.2.2.1
  have hsz := (hR.2.2.2.2.1 hn).1
  have hko : jm_ok (jm_I (N : Int)) := ⟨by omega, by omega⟩
  subst hk
  subst hty
  have hby : N * componentBytes (newarray.typeOf at0) ≤ 536870912 := by
    have : componentBytes (newarray.typeOf at0) ≤ 8 := by
      rcases ht with ⟨-, q⟩ | ⟨-, q⟩ | ⟨-, q⟩ <;> (rw [q]; decide +kernel)
    have := Nat.mul_le_mul_left N this
    omega
  refine va_newaK X.1 X.2.1 (hts _ harr) rfl hd rfl (n := Int32.ofInt (N : Int)) (N := N) (fun z => by have := (jm_lt32 hko jm_0ok).mp z; omega) (jm_clamp hko) hby hcells hslots hsz fun H1 cA e1 z1 o1 hAr hNm => ?_
  rw [← jm_cvR]
  have hcA : cA = jm_cA E (if t = 3 then 1 else t - 2) := by
    have key : ∀ (i : Nat) (ty : FieldType), (jm_tys E)[i]? = some (jm_cA E i, ty) → ty = newarray.typeOf at0 → (∀ C, ty ≠ .object C) → cA = jm_cA E i := by
      intro i ty h1 h2 h3
      have h4 := (hK.2 i _ h1).2
      have h5 : s.vm.findClass ("[" ++ ty.toString) = some (jm_cA E i) := by
        cases ty with
        | object C => exact absurd rfl (h3 C)
        | _ => exact h4
      rw [h2] at h5
      exact Option.some.inj (hNm.symm.trans h5)
    rcases ht with ⟨rfl, q⟩ | ⟨rfl, q⟩ | ⟨rfl, q⟩
    · exact key 0 .int rfl q.symm (fun C z => by cases z)
    · exact key 1 .long rfl q.symm (fun C z => by cases z)
    · exact key 2 .byte rfl q.symm (fun C z => by cases z)
  refine h p e s m args below meth cc Z H1 locs ls X hZ (jm_Rel_new hR hn (by omega) (fun q hq => o1 q (by omega)) ?_ ?_ hwf) ⟨by have := hS.1; omega, fun x h1 h2 => (o1 x (by have := hS.1; omega)).trans (hS.2.1 x h1 h2), hS.2.2⟩ hl hL (jm_cons trivial (jm_tail hst))
  · by_cases h3 : t = 3
    · rw [jm_cell_l (by rw [hs]; exact h3)]
      show H1[jm_b E + n]? = some (vp_cell _ _)
      rw [e1, vp_cell_l, hcA, if_pos h3]
      rw [hs]
      rcases ht with ⟨q, -⟩ | ⟨-, q⟩ | ⟨q, -⟩ <;> try omega
      rw [q]
      congr 2
      funext j
      unfold jm_new
      rw [if_pos rfl, hs, if_neg (by omega)]
      rfl
    · have t1 : (jm_s n).1 ≠ 1 := by rw [hs]; show t ≠ 1; omega
      have t3 : (jm_s n).1 ≠ 3 := by rw [hs]; exact h3
      rw [jm_cell_a t1 t3]
      show H1[jm_b E + n]? = some (vp_cell _ _)
      rw [e1, vp_cell_i, hcA, if_neg h3]
      rw [hs]
      have hdv : defaultValue (newarray.typeOf at0) = .int 0 := by
        rcases ht with ⟨-, q⟩ | ⟨q, -⟩ | ⟨-, q⟩ <;> first | omega | (rw [q]; rfl)
      rw [hdv]
      congr 2
      funext j
      unfold jm_new
      rw [if_pos rfl, if_neg t1]
      rfl
  · unfold jm_okc
    have t1 : (jm_s n).1 ≠ 1 := by rw [hs]; show t ≠ 1; omega
    have e0 : ∀ j : Nat, jm_new μ n n j = 0 := by
      intro j
      unfold jm_new
      rw [if_pos rfl, if_neg t1]
    rw [if_neg t1]
    split <;> intro j hj <;> rw [e0] <;> exact ⟨by omega, by omega⟩
end JMF
end
section
/-! Term's constants, the script, copies of rows; calls and returns -/
def jm_le (a : Int) : Int := jm_tle.getD (-11 - a).toNat 0
def jm_do (a : Int) : Int := jm_td.getD (-11 - a).toNat 0
def jm_cpy (μ : jm_M) (src sp dst dp k : Int) : jm_M := fun q j => if q = dst ∧ dp ≤ j ∧ j < dp + k then μ src (sp + (j - dp)) else μ q j
def jm_rm (d mc ms : Nat) : Room := { frames := d, cells := mc, slots := ms, locals := 44 * d }
section JMC
variable {E : jm_E} {Y : jm_Y} {R : Room} {n' n cs sl pc : Nat} {L : List (Option jm_V)} {st : List jm_V} {μ : jm_M} {Q : Option jm_V → jm_M → Prop}
theorem jm_cvT {i : Nat} (hi : i < 26) : jm_cv E (jm_R (-11 - (i : Int))) = .ref (jm_aT E i) := by
  show (if (-11 - (i : Int)) = -1 then Value.null else Value.ref (jm_ad E (-11 - (i : Int)))) = _
  rw [if_neg (by omega)]
  unfold jm_ad
  rw [if_neg (by omega), if_neg (by omega), if_neg (by omega), if_neg (by omega), if_neg (by omega)]
  congr 2
  omega
theorem jm_getT {i idx : Nat} {nm : String} {a : Int} (hi : i < 26) (ha : a = -11 - (i : Int)) (hnm : jm_tn.getD i "" = nm) (hlink : Cond.fieldLink Y.1.cls idx "CombTable$Term" nm "LCombTable$Term;" ∈ jm_tbl) (hd : decode Y.2.1 pc = .ok (.getstatic idx, 3)) (h : jm_G E Y R n' n cs sl (pc + 3) L (jm_R a :: st) μ Q) : jm_G E Y R n' n cs sl pc L st μ Q := by
  subst ha
  intro p e s m args below meth c Z H locs ls C hZ hR hS hl hL hst
  have hX : jm_X0 E s s.heap := C.2.2.2.2.2.2.2.2.1.1
  have hz := (hX.1 i hi).1
  rw [hnm] at hz
  refine va_gets C.1 C.2.1 hz hS C.2.2.2.1 (C.2.2.2.2.1 _ hlink) (fun _ z => z) hd ?_
  rw [← jm_cvT (E := E) hi]
  exact h p e s m args below meth c Z H locs ls C hZ hR hS hl hL (jm_cons trivial hst)
theorem jm_cvTS : jm_cv E (jm_R (-3)) = .ref (jm_ts E) := by
  show (if (-3 : Int) = -1 then Value.null else Value.ref (jm_ad E (-3))) = _
  rw [if_neg (by omega)]
  unfold jm_ad
  rw [if_neg (by omega), if_neg (by omega), if_pos rfl]
theorem jm_getTS {idx : Nat} (hlink : Cond.fieldLink Y.1.cls idx "CombTable$Tape" "TERMS" "[LCombTable$Term;" ∈ jm_tbl) (hd : decode Y.2.1 pc = .ok (.getstatic idx, 3)) (h : jm_G E Y R n' n cs sl (pc + 3) L (jm_R (-3) :: st) μ Q) : jm_G E Y R n' n cs sl pc L st μ Q := by
  intro p e s m args below meth c Z H locs ls C hZ hR hS hl hL hst
  have hX : jm_X0 E s s.heap := C.2.2.2.2.2.2.2.2.1.1
  refine va_gets C.1 C.2.1 hX.2.2.1 hS C.2.2.2.1 (C.2.2.2.2.1 _ hlink) (fun _ z => z) hd ?_
  rw [← jm_cvTS (E := E)]
  exact h p e s m args below meth c Z H locs ls C hZ hR hS hl hL (jm_cons trivial hst)
theorem jm_TSlen (hd : decode Y.2.1 pc = .ok (.arraylength, 1)) (h : jm_G E Y R n' n cs sl (pc + 1) L (jm_I 26 :: st) μ Q) : jm_G E Y R n' n cs sl pc L (jm_R (-3) :: st) μ Q := by
  intro p e s m args below meth c Z H locs ls C hZ hR hS hl hL hst
  have hX : jm_X0 E s s.heap := C.2.2.2.2.2.2.2.2.1.1
  rw [List.map_cons, jm_cvTS]
  exact va_tlen C.1 C.2.1 hX.2.2.2.1 hS (v := Int32.ofInt 26) rfl hd (h p e s m args below meth c Z H locs ls C hZ hR hS hl hL (jm_cons ⟨by omega, by omega⟩ (jm_tail hst)))
theorem jm_TSld {i : Int} (hd : decode Y.2.1 pc = .ok (.aaload, 1)) (h0 : 0 ≤ i) (h1 : i < 26) (h : jm_G E Y R n' n cs sl (pc + 1) L (jm_R (-11 - i) :: st) μ Q) : jm_G E Y R n' n cs sl pc L (jm_I i :: jm_R (-3) :: st) μ Q := by
  obtain ⟨j, rfl⟩ := jm_nat h0
  intro p e s m args below meth c Z H locs ls C hZ hR hS hl hL hst
  have hX : jm_X0 E s s.heap := C.2.2.2.2.2.2.2.2.1.1
  have hi := hst _ List.mem_cons_self
  rw [List.map_cons, List.map_cons, jm_cvTS]
  refine vb_tq C.1 C.2.1 hX.2.2.2.1 hS (i := Int32.ofInt j) (v := .ref (jm_aT E j)) (jm_vpin hi (by omega)) (by rw [jm_clamp hi]) hd ?_
  rw [← jm_cvT (E := E) (show j < 26 by omega)]
  exact h p e s m args below meth c Z H locs ls C hZ hR hS hl hL (jm_cons trivial (jm_tail2 hst))
theorem jm_it_nat {a : Int} (ha : jm_it a) : ∃ i : Nat, i < 26 ∧ a = -11 - (i : Int) ∧ (-11 - a).toNat = i := ⟨(-11 - a).toNat, by unfold jm_it at ha; omega, by unfold jm_it at ha; omega, rfl⟩
theorem jm_tdr : ∀ i : Nat, i < 26 → jm_ok (jm_I (jm_td.getD i 0)) := by
  have h : ∀ i : Fin 26, (-2147483648 ≤ jm_td.getD i.1 0 ∧ jm_td.getD i.1 0 < 2147483648) := by decide +kernel
  exact fun i hi => h ⟨i, hi⟩
theorem jm_tler : ∀ i : Nat, i < 26 → jm_ok (jm_L (jm_tle.getD i 0)) := by
  have h : ∀ i : Fin 26, (-9223372036854775808 ≤ jm_tle.getD i.1 0 ∧ jm_tle.getD i.1 0 < 9223372036854775808) := by decide +kernel
  exact fun i hi => h ⟨i, hi⟩
theorem jm_getTl {idx : Nat} {a : Int} (ha : jm_it a) (hlink : Cond.fieldLink Y.1.cls idx "CombTable$Term" "letters" "J" ∈ jm_tbl) (hd : decode Y.2.1 pc = .ok (.getfield idx, 3)) (h : jm_G E Y R n' n cs sl (pc + 3) L (jm_L (jm_le a) :: st) μ Q) : jm_G E Y R n' n cs sl pc L (jm_R a :: st) μ Q := by
  obtain ⟨i, hi, rfl, e⟩ := jm_it_nat ha
  intro p e s m args below meth c Z H locs ls C hZ hR hS hl hL hst
  have hX : jm_X0 E s s.heap := C.2.2.2.2.2.2.2.2.1.1
  obtain ⟨cf, k, fi, f, cell, h1, h2, h3, h4, h5, h6⟩ := ((hX.1 i hi).2.1).kept hS.2.1
  rw [List.map_cons, jm_cvT hi]
  refine W.getf C.1 C.2.1 C.2.2.2.1 (C.2.2.2.2.1 _ hlink) h1 h2 h3 h4 h5 rfl rfl hd ?_
  have := h p e s m args below meth c Z H locs ls C hZ hR hS hl hL (jm_cons (by unfold jm_le; rename_i e0; rw [e0]; exact jm_tler i hi) (jm_tail hst))
  unfold jm_le at this
  rename_i e0
  rw [e0] at this
  exact this
theorem jm_getTd {idx : Nat} {a : Int} (ha : jm_it a) (hlink : Cond.fieldLink Y.1.cls idx "CombTable$Term" "does" "I" ∈ jm_tbl) (hd : decode Y.2.1 pc = .ok (.getfield idx, 3)) (h : jm_G E Y R n' n cs sl (pc + 3) L (jm_I (jm_do a) :: st) μ Q) : jm_G E Y R n' n cs sl pc L (jm_R a :: st) μ Q := by
  obtain ⟨i, hi, rfl, e⟩ := jm_it_nat ha
  intro p e s m args below meth c Z H locs ls C hZ hR hS hl hL hst
  have hX : jm_X0 E s s.heap := C.2.2.2.2.2.2.2.2.1.1
  obtain ⟨cf, k, fi, f, cell, h1, h2, h3, h4, h5, h6⟩ := ((hX.1 i hi).2.2).kept hS.2.1
  rw [List.map_cons, jm_cvT hi]
  refine W.getf C.1 C.2.1 C.2.2.2.1 (C.2.2.2.2.1 _ hlink) h1 h2 h3 h4 h5 rfl rfl hd ?_
  have := h p e s m args below meth c Z H locs ls C hZ hR hS hl hL (jm_cons (by unfold jm_do; rename_i e0; rw [e0]; exact jm_tdr i hi) (jm_tail hst))
  unfold jm_do at this
  rename_i e0
  rw [e0] at this
  exact this
/-! the script -/
theorem jm_cvS : jm_cv E (jm_R (-2)) = .ref (jm_sc E) := by
  show (if (-2 : Int) = -1 then Value.null else Value.ref (jm_ad E (-2))) = _
  rw [if_neg (by omega)]
  unfold jm_ad
  rw [if_neg (by omega), if_pos rfl]
theorem jm_slen (hL0 : jm_sL E < 2147483648) (hd : decode Y.2.1 pc = .ok (.arraylength, 1)) (h : jm_G E Y R n' n cs sl (pc + 1) L (jm_I (jm_sL E) :: st) μ Q) : jm_G E Y R n' n cs sl pc L (jm_R (-2) :: st) μ Q := by
  intro p e s m args below meth c Z H locs ls C hZ hR hS hl hL hst
  have hX : jm_X0 E s s.heap := C.2.2.2.2.2.2.2.2.1.1
  have hb : jm_b E ≤ s.heap.size := C.2.2.2.2.2.2.2.2.2
  rw [List.map_cons, jm_cvS]
  exact va_slen C.1 C.2.1 hX.2.2.2.2.1 (Nat.lt_of_lt_of_le hX.2.2.2.2.2 hb) (Nat.not_le.mpr hX.2.2.2.2.2) hS hd (h p e s m args below meth c Z H locs ls C hZ hR hS hl hL (jm_cons ⟨by omega, by omega⟩ (jm_tail hst)))
theorem jm_sld {i : Int} (hd : decode Y.2.1 pc = .ok (.iaload, 1)) (h0 : 0 ≤ i) (h1 : i < jm_sL E) (h : jm_G E Y R n' n cs sl (pc + 1) L (jm_I (jm_sx E i.toNat).toInt :: st) μ Q) : jm_G E Y R n' n cs sl pc L (jm_I i :: jm_R (-2) :: st) μ Q := by
  obtain ⟨j, rfl⟩ := jm_nat h0
  intro p e s m args below meth c Z H locs ls C hZ hR hS hl hL hst
  have hX : jm_X0 E s s.heap := C.2.2.2.2.2.2.2.2.1.1
  have hb : jm_b E ≤ s.heap.size := C.2.2.2.2.2.2.2.2.2
  have hi := hst _ List.mem_cons_self
  rw [List.map_cons, List.map_cons, jm_cvS]
  refine va_sld C.1 C.2.1 hX.2.2.2.2.1 (Nat.lt_of_lt_of_le hX.2.2.2.2.2 hb) (Nat.not_le.mpr hX.2.2.2.2.2) hS (i := Int32.ofInt j) (jm_vpin hi (by omega)) hd ?_
  rw [jm_clamp hi]
  have := h p e s m args below meth c Z H locs ls C hZ hR hS hl hL (jm_cons (jm_ok32 _) (jm_tail2 hst))
  rw [List.map_cons] at this
  have e1 : jm_cv E (jm_I (jm_sx E (j : Int).toNat).toInt) = .int (jm_sx E j) := by
    show Value.int (Int32.ofInt _) = _
    rw [jm_ofToInt]
    rfl
  rw [e1] at this
  exact this
/-! copies of rows -/
theorem jm_cpy_ne {src sp dst dp k q : Int} (h : q ≠ dst) : jm_cpy μ src sp dst dp k q = μ q := by
  funext j
  unfold jm_cpy
  rw [if_neg (fun z => h z.1)]
/-- the row of cells beside the places -/
def jm_xl (E : jm_E) (f : Nat → Int32) : va_W := if jm_xp E = 0 then [] else [(jm_b E + jm_xp E, .inl (jm_cA E 0, 60, .inl f))]
theorem jm_xl_of {H : Heap} (h : jm_xr E H) (hn : n ≤ jm_N) : ∃ f : Nat → Int32, va_P (jm_D E) jm_cl (jm_xl E f) H ∧ va_D (jm_A E) (jm_ws E n μ ++ jm_xl E f) := by
  have key : ∀ (X : va_W), (X = [] ∨ ∃ (x : Nat) (e : va_E), jm_N ≤ x ∧ X = [(jm_b E + x, e)]) → va_D (jm_A E) (jm_ws E n μ ++ X) := by
    intro X hX
    have k1 : ∀ (k : Nat) (q : Nat × va_E), (jm_ws E n μ ++ X)[k]? = some q → (k < n ∧ q.1 = jm_b E + k) ∨ (k = n ∧ jm_b E + jm_N ≤ q.1) := by
      intro k q hk
      by_cases hkn : k < n
      · rw [List.getElem?_append_left (by rw [jm_ws_len]; exact hkn), jm_ws_get hkn] at hk
        cases hk
        exact Or.inl ⟨hkn, rfl⟩
      · rw [List.getElem?_append_right (by rw [jm_ws_len]; omega), jm_ws_len] at hk
        rcases hX with rfl | ⟨x, e, hx, rfl⟩
        · simp at hk
        · by_cases h0 : k - n = 0
          · rw [h0] at hk
            cases hk
            exact Or.inr ⟨by omega, Nat.add_le_add_left hx _⟩
          · have := (List.getElem?_eq_some_iff.mp hk).1
            simp at this
            omega
    refine ⟨fun i j p q hi hj hpq => ?_, fun k q hk => ?_⟩
    · have h1 := k1 i p hi
      have h2 := k1 j q hj
      omega
    · have h1 := k1 k q hk
      show jm_b E ≤ q.1
      omega
  rcases h with h | ⟨h1, f, h2⟩
  · refine ⟨fun _ => 0, ?_, key _ (Or.inl (by unfold jm_xl; rw [if_pos h]))⟩
    unfold jm_xl
    rw [if_pos h]
    intro k q hk
    simp at hk
  · have h0 : jm_xp E ≠ 0 := fun z => absurd (z ▸ h1 : jm_N ≤ 0) (by decide)
    refine ⟨f, ?_, key _ (Or.inr ⟨_, _, h1, by unfold jm_xl; rw [if_neg h0]⟩)⟩
    unfold jm_xl
    rw [if_neg h0]
    intro k q hk
    have hk0 : k < 1 := (List.getElem?_eq_some_iff.mp hk).1
    rw [show k = 0 by omega] at hk
    cases hk
    exact h2
theorem jm_xl_back {H1 : Heap} {f : Nat → Int32} {H : Heap} (h0 : jm_xr E H) (h : va_P (jm_D E) jm_cl (jm_xl E f) H1) : jm_xr E H1 := by
  rcases h0 with h1 | ⟨h1, -, -⟩
  · exact Or.inl h1
  · have h2 : jm_xp E ≠ 0 := fun z => absurd (z ▸ h1 : jm_N ≤ 0) (by decide)
    refine Or.inr ⟨h1, f, h 0 _ ?_⟩
    unfold jm_xl
    rw [if_neg h2]
    rfl
theorem jm_P_left {w1 w2 : va_W} {H : Heap} (h : va_P (jm_D E) jm_cl (w1 ++ w2) H) : va_P (jm_D E) jm_cl w1 H ∧ va_P (jm_D E) jm_cl w2 H := by
  refine ⟨fun k q hk => h k q ?_, fun k q hk => h (w1.length + k) q ?_⟩
  · rw [List.getElem?_append_left (List.getElem?_eq_some_iff.mp hk).1]
    exact hk
  · rw [List.getElem?_append_right (Nat.le_add_right _ _), Nat.add_sub_cancel_left]
    exact hk
theorem jm_Rel_cpy {H1 : Heap} {d : Nat} {e : va_E} {μ' : jm_M} (hn : n = jm_N) (hd : d < n) (hd1 : (jm_s d).1 ≠ 1) (hxr : jm_xr E H1) (hW : jm_WF μ) (hO : ∀ k : Nat, k < n → jm_okc μ k) (hne : ∀ j : Nat, j ≠ d → μ' (j : Int) = μ j) (he : jm_cell E μ' d = e) (ho : jm_okc μ' d) (hP : va_P (jm_D E) jm_cl ((jm_ws E n μ).set d (jm_b E + d, e)) H1) : jm_Rel E n μ' H1 := by
  have hw : (jm_ws E n μ).set d (jm_b E + d, e) = jm_ws E n μ' := jm_ws_set hd he (fun j hj => by unfold jm_cell; rw [hne j hj])
  rw [hw] at hP
  refine ⟨hP, fun j hj => ?_, by omega, ?_, fun z => absurd z (by omega), fun _ => ⟨fun q hq => ?_, hxr⟩⟩
  · by_cases e2 : j = d
    · subst e2; exact ho
    · have h4 := hO j hj
      unfold jm_okc at h4 ⊢
      rw [hne j e2]
      exact h4
  · have h0 : 0 < n := by rw [hn]; decide
    have h1 := (hP (n - 1) _ (jm_ws_get (show n - 1 < n by omega))).lt
    have h2 : jm_b E + (n - 1) < H1.size := h1
    omega
  · have h5 := jm_frl_ok q hq
    have h6 : q.1 = ((q.1.toNat : Nat) : Int) := by omega
    have h7 : q.1.toNat ≠ d := fun z => hd1 (by rw [← z]; exact h5.2.2.1)
    have h8 := hne _ h7
    rw [← h6] at h8
    rw [h8]
    exact hW q hq
theorem jm_nfw : nativeFrameWords "java/lang/System" "arraycopy" 5 + 11 ≤ 36 := by decide +kernel
theorem jm_acopy {idx : Nat} {src dst k : Int} (hn : n = jm_N) (hml : 36 ≤ R.locals ∧ 1 ≤ R.frames) (hst0 : st = []) (hlink : Cond.methodLink Y.1.cls idx arraycopyName ∈ jm_tbl) (hnat : Cond.native arraycopyName ∈ jm_tbl) (hstat : Cond.static arraycopyName ∈ jm_tbl) (hini : Cond.initialized "java/lang/System" ∈ jm_tbl) (hd : decode Y.2.1 pc = .ok (.invokestatic idx, 3))
    (h0 : 0 ≤ k) (hx : 0 ≤ src ∧ src < n ∧ jm_sk src = 2 ∧ k ≤ jm_sn src) (hy : 0 ≤ dst ∧ dst < n ∧ jm_sk dst = 2 ∧ k ≤ jm_sn dst) (h : jm_G E Y R n' n cs sl (pc + 3) L st (jm_cpy μ src 0 dst 0 k) Q) : jm_G E Y R n' n cs sl pc L (jm_I k :: jm_I 0 :: jm_R dst :: jm_I 0 :: jm_R src :: st) μ Q := by
  subst hst0
  obtain ⟨x1, x2, x3, x4⟩ := hx
  obtain ⟨y1, y2, y3, y4⟩ := hy
  obtain ⟨q0, rfl⟩ := jm_nat x1
  obtain ⟨q1, rfl⟩ := jm_nat y1
  obtain ⟨j, rfl⟩ := jm_nat h0
  rw [jm_sk_nat] at x3 y3
  rw [jm_sn_nat] at x4 y4
  have k0 : q0 < n := by omega
  have k1 : q1 < n := by omega
  intro p e s m args below meth c Z H locs ls C hZ hR hS hl hL hst
  have hts := C.2.2.2.2.1
  have hK : va_K (jm_D E) jm_cl (jm_tys E) s := C.2.2.2.2.2.2.2.1
  have hi := hst _ List.mem_cons_self
  have g0 := jm_ws_get (E := E) (m := μ) k0
  have g1 := jm_ws_get (E := E) (m := μ) k1
  rw [jm_cell_a (by omega) (by omega), x3] at g0
  rw [jm_cell_a (by omega) (by omega), y3] at g1
  rw [List.map_cons, List.map_cons, List.map_cons, List.map_cons, List.map_cons, jm_cvR, jm_cvR]
  have c0 : (Int32.ofInt (0 : Int)).toNatClampNeg = 0 := by decide +kernel
  have n0 : ¬ Int32.ofInt (0 : Int) < 0 := by decide +kernel
  have hxr := (hR.2.2.2.2.2 hn).2
  obtain ⟨fx, hXP, hXD⟩ := jm_xl_of (μ := μ) (n := n) hxr (Nat.le_of_eq hn)
  have g0' := (List.getElem?_append_left (l₂ := jm_xl E fx) (by rw [jm_ws_len]; exact k0)).trans g0
  have g1' := (List.getElem?_append_left (l₂ := jm_xl E fx) (by rw [jm_ws_len]; exact k1)).trans g1
  refine va_copyi C.1 C.2.1 (C.2.2.1.trans hl.1.symm) C.2.2.2.1 (hts _ hlink) (hts _ hnat) (hts _ hstat) (hts _ hini) hK (hR.1.app hXP) hXD hS q0 q1 0 0 g0' g1' rfl rfl rfl (sp := Int32.ofInt 0) (dp := Int32.ofInt 0) (n := Int32.ofInt j) n0 n0 (fun z => by have := (jm_lt32 hi jm_0ok).mp z; omega)
    (by rw [c0, jm_clamp hi]; omega) (by rw [c0, jm_clamp hi]; omega) (fun _ _ => rfl) hml.2 (by have := jm_nfw; have := hml.1; simp; omega) hd fun H1 locs1 hP1 _ hS1 => ?_
  rw [c0, jm_clamp hi, List.set_append_left _ _ (by rw [jm_ws_len]; exact k1)] at hP1
  obtain ⟨hP1, hPx⟩ := jm_P_left hP1
  refine h p e s m args below meth c Z H1 locs1 ls C hZ (jm_Rel_cpy hn k1 (by omega) (jm_xl_back hxr hPx) (hR.2.2.2.2.2 hn).1 hR.2.1 (fun z hz => jm_cpy_ne (by omega)) ?_ ?_ hP1) hS1 hl hL (fun _ z => by cases z)
  · rw [jm_cell_a (by omega) (by omega), y3]
    congr 4
    funext z
    unfold jm_cpy va_cpy
    by_cases hz : z < j
    · rw [if_pos ⟨rfl, by omega, by omega⟩, if_pos ⟨by omega, by omega⟩]
      first | (congr 2; done) | (congr 2; omega)
    · rw [if_neg (by omega), if_neg (by omega)]
  · unfold jm_okc
    rw [if_neg (by omega), if_neg (by omega)]
    intro z hz
    unfold jm_cpy
    by_cases hzj : (z : Int) < 0 + j
    · rw [if_pos ⟨rfl, by omega, hzj⟩]
      have e2 : (0 : Int) + ((z : Int) - 0) = z := by omega
      rw [e2]
      exact jm_okc_a (by omega) (by omega) (hR.2.1 q0 k0) (by omega)
    · rw [if_neg (fun q => hzj q.2.2)]
      exact jm_okc_a (by omega) (by omega) (hR.2.1 q1 k1) hz
theorem jm_acopyl {idx : Nat} {src dst k : Int} (hn : n = jm_N) (hml : 36 ≤ R.locals ∧ 1 ≤ R.frames) (hst0 : st = []) (hlink : Cond.methodLink Y.1.cls idx arraycopyName ∈ jm_tbl) (hnat : Cond.native arraycopyName ∈ jm_tbl) (hstat : Cond.static arraycopyName ∈ jm_tbl) (hini : Cond.initialized "java/lang/System" ∈ jm_tbl) (hd : decode Y.2.1 pc = .ok (.invokestatic idx, 3))
    (h0 : 0 ≤ k) (hx : 0 ≤ src ∧ src < n ∧ jm_sk src = 3 ∧ k ≤ jm_sn src) (hy : 0 ≤ dst ∧ dst < n ∧ jm_sk dst = 3 ∧ k ≤ jm_sn dst) (h : jm_G E Y R n' n cs sl (pc + 3) L st (jm_cpy μ src 0 dst 0 k) Q) : jm_G E Y R n' n cs sl pc L (jm_I k :: jm_I 0 :: jm_R dst :: jm_I 0 :: jm_R src :: st) μ Q := by
  subst hst0
  obtain ⟨x1, x2, x3, x4⟩ := hx
  obtain ⟨y1, y2, y3, y4⟩ := hy
  obtain ⟨q0, rfl⟩ := jm_nat x1
  obtain ⟨q1, rfl⟩ := jm_nat y1
  obtain ⟨j, rfl⟩ := jm_nat h0
  rw [jm_sk_nat] at x3 y3
  rw [jm_sn_nat] at x4 y4
  have k0 : q0 < n := by omega
  have k1 : q1 < n := by omega
  intro p e s m args below meth c Z H locs ls C hZ hR hS hl hL hst
  have hts := C.2.2.2.2.1
  have hK : va_K (jm_D E) jm_cl (jm_tys E) s := C.2.2.2.2.2.2.2.1
  have hi := hst _ List.mem_cons_self
  have g0 := jm_ws_get (E := E) (m := μ) k0
  have g1 := jm_ws_get (E := E) (m := μ) k1
  rw [jm_cell_l x3] at g0
  rw [jm_cell_l y3] at g1
  rw [List.map_cons, List.map_cons, List.map_cons, List.map_cons, List.map_cons, jm_cvR, jm_cvR]
  have c0 : (Int32.ofInt (0 : Int)).toNatClampNeg = 0 := by decide +kernel
  have n0 : ¬ Int32.ofInt (0 : Int) < 0 := by decide +kernel
  have hxr := (hR.2.2.2.2.2 hn).2
  obtain ⟨fx, hXP, hXD⟩ := jm_xl_of (μ := μ) (n := n) hxr (Nat.le_of_eq hn)
  have g0' := (List.getElem?_append_left (l₂ := jm_xl E fx) (by rw [jm_ws_len]; exact k0)).trans g0
  have g1' := (List.getElem?_append_left (l₂ := jm_xl E fx) (by rw [jm_ws_len]; exact k1)).trans g1
  refine va_copyl C.1 C.2.1 (C.2.2.1.trans hl.1.symm) C.2.2.2.1 (hts _ hlink) (hts _ hnat) (hts _ hstat) (hts _ hini) hK (hR.1.app hXP) hXD hS q0 q1 1 1 g0' g1' rfl rfl rfl (sp := Int32.ofInt 0) (dp := Int32.ofInt 0) (n := Int32.ofInt j) n0 n0 (fun z => by have := (jm_lt32 hi jm_0ok).mp z; omega)
    (by rw [c0, jm_clamp hi]; omega) (by rw [c0, jm_clamp hi]; omega) (fun _ _ => rfl) hml.2 (by have := jm_nfw; have := hml.1; simp; omega) hd fun H1 locs1 hP1 _ hS1 => ?_
  rw [c0, jm_clamp hi, List.set_append_left _ _ (by rw [jm_ws_len]; exact k1)] at hP1
  obtain ⟨hP1, hPx⟩ := jm_P_left hP1
  refine h p e s m args below meth c Z H1 locs1 ls C hZ (jm_Rel_cpy hn k1 (by omega) (jm_xl_back hxr hPx) (hR.2.2.2.2.2 hn).1 hR.2.1 (fun z hz => jm_cpy_ne (by omega)) ?_ ?_ hP1) hS1 hl hL (fun _ z => by cases z)
  · rw [jm_cell_l y3]
    congr 5
    funext z
    unfold jm_cpy va_cpy
    by_cases hz : z < j
    · rw [if_pos ⟨rfl, by omega, by omega⟩, if_pos ⟨by omega, by omega⟩]
      first | (congr 2; done) | (congr 2; omega)
    · rw [if_neg (by omega), if_neg (by omega)]
  · unfold jm_okc
    rw [if_neg (by omega), if_pos y3]
    intro z hz
    unfold jm_cpy
    by_cases hzj : (z : Int) < 0 + j
    · rw [if_pos ⟨rfl, by omega, hzj⟩]
      have e2 : (0 : Int) + ((z : Int) - 0) = z := by omega
      rw [e2]
      exact jm_okc_l x3 (hR.2.1 q0 k0) (by omega)
    · rw [if_neg (fun q => hzj q.2.2)]
      exact jm_okc_l y3 (hR.2.1 q1 k1) hz
end JMC
end
section
/-! contracts: a method called in an abstract memory -/
def jm_Pc (E : jm_E) (n : Nat) (av : List jm_V) (μ : jm_M) : Array Value → State → Prop := fun v U => v = (av.map (jm_cv E)).toArray ∧ jm_Rel E n μ U.heap ∧ va_K (jm_D E) jm_cl (jm_tys E) U ∧ jm_X E U U.heap ∧ jm_b E ≤ U.heap.size
def jm_Qc (E : jm_E) (Y : jm_Y) (n' : Nat) (Q : Option jm_V → jm_M → Prop) : Array Value → State → Outcome → State → Prop := fun _ st oc t =>
  ∃ (o : Option jm_V) (m1 : jm_M), oc = .returned (o.map (jm_cv E)) ∧ (∀ v, o = some v → jm_ok v) ∧ jm_rok Y.2.2.2 o ∧ Q o m1 ∧ jm_Rel E n' m1 t.heap ∧ st.heap.size ≤ t.heap.size ∧ ∀ q : Nat, q < st.heap.size → ¬ jm_A E q → t.heap[q]? = st.heap[q]?
def jm_Cl (E : jm_E) (Y : jm_Y) (d n n' mc ms : Nat) (av : List jm_V) (μ : jm_M) (Q : Option jm_V → jm_M → Prop) : Prop :=
  (∀ v ∈ av, jm_ok v) → Met (jm_l E) Y.1 (Cond.code Y.1 Y.2.1 Y.2.2.1 Y.2.2.2 :: jm_tbl) (jm_rm d mc ms) (jm_Pc E n av μ) (jm_Qc E Y n' Q) mc ms (jm_A E)
/-- a method's locals at its entry -/
def jm_en : List jm_V → List (Option jm_V)
  | [] => []
  | v :: t => if jm_lg v then some v :: none :: jm_en t else some v :: jm_en t
theorem jm_goodIn {y : MethodName} {b : ByteArray} {k : Nat} {r : Option FieldType} (h : Cond.code y b k r ∈ jm_tbl) : GoodIn jm_tbl (Cond.code y b k r :: jm_tbl) := by
  intro w hw
  have hm : w ∈ jm_tbl := by
    rcases List.mem_cons.mp hw with h1 | h1
    · rw [h1]; exact h
    · exact h1
  exact ⟨hm, good_of_word (List.mem_filter.mp hm).2⟩
section JMM
variable {E : jm_E} {Y : jm_Y} {R : Room} {n' n cs sl pc : Nat} {L : List (Option jm_V)} {st : List jm_V} {μ : jm_M} {Q : Option jm_V → jm_M → Prop}
theorem jm_en_args : ∀ (av : List jm_V) (k r : Nat), ∀ q ∈ jm_lo E k (jm_en av ++ List.replicate r none), q ∈ lv_args k (av.map (jm_cv E))
  | [], k, r, q, h => by
    obtain ⟨i, v, -, h2⟩ := jm_lo_inv _ _ _ h
    rw [show jm_en [] ++ List.replicate r (none : Option jm_V) = List.replicate r none from rfl] at h2
    have h3 := List.mem_of_getElem? h2
    have h4 := (List.mem_replicate.mp h3).2
    cases h4
  | v :: t, k, r, q, h => by
    rw [List.map_cons]
    unfold lv_args
    by_cases hv : jm_lg v = true
    · have e1 : jm_en (v :: t) = some v :: none :: jm_en t := by rw [jm_en, if_pos hv]
      rw [e1] at h
      have hc : (jm_cv E v).category = 2 := by
        rcases v with v | v | v
        · simp [jm_lg] at hv
        · rfl
        · simp [jm_lg] at hv
      rw [if_pos hc]
      rcases List.mem_cons.mp h with h1 | h1
      · rw [h1]; exact List.mem_cons_self
      · exact List.mem_cons_of_mem _ (jm_en_args t (k + 1 + 1) r q h1)
    · have e1 : jm_en (v :: t) = some v :: jm_en t := by rw [jm_en, if_neg hv]
      rw [e1] at h
      have hc : ¬ (jm_cv E v).category = 2 := fun z => hv (jm_cat2 z)
      rw [if_neg hc]
      rcases List.mem_cons.mp h with h1 | h1
      · rw [h1]; exact List.mem_cons_self
      · exact List.mem_cons_of_mem _ (jm_en_args t (k + 1) r q h1)
theorem jm_en_ok : ∀ (av : List jm_V) (r : Nat), (∀ v ∈ av, jm_ok v) → ∀ (i : Nat) (v : jm_V), (jm_en av ++ List.replicate r none)[i]? = some (some v) → jm_ok v
  | [], r, h, i, v, h2 => by
    rw [show jm_en [] ++ List.replicate r (none : Option jm_V) = List.replicate r none from rfl] at h2
    have h4 := (List.mem_replicate.mp (List.mem_of_getElem? h2)).2
    cases h4
  | w :: t, r, h, i, v, h2 => by
    have ht := jm_en_ok t r (jm_tail h)
    by_cases hv : jm_lg w = true
    · have e1 : jm_en (w :: t) = some w :: none :: jm_en t := by rw [jm_en, if_pos hv]
      rw [e1] at h2
      match i, h2 with
      | 0, h2 => have : w = v := by simpa using h2
                 rw [← this]; exact h _ List.mem_cons_self
      | 1, h2 => simp at h2
      | i + 2, h2 => exact ht i v (by simpa using h2)
    · have e1 : jm_en (w :: t) = some w :: jm_en t := by rw [jm_en, if_neg hv]
      rw [e1] at h2
      match i, h2 with
      | 0, h2 => have : w = v := by simpa using h2
                 rw [← this]; exact h _ List.mem_cons_self
      | i + 1, h2 => exact ht i v (by simpa using h2)
/-- returns -/
theorem jm_ret {o : Option jm_V} (hd : decode Y.2.1 pc = .ok (jm_ri o, 1)) (hn : n = n') (hc : cs ≤ R.cells ∧ sl ≤ R.slots) (hr : jm_rok Y.2.2.2 o) (h : Q o μ) (hs : st = o.toList) : jm_G E Y R n' n cs sl pc L st μ Q := by
  subst hn; subst hs
  intro p e s m args below meth c Z H locs ls C hZ hR hS hl hL hst
  have h1 := hZ o μ H locs pc ls h (fun v hv => hst v (by rw [hv]; exact List.mem_cons_self)) hr hR hS hd
  have e1 : (o.map (jm_cv E)).toList = o.toList.map (jm_cv E) := by cases o <;> rfl
  rw [e1] at h1
  exact W.widen hc.1 hc.2 h1
/-- a contract out of a walk of the body -/
theorem jm_Cl.of {d mc ms : Nat} {av : List jm_V} (hy : plainName Y.1.cls = true) (hlen : (lg_sl (av.map (jm_cv E))).length ≤ Y.2.2.1) (h : (∀ v ∈ av, jm_ok v) → jm_G E Y (jm_rm d mc ms) n' n 0 0 0 (jm_en av ++ List.replicate (Y.2.2.1 - (jm_en av).length) none) [] μ Q) : jm_Cl E Y d n n' mc ms av μ Q := by
  intro hav
  refine Met.ofW (cc := Y.2.1) (maxL := Y.2.2.1) (ret := Y.2.2.2) hy rfl ?_
  intro p e s m args below meth c s₁ B hml hv
  obtain ⟨rfl, hR, hK, hX, hb⟩ := hv
  have hts := atoms_spec (ws := Cond.code Y.1 Y.2.1 Y.2.2.1 Y.2.2.2 :: jm_tbl) B.pre
  have hown : s.vm.findClass Y.1.cls = some m.cls := findClass_of_methodNamed B.named
  have hlocks := B.notSynchronized
  have hin : meth.name = Y.1.name := (name_of_methodNamed B.named B.method).1
  have hl := lv_entry (av.map (jm_cv E)) (n := Y.2.2.1) hlen
  rw [lg_entry_eq]
  have C : jm_ctx E Y p s m (av.map (jm_cv E)).toArray meth c := ⟨B.exec, B.bytes, hml, hown, fun w hw => hts w (List.mem_cons_of_mem _ hw), B.returns, hin, hK, hX, hb⟩
  refine h hav p e s m _ below meth c _ s.heap [] _ C ?_ hR va_S.rf (jm_lv_mono hl (jm_en_args av 0 _)) (jm_en_ok av _ hav) (fun v hv => by cases hv)
  intro o m1 H1 locs1 pc1 ls1 hQ ho hrok hR1 hS1 hdg
  have hf : ∀ q ∈ locs1, jm_A E q.base := hS1.2.2
  have post : ∀ t : State, t.heap = H1 → ∀ v : Option Value, v = o.map (jm_cv E) → jm_Qc E Y n' Q (av.map (jm_cv E)).toArray s (.returned v) t := fun t ht v hv => ⟨o, m1, by rw [hv], ho, hrok, hQ, by rw [ht]; exact hR1, by rw [ht]; exact hS1.1, fun q q1 q2 => by rw [ht]; exact hS1.2.1 q q1 q2⟩
  have hret := B.returns
  rcases hrok with ⟨r1, r2⟩ | ⟨r1, x, r2⟩ | ⟨r1, x, r2, r3⟩ | ⟨r1, x, r2⟩ | ⟨⟨nm, r1⟩, x, r2⟩ | ⟨ty, -, r1, x, r2, r3⟩ <;> subst r2 <;> rw [r1] at hret
  · exact W.vret (cells := mc) (slots := ms) (R := jm_rm d mc ms) B.exec B.bytes hret (fun t ht _ => post t ht _ rfl) hf hdg
  · exact W.iret (cells := mc) (slots := ms) (R := jm_rm d mc ms) B.exec B.bytes hret (fun t ht _ => post t ht _ rfl) hf hdg
  · exact W.zret (cells := mc) (slots := ms) (R := jm_rm d mc ms) B.exec B.bytes hret (jm_nz r3) (fun t ht _ => post t ht _ rfl) hf hdg
  · exact W.lret (cells := mc) (slots := ms) (R := jm_rm d mc ms) B.exec B.bytes hret (fun t ht _ => post t ht _ rfl) hf hdg
  · have hcv : jm_cv E (jm_R x) = .null ∨ ∃ a, jm_cv E (jm_R x) = .ref a := by
      show (if x = -1 then Value.null else Value.ref (jm_ad E x)) = .null ∨ ∃ a, (if x = -1 then Value.null else Value.ref (jm_ad E x)) = .ref a
      split
      · exact Or.inl rfl
      · exact Or.inr ⟨_, rfl⟩
    exact W.aret (cells := mc) (slots := ms) (R := jm_rm d mc ms) B.exec B.bytes hret (Or.inl ⟨nm, rfl⟩) hcv (fun t ht _ => post t ht _ rfl) hf hdg
  · exact W.zret (cells := mc) (slots := ms) (R := jm_rm d mc ms) B.exec B.bytes hret r3 (fun t ht _ => post t ht _ rfl) hf hdg
/-- behind a call -/
theorem jm_after {Y' : jm_Y} {n1 mc ms : Nat} {Q' : Option jm_V → jm_M → Prop} {p : Program} {e : Env} {s : State} {m : MethodId} {args a : Array Value} {below : List Frame} {meth : Method} {c : Code} {Z : State → Prop} {H : Heap} {locs : List Loc} {ls : Array Slot} {rest st0 : List Value}
    (hr : va_Run p (jm_l E) e R s m args below meth c H locs cs sl mc ms (F0 m pc ls st0) rest (jm_Qc E Y' n1 Q' a) (jm_A E)) (hS : va_S (jm_A E) s.heap H locs)
    (kk : ∀ (o : Option jm_V) (m1 : jm_M) (H1 : Heap) (locs1 : List Loc), Q' o m1 → (∀ v, o = some v → jm_ok v) → jm_rok Y'.2.2.2 o → jm_Rel E n1 m1 H1 → va_S (jm_A E) s.heap H1 locs1 → W p (jm_l E) e R s m args below meth c H1 locs1 (cs + mc) (sl + ms) Z (F0 m (pc + 3) ls ((o.map (jm_cv E)).toList ++ rest))) :
    W p (jm_l E) e R s m args below meth c H locs cs sl Z (F0 m pc ls st0) := by
  intro T hT X
  obtain ⟨v, st₀, t, T', L, h0, X', hL, e1, e2, ⟨o, m1, hv, ho, hrok, hq, hR1, hz, hk⟩, stp⟩ := hr T hT X
  cases hv
  rw [h0] at hz hk
  obtain ⟨t2, a1, b1⟩ := kk o m1 T'.heap (locs ++ L) hq ho hrok (by rw [e1]; exact hR1)
    ⟨Nat.le_trans hS.1 (by rw [e1]; exact hz), fun q h1 h2 => by rw [e1, hk q (Nat.lt_of_lt_of_le h1 hS.1) h2]; exact hS.2.1 q h1 h2, fun q hq => by
      rcases List.mem_append.mp hq with h | h
      · exact hS.2.2 q h
      · exact hL q h⟩ T' rfl X'
  exact ⟨t2, stp t2 a1, b1⟩
theorem jm_blind {av : List jm_V} : FrameBlind (jm_Pc E n av μ) := by
  intro a U g mk q
  obtain ⟨q1, q2, q3, q4, q5⟩ := q
  exact ⟨q1, q2, va_K.moved (u := U) (U := U.calling g mk a) (Vm.Alike.refl U.vm) q3, jm_X.moved (u := U) (U := U.calling g mk a) (State.WarmedH.refl U) q4, q5⟩
theorem jm_enter {p : Program} {s : State} {m : MethodId} {args : Array Value} {meth : Method} {c : Code} {H : Heap} {locs : List Loc} {av : List jm_V} (C : jm_ctx E Y p s m args meth c) (hR : jm_Rel E n μ H) (hS : va_S (jm_A E) s.heap H locs) : ∀ U : State, U.heap = H → s.WarmedH U.vm → jm_Pc E n av μ (av.map (jm_cv E)).toArray U := by
  intro U hU hW
  have hX : jm_X E s s.heap := C.2.2.2.2.2.2.2.2.1
  have hb : jm_b E ≤ s.heap.size := C.2.2.2.2.2.2.2.2.2
  refine ⟨rfl, by rw [hU]; exact hR, va_K.moved hW.alike C.2.2.2.2.2.2.2.1, ?_, by rw [hU]; exact Nat.le_trans hb hS.1⟩
  rw [hU]
  exact (hX.kept hb hS.2.1).moved hW
/-- a callee: its rows of the tables -/
def jm_wC (Y : jm_Y) (k : Nat) : Prop := Cond.code Y.1 Y.2.1 Y.2.2.1 Y.2.2.2 ∈ jm_tbl ∧ Cond.initialized Y.1.cls ∈ jm_tbl ∧ (Y.1.cls ≠ "java/lang/invoke/MethodHandle" ∧ Y.1.cls ≠ "java/lang/invoke/VarHandle" ∧ (parseMethodDescriptor Y.1.desc).map (fun d => d.parameters.length) = some k) ∧ Y.2.2.1 ≤ 25
def jm_wV (Y : jm_Y) (k : Nat) : Prop := jm_wC Y k ∧ Cond.instanceMethod Y.1 ∈ jm_tbl ∧ Cond.selects Y.1.cls Y.1 Y.1 ∈ jm_tbl
def jm_wS (Y : jm_Y) (k : Nat) : Prop := jm_wC Y k ∧ Cond.static Y.1 ∈ jm_tbl
def jm_wI (Y : jm_Y) (k : Nat) : Prop := jm_wC Y k ∧ Y.2.2.2 = none ∧ Y.1.name = "<init>" ∧ Cond.instanceMethod Y.1 ∈ jm_tbl
theorem jm_callB {Y' : jm_Y} {k d mc ms idx C2 S2 : Nat} {s : State} {args : Array Value} (hw : jm_wC Y' k) (hts : ∀ w ∈ jm_tbl, w.before args s = true) (hlink : Cond.methodLink Y.1.cls idx Y'.1 ∈ jm_tbl) :
    CallB (jm_rm (d + 1) C2 S2) s args Y.1.cls idx Y'.1 Y'.2.1 Y'.2.2.1 Y'.2.2.2 (Cond.code Y'.1 Y'.2.1 Y'.2.2.1 Y'.2.2.2 :: jm_tbl) (jm_rm d mc ms) mc ms k :=
  callB_of k hts (jm_goodIn hw.1) rfl rfl rfl (hts _ hw.2.1) (hts _ hlink) hw.2.2.1 ⟨Nat.le_refl _, by have := hw.2.2.2; show 8 + (Y'.2.2.1 + 11) + 44 * d ≤ 44 * (d + 1); omega⟩
theorem jm_catsum : ∀ (st : List jm_V), st.length ≤ 4 → ((st.map (jm_cv E)).map fun v => v.category).sum ≤ 8 := by
  have key : ∀ (st : List jm_V), ((st.map (jm_cv E)).map fun v => v.category).sum ≤ 2 * st.length := by
    intro st
    induction st with
    | nil => simp
    | cons v t ih =>
      rw [List.map_cons, List.map_cons, List.sum_cons, List.length_cons]
      have : (jm_cv E v).category ≤ 2 := by
        rcases lv_cat (jm_cv E v) with h | h <;> omega
      omega
  intro st h
  have := key st
  omega
theorem jm_map_app (av : List jm_V) (v : jm_V) : (av.reverse ++ v :: st).map (jm_cv E) = (av.map (jm_cv E)).reverse ++ jm_cv E v :: st.map (jm_cv E) := by
  rw [List.map_append, List.map_cons, List.map_reverse]
theorem jm_okav {av : List jm_V} {v : jm_V} (h : ∀ w ∈ av.reverse ++ v :: st, jm_ok w) : ∀ w ∈ v :: av, jm_ok w := by
  intro w hw
  rcases List.mem_cons.mp hw with h1 | h1
  · exact h w (by rw [h1]; simp)
  · exact h w (by simp [h1])
theorem jm_okst {av : List jm_V} {o : Option jm_V} (h : ∀ w ∈ av ++ st, jm_ok w) (ho : ∀ v, o = some v → jm_ok v) : ∀ w ∈ o.toList ++ st, jm_ok w := by
  intro w hw
  rcases List.mem_append.mp hw with h1 | h1
  · cases o with
    | none => cases h1
    | some v =>
      have : w = v := by simpa using h1
      rw [this]; exact ho v rfl
  · exact h w (List.mem_append_right _ h1)
theorem jm_invV {Y' : jm_Y} {idx k n1 mc ms d C2 S2 cc : Nat} {av : List jm_V} {a : Int} {stf : List jm_V} (hw : jm_wV Y' k) (hlink : Cond.methodLink Y.1.cls idx Y'.1 ∈ jm_tbl) (hd : decode Y.2.1 pc = .ok (.invokevirtual idx, 3)) (hlen : av.length = k) (hx : jm_is n a 1 cc) (hcn : ∃ T N, jm_cl[cc]? = some (Y'.1.cls, T, N)) (hroom : cs + mc ≤ C2 ∧ sl + ms ≤ S2) (hrest : st.length ≤ 4) (hst : stf = av.reverse ++ jm_R a :: st)
    (h : jm_Cl E Y' d n n1 mc ms (jm_R a :: av) μ (fun o m1 => jm_rok Y'.2.2.2 o → jm_G E Y (jm_rm (d + 1) C2 S2) n' n1 (cs + mc) (sl + ms) (pc + 3) L (o.toList ++ st) m1 Q)) : jm_G E Y (jm_rm (d + 1) C2 S2) n' n cs sl pc L stf μ Q := by
  subst hst
  obtain ⟨x1, x2, x3, x4⟩ := hx
  obtain ⟨q, rfl⟩ := jm_nat x1
  rw [jm_sk_nat] at x3
  rw [jm_sn_nat] at x4
  have hq : q < n := by omega
  intro p e s m args below meth c Z H locs ls C hZ hR hS hl hL hst
  have hts := C.2.2.2.2.1
  have hg := jm_ws_get (E := E) (m := μ) hq
  rw [jm_cell_o x3 x4] at hg
  obtain ⟨T, N, hcn⟩ := hcn
  have hM := h (jm_okav hst)
  rw [jm_map_app, jm_cvR]
  refine jm_after (va_runV (As := av.map (jm_cv E)) (rest := st.map (jm_cv E)) (C := Y'.1.cls) ⟨C.1, C.2.1, C.2.2.1, C.2.2.2.1, hts⟩ hM ⟨jm_callB hw.1 hts hlink, hts _ hw.2.1, hts _ hw.2.2⟩ ⟨jm_blind, va_recv C.2.2.2.2.2.2.2.1 hR.1 hcn hg, ?_⟩ rfl (by rw [List.length_map]; exact hlen) hl.1 rfl (lv_room (jm_catsum st hrest)) hd hroom) hS (fun o m1 H1 locs1 hQ ho hrok hR1 hS1 => ?_)
  · have := jm_enter (av := jm_R (q : Int) :: av) C hR hS
    rw [List.map_cons, jm_cvR] at this
    exact this
  · have h2 := hQ hrok p e s m args below meth c Z H1 locs1 ls C hZ hR1 hS1 hl hL (jm_okst (av := av.reverse ++ [jm_R (q : Int)]) (by rw [List.append_assoc]; exact hst) ho)
    rw [List.map_append] at h2
    have e1 : (o.map (jm_cv E)).toList = o.toList.map (jm_cv E) := by cases o <;> rfl
    rw [e1]
    exact h2
theorem jm_invS {Y' : jm_Y} {idx k n1 mc ms d C2 S2 : Nat} {av : List jm_V} {stf : List jm_V} (hw : jm_wS Y' k) (hlink : Cond.methodLink Y.1.cls idx Y'.1 ∈ jm_tbl) (hd : decode Y.2.1 pc = .ok (.invokestatic idx, 3)) (hlen : av.length = k) (hroom : cs + mc ≤ C2 ∧ sl + ms ≤ S2) (hrest : st.length ≤ 4) (hst : stf = av.reverse ++ st)
    (h : jm_Cl E Y' d n n1 mc ms av μ (fun o m1 => jm_rok Y'.2.2.2 o → jm_G E Y (jm_rm (d + 1) C2 S2) n' n1 (cs + mc) (sl + ms) (pc + 3) L (o.toList ++ st) m1 Q)) : jm_G E Y (jm_rm (d + 1) C2 S2) n' n cs sl pc L stf μ Q := by
  subst hst
  intro p e s m args below meth c Z H locs ls C hZ hR hS hl hL hst
  have hts := C.2.2.2.2.1
  have hM := h (fun w hw => hst w (List.mem_append_left _ (List.mem_reverse.mpr hw)))
  rw [List.map_append, List.map_reverse]
  refine jm_after (va_runS (As := av.map (jm_cv E)) (rest := st.map (jm_cv E)) ⟨C.1, C.2.1, C.2.2.1, C.2.2.2.1, hts⟩ hM ⟨jm_callB hw.1 hts hlink, hts _ hw.2⟩ ⟨jm_blind, jm_enter C hR hS⟩ rfl (by rw [List.length_map]; exact hlen) hl.1 rfl (lv_room (jm_catsum st hrest)) hd hroom) hS (fun o m1 H1 locs1 hQ ho hrok hR1 hS1 => ?_)
  have h2 := hQ hrok p e s m args below meth c Z H1 locs1 ls C hZ hR1 hS1 hl hL (jm_okst hst ho)
  rw [List.map_append] at h2
  have e1 : (o.map (jm_cv E)).toList = o.toList.map (jm_cv E) := by cases o <;> rfl
  rw [e1]
  exact h2
theorem jm_invI {Y' : jm_Y} {idx k n1 mc ms d C2 S2 : Nat} {av : List jm_V} {a : Int} {stf : List jm_V} (hw : jm_wI Y' k) (hlink : Cond.methodLink Y.1.cls idx Y'.1 ∈ jm_tbl ∨ ∃ host, Cond.methodLinkNest Y.1.cls idx Y'.1 host ∈ jm_tbl) (hd : decode Y.2.1 pc = .ok (.invokespecial idx, 3)) (hlen : av.length = k) (hx : 0 ≤ a) (hroom : cs + mc ≤ C2 ∧ sl + ms ≤ S2) (hrest : st.length ≤ 4) (hst : stf = av.reverse ++ jm_R a :: st)
    (h : jm_Cl E Y' d n n1 mc ms (jm_R a :: av) μ (fun o m1 => jm_rok Y'.2.2.2 o → jm_G E Y (jm_rm (d + 1) C2 S2) n' n1 (cs + mc) (sl + ms) (pc + 3) L (o.toList ++ st) m1 Q)) : jm_G E Y (jm_rm (d + 1) C2 S2) n' n cs sl pc L stf μ Q := by
  subst hst
  obtain ⟨q, rfl⟩ := jm_nat hx
  obtain ⟨y1, b1, ml1, rt1⟩ := Y'
  have hrt : rt1 = none := hw.2.1
  subst hrt
  intro p e s m args below meth c Z H locs ls C hZ hR hS hl hL hst
  have hts := C.2.2.2.2.1
  have hM := h (jm_okav hst)
  rw [jm_map_app, jm_cvR]
  have hen := jm_enter (av := jm_R (q : Int) :: av) C hR hS
  rw [List.map_cons, jm_cvR] at hen
  have hlast : ∀ (o : Option jm_V) (m1 : jm_M) (H1 : Heap) (locs1 : List Loc), (jm_rok (none : Option FieldType) o → jm_G E Y (jm_rm (d + 1) C2 S2) n' n1 (cs + mc) (sl + ms) (pc + 3) L (o.toList ++ st) m1 Q) → (∀ v, o = some v → jm_ok v) → jm_rok (none : Option FieldType) o → jm_Rel E n1 m1 H1 → va_S (jm_A E) s.heap H1 locs1 → W p (jm_l E) e (jm_rm (d + 1) C2 S2) s m args below meth c H1 locs1 (cs + mc) (sl + ms) Z (F0 m (pc + 3) ls ((o.map (jm_cv E)).toList ++ st.map (jm_cv E))) := by
    intro o m1 H1 locs1 hQ ho hrok hR1 hS1
    have h2 := hQ hrok p e s m args below meth c Z H1 locs1 ls C hZ hR1 hS1 hl hL (jm_okst (av := av.reverse ++ [jm_R (q : Int)]) (by rw [List.append_assoc]; exact hst) ho)
    rw [List.map_append] at h2
    have e1 : (o.map (jm_cv E)).toList = o.toList.map (jm_cv E) := by cases o <;> rfl
    rw [e1]
    exact h2
  rcases hlink with hlink | ⟨host, hlink⟩
  · have hcb := jm_callB (Y := Y) (d := d) (mc := mc) (ms := ms) (C2 := C2) (S2 := S2) hw.1 hts hlink
    exact jm_after (va_runI (As := av.map (jm_cv E)) (rest := st.map (jm_cv E)) ⟨C.1, C.2.1, C.2.2.1, C.2.2.2.1, hts⟩ hM ⟨hcb, hw.2.2.1, hts _ hw.2.2.2⟩ ⟨jm_blind, hen⟩ rfl (by rw [List.length_map]; exact hlen) hl.1 rfl (lv_room (jm_catsum st hrest)) hd hroom) hS hlast
  · have hcb : va_CN (jm_rm (d + 1) C2 S2) s args Y.1.cls idx y1 host b1 ml1 (none : Option FieldType) (Cond.code y1 b1 ml1 (none : Option FieldType) :: jm_tbl) (jm_rm d mc ms) mc ms k :=
      va_cnB k hts (jm_goodIn hw.1.1) rfl rfl rfl (hts _ hlink) (hts _ hw.1.2.1) hw.1.2.2.1 ⟨Nat.le_refl _, by have h25 : ml1 ≤ 25 := hw.1.2.2.2; show 8 + (ml1 + 11) + 44 * d ≤ 44 * (d + 1); omega⟩
    exact jm_after (va_runIN (As := av.map (jm_cv E)) (rest := st.map (jm_cv E)) ⟨C.1, C.2.1, C.2.2.1, C.2.2.2.1, hts⟩ hM ⟨hcb, hw.2.2.1, hts _ hw.2.2.2⟩ ⟨jm_blind, hen⟩ rfl (by rw [List.length_map]; exact hlen) hl.1 rfl (lv_room (jm_catsum st hrest)) hd hroom) hS hlast
theorem jm_objInit {idx d C2 S2 : Nat} {a : Int} (hlink : Cond.methodLink Y.1.cls idx Lib.objectInit ∈ jm_tbl) (hinst : Cond.instanceMethod Lib.objectInit ∈ jm_tbl) (hcode : Cond.code Lib.objectInit ⟨#[0xb1]⟩ 1 none ∈ jm_tbl) (hd : decode Y.2.1 pc = .ok (.invokespecial idx, 3)) (hx : 0 ≤ a) (hrest : st.length ≤ 4) (h : jm_G E Y (jm_rm (d + 1) C2 S2) n' n cs sl (pc + 3) L st μ Q) : jm_G E Y (jm_rm (d + 1) C2 S2) n' n cs sl pc L (jm_R a :: st) μ Q := by
  obtain ⟨q, rfl⟩ := jm_nat hx
  intro p e s m args below meth c Z H locs ls C hZ hR hS hl hL hst
  have hts := C.2.2.2.2.1
  rw [List.map_cons, jm_cvR]
  refine W.objInit C.1 C.2.1 C.2.2.2.1 (hts _ hlink) (hts _ hinst) (hts _ hcode) rfl (by rw [C.2.2.1]; exact hl.1) (rest := st.map (jm_cv E)) rfl hd (by show 1 ≤ d + 1; omega) (by have := jm_catsum (E := E) st hrest; show 2 * 0 + _ + 12 ≤ 44 * (d + 1); omega) ?_
  exact h p e s m args below meth c Z H locs ls C hZ hR hS hl hL (jm_tail hst)
end JMM
end
section
/-! the forms that the printed rules take -/
abbrev jg (E : jm_E) (Y : jm_Y) (d pc : Nat) (L : List (Option jm_V)) (st : List jm_V) (μ : jm_M) (Q : Option jm_V → jm_M → Prop) : Prop := jm_G E Y (jm_rm (d + 1) 0 0) jm_N jm_N 0 0 pc L st μ Q
abbrev jc (E : jm_E) (Y : jm_Y) (d : Nat) (av : List jm_V) (μ : jm_M) (Q : Option jm_V → jm_M → Prop) : Prop := jm_Cl E Y d jm_N jm_N 0 0 av μ Q
theorem jm_Cl.mono {E : jm_E} {Y : jm_Y} {d n n' mc ms : Nat} {av : List jm_V} {μ : jm_M} {Q Q' : Option jm_V → jm_M → Prop} (h : jm_Cl E Y d n n' mc ms av μ Q) (hq : ∀ o m, Q o m → jm_rok Y.2.2.2 o → Q' o m) : jm_Cl E Y d n n' mc ms av μ Q' := by
  intro hav p e h1 h2 h3 s m args below h4 h5 h6 h7
  obtain ⟨k, o, a1, a2, a3, ⟨r, m1, b1, b2, b3, b4, b5⟩, a5⟩ := h hav p e h1 h2 h3 s m args below h4 h5 h6 h7
  exact ⟨k, o, a1, a2, a3, ⟨r, m1, b1, b2, b3, hq r m1 b4 b3, b5⟩, a5⟩
def jm_cf (C : String) (T : u_T) (N c : Nat) (ty0 : Nat → FieldType) : Prop := (∀ w ∈ u_ws C T N, w ∈ jm_tbl) ∧ jm_cl[c]? = some (C, T, N) ∧ jm_nf c = N ∧ (∀ k, k < N → parseFieldDescriptor (T k).2.2.1 = some (ty0 k)) ∧ (∀ a, a < N → ∀ b, b < N → a ≠ b → (T a).2.1 ≠ (T b).2.1)
def jm_subl : List (Option jm_V) → List (Option jm_V) → Prop
  | [], _ => True
  | none :: t, _ :: u => jm_subl t u
  | some a :: t, b :: u => b = some a ∧ jm_subl t u
  | _ :: _, [] => False
def jm_ia (n : Nat) (a : Int) (t : Nat) : Prop := 0 ≤ a ∧ a < n ∧ jm_sk a = t ∧ jm_sn a < 2147483648
section JMF2
variable {E : jm_E} {Y : jm_Y} {R : Room} {n' n cs sl pc : Nat} {L : List (Option jm_V)} {st : List jm_V} {μ : jm_M} {Q : Option jm_V → jm_M → Prop}
theorem jm_okI {x : Int} (h1 : -2147483648 ≤ x) (h2 : x < 2147483648) : jm_ok (jm_I x) := ⟨h1, h2⟩
theorem jm_okL {x : Int} (h1 : -9223372036854775808 ≤ x) (h2 : x < 9223372036854775808) : jm_ok (jm_L x) := ⟨h1, h2⟩
theorem jm_subl_at : ∀ (L' L : List (Option jm_V)), jm_subl L' L → ∀ (i : Nat) (v : jm_V), L'[i]? = some (some v) → L[i]? = some (some v)
  | [], _, _, i, v, h => by simp at h
  | none :: t, [], hs, _, _, _ => hs.elim
  | some a :: t, [], hs, _, _, _ => hs.elim
  | none :: t, b :: u, hs, 0, v, h => by simp at h
  | none :: t, b :: u, hs, i + 1, v, h => by
    have h1 : t[i]? = some (some v) := by simpa using h
    simpa using jm_subl_at t u hs i v h1
  | some a :: t, b :: u, hs, 0, v, h => by
    have h1 : a = v := by simpa using h
    subst h1
    simp [hs.1]
  | some a :: t, b :: u, hs, i + 1, v, h => by
    have h1 : t[i]? = some (some v) := by simpa using h
    simpa using jm_subl_at t u hs.2 i v h1
theorem jm_weak {L' : List (Option jm_V)} (hs : jm_subl L' L) (h : jm_G E Y R n' n cs sl pc L' st μ Q) : jm_G E Y R n' n cs sl pc L st μ Q := by
  intro p e s m args below meth c Z H locs ls C hZ hR hS hl hL hst
  refine h p e s m args below meth c Z H locs ls C hZ hR hS (jm_lv_mono hl fun q hq => ?_) (fun i v hv => hL i v (jm_subl_at L' L hs i v hv)) hst
  obtain ⟨i, v, h1, h2⟩ := jm_lo_inv _ _ _ hq
  rw [h1]
  exact jm_lo_mem L 0 i v (jm_subl_at L' L hs i v h2)
theorem jm_rokI {o : Option jm_V} (h : jm_rok (some .int) o) : ∃ r, o = some (jm_I r) := by
  rcases h with ⟨q, -⟩ | ⟨-, h⟩ | ⟨q, -⟩ | ⟨q, -⟩ | ⟨⟨_, q⟩, -⟩ | ⟨_, q1 | q1, q, -⟩ <;> first | exact h | (cases q; done) | (subst q1; cases q)
theorem jm_rokZ {o : Option jm_V} (h : jm_rok (some .boolean) o) : ∃ r, o = some (jm_I r) ∧ (r = 0 ∨ r = 1) := by
  rcases h with ⟨q, -⟩ | ⟨q, -⟩ | ⟨-, h⟩ | ⟨q, -⟩ | ⟨⟨_, q⟩, -⟩ | ⟨_, q1 | q1, q, -⟩ <;> first | exact h | (cases q; done) | (subst q1; cases q)
theorem jm_rokL {o : Option jm_V} (h : jm_rok (some .long) o) : ∃ r, o = some (jm_L r) := by
  rcases h with ⟨q, -⟩ | ⟨q, -⟩ | ⟨q, -⟩ | ⟨-, h⟩ | ⟨⟨_, q⟩, -⟩ | ⟨_, q1 | q1, q, -⟩ <;> first | exact h | (cases q; done) | (subst q1; cases q)
theorem jm_rokV {o : Option jm_V} (h : jm_rok none o) : o = none := by
  rcases h with ⟨-, h⟩ | ⟨q, -⟩ | ⟨q, -⟩ | ⟨q, -⟩ | ⟨⟨_, q⟩, -⟩ | ⟨_, q1 | q1, q, -⟩ <;> first | exact h | (cases q; done) | (subst q1; cases q)
theorem jm_rokR {o : Option jm_V} {nm : String} (h : jm_rok (some (.object nm)) o) : ∃ r, o = some (jm_R r) := by
  rcases h with ⟨q, -⟩ | ⟨q, -⟩ | ⟨q, -⟩ | ⟨q, -⟩ | ⟨-, h⟩ | ⟨_, q1 | q1, q, -⟩ <;> first | exact h | (cases q; done) | (subst q1; cases q)
theorem jm_r_I {x : Int} : jm_rok (some .int) (some (jm_I x)) := Or.inr (Or.inl ⟨rfl, x, rfl⟩)
theorem jm_r_Z {x : Int} (h : x = 0 ∨ x = 1) : jm_rok (some .boolean) (some (jm_I x)) := Or.inr (Or.inr (Or.inl ⟨rfl, x, rfl, h⟩))
theorem jm_r_L {x : Int} : jm_rok (some .long) (some (jm_L x)) := Or.inr (Or.inr (Or.inr (Or.inl ⟨rfl, x, rfl⟩)))
theorem jm_r_V : jm_rok none none := Or.inl ⟨rfl, rfl⟩
theorem jm_r_R {x : Int} {nm : String} : jm_rok (some (.object nm)) (some (jm_R x)) := Or.inr (Or.inr (Or.inr (Or.inr (Or.inl ⟨⟨nm, rfl⟩, x, rfl⟩))))
theorem jm_r_C {x : Int} (h : narrow .char (.int (Int32.ofInt x)) = .int (Int32.ofInt x)) : jm_rok (some .char) (some (jm_I x)) := Or.inr (Or.inr (Or.inr (Or.inr (Or.inr ⟨.char, Or.inl rfl, rfl, x, rfl, h⟩))))
theorem jm_r_B {x : Int} (h : narrow .byte (.int (Int32.ofInt x)) = .int (Int32.ofInt x)) : jm_rok (some .byte) (some (jm_I x)) := Or.inr (Or.inr (Or.inr (Or.inr (Or.inr ⟨.byte, Or.inr rfl, rfl, x, rfl, h⟩))))
theorem jm_rokC {o : Option jm_V} (h : jm_rok (some .char) o) : ∃ r, o = some (jm_I r) := by
  rcases h with ⟨q, -⟩ | ⟨q, -⟩ | ⟨q, -⟩ | ⟨q, -⟩ | ⟨⟨_, q⟩, -⟩ | ⟨_, -, -, x, h, -⟩ <;> first | exact ⟨_, h⟩ | cases q
theorem jm_rokB {o : Option jm_V} (h : jm_rok (some .byte) o) : ∃ r, o = some (jm_I r) := by
  rcases h with ⟨q, -⟩ | ⟨q, -⟩ | ⟨q, -⟩ | ⟨q, -⟩ | ⟨⟨_, q⟩, -⟩ | ⟨_, -, -, x, h, -⟩ <;> first | exact ⟨_, h⟩ | cases q
theorem jm_getI {C : String} {T : u_T} {N c idx k : Nat} {ty0 : Nat → FieldType} {a ki x : Int} (hcf : jm_cf C T N c ty0) (hk : k < N) (hlink : Cond.fieldLink Y.1.cls idx (T k).1 (T k).2.1 (T k).2.2.1 ∈ jm_tbl) (hd : decode Y.2.1 pc = .ok (.getfield idx, 3)) (ht : jm_ft c k = 0) (hki : (k : Int) = ki)
    (hx : jm_is n a 1 c) (hv : μ a ki = x) (h : jm_G E Y R n' n cs sl (pc + 3) L (jm_I x :: st) μ Q) : jm_G E Y R n' n cs sl pc L (jm_R a :: st) μ Q :=
  jm_getf hcf.1 hcf.2.1 hcf.2.2.1 hk hlink hd hx (by rw [ht, hki, hv]; exact h)
theorem jm_getL {C : String} {T : u_T} {N c idx k : Nat} {ty0 : Nat → FieldType} {a ki x : Int} (hcf : jm_cf C T N c ty0) (hk : k < N) (hlink : Cond.fieldLink Y.1.cls idx (T k).1 (T k).2.1 (T k).2.2.1 ∈ jm_tbl) (hd : decode Y.2.1 pc = .ok (.getfield idx, 3)) (ht : jm_ft c k = 1) (hki : (k : Int) = ki)
    (hx : jm_is n a 1 c) (hv : μ a ki = x) (h : jm_G E Y R n' n cs sl (pc + 3) L (jm_L x :: st) μ Q) : jm_G E Y R n' n cs sl pc L (jm_R a :: st) μ Q :=
  jm_getf hcf.1 hcf.2.1 hcf.2.2.1 hk hlink hd hx (by rw [ht, hki, hv]; exact h)
theorem jm_getR {C : String} {T : u_T} {N c idx k : Nat} {ty0 : Nat → FieldType} {a ki x : Int} (hcf : jm_cf C T N c ty0) (hk : k < N) (hlink : Cond.fieldLink Y.1.cls idx (T k).1 (T k).2.1 (T k).2.2.1 ∈ jm_tbl) (hd : decode Y.2.1 pc = .ok (.getfield idx, 3)) (ht : jm_ft c k = 2) (hki : (k : Int) = ki)
    (hx : jm_is n a 1 c) (hv : μ a ki = x) (h : jm_G E Y R n' n cs sl (pc + 3) L (jm_R x :: st) μ Q) : jm_G E Y R n' n cs sl pc L (jm_R a :: st) μ Q :=
  jm_getf hcf.1 hcf.2.1 hcf.2.2.1 hk hlink hd hx (by rw [ht, hki, hv]; exact h)
theorem jm_putI {C : String} {T : u_T} {N c idx k : Nat} {ty0 : Nat → FieldType} {a ki x : Int} (hcf : jm_cf C T N c ty0) (hk : k < N) (hlink : Cond.fieldLink Y.1.cls idx (T k).1 (T k).2.1 (T k).2.2.1 ∈ jm_tbl) (hd : decode Y.2.1 pc = .ok (.putfield idx, 3)) (hfin : (T k).2.2.2 = true → Y.1.name = "<init>" ∧ (T k).1 = Y.1.cls) (ht : jm_ft c k = 0) (hty : ty0 k = .int) (hki : (k : Int) = ki)
    (hwf : n = jm_N → jm_fin c k = false) (hx : jm_is n a 1 c) (h : jm_G E Y R n' n cs sl (pc + 3) L st (jm_up μ a ki x) Q) : jm_G E Y R n' n cs sl pc L (jm_I x :: jm_R a :: st) μ Q :=
  jm_putf ty0 hcf.1 hcf.2.2.2.1 hcf.2.2.2.2 hcf.2.1 hcf.2.2.1 hk hlink hfin hd (x := x) (by rw [ht]; rfl) (by rw [hty]; rfl) (by rw [hty]; rfl) hwf hx (by rw [hki]; exact h)
theorem jm_putZ {C : String} {T : u_T} {N c idx k : Nat} {ty0 : Nat → FieldType} {a ki x : Int} (hcf : jm_cf C T N c ty0) (hk : k < N) (hlink : Cond.fieldLink Y.1.cls idx (T k).1 (T k).2.1 (T k).2.2.1 ∈ jm_tbl) (hd : decode Y.2.1 pc = .ok (.putfield idx, 3)) (hfin : (T k).2.2.2 = true → Y.1.name = "<init>" ∧ (T k).1 = Y.1.cls) (ht : jm_ft c k = 0) (hty : ty0 k = .boolean) (hki : (k : Int) = ki)
    (h01 : x = 0 ∨ x = 1) (hwf : n = jm_N → jm_fin c k = false) (hx : jm_is n a 1 c) (h : jm_G E Y R n' n cs sl (pc + 3) L st (jm_up μ a ki x) Q) : jm_G E Y R n' n cs sl pc L (jm_I x :: jm_R a :: st) μ Q :=
  jm_putf ty0 hcf.1 hcf.2.2.2.1 hcf.2.2.2.2 hcf.2.1 hcf.2.2.1 hk hlink hfin hd (x := x) (by rw [ht]; rfl) (by rw [hty]; exact jm_nz h01) (by rw [hty]; exact jm_fz h01) hwf hx (by rw [hki]; exact h)
theorem jm_putL {C : String} {T : u_T} {N c idx k : Nat} {ty0 : Nat → FieldType} {a ki x : Int} (hcf : jm_cf C T N c ty0) (hk : k < N) (hlink : Cond.fieldLink Y.1.cls idx (T k).1 (T k).2.1 (T k).2.2.1 ∈ jm_tbl) (hd : decode Y.2.1 pc = .ok (.putfield idx, 3)) (hfin : (T k).2.2.2 = true → Y.1.name = "<init>" ∧ (T k).1 = Y.1.cls) (ht : jm_ft c k = 1) (hty : ty0 k = .long) (hki : (k : Int) = ki)
    (hwf : n = jm_N → jm_fin c k = false) (hx : jm_is n a 1 c) (h : jm_G E Y R n' n cs sl (pc + 3) L st (jm_up μ a ki x) Q) : jm_G E Y R n' n cs sl pc L (jm_L x :: jm_R a :: st) μ Q :=
  jm_putf ty0 hcf.1 hcf.2.2.2.1 hcf.2.2.2.2 hcf.2.1 hcf.2.2.1 hk hlink hfin hd (x := x) (by rw [ht]; rfl) (by rw [hty]; rfl) (by rw [hty]; rfl) hwf hx (by rw [hki]; exact h)
theorem jm_putR {C : String} {T : u_T} {N c idx k : Nat} {ty0 : Nat → FieldType} {a ki x : Int} (hcf : jm_cf C T N c ty0) (hk : k < N) (hlink : Cond.fieldLink Y.1.cls idx (T k).1 (T k).2.1 (T k).2.2.1 ∈ jm_tbl) (hd : decode Y.2.1 pc = .ok (.putfield idx, 3)) (hfin : (T k).2.2.2 = true → Y.1.name = "<init>" ∧ (T k).1 = Y.1.cls) (ht : jm_ft c k = 2) (hty : (∃ nm, ty0 k = .object nm) ∨ ∃ t, ty0 k = .array t) (hki : (k : Int) = ki)
    (hwf : n = jm_N → jm_fin c k = false) (hx : jm_is n a 1 c) (h : jm_G E Y R n' n cs sl (pc + 3) L st (jm_up μ a ki x) Q) : jm_G E Y R n' n cs sl pc L (jm_R x :: jm_R a :: st) μ Q := by
  have hcv : jm_cv E (jm_R x) = .null ∨ ∃ a, jm_cv E (jm_R x) = .ref a := by
    show (if x = -1 then Value.null else Value.ref (jm_ad E x)) = .null ∨ ∃ a, (if x = -1 then Value.null else Value.ref (jm_ad E x)) = .ref a
    split
    · exact Or.inl rfl
    · exact Or.inr ⟨_, rfl⟩
  refine jm_putf ty0 hcf.1 hcf.2.2.2.1 hcf.2.2.2.2 hcf.2.1 hcf.2.2.1 hk hlink hfin hd (x := x) (by rw [ht]; rfl) ?_ ?_ hwf hx (by rw [hki]; exact h)
  · rcases hty with ⟨nm, hty⟩ | ⟨t, hty⟩ <;> rcases hcv with q | ⟨a, q⟩ <;> rw [hty, q] <;> rfl
  · rcases hty with ⟨nm, hty⟩ | ⟨t, hty⟩ <;> rcases hcv with q | ⟨a, q⟩ <;> rw [hty, q] <;> rfl
/-- a field that is set once -/
theorem jm_getF {C : String} {T : u_T} {N c idx k : Nat} {ty0 : Nat → FieldType} {a ki x : Int} (hn : n = jm_N) (hcf : jm_cf C T N c ty0) (hk : k < N) (hlink : Cond.fieldLink Y.1.cls idx (T k).1 (T k).2.1 (T k).2.2.1 ∈ jm_tbl) (hd : decode Y.2.1 pc = .ok (.getfield idx, 3)) (ht : jm_ft c k = 2) (hki : (k : Int) = ki)
    (hx : jm_is n a 1 c) (hv : (a, ki, x) ∈ jm_frl) (h : jm_G E Y R n' n cs sl (pc + 3) L (jm_R x :: st) μ Q) : jm_G E Y R n' n cs sl pc L (jm_R a :: st) μ Q := by
  intro p e s m args below meth cc Z H locs ls C hZ hR hS hl hL hst
  have hw : μ a ki = x := (hR.2.2.2.2.2 hn).1 (a, ki, x) hv
  exact jm_getR hcf hk hlink hd ht hki hx hw h p e s m args below meth cc Z H locs ls C hZ hR hS hl hL hst
theorem jm_alen {a : Int} {t : Nat} (ht : t = 2 ∨ t = 3) (hx : jm_ia n a t) (hd : decode Y.2.1 pc = .ok (.arraylength, 1)) (h : jm_G E Y R n' n cs sl (pc + 1) L (jm_I (jm_sn a) :: st) μ Q) : jm_G E Y R n' n cs sl pc L (jm_R a :: st) μ Q :=
  jm_arrlen ht ⟨hx.1, hx.2.1, hx.2.2.1⟩ hd hx.2.2.2 h
end JMF2
theorem jm_up_k {m : jm_M} {p i v q : Int} (h : jm_sk q ≠ jm_sk p) : jm_up m p i v q = m q := jm_up_ne (fun z => h (by rw [z]))
theorem jm_up_n {m : jm_M} {p i v q : Int} (h : jm_sn q ≠ jm_sn p) : jm_up m p i v q = m q := jm_up_ne (fun z => h (by rw [z]))
theorem jm_up_kj {m : jm_M} {p i v q j : Int} {k1 k2 : Nat} (h1 : jm_sk q = k1) (h2 : jm_sk p = k2) (h : k1 ≠ k2) : jm_up m p i v q j = m q j := by rw [jm_up_k (by rw [h1, h2]; exact h)]
theorem jm_up_nj {m : jm_M} {p i v q j : Int} {k1 k2 : Nat} (h1 : jm_sn q = k1) (h2 : jm_sn p = k2) (h : k1 ≠ k2) : jm_up m p i v q j = m q j := by rw [jm_up_n (by rw [h1, h2]; exact h)]
end
section
/-! more forms -/
section JMF3
variable {E : jm_E} {Y : jm_Y} {R : Room} {n' n cs sl pc : Nat} {L : List (Option jm_V)} {st : List jm_V} {μ : jm_M} {Q : Option jm_V → jm_M → Prop}
theorem jm_sl_len : ∀ (av : List jm_V), (lg_sl (av.map (jm_cv E))).length = (jm_en av).length
  | [] => rfl
  | v :: t => by
    have ih := jm_sl_len t
    have e0 : lg_sl ((v :: t).map (jm_cv E)) = (if (jm_cv E v).category = 2 then [Slot.val (jm_cv E v), .second] else [.val (jm_cv E v)]) ++ lg_sl (t.map (jm_cv E)) := rfl
    rw [e0, List.length_append, ih]
    by_cases hv : jm_lg v = true
    · have hc : (jm_cv E v).category = 2 := by
        rcases v with v | v | v
        · simp [jm_lg] at hv
        · rfl
        · simp [jm_lg] at hv
      rw [jm_en, if_pos hv, if_pos hc]
      simp only [List.length_cons, List.length_nil]
      omega
    · have hc : ¬ (jm_cv E v).category = 2 := fun z => hv (jm_cat2 z)
      rw [jm_en, if_neg hv, if_neg hc]
      simp only [List.length_cons, List.length_nil]
      omega
theorem jm_Cl.of2 {d mc ms : Nat} {av : List jm_V} {L0 : List (Option jm_V)} (hy : plainName Y.1.cls = true) (hL : jm_en av ++ List.replicate (Y.2.2.1 - (jm_en av).length) none = L0) (hlen : (jm_en av).length ≤ Y.2.2.1) (h : (∀ v ∈ av, jm_ok v) → jm_G E Y (jm_rm d mc ms) n' n 0 0 0 L0 [] μ Q) : jm_Cl E Y d n n' mc ms av μ Q :=
  jm_Cl.of hy (by rw [jm_sl_len]; exact hlen) (fun q => by rw [hL]; exact h q)
/-- the top number gets a name -/
theorem jm_nmI {x : Int} (h : ∀ y : Int, y = x → jm_G E Y R n' n cs sl pc L (jm_I y :: st) μ Q) : jm_G E Y R n' n cs sl pc L (jm_I x :: st) μ Q := h x rfl
theorem jm_ialoadv {a i x : Int} (hd : decode Y.2.1 pc = .ok (.iaload, 1)) (hx : jm_ix n a 2 i) (hv : μ a i = x) (h : jm_G E Y R n' n cs sl (pc + 1) L (jm_I x :: st) μ Q) : jm_G E Y R n' n cs sl pc L (jm_I i :: jm_R a :: st) μ Q := by
  subst hv
  exact jm_iaload hd hx h
theorem jm_baloadv {a i x : Int} (hd : decode Y.2.1 pc = .ok (.baload, 1)) (hx : jm_ix n a 4 i) (hv : μ a i = x) (h : jm_G E Y R n' n cs sl (pc + 1) L (jm_I x :: st) μ Q) : jm_G E Y R n' n cs sl pc L (jm_I i :: jm_R a :: st) μ Q := by
  subst hv
  exact jm_baload hd hx h
theorem jm_laloadv {a i x : Int} (hd : decode Y.2.1 pc = .ok (.laload, 1)) (hx : jm_ix n a 3 i) (hv : μ a i = x) (h : jm_G E Y R n' n cs sl (pc + 1) L (jm_L x :: st) μ Q) : jm_G E Y R n' n cs sl pc L (jm_I i :: jm_R a :: st) μ Q := by
  subst hv
  exact jm_laload hd hx h
/-- arraycopy is known to the tables -/
theorem jm_acpw : Cond.native arraycopyName ∈ jm_tbl ∧ Cond.static arraycopyName ∈ jm_tbl ∧ Cond.initialized "java/lang/System" ∈ jm_tbl := ⟨jm_tb (List.mem_of_getElem? (i := 598) (by decide +kernel)) rfl, jm_tb (List.mem_of_getElem? (i := 597) (by decide +kernel)) rfl, jm_tb (List.mem_of_getElem? (i := 34) (by decide +kernel)) rfl⟩
theorem jm_acp {d idx : Nat} {src dst k : Int} (hf : 0 ≤ k ∧ jm_ia jm_N src 2 ∧ k ≤ jm_sn src ∧ jm_ia jm_N dst 2 ∧ k ≤ jm_sn dst) (hlink : Cond.methodLink Y.1.cls idx arraycopyName ∈ jm_tbl) (hd : decode Y.2.1 pc = .ok (.invokestatic idx, 3)) (h : jm_G E Y (jm_rm (d + 1) 0 0) jm_N jm_N cs sl (pc + 3) L [] (jm_cpy μ src 0 dst 0 k) Q) :
    jm_G E Y (jm_rm (d + 1) 0 0) jm_N jm_N cs sl pc L [jm_I k, jm_I 0, jm_R dst, jm_I 0, jm_R src] μ Q :=
  jm_acopy rfl ⟨by show 36 ≤ 44 * (d + 1); omega, by show 1 ≤ d + 1; omega⟩ rfl hlink jm_acpw.1 jm_acpw.2.1 jm_acpw.2.2 hd hf.1 ⟨hf.2.1.1, hf.2.1.2.1, hf.2.1.2.2.1, hf.2.2.1⟩ ⟨hf.2.2.2.1.1, hf.2.2.2.1.2.1, hf.2.2.2.1.2.2.1, hf.2.2.2.2⟩ h
theorem jm_acpl {d idx : Nat} {src dst k : Int} (hf : 0 ≤ k ∧ jm_ia jm_N src 3 ∧ k ≤ jm_sn src ∧ jm_ia jm_N dst 3 ∧ k ≤ jm_sn dst) (hlink : Cond.methodLink Y.1.cls idx arraycopyName ∈ jm_tbl) (hd : decode Y.2.1 pc = .ok (.invokestatic idx, 3)) (h : jm_G E Y (jm_rm (d + 1) 0 0) jm_N jm_N cs sl (pc + 3) L [] (jm_cpy μ src 0 dst 0 k) Q) :
    jm_G E Y (jm_rm (d + 1) 0 0) jm_N jm_N cs sl pc L [jm_I k, jm_I 0, jm_R dst, jm_I 0, jm_R src] μ Q :=
  jm_acopyl rfl ⟨by show 36 ≤ 44 * (d + 1); omega, by show 1 ≤ d + 1; omega⟩ rfl hlink jm_acpw.1 jm_acpw.2.1 jm_acpw.2.2 hd hf.1 ⟨hf.2.1.1, hf.2.1.2.1, hf.2.1.2.2.1, hf.2.2.1⟩ ⟨hf.2.2.2.1.1, hf.2.2.2.1.2.1, hf.2.2.2.1.2.2.1, hf.2.2.2.2⟩ h
end JMF3
end
section
/-! the law's row of cells: what it holds is of no account -/
section JMX
variable {E : jm_E} {Y : jm_Y} {R : Room} {n' n cs sl pc : Nat} {L : List (Option jm_V)} {st : List jm_V} {μ : jm_M} {Q : Option jm_V → jm_M → Prop}
theorem jm_xget {H : Heap} (hR : jm_Rel E jm_N μ H) (hx : jm_xp E ≠ 0) : jm_N ≤ jm_xp E ∧ ∃ f : Nat → Int32, va_at (jm_D E) jm_cl (jm_b E + jm_xp E, .inl (jm_cA E 0, 60, .inl f)) H := by
  rcases (hR.2.2.2.2.2 rfl).2 with h | h
  · exact absurd h hx
  · exact h
theorem jm_xP {H : Heap} {q : Nat × va_E} (h : va_at (jm_D E) jm_cl q H) : va_P (jm_D E) jm_cl [q] H := by
  intro k x hk
  have hk0 : k < 1 := (List.getElem?_eq_some_iff.mp hk).1
  rw [show k = 0 by omega] at hk
  cases hk
  exact h
theorem jm_xload {i : Int} (hd : decode Y.2.1 pc = .ok (.iaload, 1)) (hx : jm_xp E ≠ 0) (hi : 0 ≤ i ∧ i < 60) (h : ∀ x : Int, jm_ok (jm_I x) → jm_G E Y R n' jm_N cs sl (pc + 1) L (jm_I x :: st) μ Q) : jm_G E Y R n' jm_N cs sl pc L (jm_I i :: jm_R (jm_xp E : Int) :: st) μ Q := by
  obtain ⟨j, rfl⟩ := jm_nat hi.1
  intro p e s m args below meth c Z H locs ls C hZ hR hS hl hL hst
  obtain ⟨h1, f, h2⟩ := jm_xget hR hx
  have hi' := hst _ List.mem_cons_self
  rw [List.map_cons, List.map_cons, jm_cvR]
  refine va_iald C.1 C.2.1 C.2.2.2.2.2.2.2.1 (jm_xP h2) 0 0 rfl rfl (jm_vpin hi' (by omega)) hd ?_
  have h3 := h (f (Int32.ofInt (j : Int)).toNatClampNeg).toInt (jm_ok32 _) p e s m args below meth c Z H locs ls C hZ hR hS hl hL (jm_cons (jm_ok32 _) (jm_tail2 hst))
  rw [List.map_cons] at h3
  have e1 : jm_cv E (jm_I (f (Int32.ofInt (j : Int)).toNatClampNeg).toInt) = .int (f (Int32.ofInt (j : Int)).toNatClampNeg) := by
    show Value.int (Int32.ofInt _) = _
    rw [jm_ofToInt]
  rw [e1] at h3
  exact h3
theorem jm_xlen (hd : decode Y.2.1 pc = .ok (.arraylength, 1)) (hx : jm_xp E ≠ 0) (h : jm_G E Y R n' jm_N cs sl (pc + 1) L (jm_I 60 :: st) μ Q) : jm_G E Y R n' jm_N cs sl pc L (jm_R (jm_xp E : Int) :: st) μ Q := by
  intro p e s m args below meth c Z H locs ls C hZ hR hS hl hL hst
  obtain ⟨h1, f, h2⟩ := jm_xget hR hx
  have hz := h p e s m args below meth c Z H locs ls C hZ hR hS hl hL (jm_cons ⟨by omega, by omega⟩ (jm_tail hst))
  rw [List.map_cons] at hz
  rw [List.map_cons, jm_cvR]
  exact va_alen C.1 C.2.1 C.2.2.2.2.2.2.2.1 (jm_xP h2) 0 0 rfl rfl rfl hd hz
theorem jm_Rel_x {H H1 : Heap} (hR : jm_Rel E jm_N μ H) (hz : H1.size = H.size) (hx : jm_N ≤ jm_xp E) (oq : ∀ q : Nat, q ≠ jm_b E + jm_xp E → H1[q]? = H[q]?) (hc : ∃ f : Nat → Int32, va_at (jm_D E) jm_cl (jm_b E + jm_xp E, .inl (jm_cA E 0, 60, .inl f)) H1) : jm_Rel E jm_N μ H1 := by
  obtain ⟨hP, hO, h1, h2, h3, h4⟩ := hR
  refine ⟨fun j q hq => ?_, hO, h1, by rw [hz]; exact h2, fun z => absurd z (Nat.lt_irrefl _), fun _ => ⟨(h4 rfl).1, Or.inr ⟨hx, hc⟩⟩⟩
  have hj : j < jm_N := by
    have := (List.getElem?_eq_some_iff.mp hq).1
    rwa [jm_ws_len] at this
  rw [jm_ws_get hj] at hq
  cases hq
  exact (hP j _ (jm_ws_get hj)).kept (oq _ (show jm_b E + j ≠ jm_b E + jm_xp E by omega))
theorem jm_xstore {i x : Int} (hd : decode Y.2.1 pc = .ok (.iastore, 1)) (hx : jm_xp E ≠ 0) (hi : 0 ≤ i ∧ i < 60) (h : jm_G E Y R n' jm_N cs sl (pc + 1) L st μ Q) : jm_G E Y R n' jm_N cs sl pc L (jm_I x :: jm_I i :: jm_R (jm_xp E : Int) :: st) μ Q := by
  obtain ⟨j, rfl⟩ := jm_nat hi.1
  intro p e s m args below meth c Z H locs ls C hZ hR hS hl hL hst
  obtain ⟨h1, f, h2⟩ := jm_xget hR hx
  have hi' := hst _ (List.mem_cons_of_mem _ List.mem_cons_self)
  have hK : va_K (jm_D E) jm_cl (jm_tys E) s := C.2.2.2.2.2.2.2.1
  have hcell : H[jm_b E + jm_xp E]? = some (arrV (jm_cA E 0) 60 (fun q : Nat => .int (f q))) := h2
  rw [List.map_cons, List.map_cons, List.map_cons, jm_cvR]
  refine W.iast C.1 C.2.1 hcell ((hK.2 0 _ rfl).1 60 _) (fun q => by cases q) (by rw [arrV_size]; exact jm_vpin hi' (by omega)) rfl rfl hd fun H1 e1 z oq => ?_
  have ha : jm_A E (jm_b E + jm_xp E) := Nat.le_add_right _ _
  refine h p e s m args below meth c Z H1 _ ls C hZ (jm_Rel_x hR z h1 oq ⟨fun q => if q = (Int32.ofInt (j : Int)).toNatClampNeg then Int32.ofInt x else f q, ?_⟩) (hS.put z oq ha) hl hL (jm_tail (jm_tail2 hst))
  show H1[jm_b E + jm_xp E]? = some (vp_cell _ _)
  rw [e1, vp_cell_i, arrV_store]
  congr 2
  funext q
  unfold updV
  split <;> rfl
theorem jm_cv_x {z : Nat} : jm_cv (jm_setx E z) = jm_cv E := by
  funext v
  rcases v with v | v | v <;> rfl
theorem jm_lo_x {z : Nat} : ∀ (L : List (Option jm_V)) (k : Nat), jm_lo (jm_setx E z) k L = jm_lo E k L
  | [], _ => rfl
  | none :: t, k => jm_lo_x t (k + 1)
  | some v :: t, k => by
    show (k, jm_cv (jm_setx E z) v) :: jm_lo (jm_setx E z) (k + 1) t = (k, jm_cv E v) :: jm_lo E (k + 1) t
    rw [jm_lo_x t (k + 1), jm_cv_x]
theorem jm_Rel_back {z : Nat} {H : Heap} (hx : jm_xp E = 0) (h : jm_Rel (jm_setx E z) n μ H) : jm_Rel E n μ H := by
  obtain ⟨hP, hO, h1, h2, h3, h4⟩ := h
  exact ⟨hP, hO, h1, h2, fun q => ⟨(h3 q).1, hx⟩, fun q => ⟨(h4 q).1, Or.inl hx⟩⟩
theorem jm_newx (harr : Cond.arrayClass .int ∈ jm_tbl) (hx : jm_xp E = 0) (hd : decode Y.2.1 pc = .ok (.newarray .int, 2)) (hcells : cs + 1 ≤ R.cells) (hslots : sl + 60 ≤ R.slots)
    (h : ∀ z : Nat, jm_N ≤ z → jm_G (jm_setx E z) Y R n' jm_N (cs + 1) (sl + 60) (pc + 2) L (jm_R (z : Int) :: st) μ Q) : jm_G E Y R n' jm_N cs sl pc L (jm_I 60 :: st) μ Q := by
  intro p e s m args below meth cc Z H locs ls X hZ hR hS hl hL hst
  have hts := X.2.2.2.2.1
  have hK : va_K (jm_D E) jm_cl (jm_tys E) s := X.2.2.2.2.2.2.2.1
  have hsz := hR.2.2.2.1
  refine va_newaK (atype := .int) X.1 X.2.1 (hts _ harr) rfl hd rfl (n := Int32.ofInt 60) (N := 60) (by decide +kernel) (by decide +kernel) (by decide +kernel) hcells hslots rfl fun H1 cA e1 z1 o1 hAr hNm => ?_
  have hcA : cA = jm_cA E 0 := by
    have h4 := (hK.2 0 _ rfl).2
    exact Option.some.inj (hNm.symm.trans h4)
  have hz : jm_b E + (H.size - jm_b E) = H.size := by omega
  have hzN : jm_N ≤ H.size - jm_b E := by omega
  have h1 := h (H.size - jm_b E) hzN p e s m args below meth cc Z H1 locs ls X (fun o m1 H2 locs1 pc1 ls1 q1 q2 q3 q4 q5 q6 => by rw [jm_cv_x]; exact hZ o m1 H2 locs1 pc1 ls1 q1 q2 q3 (jm_Rel_back hx q4) q5 q6)
    ?_ ⟨by have := hS.1; omega, fun x g1 g2 => (o1 x (by have := hS.1; omega)).trans (hS.2.1 x g1 g2), hS.2.2⟩ (by rw [jm_lo_x]; exact hl) hL (jm_cons trivial (jm_tail hst))
  · rw [List.map_cons, jm_cv_x, jm_cvR, hz] at h1
    exact h1
  · obtain ⟨hP, hO, g1, g2, g3, g4⟩ := hR
    refine ⟨hP.kept fun k x hx => o1 x.1 ((hP k x hx).lt), hO, g1, by show jm_b E + jm_N ≤ H1.size; omega, fun q => absurd q (Nat.lt_irrefl _), fun _ => ⟨(g4 rfl).1, Or.inr ⟨hzN, fun _ => 0, ?_⟩⟩⟩
    show H1[jm_b E + (H.size - jm_b E)]? = some (vp_cell _ _)
    rw [hz, e1, vp_cell_i, hcA]
    rfl
end JMX
end
section
/-! String constants of the law: length, charAt -/
/-- a String constant's place -/
def jm_ik (a : Int) : Prop := -114 ≤ a ∧ a ≤ -101
def jm_klen (a : Int) : Int := ((jm_kn.getD (-101 - a).toNat 0 : Nat) : Int)
def jm_kch (a j : Int) : Int := (jm_kt.getD (-101 - a).toNat []).getD j.toNat 0
theorem jm_kall : ∀ i : Nat, i < 14 → jm_kn.getD i 0 ≤ 17 ∧ ∀ j : Nat, j < 17 → (j < jm_kn.getD i 0 → (jm_kb.getD i []).getD j 0 = Int32.ofInt ((jm_kt.getD i []).getD j 0) ∧ 0 ≤ (jm_kt.getD i []).getD j 0 ∧ (jm_kt.getD i []).getD j 0 < 128) := by decide +kernel
section JMK
variable {E : jm_E} {Y : jm_Y} {R : Room} {n' n cs sl pc : Nat} {L : List (Option jm_V)} {st : List jm_V} {μ : jm_M} {Q : Option jm_V → jm_M → Prop}
theorem jm_ik_nat {a : Int} (h : jm_ik a) : ∃ i : Nat, i < 14 ∧ a = -101 - (i : Int) ∧ (-101 - a).toNat = i := ⟨(-101 - a).toNat, by unfold jm_ik at h; omega, by unfold jm_ik at h; omega, rfl⟩
theorem jm_cvK {i : Nat} (hi : i < 14) : jm_cv E (jm_R (-101 - (i : Int))) = .ref (jm_aK E i) := by
  show (if (-101 - (i : Int)) = -1 then Value.null else Value.ref (jm_ad E (-101 - (i : Int)))) = _
  rw [if_neg (by omega)]
  unfold jm_ad
  rw [if_neg (by omega), if_neg (by omega), if_neg (by omega), if_neg (by omega), if_pos (by omega)]
  congr 2
  omega
theorem jm_cvF : jm_cv E (jm_R (-121)) = .ref (jm_aK E 20) := rfl
theorem jm_cvB {i : Nat} : jm_cv E (jm_R (-201 - (i : Int))) = .ref (jm_aV E i) := by
  show (if (-201 - (i : Int)) = -1 then Value.null else Value.ref (jm_ad E (-201 - (i : Int)))) = _
  rw [if_neg (by omega)]
  unfold jm_ad
  rw [if_neg (by omega), if_neg (by omega), if_neg (by omega), if_pos (by omega)]
  congr 2
  omega
theorem jm_ldcK {i idx : Nat} {a : Int} (hi : i < 14) (ha : a = -101 - (i : Int)) (hidx : (jm_ks.getD i (0, "")).1 = idx) (hY : Y.1.cls = "CombTableLaw") (hd : decode Y.2.1 pc = .ok (.ldc idx, 2)) (h : jm_G E Y R n' n cs sl (pc + 2) L (jm_R a :: st) μ Q) : jm_G E Y R n' n cs sl pc L st μ Q := by
  subst ha
  intro p e s m args below meth c Z H locs ls C hZ hR hS hl hL hst
  have hX : jm_XS E s s.heap := C.2.2.2.2.2.2.2.2.1.2.2
  have hk := hX.2.2.2 i hi
  rw [hidx] at hk
  refine va_ldcS C.1 C.2.1 (own := "CombTableLaw") (by rw [← hY]; exact C.2.2.2.1) hk hd ?_
  have h1 := h p e s m args below meth c Z H locs ls C hZ hR hS hl hL (jm_cons trivial hst)
  rw [List.map_cons, jm_cvK hi] at h1
  exact h1
theorem jm_getKc {idx : Nat} {a : Int} (ha : jm_ik a) (hlink : Cond.fieldLink Y.1.cls idx "java/lang/String" "coder" "B" ∈ jm_tbl) (hd : decode Y.2.1 pc = .ok (.getfield idx, 3)) (h : jm_G E Y R n' n cs sl (pc + 3) L (jm_I 0 :: st) μ Q) : jm_G E Y R n' n cs sl pc L (jm_R a :: st) μ Q := by
  obtain ⟨i, hi, rfl, -⟩ := jm_ik_nat ha
  intro p e s m args below meth c Z H locs ls C hZ hR hS hl hL hst
  have hX : jm_XS E s s.heap := C.2.2.2.2.2.2.2.2.1.2.2
  rw [List.map_cons, jm_cvK hi]
  exact vk_getf C.1 C.2.1 (hX.2.2.1.1 i hi).2.1 hS C.2.2.2.1 (C.2.2.2.2.1 _ hlink) (fun _ z => z) hd (h p e s m args below meth c Z H locs ls C hZ hR hS hl hL (jm_cons ⟨by omega, by omega⟩ (jm_tail hst)))
theorem jm_getKv {idx : Nat} {a : Int} (ha : jm_ik a) (hlink : Cond.fieldLink Y.1.cls idx "java/lang/String" "value" "[B" ∈ jm_tbl) (hd : decode Y.2.1 pc = .ok (.getfield idx, 3)) (h : jm_G E Y R n' n cs sl (pc + 3) L (jm_R (a - 100) :: st) μ Q) : jm_G E Y R n' n cs sl pc L (jm_R a :: st) μ Q := by
  obtain ⟨i, hi, rfl, -⟩ := jm_ik_nat ha
  intro p e s m args below meth c Z H locs ls C hZ hR hS hl hL hst
  have hX : jm_XS E s s.heap := C.2.2.2.2.2.2.2.2.1.2.2
  rw [List.map_cons, jm_cvK hi]
  refine vk_getf C.1 C.2.1 (hX.2.2.1.1 i hi).2.2.1 hS C.2.2.2.1 (C.2.2.2.2.1 _ hlink) (fun _ z => z) hd ?_
  have h1 := h p e s m args below meth c Z H locs ls C hZ hR hS hl hL (jm_cons trivial (jm_tail hst))
  rw [List.map_cons, show (-101 - (i : Int)) - 100 = -201 - (i : Int) by omega, jm_cvB] at h1
  exact h1
theorem jm_getCS {idx : Nat} (hlink : Cond.fieldLink Y.1.cls idx "java/lang/String" "COMPACT_STRINGS" "Z" ∈ jm_tbl) (hd : decode Y.2.1 pc = .ok (.getstatic idx, 3)) (h : jm_G E Y R n' n cs sl (pc + 3) L (jm_I 1 :: st) μ Q) : jm_G E Y R n' n cs sl pc L st μ Q := by
  intro p e s m args below meth c Z H locs ls C hZ hR hS hl hL hst
  have hX : jm_XS E s s.heap := C.2.2.2.2.2.2.2.2.1.2.2
  exact va_gets C.1 C.2.1 hX.1 hS C.2.2.2.1 (C.2.2.2.2.1 _ hlink) (fun _ z => z) hd (h p e s m args below meth c Z H locs ls C hZ hR hS hl hL (jm_cons ⟨by omega, by omega⟩ hst))
theorem jm_getFm {idx : Nat} (hlink : Cond.fieldLink Y.1.cls idx jm_fmC "SIOOBE_FORMATTER" jm_fmD ∈ jm_tbl) (hd : decode Y.2.1 pc = .ok (.getstatic idx, 3)) (h : ∀ x : Int, jm_G E Y R n' n cs sl (pc + 3) L (jm_R x :: st) μ Q) : jm_G E Y R n' n cs sl pc L st μ Q := by
  intro p e s m args below meth c Z H locs ls C hZ hR hS hl hL hst
  have hX : jm_XS E s s.heap := C.2.2.2.2.2.2.2.2.1.2.2
  rcases hX.2.1 with q | q
  · have h1 := h (-1) p e s m args below meth c Z H locs ls C hZ hR hS hl hL (jm_cons trivial hst)
    rw [List.map_cons, (show jm_cv E (jm_R (-1)) = .null by simp [jm_cv])] at h1
    exact va_gets C.1 C.2.1 q hS C.2.2.2.1 (C.2.2.2.2.1 _ hlink) (fun _ z => z) hd h1
  · have h1 := h (-121) p e s m args below meth c Z H locs ls C hZ hR hS hl hL (jm_cons trivial hst)
    rw [List.map_cons, jm_cvF] at h1
    exact va_gets C.1 C.2.1 q hS C.2.2.2.1 (C.2.2.2.2.1 _ hlink) (fun _ z => z) hd h1
theorem jm_lenB {a : Int} (ha : jm_ik a) (hd : decode Y.2.1 pc = .ok (.arraylength, 1)) (h : jm_G E Y R n' n cs sl (pc + 1) L (jm_I (jm_klen a) :: st) μ Q) : jm_G E Y R n' n cs sl pc L (jm_R (a - 100) :: st) μ Q := by
  obtain ⟨i, hi, rfl, hi2⟩ := jm_ik_nat ha
  intro p e s m args below meth c Z H locs ls C hZ hR hS hl hL hst
  have hX : jm_XS E s s.heap := C.2.2.2.2.2.2.2.2.1.2.2
  have hk := (jm_kall i hi).1
  have h1 := h p e s m args below meth c Z H locs ls C hZ hR hS hl hL (jm_cons (by unfold jm_klen; rw [hi2]; exact ⟨by omega, by omega⟩) (jm_tail hst))
  unfold jm_klen at h1
  rw [hi2] at h1
  rw [List.map_cons, show (-101 - (i : Int)) - 100 = -201 - (i : Int) by omega, jm_cvB]
  exact va_tlen C.1 C.2.1 (hX.2.2.1.1 i hi).2.2.2 hS (v := Int32.ofInt ((jm_kn.getD i 0 : Nat) : Int)) rfl hd h1
theorem jm_ldB {a j : Int} (ha : jm_ik a) (h0 : 0 ≤ j) (hj : j < jm_klen a) (hd : decode Y.2.1 pc = .ok (.baload, 1)) (h : jm_G E Y R n' n cs sl (pc + 1) L (jm_I (jm_kch a j) :: st) μ Q) : jm_G E Y R n' n cs sl pc L (jm_I j :: jm_R (a - 100) :: st) μ Q := by
  obtain ⟨i, hi, rfl, hi2⟩ := jm_ik_nat ha
  obtain ⟨k, rfl⟩ := jm_nat h0
  unfold jm_klen at hj
  rw [hi2] at hj
  intro p e s m args below meth c Z H locs ls C hZ hR hS hl hL hst
  have hX : jm_XS E s s.heap := C.2.2.2.2.2.2.2.2.1.2.2
  have hka := jm_kall i hi
  have hk := hka.2 k (by omega) (by omega)
  have hj' := hst _ List.mem_cons_self
  have h1 := h p e s m args below meth c Z H locs ls C hZ hR hS hl hL (jm_cons (by unfold jm_kch; rw [hi2]; exact ⟨by have := hk.2.1; exact Int.le_trans (by decide) this, Int.lt_trans hk.2.2 (by decide)⟩) (jm_tail2 hst))
  unfold jm_kch at h1
  rw [hi2] at h1
  rw [List.map_cons, List.map_cons, show (-101 - (i : Int)) - 100 = -201 - (i : Int) by omega, jm_cvB]
  refine va_tb C.1 C.2.1 (hX.2.2.1.1 i hi).2.2.2 hS (i := Int32.ofInt (k : Int)) (jm_vpin hj' (by omega)) (v := .int (Int32.ofInt ((jm_kt.getD i []).getD k 0))) (by rw [jm_clamp hj', hk.1]) hd ?_
  exact h1
def jm_i2c (a : Int) : Int := ((Int32.ofInt a).toUInt32 % 65536).toInt32.toInt
theorem jm_i2ct {a : Int} (hd : decode Y.2.1 pc = .ok (.i2c, 1)) (h : jm_G E Y R n' n cs sl (pc + 1) L (jm_I (jm_i2c a) :: st) μ Q) : jm_G E Y R n' n cs sl pc L (jm_I a :: st) μ Q :=
  jm_step h (fun q _ => jm_cons (jm_ok32 _) (jm_tail q)) (fun p e s m args below meth c Z H locs ls he hb _ _ _ _ _ w => lv_i2c he hb hd (v := Int32.ofInt (jm_i2c a)) (jm_ofToInt _).symm w)
/-- a method of a String constant -/
theorem jm_invK {Y' : jm_Y} {idx k mc ms d C2 S2 : Nat} {av : List jm_V} {a : Int} {stf : List jm_V} (hw : jm_wV Y' k) (hcls : Y'.1.cls = "java/lang/String") (hlink : Cond.methodLink Y.1.cls idx Y'.1 ∈ jm_tbl) (hd : decode Y.2.1 pc = .ok (.invokevirtual idx, 3)) (hlen : av.length = k) (ha : jm_ik a) (hroom : cs + mc ≤ C2 ∧ sl + ms ≤ S2) (hrest : st.length ≤ 4) (hst : stf = av.reverse ++ jm_R a :: st)
    (h : jm_Cl E Y' d n n mc ms (jm_R a :: av) μ (fun o m1 => jm_rok Y'.2.2.2 o → jm_G E Y (jm_rm (d + 1) C2 S2) n' n (cs + mc) (sl + ms) (pc + 3) L (o.toList ++ st) m1 Q)) : jm_G E Y (jm_rm (d + 1) C2 S2) n' n cs sl pc L stf μ Q := by
  subst hst
  obtain ⟨i, hi, rfl, -⟩ := jm_ik_nat ha
  intro p e s m args below meth c Z H locs ls C hZ hR hS hl hL hst
  have hts := C.2.2.2.2.1
  have hX : jm_XS E s s.heap := C.2.2.2.2.2.2.2.2.1.2.2
  have hM := h (jm_okav hst)
  have hrc := vk_recv hX.2.2.1 hi hS
  rw [← hcls] at hrc
  rw [jm_map_app, jm_cvK hi]
  refine jm_after (va_runV (As := av.map (jm_cv E)) (rest := st.map (jm_cv E)) (C := Y'.1.cls) ⟨C.1, C.2.1, C.2.2.1, C.2.2.2.1, hts⟩ hM ⟨jm_callB hw.1 hts hlink, hts _ hw.2.1, hts _ hw.2.2⟩ ⟨jm_blind, hrc, ?_⟩ rfl (by rw [List.length_map]; exact hlen) hl.1 rfl (lv_room (jm_catsum st hrest)) hd hroom) hS (fun o m1 H1 locs1 hQ ho hrok hR1 hS1 => ?_)
  · have := jm_enter (av := jm_R (-101 - (i : Int)) :: av) C hR hS
    rw [List.map_cons, jm_cvK hi] at this
    exact this
  · have h2 := hQ hrok p e s m args below meth c Z H1 locs1 ls C hZ hR1 hS1 hl hL (jm_okst (av := av.reverse ++ [jm_R (-101 - (i : Int))]) (by rw [List.append_assoc]; exact hst) ho)
    rw [List.map_append] at h2
    have e1 : (o.map (jm_cv E)).toList = o.toList.map (jm_cv E) := by cases o <;> rfl
    rw [e1]
    exact h2
end JMK
end
section
/-! calls over a deeper stack -/
def jm_csn : List jm_V → Nat
  | [] => 0
  | v :: t => cond (jm_lg v) 2 1 + jm_csn t
section JMD
variable {E : jm_E} {Y : jm_Y} {R : Room} {n' n cs sl pc : Nat} {L : List (Option jm_V)} {st : List jm_V} {μ : jm_M} {Q : Option jm_V → jm_M → Prop}
theorem jm_csn_sum : ∀ (st : List jm_V), ((st.map (jm_cv E)).map fun v => v.category).sum ≤ jm_csn st
  | [] => Nat.le_refl _
  | v :: t => by
    have ih := jm_csn_sum t
    rw [List.map_cons, List.map_cons, List.sum_cons]
    unfold jm_csn
    cases hv : jm_lg v with
    | true =>
      have : (jm_cv E v).category ≤ 2 := by
        rcases lv_cat (jm_cv E v) with h | h <;> omega
      show _ ≤ 2 + jm_csn t
      omega
    | false =>
      have : (jm_cv E v).category = 1 := jm_cat1 hv
      show _ ≤ 1 + jm_csn t
      omega
theorem jm_invS5 {Y' : jm_Y} {idx k n1 mc ms d C2 S2 : Nat} {av : List jm_V} {stf : List jm_V} (hw : jm_wS Y' k) (hlink : Cond.methodLink Y.1.cls idx Y'.1 ∈ jm_tbl) (hd : decode Y.2.1 pc = .ok (.invokestatic idx, 3)) (hlen : av.length = k) (hroom : cs + mc ≤ C2 ∧ sl + ms ≤ S2) (hrest : jm_csn st ≤ 8) (hst : stf = av.reverse ++ st)
    (h : jm_Cl E Y' d n n1 mc ms av μ (fun o m1 => jm_rok Y'.2.2.2 o → jm_G E Y (jm_rm (d + 1) C2 S2) n' n1 (cs + mc) (sl + ms) (pc + 3) L (o.toList ++ st) m1 Q)) : jm_G E Y (jm_rm (d + 1) C2 S2) n' n cs sl pc L stf μ Q := by
  subst hst
  intro p e s m args below meth c Z H locs ls C hZ hR hS hl hL hst
  have hts := C.2.2.2.2.1
  have hM := h (fun w hw => hst w (List.mem_append_left _ (List.mem_reverse.mpr hw)))
  rw [List.map_append, List.map_reverse]
  refine jm_after (va_runS (As := av.map (jm_cv E)) (rest := st.map (jm_cv E)) ⟨C.1, C.2.1, C.2.2.1, C.2.2.2.1, hts⟩ hM ⟨jm_callB hw.1 hts hlink, hts _ hw.2⟩ ⟨jm_blind, jm_enter C hR hS⟩ rfl (by rw [List.length_map]; exact hlen) hl.1 rfl (lv_room (Nat.le_trans (jm_csn_sum st) hrest)) hd hroom) hS (fun o m1 H1 locs1 hQ ho hrok hR1 hS1 => ?_)
  have h2 := hQ hrok p e s m args below meth c Z H1 locs1 ls C hZ hR1 hS1 hl hL (jm_okst hst ho)
  rw [List.map_append] at h2
  have e1 : (o.map (jm_cv E)).toList = o.toList.map (jm_cv E) := by cases o <;> rfl
  rw [e1]
  exact h2
end JMD
end
