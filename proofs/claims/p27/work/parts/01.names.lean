def RX0 : String := "AbbreviationBook$CallGraph"
def TX0 : u_T := fun k => match k with
  | 0 => ("AbbreviationBook$CallGraph", "called", "[I", true)
  | 1 => ("AbbreviationBook$CallGraph", "reached", "[I", true)
  | _ => ("AbbreviationBook$CallGraph", "defined", "I", false)
def tyX0 : Nat → FieldType := fun k => match k with
  | 0 => .array .int
  | 1 => .array .int
  | _ => .int
abbrev wsX00 : List Cond := u_ws RX0 TX0 3
theorem nmX0 : ∀ a, a < 3 → ∀ b, b < 3 → a ≠ b → (TX0 a).2.1 ≠ (TX0 b).2.1 := by decide +kernel
theorem tyX0_ok : ∀ k, k < 3 → parseFieldDescriptor (TX0 k).2.2.1 = some (tyX0 k) := by decide +kernel
abbrev cX0_init : ByteArray := prog_2_method_1_code
def yX0_init : MethodName := ⟨RX0, "<init>", "()V"⟩
abbrev cX0_takeFrom : ByteArray := prog_2_method_2_code
def yX0_takeFrom : MethodName := ⟨RX0, "takeFrom", "(LAbbreviationBook$State;)V"⟩
abbrev cX0_tryBody : ByteArray := prog_2_method_3_code
def yX0_tryBody : MethodName := ⟨RX0, "tryBody", "(II)V"⟩
abbrev cX0_calledBy : ByteArray := prog_2_method_4_code
def yX0_calledBy : MethodName := ⟨RX0, "calledBy", "(I)I"⟩
abbrev cX0_reachedFrom : ByteArray := prog_2_method_5_code
def yX0_reachedFrom : MethodName := ⟨RX0, "reachedFrom", "(I)I"⟩
abbrev cX0_callersOf : ByteArray := prog_2_method_6_code
def yX0_callersOf : MethodName := ⟨RX0, "callersOf", "(I)I"⟩
abbrev cX0_reaching : ByteArray := prog_2_method_7_code
def yX0_reaching : MethodName := ⟨RX0, "reaching", "(I)I"⟩
abbrev cX0_inRings : ByteArray := prog_2_method_8_code
def yX0_inRings : MethodName := ⟨RX0, "inRings", "()I"⟩
abbrev cX0_calledButNotDefined : ByteArray := prog_2_method_9_code
def yX0_calledButNotDefined : MethodName := ⟨RX0, "calledButNotDefined", "()I"⟩
abbrev cX0_longestChain : ByteArray := prog_2_method_10_code
def yX0_longestChain : MethodName := ⟨RX0, "longestChain", "(I)I"⟩
abbrev cX0_followCalls : ByteArray := prog_2_method_11_code
def yX0_followCalls : MethodName := ⟨RX0, "followCalls", "()V"⟩
abbrev cX0_calledInBodiesOf : ByteArray := prog_2_method_12_code
def yX0_calledInBodiesOf : MethodName := ⟨RX0, "calledInBodiesOf", "(I)I"⟩
abbrev cX0_holds : ByteArray := prog_2_method_13_code
def yX0_holds : MethodName := ⟨RX0, "holds", "(II)Z"⟩
def RX1 : String := "AbbreviationBook$Expansion"
def TX1 : u_T := fun k => match k with
  | 0 => ("AbbreviationBook$Expansion", "stack", "[I", true)
  | 1 => ("AbbreviationBook$Expansion", "marks", "[I", true)
  | 2 => ("AbbreviationBook$Expansion", "waitingLetters", "[I", true)
  | 3 => ("AbbreviationBook$Expansion", "waitingMarks", "[I", true)
  | 4 => ("AbbreviationBook$Expansion", "numbersOfCalls", "[I", true)
  | 5 => ("AbbreviationBook$Expansion", "top", "I", false)
  | 6 => ("AbbreviationBook$Expansion", "markCount", "I", false)
  | 7 => ("AbbreviationBook$Expansion", "waitingCount", "I", false)
  | 8 => ("AbbreviationBook$Expansion", "listedCount", "I", false)
  | 9 => ("AbbreviationBook$Expansion", "expandedCount", "I", false)
  | 10 => ("AbbreviationBook$Expansion", "deepest", "I", false)
  | 11 => ("AbbreviationBook$Expansion", "openBodies", "I", false)
  | 12 => ("AbbreviationBook$Expansion", "writing", "Z", false)
  | _ => ("AbbreviationBook$Expansion", "broken", "Z", false)
def tyX1 : Nat → FieldType := fun k => match k with
  | 0 => .array .int
  | 1 => .array .int
  | 2 => .array .int
  | 3 => .array .int
  | 4 => .array .int
  | 5 => .int
  | 6 => .int
  | 7 => .int
  | 8 => .int
  | 9 => .int
  | 10 => .int
  | 11 => .int
  | 12 => .boolean
  | _ => .boolean
abbrev wsX10 : List Cond := u_ws RX1 TX1 14
theorem nmX1 : ∀ a, a < 14 → ∀ b, b < 14 → a ≠ b → (TX1 a).2.1 ≠ (TX1 b).2.1 := by decide +kernel
theorem tyX1_ok : ∀ k, k < 14 → parseFieldDescriptor (TX1 k).2.2.1 = some (tyX1 k) := by decide +kernel
abbrev cX1_init : ByteArray := prog_3_method_1_code
def yX1_init : MethodName := ⟨RX1, "<init>", "()V"⟩
abbrev cX1_writeResult : ByteArray := prog_3_method_2_code
def yX1_writeResult : MethodName := ⟨RX1, "writeResult", "(LAbbreviationBook$State;[II)Z"⟩
abbrev cX1_makeOutcome : ByteArray := prog_3_method_3_code
def yX1_makeOutcome : MethodName := ⟨RX1, "makeOutcome", "()LAbbreviationBook$Outcome;"⟩
abbrev cX1_measureCall : ByteArray := prog_3_method_4_code
def yX1_measureCall : MethodName := ⟨RX1, "measureCall", "(LAbbreviationBook$State;III)I"⟩
abbrev cX1_startOver : ByteArray := prog_3_method_5_code
def yX1_startOver : MethodName := ⟨RX1, "startOver", "(Z)V"⟩
abbrev cX1_writeText : ByteArray := prog_3_method_6_code
def yX1_writeText : MethodName := ⟨RX1, "writeText", "(LAbbreviationBook$State;[IIIII)V"⟩
abbrev cX1_fillHole : ByteArray := prog_3_method_7_code
def yX1_fillHole : MethodName := ⟨RX1, "fillHole", "(IIII)V"⟩
abbrev cX1_letCallWait : ByteArray := prog_3_method_8_code
def yX1_letCallWait : MethodName := ⟨RX1, "letCallWait", "(I)V"⟩
abbrev cX1_finishCall : ByteArray := prog_3_method_9_code
def yX1_finishCall : MethodName := ⟨RX1, "finishCall", "(LAbbreviationBook$State;I)V"⟩
abbrev cX1_endingOf : ByteArray := prog_3_method_10_code
def yX1_endingOf : MethodName := ⟨RX1, "endingOf", "(LAbbreviationBook$State;II)I"⟩
abbrev cX1_signOf : ByteArray := prog_3_method_11_code
def yX1_signOf : MethodName := ⟨RX1, "signOf", "(I)I"⟩
abbrev cX1_writeBody : ByteArray := prog_3_method_12_code
def yX1_writeBody : MethodName := ⟨RX1, "writeBody", "(LAbbreviationBook$State;IIII)V"⟩
abbrev cX1_listCall : ByteArray := prog_3_method_13_code
def yX1_listCall : MethodName := ⟨RX1, "listCall", "(IIIIII)V"⟩
abbrev cX1_setMark : ByteArray := prog_3_method_14_code
def yX1_setMark : MethodName := ⟨RX1, "setMark", "()V"⟩
abbrev cX1_markAt : ByteArray := prog_3_method_15_code
def yX1_markAt : MethodName := ⟨RX1, "markAt", "(I)I"⟩
abbrev cX1_takesMore : ByteArray := prog_3_method_16_code
def yX1_takesMore : MethodName := ⟨RX1, "takesMore", "(I)Z"⟩
abbrev cX1_writeSign : ByteArray := prog_3_method_17_code
def yX1_writeSign : MethodName := ⟨RX1, "writeSign", "(I)V"⟩
abbrev cX1_writeCopy : ByteArray := prog_3_method_18_code
def yX1_writeCopy : MethodName := ⟨RX1, "writeCopy", "(II)V"⟩
abbrev cX1_moveSigns : ByteArray := prog_3_method_19_code
def yX1_moveSigns : MethodName := ⟨RX1, "moveSigns", "(III)V"⟩
def RX2 : String := "AbbreviationBook$History"
def TX2 : u_T := fun k => match k with
  | 0 => ("AbbreviationBook$History", "saved", "[LAbbreviationBook$State;", true)
  | 1 => ("AbbreviationBook$History", "snapshots", "[LAbbreviationBook$State;", true)
  | 2 => ("AbbreviationBook$History", "newest", "I", false)
  | _ => ("AbbreviationBook$History", "savedCount", "I", false)
def tyX2 : Nat → FieldType := fun k => match k with
  | 0 => .array (.object "AbbreviationBook$State")
  | 1 => .array (.object "AbbreviationBook$State")
  | 2 => .int
  | _ => .int
abbrev wsX20 : List Cond := u_ws RX2 TX2 4
theorem nmX2 : ∀ a, a < 4 → ∀ b, b < 4 → a ≠ b → (TX2 a).2.1 ≠ (TX2 b).2.1 := by decide +kernel
theorem tyX2_ok : ∀ k, k < 4 → parseFieldDescriptor (TX2 k).2.2.1 = some (tyX2 k) := by decide +kernel
abbrev cX2_init : ByteArray := prog_4_method_1_code
def yX2_init : MethodName := ⟨RX2, "<init>", "()V"⟩
abbrev cX2_saveState : ByteArray := prog_4_method_2_code
def yX2_saveState : MethodName := ⟨RX2, "saveState", "(LAbbreviationBook$State;)V"⟩
abbrev cX2_restoreSaved : ByteArray := prog_4_method_3_code
def yX2_restoreSaved : MethodName := ⟨RX2, "restoreSaved", "(LAbbreviationBook$State;)Z"⟩
abbrev cX2_takeSnapshot : ByteArray := prog_4_method_4_code
def yX2_takeSnapshot : MethodName := ⟨RX2, "takeSnapshot", "(ILAbbreviationBook$State;)V"⟩
abbrev cX2_snapshotIn : ByteArray := prog_4_method_5_code
def yX2_snapshotIn : MethodName := ⟨RX2, "snapshotIn", "(I)LAbbreviationBook$State;"⟩
abbrev cX2_copyInto : ByteArray := prog_4_method_6_code
def yX2_copyInto : MethodName := ⟨RX2, "copyInto", "([LAbbreviationBook$State;ILAbbreviationBook$State;)V"⟩
def RX3 : String := "AbbreviationBook$Outcome"
def TX3 : u_T := fun k => match k with
  | 0 => ("AbbreviationBook$Outcome", "signs", "[I", true)
  | 1 => ("AbbreviationBook$Outcome", "expandedCalls", "I", true)
  | 2 => ("AbbreviationBook$Outcome", "deepest", "I", true)
  | _ => ("AbbreviationBook$Outcome", "numbersOfCalls", "[I", true)
def tyX3 : Nat → FieldType := fun k => match k with
  | 0 => .array .int
  | 1 => .int
  | 2 => .int
  | _ => .array .int
abbrev wsX30 : List Cond := u_ws RX3 TX3 4
theorem nmX3 : ∀ a, a < 4 → ∀ b, b < 4 → a ≠ b → (TX3 a).2.1 ≠ (TX3 b).2.1 := by decide +kernel
theorem tyX3_ok : ∀ k, k < 4 → parseFieldDescriptor (TX3 k).2.2.1 = some (tyX3 k) := by decide +kernel
abbrev cX3_init : ByteArray := prog_5_method_1_code
def yX3_init : MethodName := ⟨RX3, "<init>", "([I[III)V"⟩
abbrev cX3_occurrencesOf : ByteArray := prog_5_method_2_code
def yX3_occurrencesOf : MethodName := ⟨RX3, "occurrencesOf", "(I)I"⟩
abbrev cX3_listedCalls : ByteArray := prog_5_method_3_code
def yX3_listedCalls : MethodName := ⟨RX3, "listedCalls", "()I"⟩
abbrev cX3_numberOfCall : ByteArray := prog_5_method_4_code
def yX3_numberOfCall : MethodName := ⟨RX3, "numberOfCall", "(II)I"⟩
def RX4 : String := "AbbreviationBook$Reading"
def TX4 : u_T := fun k => match k with
  | 0 => ("AbbreviationBook$Reading", "argumentCounts", "[I", true)
  | 1 => ("AbbreviationBook$Reading", "openCalls", "I", false)
  | 2 => ("AbbreviationBook$Reading", "wholeLength", "I", false)
  | 3 => ("AbbreviationBook$Reading", "validLength", "I", false)
  | 4 => ("AbbreviationBook$Reading", "holes", "I", false)
  | 5 => ("AbbreviationBook$Reading", "calls", "I", false)
  | 6 => ("AbbreviationBook$Reading", "mostArguments", "I", false)
  | 7 => ("AbbreviationBook$Reading", "nesting", "I", false)
  | 8 => ("AbbreviationBook$Reading", "smallSigns", "I", false)
  | _ => ("AbbreviationBook$Reading", "called", "I", false)
def tyX4 : Nat → FieldType := fun k => match k with
  | 0 => .array .int
  | 1 => .int
  | 2 => .int
  | 3 => .int
  | 4 => .int
  | 5 => .int
  | 6 => .int
  | 7 => .int
  | 8 => .int
  | _ => .int
abbrev wsX40 : List Cond := u_ws RX4 TX4 10
theorem nmX4 : ∀ a, a < 10 → ∀ b, b < 10 → a ≠ b → (TX4 a).2.1 ≠ (TX4 b).2.1 := by decide +kernel
theorem tyX4_ok : ∀ k, k < 10 → parseFieldDescriptor (TX4 k).2.2.1 = some (tyX4 k) := by decide +kernel
abbrev cX4_init : ByteArray := prog_6_method_1_code
def yX4_init : MethodName := ⟨RX4, "<init>", "()V"⟩
abbrev cX4_readText : ByteArray := prog_6_method_2_code
def yX4_readText : MethodName := ⟨RX4, "readText", "([II)V"⟩
abbrev cX4_isComplete : ByteArray := prog_6_method_3_code
def yX4_isComplete : MethodName := ⟨RX4, "isComplete", "()Z"⟩
abbrev cX4_startOver : ByteArray := prog_6_method_4_code
def yX4_startOver : MethodName := ⟨RX4, "startOver", "(I)V"⟩
abbrev cX4_accepts : ByteArray := prog_6_method_5_code
def yX4_accepts : MethodName := ⟨RX4, "accepts", "(II)Z"⟩
abbrev cX4_noteCall : ByteArray := prog_6_method_6_code
def yX4_noteCall : MethodName := ⟨RX4, "noteCall", "(I)V"⟩
abbrev cX4_opensCall : ByteArray := prog_6_method_7_code
def yX4_opensCall : MethodName := ⟨RX4, "opensCall", "()Z"⟩
abbrev cX4_addsArgument : ByteArray := prog_6_method_8_code
def yX4_addsArgument : MethodName := ⟨RX4, "addsArgument", "()Z"⟩
abbrev cX4_closesCall : ByteArray := prog_6_method_9_code
def yX4_closesCall : MethodName := ⟨RX4, "closesCall", "()Z"⟩
def RX5 : String := "AbbreviationBook$State"
def TX5 : u_T := fun k => match k with
  | 0 => ("AbbreviationBook$State", "definitions", "[LAbbreviationBook$Text;", true)
  | 1 => ("AbbreviationBook$State", "outcome", "LAbbreviationBook$Outcome;", false)
  | 2 => ("AbbreviationBook$State", "depth", "I", false)
  | 3 => ("AbbreviationBook$State", "successes", "I", false)
  | _ => ("AbbreviationBook$State", "failures", "I", false)
def tyX5 : Nat → FieldType := fun k => match k with
  | 0 => .array (.object "AbbreviationBook$Text")
  | 1 => .object "AbbreviationBook$Outcome"
  | 2 => .int
  | 3 => .int
  | _ => .int
abbrev wsX50 : List Cond := u_ws RX5 TX5 5
theorem nmX5 : ∀ a, a < 5 → ∀ b, b < 5 → a ≠ b → (TX5 a).2.1 ≠ (TX5 b).2.1 := by decide +kernel
theorem tyX5_ok : ∀ k, k < 5 → parseFieldDescriptor (TX5 k).2.2.1 = some (tyX5 k) := by decide +kernel
abbrev cX5_init : ByteArray := prog_7_method_1_code
def yX5_init : MethodName := ⟨RX5, "<init>", "()V"⟩
abbrev cX5_copyFrom : ByteArray := prog_7_method_2_code
def yX5_copyFrom : MethodName := ⟨RX5, "copyFrom", "(LAbbreviationBook$State;)V"⟩
abbrev cX5_definitionOf : ByteArray := prog_7_method_3_code
def yX5_definitionOf : MethodName := ⟨RX5, "definitionOf", "(I)LAbbreviationBook$Text;"⟩
abbrev cX5_putDefinition : ByteArray := prog_7_method_4_code
def yX5_putDefinition : MethodName := ⟨RX5, "putDefinition", "(ILAbbreviationBook$Text;)V"⟩
abbrev cX5_definedSet : ByteArray := prog_7_method_5_code
def yX5_definedSet : MethodName := ⟨RX5, "definedSet", "()I"⟩
abbrev cX5_definedCount : ByteArray := prog_7_method_6_code
def yX5_definedCount : MethodName := ⟨RX5, "definedCount", "()I"⟩
abbrev cX5_callsOfBodies : ByteArray := prog_7_method_7_code
def yX5_callsOfBodies : MethodName := ⟨RX5, "callsOfBodies", "()I"⟩
abbrev cX5_holesOfBodies : ByteArray := prog_7_method_8_code
def yX5_holesOfBodies : MethodName := ⟨RX5, "holesOfBodies", "()I"⟩
def RX6 : String := "AbbreviationBook$Text"
def TX6 : u_T := fun k => match k with
  | 0 => ("AbbreviationBook$Text", "signs", "[I", true)
  | 1 => ("AbbreviationBook$Text", "holes", "I", true)
  | 2 => ("AbbreviationBook$Text", "calls", "I", true)
  | 3 => ("AbbreviationBook$Text", "mostArguments", "I", true)
  | 4 => ("AbbreviationBook$Text", "nesting", "I", true)
  | 5 => ("AbbreviationBook$Text", "smallSigns", "I", true)
  | _ => ("AbbreviationBook$Text", "called", "I", true)
def tyX6 : Nat → FieldType := fun k => match k with
  | 0 => .array .int
  | 1 => .int
  | 2 => .int
  | 3 => .int
  | 4 => .int
  | 5 => .int
  | _ => .int
abbrev wsX60 : List Cond := u_ws RX6 TX6 7
theorem nmX6 : ∀ a, a < 7 → ∀ b, b < 7 → a ≠ b → (TX6 a).2.1 ≠ (TX6 b).2.1 := by decide +kernel
theorem tyX6_ok : ∀ k, k < 7 → parseFieldDescriptor (TX6 k).2.2.1 = some (tyX6 k) := by decide +kernel
abbrev cX6_init : ByteArray := prog_8_method_1_code
def yX6_init : MethodName := ⟨RX6, "<init>", "([ILAbbreviationBook$Reading;)V"⟩
def RX7 : String := "AbbreviationBook"
def TX7 : u_T := fun k => match k with
  | 0 => ("AbbreviationBook", "state", "LAbbreviationBook$State;", true)
  | 1 => ("AbbreviationBook", "history", "LAbbreviationBook$History;", true)
  | 2 => ("AbbreviationBook", "buffer", "[I", true)
  | 3 => ("AbbreviationBook", "reading", "LAbbreviationBook$Reading;", true)
  | 4 => ("AbbreviationBook", "graph", "LAbbreviationBook$CallGraph;", true)
  | 5 => ("AbbreviationBook", "expansion", "LAbbreviationBook$Expansion;", true)
  | _ => ("AbbreviationBook", "bufferLength", "I", false)
def tyX7 : Nat → FieldType := fun k => match k with
  | 0 => .object "AbbreviationBook$State"
  | 1 => .object "AbbreviationBook$History"
  | 2 => .array .int
  | 3 => .object "AbbreviationBook$Reading"
  | 4 => .object "AbbreviationBook$CallGraph"
  | 5 => .object "AbbreviationBook$Expansion"
  | _ => .int
abbrev wsX70 : List Cond := u_ws RX7 TX7 7
theorem nmX7 : ∀ a, a < 7 → ∀ b, b < 7 → a ≠ b → (TX7 a).2.1 ≠ (TX7 b).2.1 := by decide +kernel
theorem tyX7_ok : ∀ k, k < 7 → parseFieldDescriptor (TX7 k).2.2.1 = some (tyX7 k) := by decide +kernel
abbrev cX7_init : ByteArray := prog_1_method_1_code
def yX7_init : MethodName := ⟨RX7, "<init>", "()V"⟩
abbrev cX7_define : ByteArray := prog_1_method_2_code
def yX7_define : MethodName := ⟨RX7, "define", "(I)I"⟩
abbrev cX7_remove : ByteArray := prog_1_method_3_code
def yX7_remove : MethodName := ⟨RX7, "remove", "(I)I"⟩
abbrev cX7_exchange : ByteArray := prog_1_method_4_code
def yX7_exchange : MethodName := ⟨RX7, "exchange", "(II)I"⟩
abbrev cX7_set : ByteArray := prog_1_method_5_code
def yX7_set : MethodName := ⟨RX7, "set", "(I)I"⟩
abbrev cX7_expand : ByteArray := prog_1_method_6_code
def yX7_expand : MethodName := ⟨RX7, "expand", "()I"⟩
abbrev cX7_append : ByteArray := prog_1_method_7_code
def yX7_append : MethodName := ⟨RX7, "append", "(I)I"⟩
abbrev cX7_clearBuffer : ByteArray := prog_1_method_8_code
def yX7_clearBuffer : MethodName := ⟨RX7, "clearBuffer", "()I"⟩
abbrev cX7_firstError : ByteArray := prog_1_method_9_code
def yX7_firstError : MethodName := ⟨RX7, "firstError", "()I"⟩
abbrev cX7_load : ByteArray := prog_1_method_10_code
def yX7_load : MethodName := ⟨RX7, "load", "(I)I"⟩
abbrev cX7_undo : ByteArray := prog_1_method_11_code
def yX7_undo : MethodName := ⟨RX7, "undo", "()I"⟩
abbrev cX7_keep : ByteArray := prog_1_method_12_code
def yX7_keep : MethodName := ⟨RX7, "keep", "(I)I"⟩
abbrev cX7_goBack : ByteArray := prog_1_method_13_code
def yX7_goBack : MethodName := ⟨RX7, "goBack", "(I)I"⟩
abbrev cX7_body : ByteArray := prog_1_method_14_code
def yX7_body : MethodName := ⟨RX7, "body", "(II)I"⟩
abbrev cX7_uses : ByteArray := prog_1_method_15_code
def yX7_uses : MethodName := ⟨RX7, "uses", "(II)I"⟩
abbrev cX7_rings : ByteArray := prog_1_method_16_code
def yX7_rings : MethodName := ⟨RX7, "rings", "()I"⟩
abbrev cX7_missing : ByteArray := prog_1_method_17_code
def yX7_missing : MethodName := ⟨RX7, "missing", "()I"⟩
abbrev cX7_chain : ByteArray := prog_1_method_18_code
def yX7_chain : MethodName := ⟨RX7, "chain", "(I)I"⟩
abbrev cX7_ifDefined : ByteArray := prog_1_method_19_code
def yX7_ifDefined : MethodName := ⟨RX7, "ifDefined", "(I)I"⟩
abbrev cX7_sign : ByteArray := prog_1_method_20_code
def yX7_sign : MethodName := ⟨RX7, "sign", "(I)I"⟩
abbrev cX7_result : ByteArray := prog_1_method_21_code
def yX7_result : MethodName := ⟨RX7, "result", "(I)I"⟩
abbrev cX7_trace : ByteArray := prog_1_method_22_code
def yX7_trace : MethodName := ⟨RX7, "trace", "(II)I"⟩
abbrev cX7_lengthOf : ByteArray := prog_1_method_23_code
def yX7_lengthOf : MethodName := ⟨RX7, "lengthOf", "(II)I"⟩
abbrev cX7_count : ByteArray := prog_1_method_24_code
def yX7_count : MethodName := ⟨RX7, "count", "(I)I"⟩
abbrev cX7_meanHoles : ByteArray := prog_1_method_25_code
def yX7_meanHoles : MethodName := ⟨RX7, "meanHoles", "()D"⟩
abbrev cX7_isLetter : ByteArray := prog_1_method_26_code
def yX7_isLetter : MethodName := ⟨RX7, "isLetter", "(I)Z"⟩
abbrev cX7_isAbbreviation : ByteArray := prog_1_method_27_code
def yX7_isAbbreviation : MethodName := ⟨RX7, "isAbbreviation", "(I)Z"⟩
abbrev cX7_requireLetter : ByteArray := prog_1_method_28_code
def yX7_requireLetter : MethodName := ⟨RX7, "requireLetter", "(I)V"⟩
abbrev cX7_requireWhat : ByteArray := prog_1_method_29_code
def yX7_requireWhat : MethodName := ⟨RX7, "requireWhat", "(II)V"⟩
abbrev cX7_requireSlot : ByteArray := prog_1_method_30_code
def yX7_requireSlot : MethodName := ⟨RX7, "requireSlot", "(I)V"⟩
abbrev cX7_requireDefinition : ByteArray := prog_1_method_31_code
def yX7_requireDefinition : MethodName := ⟨RX7, "requireDefinition", "(I)LAbbreviationBook$Text;"⟩
abbrev cX7_copyOfBuffer : ByteArray := prog_1_method_32_code
def yX7_copyOfBuffer : MethodName := ⟨RX7, "copyOfBuffer", "()[I"⟩
abbrev cX7_requireCompleteText : ByteArray := prog_1_method_33_code
def yX7_requireCompleteText : MethodName := ⟨RX7, "requireCompleteText", "()V"⟩
def RX8 : String := "AbbreviationBookModel"
def TX8 : u_T := fun k => match k with
  | _ => ("", "", "", false)
def tyX8 : Nat → FieldType := fun k => match k with
  | _ => .int
abbrev wsX80 : List Cond := u_ws RX8 TX8 0
theorem nmX8 : ∀ a, a < 0 → ∀ b, b < 0 → a ≠ b → (TX8 a).2.1 ≠ (TX8 b).2.1 := by decide +kernel
theorem tyX8_ok : ∀ k, k < 0 → parseFieldDescriptor (TX8 k).2.2.1 = some (tyX8 k) := by decide +kernel
def RJx145de : String := "java/io/Serializable"
def TJx145de : u_T := fun k => match k with
  | _ => ("", "", "", false)
def tyJx145de : Nat → FieldType := fun k => match k with
  | _ => .int
abbrev wsJx145de0 : List Cond := u_ws RJx145de TJx145de 0
theorem nmJx145de : ∀ a, a < 0 → ∀ b, b < 0 → a ≠ b → (TJx145de a).2.1 ≠ (TJx145de b).2.1 := by decide +kernel
theorem tyJx145de_ok : ∀ k, k < 0 → parseFieldDescriptor (TJx145de k).2.2.1 = some (tyJx145de k) := by decide +kernel
def RJx8e188 : String := "java/lang/Cloneable"
def TJx8e188 : u_T := fun k => match k with
  | _ => ("", "", "", false)
def tyJx8e188 : Nat → FieldType := fun k => match k with
  | _ => .int
abbrev wsJx8e1880 : List Cond := u_ws RJx8e188 TJx8e188 0
theorem nmJx8e188 : ∀ a, a < 0 → ∀ b, b < 0 → a ≠ b → (TJx8e188 a).2.1 ≠ (TJx8e188 b).2.1 := by decide +kernel
theorem tyJx8e188_ok : ∀ k, k < 0 → parseFieldDescriptor (TJx8e188 k).2.2.1 = some (tyJx8e188 k) := by decide +kernel
def RJ6 : String := "java/lang/Integer"
def TJ6 : u_T := fun k => match k with
  | _ => ("", "", "", false)
def tyJ6 : Nat → FieldType := fun k => match k with
  | _ => .int
abbrev wsJ60 : List Cond := u_ws RJ6 TJ6 0
theorem nmJ6 : ∀ a, a < 0 → ∀ b, b < 0 → a ≠ b → (TJ6 a).2.1 ≠ (TJ6 b).2.1 := by decide +kernel
theorem tyJ6_ok : ∀ k, k < 0 → parseFieldDescriptor (TJ6 k).2.2.1 = some (tyJ6 k) := by decide +kernel
abbrev cJ6_bitCount_0f7a4 : ByteArray := prog_16_method_49_code
def yJ6_bitCount_0f7a4 : MethodName := ⟨RJ6, "bitCount", "(I)I"⟩
def RJ9 : String := "java/lang/Math"
def TJ9 : u_T := fun k => match k with
  | _ => ("", "", "", false)
def tyJ9 : Nat → FieldType := fun k => match k with
  | _ => .int
abbrev wsJ90 : List Cond := u_ws RJ9 TJ9 0
theorem nmJ9 : ∀ a, a < 0 → ∀ b, b < 0 → a ≠ b → (TJ9 a).2.1 ≠ (TJ9 b).2.1 := by decide +kernel
theorem tyJ9_ok : ∀ k, k < 0 → parseFieldDescriptor (TJ9 k).2.2.1 = some (tyJ9 k) := by decide +kernel
abbrev cJ9_max_7cf53 : ByteArray := prog_17_method_65_code
def yJ9_max_7cf53 : MethodName := ⟨RJ9, "max", "(II)I"⟩
abbrev cJ9_min_7cf53 : ByteArray := prog_17_method_69_code
def yJ9_min_7cf53 : MethodName := ⟨RJ9, "min", "(II)I"⟩
def RJ0 : String := "java/lang/String"
def TJ0 : u_T := fun k => match k with
  | _ => ("", "", "", false)
def tyJ0 : Nat → FieldType := fun k => match k with
  | _ => .int
abbrev wsJ00 : List Cond := u_ws RJ0 TJ0 0
theorem nmJ0 : ∀ a, a < 0 → ∀ b, b < 0 → a ≠ b → (TJ0 a).2.1 ≠ (TJ0 b).2.1 := by decide +kernel
theorem tyJ0_ok : ∀ k, k < 0 → parseFieldDescriptor (TJ0 k).2.2.1 = some (tyJ0 k) := by decide +kernel
def RJ10 : String := "java/lang/System"
def TJ10 : u_T := fun k => match k with
  | _ => ("", "", "", false)
def tyJ10 : Nat → FieldType := fun k => match k with
  | _ => .int
abbrev wsJ100 : List Cond := u_ws RJ10 TJ10 0
theorem nmJ10 : ∀ a, a < 0 → ∀ b, b < 0 → a ≠ b → (TJ10 a).2.1 ≠ (TJ10 b).2.1 := by decide +kernel
theorem tyJ10_ok : ∀ k, k < 0 → parseFieldDescriptor (TJ10 k).2.2.1 = some (tyJ10 k) := by decide +kernel
def RJ7 : String := "java/util/Arrays"
def TJ7 : u_T := fun k => match k with
  | _ => ("", "", "", false)
def tyJ7 : Nat → FieldType := fun k => match k with
  | _ => .int
abbrev wsJ70 : List Cond := u_ws RJ7 TJ7 0
theorem nmJ7 : ∀ a, a < 0 → ∀ b, b < 0 → a ≠ b → (TJ7 a).2.1 ≠ (TJ7 b).2.1 := by decide +kernel
theorem tyJ7_ok : ∀ k, k < 0 → parseFieldDescriptor (TJ7 k).2.2.1 = some (tyJ7 k) := by decide +kernel
abbrev cJ7_copyOf_59c91 : ByteArray := prog_22_method_123_code
def yJ7_copyOf_59c91 : MethodName := ⟨RJ7, "copyOf", "([II)[I"⟩
def RL : String := "AbbreviationBookLaw"
abbrev cL_cell : ByteArray := method_2_code
def yL_cell : MethodName := ⟨RL, "cell", "([II)I"⟩
abbrev cL_define : ByteArray := method_3_code
def yL_define : MethodName := ⟨RL, "define", "(LAbbreviationBook;I)I"⟩
abbrev cL_expand : ByteArray := method_4_code
def yL_expand : MethodName := ⟨RL, "expand", "(LAbbreviationBook;)I"⟩
abbrev cL_append : ByteArray := method_5_code
def yL_append : MethodName := ⟨RL, "append", "(LAbbreviationBook;I)I"⟩
abbrev cL_set : ByteArray := method_6_code
def yL_set : MethodName := ⟨RL, "set", "(LAbbreviationBook;I)I"⟩
abbrev cL_remove : ByteArray := method_7_code
def yL_remove : MethodName := ⟨RL, "remove", "(LAbbreviationBook;I)I"⟩
abbrev cL_sign : ByteArray := method_8_code
def yL_sign : MethodName := ⟨RL, "sign", "(LAbbreviationBook;I)I"⟩
abbrev cL_result : ByteArray := method_9_code
def yL_result : MethodName := ⟨RL, "result", "(LAbbreviationBook;I)I"⟩
abbrev cL_count : ByteArray := method_10_code
def yL_count : MethodName := ⟨RL, "count", "(LAbbreviationBook;I)I"⟩
abbrev cL_body : ByteArray := method_11_code
def yL_body : MethodName := ⟨RL, "body", "(LAbbreviationBook;II)I"⟩
abbrev cL_uses : ByteArray := method_12_code
def yL_uses : MethodName := ⟨RL, "uses", "(LAbbreviationBook;II)I"⟩
abbrev cL_chain : ByteArray := method_13_code
def yL_chain : MethodName := ⟨RL, "chain", "(LAbbreviationBook;I)I"⟩
abbrev cL_ifDefined : ByteArray := method_14_code
def yL_ifDefined : MethodName := ⟨RL, "ifDefined", "(LAbbreviationBook;I)I"⟩
abbrev cL_exchange : ByteArray := method_15_code
def yL_exchange : MethodName := ⟨RL, "exchange", "(LAbbreviationBook;II)I"⟩
abbrev cL_trace : ByteArray := method_16_code
def yL_trace : MethodName := ⟨RL, "trace", "(LAbbreviationBook;II)I"⟩
abbrev cL_lengthOf : ByteArray := method_17_code
def yL_lengthOf : MethodName := ⟨RL, "lengthOf", "(LAbbreviationBook;II)I"⟩
abbrev cL_load : ByteArray := method_18_code
def yL_load : MethodName := ⟨RL, "load", "(LAbbreviationBook;I)I"⟩
abbrev cL_undo : ByteArray := method_19_code
def yL_undo : MethodName := ⟨RL, "undo", "(LAbbreviationBook;)I"⟩
abbrev cL_keep : ByteArray := method_20_code
def yL_keep : MethodName := ⟨RL, "keep", "(LAbbreviationBook;I)I"⟩
abbrev cL_goBack : ByteArray := method_21_code
def yL_goBack : MethodName := ⟨RL, "goBack", "(LAbbreviationBook;I)I"⟩
abbrev cL_typed : ByteArray := method_22_code
def yL_typed : MethodName := ⟨RL, "typed", "(LAbbreviationBook;I)I"⟩
abbrev cL_acts : ByteArray := method_23_code
def yL_acts : MethodName := ⟨RL, "acts", "(LAbbreviationBook;I)I"⟩
abbrev cL_hangs : ByteArray := method_24_code
def yL_hangs : MethodName := ⟨RL, "hangs", "(LAbbreviationBook;)Z"⟩
abbrev cL_same : ByteArray := method_25_code
def yL_same : MethodName := ⟨RL, "same", "(LAbbreviationBook;LAbbreviationBook;)Z"⟩
abbrev cL_isLength : ByteArray := method_26_code
def yL_isLength : MethodName := ⟨RL, "isLength", "(LAbbreviationBook;II)Z"⟩
abbrev cL_refuses : ByteArray := method_27_code
def yL_refuses : MethodName := ⟨RL, "refuses", "(LAbbreviationBook;I)Z"⟩
abbrev cL_law : ByteArray := code
def yL_law : MethodName := ⟨RL, "law", "([I)Z"⟩
abbrev vwCl : List vw_C := [(RX0, TX0, 3), (RX1, TX1, 14), (RX2, TX2, 4), (RX3, TX3, 4), (RX4, TX4, 10), (RX5, TX5, 5), (RX6, TX6, 7), (RX7, TX7, 7)]
