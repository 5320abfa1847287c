/-! names, fields, methods: the names as the claim prints them; decode rows -/
def RX0 : String := "ReasonCloser$Costs"
def TX0 : u_T := fun k => match k with
  | 0 => ("ReasonCloser$Costs", "sums", "[I", true)
  | 1 => ("ReasonCloser$Costs", "steps", "[I", true)
  | 2 => ("ReasonCloser$Costs", "rest", "[I", true)
  | 3 => ("ReasonCloser$Costs", "terms", "I", false)
  | _ => ("ReasonCloser$Costs", "settled", "Z", false)
def tyX0 : Nat → FieldType := fun k => match k with
  | 0 => .array .int
  | 1 => .array .int
  | 2 => .array .int
  | 3 => .int
  | _ => .boolean
abbrev wsX00 : List Cond := u_ws RX0 TX0 5
theorem nmX0 : ∀ a, a < 5 → ∀ b, b < 5 → a ≠ b → (TX0 a).2.1 ≠ (TX0 b).2.1 := by decide +kernel
theorem tyX0_ok : ∀ k, k < 5 → parseFieldDescriptor (TX0 k).2.2.1 = some (tyX0 k) := by decide +kernel
abbrev cX0_init : ByteArray := prog_2_method_1_code
def yX0_init : MethodName := ⟨RX0, "<init>", "()V"⟩
def RX1 : String := "ReasonCloser$Facts"
def TX1 : u_T := fun k => match k with
  | 0 => ("ReasonCloser$Facts", "terms", "LReasonCloser$Terms;", true)
  | 1 => ("ReasonCloser$Facts", "groups", "LReasonCloser$Groups;", true)
  | 2 => ("ReasonCloser$Facts", "forest", "LReasonCloser$Forest;", true)
  | 3 => ("ReasonCloser$Facts", "sameFirst", "[I", true)
  | 4 => ("ReasonCloser$Facts", "sameSecond", "[I", true)
  | 5 => ("ReasonCloser$Facts", "diffFirst", "[I", true)
  | 6 => ("ReasonCloser$Facts", "diffSecond", "[I", true)
  | 7 => ("ReasonCloser$Facts", "actKind", "[I", true)
  | 8 => ("ReasonCloser$Facts", "joinsAhead", "[I", true)
  | 9 => ("ReasonCloser$Facts", "sames", "I", false)
  | 10 => ("ReasonCloser$Facts", "diffs", "I", false)
  | _ => ("ReasonCloser$Facts", "acts", "I", false)
def tyX1 : Nat → FieldType := fun k => match k with
  | 0 => .object "ReasonCloser$Terms"
  | 1 => .object "ReasonCloser$Groups"
  | 2 => .object "ReasonCloser$Forest"
  | 3 => .array .int
  | 4 => .array .int
  | 5 => .array .int
  | 6 => .array .int
  | 7 => .array .int
  | 8 => .array .int
  | 9 => .int
  | 10 => .int
  | _ => .int
abbrev wsX10 : List Cond := u_ws RX1 TX1 12
theorem nmX1 : ∀ a, a < 12 → ∀ b, b < 12 → a ≠ b → (TX1 a).2.1 ≠ (TX1 b).2.1 := by decide +kernel
theorem tyX1_ok : ∀ k, k < 12 → parseFieldDescriptor (TX1 k).2.2.1 = some (tyX1 k) := by decide +kernel
abbrev cX1_init : ByteArray := prog_3_method_1_code
def yX1_init : MethodName := ⟨RX1, "<init>", "()V"⟩
abbrev cX1_clear : ByteArray := prog_3_method_2_code
def yX1_clear : MethodName := ⟨RX1, "clear", "()V"⟩
abbrev cX1_comeTerm : ByteArray := prog_3_method_3_code
def yX1_comeTerm : MethodName := ⟨RX1, "comeTerm", "(IIIII)V"⟩
abbrev cX1_comeSame : ByteArray := prog_3_method_4_code
def yX1_comeSame : MethodName := ⟨RX1, "comeSame", "(II)V"⟩
abbrev cX1_comeDiff : ByteArray := prog_3_method_5_code
def yX1_comeDiff : MethodName := ⟨RX1, "comeDiff", "(II)V"⟩
abbrev cX1_closeInOrder : ByteArray := prog_3_method_6_code
def yX1_closeInOrder : MethodName := ⟨RX1, "closeInOrder", "()V"⟩
abbrev cX1_partReasons : ByteArray := prog_3_method_7_code
def yX1_partReasons : MethodName := ⟨RX1, "partReasons", "(II)I"⟩
abbrev cX1_noteAct : ByteArray := prog_3_method_8_code
def yX1_noteAct : MethodName := ⟨RX1, "noteAct", "(I)V"⟩
abbrev cX1_undoLatest : ByteArray := prog_3_method_9_code
def yX1_undoLatest : MethodName := ⟨RX1, "undoLatest", "()V"⟩
abbrev cX1_allSames : ByteArray := prog_3_method_10_code
def yX1_allSames : MethodName := ⟨RX1, "allSames", "()I"⟩
abbrev cX1_closeBy : ByteArray := prog_3_method_11_code
def yX1_closeBy : MethodName := ⟨RX1, "closeBy", "(ILReasonCloser$Groups;)V"⟩
abbrev cX1_supposeSame : ByteArray := prog_3_method_12_code
def yX1_supposeSame : MethodName := ⟨RX1, "supposeSame", "(IILReasonCloser$Groups;)V"⟩
abbrev cX1_clashes : ByteArray := prog_3_method_13_code
def yX1_clashes : MethodName := ⟨RX1, "clashes", "(ILReasonCloser$Groups;)Z"⟩
abbrev cX1_firstClash : ByteArray := prog_3_method_14_code
def yX1_firstClash : MethodName := ⟨RX1, "firstClash", "(LReasonCloser$Groups;)I"⟩
def RX2 : String := "ReasonCloser$Forest"
def TX2 : u_T := fun k => match k with
  | 0 => ("ReasonCloser$Forest", "hangsOn", "[I", true)
  | 1 => ("ReasonCloser$Forest", "hangsBy", "[I", true)
  | 2 => ("ReasonCloser$Forest", "joinFirst", "[I", true)
  | 3 => ("ReasonCloser$Forest", "joinSecond", "[I", true)
  | 4 => ("ReasonCloser$Forest", "cause", "[I", true)
  | 5 => ("ReasonCloser$Forest", "reasonBits", "[I", true)
  | 6 => ("ReasonCloser$Forest", "terms", "I", false)
  | _ => ("ReasonCloser$Forest", "joins", "I", false)
def tyX2 : Nat → FieldType := fun k => match k with
  | 0 => .array .int
  | 1 => .array .int
  | 2 => .array .int
  | 3 => .array .int
  | 4 => .array .int
  | 5 => .array .int
  | 6 => .int
  | _ => .int
abbrev wsX20 : List Cond := u_ws RX2 TX2 8
theorem nmX2 : ∀ a, a < 8 → ∀ b, b < 8 → a ≠ b → (TX2 a).2.1 ≠ (TX2 b).2.1 := by decide +kernel
theorem tyX2_ok : ∀ k, k < 8 → parseFieldDescriptor (TX2 k).2.2.1 = some (tyX2 k) := by decide +kernel
abbrev cX2_init : ByteArray := prog_4_method_1_code
def yX2_init : MethodName := ⟨RX2, "<init>", "()V"⟩
abbrev cX2_clear : ByteArray := prog_4_method_2_code
def yX2_clear : MethodName := ⟨RX2, "clear", "()V"⟩
abbrev cX2_addLone : ByteArray := prog_4_method_3_code
def yX2_addLone : MethodName := ⟨RX2, "addLone", "()V"⟩
abbrev cX2_addJoin : ByteArray := prog_4_method_4_code
def yX2_addJoin : MethodName := ⟨RX2, "addJoin", "(IIII)V"⟩
abbrev cX2_hang : ByteArray := prog_4_method_5_code
def yX2_hang : MethodName := ⟨RX2, "hang", "(I)V"⟩
abbrev cX2_cutBack : ByteArray := prog_4_method_6_code
def yX2_cutBack : MethodName := ⟨RX2, "cutBack", "(II)V"⟩
abbrev cX2_stepsUp : ByteArray := prog_4_method_7_code
def yX2_stepsUp : MethodName := ⟨RX2, "stepsUp", "(I)I"⟩
abbrev cX2_hangingOn : ByteArray := prog_4_method_8_code
def yX2_hangingOn : MethodName := ⟨RX2, "hangingOn", "(II)I"⟩
abbrev cX2_reasonsBetween : ByteArray := prog_4_method_9_code
def yX2_reasonsBetween : MethodName := ⟨RX2, "reasonsBetween", "(II)I"⟩
def RX3 : String := "ReasonCloser$Groups"
def TX3 : u_T := fun k => match k with
  | 0 => ("ReasonCloser$Groups", "lead", "[I", true)
  | 1 => ("ReasonCloser$Groups", "terms", "I", false)
  | _ => ("ReasonCloser$Groups", "groups", "I", false)
def tyX3 : Nat → FieldType := fun k => match k with
  | 0 => .array .int
  | 1 => .int
  | _ => .int
abbrev wsX30 : List Cond := u_ws RX3 TX3 3
theorem nmX3 : ∀ a, a < 3 → ∀ b, b < 3 → a ≠ b → (TX3 a).2.1 ≠ (TX3 b).2.1 := by decide +kernel
theorem tyX3_ok : ∀ k, k < 3 → parseFieldDescriptor (TX3 k).2.2.1 = some (tyX3 k) := by decide +kernel
abbrev cX3_init : ByteArray := prog_5_method_1_code
def yX3_init : MethodName := ⟨RX3, "<init>", "()V"⟩
abbrev cX3_partAll : ByteArray := prog_5_method_2_code
def yX3_partAll : MethodName := ⟨RX3, "partAll", "(I)V"⟩
abbrev cX3_addLone : ByteArray := prog_5_method_3_code
def yX3_addLone : MethodName := ⟨RX3, "addLone", "()V"⟩
abbrev cX3_copyFrom : ByteArray := prog_5_method_4_code
def yX3_copyFrom : MethodName := ⟨RX3, "copyFrom", "(LReasonCloser$Groups;)V"⟩
abbrev cX3_one : ByteArray := prog_5_method_5_code
def yX3_one : MethodName := ⟨RX3, "one", "(II)Z"⟩
abbrev cX3_unite : ByteArray := prog_5_method_6_code
def yX3_unite : MethodName := ⟨RX3, "unite", "(II)V"⟩
abbrev cX3_members : ByteArray := prog_5_method_7_code
def yX3_members : MethodName := ⟨RX3, "members", "(I)I"⟩
def RX4 : String := "ReasonCloser$Proofs"
def TX4 : u_T := fun k => match k with
  | 0 => ("ReasonCloser$Proofs", "rows", "[LReasonCloser$Groups;", true)
  | 1 => ("ReasonCloser$Proofs", "picks", "[I", true)
  | 2 => ("ReasonCloser$Proofs", "holding", "[J", true)
  | 3 => ("ReasonCloser$Proofs", "picked", "I", false)
  | 4 => ("ReasonCloser$Proofs", "first", "I", false)
  | 5 => ("ReasonCloser$Proofs", "second", "I", false)
  | 6 => ("ReasonCloser$Proofs", "fewestAlone", "Z", false)
  | 7 => ("ReasonCloser$Proofs", "below", "I", false)
  | _ => ("ReasonCloser$Proofs", "best", "I", false)
def tyX4 : Nat → FieldType := fun k => match k with
  | 0 => .array (.object "ReasonCloser$Groups")
  | 1 => .array .int
  | 2 => .array .long
  | 3 => .int
  | 4 => .int
  | 5 => .int
  | 6 => .boolean
  | 7 => .int
  | _ => .int
abbrev wsX40 : List Cond := u_ws RX4 TX4 9
theorem nmX4 : ∀ a, a < 9 → ∀ b, b < 9 → a ≠ b → (TX4 a).2.1 ≠ (TX4 b).2.1 := by decide +kernel
theorem tyX4_ok : ∀ k, k < 9 → parseFieldDescriptor (TX4 k).2.2.1 = some (tyX4 k) := by decide +kernel
abbrev cX4_init : ByteArray := prog_6_method_1_code
def yX4_init : MethodName := ⟨RX4, "<init>", "()V"⟩
def RX5 : String := "ReasonCloser$Reader"
def TX5 : u_T := fun k => match k with
  | 0 => ("ReasonCloser$Reader", "tape", "LReasonCloser$Tape;", true)
  | 1 => ("ReasonCloser$Reader", "end", "I", true)
  | 2 => ("ReasonCloser$Reader", "facts", "LReasonCloser$Facts;", true)
  | 3 => ("ReasonCloser$Reader", "chosen", "[I", true)
  | 4 => ("ReasonCloser$Reader", "found", "I", false)
  | 5 => ("ReasonCloser$Reader", "start", "I", false)
  | 6 => ("ReasonCloser$Reader", "kind", "I", false)
  | 7 => ("ReasonCloser$Reader", "value", "I", false)
  | _ => ("ReasonCloser$Reader", "behind", "I", false)
def tyX5 : Nat → FieldType := fun k => match k with
  | 0 => .object "ReasonCloser$Tape"
  | 1 => .int
  | 2 => .object "ReasonCloser$Facts"
  | 3 => .array .int
  | 4 => .int
  | 5 => .int
  | 6 => .int
  | 7 => .int
  | _ => .int
abbrev wsX50 : List Cond := u_ws RX5 TX5 9
theorem nmX5 : ∀ a, a < 9 → ∀ b, b < 9 → a ≠ b → (TX5 a).2.1 ≠ (TX5 b).2.1 := by decide +kernel
theorem tyX5_ok : ∀ k, k < 9 → parseFieldDescriptor (TX5 k).2.2.1 = some (tyX5 k) := by decide +kernel
abbrev cX5_init : ByteArray := prog_7_method_1_code
def yX5_init : MethodName := ⟨RX5, "<init>", "(LReasonCloser$Tape;ILReasonCloser$Facts;)V"⟩
abbrev cX5_readText : ByteArray := prog_7_method_2_code
def yX5_readText : MethodName := ⟨RX5, "readText", "()Z"⟩
abbrev cX5_readLine : ByteArray := prog_7_method_3_code
def yX5_readLine : MethodName := ⟨RX5, "readLine", "()Z"⟩
abbrev cX5_readFunction : ByteArray := prog_7_method_4_code
def yX5_readFunction : MethodName := ⟨RX5, "readFunction", "()Z"⟩
abbrev cX5_readTerm : ByteArray := prog_7_method_5_code
def yX5_readTerm : MethodName := ⟨RX5, "readTerm", "()Z"⟩
abbrev cX5_readParts : ByteArray := prog_7_method_6_code
def yX5_readParts : MethodName := ⟨RX5, "readParts", "(I)Z"⟩
abbrev cX5_readTwo : ByteArray := prog_7_method_7_code
def yX5_readTwo : MethodName := ⟨RX5, "readTwo", "(Z)Z"⟩
abbrev cX5_isName : ByteArray := prog_7_method_8_code
def yX5_isName : MethodName := ⟨RX5, "isName", "()Z"⟩
abbrev cX5_isNewName : ByteArray := prog_7_method_9_code
def yX5_isNewName : MethodName := ⟨RX5, "isNewName", "()Z"⟩
abbrev cX5_isToldTerm : ByteArray := prog_7_method_10_code
def yX5_isToldTerm : MethodName := ⟨RX5, "isToldTerm", "()Z"⟩
abbrev cX5_isSign : ByteArray := prog_7_method_11_code
def yX5_isSign : MethodName := ⟨RX5, "isSign", "(C)Z"⟩
abbrev cX5_fail : ByteArray := prog_7_method_12_code
def yX5_fail : MethodName := ⟨RX5, "fail", "(I)Z"⟩
abbrev cX5_advance : ByteArray := prog_7_method_13_code
def yX5_advance : MethodName := ⟨RX5, "advance", "()V"⟩
abbrev cX5_see : ByteArray := prog_7_method_14_code
def yX5_see : MethodName := ⟨RX5, "see", "(III)V"⟩
def RX6 : String := "ReasonCloser$Tape"
def TX6 : u_T := fun k => match k with
  | 0 => ("ReasonCloser$Tape", "row", "[B", true)
  | _ => ("ReasonCloser$Tape", "bytes", "I", false)
def tyX6 : Nat → FieldType := fun k => match k with
  | 0 => .array .byte
  | _ => .int
abbrev wsX60 : List Cond := u_ws RX6 TX6 2
theorem nmX6 : ∀ a, a < 2 → ∀ b, b < 2 → a ≠ b → (TX6 a).2.1 ≠ (TX6 b).2.1 := by decide +kernel
theorem tyX6_ok : ∀ k, k < 2 → parseFieldDescriptor (TX6 k).2.2.1 = some (tyX6 k) := by decide +kernel
abbrev cX6_init : ByteArray := prog_8_method_1_code
def yX6_init : MethodName := ⟨RX6, "<init>", "()V"⟩
abbrev cX6_append : ByteArray := prog_8_method_2_code
def yX6_append : MethodName := ⟨RX6, "append", "(I)V"⟩
abbrev cX6_isLetter : ByteArray := prog_8_method_3_code
def yX6_isLetter : MethodName := ⟨RX6, "isLetter", "(I)Z"⟩
abbrev cX6_isDigit : ByteArray := prog_8_method_4_code
def yX6_isDigit : MethodName := ⟨RX6, "isDigit", "(I)Z"⟩
abbrev cX6_behindLetters : ByteArray := prog_8_method_5_code
def yX6_behindLetters : MethodName := ⟨RX6, "behindLetters", "(II)I"⟩
abbrev cX6_behindBlanks : ByteArray := prog_8_method_6_code
def yX6_behindBlanks : MethodName := ⟨RX6, "behindBlanks", "(II)I"⟩
abbrev cX6_wordNumber : ByteArray := prog_8_method_7_code
def yX6_wordNumber : MethodName := ⟨RX6, "wordNumber", "(II)I"⟩
def RX7 : String := "ReasonCloser$Terms"
def TX7 : u_T := fun k => match k with
  | 0 => ("ReasonCloser$Terms", "takes", "[I", true)
  | 1 => ("ReasonCloser$Terms", "functionName", "[I", true)
  | 2 => ("ReasonCloser$Terms", "functionOf", "[I", true)
  | 3 => ("ReasonCloser$Terms", "termName", "[I", true)
  | 4 => ("ReasonCloser$Terms", "deep", "[I", true)
  | 5 => ("ReasonCloser$Terms", "parts", "[I", true)
  | 6 => ("ReasonCloser$Terms", "made", "[I", true)
  | 7 => ("ReasonCloser$Terms", "low", "[I", true)
  | 8 => ("ReasonCloser$Terms", "high", "[I", true)
  | 9 => ("ReasonCloser$Terms", "functions", "I", false)
  | 10 => ("ReasonCloser$Terms", "count", "I", false)
  | _ => ("ReasonCloser$Terms", "pairs", "I", false)
def tyX7 : Nat → FieldType := fun k => match k with
  | 0 => .array .int
  | 1 => .array .int
  | 2 => .array .int
  | 3 => .array .int
  | 4 => .array .int
  | 5 => .array .int
  | 6 => .array .int
  | 7 => .array .int
  | 8 => .array .int
  | 9 => .int
  | 10 => .int
  | _ => .int
abbrev wsX70 : List Cond := u_ws RX7 TX7 12
theorem nmX7 : ∀ a, a < 12 → ∀ b, b < 12 → a ≠ b → (TX7 a).2.1 ≠ (TX7 b).2.1 := by decide +kernel
theorem tyX7_ok : ∀ k, k < 12 → parseFieldDescriptor (TX7 k).2.2.1 = some (tyX7 k) := by decide +kernel
abbrev cX7_init : ByteArray := prog_9_method_1_code
def yX7_init : MethodName := ⟨RX7, "<init>", "()V"⟩
abbrev cX7_clear : ByteArray := prog_9_method_2_code
def yX7_clear : MethodName := ⟨RX7, "clear", "()V"⟩
abbrev cX7_addFunction : ByteArray := prog_9_method_3_code
def yX7_addFunction : MethodName := ⟨RX7, "addFunction", "(II)V"⟩
abbrev cX7_addTerm : ByteArray := prog_9_method_4_code
def yX7_addTerm : MethodName := ⟨RX7, "addTerm", "(IIIII)V"⟩
abbrev cX7_dropTerm : ByteArray := prog_9_method_5_code
def yX7_dropTerm : MethodName := ⟨RX7, "dropTerm", "()V"⟩
abbrev cX7_listPairs : ByteArray := prog_9_method_6_code
def yX7_listPairs : MethodName := ⟨RX7, "listPairs", "()V"⟩
abbrev cX7_functionNamed : ByteArray := prog_9_method_7_code
def yX7_functionNamed : MethodName := ⟨RX7, "functionNamed", "(I)I"⟩
abbrev cX7_termNamed : ByteArray := prog_9_method_8_code
def yX7_termNamed : MethodName := ⟨RX7, "termNamed", "(I)I"⟩
abbrev cX7_partsOf : ByteArray := prog_9_method_9_code
def yX7_partsOf : MethodName := ⟨RX7, "partsOf", "(I)I"⟩
abbrev cX7_partAt : ByteArray := prog_9_method_10_code
def yX7_partAt : MethodName := ⟨RX7, "partAt", "(II)I"⟩
abbrev cX7_termsAbove : ByteArray := prog_9_method_13_code
def yX7_termsAbove : MethodName := ⟨RX7, "termsAbove", "(ILReasonCloser$Groups;)I"⟩
abbrev cX7_partLeads : ByteArray := prog_9_method_14_code
def yX7_partLeads : MethodName := ⟨RX7, "partLeads", "(ILReasonCloser$Groups;)I"⟩
abbrev cX7_alike : ByteArray := prog_9_method_15_code
def yX7_alike : MethodName := ⟨RX7, "alike", "(ILReasonCloser$Groups;)Z"⟩
abbrev cX7_nextPair : ByteArray := prog_9_method_16_code
def yX7_nextPair : MethodName := ⟨RX7, "nextPair", "(LReasonCloser$Groups;)I"⟩
abbrev cX7_close : ByteArray := prog_9_method_17_code
def yX7_close : MethodName := ⟨RX7, "close", "(LReasonCloser$Groups;)V"⟩
abbrev cX7_climb : ByteArray := prog_9_method_18_code
def yX7_climb : MethodName := ⟨RX7, "climb", "(LReasonCloser$Groups;LReasonCloser$Groups;)V"⟩
abbrev cX7_madeOf : ByteArray := prog_9_method_19_code
def yX7_madeOf : MethodName := ⟨RX7, "madeOf", "(ILReasonCloser$Groups;)I"⟩
def RX8 : String := "ReasonCloser"
def TX8 : u_T := fun k => match k with
  | 0 => ("ReasonCloser", "tape", "LReasonCloser$Tape;", true)
  | 1 => ("ReasonCloser", "costs", "LReasonCloser$Costs;", true)
  | 2 => ("ReasonCloser", "proofs", "LReasonCloser$Proofs;", true)
  | 3 => ("ReasonCloser", "paper", "LReasonCloser$Groups;", true)
  | 4 => ("ReasonCloser", "under", "LReasonCloser$Groups;", true)
  | 5 => ("ReasonCloser", "facts", "LReasonCloser$Facts;", false)
  | 6 => ("ReasonCloser", "spare", "LReasonCloser$Facts;", false)
  | 7 => ("ReasonCloser", "trouble", "I", false)
  | 8 => ("ReasonCloser", "latestFault", "I", false)
  | _ => ("ReasonCloser", "place", "I", false)
def tyX8 : Nat → FieldType := fun k => match k with
  | 0 => .object "ReasonCloser$Tape"
  | 1 => .object "ReasonCloser$Costs"
  | 2 => .object "ReasonCloser$Proofs"
  | 3 => .object "ReasonCloser$Groups"
  | 4 => .object "ReasonCloser$Groups"
  | 5 => .object "ReasonCloser$Facts"
  | 6 => .object "ReasonCloser$Facts"
  | 7 => .int
  | 8 => .int
  | _ => .int
abbrev wsX80 : List Cond := u_ws RX8 TX8 10
theorem nmX8 : ∀ a, a < 10 → ∀ b, b < 10 → a ≠ b → (TX8 a).2.1 ≠ (TX8 b).2.1 := by decide +kernel
theorem tyX8_ok : ∀ k, k < 10 → parseFieldDescriptor (TX8 k).2.2.1 = some (tyX8 k) := by decide +kernel
abbrev cX8_init : ByteArray := prog_1_method_1_code
def yX8_init : MethodName := ⟨RX8, "<init>", "()V"⟩
abbrev cX8_feed : ByteArray := prog_1_method_2_code
def yX8_feed : MethodName := ⟨RX8, "feed", "(IIIII)I"⟩
abbrev cX8_text : ByteArray := prog_1_method_3_code
def yX8_text : MethodName := ⟨RX8, "text", "(I)I"⟩
abbrev cX8_about : ByteArray := prog_1_method_6_code
def yX8_about : MethodName := ⟨RX8, "about", "(I)I"⟩
abbrev cX8_term : ByteArray := prog_1_method_8_code
def yX8_term : MethodName := ⟨RX8, "term", "(II)I"⟩
abbrev cX8_partOf : ByteArray := prog_1_method_9_code
def yX8_partOf : MethodName := ⟨RX8, "partOf", "(II)I"⟩
abbrev cX8_sameOf : ByteArray := prog_1_method_10_code
def yX8_sameOf : MethodName := ⟨RX8, "sameOf", "(II)I"⟩
abbrev cX8_joinOf : ByteArray := prog_1_method_12_code
def yX8_joinOf : MethodName := ⟨RX8, "joinOf", "(II)I"⟩
abbrev cX8_height : ByteArray := prog_1_method_13_code
def yX8_height : MethodName := ⟨RX8, "height", "(I)I"⟩
abbrev cX8_hung : ByteArray := prog_1_method_14_code
def yX8_hung : MethodName := ⟨RX8, "hung", "(II)I"⟩
abbrev cX8_equal : ByteArray := prog_1_method_15_code
def yX8_equal : MethodName := ⟨RX8, "equal", "(II)I"⟩
abbrev cX8_proves : ByteArray := prog_1_method_20_code
def yX8_proves : MethodName := ⟨RX8, "proves", "(III)I"⟩
abbrev cX8_would : ByteArray := prog_1_method_29_code
def yX8_would : MethodName := ⟨RX8, "would", "(III)I"⟩
abbrev cX8_without : ByteArray := prog_1_method_31_code
def yX8_without : MethodName := ⟨RX8, "without", "(II)I"⟩
abbrev cX8_join : ByteArray := prog_1_method_33_code
def yX8_join : MethodName := ⟨RX8, "join", "(II)I"⟩
abbrev cX8_undo : ByteArray := prog_1_method_36_code
def yX8_undo : MethodName := ⟨RX8, "undo", "()Z"⟩
abbrev cX8_trouble : ByteArray := prog_1_method_39_code
def yX8_trouble : MethodName := ⟨RX8, "trouble", "()I"⟩
abbrev cX8_answer : ByteArray := prog_1_method_40_code
def yX8_answer : MethodName := ⟨RX8, "answer", "(I)I"⟩
abbrev cX8_refuse : ByteArray := prog_1_method_41_code
def yX8_refuse : MethodName := ⟨RX8, "refuse", "(I)I"⟩
abbrev cX8_bit : ByteArray := prog_1_method_42_code
def yX8_bit : MethodName := ⟨RX8, "bit", "(Z)I"⟩
abbrev cX8_isTerm : ByteArray := prog_1_method_43_code
def yX8_isTerm : MethodName := ⟨RX8, "isTerm", "(I)Z"⟩
abbrev cX8_isSame : ByteArray := prog_1_method_44_code
def yX8_isSame : MethodName := ⟨RX8, "isSame", "(I)Z"⟩
abbrev cX8_isOneBy : ByteArray := prog_1_method_46_code
def yX8_isOneBy : MethodName := ⟨RX8, "isOneBy", "(III)Z"⟩
def RX9 : String := "ReasonCloserLaw$Draws"
def TX9 : u_T := fun k => match k with
  | 0 => ("ReasonCloserLaw$Draws", "cells", "[I", true)
  | _ => ("ReasonCloserLaw$Draws", "at", "I", false)
def tyX9 : Nat → FieldType := fun k => match k with
  | 0 => .array .int
  | _ => .int
abbrev wsX90 : List Cond := u_ws RX9 TX9 2
theorem nmX9 : ∀ a, a < 2 → ∀ b, b < 2 → a ≠ b → (TX9 a).2.1 ≠ (TX9 b).2.1 := by decide +kernel
theorem tyX9_ok : ∀ k, k < 2 → parseFieldDescriptor (TX9 k).2.2.1 = some (tyX9 k) := by decide +kernel
abbrev cX9_init : ByteArray := prog_11_method_1_code
def yX9_init : MethodName := ⟨RX9, "<init>", "([I)V"⟩
abbrev cX9_next : ByteArray := prog_11_method_2_code
def yX9_next : MethodName := ⟨RX9, "next", "(II)I"⟩
def RX10 : String := "ReasonCloserLaw$Told"
def TX10 : u_T := fun k => match k with
  | 0 => ("ReasonCloserLaw$Told", "fun", "[I", true)
  | 1 => ("ReasonCloserLaw$Told", "a", "[I", true)
  | 2 => ("ReasonCloserLaw$Told", "b", "[I", true)
  | 3 => ("ReasonCloserLaw$Told", "one", "[I", true)
  | 4 => ("ReasonCloserLaw$Told", "other", "[I", true)
  | 5 => ("ReasonCloserLaw$Told", "terms", "I", false)
  | 6 => ("ReasonCloserLaw$Told", "sames", "I", false)
  | _ => ("ReasonCloserLaw$Told", "rep", "[I", true)
def tyX10 : Nat → FieldType := fun k => match k with
  | 0 => .array .int
  | 1 => .array .int
  | 2 => .array .int
  | 3 => .array .int
  | 4 => .array .int
  | 5 => .int
  | 6 => .int
  | _ => .array .int
abbrev wsX100 : List Cond := u_ws RX10 TX10 8
theorem nmX10 : ∀ a, a < 8 → ∀ b, b < 8 → a ≠ b → (TX10 a).2.1 ≠ (TX10 b).2.1 := by decide +kernel
theorem tyX10_ok : ∀ k, k < 8 → parseFieldDescriptor (TX10 k).2.2.1 = some (tyX10 k) := by decide +kernel
abbrev cX10_init : ByteArray := prog_12_method_1_code
def yX10_init : MethodName := ⟨RX10, "<init>", "()V"⟩
abbrev cX10_name : ByteArray := prog_12_method_2_code
def yX10_name : MethodName := ⟨RX10, "name", "(I)C"⟩
abbrev cX10_text : ByteArray := prog_12_method_3_code
def yX10_text : MethodName := ⟨RX10, "text", "(LReasonCloserLaw$Draws;)Ljava/lang/String;"⟩
abbrev cX10_unites : ByteArray := prog_12_method_4_code
def yX10_unites : MethodName := ⟨RX10, "unites", "(II)V"⟩
abbrev cX10_isAlike : ByteArray := prog_12_method_5_code
def yX10_isAlike : MethodName := ⟨RX10, "isAlike", "(II)Z"⟩
abbrev cX10_closes : ByteArray := prog_12_method_6_code
def yX10_closes : MethodName := ⟨RX10, "closes", "(I)V"⟩
def RX11 : String := "ReasonCloserModel"
def TX11 : u_T := fun k => match k with
  | _ => ("", "", "", false)
def tyX11 : Nat → FieldType := fun k => match k with
  | _ => .int
abbrev wsX110 : List Cond := u_ws RX11 TX11 0
theorem nmX11 : ∀ a, a < 0 → ∀ b, b < 0 → a ≠ b → (TX11 a).2.1 ≠ (TX11 b).2.1 := by decide +kernel
theorem tyX11_ok : ∀ k, k < 0 → parseFieldDescriptor (TX11 k).2.2.1 = some (tyX11 k) := by decide +kernel
def RJx145de : String := "java/io/Serializable"
def TJx145de : u_T := fun k => match k with
  | _ => ("", "", "", false)
def tyJx145de : Nat → FieldType := fun k => match k with
  | _ => .int
def RJ5 : String := "java/lang/AbstractStringBuilder"
def TJ5 : u_T := fun k => match k with
  | _ => ("", "", "", false)
def tyJ5 : Nat → FieldType := fun k => match k with
  | _ => .int
abbrev cJ5_init_a7421 : ByteArray := prog_14_method_3_code
def yJ5_init_a7421 : MethodName := ⟨RJ5, "<init>", "(Ljava/lang/String;)V"⟩
abbrev cJ5_length_8abf5 : ByteArray := prog_14_method_6_code
def yJ5_length_8abf5 : MethodName := ⟨RJ5, "length", "()I"⟩
abbrev cJ5_ensureCapacityInternal_d00df : ByteArray := prog_14_method_9_code
def yJ5_ensureCapacityInternal_d00df : MethodName := ⟨RJ5, "ensureCapacityInternal", "(I)V"⟩
abbrev cJ5_newCapacity_0f7a4 : ByteArray := prog_14_method_10_code
def yJ5_newCapacity_0f7a4 : MethodName := ⟨RJ5, "newCapacity", "(I)I"⟩
abbrev cJ5_inflate_da8c8 : ByteArray := prog_14_method_11_code
def yJ5_inflate_da8c8 : MethodName := ⟨RJ5, "inflate", "()V"⟩
abbrev cJ5_append_cf1ce : ByteArray := prog_14_method_22_code
def yJ5_append_cf1ce : MethodName := ⟨RJ5, "append", "(Ljava/lang/String;)Ljava/lang/AbstractStringBuilder;"⟩
abbrev cJ5_appendNull_278bc : ByteArray := prog_14_method_26_code
def yJ5_appendNull_278bc : MethodName := ⟨RJ5, "appendNull", "()Ljava/lang/AbstractStringBuilder;"⟩
abbrev cJ5_append_3fe6f : ByteArray := prog_14_method_31_code
def yJ5_append_3fe6f : MethodName := ⟨RJ5, "append", "(C)Ljava/lang/AbstractStringBuilder;"⟩
abbrev cJ5_getValue_6d5f1 : ByteArray := prog_14_method_64_code
def yJ5_getValue_6d5f1 : MethodName := ⟨RJ5, "getValue", "()[B"⟩
abbrev cJ5_isLatin1_aae02 : ByteArray := prog_14_method_68_code
def yJ5_isLatin1_aae02 : MethodName := ⟨RJ5, "isLatin1", "()Z"⟩
abbrev cJ5_inflateIfNeededFor_a7421 : ByteArray := prog_14_method_71_code
def yJ5_inflateIfNeededFor_a7421 : MethodName := ⟨RJ5, "inflateIfNeededFor", "(Ljava/lang/String;)V"⟩
abbrev cJ5_putStringAt_47b60 : ByteArray := prog_14_method_73_code
def yJ5_putStringAt_47b60 : MethodName := ⟨RJ5, "putStringAt", "(ILjava/lang/String;)V"⟩
def RJx2cfe8 : String := "java/lang/Appendable"
def TJx2cfe8 : u_T := fun k => match k with
  | _ => ("", "", "", false)
def tyJx2cfe8 : Nat → FieldType := fun k => match k with
  | _ => .int
def RJx9f9b0 : String := "java/lang/CharSequence"
def TJx9f9b0 : u_T := fun k => match k with
  | _ => ("", "", "", false)
def tyJx9f9b0 : Nat → FieldType := fun k => match k with
  | _ => .int
def RJx8e188 : String := "java/lang/Cloneable"
def TJx8e188 : u_T := fun k => match k with
  | _ => ("", "", "", false)
def tyJx8e188 : Nat → FieldType := fun k => match k with
  | _ => .int
def RJxb160c : String := "java/lang/Comparable"
def TJxb160c : u_T := fun k => match k with
  | _ => ("", "", "", false)
def tyJxb160c : Nat → FieldType := fun k => match k with
  | _ => .int
def RJ9 : String := "java/lang/Math"
def TJ9 : u_T := fun k => match k with
  | _ => ("", "", "", false)
def tyJ9 : Nat → FieldType := fun k => match k with
  | _ => .int
abbrev cJ9_max_7cf53 : ByteArray := prog_16_method_65_code
def yJ9_max_7cf53 : MethodName := ⟨RJ9, "max", "(II)I"⟩
abbrev cJ9_min_7cf53 : ByteArray := prog_16_method_69_code
def yJ9_min_7cf53 : MethodName := ⟨RJ9, "min", "(II)I"⟩
def RJ0 : String := "java/lang/String"
def TJ0 : u_T := fun k => match k with
  | 0 => ("java/lang/String", "value", "[B", true)
  | 1 => ("java/lang/String", "coder", "B", true)
  | 2 => ("java/lang/String", "hash", "I", false)
  | _ => ("java/lang/String", "hashIsZero", "Z", false)
def tyJ0 : Nat → FieldType := fun k => match k with
  | 0 => .array .byte
  | 1 => .byte
  | 2 => .int
  | _ => .boolean
abbrev wsJ00 : List Cond := u_ws RJ0 TJ0 4
theorem nmJ0 : ∀ a, a < 4 → ∀ b, b < 4 → a ≠ b → (TJ0 a).2.1 ≠ (TJ0 b).2.1 := by decide +kernel
theorem tyJ0_ok : ∀ k, k < 4 → parseFieldDescriptor (TJ0 k).2.2.1 = some (tyJ0 k) := by decide +kernel
abbrev cJ0_init_81219 : ByteArray := prog_17_method_53_code
def yJ0_init_81219 : MethodName := ⟨RJ0, "<init>", "(Ljava/lang/StringBuilder;)V"⟩
abbrev cJ0_length_8abf5 : ByteArray := prog_17_method_54_code
def yJ0_length_8abf5 : MethodName := ⟨RJ0, "length", "()I"⟩
abbrev cJ0_charAt_5068e : ByteArray := prog_17_method_56_code
def yJ0_charAt_5068e : MethodName := ⟨RJ0, "charAt", "(I)C"⟩
abbrev cJ0_getBytes_840e7 : ByteArray := prog_17_method_147_code
def yJ0_getBytes_840e7 : MethodName := ⟨RJ0, "getBytes", "([BIB)V"⟩
abbrev cJ0_init_db425 : ByteArray := prog_17_method_150_code
def yJ0_init_db425 : MethodName := ⟨RJ0, "<init>", "(Ljava/lang/AbstractStringBuilder;Ljava/lang/Void;)V"⟩
abbrev cJ0_coder_7d493 : ByteArray := prog_17_method_152_code
def yJ0_coder_7d493 : MethodName := ⟨RJ0, "coder", "()B"⟩
abbrev cJ0_isLatin1_aae02 : ByteArray := prog_17_method_154_code
def yJ0_isLatin1_aae02 : MethodName := ⟨RJ0, "isLatin1", "()Z"⟩
abbrev cJ0_checkIndex_df160 : ByteArray := prog_17_method_155_code
def yJ0_checkIndex_df160 : MethodName := ⟨RJ0, "checkIndex", "(II)V"⟩
abbrev cJ0_checkBoundsOffCount_cabcc : ByteArray := prog_17_method_157_code
def yJ0_checkBoundsOffCount_cabcc : MethodName := ⟨RJ0, "checkBoundsOffCount", "(III)I"⟩
abbrev cJ0_checkBoundsBeginEnd_23922 : ByteArray := prog_17_method_158_code
def yJ0_checkBoundsBeginEnd_23922 : MethodName := ⟨RJ0, "checkBoundsBeginEnd", "(III)V"⟩
def RJ4 : String := "java/lang/StringBuilder"
def TJ4 : u_T := fun k => match k with
  | 0 => ("java/lang/AbstractStringBuilder", "value", "[B", false)
  | 1 => ("java/lang/AbstractStringBuilder", "coder", "B", false)
  | 2 => ("java/lang/AbstractStringBuilder", "maybeLatin1", "Z", false)
  | _ => ("java/lang/AbstractStringBuilder", "count", "I", false)
def tyJ4 : Nat → FieldType := fun k => match k with
  | 0 => .array .byte
  | 1 => .byte
  | 2 => .boolean
  | _ => .int
abbrev wsJ40 : List Cond := u_ws RJ4 TJ4 4
theorem nmJ4 : ∀ a, a < 4 → ∀ b, b < 4 → a ≠ b → (TJ4 a).2.1 ≠ (TJ4 b).2.1 := by decide +kernel
theorem tyJ4_ok : ∀ k, k < 4 → parseFieldDescriptor (TJ4 k).2.2.1 = some (tyJ4 k) := by decide +kernel
abbrev cJ4_init_a7421 : ByteArray := prog_18_method_3_code
def yJ4_init_a7421 : MethodName := ⟨RJ4, "<init>", "(Ljava/lang/String;)V"⟩
abbrev cJ4_append_15ec4 : ByteArray := prog_18_method_7_code
def yJ4_append_15ec4 : MethodName := ⟨RJ4, "append", "(Ljava/lang/String;)Ljava/lang/StringBuilder;"⟩
abbrev cJ4_append_cf468 : ByteArray := prog_18_method_14_code
def yJ4_append_cf468 : MethodName := ⟨RJ4, "append", "(C)Ljava/lang/StringBuilder;"⟩
abbrev cJ4_toString_0e30d : ByteArray := prog_18_method_42_code
def yJ4_toString_0e30d : MethodName := ⟨RJ4, "toString", "()Ljava/lang/String;"⟩
abbrev cJ4_append_cf1ce : ByteArray := prog_18_method_80_code
def yJ4_append_cf1ce : MethodName := ⟨RJ4, "append", "(Ljava/lang/String;)Ljava/lang/AbstractStringBuilder;"⟩
abbrev cJ4_length_8abf5 : ByteArray := prog_18_method_93_code
def yJ4_length_8abf5 : MethodName := ⟨RJ4, "length", "()I"⟩
def RJ1 : String := "java/lang/StringLatin1"
def TJ1 : u_T := fun k => match k with
  | _ => ("", "", "", false)
def tyJ1 : Nat → FieldType := fun k => match k with
  | _ => .int
abbrev cJ1_charAt_3b067 : ByteArray := prog_19_method_2_code
def yJ1_charAt_3b067 : MethodName := ⟨RJ1, "charAt", "([BI)C"⟩
abbrev cJ1_canEncode_fc78d : ByteArray := prog_19_method_3_code
def yJ1_canEncode_fc78d : MethodName := ⟨RJ1, "canEncode", "(C)Z"⟩
abbrev cJ1_inflate_0e8fd : ByteArray := prog_19_method_50_code
def yJ1_inflate_0e8fd : MethodName := ⟨RJ1, "inflate", "([BI[BII)V"⟩
def RJ2 : String := "java/lang/StringUTF16"
def TJ2 : u_T := fun k => match k with
  | _ => ("", "", "", false)
def tyJ2 : Nat → FieldType := fun k => match k with
  | _ => .int
abbrev cJ2_newBytesFor_77867 : ByteArray := prog_20_method_2_code
def yJ2_newBytesFor_77867 : MethodName := ⟨RJ2, "newBytesFor", "(I)[B"⟩
abbrev cJ2_newBytesLength_0f7a4 : ByteArray := prog_20_method_3_code
def yJ2_newBytesLength_0f7a4 : MethodName := ⟨RJ2, "newBytesLength", "(I)I"⟩
abbrev cJ2_putChar_b72d1 : ByteArray := prog_20_method_4_code
def yJ2_putChar_b72d1 : MethodName := ⟨RJ2, "putChar", "([BII)V"⟩
abbrev cJ2_getChar_3b067 : ByteArray := prog_20_method_5_code
def yJ2_getChar_3b067 : MethodName := ⟨RJ2, "getChar", "([BI)C"⟩
abbrev cJ2_length_9d52b : ByteArray := prog_20_method_6_code
def yJ2_length_9d52b : MethodName := ⟨RJ2, "length", "([B)I"⟩
abbrev cJ2_coderFromArrayLen_85cad : ByteArray := prog_20_method_15_code
def yJ2_coderFromArrayLen_85cad : MethodName := ⟨RJ2, "coderFromArrayLen", "([BI)B"⟩
abbrev cJ2_compress_39247 : ByteArray := prog_20_method_17_code
def yJ2_compress_39247 : MethodName := ⟨RJ2, "compress", "([BII)[B"⟩
abbrev cJ2_compress_5af95 : ByteArray := prog_20_method_22_code
def yJ2_compress_5af95 : MethodName := ⟨RJ2, "compress", "([BI[BII)I"⟩
abbrev cJ2_putCharSB_b72d1 : ByteArray := prog_20_method_71_code
def yJ2_putCharSB_b72d1 : MethodName := ⟨RJ2, "putCharSB", "([BII)V"⟩
abbrev cJ2_putCharsAt_cd4e5 : ByteArray := prog_20_method_81_code
def yJ2_putCharsAt_cd4e5 : MethodName := ⟨RJ2, "putCharsAt", "([BICCCC)I"⟩
abbrev cJ2_charAt_3b067 : ByteArray := prog_20_method_83_code
def yJ2_charAt_3b067 : MethodName := ⟨RJ2, "charAt", "([BI)C"⟩
abbrev cJ2_inflate_0e8fd : ByteArray := prog_20_method_86_code
def yJ2_inflate_0e8fd : MethodName := ⟨RJ2, "inflate", "([BI[BII)V"⟩
abbrev cJ2_checkIndex_2214a : ByteArray := prog_20_method_91_code
def yJ2_checkIndex_2214a : MethodName := ⟨RJ2, "checkIndex", "(I[B)V"⟩
abbrev cJ2_checkBoundsBeginEnd_d044e : ByteArray := prog_20_method_93_code
def yJ2_checkBoundsBeginEnd_d044e : MethodName := ⟨RJ2, "checkBoundsBeginEnd", "(II[B)V"⟩
abbrev cJ2_checkBoundsOffCount_d044e : ByteArray := prog_20_method_94_code
def yJ2_checkBoundsOffCount_d044e : MethodName := ⟨RJ2, "checkBoundsOffCount", "(II[B)V"⟩
def RJ10 : String := "java/lang/System"
def TJ10 : u_T := fun k => match k with
  | _ => ("", "", "", false)
def tyJ10 : Nat → FieldType := fun k => match k with
  | _ => .int
def RJxfd54e : String := "java/lang/constant/Constable"
def TJxfd54e : u_T := fun k => match k with
  | _ => ("", "", "", false)
def tyJxfd54e : Nat → FieldType := fun k => match k with
  | _ => .int
def RJx3cf43 : String := "java/lang/constant/ConstantDesc"
def TJx3cf43 : u_T := fun k => match k with
  | _ => ("", "", "", false)
def tyJx3cf43 : Nat → FieldType := fun k => match k with
  | _ => .int
def RJ7 : String := "java/util/Arrays"
def TJ7 : u_T := fun k => match k with
  | _ => ("", "", "", false)
def tyJ7 : Nat → FieldType := fun k => match k with
  | _ => .int
abbrev cJ7_copyOf_9075b : ByteArray := prog_22_method_121_code
def yJ7_copyOf_9075b : MethodName := ⟨RJ7, "copyOf", "([BI)[B"⟩
abbrev cJ7_checkLength_df160 : ByteArray := prog_22_method_131_code
def yJ7_checkLength_df160 : MethodName := ⟨RJ7, "checkLength", "(II)V"⟩
abbrev cJ7_copyOfRange_39247 : ByteArray := prog_22_method_132_code
def yJ7_copyOfRange_39247 : MethodName := ⟨RJ7, "copyOfRange", "([BII)[B"⟩
abbrev cJ7_copyOfRangeByte_39247 : ByteArray := prog_22_method_133_code
def yJ7_copyOfRangeByte_39247 : MethodName := ⟨RJ7, "copyOfRangeByte", "([BII)[B"⟩
def RJ8 : String := "jdk/internal/util/ArraysSupport"
def TJ8 : u_T := fun k => match k with
  | _ => ("", "", "", false)
def tyJ8 : Nat → FieldType := fun k => match k with
  | _ => .int
abbrev cJ8_newLength_cabcc : ByteArray := prog_23_method_27_code
def yJ8_newLength_cabcc : MethodName := ⟨RJ8, "newLength", "(III)I"⟩
abbrev cJ8_hugeLength_7cf53 : ByteArray := prog_23_method_28_code
def yJ8_hugeLength_7cf53 : MethodName := ⟨RJ8, "hugeLength", "(II)I"⟩
def RJ3 : String := "jdk/internal/util/Preconditions"
def TJ3 : u_T := fun k => match k with
  | _ => ("", "", "", false)
def tyJ3 : Nat → FieldType := fun k => match k with
  | _ => .int
abbrev cJ3_checkIndex_8e157 : ByteArray := prog_24_method_11_code
def yJ3_checkIndex_8e157 : MethodName := ⟨RJ3, "checkIndex", "(IILjava/util/function/BiFunction;)I"⟩
abbrev cJ3_checkFromToIndex_8c36e : ByteArray := prog_24_method_12_code
def yJ3_checkFromToIndex_8c36e : MethodName := ⟨RJ3, "checkFromToIndex", "(IIILjava/util/function/BiFunction;)I"⟩
abbrev cJ3_checkFromIndexSize_8c36e : ByteArray := prog_24_method_13_code
def yJ3_checkFromIndexSize_8c36e : MethodName := ⟨RJ3, "checkFromIndexSize", "(IIILjava/util/function/BiFunction;)I"⟩
def RL : String := "ReasonCloserLaw"
abbrev cL_tell : ByteArray := method_2_code
def yL_tell : MethodName := ⟨RL, "tell", "(LReasonCloser;Ljava/lang/String;)I"⟩
abbrev cL_law : ByteArray := code
def yL_law : MethodName := ⟨RL, "law", "([I)Z"⟩
abbrev vwCl : List vw_C := [(RX0, TX0, 5), (RX1, TX1, 12), (RX2, TX2, 8), (RX3, TX3, 3), (RX4, TX4, 9), (RX5, TX5, 9), (RX6, TX6, 2), (RX7, TX7, 12), (RX8, TX8, 10), (RX10, TX10, 8), (RX9, TX9, 2), (RJ0, TJ0, 4), (RJ4, TJ4, 4)]
