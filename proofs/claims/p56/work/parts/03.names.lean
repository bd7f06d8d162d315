/-! ===== names, fields (out of the printed names) ===== -/
def RX0 : String := "StageBallet$Areas"
def TX0 : u_T := fun k => match k with
  | 0 => ("StageBallet$Areas", "open", "[I", true)
  | _ => ("StageBallet$Areas", "parent", "[I", true)
def tyX0 : Nat → FieldType := fun k => match k with
  | 0 => .array .int
  | _ => .array .int
abbrev wsX00 : List Cond := u_ws RX0 TX0 2
theorem nmX0 : ∀ a, a < 2 → ∀ b, b < 2 → a ≠ b → (TX0 a).2.1 ≠ (TX0 b).2.1 := by decide +kernel
theorem tyX0_ok : ∀ k, k < 2 → parseFieldDescriptor (TX0 k).2.2.1 = some (tyX0 k) := by decide +kernel
abbrev cX0_init : ByteArray := prog_2_method_1_code
def yX0_init : MethodName := ⟨RX0, "<init>", "()V"⟩
abbrev cX0_countByFilling : ByteArray := prog_2_method_2_code
def yX0_countByFilling : MethodName := ⟨RX0, "countByFilling", "(J)I"⟩
abbrev cX0_fillFrom : ByteArray := prog_2_method_3_code
def yX0_fillFrom : MethodName := ⟨RX0, "fillFrom", "(IJ)J"⟩
abbrev cX0_countByUniting : ByteArray := prog_2_method_4_code
def yX0_countByUniting : MethodName := ⟨RX0, "countByUniting", "(J)I"⟩
abbrev cX0_unite : ByteArray := prog_2_method_5_code
def yX0_unite : MethodName := ⟨RX0, "unite", "(IIJ)I"⟩
abbrev cX0_rootOf : ByteArray := prog_2_method_6_code
def yX0_rootOf : MethodName := ⟨RX0, "rootOf", "(I)I"⟩
def RX1 : String := "StageBallet$ExitPlan"
def TX1 : u_T := fun k => match k with
  | 0 => ("StageBallet$ExitPlan", "dancerCount", "I", false)
  | 1 => ("StageBallet$ExitPlan", "exitCount", "I", false)
  | 2 => ("StageBallet$ExitPlan", "cost", "[I", true)
  | 3 => ("StageBallet$ExitPlan", "rest", "[I", true)
  | 4 => ("StageBallet$ExitPlan", "dancerPotential", "[I", true)
  | 5 => ("StageBallet$ExitPlan", "exitPotential", "[I", true)
  | 6 => ("StageBallet$ExitPlan", "dancerAt", "[I", true)
  | 7 => ("StageBallet$ExitPlan", "cameFrom", "[I", true)
  | 8 => ("StageBallet$ExitPlan", "slack", "[I", true)
  | _ => ("StageBallet$ExitPlan", "visited", "[I", true)
def tyX1 : Nat → FieldType := fun k => match k with
  | 0 => .int
  | 1 => .int
  | 2 => .array .int
  | 3 => .array .int
  | 4 => .array .int
  | 5 => .array .int
  | 6 => .array .int
  | 7 => .array .int
  | 8 => .array .int
  | _ => .array .int
abbrev wsX10 : List Cond := u_ws RX1 TX1 10
theorem nmX1 : ∀ a, a < 10 → ∀ b, b < 10 → a ≠ b → (TX1 a).2.1 ≠ (TX1 b).2.1 := by decide +kernel
theorem tyX1_ok : ∀ k, k < 10 → parseFieldDescriptor (TX1 k).2.2.1 = some (tyX1 k) := by decide +kernel
abbrev cX1_init : ByteArray := prog_3_method_1_code
def yX1_init : MethodName := ⟨RX1, "<init>", "()V"⟩
abbrev cX1_measure : ByteArray := prog_3_method_2_code
def yX1_measure : MethodName := ⟨RX1, "measure", "(LStageBallet$State;LStageBallet$Ways;)V"⟩
abbrev cX1_costOf : ByteArray := prog_3_method_3_code
def yX1_costOf : MethodName := ⟨RX1, "costOf", "(II)I"⟩
abbrev cX1_costByTable : ByteArray := prog_3_method_4_code
def yX1_costByTable : MethodName := ⟨RX1, "costByTable", "()I"⟩
abbrev cX1_smallestRest : ByteArray := prog_3_method_5_code
def yX1_smallestRest : MethodName := ⟨RX1, "smallestRest", "(II)I"⟩
abbrev cX1_exitForSlot : ByteArray := prog_3_method_6_code
def yX1_exitForSlot : MethodName := ⟨RX1, "exitForSlot", "(I)I"⟩
abbrev cX1_firstExitFor : ByteArray := prog_3_method_7_code
def yX1_firstExitFor : MethodName := ⟨RX1, "firstExitFor", "(II)I"⟩
abbrev cX1_costByPotentials : ByteArray := prog_3_method_8_code
def yX1_costByPotentials : MethodName := ⟨RX1, "costByPotentials", "()I"⟩
abbrev cX1_place : ByteArray := prog_3_method_9_code
def yX1_place : MethodName := ⟨RX1, "place", "(I)V"⟩
abbrev cX1_updateSlack : ByteArray := prog_3_method_10_code
def yX1_updateSlack : MethodName := ⟨RX1, "updateSlack", "(I)V"⟩
abbrev cX1_leastSlack : ByteArray := prog_3_method_11_code
def yX1_leastSlack : MethodName := ⟨RX1, "leastSlack", "()I"⟩
abbrev cX1_shiftPotentials : ByteArray := prog_3_method_12_code
def yX1_shiftPotentials : MethodName := ⟨RX1, "shiftPotentials", "(I)V"⟩
def RX2 : String := "StageBallet$History"
def TX2 : u_T := fun k => match k with
  | 0 => ("StageBallet$History", "states", "[LStageBallet$State;", true)
  | 1 => ("StageBallet$History", "next", "I", false)
  | _ => ("StageBallet$History", "count", "I", false)
def tyX2 : Nat → FieldType := fun k => match k with
  | 0 => .array (.object "StageBallet$State")
  | 1 => .int
  | _ => .int
abbrev wsX20 : List Cond := u_ws RX2 TX2 3
theorem nmX2 : ∀ a, a < 3 → ∀ b, b < 3 → a ≠ b → (TX2 a).2.1 ≠ (TX2 b).2.1 := by decide +kernel
theorem tyX2_ok : ∀ k, k < 3 → parseFieldDescriptor (TX2 k).2.2.1 = some (tyX2 k) := by decide +kernel
abbrev cX2_init : ByteArray := prog_4_method_1_code
def yX2_init : MethodName := ⟨RX2, "<init>", "()V"⟩
abbrev cX2_push : ByteArray := prog_4_method_2_code
def yX2_push : MethodName := ⟨RX2, "push", "(LStageBallet$State;)V"⟩
abbrev cX2_popInto : ByteArray := prog_4_method_3_code
def yX2_popInto : MethodName := ⟨RX2, "popInto", "(LStageBallet$State;)V"⟩
abbrev cX2_placeAt : ByteArray := prog_4_method_4_code
def yX2_placeAt : MethodName := ⟨RX2, "placeAt", "(I)LStageBallet$State;"⟩
def RX3 : String := "StageBallet$Line"
def TX3 : u_T := fun k => match k with
  | 0 => ("StageBallet$Line", "letters", "[C", true)
  | _ => ("StageBallet$Line", "length", "I", false)
def tyX3 : Nat → FieldType := fun k => match k with
  | 0 => .array .char
  | _ => .int
abbrev wsX30 : List Cond := u_ws RX3 TX3 2
theorem nmX3 : ∀ a, a < 2 → ∀ b, b < 2 → a ≠ b → (TX3 a).2.1 ≠ (TX3 b).2.1 := by decide +kernel
theorem tyX3_ok : ∀ k, k < 2 → parseFieldDescriptor (TX3 k).2.2.1 = some (tyX3 k) := by decide +kernel
abbrev cX3_init : ByteArray := prog_5_method_1_code
def yX3_init : MethodName := ⟨RX3, "<init>", "()V"⟩
abbrev cX3_empty : ByteArray := prog_5_method_2_code
def yX3_empty : MethodName := ⟨RX3, "empty", "()V"⟩
abbrev cX3_put : ByteArray := prog_5_method_3_code
def yX3_put : MethodName := ⟨RX3, "put", "(C)V"⟩
abbrev cX3_putRepeated : ByteArray := prog_5_method_4_code
def yX3_putRepeated : MethodName := ⟨RX3, "putRepeated", "(IC)V"⟩
def RX4 : String := "StageBallet$Program"
def TX4 : u_T := fun k => match k with
  | 0 => ("StageBallet$Program", "text", "[C", true)
  | 1 => ("StageBallet$Program", "length", "I", false)
  | 2 => ("StageBallet$Program", "commands", "I", false)
  | 3 => ("StageBallet$Program", "kinds", "[I", true)
  | 4 => ("StageBallet$Program", "arguments", "[I", true)
  | 5 => ("StageBallet$Program", "position", "I", false)
  | _ => ("StageBallet$Program", "argumentsRead", "I", false)
def tyX4 : Nat → FieldType := fun k => match k with
  | 0 => .array .char
  | 1 => .int
  | 2 => .int
  | 3 => .array .int
  | 4 => .array .int
  | 5 => .int
  | _ => .int
abbrev wsX40 : List Cond := u_ws RX4 TX4 7
theorem nmX4 : ∀ a, a < 7 → ∀ b, b < 7 → a ≠ b → (TX4 a).2.1 ≠ (TX4 b).2.1 := by decide +kernel
theorem tyX4_ok : ∀ k, k < 7 → parseFieldDescriptor (TX4 k).2.2.1 = some (tyX4 k) := by decide +kernel
abbrev cX4_init : ByteArray := prog_6_method_1_code
def yX4_init : MethodName := ⟨RX4, "<init>", "()V"⟩
abbrev cX4_append : ByteArray := prog_6_method_2_code
def yX4_append : MethodName := ⟨RX4, "append", "(C)V"⟩
abbrev cX4_argument : ByteArray := prog_6_method_3_code
def yX4_argument : MethodName := ⟨RX4, "argument", "(II)I"⟩
abbrev cX4_moveAt : ByteArray := prog_6_method_4_code
def yX4_moveAt : MethodName := ⟨RX4, "moveAt", "(I)I"⟩
abbrev cX4_parse : ByteArray := prog_6_method_5_code
def yX4_parse : MethodName := ⟨RX4, "parse", "()I"⟩
abbrev cX4_readCommand : ByteArray := prog_6_method_6_code
def yX4_readCommand : MethodName := ⟨RX4, "readCommand", "()Z"⟩
abbrev cX4_readWord : ByteArray := prog_6_method_7_code
def yX4_readWord : MethodName := ⟨RX4, "readWord", "()I"⟩
abbrev cX4_countMatching : ByteArray := prog_6_method_8_code
def yX4_countMatching : MethodName := ⟨RX4, "countMatching", "(Ljava/lang/String;)I"⟩
abbrev cX4_readPart : ByteArray := prog_6_method_9_code
def yX4_readPart : MethodName := ⟨RX4, "readPart", "(C)Z"⟩
abbrev cX4_readSign : ByteArray := prog_6_method_10_code
def yX4_readSign : MethodName := ⟨RX4, "readSign", "(C)Z"⟩
abbrev cX4_readNumber : ByteArray := prog_6_method_11_code
def yX4_readNumber : MethodName := ⟨RX4, "readNumber", "(I)Z"⟩
abbrev cX4_readMoves : ByteArray := prog_6_method_12_code
def yX4_readMoves : MethodName := ⟨RX4, "readMoves", "()V"⟩
abbrev cX4_keepArgument : ByteArray := prog_6_method_13_code
def yX4_keepArgument : MethodName := ⟨RX4, "keepArgument", "(I)V"⟩
abbrev cX4_signAt : ByteArray := prog_6_method_14_code
def yX4_signAt : MethodName := ⟨RX4, "signAt", "(I)I"⟩
abbrev cX4_isDigit : ByteArray := prog_6_method_15_code
def yX4_isDigit : MethodName := ⟨RX4, "isDigit", "(I)Z"⟩
abbrev cX4_wordOf : ByteArray := prog_6_method_16_code
def yX4_wordOf : MethodName := ⟨RX4, "wordOf", "(I)Ljava/lang/String;"⟩
abbrev cX4_shapeOf : ByteArray := prog_6_method_17_code
def yX4_shapeOf : MethodName := ⟨RX4, "shapeOf", "(I)Ljava/lang/String;"⟩
def RX5 : String := "StageBallet$Rehearsal"
def TX5 : u_T := fun k => match k with
  | 0 => ("StageBallet$Rehearsal", "leader", "I", false)
  | 1 => ("StageBallet$Rehearsal", "follower", "I", false)
  | 2 => ("StageBallet$Rehearsal", "leaderCell", "I", false)
  | 3 => ("StageBallet$Rehearsal", "leaderNails", "I", false)
  | 4 => ("StageBallet$Rehearsal", "followerCell", "I", false)
  | 5 => ("StageBallet$Rehearsal", "followerNails", "I", false)
  | 6 => ("StageBallet$Rehearsal", "closed", "J", false)
  | _ => ("StageBallet$Rehearsal", "lost", "I", false)
def tyX5 : Nat → FieldType := fun k => match k with
  | 0 => .int
  | 1 => .int
  | 2 => .int
  | 3 => .int
  | 4 => .int
  | 5 => .int
  | 6 => .long
  | _ => .int
abbrev wsX50 : List Cond := u_ws RX5 TX5 8
theorem nmX5 : ∀ a, a < 8 → ∀ b, b < 8 → a ≠ b → (TX5 a).2.1 ≠ (TX5 b).2.1 := by decide +kernel
theorem tyX5_ok : ∀ k, k < 8 → parseFieldDescriptor (TX5 k).2.2.1 = some (tyX5 k) := by decide +kernel
abbrev cX5_init : ByteArray := prog_7_method_1_code
def yX5_init : MethodName := ⟨RX5, "<init>", "()V"⟩
abbrev cX5_firstBlocked : ByteArray := prog_7_method_2_code
def yX5_firstBlocked : MethodName := ⟨RX5, "firstBlocked", "(LStageBallet$State;II)I"⟩
abbrev cX5_goOn : ByteArray := prog_7_method_3_code
def yX5_goOn : MethodName := ⟨RX5, "goOn", "(I)Z"⟩
abbrev cX5_canCome : ByteArray := prog_7_method_4_code
def yX5_canCome : MethodName := ⟨RX5, "canCome", "(I)Z"⟩
abbrev cX5_showOn : ByteArray := prog_7_method_5_code
def yX5_showOn : MethodName := ⟨RX5, "showOn", "(LStageBallet$State;)V"⟩
def RX6 : String := "StageBallet$State"
def TX6 : u_T := fun k => match k with
  | 0 => ("StageBallet$State", "props", "J", false)
  | 1 => ("StageBallet$State", "dancerCount", "I", false)
  | 2 => ("StageBallet$State", "nextNumber", "I", false)
  | 3 => ("StageBallet$State", "number", "[I", true)
  | 4 => ("StageBallet$State", "cell", "[I", true)
  | 5 => ("StageBallet$State", "nails", "[I", true)
  | 6 => ("StageBallet$State", "partnerNumber", "[I", true)
  | 7 => ("StageBallet$State", "figureMoves", "[I", true)
  | 8 => ("StageBallet$State", "figureSize", "[I", true)
  | 9 => ("StageBallet$State", "exitCount", "I", false)
  | 10 => ("StageBallet$State", "exitCell", "[I", true)
  | 11 => ("StageBallet$State", "lost", "I", false)
  | 12 => ("StageBallet$State", "brought", "I", false)
  | 13 => ("StageBallet$State", "given", "I", false)
  | _ => ("StageBallet$State", "takenAway", "I", false)
def tyX6 : Nat → FieldType := fun k => match k with
  | 0 => .long
  | 1 => .int
  | 2 => .int
  | 3 => .array .int
  | 4 => .array .int
  | 5 => .array .int
  | 6 => .array .int
  | 7 => .array .int
  | 8 => .array .int
  | 9 => .int
  | 10 => .array .int
  | 11 => .int
  | 12 => .int
  | 13 => .int
  | _ => .int
abbrev wsX60 : List Cond := u_ws RX6 TX6 15
theorem nmX6 : ∀ a, a < 15 → ∀ b, b < 15 → a ≠ b → (TX6 a).2.1 ≠ (TX6 b).2.1 := by decide +kernel
theorem tyX6_ok : ∀ k, k < 15 → parseFieldDescriptor (TX6 k).2.2.1 = some (tyX6 k) := by decide +kernel
abbrev cX6_init : ByteArray := prog_8_method_1_code
def yX6_init : MethodName := ⟨RX6, "<init>", "()V"⟩
abbrev cX6_copyFrom : ByteArray := prog_8_method_2_code
def yX6_copyFrom : MethodName := ⟨RX6, "copyFrom", "(LStageBallet$State;)V"⟩
abbrev cX6_countProps : ByteArray := prog_8_method_3_code
def yX6_countProps : MethodName := ⟨RX6, "countProps", "()I"⟩
abbrev cX6_placeProp : ByteArray := prog_8_method_4_code
def yX6_placeProp : MethodName := ⟨RX6, "placeProp", "(I)V"⟩
abbrev cX6_takeProp : ByteArray := prog_8_method_5_code
def yX6_takeProp : MethodName := ⟨RX6, "takeProp", "(I)V"⟩
abbrev cX6_isOpen : ByteArray := prog_8_method_6_code
def yX6_isOpen : MethodName := ⟨RX6, "isOpen", "(I)Z"⟩
abbrev cX6_slotOf : ByteArray := prog_8_method_7_code
def yX6_slotOf : MethodName := ⟨RX6, "slotOf", "(I)I"⟩
abbrev cX6_slotAt : ByteArray := prog_8_method_8_code
def yX6_slotAt : MethodName := ⟨RX6, "slotAt", "(I)I"⟩
abbrev cX6_cellsOfOthers : ByteArray := prog_8_method_9_code
def yX6_cellsOfOthers : MethodName := ⟨RX6, "cellsOfOthers", "(I)J"⟩
abbrev cX6_bringDancer : ByteArray := prog_8_method_10_code
def yX6_bringDancer : MethodName := ⟨RX6, "bringDancer", "(II)I"⟩
abbrev cX6_dismissDancer : ByteArray := prog_8_method_11_code
def yX6_dismissDancer : MethodName := ⟨RX6, "dismissDancer", "(I)V"⟩
abbrev cX6_dismissAll : ByteArray := prog_8_method_12_code
def yX6_dismissAll : MethodName := ⟨RX6, "dismissAll", "()V"⟩
abbrev cX6_bind : ByteArray := prog_8_method_13_code
def yX6_bind : MethodName := ⟨RX6, "bind", "(II)V"⟩
abbrev cX6_separate : ByteArray := prog_8_method_14_code
def yX6_separate : MethodName := ⟨RX6, "separate", "(I)V"⟩
abbrev cX6_partnerOf : ByteArray := prog_8_method_15_code
def yX6_partnerOf : MethodName := ⟨RX6, "partnerOf", "(I)I"⟩
abbrev cX6_countPaired : ByteArray := prog_8_method_16_code
def yX6_countPaired : MethodName := ⟨RX6, "countPaired", "()I"⟩
abbrev cX6_fillNails : ByteArray := prog_8_method_17_code
def yX6_fillNails : MethodName := ⟨RX6, "fillNails", "(I)I"⟩
abbrev cX6_sumOfNails : ByteArray := prog_8_method_18_code
def yX6_sumOfNails : MethodName := ⟨RX6, "sumOfNails", "()I"⟩
abbrev cX6_lostByParts : ByteArray := prog_8_method_19_code
def yX6_lostByParts : MethodName := ⟨RX6, "lostByParts", "()I"⟩
abbrev cX6_numberAtRank : ByteArray := prog_8_method_20_code
def yX6_numberAtRank : MethodName := ⟨RX6, "numberAtRank", "(I)I"⟩
abbrev cX6_rankOf : ByteArray := prog_8_method_21_code
def yX6_rankOf : MethodName := ⟨RX6, "rankOf", "(I)I"⟩
abbrev cX6_movesIn : ByteArray := prog_8_method_22_code
def yX6_movesIn : MethodName := ⟨RX6, "movesIn", "(I)I"⟩
abbrev cX6_moveAt : ByteArray := prog_8_method_23_code
def yX6_moveAt : MethodName := ⟨RX6, "moveAt", "(II)I"⟩
abbrev cX6_appendMove : ByteArray := prog_8_method_24_code
def yX6_appendMove : MethodName := ⟨RX6, "appendMove", "(II)V"⟩
abbrev cX6_emptyFigure : ByteArray := prog_8_method_25_code
def yX6_emptyFigure : MethodName := ⟨RX6, "emptyFigure", "(I)V"⟩
abbrev cX6_hasExitAt : ByteArray := prog_8_method_26_code
def yX6_hasExitAt : MethodName := ⟨RX6, "hasExitAt", "(I)Z"⟩
abbrev cX6_openExit : ByteArray := prog_8_method_27_code
def yX6_openExit : MethodName := ⟨RX6, "openExit", "(I)V"⟩
abbrev cX6_closeExit : ByteArray := prog_8_method_28_code
def yX6_closeExit : MethodName := ⟨RX6, "closeExit", "(I)V"⟩
abbrev cX6_signAt : ByteArray := prog_8_method_29_code
def yX6_signAt : MethodName := ⟨RX6, "signAt", "(I)C"⟩
abbrev cX6_hasSoundStage : ByteArray := prog_8_method_30_code
def yX6_hasSoundStage : MethodName := ⟨RX6, "hasSoundStage", "()Z"⟩
abbrev cX6_hasSoundDancers : ByteArray := prog_8_method_31_code
def yX6_hasSoundDancers : MethodName := ⟨RX6, "hasSoundDancers", "()Z"⟩
abbrev cX6_isSoundDancer : ByteArray := prog_8_method_32_code
def yX6_isSoundDancer : MethodName := ⟨RX6, "isSoundDancer", "(I)Z"⟩
abbrev cX6_hasSoundFigures : ByteArray := prog_8_method_33_code
def yX6_hasSoundFigures : MethodName := ⟨RX6, "hasSoundFigures", "()Z"⟩
def RX7 : String := "StageBallet$Ways"
def TX7 : u_T := fun k => match k with
  | 0 => ("StageBallet$Ways", "steps", "[I", true)
  | _ => ("StageBallet$Ways", "queue", "[I", true)
def tyX7 : Nat → FieldType := fun k => match k with
  | 0 => .array .int
  | _ => .array .int
abbrev wsX70 : List Cond := u_ws RX7 TX7 2
theorem nmX7 : ∀ a, a < 2 → ∀ b, b < 2 → a ≠ b → (TX7 a).2.1 ≠ (TX7 b).2.1 := by decide +kernel
theorem tyX7_ok : ∀ k, k < 2 → parseFieldDescriptor (TX7 k).2.2.1 = some (tyX7 k) := by decide +kernel
abbrev cX7_init : ByteArray := prog_9_method_1_code
def yX7_init : MethodName := ⟨RX7, "<init>", "()V"⟩
abbrev cX7_lengthTo : ByteArray := prog_9_method_2_code
def yX7_lengthTo : MethodName := ⟨RX7, "lengthTo", "(I)I"⟩
abbrev cX7_searchBreadthFirst : ByteArray := prog_9_method_3_code
def yX7_searchBreadthFirst : MethodName := ⟨RX7, "searchBreadthFirst", "(IJ)V"⟩
def RX8 : String := "StageBallet"
def TX8 : u_T := fun k => match k with
  | 0 => ("StageBallet", "now", "LStageBallet$State;", true)
  | 1 => ("StageBallet", "saved", "LStageBallet$State;", true)
  | 2 => ("StageBallet", "before", "LStageBallet$State;", true)
  | 3 => ("StageBallet", "history", "LStageBallet$History;", true)
  | 4 => ("StageBallet", "areaSearch", "LStageBallet$Areas;", true)
  | 5 => ("StageBallet", "ways", "LStageBallet$Ways;", true)
  | 6 => ("StageBallet", "rehearsal", "LStageBallet$Rehearsal;", true)
  | 7 => ("StageBallet", "plan", "LStageBallet$ExitPlan;", true)
  | 8 => ("StageBallet", "program", "LStageBallet$Program;", true)
  | 9 => ("StageBallet", "line", "LStageBallet$Line;", true)
  | 10 => ("StageBallet", "hasSaved", "Z", false)
  | 11 => ("StageBallet", "lastErrorPosition", "I", false)
  | _ => ("StageBallet", "lastFailedCommand", "I", false)
def tyX8 : Nat → FieldType := fun k => match k with
  | 0 => .object "StageBallet$State"
  | 1 => .object "StageBallet$State"
  | 2 => .object "StageBallet$State"
  | 3 => .object "StageBallet$History"
  | 4 => .object "StageBallet$Areas"
  | 5 => .object "StageBallet$Ways"
  | 6 => .object "StageBallet$Rehearsal"
  | 7 => .object "StageBallet$ExitPlan"
  | 8 => .object "StageBallet$Program"
  | 9 => .object "StageBallet$Line"
  | 10 => .boolean
  | 11 => .int
  | _ => .int
abbrev wsX80 : List Cond := u_ws RX8 TX8 13
theorem nmX8 : ∀ a, a < 13 → ∀ b, b < 13 → a ≠ b → (TX8 a).2.1 ≠ (TX8 b).2.1 := by decide +kernel
theorem tyX8_ok : ∀ k, k < 13 → parseFieldDescriptor (TX8 k).2.2.1 = some (tyX8 k) := by decide +kernel
abbrev cX8_init : ByteArray := prog_1_method_1_code
def yX8_init : MethodName := ⟨RX8, "<init>", "()V"⟩
abbrev cX8_addProp : ByteArray := prog_1_method_2_code
def yX8_addProp : MethodName := ⟨RX8, "addProp", "(II)I"⟩
abbrev cX8_removeProp : ByteArray := prog_1_method_3_code
def yX8_removeProp : MethodName := ⟨RX8, "removeProp", "(II)I"⟩
abbrev cX8_isFree : ByteArray := prog_1_method_4_code
def yX8_isFree : MethodName := ⟨RX8, "isFree", "(II)Z"⟩
abbrev cX8_areas : ByteArray := prog_1_method_5_code
def yX8_areas : MethodName := ⟨RX8, "areas", "()I"⟩
abbrev cX8_areasByUnions : ByteArray := prog_1_method_6_code
def yX8_areasByUnions : MethodName := ⟨RX8, "areasByUnions", "()I"⟩
abbrev cX8_areaSize : ByteArray := prog_1_method_7_code
def yX8_areaSize : MethodName := ⟨RX8, "areaSize", "(II)I"⟩
abbrev cX8_addDancer : ByteArray := prog_1_method_8_code
def yX8_addDancer : MethodName := ⟨RX8, "addDancer", "(III)I"⟩
abbrev cX8_removeDancer : ByteArray := prog_1_method_9_code
def yX8_removeDancer : MethodName := ⟨RX8, "removeDancer", "(I)I"⟩
abbrev cX8_pair : ByteArray := prog_1_method_10_code
def yX8_pair : MethodName := ⟨RX8, "pair", "(II)I"⟩
abbrev cX8_unpair : ByteArray := prog_1_method_11_code
def yX8_unpair : MethodName := ⟨RX8, "unpair", "(I)I"⟩
abbrev cX8_renewNails : ByteArray := prog_1_method_12_code
def yX8_renewNails : MethodName := ⟨RX8, "renewNails", "(I)I"⟩
abbrev cX8_dancers : ByteArray := prog_1_method_13_code
def yX8_dancers : MethodName := ⟨RX8, "dancers", "()I"⟩
abbrev cX8_isPresent : ByteArray := prog_1_method_14_code
def yX8_isPresent : MethodName := ⟨RX8, "isPresent", "(I)Z"⟩
abbrev cX8_column : ByteArray := prog_1_method_15_code
def yX8_column : MethodName := ⟨RX8, "column", "(I)I"⟩
abbrev cX8_row : ByteArray := prog_1_method_16_code
def yX8_row : MethodName := ⟨RX8, "row", "(I)I"⟩
abbrev cX8_nails : ByteArray := prog_1_method_17_code
def yX8_nails : MethodName := ⟨RX8, "nails", "(I)I"⟩
abbrev cX8_partner : ByteArray := prog_1_method_18_code
def yX8_partner : MethodName := ⟨RX8, "partner", "(I)I"⟩
abbrev cX8_dancerByNails : ByteArray := prog_1_method_19_code
def yX8_dancerByNails : MethodName := ⟨RX8, "dancerByNails", "(I)I"⟩
abbrev cX8_addMove : ByteArray := prog_1_method_20_code
def yX8_addMove : MethodName := ⟨RX8, "addMove", "(IC)I"⟩
abbrev cX8_clearFigure : ByteArray := prog_1_method_21_code
def yX8_clearFigure : MethodName := ⟨RX8, "clearFigure", "(I)I"⟩
abbrev cX8_figureLength : ByteArray := prog_1_method_22_code
def yX8_figureLength : MethodName := ⟨RX8, "figureLength", "(I)I"⟩
abbrev cX8_perform : ByteArray := prog_1_method_23_code
def yX8_perform : MethodName := ⟨RX8, "perform", "(II)I"⟩
abbrev cX8_blockedBeat : ByteArray := prog_1_method_24_code
def yX8_blockedBeat : MethodName := ⟨RX8, "blockedBeat", "(II)I"⟩
abbrev cX8_distance : ByteArray := prog_1_method_25_code
def yX8_distance : MethodName := ⟨RX8, "distance", "(III)I"⟩
abbrev cX8_walk : ByteArray := prog_1_method_27_code
def yX8_walk : MethodName := ⟨RX8, "walk", "(III)I"⟩
abbrev cX8_addExit : ByteArray := prog_1_method_28_code
def yX8_addExit : MethodName := ⟨RX8, "addExit", "(II)I"⟩
abbrev cX8_removeExit : ByteArray := prog_1_method_29_code
def yX8_removeExit : MethodName := ⟨RX8, "removeExit", "(I)I"⟩
abbrev cX8_exits : ByteArray := prog_1_method_30_code
def yX8_exits : MethodName := ⟨RX8, "exits", "()I"⟩
abbrev cX8_exitDistance : ByteArray := prog_1_method_31_code
def yX8_exitDistance : MethodName := ⟨RX8, "exitDistance", "(II)I"⟩
abbrev cX8_exitCost : ByteArray := prog_1_method_32_code
def yX8_exitCost : MethodName := ⟨RX8, "exitCost", "()I"⟩
abbrev cX8_exitCostByPotentials : ByteArray := prog_1_method_33_code
def yX8_exitCostByPotentials : MethodName := ⟨RX8, "exitCostByPotentials", "()I"⟩
abbrev cX8_exitOf : ByteArray := prog_1_method_34_code
def yX8_exitOf : MethodName := ⟨RX8, "exitOf", "(I)I"⟩
abbrev cX8_leaveAll : ByteArray := prog_1_method_35_code
def yX8_leaveAll : MethodName := ⟨RX8, "leaveAll", "()I"⟩
abbrev cX8_isMirrored : ByteArray := prog_1_method_36_code
def yX8_isMirrored : MethodName := ⟨RX8, "isMirrored", "()Z"⟩
abbrev cX8_isMirroredByRows : ByteArray := prog_1_method_37_code
def yX8_isMirroredByRows : MethodName := ⟨RX8, "isMirroredByRows", "()Z"⟩
abbrev cX8_lostNails : ByteArray := prog_1_method_38_code
def yX8_lostNails : MethodName := ⟨RX8, "lostNails", "()I"⟩
abbrev cX8_lostNailsByParts : ByteArray := prog_1_method_39_code
def yX8_lostNailsByParts : MethodName := ⟨RX8, "lostNailsByParts", "()I"⟩
abbrev cX8_meanNails : ByteArray := prog_1_method_40_code
def yX8_meanNails : MethodName := ⟨RX8, "meanNails", "()D"⟩
abbrev cX8_meanNailsBits : ByteArray := prog_1_method_41_code
def yX8_meanNailsBits : MethodName := ⟨RX8, "meanNailsBits", "()J"⟩
abbrev cX8_pairedShare : ByteArray := prog_1_method_42_code
def yX8_pairedShare : MethodName := ⟨RX8, "pairedShare", "()F"⟩
abbrev cX8_pairedShareBits : ByteArray := prog_1_method_43_code
def yX8_pairedShareBits : MethodName := ⟨RX8, "pairedShareBits", "()I"⟩
abbrev cX8_isConsistent : ByteArray := prog_1_method_44_code
def yX8_isConsistent : MethodName := ⟨RX8, "isConsistent", "()Z"⟩
abbrev cX8_writeRow : ByteArray := prog_1_method_45_code
def yX8_writeRow : MethodName := ⟨RX8, "writeRow", "(I)I"⟩
abbrev cX8_writeFigure : ByteArray := prog_1_method_46_code
def yX8_writeFigure : MethodName := ⟨RX8, "writeFigure", "(I)I"⟩
abbrev cX8_type : ByteArray := prog_1_method_48_code
def yX8_type : MethodName := ⟨RX8, "type", "(C)I"⟩
abbrev cX8_run : ByteArray := prog_1_method_49_code
def yX8_run : MethodName := ⟨RX8, "run", "()I"⟩
abbrev cX8_undo : ByteArray := prog_1_method_52_code
def yX8_undo : MethodName := ⟨RX8, "undo", "()I"⟩
abbrev cX8_save : ByteArray := prog_1_method_53_code
def yX8_save : MethodName := ⟨RX8, "save", "()I"⟩
abbrev cX8_restore : ByteArray := prog_1_method_54_code
def yX8_restore : MethodName := ⟨RX8, "restore", "()I"⟩
abbrev cX8_throwFor : ByteArray := prog_1_method_55_code
def yX8_throwFor : MethodName := ⟨RX8, "throwFor", "(I)V"⟩
abbrev cX8_cellFault : ByteArray := prog_1_method_56_code
def yX8_cellFault : MethodName := ⟨RX8, "cellFault", "(II)I"⟩
abbrev cX8_figureFault : ByteArray := prog_1_method_57_code
def yX8_figureFault : MethodName := ⟨RX8, "figureFault", "(I)I"⟩
abbrev cX8_exitFault : ByteArray := prog_1_method_58_code
def yX8_exitFault : MethodName := ⟨RX8, "exitFault", "(I)I"⟩
abbrev cX8_presenceFault : ByteArray := prog_1_method_59_code
def yX8_presenceFault : MethodName := ⟨RX8, "presenceFault", "(I)I"⟩
abbrev cX8_addPropFault : ByteArray := prog_1_method_60_code
def yX8_addPropFault : MethodName := ⟨RX8, "addPropFault", "(II)I"⟩
abbrev cX8_removePropFault : ByteArray := prog_1_method_61_code
def yX8_removePropFault : MethodName := ⟨RX8, "removePropFault", "(II)I"⟩
abbrev cX8_addDancerFault : ByteArray := prog_1_method_62_code
def yX8_addDancerFault : MethodName := ⟨RX8, "addDancerFault", "(III)I"⟩
abbrev cX8_pairFault : ByteArray := prog_1_method_63_code
def yX8_pairFault : MethodName := ⟨RX8, "pairFault", "(II)I"⟩
abbrev cX8_unpairFault : ByteArray := prog_1_method_64_code
def yX8_unpairFault : MethodName := ⟨RX8, "unpairFault", "(I)I"⟩
abbrev cX8_addMoveFault : ByteArray := prog_1_method_65_code
def yX8_addMoveFault : MethodName := ⟨RX8, "addMoveFault", "(II)I"⟩
abbrev cX8_rewriteFault : ByteArray := prog_1_method_66_code
def yX8_rewriteFault : MethodName := ⟨RX8, "rewriteFault", "(II)I"⟩
abbrev cX8_performFault : ByteArray := prog_1_method_67_code
def yX8_performFault : MethodName := ⟨RX8, "performFault", "(II)I"⟩
abbrev cX8_walkFault : ByteArray := prog_1_method_68_code
def yX8_walkFault : MethodName := ⟨RX8, "walkFault", "(III)I"⟩
abbrev cX8_addExitFault : ByteArray := prog_1_method_69_code
def yX8_addExitFault : MethodName := ⟨RX8, "addExitFault", "(II)I"⟩
abbrev cX8_leaveFault : ByteArray := prog_1_method_70_code
def yX8_leaveFault : MethodName := ⟨RX8, "leaveFault", "()I"⟩
abbrev cX8_remember : ByteArray := prog_1_method_71_code
def yX8_remember : MethodName := ⟨RX8, "remember", "()V"⟩
abbrev cX8_performNow : ByteArray := prog_1_method_72_code
def yX8_performNow : MethodName := ⟨RX8, "performNow", "(II)I"⟩
abbrev cX8_walkLength : ByteArray := prog_1_method_73_code
def yX8_walkLength : MethodName := ⟨RX8, "walkLength", "(III)I"⟩
abbrev cX8_walkNow : ByteArray := prog_1_method_74_code
def yX8_walkNow : MethodName := ⟨RX8, "walkNow", "(III)V"⟩
abbrev cX8_planCost : ByteArray := prog_1_method_75_code
def yX8_planCost : MethodName := ⟨RX8, "planCost", "()I"⟩
abbrev cX8_commandFault : ByteArray := prog_1_method_76_code
def yX8_commandFault : MethodName := ⟨RX8, "commandFault", "(I)I"⟩
abbrev cX8_execute : ByteArray := prog_1_method_77_code
def yX8_execute : MethodName := ⟨RX8, "execute", "(I)V"⟩
abbrev cX8_rewriteFigure : ByteArray := prog_1_method_78_code
def yX8_rewriteFigure : MethodName := ⟨RX8, "rewriteFigure", "(III)V"⟩
abbrev cX8_cellAt : ByteArray := prog_1_method_79_code
def yX8_cellAt : MethodName := ⟨RX8, "cellAt", "(II)I"⟩
abbrev cX8_columnOf : ByteArray := prog_1_method_80_code
def yX8_columnOf : MethodName := ⟨RX8, "columnOf", "(I)I"⟩
abbrev cX8_rowOf : ByteArray := prog_1_method_81_code
def yX8_rowOf : MethodName := ⟨RX8, "rowOf", "(I)I"⟩
abbrev cX8_holds : ByteArray := prog_1_method_82_code
def yX8_holds : MethodName := ⟨RX8, "holds", "(JI)Z"⟩
abbrev cX8_cellAfter : ByteArray := prog_1_method_83_code
def yX8_cellAfter : MethodName := ⟨RX8, "cellAfter", "(II)I"⟩
abbrev cX8_mirroredMove : ByteArray := prog_1_method_84_code
def yX8_mirroredMove : MethodName := ⟨RX8, "mirroredMove", "(I)I"⟩
abbrev cX8_moveIndex : ByteArray := prog_1_method_85_code
def yX8_moveIndex : MethodName := ⟨RX8, "moveIndex", "(I)I"⟩
abbrev cX8_moveLetter : ByteArray := prog_1_method_86_code
def yX8_moveLetter : MethodName := ⟨RX8, "moveLetter", "(I)C"⟩
abbrev cX8_at : ByteArray := prog_1_method_87_code
def yX8_at : MethodName := ⟨RX8, "at", "([II)I"⟩
abbrev cX8_set : ByteArray := prog_1_method_88_code
def yX8_set : MethodName := ⟨RX8, "set", "([III)V"⟩
abbrev cX8_fill : ByteArray := prog_1_method_89_code
def yX8_fill : MethodName := ⟨RX8, "fill", "([II)V"⟩
abbrev cX8_reversed : ByteArray := prog_1_method_90_code
def yX8_reversed : MethodName := ⟨RX8, "reversed", "(I)I"⟩
abbrev cX8_doubleBits : ByteArray := prog_1_method_91_code
def yX8_doubleBits : MethodName := ⟨RX8, "doubleBits", "(D)J"⟩
abbrev cX8_floatBits : ByteArray := prog_1_method_92_code
def yX8_floatBits : MethodName := ⟨RX8, "floatBits", "(F)I"⟩
def RX9 : String := "StageBalletModel"
def TX9 : u_T := fun k => match k with
  | _ => ("", "", "", false)
def tyX9 : Nat → FieldType := fun k => match k with
  | _ => .int
abbrev wsX90 : List Cond := u_ws RX9 TX9 0
theorem nmX9 : ∀ a, a < 0 → ∀ b, b < 0 → a ≠ b → (TX9 a).2.1 ≠ (TX9 b).2.1 := by decide +kernel
theorem tyX9_ok : ∀ k, k < 0 → parseFieldDescriptor (TX9 k).2.2.1 = some (tyX9 k) := by decide +kernel
def RJx145de : String := "java/io/Serializable"
def TJx145de : u_T := fun k => match k with
  | _ => ("", "", "", false)
def tyJx145de : Nat → FieldType := fun k => match k with
  | _ => .int
abbrev wsJx145de0 : List Cond := u_ws RJx145de TJx145de 0
theorem nmJx145de : ∀ a, a < 0 → ∀ b, b < 0 → a ≠ b → (TJx145de a).2.1 ≠ (TJx145de b).2.1 := by decide +kernel
theorem tyJx145de_ok : ∀ k, k < 0 → parseFieldDescriptor (TJx145de k).2.2.1 = some (tyJx145de k) := by decide +kernel
def RJ5 : String := "java/lang/AbstractStringBuilder"
def TJ5 : u_T := fun k => match k with
  | _ => ("", "", "", false)
def tyJ5 : Nat → FieldType := fun k => match k with
  | _ => .int
abbrev wsJ50 : List Cond := u_ws RJ5 TJ5 0
theorem nmJ5 : ∀ a, a < 0 → ∀ b, b < 0 → a ≠ b → (TJ5 a).2.1 ≠ (TJ5 b).2.1 := by decide +kernel
theorem tyJ5_ok : ∀ k, k < 0 → parseFieldDescriptor (TJ5 k).2.2.1 = some (tyJ5 k) := by decide +kernel
abbrev cJ5_init_d00df : ByteArray := prog_13_method_2_code
def yJ5_init_d00df : MethodName := ⟨RJ5, "<init>", "(I)V"⟩
abbrev cJ5_length_8abf5 : ByteArray := prog_13_method_6_code
def yJ5_length_8abf5 : MethodName := ⟨RJ5, "length", "()I"⟩
abbrev cJ5_ensureCapacityInternal_d00df : ByteArray := prog_13_method_9_code
def yJ5_ensureCapacityInternal_d00df : MethodName := ⟨RJ5, "ensureCapacityInternal", "(I)V"⟩
abbrev cJ5_newCapacity_0f7a4 : ByteArray := prog_13_method_10_code
def yJ5_newCapacity_0f7a4 : MethodName := ⟨RJ5, "newCapacity", "(I)I"⟩
abbrev cJ5_inflate_da8c8 : ByteArray := prog_13_method_11_code
def yJ5_inflate_da8c8 : MethodName := ⟨RJ5, "inflate", "()V"⟩
abbrev cJ5_append_cf1ce : ByteArray := prog_13_method_22_code
def yJ5_append_cf1ce : MethodName := ⟨RJ5, "append", "(Ljava/lang/String;)Ljava/lang/AbstractStringBuilder;"⟩
abbrev cJ5_appendNull_278bc : ByteArray := prog_13_method_26_code
def yJ5_appendNull_278bc : MethodName := ⟨RJ5, "appendNull", "()Ljava/lang/AbstractStringBuilder;"⟩
abbrev cJ5_append_c97b9 : ByteArray := prog_13_method_32_code
def yJ5_append_c97b9 : MethodName := ⟨RJ5, "append", "(I)Ljava/lang/AbstractStringBuilder;"⟩
abbrev cJ5_getValue_6d5f1 : ByteArray := prog_13_method_64_code
def yJ5_getValue_6d5f1 : MethodName := ⟨RJ5, "getValue", "()[B"⟩
abbrev cJ5_isLatin1_aae02 : ByteArray := prog_13_method_68_code
def yJ5_isLatin1_aae02 : MethodName := ⟨RJ5, "isLatin1", "()Z"⟩
abbrev cJ5_inflateIfNeededFor_a7421 : ByteArray := prog_13_method_71_code
def yJ5_inflateIfNeededFor_a7421 : MethodName := ⟨RJ5, "inflateIfNeededFor", "(Ljava/lang/String;)V"⟩
abbrev cJ5_putStringAt_47b60 : ByteArray := prog_13_method_73_code
def yJ5_putStringAt_47b60 : MethodName := ⟨RJ5, "putStringAt", "(ILjava/lang/String;)V"⟩
def RJx2cfe8 : String := "java/lang/Appendable"
def TJx2cfe8 : u_T := fun k => match k with
  | _ => ("", "", "", false)
def tyJx2cfe8 : Nat → FieldType := fun k => match k with
  | _ => .int
abbrev wsJx2cfe80 : List Cond := u_ws RJx2cfe8 TJx2cfe8 0
theorem nmJx2cfe8 : ∀ a, a < 0 → ∀ b, b < 0 → a ≠ b → (TJx2cfe8 a).2.1 ≠ (TJx2cfe8 b).2.1 := by decide +kernel
theorem tyJx2cfe8_ok : ∀ k, k < 0 → parseFieldDescriptor (TJx2cfe8 k).2.2.1 = some (tyJx2cfe8 k) := by decide +kernel
def RJx00060 : String := "java/lang/ArrayIndexOutOfBoundsException"
def TJx00060 : u_T := fun k => match k with
  | 0 => ("java/lang/Throwable", "backtrace", "Ljava/lang/Object;", false)
  | 1 => ("java/lang/Throwable", "detailMessage", "Ljava/lang/String;", false)
  | 2 => ("java/lang/Throwable", "cause", "Ljava/lang/Throwable;", false)
  | 3 => ("java/lang/Throwable", "stackTrace", "[Ljava/lang/StackTraceElement;", false)
  | 4 => ("java/lang/Throwable", "depth", "I", false)
  | _ => ("java/lang/Throwable", "suppressedExceptions", "Ljava/util/List;", false)
def tyJx00060 : Nat → FieldType := fun k => match k with
  | 0 => .object "java/lang/Object"
  | 1 => .object "java/lang/String"
  | 2 => .object "java/lang/Throwable"
  | 3 => .array (.object "java/lang/StackTraceElement")
  | 4 => .int
  | _ => .object "java/util/List"
abbrev wsJx000600 : List Cond := u_ws RJx00060 TJx00060 6
theorem nmJx00060 : ∀ a, a < 6 → ∀ b, b < 6 → a ≠ b → (TJx00060 a).2.1 ≠ (TJx00060 b).2.1 := by decide +kernel
theorem tyJx00060_ok : ∀ k, k < 6 → parseFieldDescriptor (TJx00060 k).2.2.1 = some (tyJx00060 k) := by decide +kernel
abbrev cJx00060_init_a7421 : ByteArray := prog_16_method_2_code
def yJx00060_init_a7421 : MethodName := ⟨RJx00060, "<init>", "(Ljava/lang/String;)V"⟩
def RJx9f9b0 : String := "java/lang/CharSequence"
def TJx9f9b0 : u_T := fun k => match k with
  | _ => ("", "", "", false)
def tyJx9f9b0 : Nat → FieldType := fun k => match k with
  | _ => .int
abbrev wsJx9f9b00 : List Cond := u_ws RJx9f9b0 TJx9f9b0 0
theorem nmJx9f9b0 : ∀ a, a < 0 → ∀ b, b < 0 → a ≠ b → (TJx9f9b0 a).2.1 ≠ (TJx9f9b0 b).2.1 := by decide +kernel
theorem tyJx9f9b0_ok : ∀ k, k < 0 → parseFieldDescriptor (TJx9f9b0 k).2.2.1 = some (tyJx9f9b0 k) := by decide +kernel
def RJx8e188 : String := "java/lang/Cloneable"
def TJx8e188 : u_T := fun k => match k with
  | _ => ("", "", "", false)
def tyJx8e188 : Nat → FieldType := fun k => match k with
  | _ => .int
abbrev wsJx8e1880 : List Cond := u_ws RJx8e188 TJx8e188 0
theorem nmJx8e188 : ∀ a, a < 0 → ∀ b, b < 0 → a ≠ b → (TJx8e188 a).2.1 ≠ (TJx8e188 b).2.1 := by decide +kernel
theorem tyJx8e188_ok : ∀ k, k < 0 → parseFieldDescriptor (TJx8e188 k).2.2.1 = some (tyJx8e188 k) := by decide +kernel
def RJxb160c : String := "java/lang/Comparable"
def TJxb160c : u_T := fun k => match k with
  | _ => ("", "", "", false)
def tyJxb160c : Nat → FieldType := fun k => match k with
  | _ => .int
abbrev wsJxb160c0 : List Cond := u_ws RJxb160c TJxb160c 0
theorem nmJxb160c : ∀ a, a < 0 → ∀ b, b < 0 → a ≠ b → (TJxb160c a).2.1 ≠ (TJxb160c b).2.1 := by decide +kernel
theorem tyJxb160c_ok : ∀ k, k < 0 → parseFieldDescriptor (TJxb160c k).2.2.1 = some (tyJxb160c k) := by decide +kernel
def RJxe99ae : String := "java/lang/Double"
def TJxe99ae : u_T := fun k => match k with
  | _ => ("", "", "", false)
def tyJxe99ae : Nat → FieldType := fun k => match k with
  | _ => .int
abbrev wsJxe99ae0 : List Cond := u_ws RJxe99ae TJxe99ae 0
theorem nmJxe99ae : ∀ a, a < 0 → ∀ b, b < 0 → a ≠ b → (TJxe99ae a).2.1 ≠ (TJxe99ae b).2.1 := by decide +kernel
theorem tyJxe99ae_ok : ∀ k, k < 0 → parseFieldDescriptor (TJxe99ae k).2.2.1 = some (tyJxe99ae k) := by decide +kernel
abbrev cJxe99ae_isNaN_b9ae7 : ByteArray := prog_20_method_6_code
def yJxe99ae_isNaN_b9ae7 : MethodName := ⟨RJxe99ae, "isNaN", "(D)Z"⟩
abbrev cJxe99ae_doubleToLongBits_ccdee : ByteArray := prog_20_method_23_code
def yJxe99ae_doubleToLongBits_ccdee : MethodName := ⟨RJxe99ae, "doubleToLongBits", "(D)J"⟩
def RJxf58ca : String := "java/lang/Float"
def TJxf58ca : u_T := fun k => match k with
  | _ => ("", "", "", false)
def tyJxf58ca : Nat → FieldType := fun k => match k with
  | _ => .int
abbrev wsJxf58ca0 : List Cond := u_ws RJxf58ca TJxf58ca 0
theorem nmJxf58ca : ∀ a, a < 0 → ∀ b, b < 0 → a ≠ b → (TJxf58ca a).2.1 ≠ (TJxf58ca b).2.1 := by decide +kernel
theorem tyJxf58ca_ok : ∀ k, k < 0 → parseFieldDescriptor (TJxf58ca k).2.2.1 = some (tyJxf58ca k) := by decide +kernel
abbrev cJxf58ca_isNaN_12338 : ByteArray := prog_22_method_6_code
def yJxf58ca_isNaN_12338 : MethodName := ⟨RJxf58ca, "isNaN", "(F)Z"⟩
abbrev cJxf58ca_floatToIntBits_5c35a : ByteArray := prog_22_method_24_code
def yJxf58ca_floatToIntBits_5c35a : MethodName := ⟨RJxf58ca, "floatToIntBits", "(F)I"⟩
def RJ6 : String := "java/lang/Integer"
def TJ6 : u_T := fun k => match k with
  | _ => ("", "", "", false)
def tyJ6 : Nat → FieldType := fun k => match k with
  | _ => .int
abbrev wsJ60 : List Cond := u_ws RJ6 TJ6 0
theorem nmJ6 : ∀ a, a < 0 → ∀ b, b < 0 → a ≠ b → (TJ6 a).2.1 ≠ (TJ6 b).2.1 := by decide +kernel
theorem tyJ6_ok : ∀ k, k < 0 → parseFieldDescriptor (TJ6 k).2.2.1 = some (tyJ6 k) := by decide +kernel
abbrev cJ6_getChars_ba4f3 : ByteArray := prog_26_method_12_code
def yJ6_getChars_ba4f3 : MethodName := ⟨RJ6, "getChars", "(II[B)I"⟩
abbrev cJ6_stringSize_0f7a4 : ByteArray := prog_26_method_13_code
def yJ6_stringSize_0f7a4 : MethodName := ⟨RJ6, "stringSize", "(I)I"⟩
abbrev cJ6_bitCount_0f7a4 : ByteArray := prog_26_method_49_code
def yJ6_bitCount_0f7a4 : MethodName := ⟨RJ6, "bitCount", "(I)I"⟩
def RJ13 : String := "java/lang/Long"
def TJ13 : u_T := fun k => match k with
  | _ => ("", "", "", false)
def tyJ13 : Nat → FieldType := fun k => match k with
  | _ => .int
abbrev wsJ130 : List Cond := u_ws RJ13 TJ13 0
theorem nmJ13 : ∀ a, a < 0 → ∀ b, b < 0 → a ≠ b → (TJ13 a).2.1 ≠ (TJ13 b).2.1 := by decide +kernel
theorem tyJ13_ok : ∀ k, k < 0 → parseFieldDescriptor (TJ13 k).2.2.1 = some (tyJ13 k) := by decide +kernel
abbrev cJ13_bitCount_95d88 : ByteArray := prog_27_method_50_code
def yJ13_bitCount_95d88 : MethodName := ⟨RJ13, "bitCount", "(J)I"⟩
def RJ9 : String := "java/lang/Math"
def TJ9 : u_T := fun k => match k with
  | _ => ("", "", "", false)
def tyJ9 : Nat → FieldType := fun k => match k with
  | _ => .int
abbrev wsJ90 : List Cond := u_ws RJ9 TJ9 0
theorem nmJ9 : ∀ a, a < 0 → ∀ b, b < 0 → a ≠ b → (TJ9 a).2.1 ≠ (TJ9 b).2.1 := by decide +kernel
theorem tyJ9_ok : ∀ k, k < 0 → parseFieldDescriptor (TJ9 k).2.2.1 = some (tyJ9 k) := by decide +kernel
abbrev cJ9_max_7cf53 : ByteArray := prog_28_method_65_code
def yJ9_max_7cf53 : MethodName := ⟨RJ9, "max", "(II)I"⟩
abbrev cJ9_min_7cf53 : ByteArray := prog_28_method_69_code
def yJ9_min_7cf53 : MethodName := ⟨RJ9, "min", "(II)I"⟩
def RJxd2413 : String := "java/lang/Number"
def TJxd2413 : u_T := fun k => match k with
  | _ => ("", "", "", false)
def tyJxd2413 : Nat → FieldType := fun k => match k with
  | _ => .int
abbrev wsJxd24130 : List Cond := u_ws RJxd2413 TJxd2413 0
theorem nmJxd2413 : ∀ a, a < 0 → ∀ b, b < 0 → a ≠ b → (TJxd2413 a).2.1 ≠ (TJxd2413 b).2.1 := by decide +kernel
theorem tyJxd2413_ok : ∀ k, k < 0 → parseFieldDescriptor (TJxd2413 k).2.2.1 = some (tyJxd2413 k) := by decide +kernel
def RJ0 : String := "java/lang/String"
def TJ0 : u_T := fun k => match k with
  | 0 => ("java/lang/String", "value", "[B", true)
  | 1 => ("java/lang/String", "coder", "B", true)
  | 2 => ("java/lang/String", "hash", "I", false)
  | _ => ("java/lang/String", "hashIsZero", "Z", false)
def tyJ0 : Nat → FieldType := fun k => match k with
  | 0 => .array .byte
  | 1 => .byte
  | 2 => .int
  | _ => .boolean
abbrev wsJ00 : List Cond := u_ws RJ0 TJ0 4
theorem nmJ0 : ∀ a, a < 4 → ∀ b, b < 4 → a ≠ b → (TJ0 a).2.1 ≠ (TJ0 b).2.1 := by decide +kernel
theorem tyJ0_ok : ∀ k, k < 4 → parseFieldDescriptor (TJ0 k).2.2.1 = some (tyJ0 k) := by decide +kernel
abbrev cJ0_init_81219 : ByteArray := prog_31_method_53_code
def yJ0_init_81219 : MethodName := ⟨RJ0, "<init>", "(Ljava/lang/StringBuilder;)V"⟩
abbrev cJ0_length_8abf5 : ByteArray := prog_31_method_54_code
def yJ0_length_8abf5 : MethodName := ⟨RJ0, "length", "()I"⟩
abbrev cJ0_charAt_5068e : ByteArray := prog_31_method_56_code
def yJ0_charAt_5068e : MethodName := ⟨RJ0, "charAt", "(I)C"⟩
abbrev cJ0_getBytes_840e7 : ByteArray := prog_31_method_147_code
def yJ0_getBytes_840e7 : MethodName := ⟨RJ0, "getBytes", "([BIB)V"⟩
abbrev cJ0_init_db425 : ByteArray := prog_31_method_150_code
def yJ0_init_db425 : MethodName := ⟨RJ0, "<init>", "(Ljava/lang/AbstractStringBuilder;Ljava/lang/Void;)V"⟩
abbrev cJ0_coder_7d493 : ByteArray := prog_31_method_152_code
def yJ0_coder_7d493 : MethodName := ⟨RJ0, "coder", "()B"⟩
abbrev cJ0_isLatin1_aae02 : ByteArray := prog_31_method_154_code
def yJ0_isLatin1_aae02 : MethodName := ⟨RJ0, "isLatin1", "()Z"⟩
abbrev cJ0_checkIndex_df160 : ByteArray := prog_31_method_155_code
def yJ0_checkIndex_df160 : MethodName := ⟨RJ0, "checkIndex", "(II)V"⟩
abbrev cJ0_checkBoundsOffCount_cabcc : ByteArray := prog_31_method_157_code
def yJ0_checkBoundsOffCount_cabcc : MethodName := ⟨RJ0, "checkBoundsOffCount", "(III)I"⟩
abbrev cJ0_checkBoundsBeginEnd_23922 : ByteArray := prog_31_method_158_code
def yJ0_checkBoundsBeginEnd_23922 : MethodName := ⟨RJ0, "checkBoundsBeginEnd", "(III)V"⟩
def RJ4 : String := "java/lang/StringBuilder"
def TJ4 : u_T := fun k => match k with
  | 0 => ("java/lang/AbstractStringBuilder", "value", "[B", false)
  | 1 => ("java/lang/AbstractStringBuilder", "coder", "B", false)
  | 2 => ("java/lang/AbstractStringBuilder", "maybeLatin1", "Z", false)
  | _ => ("java/lang/AbstractStringBuilder", "count", "I", false)
def tyJ4 : Nat → FieldType := fun k => match k with
  | 0 => .array .byte
  | 1 => .byte
  | 2 => .boolean
  | _ => .int
abbrev wsJ40 : List Cond := u_ws RJ4 TJ4 4
theorem nmJ4 : ∀ a, a < 4 → ∀ b, b < 4 → a ≠ b → (TJ4 a).2.1 ≠ (TJ4 b).2.1 := by decide +kernel
theorem tyJ4_ok : ∀ k, k < 4 → parseFieldDescriptor (TJ4 k).2.2.1 = some (tyJ4 k) := by decide +kernel
abbrev cJ4_init_da8c8 : ByteArray := prog_32_method_1_code
def yJ4_init_da8c8 : MethodName := ⟨RJ4, "<init>", "()V"⟩
abbrev cJ4_append_15ec4 : ByteArray := prog_32_method_7_code
def yJ4_append_15ec4 : MethodName := ⟨RJ4, "append", "(Ljava/lang/String;)Ljava/lang/StringBuilder;"⟩
abbrev cJ4_append_bf812 : ByteArray := prog_32_method_15_code
def yJ4_append_bf812 : MethodName := ⟨RJ4, "append", "(I)Ljava/lang/StringBuilder;"⟩
abbrev cJ4_toString_0e30d : ByteArray := prog_32_method_42_code
def yJ4_toString_0e30d : MethodName := ⟨RJ4, "toString", "()Ljava/lang/String;"⟩
abbrev cJ4_length_8abf5 : ByteArray := prog_32_method_93_code
def yJ4_length_8abf5 : MethodName := ⟨RJ4, "length", "()I"⟩
def RJ1 : String := "java/lang/StringLatin1"
def TJ1 : u_T := fun k => match k with
  | _ => ("", "", "", false)
def tyJ1 : Nat → FieldType := fun k => match k with
  | _ => .int
abbrev wsJ10 : List Cond := u_ws RJ1 TJ1 0
theorem nmJ1 : ∀ a, a < 0 → ∀ b, b < 0 → a ≠ b → (TJ1 a).2.1 ≠ (TJ1 b).2.1 := by decide +kernel
theorem tyJ1_ok : ∀ k, k < 0 → parseFieldDescriptor (TJ1 k).2.2.1 = some (tyJ1 k) := by decide +kernel
abbrev cJ1_charAt_3b067 : ByteArray := prog_33_method_2_code
def yJ1_charAt_3b067 : MethodName := ⟨RJ1, "charAt", "([BI)C"⟩
abbrev cJ1_inflate_0e8fd : ByteArray := prog_33_method_50_code
def yJ1_inflate_0e8fd : MethodName := ⟨RJ1, "inflate", "([BI[BII)V"⟩
def RJ2 : String := "java/lang/StringUTF16"
def TJ2 : u_T := fun k => match k with
  | _ => ("", "", "", false)
def tyJ2 : Nat → FieldType := fun k => match k with
  | _ => .int
abbrev wsJ20 : List Cond := u_ws RJ2 TJ2 0
theorem nmJ2 : ∀ a, a < 0 → ∀ b, b < 0 → a ≠ b → (TJ2 a).2.1 ≠ (TJ2 b).2.1 := by decide +kernel
theorem tyJ2_ok : ∀ k, k < 0 → parseFieldDescriptor (TJ2 k).2.2.1 = some (tyJ2 k) := by decide +kernel
abbrev cJ2_newBytesFor_77867 : ByteArray := prog_34_method_2_code
def yJ2_newBytesFor_77867 : MethodName := ⟨RJ2, "newBytesFor", "(I)[B"⟩
abbrev cJ2_newBytesLength_0f7a4 : ByteArray := prog_34_method_3_code
def yJ2_newBytesLength_0f7a4 : MethodName := ⟨RJ2, "newBytesLength", "(I)I"⟩
abbrev cJ2_putChar_b72d1 : ByteArray := prog_34_method_4_code
def yJ2_putChar_b72d1 : MethodName := ⟨RJ2, "putChar", "([BII)V"⟩
abbrev cJ2_getChar_3b067 : ByteArray := prog_34_method_5_code
def yJ2_getChar_3b067 : MethodName := ⟨RJ2, "getChar", "([BI)C"⟩
abbrev cJ2_length_9d52b : ByteArray := prog_34_method_6_code
def yJ2_length_9d52b : MethodName := ⟨RJ2, "length", "([B)I"⟩
abbrev cJ2_coderFromArrayLen_85cad : ByteArray := prog_34_method_15_code
def yJ2_coderFromArrayLen_85cad : MethodName := ⟨RJ2, "coderFromArrayLen", "([BI)B"⟩
abbrev cJ2_compress_39247 : ByteArray := prog_34_method_17_code
def yJ2_compress_39247 : MethodName := ⟨RJ2, "compress", "([BII)[B"⟩
abbrev cJ2_compress_5af95 : ByteArray := prog_34_method_22_code
def yJ2_compress_5af95 : MethodName := ⟨RJ2, "compress", "([BI[BII)I"⟩
abbrev cJ2_getChars_46870 : ByteArray := prog_34_method_77_code
def yJ2_getChars_46870 : MethodName := ⟨RJ2, "getChars", "(III[B)I"⟩
abbrev cJ2_putCharsAt_cd4e5 : ByteArray := prog_34_method_81_code
def yJ2_putCharsAt_cd4e5 : MethodName := ⟨RJ2, "putCharsAt", "([BICCCC)I"⟩
abbrev cJ2_charAt_3b067 : ByteArray := prog_34_method_83_code
def yJ2_charAt_3b067 : MethodName := ⟨RJ2, "charAt", "([BI)C"⟩
abbrev cJ2_inflate_0e8fd : ByteArray := prog_34_method_86_code
def yJ2_inflate_0e8fd : MethodName := ⟨RJ2, "inflate", "([BI[BII)V"⟩
abbrev cJ2_getChars_ba4f3 : ByteArray := prog_34_method_89_code
def yJ2_getChars_ba4f3 : MethodName := ⟨RJ2, "getChars", "(II[B)I"⟩
abbrev cJ2_checkIndex_2214a : ByteArray := prog_34_method_91_code
def yJ2_checkIndex_2214a : MethodName := ⟨RJ2, "checkIndex", "(I[B)V"⟩
abbrev cJ2_checkBoundsBeginEnd_d044e : ByteArray := prog_34_method_93_code
def yJ2_checkBoundsBeginEnd_d044e : MethodName := ⟨RJ2, "checkBoundsBeginEnd", "(II[B)V"⟩
abbrev cJ2_checkBoundsOffCount_d044e : ByteArray := prog_34_method_94_code
def yJ2_checkBoundsOffCount_d044e : MethodName := ⟨RJ2, "checkBoundsOffCount", "(II[B)V"⟩
def RJ10 : String := "java/lang/System"
def TJ10 : u_T := fun k => match k with
  | _ => ("", "", "", false)
def tyJ10 : Nat → FieldType := fun k => match k with
  | _ => .int
abbrev wsJ100 : List Cond := u_ws RJ10 TJ10 0
theorem nmJ10 : ∀ a, a < 0 → ∀ b, b < 0 → a ≠ b → (TJ10 a).2.1 ≠ (TJ10 b).2.1 := by decide +kernel
theorem tyJ10_ok : ∀ k, k < 0 → parseFieldDescriptor (TJ10 k).2.2.1 = some (tyJ10 k) := by decide +kernel
def RJxfd54e : String := "java/lang/constant/Constable"
def TJxfd54e : u_T := fun k => match k with
  | _ => ("", "", "", false)
def tyJxfd54e : Nat → FieldType := fun k => match k with
  | _ => .int
abbrev wsJxfd54e0 : List Cond := u_ws RJxfd54e TJxfd54e 0
theorem nmJxfd54e : ∀ a, a < 0 → ∀ b, b < 0 → a ≠ b → (TJxfd54e a).2.1 ≠ (TJxfd54e b).2.1 := by decide +kernel
theorem tyJxfd54e_ok : ∀ k, k < 0 → parseFieldDescriptor (TJxfd54e k).2.2.1 = some (tyJxfd54e k) := by decide +kernel
def RJx3cf43 : String := "java/lang/constant/ConstantDesc"
def TJx3cf43 : u_T := fun k => match k with
  | _ => ("", "", "", false)
def tyJx3cf43 : Nat → FieldType := fun k => match k with
  | _ => .int
abbrev wsJx3cf430 : List Cond := u_ws RJx3cf43 TJx3cf43 0
theorem nmJx3cf43 : ∀ a, a < 0 → ∀ b, b < 0 → a ≠ b → (TJx3cf43 a).2.1 ≠ (TJx3cf43 b).2.1 := by decide +kernel
theorem tyJx3cf43_ok : ∀ k, k < 0 → parseFieldDescriptor (TJx3cf43 k).2.2.1 = some (tyJx3cf43 k) := by decide +kernel
def RJ7 : String := "java/util/Arrays"
def TJ7 : u_T := fun k => match k with
  | _ => ("", "", "", false)
def tyJ7 : Nat → FieldType := fun k => match k with
  | _ => .int
abbrev wsJ70 : List Cond := u_ws RJ7 TJ7 0
theorem nmJ7 : ∀ a, a < 0 → ∀ b, b < 0 → a ≠ b → (TJ7 a).2.1 ≠ (TJ7 b).2.1 := by decide +kernel
theorem tyJ7_ok : ∀ k, k < 0 → parseFieldDescriptor (TJ7 k).2.2.1 = some (tyJ7 k) := by decide +kernel
abbrev cJ7_copyOf_9075b : ByteArray := prog_40_method_121_code
def yJ7_copyOf_9075b : MethodName := ⟨RJ7, "copyOf", "([BI)[B"⟩
abbrev cJ7_checkLength_df160 : ByteArray := prog_40_method_131_code
def yJ7_checkLength_df160 : MethodName := ⟨RJ7, "checkLength", "(II)V"⟩
abbrev cJ7_copyOfRange_39247 : ByteArray := prog_40_method_132_code
def yJ7_copyOfRange_39247 : MethodName := ⟨RJ7, "copyOfRange", "([BII)[B"⟩
abbrev cJ7_copyOfRangeByte_39247 : ByteArray := prog_40_method_133_code
def yJ7_copyOfRangeByte_39247 : MethodName := ⟨RJ7, "copyOfRangeByte", "([BII)[B"⟩
def RJ8 : String := "jdk/internal/util/ArraysSupport"
def TJ8 : u_T := fun k => match k with
  | _ => ("", "", "", false)
def tyJ8 : Nat → FieldType := fun k => match k with
  | _ => .int
abbrev wsJ80 : List Cond := u_ws RJ8 TJ8 0
theorem nmJ8 : ∀ a, a < 0 → ∀ b, b < 0 → a ≠ b → (TJ8 a).2.1 ≠ (TJ8 b).2.1 := by decide +kernel
theorem tyJ8_ok : ∀ k, k < 0 → parseFieldDescriptor (TJ8 k).2.2.1 = some (tyJ8 k) := by decide +kernel
abbrev cJ8_newLength_cabcc : ByteArray := prog_42_method_27_code
def yJ8_newLength_cabcc : MethodName := ⟨RJ8, "newLength", "(III)I"⟩
abbrev cJ8_hugeLength_7cf53 : ByteArray := prog_42_method_28_code
def yJ8_hugeLength_7cf53 : MethodName := ⟨RJ8, "hugeLength", "(II)I"⟩
def RJ3 : String := "jdk/internal/util/Preconditions"
def TJ3 : u_T := fun k => match k with
  | _ => ("", "", "", false)
def tyJ3 : Nat → FieldType := fun k => match k with
  | _ => .int
abbrev wsJ30 : List Cond := u_ws RJ3 TJ3 0
theorem nmJ3 : ∀ a, a < 0 → ∀ b, b < 0 → a ≠ b → (TJ3 a).2.1 ≠ (TJ3 b).2.1 := by decide +kernel
theorem tyJ3_ok : ∀ k, k < 0 → parseFieldDescriptor (TJ3 k).2.2.1 = some (tyJ3 k) := by decide +kernel
abbrev cJ3_checkIndex_8e157 : ByteArray := prog_43_method_11_code
def yJ3_checkIndex_8e157 : MethodName := ⟨RJ3, "checkIndex", "(IILjava/util/function/BiFunction;)I"⟩
abbrev cJ3_checkFromToIndex_8c36e : ByteArray := prog_43_method_12_code
def yJ3_checkFromToIndex_8c36e : MethodName := ⟨RJ3, "checkFromToIndex", "(IIILjava/util/function/BiFunction;)I"⟩
abbrev cJ3_checkFromIndexSize_8c36e : ByteArray := prog_43_method_13_code
def yJ3_checkFromIndexSize_8c36e : MethodName := ⟨RJ3, "checkFromIndexSize", "(IIILjava/util/function/BiFunction;)I"⟩
def RL : String := "StageBalletLaw"
abbrev cL_cell : ByteArray := method_2_code
def yL_cell : MethodName := ⟨RL, "cell", "([II)I"⟩
abbrev cL_addProp : ByteArray := method_3_code
def yL_addProp : MethodName := ⟨RL, "addProp", "(LStageBallet;II)I"⟩
abbrev cL_removeProp : ByteArray := method_4_code
def yL_removeProp : MethodName := ⟨RL, "removeProp", "(LStageBallet;II)I"⟩
abbrev cL_addDancer : ByteArray := method_5_code
def yL_addDancer : MethodName := ⟨RL, "addDancer", "(LStageBallet;III)I"⟩
abbrev cL_removeDancer : ByteArray := method_6_code
def yL_removeDancer : MethodName := ⟨RL, "removeDancer", "(LStageBallet;I)I"⟩
abbrev cL_pair : ByteArray := method_7_code
def yL_pair : MethodName := ⟨RL, "pair", "(LStageBallet;II)I"⟩
abbrev cL_unpair : ByteArray := method_8_code
def yL_unpair : MethodName := ⟨RL, "unpair", "(LStageBallet;I)I"⟩
abbrev cL_renewNails : ByteArray := method_9_code
def yL_renewNails : MethodName := ⟨RL, "renewNails", "(LStageBallet;I)I"⟩
abbrev cL_partner : ByteArray := method_10_code
def yL_partner : MethodName := ⟨RL, "partner", "(LStageBallet;I)I"⟩
abbrev cL_dancerByNails : ByteArray := method_11_code
def yL_dancerByNails : MethodName := ⟨RL, "dancerByNails", "(LStageBallet;I)I"⟩
abbrev cL_addMove : ByteArray := method_12_code
def yL_addMove : MethodName := ⟨RL, "addMove", "(LStageBallet;IC)I"⟩
abbrev cL_clearFigure : ByteArray := method_13_code
def yL_clearFigure : MethodName := ⟨RL, "clearFigure", "(LStageBallet;I)I"⟩
abbrev cL_perform : ByteArray := method_14_code
def yL_perform : MethodName := ⟨RL, "perform", "(LStageBallet;II)I"⟩
abbrev cL_blockedBeat : ByteArray := method_15_code
def yL_blockedBeat : MethodName := ⟨RL, "blockedBeat", "(LStageBallet;II)I"⟩
abbrev cL_distance : ByteArray := method_16_code
def yL_distance : MethodName := ⟨RL, "distance", "(LStageBallet;III)I"⟩
abbrev cL_walk : ByteArray := method_17_code
def yL_walk : MethodName := ⟨RL, "walk", "(LStageBallet;III)I"⟩
abbrev cL_addExit : ByteArray := method_18_code
def yL_addExit : MethodName := ⟨RL, "addExit", "(LStageBallet;II)I"⟩
abbrev cL_removeExit : ByteArray := method_19_code
def yL_removeExit : MethodName := ⟨RL, "removeExit", "(LStageBallet;I)I"⟩
abbrev cL_exitDistance : ByteArray := method_20_code
def yL_exitDistance : MethodName := ⟨RL, "exitDistance", "(LStageBallet;II)I"⟩
abbrev cL_exitCost : ByteArray := method_21_code
def yL_exitCost : MethodName := ⟨RL, "exitCost", "(LStageBallet;)I"⟩
abbrev cL_exitCostByPotentials : ByteArray := method_22_code
def yL_exitCostByPotentials : MethodName := ⟨RL, "exitCostByPotentials", "(LStageBallet;)I"⟩
abbrev cL_exitOf : ByteArray := method_23_code
def yL_exitOf : MethodName := ⟨RL, "exitOf", "(LStageBallet;I)I"⟩
abbrev cL_leaveAll : ByteArray := method_24_code
def yL_leaveAll : MethodName := ⟨RL, "leaveAll", "(LStageBallet;)I"⟩
abbrev cL_run : ByteArray := method_25_code
def yL_run : MethodName := ⟨RL, "run", "(LStageBallet;)I"⟩
abbrev cL_undo : ByteArray := method_26_code
def yL_undo : MethodName := ⟨RL, "undo", "(LStageBallet;)I"⟩
abbrev cL_restore : ByteArray := method_27_code
def yL_restore : MethodName := ⟨RL, "restore", "(LStageBallet;)I"⟩
abbrev cL_in : ByteArray := method_28_code
def yL_in : MethodName := ⟨RL, "in", "([III)I"⟩
abbrev cL_does : ByteArray := method_29_code
def yL_does : MethodName := ⟨RL, "does", "(LStageBallet;Ljava/lang/String;)I"⟩
abbrev cL_begun : ByteArray := method_30_code
def yL_begun : MethodName := ⟨RL, "begun", "([I)LStageBallet;"⟩
abbrev cL_dancer : ByteArray := method_31_code
def yL_dancer : MethodName := ⟨RL, "dancer", "(LStageBallet;I)I"⟩
abbrev cL_acts : ByteArray := method_32_code
def yL_acts : MethodName := ⟨RL, "acts", "(LStageBallet;[II)I"⟩
abbrev cL_seen : ByteArray := method_33_code
def yL_seen : MethodName := ⟨RL, "seen", "(LStageBallet;)[I"⟩
abbrev cL_areAlike : ByteArray := method_34_code
def yL_areAlike : MethodName := ⟨RL, "areAlike", "([I[I)Z"⟩
abbrev cL_isProp : ByteArray := method_35_code
def yL_isProp : MethodName := ⟨RL, "isProp", "(LStageBallet;II)Z"⟩
abbrev cL_on : ByteArray := method_36_code
def yL_on : MethodName := ⟨RL, "on", "(LStageBallet;II)I"⟩
abbrev cL_isWell : ByteArray := method_37_code
def yL_isWell : MethodName := ⟨RL, "isWell", "(LStageBallet;)Z"⟩
abbrev cL_law : ByteArray := code
def yL_law : MethodName := ⟨RL, "law", "([I)Z"⟩
