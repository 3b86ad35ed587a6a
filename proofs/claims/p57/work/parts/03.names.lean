def RX0 : String := "ScoreHouse$Event"
def TX0 : u_T := fun k => match k with
  | 0 => ("ScoreHouse$Event", "ticks", "I", true)
  | 1 => ("ScoreHouse$Event", "form", "I", true)
  | 2 => ("ScoreHouse$Event", "pitch", "I", false)
  | 3 => ("ScoreHouse$Event", "isTied", "Z", false)
  | 4 => ("ScoreHouse$Event", "mark", "I", false)
  | _ => ("ScoreHouse$Event", "loud", "I", false)
def tyX0 : Nat → FieldType := fun k => match k with
  | 0 => .int
  | 1 => .int
  | 2 => .int
  | 3 => .boolean
  | 4 => .int
  | _ => .int
abbrev wsX00 : List Cond := u_ws RX0 TX0 6
theorem nmX0 : ∀ a, a < 6 → ∀ b, b < 6 → a ≠ b → (TX0 a).2.1 ≠ (TX0 b).2.1 := by decide +kernel
theorem tyX0_ok : ∀ k, k < 6 → parseFieldDescriptor (TX0 k).2.2.1 = some (tyX0 k) := by decide +kernel
abbrev cX0_init : ByteArray := prog_2_method_1_code
def yX0_init : MethodName := ⟨RX0, "<init>", "(III)V"⟩
abbrev cX0_ticksOf : ByteArray := prog_2_method_2_code
def yX0_ticksOf : MethodName := ⟨RX0, "ticksOf", "(II)I"⟩
abbrev cX0_isNote : ByteArray := prog_2_method_3_code
def yX0_isNote : MethodName := ⟨RX0, "isNote", "()Z"⟩
abbrev cX0_isTiedTo : ByteArray := prog_2_method_4_code
def yX0_isTiedTo : MethodName := ⟨RX0, "isTiedTo", "(LScoreHouse$Event;)Z"⟩
def RX1 : String := "ScoreHouse$LineBreaking"
def TX1 : u_T := fun k => match k with
  | 0 => ("ScoreHouse$LineBreaking", "firstItems", "[I", true)
  | 1 => ("ScoreHouse$LineBreaking", "lineCount", "I", false)
  | 2 => ("ScoreHouse$LineBreaking", "least", "[I", true)
  | _ => ("ScoreHouse$LineBreaking", "nextFirst", "[I", true)
def tyX1 : Nat → FieldType := fun k => match k with
  | 0 => .array .int
  | 1 => .int
  | 2 => .array .int
  | _ => .array .int
abbrev wsX10 : List Cond := u_ws RX1 TX1 4
theorem nmX1 : ∀ a, a < 4 → ∀ b, b < 4 → a ≠ b → (TX1 a).2.1 ≠ (TX1 b).2.1 := by decide +kernel
theorem tyX1_ok : ∀ k, k < 4 → parseFieldDescriptor (TX1 k).2.2.1 = some (tyX1 k) := by decide +kernel
abbrev cX1_init : ByteArray := prog_3_method_1_code
def yX1_init : MethodName := ⟨RX1, "<init>", "()V"⟩
abbrev cX1_breakItems : ByteArray := prog_3_method_2_code
def yX1_breakItems : MethodName := ⟨RX1, "breakItems", "([III)V"⟩
abbrev cX1_weighLinesFrom : ByteArray := prog_3_method_3_code
def yX1_weighLinesFrom : MethodName := ⟨RX1, "weighLinesFrom", "(I[III)V"⟩
abbrev cX1_badnessOf : ByteArray := prog_3_method_4_code
def yX1_badnessOf : MethodName := ⟨RX1, "badnessOf", "(IIZ)I"⟩
def RX2 : String := "ScoreHouse$Measure"
def TX2 : u_T := fun k => match k with
  | 0 => ("ScoreHouse$Measure", "beats", "I", false)
  | 1 => ("ScoreHouse$Measure", "unit", "I", false)
  | 2 => ("ScoreHouse$Measure", "toldTempo", "I", false)
  | _ => ("ScoreHouse$Measure", "rows", "[LScoreHouse$Row;", true)
def tyX2 : Nat → FieldType := fun k => match k with
  | 0 => .int
  | 1 => .int
  | 2 => .int
  | _ => .array (.object "ScoreHouse$Row")
abbrev wsX20 : List Cond := u_ws RX2 TX2 4
theorem nmX2 : ∀ a, a < 4 → ∀ b, b < 4 → a ≠ b → (TX2 a).2.1 ≠ (TX2 b).2.1 := by decide +kernel
theorem tyX2_ok : ∀ k, k < 4 → parseFieldDescriptor (TX2 k).2.2.1 = some (tyX2 k) := by decide +kernel
abbrev cX2_init : ByteArray := prog_4_method_1_code
def yX2_init : MethodName := ⟨RX2, "<init>", "(II)V"⟩
abbrev cX2_ticksOf : ByteArray := prog_4_method_2_code
def yX2_ticksOf : MethodName := ⟨RX2, "ticksOf", "(II)I"⟩
abbrev cX2_ticks : ByteArray := prog_4_method_3_code
def yX2_ticks : MethodName := ⟨RX2, "ticks", "()I"⟩
abbrev cX2_mostTicks : ByteArray := prog_4_method_4_code
def yX2_mostTicks : MethodName := ⟨RX2, "mostTicks", "()I"⟩
abbrev cX2_hasMetreOf : ByteArray := prog_4_method_5_code
def yX2_hasMetreOf : MethodName := ⟨RX2, "hasMetreOf", "(LScoreHouse$Measure;)Z"⟩
def RX3 : String := "ScoreHouse$Paging"
def TX3 : u_T := fun k => match k with
  | 0 => ("ScoreHouse$Paging", "lineCounts", "[I", true)
  | 1 => ("ScoreHouse$Paging", "firstLines", "[I", true)
  | 2 => ("ScoreHouse$Paging", "pageCount", "I", false)
  | 3 => ("ScoreHouse$Paging", "turnLines", "[I", true)
  | 4 => ("ScoreHouse$Paging", "turnCount", "I", false)
  | 5 => ("ScoreHouse$Paging", "breakBars", "[I", true)
  | 6 => ("ScoreHouse$Paging", "breakTimes", "[I", true)
  | 7 => ("ScoreHouse$Paging", "breakRests", "[I", true)
  | 8 => ("ScoreHouse$Paging", "breakFaults", "[I", true)
  | 9 => ("ScoreHouse$Paging", "least", "[J", true)
  | _ => ("ScoreHouse$Paging", "nextLines", "[I", true)
def tyX3 : Nat → FieldType := fun k => match k with
  | 0 => .array .int
  | 1 => .array .int
  | 2 => .int
  | 3 => .array .int
  | 4 => .int
  | 5 => .array .int
  | 6 => .array .int
  | 7 => .array .int
  | 8 => .array .int
  | 9 => .array .long
  | _ => .array .int
abbrev wsX30 : List Cond := u_ws RX3 TX3 11
theorem nmX3 : ∀ a, a < 11 → ∀ b, b < 11 → a ≠ b → (TX3 a).2.1 ≠ (TX3 b).2.1 := by decide +kernel
theorem tyX3_ok : ∀ k, k < 11 → parseFieldDescriptor (TX3 k).2.2.1 = some (tyX3 k) := by decide +kernel
abbrev cX3_init : ByteArray := prog_5_method_1_code
def yX3_init : MethodName := ⟨RX3, "<init>", "()V"⟩
abbrev cX3_faultOf : ByteArray := prog_5_method_2_code
def yX3_faultOf : MethodName := ⟨RX3, "faultOf", "(ZZ)I"⟩
abbrev cX3_tellBreak : ByteArray := prog_5_method_3_code
def yX3_tellBreak : MethodName := ⟨RX3, "tellBreak", "(IIIII)V"⟩
abbrev cX3_state : ByteArray := prog_5_method_4_code
def yX3_state : MethodName := ⟨RX3, "state", "(IIZ)I"⟩
abbrev cX3_hasTurn : ByteArray := prog_5_method_5_code
def yX3_hasTurn : MethodName := ⟨RX3, "hasTurn", "(IIZ)Z"⟩
abbrev cX3_layPages : ByteArray := prog_5_method_6_code
def yX3_layPages : MethodName := ⟨RX3, "layPages", "(II)V"⟩
abbrev cX3_weighPagesFrom : ByteArray := prog_5_method_7_code
def yX3_weighPagesFrom : MethodName := ⟨RX3, "weighPagesFrom", "(IIZII)V"⟩
abbrev cX3_takeLeastPages : ByteArray := prog_5_method_8_code
def yX3_takeLeastPages : MethodName := ⟨RX3, "takeLeastPages", "(I)V"⟩
abbrev cX3_pageWithLine : ByteArray := prog_5_method_9_code
def yX3_pageWithLine : MethodName := ⟨RX3, "pageWithLine", "(I)I"⟩
abbrev cX3_faultyTurns : ByteArray := prog_5_method_10_code
def yX3_faultyTurns : MethodName := ⟨RX3, "faultyTurns", "()I"⟩
def RX4 : String := "ScoreHouse$Part"
def TX4 : u_T := fun k => match k with
  | 0 => ("ScoreHouse$Part", "voice", "I", true)
  | 1 => ("ScoreHouse$Part", "kinds", "[I", true)
  | 2 => ("ScoreHouse$Part", "firstBars", "[I", true)
  | 3 => ("ScoreHouse$Part", "barCounts", "[I", true)
  | 4 => ("ScoreHouse$Part", "cueVoices", "[I", true)
  | 5 => ("ScoreHouse$Part", "widths", "[I", true)
  | 6 => ("ScoreHouse$Part", "itemCount", "I", false)
  | 7 => ("ScoreHouse$Part", "breaking", "LScoreHouse$LineBreaking;", true)
  | 8 => ("ScoreHouse$Part", "paging", "LScoreHouse$Paging;", true)
  | _ => ("ScoreHouse$Part", "edition", "I", false)
def tyX4 : Nat → FieldType := fun k => match k with
  | 0 => .int
  | 1 => .array .int
  | 2 => .array .int
  | 3 => .array .int
  | 4 => .array .int
  | 5 => .array .int
  | 6 => .int
  | 7 => .object "ScoreHouse$LineBreaking"
  | 8 => .object "ScoreHouse$Paging"
  | _ => .int
abbrev wsX40 : List Cond := u_ws RX4 TX4 10
theorem nmX4 : ∀ a, a < 10 → ∀ b, b < 10 → a ≠ b → (TX4 a).2.1 ≠ (TX4 b).2.1 := by decide +kernel
theorem tyX4_ok : ∀ k, k < 10 → parseFieldDescriptor (TX4 k).2.2.1 = some (tyX4 k) := by decide +kernel
abbrev cX4_init : ByteArray := prog_6_method_1_code
def yX4_init : MethodName := ⟨RX4, "<init>", "(I)V"⟩
abbrev cX4_layItems : ByteArray := prog_6_method_2_code
def yX4_layItems : MethodName := ⟨RX4, "layItems", "(LScoreHouse$Score;)V"⟩
abbrev cX4_isRestLast : ByteArray := prog_6_method_3_code
def yX4_isRestLast : MethodName := ⟨RX4, "isRestLast", "()Z"⟩
abbrev cX4_partCueFromRest : ByteArray := prog_6_method_4_code
def yX4_partCueFromRest : MethodName := ⟨RX4, "partCueFromRest", "(LScoreHouse$Score;)V"⟩
abbrev cX4_addItem : ByteArray := prog_6_method_5_code
def yX4_addItem : MethodName := ⟨RX4, "addItem", "(III)V"⟩
abbrev cX4_widthOf : ByteArray := prog_6_method_6_code
def yX4_widthOf : MethodName := ⟨RX4, "widthOf", "(LScoreHouse$Score;I)I"⟩
abbrev cX4_firstBarOfLine : ByteArray := prog_6_method_7_code
def yX4_firstBarOfLine : MethodName := ⟨RX4, "firstBarOfLine", "(I)I"⟩
abbrev cX4_lineWithBar : ByteArray := prog_6_method_8_code
def yX4_lineWithBar : MethodName := ⟨RX4, "lineWithBar", "(I)I"⟩
abbrev cX4_timeBreaks : ByteArray := prog_6_method_9_code
def yX4_timeBreaks : MethodName := ⟨RX4, "timeBreaks", "(LScoreHouse$Score;LScoreHouse$Playing;)V"⟩
def RX5 : String := "ScoreHouse$Phrase"
def TX5 : u_T := fun k => match k with
  | 0 => ("ScoreHouse$Phrase", "voice", "I", true)
  | 1 => ("ScoreHouse$Phrase", "firstBar", "I", true)
  | 2 => ("ScoreHouse$Phrase", "lastBar", "I", true)
  | 3 => ("ScoreHouse$Phrase", "first", "LScoreHouse$Event;", true)
  | 4 => ("ScoreHouse$Phrase", "last", "LScoreHouse$Event;", true)
  | _ => ("ScoreHouse$Phrase", "isGone", "Z", false)
def tyX5 : Nat → FieldType := fun k => match k with
  | 0 => .int
  | 1 => .int
  | 2 => .int
  | 3 => .object "ScoreHouse$Event"
  | 4 => .object "ScoreHouse$Event"
  | _ => .boolean
abbrev wsX50 : List Cond := u_ws RX5 TX5 6
theorem nmX5 : ∀ a, a < 6 → ∀ b, b < 6 → a ≠ b → (TX5 a).2.1 ≠ (TX5 b).2.1 := by decide +kernel
theorem tyX5_ok : ∀ k, k < 6 → parseFieldDescriptor (TX5 k).2.2.1 = some (tyX5 k) := by decide +kernel
abbrev cX5_init : ByteArray := prog_7_method_1_code
def yX5_init : MethodName := ⟨RX5, "<init>", "(IILScoreHouse$Event;ILScoreHouse$Event;)V"⟩
abbrev cX5_hasEnd : ByteArray := prog_7_method_2_code
def yX5_hasEnd : MethodName := ⟨RX5, "hasEnd", "(LScoreHouse$Event;)Z"⟩
abbrev cX5_goesOnBehind : ByteArray := prog_7_method_3_code
def yX5_goesOnBehind : MethodName := ⟨RX5, "goesOnBehind", "(II)Z"⟩
def RX6 : String := "ScoreHouse$Playing"
def TX6 : u_T := fun k => match k with
  | 0 => ("ScoreHouse$Playing", "placeBars", "[I", true)
  | 1 => ("ScoreHouse$Playing", "placeStarts", "[I", true)
  | 2 => ("ScoreHouse$Playing", "placeCount", "I", false)
  | 3 => ("ScoreHouse$Playing", "end", "I", false)
  | 4 => ("ScoreHouse$Playing", "soundRow", "Ljava/util/ArrayList;", true)
  | 5 => ("ScoreHouse$Playing", "soundCount", "I", false)
  | 6 => ("ScoreHouse$Playing", "edition", "I", false)
  | 7 => ("ScoreHouse$Playing", "latest", "[LScoreHouse$Sound;", true)
  | 8 => ("ScoreHouse$Playing", "nextIndex", "[I", true)
  | _ => ("ScoreHouse$Playing", "passedTicks", "[I", true)
def tyX6 : Nat → FieldType := fun k => match k with
  | 0 => .array .int
  | 1 => .array .int
  | 2 => .int
  | 3 => .int
  | 4 => .object "java/util/ArrayList"
  | 5 => .int
  | 6 => .int
  | 7 => .array (.object "ScoreHouse$Sound")
  | 8 => .array .int
  | _ => .array .int
abbrev wsX60 : List Cond := u_ws RX6 TX6 10
theorem nmX6 : ∀ a, a < 10 → ∀ b, b < 10 → a ≠ b → (TX6 a).2.1 ≠ (TX6 b).2.1 := by decide +kernel
theorem tyX6_ok : ∀ k, k < 10 → parseFieldDescriptor (TX6 k).2.2.1 = some (tyX6 k) := by decide +kernel
abbrev cX6_init : ByteArray := prog_8_method_1_code
def yX6_init : MethodName := ⟨RX6, "<init>", "()V"⟩
abbrev cX6_renew : ByteArray := prog_8_method_2_code
def yX6_renew : MethodName := ⟨RX6, "renew", "(LScoreHouse$Score;)V"⟩
abbrev cX6_layPlaces : ByteArray := prog_8_method_3_code
def yX6_layPlaces : MethodName := ⟨RX6, "layPlaces", "(LScoreHouse$Score;)V"⟩
abbrev cX6_addPlace : ByteArray := prog_8_method_4_code
def yX6_addPlace : MethodName := ⟨RX6, "addPlace", "(LScoreHouse$Score;I)V"⟩
abbrev cX6_playPlace : ByteArray := prog_8_method_5_code
def yX6_playPlace : MethodName := ⟨RX6, "playPlace", "(LScoreHouse$Score;I)V"⟩
abbrev cX6_nextVoice : ByteArray := prog_8_method_6_code
def yX6_nextVoice : MethodName := ⟨RX6, "nextVoice", "(LScoreHouse$Measure;)I"⟩
abbrev cX6_playEvent : ByteArray := prog_8_method_7_code
def yX6_playEvent : MethodName := ⟨RX6, "playEvent", "(LScoreHouse$Score;III)V"⟩
abbrev cX6_eventAhead : ByteArray := prog_8_method_8_code
def yX6_eventAhead : MethodName := ⟨RX6, "eventAhead", "(LScoreHouse$Score;III)LScoreHouse$Event;"⟩
abbrev cX6_newSound : ByteArray := prog_8_method_9_code
def yX6_newSound : MethodName := ⟨RX6, "newSound", "(IILScoreHouse$Event;)LScoreHouse$Sound;"⟩
abbrev cX6_timeOfEvents : ByteArray := prog_8_method_10_code
def yX6_timeOfEvents : MethodName := ⟨RX6, "timeOfEvents", "(LScoreHouse$Score;I)I"⟩
abbrev cX6_firstTimeOf : ByteArray := prog_8_method_11_code
def yX6_firstTimeOf : MethodName := ⟨RX6, "firstTimeOf", "(I)I"⟩
abbrev cX6_restAt : ByteArray := prog_8_method_12_code
def yX6_restAt : MethodName := ⟨RX6, "restAt", "(II)I"⟩
def RX7 : String := "ScoreHouse$Repeat"
def TX7 : u_T := fun k => match k with
  | 0 => ("ScoreHouse$Repeat", "from", "I", true)
  | 1 => ("ScoreHouse$Repeat", "to", "I", true)
  | _ => ("ScoreHouse$Repeat", "endings", "I", true)
def tyX7 : Nat → FieldType := fun k => match k with
  | 0 => .int
  | 1 => .int
  | _ => .int
abbrev wsX70 : List Cond := u_ws RX7 TX7 3
theorem nmX7 : ∀ a, a < 3 → ∀ b, b < 3 → a ≠ b → (TX7 a).2.1 ≠ (TX7 b).2.1 := by decide +kernel
theorem tyX7_ok : ∀ k, k < 3 → parseFieldDescriptor (TX7 k).2.2.1 = some (tyX7 k) := by decide +kernel
abbrev cX7_init : ByteArray := prog_9_method_1_code
def yX7_init : MethodName := ⟨RX7, "<init>", "(III)V"⟩
abbrev cX7_lastAgain : ByteArray := prog_9_method_2_code
def yX7_lastAgain : MethodName := ⟨RX7, "lastAgain", "()I"⟩
def RX8 : String := "ScoreHouse$Row"
def TX8 : u_T := fun k => match k with
  | 0 => ("ScoreHouse$Row", "inOrder", "Ljava/util/ArrayList;", true)
  | 1 => ("ScoreHouse$Row", "ticks", "I", false)
  | _ => ("ScoreHouse$Row", "isTurnAllowed", "Z", false)
def tyX8 : Nat → FieldType := fun k => match k with
  | 0 => .object "java/util/ArrayList"
  | 1 => .int
  | _ => .boolean
abbrev wsX80 : List Cond := u_ws RX8 TX8 3
theorem nmX8 : ∀ a, a < 3 → ∀ b, b < 3 → a ≠ b → (TX8 a).2.1 ≠ (TX8 b).2.1 := by decide +kernel
theorem tyX8_ok : ∀ k, k < 3 → parseFieldDescriptor (TX8 k).2.2.1 = some (tyX8 k) := by decide +kernel
abbrev cX8_init : ByteArray := prog_10_method_1_code
def yX8_init : MethodName := ⟨RX8, "<init>", "()V"⟩
abbrev cX8_size : ByteArray := prog_10_method_2_code
def yX8_size : MethodName := ⟨RX8, "size", "()I"⟩
abbrev cX8_isEmpty : ByteArray := prog_10_method_3_code
def yX8_isEmpty : MethodName := ⟨RX8, "isEmpty", "()Z"⟩
abbrev cX8_get : ByteArray := prog_10_method_4_code
def yX8_get : MethodName := ⟨RX8, "get", "(I)LScoreHouse$Event;"⟩
abbrev cX8_putIn : ByteArray := prog_10_method_5_code
def yX8_putIn : MethodName := ⟨RX8, "putIn", "(ILScoreHouse$Event;)V"⟩
abbrev cX8_takeOut : ByteArray := prog_10_method_6_code
def yX8_takeOut : MethodName := ⟨RX8, "takeOut", "(I)V"⟩
abbrev cX8_hasWholeTriplets : ByteArray := prog_10_method_7_code
def yX8_hasWholeTriplets : MethodName := ⟨RX8, "hasWholeTriplets", "()Z"⟩
abbrev cX8_widthOfEvents : ByteArray := prog_10_method_8_code
def yX8_widthOfEvents : MethodName := ⟨RX8, "widthOfEvents", "()I"⟩
abbrev cX8_widthAsCue : ByteArray := prog_10_method_9_code
def yX8_widthAsCue : MethodName := ⟨RX8, "widthAsCue", "()I"⟩
def RX9 : String := "ScoreHouse$Score"
def TX9 : u_T := fun k => match k with
  | 0 => ("ScoreHouse$Score", "bars", "Ljava/util/ArrayList;", true)
  | 1 => ("ScoreHouse$Score", "phrases", "Ljava/util/ArrayList;", true)
  | 2 => ("ScoreHouse$Score", "repeats", "Ljava/util/ArrayList;", true)
  | 3 => ("ScoreHouse$Score", "transpositions", "[I", true)
  | 4 => ("ScoreHouse$Score", "paperWidth", "I", false)
  | 5 => ("ScoreHouse$Score", "pageRoom", "I", false)
  | 6 => ("ScoreHouse$Score", "wantedRest", "I", false)
  | _ => ("ScoreHouse$Score", "edition", "I", false)
def tyX9 : Nat → FieldType := fun k => match k with
  | 0 => .object "java/util/ArrayList"
  | 1 => .object "java/util/ArrayList"
  | 2 => .object "java/util/ArrayList"
  | 3 => .array .int
  | 4 => .int
  | 5 => .int
  | 6 => .int
  | _ => .int
abbrev wsX90 : List Cond := u_ws RX9 TX9 8
theorem nmX9 : ∀ a, a < 8 → ∀ b, b < 8 → a ≠ b → (TX9 a).2.1 ≠ (TX9 b).2.1 := by decide +kernel
theorem tyX9_ok : ∀ k, k < 8 → parseFieldDescriptor (TX9 k).2.2.1 = some (tyX9 k) := by decide +kernel
abbrev cX9_init : ByteArray := prog_11_method_1_code
def yX9_init : MethodName := ⟨RX9, "<init>", "()V"⟩
abbrev cX9_barCount : ByteArray := prog_11_method_2_code
def yX9_barCount : MethodName := ⟨RX9, "barCount", "()I"⟩
abbrev cX9_measure : ByteArray := prog_11_method_3_code
def yX9_measure : MethodName := ⟨RX9, "measure", "(I)LScoreHouse$Measure;"⟩
abbrev cX9_row : ByteArray := prog_11_method_4_code
def yX9_row : MethodName := ⟨RX9, "row", "(II)LScoreHouse$Row;"⟩
abbrev cX9_tempoAt : ByteArray := prog_11_method_5_code
def yX9_tempoAt : MethodName := ⟨RX9, "tempoAt", "(I)I"⟩
abbrev cX9_timeOf : ByteArray := prog_11_method_6_code
def yX9_timeOf : MethodName := ⟨RX9, "timeOf", "(II)I"⟩
abbrev cX9_timeOfBar : ByteArray := prog_11_method_7_code
def yX9_timeOfBar : MethodName := ⟨RX9, "timeOfBar", "(I)I"⟩
abbrev cX9_ticksLeft : ByteArray := prog_11_method_8_code
def yX9_ticksLeft : MethodName := ⟨RX9, "ticksLeft", "(II)I"⟩
abbrev cX9_isRightBar : ByteArray := prog_11_method_9_code
def yX9_isRightBar : MethodName := ⟨RX9, "isRightBar", "(II)Z"⟩
abbrev cX9_canBeDrawn : ByteArray := prog_11_method_10_code
def yX9_canBeDrawn : MethodName := ⟨RX9, "canBeDrawn", "(I)Z"⟩
abbrev cX9_isPitchOrRest : ByteArray := prog_11_method_11_code
def yX9_isPitchOrRest : MethodName := ⟨RX9, "isPitchOrRest", "(II)Z"⟩
abbrev cX9_canBeWritten : ByteArray := prog_11_method_12_code
def yX9_canBeWritten : MethodName := ⟨RX9, "canBeWritten", "(II)Z"⟩
abbrev cX9_canBeTransposed : ByteArray := prog_11_method_13_code
def yX9_canBeTransposed : MethodName := ⟨RX9, "canBeTransposed", "(II)Z"⟩
abbrev cX9_spreadMarks : ByteArray := prog_11_method_14_code
def yX9_spreadMarks : MethodName := ⟨RX9, "spreadMarks", "()V"⟩
abbrev cX9_lowestVoiceBeside : ByteArray := prog_11_method_15_code
def yX9_lowestVoiceBeside : MethodName := ⟨RX9, "lowestVoiceBeside", "(II)I"⟩
abbrev cX9_dropPhrasesAt : ByteArray := prog_11_method_16_code
def yX9_dropPhrasesAt : MethodName := ⟨RX9, "dropPhrasesAt", "(LScoreHouse$Event;)V"⟩
abbrev cX9_phrasesThere : ByteArray := prog_11_method_17_code
def yX9_phrasesThere : MethodName := ⟨RX9, "phrasesThere", "()I"⟩
abbrev cX9_isTurnForbidden : ByteArray := prog_11_method_18_code
def yX9_isTurnForbidden : MethodName := ⟨RX9, "isTurnForbidden", "(II)Z"⟩
abbrev cX9_isRepeated : ByteArray := prog_11_method_19_code
def yX9_isRepeated : MethodName := ⟨RX9, "isRepeated", "(II)Z"⟩
abbrev cX9_repeatFrom : ByteArray := prog_11_method_20_code
def yX9_repeatFrom : MethodName := ⟨RX9, "repeatFrom", "(I)I"⟩
abbrev cX9_repeatTo : ByteArray := prog_11_method_21_code
def yX9_repeatTo : MethodName := ⟨RX9, "repeatTo", "(I)I"⟩
abbrev cX9_areEndingsFrom : ByteArray := prog_11_method_22_code
def yX9_areEndingsFrom : MethodName := ⟨RX9, "areEndingsFrom", "(I)Z"⟩
abbrev cX9_isNewMetre : ByteArray := prog_11_method_23_code
def yX9_isNewMetre : MethodName := ⟨RX9, "isNewMetre", "(I)Z"⟩
abbrev cX9_isRestParted : ByteArray := prog_11_method_24_code
def yX9_isRestParted : MethodName := ⟨RX9, "isRestParted", "(I)Z"⟩
abbrev cX9_widthOfSigns : ByteArray := prog_11_method_25_code
def yX9_widthOfSigns : MethodName := ⟨RX9, "widthOfSigns", "(I)I"⟩
def RX10 : String := "ScoreHouse$Sound"
def TX10 : u_T := fun k => match k with
  | 0 => ("ScoreHouse$Sound", "voice", "I", false)
  | 1 => ("ScoreHouse$Sound", "start", "I", false)
  | 2 => ("ScoreHouse$Sound", "end", "I", false)
  | 3 => ("ScoreHouse$Sound", "pitch", "I", false)
  | _ => ("ScoreHouse$Sound", "loud", "I", false)
def tyX10 : Nat → FieldType := fun k => match k with
  | 0 => .int
  | 1 => .int
  | 2 => .int
  | 3 => .int
  | _ => .int
abbrev wsX100 : List Cond := u_ws RX10 TX10 5
theorem nmX10 : ∀ a, a < 5 → ∀ b, b < 5 → a ≠ b → (TX10 a).2.1 ≠ (TX10 b).2.1 := by decide +kernel
theorem tyX10_ok : ∀ k, k < 5 → parseFieldDescriptor (TX10 k).2.2.1 = some (tyX10 k) := by decide +kernel
abbrev cX10_init : ByteArray := prog_12_method_1_code
def yX10_init : MethodName := ⟨RX10, "<init>", "()V"⟩
def RX11 : String := "ScoreHouse"
def TX11 : u_T := fun k => match k with
  | 0 => ("ScoreHouse", "score", "LScoreHouse$Score;", true)
  | 1 => ("ScoreHouse", "playing", "LScoreHouse$Playing;", true)
  | _ => ("ScoreHouse", "parts", "[LScoreHouse$Part;", true)
def tyX11 : Nat → FieldType := fun k => match k with
  | 0 => .object "ScoreHouse$Score"
  | 1 => .object "ScoreHouse$Playing"
  | _ => .array (.object "ScoreHouse$Part")
abbrev wsX110 : List Cond := u_ws RX11 TX11 3
theorem nmX11 : ∀ a, a < 3 → ∀ b, b < 3 → a ≠ b → (TX11 a).2.1 ≠ (TX11 b).2.1 := by decide +kernel
theorem tyX11_ok : ∀ k, k < 3 → parseFieldDescriptor (TX11 k).2.2.1 = some (tyX11 k) := by decide +kernel
abbrev cX11_init : ByteArray := prog_1_method_1_code
def yX11_init : MethodName := ⟨RX11, "<init>", "()V"⟩
abbrev cX11_addBar : ByteArray := prog_1_method_2_code
def yX11_addBar : MethodName := ⟨RX11, "addBar", "(II)I"⟩
abbrev cX11_setMetre : ByteArray := prog_1_method_3_code
def yX11_setMetre : MethodName := ⟨RX11, "setMetre", "(III)I"⟩
abbrev cX11_setTempo : ByteArray := prog_1_method_4_code
def yX11_setTempo : MethodName := ⟨RX11, "setTempo", "(II)I"⟩
abbrev cX11_bars : ByteArray := prog_1_method_5_code
def yX11_bars : MethodName := ⟨RX11, "bars", "()I"⟩
abbrev cX11_length : ByteArray := prog_1_method_6_code
def yX11_length : MethodName := ⟨RX11, "length", "(I)I"⟩
abbrev cX11_tempo : ByteArray := prog_1_method_7_code
def yX11_tempo : MethodName := ⟨RX11, "tempo", "(I)I"⟩
abbrev cX11_time : ByteArray := prog_1_method_8_code
def yX11_time : MethodName := ⟨RX11, "time", "(I)I"⟩
abbrev cX11_insert : ByteArray := prog_1_method_9_code
def yX11_insert : MethodName := ⟨RX11, "insert", "(IIIIII)I"⟩
abbrev cX11_remove : ByteArray := prog_1_method_10_code
def yX11_remove : MethodName := ⟨RX11, "remove", "(III)I"⟩
abbrev cX11_setPitch : ByteArray := prog_1_method_11_code
def yX11_setPitch : MethodName := ⟨RX11, "setPitch", "(IIII)I"⟩
abbrev cX11_setTie : ByteArray := prog_1_method_12_code
def yX11_setTie : MethodName := ⟨RX11, "setTie", "(IIIZ)Z"⟩
abbrev cX11_setMark : ByteArray := prog_1_method_13_code
def yX11_setMark : MethodName := ⟨RX11, "setMark", "(IIII)I"⟩
abbrev cX11_transpose : ByteArray := prog_1_method_14_code
def yX11_transpose : MethodName := ⟨RX11, "transpose", "(II)I"⟩
abbrev cX11_events : ByteArray := prog_1_method_15_code
def yX11_events : MethodName := ⟨RX11, "events", "(II)I"⟩
abbrev cX11_left : ByteArray := prog_1_method_16_code
def yX11_left : MethodName := ⟨RX11, "left", "(II)I"⟩
abbrev cX11_isRight : ByteArray := prog_1_method_17_code
def yX11_isRight : MethodName := ⟨RX11, "isRight", "(II)Z"⟩
abbrev cX11_written : ByteArray := prog_1_method_18_code
def yX11_written : MethodName := ⟨RX11, "written", "(III)I"⟩
abbrev cX11_addPhrase : ByteArray := prog_1_method_19_code
def yX11_addPhrase : MethodName := ⟨RX11, "addPhrase", "(IIIII)I"⟩
abbrev cX11_dropPhrase : ByteArray := prog_1_method_20_code
def yX11_dropPhrase : MethodName := ⟨RX11, "dropPhrase", "(I)Z"⟩
abbrev cX11_phrases : ByteArray := prog_1_method_21_code
def yX11_phrases : MethodName := ⟨RX11, "phrases", "()I"⟩
abbrev cX11_allowTurn : ByteArray := prog_1_method_22_code
def yX11_allowTurn : MethodName := ⟨RX11, "allowTurn", "(IIZ)Z"⟩
abbrev cX11_addRepeat : ByteArray := prog_1_method_23_code
def yX11_addRepeat : MethodName := ⟨RX11, "addRepeat", "(III)I"⟩
abbrev cX11_dropRepeat : ByteArray := prog_1_method_24_code
def yX11_dropRepeat : MethodName := ⟨RX11, "dropRepeat", "(I)I"⟩
abbrev cX11_places : ByteArray := prog_1_method_25_code
def yX11_places : MethodName := ⟨RX11, "places", "()I"⟩
abbrev cX11_barAt : ByteArray := prog_1_method_26_code
def yX11_barAt : MethodName := ⟨RX11, "barAt", "(I)I"⟩
abbrev cX11_startOf : ByteArray := prog_1_method_27_code
def yX11_startOf : MethodName := ⟨RX11, "startOf", "(I)I"⟩
abbrev cX11_playingTime : ByteArray := prog_1_method_28_code
def yX11_playingTime : MethodName := ⟨RX11, "playingTime", "()I"⟩
abbrev cX11_timeByEvents : ByteArray := prog_1_method_29_code
def yX11_timeByEvents : MethodName := ⟨RX11, "timeByEvents", "(I)I"⟩
abbrev cX11_sounds : ByteArray := prog_1_method_30_code
def yX11_sounds : MethodName := ⟨RX11, "sounds", "()I"⟩
abbrev cX11_soundVoice : ByteArray := prog_1_method_31_code
def yX11_soundVoice : MethodName := ⟨RX11, "soundVoice", "(I)I"⟩
abbrev cX11_soundStart : ByteArray := prog_1_method_32_code
def yX11_soundStart : MethodName := ⟨RX11, "soundStart", "(I)I"⟩
abbrev cX11_soundTime : ByteArray := prog_1_method_33_code
def yX11_soundTime : MethodName := ⟨RX11, "soundTime", "(I)I"⟩
abbrev cX11_soundPitch : ByteArray := prog_1_method_34_code
def yX11_soundPitch : MethodName := ⟨RX11, "soundPitch", "(I)I"⟩
abbrev cX11_loudness : ByteArray := prog_1_method_35_code
def yX11_loudness : MethodName := ⟨RX11, "loudness", "(I)I"⟩
abbrev cX11_setPaper : ByteArray := prog_1_method_36_code
def yX11_setPaper : MethodName := ⟨RX11, "setPaper", "(III)V"⟩
abbrev cX11_items : ByteArray := prog_1_method_37_code
def yX11_items : MethodName := ⟨RX11, "items", "(I)I"⟩
abbrev cX11_itemKind : ByteArray := prog_1_method_38_code
def yX11_itemKind : MethodName := ⟨RX11, "itemKind", "(II)I"⟩
abbrev cX11_itemBar : ByteArray := prog_1_method_39_code
def yX11_itemBar : MethodName := ⟨RX11, "itemBar", "(II)I"⟩
abbrev cX11_itemBars : ByteArray := prog_1_method_40_code
def yX11_itemBars : MethodName := ⟨RX11, "itemBars", "(II)I"⟩
abbrev cX11_cue : ByteArray := prog_1_method_41_code
def yX11_cue : MethodName := ⟨RX11, "cue", "(II)I"⟩
abbrev cX11_itemWidth : ByteArray := prog_1_method_42_code
def yX11_itemWidth : MethodName := ⟨RX11, "itemWidth", "(II)I"⟩
abbrev cX11_lines : ByteArray := prog_1_method_43_code
def yX11_lines : MethodName := ⟨RX11, "lines", "(I)I"⟩
abbrev cX11_firstItem : ByteArray := prog_1_method_44_code
def yX11_firstItem : MethodName := ⟨RX11, "firstItem", "(II)I"⟩
abbrev cX11_badness : ByteArray := prog_1_method_45_code
def yX11_badness : MethodName := ⟨RX11, "badness", "(I)I"⟩
abbrev cX11_pages : ByteArray := prog_1_method_46_code
def yX11_pages : MethodName := ⟨RX11, "pages", "(I)I"⟩
abbrev cX11_pageLines : ByteArray := prog_1_method_47_code
def yX11_pageLines : MethodName := ⟨RX11, "pageLines", "(II)I"⟩
abbrev cX11_pageOf : ByteArray := prog_1_method_48_code
def yX11_pageOf : MethodName := ⟨RX11, "pageOf", "(II)I"⟩
abbrev cX11_pageTurns : ByteArray := prog_1_method_49_code
def yX11_pageTurns : MethodName := ⟨RX11, "pageTurns", "(I)I"⟩
abbrev cX11_turnBar : ByteArray := prog_1_method_50_code
def yX11_turnBar : MethodName := ⟨RX11, "turnBar", "(II)I"⟩
abbrev cX11_turnTime : ByteArray := prog_1_method_51_code
def yX11_turnTime : MethodName := ⟨RX11, "turnTime", "(II)I"⟩
abbrev cX11_turnRest : ByteArray := prog_1_method_52_code
def yX11_turnRest : MethodName := ⟨RX11, "turnRest", "(II)I"⟩
abbrev cX11_badTurns : ByteArray := prog_1_method_53_code
def yX11_badTurns : MethodName := ⟨RX11, "badTurns", "(I)I"⟩
abbrev cX11_sheets : ByteArray := prog_1_method_54_code
def yX11_sheets : MethodName := ⟨RX11, "sheets", "(I)I"⟩
abbrev cX11_sheetPage : ByteArray := prog_1_method_55_code
def yX11_sheetPage : MethodName := ⟨RX11, "sheetPage", "(IIZZ)I"⟩
abbrev cX11_sheetsFor : ByteArray := prog_1_method_56_code
def yX11_sheetsFor : MethodName := ⟨RX11, "sheetsFor", "(I)I"⟩
abbrev cX11_requireRange : ByteArray := prog_1_method_57_code
def yX11_requireRange : MethodName := ⟨RX11, "requireRange", "(III)V"⟩
abbrev cX11_requireIndex : ByteArray := prog_1_method_58_code
def yX11_requireIndex : MethodName := ⟨RX11, "requireIndex", "(II)V"⟩
abbrev cX11_requireVoice : ByteArray := prog_1_method_59_code
def yX11_requireVoice : MethodName := ⟨RX11, "requireVoice", "(I)V"⟩
abbrev cX11_requireMetre : ByteArray := prog_1_method_60_code
def yX11_requireMetre : MethodName := ⟨RX11, "requireMetre", "(II)V"⟩
abbrev cX11_requireBar : ByteArray := prog_1_method_61_code
def yX11_requireBar : MethodName := ⟨RX11, "requireBar", "(I)V"⟩
abbrev cX11_requiredEvent : ByteArray := prog_1_method_62_code
def yX11_requiredEvent : MethodName := ⟨RX11, "requiredEvent", "(III)LScoreHouse$Event;"⟩
abbrev cX11_requiredSound : ByteArray := prog_1_method_63_code
def yX11_requiredSound : MethodName := ⟨RX11, "requiredSound", "(I)LScoreHouse$Sound;"⟩
abbrev cX11_played : ByteArray := prog_1_method_64_code
def yX11_played : MethodName := ⟨RX11, "played", "()LScoreHouse$Playing;"⟩
abbrev cX11_drawnPart : ByteArray := prog_1_method_65_code
def yX11_drawnPart : MethodName := ⟨RX11, "drawnPart", "(I)LScoreHouse$Part;"⟩
def RX12 : String := "ScoreHouseModel"
def TX12 : u_T := fun k => match k with
  | _ => ("", "", "", false)
def tyX12 : Nat → FieldType := fun k => match k with
  | _ => .int
abbrev wsX120 : List Cond := u_ws RX12 TX12 0
theorem nmX12 : ∀ a, a < 0 → ∀ b, b < 0 → a ≠ b → (TX12 a).2.1 ≠ (TX12 b).2.1 := by decide +kernel
theorem tyX12_ok : ∀ k, k < 0 → parseFieldDescriptor (TX12 k).2.2.1 = some (tyX12 k) := by decide +kernel
def RJx145de : String := "java/io/Serializable"
def TJx145de : u_T := fun k => match k with
  | _ => ("", "", "", false)
def tyJx145de : Nat → FieldType := fun k => match k with
  | _ => .int
abbrev wsJx145de0 : List Cond := u_ws RJx145de TJx145de 0
theorem nmJx145de : ∀ a, a < 0 → ∀ b, b < 0 → a ≠ b → (TJx145de a).2.1 ≠ (TJx145de b).2.1 := by decide +kernel
theorem tyJx145de_ok : ∀ k, k < 0 → parseFieldDescriptor (TJx145de k).2.2.1 = some (tyJx145de k) := by decide +kernel
def RJ5 : String := "java/lang/AbstractStringBuilder"
def TJ5 : u_T := fun k => match k with
  | _ => ("", "", "", false)
def tyJ5 : Nat → FieldType := fun k => match k with
  | _ => .int
abbrev wsJ50 : List Cond := u_ws RJ5 TJ5 0
theorem nmJ5 : ∀ a, a < 0 → ∀ b, b < 0 → a ≠ b → (TJ5 a).2.1 ≠ (TJ5 b).2.1 := by decide +kernel
theorem tyJ5_ok : ∀ k, k < 0 → parseFieldDescriptor (TJ5 k).2.2.1 = some (tyJ5 k) := by decide +kernel
abbrev cJ5_init_d00df : ByteArray := prog_16_method_2_code
def yJ5_init_d00df : MethodName := ⟨RJ5, "<init>", "(I)V"⟩
abbrev cJ5_length_8abf5 : ByteArray := prog_16_method_6_code
def yJ5_length_8abf5 : MethodName := ⟨RJ5, "length", "()I"⟩
abbrev cJ5_ensureCapacityInternal_d00df : ByteArray := prog_16_method_9_code
def yJ5_ensureCapacityInternal_d00df : MethodName := ⟨RJ5, "ensureCapacityInternal", "(I)V"⟩
abbrev cJ5_newCapacity_0f7a4 : ByteArray := prog_16_method_10_code
def yJ5_newCapacity_0f7a4 : MethodName := ⟨RJ5, "newCapacity", "(I)I"⟩
abbrev cJ5_inflate_da8c8 : ByteArray := prog_16_method_11_code
def yJ5_inflate_da8c8 : MethodName := ⟨RJ5, "inflate", "()V"⟩
abbrev cJ5_append_cf1ce : ByteArray := prog_16_method_22_code
def yJ5_append_cf1ce : MethodName := ⟨RJ5, "append", "(Ljava/lang/String;)Ljava/lang/AbstractStringBuilder;"⟩
abbrev cJ5_appendNull_278bc : ByteArray := prog_16_method_26_code
def yJ5_appendNull_278bc : MethodName := ⟨RJ5, "appendNull", "()Ljava/lang/AbstractStringBuilder;"⟩
abbrev cJ5_append_c97b9 : ByteArray := prog_16_method_32_code
def yJ5_append_c97b9 : MethodName := ⟨RJ5, "append", "(I)Ljava/lang/AbstractStringBuilder;"⟩
abbrev cJ5_getValue_6d5f1 : ByteArray := prog_16_method_64_code
def yJ5_getValue_6d5f1 : MethodName := ⟨RJ5, "getValue", "()[B"⟩
abbrev cJ5_isLatin1_aae02 : ByteArray := prog_16_method_68_code
def yJ5_isLatin1_aae02 : MethodName := ⟨RJ5, "isLatin1", "()Z"⟩
abbrev cJ5_inflateIfNeededFor_a7421 : ByteArray := prog_16_method_71_code
def yJ5_inflateIfNeededFor_a7421 : MethodName := ⟨RJ5, "inflateIfNeededFor", "(Ljava/lang/String;)V"⟩
abbrev cJ5_putStringAt_47b60 : ByteArray := prog_16_method_73_code
def yJ5_putStringAt_47b60 : MethodName := ⟨RJ5, "putStringAt", "(ILjava/lang/String;)V"⟩
def RJx2cfe8 : String := "java/lang/Appendable"
def TJx2cfe8 : u_T := fun k => match k with
  | _ => ("", "", "", false)
def tyJx2cfe8 : Nat → FieldType := fun k => match k with
  | _ => .int
abbrev wsJx2cfe80 : List Cond := u_ws RJx2cfe8 TJx2cfe8 0
theorem nmJx2cfe8 : ∀ a, a < 0 → ∀ b, b < 0 → a ≠ b → (TJx2cfe8 a).2.1 ≠ (TJx2cfe8 b).2.1 := by decide +kernel
theorem tyJx2cfe8_ok : ∀ k, k < 0 → parseFieldDescriptor (TJx2cfe8 k).2.2.1 = some (tyJx2cfe8 k) := by decide +kernel
def RJx9f9b0 : String := "java/lang/CharSequence"
def TJx9f9b0 : u_T := fun k => match k with
  | _ => ("", "", "", false)
def tyJx9f9b0 : Nat → FieldType := fun k => match k with
  | _ => .int
abbrev wsJx9f9b00 : List Cond := u_ws RJx9f9b0 TJx9f9b0 0
theorem nmJx9f9b0 : ∀ a, a < 0 → ∀ b, b < 0 → a ≠ b → (TJx9f9b0 a).2.1 ≠ (TJx9f9b0 b).2.1 := by decide +kernel
theorem tyJx9f9b0_ok : ∀ k, k < 0 → parseFieldDescriptor (TJx9f9b0 k).2.2.1 = some (tyJx9f9b0 k) := by decide +kernel
def RJx8e188 : String := "java/lang/Cloneable"
def TJx8e188 : u_T := fun k => match k with
  | _ => ("", "", "", false)
def tyJx8e188 : Nat → FieldType := fun k => match k with
  | _ => .int
abbrev wsJx8e1880 : List Cond := u_ws RJx8e188 TJx8e188 0
theorem nmJx8e188 : ∀ a, a < 0 → ∀ b, b < 0 → a ≠ b → (TJx8e188 a).2.1 ≠ (TJx8e188 b).2.1 := by decide +kernel
theorem tyJx8e188_ok : ∀ k, k < 0 → parseFieldDescriptor (TJx8e188 k).2.2.1 = some (tyJx8e188 k) := by decide +kernel
def RJxb160c : String := "java/lang/Comparable"
def TJxb160c : u_T := fun k => match k with
  | _ => ("", "", "", false)
def tyJxb160c : Nat → FieldType := fun k => match k with
  | _ => .int
abbrev wsJxb160c0 : List Cond := u_ws RJxb160c TJxb160c 0
theorem nmJxb160c : ∀ a, a < 0 → ∀ b, b < 0 → a ≠ b → (TJxb160c a).2.1 ≠ (TJxb160c b).2.1 := by decide +kernel
theorem tyJxb160c_ok : ∀ k, k < 0 → parseFieldDescriptor (TJxb160c k).2.2.1 = some (tyJxb160c k) := by decide +kernel
def RJ6 : String := "java/lang/Integer"
def TJ6 : u_T := fun k => match k with
  | _ => ("", "", "", false)
def tyJ6 : Nat → FieldType := fun k => match k with
  | _ => .int
abbrev wsJ60 : List Cond := u_ws RJ6 TJ6 0
theorem nmJ6 : ∀ a, a < 0 → ∀ b, b < 0 → a ≠ b → (TJ6 a).2.1 ≠ (TJ6 b).2.1 := by decide +kernel
theorem tyJ6_ok : ∀ k, k < 0 → parseFieldDescriptor (TJ6 k).2.2.1 = some (tyJ6 k) := by decide +kernel
abbrev cJ6_getChars_ba4f3 : ByteArray := prog_25_method_12_code
def yJ6_getChars_ba4f3 : MethodName := ⟨RJ6, "getChars", "(II[B)I"⟩
abbrev cJ6_stringSize_0f7a4 : ByteArray := prog_25_method_13_code
def yJ6_stringSize_0f7a4 : MethodName := ⟨RJ6, "stringSize", "(I)I"⟩
def RJxab1ab : String := "java/lang/Iterable"
def TJxab1ab : u_T := fun k => match k with
  | _ => ("", "", "", false)
def tyJxab1ab : Nat → FieldType := fun k => match k with
  | _ => .int
abbrev wsJxab1ab0 : List Cond := u_ws RJxab1ab TJxab1ab 0
theorem nmJxab1ab : ∀ a, a < 0 → ∀ b, b < 0 → a ≠ b → (TJxab1ab a).2.1 ≠ (TJxab1ab b).2.1 := by decide +kernel
theorem tyJxab1ab_ok : ∀ k, k < 0 → parseFieldDescriptor (TJxab1ab k).2.2.1 = some (tyJxab1ab k) := by decide +kernel
def RJ9 : String := "java/lang/Math"
def TJ9 : u_T := fun k => match k with
  | _ => ("", "", "", false)
def tyJ9 : Nat → FieldType := fun k => match k with
  | _ => .int
abbrev wsJ90 : List Cond := u_ws RJ9 TJ9 0
theorem nmJ9 : ∀ a, a < 0 → ∀ b, b < 0 → a ≠ b → (TJ9 a).2.1 ≠ (TJ9 b).2.1 := by decide +kernel
theorem tyJ9_ok : ∀ k, k < 0 → parseFieldDescriptor (TJ9 k).2.2.1 = some (tyJ9 k) := by decide +kernel
abbrev cJ9_max_7cf53 : ByteArray := prog_27_method_65_code
def yJ9_max_7cf53 : MethodName := ⟨RJ9, "max", "(II)I"⟩
abbrev cJ9_min_7cf53 : ByteArray := prog_27_method_69_code
def yJ9_min_7cf53 : MethodName := ⟨RJ9, "min", "(II)I"⟩
def RJxd2413 : String := "java/lang/Number"
def TJxd2413 : u_T := fun k => match k with
  | _ => ("", "", "", false)
def tyJxd2413 : Nat → FieldType := fun k => match k with
  | _ => .int
abbrev wsJxd24130 : List Cond := u_ws RJxd2413 TJxd2413 0
theorem nmJxd2413 : ∀ a, a < 0 → ∀ b, b < 0 → a ≠ b → (TJxd2413 a).2.1 ≠ (TJxd2413 b).2.1 := by decide +kernel
theorem tyJxd2413_ok : ∀ k, k < 0 → parseFieldDescriptor (TJxd2413 k).2.2.1 = some (tyJxd2413 k) := by decide +kernel
def RJ0 : String := "java/lang/String"
def TJ0 : u_T := fun k => match k with
  | 0 => ("java/lang/String", "value", "[B", true)
  | 1 => ("java/lang/String", "coder", "B", true)
  | 2 => ("java/lang/String", "hash", "I", false)
  | _ => ("java/lang/String", "hashIsZero", "Z", false)
def tyJ0 : Nat → FieldType := fun k => match k with
  | 0 => .array .byte
  | 1 => .byte
  | 2 => .int
  | _ => .boolean
abbrev wsJ00 : List Cond := u_ws RJ0 TJ0 4
theorem nmJ0 : ∀ a, a < 4 → ∀ b, b < 4 → a ≠ b → (TJ0 a).2.1 ≠ (TJ0 b).2.1 := by decide +kernel
theorem tyJ0_ok : ∀ k, k < 4 → parseFieldDescriptor (TJ0 k).2.2.1 = some (tyJ0 k) := by decide +kernel
abbrev cJ0_init_81219 : ByteArray := prog_30_method_53_code
def yJ0_init_81219 : MethodName := ⟨RJ0, "<init>", "(Ljava/lang/StringBuilder;)V"⟩
abbrev cJ0_length_8abf5 : ByteArray := prog_30_method_54_code
def yJ0_length_8abf5 : MethodName := ⟨RJ0, "length", "()I"⟩
abbrev cJ0_getBytes_840e7 : ByteArray := prog_30_method_147_code
def yJ0_getBytes_840e7 : MethodName := ⟨RJ0, "getBytes", "([BIB)V"⟩
abbrev cJ0_init_db425 : ByteArray := prog_30_method_150_code
def yJ0_init_db425 : MethodName := ⟨RJ0, "<init>", "(Ljava/lang/AbstractStringBuilder;Ljava/lang/Void;)V"⟩
abbrev cJ0_coder_7d493 : ByteArray := prog_30_method_152_code
def yJ0_coder_7d493 : MethodName := ⟨RJ0, "coder", "()B"⟩
abbrev cJ0_checkBoundsOffCount_cabcc : ByteArray := prog_30_method_157_code
def yJ0_checkBoundsOffCount_cabcc : MethodName := ⟨RJ0, "checkBoundsOffCount", "(III)I"⟩
abbrev cJ0_checkBoundsBeginEnd_23922 : ByteArray := prog_30_method_158_code
def yJ0_checkBoundsBeginEnd_23922 : MethodName := ⟨RJ0, "checkBoundsBeginEnd", "(III)V"⟩
def RJ4 : String := "java/lang/StringBuilder"
def TJ4 : u_T := fun k => match k with
  | 0 => ("java/lang/AbstractStringBuilder", "value", "[B", false)
  | 1 => ("java/lang/AbstractStringBuilder", "coder", "B", false)
  | 2 => ("java/lang/AbstractStringBuilder", "maybeLatin1", "Z", false)
  | _ => ("java/lang/AbstractStringBuilder", "count", "I", false)
def tyJ4 : Nat → FieldType := fun k => match k with
  | 0 => .array .byte
  | 1 => .byte
  | 2 => .boolean
  | _ => .int
abbrev wsJ40 : List Cond := u_ws RJ4 TJ4 4
theorem nmJ4 : ∀ a, a < 4 → ∀ b, b < 4 → a ≠ b → (TJ4 a).2.1 ≠ (TJ4 b).2.1 := by decide +kernel
theorem tyJ4_ok : ∀ k, k < 4 → parseFieldDescriptor (TJ4 k).2.2.1 = some (tyJ4 k) := by decide +kernel
abbrev cJ4_init_da8c8 : ByteArray := prog_31_method_1_code
def yJ4_init_da8c8 : MethodName := ⟨RJ4, "<init>", "()V"⟩
abbrev cJ4_append_15ec4 : ByteArray := prog_31_method_7_code
def yJ4_append_15ec4 : MethodName := ⟨RJ4, "append", "(Ljava/lang/String;)Ljava/lang/StringBuilder;"⟩
abbrev cJ4_append_bf812 : ByteArray := prog_31_method_15_code
def yJ4_append_bf812 : MethodName := ⟨RJ4, "append", "(I)Ljava/lang/StringBuilder;"⟩
abbrev cJ4_toString_0e30d : ByteArray := prog_31_method_42_code
def yJ4_toString_0e30d : MethodName := ⟨RJ4, "toString", "()Ljava/lang/String;"⟩
abbrev cJ4_length_8abf5 : ByteArray := prog_31_method_93_code
def yJ4_length_8abf5 : MethodName := ⟨RJ4, "length", "()I"⟩
def RJ1 : String := "java/lang/StringLatin1"
def TJ1 : u_T := fun k => match k with
  | _ => ("", "", "", false)
def tyJ1 : Nat → FieldType := fun k => match k with
  | _ => .int
abbrev wsJ10 : List Cond := u_ws RJ1 TJ1 0
theorem nmJ1 : ∀ a, a < 0 → ∀ b, b < 0 → a ≠ b → (TJ1 a).2.1 ≠ (TJ1 b).2.1 := by decide +kernel
theorem tyJ1_ok : ∀ k, k < 0 → parseFieldDescriptor (TJ1 k).2.2.1 = some (tyJ1 k) := by decide +kernel
abbrev cJ1_inflate_0e8fd : ByteArray := prog_32_method_50_code
def yJ1_inflate_0e8fd : MethodName := ⟨RJ1, "inflate", "([BI[BII)V"⟩
def RJ2 : String := "java/lang/StringUTF16"
def TJ2 : u_T := fun k => match k with
  | _ => ("", "", "", false)
def tyJ2 : Nat → FieldType := fun k => match k with
  | _ => .int
abbrev wsJ20 : List Cond := u_ws RJ2 TJ2 0
theorem nmJ2 : ∀ a, a < 0 → ∀ b, b < 0 → a ≠ b → (TJ2 a).2.1 ≠ (TJ2 b).2.1 := by decide +kernel
theorem tyJ2_ok : ∀ k, k < 0 → parseFieldDescriptor (TJ2 k).2.2.1 = some (tyJ2 k) := by decide +kernel
abbrev cJ2_newBytesFor_77867 : ByteArray := prog_33_method_2_code
def yJ2_newBytesFor_77867 : MethodName := ⟨RJ2, "newBytesFor", "(I)[B"⟩
abbrev cJ2_newBytesLength_0f7a4 : ByteArray := prog_33_method_3_code
def yJ2_newBytesLength_0f7a4 : MethodName := ⟨RJ2, "newBytesLength", "(I)I"⟩
abbrev cJ2_putChar_b72d1 : ByteArray := prog_33_method_4_code
def yJ2_putChar_b72d1 : MethodName := ⟨RJ2, "putChar", "([BII)V"⟩
abbrev cJ2_getChar_3b067 : ByteArray := prog_33_method_5_code
def yJ2_getChar_3b067 : MethodName := ⟨RJ2, "getChar", "([BI)C"⟩
abbrev cJ2_length_9d52b : ByteArray := prog_33_method_6_code
def yJ2_length_9d52b : MethodName := ⟨RJ2, "length", "([B)I"⟩
abbrev cJ2_coderFromArrayLen_85cad : ByteArray := prog_33_method_15_code
def yJ2_coderFromArrayLen_85cad : MethodName := ⟨RJ2, "coderFromArrayLen", "([BI)B"⟩
abbrev cJ2_compress_39247 : ByteArray := prog_33_method_17_code
def yJ2_compress_39247 : MethodName := ⟨RJ2, "compress", "([BII)[B"⟩
abbrev cJ2_compress_5af95 : ByteArray := prog_33_method_22_code
def yJ2_compress_5af95 : MethodName := ⟨RJ2, "compress", "([BI[BII)I"⟩
abbrev cJ2_getChars_46870 : ByteArray := prog_33_method_77_code
def yJ2_getChars_46870 : MethodName := ⟨RJ2, "getChars", "(III[B)I"⟩
abbrev cJ2_putCharsAt_cd4e5 : ByteArray := prog_33_method_81_code
def yJ2_putCharsAt_cd4e5 : MethodName := ⟨RJ2, "putCharsAt", "([BICCCC)I"⟩
abbrev cJ2_inflate_0e8fd : ByteArray := prog_33_method_86_code
def yJ2_inflate_0e8fd : MethodName := ⟨RJ2, "inflate", "([BI[BII)V"⟩
abbrev cJ2_getChars_ba4f3 : ByteArray := prog_33_method_89_code
def yJ2_getChars_ba4f3 : MethodName := ⟨RJ2, "getChars", "(II[B)I"⟩
abbrev cJ2_checkBoundsBeginEnd_d044e : ByteArray := prog_33_method_93_code
def yJ2_checkBoundsBeginEnd_d044e : MethodName := ⟨RJ2, "checkBoundsBeginEnd", "(II[B)V"⟩
abbrev cJ2_checkBoundsOffCount_d044e : ByteArray := prog_33_method_94_code
def yJ2_checkBoundsOffCount_d044e : MethodName := ⟨RJ2, "checkBoundsOffCount", "(II[B)V"⟩
def RJ10 : String := "java/lang/System"
def TJ10 : u_T := fun k => match k with
  | _ => ("", "", "", false)
def tyJ10 : Nat → FieldType := fun k => match k with
  | _ => .int
abbrev wsJ100 : List Cond := u_ws RJ10 TJ10 0
theorem nmJ10 : ∀ a, a < 0 → ∀ b, b < 0 → a ≠ b → (TJ10 a).2.1 ≠ (TJ10 b).2.1 := by decide +kernel
theorem tyJ10_ok : ∀ k, k < 0 → parseFieldDescriptor (TJ10 k).2.2.1 = some (tyJ10 k) := by decide +kernel
def RJxfd54e : String := "java/lang/constant/Constable"
def TJxfd54e : u_T := fun k => match k with
  | _ => ("", "", "", false)
def tyJxfd54e : Nat → FieldType := fun k => match k with
  | _ => .int
abbrev wsJxfd54e0 : List Cond := u_ws RJxfd54e TJxfd54e 0
theorem nmJxfd54e : ∀ a, a < 0 → ∀ b, b < 0 → a ≠ b → (TJxfd54e a).2.1 ≠ (TJxfd54e b).2.1 := by decide +kernel
theorem tyJxfd54e_ok : ∀ k, k < 0 → parseFieldDescriptor (TJxfd54e k).2.2.1 = some (tyJxfd54e k) := by decide +kernel
def RJx3cf43 : String := "java/lang/constant/ConstantDesc"
def TJx3cf43 : u_T := fun k => match k with
  | _ => ("", "", "", false)
def tyJx3cf43 : Nat → FieldType := fun k => match k with
  | _ => .int
abbrev wsJx3cf430 : List Cond := u_ws RJx3cf43 TJx3cf43 0
theorem nmJx3cf43 : ∀ a, a < 0 → ∀ b, b < 0 → a ≠ b → (TJx3cf43 a).2.1 ≠ (TJx3cf43 b).2.1 := by decide +kernel
theorem tyJx3cf43_ok : ∀ k, k < 0 → parseFieldDescriptor (TJx3cf43 k).2.2.1 = some (tyJx3cf43 k) := by decide +kernel
def RJxa1e45 : String := "java/util/AbstractCollection"
def TJxa1e45 : u_T := fun k => match k with
  | _ => ("", "", "", false)
def tyJxa1e45 : Nat → FieldType := fun k => match k with
  | _ => .int
abbrev wsJxa1e450 : List Cond := u_ws RJxa1e45 TJxa1e45 0
theorem nmJxa1e45 : ∀ a, a < 0 → ∀ b, b < 0 → a ≠ b → (TJxa1e45 a).2.1 ≠ (TJxa1e45 b).2.1 := by decide +kernel
theorem tyJxa1e45_ok : ∀ k, k < 0 → parseFieldDescriptor (TJxa1e45 k).2.2.1 = some (tyJxa1e45 k) := by decide +kernel
abbrev cJxa1e45_init_da8c8 : ByteArray := prog_38_method_1_code
def yJxa1e45_init_da8c8 : MethodName := ⟨RJxa1e45, "<init>", "()V"⟩
def RJxc12de : String := "java/util/AbstractList"
def TJxc12de : u_T := fun k => match k with
  | _ => ("", "", "", false)
def tyJxc12de : Nat → FieldType := fun k => match k with
  | _ => .int
abbrev wsJxc12de0 : List Cond := u_ws RJxc12de TJxc12de 0
theorem nmJxc12de : ∀ a, a < 0 → ∀ b, b < 0 → a ≠ b → (TJxc12de a).2.1 ≠ (TJxc12de b).2.1 := by decide +kernel
theorem tyJxc12de_ok : ∀ k, k < 0 → parseFieldDescriptor (TJxc12de k).2.2.1 = some (tyJxc12de k) := by decide +kernel
abbrev cJxc12de_init_da8c8 : ByteArray := prog_39_method_1_code
def yJxc12de_init_da8c8 : MethodName := ⟨RJxc12de, "<init>", "()V"⟩
def RJx4a65c : String := "java/util/ArrayList"
def TJx4a65c : u_T := fun k => match k with
  | 0 => ("java/util/AbstractList", "modCount", "I", false)
  | 1 => ("java/util/ArrayList", "elementData", "[Ljava/lang/Object;", false)
  | _ => ("java/util/ArrayList", "size", "I", false)
def tyJx4a65c : Nat → FieldType := fun k => match k with
  | 0 => .int
  | 1 => .array (.object "java/lang/Object")
  | _ => .int
abbrev wsJx4a65c0 : List Cond := u_ws RJx4a65c TJx4a65c 3
theorem nmJx4a65c : ∀ a, a < 3 → ∀ b, b < 3 → a ≠ b → (TJx4a65c a).2.1 ≠ (TJx4a65c b).2.1 := by decide +kernel
theorem tyJx4a65c_ok : ∀ k, k < 3 → parseFieldDescriptor (TJx4a65c k).2.2.1 = some (tyJx4a65c k) := by decide +kernel
abbrev cJx4a65c_init_da8c8 : ByteArray := prog_40_method_2_code
def yJx4a65c_init_da8c8 : MethodName := ⟨RJx4a65c, "<init>", "()V"⟩
abbrev cJx4a65c_grow_92f84 : ByteArray := prog_40_method_6_code
def yJx4a65c_grow_92f84 : MethodName := ⟨RJx4a65c, "grow", "(I)[Ljava/lang/Object;"⟩
abbrev cJx4a65c_grow_d5877 : ByteArray := prog_40_method_7_code
def yJx4a65c_grow_d5877 : MethodName := ⟨RJx4a65c, "grow", "()[Ljava/lang/Object;"⟩
abbrev cJx4a65c_size_8abf5 : ByteArray := prog_40_method_8_code
def yJx4a65c_size_8abf5 : MethodName := ⟨RJx4a65c, "size", "()I"⟩
abbrev cJx4a65c_isEmpty_aae02 : ByteArray := prog_40_method_9_code
def yJx4a65c_isEmpty_aae02 : MethodName := ⟨RJx4a65c, "isEmpty", "()Z"⟩
abbrev cJx4a65c_elementData_915e3 : ByteArray := prog_40_method_18_code
def yJx4a65c_elementData_915e3 : MethodName := ⟨RJx4a65c, "elementData", "(I)Ljava/lang/Object;"⟩
abbrev cJx4a65c_get_915e3 : ByteArray := prog_40_method_20_code
def yJx4a65c_get_915e3 : MethodName := ⟨RJx4a65c, "get", "(I)Ljava/lang/Object;"⟩
abbrev cJx4a65c_add_72be8 : ByteArray := prog_40_method_24_code
def yJx4a65c_add_72be8 : MethodName := ⟨RJx4a65c, "add", "(Ljava/lang/Object;[Ljava/lang/Object;I)V"⟩
abbrev cJx4a65c_add_9ea2d : ByteArray := prog_40_method_25_code
def yJx4a65c_add_9ea2d : MethodName := ⟨RJx4a65c, "add", "(Ljava/lang/Object;)Z"⟩
abbrev cJx4a65c_add_7a177 : ByteArray := prog_40_method_26_code
def yJx4a65c_add_7a177 : MethodName := ⟨RJx4a65c, "add", "(ILjava/lang/Object;)V"⟩
abbrev cJx4a65c_remove_915e3 : ByteArray := prog_40_method_29_code
def yJx4a65c_remove_915e3 : MethodName := ⟨RJx4a65c, "remove", "(I)Ljava/lang/Object;"⟩
abbrev cJx4a65c_fastRemove_b59b0 : ByteArray := prog_40_method_39_code
def yJx4a65c_fastRemove_b59b0 : MethodName := ⟨RJx4a65c, "fastRemove", "([Ljava/lang/Object;I)V"⟩
abbrev cJx4a65c_rangeCheckForAdd_d00df : ByteArray := prog_40_method_45_code
def yJx4a65c_rangeCheckForAdd_d00df : MethodName := ⟨RJx4a65c, "rangeCheckForAdd", "(I)V"⟩
abbrev cJx4a65c_outOfBoundsMsg_b52d3 : ByteArray := prog_40_method_46_code
def yJx4a65c_outOfBoundsMsg_b52d3 : MethodName := ⟨RJx4a65c, "outOfBoundsMsg", "(I)Ljava/lang/String;"⟩
def RJ7 : String := "java/util/Arrays"
def TJ7 : u_T := fun k => match k with
  | _ => ("", "", "", false)
def tyJ7 : Nat → FieldType := fun k => match k with
  | _ => .int
abbrev wsJ70 : List Cond := u_ws RJ7 TJ7 0
theorem nmJ7 : ∀ a, a < 0 → ∀ b, b < 0 → a ≠ b → (TJ7 a).2.1 ≠ (TJ7 b).2.1 := by decide +kernel
theorem tyJ7_ok : ∀ k, k < 0 → parseFieldDescriptor (TJ7 k).2.2.1 = some (tyJ7 k) := by decide +kernel
abbrev cJ7_copyOf_1904c : ByteArray := prog_41_method_119_code
def yJ7_copyOf_1904c : MethodName := ⟨RJ7, "copyOf", "([Ljava/lang/Object;I)[Ljava/lang/Object;"⟩
abbrev cJ7_copyOf_6403c : ByteArray := prog_41_method_120_code
def yJ7_copyOf_6403c : MethodName := ⟨RJ7, "copyOf", "([Ljava/lang/Object;ILjava/lang/Class;)[Ljava/lang/Object;"⟩
abbrev cJ7_copyOf_9075b : ByteArray := prog_41_method_121_code
def yJ7_copyOf_9075b : MethodName := ⟨RJ7, "copyOf", "([BI)[B"⟩
abbrev cJ7_checkLength_df160 : ByteArray := prog_41_method_131_code
def yJ7_checkLength_df160 : MethodName := ⟨RJ7, "checkLength", "(II)V"⟩
abbrev cJ7_copyOfRange_39247 : ByteArray := prog_41_method_132_code
def yJ7_copyOfRange_39247 : MethodName := ⟨RJ7, "copyOfRange", "([BII)[B"⟩
abbrev cJ7_copyOfRangeByte_39247 : ByteArray := prog_41_method_133_code
def yJ7_copyOfRangeByte_39247 : MethodName := ⟨RJ7, "copyOfRangeByte", "([BII)[B"⟩
def RJx5ef63 : String := "java/util/Collection"
def TJx5ef63 : u_T := fun k => match k with
  | _ => ("", "", "", false)
def tyJx5ef63 : Nat → FieldType := fun k => match k with
  | _ => .int
abbrev wsJx5ef630 : List Cond := u_ws RJx5ef63 TJx5ef63 0
theorem nmJx5ef63 : ∀ a, a < 0 → ∀ b, b < 0 → a ≠ b → (TJx5ef63 a).2.1 ≠ (TJx5ef63 b).2.1 := by decide +kernel
theorem tyJx5ef63_ok : ∀ k, k < 0 → parseFieldDescriptor (TJx5ef63 k).2.2.1 = some (tyJx5ef63 k) := by decide +kernel
def RJxbd725 : String := "java/util/List"
def TJxbd725 : u_T := fun k => match k with
  | _ => ("", "", "", false)
def tyJxbd725 : Nat → FieldType := fun k => match k with
  | _ => .int
abbrev wsJxbd7250 : List Cond := u_ws RJxbd725 TJxbd725 0
theorem nmJxbd725 : ∀ a, a < 0 → ∀ b, b < 0 → a ≠ b → (TJxbd725 a).2.1 ≠ (TJxbd725 b).2.1 := by decide +kernel
theorem tyJxbd725_ok : ∀ k, k < 0 → parseFieldDescriptor (TJxbd725 k).2.2.1 = some (tyJxbd725 k) := by decide +kernel
def RJ15 : String := "java/util/Objects"
def TJ15 : u_T := fun k => match k with
  | _ => ("", "", "", false)
def tyJ15 : Nat → FieldType := fun k => match k with
  | _ => .int
abbrev wsJ150 : List Cond := u_ws RJ15 TJ15 0
theorem nmJ15 : ∀ a, a < 0 → ∀ b, b < 0 → a ≠ b → (TJ15 a).2.1 ≠ (TJ15 b).2.1 := by decide +kernel
theorem tyJ15_ok : ∀ k, k < 0 → parseFieldDescriptor (TJ15 k).2.2.1 = some (tyJ15 k) := by decide +kernel
abbrev cJ15_checkIndex_7cf53 : ByteArray := prog_44_method_17_code
def yJ15_checkIndex_7cf53 : MethodName := ⟨RJ15, "checkIndex", "(II)I"⟩
def RJxf0a74 : String := "java/util/RandomAccess"
def TJxf0a74 : u_T := fun k => match k with
  | _ => ("", "", "", false)
def tyJxf0a74 : Nat → FieldType := fun k => match k with
  | _ => .int
abbrev wsJxf0a740 : List Cond := u_ws RJxf0a74 TJxf0a74 0
theorem nmJxf0a74 : ∀ a, a < 0 → ∀ b, b < 0 → a ≠ b → (TJxf0a74 a).2.1 ≠ (TJxf0a74 b).2.1 := by decide +kernel
theorem tyJxf0a74_ok : ∀ k, k < 0 → parseFieldDescriptor (TJxf0a74 k).2.2.1 = some (tyJxf0a74 k) := by decide +kernel
def RJxa66e6 : String := "java/util/SequencedCollection"
def TJxa66e6 : u_T := fun k => match k with
  | _ => ("", "", "", false)
def tyJxa66e6 : Nat → FieldType := fun k => match k with
  | _ => .int
abbrev wsJxa66e60 : List Cond := u_ws RJxa66e6 TJxa66e6 0
theorem nmJxa66e6 : ∀ a, a < 0 → ∀ b, b < 0 → a ≠ b → (TJxa66e6 a).2.1 ≠ (TJxa66e6 b).2.1 := by decide +kernel
theorem tyJxa66e6_ok : ∀ k, k < 0 → parseFieldDescriptor (TJxa66e6 k).2.2.1 = some (tyJxa66e6 k) := by decide +kernel
def RJ8 : String := "jdk/internal/util/ArraysSupport"
def TJ8 : u_T := fun k => match k with
  | _ => ("", "", "", false)
def tyJ8 : Nat → FieldType := fun k => match k with
  | _ => .int
abbrev wsJ80 : List Cond := u_ws RJ8 TJ8 0
theorem nmJ8 : ∀ a, a < 0 → ∀ b, b < 0 → a ≠ b → (TJ8 a).2.1 ≠ (TJ8 b).2.1 := by decide +kernel
theorem tyJ8_ok : ∀ k, k < 0 → parseFieldDescriptor (TJ8 k).2.2.1 = some (tyJ8 k) := by decide +kernel
abbrev cJ8_newLength_cabcc : ByteArray := prog_47_method_27_code
def yJ8_newLength_cabcc : MethodName := ⟨RJ8, "newLength", "(III)I"⟩
abbrev cJ8_hugeLength_7cf53 : ByteArray := prog_47_method_28_code
def yJ8_hugeLength_7cf53 : MethodName := ⟨RJ8, "hugeLength", "(II)I"⟩
def RJ3 : String := "jdk/internal/util/Preconditions"
def TJ3 : u_T := fun k => match k with
  | _ => ("", "", "", false)
def tyJ3 : Nat → FieldType := fun k => match k with
  | _ => .int
abbrev wsJ30 : List Cond := u_ws RJ3 TJ3 0
theorem nmJ3 : ∀ a, a < 0 → ∀ b, b < 0 → a ≠ b → (TJ3 a).2.1 ≠ (TJ3 b).2.1 := by decide +kernel
theorem tyJ3_ok : ∀ k, k < 0 → parseFieldDescriptor (TJ3 k).2.2.1 = some (tyJ3 k) := by decide +kernel
abbrev cJ3_checkIndex_8e157 : ByteArray := prog_48_method_11_code
def yJ3_checkIndex_8e157 : MethodName := ⟨RJ3, "checkIndex", "(IILjava/util/function/BiFunction;)I"⟩
abbrev cJ3_checkFromToIndex_8c36e : ByteArray := prog_48_method_12_code
def yJ3_checkFromToIndex_8c36e : MethodName := ⟨RJ3, "checkFromToIndex", "(IIILjava/util/function/BiFunction;)I"⟩
abbrev cJ3_checkFromIndexSize_8c36e : ByteArray := prog_48_method_13_code
def yJ3_checkFromIndexSize_8c36e : MethodName := ⟨RJ3, "checkFromIndexSize", "(IIILjava/util/function/BiFunction;)I"⟩
def RL : String := "ScoreHouseLaw"
abbrev cL_at : ByteArray := method_2_code
def yL_at : MethodName := ⟨RL, "at", "([II)I"⟩
abbrev cL_low : ByteArray := method_3_code
def yL_low : MethodName := ⟨RL, "low", "(II)I"⟩
abbrev cL_addBar : ByteArray := method_4_code
def yL_addBar : MethodName := ⟨RL, "addBar", "(LScoreHouse;II)I"⟩
abbrev cL_setMetre : ByteArray := method_5_code
def yL_setMetre : MethodName := ⟨RL, "setMetre", "(LScoreHouse;III)I"⟩
abbrev cL_setTempo : ByteArray := method_6_code
def yL_setTempo : MethodName := ⟨RL, "setTempo", "(LScoreHouse;II)I"⟩
abbrev cL_length : ByteArray := method_7_code
def yL_length : MethodName := ⟨RL, "length", "(LScoreHouse;I)I"⟩
abbrev cL_tempo : ByteArray := method_8_code
def yL_tempo : MethodName := ⟨RL, "tempo", "(LScoreHouse;I)I"⟩
abbrev cL_time : ByteArray := method_9_code
def yL_time : MethodName := ⟨RL, "time", "(LScoreHouse;I)I"⟩
abbrev cL_insert : ByteArray := method_10_code
def yL_insert : MethodName := ⟨RL, "insert", "(LScoreHouse;IIIIII)I"⟩
abbrev cL_remove : ByteArray := method_11_code
def yL_remove : MethodName := ⟨RL, "remove", "(LScoreHouse;III)I"⟩
abbrev cL_setPitch : ByteArray := method_12_code
def yL_setPitch : MethodName := ⟨RL, "setPitch", "(LScoreHouse;IIII)I"⟩
abbrev cL_setTie : ByteArray := method_13_code
def yL_setTie : MethodName := ⟨RL, "setTie", "(LScoreHouse;IIIZ)I"⟩
abbrev cL_setMark : ByteArray := method_14_code
def yL_setMark : MethodName := ⟨RL, "setMark", "(LScoreHouse;IIII)I"⟩
abbrev cL_transpose : ByteArray := method_15_code
def yL_transpose : MethodName := ⟨RL, "transpose", "(LScoreHouse;II)I"⟩
abbrev cL_events : ByteArray := method_16_code
def yL_events : MethodName := ⟨RL, "events", "(LScoreHouse;II)I"⟩
abbrev cL_left : ByteArray := method_17_code
def yL_left : MethodName := ⟨RL, "left", "(LScoreHouse;II)I"⟩
abbrev cL_isRight : ByteArray := method_18_code
def yL_isRight : MethodName := ⟨RL, "isRight", "(LScoreHouse;II)I"⟩
abbrev cL_written : ByteArray := method_19_code
def yL_written : MethodName := ⟨RL, "written", "(LScoreHouse;III)I"⟩
abbrev cL_addPhrase : ByteArray := method_20_code
def yL_addPhrase : MethodName := ⟨RL, "addPhrase", "(LScoreHouse;IIIII)I"⟩
abbrev cL_dropPhrase : ByteArray := method_21_code
def yL_dropPhrase : MethodName := ⟨RL, "dropPhrase", "(LScoreHouse;I)I"⟩
abbrev cL_allowTurn : ByteArray := method_22_code
def yL_allowTurn : MethodName := ⟨RL, "allowTurn", "(LScoreHouse;IIZ)I"⟩
abbrev cL_addRepeat : ByteArray := method_23_code
def yL_addRepeat : MethodName := ⟨RL, "addRepeat", "(LScoreHouse;III)I"⟩
abbrev cL_dropRepeat : ByteArray := method_24_code
def yL_dropRepeat : MethodName := ⟨RL, "dropRepeat", "(LScoreHouse;I)I"⟩
abbrev cL_barAt : ByteArray := method_25_code
def yL_barAt : MethodName := ⟨RL, "barAt", "(LScoreHouse;I)I"⟩
abbrev cL_startOf : ByteArray := method_26_code
def yL_startOf : MethodName := ⟨RL, "startOf", "(LScoreHouse;I)I"⟩
abbrev cL_timeByEvents : ByteArray := method_27_code
def yL_timeByEvents : MethodName := ⟨RL, "timeByEvents", "(LScoreHouse;I)I"⟩
abbrev cL_soundVoice : ByteArray := method_28_code
def yL_soundVoice : MethodName := ⟨RL, "soundVoice", "(LScoreHouse;I)I"⟩
abbrev cL_soundStart : ByteArray := method_29_code
def yL_soundStart : MethodName := ⟨RL, "soundStart", "(LScoreHouse;I)I"⟩
abbrev cL_soundTime : ByteArray := method_30_code
def yL_soundTime : MethodName := ⟨RL, "soundTime", "(LScoreHouse;I)I"⟩
abbrev cL_soundPitch : ByteArray := method_31_code
def yL_soundPitch : MethodName := ⟨RL, "soundPitch", "(LScoreHouse;I)I"⟩
abbrev cL_loudness : ByteArray := method_32_code
def yL_loudness : MethodName := ⟨RL, "loudness", "(LScoreHouse;I)I"⟩
abbrev cL_setPaper : ByteArray := method_33_code
def yL_setPaper : MethodName := ⟨RL, "setPaper", "(LScoreHouse;III)I"⟩
abbrev cL_items : ByteArray := method_34_code
def yL_items : MethodName := ⟨RL, "items", "(LScoreHouse;I)I"⟩
abbrev cL_itemKind : ByteArray := method_35_code
def yL_itemKind : MethodName := ⟨RL, "itemKind", "(LScoreHouse;II)I"⟩
abbrev cL_itemBar : ByteArray := method_36_code
def yL_itemBar : MethodName := ⟨RL, "itemBar", "(LScoreHouse;II)I"⟩
abbrev cL_itemBars : ByteArray := method_37_code
def yL_itemBars : MethodName := ⟨RL, "itemBars", "(LScoreHouse;II)I"⟩
abbrev cL_cue : ByteArray := method_38_code
def yL_cue : MethodName := ⟨RL, "cue", "(LScoreHouse;II)I"⟩
abbrev cL_itemWidth : ByteArray := method_39_code
def yL_itemWidth : MethodName := ⟨RL, "itemWidth", "(LScoreHouse;II)I"⟩
abbrev cL_lines : ByteArray := method_40_code
def yL_lines : MethodName := ⟨RL, "lines", "(LScoreHouse;I)I"⟩
abbrev cL_firstItem : ByteArray := method_41_code
def yL_firstItem : MethodName := ⟨RL, "firstItem", "(LScoreHouse;II)I"⟩
abbrev cL_badness : ByteArray := method_42_code
def yL_badness : MethodName := ⟨RL, "badness", "(LScoreHouse;I)I"⟩
abbrev cL_pages : ByteArray := method_43_code
def yL_pages : MethodName := ⟨RL, "pages", "(LScoreHouse;I)I"⟩
abbrev cL_pageLines : ByteArray := method_44_code
def yL_pageLines : MethodName := ⟨RL, "pageLines", "(LScoreHouse;II)I"⟩
abbrev cL_pageOf : ByteArray := method_45_code
def yL_pageOf : MethodName := ⟨RL, "pageOf", "(LScoreHouse;II)I"⟩
abbrev cL_pageTurns : ByteArray := method_46_code
def yL_pageTurns : MethodName := ⟨RL, "pageTurns", "(LScoreHouse;I)I"⟩
abbrev cL_turnBar : ByteArray := method_47_code
def yL_turnBar : MethodName := ⟨RL, "turnBar", "(LScoreHouse;II)I"⟩
abbrev cL_turnTime : ByteArray := method_48_code
def yL_turnTime : MethodName := ⟨RL, "turnTime", "(LScoreHouse;II)I"⟩
abbrev cL_turnRest : ByteArray := method_49_code
def yL_turnRest : MethodName := ⟨RL, "turnRest", "(LScoreHouse;II)I"⟩
abbrev cL_badTurns : ByteArray := method_50_code
def yL_badTurns : MethodName := ⟨RL, "badTurns", "(LScoreHouse;I)I"⟩
abbrev cL_sheets : ByteArray := method_51_code
def yL_sheets : MethodName := ⟨RL, "sheets", "(LScoreHouse;I)I"⟩
abbrev cL_sheetPage : ByteArray := method_52_code
def yL_sheetPage : MethodName := ⟨RL, "sheetPage", "(LScoreHouse;IIZZ)I"⟩
abbrev cL_ticksOf : ByteArray := method_53_code
def yL_ticksOf : MethodName := ⟨RL, "ticksOf", "(II)I"⟩
abbrev cL_isPlayed : ByteArray := method_54_code
def yL_isPlayed : MethodName := ⟨RL, "isPlayed", "(LScoreHouse;[I)Z"⟩
abbrev cL_areSounds : ByteArray := method_55_code
def yL_areSounds : MethodName := ⟨RL, "areSounds", "(LScoreHouse;I)Z"⟩
abbrev cL_areItems : ByteArray := method_56_code
def yL_areItems : MethodName := ⟨RL, "areItems", "(LScoreHouse;[II)Z"⟩
abbrev cL_badOf : ByteArray := method_57_code
def yL_badOf : MethodName := ⟨RL, "badOf", "(IIZ)I"⟩
abbrev cL_areLines : ByteArray := method_58_code
def yL_areLines : MethodName := ⟨RL, "areLines", "(LScoreHouse;[II)Z"⟩
abbrev cL_arePages : ByteArray := method_59_code
def yL_arePages : MethodName := ⟨RL, "arePages", "(LScoreHouse;[II)Z"⟩
abbrev cL_isSo : ByteArray := method_60_code
def yL_isSo : MethodName := ⟨RL, "isSo", "(LScoreHouse;[II)Z"⟩
abbrev cL_fills : ByteArray := method_61_code
def yL_fills : MethodName := ⟨RL, "fills", "(LScoreHouse;[IIIII)Z"⟩
abbrev cL_edits : ByteArray := method_62_code
def yL_edits : MethodName := ⟨RL, "edits", "(LScoreHouse;[I[III)Z"⟩
abbrev cL_tells : ByteArray := method_63_code
def yL_tells : MethodName := ⟨RL, "tells", "(LScoreHouse;[I[III)Z"⟩
abbrev cL_acts : ByteArray := method_64_code
def yL_acts : MethodName := ⟨RL, "acts", "(LScoreHouse;[I[III)Z"⟩
abbrev cL_law : ByteArray := code
def yL_law : MethodName := ⟨RL, "law", "([I)Z"⟩
abbrev vwCl : List vw_C := [(RJ0, TJ0, 4), (RJ4, TJ4, 4), (RJx4a65c, TJx4a65c, 3), (RX0, TX0, 6), (RX1, TX1, 4), (RX2, TX2, 4), (RX3, TX3, 11), (RX4, TX4, 10), (RX5, TX5, 6), (RX6, TX6, 10), (RX7, TX7, 3), (RX8, TX8, 3), (RX9, TX9, 8), (RX10, TX10, 5), (RX11, TX11, 3)]
