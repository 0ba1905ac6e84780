def RX0 : String := "ChessNotes$Board"
def TX0 : u_T := fun k => match k with
  | 0 => ("ChessNotes$Board", "columns", "I", false)
  | 1 => ("ChessNotes$Board", "rows", "I", false)
  | 2 => ("ChessNotes$Board", "moves", "[I", true)
  | 3 => ("ChessNotes$Board", "moveCount", "I", false)
  | 4 => ("ChessNotes$Board", "contents", "[I", true)
  | 5 => ("ChessNotes$Board", "whiteKing", "I", false)
  | _ => ("ChessNotes$Board", "blackKing", "I", false)
def tyX0 : Nat → FieldType := fun k => match k with
  | 0 => .int
  | 1 => .int
  | 2 => .array .int
  | 3 => .int
  | 4 => .array .int
  | 5 => .int
  | _ => .int
abbrev wsX00 : List Cond := u_ws RX0 TX0 7
theorem nmX0 : ∀ a, a < 7 → ∀ b, b < 7 → a ≠ b → (TX0 a).2.1 ≠ (TX0 b).2.1 := by decide +kernel
theorem tyX0_ok : ∀ k, k < 7 → parseFieldDescriptor (TX0 k).2.2.1 = some (tyX0 k) := by decide +kernel
abbrev cX0_init : ByteArray := prog_2_method_1_code
def yX0_init : MethodName := ⟨RX0, "<init>", "()V"⟩
abbrev cX0_resize : ByteArray := prog_2_method_2_code
def yX0_resize : MethodName := ⟨RX0, "resize", "(II)V"⟩
abbrev cX0_squareCount : ByteArray := prog_2_method_3_code
def yX0_squareCount : MethodName := ⟨RX0, "squareCount", "()I"⟩
abbrev cX0_squareOf : ByteArray := prog_2_method_4_code
def yX0_squareOf : MethodName := ⟨RX0, "squareOf", "(II)I"⟩
abbrev cX0_placeOf : ByteArray := prog_2_method_5_code
def yX0_placeOf : MethodName := ⟨RX0, "placeOf", "(II)I"⟩
abbrev cX0_at : ByteArray := prog_2_method_6_code
def yX0_at : MethodName := ⟨RX0, "at", "(II)I"⟩
abbrev cX0_on : ByteArray := prog_2_method_7_code
def yX0_on : MethodName := ⟨RX0, "on", "(I)I"⟩
abbrev cX0_set : ByteArray := prog_2_method_8_code
def yX0_set : MethodName := ⟨RX0, "set", "(II)V"⟩
abbrev cX0_put : ByteArray := prog_2_method_9_code
def yX0_put : MethodName := ⟨RX0, "put", "(III)V"⟩
abbrev cX0_count : ByteArray := prog_2_method_10_code
def yX0_count : MethodName := ⟨RX0, "count", "(I)I"⟩
abbrev cX0_kingPlace : ByteArray := prog_2_method_11_code
def yX0_kingPlace : MethodName := ⟨RX0, "kingPlace", "(I)I"⟩
abbrev cX0_isReached : ByteArray := prog_2_method_12_code
def yX0_isReached : MethodName := ⟨RX0, "isReached", "(II)Z"⟩
abbrev cX0_findMoves : ByteArray := prog_2_method_13_code
def yX0_findMoves : MethodName := ⟨RX0, "findMoves", "(LChessNotes$Note;I)I"⟩
abbrev cX0_findMovesFrom : ByteArray := prog_2_method_14_code
def yX0_findMovesFrom : MethodName := ⟨RX0, "findMovesFrom", "(IILChessNotes$Note;)V"⟩
abbrev cX0_bitOf : ByteArray := prog_2_method_15_code
def yX0_bitOf : MethodName := ⟨RX0, "bitOf", "(I)J"⟩
abbrev cX0_rangeOf : ByteArray := prog_2_method_16_code
def yX0_rangeOf : MethodName := ⟨RX0, "rangeOf", "(I)J"⟩
abbrev cX0_isLegal : ByteArray := prog_2_method_17_code
def yX0_isLegal : MethodName := ⟨RX0, "isLegal", "(IIZ)Z"⟩
def RX1 : String := "ChessNotes$Note"
def TX1 : u_T := fun k => match k with
  | 0 => ("ChessNotes$Note", "kind", "I", false)
  | 1 => ("ChessNotes$Note", "fromColumn", "I", false)
  | 2 => ("ChessNotes$Note", "fromRow", "I", false)
  | 3 => ("ChessNotes$Note", "toColumn", "I", false)
  | 4 => ("ChessNotes$Note", "toRow", "I", false)
  | 5 => ("ChessNotes$Note", "takes", "Z", false)
  | _ => ("ChessNotes$Note", "check", "Z", false)
def tyX1 : Nat → FieldType := fun k => match k with
  | 0 => .int
  | 1 => .int
  | 2 => .int
  | 3 => .int
  | 4 => .int
  | 5 => .boolean
  | _ => .boolean
abbrev wsX10 : List Cond := u_ws RX1 TX1 7
theorem nmX1 : ∀ a, a < 7 → ∀ b, b < 7 → a ≠ b → (TX1 a).2.1 ≠ (TX1 b).2.1 := by decide +kernel
theorem tyX1_ok : ∀ k, k < 7 → parseFieldDescriptor (TX1 k).2.2.1 = some (tyX1 k) := by decide +kernel
abbrev cX1_init : ByteArray := prog_3_method_1_code
def yX1_init : MethodName := ⟨RX1, "<init>", "()V"⟩
abbrev cX1_state : ByteArray := prog_3_method_2_code
def yX1_state : MethodName := ⟨RX1, "state", "(IIIIZZ)V"⟩
abbrev cX1_copyFrom : ByteArray := prog_3_method_3_code
def yX1_copyFrom : MethodName := ⟨RX1, "copyFrom", "(LChessNotes$Note;)V"⟩
abbrev cX1_allowsOrigin : ByteArray := prog_3_method_4_code
def yX1_allowsOrigin : MethodName := ⟨RX1, "allowsOrigin", "(III)Z"⟩
abbrev cX1_allowsTarget : ByteArray := prog_3_method_5_code
def yX1_allowsTarget : MethodName := ⟨RX1, "allowsTarget", "(IIZ)Z"⟩
def RX2 : String := "ChessNotes$Parser"
def TX2 : u_T := fun k => match k with
  | 0 => ("ChessNotes$Parser", "text", "LChessNotes$Text;", true)
  | 1 => ("ChessNotes$Parser", "errorCode", "I", false)
  | 2 => ("ChessNotes$Parser", "errorOffset", "I", false)
  | 3 => ("ChessNotes$Parser", "pieces", "I", false)
  | 4 => ("ChessNotes$Parser", "commands", "I", false)
  | 5 => ("ChessNotes$Parser", "command", "I", false)
  | 6 => ("ChessNotes$Parser", "noted", "LChessNotes$Note;", true)
  | 7 => ("ChessNotes$Parser", "number", "I", false)
  | 8 => ("ChessNotes$Parser", "column", "I", false)
  | 9 => ("ChessNotes$Parser", "row", "I", false)
  | _ => ("ChessNotes$Parser", "kings", "I", false)
def tyX2 : Nat → FieldType := fun k => match k with
  | 0 => .object "ChessNotes$Text"
  | 1 => .int
  | 2 => .int
  | 3 => .int
  | 4 => .int
  | 5 => .int
  | 6 => .object "ChessNotes$Note"
  | 7 => .int
  | 8 => .int
  | 9 => .int
  | _ => .int
abbrev wsX20 : List Cond := u_ws RX2 TX2 11
theorem nmX2 : ∀ a, a < 11 → ∀ b, b < 11 → a ≠ b → (TX2 a).2.1 ≠ (TX2 b).2.1 := by decide +kernel
theorem tyX2_ok : ∀ k, k < 11 → parseFieldDescriptor (TX2 k).2.2.1 = some (tyX2 k) := by decide +kernel
abbrev cX2_init : ByteArray := prog_4_method_1_code
def yX2_init : MethodName := ⟨RX2, "<init>", "()V"⟩
abbrev cX2_begin : ByteArray := prog_4_method_2_code
def yX2_begin : MethodName := ⟨RX2, "begin", "()V"⟩
abbrev cX2_isAtEnd : ByteArray := prog_4_method_3_code
def yX2_isAtEnd : MethodName := ⟨RX2, "isAtEnd", "()Z"⟩
abbrev cX2_readSetup : ByteArray := prog_4_method_4_code
def yX2_readSetup : MethodName := ⟨RX2, "readSetup", "(LChessNotes$Board;)Z"⟩
abbrev cX2_readCommand : ByteArray := prog_4_method_5_code
def yX2_readCommand : MethodName := ⟨RX2, "readCommand", "(LChessNotes$State;)Z"⟩
abbrev cX2_endCommand : ByteArray := prog_4_method_6_code
def yX2_endCommand : MethodName := ⟨RX2, "endCommand", "(Z)Z"⟩
abbrev cX2_readBoard : ByteArray := prog_4_method_7_code
def yX2_readBoard : MethodName := ⟨RX2, "readBoard", "(LChessNotes$Board;)Z"⟩
abbrev cX2_isColour : ByteArray := prog_4_method_8_code
def yX2_isColour : MethodName := ⟨RX2, "isColour", "()Z"⟩
abbrev cX2_readPiece : ByteArray := prog_4_method_9_code
def yX2_readPiece : MethodName := ⟨RX2, "readPiece", "(LChessNotes$Board;)Z"⟩
abbrev cX2_kindHere : ByteArray := prog_4_method_10_code
def yX2_kindHere : MethodName := ⟨RX2, "kindHere", "()I"⟩
abbrev cX2_readNote : ByteArray := prog_4_method_11_code
def yX2_readNote : MethodName := ⟨RX2, "readNote", "(LChessNotes$Board;)Z"⟩
abbrev cX2_readOrigin : ByteArray := prog_4_method_12_code
def yX2_readOrigin : MethodName := ⟨RX2, "readOrigin", "(LChessNotes$State;)Z"⟩
abbrev cX2_isPassed : ByteArray := prog_4_method_13_code
def yX2_isPassed : MethodName := ⟨RX2, "isPassed", "(Ljava/lang/String;)Z"⟩
abbrev cX2_readNumber : ByteArray := prog_4_method_14_code
def yX2_readNumber : MethodName := ⟨RX2, "readNumber", "(II)I"⟩
abbrev cX2_isSemicolon : ByteArray := prog_4_method_15_code
def yX2_isSemicolon : MethodName := ⟨RX2, "isSemicolon", "()Z"⟩
abbrev cX2_reject : ByteArray := prog_4_method_16_code
def yX2_reject : MethodName := ⟨RX2, "reject", "(I)Z"⟩
abbrev cX2_rejectAt : ByteArray := prog_4_method_17_code
def yX2_rejectAt : MethodName := ⟨RX2, "rejectAt", "(II)Z"⟩
def RX3 : String := "ChessNotes$State"
def TX3 : u_T := fun k => match k with
  | 0 => ("ChessNotes$State", "board", "LChessNotes$Board;", true)
  | 1 => ("ChessNotes$State", "noteCount", "I", false)
  | 2 => ("ChessNotes$State", "notes", "[LChessNotes$Note;", true)
  | 3 => ("ChessNotes$State", "positions", "[I", true)
  | 4 => ("ChessNotes$State", "games", "[J", true)
  | 5 => ("ChessNotes$State", "words", "[J", true)
  | 6 => ("ChessNotes$State", "reached", "[J", true)
  | 7 => ("ChessNotes$State", "linkEnds", "[I", true)
  | _ => ("ChessNotes$State", "links", "[I", false)
def tyX3 : Nat → FieldType := fun k => match k with
  | 0 => .object "ChessNotes$Board"
  | 1 => .int
  | 2 => .array (.object "ChessNotes$Note")
  | 3 => .array .int
  | 4 => .array .long
  | 5 => .array .long
  | 6 => .array .long
  | 7 => .array .int
  | _ => .array .int
abbrev wsX30 : List Cond := u_ws RX3 TX3 9
theorem nmX3 : ∀ a, a < 9 → ∀ b, b < 9 → a ≠ b → (TX3 a).2.1 ≠ (TX3 b).2.1 := by decide +kernel
theorem tyX3_ok : ∀ k, k < 9 → parseFieldDescriptor (TX3 k).2.2.1 = some (tyX3 k) := by decide +kernel
abbrev cX3_init : ByteArray := prog_5_method_1_code
def yX3_init : MethodName := ⟨RX3, "<init>", "()V"⟩
abbrev cX3_linkFrom : ByteArray := prog_5_method_2_code
def yX3_linkFrom : MethodName := ⟨RX3, "linkFrom", "(I)I"⟩
abbrev cX3_linkTo : ByteArray := prog_5_method_3_code
def yX3_linkTo : MethodName := ⟨RX3, "linkTo", "(I)I"⟩
abbrev cX3_linkMove : ByteArray := prog_5_method_4_code
def yX3_linkMove : MethodName := ⟨RX3, "linkMove", "(I)I"⟩
abbrev cX3_cellOf : ByteArray := prog_5_method_5_code
def yX3_cellOf : MethodName := ⟨RX3, "cellOf", "(II)I"⟩
abbrev cX3_mover : ByteArray := prog_5_method_6_code
def yX3_mover : MethodName := ⟨RX3, "mover", "(I)I"⟩
abbrev cX3_beginAnew : ByteArray := prog_5_method_7_code
def yX3_beginAnew : MethodName := ⟨RX3, "beginAnew", "()V"⟩
abbrev cX3_begin : ByteArray := prog_5_method_8_code
def yX3_begin : MethodName := ⟨RX3, "begin", "()V"⟩
abbrev cX3_copyFrom : ByteArray := prog_5_method_9_code
def yX3_copyFrom : MethodName := ⟨RX3, "copyFrom", "(LChessNotes$State;)V"⟩
abbrev cX3_addLast : ByteArray := prog_5_method_10_code
def yX3_addLast : MethodName := ⟨RX3, "addLast", "(LChessNotes$Note;)Z"⟩
abbrev cX3_setOrigin : ByteArray := prog_5_method_11_code
def yX3_setOrigin : MethodName := ⟨RX3, "setOrigin", "(III)V"⟩
abbrev cX3_follow : ByteArray := prog_5_method_12_code
def yX3_follow : MethodName := ⟨RX3, "follow", "(I)I"⟩
abbrev cX3_show : ByteArray := prog_5_method_13_code
def yX3_show : MethodName := ⟨RX3, "show", "(II)V"⟩
abbrev cX3_positionCount : ByteArray := prog_5_method_14_code
def yX3_positionCount : MethodName := ⟨RX3, "positionCount", "()I"⟩
abbrev cX3_contentAt : ByteArray := prog_5_method_15_code
def yX3_contentAt : MethodName := ⟨RX3, "contentAt", "(II)I"⟩
abbrev cX3_gamesToLast : ByteArray := prog_5_method_16_code
def yX3_gamesToLast : MethodName := ⟨RX3, "gamesToLast", "(I)J"⟩
abbrev cX3_gamesAt : ByteArray := prog_5_method_17_code
def yX3_gamesAt : MethodName := ⟨RX3, "gamesAt", "(II)J"⟩
abbrev cX3_gameTotal : ByteArray := prog_5_method_18_code
def yX3_gameTotal : MethodName := ⟨RX3, "gameTotal", "()J"⟩
abbrev cX3_read : ByteArray := prog_5_method_20_code
def yX3_read : MethodName := ⟨RX3, "read", "(III)I"⟩
abbrev cX3_shiftOf : ByteArray := prog_5_method_21_code
def yX3_shiftOf : MethodName := ⟨RX3, "shiftOf", "(I)I"⟩
abbrev cX3_setReached : ByteArray := prog_5_method_22_code
def yX3_setReached : MethodName := ⟨RX3, "setReached", "(II)V"⟩
abbrev cX3_makeMove : ByteArray := prog_5_method_23_code
def yX3_makeMove : MethodName := ⟨RX3, "makeMove", "(III)Z"⟩
abbrev cX3_findReached : ByteArray := prog_5_method_24_code
def yX3_findReached : MethodName := ⟨RX3, "findReached", "(I)I"⟩
abbrev cX3_addLink : ByteArray := prog_5_method_25_code
def yX3_addLink : MethodName := ⟨RX3, "addLink", "(II)V"⟩
def RX4 : String := "ChessNotes$Tally"
def TX4 : u_T := fun k => match k with
  | 0 => ("ChessNotes$Tally", "games", "[J", true)
  | 1 => ("ChessNotes$Tally", "moveEnd", "I", false)
  | _ => ("ChessNotes$Tally", "continuations", "[J", true)
def tyX4 : Nat → FieldType := fun k => match k with
  | 0 => .array .long
  | 1 => .int
  | _ => .array .long
abbrev wsX40 : List Cond := u_ws RX4 TX4 3
theorem nmX4 : ∀ a, a < 3 → ∀ b, b < 3 → a ≠ b → (TX4 a).2.1 ≠ (TX4 b).2.1 := by decide +kernel
theorem tyX4_ok : ∀ k, k < 3 → parseFieldDescriptor (TX4 k).2.2.1 = some (tyX4 k) := by decide +kernel
abbrev cX4_init : ByteArray := prog_6_method_1_code
def yX4_init : MethodName := ⟨RX4, "<init>", "()V"⟩
abbrev cX4_countContinuations : ByteArray := prog_6_method_2_code
def yX4_countContinuations : MethodName := ⟨RX4, "countContinuations", "(LChessNotes$State;)V"⟩
abbrev cX4_continuationsAt : ByteArray := prog_6_method_3_code
def yX4_continuationsAt : MethodName := ⟨RX4, "continuationsAt", "(II)J"⟩
abbrev cX4_countGames : ByteArray := prog_6_method_4_code
def yX4_countGames : MethodName := ⟨RX4, "countGames", "(LChessNotes$State;I)V"⟩
abbrev cX4_gamesFromStart : ByteArray := prog_6_method_5_code
def yX4_gamesFromStart : MethodName := ⟨RX4, "gamesFromStart", "()J"⟩
abbrev cX4_moveCount : ByteArray := prog_6_method_6_code
def yX4_moveCount : MethodName := ⟨RX4, "moveCount", "()I"⟩
abbrev cX4_moveAt : ByteArray := prog_6_method_7_code
def yX4_moveAt : MethodName := ⟨RX4, "moveAt", "(I)I"⟩
abbrev cX4_total : ByteArray := prog_6_method_8_code
def yX4_total : MethodName := ⟨RX4, "total", "()J"⟩
def RX5 : String := "ChessNotes$Text"
def TX5 : u_T := fun k => match k with
  | 0 => ("ChessNotes$Text", "length", "I", false)
  | 1 => ("ChessNotes$Text", "sort", "I", false)
  | 2 => ("ChessNotes$Text", "start", "I", false)
  | 3 => ("ChessNotes$Text", "value", "I", false)
  | 4 => ("ChessNotes$Text", "end", "I", false)
  | _ => ("ChessNotes$Text", "bytes", "[B", true)
def tyX5 : Nat → FieldType := fun k => match k with
  | 0 => .int
  | 1 => .int
  | 2 => .int
  | 3 => .int
  | 4 => .int
  | _ => .array .byte
abbrev wsX50 : List Cond := u_ws RX5 TX5 6
theorem nmX5 : ∀ a, a < 6 → ∀ b, b < 6 → a ≠ b → (TX5 a).2.1 ≠ (TX5 b).2.1 := by decide +kernel
theorem tyX5_ok : ∀ k, k < 6 → parseFieldDescriptor (TX5 k).2.2.1 = some (tyX5 k) := by decide +kernel
abbrev cX5_init : ByteArray := prog_7_method_1_code
def yX5_init : MethodName := ⟨RX5, "<init>", "()V"⟩
abbrev cX5_hasRoom : ByteArray := prog_7_method_2_code
def yX5_hasRoom : MethodName := ⟨RX5, "hasRoom", "()Z"⟩
abbrev cX5_put : ByteArray := prog_7_method_3_code
def yX5_put : MethodName := ⟨RX5, "put", "(I)V"⟩
abbrev cX5_readFirst : ByteArray := prog_7_method_4_code
def yX5_readFirst : MethodName := ⟨RX5, "readFirst", "()V"⟩
abbrev cX5_readNext : ByteArray := prog_7_method_5_code
def yX5_readNext : MethodName := ⟨RX5, "readNext", "()V"⟩
abbrev cX5_is : ByteArray := prog_7_method_6_code
def yX5_is : MethodName := ⟨RX5, "is", "(Ljava/lang/String;)Z"⟩
abbrev cX5_sortOf : ByteArray := prog_7_method_7_code
def yX5_sortOf : MethodName := ⟨RX5, "sortOf", "(I)I"⟩
abbrev cX5_byteAt : ByteArray := prog_7_method_8_code
def yX5_byteAt : MethodName := ⟨RX5, "byteAt", "(I)I"⟩
def RX6 : String := "ChessNotes"
def TX6 : u_T := fun k => match k with
  | 0 => ("ChessNotes", "parser", "LChessNotes$Parser;", true)
  | 1 => ("ChessNotes", "tally", "LChessNotes$Tally;", true)
  | 2 => ("ChessNotes", "asked", "LChessNotes$Note;", true)
  | 3 => ("ChessNotes", "present", "LChessNotes$State;", false)
  | 4 => ("ChessNotes", "work", "LChessNotes$State;", false)
  | 5 => ("ChessNotes", "older", "[LChessNotes$State;", true)
  | 6 => ("ChessNotes", "newest", "I", false)
  | 7 => ("ChessNotes", "changes", "I", false)
  | 8 => ("ChessNotes", "saved", "[LChessNotes$State;", true)
  | 9 => ("ChessNotes", "isSaved", "[Z", true)
  | 10 => ("ChessNotes", "output", "[B", true)
  | _ => ("ChessNotes", "outputLength", "I", false)
def tyX6 : Nat → FieldType := fun k => match k with
  | 0 => .object "ChessNotes$Parser"
  | 1 => .object "ChessNotes$Tally"
  | 2 => .object "ChessNotes$Note"
  | 3 => .object "ChessNotes$State"
  | 4 => .object "ChessNotes$State"
  | 5 => .array (.object "ChessNotes$State")
  | 6 => .int
  | 7 => .int
  | 8 => .array (.object "ChessNotes$State")
  | 9 => .array .boolean
  | 10 => .array .byte
  | _ => .int
abbrev wsX60 : List Cond := u_ws RX6 TX6 12
theorem nmX6 : ∀ a, a < 12 → ∀ b, b < 12 → a ≠ b → (TX6 a).2.1 ≠ (TX6 b).2.1 := by decide +kernel
theorem tyX6_ok : ∀ k, k < 12 → parseFieldDescriptor (TX6 k).2.2.1 = some (tyX6 k) := by decide +kernel
abbrev cX6_init : ByteArray := prog_1_method_1_code
def yX6_init : MethodName := ⟨RX6, "<init>", "()V"⟩
abbrev cX6_append : ByteArray := prog_1_method_2_code
def yX6_append : MethodName := ⟨RX6, "append", "(IIIII)I"⟩
abbrev cX6_truncateInput : ByteArray := prog_1_method_3_code
def yX6_truncateInput : MethodName := ⟨RX6, "truncateInput", "(I)I"⟩
abbrev cX6_load : ByteArray := prog_1_method_4_code
def yX6_load : MethodName := ⟨RX6, "load", "()I"⟩
abbrev cX6_addNote : ByteArray := prog_1_method_8_code
def yX6_addNote : MethodName := ⟨RX6, "addNote", "(IIIIZZ)I"⟩
abbrev cX6_clarify : ByteArray := prog_1_method_9_code
def yX6_clarify : MethodName := ⟨RX6, "clarify", "(III)I"⟩
abbrev cX6_dropNote : ByteArray := prog_1_method_10_code
def yX6_dropNote : MethodName := ⟨RX6, "dropNote", "()I"⟩
abbrev cX6_undo : ByteArray := prog_1_method_11_code
def yX6_undo : MethodName := ⟨RX6, "undo", "()I"⟩
abbrev cX6_columns : ByteArray := prog_1_method_14_code
def yX6_columns : MethodName := ⟨RX6, "columns", "()I"⟩
abbrev cX6_rows : ByteArray := prog_1_method_15_code
def yX6_rows : MethodName := ⟨RX6, "rows", "()I"⟩
abbrev cX6_noteCount : ByteArray := prog_1_method_16_code
def yX6_noteCount : MethodName := ⟨RX6, "noteCount", "()I"⟩
abbrev cX6_colourToMove : ByteArray := prog_1_method_17_code
def yX6_colourToMove : MethodName := ⟨RX6, "colourToMove", "()I"⟩
abbrev cX6_undoableChanges : ByteArray := prog_1_method_18_code
def yX6_undoableChanges : MethodName := ⟨RX6, "undoableChanges", "()I"⟩
abbrev cX6_noteKind : ByteArray := prog_1_method_19_code
def yX6_noteKind : MethodName := ⟨RX6, "noteKind", "(I)I"⟩
abbrev cX6_noteFromColumn : ByteArray := prog_1_method_20_code
def yX6_noteFromColumn : MethodName := ⟨RX6, "noteFromColumn", "(I)I"⟩
abbrev cX6_noteFromRow : ByteArray := prog_1_method_21_code
def yX6_noteFromRow : MethodName := ⟨RX6, "noteFromRow", "(I)I"⟩
abbrev cX6_noteToColumn : ByteArray := prog_1_method_22_code
def yX6_noteToColumn : MethodName := ⟨RX6, "noteToColumn", "(I)I"⟩
abbrev cX6_noteToRow : ByteArray := prog_1_method_23_code
def yX6_noteToRow : MethodName := ⟨RX6, "noteToRow", "(I)I"⟩
abbrev cX6_noteTakes : ByteArray := prog_1_method_24_code
def yX6_noteTakes : MethodName := ⟨RX6, "noteTakes", "(I)Z"⟩
abbrev cX6_positionsAfter : ByteArray := prog_1_method_26_code
def yX6_positionsAfter : MethodName := ⟨RX6, "positionsAfter", "(I)I"⟩
abbrev cX6_kindAt : ByteArray := prog_1_method_27_code
def yX6_kindAt : MethodName := ⟨RX6, "kindAt", "(III)I"⟩
abbrev cX6_colourAt : ByteArray := prog_1_method_28_code
def yX6_colourAt : MethodName := ⟨RX6, "colourAt", "(III)I"⟩
abbrev cX6_isAttacked : ByteArray := prog_1_method_29_code
def yX6_isAttacked : MethodName := ⟨RX6, "isAttacked", "(IIII)Z"⟩
abbrev cX6_gamesTo : ByteArray := prog_1_method_31_code
def yX6_gamesTo : MethodName := ⟨RX6, "gamesTo", "(I)J"⟩
abbrev cX6_gameCount : ByteArray := prog_1_method_33_code
def yX6_gameCount : MethodName := ⟨RX6, "gameCount", "()J"⟩
abbrev cX6_isCertain : ByteArray := prog_1_method_34_code
def yX6_isCertain : MethodName := ⟨RX6, "isCertain", "()Z"⟩
abbrev cX6_doubt : ByteArray := prog_1_method_35_code
def yX6_doubt : MethodName := ⟨RX6, "doubt", "(I)I"⟩
abbrev cX6_moveOrigin : ByteArray := prog_1_method_36_code
def yX6_moveOrigin : MethodName := ⟨RX6, "moveOrigin", "(II)I"⟩
abbrev cX6_moveTarget : ByteArray := prog_1_method_37_code
def yX6_moveTarget : MethodName := ⟨RX6, "moveTarget", "(II)I"⟩
abbrev cX6_gamesWithMove : ByteArray := prog_1_method_38_code
def yX6_gamesWithMove : MethodName := ⟨RX6, "gamesWithMove", "(II)J"⟩
abbrev cX6_mostDoubtfulNote : ByteArray := prog_1_method_40_code
def yX6_mostDoubtfulNote : MethodName := ⟨RX6, "mostDoubtfulNote", "()I"⟩
abbrev cX6_gamesIfNoted : ByteArray := prog_1_method_41_code
def yX6_gamesIfNoted : MethodName := ⟨RX6, "gamesIfNoted", "(IIIIZZ)J"⟩
abbrev cX6_inconsistencies : ByteArray := prog_1_method_42_code
def yX6_inconsistencies : MethodName := ⟨RX6, "inconsistencies", "()I"⟩
abbrev cX6_contentOf : ByteArray := prog_1_method_47_code
def yX6_contentOf : MethodName := ⟨RX6, "contentOf", "(II)I"⟩
abbrev cX6_kindOf : ByteArray := prog_1_method_48_code
def yX6_kindOf : MethodName := ⟨RX6, "kindOf", "(I)I"⟩
abbrev cX6_colourOf : ByteArray := prog_1_method_49_code
def yX6_colourOf : MethodName := ⟨RX6, "colourOf", "(I)I"⟩
abbrev cX6_isOpenOrBelow : ByteArray := prog_1_method_50_code
def yX6_isOpenOrBelow : MethodName := ⟨RX6, "isOpenOrBelow", "(II)Z"⟩
abbrev cX6_requireNote : ByteArray := prog_1_method_53_code
def yX6_requireNote : MethodName := ⟨RX6, "requireNote", "(I)V"⟩
abbrev cX6_requirePosition : ByteArray := prog_1_method_54_code
def yX6_requirePosition : MethodName := ⟨RX6, "requirePosition", "(I)V"⟩
abbrev cX6_requireSquare : ByteArray := prog_1_method_55_code
def yX6_requireSquare : MethodName := ⟨RX6, "requireSquare", "(II)V"⟩
abbrev cX6_requireColour : ByteArray := prog_1_method_56_code
def yX6_requireColour : MethodName := ⟨RX6, "requireColour", "(I)V"⟩
abbrev cX6_requireStatable : ByteArray := prog_1_method_58_code
def yX6_requireStatable : MethodName := ⟨RX6, "requireStatable", "(IIII)V"⟩
abbrev cX6_requireMove : ByteArray := prog_1_method_59_code
def yX6_requireMove : MethodName := ⟨RX6, "requireMove", "(II)I"⟩
abbrev cX6_followAsked : ByteArray := prog_1_method_60_code
def yX6_followAsked : MethodName := ⟨RX6, "followAsked", "()I"⟩
abbrev cX6_runCommands : ByteArray := prog_1_method_61_code
def yX6_runCommands : MethodName := ⟨RX6, "runCommands", "()Z"⟩
abbrev cX6_endOfText : ByteArray := prog_1_method_62_code
def yX6_endOfText : MethodName := ⟨RX6, "endOfText", "(Z)Z"⟩
abbrev cX6_commit : ByteArray := prog_1_method_63_code
def yX6_commit : MethodName := ⟨RX6, "commit", "()V"⟩
abbrev cX6_areKingsInOrder : ByteArray := prog_1_method_64_code
def yX6_areKingsInOrder : MethodName := ⟨RX6, "areKingsInOrder", "()Z"⟩
def RX7 : String := "ChessNotesModel"
def TX7 : u_T := fun k => match k with
  | _ => ("", "", "", false)
def tyX7 : Nat → FieldType := fun k => match k with
  | _ => .int
abbrev wsX70 : List Cond := u_ws RX7 TX7 0
theorem nmX7 : ∀ a, a < 0 → ∀ b, b < 0 → a ≠ b → (TX7 a).2.1 ≠ (TX7 b).2.1 := by decide +kernel
theorem tyX7_ok : ∀ k, k < 0 → parseFieldDescriptor (TX7 k).2.2.1 = some (tyX7 k) := by decide +kernel
def RJx145de : String := "java/io/Serializable"
def TJx145de : u_T := fun k => match k with
  | _ => ("", "", "", false)
def tyJx145de : Nat → FieldType := fun k => match k with
  | _ => .int
abbrev wsJx145de0 : List Cond := u_ws RJx145de TJx145de 0
theorem nmJx145de : ∀ a, a < 0 → ∀ b, b < 0 → a ≠ b → (TJx145de a).2.1 ≠ (TJx145de b).2.1 := by decide +kernel
theorem tyJx145de_ok : ∀ k, k < 0 → parseFieldDescriptor (TJx145de k).2.2.1 = some (tyJx145de k) := by decide +kernel
def RJ5 : String := "java/lang/AbstractStringBuilder"
def TJ5 : u_T := fun k => match k with
  | _ => ("", "", "", false)
def tyJ5 : Nat → FieldType := fun k => match k with
  | _ => .int
abbrev wsJ50 : List Cond := u_ws RJ5 TJ5 0
theorem nmJ5 : ∀ a, a < 0 → ∀ b, b < 0 → a ≠ b → (TJ5 a).2.1 ≠ (TJ5 b).2.1 := by decide +kernel
theorem tyJ5_ok : ∀ k, k < 0 → parseFieldDescriptor (TJ5 k).2.2.1 = some (tyJ5 k) := by decide +kernel
abbrev cJ5_init_d00df : ByteArray := prog_10_method_2_code
def yJ5_init_d00df : MethodName := ⟨RJ5, "<init>", "(I)V"⟩
abbrev cJ5_init_a7421 : ByteArray := prog_10_method_3_code
def yJ5_init_a7421 : MethodName := ⟨RJ5, "<init>", "(Ljava/lang/String;)V"⟩
abbrev cJ5_length_8abf5 : ByteArray := prog_10_method_6_code
def yJ5_length_8abf5 : MethodName := ⟨RJ5, "length", "()I"⟩
abbrev cJ5_ensureCapacityInternal_d00df : ByteArray := prog_10_method_9_code
def yJ5_ensureCapacityInternal_d00df : MethodName := ⟨RJ5, "ensureCapacityInternal", "(I)V"⟩
abbrev cJ5_newCapacity_0f7a4 : ByteArray := prog_10_method_10_code
def yJ5_newCapacity_0f7a4 : MethodName := ⟨RJ5, "newCapacity", "(I)I"⟩
abbrev cJ5_inflate_da8c8 : ByteArray := prog_10_method_11_code
def yJ5_inflate_da8c8 : MethodName := ⟨RJ5, "inflate", "()V"⟩
abbrev cJ5_append_cf1ce : ByteArray := prog_10_method_22_code
def yJ5_append_cf1ce : MethodName := ⟨RJ5, "append", "(Ljava/lang/String;)Ljava/lang/AbstractStringBuilder;"⟩
abbrev cJ5_appendNull_278bc : ByteArray := prog_10_method_26_code
def yJ5_appendNull_278bc : MethodName := ⟨RJ5, "appendNull", "()Ljava/lang/AbstractStringBuilder;"⟩
abbrev cJ5_append_3fe6f : ByteArray := prog_10_method_31_code
def yJ5_append_3fe6f : MethodName := ⟨RJ5, "append", "(C)Ljava/lang/AbstractStringBuilder;"⟩
abbrev cJ5_append_c97b9 : ByteArray := prog_10_method_32_code
def yJ5_append_c97b9 : MethodName := ⟨RJ5, "append", "(I)Ljava/lang/AbstractStringBuilder;"⟩
abbrev cJ5_getValue_6d5f1 : ByteArray := prog_10_method_64_code
def yJ5_getValue_6d5f1 : MethodName := ⟨RJ5, "getValue", "()[B"⟩
abbrev cJ5_isLatin1_aae02 : ByteArray := prog_10_method_68_code
def yJ5_isLatin1_aae02 : MethodName := ⟨RJ5, "isLatin1", "()Z"⟩
abbrev cJ5_inflateIfNeededFor_a7421 : ByteArray := prog_10_method_71_code
def yJ5_inflateIfNeededFor_a7421 : MethodName := ⟨RJ5, "inflateIfNeededFor", "(Ljava/lang/String;)V"⟩
abbrev cJ5_putStringAt_47b60 : ByteArray := prog_10_method_73_code
def yJ5_putStringAt_47b60 : MethodName := ⟨RJ5, "putStringAt", "(ILjava/lang/String;)V"⟩
def RJx2cfe8 : String := "java/lang/Appendable"
def TJx2cfe8 : u_T := fun k => match k with
  | _ => ("", "", "", false)
def tyJx2cfe8 : Nat → FieldType := fun k => match k with
  | _ => .int
abbrev wsJx2cfe80 : List Cond := u_ws RJx2cfe8 TJx2cfe8 0
theorem nmJx2cfe8 : ∀ a, a < 0 → ∀ b, b < 0 → a ≠ b → (TJx2cfe8 a).2.1 ≠ (TJx2cfe8 b).2.1 := by decide +kernel
theorem tyJx2cfe8_ok : ∀ k, k < 0 → parseFieldDescriptor (TJx2cfe8 k).2.2.1 = some (tyJx2cfe8 k) := by decide +kernel
def RJx00060 : String := "java/lang/ArrayIndexOutOfBoundsException"
def TJx00060 : u_T := fun k => match k with
  | 0 => ("java/lang/Throwable", "cause", "Ljava/lang/Throwable;", false)
  | 1 => ("java/lang/Throwable", "stackTrace", "[Ljava/lang/StackTraceElement;", false)
  | 2 => ("java/lang/Throwable", "suppressedExceptions", "Ljava/util/List;", false)
  | 3 => ("java/lang/Throwable", "detailMessage", "Ljava/lang/String;", false)
  | 4 => ("java/lang/Throwable", "backtrace", "Ljava/lang/Object;", false)
  | _ => ("java/lang/Throwable", "depth", "I", false)
def tyJx00060 : Nat → FieldType := fun k => match k with
  | 0 => .object "java/lang/Throwable"
  | 1 => .array (.object "java/lang/StackTraceElement")
  | 2 => .object "java/util/List"
  | 3 => .object "java/lang/String"
  | 4 => .object "java/lang/Object"
  | _ => .int
abbrev wsJx000600 : List Cond := u_ws RJx00060 TJx00060 6
theorem nmJx00060 : ∀ a, a < 6 → ∀ b, b < 6 → a ≠ b → (TJx00060 a).2.1 ≠ (TJx00060 b).2.1 := by decide +kernel
theorem tyJx00060_ok : ∀ k, k < 6 → parseFieldDescriptor (TJx00060 k).2.2.1 = some (tyJx00060 k) := by decide +kernel
abbrev cJx00060_init_d00df : ByteArray := prog_11_method_3_code
def yJx00060_init_d00df : MethodName := ⟨RJx00060, "<init>", "(I)V"⟩
def RJx9f9b0 : String := "java/lang/CharSequence"
def TJx9f9b0 : u_T := fun k => match k with
  | _ => ("", "", "", false)
def tyJx9f9b0 : Nat → FieldType := fun k => match k with
  | _ => .int
abbrev wsJx9f9b00 : List Cond := u_ws RJx9f9b0 TJx9f9b0 0
theorem nmJx9f9b0 : ∀ a, a < 0 → ∀ b, b < 0 → a ≠ b → (TJx9f9b0 a).2.1 ≠ (TJx9f9b0 b).2.1 := by decide +kernel
theorem tyJx9f9b0_ok : ∀ k, k < 0 → parseFieldDescriptor (TJx9f9b0 k).2.2.1 = some (tyJx9f9b0 k) := by decide +kernel
def RJx8e188 : String := "java/lang/Cloneable"
def TJx8e188 : u_T := fun k => match k with
  | _ => ("", "", "", false)
def tyJx8e188 : Nat → FieldType := fun k => match k with
  | _ => .int
abbrev wsJx8e1880 : List Cond := u_ws RJx8e188 TJx8e188 0
theorem nmJx8e188 : ∀ a, a < 0 → ∀ b, b < 0 → a ≠ b → (TJx8e188 a).2.1 ≠ (TJx8e188 b).2.1 := by decide +kernel
theorem tyJx8e188_ok : ∀ k, k < 0 → parseFieldDescriptor (TJx8e188 k).2.2.1 = some (tyJx8e188 k) := by decide +kernel
def RJxb160c : String := "java/lang/Comparable"
def TJxb160c : u_T := fun k => match k with
  | _ => ("", "", "", false)
def tyJxb160c : Nat → FieldType := fun k => match k with
  | _ => .int
abbrev wsJxb160c0 : List Cond := u_ws RJxb160c TJxb160c 0
theorem nmJxb160c : ∀ a, a < 0 → ∀ b, b < 0 → a ≠ b → (TJxb160c a).2.1 ≠ (TJxb160c b).2.1 := by decide +kernel
theorem tyJxb160c_ok : ∀ k, k < 0 → parseFieldDescriptor (TJxb160c k).2.2.1 = some (tyJxb160c k) := by decide +kernel
def RJ6 : String := "java/lang/Integer"
def TJ6 : u_T := fun k => match k with
  | _ => ("", "", "", false)
def tyJ6 : Nat → FieldType := fun k => match k with
  | _ => .int
abbrev wsJ60 : List Cond := u_ws RJ6 TJ6 0
theorem nmJ6 : ∀ a, a < 0 → ∀ b, b < 0 → a ≠ b → (TJ6 a).2.1 ≠ (TJ6 b).2.1 := by decide +kernel
theorem tyJ6_ok : ∀ k, k < 0 → parseFieldDescriptor (TJ6 k).2.2.1 = some (tyJ6 k) := by decide +kernel
abbrev cJ6_getChars_ba4f3 : ByteArray := prog_17_method_12_code
def yJ6_getChars_ba4f3 : MethodName := ⟨RJ6, "getChars", "(II[B)I"⟩
abbrev cJ6_stringSize_0f7a4 : ByteArray := prog_17_method_13_code
def yJ6_stringSize_0f7a4 : MethodName := ⟨RJ6, "stringSize", "(I)I"⟩
def RJ9 : String := "java/lang/Math"
def TJ9 : u_T := fun k => match k with
  | _ => ("", "", "", false)
def tyJ9 : Nat → FieldType := fun k => match k with
  | _ => .int
abbrev wsJ90 : List Cond := u_ws RJ9 TJ9 0
theorem nmJ9 : ∀ a, a < 0 → ∀ b, b < 0 → a ≠ b → (TJ9 a).2.1 ≠ (TJ9 b).2.1 := by decide +kernel
theorem tyJ9_ok : ∀ k, k < 0 → parseFieldDescriptor (TJ9 k).2.2.1 = some (tyJ9 k) := by decide +kernel
abbrev cJ9_max_7cf53 : ByteArray := prog_18_method_65_code
def yJ9_max_7cf53 : MethodName := ⟨RJ9, "max", "(II)I"⟩
abbrev cJ9_min_7cf53 : ByteArray := prog_18_method_69_code
def yJ9_min_7cf53 : MethodName := ⟨RJ9, "min", "(II)I"⟩
def RJxd2413 : String := "java/lang/Number"
def TJxd2413 : u_T := fun k => match k with
  | _ => ("", "", "", false)
def tyJxd2413 : Nat → FieldType := fun k => match k with
  | _ => .int
abbrev wsJxd24130 : List Cond := u_ws RJxd2413 TJxd2413 0
theorem nmJxd2413 : ∀ a, a < 0 → ∀ b, b < 0 → a ≠ b → (TJxd2413 a).2.1 ≠ (TJxd2413 b).2.1 := by decide +kernel
theorem tyJxd2413_ok : ∀ k, k < 0 → parseFieldDescriptor (TJxd2413 k).2.2.1 = some (tyJxd2413 k) := by decide +kernel
def RJ0 : String := "java/lang/String"
def TJ0 : u_T := fun k => match k with
  | 0 => ("java/lang/String", "value", "[B", true)
  | 1 => ("java/lang/String", "coder", "B", true)
  | 2 => ("java/lang/String", "hash", "I", false)
  | _ => ("java/lang/String", "hashIsZero", "Z", false)
def tyJ0 : Nat → FieldType := fun k => match k with
  | 0 => .array .byte
  | 1 => .byte
  | 2 => .int
  | _ => .boolean
abbrev wsJ00 : List Cond := u_ws RJ0 TJ0 4
theorem nmJ0 : ∀ a, a < 4 → ∀ b, b < 4 → a ≠ b → (TJ0 a).2.1 ≠ (TJ0 b).2.1 := by decide +kernel
theorem tyJ0_ok : ∀ k, k < 4 → parseFieldDescriptor (TJ0 k).2.2.1 = some (tyJ0 k) := by decide +kernel
abbrev cJ0_init_81219 : ByteArray := prog_21_method_53_code
def yJ0_init_81219 : MethodName := ⟨RJ0, "<init>", "(Ljava/lang/StringBuilder;)V"⟩
abbrev cJ0_length_8abf5 : ByteArray := prog_21_method_54_code
def yJ0_length_8abf5 : MethodName := ⟨RJ0, "length", "()I"⟩
abbrev cJ0_charAt_5068e : ByteArray := prog_21_method_56_code
def yJ0_charAt_5068e : MethodName := ⟨RJ0, "charAt", "(I)C"⟩
abbrev cJ0_getBytes_840e7 : ByteArray := prog_21_method_147_code
def yJ0_getBytes_840e7 : MethodName := ⟨RJ0, "getBytes", "([BIB)V"⟩
abbrev cJ0_init_db425 : ByteArray := prog_21_method_150_code
def yJ0_init_db425 : MethodName := ⟨RJ0, "<init>", "(Ljava/lang/AbstractStringBuilder;Ljava/lang/Void;)V"⟩
abbrev cJ0_coder_7d493 : ByteArray := prog_21_method_152_code
def yJ0_coder_7d493 : MethodName := ⟨RJ0, "coder", "()B"⟩
abbrev cJ0_isLatin1_aae02 : ByteArray := prog_21_method_154_code
def yJ0_isLatin1_aae02 : MethodName := ⟨RJ0, "isLatin1", "()Z"⟩
abbrev cJ0_checkIndex_df160 : ByteArray := prog_21_method_155_code
def yJ0_checkIndex_df160 : MethodName := ⟨RJ0, "checkIndex", "(II)V"⟩
abbrev cJ0_checkBoundsOffCount_cabcc : ByteArray := prog_21_method_157_code
def yJ0_checkBoundsOffCount_cabcc : MethodName := ⟨RJ0, "checkBoundsOffCount", "(III)I"⟩
abbrev cJ0_checkBoundsBeginEnd_23922 : ByteArray := prog_21_method_158_code
def yJ0_checkBoundsBeginEnd_23922 : MethodName := ⟨RJ0, "checkBoundsBeginEnd", "(III)V"⟩
def RJ4 : String := "java/lang/StringBuilder"
def TJ4 : u_T := fun k => match k with
  | 0 => ("java/lang/AbstractStringBuilder", "value", "[B", false)
  | 1 => ("java/lang/AbstractStringBuilder", "coder", "B", false)
  | 2 => ("java/lang/AbstractStringBuilder", "maybeLatin1", "Z", false)
  | _ => ("java/lang/AbstractStringBuilder", "count", "I", false)
def tyJ4 : Nat → FieldType := fun k => match k with
  | 0 => .array .byte
  | 1 => .byte
  | 2 => .boolean
  | _ => .int
abbrev wsJ40 : List Cond := u_ws RJ4 TJ4 4
theorem nmJ4 : ∀ a, a < 4 → ∀ b, b < 4 → a ≠ b → (TJ4 a).2.1 ≠ (TJ4 b).2.1 := by decide +kernel
theorem tyJ4_ok : ∀ k, k < 4 → parseFieldDescriptor (TJ4 k).2.2.1 = some (tyJ4 k) := by decide +kernel
abbrev cJ4_init_da8c8 : ByteArray := prog_22_method_1_code
def yJ4_init_da8c8 : MethodName := ⟨RJ4, "<init>", "()V"⟩
abbrev cJ4_init_a7421 : ByteArray := prog_22_method_3_code
def yJ4_init_a7421 : MethodName := ⟨RJ4, "<init>", "(Ljava/lang/String;)V"⟩
abbrev cJ4_append_15ec4 : ByteArray := prog_22_method_7_code
def yJ4_append_15ec4 : MethodName := ⟨RJ4, "append", "(Ljava/lang/String;)Ljava/lang/StringBuilder;"⟩
abbrev cJ4_append_cf468 : ByteArray := prog_22_method_14_code
def yJ4_append_cf468 : MethodName := ⟨RJ4, "append", "(C)Ljava/lang/StringBuilder;"⟩
abbrev cJ4_append_bf812 : ByteArray := prog_22_method_15_code
def yJ4_append_bf812 : MethodName := ⟨RJ4, "append", "(I)Ljava/lang/StringBuilder;"⟩
abbrev cJ4_toString_0e30d : ByteArray := prog_22_method_42_code
def yJ4_toString_0e30d : MethodName := ⟨RJ4, "toString", "()Ljava/lang/String;"⟩
abbrev cJ4_append_cf1ce : ByteArray := prog_22_method_80_code
def yJ4_append_cf1ce : MethodName := ⟨RJ4, "append", "(Ljava/lang/String;)Ljava/lang/AbstractStringBuilder;"⟩
abbrev cJ4_length_8abf5 : ByteArray := prog_22_method_93_code
def yJ4_length_8abf5 : MethodName := ⟨RJ4, "length", "()I"⟩
def RJ1 : String := "java/lang/StringLatin1"
def TJ1 : u_T := fun k => match k with
  | _ => ("", "", "", false)
def tyJ1 : Nat → FieldType := fun k => match k with
  | _ => .int
abbrev wsJ10 : List Cond := u_ws RJ1 TJ1 0
theorem nmJ1 : ∀ a, a < 0 → ∀ b, b < 0 → a ≠ b → (TJ1 a).2.1 ≠ (TJ1 b).2.1 := by decide +kernel
theorem tyJ1_ok : ∀ k, k < 0 → parseFieldDescriptor (TJ1 k).2.2.1 = some (tyJ1 k) := by decide +kernel
abbrev cJ1_charAt_3b067 : ByteArray := prog_23_method_2_code
def yJ1_charAt_3b067 : MethodName := ⟨RJ1, "charAt", "([BI)C"⟩
abbrev cJ1_canEncode_fc78d : ByteArray := prog_23_method_3_code
def yJ1_canEncode_fc78d : MethodName := ⟨RJ1, "canEncode", "(C)Z"⟩
abbrev cJ1_inflate_0e8fd : ByteArray := prog_23_method_50_code
def yJ1_inflate_0e8fd : MethodName := ⟨RJ1, "inflate", "([BI[BII)V"⟩
def RJ2 : String := "java/lang/StringUTF16"
def TJ2 : u_T := fun k => match k with
  | _ => ("", "", "", false)
def tyJ2 : Nat → FieldType := fun k => match k with
  | _ => .int
abbrev wsJ20 : List Cond := u_ws RJ2 TJ2 0
theorem nmJ2 : ∀ a, a < 0 → ∀ b, b < 0 → a ≠ b → (TJ2 a).2.1 ≠ (TJ2 b).2.1 := by decide +kernel
theorem tyJ2_ok : ∀ k, k < 0 → parseFieldDescriptor (TJ2 k).2.2.1 = some (tyJ2 k) := by decide +kernel
abbrev cJ2_newBytesFor_77867 : ByteArray := prog_24_method_2_code
def yJ2_newBytesFor_77867 : MethodName := ⟨RJ2, "newBytesFor", "(I)[B"⟩
abbrev cJ2_newBytesLength_0f7a4 : ByteArray := prog_24_method_3_code
def yJ2_newBytesLength_0f7a4 : MethodName := ⟨RJ2, "newBytesLength", "(I)I"⟩
abbrev cJ2_putChar_b72d1 : ByteArray := prog_24_method_4_code
def yJ2_putChar_b72d1 : MethodName := ⟨RJ2, "putChar", "([BII)V"⟩
abbrev cJ2_getChar_3b067 : ByteArray := prog_24_method_5_code
def yJ2_getChar_3b067 : MethodName := ⟨RJ2, "getChar", "([BI)C"⟩
abbrev cJ2_length_9d52b : ByteArray := prog_24_method_6_code
def yJ2_length_9d52b : MethodName := ⟨RJ2, "length", "([B)I"⟩
abbrev cJ2_coderFromArrayLen_85cad : ByteArray := prog_24_method_15_code
def yJ2_coderFromArrayLen_85cad : MethodName := ⟨RJ2, "coderFromArrayLen", "([BI)B"⟩
abbrev cJ2_compress_39247 : ByteArray := prog_24_method_17_code
def yJ2_compress_39247 : MethodName := ⟨RJ2, "compress", "([BII)[B"⟩
abbrev cJ2_compress_5af95 : ByteArray := prog_24_method_22_code
def yJ2_compress_5af95 : MethodName := ⟨RJ2, "compress", "([BI[BII)I"⟩
abbrev cJ2_putCharSB_b72d1 : ByteArray := prog_24_method_71_code
def yJ2_putCharSB_b72d1 : MethodName := ⟨RJ2, "putCharSB", "([BII)V"⟩
abbrev cJ2_getChars_46870 : ByteArray := prog_24_method_77_code
def yJ2_getChars_46870 : MethodName := ⟨RJ2, "getChars", "(III[B)I"⟩
abbrev cJ2_putCharsAt_cd4e5 : ByteArray := prog_24_method_81_code
def yJ2_putCharsAt_cd4e5 : MethodName := ⟨RJ2, "putCharsAt", "([BICCCC)I"⟩
abbrev cJ2_charAt_3b067 : ByteArray := prog_24_method_83_code
def yJ2_charAt_3b067 : MethodName := ⟨RJ2, "charAt", "([BI)C"⟩
abbrev cJ2_inflate_0e8fd : ByteArray := prog_24_method_86_code
def yJ2_inflate_0e8fd : MethodName := ⟨RJ2, "inflate", "([BI[BII)V"⟩
abbrev cJ2_getChars_ba4f3 : ByteArray := prog_24_method_89_code
def yJ2_getChars_ba4f3 : MethodName := ⟨RJ2, "getChars", "(II[B)I"⟩
abbrev cJ2_checkIndex_2214a : ByteArray := prog_24_method_91_code
def yJ2_checkIndex_2214a : MethodName := ⟨RJ2, "checkIndex", "(I[B)V"⟩
abbrev cJ2_checkBoundsBeginEnd_d044e : ByteArray := prog_24_method_93_code
def yJ2_checkBoundsBeginEnd_d044e : MethodName := ⟨RJ2, "checkBoundsBeginEnd", "(II[B)V"⟩
abbrev cJ2_checkBoundsOffCount_d044e : ByteArray := prog_24_method_94_code
def yJ2_checkBoundsOffCount_d044e : MethodName := ⟨RJ2, "checkBoundsOffCount", "(II[B)V"⟩
def RJ10 : String := "java/lang/System"
def TJ10 : u_T := fun k => match k with
  | _ => ("", "", "", false)
def tyJ10 : Nat → FieldType := fun k => match k with
  | _ => .int
abbrev wsJ100 : List Cond := u_ws RJ10 TJ10 0
theorem nmJ10 : ∀ a, a < 0 → ∀ b, b < 0 → a ≠ b → (TJ10 a).2.1 ≠ (TJ10 b).2.1 := by decide +kernel
theorem tyJ10_ok : ∀ k, k < 0 → parseFieldDescriptor (TJ10 k).2.2.1 = some (tyJ10 k) := by decide +kernel
def RJxfd54e : String := "java/lang/constant/Constable"
def TJxfd54e : u_T := fun k => match k with
  | _ => ("", "", "", false)
def tyJxfd54e : Nat → FieldType := fun k => match k with
  | _ => .int
abbrev wsJxfd54e0 : List Cond := u_ws RJxfd54e TJxfd54e 0
theorem nmJxfd54e : ∀ a, a < 0 → ∀ b, b < 0 → a ≠ b → (TJxfd54e a).2.1 ≠ (TJxfd54e b).2.1 := by decide +kernel
theorem tyJxfd54e_ok : ∀ k, k < 0 → parseFieldDescriptor (TJxfd54e k).2.2.1 = some (tyJxfd54e k) := by decide +kernel
def RJx3cf43 : String := "java/lang/constant/ConstantDesc"
def TJx3cf43 : u_T := fun k => match k with
  | _ => ("", "", "", false)
def tyJx3cf43 : Nat → FieldType := fun k => match k with
  | _ => .int
abbrev wsJx3cf430 : List Cond := u_ws RJx3cf43 TJx3cf43 0
theorem nmJx3cf43 : ∀ a, a < 0 → ∀ b, b < 0 → a ≠ b → (TJx3cf43 a).2.1 ≠ (TJx3cf43 b).2.1 := by decide +kernel
theorem tyJx3cf43_ok : ∀ k, k < 0 → parseFieldDescriptor (TJx3cf43 k).2.2.1 = some (tyJx3cf43 k) := by decide +kernel
def RJ7 : String := "java/util/Arrays"
def TJ7 : u_T := fun k => match k with
  | _ => ("", "", "", false)
def tyJ7 : Nat → FieldType := fun k => match k with
  | _ => .int
abbrev wsJ70 : List Cond := u_ws RJ7 TJ7 0
theorem nmJ7 : ∀ a, a < 0 → ∀ b, b < 0 → a ≠ b → (TJ7 a).2.1 ≠ (TJ7 b).2.1 := by decide +kernel
theorem tyJ7_ok : ∀ k, k < 0 → parseFieldDescriptor (TJ7 k).2.2.1 = some (tyJ7 k) := by decide +kernel
abbrev cJ7_rangeCheck_23922 : ByteArray := prog_27_method_30_code
def yJ7_rangeCheck_23922 : MethodName := ⟨RJ7, "rangeCheck", "(III)V"⟩
abbrev cJ7_fill_d0a16 : ByteArray := prog_27_method_101_code
def yJ7_fill_d0a16 : MethodName := ⟨RJ7, "fill", "([JJ)V"⟩
abbrev cJ7_fill_bad5a : ByteArray := prog_27_method_102_code
def yJ7_fill_bad5a : MethodName := ⟨RJ7, "fill", "([JIIJ)V"⟩
abbrev cJ7_fill_53178 : ByteArray := prog_27_method_103_code
def yJ7_fill_53178 : MethodName := ⟨RJ7, "fill", "([II)V"⟩
abbrev cJ7_copyOf_9075b : ByteArray := prog_27_method_121_code
def yJ7_copyOf_9075b : MethodName := ⟨RJ7, "copyOf", "([BI)[B"⟩
abbrev cJ7_copyOf_59c91 : ByteArray := prog_27_method_123_code
def yJ7_copyOf_59c91 : MethodName := ⟨RJ7, "copyOf", "([II)[I"⟩
abbrev cJ7_checkLength_df160 : ByteArray := prog_27_method_131_code
def yJ7_checkLength_df160 : MethodName := ⟨RJ7, "checkLength", "(II)V"⟩
abbrev cJ7_copyOfRange_39247 : ByteArray := prog_27_method_132_code
def yJ7_copyOfRange_39247 : MethodName := ⟨RJ7, "copyOfRange", "([BII)[B"⟩
abbrev cJ7_copyOfRangeByte_39247 : ByteArray := prog_27_method_133_code
def yJ7_copyOfRangeByte_39247 : MethodName := ⟨RJ7, "copyOfRangeByte", "([BII)[B"⟩
def RJ8 : String := "jdk/internal/util/ArraysSupport"
def TJ8 : u_T := fun k => match k with
  | _ => ("", "", "", false)
def tyJ8 : Nat → FieldType := fun k => match k with
  | _ => .int
abbrev wsJ80 : List Cond := u_ws RJ8 TJ8 0
theorem nmJ8 : ∀ a, a < 0 → ∀ b, b < 0 → a ≠ b → (TJ8 a).2.1 ≠ (TJ8 b).2.1 := by decide +kernel
theorem tyJ8_ok : ∀ k, k < 0 → parseFieldDescriptor (TJ8 k).2.2.1 = some (tyJ8 k) := by decide +kernel
abbrev cJ8_newLength_cabcc : ByteArray := prog_28_method_27_code
def yJ8_newLength_cabcc : MethodName := ⟨RJ8, "newLength", "(III)I"⟩
abbrev cJ8_hugeLength_7cf53 : ByteArray := prog_28_method_28_code
def yJ8_hugeLength_7cf53 : MethodName := ⟨RJ8, "hugeLength", "(II)I"⟩
def RJ3 : String := "jdk/internal/util/Preconditions"
def TJ3 : u_T := fun k => match k with
  | _ => ("", "", "", false)
def tyJ3 : Nat → FieldType := fun k => match k with
  | _ => .int
abbrev wsJ30 : List Cond := u_ws RJ3 TJ3 0
theorem nmJ3 : ∀ a, a < 0 → ∀ b, b < 0 → a ≠ b → (TJ3 a).2.1 ≠ (TJ3 b).2.1 := by decide +kernel
theorem tyJ3_ok : ∀ k, k < 0 → parseFieldDescriptor (TJ3 k).2.2.1 = some (tyJ3 k) := by decide +kernel
abbrev cJ3_checkIndex_8e157 : ByteArray := prog_29_method_11_code
def yJ3_checkIndex_8e157 : MethodName := ⟨RJ3, "checkIndex", "(IILjava/util/function/BiFunction;)I"⟩
abbrev cJ3_checkFromToIndex_8c36e : ByteArray := prog_29_method_12_code
def yJ3_checkFromToIndex_8c36e : MethodName := ⟨RJ3, "checkFromToIndex", "(IIILjava/util/function/BiFunction;)I"⟩
abbrev cJ3_checkFromIndexSize_8c36e : ByteArray := prog_29_method_13_code
def yJ3_checkFromIndexSize_8c36e : MethodName := ⟨RJ3, "checkFromIndexSize", "(IIILjava/util/function/BiFunction;)I"⟩
def RL : String := "ChessNotesLaw"
abbrev cL_truncateInput : ByteArray := method_2_code
def yL_truncateInput : MethodName := ⟨RL, "truncateInput", "(LChessNotes;I)I"⟩
abbrev cL_addNote : ByteArray := method_3_code
def yL_addNote : MethodName := ⟨RL, "addNote", "(LChessNotes;IIIIZZ)I"⟩
abbrev cL_clarify : ByteArray := method_4_code
def yL_clarify : MethodName := ⟨RL, "clarify", "(LChessNotes;III)I"⟩
abbrev cL_dropNote : ByteArray := method_5_code
def yL_dropNote : MethodName := ⟨RL, "dropNote", "(LChessNotes;)I"⟩
abbrev cL_undo : ByteArray := method_6_code
def yL_undo : MethodName := ⟨RL, "undo", "(LChessNotes;)I"⟩
abbrev cL_noteKind : ByteArray := method_7_code
def yL_noteKind : MethodName := ⟨RL, "noteKind", "(LChessNotes;I)I"⟩
abbrev cL_noteFromColumn : ByteArray := method_8_code
def yL_noteFromColumn : MethodName := ⟨RL, "noteFromColumn", "(LChessNotes;I)I"⟩
abbrev cL_noteFromRow : ByteArray := method_9_code
def yL_noteFromRow : MethodName := ⟨RL, "noteFromRow", "(LChessNotes;I)I"⟩
abbrev cL_noteToColumn : ByteArray := method_10_code
def yL_noteToColumn : MethodName := ⟨RL, "noteToColumn", "(LChessNotes;I)I"⟩
abbrev cL_noteToRow : ByteArray := method_11_code
def yL_noteToRow : MethodName := ⟨RL, "noteToRow", "(LChessNotes;I)I"⟩
abbrev cL_doubt : ByteArray := method_12_code
def yL_doubt : MethodName := ⟨RL, "doubt", "(LChessNotes;I)I"⟩
abbrev cL_noteTakes : ByteArray := method_13_code
def yL_noteTakes : MethodName := ⟨RL, "noteTakes", "(LChessNotes;I)I"⟩
abbrev cL_positionsAfter : ByteArray := method_14_code
def yL_positionsAfter : MethodName := ⟨RL, "positionsAfter", "(LChessNotes;I)I"⟩
abbrev cL_kindAt : ByteArray := method_15_code
def yL_kindAt : MethodName := ⟨RL, "kindAt", "(LChessNotes;III)I"⟩
abbrev cL_colourAt : ByteArray := method_16_code
def yL_colourAt : MethodName := ⟨RL, "colourAt", "(LChessNotes;III)I"⟩
abbrev cL_isAttacked : ByteArray := method_17_code
def yL_isAttacked : MethodName := ⟨RL, "isAttacked", "(LChessNotes;IIII)I"⟩
abbrev cL_gamesTo : ByteArray := method_18_code
def yL_gamesTo : MethodName := ⟨RL, "gamesTo", "(LChessNotes;I)J"⟩
abbrev cL_moveOrigin : ByteArray := method_19_code
def yL_moveOrigin : MethodName := ⟨RL, "moveOrigin", "(LChessNotes;II)I"⟩
abbrev cL_moveTarget : ByteArray := method_20_code
def yL_moveTarget : MethodName := ⟨RL, "moveTarget", "(LChessNotes;II)I"⟩
abbrev cL_gamesWithMove : ByteArray := method_21_code
def yL_gamesWithMove : MethodName := ⟨RL, "gamesWithMove", "(LChessNotes;II)J"⟩
abbrev cL_gamesIfNoted : ByteArray := method_22_code
def yL_gamesIfNoted : MethodName := ⟨RL, "gamesIfNoted", "(LChessNotes;IIIIZZ)J"⟩
abbrev cL_word : ByteArray := method_23_code
def yL_word : MethodName := ⟨RL, "word", "(Ljava/lang/String;I)I"⟩
abbrev cL_write : ByteArray := method_24_code
def yL_write : MethodName := ⟨RL, "write", "(LChessNotes;Ljava/lang/String;)Z"⟩
abbrev cL_draw : ByteArray := method_25_code
def yL_draw : MethodName := ⟨RL, "draw", "([II)I"⟩
abbrev cL_isGame : ByteArray := method_26_code
def yL_isGame : MethodName := ⟨RL, "isGame", "(LChessNotes;)Z"⟩
abbrev cL_notes : ByteArray := method_27_code
def yL_notes : MethodName := ⟨RL, "notes", "(LChessNotes;[I)Z"⟩
abbrev cL_acts : ByteArray := method_28_code
def yL_acts : MethodName := ⟨RL, "acts", "(LChessNotes;[I)Z"⟩
abbrev cL_law : ByteArray := code
def yL_law : MethodName := ⟨RL, "law", "([I)Z"⟩
abbrev vwCl : List vw_C := [(RJ0, TJ0, 4), (RJ4, TJ4, 4), (RJx00060, TJx00060, 6), (RX0, TX0, 7), (RX1, TX1, 7), (RX2, TX2, 11), (RX3, TX3, 9), (RX4, TX4, 3), (RX5, TX5, 6), (RX6, TX6, 12)]
