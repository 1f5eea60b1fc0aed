def RX0 : String := "YardYear$Draws"
def TX0 : u_T := fun k => match k with
  | 0 => ("YardYear$Draws", "sheet", "LYardYear$Yard;", true)
  | _ => ("YardYear$Draws", "state", "J", false)
def tyX0 : Nat → FieldType := fun k => match k with
  | 0 => .object "YardYear$Yard"
  | _ => .long
abbrev wsX00 : List Cond := u_ws RX0 TX0 2
theorem nmX0 : ∀ a, a < 2 → ∀ b, b < 2 → a ≠ b → (TX0 a).2.1 ≠ (TX0 b).2.1 := by decide +kernel
theorem tyX0_ok : ∀ k, k < 2 → parseFieldDescriptor (TX0 k).2.2.1 = some (tyX0 k) := by decide +kernel
abbrev cX0_init : ByteArray := prog_2_method_1_code
def yX0_init : MethodName := ⟨RX0, "<init>", "()V"⟩
abbrev cX0_run : ByteArray := prog_2_method_2_code
def yX0_run : MethodName := ⟨RX0, "run", "(LYardYear$Yard;II)I"⟩
abbrev cX0_draw : ByteArray := prog_2_method_3_code
def yX0_draw : MethodName := ⟨RX0, "draw", "(I)I"⟩
def RX1 : String := "YardYear$Finds"
def TX1 : u_T := fun k => match k with
  | 0 => ("YardYear$Finds", "count", "I", false)
  | 1 => ("YardYear$Finds", "behind", "[I", true)
  | 2 => ("YardYear$Finds", "cell", "[I", true)
  | _ => ("YardYear$Finds", "is", "[I", true)
def tyX1 : Nat → FieldType := fun k => match k with
  | 0 => .int
  | 1 => .array .int
  | 2 => .array .int
  | _ => .array .int
abbrev wsX10 : List Cond := u_ws RX1 TX1 4
theorem nmX1 : ∀ a, a < 4 → ∀ b, b < 4 → a ≠ b → (TX1 a).2.1 ≠ (TX1 b).2.1 := by decide +kernel
theorem tyX1_ok : ∀ k, k < 4 → parseFieldDescriptor (TX1 k).2.2.1 = some (tyX1 k) := by decide +kernel
abbrev cX1_init : ByteArray := prog_3_method_1_code
def yX1_init : MethodName := ⟨RX1, "<init>", "()V"⟩
abbrev cX1_copyFrom : ByteArray := prog_3_method_2_code
def yX1_copyFrom : MethodName := ⟨RX1, "copyFrom", "(LYardYear$Finds;)V"⟩
abbrev cX1_add : ByteArray := prog_3_method_3_code
def yX1_add : MethodName := ⟨RX1, "add", "(III)I"⟩
abbrev cX1_latest : ByteArray := prog_3_method_4_code
def yX1_latest : MethodName := ⟨RX1, "latest", "()I"⟩
abbrev cX1_agree : ByteArray := prog_3_method_5_code
def yX1_agree : MethodName := ⟨RX1, "agree", "(LYardYear$Yard;I)Z"⟩
def RX2 : String := "YardYear$Image"
def TX2 : u_T := fun k => match k with
  | 0 => ("YardYear$Image", "keptYard", "LYardYear$Yard;", true)
  | 1 => ("YardYear$Image", "keptFinds", "LYardYear$Finds;", true)
  | 2 => ("YardYear$Image", "keptLaws", "LYardYear$Laws;", true)
  | _ => ("YardYear$Image", "isKept", "Z", false)
def tyX2 : Nat → FieldType := fun k => match k with
  | 0 => .object "YardYear$Yard"
  | 1 => .object "YardYear$Finds"
  | 2 => .object "YardYear$Laws"
  | _ => .boolean
abbrev wsX20 : List Cond := u_ws RX2 TX2 4
theorem nmX2 : ∀ a, a < 4 → ∀ b, b < 4 → a ≠ b → (TX2 a).2.1 ≠ (TX2 b).2.1 := by decide +kernel
theorem tyX2_ok : ∀ k, k < 4 → parseFieldDescriptor (TX2 k).2.2.1 = some (tyX2 k) := by decide +kernel
abbrev cX2_init : ByteArray := prog_4_method_1_code
def yX2_init : MethodName := ⟨RX2, "<init>", "()V"⟩
abbrev cX2_keep : ByteArray := prog_4_method_2_code
def yX2_keep : MethodName := ⟨RX2, "keep", "(LYardYear$Yard;LYardYear$Finds;LYardYear$Laws;)V"⟩
abbrev cX2_giveBack : ByteArray := prog_4_method_3_code
def yX2_giveBack : MethodName := ⟨RX2, "giveBack", "(LYardYear$Yard;LYardYear$Finds;LYardYear$Laws;)V"⟩
def RX3 : String := "YardYear$Laws"
def TX3 : u_T := fun k => match k with
  | 0 => ("YardYear$Laws", "texts", "[LYardYear$Text;", true)
  | 1 => ("YardYear$Laws", "made", "I", false)
  | _ => ("YardYear$Laws", "inForce", "I", false)
def tyX3 : Nat → FieldType := fun k => match k with
  | 0 => .array (.object "YardYear$Text")
  | 1 => .int
  | _ => .int
abbrev wsX30 : List Cond := u_ws RX3 TX3 3
theorem nmX3 : ∀ a, a < 3 → ∀ b, b < 3 → a ≠ b → (TX3 a).2.1 ≠ (TX3 b).2.1 := by decide +kernel
theorem tyX3_ok : ∀ k, k < 3 → parseFieldDescriptor (TX3 k).2.2.1 = some (tyX3 k) := by decide +kernel
abbrev cX3_init : ByteArray := prog_5_method_1_code
def yX3_init : MethodName := ⟨RX3, "<init>", "()V"⟩
abbrev cX3_copyFrom : ByteArray := prog_5_method_2_code
def yX3_copyFrom : MethodName := ⟨RX3, "copyFrom", "(LYardYear$Laws;)V"⟩
abbrev cX3_has : ByteArray := prog_5_method_3_code
def yX3_has : MethodName := ⟨RX3, "has", "(I)Z"⟩
abbrev cX3_numbered : ByteArray := prog_5_method_4_code
def yX3_numbered : MethodName := ⟨RX3, "numbered", "(I)LYardYear$Text;"⟩
abbrev cX3_next : ByteArray := prog_5_method_5_code
def yX3_next : MethodName := ⟨RX3, "next", "()LYardYear$Text;"⟩
def RX4 : String := "YardYear$Packer"
def TX4 : u_T := fun k => match k with
  | 0 => ("YardYear$Packer", "digs", "[I", true)
  | 1 => ("YardYear$Packer", "load", "[I", true)
  | 2 => ("YardYear$Packer", "day", "[I", true)
  | 3 => ("YardYear$Packer", "plots", "I", false)
  | _ => ("YardYear$Packer", "light", "I", false)
def tyX4 : Nat → FieldType := fun k => match k with
  | 0 => .array .int
  | 1 => .array .int
  | 2 => .array .int
  | 3 => .int
  | _ => .int
abbrev wsX40 : List Cond := u_ws RX4 TX4 5
theorem nmX4 : ∀ a, a < 5 → ∀ b, b < 5 → a ≠ b → (TX4 a).2.1 ≠ (TX4 b).2.1 := by decide +kernel
theorem tyX4_ok : ∀ k, k < 5 → parseFieldDescriptor (TX4 k).2.2.1 = some (tyX4 k) := by decide +kernel
abbrev cX4_init : ByteArray := prog_6_method_1_code
def yX4_init : MethodName := ⟨RX4, "<init>", "()V"⟩
abbrev cX4_fewestDays : ByteArray := prog_6_method_2_code
def yX4_fewestDays : MethodName := ⟨RX4, "fewestDays", "(LYardYear$Yard;)I"⟩
abbrev cX4_fits : ByteArray := prog_6_method_3_code
def yX4_fits : MethodName := ⟨RX4, "fits", "(II)Z"⟩
def RX5 : String := "YardYear$Paper"
def TX5 : u_T := fun k => match k with
  | 0 => ("YardYear$Paper", "sheet", "LYardYear$Yard;", true)
  | 1 => ("YardYear$Paper", "ahead", "LYardYear$Yard;", true)
  | 2 => ("YardYear$Paper", "wall", "[I", true)
  | 3 => ("YardYear$Paper", "seen", "[I", true)
  | 4 => ("YardYear$Paper", "chance", "[J", true)
  | 5 => ("YardYear$Paper", "leastPrice", "J", false)
  | 6 => ("YardYear$Paper", "leastBits", "J", false)
  | 7 => ("YardYear$Paper", "bestCell", "I", false)
  | _ => ("YardYear$Paper", "bestNumber", "I", false)
def tyX5 : Nat → FieldType := fun k => match k with
  | 0 => .object "YardYear$Yard"
  | 1 => .object "YardYear$Yard"
  | 2 => .array .int
  | 3 => .array .int
  | 4 => .array .long
  | 5 => .long
  | 6 => .long
  | 7 => .int
  | _ => .int
abbrev wsX50 : List Cond := u_ws RX5 TX5 9
theorem nmX5 : ∀ a, a < 9 → ∀ b, b < 9 → a ≠ b → (TX5 a).2.1 ≠ (TX5 b).2.1 := by decide +kernel
theorem tyX5_ok : ∀ k, k < 9 → parseFieldDescriptor (TX5 k).2.2.1 = some (tyX5 k) := by decide +kernel
abbrev cX5_init : ByteArray := prog_7_method_1_code
def yX5_init : MethodName := ⟨RX5, "<init>", "()V"⟩
abbrev cX5_begin : ByteArray := prog_7_method_2_code
def yX5_begin : MethodName := ⟨RX5, "begin", "(LYardYear$Yard;)V"⟩
abbrev cX5_cellBehind : ByteArray := prog_7_method_3_code
def yX5_cellBehind : MethodName := ⟨RX5, "cellBehind", "(LYardYear$Yard;II)I"⟩
abbrev cX5_firstIndoors : ByteArray := prog_7_method_4_code
def yX5_firstIndoors : MethodName := ⟨RX5, "firstIndoors", "(LYardYear$Yard;)I"⟩
abbrev cX5_findWays : ByteArray := prog_7_method_5_code
def yX5_findWays : MethodName := ⟨RX5, "findWays", "(LYardYear$Yard;III)Z"⟩
abbrev cX5_listOpenWalls : ByteArray := prog_7_method_6_code
def yX5_listOpenWalls : MethodName := ⟨RX5, "listOpenWalls", "(LYardYear$Yard;)I"⟩
abbrev cX5_yearIn : ByteArray := prog_7_method_7_code
def yX5_yearIn : MethodName := ⟨RX5, "yearIn", "(III)I"⟩
abbrev cX5_meeting : ByteArray := prog_7_method_8_code
def yX5_meeting : MethodName := ⟨RX5, "meeting", "(LYardYear$Yard;II)I"⟩
abbrev cX5_findMeet : ByteArray := prog_7_method_9_code
def yX5_findMeet : MethodName := ⟨RX5, "findMeet", "(LYardYear$Yard;III)Z"⟩
abbrev cX5_yearBeside : ByteArray := prog_7_method_10_code
def yX5_yearBeside : MethodName := ⟨RX5, "yearBeside", "(LYardYear$Yard;IIII)I"⟩
abbrev cX5_hiddenCell : ByteArray := prog_7_method_11_code
def yX5_hiddenCell : MethodName := ⟨RX5, "hiddenCell", "(LYardYear$Yard;LYardYear$Finds;I)I"⟩
abbrev cX5_agrees : ByteArray := prog_7_method_12_code
def yX5_agrees : MethodName := ⟨RX5, "agrees", "(LYardYear$Yard;LYardYear$Finds;I)Z"⟩
abbrev cX5_findSpade : ByteArray := prog_7_method_13_code
def yX5_findSpade : MethodName := ⟨RX5, "findSpade", "(LYardYear$Yard;LYardYear$Finds;I)Z"⟩
abbrev cX5_seeBehind : ByteArray := prog_7_method_14_code
def yX5_seeBehind : MethodName := ⟨RX5, "seeBehind", "(LYardYear$Yard;II)V"⟩
abbrev cX5_movedBy : ByteArray := prog_7_method_15_code
def yX5_movedBy : MethodName := ⟨RX5, "movedBy", "(LYardYear$Yard;LYardYear$Text;I)I"⟩
abbrev cX5_chanceOf : ByteArray := prog_7_method_16_code
def yX5_chanceOf : MethodName := ⟨RX5, "chanceOf", "(LYardYear$Yard;III)J"⟩
abbrev cX5_yearsRound : ByteArray := prog_7_method_17_code
def yX5_yearsRound : MethodName := ⟨RX5, "yearsRound", "(LYardYear$Yard;I)I"⟩
def RX6 : String := "YardYear$Past"
def TX6 : u_T := fun k => match k with
  | 0 => ("YardYear$Past", "before", "[LYardYear$Yard;", true)
  | 1 => ("YardYear$Past", "act", "[I", true)
  | _ => ("YardYear$Past", "kept", "I", false)
def tyX6 : Nat → FieldType := fun k => match k with
  | 0 => .array (.object "YardYear$Yard")
  | 1 => .array .int
  | _ => .int
abbrev wsX60 : List Cond := u_ws RX6 TX6 3
theorem nmX6 : ∀ a, a < 3 → ∀ b, b < 3 → a ≠ b → (TX6 a).2.1 ≠ (TX6 b).2.1 := by decide +kernel
theorem tyX6_ok : ∀ k, k < 3 → parseFieldDescriptor (TX6 k).2.2.1 = some (tyX6 k) := by decide +kernel
abbrev cX6_init : ByteArray := prog_8_method_1_code
def yX6_init : MethodName := ⟨RX6, "<init>", "()V"⟩
abbrev cX6_copyFrom : ByteArray := prog_8_method_2_code
def yX6_copyFrom : MethodName := ⟨RX6, "copyFrom", "(LYardYear$Past;)V"⟩
abbrev cX6_keep : ByteArray := prog_8_method_3_code
def yX6_keep : MethodName := ⟨RX6, "keep", "(LYardYear$Yard;I)V"⟩
abbrev cX6_dropOldest : ByteArray := prog_8_method_4_code
def yX6_dropOldest : MethodName := ⟨RX6, "dropOldest", "()V"⟩
abbrev cX6_takeBack : ByteArray := prog_8_method_5_code
def yX6_takeBack : MethodName := ⟨RX6, "takeBack", "(LYardYear$Yard;)I"⟩
def RX7 : String := "YardYear$Reader"
def TX7 : u_T := fun k => match k with
  | 0 => ("YardYear$Reader", "tape", "[I", true)
  | 1 => ("YardYear$Reader", "ordered", "LYardYear$Text;", true)
  | 2 => ("YardYear$Reader", "taped", "I", false)
  | 3 => ("YardYear$Reader", "length", "I", false)
  | 4 => ("YardYear$Reader", "text", "LYardYear$Text;", false)
  | 5 => ("YardYear$Reader", "isOrders", "Z", false)
  | 6 => ("YardYear$Reader", "parts", "I", false)
  | 7 => ("YardYear$Reader", "from", "I", false)
  | 8 => ("YardYear$Reader", "to", "I", false)
  | 9 => ("YardYear$Reader", "sort", "I", false)
  | _ => ("YardYear$Reader", "number", "I", false)
def tyX7 : Nat → FieldType := fun k => match k with
  | 0 => .array .int
  | 1 => .object "YardYear$Text"
  | 2 => .int
  | 3 => .int
  | 4 => .object "YardYear$Text"
  | 5 => .boolean
  | 6 => .int
  | 7 => .int
  | 8 => .int
  | 9 => .int
  | _ => .int
abbrev wsX70 : List Cond := u_ws RX7 TX7 11
theorem nmX7 : ∀ a, a < 11 → ∀ b, b < 11 → a ≠ b → (TX7 a).2.1 ≠ (TX7 b).2.1 := by decide +kernel
theorem tyX7_ok : ∀ k, k < 11 → parseFieldDescriptor (TX7 k).2.2.1 = some (tyX7 k) := by decide +kernel
abbrev cX7_init : ByteArray := prog_9_method_1_code
def yX7_init : MethodName := ⟨RX7, "<init>", "()V"⟩
abbrev cX7_append : ByteArray := prog_9_method_2_code
def yX7_append : MethodName := ⟨RX7, "append", "(I)V"⟩
abbrev cX7_read : ByteArray := prog_9_method_3_code
def yX7_read : MethodName := ⟨RX7, "read", "(LYardYear$Text;Z)I"⟩
abbrev cX7_readClause : ByteArray := prog_9_method_4_code
def yX7_readClause : MethodName := ⟨RX7, "readClause", "()Z"⟩
abbrev cX7_readActs : ByteArray := prog_9_method_5_code
def yX7_readActs : MethodName := ⟨RX7, "readActs", "(II)Z"⟩
abbrev cX7_readWholeSum : ByteArray := prog_9_method_6_code
def yX7_readWholeSum : MethodName := ⟨RX7, "readWholeSum", "([II)Z"⟩
abbrev cX7_readTest : ByteArray := prog_9_method_7_code
def yX7_readTest : MethodName := ⟨RX7, "readTest", "(I)Z"⟩
abbrev cX7_readPlain : ByteArray := prog_9_method_8_code
def yX7_readPlain : MethodName := ⟨RX7, "readPlain", "(I)Z"⟩
abbrev cX7_readSum : ByteArray := prog_9_method_9_code
def yX7_readSum : MethodName := ⟨RX7, "readSum", "(I)Z"⟩
abbrev cX7_readPart : ByteArray := prog_9_method_10_code
def yX7_readPart : MethodName := ⟨RX7, "readPart", "(I)Z"⟩
abbrev cX7_placeOf : ByteArray := prog_9_method_11_code
def yX7_placeOf : MethodName := ⟨RX7, "placeOf", "(I)I"⟩
abbrev cX7_advance : ByteArray := prog_9_method_12_code
def yX7_advance : MethodName := ⟨RX7, "advance", "()V"⟩
abbrev cX7_isSign : ByteArray := prog_9_method_13_code
def yX7_isSign : MethodName := ⟨RX7, "isSign", "(I)Z"⟩
abbrev cX7_signIn : ByteArray := prog_9_method_14_code
def yX7_signIn : MethodName := ⟨RX7, "signIn", "(Ljava/lang/String;)I"⟩
abbrev cX7_isWord : ByteArray := prog_9_method_15_code
def yX7_isWord : MethodName := ⟨RX7, "isWord", "(Ljava/lang/String;)Z"⟩
abbrev cX7_wordIn : ByteArray := prog_9_method_16_code
def yX7_wordIn : MethodName := ⟨RX7, "wordIn", "(Ljava/lang/String;)I"⟩
def RX8 : String := "YardYear$Sexton"
def TX8 : u_T := fun k => match k with
  | 0 => ("YardYear$Sexton", "yard", "LYardYear$Yard;", true)
  | 1 => ("YardYear$Sexton", "past", "LYardYear$Past;", true)
  | 2 => ("YardYear$Sexton", "yardAhead", "LYardYear$Yard;", true)
  | 3 => ("YardYear$Sexton", "pastAhead", "LYardYear$Past;", true)
  | 4 => ("YardYear$Sexton", "words", "[I", true)
  | 5 => ("YardYear$Sexton", "heldAhead", "I", false)
  | 6 => ("YardYear$Sexton", "latestHeld", "I", false)
  | 7 => ("YardYear$Sexton", "latestMoved", "I", false)
  | 8 => ("YardYear$Sexton", "done", "I", false)
  | _ => ("YardYear$Sexton", "stoppedAt", "I", false)
def tyX8 : Nat → FieldType := fun k => match k with
  | 0 => .object "YardYear$Yard"
  | 1 => .object "YardYear$Past"
  | 2 => .object "YardYear$Yard"
  | 3 => .object "YardYear$Past"
  | 4 => .array .int
  | 5 => .int
  | 6 => .int
  | 7 => .int
  | 8 => .int
  | _ => .int
abbrev wsX80 : List Cond := u_ws RX8 TX8 10
theorem nmX8 : ∀ a, a < 10 → ∀ b, b < 10 → a ≠ b → (TX8 a).2.1 ≠ (TX8 b).2.1 := by decide +kernel
theorem tyX8_ok : ∀ k, k < 10 → parseFieldDescriptor (TX8 k).2.2.1 = some (tyX8 k) := by decide +kernel
abbrev cX8_init : ByteArray := prog_10_method_1_code
def yX8_init : MethodName := ⟨RX8, "<init>", "()V"⟩
abbrev cX8_layDown : ByteArray := prog_10_method_2_code
def yX8_layDown : MethodName := ⟨RX8, "layDown", "(III)I"⟩
abbrev cX8_purchase : ByteArray := prog_10_method_3_code
def yX8_purchase : MethodName := ⟨RX8, "purchase", "(I)I"⟩
abbrev cX8_takeUp : ByteArray := prog_10_method_4_code
def yX8_takeUp : MethodName := ⟨RX8, "takeUp", "(I)I"⟩
abbrev cX8_bringYear : ByteArray := prog_10_method_5_code
def yX8_bringYear : MethodName := ⟨RX8, "bringYear", "()I"⟩
abbrev cX8_beginOrders : ByteArray := prog_10_method_6_code
def yX8_beginOrders : MethodName := ⟨RX8, "beginOrders", "()V"⟩
abbrev cX8_giveUpOrders : ByteArray := prog_10_method_7_code
def yX8_giveUpOrders : MethodName := ⟨RX8, "giveUpOrders", "(I)V"⟩
abbrev cX8_obey : ByteArray := prog_10_method_8_code
def yX8_obey : MethodName := ⟨RX8, "obey", "(LYardYear$Text;I)I"⟩
abbrev cX8_tell : ByteArray := prog_10_method_9_code
def yX8_tell : MethodName := ⟨RX8, "tell", "()V"⟩
def RX9 : String := "YardYear$Text"
def TX9 : u_T := fun k => match k with
  | 0 => ("YardYear$Text", "clauses", "I", false)
  | 1 => ("YardYear$Text", "verb", "[I", true)
  | 2 => ("YardYear$Text", "times", "[I", true)
  | 3 => ("YardYear$Text", "first", "[I", true)
  | 4 => ("YardYear$Text", "second", "[I", true)
  | 5 => ("YardYear$Text", "test", "[I", true)
  | 6 => ("YardYear$Text", "step", "[I", true)
  | 7 => ("YardYear$Text", "operand", "[I", true)
  | 8 => ("YardYear$Text", "steps", "I", false)
  | _ => ("YardYear$Text", "stack", "[J", true)
def tyX9 : Nat → FieldType := fun k => match k with
  | 0 => .int
  | 1 => .array .int
  | 2 => .array .int
  | 3 => .array .int
  | 4 => .array .int
  | 5 => .array .int
  | 6 => .array .int
  | 7 => .array .int
  | 8 => .int
  | _ => .array .long
abbrev wsX90 : List Cond := u_ws RX9 TX9 10
theorem nmX9 : ∀ a, a < 10 → ∀ b, b < 10 → a ≠ b → (TX9 a).2.1 ≠ (TX9 b).2.1 := by decide +kernel
theorem tyX9_ok : ∀ k, k < 10 → parseFieldDescriptor (TX9 k).2.2.1 = some (tyX9 k) := by decide +kernel
abbrev cX9_init : ByteArray := prog_11_method_1_code
def yX9_init : MethodName := ⟨RX9, "<init>", "()V"⟩
abbrev cX9_copyFrom : ByteArray := prog_11_method_2_code
def yX9_copyFrom : MethodName := ⟨RX9, "copyFrom", "(LYardYear$Text;)V"⟩
abbrev cX9_clear : ByteArray := prog_11_method_3_code
def yX9_clear : MethodName := ⟨RX9, "clear", "()V"⟩
abbrev cX9_open : ByteArray := prog_11_method_4_code
def yX9_open : MethodName := ⟨RX9, "open", "(I)V"⟩
abbrev cX9_emit : ByteArray := prog_11_method_5_code
def yX9_emit : MethodName := ⟨RX9, "emit", "(II)I"⟩
abbrev cX9_land : ByteArray := prog_11_method_6_code
def yX9_land : MethodName := ⟨RX9, "land", "(I)V"⟩
abbrev cX9_has : ByteArray := prog_11_method_7_code
def yX9_has : MethodName := ⟨RX9, "has", "(I)Z"⟩
abbrev cX9_holds : ByteArray := prog_11_method_8_code
def yX9_holds : MethodName := ⟨RX9, "holds", "(I[I)Z"⟩
abbrev cX9_last : ByteArray := prog_11_method_9_code
def yX9_last : MethodName := ⟨RX9, "last", "(I[I)I"⟩
abbrev cX9_value : ByteArray := prog_11_method_10_code
def yX9_value : MethodName := ⟨RX9, "value", "(I[I)I"⟩
abbrev cX9_combine : ByteArray := prog_11_method_11_code
def yX9_combine : MethodName := ⟨RX9, "combine", "(II)Z"⟩
def RX10 : String := "YardYear$Yard"
def TX10 : u_T := fun k => match k with
  | 0 => ("YardYear$Yard", "kind", "[I", true)
  | 1 => ("YardYear$Yard", "price", "[I", true)
  | 2 => ("YardYear$Yard", "bought", "[I", true)
  | 3 => ("YardYear$Yard", "cell", "[I", true)
  | 4 => ("YardYear$Yard", "family", "[I", true)
  | 5 => ("YardYear$Yard", "small", "[I", true)
  | 6 => ("YardYear$Yard", "years", "[I", true)
  | 7 => ("YardYear$Yard", "term", "[I", true)
  | 8 => ("YardYear$Yard", "words", "[I", true)
  | 9 => ("YardYear$Yard", "law", "LYardYear$Text;", false)
  | 10 => ("YardYear$Yard", "plots", "I", false)
  | 11 => ("YardYear$Yard", "moved", "I", false)
  | _ => ("YardYear$Yard", "held", "I", false)
def tyX10 : Nat → FieldType := fun k => match k with
  | 0 => .array .int
  | 1 => .array .int
  | 2 => .array .int
  | 3 => .array .int
  | 4 => .array .int
  | 5 => .array .int
  | 6 => .array .int
  | 7 => .array .int
  | 8 => .array .int
  | 9 => .object "YardYear$Text"
  | 10 => .int
  | 11 => .int
  | _ => .int
abbrev wsX100 : List Cond := u_ws RX10 TX10 13
theorem nmX10 : ∀ a, a < 13 → ∀ b, b < 13 → a ≠ b → (TX10 a).2.1 ≠ (TX10 b).2.1 := by decide +kernel
theorem tyX10_ok : ∀ k, k < 13 → parseFieldDescriptor (TX10 k).2.2.1 = some (tyX10 k) := by decide +kernel
abbrev cX10_init : ByteArray := prog_12_method_1_code
def yX10_init : MethodName := ⟨RX10, "<init>", "()V"⟩
abbrev cX10_copyFrom : ByteArray := prog_12_method_2_code
def yX10_copyFrom : MethodName := ⟨RX10, "copyFrom", "(LYardYear$Yard;)V"⟩
abbrev cX10_hasPlot : ByteArray := prog_12_method_3_code
def yX10_hasPlot : MethodName := ⟨RX10, "hasPlot", "(I)Z"⟩
abbrev cX10_plotIn : ByteArray := prog_12_method_4_code
def yX10_plotIn : MethodName := ⟨RX10, "plotIn", "(I)I"⟩
abbrev cX10_walls : ByteArray := prog_12_method_5_code
def yX10_walls : MethodName := ⟨RX10, "walls", "()I"⟩
abbrev cX10_purchases : ByteArray := prog_12_method_6_code
def yX10_purchases : MethodName := ⟨RX10, "purchases", "()I"⟩
abbrev cX10_fact : ByteArray := prog_12_method_7_code
def yX10_fact : MethodName := ⟨RX10, "fact", "(II)I"⟩
abbrev cX10_mayWrite : ByteArray := prog_12_method_8_code
def yX10_mayWrite : MethodName := ⟨RX10, "mayWrite", "(III)Z"⟩
abbrev cX10_write : ByteArray := prog_12_method_9_code
def yX10_write : MethodName := ⟨RX10, "write", "(III)V"⟩
abbrev cX10_writeCell : ByteArray := prog_12_method_10_code
def yX10_writeCell : MethodName := ⟨RX10, "writeCell", "(III)Z"⟩
abbrev cX10_tell : ByteArray := prog_12_method_11_code
def yX10_tell : MethodName := ⟨RX10, "tell", "(III)V"⟩
abbrev cX10_movesOf : ByteArray := prog_12_method_12_code
def yX10_movesOf : MethodName := ⟨RX10, "movesOf", "(I)I"⟩
abbrev cX10_digsOf : ByteArray := prog_12_method_13_code
def yX10_digsOf : MethodName := ⟨RX10, "digsOf", "(I)I"⟩
abbrev cX10_mayGo : ByteArray := prog_12_method_14_code
def yX10_mayGo : MethodName := ⟨RX10, "mayGo", "(II)Z"⟩
abbrev cX10_isBarred : ByteArray := prog_12_method_15_code
def yX10_isBarred : MethodName := ⟨RX10, "isBarred", "(II)Z"⟩
abbrev cX10_isFreeGrass : ByteArray := prog_12_method_16_code
def yX10_isFreeGrass : MethodName := ⟨RX10, "isFreeGrass", "(I)Z"⟩
abbrev cX10_isOpenTo : ByteArray := prog_12_method_17_code
def yX10_isOpenTo : MethodName := ⟨RX10, "isOpenTo", "(II)Z"⟩
abbrev cX10_isAnyInWall : ByteArray := prog_12_method_18_code
def yX10_isAnyInWall : MethodName := ⟨RX10, "isAnyInWall", "()Z"⟩
abbrev cX10_areBeside : ByteArray := prog_12_method_19_code
def yX10_areBeside : MethodName := ⟨RX10, "areBeside", "(II)Z"⟩
abbrev cX10_add : ByteArray := prog_12_method_20_code
def yX10_add : MethodName := ⟨RX10, "add", "(III)V"⟩
abbrev cX10_remove : ByteArray := prog_12_method_21_code
def yX10_remove : MethodName := ⟨RX10, "remove", "(I)V"⟩
abbrev cX10_turnYear : ByteArray := prog_12_method_22_code
def yX10_turnYear : MethodName := ⟨RX10, "turnYear", "()V"⟩
abbrev cX10_age : ByteArray := prog_12_method_23_code
def yX10_age : MethodName := ⟨RX10, "age", "()V"⟩
def RX11 : String := "YardYear"
def TX11 : u_T := fun k => match k with
  | 0 => ("YardYear", "sexton", "LYardYear$Sexton;", true)
  | 1 => ("YardYear", "yard", "LYardYear$Yard;", true)
  | 2 => ("YardYear", "past", "LYardYear$Past;", true)
  | 3 => ("YardYear", "finds", "LYardYear$Finds;", true)
  | 4 => ("YardYear", "laws", "LYardYear$Laws;", true)
  | 5 => ("YardYear", "images", "[LYardYear$Image;", true)
  | 6 => ("YardYear", "paper", "LYardYear$Paper;", true)
  | 7 => ("YardYear", "packer", "LYardYear$Packer;", true)
  | 8 => ("YardYear", "draws", "LYardYear$Draws;", true)
  | 9 => ("YardYear", "reader", "LYardYear$Reader;", true)
  | 10 => ("YardYear", "refusals", "[I", true)
  | 11 => ("YardYear", "moleCount", "I", false)
  | 12 => ("YardYear", "faultPlace", "I", false)
  | _ => ("YardYear", "latestRefusal", "I", false)
def tyX11 : Nat → FieldType := fun k => match k with
  | 0 => .object "YardYear$Sexton"
  | 1 => .object "YardYear$Yard"
  | 2 => .object "YardYear$Past"
  | 3 => .object "YardYear$Finds"
  | 4 => .object "YardYear$Laws"
  | 5 => .array (.object "YardYear$Image")
  | 6 => .object "YardYear$Paper"
  | 7 => .object "YardYear$Packer"
  | 8 => .object "YardYear$Draws"
  | 9 => .object "YardYear$Reader"
  | 10 => .array .int
  | 11 => .int
  | 12 => .int
  | _ => .int
abbrev wsX110 : List Cond := u_ws RX11 TX11 14
theorem nmX11 : ∀ a, a < 14 → ∀ b, b < 14 → a ≠ b → (TX11 a).2.1 ≠ (TX11 b).2.1 := by decide +kernel
theorem tyX11_ok : ∀ k, k < 14 → parseFieldDescriptor (TX11 k).2.2.1 = some (tyX11 k) := by decide +kernel
abbrev cX11_init : ByteArray := prog_1_method_1_code
def yX11_init : MethodName := ⟨RX11, "<init>", "()V"⟩
abbrev cX11_put : ByteArray := prog_1_method_2_code
def yX11_put : MethodName := ⟨RX11, "put", "(III)I"⟩
abbrev cX11_at : ByteArray := prog_1_method_3_code
def yX11_at : MethodName := ⟨RX11, "at", "(II)I"⟩
abbrev cX11_of : ByteArray := prog_1_method_4_code
def yX11_of : MethodName := ⟨RX11, "of", "(II)I"⟩
abbrev cX11_goes : ByteArray := prog_1_method_5_code
def yX11_goes : MethodName := ⟨RX11, "goes", "(II)I"⟩
abbrev cX11_barred : ByteArray := prog_1_method_6_code
def yX11_barred : MethodName := ⟨RX11, "barred", "(II)I"⟩
abbrev cX11_terms : ByteArray := prog_1_method_7_code
def yX11_terms : MethodName := ⟨RX11, "terms", "(II)I"⟩
abbrev cX11_feed : ByteArray := prog_1_method_8_code
def yX11_feed : MethodName := ⟨RX11, "feed", "(IIIII)I"⟩
abbrev cX11_end : ByteArray := prog_1_method_9_code
def yX11_end : MethodName := ⟨RX11, "end", "(I)I"⟩
abbrev cX11_row : ByteArray := prog_1_method_10_code
def yX11_row : MethodName := ⟨RX11, "row", "()I"⟩
abbrev cX11_moles : ByteArray := prog_1_method_11_code
def yX11_moles : MethodName := ⟨RX11, "moles", "()I"⟩
abbrev cX11_law : ByteArray := prog_1_method_12_code
def yX11_law : MethodName := ⟨RX11, "law", "()I"⟩
abbrev cX11_orders : ByteArray := prog_1_method_13_code
def yX11_orders : MethodName := ⟨RX11, "orders", "()I"⟩
abbrev cX11_fault : ByteArray := prog_1_method_14_code
def yX11_fault : MethodName := ⟨RX11, "fault", "()I"⟩
abbrev cX11_stopped : ByteArray := prog_1_method_15_code
def yX11_stopped : MethodName := ⟨RX11, "stopped", "()I"⟩
abbrev cX11_force : ByteArray := prog_1_method_16_code
def yX11_force : MethodName := ⟨RX11, "force", "(I)I"⟩
abbrev cX11_bury : ByteArray := prog_1_method_17_code
def yX11_bury : MethodName := ⟨RX11, "bury", "(III)I"⟩
abbrev cX11_buy : ByteArray := prog_1_method_18_code
def yX11_buy : MethodName := ⟨RX11, "buy", "(I)I"⟩
abbrev cX11_raise : ByteArray := prog_1_method_19_code
def yX11_raise : MethodName := ⟨RX11, "raise", "(I)I"⟩
abbrev cX11_pass : ByteArray := prog_1_method_20_code
def yX11_pass : MethodName := ⟨RX11, "pass", "()I"⟩
abbrev cX11_blocked : ByteArray := prog_1_method_21_code
def yX11_blocked : MethodName := ⟨RX11, "blocked", "()I"⟩
abbrev cX11_undo : ByteArray := prog_1_method_22_code
def yX11_undo : MethodName := ⟨RX11, "undo", "()I"⟩
abbrev cX11_where : ByteArray := prog_1_method_23_code
def yX11_where : MethodName := ⟨RX11, "where", "(II)I"⟩
abbrev cX11_indoors : ByteArray := prog_1_method_24_code
def yX11_indoors : MethodName := ⟨RX11, "indoors", "()I"⟩
abbrev cX11_ways : ByteArray := prog_1_method_25_code
def yX11_ways : MethodName := ⟨RX11, "ways", "(IIII)J"⟩
abbrev cX11_packed : ByteArray := prog_1_method_26_code
def yX11_packed : MethodName := ⟨RX11, "packed", "(I)I"⟩
abbrev cX11_meets : ByteArray := prog_1_method_27_code
def yX11_meets : MethodName := ⟨RX11, "meets", "(II)I"⟩
abbrev cX11_meet : ByteArray := prog_1_method_28_code
def yX11_meet : MethodName := ⟨RX11, "meet", "(IIII)I"⟩
abbrev cX11_find : ByteArray := prog_1_method_29_code
def yX11_find : MethodName := ⟨RX11, "find", "(III)I"⟩
abbrev cX11_forget : ByteArray := prog_1_method_30_code
def yX11_forget : MethodName := ⟨RX11, "forget", "()I"⟩
abbrev cX11_hidden : ByteArray := prog_1_method_31_code
def yX11_hidden : MethodName := ⟨RX11, "hidden", "(I)I"⟩
abbrev cX11_spade : ByteArray := prog_1_method_32_code
def yX11_spade : MethodName := ⟨RX11, "spade", "(II)I"⟩
abbrev cX11_compare : ByteArray := prog_1_method_33_code
def yX11_compare : MethodName := ⟨RX11, "compare", "(II)I"⟩
abbrev cX11_arrives : ByteArray := prog_1_method_34_code
def yX11_arrives : MethodName := ⟨RX11, "arrives", "(III)J"⟩
abbrev cX11_round : ByteArray := prog_1_method_35_code
def yX11_round : MethodName := ⟨RX11, "round", "(I)I"⟩
abbrev cX11_centuries : ByteArray := prog_1_method_36_code
def yX11_centuries : MethodName := ⟨RX11, "centuries", "(II)I"⟩
abbrev cX11_drawn : ByteArray := prog_1_method_37_code
def yX11_drawn : MethodName := ⟨RX11, "drawn", "(II)I"⟩
abbrev cX11_image : ByteArray := prog_1_method_38_code
def yX11_image : MethodName := ⟨RX11, "image", "(I)I"⟩
abbrev cX11_back : ByteArray := prog_1_method_39_code
def yX11_back : MethodName := ⟨RX11, "back", "(I)I"⟩
abbrev cX11_count : ByteArray := prog_1_method_40_code
def yX11_count : MethodName := ⟨RX11, "count", "(I)I"⟩
abbrev cX11_status : ByteArray := prog_1_method_41_code
def yX11_status : MethodName := ⟨RX11, "status", "()I"⟩
abbrev cX11_granted : ByteArray := prog_1_method_42_code
def yX11_granted : MethodName := ⟨RX11, "granted", "(I)I"⟩
abbrev cX11_refused : ByteArray := prog_1_method_43_code
def yX11_refused : MethodName := ⟨RX11, "refused", "(I)I"⟩
abbrev cX11_answered : ByteArray := prog_1_method_44_code
def yX11_answered : MethodName := ⟨RX11, "answered", "(I)I"⟩
abbrev cX11_isWithin : ByteArray := prog_1_method_45_code
def yX11_isWithin : MethodName := ⟨RX11, "isWithin", "(III)Z"⟩
abbrev cX11_isCell : ByteArray := prog_1_method_46_code
def yX11_isCell : MethodName := ⟨RX11, "isCell", "(I)Z"⟩
abbrev cX11_isFamily : ByteArray := prog_1_method_47_code
def yX11_isFamily : MethodName := ⟨RX11, "isFamily", "(I)Z"⟩
abbrev cX11_isYesNo : ByteArray := prog_1_method_48_code
def yX11_isYesNo : MethodName := ⟨RX11, "isYesNo", "(I)Z"⟩
abbrev cX11_isFact : ByteArray := prog_1_method_49_code
def yX11_isFact : MethodName := ⟨RX11, "isFact", "(II)Z"⟩
abbrev cX11_isTerm : ByteArray := prog_1_method_50_code
def yX11_isTerm : MethodName := ⟨RX11, "isTerm", "(II)Z"⟩
def RX12 : String := "YardYearModel"
def TX12 : u_T := fun k => match k with
  | 0 => ("YardYearModel", "thrown", "I", false)
  | 1 => ("YardYearModel", "status", "I", false)
  | 2 => ("YardYearModel", "refusals", "[I", true)
  | 3 => ("YardYearModel", "row", "[I", true)
  | 4 => ("YardYearModel", "images", "[I", true)
  | 5 => ("YardYearModel", "isKept", "[Z", true)
  | 6 => ("YardYearModel", "undos", "[I", true)
  | 7 => ("YardYearModel", "sorts", "[I", true)
  | 8 => ("YardYearModel", "nUndo", "I", false)
  | 9 => ("YardYearModel", "undosBefore", "[I", true)
  | 10 => ("YardYearModel", "sortsBefore", "[I", true)
  | 11 => ("YardYearModel", "moles", "I", false)
  | 12 => ("YardYearModel", "tape", "[I", true)
  | 13 => ("YardYearModel", "taped", "I", false)
  | 14 => ("YardYearModel", "from", "I", false)
  | 15 => ("YardYearModel", "to", "I", false)
  | 16 => ("YardYearModel", "sort", "I", false)
  | 17 => ("YardYearModel", "worth", "J", false)
  | 18 => ("YardYearModel", "fault", "I", false)
  | 19 => ("YardYearModel", "bad", "Z", false)
  | 20 => ("YardYearModel", "ordered", "Z", false)
  | 21 => ("YardYearModel", "nClauses", "I", false)
  | 22 => ("YardYearModel", "nClause", "[I", true)
  | 23 => ("YardYearModel", "nCode", "I", false)
  | 24 => ("YardYearModel", "nOp", "[I", true)
  | 25 => ("YardYearModel", "nArg", "[I", true)
  | 26 => ("YardYearModel", "nLeaves", "I", false)
  | 27 => ("YardYearModel", "pile", "[I", true)
  | 28 => ("YardYearModel", "pileAt", "[I", true)
  | 29 => ("YardYearModel", "piled", "I", false)
  | 30 => ("YardYearModel", "opened", "I", false)
  | 31 => ("YardYearModel", "words", "[J", true)
  | 32 => ("YardYearModel", "orderWords", "[J", true)
  | 33 => ("YardYearModel", "heads", "[J", true)
  | 34 => ("YardYearModel", "law", "I", false)
  | 35 => ("YardYearModel", "set", "[J", true)
  | 36 => ("YardYearModel", "now", "[J", true)
  | 37 => ("YardYearModel", "rest", "[J", true)
  | 38 => ("YardYearModel", "broken", "Z", false)
  | 39 => ("YardYearModel", "value", "J", false)
  | 40 => ("YardYearModel", "sum", "J", false)
  | 41 => ("YardYearModel", "gone", "[I", true)
  | 42 => ("YardYearModel", "stuck", "I", false)
  | 43 => ("YardYearModel", "blocked", "I", false)
  | 44 => ("YardYearModel", "walls", "[I", true)
  | 45 => ("YardYearModel", "parts", "[J", true)
  | 46 => ("YardYearModel", "digs", "[I", true)
  | 47 => ("YardYearModel", "dayOf", "[I", true)
  | 48 => ("YardYearModel", "load", "[I", true)
  | 49 => ("YardYearModel", "daysUsed", "[I", true)
  | 50 => ("YardYearModel", "were", "[Z", true)
  | 51 => ("YardYearModel", "covered", "[I", true)
  | 52 => ("YardYearModel", "acts", "[J", true)
  | 53 => ("YardYearModel", "nOrder", "[I", true)
  | 54 => ("YardYearModel", "done", "I", false)
  | 55 => ("YardYearModel", "moved", "I", false)
  | 56 => ("YardYearModel", "stopped", "I", false)
  | 57 => ("YardYearModel", "off", "Z", false)
  | 58 => ("YardYearModel", "state", "J", false)
  | 59 => ("YardYearModel", "drawn", "[I", true)
  | _ => ("YardYearModel", "nDrawn", "I", false)
def tyX12 : Nat → FieldType := fun k => match k with
  | 0 => .int
  | 1 => .int
  | 2 => .array .int
  | 3 => .array .int
  | 4 => .array .int
  | 5 => .array .boolean
  | 6 => .array .int
  | 7 => .array .int
  | 8 => .int
  | 9 => .array .int
  | 10 => .array .int
  | 11 => .int
  | 12 => .array .int
  | 13 => .int
  | 14 => .int
  | 15 => .int
  | 16 => .int
  | 17 => .long
  | 18 => .int
  | 19 => .boolean
  | 20 => .boolean
  | 21 => .int
  | 22 => .array .int
  | 23 => .int
  | 24 => .array .int
  | 25 => .array .int
  | 26 => .int
  | 27 => .array .int
  | 28 => .array .int
  | 29 => .int
  | 30 => .int
  | 31 => .array .long
  | 32 => .array .long
  | 33 => .array .long
  | 34 => .int
  | 35 => .array .long
  | 36 => .array .long
  | 37 => .array .long
  | 38 => .boolean
  | 39 => .long
  | 40 => .long
  | 41 => .array .int
  | 42 => .int
  | 43 => .int
  | 44 => .array .int
  | 45 => .array .long
  | 46 => .array .int
  | 47 => .array .int
  | 48 => .array .int
  | 49 => .array .int
  | 50 => .array .boolean
  | 51 => .array .int
  | 52 => .array .long
  | 53 => .array .int
  | 54 => .int
  | 55 => .int
  | 56 => .int
  | 57 => .boolean
  | 58 => .long
  | 59 => .array .int
  | _ => .int
abbrev wsX120 : List Cond := u_ws RX12 TX12 61
theorem nmX12 : ∀ a, a < 61 → ∀ b, b < 61 → a ≠ b → (TX12 a).2.1 ≠ (TX12 b).2.1 := by decide +kernel
theorem tyX12_ok : ∀ k, k < 61 → parseFieldDescriptor (TX12 k).2.2.1 = some (tyX12 k) := by decide +kernel
abbrev cX12_init : ByteArray := prog_14_method_1_code
def yX12_init : MethodName := ⟨RX12, "<init>", "()V"⟩
abbrev cX12_in : ByteArray := prog_14_method_3_code
def yX12_in : MethodName := ⟨RX12, "in", "(JJJ)Z"⟩
abbrev cX12_within : ByteArray := prog_14_method_4_code
def yX12_within : MethodName := ⟨RX12, "within", "(JII)I"⟩
abbrev cX12_tell : ByteArray := prog_14_method_5_code
def yX12_tell : MethodName := ⟨RX12, "tell", "(I)I"⟩
abbrev cX12_change : ByteArray := prog_14_method_6_code
def yX12_change : MethodName := ⟨RX12, "change", "(II)I"⟩
abbrev cX12_keepAll : ByteArray := prog_14_method_7_code
def yX12_keepAll : MethodName := ⟨RX12, "keepAll", "(I)V"⟩
abbrev cX12_putBack : ByteArray := prog_14_method_8_code
def yX12_putBack : MethodName := ⟨RX12, "putBack", "(I)V"⟩
abbrev cX12_remember : ByteArray := prog_14_method_9_code
def yX12_remember : MethodName := ⟨RX12, "remember", "(I)V"⟩
abbrev cX12_undo : ByteArray := prog_14_method_10_code
def yX12_undo : MethodName := ⟨RX12, "undo", "()I"⟩
abbrev cX12_image : ByteArray := prog_14_method_11_code
def yX12_image : MethodName := ⟨RX12, "image", "(I)I"⟩
abbrev cX12_back : ByteArray := prog_14_method_12_code
def yX12_back : MethodName := ⟨RX12, "back", "(I)I"⟩
abbrev cX12_term : ByteArray := prog_14_method_13_code
def yX12_term : MethodName := ⟨RX12, "term", "(I)I"⟩
abbrev cX12_isCell : ByteArray := prog_14_method_14_code
def yX12_isCell : MethodName := ⟨RX12, "isCell", "(I)Z"⟩
abbrev cX12_isPlot : ByteArray := prog_14_method_15_code
def yX12_isPlot : MethodName := ⟨RX12, "isPlot", "(I)Z"⟩
abbrev cX12_plotIn : ByteArray := prog_14_method_16_code
def yX12_plotIn : MethodName := ⟨RX12, "plotIn", "(I)I"⟩
abbrev cX12_isSolid : ByteArray := prog_14_method_17_code
def yX12_isSolid : MethodName := ⟨RX12, "isSolid", "(I)Z"⟩
abbrev cX12_canBe : ByteArray := prog_14_method_18_code
def yX12_canBe : MethodName := ⟨RX12, "canBe", "(II)Z"⟩
abbrev cX12_setKind : ByteArray := prog_14_method_19_code
def yX12_setKind : MethodName := ⟨RX12, "setKind", "(II)V"⟩
abbrev cX12_put : ByteArray := prog_14_method_20_code
def yX12_put : MethodName := ⟨RX12, "put", "(III)I"⟩
abbrev cX12_at : ByteArray := prog_14_method_21_code
def yX12_at : MethodName := ⟨RX12, "at", "(II)I"⟩
abbrev cX12_of : ByteArray := prog_14_method_22_code
def yX12_of : MethodName := ⟨RX12, "of", "(II)I"⟩
abbrev cX12_terms : ByteArray := prog_14_method_23_code
def yX12_terms : MethodName := ⟨RX12, "terms", "(II)I"⟩
abbrev cX12_row : ByteArray := prog_14_method_24_code
def yX12_row : MethodName := ⟨RX12, "row", "()I"⟩
abbrev cX12_moles : ByteArray := prog_14_method_25_code
def yX12_moles : MethodName := ⟨RX12, "moles", "()I"⟩
abbrev cX12_four : ByteArray := prog_14_method_26_code
def yX12_four : MethodName := ⟨RX12, "four", "(I)V"⟩
abbrev cX12_feed : ByteArray := prog_14_method_27_code
def yX12_feed : MethodName := ⟨RX12, "feed", "(IIIII)I"⟩
abbrev cX12_end : ByteArray := prog_14_method_28_code
def yX12_end : MethodName := ⟨RX12, "end", "(I)I"⟩
abbrev cX12_isSmall : ByteArray := prog_14_method_29_code
def yX12_isSmall : MethodName := ⟨RX12, "isSmall", "(I)Z"⟩
abbrev cX12_isDigit : ByteArray := prog_14_method_30_code
def yX12_isDigit : MethodName := ⟨RX12, "isDigit", "(I)Z"⟩
abbrev cX12_begin : ByteArray := prog_14_method_31_code
def yX12_begin : MethodName := ⟨RX12, "begin", "()V"⟩
abbrev cX12_next : ByteArray := prog_14_method_32_code
def yX12_next : MethodName := ⟨RX12, "next", "()V"⟩
abbrev cX12_isWord : ByteArray := prog_14_method_33_code
def yX12_isWord : MethodName := ⟨RX12, "isWord", "(J)Z"⟩
abbrev cX12_isSign : ByteArray := prog_14_method_34_code
def yX12_isSign : MethodName := ⟨RX12, "isSign", "(I)Z"⟩
abbrev cX12_must : ByteArray := prog_14_method_35_code
def yX12_must : MethodName := ⟨RX12, "must", "(Z)V"⟩
abbrev cX12_number : ByteArray := prog_14_method_36_code
def yX12_number : MethodName := ⟨RX12, "number", "(JJ)I"⟩
abbrev cX12_fault : ByteArray := prog_14_method_37_code
def yX12_fault : MethodName := ⟨RX12, "fault", "()I"⟩
abbrev cX12_emit : ByteArray := prog_14_method_38_code
def yX12_emit : MethodName := ⟨RX12, "emit", "(II)V"⟩
abbrev cX12_push : ByteArray := prog_14_method_39_code
def yX12_push : MethodName := ⟨RX12, "push", "(II)V"⟩
abbrev cX12_binds : ByteArray := prog_14_method_40_code
def yX12_binds : MethodName := ⟨RX12, "binds", "(I)I"⟩
abbrev cX12_settle : ByteArray := prog_14_method_41_code
def yX12_settle : MethodName := ⟨RX12, "settle", "(I)V"⟩
abbrev cX12_inner : ByteArray := prog_14_method_42_code
def yX12_inner : MethodName := ⟨RX12, "inner", "()I"⟩
abbrev cX12_isCompared : ByteArray := prog_14_method_43_code
def yX12_isCompared : MethodName := ⟨RX12, "isCompared", "()Z"⟩
abbrev cX12_partAt : ByteArray := prog_14_method_44_code
def yX12_partAt : MethodName := ⟨RX12, "partAt", "()I"⟩
abbrev cX12_orderPartAt : ByteArray := prog_14_method_45_code
def yX12_orderPartAt : MethodName := ⟨RX12, "orderPartAt", "()I"⟩
abbrev cX12_openBracket : ByteArray := prog_14_method_46_code
def yX12_openBracket : MethodName := ⟨RX12, "openBracket", "(I)V"⟩
abbrev cX12_leaf : ByteArray := prog_14_method_47_code
def yX12_leaf : MethodName := ⟨RX12, "leaf", "(ZII)V"⟩
abbrev cX12_readPart : ByteArray := prog_14_method_48_code
def yX12_readPart : MethodName := ⟨RX12, "readPart", "()I"⟩
abbrev cX12_readPlain : ByteArray := prog_14_method_49_code
def yX12_readPlain : MethodName := ⟨RX12, "readPlain", "()I"⟩
abbrev cX12_behindSum : ByteArray := prog_14_method_50_code
def yX12_behindSum : MethodName := ⟨RX12, "behindSum", "(Z)I"⟩
abbrev cX12_behindTest : ByteArray := prog_14_method_51_code
def yX12_behindTest : MethodName := ⟨RX12, "behindTest", "()I"⟩
abbrev cX12_readExpression : ByteArray := prog_14_method_52_code
def yX12_readExpression : MethodName := ⟨RX12, "readExpression", "(Z)V"⟩
abbrev cX12_beginText : ByteArray := prog_14_method_53_code
def yX12_beginText : MethodName := ⟨RX12, "beginText", "(Z)V"⟩
abbrev cX12_endText : ByteArray := prog_14_method_54_code
def yX12_endText : MethodName := ⟨RX12, "endText", "()V"⟩
abbrev cX12_readLaw : ByteArray := prog_14_method_55_code
def yX12_readLaw : MethodName := ⟨RX12, "readLaw", "()V"⟩
abbrev cX12_law : ByteArray := prog_14_method_56_code
def yX12_law : MethodName := ⟨RX12, "law", "()I"⟩
abbrev cX12_isLaw : ByteArray := prog_14_method_57_code
def yX12_isLaw : MethodName := ⟨RX12, "isLaw", "(I)Z"⟩
abbrev cX12_force : ByteArray := prog_14_method_58_code
def yX12_force : MethodName := ⟨RX12, "force", "(I)I"⟩
abbrev cX12_reckon : ByteArray := prog_14_method_59_code
def yX12_reckon : MethodName := ⟨RX12, "reckon", "(IJJ)J"⟩
abbrev cX12_reckonAll : ByteArray := prog_14_method_60_code
def yX12_reckonAll : MethodName := ⟨RX12, "reckonAll", "(II)V"⟩
abbrev cX12_isSo : ByteArray := prog_14_method_61_code
def yX12_isSo : MethodName := ⟨RX12, "isSo", "(I)Z"⟩
abbrev cX12_tells : ByteArray := prog_14_method_62_code
def yX12_tells : MethodName := ⟨RX12, "tells", "(IIIIJ)J"⟩
abbrev cX12_tellsGoing : ByteArray := prog_14_method_63_code
def yX12_tellsGoing : MethodName := ⟨RX12, "tellsGoing", "()Z"⟩
abbrev cX12_movesOf : ByteArray := prog_14_method_64_code
def yX12_movesOf : MethodName := ⟨RX12, "movesOf", "(I)I"⟩
abbrev cX12_digsOf : ByteArray := prog_14_method_65_code
def yX12_digsOf : MethodName := ⟨RX12, "digsOf", "(I)I"⟩
abbrev cX12_canGo : ByteArray := prog_14_method_66_code
def yX12_canGo : MethodName := ⟨RX12, "canGo", "(II)Z"⟩
abbrev cX12_isBarred : ByteArray := prog_14_method_67_code
def yX12_isBarred : MethodName := ⟨RX12, "isBarred", "(II)Z"⟩
abbrev cX12_goes : ByteArray := prog_14_method_68_code
def yX12_goes : MethodName := ⟨RX12, "goes", "(II)I"⟩
abbrev cX12_barred : ByteArray := prog_14_method_69_code
def yX12_barred : MethodName := ⟨RX12, "barred", "(II)I"⟩
abbrev cX12_canLie : ByteArray := prog_14_method_70_code
def yX12_canLie : MethodName := ⟨RX12, "canLie", "(II)Z"⟩
abbrev cX12_lay : ByteArray := prog_14_method_71_code
def yX12_lay : MethodName := ⟨RX12, "lay", "(III)V"⟩
abbrev cX12_buryNow : ByteArray := prog_14_method_72_code
def yX12_buryNow : MethodName := ⟨RX12, "buryNow", "(III)I"⟩
abbrev cX12_bury : ByteArray := prog_14_method_73_code
def yX12_bury : MethodName := ⟨RX12, "bury", "(III)I"⟩
abbrev cX12_buyNow : ByteArray := prog_14_method_74_code
def yX12_buyNow : MethodName := ⟨RX12, "buyNow", "(I)I"⟩
abbrev cX12_buy : ByteArray := prog_14_method_75_code
def yX12_buy : MethodName := ⟨RX12, "buy", "(I)I"⟩
abbrev cX12_raiseNow : ByteArray := prog_14_method_76_code
def yX12_raiseNow : MethodName := ⟨RX12, "raiseNow", "(I)I"⟩
abbrev cX12_raise : ByteArray := prog_14_method_77_code
def yX12_raise : MethodName := ⟨RX12, "raise", "(I)I"⟩
abbrev cX12_move : ByteArray := prog_14_method_78_code
def yX12_move : MethodName := ⟨RX12, "move", "(I)V"⟩
abbrev cX12_age : ByteArray := prog_14_method_79_code
def yX12_age : MethodName := ⟨RX12, "age", "()V"⟩
abbrev cX12_passIt : ByteArray := prog_14_method_80_code
def yX12_passIt : MethodName := ⟨RX12, "passIt", "()I"⟩
abbrev cX12_passNow : ByteArray := prog_14_method_81_code
def yX12_passNow : MethodName := ⟨RX12, "passNow", "()I"⟩
abbrev cX12_pass : ByteArray := prog_14_method_82_code
def yX12_pass : MethodName := ⟨RX12, "pass", "()I"⟩
abbrev cX12_blocked : ByteArray := prog_14_method_83_code
def yX12_blocked : MethodName := ⟨RX12, "blocked", "()I"⟩
abbrev cX12_where : ByteArray := prog_14_method_84_code
def yX12_where : MethodName := ⟨RX12, "where", "(II)I"⟩
abbrev cX12_isIndoors : ByteArray := prog_14_method_85_code
def yX12_isIndoors : MethodName := ⟨RX12, "isIndoors", "()Z"⟩
abbrev cX12_indoors : ByteArray := prog_14_method_86_code
def yX12_indoors : MethodName := ⟨RX12, "indoors", "()I"⟩
abbrev cX12_yearIn : ByteArray := prog_14_method_87_code
def yX12_yearIn : MethodName := ⟨RX12, "yearIn", "(III)I"⟩
abbrev cX12_ways : ByteArray := prog_14_method_88_code
def yX12_ways : MethodName := ⟨RX12, "ways", "(IIII)J"⟩
abbrev cX12_round : ByteArray := prog_14_method_89_code
def yX12_round : MethodName := ⟨RX12, "round", "(I)I"⟩
abbrev cX12_compare : ByteArray := prog_14_method_90_code
def yX12_compare : MethodName := ⟨RX12, "compare", "(II)I"⟩
abbrev cX12_arrives : ByteArray := prog_14_method_91_code
def yX12_arrives : MethodName := ⟨RX12, "arrives", "(III)J"⟩
abbrev cX12_isPacked : ByteArray := prog_14_method_92_code
def yX12_isPacked : MethodName := ⟨RX12, "isPacked", "(I)Z"⟩
abbrev cX12_packed : ByteArray := prog_14_method_93_code
def yX12_packed : MethodName := ⟨RX12, "packed", "(I)I"⟩
abbrev cX12_areBeside : ByteArray := prog_14_method_94_code
def yX12_areBeside : MethodName := ⟨RX12, "areBeside", "(II)Z"⟩
abbrev cX12_noteBeside : ByteArray := prog_14_method_95_code
def yX12_noteBeside : MethodName := ⟨RX12, "noteBeside", "()V"⟩
abbrev cX12_meets : ByteArray := prog_14_method_96_code
def yX12_meets : MethodName := ⟨RX12, "meets", "(II)I"⟩
abbrev cX12_meet : ByteArray := prog_14_method_97_code
def yX12_meet : MethodName := ⟨RX12, "meet", "(IIII)I"⟩
abbrev cX12_find : ByteArray := prog_14_method_98_code
def yX12_find : MethodName := ⟨RX12, "find", "(III)I"⟩
abbrev cX12_forget : ByteArray := prog_14_method_99_code
def yX12_forget : MethodName := ⟨RX12, "forget", "()I"⟩
abbrev cX12_isAsFound : ByteArray := prog_14_method_100_code
def yX12_isAsFound : MethodName := ⟨RX12, "isAsFound", "(I)Z"⟩
abbrev cX12_isHidden : ByteArray := prog_14_method_101_code
def yX12_isHidden : MethodName := ⟨RX12, "isHidden", "(I)Z"⟩
abbrev cX12_hidden : ByteArray := prog_14_method_102_code
def yX12_hidden : MethodName := ⟨RX12, "hidden", "(I)I"⟩
abbrev cX12_spade : ByteArray := prog_14_method_103_code
def yX12_spade : MethodName := ⟨RX12, "spade", "(II)I"⟩
abbrev cX12_readSum : ByteArray := prog_14_method_104_code
def yX12_readSum : MethodName := ⟨RX12, "readSum", "(I)V"⟩
abbrev cX12_readOrder : ByteArray := prog_14_method_105_code
def yX12_readOrder : MethodName := ⟨RX12, "readOrder", "()V"⟩
abbrev cX12_sumOf : ByteArray := prog_14_method_106_code
def yX12_sumOf : MethodName := ⟨RX12, "sumOf", "(I)I"⟩
abbrev cX12_act : ByteArray := prog_14_method_107_code
def yX12_act : MethodName := ⟨RX12, "act", "(III)I"⟩
abbrev cX12_run : ByteArray := prog_14_method_108_code
def yX12_run : MethodName := ⟨RX12, "run", "(I)I"⟩
abbrev cX12_orders : ByteArray := prog_14_method_109_code
def yX12_orders : MethodName := ⟨RX12, "orders", "()I"⟩
abbrev cX12_giveBack : ByteArray := prog_14_method_110_code
def yX12_giveBack : MethodName := ⟨RX12, "giveBack", "(I)V"⟩
abbrev cX12_stopped : ByteArray := prog_14_method_111_code
def yX12_stopped : MethodName := ⟨RX12, "stopped", "()I"⟩
abbrev cX12_draw : ByteArray := prog_14_method_112_code
def yX12_draw : MethodName := ⟨RX12, "draw", "(I)I"⟩
abbrev cX12_centuries : ByteArray := prog_14_method_113_code
def yX12_centuries : MethodName := ⟨RX12, "centuries", "(II)I"⟩
abbrev cX12_drawn : ByteArray := prog_14_method_114_code
def yX12_drawn : MethodName := ⟨RX12, "drawn", "(II)I"⟩
abbrev cX12_cellsOf : ByteArray := prog_14_method_115_code
def yX12_cellsOf : MethodName := ⟨RX12, "cellsOf", "(Z)I"⟩
abbrev cX12_count : ByteArray := prog_14_method_116_code
def yX12_count : MethodName := ⟨RX12, "count", "(I)I"⟩
abbrev cX12_status : ByteArray := prog_14_method_117_code
def yX12_status : MethodName := ⟨RX12, "status", "()I"⟩
def RJ11 : String := "java/lang/Character"
def TJ11 : u_T := fun k => match k with
  | _ => ("", "", "", false)
def tyJ11 : Nat → FieldType := fun k => match k with
  | _ => .int
abbrev wsJ110 : List Cond := u_ws RJ11 TJ11 0
theorem nmJ11 : ∀ a, a < 0 → ∀ b, b < 0 → a ≠ b → (TJ11 a).2.1 ≠ (TJ11 b).2.1 := by decide +kernel
theorem tyJ11_ok : ∀ k, k < 0 → parseFieldDescriptor (TJ11 k).2.2.1 = some (tyJ11 k) := by decide +kernel
abbrev cJ11_isValidCodePoint_9a6ad : ByteArray := prog_15_method_11_code
def yJ11_isValidCodePoint_9a6ad : MethodName := ⟨RJ11, "isValidCodePoint", "(I)Z"⟩
abbrev cJ11_highSurrogate_5068e : ByteArray := prog_15_method_28_code
def yJ11_highSurrogate_5068e : MethodName := ⟨RJ11, "highSurrogate", "(I)C"⟩
abbrev cJ11_lowSurrogate_5068e : ByteArray := prog_15_method_29_code
def yJ11_lowSurrogate_5068e : MethodName := ⟨RJ11, "lowSurrogate", "(I)C"⟩
def RJ9 : String := "java/lang/Math"
def TJ9 : u_T := fun k => match k with
  | _ => ("", "", "", false)
def tyJ9 : Nat → FieldType := fun k => match k with
  | _ => .int
abbrev wsJ90 : List Cond := u_ws RJ9 TJ9 0
theorem nmJ9 : ∀ a, a < 0 → ∀ b, b < 0 → a ≠ b → (TJ9 a).2.1 ≠ (TJ9 b).2.1 := by decide +kernel
theorem tyJ9_ok : ∀ k, k < 0 → parseFieldDescriptor (TJ9 k).2.2.1 = some (tyJ9 k) := by decide +kernel
abbrev cJ9_floorMod_7cf53 : ByteArray := prog_16_method_50_code
def yJ9_floorMod_7cf53 : MethodName := ⟨RJ9, "floorMod", "(II)I"⟩
abbrev cJ9_max_7cf53 : ByteArray := prog_16_method_65_code
def yJ9_max_7cf53 : MethodName := ⟨RJ9, "max", "(II)I"⟩
abbrev cJ9_min_7cf53 : ByteArray := prog_16_method_69_code
def yJ9_min_7cf53 : MethodName := ⟨RJ9, "min", "(II)I"⟩
def RJ0 : String := "java/lang/String"
def TJ0 : u_T := fun k => match k with
  | _ => ("", "", "", false)
def tyJ0 : Nat → FieldType := fun k => match k with
  | _ => .int
abbrev wsJ00 : List Cond := u_ws RJ0 TJ0 0
theorem nmJ0 : ∀ a, a < 0 → ∀ b, b < 0 → a ≠ b → (TJ0 a).2.1 ≠ (TJ0 b).2.1 := by decide +kernel
theorem tyJ0_ok : ∀ k, k < 0 → parseFieldDescriptor (TJ0 k).2.2.1 = some (tyJ0 k) := by decide +kernel
abbrev cJ0_length_8abf5 : ByteArray := prog_17_method_54_code
def yJ0_length_8abf5 : MethodName := ⟨RJ0, "length", "()I"⟩
abbrev cJ0_charAt_5068e : ByteArray := prog_17_method_56_code
def yJ0_charAt_5068e : MethodName := ⟨RJ0, "charAt", "(I)C"⟩
abbrev cJ0_indexOf_0f7a4 : ByteArray := prog_17_method_79_code
def yJ0_indexOf_0f7a4 : MethodName := ⟨RJ0, "indexOf", "(I)I"⟩
abbrev cJ0_indexOf_7cf53 : ByteArray := prog_17_method_80_code
def yJ0_indexOf_7cf53 : MethodName := ⟨RJ0, "indexOf", "(II)I"⟩
abbrev cJ0_coder_7d493 : ByteArray := prog_17_method_152_code
def yJ0_coder_7d493 : MethodName := ⟨RJ0, "coder", "()B"⟩
abbrev cJ0_isLatin1_aae02 : ByteArray := prog_17_method_154_code
def yJ0_isLatin1_aae02 : MethodName := ⟨RJ0, "isLatin1", "()Z"⟩
abbrev cJ0_checkIndex_df160 : ByteArray := prog_17_method_155_code
def yJ0_checkIndex_df160 : MethodName := ⟨RJ0, "checkIndex", "(II)V"⟩
abbrev cJ0_checkBoundsBeginEnd_23922 : ByteArray := prog_17_method_158_code
def yJ0_checkBoundsBeginEnd_23922 : MethodName := ⟨RJ0, "checkBoundsBeginEnd", "(III)V"⟩
def RJ1 : String := "java/lang/StringLatin1"
def TJ1 : u_T := fun k => match k with
  | _ => ("", "", "", false)
def tyJ1 : Nat → FieldType := fun k => match k with
  | _ => .int
abbrev wsJ10 : List Cond := u_ws RJ1 TJ1 0
theorem nmJ1 : ∀ a, a < 0 → ∀ b, b < 0 → a ≠ b → (TJ1 a).2.1 ≠ (TJ1 b).2.1 := by decide +kernel
theorem tyJ1_ok : ∀ k, k < 0 → parseFieldDescriptor (TJ1 k).2.2.1 = some (tyJ1 k) := by decide +kernel
abbrev cJ1_charAt_3b067 : ByteArray := prog_18_method_2_code
def yJ1_charAt_3b067 : MethodName := ⟨RJ1, "charAt", "([BI)C"⟩
abbrev cJ1_canEncode_9a6ad : ByteArray := prog_18_method_4_code
def yJ1_canEncode_9a6ad : MethodName := ⟨RJ1, "canEncode", "(I)Z"⟩
abbrev cJ1_indexOf_4cfef : ByteArray := prog_18_method_22_code
def yJ1_indexOf_4cfef : MethodName := ⟨RJ1, "indexOf", "([BIII)I"⟩
abbrev cJ1_indexOfChar_4cfef : ByteArray := prog_18_method_23_code
def yJ1_indexOfChar_4cfef : MethodName := ⟨RJ1, "indexOfChar", "([BIII)I"⟩
def RJ2 : String := "java/lang/StringUTF16"
def TJ2 : u_T := fun k => match k with
  | _ => ("", "", "", false)
def tyJ2 : Nat → FieldType := fun k => match k with
  | _ => .int
abbrev wsJ20 : List Cond := u_ws RJ2 TJ2 0
theorem nmJ2 : ∀ a, a < 0 → ∀ b, b < 0 → a ≠ b → (TJ2 a).2.1 ≠ (TJ2 b).2.1 := by decide +kernel
theorem tyJ2_ok : ∀ k, k < 0 → parseFieldDescriptor (TJ2 k).2.2.1 = some (tyJ2 k) := by decide +kernel
abbrev cJ2_getChar_3b067 : ByteArray := prog_19_method_5_code
def yJ2_getChar_3b067 : MethodName := ⟨RJ2, "getChar", "([BI)C"⟩
abbrev cJ2_length_9d52b : ByteArray := prog_19_method_6_code
def yJ2_length_9d52b : MethodName := ⟨RJ2, "length", "([B)I"⟩
abbrev cJ2_indexOf_4cfef : ByteArray := prog_19_method_40_code
def yJ2_indexOf_4cfef : MethodName := ⟨RJ2, "indexOf", "([BIII)I"⟩
abbrev cJ2_indexOfChar_4cfef : ByteArray := prog_19_method_47_code
def yJ2_indexOfChar_4cfef : MethodName := ⟨RJ2, "indexOfChar", "([BIII)I"⟩
abbrev cJ2_indexOfCharUnsafe_4cfef : ByteArray := prog_19_method_48_code
def yJ2_indexOfCharUnsafe_4cfef : MethodName := ⟨RJ2, "indexOfCharUnsafe", "([BIII)I"⟩
abbrev cJ2_indexOfSupplementary_4cfef : ByteArray := prog_19_method_49_code
def yJ2_indexOfSupplementary_4cfef : MethodName := ⟨RJ2, "indexOfSupplementary", "([BIII)I"⟩
abbrev cJ2_charAt_3b067 : ByteArray := prog_19_method_83_code
def yJ2_charAt_3b067 : MethodName := ⟨RJ2, "charAt", "([BI)C"⟩
abbrev cJ2_checkIndex_2214a : ByteArray := prog_19_method_91_code
def yJ2_checkIndex_2214a : MethodName := ⟨RJ2, "checkIndex", "(I[B)V"⟩
abbrev cJ2_checkBoundsBeginEnd_d044e : ByteArray := prog_19_method_93_code
def yJ2_checkBoundsBeginEnd_d044e : MethodName := ⟨RJ2, "checkBoundsBeginEnd", "(II[B)V"⟩
def RJ10 : String := "java/lang/System"
def TJ10 : u_T := fun k => match k with
  | _ => ("", "", "", false)
def tyJ10 : Nat → FieldType := fun k => match k with
  | _ => .int
abbrev wsJ100 : List Cond := u_ws RJ10 TJ10 0
theorem nmJ10 : ∀ a, a < 0 → ∀ b, b < 0 → a ≠ b → (TJ10 a).2.1 ≠ (TJ10 b).2.1 := by decide +kernel
theorem tyJ10_ok : ∀ k, k < 0 → parseFieldDescriptor (TJ10 k).2.2.1 = some (tyJ10 k) := by decide +kernel
def RJ3 : String := "jdk/internal/util/Preconditions"
def TJ3 : u_T := fun k => match k with
  | _ => ("", "", "", false)
def tyJ3 : Nat → FieldType := fun k => match k with
  | _ => .int
abbrev wsJ30 : List Cond := u_ws RJ3 TJ3 0
theorem nmJ3 : ∀ a, a < 0 → ∀ b, b < 0 → a ≠ b → (TJ3 a).2.1 ≠ (TJ3 b).2.1 := by decide +kernel
theorem tyJ3_ok : ∀ k, k < 0 → parseFieldDescriptor (TJ3 k).2.2.1 = some (tyJ3 k) := by decide +kernel
abbrev cJ3_checkIndex_8e157 : ByteArray := prog_21_method_11_code
def yJ3_checkIndex_8e157 : MethodName := ⟨RJ3, "checkIndex", "(IILjava/util/function/BiFunction;)I"⟩
abbrev cJ3_checkFromToIndex_8c36e : ByteArray := prog_21_method_12_code
def yJ3_checkFromToIndex_8c36e : MethodName := ⟨RJ3, "checkFromToIndex", "(IIILjava/util/function/BiFunction;)I"⟩
def RL : String := "YardYearLaw"
abbrev cL_law : ByteArray := code
def yL_law : MethodName := ⟨RL, "law", "([I)Z"⟩
abbrev vwCl : List vw_C := [(RX0, TX0, 2), (RX1, TX1, 4), (RX2, TX2, 4), (RX3, TX3, 3), (RX4, TX4, 5), (RX5, TX5, 9), (RX6, TX6, 3), (RX7, TX7, 11), (RX8, TX8, 10), (RX9, TX9, 10), (RX10, TX10, 13), (RX11, TX11, 14), (RX12, TX12, 61)]
set_option maxRecDepth 20000 in
theorem inX0 : ∀ w ∈ wsX00, w ∈ lw_tbl := by
  intro w hw
  rw [show wsX00 = [451, 453].filterMap (fun i => lw_tbl[i]?) by decide +kernel] at hw
  obtain ⟨i, -, hi⟩ := List.mem_filterMap.mp hw
  exact List.mem_of_getElem? hi
set_option maxRecDepth 20000 in
theorem inX1 : ∀ w ∈ wsX10, w ∈ lw_tbl := by
  intro w hw
  rw [show wsX10 = [272, 274, 276, 278].filterMap (fun i => lw_tbl[i]?) by decide +kernel] at hw
  obtain ⟨i, -, hi⟩ := List.mem_filterMap.mp hw
  exact List.mem_of_getElem? hi
set_option maxRecDepth 20000 in
theorem inX2 : ∀ w ∈ wsX20, w ∈ lw_tbl := by
  intro w hw
  rw [show wsX20 = [368, 370, 372, 374].filterMap (fun i => lw_tbl[i]?) by decide +kernel] at hw
  obtain ⟨i, -, hi⟩ := List.mem_filterMap.mp hw
  exact List.mem_of_getElem? hi
set_option maxRecDepth 20000 in
theorem inX3 : ∀ w ∈ wsX30, w ∈ lw_tbl := by
  intro w hw
  rw [show wsX30 = [343, 345, 347].filterMap (fun i => lw_tbl[i]?) by decide +kernel] at hw
  obtain ⟨i, -, hi⟩ := List.mem_filterMap.mp hw
  exact List.mem_of_getElem? hi
set_option maxRecDepth 20000 in
theorem inX4 : ∀ w ∈ wsX40, w ∈ lw_tbl := by
  intro w hw
  rw [show wsX40 = [429, 431, 433, 435, 437].filterMap (fun i => lw_tbl[i]?) by decide +kernel] at hw
  obtain ⟨i, -, hi⟩ := List.mem_filterMap.mp hw
  exact List.mem_of_getElem? hi
set_option maxRecDepth 20000 in
theorem inX5 : ∀ w ∈ wsX50, w ∈ lw_tbl := by
  intro w hw
  rw [show wsX50 = [398, 400, 402, 404, 406, 408, 410, 412, 414].filterMap (fun i => lw_tbl[i]?) by decide +kernel] at hw
  obtain ⟨i, -, hi⟩ := List.mem_filterMap.mp hw
  exact List.mem_of_getElem? hi
set_option maxRecDepth 20000 in
theorem inX6 : ∀ w ∈ wsX60, w ∈ lw_tbl := by
  intro w hw
  rw [show wsX60 = [218, 220, 222].filterMap (fun i => lw_tbl[i]?) by decide +kernel] at hw
  obtain ⟨i, -, hi⟩ := List.mem_filterMap.mp hw
  exact List.mem_of_getElem? hi
set_option maxRecDepth 20000 in
theorem inX7 : ∀ w ∈ wsX70, w ∈ lw_tbl := by
  intro w hw
  rw [show wsX70 = [478, 480, 482, 484, 486, 488, 490, 492, 494, 496, 498].filterMap (fun i => lw_tbl[i]?) by decide +kernel] at hw
  obtain ⟨i, -, hi⟩ := List.mem_filterMap.mp hw
  exact List.mem_of_getElem? hi
set_option maxRecDepth 20000 in
theorem inX8 : ∀ w ∈ wsX80, w ∈ lw_tbl := by
  intro w hw
  rw [show wsX80 = [240, 242, 244, 246, 248, 250, 252, 254, 256, 258].filterMap (fun i => lw_tbl[i]?) by decide +kernel] at hw
  obtain ⟨i, -, hi⟩ := List.mem_filterMap.mp hw
  exact List.mem_of_getElem? hi
set_option maxRecDepth 20000 in
theorem inX9 : ∀ w ∈ wsX90, w ∈ lw_tbl := by
  intro w hw
  rw [show wsX90 = [316, 318, 320, 322, 324, 326, 328, 330, 332, 334].filterMap (fun i => lw_tbl[i]?) by decide +kernel] at hw
  obtain ⟨i, -, hi⟩ := List.mem_filterMap.mp hw
  exact List.mem_of_getElem? hi
set_option maxRecDepth 20000 in
theorem inX10 : ∀ w ∈ wsX100, w ∈ lw_tbl := by
  intro w hw
  rw [show wsX100 = [177, 179, 181, 183, 185, 187, 189, 191, 193, 195, 197, 199, 201].filterMap (fun i => lw_tbl[i]?) by decide +kernel] at hw
  obtain ⟨i, -, hi⟩ := List.mem_filterMap.mp hw
  exact List.mem_of_getElem? hi
set_option maxRecDepth 20000 in
theorem inX11 : ∀ w ∈ wsX110, w ∈ lw_tbl := by
  intro w hw
  rw [show wsX110 = [515, 517, 519, 521, 523, 525, 527, 529, 531, 533, 535, 537, 539, 541].filterMap (fun i => lw_tbl[i]?) by decide +kernel] at hw
  obtain ⟨i, -, hi⟩ := List.mem_filterMap.mp hw
  exact List.mem_of_getElem? hi
set_option maxRecDepth 20000 in
theorem inX12 : ∀ w ∈ wsX120, w ∈ lw_tbl := by
  intro w hw
  rw [show wsX120 = [1360, 1362, 1364, 1366, 1368, 1370, 1372, 1374, 1376, 1378, 1380, 1382, 1384, 1386, 1388, 1390, 1392, 1394, 1396, 1398, 1400, 1402, 1404, 1406, 1408, 1410, 1412, 1414, 1416, 1418, 1420, 1422, 1424, 1426, 1428, 1430, 1432, 1434, 1436, 1438, 1440, 1442, 1444, 1446, 1448, 1450, 1452, 1454, 1456, 1458, 1460, 1462, 1464, 1466, 1468, 1470, 1472, 1474, 1476, 1478, 1480].filterMap (fun i => lw_tbl[i]?) by decide +kernel] at hw
  obtain ⟨i, -, hi⟩ := List.mem_filterMap.mp hw
  exact List.mem_of_getElem? hi
