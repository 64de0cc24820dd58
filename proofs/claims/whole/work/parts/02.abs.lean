/-! names and field tables: printed by the kit for this claim (claim/NAMES.whole.lean.txt) -/
def RX0 : String := "KeepOurPlace$Errands"
def TX0 : u_T := fun k => match k with
  | 0 => ("KeepOurPlace$Errands", "line", "LKeepOurPlace$Line;", true)
  | 1 => ("KeepOurPlace$Errands", "things", "LKeepOurPlace$Things;", true)
  | 2 => ("KeepOurPlace$Errands", "till", "LKeepOurPlace$Till;", true)
  | 3 => ("KeepOurPlace$Errands", "paces", "[I", true)
  | 4 => ("KeepOurPlace$Errands", "dues", "[I", true)
  | 5 => ("KeepOurPlace$Errands", "grudges", "[I", true)
  | 6 => ("KeepOurPlace$Errands", "behind", "I", false)
  | 7 => ("KeepOurPlace$Errands", "order", "[I", true)
  | 8 => ("KeepOurPlace$Errands", "length", "I", false)
  | 9 => ("KeepOurPlace$Errands", "plans", "[I", true)
  | 10 => ("KeepOurPlace$Errands", "backs", "[I", true)
  | 11 => ("KeepOurPlace$Errands", "gains", "[I", true)
  | 12 => ("KeepOurPlace$Errands", "soughtSet", "I", false)
  | 13 => ("KeepOurPlace$Errands", "soughtBack", "I", false)
  | 14 => ("KeepOurPlace$Errands", "hits", "I", false)
  | _ => ("KeepOurPlace$Errands", "firstHit", "I", false)
def tyX0 : Nat → FieldType := fun k => match k with
  | 0 => .object "KeepOurPlace$Line"
  | 1 => .object "KeepOurPlace$Things"
  | 2 => .object "KeepOurPlace$Till"
  | 3 => .array .int
  | 4 => .array .int
  | 5 => .array .int
  | 6 => .int
  | 7 => .array .int
  | 8 => .int
  | 9 => .array .int
  | 10 => .array .int
  | 11 => .array .int
  | 12 => .int
  | 13 => .int
  | 14 => .int
  | _ => .int
abbrev wsX00 : List Cond := u_ws RX0 TX0 16
theorem nmX0 : ∀ a, a < 16 → ∀ b, b < 16 → a ≠ b → (TX0 a).2.1 ≠ (TX0 b).2.1 := by decide +kernel
theorem tyX0_ok : ∀ k, k < 16 → parseFieldDescriptor (TX0 k).2.2.1 = some (tyX0 k) := by decide +kernel
abbrev cX0_init : ByteArray := prog_2_method_1_code
def yX0_init : MethodName := ⟨RX0, "<init>", "(LKeepOurPlace$Line;LKeepOurPlace$Things;LKeepOurPlace$Till;)V"⟩
abbrev cX0_prepare : ByteArray := prog_2_method_2_code
def yX0_prepare : MethodName := ⟨RX0, "prepare", "()V"⟩
abbrev cX0_letBy : ByteArray := prog_2_method_3_code
def yX0_letBy : MethodName := ⟨RX0, "letBy", "(I)I"⟩
abbrev cX0_loss : ByteArray := prog_2_method_4_code
def yX0_loss : MethodName := ⟨RX0, "loss", "(I)I"⟩
abbrev cX0_leg : ByteArray := prog_2_method_5_code
def yX0_leg : MethodName := ⟨RX0, "leg", "(III)I"⟩
abbrev cX0_takeRow : ByteArray := prog_2_method_6_code
def yX0_takeRow : MethodName := ⟨RX0, "takeRow", "([II)Z"⟩
abbrev cX0_takePlan : ByteArray := prog_2_method_7_code
def yX0_takePlan : MethodName := ⟨RX0, "takePlan", "(I)V"⟩
abbrev cX0_takeNearest : ByteArray := prog_2_method_8_code
def yX0_takeNearest : MethodName := ⟨RX0, "takeNearest", "()V"⟩
abbrev cX0_nearestOf : ByteArray := prog_2_method_9_code
def yX0_nearestOf : MethodName := ⟨RX0, "nearestOf", "(II)I"⟩
abbrev cX0_goTo : ByteArray := prog_2_method_10_code
def yX0_goTo : MethodName := ⟨RX0, "goTo", "(I)V"⟩
abbrev cX0_backWithout : ByteArray := prog_2_method_11_code
def yX0_backWithout : MethodName := ⟨RX0, "backWithout", "(I)I"⟩
abbrev cX0_digits : ByteArray := prog_2_method_12_code
def yX0_digits : MethodName := ⟨RX0, "digits", "()I"⟩
abbrev cX0_bits : ByteArray := prog_2_method_13_code
def yX0_bits : MethodName := ⟨RX0, "bits", "()I"⟩
abbrev cX0_worth : ByteArray := prog_2_method_14_code
def yX0_worth : MethodName := ⟨RX0, "worth", "()I"⟩
abbrev cX0_gain : ByteArray := prog_2_method_15_code
def yX0_gain : MethodName := ⟨RX0, "gain", "()I"⟩
abbrev cX0_survey : ByteArray := prog_2_method_16_code
def yX0_survey : MethodName := ⟨RX0, "survey", "(I)V"⟩
abbrev cX0_seek : ByteArray := prog_2_method_17_code
def yX0_seek : MethodName := ⟨RX0, "seek", "(I)V"⟩
abbrev cX0_visit : ByteArray := prog_2_method_18_code
def yX0_visit : MethodName := ⟨RX0, "visit", "(LKeepOurPlace$Errands;IIIIII)V"⟩
abbrev cX0_weigh : ByteArray := prog_2_method_19_code
def yX0_weigh : MethodName := ⟨RX0, "weigh", "(III)V"⟩
abbrev cX0_worthOf : ByteArray := prog_2_method_20_code
def yX0_worthOf : MethodName := ⟨RX0, "worthOf", "(I)I"⟩
abbrev cX0_choose : ByteArray := prog_2_method_21_code
def yX0_choose : MethodName := ⟨RX0, "choose", "(I)I"⟩
abbrev cX0_isBetter : ByteArray := prog_2_method_22_code
def yX0_isBetter : MethodName := ⟨RX0, "isBetter", "(II)Z"⟩
abbrev cX0_mostGain : ByteArray := prog_2_method_23_code
def yX0_mostGain : MethodName := ⟨RX0, "mostGain", "(I)I"⟩
def RX1 : String := "KeepOurPlace$Image"
def TX1 : u_T := fun k => match k with
  | 0 => ("KeepOurPlace$Image", "there", "Z", false)
  | 1 => ("KeepOurPlace$Image", "gone", "I", false)
  | 2 => ("KeepOurPlace$Image", "customers", "I", false)
  | 3 => ("KeepOurPlace$Image", "ours", "I", false)
  | 4 => ("KeepOurPlace$Image", "ruling", "I", false)
  | 5 => ("KeepOurPlace$Image", "many", "I", false)
  | 6 => ("KeepOurPlace$Image", "items", "[I", true)
  | 7 => ("KeepOurPlace$Image", "numbers", "[I", true)
  | 8 => ("KeepOurPlace$Image", "shelves", "[I", true)
  | 9 => ("KeepOurPlace$Image", "worths", "[I", true)
  | _ => ("KeepOurPlace$Image", "chances", "[I", true)
def tyX1 : Nat → FieldType := fun k => match k with
  | 0 => .boolean
  | 1 => .int
  | 2 => .int
  | 3 => .int
  | 4 => .int
  | 5 => .int
  | 6 => .array .int
  | 7 => .array .int
  | 8 => .array .int
  | 9 => .array .int
  | _ => .array .int
abbrev wsX10 : List Cond := u_ws RX1 TX1 11
theorem nmX1 : ∀ a, a < 11 → ∀ b, b < 11 → a ≠ b → (TX1 a).2.1 ≠ (TX1 b).2.1 := by decide +kernel
theorem tyX1_ok : ∀ k, k < 11 → parseFieldDescriptor (TX1 k).2.2.1 = some (tyX1 k) := by decide +kernel
abbrev cX1_init : ByteArray := prog_3_method_1_code
def yX1_init : MethodName := ⟨RX1, "<init>", "()V"⟩
abbrev cX1_keep : ByteArray := prog_3_method_2_code
def yX1_keep : MethodName := ⟨RX1, "keep", "(LKeepOurPlace$Line;LKeepOurPlace$Things;LKeepOurPlace$Rules;)V"⟩
abbrev cX1_restore : ByteArray := prog_3_method_3_code
def yX1_restore : MethodName := ⟨RX1, "restore", "(LKeepOurPlace$Line;LKeepOurPlace$Things;LKeepOurPlace$Rules;)V"⟩
def RX2 : String := "KeepOurPlace$Line"
def TX2 : u_T := fun k => match k with
  | 0 => ("KeepOurPlace$Line", "kinds", "[I", true)
  | 1 => ("KeepOurPlace$Line", "items", "[I", true)
  | 2 => ("KeepOurPlace$Line", "numbers", "[I", true)
  | 3 => ("KeepOurPlace$Line", "many", "I", false)
  | 4 => ("KeepOurPlace$Line", "ours", "I", false)
  | _ => ("KeepOurPlace$Line", "gone", "I", false)
def tyX2 : Nat → FieldType := fun k => match k with
  | 0 => .array .int
  | 1 => .array .int
  | 2 => .array .int
  | 3 => .int
  | 4 => .int
  | _ => .int
abbrev wsX20 : List Cond := u_ws RX2 TX2 6
theorem nmX2 : ∀ a, a < 6 → ∀ b, b < 6 → a ≠ b → (TX2 a).2.1 ≠ (TX2 b).2.1 := by decide +kernel
theorem tyX2_ok : ∀ k, k < 6 → parseFieldDescriptor (TX2 k).2.2.1 = some (tyX2 k) := by decide +kernel
abbrev cX2_init : ByteArray := prog_4_method_1_code
def yX2_init : MethodName := ⟨RX2, "<init>", "()V"⟩
abbrev cX2_holds : ByteArray := prog_4_method_2_code
def yX2_holds : MethodName := ⟨RX2, "holds", "(I)Z"⟩
abbrev cX2_join : ByteArray := prog_4_method_3_code
def yX2_join : MethodName := ⟨RX2, "join", "(II)I"⟩
abbrev cX2_moveUs : ByteArray := prog_4_method_4_code
def yX2_moveUs : MethodName := ⟨RX2, "moveUs", "(I)I"⟩
abbrev cX2_dropFirst : ByteArray := prog_4_method_5_code
def yX2_dropFirst : MethodName := ⟨RX2, "dropFirst", "()V"⟩
def RX3 : String := "KeepOurPlace$Reader"
def TX3 : u_T := fun k => match k with
  | 0 => ("KeepOurPlace$Reader", "tape", "[I", true)
  | 1 => ("KeepOurPlace$Reader", "size", "I", false)
  | 2 => ("KeepOurPlace$Reader", "tokens", "[I", true)
  | 3 => ("KeepOurPlace$Reader", "places", "[I", true)
  | 4 => ("KeepOurPlace$Reader", "values", "[I", true)
  | 5 => ("KeepOurPlace$Reader", "noted", "I", false)
  | 6 => ("KeepOurPlace$Reader", "here", "I", false)
  | 7 => ("KeepOurPlace$Reader", "token", "I", false)
  | 8 => ("KeepOurPlace$Reader", "fault", "I", false)
  | 9 => ("KeepOurPlace$Reader", "code", "[I", true)
  | 10 => ("KeepOurPlace$Reader", "length", "I", false)
  | _ => ("KeepOurPlace$Reader", "starts", "[I", true)
def tyX3 : Nat → FieldType := fun k => match k with
  | 0 => .array .int
  | 1 => .int
  | 2 => .array .int
  | 3 => .array .int
  | 4 => .array .int
  | 5 => .int
  | 6 => .int
  | 7 => .int
  | 8 => .int
  | 9 => .array .int
  | 10 => .int
  | _ => .array .int
abbrev wsX30 : List Cond := u_ws RX3 TX3 12
theorem nmX3 : ∀ a, a < 12 → ∀ b, b < 12 → a ≠ b → (TX3 a).2.1 ≠ (TX3 b).2.1 := by decide +kernel
theorem tyX3_ok : ∀ k, k < 12 → parseFieldDescriptor (TX3 k).2.2.1 = some (tyX3 k) := by decide +kernel
abbrev cX3_init : ByteArray := prog_5_method_1_code
def yX3_init : MethodName := ⟨RX3, "<init>", "()V"⟩
abbrev cX3_append : ByteArray := prog_5_method_2_code
def yX3_append : MethodName := ⟨RX3, "append", "(I)Z"⟩
abbrev cX3_clear : ByteArray := prog_5_method_3_code
def yX3_clear : MethodName := ⟨RX3, "clear", "()V"⟩
abbrev cX3_read : ByteArray := prog_5_method_4_code
def yX3_read : MethodName := ⟨RX3, "read", "()V"⟩
abbrev cX3_scan : ByteArray := prog_5_method_5_code
def yX3_scan : MethodName := ⟨RX3, "scan", "()V"⟩
abbrev cX3_scanToken : ByteArray := prog_5_method_6_code
def yX3_scanToken : MethodName := ⟨RX3, "scanToken", "(II)I"⟩
abbrev cX3_scanNumber : ByteArray := prog_5_method_7_code
def yX3_scanNumber : MethodName := ⟨RX3, "scanNumber", "(I)I"⟩
abbrev cX3_scanWord : ByteArray := prog_5_method_8_code
def yX3_scanWord : MethodName := ⟨RX3, "scanWord", "(I)I"⟩
abbrev cX3_wordOf : ByteArray := prog_5_method_9_code
def yX3_wordOf : MethodName := ⟨RX3, "wordOf", "(II)I"⟩
abbrev cX3_isSame : ByteArray := prog_5_method_10_code
def yX3_isSame : MethodName := ⟨RX3, "isSame", "(III)Z"⟩
abbrev cX3_note : ByteArray := prog_5_method_11_code
def yX3_note : MethodName := ⟨RX3, "note", "(III)V"⟩
abbrev cX3_isLetter : ByteArray := prog_5_method_12_code
def yX3_isLetter : MethodName := ⟨RX3, "isLetter", "(I)Z"⟩
abbrev cX3_isDigit : ByteArray := prog_5_method_13_code
def yX3_isDigit : MethodName := ⟨RX3, "isDigit", "(I)Z"⟩
abbrev cX3_readPart : ByteArray := prog_5_method_14_code
def yX3_readPart : MethodName := ⟨RX3, "readPart", "(II)V"⟩
abbrev cX3_readOr : ByteArray := prog_5_method_15_code
def yX3_readOr : MethodName := ⟨RX3, "readOr", "(I)V"⟩
abbrev cX3_readAnd : ByteArray := prog_5_method_16_code
def yX3_readAnd : MethodName := ⟨RX3, "readAnd", "(I)V"⟩
abbrev cX3_readNot : ByteArray := prog_5_method_17_code
def yX3_readNot : MethodName := ⟨RX3, "readNot", "(I)V"⟩
abbrev cX3_readSum : ByteArray := prog_5_method_18_code
def yX3_readSum : MethodName := ⟨RX3, "readSum", "(I)V"⟩
abbrev cX3_readTerm : ByteArray := prog_5_method_19_code
def yX3_readTerm : MethodName := ⟨RX3, "readTerm", "(I)V"⟩
abbrev cX3_readOne : ByteArray := prog_5_method_20_code
def yX3_readOne : MethodName := ⟨RX3, "readOne", "(I)V"⟩
abbrev cX3_mayOpen : ByteArray := prog_5_method_21_code
def yX3_mayOpen : MethodName := ⟨RX3, "mayOpen", "(I)Z"⟩
abbrev cX3_expect : ByteArray := prog_5_method_22_code
def yX3_expect : MethodName := ⟨RX3, "expect", "(I)V"⟩
abbrev cX3_advance : ByteArray := prog_5_method_23_code
def yX3_advance : MethodName := ⟨RX3, "advance", "()V"⟩
abbrev cX3_fail : ByteArray := prog_5_method_24_code
def yX3_fail : MethodName := ⟨RX3, "fail", "()V"⟩
abbrev cX3_emit : ByteArray := prog_5_method_25_code
def yX3_emit : MethodName := ⟨RX3, "emit", "(I)V"⟩
def RX4 : String := "KeepOurPlace$Rules"
def TX4 : u_T := fun k => match k with
  | 0 => ("KeepOurPlace$Rules", "line", "LKeepOurPlace$Line;", true)
  | 1 => ("KeepOurPlace$Rules", "codes", "[[I", true)
  | 2 => ("KeepOurPlace$Rules", "starts", "[[I", true)
  | 3 => ("KeepOurPlace$Rules", "names", "[I", true)
  | 4 => ("KeepOurPlace$Rules", "stack", "[I", true)
  | 5 => ("KeepOurPlace$Rules", "many", "I", false)
  | _ => ("KeepOurPlace$Rules", "ruling", "I", false)
def tyX4 : Nat → FieldType := fun k => match k with
  | 0 => .object "KeepOurPlace$Line"
  | 1 => .array (.array .int)
  | 2 => .array (.array .int)
  | 3 => .array .int
  | 4 => .array .int
  | 5 => .int
  | _ => .int
abbrev wsX40 : List Cond := u_ws RX4 TX4 7
theorem nmX4 : ∀ a, a < 7 → ∀ b, b < 7 → a ≠ b → (TX4 a).2.1 ≠ (TX4 b).2.1 := by decide +kernel
theorem tyX4_ok : ∀ k, k < 7 → parseFieldDescriptor (TX4 k).2.2.1 = some (tyX4 k) := by decide +kernel
abbrev cX4_init : ByteArray := prog_6_method_1_code
def yX4_init : MethodName := ⟨RX4, "<init>", "(LKeepOurPlace$Line;)V"⟩
abbrev cX4_add : ByteArray := prog_6_method_2_code
def yX4_add : MethodName := ⟨RX4, "add", "(LKeepOurPlace$Reader;)I"⟩
abbrev cX4_tell : ByteArray := prog_6_method_3_code
def yX4_tell : MethodName := ⟨RX4, "tell", "(IIIII)I"⟩
abbrev cX4_ofTwo : ByteArray := prog_6_method_4_code
def yX4_ofTwo : MethodName := ⟨RX4, "ofTwo", "(III)I"⟩
def RX5 : String := "KeepOurPlace$Sheets"
def TX5 : u_T := fun k => match k with
  | 0 => ("KeepOurPlace$Sheets", "sorts", "[I", true)
  | 1 => ("KeepOurPlace$Sheets", "sizes", "[I", true)
  | _ => ("KeepOurPlace$Sheets", "rows", "[[I", true)
def tyX5 : Nat → FieldType := fun k => match k with
  | 0 => .array .int
  | 1 => .array .int
  | _ => .array (.array .int)
abbrev wsX50 : List Cond := u_ws RX5 TX5 3
theorem nmX5 : ∀ a, a < 3 → ∀ b, b < 3 → a ≠ b → (TX5 a).2.1 ≠ (TX5 b).2.1 := by decide +kernel
theorem tyX5_ok : ∀ k, k < 3 → parseFieldDescriptor (TX5 k).2.2.1 = some (tyX5 k) := by decide +kernel
abbrev cX5_init : ByteArray := prog_7_method_1_code
def yX5_init : MethodName := ⟨RX5, "<init>", "()V"⟩
abbrev cX5_holds : ByteArray := prog_7_method_2_code
def yX5_holds : MethodName := ⟨RX5, "holds", "(I)Z"⟩
abbrev cX5_isMissing : ByteArray := prog_7_method_3_code
def yX5_isMissing : MethodName := ⟨RX5, "isMissing", "(I)Z"⟩
abbrev cX5_spans : ByteArray := prog_7_method_4_code
def yX5_spans : MethodName := ⟨RX5, "spans", "(III)Z"⟩
abbrev cX5_lay : ByteArray := prog_7_method_5_code
def yX5_lay : MethodName := ⟨RX5, "lay", "(III)V"⟩
abbrev cX5_write : ByteArray := prog_7_method_6_code
def yX5_write : MethodName := ⟨RX5, "write", "(III)Z"⟩
abbrev cX5_narrow : ByteArray := prog_7_method_7_code
def yX5_narrow : MethodName := ⟨RX5, "narrow", "(II)I"⟩
def RX6 : String := "KeepOurPlace$Things"
def TX6 : u_T := fun k => match k with
  | 0 => ("KeepOurPlace$Things", "shelves", "[I", true)
  | 1 => ("KeepOurPlace$Things", "worths", "[I", true)
  | 2 => ("KeepOurPlace$Things", "chances", "[I", true)
  | _ => ("KeepOurPlace$Things", "many", "I", false)
def tyX6 : Nat → FieldType := fun k => match k with
  | 0 => .array .int
  | 1 => .array .int
  | 2 => .array .int
  | _ => .int
abbrev wsX60 : List Cond := u_ws RX6 TX6 4
theorem nmX6 : ∀ a, a < 4 → ∀ b, b < 4 → a ≠ b → (TX6 a).2.1 ≠ (TX6 b).2.1 := by decide +kernel
theorem tyX6_ok : ∀ k, k < 4 → parseFieldDescriptor (TX6 k).2.2.1 = some (tyX6 k) := by decide +kernel
abbrev cX6_init : ByteArray := prog_8_method_1_code
def yX6_init : MethodName := ⟨RX6, "<init>", "()V"⟩
abbrev cX6_holds : ByteArray := prog_8_method_2_code
def yX6_holds : MethodName := ⟨RX6, "holds", "(I)Z"⟩
abbrev cX6_lay : ByteArray := prog_8_method_3_code
def yX6_lay : MethodName := ⟨RX6, "lay", "(II)I"⟩
abbrev cX6_all : ByteArray := prog_8_method_4_code
def yX6_all : MethodName := ⟨RX6, "all", "()I"⟩
abbrev cX6_shelfOf : ByteArray := prog_8_method_5_code
def yX6_shelfOf : MethodName := ⟨RX6, "shelfOf", "(I)I"⟩
abbrev cX6_steps : ByteArray := prog_8_method_6_code
def yX6_steps : MethodName := ⟨RX6, "steps", "(II)I"⟩
abbrev cX6_draw : ByteArray := prog_8_method_7_code
def yX6_draw : MethodName := ⟨RX6, "draw", "(I)I"⟩
def RX7 : String := "KeepOurPlace$Till"
def TX7 : u_T := fun k => match k with
  | 0 => ("KeepOurPlace$Till", "line", "LKeepOurPlace$Line;", true)
  | _ => ("KeepOurPlace$Till", "rules", "LKeepOurPlace$Rules;", true)
def tyX7 : Nat → FieldType := fun k => match k with
  | 0 => .object "KeepOurPlace$Line"
  | _ => .object "KeepOurPlace$Rules"
abbrev wsX70 : List Cond := u_ws RX7 TX7 2
theorem nmX7 : ∀ a, a < 2 → ∀ b, b < 2 → a ≠ b → (TX7 a).2.1 ≠ (TX7 b).2.1 := by decide +kernel
theorem tyX7_ok : ∀ k, k < 2 → parseFieldDescriptor (TX7 k).2.2.1 = some (tyX7 k) := by decide +kernel
abbrev cX7_init : ByteArray := prog_9_method_1_code
def yX7_init : MethodName := ⟨RX7, "<init>", "(LKeepOurPlace$Line;LKeepOurPlace$Rules;)V"⟩
abbrev cX7_pace : ByteArray := prog_9_method_2_code
def yX7_pace : MethodName := ⟨RX7, "pace", "(I)I"⟩
abbrev cX7_seconds : ByteArray := prog_9_method_3_code
def yX7_seconds : MethodName := ⟨RX7, "seconds", "(III)I"⟩
abbrev cX7_minds : ByteArray := prog_9_method_4_code
def yX7_minds : MethodName := ⟨RX7, "minds", "(II)I"⟩
abbrev cX7_turnChanged : ByteArray := prog_9_method_5_code
def yX7_turnChanged : MethodName := ⟨RX7, "turnChanged", "(II)I"⟩
def RX8 : String := "KeepOurPlace"
def TX8 : u_T := fun k => match k with
  | 0 => ("KeepOurPlace", "line", "LKeepOurPlace$Line;", true)
  | 1 => ("KeepOurPlace", "things", "LKeepOurPlace$Things;", true)
  | 2 => ("KeepOurPlace", "reader", "LKeepOurPlace$Reader;", true)
  | 3 => ("KeepOurPlace", "rules", "LKeepOurPlace$Rules;", true)
  | 4 => ("KeepOurPlace", "till", "LKeepOurPlace$Till;", true)
  | 5 => ("KeepOurPlace", "errands", "LKeepOurPlace$Errands;", true)
  | 6 => ("KeepOurPlace", "sheets", "LKeepOurPlace$Sheets;", true)
  | _ => ("KeepOurPlace", "kept", "LKeepOurPlace$Image;", true)
def tyX8 : Nat → FieldType := fun k => match k with
  | 0 => .object "KeepOurPlace$Line"
  | 1 => .object "KeepOurPlace$Things"
  | 2 => .object "KeepOurPlace$Reader"
  | 3 => .object "KeepOurPlace$Rules"
  | 4 => .object "KeepOurPlace$Till"
  | 5 => .object "KeepOurPlace$Errands"
  | 6 => .object "KeepOurPlace$Sheets"
  | _ => .object "KeepOurPlace$Image"
abbrev wsX80 : List Cond := u_ws RX8 TX8 8
theorem nmX8 : ∀ a, a < 8 → ∀ b, b < 8 → a ≠ b → (TX8 a).2.1 ≠ (TX8 b).2.1 := by decide +kernel
theorem tyX8_ok : ∀ k, k < 8 → parseFieldDescriptor (TX8 k).2.2.1 = some (tyX8 k) := by decide +kernel
abbrev cX8_init : ByteArray := prog_1_method_1_code
def yX8_init : MethodName := ⟨RX8, "<init>", "()V"⟩
abbrev cX8_customer : ByteArray := prog_1_method_2_code
def yX8_customer : MethodName := ⟨RX8, "customer", "(II)I"⟩
abbrev cX8_thing : ByteArray := prog_1_method_3_code
def yX8_thing : MethodName := ⟨RX8, "thing", "(II)I"⟩
abbrev cX8_set : ByteArray := prog_1_method_4_code
def yX8_set : MethodName := ⟨RX8, "set", "(III)I"⟩
abbrev cX8_told : ByteArray := prog_1_method_5_code
def yX8_told : MethodName := ⟨RX8, "told", "(II)I"⟩
abbrev cX8_serve : ByteArray := prog_1_method_6_code
def yX8_serve : MethodName := ⟨RX8, "serve", "()I"⟩
abbrev cX8_feed : ByteArray := prog_1_method_7_code
def yX8_feed : MethodName := ⟨RX8, "feed", "(I)I"⟩
abbrev cX8_text : ByteArray := prog_1_method_8_code
def yX8_text : MethodName := ⟨RX8, "text", "()I"⟩
abbrev cX8_force : ByteArray := prog_1_method_9_code
def yX8_force : MethodName := ⟨RX8, "force", "(I)I"⟩
abbrev cX8_turn : ByteArray := prog_1_method_10_code
def yX8_turn : MethodName := ⟨RX8, "turn", "()I"⟩
abbrev cX8_errand : ByteArray := prog_1_method_11_code
def yX8_errand : MethodName := ⟨RX8, "errand", "(II)I"⟩
abbrev cX8_nearest : ByteArray := prog_1_method_12_code
def yX8_nearest : MethodName := ⟨RX8, "nearest", "(I)I"⟩
abbrev cX8_best : ByteArray := prog_1_method_13_code
def yX8_best : MethodName := ⟨RX8, "best", "(I)I"⟩
abbrev cX8_latest : ByteArray := prog_1_method_14_code
def yX8_latest : MethodName := ⟨RX8, "latest", "(II)I"⟩
abbrev cX8_leave : ByteArray := prog_1_method_15_code
def yX8_leave : MethodName := ⟨RX8, "leave", "()I"⟩
abbrev cX8_more : ByteArray := prog_1_method_16_code
def yX8_more : MethodName := ⟨RX8, "more", "(I)I"⟩
abbrev cX8_stand : ByteArray := prog_1_method_17_code
def yX8_stand : MethodName := ⟨RX8, "stand", "(I)I"⟩
abbrev cX8_change : ByteArray := prog_1_method_18_code
def yX8_change : MethodName := ⟨RX8, "change", "(I)I"⟩
abbrev cX8_lines : ByteArray := prog_1_method_19_code
def yX8_lines : MethodName := ⟨RX8, "lines", "(I)I"⟩
abbrev cX8_likely : ByteArray := prog_1_method_20_code
def yX8_likely : MethodName := ⟨RX8, "likely", "(I)J"⟩
abbrev cX8_slip : ByteArray := prog_1_method_21_code
def yX8_slip : MethodName := ⟨RX8, "slip", "(II)I"⟩
abbrev cX8_served : ByteArray := prog_1_method_22_code
def yX8_served : MethodName := ⟨RX8, "served", "(II)I"⟩
abbrev cX8_film : ByteArray := prog_1_method_23_code
def yX8_film : MethodName := ⟨RX8, "film", "(II)I"⟩
abbrev cX8_drawn : ByteArray := prog_1_method_24_code
def yX8_drawn : MethodName := ⟨RX8, "drawn", "(I)I"⟩
abbrev cX8_chance : ByteArray := prog_1_method_25_code
def yX8_chance : MethodName := ⟨RX8, "chance", "(III)J"⟩
abbrev cX8_image : ByteArray := prog_1_method_26_code
def yX8_image : MethodName := ⟨RX8, "image", "()I"⟩
abbrev cX8_back : ByteArray := prog_1_method_27_code
def yX8_back : MethodName := ⟨RX8, "back", "()I"⟩
abbrev cX8_count : ByteArray := prog_1_method_28_code
def yX8_count : MethodName := ⟨RX8, "count", "(I)I"⟩
abbrev cX8_sheet : ByteArray := prog_1_method_29_code
def yX8_sheet : MethodName := ⟨RX8, "sheet", "(III)I"⟩
abbrev cX8_cell : ByteArray := prog_1_method_30_code
def yX8_cell : MethodName := ⟨RX8, "cell", "(III)I"⟩
abbrev cX8_copy : ByteArray := prog_1_method_31_code
def yX8_copy : MethodName := ⟨RX8, "copy", "(IIIII)I"⟩
abbrev cX8_customers : ByteArray := prog_1_method_32_code
def yX8_customers : MethodName := ⟨RX8, "customers", "(IIII)I"⟩
abbrev cX8_taken : ByteArray := prog_1_method_33_code
def yX8_taken : MethodName := ⟨RX8, "taken", "(II)I"⟩
abbrev cX8_replace : ByteArray := prog_1_method_34_code
def yX8_replace : MethodName := ⟨RX8, "replace", "([IIII)I"⟩
abbrev cX8_isUnder : ByteArray := prog_1_method_35_code
def yX8_isUnder : MethodName := ⟨RX8, "isUnder", "(II)Z"⟩
abbrev cX8_commonDivisor : ByteArray := prog_1_method_36_code
def yX8_commonDivisor : MethodName := ⟨RX8, "commonDivisor", "(II)I"⟩
abbrev cX8_readErrand : ByteArray := prog_1_method_37_code
def yX8_readErrand : MethodName := ⟨RX8, "readErrand", "(I)Z"⟩
abbrev cX8_ownSeconds : ByteArray := prog_1_method_38_code
def yX8_ownSeconds : MethodName := ⟨RX8, "ownSeconds", "(II)J"⟩
abbrev cX8_kindsOf : ByteArray := prog_1_method_39_code
def yX8_kindsOf : MethodName := ⟨RX8, "kindsOf", "(IJ)I"⟩
def RX9 : String := "KeepOurPlaceModel"
def TX9 : u_T := fun k => match k with
  | 0 => ("KeepOurPlaceModel", "thrown", "I", false)
  | 1 => ("KeepOurPlaceModel", "texts", "[I", true)
  | 2 => ("KeepOurPlaceModel", "textSize", "[I", true)
  | 3 => ("KeepOurPlaceModel", "textCount", "I", false)
  | 4 => ("KeepOurPlaceModel", "rule", "I", false)
  | 5 => ("KeepOurPlaceModel", "tape", "[I", true)
  | 6 => ("KeepOurPlaceModel", "taped", "I", false)
  | 7 => ("KeepOurPlaceModel", "kinds", "[I", true)
  | 8 => ("KeepOurPlaceModel", "itemRow", "[I", true)
  | 9 => ("KeepOurPlaceModel", "numbers", "[I", true)
  | 10 => ("KeepOurPlaceModel", "line", "I", false)
  | 11 => ("KeepOurPlaceModel", "ours", "I", false)
  | 12 => ("KeepOurPlaceModel", "servedMany", "I", false)
  | 13 => ("KeepOurPlaceModel", "shelves", "[I", true)
  | 14 => ("KeepOurPlaceModel", "worths", "[I", true)
  | 15 => ("KeepOurPlaceModel", "chances", "[I", true)
  | 16 => ("KeepOurPlaceModel", "thingMany", "I", false)
  | 17 => ("KeepOurPlaceModel", "ofItems", "I", false)
  | 18 => ("KeepOurPlaceModel", "ofNumber", "I", false)
  | 19 => ("KeepOurPlaceModel", "ofPlace", "I", false)
  | 20 => ("KeepOurPlaceModel", "ofOurs", "I", false)
  | 21 => ("KeepOurPlaceModel", "ofWait", "I", false)
  | 22 => ("KeepOurPlaceModel", "ofMany", "I", false)
  | 23 => ("KeepOurPlaceModel", "from", "I", false)
  | 24 => ("KeepOurPlaceModel", "size", "I", false)
  | 25 => ("KeepOurPlaceModel", "here", "I", false)
  | 26 => ("KeepOurPlaceModel", "token", "I", false)
  | 27 => ("KeepOurPlaceModel", "tokenAt", "I", false)
  | 28 => ("KeepOurPlaceModel", "tokenWorth", "J", false)
  | 29 => ("KeepOurPlaceModel", "open", "I", false)
  | 30 => ("KeepOurPlaceModel", "bad", "Z", false)
  | 31 => ("KeepOurPlaceModel", "fault", "I", false)
  | 32 => ("KeepOurPlaceModel", "seconds", "[I", true)
  | 33 => ("KeepOurPlaceModel", "minds", "[I", true)
  | 34 => ("KeepOurPlaceModel", "walks", "[I", true)
  | 35 => ("KeepOurPlaceModel", "turnNow", "I", false)
  | 36 => ("KeepOurPlaceModel", "letBy", "I", false)
  | 37 => ("KeepOurPlaceModel", "path", "[I", true)
  | 38 => ("KeepOurPlaceModel", "pathSize", "I", false)
  | 39 => ("KeepOurPlaceModel", "bestPath", "[I", true)
  | 40 => ("KeepOurPlaceModel", "bestSize", "I", false)
  | 41 => ("KeepOurPlaceModel", "bestGain", "I", false)
  | 42 => ("KeepOurPlaceModel", "isFound", "Z", false)
  | 43 => ("KeepOurPlaceModel", "slipMany", "I", false)
  | 44 => ("KeepOurPlaceModel", "slipFirst", "I", false)
  | 45 => ("KeepOurPlaceModel", "lineKept", "[I", true)
  | 46 => ("KeepOurPlaceModel", "thingsKept", "[I", true)
  | 47 => ("KeepOurPlaceModel", "manyKept", "I", false)
  | 48 => ("KeepOurPlaceModel", "thingsKeptMany", "I", false)
  | 49 => ("KeepOurPlaceModel", "oursKept", "I", false)
  | 50 => ("KeepOurPlaceModel", "servedKept", "I", false)
  | 51 => ("KeepOurPlaceModel", "ruleKept", "I", false)
  | 52 => ("KeepOurPlaceModel", "isThere", "[Z", true)
  | 53 => ("KeepOurPlaceModel", "sorts", "[I", true)
  | 54 => ("KeepOurPlaceModel", "sheetSize", "[I", true)
  | _ => ("KeepOurPlaceModel", "items", "[I", true)
def tyX9 : Nat → FieldType := fun k => match k with
  | 0 => .int
  | 1 => .array .int
  | 2 => .array .int
  | 3 => .int
  | 4 => .int
  | 5 => .array .int
  | 6 => .int
  | 7 => .array .int
  | 8 => .array .int
  | 9 => .array .int
  | 10 => .int
  | 11 => .int
  | 12 => .int
  | 13 => .array .int
  | 14 => .array .int
  | 15 => .array .int
  | 16 => .int
  | 17 => .int
  | 18 => .int
  | 19 => .int
  | 20 => .int
  | 21 => .int
  | 22 => .int
  | 23 => .int
  | 24 => .int
  | 25 => .int
  | 26 => .int
  | 27 => .int
  | 28 => .long
  | 29 => .int
  | 30 => .boolean
  | 31 => .int
  | 32 => .array .int
  | 33 => .array .int
  | 34 => .array .int
  | 35 => .int
  | 36 => .int
  | 37 => .array .int
  | 38 => .int
  | 39 => .array .int
  | 40 => .int
  | 41 => .int
  | 42 => .boolean
  | 43 => .int
  | 44 => .int
  | 45 => .array .int
  | 46 => .array .int
  | 47 => .int
  | 48 => .int
  | 49 => .int
  | 50 => .int
  | 51 => .int
  | 52 => .array .boolean
  | 53 => .array .int
  | 54 => .array .int
  | _ => .array .int
abbrev wsX90 : List Cond := u_ws RX9 TX9 56
theorem nmX9 : ∀ a, a < 56 → ∀ b, b < 56 → a ≠ b → (TX9 a).2.1 ≠ (TX9 b).2.1 := by decide +kernel
theorem tyX9_ok : ∀ k, k < 56 → parseFieldDescriptor (TX9 k).2.2.1 = some (tyX9 k) := by decide +kernel
abbrev cX9_in : ByteArray := prog_11_method_2_code
def yX9_in : MethodName := ⟨RX9, "in", "(JJJ)Z"⟩
abbrev cX9_within : ByteArray := prog_11_method_3_code
def yX9_within : MethodName := ⟨RX9, "within", "(III)I"⟩
abbrev cX9_init : ByteArray := prog_11_method_4_code
def yX9_init : MethodName := ⟨RX9, "<init>", "()V"⟩
abbrev cX9_spell : ByteArray := prog_11_method_5_code
def yX9_spell : MethodName := ⟨RX9, "spell", "(IIIIIIIII)V"⟩
abbrev cX9_isOne : ByteArray := prog_11_method_6_code
def yX9_isOne : MethodName := ⟨RX9, "isOne", "(I)Z"⟩
abbrev cX9_isThing : ByteArray := prog_11_method_7_code
def yX9_isThing : MethodName := ⟨RX9, "isThing", "(I)Z"⟩
abbrev cX9_customer : ByteArray := prog_11_method_8_code
def yX9_customer : MethodName := ⟨RX9, "customer", "(II)I"⟩
abbrev cX9_thing : ByteArray := prog_11_method_9_code
def yX9_thing : MethodName := ⟨RX9, "thing", "(II)I"⟩
abbrev cX9_set : ByteArray := prog_11_method_10_code
def yX9_set : MethodName := ⟨RX9, "set", "(III)I"⟩
abbrev cX9_told : ByteArray := prog_11_method_11_code
def yX9_told : MethodName := ⟨RX9, "told", "(II)I"⟩
abbrev cX9_serve : ByteArray := prog_11_method_12_code
def yX9_serve : MethodName := ⟨RX9, "serve", "()I"⟩
abbrev cX9_feed : ByteArray := prog_11_method_13_code
def yX9_feed : MethodName := ⟨RX9, "feed", "(I)I"⟩
abbrev cX9_byteAt : ByteArray := prog_11_method_14_code
def yX9_byteAt : MethodName := ⟨RX9, "byteAt", "(I)I"⟩
abbrev cX9_next : ByteArray := prog_11_method_15_code
def yX9_next : MethodName := ⟨RX9, "next", "()V"⟩
abbrev cX9_fail : ByteArray := prog_11_method_16_code
def yX9_fail : MethodName := ⟨RX9, "fail", "()V"⟩
abbrev cX9_isLetter : ByteArray := prog_11_method_17_code
def yX9_isLetter : MethodName := ⟨RX9, "isLetter", "(II)Z"⟩
abbrev cX9_isWord : ByteArray := prog_11_method_18_code
def yX9_isWord : MethodName := ⟨RX9, "isWord", "(IIIIIIII)Z"⟩
abbrev cX9_isSign : ByteArray := prog_11_method_19_code
def yX9_isSign : MethodName := ⟨RX9, "isSign", "(I)Z"⟩
abbrev cX9_opens : ByteArray := prog_11_method_20_code
def yX9_opens : MethodName := ⟨RX9, "opens", "()Z"⟩
abbrev cX9_name : ByteArray := prog_11_method_21_code
def yX9_name : MethodName := ⟨RX9, "name", "()I"⟩
abbrev cX9_atom : ByteArray := prog_11_method_22_code
def yX9_atom : MethodName := ⟨RX9, "atom", "()I"⟩
abbrev cX9_term : ByteArray := prog_11_method_23_code
def yX9_term : MethodName := ⟨RX9, "term", "()I"⟩
abbrev cX9_added : ByteArray := prog_11_method_24_code
def yX9_added : MethodName := ⟨RX9, "added", "()I"⟩
abbrev cX9_not : ByteArray := prog_11_method_25_code
def yX9_not : MethodName := ⟨RX9, "not", "()I"⟩
abbrev cX9_both : ByteArray := prog_11_method_26_code
def yX9_both : MethodName := ⟨RX9, "both", "()I"⟩
abbrev cX9_either : ByteArray := prog_11_method_27_code
def yX9_either : MethodName := ⟨RX9, "either", "()I"⟩
abbrev cX9_part : ByteArray := prog_11_method_28_code
def yX9_part : MethodName := ⟨RX9, "part", "(Z)I"⟩
abbrev cX9_read : ByteArray := prog_11_method_29_code
def yX9_read : MethodName := ⟨RX9, "read", "(II)I"⟩
abbrev cX9_text : ByteArray := prog_11_method_30_code
def yX9_text : MethodName := ⟨RX9, "text", "()I"⟩
abbrev cX9_force : ByteArray := prog_11_method_31_code
def yX9_force : MethodName := ⟨RX9, "force", "(I)I"⟩
abbrev cX9_says : ByteArray := prog_11_method_32_code
def yX9_says : MethodName := ⟨RX9, "says", "(IIIII)I"⟩
abbrev cX9_secondsOf : ByteArray := prog_11_method_33_code
def yX9_secondsOf : MethodName := ⟨RX9, "secondsOf", "(I)I"⟩
abbrev cX9_mindsOf : ByteArray := prog_11_method_34_code
def yX9_mindsOf : MethodName := ⟨RX9, "mindsOf", "(II)I"⟩
abbrev cX9_gathers : ByteArray := prog_11_method_35_code
def yX9_gathers : MethodName := ⟨RX9, "gathers", "()V"⟩
abbrev cX9_steps : ByteArray := prog_11_method_36_code
def yX9_steps : MethodName := ⟨RX9, "steps", "(II)I"⟩
abbrev cX9_gainOf : ByteArray := prog_11_method_37_code
def yX9_gainOf : MethodName := ⟨RX9, "gainOf", "(II)I"⟩
abbrev cX9_turn : ByteArray := prog_11_method_38_code
def yX9_turn : MethodName := ⟨RX9, "turn", "()I"⟩
abbrev cX9_backOf : ByteArray := prog_11_method_39_code
def yX9_backOf : MethodName := ⟨RX9, "backOf", "()I"⟩
abbrev cX9_worthOf : ByteArray := prog_11_method_40_code
def yX9_worthOf : MethodName := ⟨RX9, "worthOf", "()I"⟩
abbrev cX9_digitsOf : ByteArray := prog_11_method_41_code
def yX9_digitsOf : MethodName := ⟨RX9, "digitsOf", "()I"⟩
abbrev cX9_lays : ByteArray := prog_11_method_42_code
def yX9_lays : MethodName := ⟨RX9, "lays", "(II)Z"⟩
abbrev cX9_errand : ByteArray := prog_11_method_43_code
def yX9_errand : MethodName := ⟨RX9, "errand", "(II)I"⟩
abbrev cX9_nearest : ByteArray := prog_11_method_44_code
def yX9_nearest : MethodName := ⟨RX9, "nearest", "(I)I"⟩
abbrev cX9_goesOn : ByteArray := prog_11_method_45_code
def yX9_goesOn : MethodName := ⟨RX9, "goesOn", "(IIIII)V"⟩
abbrev cX9_seeks : ByteArray := prog_11_method_46_code
def yX9_seeks : MethodName := ⟨RX9, "seeks", "(I)I"⟩
abbrev cX9_allThings : ByteArray := prog_11_method_47_code
def yX9_allThings : MethodName := ⟨RX9, "allThings", "()I"⟩
abbrev cX9_best : ByteArray := prog_11_method_48_code
def yX9_best : MethodName := ⟨RX9, "best", "(I)I"⟩
abbrev cX9_latest : ByteArray := prog_11_method_49_code
def yX9_latest : MethodName := ⟨RX9, "latest", "(II)I"⟩
abbrev cX9_leave : ByteArray := prog_11_method_50_code
def yX9_leave : MethodName := ⟨RX9, "leave", "()I"⟩
abbrev cX9_more : ByteArray := prog_11_method_51_code
def yX9_more : MethodName := ⟨RX9, "more", "(I)I"⟩
abbrev cX9_stand : ByteArray := prog_11_method_52_code
def yX9_stand : MethodName := ⟨RX9, "stand", "(I)I"⟩
abbrev cX9_swaps : ByteArray := prog_11_method_53_code
def yX9_swaps : MethodName := ⟨RX9, "swaps", "(II)V"⟩
abbrev cX9_change : ByteArray := prog_11_method_54_code
def yX9_change : MethodName := ⟨RX9, "change", "(I)I"⟩
abbrev cX9_lineOf : ByteArray := prog_11_method_55_code
def yX9_lineOf : MethodName := ⟨RX9, "lineOf", "(I)I"⟩
abbrev cX9_lines : ByteArray := prog_11_method_56_code
def yX9_lines : MethodName := ⟨RX9, "lines", "(I)I"⟩
abbrev cX9_likely : ByteArray := prog_11_method_57_code
def yX9_likely : MethodName := ⟨RX9, "likely", "(I)J"⟩
abbrev cX9_orders : ByteArray := prog_11_method_58_code
def yX9_orders : MethodName := ⟨RX9, "orders", "(II)V"⟩
abbrev cX9_slip : ByteArray := prog_11_method_59_code
def yX9_slip : MethodName := ⟨RX9, "slip", "(II)I"⟩
abbrev cX9_ownOf : ByteArray := prog_11_method_60_code
def yX9_ownOf : MethodName := ⟨RX9, "ownOf", "(II)J"⟩
abbrev cX9_served : ByteArray := prog_11_method_61_code
def yX9_served : MethodName := ⟨RX9, "served", "(II)I"⟩
abbrev cX9_film : ByteArray := prog_11_method_62_code
def yX9_film : MethodName := ⟨RX9, "film", "(II)I"⟩
abbrev cX9_draws : ByteArray := prog_11_method_63_code
def yX9_draws : MethodName := ⟨RX9, "draws", "(I)I"⟩
abbrev cX9_drawn : ByteArray := prog_11_method_64_code
def yX9_drawn : MethodName := ⟨RX9, "drawn", "(I)I"⟩
abbrev cX9_chance : ByteArray := prog_11_method_65_code
def yX9_chance : MethodName := ⟨RX9, "chance", "(III)J"⟩
abbrev cX9_image : ByteArray := prog_11_method_66_code
def yX9_image : MethodName := ⟨RX9, "image", "()I"⟩
abbrev cX9_back : ByteArray := prog_11_method_67_code
def yX9_back : MethodName := ⟨RX9, "back", "()I"⟩
abbrev cX9_count : ByteArray := prog_11_method_68_code
def yX9_count : MethodName := ⟨RX9, "count", "(I)I"⟩
abbrev cX9_isSheet : ByteArray := prog_11_method_69_code
def yX9_isSheet : MethodName := ⟨RX9, "isSheet", "(I)Z"⟩
abbrev cX9_sheet : ByteArray := prog_11_method_70_code
def yX9_sheet : MethodName := ⟨RX9, "sheet", "(III)I"⟩
abbrev cX9_cell : ByteArray := prog_11_method_71_code
def yX9_cell : MethodName := ⟨RX9, "cell", "(III)I"⟩
abbrev cX9_copy : ByteArray := prog_11_method_72_code
def yX9_copy : MethodName := ⟨RX9, "copy", "(IIIII)I"⟩
abbrev cX9_customers : ByteArray := prog_11_method_73_code
def yX9_customers : MethodName := ⟨RX9, "customers", "(IIII)I"⟩
abbrev cX9_over : ByteArray := prog_11_method_74_code
def yX9_over : MethodName := ⟨RX9, "over", "(I)I"⟩
abbrev cX9_taken : ByteArray := prog_11_method_75_code
def yX9_taken : MethodName := ⟨RX9, "taken", "(II)I"⟩
def RJ0 : String := "java/lang/String"
abbrev cJ0_length_8abf5 : ByteArray := prog_14_method_54_code
def yJ0_length_8abf5 : MethodName := ⟨RJ0, "length", "()I"⟩
abbrev cJ0_charAt_5068e : ByteArray := prog_14_method_56_code
def yJ0_charAt_5068e : MethodName := ⟨RJ0, "charAt", "(I)C"⟩
abbrev cJ0_indexOf_0f7a4 : ByteArray := prog_14_method_79_code
def yJ0_indexOf_0f7a4 : MethodName := ⟨RJ0, "indexOf", "(I)I"⟩
abbrev cJ0_indexOf_7cf53 : ByteArray := prog_14_method_80_code
def yJ0_indexOf_7cf53 : MethodName := ⟨RJ0, "indexOf", "(II)I"⟩
abbrev cJ0_coder_7d493 : ByteArray := prog_14_method_152_code
def yJ0_coder_7d493 : MethodName := ⟨RJ0, "coder", "()B"⟩
abbrev cJ0_isLatin1_aae02 : ByteArray := prog_14_method_154_code
def yJ0_isLatin1_aae02 : MethodName := ⟨RJ0, "isLatin1", "()Z"⟩
abbrev cJ0_checkIndex_df160 : ByteArray := prog_14_method_155_code
def yJ0_checkIndex_df160 : MethodName := ⟨RJ0, "checkIndex", "(II)V"⟩
abbrev cJ0_checkBoundsBeginEnd_23922 : ByteArray := prog_14_method_158_code
def yJ0_checkBoundsBeginEnd_23922 : MethodName := ⟨RJ0, "checkBoundsBeginEnd", "(III)V"⟩
def RJ1 : String := "java/lang/StringLatin1"
abbrev cJ1_charAt_3b067 : ByteArray := prog_15_method_2_code
def yJ1_charAt_3b067 : MethodName := ⟨RJ1, "charAt", "([BI)C"⟩
abbrev cJ1_canEncode_9a6ad : ByteArray := prog_15_method_4_code
def yJ1_canEncode_9a6ad : MethodName := ⟨RJ1, "canEncode", "(I)Z"⟩
abbrev cJ1_indexOf_4cfef : ByteArray := prog_15_method_22_code
def yJ1_indexOf_4cfef : MethodName := ⟨RJ1, "indexOf", "([BIII)I"⟩
abbrev cJ1_indexOfChar_4cfef : ByteArray := prog_15_method_23_code
def yJ1_indexOfChar_4cfef : MethodName := ⟨RJ1, "indexOfChar", "([BIII)I"⟩
def RJ3 : String := "jdk/internal/util/Preconditions"
abbrev cJ3_checkIndex_8e157 : ByteArray := prog_18_method_11_code
def yJ3_checkIndex_8e157 : MethodName := ⟨RJ3, "checkIndex", "(IILjava/util/function/BiFunction;)I"⟩
abbrev cJ3_checkFromToIndex_8c36e : ByteArray := prog_18_method_12_code
def yJ3_checkFromToIndex_8c36e : MethodName := ⟨RJ3, "checkFromToIndex", "(IIILjava/util/function/BiFunction;)I"⟩
abbrev classes : List vw_C := [(RX0, TX0, 16), (RX1, TX1, 11), (RX2, TX2, 6), (RX3, TX3, 12), (RX4, TX4, 7), (RX5, TX5, 3), (RX6, TX6, 4), (RX7, TX7, 2), (RX8, TX8, 8), (RX9, TX9, 56)]
/-- the shapes of the cells: a row of ints (0) or booleans (1) with its length, a row of rows (2 + the first of them), an object (its slots: a reference that stays, an int, a long) -/
abbrev Shp : Type := (Nat × Nat) ⊕ (Nat × List Value)
/-- the class' own world, and the reference's -/
def shA : List Shp := [.inr (8, [.ref 1, .ref 5, .ref 9, .ref 16, .ref 33, .ref 34, .ref 42, .ref 50]), .inr (2, [.ref 2, .ref 3, .ref 4, .int 0, .int 0, .int 0]), .inl (0, 8), .inl (0, 8), .inl (0, 8), .inr (6, [.ref 6, .ref 7, .ref 8, .int 0]), .inl (0, 6), .inl (0, 6), .inl (0, 6), .inr (3, [.ref 10, .int 0, .ref 11, .ref 12, .ref 13, .int 0, .int 0, .int 0, .int 0, .ref 14, .int 0, .ref 15]), .inl (0, 160), .inl (0, 161), .inl (0, 161), .inl (0, 161), .inl (0, 160), .inl (0, 4), .inr (4, [.ref 1, .ref 17, .ref 24, .ref 31, .ref 32, .int 0, .int 0]), .inl (20, 6), .inl (0, 160), .inl (0, 160), .inl (0, 160), .inl (0, 160), .inl (0, 160), .inl (0, 160), .inl (27, 6), .inl (0, 4), .inl (0, 4), .inl (0, 4), .inl (0, 4), .inl (0, 4), .inl (0, 4), .inl (0, 6), .inl (0, 160), .inr (7, [.ref 1, .ref 16]), .inr (0, [.ref 1, .ref 5, .ref 33, .ref 35, .ref 36, .ref 37, .int 0, .ref 38, .int 0, .ref 39, .ref 40, .ref 41, .int 0, .int 0, .int 0, .int 0]), .inl (0, 7), .inl (0, 9), .inl (0, 9), .inl (0, 6), .inl (0, 64), .inl (0, 64), .inl (0, 64), .inr (5, [.ref 43, .ref 44, .ref 45]), .inl (0, 4), .inl (0, 4), .inl (48, 4), .inl (0, 40), .inl (0, 40), .inl (0, 40), .inl (0, 40), .inr (1, [.int 0, .int 0, .int 0, .int 0, .int 0, .int 0, .ref 51, .ref 52, .ref 53, .ref 54, .ref 55]), .inl (0, 8), .inl (0, 8), .inl (0, 6), .inl (0, 6), .inl (0, 6)]
theorem shA_length : shA.length = 56 := rfl
theorem shA_ok : ∀ (cell ci : Nat) (tm : List Value), shA[cell]? = some (.inr (ci, tm)) → tm.length ≤ 1000 := by
  intro cell ci tm h
  have h2 := List.mem_of_getElem? h
  have h3 : shA.all (fun S => match S with | .inl _ => true | .inr (_, t) => decide (t.length ≤ 1000)) = true := by decide +kernel
  have h4 := List.all_eq_true.mp h3 _ h2
  simpa using h4
def shB : List Shp := [.inr (9, [.int 0, .ref 1, .ref 2, .int 0, .int 0, .ref 3, .int 0, .ref 4, .ref 5, .ref 6, .int 0, .int 0, .int 0, .ref 7, .ref 8, .ref 9, .int 0, .int 0, .int 0, .int 0, .int 0, .int 0, .int 0, .int 0, .int 0, .int 0, .int 0, .int 0, .long 0, .int 0, .int 0, .int 0, .ref 10, .ref 11, .ref 12, .int 0, .int 0, .ref 13, .int 0, .ref 14, .int 0, .int 0, .int 0, .int 0, .int 0, .ref 15, .ref 16, .int 0, .int 0, .int 0, .int 0, .int 0, .ref 17, .ref 18, .ref 19, .ref 20]), .inl (0, 960), .inl (0, 6), .inl (0, 160), .inl (0, 8), .inl (0, 8), .inl (0, 8), .inl (0, 6), .inl (0, 6), .inl (0, 6), .inl (0, 8), .inl (0, 8), .inl (0, 7), .inl (0, 6), .inl (0, 6), .inl (0, 16), .inl (0, 18), .inl (1, 4), .inl (0, 4), .inl (0, 4), .inl (0, 160)]
theorem shB_length : shB.length = 21 := rfl
theorem shB_ok : ∀ (cell ci : Nat) (tm : List Value), shB[cell]? = some (.inr (ci, tm)) → tm.length ≤ 1000 := by
  intro cell ci tm h
  have h2 := List.mem_of_getElem? h
  have h3 : shB.all (fun S => match S with | .inl _ => true | .inr (_, t) => decide (t.length ≤ 1000)) = true := by decide +kernel
  have h4 := List.all_eq_true.mp h3 _ h2
  simpa using h4
def txJS0 : String := "takes 3 ; lets 10 + wait * 5 ; walks 2 + items ;"
def txJS1 : String := "items number place ours wait many takes lets walks or and not "
def txJS2 : String := "();+-*<="
def kJS2 : Nat := 81
def lenJS : List Nat := [48, 62, 8]
def bytJS : List (List Int32) := [[116, 97, 107, 101, 115, 32, 51, 32, 59, 32, 108, 101, 116, 115, 32, 49, 48, 32, 43, 32, 119, 97, 105, 116, 32, 42, 32, 53, 32, 59, 32, 119, 97, 108, 107, 115, 32, 50, 32, 43, 32, 105, 116, 101, 109, 115, 32, 59], [105, 116, 101, 109, 115, 32, 110, 117, 109, 98, 101, 114, 32, 112, 108, 97, 99, 101, 32, 111, 117, 114, 115, 32, 119, 97, 105, 116, 32, 109, 97, 110, 121, 32, 116, 97, 107, 101, 115, 32, 108, 101, 116, 115, 32, 119, 97, 108, 107, 115, 32, 111, 114, 32, 97, 110, 100, 32, 110, 111, 116, 32], [40, 41, 59, 43, 45, 42, 60, 61]]
/-! THE ABSTRACT LAYER: after the constructors no object is made any more, so the world is a fixed list of cells; a memory M gives
    cell by cell and slot by slot the ints in them; references never change (the shapes shL tell them). XJ is the kit's W over such a memory. -/
abbrev Mem : Type := Nat → Nat → Int32
def up2 (M : Mem) (c k : Nat) (v : Int32) : Mem := fun a b => if a = c then (if b = k then v else M a b) else M a b
def upA (M : Mem) (c : Nat) (f : Nat → Int32) : Mem := fun a => if a = c then f else M a
def gL (M : Mem) (c k : Nat) : Int64 := Int64.ofBitVec (((M c (k + 1000)).toBitVec ++ (M c k).toBitVec : BitVec (32 + 32)))
def sL (M : Mem) (c k : Nat) (v : Int64) : Mem := up2 (up2 M c k (Int32.ofBitVec (v.toBitVec.extractLsb' 0 32))) c (k + 1000) (Int32.ofBitVec (v.toBitVec.extractLsb' 32 32))
abbrev GG : Type := va_G × (Nat → Nat) × ClassId × ClassId × ClassId
def cv (ad : Nat → Nat) (v : Value) : Value := match v with
  | .ref c => .ref (ad c)
  | w => w
def cvs (ad : Nat → Nat) (st : List Value) : List Value := st.map (cv ad)
def cvl (ad : Nat → Nat) (L : List (Nat × Value)) : List (Nat × Value) := L.map (fun q => (q.1, cv ad q.2))
/-- a slot of an object, by its template: a reference that stays, an int, a long -/
def fv (ad : Nat → Nat) (M : Mem) (c k : Nat) (w : Value) : Value := match w with
  | .ref j => .ref (ad j)
  | .int _ => .int (M c k)
  | .long _ => .long (gL M c k)
  | w => w
def cel (G : GG) (M : Mem) (c : Nat) (S : Shp) : va_E := match S with
  | .inl (0, n) => .inl (G.2.2.1, n, .inl (M c))
  | .inl (1, n) => .inl (G.2.2.2.1, n, .inl (M c))
  | .inl (b + 2, n) => .inl (G.2.2.2.2, n, .inr (.inr (.inr (.inr (fun i => if i < n then some (G.2.1 (b + i)) else none)))))
  | .inr (ci, tm) => .inr (ci, tm.mapIdx (fun k w => fv G.2.1 M c k w))
def wl (sh : List Shp) (G : GG) (M : Mem) : va_W := sh.mapIdx (fun c S => (G.2.1 c, cel G M c S))
def AW (sh : List Shp) (ad : Nat → Nat) : Nat → Prop := fun q => ∃ c, c < sh.length ∧ ad c = q
def Inj (sh : List Shp) (ad : Nat → Nat) : Prop := (∀ (cell ci : Nat) (tm : List Value), sh[cell]? = some (.inr (ci, tm)) → tm.length ≤ 1000) ∧ ∀ i j, i < sh.length → j < sh.length → ad i = ad j → i = j
def TYS (G : GG) : List (ClassId × FieldType) := [(G.2.2.1, .int), (G.2.2.2.1, .boolean), (G.2.2.2.2, .array .int)]
theorem wl_get {sh : List Shp} {G : GG} {M : Mem} {c : Nat} {S : Shp} (h : sh[c]? = some S) : (wl sh G M)[c]? = some (G.2.1 c, cel G M c S) := by
  unfold wl
  rw [List.getElem?_mapIdx, h]
  rfl
theorem cel_cong {G : GG} {M M' : Mem} {c : Nat} {S : Shp} (h : M' c = M c) : cel G M' c S = cel G M c S := by
  unfold cel
  split
  · rw [h]
  · rw [h]
  · rfl
  · rename_i ci tm
    refine congrArg (fun z => (Sum.inr (ci, z) : va_E)) (List.mapIdx_eq_mapIdx_iff.mpr ?_)
    intro i hi
    unfold fv gL
    rw [h]
theorem cel_obj {G : GG} {M : Mem} {c ci : Nat} {tm : List Value} : cel G M c (.inr (ci, tm)) = .inr (ci, tm.mapIdx (fun k w => fv G.2.1 M c k w)) := rfl
theorem wl_set {sh : List Shp} {G : GG} {M M' : Mem} {c : Nat} {S : Shp} (h : sh[c]? = some S) (ho : ∀ d, d ≠ c → M' d = M d) : (wl sh G M).set c (G.2.1 c, cel G M' c S) = wl sh G M' := by
  apply List.ext_getElem?
  intro d
  unfold wl
  by_cases e : d = c
  · subst e
    have hl : d < (sh.mapIdx (fun c S => (G.2.1 c, cel G M c S))).length := by
      rw [List.length_mapIdx]
      exact (List.getElem?_eq_some_iff.mp h).1
    rw [List.getElem?_set_self hl, List.getElem?_mapIdx, h]
    rfl
  · rw [List.getElem?_set_ne (Ne.symm e), List.getElem?_mapIdx, List.getElem?_mapIdx]
    cases hs : sh[d]? with
    | none => rfl
    | some T => simp only [Option.map_some]; rw [cel_cong (ho d e)]
theorem wl_D {sh : List Shp} {G : GG} {M : Mem} (hi : Inj sh G.2.1) : va_D (AW sh G.2.1) (wl sh G M) := by
  have key : ∀ (k : Nat) (q : Nat × va_E), (wl sh G M)[k]? = some q → k < sh.length ∧ q.1 = G.2.1 k := by
    intro k q hk
    unfold wl at hk
    rw [List.getElem?_mapIdx] at hk
    cases hs : sh[k]? with
    | none => rw [hs] at hk; cases hk
    | some T =>
      rw [hs] at hk
      cases hk
      exact ⟨(List.getElem?_eq_some_iff.mp hs).1, rfl⟩
  refine ⟨fun i j x y hx hy hxy => ?_, fun k q hk => ?_⟩
  · obtain ⟨a1, a2⟩ := key i x hx
    obtain ⟨b1, b2⟩ := key j y hy
    exact hi.2 i j a1 b1 (by rw [← a2, ← b2]; exact hxy)
  · obtain ⟨a1, a2⟩ := key k q hk
    exact ⟨k, a1, a2.symm⟩
/-- the tables' words that last, and those of nest mates -/
def TBL : List Cond := lw_tbl.filter goodWord
theorem ao_vm {ty : FieldType} {A A' : Array Value} {u U : State} (h : u.vm = U.vm) (hb : (Cond.arrayOver ty).before A u = true) : (Cond.arrayOver ty).before A' U = true := by
  unfold Cond.before Cond.holds at *
  simp only [Cond.value] at *
  rw [← h]
  exact hb
theorem ao_warm {ty : FieldType} {A A' : Array Value} {s U : State} (hW : s.WarmedH U.vm) (hb : (Cond.arrayOver ty).before A s = true) : (Cond.arrayOver ty).before A' U = true := by
  have e := Cond.arrayOver_setVmC (args := A) hW.alike ty
  rw [← e] at hb
  exact ao_vm (A := A) (u := s.setVm U.vm) rfl hb
def isNW : Cond → Bool
  | .fieldLinkNest .. => true
  | .methodLinkNest .. => true
  | .arrayOver _ => true
  | _ => false
def NTB : List Cond := tables_1.filter isNW
def NW (U : State) : Prop := ∀ w ∈ NTB, va_Nw w U
theorem NW.warm {s U : State} (hW : s.WarmedH U.vm) (h : NW s) : NW U := by
  intro w hw
  have h1 := (List.mem_filter.mp hw).2
  have h2 := h w hw
  cases w <;> first | exact va_Nw.warmF hW h2 | exact va_Nw.warmM hW h2 | exact ao_warm (A := #[]) hW h2 | (simp [isNW] at h1)
theorem NW.same {u U : State} (hv : u.vm = U.vm) (h : NW u) : NW U := by
  intro w hw
  have h1 := (List.mem_filter.mp hw).2
  have h2 := h w hw
  cases w <;> first | exact va_Nw.same rfl hv h2 | exact ao_vm (A := #[]) hv h2 | (simp [isNW] at h1)
theorem tmem {w : Cond} (k : Nat) (h : tables_1[k]? = some w) (g : goodWord w = true) : w ∈ TBL :=
  List.mem_filter.mpr ⟨List.mem_append_right _ (List.mem_of_getElem? h), g⟩
theorem smem {w : Cond} (k : Nat) (h : (k2_sels lw_privs)[k]? = some w) (g : goodWord w = true) : w ∈ TBL :=
  List.mem_filter.mpr ⟨List.mem_append_left _ (List.mem_of_getElem? h), g⟩
theorem nmem {w : Cond} (k : Nat) (h : tables_1[k]? = some w) (g : isNW w = true) : w ∈ NTB :=
  List.mem_filter.mpr ⟨List.mem_of_getElem? h, g⟩
theorem tgood {w : Cond} (h : w ∈ TBL) : (w.onTables && w.keeps) = true ∨ ∃ ty, w = .arrayClass ty := good_of_word (List.mem_filter.mp h).2
theorem tsub {ws : List Cond} (h : ∀ w ∈ ws, w ∈ TBL) : GoodIn TBL ws := fun w hw => ⟨h w hw, tgood (h w hw)⟩
/-- what stands outside of the world and stays: a static row, the String constants -/
def underL : List Int32 := [-1, 0, 0, 1, 2, 0]
def EXT (sh : List Shp) (G : GG) (U : State) (H : Heap) : Prop :=
  va_Z "KeepOurPlace" "UNDER" "[I" (.ref (G.2.1 200)) (AW sh G.2.1) U H ∧ va_T .int (G.2.1 200) 6 (fun j => .int (underL.getD j 0)) (AW sh G.2.1) U H ∧
  vk_S 3 lenJS bytJS (fun i => G.2.1 (201 + i)) (fun i => G.2.1 (211 + i)) (AW sh G.2.1) U H ∧
  (vk_R "KeepOurPlace" 71 txJS0 (G.2.1 201) U ∧ vk_R "KeepOurPlace$Reader" 91 txJS1 (G.2.1 202) U ∧ vk_R "KeepOurPlace$Reader" kJS2 txJS2 (G.2.1 203) U) ∧
  va_Z "java/lang/String" "COMPACT_STRINGS" "Z" (.int 1) (AW sh G.2.1) U H ∧ (va_Z "jdk/internal/util/Preconditions" "SIOOBE_FORMATTER" "Ljava/util/function/BiFunction;" (.ref (G.2.1 204)) (AW sh G.2.1) U H ∨ va_Z "jdk/internal/util/Preconditions" "SIOOBE_FORMATTER" "Ljava/util/function/BiFunction;" .null (AW sh G.2.1) U H)
theorem EXT.warm {sh : List Shp} {G : GG} {s U : State} (hW : s.WarmedH U.vm) (h : EXT sh G s s.heap) (hq : ∀ a : Nat, a < s.heap.size → ¬ AW sh G.2.1 a → U.heap[a]? = s.heap[a]?) : EXT sh G U U.heap :=
  ⟨va_Z.moved hW.alike (h.1.kept hq), va_T.moved hW.alike (h.2.1.kept hq), vk_S.moved hW.alike (h.2.2.1.kept hq), ⟨h.2.2.2.1.1.warm hW, h.2.2.2.1.2.1.warm hW, h.2.2.2.1.2.2.warm hW⟩, va_Z.moved hW.alike (h.2.2.2.2.1.kept hq), h.2.2.2.2.2.imp (fun q => va_Z.moved hW.alike (q.kept hq)) (fun q => va_Z.moved hW.alike (q.kept hq))⟩
theorem EXT.call {sh : List Shp} {G : GG} {u : State} {g : JFrame} {mk : MethodId} {a : Array Value} (h : EXT sh G u u.heap) : EXT sh G (u.calling g mk a) (u.calling g mk a).heap :=
  ⟨va_Z.moved (Vm.Alike.refl u.vm) h.1, va_T.moved (Vm.Alike.refl u.vm) h.2.1, vk_S.moved (Vm.Alike.refl u.vm) h.2.2.1, ⟨vk_R.same rfl h.2.2.2.1.1, vk_R.same rfl h.2.2.2.1.2.1, vk_R.same rfl h.2.2.2.1.2.2⟩, va_Z.moved (Vm.Alike.refl u.vm) h.2.2.2.2.1, h.2.2.2.2.2.imp (va_Z.moved (Vm.Alike.refl u.vm)) (va_Z.moved (Vm.Alike.refl u.vm))⟩
/-- a method's contract: from memory M, with these arguments, it answers v and leaves M' -/
def PcX (sh : List Shp) (G : GG) (av : List Value) (M : Mem) : Array Value → State → Prop := fun a U => a = (cvs G.2.1 av).toArray ∧ va_P G.1 classes (wl sh G M) U.heap ∧ va_K G.1 classes (TYS G) U ∧ NW U ∧ EXT sh G U U.heap
def QcX (sh : List Shp) (G : GG) (v : Option Value) (M' : Mem) : Array Value → State → Outcome → State → Prop := fun _ st o t => o = .returned (v.map (cv G.2.1)) ∧ va_P G.1 classes (wl sh G M') t.heap ∧ va_F (AW sh G.2.1) st t
def rmX (d : Nat) : Room := { frames := d, cells := 0, slots := 0, locals := 100 * d }
def MetX (sh : List Shp) (l : Launch) (G : GG) (y : MethodName) (bytes : ByteArray) (mL : Nat) (ret : Option FieldType) (d : Nat) (av : List Value) (M : Mem) (r : Option Value × Mem) : Prop :=
  Met l y (.code y bytes mL ret :: TBL) (rmX d) (PcX sh G av M) (QcX sh G r.1 r.2) 0 0 (AW sh G.2.1)
/-- what a frame of a method knows -/
def FrP (sh : List Shp) (G : GG) (p : Program) (s : State) (m : MethodId) (args : Array Value) (c : Code) (own : String) (cc : ByteArray) (nL : Nat) : Prop :=
  p.tables.exec = Jvm.exec ∧ c.code = cc ∧ c.maxLocals = nL ∧ s.vm.findClass own = some m.cls ∧ (∀ w ∈ TBL, w.before args s = true) ∧ NW s ∧ va_K G.1 classes (TYS G) s ∧ Inj sh G.2.1 ∧ EXT sh G s s.heap
section XJ
variable {p : Program} {l : Launch} {e : Env} {R : Room} {s : State} {m : MethodId} {args : Array Value} {below : List Frame} {meth : Method} {c : Code} {ca sl : Nat} {Q : State → Prop}
variable {sh : List Shp} {G : GG} {own : String} {cc : ByteArray} {nL pc : Nat} {L : List (Nat × Value)} {st : List Value} {M : Mem}
def XJ (sh : List Shp) (p : Program) (l : Launch) (e : Env) (R : Room) (s : State) (m : MethodId) (args : Array Value) (below : List Frame) (meth : Method) (c : Code) (ca sl : Nat) (G : GG) (nL : Nat) (Q : State → Prop) (pc : Nat) (L : List (Nat × Value)) (st : List Value) (M : Mem) : Prop :=
  ∀ (H : Heap) (locs : List Loc) (ls : Array Slot), va_P G.1 classes (wl sh G M) H → va_S (AW sh G.2.1) s.heap H locs → lv_has ls nL (cvl G.2.1 L) → W p l e R s m args below meth c H locs ca sl Q (F0 m pc ls (cvs G.2.1 st))
theorem cv_at {ad : Nat → Nat} {ls : Array Slot} {i : Nat} {v : Value} (hl : lv_has ls nL (cvl ad L)) (h : L.lookup i = some v) : ls[i]? = some (.val (cv ad v)) := by
  have hm : (i, v) ∈ L := by
    clear hl
    induction L with
    | nil => simp at h
    | cons q t ih =>
      obtain ⟨a, b⟩ := q
      rw [List.lookup_cons] at h
      cases hb : i == a with
      | true =>
        rw [hb] at h
        have e := beq_iff_eq.mp hb
        cases h
        subst e
        exact List.mem_cons_self
      | false =>
        rw [hb] at h
        exact List.mem_cons_of_mem _ (ih h)
  exact hl.2.2 (i, cv ad v) (List.mem_map.mpr ⟨(i, v), hm, rfl⟩)
theorem cv_cat (ad : Nat → Nat) (v : Value) : (cv ad v).category = v.category := by cases v <;> rfl
theorem cvs_cat (ad : Nat → Nat) (st : List Value) : ((cvs ad st).map fun v => v.category).sum = (st.map fun v => v.category).sum := by
  unfold cvs
  rw [List.map_map]
  congr 1
  apply List.map_congr_left
  intro v _
  exact cv_cat _ v
def ls1 (L : List (Nat × Value)) (i : Nat) (v : Value) : List (Nat × Value) := (i, v) :: L.filter (fun q => !(q.1 == i) && !(q.1 + 1 == i && q.2.category == 2))
def ls2 (L : List (Nat × Value)) (i : Nat) (v : Value) : List (Nat × Value) := (i, v) :: L.filter (fun q => !(q.1 == i) && (!(q.1 == i + 1) && !(q.1 + 1 == i && q.2.category == 2)))
theorem cvl_f1 (ad : Nat → Nat) (L : List (Nat × Value)) (i : Nat) : (cvl ad L).filter (fun q => !(q.1 == i) && !(q.1 + 1 == i && q.2.category == 2)) = cvl ad (L.filter (fun q => !(q.1 == i) && !(q.1 + 1 == i && q.2.category == 2))) := by
  unfold cvl
  rw [List.filter_map]
  congr 1
  apply List.filter_congr
  intro q _
  simp [Function.comp, cv_cat]
theorem cvl_f2 (ad : Nat → Nat) (L : List (Nat × Value)) (i : Nat) : (cvl ad L).filter (fun q => !(q.1 == i) && (!(q.1 == i + 1) && !(q.1 + 1 == i && q.2.category == 2))) = cvl ad (L.filter (fun q => !(q.1 == i) && (!(q.1 == i + 1) && !(q.1 + 1 == i && q.2.category == 2)))) := by
  unfold cvl
  rw [List.filter_map]
  congr 1
  apply List.filter_congr
  intro q _
  simp [Function.comp, cv_cat]
/-- fewer locals, or in another order -/
theorem X_sub {L' : List (Nat × Value)} (h : L'.all (fun q => L.lookup q.1 == some q.2) = true) (k : XJ sh p l e R s m args below meth c ca sl G nL Q pc L' st M) : XJ sh p l e R s m args below meth c ca sl G nL Q pc L st M := by
  intro H locs ls hP hS hl
  refine k H locs ls hP hS ⟨hl.1, hl.2.1, fun q hq => ?_⟩
  obtain ⟨q0, hq0, rfl⟩ := List.mem_map.mp hq
  have h1 := beq_iff_eq.mp (List.all_eq_true.mp h q0 hq0)
  exact cv_at hl h1
theorem cvl_pick (ad : Nat → Nat) (L : List (Nat × Value)) (ks : List Nat) : lv_pick (cvl ad L) ks = cvl ad (lv_pick L ks) := by
  unfold lv_pick cvl
  induction ks with
  | nil => rfl
  | cons a t ih =>
    rw [List.filterMap_cons, List.filterMap_cons, List.getElem?_map]
    cases L[a]? with
    | none => exact ih
    | some q => simp only [Option.map_some, List.map_cons]; rw [ih]
theorem X_pick {L' : List (Nat × Value)} (ks : List Nat) (h : lv_pick L ks = L') (k : XJ sh p l e R s m args below meth c ca sl G nL Q pc L' st M) : XJ sh p l e R s m args below meth c ca sl G nL Q pc L st M := by
  intro H locs ls hP hS hl
  refine k H locs ls hP hS (lv_sub hl ks ?_)
  subst h
  exact cvl_pick _ _ _
theorem X_iconst (F : FrP sh G p s m args c own cc nL) {n : Int} {v : Int32} (hd : decode cc pc = .ok (.iconst n, 1)) (hv : Int32.ofInt n = v) (k : XJ sh p l e R s m args below meth c ca sl G nL Q (pc + 1) L (.int v :: st) M) : XJ sh p l e R s m args below meth c ca sl G nL Q pc L st M :=
  fun H locs ls hP hS hl => lv_iconst F.1 F.2.1 hd hv (k H locs ls hP hS hl)
theorem X_bipush (F : FrP sh G p s m args c own cc nL) {n : Int} {v : Int32} (hd : decode cc pc = .ok (.bipush n, 2)) (hv : (Int8.ofInt n).toInt32 = v) (k : XJ sh p l e R s m args below meth c ca sl G nL Q (pc + 2) L (.int v :: st) M) : XJ sh p l e R s m args below meth c ca sl G nL Q pc L st M :=
  fun H locs ls hP hS hl => lv_bipush F.1 F.2.1 hd hv (k H locs ls hP hS hl)
theorem X_sipush (F : FrP sh G p s m args c own cc nL) {n : Int} {v : Int32} (hd : decode cc pc = .ok (.sipush n, 3)) (hv : (Int16.ofInt n).toInt32 = v) (k : XJ sh p l e R s m args below meth c ca sl G nL Q (pc + 3) L (.int v :: st) M) : XJ sh p l e R s m args below meth c ca sl G nL Q pc L st M :=
  fun H locs ls hP hS hl => lv_sipush F.1 F.2.1 hd hv (k H locs ls hP hS hl)
theorem X_lconst (F : FrP sh G p s m args c own cc nL) {n : Fin 2} {v : Int64} (hd : decode cc pc = .ok (.lconst n, 1)) (hv : Int64.ofNat (n : Nat) = v) (k : XJ sh p l e R s m args below meth c ca sl G nL Q (pc + 1) L (.long v :: st) M) : XJ sh p l e R s m args below meth c ca sl G nL Q pc L st M :=
  fun H locs ls hP hS hl => lv_lconst F.1 F.2.1 hd hv (k H locs ls hP hS hl)
theorem X_ldc (F : FrP sh G p s m args c own cc nL) {i : Nat} {v : Int32} (hw : Cond.constant own i v ∈ TBL) (hd : decode cc pc = .ok (.ldc i, 2)) (k : XJ sh p l e R s m args below meth c ca sl G nL Q (pc + 2) L (.int v :: st) M) : XJ sh p l e R s m args below meth c ca sl G nL Q pc L st M :=
  fun H locs ls hP hS hl => lv_ldc F.1 F.2.1 F.2.2.2.1 (F.2.2.2.2.1 _ hw) hd (k H locs ls hP hS hl)
theorem X_ldcw (F : FrP sh G p s m args c own cc nL) {i : Nat} {v : Int32} (hw : Cond.constant own i v ∈ TBL) (hd : decode cc pc = .ok (.ldc_w i, 3)) (k : XJ sh p l e R s m args below meth c ca sl G nL Q (pc + 3) L (.int v :: st) M) : XJ sh p l e R s m args below meth c ca sl G nL Q pc L st M :=
  fun H locs ls hP hS hl => lv_ldcw F.1 F.2.1 F.2.2.2.1 (F.2.2.2.2.1 _ hw) hd (k H locs ls hP hS hl)
theorem X_ldc2 (F : FrP sh G p s m args c own cc nL) {i : Nat} {v : Int64} (hw : Cond.constantLong own i v ∈ TBL) (hd : decode cc pc = .ok (.ldc2_w i, 3)) (k : XJ sh p l e R s m args below meth c ca sl G nL Q (pc + 3) L (.long v :: st) M) : XJ sh p l e R s m args below meth c ca sl G nL Q pc L st M :=
  fun H locs ls hP hS hl => lv_ldc2 F.1 F.2.1 F.2.2.2.1 (F.2.2.2.2.1 _ hw) hd (k H locs ls hP hS hl)
theorem X_iload_n (F : FrP sh G p s m args c own cc nL) {k0 : Fin 4} {x : Int32} (hd : decode cc pc = .ok (.iload_n k0, 1)) (h : L.lookup (k0 : Nat) = some (.int x)) (k : XJ sh p l e R s m args below meth c ca sl G nL Q (pc + 1) L (.int x :: st) M) : XJ sh p l e R s m args below meth c ca sl G nL Q pc L st M :=
  fun H locs ls hP hS hl => lv_iload_n F.1 F.2.1 hd rfl (cv_at hl h) (k H locs ls hP hS hl)
theorem X_iload (F : FrP sh G p s m args c own cc nL) {i : Nat} {x : Int32} (hd : decode cc pc = .ok (.iload i, 2)) (h : L.lookup i = some (.int x)) (k : XJ sh p l e R s m args below meth c ca sl G nL Q (pc + 2) L (.int x :: st) M) : XJ sh p l e R s m args below meth c ca sl G nL Q pc L st M :=
  fun H locs ls hP hS hl => lv_iload F.1 F.2.1 hd (cv_at hl h) (k H locs ls hP hS hl)
theorem X_lload_n (F : FrP sh G p s m args c own cc nL) {k0 : Fin 4} {x : Int64} (hd : decode cc pc = .ok (.lload_n k0, 1)) (h : L.lookup (k0 : Nat) = some (.long x)) (k : XJ sh p l e R s m args below meth c ca sl G nL Q (pc + 1) L (.long x :: st) M) : XJ sh p l e R s m args below meth c ca sl G nL Q pc L st M :=
  fun H locs ls hP hS hl => lv_lload_n F.1 F.2.1 hd rfl (cv_at hl h) (k H locs ls hP hS hl)
theorem X_lload (F : FrP sh G p s m args c own cc nL) {i : Nat} {x : Int64} (hd : decode cc pc = .ok (.lload i, 2)) (h : L.lookup i = some (.long x)) (k : XJ sh p l e R s m args below meth c ca sl G nL Q (pc + 2) L (.long x :: st) M) : XJ sh p l e R s m args below meth c ca sl G nL Q pc L st M :=
  fun H locs ls hP hS hl => lv_lload F.1 F.2.1 hd (cv_at hl h) (k H locs ls hP hS hl)
theorem X_aload_n (F : FrP sh G p s m args c own cc nL) {k0 : Fin 4} {x : Nat} (hd : decode cc pc = .ok (.aload_n k0, 1)) (h : L.lookup (k0 : Nat) = some (.ref x)) (k : XJ sh p l e R s m args below meth c ca sl G nL Q (pc + 1) L (.ref x :: st) M) : XJ sh p l e R s m args below meth c ca sl G nL Q pc L st M :=
  fun H locs ls hP hS hl => lv_aload_n F.1 F.2.1 hd rfl (cv_at hl h) (k H locs ls hP hS hl)
theorem X_aload (F : FrP sh G p s m args c own cc nL) {i : Nat} {x : Nat} (hd : decode cc pc = .ok (.aload i, 2)) (h : L.lookup i = some (.ref x)) (k : XJ sh p l e R s m args below meth c ca sl G nL Q (pc + 2) L (.ref x :: st) M) : XJ sh p l e R s m args below meth c ca sl G nL Q pc L st M :=
  fun H locs ls hP hS hl => lv_aload F.1 F.2.1 hd (cv_at hl h) (k H locs ls hP hS hl)
theorem X_istore_n (F : FrP sh G p s m args c own cc nL) {k0 : Fin 4} {x : Int32} {L' : List (Nat × Value)} (hd : decode cc pc = .ok (.istore_n k0, 1)) (hn : (k0 : Nat) < nL) (hl' : ls1 L (k0 : Nat) (.int x) = L') (k : XJ sh p l e R s m args below meth c ca sl G nL Q (pc + 1) L' st M) : XJ sh p l e R s m args below meth c ca sl G nL Q pc L (.int x :: st) M :=
  fun H locs ls hP hS hl => lv_istore_n (lv' := cvl G.2.1 L') F.1 F.2.1 hd rfl hl hn (by subst hl'; rw [cvl_f1]; rfl) (fun ls' hl2 => k H locs ls' hP hS hl2)
theorem X_istore (F : FrP sh G p s m args c own cc nL) {i : Nat} {x : Int32} {L' : List (Nat × Value)} (hd : decode cc pc = .ok (.istore i, 2)) (hn : i < nL) (hl' : ls1 L i (.int x) = L') (k : XJ sh p l e R s m args below meth c ca sl G nL Q (pc + 2) L' st M) : XJ sh p l e R s m args below meth c ca sl G nL Q pc L (.int x :: st) M :=
  fun H locs ls hP hS hl => lv_istore (lv' := cvl G.2.1 L') F.1 F.2.1 hd hl hn (by subst hl'; rw [cvl_f1]; rfl) (fun ls' hl2 => k H locs ls' hP hS hl2)
theorem X_lstore_n (F : FrP sh G p s m args c own cc nL) {k0 : Fin 4} {x : Int64} {L' : List (Nat × Value)} (hd : decode cc pc = .ok (.lstore_n k0, 1)) (hn : (k0 : Nat) + 1 < nL) (hl' : ls2 L (k0 : Nat) (.long x) = L') (k : XJ sh p l e R s m args below meth c ca sl G nL Q (pc + 1) L' st M) : XJ sh p l e R s m args below meth c ca sl G nL Q pc L (.long x :: st) M :=
  fun H locs ls hP hS hl => lv_lstore_n (lv' := cvl G.2.1 L') F.1 F.2.1 hd rfl hl hn (by subst hl'; rw [cvl_f2]; rfl) (fun ls' hl2 => k H locs ls' hP hS hl2)
theorem X_lstore (F : FrP sh G p s m args c own cc nL) {i : Nat} {x : Int64} {L' : List (Nat × Value)} (hd : decode cc pc = .ok (.lstore i, 2)) (hn : i + 1 < nL) (hl' : ls2 L i (.long x) = L') (k : XJ sh p l e R s m args below meth c ca sl G nL Q (pc + 2) L' st M) : XJ sh p l e R s m args below meth c ca sl G nL Q pc L (.long x :: st) M :=
  fun H locs ls hP hS hl => lv_lstore (lv' := cvl G.2.1 L') F.1 F.2.1 hd hl hn (by subst hl'; rw [cvl_f2]; rfl) (fun ls' hl2 => k H locs ls' hP hS hl2)
theorem X_astore_n (F : FrP sh G p s m args c own cc nL) {k0 : Fin 4} {x : Nat} {L' : List (Nat × Value)} (hd : decode cc pc = .ok (.astore_n k0, 1)) (hn : (k0 : Nat) < nL) (hl' : ls1 L (k0 : Nat) (.ref x) = L') (k : XJ sh p l e R s m args below meth c ca sl G nL Q (pc + 1) L' st M) : XJ sh p l e R s m args below meth c ca sl G nL Q pc L (.ref x :: st) M :=
  fun H locs ls hP hS hl => lv_astore_n (lv' := cvl G.2.1 L') F.1 F.2.1 hd rfl hl hn (by subst hl'; rw [cvl_f1]; rfl) (fun ls' hl2 => k H locs ls' hP hS hl2)
theorem X_astore (F : FrP sh G p s m args c own cc nL) {i : Nat} {x : Nat} {L' : List (Nat × Value)} (hd : decode cc pc = .ok (.astore i, 2)) (hn : i < nL) (hl' : ls1 L i (.ref x) = L') (k : XJ sh p l e R s m args below meth c ca sl G nL Q (pc + 2) L' st M) : XJ sh p l e R s m args below meth c ca sl G nL Q pc L (.ref x :: st) M :=
  fun H locs ls hP hS hl => lv_astore (lv' := cvl G.2.1 L') F.1 F.2.1 hd hl hn (by subst hl'; rw [cvl_f1]; rfl) (fun ls' hl2 => k H locs ls' hP hS hl2)
theorem lk_get {L : List (Nat × Value)} {i : Nat} {v : Value} (h : L.lookup i = some v) : ∃ k : Nat, L[k]? = some (i, v) := by
  induction L with
  | nil => simp at h
  | cons q t ih =>
    obtain ⟨a, b⟩ := q
    rw [List.lookup_cons] at h
    cases hb : i == a with
    | true =>
      rw [hb] at h
      have e := beq_iff_eq.mp hb
      cases h
      subst e
      exact ⟨0, rfl⟩
    | false =>
      rw [hb] at h
      obtain ⟨k, hk⟩ := ih h
      exact ⟨k + 1, hk⟩
theorem X_iinc (F : FrP sh G p s m args c own cc nL) {i : Nat} {n : Int} {x v : Int32} {L' : List (Nat × Value)} (hd : decode cc pc = .ok (.iinc i n, 3)) (h : L.lookup i = some (.int x)) (hv : Int32.ofInt n = v) (hn : i < nL) (hl' : ls1 L i (.int (x + v)) = L') (k : XJ sh p l e R s m args below meth c ca sl G nL Q (pc + 3) L' st M) : XJ sh p l e R s m args below meth c ca sl G nL Q pc L st M := by
  intro H locs ls hP hS hl
  obtain ⟨j, hj⟩ := lk_get h
  refine lv_iinc (lv' := cvl G.2.1 L') (v := x + v) (k := j) F.1 F.2.1 hd hl ?_ (by rw [hv]) hn (by subst hl'; rw [cvl_f1]; rfl) (fun ls' hl2 => k H locs ls' hP hS hl2)
  unfold cvl
  rw [List.getElem?_map, hj]
  rfl
end XJ
def jrem (x y : Int32) : Int32 := x - x / y * y
def jremL (x y : Int64) : Int64 := x - x / y * y
def jchar (x : Int32) : Int32 := (x.toUInt32 % 65536).toInt32
def jushr (x y : Int32) : Int32 := (x.toUInt32 >>> (y.toUInt32 &&& Int32.toUInt32 31)).toInt32
def jmax (x y : Int32) : Int32 := if x < y then y else x
def jmin (x y : Int32) : Int32 := if y < x then y else x
def jabs (x : Int32) : Int32 := if 0 ≤ x then x else 0 - x
/-- a place in a row; a boolean -/
def inb (i : Int32) (n : Nat) : Bool := decide (¬ (i < 0 ∨ n ≤ i.toNatClampNeg))
theorem inbV {i : Int32} {n : Nat} (h : inb i n = true) : vp_in i n := show ¬ (i < 0 ∨ n ≤ i.toNatClampNeg) from of_decide_eq_true h
def z01 (v : Int32) : Bool := v == 0 || v == 1
theorem z01N {v : Int32} (h : z01 v = true) : narrow .boolean (.int v) = .int v := by
  unfold z01 at h
  rcases Bool.or_eq_true_iff.mp h with h | h
  · rw [beq_iff_eq.mp h]; rfl
  · rw [beq_iff_eq.mp h]; rfl
theorem ifS {c : Prop} [Decidable c] {α : Type} {x : Option α} {r : α} (h : (if c then x else none) = some r) : c ∧ x = some r := by
  by_cases q : c
  · rw [if_pos q] at h; exact ⟨q, h⟩
  · rw [if_neg q] at h; cases h
theorem bndS {α β : Type} {o : Option α} {f : α → Option β} {b : β} (h : o.bind f = some b) : ∃ a, o = some a ∧ f a = some b := Option.bind_eq_some_iff.mp h
theorem retI {v : Int32} {M : Mem} {r : Int32 × Mem} (h : some (v, M) = some r) : ((some (.int r.1), r.2) : Option Value × Mem) = (some (.int v), M) := by cases h; rfl
theorem retL {v : Int64} {M : Mem} {r : Int64 × Mem} (h : some (v, M) = some r) : ((some (.long r.1), r.2) : Option Value × Mem) = (some (.long v), M) := by cases h; rfl
theorem retV {M : Mem} {r : Int32 × Mem} (h : some ((0 : Int32), M) = some r) : ((none, r.2) : Option Value × Mem) = (none, M) := by cases h; rfl
theorem rm_ok {D mL : Nat} (h : 1 ≤ D) (hm : mL ≤ 60) : (D - 1) + 1 ≤ (rmX D).frames ∧ 8 + (mL + 11) + 100 * (D - 1) ≤ (rmX D).locals ∧ 0 ≤ (rmX D).cells ∧ 0 ≤ (rmX D).slots := by
  simp only [rmX]
  omega
theorem rm_1 {D : Nat} (h : 1 ≤ D) : 1 ≤ (rmX D).frames ∧ 0 ≤ (rmX D).cells ∧ 0 ≤ (rmX D).slots := by
  simp only [rmX]
  omega
theorem rm_w {D k n : Nat} (h : 1 ≤ D) (hk : k ≤ n) (hn : n ≤ 99) : k ≤ (rmX D).locals := by
  simp only [rmX]
  omega
def FUEL : Nat := 100000
section XR
variable {p : Program} {l : Launch} {e : Env} {R : Room} {s : State} {m : MethodId} {args : Array Value} {below : List Frame} {meth : Method} {c : Code} {ca sl : Nat} {Q : State → Prop}
variable {sh : List Shp} {G : GG} {own : String} {cc : ByteArray} {nL pc : Nat} {L : List (Nat × Value)} {st : List Value} {M : Mem}
theorem X_iadd (F : FrP sh G p s m args c own cc nL) {x y : Int32} (hd : decode cc pc = .ok (.iadd, 1)) (k : XJ sh p l e R s m args below meth c ca sl G nL Q (pc + 1) L (.int (x + y) :: st) M) : XJ sh p l e R s m args below meth c ca sl G nL Q pc L (.int y :: .int x :: st) M :=
  fun H locs ls hP hS hl => lv_iadd F.1 F.2.1 hd (k H locs ls hP hS hl)
theorem X_isub (F : FrP sh G p s m args c own cc nL) {x y : Int32} (hd : decode cc pc = .ok (.isub, 1)) (k : XJ sh p l e R s m args below meth c ca sl G nL Q (pc + 1) L (.int (x - y) :: st) M) : XJ sh p l e R s m args below meth c ca sl G nL Q pc L (.int y :: .int x :: st) M :=
  fun H locs ls hP hS hl => lv_isub F.1 F.2.1 hd (k H locs ls hP hS hl)
theorem X_imul (F : FrP sh G p s m args c own cc nL) {x y : Int32} (hd : decode cc pc = .ok (.imul, 1)) (k : XJ sh p l e R s m args below meth c ca sl G nL Q (pc + 1) L (.int (x * y) :: st) M) : XJ sh p l e R s m args below meth c ca sl G nL Q pc L (.int y :: .int x :: st) M :=
  fun H locs ls hP hS hl => lv_imul F.1 F.2.1 hd (k H locs ls hP hS hl)
theorem X_iand (F : FrP sh G p s m args c own cc nL) {x y : Int32} (hd : decode cc pc = .ok (.iand, 1)) (k : XJ sh p l e R s m args below meth c ca sl G nL Q (pc + 1) L (.int (x &&& y) :: st) M) : XJ sh p l e R s m args below meth c ca sl G nL Q pc L (.int y :: .int x :: st) M :=
  fun H locs ls hP hS hl => lv_iand F.1 F.2.1 hd (k H locs ls hP hS hl)
theorem X_ior (F : FrP sh G p s m args c own cc nL) {x y : Int32} (hd : decode cc pc = .ok (.ior, 1)) (k : XJ sh p l e R s m args below meth c ca sl G nL Q (pc + 1) L (.int (x ||| y) :: st) M) : XJ sh p l e R s m args below meth c ca sl G nL Q pc L (.int y :: .int x :: st) M :=
  fun H locs ls hP hS hl => lv_ior F.1 F.2.1 hd (k H locs ls hP hS hl)
theorem X_ixor (F : FrP sh G p s m args c own cc nL) {x y : Int32} (hd : decode cc pc = .ok (.ixor, 1)) (k : XJ sh p l e R s m args below meth c ca sl G nL Q (pc + 1) L (.int (x ^^^ y) :: st) M) : XJ sh p l e R s m args below meth c ca sl G nL Q pc L (.int y :: .int x :: st) M :=
  fun H locs ls hP hS hl => lv_ixor F.1 F.2.1 hd (k H locs ls hP hS hl)
theorem X_ishl (F : FrP sh G p s m args c own cc nL) {x y : Int32} (hd : decode cc pc = .ok (.ishl, 1)) (k : XJ sh p l e R s m args below meth c ca sl G nL Q (pc + 1) L (.int (x <<< (y &&& 31)) :: st) M) : XJ sh p l e R s m args below meth c ca sl G nL Q pc L (.int y :: .int x :: st) M :=
  fun H locs ls hP hS hl => lv_ishl F.1 F.2.1 hd (k H locs ls hP hS hl)
theorem X_ishr (F : FrP sh G p s m args c own cc nL) {x y : Int32} (hd : decode cc pc = .ok (.ishr, 1)) (k : XJ sh p l e R s m args below meth c ca sl G nL Q (pc + 1) L (.int (x >>> (y &&& 31)) :: st) M) : XJ sh p l e R s m args below meth c ca sl G nL Q pc L (.int y :: .int x :: st) M :=
  fun H locs ls hP hS hl => lv_ishr F.1 F.2.1 hd (k H locs ls hP hS hl)
theorem X_ladd (F : FrP sh G p s m args c own cc nL) {x y : Int64} (hd : decode cc pc = .ok (.ladd, 1)) (k : XJ sh p l e R s m args below meth c ca sl G nL Q (pc + 1) L (.long (x + y) :: st) M) : XJ sh p l e R s m args below meth c ca sl G nL Q pc L (.long y :: .long x :: st) M :=
  fun H locs ls hP hS hl => lv_ladd F.1 F.2.1 hd (k H locs ls hP hS hl)
theorem X_lsub (F : FrP sh G p s m args c own cc nL) {x y : Int64} (hd : decode cc pc = .ok (.lsub, 1)) (k : XJ sh p l e R s m args below meth c ca sl G nL Q (pc + 1) L (.long (x - y) :: st) M) : XJ sh p l e R s m args below meth c ca sl G nL Q pc L (.long y :: .long x :: st) M :=
  fun H locs ls hP hS hl => lv_lsub F.1 F.2.1 hd (k H locs ls hP hS hl)
theorem X_lmul (F : FrP sh G p s m args c own cc nL) {x y : Int64} (hd : decode cc pc = .ok (.lmul, 1)) (k : XJ sh p l e R s m args below meth c ca sl G nL Q (pc + 1) L (.long (x * y) :: st) M) : XJ sh p l e R s m args below meth c ca sl G nL Q pc L (.long y :: .long x :: st) M :=
  fun H locs ls hP hS hl => lv_lmul F.1 F.2.1 hd (k H locs ls hP hS hl)
theorem X_idiv (F : FrP sh G p s m args c own cc nL) {x y : Int32} (hd : decode cc pc = .ok (.idiv, 1)) (hne : ¬ y = 0) (k : XJ sh p l e R s m args below meth c ca sl G nL Q (pc + 1) L (.int (x / y) :: st) M) : XJ sh p l e R s m args below meth c ca sl G nL Q pc L (.int y :: .int x :: st) M :=
  fun H locs ls hP hS hl => lv_idiv F.1 F.2.1 hd hne (k H locs ls hP hS hl)
theorem X_irem (F : FrP sh G p s m args c own cc nL) {x y : Int32} (hd : decode cc pc = .ok (.irem, 1)) (hne : ¬ y = 0) (k : XJ sh p l e R s m args below meth c ca sl G nL Q (pc + 1) L (.int (jrem x y) :: st) M) : XJ sh p l e R s m args below meth c ca sl G nL Q pc L (.int y :: .int x :: st) M :=
  fun H locs ls hP hS hl => lv_irem F.1 F.2.1 hd hne (k H locs ls hP hS hl)
theorem X_ldiv (F : FrP sh G p s m args c own cc nL) {x y : Int64} (hd : decode cc pc = .ok (.ldiv, 1)) (hne : ¬ y = 0) (k : XJ sh p l e R s m args below meth c ca sl G nL Q (pc + 1) L (.long (x / y) :: st) M) : XJ sh p l e R s m args below meth c ca sl G nL Q pc L (.long y :: .long x :: st) M :=
  fun H locs ls hP hS hl => lv_ldiv F.1 F.2.1 hd hne (k H locs ls hP hS hl)
theorem X_lrem (F : FrP sh G p s m args c own cc nL) {x y : Int64} (hd : decode cc pc = .ok (.lrem, 1)) (hne : ¬ y = 0) (k : XJ sh p l e R s m args below meth c ca sl G nL Q (pc + 1) L (.long (jremL x y) :: st) M) : XJ sh p l e R s m args below meth c ca sl G nL Q pc L (.long y :: .long x :: st) M :=
  fun H locs ls hP hS hl => lv_lrem F.1 F.2.1 hd hne (k H locs ls hP hS hl)
theorem X_ineg (F : FrP sh G p s m args c own cc nL) {x : Int32} (hd : decode cc pc = .ok (.ineg, 1)) (k : XJ sh p l e R s m args below meth c ca sl G nL Q (pc + 1) L (.int (-x) :: st) M) : XJ sh p l e R s m args below meth c ca sl G nL Q pc L (.int x :: st) M :=
  fun H locs ls hP hS hl => lv_ineg F.1 F.2.1 hd (k H locs ls hP hS hl)
theorem X_i2l (F : FrP sh G p s m args c own cc nL) {x : Int32} (hd : decode cc pc = .ok (.i2l, 1)) (k : XJ sh p l e R s m args below meth c ca sl G nL Q (pc + 1) L (.long (x.toInt64) :: st) M) : XJ sh p l e R s m args below meth c ca sl G nL Q pc L (.int x :: st) M :=
  fun H locs ls hP hS hl => lv_i2l F.1 F.2.1 hd rfl (k H locs ls hP hS hl)
theorem X_l2i (F : FrP sh G p s m args c own cc nL) {x : Int64} (hd : decode cc pc = .ok (.l2i, 1)) (k : XJ sh p l e R s m args below meth c ca sl G nL Q (pc + 1) L (.int (x.toInt32) :: st) M) : XJ sh p l e R s m args below meth c ca sl G nL Q pc L (.long x :: st) M :=
  fun H locs ls hP hS hl => lv_l2i F.1 F.2.1 hd rfl (k H locs ls hP hS hl)
theorem X_i2b (F : FrP sh G p s m args c own cc nL) {x : Int32} (hd : decode cc pc = .ok (.i2b, 1)) (k : XJ sh p l e R s m args below meth c ca sl G nL Q (pc + 1) L (.int (x.toInt8.toInt32) :: st) M) : XJ sh p l e R s m args below meth c ca sl G nL Q pc L (.int x :: st) M :=
  fun H locs ls hP hS hl => lv_i2b F.1 F.2.1 hd rfl (k H locs ls hP hS hl)
theorem X_i2s (F : FrP sh G p s m args c own cc nL) {x : Int32} (hd : decode cc pc = .ok (.i2s, 1)) (k : XJ sh p l e R s m args below meth c ca sl G nL Q (pc + 1) L (.int (x.toInt16.toInt32) :: st) M) : XJ sh p l e R s m args below meth c ca sl G nL Q pc L (.int x :: st) M :=
  fun H locs ls hP hS hl => lv_i2s F.1 F.2.1 hd rfl (k H locs ls hP hS hl)
theorem X_i2c (F : FrP sh G p s m args c own cc nL) {x : Int32} (hd : decode cc pc = .ok (.i2c, 1)) (k : XJ sh p l e R s m args below meth c ca sl G nL Q (pc + 1) L (.int (jchar x) :: st) M) : XJ sh p l e R s m args below meth c ca sl G nL Q pc L (.int x :: st) M :=
  fun H locs ls hP hS hl => lv_i2c F.1 F.2.1 hd rfl (k H locs ls hP hS hl)
theorem X_iushr (F : FrP sh G p s m args c own cc nL) {x y : Int32} (hd : decode cc pc = .ok (.iushr, 1)) (k : XJ sh p l e R s m args below meth c ca sl G nL Q (pc + 1) L (.int (jushr x y) :: st) M) : XJ sh p l e R s m args below meth c ca sl G nL Q pc L (.int y :: .int x :: st) M :=
  fun H locs ls hP hS hl => lv_iushr F.1 F.2.1 hd rfl (k H locs ls hP hS hl)
theorem X_lcmp (F : FrP sh G p s m args c own cc nL) {x y : Int64} (hd : decode cc pc = .ok (.lcmp, 1)) (k : XJ sh p l e R s m args below meth c ca sl G nL Q (pc + 1) L (.int (lg_cmp x y) :: st) M) : XJ sh p l e R s m args below meth c ca sl G nL Q pc L (.long y :: .long x :: st) M :=
  fun H locs ls hP hS hl => W.lcmp F.1 F.2.1 hd (k H locs ls hP hS hl)
theorem X_dup (F : FrP sh G p s m args c own cc nL) {v : Value} (hd : decode cc pc = .ok (.dup, 1)) (hc : v.category = 1) (k : XJ sh p l e R s m args below meth c ca sl G nL Q (pc + 1) L (v :: v :: st) M) : XJ sh p l e R s m args below meth c ca sl G nL Q pc L (v :: st) M :=
  fun H locs ls hP hS hl => lv_dup F.1 F.2.1 hd (by rw [cv_cat]; exact hc) (k H locs ls hP hS hl)
theorem X_pop (F : FrP sh G p s m args c own cc nL) {v : Value} (hd : decode cc pc = .ok (.pop, 1)) (hc : v.category = 1) (k : XJ sh p l e R s m args below meth c ca sl G nL Q (pc + 1) L st M) : XJ sh p l e R s m args below meth c ca sl G nL Q pc L (v :: st) M :=
  fun H locs ls hP hS hl => lv_pop F.1 F.2.1 hd (by rw [cv_cat]; exact hc) (k H locs ls hP hS hl)
theorem X_goto (F : FrP sh G p s m args c own cc nL) {off : Int} {tgt : Nat} (hd : decode cc pc = .ok (.goto off, 3)) (ht : (pc : Int) + off = (tgt : Int)) (k : XJ sh p l e R s m args below meth c ca sl G nL Q tgt L st M) : XJ sh p l e R s m args below meth c ca sl G nL Q pc L st M :=
  fun H locs ls hP hS hl => lv_goto F.1 F.2.1 hd ht (k H locs ls hP hS hl)
theorem X_icmp_eq (F : FrP sh G p s m args c own cc nL) {x y : Int32} {off : Int} {tgt : Nat} (hd : decode cc pc = .ok (.if_icmp .eq off, 3)) (ht : (pc : Int) + off = (tgt : Int)) (kt : x = y → XJ sh p l e R s m args below meth c ca sl G nL Q tgt L st M) (kf : ¬ x = y → XJ sh p l e R s m args below meth c ca sl G nL Q (pc + 3) L st M) : XJ sh p l e R s m args below meth c ca sl G nL Q pc L (.int y :: .int x :: st) M :=
  fun H locs ls hP hS hl => lv_icmp_eq F.1 F.2.1 hd ht (fun q => kt q H locs ls hP hS hl) (fun q => kf q H locs ls hP hS hl)
theorem X_if_eq (F : FrP sh G p s m args c own cc nL) {x : Int32} {off : Int} {tgt : Nat} (hd : decode cc pc = .ok (.ifCond .eq off, 3)) (ht : (pc : Int) + off = (tgt : Int)) (kt : x = 0 → XJ sh p l e R s m args below meth c ca sl G nL Q tgt L st M) (kf : ¬ x = 0 → XJ sh p l e R s m args below meth c ca sl G nL Q (pc + 3) L st M) : XJ sh p l e R s m args below meth c ca sl G nL Q pc L (.int x :: st) M :=
  fun H locs ls hP hS hl => lv_if_eq F.1 F.2.1 hd ht (fun q => kt q H locs ls hP hS hl) (fun q => kf q H locs ls hP hS hl)
theorem X_icmp_ne (F : FrP sh G p s m args c own cc nL) {x y : Int32} {off : Int} {tgt : Nat} (hd : decode cc pc = .ok (.if_icmp .ne off, 3)) (ht : (pc : Int) + off = (tgt : Int)) (kt : ¬ x = y → XJ sh p l e R s m args below meth c ca sl G nL Q tgt L st M) (kf : x = y → XJ sh p l e R s m args below meth c ca sl G nL Q (pc + 3) L st M) : XJ sh p l e R s m args below meth c ca sl G nL Q pc L (.int y :: .int x :: st) M :=
  fun H locs ls hP hS hl => lv_icmp_ne F.1 F.2.1 hd ht (fun q => kt q H locs ls hP hS hl) (fun q => kf q H locs ls hP hS hl)
theorem X_if_ne (F : FrP sh G p s m args c own cc nL) {x : Int32} {off : Int} {tgt : Nat} (hd : decode cc pc = .ok (.ifCond .ne off, 3)) (ht : (pc : Int) + off = (tgt : Int)) (kt : ¬ x = 0 → XJ sh p l e R s m args below meth c ca sl G nL Q tgt L st M) (kf : x = 0 → XJ sh p l e R s m args below meth c ca sl G nL Q (pc + 3) L st M) : XJ sh p l e R s m args below meth c ca sl G nL Q pc L (.int x :: st) M :=
  fun H locs ls hP hS hl => lv_if_ne F.1 F.2.1 hd ht (fun q => kt q H locs ls hP hS hl) (fun q => kf q H locs ls hP hS hl)
theorem X_icmp_lt (F : FrP sh G p s m args c own cc nL) {x y : Int32} {off : Int} {tgt : Nat} (hd : decode cc pc = .ok (.if_icmp .lt off, 3)) (ht : (pc : Int) + off = (tgt : Int)) (kt : x < y → XJ sh p l e R s m args below meth c ca sl G nL Q tgt L st M) (kf : ¬ x < y → XJ sh p l e R s m args below meth c ca sl G nL Q (pc + 3) L st M) : XJ sh p l e R s m args below meth c ca sl G nL Q pc L (.int y :: .int x :: st) M :=
  fun H locs ls hP hS hl => lv_icmp_lt F.1 F.2.1 hd ht (fun q => kt q H locs ls hP hS hl) (fun q => kf q H locs ls hP hS hl)
theorem X_if_lt (F : FrP sh G p s m args c own cc nL) {x : Int32} {off : Int} {tgt : Nat} (hd : decode cc pc = .ok (.ifCond .lt off, 3)) (ht : (pc : Int) + off = (tgt : Int)) (kt : x < 0 → XJ sh p l e R s m args below meth c ca sl G nL Q tgt L st M) (kf : ¬ x < 0 → XJ sh p l e R s m args below meth c ca sl G nL Q (pc + 3) L st M) : XJ sh p l e R s m args below meth c ca sl G nL Q pc L (.int x :: st) M :=
  fun H locs ls hP hS hl => lv_if_lt F.1 F.2.1 hd ht (fun q => kt q H locs ls hP hS hl) (fun q => kf q H locs ls hP hS hl)
theorem X_icmp_ge (F : FrP sh G p s m args c own cc nL) {x y : Int32} {off : Int} {tgt : Nat} (hd : decode cc pc = .ok (.if_icmp .ge off, 3)) (ht : (pc : Int) + off = (tgt : Int)) (kt : y ≤ x → XJ sh p l e R s m args below meth c ca sl G nL Q tgt L st M) (kf : ¬ y ≤ x → XJ sh p l e R s m args below meth c ca sl G nL Q (pc + 3) L st M) : XJ sh p l e R s m args below meth c ca sl G nL Q pc L (.int y :: .int x :: st) M :=
  fun H locs ls hP hS hl => lv_icmp_ge F.1 F.2.1 hd ht (fun q => kt q H locs ls hP hS hl) (fun q => kf q H locs ls hP hS hl)
theorem X_if_ge (F : FrP sh G p s m args c own cc nL) {x : Int32} {off : Int} {tgt : Nat} (hd : decode cc pc = .ok (.ifCond .ge off, 3)) (ht : (pc : Int) + off = (tgt : Int)) (kt : 0 ≤ x → XJ sh p l e R s m args below meth c ca sl G nL Q tgt L st M) (kf : ¬ 0 ≤ x → XJ sh p l e R s m args below meth c ca sl G nL Q (pc + 3) L st M) : XJ sh p l e R s m args below meth c ca sl G nL Q pc L (.int x :: st) M :=
  fun H locs ls hP hS hl => lv_if_ge F.1 F.2.1 hd ht (fun q => kt q H locs ls hP hS hl) (fun q => kf q H locs ls hP hS hl)
theorem X_icmp_gt (F : FrP sh G p s m args c own cc nL) {x y : Int32} {off : Int} {tgt : Nat} (hd : decode cc pc = .ok (.if_icmp .gt off, 3)) (ht : (pc : Int) + off = (tgt : Int)) (kt : y < x → XJ sh p l e R s m args below meth c ca sl G nL Q tgt L st M) (kf : ¬ y < x → XJ sh p l e R s m args below meth c ca sl G nL Q (pc + 3) L st M) : XJ sh p l e R s m args below meth c ca sl G nL Q pc L (.int y :: .int x :: st) M :=
  fun H locs ls hP hS hl => lv_icmp_gt F.1 F.2.1 hd ht (fun q => kt q H locs ls hP hS hl) (fun q => kf q H locs ls hP hS hl)
theorem X_if_gt (F : FrP sh G p s m args c own cc nL) {x : Int32} {off : Int} {tgt : Nat} (hd : decode cc pc = .ok (.ifCond .gt off, 3)) (ht : (pc : Int) + off = (tgt : Int)) (kt : 0 < x → XJ sh p l e R s m args below meth c ca sl G nL Q tgt L st M) (kf : ¬ 0 < x → XJ sh p l e R s m args below meth c ca sl G nL Q (pc + 3) L st M) : XJ sh p l e R s m args below meth c ca sl G nL Q pc L (.int x :: st) M :=
  fun H locs ls hP hS hl => lv_if_gt F.1 F.2.1 hd ht (fun q => kt q H locs ls hP hS hl) (fun q => kf q H locs ls hP hS hl)
theorem X_icmp_le (F : FrP sh G p s m args c own cc nL) {x y : Int32} {off : Int} {tgt : Nat} (hd : decode cc pc = .ok (.if_icmp .le off, 3)) (ht : (pc : Int) + off = (tgt : Int)) (kt : x ≤ y → XJ sh p l e R s m args below meth c ca sl G nL Q tgt L st M) (kf : ¬ x ≤ y → XJ sh p l e R s m args below meth c ca sl G nL Q (pc + 3) L st M) : XJ sh p l e R s m args below meth c ca sl G nL Q pc L (.int y :: .int x :: st) M :=
  fun H locs ls hP hS hl => lv_icmp_le F.1 F.2.1 hd ht (fun q => kt q H locs ls hP hS hl) (fun q => kf q H locs ls hP hS hl)
theorem X_if_le (F : FrP sh G p s m args c own cc nL) {x : Int32} {off : Int} {tgt : Nat} (hd : decode cc pc = .ok (.ifCond .le off, 3)) (ht : (pc : Int) + off = (tgt : Int)) (kt : x ≤ 0 → XJ sh p l e R s m args below meth c ca sl G nL Q tgt L st M) (kf : ¬ x ≤ 0 → XJ sh p l e R s m args below meth c ca sl G nL Q (pc + 3) L st M) : XJ sh p l e R s m args below meth c ca sl G nL Q pc L (.int x :: st) M :=
  fun H locs ls hP hS hl => lv_if_le F.1 F.2.1 hd ht (fun q => kt q H locs ls hP hS hl) (fun q => kf q H locs ls hP hS hl)
theorem X_tin (F : FrP sh G p s m args c own cc nL) {x : Int32} {dflt lo hi : Int} {offs : Array Int} {len : Nat} {off : Int} {tgt : Nat} (hd : decode cc pc = .ok (.tableswitch dflt lo hi offs, len)) (h : ¬ x.toInt < lo ∧ ¬ hi < x.toInt ∧ offs[(x.toInt - lo).toNat]? = some off) (ht : (pc : Int) + off = (tgt : Int)) (k : XJ sh p l e R s m args below meth c ca sl G nL Q tgt L st M) : XJ sh p l e R s m args below meth c ca sl G nL Q pc L (.int x :: st) M :=
  fun H locs ls hP hS hl => lv_tableIn F.1 F.2.1 hd h.1 h.2.1 h.2.2 ht (k H locs ls hP hS hl)
theorem X_tout (F : FrP sh G p s m args c own cc nL) {x : Int32} {dflt lo hi : Int} {offs : Array Int} {len : Nat} {tgt : Nat} (hd : decode cc pc = .ok (.tableswitch dflt lo hi offs, len)) (h : x.toInt < lo ∨ hi < x.toInt) (ht : (pc : Int) + dflt = (tgt : Int)) (k : XJ sh p l e R s m args below meth c ca sl G nL Q tgt L st M) : XJ sh p l e R s m args below meth c ca sl G nL Q pc L (.int x :: st) M :=
  fun H locs ls hP hS hl => lv_tableOut F.1 F.2.1 hd h ht (k H locs ls hP hS hl)
theorem X_lookup (F : FrP sh G p s m args c own cc nL) {x : Int32} {dflt : Int} {ps : Array (Int × Int)} {len : Nat} {off : Int} {tgt : Nat} (hd : decode cc pc = .ok (.lookupswitch dflt ps, len)) (hp : (ps.toList.zip (ps.toList.drop 1)).all (fun (a, next) => a.1 < next.1) = true) (ho : Op.lookupswitch.offset ps.toList dflt x.toInt = off) (ht : (pc : Int) + off = (tgt : Int)) (k : XJ sh p l e R s m args below meth c ca sl G nL Q tgt L st M) : XJ sh p l e R s m args below meth c ca sl G nL Q pc L (.int x :: st) M :=
  fun H locs ls hP hS hl => lv_lookup F.1 F.2.1 hd hp ho ht (k H locs ls hP hS hl)
/-- a field of the class ci, its slot k, linked from a place of a class' pool -/
def FLD (own : String) (ci idx k : Nat) : Prop := ∃ (C : String) (T : u_T) (N : Nat), classes[ci]? = some (C, T, N) ∧ k < N ∧ (∀ w ∈ u_ws C T N, w ∈ TBL) ∧ (Cond.fieldLink own idx (T k).1 (T k).2.1 (T k).2.2.1 ∈ TBL ∨ ∃ host, Cond.fieldLinkNest own idx (T k).1 (T k).2.1 (T k).2.2.1 host ∈ NTB)
def FLT (sh : List Shp) (own : String) (cell ci idx k : Nat) (w : Value) : Prop := FLD own ci idx k ∧ ∃ tm, sh[cell]? = some (.inr (ci, tm)) ∧ tm[k]? = some w
def FLW (ci k : Nat) (ty : FieldType) : Prop := ∃ (C : String) (T : u_T) (N : Nat) (ty0 : Nat → FieldType), classes[ci]? = some (C, T, N) ∧ (∀ k, k < N → parseFieldDescriptor (T k).2.2.1 = some (ty0 k)) ∧ (∀ a, a < N → ∀ b, b < N → a ≠ b → (T a).2.1 ≠ (T b).2.1) ∧ (T k).2.2.2 = false ∧ parseFieldDescriptor (T k).2.2.1 = some ty
theorem X_getf (F : FrP sh G p s m args c own cc nL) {cell ci idx k : Nat} {w : Value} (hf : FLT sh own cell ci idx k w) (hd : decode cc pc = .ok (.getfield idx, 3)) {v : Value} (hv : cv G.2.1 v = fv G.2.1 M cell k w) (kk : XJ sh p l e R s m args below meth c ca sl G nL Q (pc + 3) L (v :: st) M) : XJ sh p l e R s m args below meth c ca sl G nL Q pc L (.ref cell :: st) M := by
  intro H locs ls hP hS hl
  obtain ⟨⟨C, T, N, hc, hk, hin, hlk⟩, tm, hs, ht⟩ := hf
  have h1 := wl_get (G := G) (M := M) hs
  have hv2 : (tm.mapIdx (fun k w => fv G.2.1 M cell k w))[k]? = some (cv G.2.1 v) := by rw [List.getElem?_mapIdx, ht, hv]; rfl
  have k2 := kk H locs ls hP hS hl
  rcases hlk with hlk | ⟨host, hlk⟩
  · exact va_get F.1 F.2.1 F.2.2.2.2.1 hin F.2.2.2.1 F.2.2.2.2.2.2.1 hP cell h1 hc k hk (F.2.2.2.2.1 _ hlk) (fun _ h => h) hv2 hd k2
  · exact va_getN F.1 F.2.1 F.2.2.2.2.1 hin F.2.2.2.1 F.2.2.2.2.2.2.1 hP cell h1 hc k hk ((F.2.2.2.2.2.1 _ hlk).use rfl) (fun _ h => h) hv2 hd k2
theorem X_geti (F : FrP sh G p s m args c own cc nL) {cell ci idx k : Nat} {v : Int32} (hf : FLT sh own cell ci idx k (.int 0)) (hd : decode cc pc = .ok (.getfield idx, 3)) (hv : M cell k = v) (kk : XJ sh p l e R s m args below meth c ca sl G nL Q (pc + 3) L (.int v :: st) M) : XJ sh p l e R s m args below meth c ca sl G nL Q pc L (.ref cell :: st) M := X_getf F hf hd (by subst hv; rfl) kk
theorem X_getl (F : FrP sh G p s m args c own cc nL) {cell ci idx k : Nat} {v : Int64} (hf : FLT sh own cell ci idx k (.long 0)) (hd : decode cc pc = .ok (.getfield idx, 3)) (hv : gL M cell k = v) (kk : XJ sh p l e R s m args below meth c ca sl G nL Q (pc + 3) L (.long v :: st) M) : XJ sh p l e R s m args below meth c ca sl G nL Q pc L (.ref cell :: st) M := X_getf F hf hd (by subst hv; rfl) kk
theorem X_getr (F : FrP sh G p s m args c own cc nL) {cell ci idx k j : Nat} (hf : FLT sh own cell ci idx k (.ref j)) (hd : decode cc pc = .ok (.getfield idx, 3)) (kk : XJ sh p l e R s m args below meth c ca sl G nL Q (pc + 3) L (.ref j :: st) M) : XJ sh p l e R s m args below meth c ca sl G nL Q pc L (.ref cell :: st) M := X_getf F hf hd rfl kk
theorem X_putf (F : FrP sh G p s m args c own cc nL) {cell ci idx k : Nat} {w v : Value} {ty : FieldType} {M' : Mem} (hf : FLT sh own cell ci idx k w) (hW : FLW ci k ty) (hd : decode cc pc = .ok (.putfield idx, 3)) (hn : narrow ty (cv G.2.1 v) = cv G.2.1 v) (hfit : fits ty (cv G.2.1 v) = true) (hM : ∀ d, d ≠ cell → M' d = M d) (hv : fv G.2.1 M' cell k w = cv G.2.1 v) (ho : ∀ (j : Nat) (w2 : Value), j ≠ k → j < 1000 → fv G.2.1 M' cell j w2 = fv G.2.1 M cell j w2) (kk : XJ sh p l e R s m args below meth c ca sl G nL Q (pc + 3) L st M') : XJ sh p l e R s m args below meth c ca sl G nL Q pc L (v :: .ref cell :: st) M := by
  intro H locs ls hP hS hl
  obtain ⟨⟨C, T, N, hc, hk, hin, hlk⟩, tm, hs, ht⟩ := hf
  obtain ⟨C', T', N', ty0, hc', hty, hnm, hfin, hpd⟩ := hW
  rw [hc] at hc'
  cases hc'
  have h1 := wl_get (G := G) (M := M) hs
  have hlt : k < tm.length := (List.getElem?_eq_some_iff.mp ht).1
  have hset : (tm.mapIdx (fun k w => fv G.2.1 M cell k w)).set k (cv G.2.1 v) = tm.mapIdx (fun k w => fv G.2.1 M' cell k w) := by
    apply List.ext_getElem?
    intro j
    by_cases e : j = k
    · subst e
      rw [List.getElem?_set_self (by rw [List.length_mapIdx]; exact hlt), List.getElem?_mapIdx, ht, ← hv]
      rfl
    · rw [List.getElem?_set_ne (Ne.symm e), List.getElem?_mapIdx, List.getElem?_mapIdx]
      cases hj : tm[j]? with
      | none => rfl
      | some w2 =>
        have := F.2.2.2.2.2.2.2.1.1 _ _ _ hs
        have hj2 : j < tm.length := (List.getElem?_eq_some_iff.mp hj).1
        simp only [Option.map_some]
        rw [ho j w2 e (by omega)]
  have hfin2 : (wl sh G M).set cell (G.2.1 cell, .inr (ci, (tm.mapIdx (fun k w => fv G.2.1 M cell k w)).set k (cv G.2.1 v))) = wl sh G M' := by
    rw [hset]
    have e := wl_set (G := G) (M := M) (M' := M') hs hM
    rw [cel_obj] at e
    exact e
  have hl2 : k < (tm.mapIdx (fun k w => fv G.2.1 M cell k w)).length := by rw [List.length_mapIdx]; exact hlt
  rcases hlk with hlk | ⟨host, hlk⟩
  · refine va_put F.1 F.2.1 F.2.2.2.2.1 hin ty0 hty hnm F.2.2.2.1 F.2.2.2.2.2.2.1 hP (wl_D F.2.2.2.2.2.2.2.1) hS cell h1 hc k hk (F.2.2.2.2.1 _ hlk) (fun _ h => h) hfin hpd hn hfit hl2 hd (fun H1 locs1 hP1 _ hS1 => ?_)
    rw [hfin2] at hP1
    exact kk H1 locs1 ls hP1 hS1 hl
  · refine va_putN F.1 F.2.1 F.2.2.2.2.1 hin ty0 hty hnm F.2.2.2.1 F.2.2.2.2.2.2.1 hP (wl_D F.2.2.2.2.2.2.2.1) hS cell h1 hc k hk ((F.2.2.2.2.2.1 _ hlk).use rfl) (fun _ h => h) hfin hpd hn hfit hl2 hd (fun H1 locs1 hP1 _ hS1 => ?_)
    rw [hfin2] at hP1
    exact kk H1 locs1 ls hP1 hS1 hl
theorem up2_o {M : Mem} {c k : Nat} {v : Int32} : ∀ d, d ≠ c → up2 M c k v d = M d := by
  intro d hd
  funext b
  simp [up2, hd]
theorem up2_fv {ad : Nat → Nat} {M : Mem} {c k : Nat} {v : Int32} (hk : k < 1000) : ∀ (j : Nat) (w2 : Value), j ≠ k → j < 1000 → fv ad (up2 M c k v) c j w2 = fv ad M c j w2 := by
  intro j w2 hj hj2
  have h1 : j + 1000 ≠ k := by omega
  cases w2 <;> simp [fv, gL, up2, hj, h1]
theorem X_puti (F : FrP sh G p s m args c own cc nL) {cell ci idx k : Nat} {v : Int32} (hf : FLT sh own cell ci idx k (.int 0)) (hW : FLW ci k .int) (hk : k < 1000) (hd : decode cc pc = .ok (.putfield idx, 3)) (kk : XJ sh p l e R s m args below meth c ca sl G nL Q (pc + 3) L st (up2 M cell k v)) : XJ sh p l e R s m args below meth c ca sl G nL Q pc L (.int v :: .ref cell :: st) M :=
  X_putf F hf hW hd rfl rfl up2_o (by simp [fv, up2, cv]) (up2_fv hk) kk
theorem X_putz (F : FrP sh G p s m args c own cc nL) {cell ci idx k : Nat} {v : Int32} (hf : FLT sh own cell ci idx k (.int 0)) (hW : FLW ci k .boolean) (hk : k < 1000) (hd : decode cc pc = .ok (.putfield idx, 3)) (hv : narrow .boolean (.int v) = .int v ∧ fits .boolean (.int v) = true) (kk : XJ sh p l e R s m args below meth c ca sl G nL Q (pc + 3) L st (up2 M cell k v)) : XJ sh p l e R s m args below meth c ca sl G nL Q pc L (.int v :: .ref cell :: st) M :=
  X_putf F hf hW hd hv.1 hv.2 up2_o (by simp [fv, up2, cv]) (up2_fv hk) kk
theorem sL_o {M : Mem} {c k : Nat} {v : Int64} : ∀ d, d ≠ c → sL M c k v d = M d := by
  intro d hd
  funext b
  simp [sL, up2, hd]
theorem gL_sL {M : Mem} {c k : Nat} {v : Int64} : gL (sL M c k v) c k = v := by
  have e1 : sL M c k v c (k + 1000) = Int32.ofBitVec (v.toBitVec.extractLsb' 32 32) := by simp [sL, up2]
  have e2 : sL M c k v c k = Int32.ofBitVec (v.toBitVec.extractLsb' 0 32) := by simp [sL, up2]
  unfold gL
  rw [e1, e2]
  apply Int64.toBitVec_inj.mp
  show (v.toBitVec.extractLsb' 32 32 ++ v.toBitVec.extractLsb' 0 32 : BitVec (32 + 32)) = v.toBitVec
  apply BitVec.eq_of_getLsbD_eq
  intro i hi
  rw [BitVec.getLsbD_append]
  by_cases h : i < 32
  · simp [h, BitVec.getLsbD_extractLsb']
  · have h2 : i - 32 < 32 := by omega
    have h3 : 32 + (i - 32) = i := by omega
    simp [h, BitVec.getLsbD_extractLsb', h2, h3]
theorem sL_fv {ad : Nat → Nat} {M : Mem} {c k : Nat} {v : Int64} (hk : k < 1000) : ∀ (j : Nat) (w2 : Value), j ≠ k → j < 1000 → fv ad (sL M c k v) c j w2 = fv ad M c j w2 := by
  intro j w2 hj hj2
  have h1 : j + 1000 ≠ k := by omega
  have h2 : j ≠ k + 1000 := by omega
  have h3 : j + 1000 ≠ k + 1000 := by omega
  cases w2 <;> simp [fv, gL, sL, up2, hj, h1, h2]
theorem X_putl (F : FrP sh G p s m args c own cc nL) {cell ci idx k : Nat} {v : Int64} (hf : FLT sh own cell ci idx k (.long 0)) (hW : FLW ci k .long) (hk : k < 1000) (hd : decode cc pc = .ok (.putfield idx, 3)) (kk : XJ sh p l e R s m args below meth c ca sl G nL Q (pc + 3) L st (sL M cell k v)) : XJ sh p l e R s m args below meth c ca sl G nL Q pc L (.long v :: .ref cell :: st) M :=
  X_putf F hf hW hd rfl rfl sL_o (by simp [fv, cv, gL_sL]) (sL_fv hk) kk
theorem X_iald (F : FrP sh G p s m args c own cc nL) {a n j : Nat} {i v : Int32} (ha : sh[a]? = some (.inl (0, n))) (hin : vp_in i n) (hj : i.toNatClampNeg = j) (hv : M a j = v) (hd : decode cc pc = .ok (.iaload, 1)) (k : XJ sh p l e R s m args below meth c ca sl G nL Q (pc + 1) L (.int v :: st) M) : XJ sh p l e R s m args below meth c ca sl G nL Q pc L (.int i :: .ref a :: st) M := by
  subst hv; subst hj
  exact fun H locs ls hP hS hl => va_iald F.1 F.2.1 F.2.2.2.2.2.2.1 hP a 0 (wl_get (G := G) (M := M) ha) rfl hin hd (k H locs ls hP hS hl)
theorem X_zald (F : FrP sh G p s m args c own cc nL) {a n j : Nat} {i v : Int32} (ha : sh[a]? = some (.inl (1, n))) (hin : vp_in i n) (hj : i.toNatClampNeg = j) (hv : M a j = v) (hd : decode cc pc = .ok (.baload, 1)) (k : XJ sh p l e R s m args below meth c ca sl G nL Q (pc + 1) L (.int v :: st) M) : XJ sh p l e R s m args below meth c ca sl G nL Q pc L (.int i :: .ref a :: st) M := by
  subst hv; subst hj
  exact fun H locs ls hP hS hl => va_zald F.1 F.2.1 F.2.2.2.2.2.2.1 hP a 1 (wl_get (G := G) (M := M) ha) rfl hin hd (k H locs ls hP hS hl)
theorem up2_upd {M : Mem} {a k : Nat} {x : Int32} : up2 M a k x a = upd (M a) k x := by
  funext b
  simp [up2, upd]
theorem X_iast (F : FrP sh G p s m args c own cc nL) {a n j : Nat} {i x : Int32} (ha : sh[a]? = some (.inl (0, n))) (hin : vp_in i n) (hj : i.toNatClampNeg = j) (hd : decode cc pc = .ok (.iastore, 1)) (k : XJ sh p l e R s m args below meth c ca sl G nL Q (pc + 1) L st (up2 M a j x)) : XJ sh p l e R s m args below meth c ca sl G nL Q pc L (.int x :: .int i :: .ref a :: st) M := by
  subst hj
  intro H locs ls hP hS hl
  refine va_iast F.1 F.2.1 F.2.2.2.2.2.2.1 hP (wl_D F.2.2.2.2.2.2.2.1) hS a 0 (wl_get (G := G) (M := M) ha) rfl hin hd (fun H1 locs1 hP1 _ hS1 => k H1 locs1 ls ?_ hS1 hl)
  have e := wl_set (G := G) (M := M) (M' := up2 M a i.toNatClampNeg x) ha up2_o
  rw [← e]
  show va_P G.1 classes ((wl sh G M).set a (G.2.1 a, .inl (G.2.2.1, n, .inl (up2 M a i.toNatClampNeg x a)))) H1
  rw [up2_upd]
  exact hP1
theorem X_zast (F : FrP sh G p s m args c own cc nL) {a n j : Nat} {i x : Int32} (ha : sh[a]? = some (.inl (1, n))) (hin : vp_in i n) (hj : i.toNatClampNeg = j) (hd : decode cc pc = .ok (.bastore, 1)) (k : XJ sh p l e R s m args below meth c ca sl G nL Q (pc + 1) L st (up2 M a j (vp_nar .boolean x))) : XJ sh p l e R s m args below meth c ca sl G nL Q pc L (.int x :: .int i :: .ref a :: st) M := by
  subst hj
  intro H locs ls hP hS hl
  refine va_zast F.1 F.2.1 F.2.2.2.2.2.2.1 hP (wl_D F.2.2.2.2.2.2.2.1) hS a 1 (wl_get (G := G) (M := M) ha) rfl hin hd (fun H1 locs1 hP1 _ hS1 => k H1 locs1 ls ?_ hS1 hl)
  have e := wl_set (G := G) (M := M) (M' := up2 M a i.toNatClampNeg (vp_nar .boolean x)) ha up2_o
  rw [← e]
  show va_P G.1 classes ((wl sh G M).set a (G.2.1 a, .inl (G.2.2.2.1, n, .inl (up2 M a i.toNatClampNeg (vp_nar .boolean x) a)))) H1
  rw [up2_upd]
  exact hP1
theorem X_aald (F : FrP sh G p s m args c own cc nL) {a b n j : Nat} {i : Int32} (ha : sh[a]? = some (.inl (b + 2, n))) (hin : vp_in i n) (hj : b + i.toNatClampNeg = j) (hd : decode cc pc = .ok (.aaload, 1)) (k : XJ sh p l e R s m args below meth c ca sl G nL Q (pc + 1) L (.ref j :: st) M) : XJ sh p l e R s m args below meth c ca sl G nL Q pc L (.int i :: .ref a :: st) M := by
  subst hj
  intro H locs ls hP hS hl
  have hlt : i.toNatClampNeg < n := Nat.not_le.mp fun q => hin (Or.inr q)
  have hk := k H locs ls hP hS hl
  have hv : va_rf (if i.toNatClampNeg < n then some (G.2.1 (b + i.toNatClampNeg)) else none) = Value.ref (G.2.1 (b + i.toNatClampNeg)) := by rw [if_pos hlt]; rfl
  exact W.aald (v := Value.ref (G.2.1 (b + i.toNatClampNeg))) (ty := .array .int) F.1 F.2.1 (hP a _ (wl_get (G := G) (M := M) ha)) ((F.2.2.2.2.2.2.1.2 2 _ rfl).1 n (fun j => va_rf (if j < n then some (G.2.1 (b + j)) else none))) rfl (fun q => by cases q) (by show ¬ (i < 0 ∨ (arrV _ _ _).slots.size ≤ _); rw [arrV_size]; exact hin) (by show (arrV _ _ _).slots[_]? = _; rw [arrV_read _ _ hlt, hv]) rfl rfl hd hk
theorem X_alen (F : FrP sh G p s m args c own cc nL) {a t n : Nat} {v : Int32} (ha : sh[a]? = some (.inl (t, n))) (hv : Int32.ofNat n = v) (hd : decode cc pc = .ok (.arraylength, 1)) (k : XJ sh p l e R s m args below meth c ca sl G nL Q (pc + 1) L (.int v :: st) M) : XJ sh p l e R s m args below meth c ca sl G nL Q pc L (.ref a :: st) M := by
  intro H locs ls hP hS hl
  have hk := k H locs ls hP hS hl
  have hw := wl_get (G := G) (M := M) ha
  match t, ha, hw with
  | 0, _, hw => exact va_alen F.1 F.2.1 F.2.2.2.2.2.2.1 hP a 0 hw rfl hv hd hk
  | 1, _, hw => exact va_alen F.1 F.2.1 F.2.2.2.2.2.2.1 hP a 1 hw rfl hv hd hk
  | b + 2, _, hw => exact va_alen F.1 F.2.1 F.2.2.2.2.2.2.1 hP a 2 hw rfl hv hd hk
theorem X_under (F : FrP sh G p s m args c own cc nL) {idx : Nat} (hw : Cond.fieldLink own idx "KeepOurPlace" "UNDER" "[I" ∈ TBL) (hd : decode cc pc = .ok (.getstatic idx, 3)) (k : XJ sh p l e R s m args below meth c ca sl G nL Q (pc + 3) L (.ref 200 :: st) M) : XJ sh p l e R s m args below meth c ca sl G nL Q pc L st M :=
  fun H locs ls hP hS hl => va_gets F.1 F.2.1 F.2.2.2.2.2.2.2.2.1 hS F.2.2.2.1 (F.2.2.2.2.1 _ hw) (fun _ h => h) hd (k H locs ls hP hS hl)
theorem X_underld (F : FrP sh G p s m args c own cc nL) {i : Int32} (hin : vp_in i 6) (hd : decode cc pc = .ok (.iaload, 1)) (k : XJ sh p l e R s m args below meth c ca sl G nL Q (pc + 1) L (.int (underL.getD i.toNatClampNeg 0) :: st) M) : XJ sh p l e R s m args below meth c ca sl G nL Q pc L (.int i :: .ref 200 :: st) M := by
  intro H locs ls hP hS hl
  have hk := k H locs ls hP hS hl
  obtain ⟨cell, h1, h2, h3, h4, h5, h6, h7⟩ := F.2.2.2.2.2.2.2.2.2.1
  have hlt : i.toNatClampNeg < 6 := Nat.not_le.mp fun q => hin (Or.inr q)
  have hin' : ¬ (i < 0 ∨ cell.slots.size ≤ i.toNatClampNeg) := by
    intro q
    rcases q with q | q
    · exact hin (Or.inl q)
    · omega
  exact W.iald (v := .int (underL.getD i.toNatClampNeg 0)) F.1 F.2.1 (by rw [hS.2.1 _ (Array.getElem?_eq_some_iff.mp h1).1 h7]; exact h1) h2 h3 hin' (h6 _ hlt) rfl rfl hd hk
/-- copying between two rows of ints -/
theorem X_acopy (F : FrP sh G p s m args c own cc nL) {a0 a n0 n1 idx : Nat} {sp dp n : Int32} (hl1 : Cond.methodLink own idx arraycopyName ∈ TBL) (hnat : Cond.native arraycopyName ∈ TBL) (hstt : Cond.static arraycopyName ∈ TBL) (hini : Cond.initialized "java/lang/System" ∈ TBL) (ha0 : sh[a0]? = some (.inl (0, n0))) (ha1 : sh[a]? = some (.inl (0, n1))) (h1 : ¬ sp < 0) (h2 : ¬ dp < 0) (h3 : ¬ n < 0) (h4 : sp.toNatClampNeg + n.toNatClampNeg ≤ n0) (h5 : dp.toNatClampNeg + n.toNatClampNeg ≤ n1) (hfr : 1 ≤ R.frames) (hlo : (st.map fun v => v.category).sum + (nativeFrameWords "java/lang/System" "arraycopy" 5 + 11) ≤ R.locals) (hd : decode cc pc = .ok (.invokestatic idx, 3))
    (k : XJ sh p l e R s m args below meth c ca sl G nL Q (pc + 3) L st (upA M a (va_cpy (M a0) (M a) sp.toNatClampNeg dp.toNatClampNeg n.toNatClampNeg))) : XJ sh p l e R s m args below meth c ca sl G nL Q pc L (.int n :: .int dp :: .ref a :: .int sp :: .ref a0 :: st) M := by
  intro H locs ls hP hS hl
  refine va_copyi F.1 F.2.1 (F.2.2.1.trans hl.1.symm) F.2.2.2.1 (F.2.2.2.2.1 _ hl1) (F.2.2.2.2.1 _ hnat) (F.2.2.2.2.1 _ hstt) (F.2.2.2.2.1 _ hini) F.2.2.2.2.2.2.1 hP (wl_D F.2.2.2.2.2.2.2.1) hS a0 a 0 0 (wl_get (G := G) (M := M) ha0) (wl_get (G := G) (M := M) ha1) rfl rfl rfl h1 h2 h3 h4 h5 (fun _ _ => rfl) hfr (Nat.le_trans (Nat.le_of_eq (congrArg (fun z => z + (nativeFrameWords "java/lang/System" "arraycopy" 5 + 11)) (cvs_cat G.2.1 st))) hlo) hd (fun H1 locs1 hP1 _ hS1 => k H1 locs1 ls ?_ hS1 hl)
  have e := wl_set (G := G) (M := M) (M' := upA M a (va_cpy (M a0) (M a) sp.toNatClampNeg dp.toNatClampNeg n.toNatClampNeg)) ha1 (by intro d hd; simp [upA, hd])
  rw [← e]
  show va_P G.1 classes ((wl sh G M).set a (G.2.1 a, .inl (G.2.2.1, n1, .inl (upA M a (va_cpy (M a0) (M a) sp.toNatClampNeg dp.toNatClampNeg n.toNatClampNeg) a)))) H1
  have e2 : upA M a (va_cpy (M a0) (M a) sp.toNatClampNeg dp.toNatClampNeg n.toNatClampNeg) a = va_cpy (M a0) (M a) sp.toNatClampNeg dp.toNatClampNeg n.toNatClampNeg := by simp [upA]
  rw [e2]
  exact hP1
theorem X_mmax (F : FrP sh G p s m args c own cc nL) {idx : Nat} {x y : Int32} (hl1 : Cond.methodLink own idx Lib.Math.max.name ∈ TBL) (hst1 : Cond.static Lib.Math.max.name ∈ TBL) (hini : Cond.initialized "java/lang/Math" ∈ TBL) (hco : Cond.code Lib.Math.max.name Lib.Math.max.code 2 (some .int) ∈ TBL) (hfr : 1 ≤ R.frames ∧ ca ≤ R.cells ∧ sl ≤ R.slots) (hlo : (st.map fun v => v.category).sum + 13 ≤ R.locals) (hd : decode cc pc = .ok (.invokestatic idx, 3)) (k : XJ sh p l e R s m args below meth c ca sl G nL Q (pc + 3) L (.int (jmax x y) :: st) M) : XJ sh p l e R s m args below meth c ca sl G nL Q pc L (.int y :: .int x :: st) M := by
  intro H locs ls hP hS hl
  exact va_mmax F.1 F.2.1 (F.2.2.1.trans hl.1.symm) F.2.2.2.1 (F.2.2.2.2.1 _ hl1) (F.2.2.2.2.1 _ hst1) (F.2.2.2.2.1 _ hini) (F.2.2.2.2.1 _ hco) hfr.1 (Nat.le_trans (Nat.le_of_eq (congrArg (fun z => z + 13) (cvs_cat G.2.1 st))) hlo) hfr.2.1 hfr.2.2 hd (k H locs ls hP hS hl)
theorem X_mmin (F : FrP sh G p s m args c own cc nL) {idx : Nat} {x y : Int32} (hl1 : Cond.methodLink own idx Lib.Math.min.name ∈ TBL) (hst1 : Cond.static Lib.Math.min.name ∈ TBL) (hini : Cond.initialized "java/lang/Math" ∈ TBL) (hco : Cond.code Lib.Math.min.name Lib.Math.min.code 2 (some .int) ∈ TBL) (hfr : 1 ≤ R.frames ∧ ca ≤ R.cells ∧ sl ≤ R.slots) (hlo : (st.map fun v => v.category).sum + 13 ≤ R.locals) (hd : decode cc pc = .ok (.invokestatic idx, 3)) (k : XJ sh p l e R s m args below meth c ca sl G nL Q (pc + 3) L (.int (jmin x y) :: st) M) : XJ sh p l e R s m args below meth c ca sl G nL Q pc L (.int y :: .int x :: st) M := by
  intro H locs ls hP hS hl
  exact va_mmin F.1 F.2.1 (F.2.2.1.trans hl.1.symm) F.2.2.2.1 (F.2.2.2.2.1 _ hl1) (F.2.2.2.2.1 _ hst1) (F.2.2.2.2.1 _ hini) (F.2.2.2.2.1 _ hco) hfr.1 (Nat.le_trans (Nat.le_of_eq (congrArg (fun z => z + 13) (cvs_cat G.2.1 st))) hlo) hfr.2.1 hfr.2.2 hd (k H locs ls hP hS hl)
theorem X_mabs (F : FrP sh G p s m args c own cc nL) {idx : Nat} {x : Int32} (hl1 : Cond.methodLink own idx Lib.Math.abs.name ∈ TBL) (hst1 : Cond.static Lib.Math.abs.name ∈ TBL) (hini : Cond.initialized "java/lang/Math" ∈ TBL) (hco : Cond.code Lib.Math.abs.name Lib.Math.abs.code 1 (some .int) ∈ TBL) (hfr : 1 ≤ R.frames ∧ ca ≤ R.cells ∧ sl ≤ R.slots) (hlo : (st.map fun v => v.category).sum + 13 ≤ R.locals) (hd : decode cc pc = .ok (.invokestatic idx, 3)) (k : XJ sh p l e R s m args below meth c ca sl G nL Q (pc + 3) L (.int (jabs x) :: st) M) : XJ sh p l e R s m args below meth c ca sl G nL Q pc L (.int x :: st) M := by
  intro H locs ls hP hS hl
  exact va_mabs F.1 F.2.1 (F.2.2.1.trans hl.1.symm) F.2.2.2.1 (F.2.2.2.2.1 _ hl1) (F.2.2.2.2.1 _ hst1) (F.2.2.2.2.1 _ hini) (F.2.2.2.2.1 _ hco) hfr.1 (Nat.le_trans (Nat.le_of_eq (congrArg (fun z => z + 13) (cvs_cat G.2.1 st))) hlo) hfr.2.1 hfr.2.2 hd (k H locs ls hP hS hl)
def sN (k : Nat) : Nat := lenJS.getD k 0
def sB (k j : Nat) : Int32 := (bytJS.getD k []).getD j 0
def cch (v : Int32) : Bool := jchar v == v
theorem cchN {v : Int32} (h : cch v = true) : narrow .char (.int v) = .int v := by
  rw [← beq_iff_eq.mp h]
  exact pk_nc v
theorem cchJ (v : Int32) : narrow .char (.int (jchar v)) = .int (jchar v) := pk_nc v
theorem X_ldcS0 (F : FrP sh G p s m args c RX8 cc nL) (hd : decode cc pc = .ok (.ldc 71, 2)) (k : XJ sh p l e R s m args below meth c ca sl G nL Q (pc + 2) L (.ref 201 :: st) M) : XJ sh p l e R s m args below meth c ca sl G nL Q pc L st M :=
  fun H locs ls hP hS hl => va_ldcS F.1 F.2.1 F.2.2.2.1 F.2.2.2.2.2.2.2.2.2.2.2.1.1 hd (k H locs ls hP hS hl)
theorem X_ldcS1 (F : FrP sh G p s m args c RX3 cc nL) (hd : decode cc pc = .ok (.ldc 91, 2)) (k : XJ sh p l e R s m args below meth c ca sl G nL Q (pc + 2) L (.ref 202 :: st) M) : XJ sh p l e R s m args below meth c ca sl G nL Q pc L st M :=
  fun H locs ls hP hS hl => va_ldcS F.1 F.2.1 F.2.2.2.1 F.2.2.2.2.2.2.2.2.2.2.2.1.2.1 hd (k H locs ls hP hS hl)
theorem X_ldcS2 (F : FrP sh G p s m args c RX3 cc nL) (hd : decode cc pc = .ok (.ldc 81, 2)) (k : XJ sh p l e R s m args below meth c ca sl G nL Q (pc + 2) L (.ref 203 :: st) M) : XJ sh p l e R s m args below meth c ca sl G nL Q pc L st M :=
  fun H locs ls hP hS hl => va_ldcS F.1 F.2.1 F.2.2.2.1 F.2.2.2.2.2.2.2.2.2.2.2.1.2.2 hd (k H locs ls hP hS hl)
theorem X_sval (F : FrP sh G p s m args c own cc nL) {si idx : Nat} (hs : si < 3) (hw : Cond.fieldLink own idx "java/lang/String" "value" "[B" ∈ TBL) (hd : decode cc pc = .ok (.getfield idx, 3)) (k : XJ sh p l e R s m args below meth c ca sl G nL Q (pc + 3) L (.ref (211 + si) :: st) M) : XJ sh p l e R s m args below meth c ca sl G nL Q pc L (.ref (201 + si) :: st) M :=
  fun H locs ls hP hS hl => vk_getf F.1 F.2.1 (F.2.2.2.2.2.2.2.2.2.2.1.1 si hs).2.2.1 hS F.2.2.2.1 (F.2.2.2.2.1 _ hw) (fun _ h => h) hd (k H locs ls hP hS hl)
theorem X_scod (F : FrP sh G p s m args c own cc nL) {si idx : Nat} (hs : si < 3) (hw : Cond.fieldLink own idx "java/lang/String" "coder" "B" ∈ TBL) (hd : decode cc pc = .ok (.getfield idx, 3)) (k : XJ sh p l e R s m args below meth c ca sl G nL Q (pc + 3) L (.int 0 :: st) M) : XJ sh p l e R s m args below meth c ca sl G nL Q pc L (.ref (201 + si) :: st) M :=
  fun H locs ls hP hS hl => vk_getf F.1 F.2.1 (F.2.2.2.2.2.2.2.2.2.2.1.1 si hs).2.1 hS F.2.2.2.1 (F.2.2.2.2.1 _ hw) (fun _ h => h) hd (k H locs ls hP hS hl)
theorem X_scmp (F : FrP sh G p s m args c own cc nL) {idx : Nat} (hw : Cond.fieldLink own idx "java/lang/String" "COMPACT_STRINGS" "Z" ∈ TBL) (hd : decode cc pc = .ok (.getstatic idx, 3)) (k : XJ sh p l e R s m args below meth c ca sl G nL Q (pc + 3) L (.int 1 :: st) M) : XJ sh p l e R s m args below meth c ca sl G nL Q pc L st M :=
  fun H locs ls hP hS hl => va_gets F.1 F.2.1 F.2.2.2.2.2.2.2.2.2.2.2.2.1 hS F.2.2.2.1 (F.2.2.2.2.1 _ hw) (fun _ h => h) hd (k H locs ls hP hS hl)
theorem X_ssio (F : FrP sh G p s m args c own cc nL) {idx : Nat} (hw : Cond.fieldLink own idx "jdk/internal/util/Preconditions" "SIOOBE_FORMATTER" "Ljava/util/function/BiFunction;" ∈ TBL) (hd : decode cc pc = .ok (.getstatic idx, 3)) (k : XJ sh p l e R s m args below meth c ca sl G nL Q (pc + 3) L (.ref 204 :: st) M) (k2 : XJ sh p l e R s m args below meth c ca sl G nL Q (pc + 3) L (.null :: st) M) : XJ sh p l e R s m args below meth c ca sl G nL Q pc L st M :=
  fun H locs ls hP hS hl => F.2.2.2.2.2.2.2.2.2.2.2.2.2.elim (fun z => va_gets F.1 F.2.1 z hS F.2.2.2.1 (F.2.2.2.2.1 _ hw) (fun _ h => h) hd (k H locs ls hP hS hl)) (fun z => va_gets F.1 F.2.1 z hS F.2.2.2.1 (F.2.2.2.2.1 _ hw) (fun _ h => h) hd (k2 H locs ls hP hS hl))
theorem X_sbald (F : FrP sh G p s m args c own cc nL) {si j : Nat} {i : Int32} (hs : si < 3) (hin : vp_in i (sN si)) (hj : i.toNatClampNeg = j) (hd : decode cc pc = .ok (.baload, 1)) (k : XJ sh p l e R s m args below meth c ca sl G nL Q (pc + 1) L (.int (sB si j) :: st) M) : XJ sh p l e R s m args below meth c ca sl G nL Q pc L (.int i :: .ref (211 + si) :: st) M := by
  subst hj
  intro H locs ls hP hS hl
  have hk := k H locs ls hP hS hl
  obtain ⟨cell, h1, h2, h3, h4, h5, h6, h7⟩ := (F.2.2.2.2.2.2.2.2.2.2.1.1 si hs).2.2.2
  have hlt : i.toNatClampNeg < sN si := Nat.not_le.mp fun q => hin (Or.inr q)
  have hin' : ¬ (i < 0 ∨ cell.slots.size ≤ i.toNatClampNeg) := by
    intro q
    rcases q with q | q
    · exact hin (Or.inl q)
    · exact absurd (Nat.lt_of_lt_of_le hlt h4) (Nat.not_lt.mpr q)
  exact W.bald (v := .int (sB si i.toNatClampNeg)) F.1 F.2.1 (by rw [hS.2.1 _ (Array.getElem?_eq_some_iff.mp h1).1 h7]; exact h1) h2 h3 hin' (h6 _ hlt) rfl rfl hd hk
theorem X_sblen (F : FrP sh G p s m args c own cc nL) {si : Nat} (hs : si < 3) (hd : decode cc pc = .ok (.arraylength, 1)) (k : XJ sh p l e R s m args below meth c ca sl G nL Q (pc + 1) L (.int (Int32.ofNat (sN si)) :: st) M) : XJ sh p l e R s m args below meth c ca sl G nL Q pc L (.ref (211 + si) :: st) M := by
  intro H locs ls hP hS hl
  have hk := k H locs ls hP hS hl
  obtain ⟨cell, h1, h2, h3, h4, h5, h6, h7⟩ := (F.2.2.2.2.2.2.2.2.2.2.1.1 si hs).2.2.2
  exact W.alen (n := Int32.ofNat (sN si)) F.1 F.2.1 (by rw [hS.2.1 _ (Array.getElem?_eq_some_iff.mp h1).1 h7]; exact h1) h2 h5 rfl rfl hd hk
theorem X_iret {r : Option Value × Mem} (F : FrP sh G p s m args c own cc nL) (hr : meth.sig.returnType = some .int) (hlk : meth.locks = false) {v : Int32} (hv : r = (some (.int v), M)) (hd : decode cc pc = .ok (.ireturn, 1)) : XJ sh p l e R s m args below meth c 0 0 G nL (MQ below (QcX sh G r.1 r.2) args s 0 0 (AW sh G.2.1)) pc L [.int v] M := by
  subst hv
  exact fun H locs ls hP hS hl => W.iret F.1 F.2.1 hr (fun t ht hW => ⟨rfl, by rw [ht]; exact hP, hS.F ht⟩) hS.2.2 hd hlk
theorem X_lret {r : Option Value × Mem} (F : FrP sh G p s m args c own cc nL) (hr : meth.sig.returnType = some .long) (hlk : meth.locks = false) {v : Int64} (hv : r = (some (.long v), M)) (hd : decode cc pc = .ok (.lreturn, 1)) : XJ sh p l e R s m args below meth c 0 0 G nL (MQ below (QcX sh G r.1 r.2) args s 0 0 (AW sh G.2.1)) pc L [.long v] M := by
  subst hv
  exact fun H locs ls hP hS hl => W.lret F.1 F.2.1 hr (fun t ht hW => ⟨rfl, by rw [ht]; exact hP, hS.F ht⟩) hS.2.2 hd hlk
theorem X_zret {r : Option Value × Mem} {ty : FieldType} (F : FrP sh G p s m args c own cc nL) (hr : meth.sig.returnType = some ty) (hlk : meth.locks = false) {v : Int32} (hn : narrow ty (.int v) = .int v) (hv : r = (some (.int v), M)) (hd : decode cc pc = .ok (.ireturn, 1)) : XJ sh p l e R s m args below meth c 0 0 G nL (MQ below (QcX sh G r.1 r.2) args s 0 0 (AW sh G.2.1)) pc L [.int v] M := by
  subst hv
  exact fun H locs ls hP hS hl => W.zret F.1 F.2.1 hr hn (fun t ht hW => ⟨rfl, by rw [ht]; exact hP, hS.F ht⟩) hS.2.2 hd hlk
theorem X_vret {r : Option Value × Mem} (F : FrP sh G p s m args c own cc nL) (hr : meth.sig.returnType = none) (hlk : meth.locks = false) (hv : r = (none, M)) (hd : decode cc pc = .ok (.return_, 1)) : XJ sh p l e R s m args below meth c 0 0 G nL (MQ below (QcX sh G r.1 r.2) args s 0 0 (AW sh G.2.1)) pc L [] M := by
  subst hv
  exact fun H locs ls hP hS hl => W.vret F.1 F.2.1 hr (fun t ht hW => ⟨rfl, by rw [ht]; exact hP, hS.F ht⟩) hS.2.2 hd hlk
/-- a callee, and the link to it -/
def CLE (y : MethodName) (n : Nat) (bytes : ByteArray) (mL : Nat) (ret : Option FieldType) : Prop := Cond.initialized y.cls ∈ TBL ∧ Cond.code y bytes mL ret ∈ TBL ∧ (y.cls ≠ "java/lang/invoke/MethodHandle" ∧ y.cls ≠ "java/lang/invoke/VarHandle") ∧ (parseMethodDescriptor y.desc).map (fun d => d.parameters.length) = some n
def CLV (y : MethodName) : Prop := Cond.instanceMethod y ∈ TBL ∧ Cond.selects y.cls y y ∈ TBL
def LNK (own : String) (idx : Nat) (y : MethodName) : Prop := Cond.methodLink own idx y ∈ TBL ∨ ∃ host, Cond.methodLinkNest own idx y host ∈ NTB
theorem PcX_blind {av : List Value} : FrameBlind (PcX sh G av M) := fun a U g mk h => ⟨h.1, h.2.1, va_K.moved (u := U) (U := U.calling g mk a) (Vm.Alike.refl U.vm) h.2.2.1, NW.same (u := U) (U := U.calling g mk a) rfl h.2.2.2.1, EXT.call h.2.2.2.2⟩
theorem PcX_at {av : List Value} (F : FrP sh G p s m args c own cc nL) {H : Heap} {locs : List Loc} (hP : va_P G.1 classes (wl sh G M) H) (hS : va_S (AW sh G.2.1) s.heap H locs) : ∀ U : State, U.heap = H → s.WarmedH U.vm → PcX sh G av M (cvs G.2.1 av).toArray U := by
  intro U hU hW
  refine ⟨rfl, by rw [hU]; exact hP, va_K.moved hW.alike F.2.2.2.2.2.2.1, NW.warm hW F.2.2.2.2.2.1, EXT.warm hW F.2.2.2.2.2.2.2.2 ?_⟩
  intro a h1 h2
  rw [hU]
  exact hS.2.1 a h1 h2
theorem goodCode {y : MethodName} {bytes : ByteArray} {mL : Nat} {ret : Option FieldType} (h : Cond.code y bytes mL ret ∈ TBL) : GoodIn TBL (.code y bytes mL ret :: TBL) := tsub (fun w hw => (List.mem_cons.mp hw).elim (fun q => by rw [q]; exact h) (fun q => q))
/-- behind a call -/
theorem X_back {H : Heap} {locs : List Loc} {ls : Array Slot} {st0 rest : List Value} {a : Array Value} {r : Option Value × Mem} (hr : va_Run p l e R s m args below meth c H locs ca sl 0 0 (F0 m pc ls (cvs G.2.1 st0)) (cvs G.2.1 rest) (QcX sh G r.1 r.2 a) (AW sh G.2.1)) (hS : va_S (AW sh G.2.1) s.heap H locs) (hl : lv_has ls nL (cvl G.2.1 L)) (k : XJ sh p l e R s m args below meth c ca sl G nL Q (pc + 3) L (r.1.toList ++ rest) r.2) : W p l e R s m args below meth c H locs ca sl Q (F0 m pc ls (cvs G.2.1 st0)) := by
  intro T hT X
  obtain ⟨v, st₀, t, T', Lc, h0, X', hL, e1, e2, ⟨hv, hb, hz, hk⟩, stp⟩ := hr T hT X
  have hv' := Outcome.returned.inj hv
  subst hv'
  rw [h0] at hz hk
  have hS' : va_S (AW sh G.2.1) s.heap T'.heap (locs ++ Lc) := ⟨Nat.le_trans hS.1 (by rw [e1]; exact hz), fun q h1 h2 => by rw [e1, hk q (Nat.lt_of_lt_of_le h1 hS.1) h2]; exact hS.2.1 q h1 h2, fun q hq => by
      rcases List.mem_append.mp hq with h | h
      · exact hS.2.2 q h
      · exact hL q h⟩
  obtain ⟨t2, a1, b1⟩ := k T'.heap (locs ++ Lc) ls (by rw [e1]; exact hb) hS' hl T' rfl X'
  refine ⟨t2, stp t2 ?_, b1⟩
  have e3 : (r.1.map (cv G.2.1)).toList ++ cvs G.2.1 rest = cvs G.2.1 (r.1.toList ++ rest) := by
    unfold cvs
    rw [List.map_append]
    congr 1
    cases r.1 <;> rfl
  rw [e3]
  exact a1
theorem X_callR (F : FrP sh G p s m args c own cc nL) {idx n mL d ci : Nat} {y : MethodName} {bytes : ByteArray} {ret : Option FieldType} {As rest : List Value} {r : Option Value × Mem} (hlk : LNK own idx y) (he : CLE y n bytes mL ret) (hv : CLV y) (hrec : ∀ (H : Heap) (locs : List Loc), va_P G.1 classes (wl sh G M) H → va_S (AW sh G.2.1) s.heap H locs → ∃ cellB : Cell, H[G.2.1 ci]? = some cellB ∧ cellB.vm.isStatics = false ∧ s.vm.findClass y.cls = some cellB.cls) (hM : MetX sh l G y bytes mL ret d (.ref ci :: As) M r) (hst : st = As.reverse ++ .ref ci :: rest) (hlen : As.length = n) (hroom : (rest.map fun v => v.category).sum ≤ 8) (hR : d + 1 ≤ R.frames ∧ 8 + (mL + 11) + 100 * d ≤ R.locals ∧ ca ≤ R.cells ∧ sl ≤ R.slots) (hd : decode cc pc = .ok (.invokevirtual idx, 3)) (k : XJ sh p l e R s m args below meth c ca sl G nL Q (pc + 3) L (r.1.toList ++ rest) r.2) : XJ sh p l e R s m args below meth c ca sl G nL Q pc L st M := by
  subst hst
  intro H locs ls hP hS hl
  refine X_back (r := r) (rest := rest) (a := (cvs G.2.1 (.ref ci :: As)).toArray) ?_ hS hl k
  have hcell := hrec H locs hP hS
  have hp : PreV s H y.cls (G.2.1 ci) (PcX sh G (.ref ci :: As) M) (cvs G.2.1 As) := ⟨PcX_blind, hcell, PcX_at F hP hS⟩
  have hstk : (F0 m pc ls (cvs G.2.1 (As.reverse ++ .ref ci :: rest))).stack = (cvs G.2.1 As).reverse ++ .ref (G.2.1 ci) :: cvs G.2.1 rest := by
    show cvs G.2.1 (As.reverse ++ .ref ci :: rest) = _
    unfold cvs
    rw [List.map_append, List.map_reverse]
    rfl
  have hW : 2 * (F0 m pc ls (cvs G.2.1 (As.reverse ++ .ref ci :: rest))).monitorRoom + ((cvs G.2.1 rest).map fun v => v.category).sum ≤ 8 := lv_room (by rw [cvs_cat]; exact hroom)
  have hn : (cvs G.2.1 As).length = n := by unfold cvs; rw [List.length_map]; exact hlen
  rcases hlk with hlk | ⟨host, hlk⟩
  · have hT : GoodIn TBL (wsV own idx y.cls y (.code y bytes mL ret :: TBL)) := tsub (fun w hw => by
      unfold wsV at hw
      rcases List.mem_append.mp hw with h | h
      · simp only [List.mem_cons, List.not_mem_nil, or_false] at h
        rcases h with h | h | h | h
        · rw [h]; exact hlk
        · rw [h]; exact hv.1
        · rw [h]; exact hv.2
        · rw [h]; exact he.1
      · exact (goodCode he.2.1 w h).1)
    exact va_runV (Ts := TBL) ⟨F.1, F.2.1, F.2.2.1, F.2.2.2.1, F.2.2.2.2.1⟩ hM (cwV n F.2.2.2.2.1 hT rfl rfl rfl ⟨rfl, he.2.2.1.1, he.2.2.1.2, he.2.2.2⟩ ⟨hR.1, hR.2.1⟩) hp rfl hn hl.1 hstk hW hd ⟨hR.2.2.1, hR.2.2.2⟩
  · exact va_runVN (Ts := TBL) ⟨F.1, F.2.1, F.2.2.1, F.2.2.2.1, F.2.2.2.2.1⟩ hM ⟨va_cnB n F.2.2.2.2.1 (goodCode he.2.1) rfl rfl rfl (F.2.2.2.2.2.1 _ hlk) (F.2.2.2.2.1 _ he.1) ⟨he.2.2.1.1, he.2.2.1.2, he.2.2.2⟩ ⟨hR.1, hR.2.1⟩, F.2.2.2.2.1 _ hv.1, F.2.2.2.2.1 _ hv.2⟩ hp rfl hn hl.1 hstk hW hd ⟨hR.2.2.1, hR.2.2.2⟩
theorem X_callV (F : FrP sh G p s m args c own cc nL) {idx n mL d ci : Nat} {y : MethodName} {bytes : ByteArray} {ret : Option FieldType} {As rest : List Value} {r : Option Value × Mem} (hlk : LNK own idx y) (he : CLE y n bytes mL ret) (hv : CLV y) (hci : ∃ cj q tm, classes[cj]? = some q ∧ q.1 = y.cls ∧ sh[ci]? = some (.inr (cj, tm))) (hM : MetX sh l G y bytes mL ret d (.ref ci :: As) M r) (hst : st = As.reverse ++ .ref ci :: rest) (hlen : As.length = n) (hroom : (rest.map fun v => v.category).sum ≤ 8) (hR : d + 1 ≤ R.frames ∧ 8 + (mL + 11) + 100 * d ≤ R.locals ∧ ca ≤ R.cells ∧ sl ≤ R.slots) (hd : decode cc pc = .ok (.invokevirtual idx, 3)) (k : XJ sh p l e R s m args below meth c ca sl G nL Q (pc + 3) L (r.1.toList ++ rest) r.2) : XJ sh p l e R s m args below meth c ca sl G nL Q pc L st M := by
  obtain ⟨cj, q, tm, hq, hqy, hsh⟩ := hci
  exact X_callR F hlk he hv (fun H locs hP hS => by rw [← hqy]; exact va_recv F.2.2.2.2.2.2.1 hP hq (wl_get (G := G) (M := M) hsh)) hM hst hlen hroom hR hd k
theorem X_callT (F : FrP sh G p s m args c own cc nL) {idx n mL d si : Nat} {y : MethodName} {bytes : ByteArray} {ret : Option FieldType} {As rest : List Value} {r : Option Value × Mem} (hlk : LNK own idx y) (he : CLE y n bytes mL ret) (hv : CLV y) (hs : si < 3) (hyc : y.cls = "java/lang/String") (hM : MetX sh l G y bytes mL ret d (.ref (201 + si) :: As) M r) (hst : st = As.reverse ++ .ref (201 + si) :: rest) (hlen : As.length = n) (hroom : (rest.map fun v => v.category).sum ≤ 8) (hR : d + 1 ≤ R.frames ∧ 8 + (mL + 11) + 100 * d ≤ R.locals ∧ ca ≤ R.cells ∧ sl ≤ R.slots) (hd : decode cc pc = .ok (.invokevirtual idx, 3)) (k : XJ sh p l e R s m args below meth c ca sl G nL Q (pc + 3) L (r.1.toList ++ rest) r.2) : XJ sh p l e R s m args below meth c ca sl G nL Q pc L st M := by
  exact X_callR F hlk he hv (fun H locs hP hS => by rw [hyc]; have h9 := vk_recv (i := si) F.2.2.2.2.2.2.2.2.2.2.1 hs hS; exact h9) hM hst hlen hroom hR hd k
theorem X_callS (F : FrP sh G p s m args c own cc nL) {idx n mL d : Nat} {y : MethodName} {bytes : ByteArray} {ret : Option FieldType} {As rest : List Value} {r : Option Value × Mem} (hlk : Cond.methodLink own idx y ∈ TBL) (he : CLE y n bytes mL ret) (hv : Cond.static y ∈ TBL) (hM : MetX sh l G y bytes mL ret d As M r) (hst : st = As.reverse ++ rest) (hlen : As.length = n) (hroom : (rest.map fun v => v.category).sum ≤ 8) (hR : d + 1 ≤ R.frames ∧ 8 + (mL + 11) + 100 * d ≤ R.locals ∧ ca ≤ R.cells ∧ sl ≤ R.slots) (hd : decode cc pc = .ok (.invokestatic idx, 3)) (k : XJ sh p l e R s m args below meth c ca sl G nL Q (pc + 3) L (r.1.toList ++ rest) r.2) : XJ sh p l e R s m args below meth c ca sl G nL Q pc L st M := by
  subst hst
  intro H locs ls hP hS hl
  refine X_back (r := r) (rest := rest) (a := (cvs G.2.1 As).toArray) ?_ hS hl k
  have hp : PreS s H (PcX sh G As M) (cvs G.2.1 As) := ⟨PcX_blind, PcX_at F hP hS⟩
  have hstk : (F0 m pc ls (cvs G.2.1 (As.reverse ++ rest))).stack = (cvs G.2.1 As).reverse ++ cvs G.2.1 rest := by
    show cvs G.2.1 (As.reverse ++ rest) = _
    unfold cvs
    rw [List.map_append, List.map_reverse]
  have hW : 2 * (F0 m pc ls (cvs G.2.1 (As.reverse ++ rest))).monitorRoom + ((cvs G.2.1 rest).map fun v => v.category).sum ≤ 8 := lv_room (by rw [cvs_cat]; exact hroom)
  have hn : (cvs G.2.1 As).length = n := by unfold cvs; rw [List.length_map]; exact hlen
  have hT : GoodIn TBL (va_wsS own idx y (.code y bytes mL ret :: TBL)) := tsub (fun w hw => by
    unfold va_wsS at hw
    rcases List.mem_append.mp hw with h | h
    · simp only [List.mem_cons, List.not_mem_nil, or_false] at h
      rcases h with h | h | h
      · rw [h]; exact hlk
      · rw [h]; exact hv
      · rw [h]; exact he.1
    · exact (goodCode he.2.1 w h).1)
  exact va_runS (Ts := TBL) ⟨F.1, F.2.1, F.2.2.1, F.2.2.2.1, F.2.2.2.2.1⟩ hM (va_cwS n F.2.2.2.2.1 hT rfl rfl rfl ⟨he.2.2.1.1, he.2.2.1.2, he.2.2.2⟩ ⟨hR.1, hR.2.1⟩) hp rfl hn hl.1 hstk hW hd ⟨hR.2.2.1, hR.2.2.2⟩
theorem cvl_args (ad : Nat → Nat) : ∀ (av : List Value) (i : Nat), cvl ad (lv_args i av) = lv_args i (cvs ad av) := by
  intro av
  induction av with
  | nil => intro i; rfl
  | cons v t ih =>
    intro i
    show cvl ad (lv_args i (v :: t)) = lv_args i (cv ad v :: cvs ad t)
    simp only [lv_args, cvl, List.map_cons, cv_cat] at ih ⊢
    rw [ih]
/-- a method's contract out of its walk -/
theorem X_met {y : MethodName} {bytes : ByteArray} {mL d : Nat} {ret : Option FieldType} {av : List Value} {r : Option Value × Mem} (hI : Inj sh G.2.1) (hy : plainName y.cls = true) (hav : (lg_sl (cvs G.2.1 av)).length ≤ mL)
    (body : ∀ p e s m args below meth c, FrP sh G p s m args c y.cls bytes mL → meth.sig.returnType = ret → meth.locks = false → XJ sh p l e (rmX d) s m args below meth c 0 0 G mL (MQ below (QcX sh G r.1 r.2) args s 0 0 (AW sh G.2.1)) 0 (lv_args 0 av) [] M) : MetX sh l G y bytes mL ret d av M r := by
  refine Met.ofW (cc := bytes) (maxL := mL) (ret := ret) hy rfl ?_
  intro p e s m args below meth c s₁ B hml hv
  obtain ⟨rfl, hP, hK, hN, hE⟩ := hv
  have hts0 := atoms_spec (ws := Cond.code y bytes mL ret :: TBL) B.pre
  have hF : FrP sh G p s m (cvs G.2.1 av).toArray c y.cls bytes mL := ⟨B.exec, B.bytes, hml, findClass_of_methodNamed B.named, fun w hw => hts0 w (List.mem_cons_of_mem _ hw), hN, hK, hI, hE⟩
  have hl := lv_entry (cvs G.2.1 av) (n := mL) hav
  have hb := body p e s m (cvs G.2.1 av).toArray below meth c hF B.returns B.notSynchronized s.heap [] _ hP va_S.rf (by rw [cvl_args]; exact hl)
  rw [lg_entry_eq]
  exact hb
end XR
