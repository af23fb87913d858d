/-! ===== BEGIN printed: names, fields, word lists, decode rows ===== -/
def RX0 : String := "EndsRound$Bars"
def TX0 : u_T := fun k => match k with
  | 0 => ("EndsRound$Bars", "code", "[I", true)
  | 1 => ("EndsRound$Bars", "length", "I", false)
  | 2 => ("EndsRound$Bars", "stack", "[I", true)
  | _ => ("EndsRound$Bars", "height", "I", false)
def tyX0 : Nat → FieldType := fun k => match k with
  | 0 => .array .int
  | 1 => .int
  | 2 => .array .int
  | _ => .int
abbrev wsX00 : List Cond := u_ws RX0 TX0 4
theorem nmX0 : ∀ a, a < 4 → ∀ b, b < 4 → a ≠ b → (TX0 a).2.1 ≠ (TX0 b).2.1 := by decide +kernel
theorem tyX0_ok : ∀ k, k < 4 → parseFieldDescriptor (TX0 k).2.2.1 = some (tyX0 k) := by decide +kernel
abbrev cX0_init : ByteArray := prog_2_method_1_code
def yX0_init : MethodName := ⟨RX0, "<init>", "()V"⟩
abbrev cX0_add : ByteArray := prog_2_method_2_code
def yX0_add : MethodName := ⟨RX0, "add", "(I)V"⟩
abbrev cX0_weigh : ByteArray := prog_2_method_3_code
def yX0_weigh : MethodName := ⟨RX0, "weigh", "(LEndsRound$Form;)V"⟩
abbrev cX0_holds : ByteArray := prog_2_method_4_code
def yX0_holds : MethodName := ⟨RX0, "holds", "(LEndsRound$Form;II)Z"⟩
abbrev cX0_factOf : ByteArray := prog_2_method_5_code
def yX0_factOf : MethodName := ⟨RX0, "factOf", "(ILEndsRound$Form;II)I"⟩
abbrev cX0_joined : ByteArray := prog_2_method_6_code
def yX0_joined : MethodName := ⟨RX0, "joined", "(III)I"⟩
abbrev cX0_push : ByteArray := prog_2_method_7_code
def yX0_push : MethodName := ⟨RX0, "push", "(I)V"⟩
abbrev cX0_pop : ByteArray := prog_2_method_8_code
def yX0_pop : MethodName := ⟨RX0, "pop", "()I"⟩
def RX1 : String := "EndsRound$Cycles"
def TX1 : u_T := fun k => match k with
  | 0 => ("EndsRound$Cycles", "lengths", "[I", true)
  | 1 => ("EndsRound$Cycles", "size", "I", false)
  | 2 => ("EndsRound$Cycles", "number", "I", false)
  | 3 => ("EndsRound$Cycles", "longest", "I", false)
  | 4 => ("EndsRound$Cycles", "staying", "I", false)
  | _ => ("EndsRound$Cycles", "period", "J", false)
def tyX1 : Nat → FieldType := fun k => match k with
  | 0 => .array .int
  | 1 => .int
  | 2 => .int
  | 3 => .int
  | 4 => .int
  | _ => .long
abbrev wsX10 : List Cond := u_ws RX1 TX1 6
theorem nmX1 : ∀ a, a < 6 → ∀ b, b < 6 → a ≠ b → (TX1 a).2.1 ≠ (TX1 b).2.1 := by decide +kernel
theorem tyX1_ok : ∀ k, k < 6 → parseFieldDescriptor (TX1 k).2.2.1 = some (tyX1 k) := by decide +kernel
abbrev cX1_init : ByteArray := prog_3_method_1_code
def yX1_init : MethodName := ⟨RX1, "<init>", "(I)V"⟩
abbrev cX1_follow : ByteArray := prog_3_method_2_code
def yX1_follow : MethodName := ⟨RX1, "follow", "([II)V"⟩
abbrev cX1_addCycle : ByteArray := prog_3_method_3_code
def yX1_addCycle : MethodName := ⟨RX1, "addCycle", "([II)V"⟩
abbrev cX1_ofLength : ByteArray := prog_3_method_4_code
def yX1_ofLength : MethodName := ⟨RX1, "ofLength", "(I)I"⟩
abbrev cX1_leastMultiple : ByteArray := prog_3_method_5_code
def yX1_leastMultiple : MethodName := ⟨RX1, "leastMultiple", "(JJ)J"⟩
def RX2 : String := "EndsRound$Draft"
def TX2 : u_T := fun k => match k with
  | 0 => ("EndsRound$Draft", "words", "[I", true)
  | 1 => ("EndsRound$Draft", "texts", "[I", true)
  | 2 => ("EndsRound$Draft", "beats", "[I", true)
  | _ => ("EndsRound$Draft", "length", "I", false)
def tyX2 : Nat → FieldType := fun k => match k with
  | 0 => .array .int
  | 1 => .array .int
  | 2 => .array .int
  | _ => .int
abbrev wsX20 : List Cond := u_ws RX2 TX2 4
theorem nmX2 : ∀ a, a < 4 → ∀ b, b < 4 → a ≠ b → (TX2 a).2.1 ≠ (TX2 b).2.1 := by decide +kernel
theorem tyX2_ok : ∀ k, k < 4 → parseFieldDescriptor (TX2 k).2.2.1 = some (tyX2 k) := by decide +kernel
abbrev cX2_init : ByteArray := prog_4_method_1_code
def yX2_init : MethodName := ⟨RX2, "<init>", "()V"⟩
abbrev cX2_add : ByteArray := prog_4_method_2_code
def yX2_add : MethodName := ⟨RX2, "add", "(III)V"⟩
abbrev cX2_copy : ByteArray := prog_4_method_3_code
def yX2_copy : MethodName := ⟨RX2, "copy", "(LEndsRound$Draft;)V"⟩
def RX3 : String := "EndsRound$Filler"
def TX3 : u_T := fun k => match k with
  | 0 => ("EndsRound$Filler", "form", "LEndsRound$Form;", true)
  | 1 => ("EndsRound$Filler", "stanzas", "LEndsRound$Stanzas;", true)
  | 2 => ("EndsRound$Filler", "first", "[I", true)
  | 3 => ("EndsRound$Filler", "allowed", "[I", true)
  | 4 => ("EndsRound$Filler", "relations", "[I", true)
  | 5 => ("EndsRound$Filler", "chosen", "[I", true)
  | 6 => ("EndsRound$Filler", "given", "[I", true)
  | 7 => ("EndsRound$Filler", "open", "[I", true)
  | 8 => ("EndsRound$Filler", "size", "I", false)
  | 9 => ("EndsRound$Filler", "prepared", "Z", false)
  | 10 => ("EndsRound$Filler", "counted", "Z", false)
  | 11 => ("EndsRound$Filler", "searched", "Z", false)
  | 12 => ("EndsRound$Filler", "found", "Z", false)
  | 13 => ("EndsRound$Filler", "number", "J", false)
  | _ => ("EndsRound$Filler", "stuckBits", "I", false)
def tyX3 : Nat → FieldType := fun k => match k with
  | 0 => .object "EndsRound$Form"
  | 1 => .object "EndsRound$Stanzas"
  | 2 => .array .int
  | 3 => .array .int
  | 4 => .array .int
  | 5 => .array .int
  | 6 => .array .int
  | 7 => .array .int
  | 8 => .int
  | 9 => .boolean
  | 10 => .boolean
  | 11 => .boolean
  | 12 => .boolean
  | 13 => .long
  | _ => .int
abbrev wsX30 : List Cond := u_ws RX3 TX3 15
theorem nmX3 : ∀ a, a < 15 → ∀ b, b < 15 → a ≠ b → (TX3 a).2.1 ≠ (TX3 b).2.1 := by decide +kernel
theorem tyX3_ok : ∀ k, k < 15 → parseFieldDescriptor (TX3 k).2.2.1 = some (tyX3 k) := by decide +kernel
abbrev cX3_init : ByteArray := prog_5_method_1_code
def yX3_init : MethodName := ⟨RX3, "<init>", "(LEndsRound$Form;LEndsRound$Stanzas;)V"⟩
abbrev cX3_forget : ByteArray := prog_5_method_2_code
def yX3_forget : MethodName := ⟨RX3, "forget", "()V"⟩
abbrev cX3_howMany : ByteArray := prog_5_method_3_code
def yX3_howMany : MethodName := ⟨RX3, "howMany", "()J"⟩
abbrev cX3_canAll : ByteArray := prog_5_method_4_code
def yX3_canAll : MethodName := ⟨RX3, "canAll", "()Z"⟩
abbrev cX3_fewestStuck : ByteArray := prog_5_method_5_code
def yX3_fewestStuck : MethodName := ⟨RX3, "fewestStuck", "()I"⟩
abbrev cX3_choose : ByteArray := prog_5_method_6_code
def yX3_choose : MethodName := ⟨RX3, "choose", "(I)V"⟩
abbrev cX3_prepare : ByteArray := prog_5_method_7_code
def yX3_prepare : MethodName := ⟨RX3, "prepare", "()V"⟩
abbrev cX3_allowedBy : ByteArray := prog_5_method_8_code
def yX3_allowedBy : MethodName := ⟨RX3, "allowedBy", "(II)I"⟩
abbrev cX3_ways : ByteArray := prog_5_method_9_code
def yX3_ways : MethodName := ⟨RX3, "ways", "(IZ)J"⟩
abbrev cX3_waysWith : ByteArray := prog_5_method_10_code
def yX3_waysWith : MethodName := ⟨RX3, "waysWith", "(IIZ)J"⟩
abbrev cX3_leavesOpen : ByteArray := prog_5_method_11_code
def yX3_leavesOpen : MethodName := ⟨RX3, "leavesOpen", "(II)Z"⟩
def RX4 : String := "EndsRound$Form"
def TX4 : u_T := fun k => match k with
  | 0 => ("EndsRound$Form", "ends", "I", false)
  | 1 => ("EndsRound$Form", "steps", "I", false)
  | 2 => ("EndsRound$Form", "rhymeLines", "I", false)
  | 3 => ("EndsRound$Form", "wholeLines", "I", false)
  | 4 => ("EndsRound$Form", "feet", "I", false)
  | 5 => ("EndsRound$Form", "words", "I", false)
  | 6 => ("EndsRound$Form", "bars", "I", false)
  | 7 => ("EndsRound$Form", "from", "[I", true)
  | 8 => ("EndsRound$Form", "rhymesWith", "[I", true)
  | 9 => ("EndsRound$Form", "every", "[I", true)
  | 10 => ("EndsRound$Form", "wordRhyme", "[I", true)
  | 11 => ("EndsRound$Form", "wordBeats", "[I", true)
  | 12 => ("EndsRound$Form", "wordKind", "[I", true)
  | 13 => ("EndsRound$Form", "barredBehind", "[I", true)
  | _ => ("EndsRound$Form", "spare", "[I", true)
def tyX4 : Nat → FieldType := fun k => match k with
  | 0 => .int
  | 1 => .int
  | 2 => .int
  | 3 => .int
  | 4 => .int
  | 5 => .int
  | 6 => .int
  | 7 => .array .int
  | 8 => .array .int
  | 9 => .array .int
  | 10 => .array .int
  | 11 => .array .int
  | 12 => .array .int
  | 13 => .array .int
  | _ => .array .int
abbrev wsX40 : List Cond := u_ws RX4 TX4 15
theorem nmX4 : ∀ a, a < 15 → ∀ b, b < 15 → a ≠ b → (TX4 a).2.1 ≠ (TX4 b).2.1 := by decide +kernel
theorem tyX4_ok : ∀ k, k < 15 → parseFieldDescriptor (TX4 k).2.2.1 = some (tyX4 k) := by decide +kernel
abbrev cX4_init : ByteArray := prog_6_method_1_code
def yX4_init : MethodName := ⟨RX4, "<init>", "()V"⟩
abbrev cX4_begin : ByteArray := prog_6_method_2_code
def yX4_begin : MethodName := ⟨RX4, "begin", "(I)V"⟩
abbrev cX4_copy : ByteArray := prog_6_method_3_code
def yX4_copy : MethodName := ⟨RX4, "copy", "(LEndsRound$Form;)V"⟩
abbrev cX4_addStep : ByteArray := prog_6_method_4_code
def yX4_addStep : MethodName := ⟨RX4, "addStep", "(III)V"⟩
abbrev cX4_sourceOf : ByteArray := prog_6_method_5_code
def yX4_sourceOf : MethodName := ⟨RX4, "sourceOf", "(IIII)I"⟩
abbrev cX4_thirdsSource : ByteArray := prog_6_method_6_code
def yX4_thirdsSource : MethodName := ⟨RX4, "thirdsSource", "(I)I"⟩
abbrev cX4_addRhyme : ByteArray := prog_6_method_7_code
def yX4_addRhyme : MethodName := ⟨RX4, "addRhyme", "(II)V"⟩
abbrev cX4_addWhole : ByteArray := prog_6_method_8_code
def yX4_addWhole : MethodName := ⟨RX4, "addWhole", "(II)V"⟩
abbrev cX4_addWord : ByteArray := prog_6_method_9_code
def yX4_addWord : MethodName := ⟨RX4, "addWord", "(III)V"⟩
abbrev cX4_areRhyming : ByteArray := prog_6_method_10_code
def yX4_areRhyming : MethodName := ⟨RX4, "areRhyming", "(II)Z"⟩
abbrev cX4_forbids : ByteArray := prog_6_method_11_code
def yX4_forbids : MethodName := ⟨RX4, "forbids", "(II)Z"⟩
def RX5 : String := "EndsRound$Mark"
def TX5 : u_T := fun k => match k with
  | 0 => ("EndsRound$Mark", "form", "LEndsRound$Form;", true)
  | 1 => ("EndsRound$Mark", "draft", "LEndsRound$Draft;", true)
  | _ => ("EndsRound$Mark", "laid", "Z", false)
def tyX5 : Nat → FieldType := fun k => match k with
  | 0 => .object "EndsRound$Form"
  | 1 => .object "EndsRound$Draft"
  | _ => .boolean
abbrev wsX50 : List Cond := u_ws RX5 TX5 3
theorem nmX5 : ∀ a, a < 3 → ∀ b, b < 3 → a ≠ b → (TX5 a).2.1 ≠ (TX5 b).2.1 := by decide +kernel
theorem tyX5_ok : ∀ k, k < 3 → parseFieldDescriptor (TX5 k).2.2.1 = some (tyX5 k) := by decide +kernel
abbrev cX5_init : ByteArray := prog_7_method_1_code
def yX5_init : MethodName := ⟨RX5, "<init>", "()V"⟩
abbrev cX5_lay : ByteArray := prog_7_method_2_code
def yX5_lay : MethodName := ⟨RX5, "lay", "(LEndsRound$Form;LEndsRound$Draft;)V"⟩
def RX6 : String := "EndsRound$Mender"
def TX6 : u_T := fun k => match k with
  | 0 => ("EndsRound$Mender", "form", "LEndsRound$Form;", true)
  | 1 => ("EndsRound$Mender", "stanzas", "LEndsRound$Stanzas;", true)
  | 2 => ("EndsRound$Mender", "draft", "LEndsRound$Draft;", true)
  | 3 => ("EndsRound$Mender", "given", "[I", true)
  | 4 => ("EndsRound$Mender", "changes", "[I", true)
  | 5 => ("EndsRound$Mender", "byRhyme", "[I", true)
  | 6 => ("EndsRound$Mender", "unbroken", "[I", true)
  | 7 => ("EndsRound$Mender", "least", "[I", true)
  | 8 => ("EndsRound$Mender", "known", "Z", false)
  | _ => ("EndsRound$Mender", "fewest", "I", false)
def tyX6 : Nat → FieldType := fun k => match k with
  | 0 => .object "EndsRound$Form"
  | 1 => .object "EndsRound$Stanzas"
  | 2 => .object "EndsRound$Draft"
  | 3 => .array .int
  | 4 => .array .int
  | 5 => .array .int
  | 6 => .array .int
  | 7 => .array .int
  | 8 => .boolean
  | _ => .int
abbrev wsX60 : List Cond := u_ws RX6 TX6 10
theorem nmX6 : ∀ a, a < 10 → ∀ b, b < 10 → a ≠ b → (TX6 a).2.1 ≠ (TX6 b).2.1 := by decide +kernel
theorem tyX6_ok : ∀ k, k < 10 → parseFieldDescriptor (TX6 k).2.2.1 = some (tyX6 k) := by decide +kernel
abbrev cX6_init : ByteArray := prog_8_method_1_code
def yX6_init : MethodName := ⟨RX6, "<init>", "(LEndsRound$Form;LEndsRound$Stanzas;LEndsRound$Draft;)V"⟩
abbrev cX6_forget : ByteArray := prog_8_method_2_code
def yX6_forget : MethodName := ⟨RX6, "forget", "()V"⟩
abbrev cX6_howMany : ByteArray := prog_8_method_3_code
def yX6_howMany : MethodName := ⟨RX6, "howMany", "()I"⟩
abbrev cX6_settle : ByteArray := prog_8_method_4_code
def yX6_settle : MethodName := ⟨RX6, "settle", "()V"⟩
abbrev cX6_giveLeast : ByteArray := prog_8_method_5_code
def yX6_giveLeast : MethodName := ⟨RX6, "giveLeast", "(I)V"⟩
abbrev cX6_countChanges : ByteArray := prog_8_method_6_code
def yX6_countChanges : MethodName := ⟨RX6, "countChanges", "()V"⟩
abbrev cX6_sortWords : ByteArray := prog_8_method_7_code
def yX6_sortWords : MethodName := ⟨RX6, "sortWords", "()V"⟩
abbrev cX6_findUnbroken : ByteArray := prog_8_method_8_code
def yX6_findUnbroken : MethodName := ⟨RX6, "findUnbroken", "()V"⟩
abbrev cX6_cheapest : ByteArray := prog_8_method_9_code
def yX6_cheapest : MethodName := ⟨RX6, "cheapest", "()I"⟩
abbrev cX6_offer : ByteArray := prog_8_method_10_code
def yX6_offer : MethodName := ⟨RX6, "offer", "(II)V"⟩
abbrev cX6_dropBroken : ByteArray := prog_8_method_11_code
def yX6_dropBroken : MethodName := ⟨RX6, "dropBroken", "(I)V"⟩
def RX7 : String := "EndsRound$Namer"
def TX7 : u_T := fun k => match k with
  | 0 => ("EndsRound$Namer", "names", "[I", true)
  | 1 => ("EndsRound$Namer", "hereTints", "[I", true)
  | 2 => ("EndsRound$Namer", "thereTints", "[I", true)
  | 3 => ("EndsRound$Namer", "spare", "[I", true)
  | 4 => ("EndsRound$Namer", "cycles", "LEndsRound$Cycles;", true)
  | 5 => ("EndsRound$Namer", "here", "LEndsRound$Form;", true)
  | 6 => ("EndsRound$Namer", "there", "LEndsRound$Form;", false)
  | _ => ("EndsRound$Namer", "taken", "I", false)
def tyX7 : Nat → FieldType := fun k => match k with
  | 0 => .array .int
  | 1 => .array .int
  | 2 => .array .int
  | 3 => .array .int
  | 4 => .object "EndsRound$Cycles"
  | 5 => .object "EndsRound$Form"
  | 6 => .object "EndsRound$Form"
  | _ => .int
abbrev wsX70 : List Cond := u_ws RX7 TX7 8
theorem nmX7 : ∀ a, a < 8 → ∀ b, b < 8 → a ≠ b → (TX7 a).2.1 ≠ (TX7 b).2.1 := by decide +kernel
theorem tyX7_ok : ∀ k, k < 8 → parseFieldDescriptor (TX7 k).2.2.1 = some (tyX7 k) := by decide +kernel
abbrev cX7_init : ByteArray := prog_9_method_1_code
def yX7_init : MethodName := ⟨RX7, "<init>", "(LEndsRound$Form;)V"⟩
abbrev cX7_finds : ByteArray := prog_9_method_2_code
def yX7_finds : MethodName := ⟨RX7, "finds", "(LEndsRound$Form;)Z"⟩
abbrev cX7_tint : ByteArray := prog_9_method_3_code
def yX7_tint : MethodName := ⟨RX7, "tint", "(LEndsRound$Form;[I)V"⟩
abbrev cX7_mixed : ByteArray := prog_9_method_4_code
def yX7_mixed : MethodName := ⟨RX7, "mixed", "(LEndsRound$Form;[II)I"⟩
abbrev cX7_spread : ByteArray := prog_9_method_5_code
def yX7_spread : MethodName := ⟨RX7, "spread", "(I)I"⟩
abbrev cX7_haveSameTints : ByteArray := prog_9_method_6_code
def yX7_haveSameTints : MethodName := ⟨RX7, "haveSameTints", "()Z"⟩
abbrev cX7_namesFrom : ByteArray := prog_9_method_7_code
def yX7_namesFrom : MethodName := ⟨RX7, "namesFrom", "(I)Z"⟩
abbrev cX7_namesWith : ByteArray := prog_9_method_8_code
def yX7_namesWith : MethodName := ⟨RX7, "namesWith", "(II)Z"⟩
abbrev cX7_givesCycle : ByteArray := prog_9_method_9_code
def yX7_givesCycle : MethodName := ⟨RX7, "givesCycle", "(II)Z"⟩
abbrev cX7_fits : ByteArray := prog_9_method_10_code
def yX7_fits : MethodName := ⟨RX7, "fits", "(II)Z"⟩
abbrev cX7_takeCycleBack : ByteArray := prog_9_method_11_code
def yX7_takeCycleBack : MethodName := ⟨RX7, "takeCycleBack", "(I)V"⟩
def RX8 : String := "EndsRound$Parser"
def TX8 : u_T := fun k => match k with
  | 0 => ("EndsRound$Parser", "tape", "LEndsRound$Tape;", true)
  | 1 => ("EndsRound$Parser", "bars", "LEndsRound$Bars;", true)
  | 2 => ("EndsRound$Parser", "told", "LEndsRound$Form;", true)
  | 3 => ("EndsRound$Parser", "names", "[J", true)
  | 4 => ("EndsRound$Parser", "token", "I", false)
  | 5 => ("EndsRound$Parser", "key", "I", false)
  | 6 => ("EndsRound$Parser", "value", "J", false)
  | 7 => ("EndsRound$Parser", "taken", "I", false)
  | _ => ("EndsRound$Parser", "fault", "I", false)
def tyX8 : Nat → FieldType := fun k => match k with
  | 0 => .object "EndsRound$Tape"
  | 1 => .object "EndsRound$Bars"
  | 2 => .object "EndsRound$Form"
  | 3 => .array .long
  | 4 => .int
  | 5 => .int
  | 6 => .long
  | 7 => .int
  | _ => .int
abbrev wsX80 : List Cond := u_ws RX8 TX8 9
theorem nmX8 : ∀ a, a < 9 → ∀ b, b < 9 → a ≠ b → (TX8 a).2.1 ≠ (TX8 b).2.1 := by decide +kernel
theorem tyX8_ok : ∀ k, k < 9 → parseFieldDescriptor (TX8 k).2.2.1 = some (tyX8 k) := by decide +kernel
abbrev cX8_init : ByteArray := prog_10_method_1_code
def yX8_init : MethodName := ⟨RX8, "<init>", "(LEndsRound$Tape;)V"⟩
abbrev cX8_read : ByteArray := prog_10_method_2_code
def yX8_read : MethodName := ⟨RX8, "read", "()I"⟩
abbrev cX8_readLine : ByteArray := prog_10_method_3_code
def yX8_readLine : MethodName := ⟨RX8, "readLine", "()Z"⟩
abbrev cX8_readTurn : ByteArray := prog_10_method_4_code
def yX8_readTurn : MethodName := ⟨RX8, "readTurn", "()Z"⟩
abbrev cX8_readStep : ByteArray := prog_10_method_5_code
def yX8_readStep : MethodName := ⟨RX8, "readStep", "()Z"⟩
abbrev cX8_readRhyme : ByteArray := prog_10_method_6_code
def yX8_readRhyme : MethodName := ⟨RX8, "readRhyme", "()Z"⟩
abbrev cX8_readWhole : ByteArray := prog_10_method_7_code
def yX8_readWhole : MethodName := ⟨RX8, "readWhole", "()Z"⟩
abbrev cX8_readFeet : ByteArray := prog_10_method_8_code
def yX8_readFeet : MethodName := ⟨RX8, "readFeet", "()Z"⟩
abbrev cX8_readWord : ByteArray := prog_10_method_9_code
def yX8_readWord : MethodName := ⟨RX8, "readWord", "()Z"⟩
abbrev cX8_takeName : ByteArray := prog_10_method_10_code
def yX8_takeName : MethodName := ⟨RX8, "takeName", "()Z"⟩
abbrev cX8_readBar : ByteArray := prog_10_method_11_code
def yX8_readBar : MethodName := ⟨RX8, "readBar", "()Z"⟩
abbrev cX8_readTests : ByteArray := prog_10_method_12_code
def yX8_readTests : MethodName := ⟨RX8, "readTests", "(I)Z"⟩
abbrev cX8_readTest : ByteArray := prog_10_method_13_code
def yX8_readTest : MethodName := ⟨RX8, "readTest", "(I)Z"⟩
abbrev cX8_readSum : ByteArray := prog_10_method_14_code
def yX8_readSum : MethodName := ⟨RX8, "readSum", "(I)Z"⟩
abbrev cX8_readProduct : ByteArray := prog_10_method_15_code
def yX8_readProduct : MethodName := ⟨RX8, "readProduct", "(I)Z"⟩
abbrev cX8_readPart : ByteArray := prog_10_method_16_code
def yX8_readPart : MethodName := ⟨RX8, "readPart", "(I)Z"⟩
abbrev cX8_holdToken : ByteArray := prog_10_method_17_code
def yX8_holdToken : MethodName := ⟨RX8, "holdToken", "(I)V"⟩
abbrev cX8_takeKey : ByteArray := prog_10_method_18_code
def yX8_takeKey : MethodName := ⟨RX8, "takeKey", "(I)Z"⟩
abbrev cX8_takeNumber : ByteArray := prog_10_method_19_code
def yX8_takeNumber : MethodName := ⟨RX8, "takeNumber", "(III)Z"⟩
abbrev cX8_isWrong : ByteArray := prog_10_method_20_code
def yX8_isWrong : MethodName := ⟨RX8, "isWrong", "(I)Z"⟩
def RX9 : String := "EndsRound$Stanzas"
def TX9 : u_T := fun k => match k with
  | 0 => ("EndsRound$Stanzas", "cycles", "LEndsRound$Cycles;", true)
  | 1 => ("EndsRound$Stanzas", "from", "[I", true)
  | 2 => ("EndsRound$Stanzas", "to", "[I", true)
  | 3 => ("EndsRound$Stanzas", "classes", "[I", true)
  | 4 => ("EndsRound$Stanzas", "ahead", "[I", true)
  | 5 => ("EndsRound$Stanzas", "row", "[I", true)
  | 6 => ("EndsRound$Stanzas", "spare", "[I", true)
  | _ => ("EndsRound$Stanzas", "ends", "I", false)
def tyX9 : Nat → FieldType := fun k => match k with
  | 0 => .object "EndsRound$Cycles"
  | 1 => .array .int
  | 2 => .array .int
  | 3 => .array .int
  | 4 => .array .int
  | 5 => .array .int
  | 6 => .array .int
  | _ => .int
abbrev wsX90 : List Cond := u_ws RX9 TX9 8
theorem nmX9 : ∀ a, a < 8 → ∀ b, b < 8 → a ≠ b → (TX9 a).2.1 ≠ (TX9 b).2.1 := by decide +kernel
theorem tyX9_ok : ∀ k, k < 8 → parseFieldDescriptor (TX9 k).2.2.1 = some (tyX9 k) := by decide +kernel
abbrev cX9_init : ByteArray := prog_11_method_1_code
def yX9_init : MethodName := ⟨RX9, "<init>", "()V"⟩
abbrev cX9_follow : ByteArray := prog_11_method_2_code
def yX9_follow : MethodName := ⟨RX9, "follow", "(LEndsRound$Form;)V"⟩
abbrev cX9_addNeighbours : ByteArray := prog_11_method_3_code
def yX9_addNeighbours : MethodName := ⟨RX9, "addNeighbours", "()V"⟩
abbrev cX9_addRhymes : ByteArray := prog_11_method_4_code
def yX9_addRhymes : MethodName := ⟨RX9, "addRhymes", "(LEndsRound$Form;)V"⟩
abbrev cX9_joinClasses : ByteArray := prog_11_method_5_code
def yX9_joinClasses : MethodName := ⟨RX9, "joinClasses", "(II)V"⟩
abbrev cX9_turnRow : ByteArray := prog_11_method_6_code
def yX9_turnRow : MethodName := ⟨RX9, "turnRow", "()V"⟩
abbrev cX9_endAt : ByteArray := prog_11_method_7_code
def yX9_endAt : MethodName := ⟨RX9, "endAt", "(JI)I"⟩
abbrev cX9_placeOf : ByteArray := prog_11_method_8_code
def yX9_placeOf : MethodName := ⟨RX9, "placeOf", "(JI)I"⟩
abbrev cX9_walk : ByteArray := prog_11_method_9_code
def yX9_walk : MethodName := ⟨RX9, "walk", "([IJI)I"⟩
abbrev cX9_firstMeeting : ByteArray := prog_11_method_10_code
def yX9_firstMeeting : MethodName := ⟨RX9, "firstMeeting", "(II)I"⟩
abbrev cX9_timesAhead : ByteArray := prog_11_method_11_code
def yX9_timesAhead : MethodName := ⟨RX9, "timesAhead", "(II)I"⟩
abbrev cX9_areOneClass : ByteArray := prog_11_method_12_code
def yX9_areOneClass : MethodName := ⟨RX9, "areOneClass", "(II)Z"⟩
def RX10 : String := "EndsRound$Tape"
def TX10 : u_T := fun k => match k with
  | 0 => ("EndsRound$Tape", "signs", "[C", true)
  | 1 => ("EndsRound$Tape", "keys", "[I", true)
  | 2 => ("EndsRound$Tape", "starts", "[I", true)
  | 3 => ("EndsRound$Tape", "values", "[J", true)
  | 4 => ("EndsRound$Tape", "words", "[J", true)
  | 5 => ("EndsRound$Tape", "length", "I", false)
  | _ => ("EndsRound$Tape", "tokens", "I", false)
def tyX10 : Nat → FieldType := fun k => match k with
  | 0 => .array .char
  | 1 => .array .int
  | 2 => .array .int
  | 3 => .array .long
  | 4 => .array .long
  | 5 => .int
  | _ => .int
abbrev wsX100 : List Cond := u_ws RX10 TX10 7
theorem nmX10 : ∀ a, a < 7 → ∀ b, b < 7 → a ≠ b → (TX10 a).2.1 ≠ (TX10 b).2.1 := by decide +kernel
theorem tyX10_ok : ∀ k, k < 7 → parseFieldDescriptor (TX10 k).2.2.1 = some (tyX10 k) := by decide +kernel
abbrev cX10_init : ByteArray := prog_12_method_1_code
def yX10_init : MethodName := ⟨RX10, "<init>", "()V"⟩
abbrev cX10_addBytes : ByteArray := prog_12_method_2_code
def yX10_addBytes : MethodName := ⟨RX10, "addBytes", "(J)V"⟩
abbrev cX10_addSign : ByteArray := prog_12_method_3_code
def yX10_addSign : MethodName := ⟨RX10, "addSign", "(I)V"⟩
abbrev cX10_signAt : ByteArray := prog_12_method_4_code
def yX10_signAt : MethodName := ⟨RX10, "signAt", "(I)I"⟩
abbrev cX10_cut : ByteArray := prog_12_method_5_code
def yX10_cut : MethodName := ⟨RX10, "cut", "()V"⟩
abbrev cX10_cutToken : ByteArray := prog_12_method_6_code
def yX10_cutToken : MethodName := ⟨RX10, "cutToken", "(I)I"⟩
abbrev cX10_cutWord : ByteArray := prog_12_method_7_code
def yX10_cutWord : MethodName := ⟨RX10, "cutWord", "(I)I"⟩
abbrev cX10_cutNumber : ByteArray := prog_12_method_8_code
def yX10_cutNumber : MethodName := ⟨RX10, "cutNumber", "(I)I"⟩
abbrev cX10_addToken : ByteArray := prog_12_method_9_code
def yX10_addToken : MethodName := ⟨RX10, "addToken", "(IIJ)V"⟩
abbrev cX10_keyOf : ByteArray := prog_12_method_10_code
def yX10_keyOf : MethodName := ⟨RX10, "keyOf", "(J)I"⟩
abbrev cX10_withLetter : ByteArray := prog_12_method_11_code
def yX10_withLetter : MethodName := ⟨RX10, "withLetter", "(JI)J"⟩
abbrev cX10_isBlank : ByteArray := prog_12_method_12_code
def yX10_isBlank : MethodName := ⟨RX10, "isBlank", "(I)Z"⟩
abbrev cX10_isLetter : ByteArray := prog_12_method_13_code
def yX10_isLetter : MethodName := ⟨RX10, "isLetter", "(I)Z"⟩
abbrev cX10_isDigit : ByteArray := prog_12_method_14_code
def yX10_isDigit : MethodName := ⟨RX10, "isDigit", "(I)Z"⟩
abbrev cX10_isSign : ByteArray := prog_12_method_15_code
def yX10_isSign : MethodName := ⟨RX10, "isSign", "(I)Z"⟩
def RX11 : String := "EndsRound"
def TX11 : u_T := fun k => match k with
  | 0 => ("EndsRound", "tape", "LEndsRound$Tape;", true)
  | 1 => ("EndsRound", "parser", "LEndsRound$Parser;", true)
  | 2 => ("EndsRound", "current", "LEndsRound$Form;", true)
  | 3 => ("EndsRound", "draft", "LEndsRound$Draft;", true)
  | 4 => ("EndsRound", "stanzas", "LEndsRound$Stanzas;", true)
  | 5 => ("EndsRound", "filler", "LEndsRound$Filler;", true)
  | 6 => ("EndsRound", "mender", "LEndsRound$Mender;", true)
  | 7 => ("EndsRound", "namer", "LEndsRound$Namer;", true)
  | 8 => ("EndsRound", "marks", "[LEndsRound$Mark;", true)
  | 9 => ("EndsRound", "spiralCycles", "LEndsRound$Cycles;", true)
  | _ => ("EndsRound", "spiralRow", "[I", true)
def tyX11 : Nat → FieldType := fun k => match k with
  | 0 => .object "EndsRound$Tape"
  | 1 => .object "EndsRound$Parser"
  | 2 => .object "EndsRound$Form"
  | 3 => .object "EndsRound$Draft"
  | 4 => .object "EndsRound$Stanzas"
  | 5 => .object "EndsRound$Filler"
  | 6 => .object "EndsRound$Mender"
  | 7 => .object "EndsRound$Namer"
  | 8 => .array (.object "EndsRound$Mark")
  | 9 => .object "EndsRound$Cycles"
  | _ => .array .int
abbrev wsX110 : List Cond := u_ws RX11 TX11 11
theorem nmX11 : ∀ a, a < 11 → ∀ b, b < 11 → a ≠ b → (TX11 a).2.1 ≠ (TX11 b).2.1 := by decide +kernel
theorem tyX11_ok : ∀ k, k < 11 → parseFieldDescriptor (TX11 k).2.2.1 = some (tyX11 k) := by decide +kernel
abbrev cX11_init : ByteArray := prog_1_method_1_code
def yX11_init : MethodName := ⟨RX11, "<init>", "()V"⟩
abbrev cX11_feed : ByteArray := prog_1_method_2_code
def yX11_feed : MethodName := ⟨RX11, "feed", "(JJJ)I"⟩
abbrev cX11_form : ByteArray := prog_1_method_3_code
def yX11_form : MethodName := ⟨RX11, "form", "()I"⟩
abbrev cX11_turning : ByteArray := prog_1_method_4_code
def yX11_turning : MethodName := ⟨RX11, "turning", "(II)I"⟩
abbrev cX11_end : ByteArray := prog_1_method_5_code
def yX11_end : MethodName := ⟨RX11, "end", "(JI)I"⟩
abbrev cX11_where : ByteArray := prog_1_method_6_code
def yX11_where : MethodName := ⟨RX11, "where", "(JI)I"⟩
abbrev cX11_meets : ByteArray := prog_1_method_7_code
def yX11_meets : MethodName := ⟨RX11, "meets", "(II)I"⟩
abbrev cX11_round : ByteArray := prog_1_method_8_code
def yX11_round : MethodName := ⟨RX11, "round", "(I)I"⟩
abbrev cX11_roots : ByteArray := prog_1_method_9_code
def yX11_roots : MethodName := ⟨RX11, "roots", "()J"⟩
abbrev cX11_spiral : ByteArray := prog_1_method_10_code
def yX11_spiral : MethodName := ⟨RX11, "spiral", "(II)I"⟩
abbrev cX11_rhymes : ByteArray := prog_1_method_11_code
def yX11_rhymes : MethodName := ⟨RX11, "rhymes", "(I)I"⟩
abbrev cX11_beside : ByteArray := prog_1_method_12_code
def yX11_beside : MethodName := ⟨RX11, "beside", "(II)I"⟩
abbrev cX11_word : ByteArray := prog_1_method_13_code
def yX11_word : MethodName := ⟨RX11, "word", "(II)I"⟩
abbrev cX11_barred : ByteArray := prog_1_method_14_code
def yX11_barred : MethodName := ⟨RX11, "barred", "(II)I"⟩
abbrev cX11_fills : ByteArray := prog_1_method_15_code
def yX11_fills : MethodName := ⟨RX11, "fills", "()J"⟩
abbrev cX11_fill : ByteArray := prog_1_method_16_code
def yX11_fill : MethodName := ⟨RX11, "fill", "(I)I"⟩
abbrev cX11_stuck : ByteArray := prog_1_method_17_code
def yX11_stuck : MethodName := ⟨RX11, "stuck", "(I)I"⟩
abbrev cX11_line : ByteArray := prog_1_method_18_code
def yX11_line : MethodName := ⟨RX11, "line", "(III)I"⟩
abbrev cX11_clear : ByteArray := prog_1_method_19_code
def yX11_clear : MethodName := ⟨RX11, "clear", "()Z"⟩
abbrev cX11_judged : ByteArray := prog_1_method_20_code
def yX11_judged : MethodName := ⟨RX11, "judged", "(I)I"⟩
abbrev cX11_mend : ByteArray := prog_1_method_21_code
def yX11_mend : MethodName := ⟨RX11, "mend", "()I"⟩
abbrev cX11_mended : ByteArray := prog_1_method_22_code
def yX11_mended : MethodName := ⟨RX11, "mended", "(I)I"⟩
abbrev cX11_same : ByteArray := prog_1_method_23_code
def yX11_same : MethodName := ⟨RX11, "same", "(I)I"⟩
abbrev cX11_renamed : ByteArray := prog_1_method_24_code
def yX11_renamed : MethodName := ⟨RX11, "renamed", "(II)I"⟩
abbrev cX11_mark : ByteArray := prog_1_method_25_code
def yX11_mark : MethodName := ⟨RX11, "mark", "(IZ)Z"⟩
abbrev cX11_count : ByteArray := prog_1_method_26_code
def yX11_count : MethodName := ⟨RX11, "count", "(I)I"⟩
abbrev cX11_formChanged : ByteArray := prog_1_method_27_code
def yX11_formChanged : MethodName := ⟨RX11, "formChanged", "()V"⟩
abbrev cX11_isEnd : ByteArray := prog_1_method_28_code
def yX11_isEnd : MethodName := ⟨RX11, "isEnd", "(I)Z"⟩
abbrev cX11_isWord : ByteArray := prog_1_method_29_code
def yX11_isWord : MethodName := ⟨RX11, "isWord", "(I)Z"⟩
abbrev cX11_markAt : ByteArray := prog_1_method_30_code
def yX11_markAt : MethodName := ⟨RX11, "markAt", "(I)LEndsRound$Mark;"⟩
abbrev cX11_isStanza : ByteArray := prog_1_method_31_code
def yX11_isStanza : MethodName := ⟨RX11, "isStanza", "(J)Z"⟩
abbrev cX11_whyWrong : ByteArray := prog_1_method_32_code
def yX11_whyWrong : MethodName := ⟨RX11, "whyWrong", "(I)I"⟩
abbrev cX11_isRepeated : ByteArray := prog_1_method_33_code
def yX11_isRepeated : MethodName := ⟨RX11, "isRepeated", "(II)Z"⟩
abbrev cX11_jars : ByteArray := prog_1_method_34_code
def yX11_jars : MethodName := ⟨RX11, "jars", "(II)Z"⟩
abbrev cX11_rootsOfAlike : ByteArray := prog_1_method_35_code
def yX11_rootsOfAlike : MethodName := ⟨RX11, "rootsOfAlike", "(II)J"⟩
abbrev cX11_spiralSource : ByteArray := prog_1_method_36_code
def yX11_spiralSource : MethodName := ⟨RX11, "spiralSource", "(II)I"⟩
abbrev cX11_cell : ByteArray := prog_1_method_37_code
def yX11_cell : MethodName := ⟨RX11, "cell", "([II)I"⟩
abbrev cX11_put : ByteArray := prog_1_method_38_code
def yX11_put : MethodName := ⟨RX11, "put", "([III)V"⟩
abbrev cX11_copyRow : ByteArray := prog_1_method_39_code
def yX11_copyRow : MethodName := ⟨RX11, "copyRow", "([I[I)V"⟩
abbrev cX11_blank : ByteArray := prog_1_method_40_code
def yX11_blank : MethodName := ⟨RX11, "blank", "([II)V"⟩
def RX12 : String := "EndsRoundModel"
def TX12 : u_T := fun k => match k with
  | 0 => ("EndsRoundModel", "thrown", "I", false)
  | 1 => ("EndsRoundModel", "taped", "I", false)
  | 2 => ("EndsRoundModel", "tape", "[I", true)
  | 3 => ("EndsRoundModel", "size", "I", false)
  | 4 => ("EndsRoundModel", "place", "I", false)
  | 5 => ("EndsRoundModel", "begin", "I", false)
  | 6 => ("EndsRoundModel", "token", "I", false)
  | 7 => ("EndsRoundModel", "word", "J", false)
  | 8 => ("EndsRoundModel", "told", "I", false)
  | 9 => ("EndsRoundModel", "wrong", "I", false)
  | 10 => ("EndsRoundModel", "ends", "I", false)
  | 11 => ("EndsRoundModel", "steps", "I", false)
  | 12 => ("EndsRoundModel", "rhymes", "I", false)
  | 13 => ("EndsRoundModel", "wholes", "I", false)
  | 14 => ("EndsRoundModel", "feet", "I", false)
  | 15 => ("EndsRoundModel", "words", "I", false)
  | 16 => ("EndsRoundModel", "bars", "I", false)
  | 17 => ("EndsRoundModel", "from", "[I", true)
  | 18 => ("EndsRoundModel", "pairA", "[I", true)
  | 19 => ("EndsRoundModel", "pairB", "[I", true)
  | 20 => ("EndsRoundModel", "every", "[I", true)
  | 21 => ("EndsRoundModel", "wordRhyme", "[I", true)
  | 22 => ("EndsRoundModel", "wordBeats", "[I", true)
  | 23 => ("EndsRoundModel", "wordKind", "[I", true)
  | 24 => ("EndsRoundModel", "isBarred", "[Z", true)
  | 25 => ("EndsRoundModel", "newEnds", "I", false)
  | 26 => ("EndsRoundModel", "newSteps", "I", false)
  | 27 => ("EndsRoundModel", "newRhymes", "I", false)
  | 28 => ("EndsRoundModel", "newWholes", "I", false)
  | 29 => ("EndsRoundModel", "newFeet", "I", false)
  | 30 => ("EndsRoundModel", "newWords", "I", false)
  | 31 => ("EndsRoundModel", "newBars", "I", false)
  | 32 => ("EndsRoundModel", "newFrom", "[I", true)
  | 33 => ("EndsRoundModel", "newA", "[I", true)
  | 34 => ("EndsRoundModel", "newB", "[I", true)
  | 35 => ("EndsRoundModel", "newEvery", "[I", true)
  | 36 => ("EndsRoundModel", "newName", "[J", true)
  | 37 => ("EndsRoundModel", "newRhyme", "[I", true)
  | 38 => ("EndsRoundModel", "newBeats", "[I", true)
  | 39 => ("EndsRoundModel", "newKind", "[I", true)
  | 40 => ("EndsRoundModel", "lineFrom", "[I", true)
  | 41 => ("EndsRoundModel", "lineTo", "[I", true)
  | 42 => ("EndsRoundModel", "codes", "[I", true)
  | 43 => ("EndsRoundModel", "code", "I", false)
  | 44 => ("EndsRoundModel", "opened", "[I", true)
  | 45 => ("EndsRoundModel", "compared", "[Z", true)
  | 46 => ("EndsRoundModel", "kept", "[I", true)
  | 47 => ("EndsRoundModel", "keptBy", "[I", true)
  | 48 => ("EndsRoundModel", "ahead", "[I", true)
  | 49 => ("EndsRoundModel", "against", "[I", true)
  | 50 => ("EndsRoundModel", "sum", "[I", true)
  | 51 => ("EndsRoundModel", "sumBy", "[I", true)
  | 52 => ("EndsRoundModel", "term", "[I", true)
  | 53 => ("EndsRoundModel", "termBy", "[I", true)
  | 54 => ("EndsRoundModel", "byNot", "[I", true)
  | 55 => ("EndsRoundModel", "valueOf", "[I", true)
  | 56 => ("EndsRoundModel", "step", "[I", true)
  | 57 => ("EndsRoundModel", "turned", "[I", true)
  | 58 => ("EndsRoundModel", "seen", "[Z", true)
  | 59 => ("EndsRoundModel", "powers", "[I", true)
  | 60 => ("EndsRoundModel", "classOf", "[I", true)
  | 61 => ("EndsRoundModel", "isAhead", "[Z", true)
  | 62 => ("EndsRoundModel", "given", "[I", true)
  | 63 => ("EndsRoundModel", "first", "[I", true)
  | 64 => ("EndsRoundModel", "isFirst", "Z", false)
  | 65 => ("EndsRoundModel", "lines", "I", false)
  | 66 => ("EndsRoundModel", "lineWord", "[I", true)
  | 67 => ("EndsRoundModel", "lineText", "[I", true)
  | 68 => ("EndsRoundModel", "lineBeats", "[I", true)
  | 69 => ("EndsRoundModel", "others", "[I", true)
  | 70 => ("EndsRoundModel", "fewest", "I", false)
  | 71 => ("EndsRoundModel", "isLaid", "[Z", true)
  | 72 => ("EndsRoundModel", "marked", "[I", true)
  | 73 => ("EndsRoundModel", "markAt", "I", false)
  | _ => ("EndsRoundModel", "named", "[I", true)
def tyX12 : Nat → FieldType := fun k => match k with
  | 0 => .int
  | 1 => .int
  | 2 => .array .int
  | 3 => .int
  | 4 => .int
  | 5 => .int
  | 6 => .int
  | 7 => .long
  | 8 => .int
  | 9 => .int
  | 10 => .int
  | 11 => .int
  | 12 => .int
  | 13 => .int
  | 14 => .int
  | 15 => .int
  | 16 => .int
  | 17 => .array .int
  | 18 => .array .int
  | 19 => .array .int
  | 20 => .array .int
  | 21 => .array .int
  | 22 => .array .int
  | 23 => .array .int
  | 24 => .array .boolean
  | 25 => .int
  | 26 => .int
  | 27 => .int
  | 28 => .int
  | 29 => .int
  | 30 => .int
  | 31 => .int
  | 32 => .array .int
  | 33 => .array .int
  | 34 => .array .int
  | 35 => .array .int
  | 36 => .array .long
  | 37 => .array .int
  | 38 => .array .int
  | 39 => .array .int
  | 40 => .array .int
  | 41 => .array .int
  | 42 => .array .int
  | 43 => .int
  | 44 => .array .int
  | 45 => .array .boolean
  | 46 => .array .int
  | 47 => .array .int
  | 48 => .array .int
  | 49 => .array .int
  | 50 => .array .int
  | 51 => .array .int
  | 52 => .array .int
  | 53 => .array .int
  | 54 => .array .int
  | 55 => .array .int
  | 56 => .array .int
  | 57 => .array .int
  | 58 => .array .boolean
  | 59 => .array .int
  | 60 => .array .int
  | 61 => .array .boolean
  | 62 => .array .int
  | 63 => .array .int
  | 64 => .boolean
  | 65 => .int
  | 66 => .array .int
  | 67 => .array .int
  | 68 => .array .int
  | 69 => .array .int
  | 70 => .int
  | 71 => .array .boolean
  | 72 => .array .int
  | 73 => .int
  | _ => .array .int
abbrev wsX120 : List Cond := u_ws RX12 TX12 75
theorem nmX12 : ∀ a, a < 75 → ∀ b, b < 75 → a ≠ b → (TX12 a).2.1 ≠ (TX12 b).2.1 := by decide +kernel
theorem tyX12_ok : ∀ k, k < 75 → parseFieldDescriptor (TX12 k).2.2.1 = some (tyX12 k) := by decide +kernel
abbrev cX12_init : ByteArray := prog_14_method_1_code
def yX12_init : MethodName := ⟨RX12, "<init>", "()V"⟩
abbrev cX12_thrown : ByteArray := prog_14_method_2_code
def yX12_thrown : MethodName := ⟨RX12, "thrown", "()I"⟩
abbrev cX12_within : ByteArray := prog_14_method_3_code
def yX12_within : MethodName := ⟨RX12, "within", "(III)Z"⟩
abbrev cX12_bits : ByteArray := prog_14_method_4_code
def yX12_bits : MethodName := ⟨RX12, "bits", "(I)I"⟩
abbrev cX12_feed : ByteArray := prog_14_method_5_code
def yX12_feed : MethodName := ⟨RX12, "feed", "(JJJ)I"⟩
abbrev cX12_signAt : ByteArray := prog_14_method_6_code
def yX12_signAt : MethodName := ⟨RX12, "signAt", "(I)I"⟩
abbrev cX12_nextToken : ByteArray := prog_14_method_7_code
def yX12_nextToken : MethodName := ⟨RX12, "nextToken", "()V"⟩
abbrev cX12_isWord : ByteArray := prog_14_method_8_code
def yX12_isWord : MethodName := ⟨RX12, "isWord", "(J)Z"⟩
abbrev cX12_isSign : ByteArray := prog_14_method_9_code
def yX12_isSign : MethodName := ⟨RX12, "isSign", "(I)Z"⟩
abbrev cX12_fails : ByteArray := prog_14_method_10_code
def yX12_fails : MethodName := ⟨RX12, "fails", "(I)Z"⟩
abbrev cX12_puts : ByteArray := prog_14_method_11_code
def yX12_puts : MethodName := ⟨RX12, "puts", "(I)V"⟩
abbrev cX12_fact : ByteArray := prog_14_method_12_code
def yX12_fact : MethodName := ⟨RX12, "fact", "()I"⟩
abbrev cX12_reads : ByteArray := prog_14_method_13_code
def yX12_reads : MethodName := ⟨RX12, "reads", "()Z"⟩
abbrev cX12_opens : ByteArray := prog_14_method_14_code
def yX12_opens : MethodName := ⟨RX12, "opens", "(I)V"⟩
abbrev cX12_sums : ByteArray := prog_14_method_15_code
def yX12_sums : MethodName := ⟨RX12, "sums", "(I)V"⟩
abbrev cX12_tests : ByteArray := prog_14_method_16_code
def yX12_tests : MethodName := ⟨RX12, "tests", "(I)V"⟩
abbrev cX12_worked : ByteArray := prog_14_method_17_code
def yX12_worked : MethodName := ⟨RX12, "worked", "(I)I"⟩
abbrev cX12_isKept : ByteArray := prog_14_method_18_code
def yX12_isKept : MethodName := ⟨RX12, "isKept", "()Z"⟩
abbrev cX12_needsNumber : ByteArray := prog_14_method_19_code
def yX12_needsNumber : MethodName := ⟨RX12, "needsNumber", "(II)Z"⟩
abbrev cX12_needsWord : ByteArray := prog_14_method_20_code
def yX12_needsWord : MethodName := ⟨RX12, "needsWord", "(J)Z"⟩
abbrev cX12_ends : ByteArray := prog_14_method_21_code
def yX12_ends : MethodName := ⟨RX12, "ends", "()Z"⟩
abbrev cX12_stepKind : ByteArray := prog_14_method_22_code
def yX12_stepKind : MethodName := ⟨RX12, "stepKind", "()I"⟩
abbrev cX12_lays : ByteArray := prog_14_method_23_code
def yX12_lays : MethodName := ⟨RX12, "lays", "(II)V"⟩
abbrev cX12_turns : ByteArray := prog_14_method_24_code
def yX12_turns : MethodName := ⟨RX12, "turns", "()V"⟩
abbrev cX12_readsStep : ByteArray := prog_14_method_25_code
def yX12_readsStep : MethodName := ⟨RX12, "readsStep", "()Z"⟩
abbrev cX12_readsTurn : ByteArray := prog_14_method_26_code
def yX12_readsTurn : MethodName := ⟨RX12, "readsTurn", "()Z"⟩
abbrev cX12_readsRhyme : ByteArray := prog_14_method_27_code
def yX12_readsRhyme : MethodName := ⟨RX12, "readsRhyme", "()Z"⟩
abbrev cX12_readsWhole : ByteArray := prog_14_method_28_code
def yX12_readsWhole : MethodName := ⟨RX12, "readsWhole", "()Z"⟩
abbrev cX12_readsFeet : ByteArray := prog_14_method_29_code
def yX12_readsFeet : MethodName := ⟨RX12, "readsFeet", "()Z"⟩
abbrev cX12_readsEntry : ByteArray := prog_14_method_30_code
def yX12_readsEntry : MethodName := ⟨RX12, "readsEntry", "()Z"⟩
abbrev cX12_readsBar : ByteArray := prog_14_method_31_code
def yX12_readsBar : MethodName := ⟨RX12, "readsBar", "()Z"⟩
abbrev cX12_readsAll : ByteArray := prog_14_method_32_code
def yX12_readsAll : MethodName := ⟨RX12, "readsAll", "()Z"⟩
abbrev cX12_form : ByteArray := prog_14_method_33_code
def yX12_form : MethodName := ⟨RX12, "form", "()I"⟩
abbrev cX12_bars : ByteArray := prog_14_method_34_code
def yX12_bars : MethodName := ⟨RX12, "bars", "(II)Z"⟩
abbrev cX12_isPlace : ByteArray := prog_14_method_35_code
def yX12_isPlace : MethodName := ⟨RX12, "isPlace", "(I)Z"⟩
abbrev cX12_isWordAt : ByteArray := prog_14_method_36_code
def yX12_isWordAt : MethodName := ⟨RX12, "isWordAt", "(I)Z"⟩
abbrev cX12_goesTo : ByteArray := prog_14_method_37_code
def yX12_goesTo : MethodName := ⟨RX12, "goesTo", "(I)I"⟩
abbrev cX12_cycleOf : ByteArray := prog_14_method_38_code
def yX12_cycleOf : MethodName := ⟨RX12, "cycleOf", "(I)I"⟩
abbrev cX12_turning : ByteArray := prog_14_method_39_code
def yX12_turning : MethodName := ⟨RX12, "turning", "(II)I"⟩
abbrev cX12_isStanza : ByteArray := prog_14_method_40_code
def yX12_isStanza : MethodName := ⟨RX12, "isStanza", "(J)Z"⟩
abbrev cX12_endAt : ByteArray := prog_14_method_41_code
def yX12_endAt : MethodName := ⟨RX12, "endAt", "(JI)I"⟩
abbrev cX12_whereIs : ByteArray := prog_14_method_42_code
def yX12_whereIs : MethodName := ⟨RX12, "whereIs", "(JI)I"⟩
abbrev cX12_end : ByteArray := prog_14_method_43_code
def yX12_end : MethodName := ⟨RX12, "end", "(JI)I"⟩
abbrev cX12_where : ByteArray := prog_14_method_44_code
def yX12_where : MethodName := ⟨RX12, "where", "(JI)I"⟩
abbrev cX12_meets : ByteArray := prog_14_method_45_code
def yX12_meets : MethodName := ⟨RX12, "meets", "(II)I"⟩
abbrev cX12_gcd : ByteArray := prog_14_method_46_code
def yX12_gcd : MethodName := ⟨RX12, "gcd", "(II)I"⟩
abbrev cX12_roundIs : ByteArray := prog_14_method_47_code
def yX12_roundIs : MethodName := ⟨RX12, "roundIs", "()I"⟩
abbrev cX12_isLeast : ByteArray := prog_14_method_48_code
def yX12_isLeast : MethodName := ⟨RX12, "isLeast", "(I)Z"⟩
abbrev cX12_round : ByteArray := prog_14_method_49_code
def yX12_round : MethodName := ⟨RX12, "round", "(I)I"⟩
abbrev cX12_roots : ByteArray := prog_14_method_50_code
def yX12_roots : MethodName := ⟨RX12, "roots", "()J"⟩
abbrev cX12_rootsOf : ByteArray := prog_14_method_51_code
def yX12_rootsOf : MethodName := ⟨RX12, "rootsOf", "(II)J"⟩
abbrev cX12_spiral : ByteArray := prog_14_method_52_code
def yX12_spiral : MethodName := ⟨RX12, "spiral", "(II)I"⟩
abbrev cX12_classes : ByteArray := prog_14_method_53_code
def yX12_classes : MethodName := ⟨RX12, "classes", "()V"⟩
abbrev cX12_rhymes : ByteArray := prog_14_method_54_code
def yX12_rhymes : MethodName := ⟨RX12, "rhymes", "(I)I"⟩
abbrev cX12_beside : ByteArray := prog_14_method_55_code
def yX12_beside : MethodName := ⟨RX12, "beside", "(II)I"⟩
abbrev cX12_word : ByteArray := prog_14_method_56_code
def yX12_word : MethodName := ⟨RX12, "word", "(II)I"⟩
abbrev cX12_barred : ByteArray := prog_14_method_57_code
def yX12_barred : MethodName := ⟨RX12, "barred", "(II)I"⟩
abbrev cX12_neighbours : ByteArray := prog_14_method_58_code
def yX12_neighbours : MethodName := ⟨RX12, "neighbours", "()V"⟩
abbrev cX12_goes : ByteArray := prog_14_method_59_code
def yX12_goes : MethodName := ⟨RX12, "goes", "(IIIZ)Z"⟩
abbrev cX12_gives : ByteArray := prog_14_method_60_code
def yX12_gives : MethodName := ⟨RX12, "gives", "(IIZ)J"⟩
abbrev cX12_waysFor : ByteArray := prog_14_method_61_code
def yX12_waysFor : MethodName := ⟨RX12, "waysFor", "(IZ)J"⟩
abbrev cX12_fills : ByteArray := prog_14_method_62_code
def yX12_fills : MethodName := ⟨RX12, "fills", "()J"⟩
abbrev cX12_fill : ByteArray := prog_14_method_63_code
def yX12_fill : MethodName := ⟨RX12, "fill", "(I)I"⟩
abbrev cX12_stuck : ByteArray := prog_14_method_64_code
def yX12_stuck : MethodName := ⟨RX12, "stuck", "(I)I"⟩
abbrev cX12_line : ByteArray := prog_14_method_65_code
def yX12_line : MethodName := ⟨RX12, "line", "(III)I"⟩
abbrev cX12_clear : ByteArray := prog_14_method_66_code
def yX12_clear : MethodName := ⟨RX12, "clear", "()Z"⟩
abbrev cX12_wrongIn : ByteArray := prog_14_method_67_code
def yX12_wrongIn : MethodName := ⟨RX12, "wrongIn", "(I)I"⟩
abbrev cX12_judged : ByteArray := prog_14_method_68_code
def yX12_judged : MethodName := ⟨RX12, "judged", "(I)I"⟩
abbrev cX12_mends : ByteArray := prog_14_method_69_code
def yX12_mends : MethodName := ⟨RX12, "mends", "(II)V"⟩
abbrev cX12_hasMended : ByteArray := prog_14_method_70_code
def yX12_hasMended : MethodName := ⟨RX12, "hasMended", "()Z"⟩
abbrev cX12_mend : ByteArray := prog_14_method_71_code
def yX12_mend : MethodName := ⟨RX12, "mend", "()I"⟩
abbrev cX12_mended : ByteArray := prog_14_method_72_code
def yX12_mended : MethodName := ⟨RX12, "mended", "(I)I"⟩
abbrev cX12_keeps : ByteArray := prog_14_method_73_code
def yX12_keeps : MethodName := ⟨RX12, "keeps", "(IZ)I"⟩
abbrev cX12_keepsRow : ByteArray := prog_14_method_74_code
def yX12_keepsRow : MethodName := ⟨RX12, "keepsRow", "([IIZ)V"⟩
abbrev cX12_mark : ByteArray := prog_14_method_75_code
def yX12_mark : MethodName := ⟨RX12, "mark", "(IZ)Z"⟩
abbrev cX12_isPair : ByteArray := prog_14_method_76_code
def yX12_isPair : MethodName := ⟨RX12, "isPair", "(II)Z"⟩
abbrev cX12_isPairOn : ByteArray := prog_14_method_77_code
def yX12_isPairOn : MethodName := ⟨RX12, "isPairOn", "(III)Z"⟩
abbrev cX12_friends : ByteArray := prog_14_method_78_code
def yX12_friends : MethodName := ⟨RX12, "friends", "(II)I"⟩
abbrev cX12_mayBe : ByteArray := prog_14_method_79_code
def yX12_mayBe : MethodName := ⟨RX12, "mayBe", "(III)Z"⟩
abbrev cX12_names : ByteArray := prog_14_method_80_code
def yX12_names : MethodName := ⟨RX12, "names", "(II)Z"⟩
abbrev cX12_areSame : ByteArray := prog_14_method_81_code
def yX12_areSame : MethodName := ⟨RX12, "areSame", "(I)Z"⟩
abbrev cX12_same : ByteArray := prog_14_method_82_code
def yX12_same : MethodName := ⟨RX12, "same", "(I)I"⟩
abbrev cX12_renamed : ByteArray := prog_14_method_83_code
def yX12_renamed : MethodName := ⟨RX12, "renamed", "(II)I"⟩
abbrev cX12_count : ByteArray := prog_14_method_84_code
def yX12_count : MethodName := ⟨RX12, "count", "(I)I"⟩
def RJx145de : String := "java/io/Serializable"
def TJx145de : u_T := fun k => match k with
  | _ => ("", "", "", false)
def tyJx145de : Nat → FieldType := fun k => match k with
  | _ => .int
abbrev wsJx145de0 : List Cond := u_ws RJx145de TJx145de 0
theorem nmJx145de : ∀ a, a < 0 → ∀ b, b < 0 → a ≠ b → (TJx145de a).2.1 ≠ (TJx145de b).2.1 := by decide +kernel
theorem tyJx145de_ok : ∀ k, k < 0 → parseFieldDescriptor (TJx145de k).2.2.1 = some (tyJx145de k) := by decide +kernel
def RJx9f9b0 : String := "java/lang/CharSequence"
def TJx9f9b0 : u_T := fun k => match k with
  | _ => ("", "", "", false)
def tyJx9f9b0 : Nat → FieldType := fun k => match k with
  | _ => .int
abbrev wsJx9f9b00 : List Cond := u_ws RJx9f9b0 TJx9f9b0 0
theorem nmJx9f9b0 : ∀ a, a < 0 → ∀ b, b < 0 → a ≠ b → (TJx9f9b0 a).2.1 ≠ (TJx9f9b0 b).2.1 := by decide +kernel
theorem tyJx9f9b0_ok : ∀ k, k < 0 → parseFieldDescriptor (TJx9f9b0 k).2.2.1 = some (tyJx9f9b0 k) := by decide +kernel
def RJxb160c : String := "java/lang/Comparable"
def TJxb160c : u_T := fun k => match k with
  | _ => ("", "", "", false)
def tyJxb160c : Nat → FieldType := fun k => match k with
  | _ => .int
abbrev wsJxb160c0 : List Cond := u_ws RJxb160c TJxb160c 0
theorem nmJxb160c : ∀ a, a < 0 → ∀ b, b < 0 → a ≠ b → (TJxb160c a).2.1 ≠ (TJxb160c b).2.1 := by decide +kernel
theorem tyJxb160c_ok : ∀ k, k < 0 → parseFieldDescriptor (TJxb160c k).2.2.1 = some (tyJxb160c k) := by decide +kernel
def RJ6 : String := "java/lang/Integer"
def TJ6 : u_T := fun k => match k with
  | _ => ("", "", "", false)
def tyJ6 : Nat → FieldType := fun k => match k with
  | _ => .int
abbrev wsJ60 : List Cond := u_ws RJ6 TJ6 0
theorem nmJ6 : ∀ a, a < 0 → ∀ b, b < 0 → a ≠ b → (TJ6 a).2.1 ≠ (TJ6 b).2.1 := by decide +kernel
theorem tyJ6_ok : ∀ k, k < 0 → parseFieldDescriptor (TJ6 k).2.2.1 = some (tyJ6 k) := by decide +kernel
abbrev cJ6_bitCount_0f7a4 : ByteArray := prog_19_method_49_code
def yJ6_bitCount_0f7a4 : MethodName := ⟨RJ6, "bitCount", "(I)I"⟩
def RJ9 : String := "java/lang/Math"
def TJ9 : u_T := fun k => match k with
  | _ => ("", "", "", false)
def tyJ9 : Nat → FieldType := fun k => match k with
  | _ => .int
abbrev wsJ90 : List Cond := u_ws RJ9 TJ9 0
theorem nmJ9 : ∀ a, a < 0 → ∀ b, b < 0 → a ≠ b → (TJ9 a).2.1 ≠ (TJ9 b).2.1 := by decide +kernel
theorem tyJ9_ok : ∀ k, k < 0 → parseFieldDescriptor (TJ9 k).2.2.1 = some (tyJ9 k) := by decide +kernel
abbrev cJ9_floorMod_7cf53 : ByteArray := prog_20_method_50_code
def yJ9_floorMod_7cf53 : MethodName := ⟨RJ9, "floorMod", "(II)I"⟩
abbrev cJ9_abs_0f7a4 : ByteArray := prog_20_method_59_code
def yJ9_abs_0f7a4 : MethodName := ⟨RJ9, "abs", "(I)I"⟩
abbrev cJ9_max_7cf53 : ByteArray := prog_20_method_65_code
def yJ9_max_7cf53 : MethodName := ⟨RJ9, "max", "(II)I"⟩
abbrev cJ9_min_7cf53 : ByteArray := prog_20_method_69_code
def yJ9_min_7cf53 : MethodName := ⟨RJ9, "min", "(II)I"⟩
def RJ0 : String := "java/lang/String"
def TJ0 : u_T := fun k => match k with
  | _ => ("", "", "", false)
def tyJ0 : Nat → FieldType := fun k => match k with
  | _ => .int
abbrev wsJ00 : List Cond := u_ws RJ0 TJ0 0
theorem nmJ0 : ∀ a, a < 0 → ∀ b, b < 0 → a ≠ b → (TJ0 a).2.1 ≠ (TJ0 b).2.1 := by decide +kernel
theorem tyJ0_ok : ∀ k, k < 0 → parseFieldDescriptor (TJ0 k).2.2.1 = some (tyJ0 k) := by decide +kernel
abbrev cJ0_length_8abf5 : ByteArray := prog_22_method_54_code
def yJ0_length_8abf5 : MethodName := ⟨RJ0, "length", "()I"⟩
abbrev cJ0_charAt_5068e : ByteArray := prog_22_method_56_code
def yJ0_charAt_5068e : MethodName := ⟨RJ0, "charAt", "(I)C"⟩
abbrev cJ0_coder_7d493 : ByteArray := prog_22_method_152_code
def yJ0_coder_7d493 : MethodName := ⟨RJ0, "coder", "()B"⟩
abbrev cJ0_isLatin1_aae02 : ByteArray := prog_22_method_154_code
def yJ0_isLatin1_aae02 : MethodName := ⟨RJ0, "isLatin1", "()Z"⟩
abbrev cJ0_checkIndex_df160 : ByteArray := prog_22_method_155_code
def yJ0_checkIndex_df160 : MethodName := ⟨RJ0, "checkIndex", "(II)V"⟩
def RJ1 : String := "java/lang/StringLatin1"
def TJ1 : u_T := fun k => match k with
  | _ => ("", "", "", false)
def tyJ1 : Nat → FieldType := fun k => match k with
  | _ => .int
abbrev wsJ10 : List Cond := u_ws RJ1 TJ1 0
theorem nmJ1 : ∀ a, a < 0 → ∀ b, b < 0 → a ≠ b → (TJ1 a).2.1 ≠ (TJ1 b).2.1 := by decide +kernel
theorem tyJ1_ok : ∀ k, k < 0 → parseFieldDescriptor (TJ1 k).2.2.1 = some (tyJ1 k) := by decide +kernel
abbrev cJ1_charAt_3b067 : ByteArray := prog_23_method_2_code
def yJ1_charAt_3b067 : MethodName := ⟨RJ1, "charAt", "([BI)C"⟩
def RJ2 : String := "java/lang/StringUTF16"
def TJ2 : u_T := fun k => match k with
  | _ => ("", "", "", false)
def tyJ2 : Nat → FieldType := fun k => match k with
  | _ => .int
abbrev wsJ20 : List Cond := u_ws RJ2 TJ2 0
theorem nmJ2 : ∀ a, a < 0 → ∀ b, b < 0 → a ≠ b → (TJ2 a).2.1 ≠ (TJ2 b).2.1 := by decide +kernel
theorem tyJ2_ok : ∀ k, k < 0 → parseFieldDescriptor (TJ2 k).2.2.1 = some (tyJ2 k) := by decide +kernel
abbrev cJ2_getChar_3b067 : ByteArray := prog_24_method_5_code
def yJ2_getChar_3b067 : MethodName := ⟨RJ2, "getChar", "([BI)C"⟩
abbrev cJ2_length_9d52b : ByteArray := prog_24_method_6_code
def yJ2_length_9d52b : MethodName := ⟨RJ2, "length", "([B)I"⟩
abbrev cJ2_charAt_3b067 : ByteArray := prog_24_method_83_code
def yJ2_charAt_3b067 : MethodName := ⟨RJ2, "charAt", "([BI)C"⟩
abbrev cJ2_checkIndex_2214a : ByteArray := prog_24_method_91_code
def yJ2_checkIndex_2214a : MethodName := ⟨RJ2, "checkIndex", "(I[B)V"⟩
def RJxfd54e : String := "java/lang/constant/Constable"
def TJxfd54e : u_T := fun k => match k with
  | _ => ("", "", "", false)
def tyJxfd54e : Nat → FieldType := fun k => match k with
  | _ => .int
abbrev wsJxfd54e0 : List Cond := u_ws RJxfd54e TJxfd54e 0
theorem nmJxfd54e : ∀ a, a < 0 → ∀ b, b < 0 → a ≠ b → (TJxfd54e a).2.1 ≠ (TJxfd54e b).2.1 := by decide +kernel
theorem tyJxfd54e_ok : ∀ k, k < 0 → parseFieldDescriptor (TJxfd54e k).2.2.1 = some (tyJxfd54e k) := by decide +kernel
def RJx3cf43 : String := "java/lang/constant/ConstantDesc"
def TJx3cf43 : u_T := fun k => match k with
  | _ => ("", "", "", false)
def tyJx3cf43 : Nat → FieldType := fun k => match k with
  | _ => .int
abbrev wsJx3cf430 : List Cond := u_ws RJx3cf43 TJx3cf43 0
theorem nmJx3cf43 : ∀ a, a < 0 → ∀ b, b < 0 → a ≠ b → (TJx3cf43 a).2.1 ≠ (TJx3cf43 b).2.1 := by decide +kernel
theorem tyJx3cf43_ok : ∀ k, k < 0 → parseFieldDescriptor (TJx3cf43 k).2.2.1 = some (tyJx3cf43 k) := by decide +kernel
def RJ3 : String := "jdk/internal/util/Preconditions"
def TJ3 : u_T := fun k => match k with
  | _ => ("", "", "", false)
def tyJ3 : Nat → FieldType := fun k => match k with
  | _ => .int
abbrev wsJ30 : List Cond := u_ws RJ3 TJ3 0
theorem nmJ3 : ∀ a, a < 0 → ∀ b, b < 0 → a ≠ b → (TJ3 a).2.1 ≠ (TJ3 b).2.1 := by decide +kernel
theorem tyJ3_ok : ∀ k, k < 0 → parseFieldDescriptor (TJ3 k).2.2.1 = some (tyJ3 k) := by decide +kernel
abbrev cJ3_checkIndex_8e157 : ByteArray := prog_29_method_11_code
def yJ3_checkIndex_8e157 : MethodName := ⟨RJ3, "checkIndex", "(IILjava/util/function/BiFunction;)I"⟩
def RL : String := "EndsRoundLaw"
abbrev cL_judged : ByteArray := method_3_code
def yL_judged : MethodName := ⟨RL, "judged", "(LEndsRound;I[J)I"⟩
abbrev cL_law : ByteArray := code
def yL_law : MethodName := ⟨RL, "law", "([I)Z"⟩
def wsL_law0_r1 : List Cond := [Cond.classLink RL 8 RX11, Cond.instantiable RX11 11, Cond.initialized RX11, Cond.classLink RL 16 RX12, Cond.instantiable RX12 75, Cond.initialized RX12, Cond.arrayClass .long, Cond.constantLong RL 19 (4294967295), Cond.methodLink RL 15 yX11_init, Cond.instanceMethod yX11_init, Cond.code yX11_init cX11_init 2 none, Cond.methodLink RX11 1 objectInit, Cond.instanceMethod objectInit, Cond.code objectInit ⟨#[0xb1]⟩ 1 none, Cond.classLink RX11 7 RX10, Cond.instantiable RX10 7, Cond.initialized RX10, Cond.fieldLink RX11 10 "EndsRound" "tape" "LEndsRound$Tape;", Cond.classLink RX11 16 RX8, Cond.instantiable RX8 9, Cond.initialized RX8, Cond.fieldLink RX11 21 "EndsRound" "parser" "LEndsRound$Parser;", Cond.classLink RX11 25 RX4, Cond.instantiable RX4 15]
def wsL_law0_r2 : List Cond := [Cond.initialized RX4, Cond.fieldLink RX11 28 "EndsRound" "current" "LEndsRound$Form;", Cond.classLink RX11 32 RX2, Cond.instantiable RX2 4, Cond.initialized RX2, Cond.fieldLink RX11 35 "EndsRound" "draft" "LEndsRound$Draft;", Cond.classLink RX11 39 RX9, Cond.instantiable RX9 8, Cond.initialized RX9, Cond.fieldLink RX11 42 "EndsRound" "stanzas" "LEndsRound$Stanzas;", Cond.classLink RX11 46 RX3, Cond.instantiable RX3 15, Cond.initialized RX3, Cond.fieldLink RX11 51 "EndsRound" "filler" "LEndsRound$Filler;", Cond.classLink RX11 55 RX6, Cond.instantiable RX6 10, Cond.initialized RX6, Cond.fieldLink RX11 60 "EndsRound" "mender" "LEndsRound$Mender;", Cond.classLink RX11 64 RX7, Cond.instantiable RX7 8, Cond.initialized RX7, Cond.fieldLink RX11 69 "EndsRound" "namer" "LEndsRound$Namer;", Cond.classLink RX11 73 RX5, Cond.fieldLink RX11 75 "EndsRound" "marks" "[LEndsRound$Mark;"]
def wsL_law0_r3 : List Cond := [Cond.instantiable RX5 3, Cond.initialized RX5, Cond.classLink RX11 80 RX1, Cond.instantiable RX1 6, Cond.initialized RX1, Cond.fieldLink RX11 85 "EndsRound" "spiralCycles" "LEndsRound$Cycles;", Cond.arrayClass .int, Cond.fieldLink RX11 89 "EndsRound" "spiralRow" "[I", Cond.methodLink RX11 9 yX10_init, Cond.instanceMethod yX10_init, Cond.code yX10_init cX10_init 5 none, Cond.methodLink RX10 3 objectInit, Cond.arrayClass .char, Cond.fieldLink RX10 9 "EndsRound$Tape" "signs" "[C", Cond.fieldLink RX10 15 "EndsRound$Tape" "keys" "[I", Cond.fieldLink RX10 19 "EndsRound$Tape" "starts" "[I", Cond.fieldLink RX10 22 "EndsRound$Tape" "values" "[J", Cond.fieldLink RX10 26 "EndsRound$Tape" "words" "[J", Cond.methodLink RX10 31 yJ0_length_8abf5, Cond.instanceMethod yJ0_length_8abf5, Cond.selects RJ0 yJ0_length_8abf5 yJ0_length_8abf5, Cond.initialized RJ0, Cond.code yJ0_length_8abf5 cJ0_length_8abf5 1 (some .int), Cond.fieldLink RJ0 9 "java/lang/String" "value" "[B"]
def wsL_law0_r4 : List Cond := [Cond.methodLink RJ0 335 yJ0_coder_7d493, Cond.instanceMethod yJ0_coder_7d493, Cond.selects RJ0 yJ0_coder_7d493 yJ0_coder_7d493, Cond.code yJ0_coder_7d493 cJ0_coder_7d493 1 (some .byte), Cond.fieldLink RJ0 38 "java/lang/String" "COMPACT_STRINGS" "Z", Cond.fieldLink RJ0 15 "java/lang/String" "coder" "B", Cond.methodLink RX10 37 yJ0_charAt_5068e, Cond.instanceMethod yJ0_charAt_5068e, Cond.selects RJ0 yJ0_charAt_5068e yJ0_charAt_5068e, Cond.code yJ0_charAt_5068e cJ0_charAt_5068e 2 (some .char), Cond.methodLink RJ0 492 yJ0_isLatin1_aae02, Cond.instanceMethod yJ0_isLatin1_aae02, Cond.selects RJ0 yJ0_isLatin1_aae02 yJ0_isLatin1_aae02, Cond.code yJ0_isLatin1_aae02 cJ0_isLatin1_aae02 1 (some .boolean), Cond.methodLink RJ0 495 yJ1_charAt_3b067, Cond.static yJ1_charAt_3b067, Cond.initialized RJ1, Cond.code yJ1_charAt_3b067 cJ1_charAt_3b067 2 (some .char), Cond.methodLink RJ1 9 yJ0_checkIndex_df160, Cond.static yJ0_checkIndex_df160, Cond.code yJ0_checkIndex_df160 cJ0_checkIndex_df160 2 none, Cond.fieldLink RJ0 1053 "jdk/internal/util/Preconditions" "SIOOBE_FORMATTER" "Ljava/util/function/BiFunction;", Cond.methodLink RJ0 1059 yJ3_checkIndex_8e157, Cond.static yJ3_checkIndex_8e157]
def wsL_law0_r5 : List Cond := [Cond.initialized RJ3, Cond.code yJ3_checkIndex_8e157 cJ3_checkIndex_8e157 3 (some .int), Cond.methodLink RJ0 498 yJ2_charAt_3b067, Cond.static yJ2_charAt_3b067, Cond.initialized RJ2, Cond.code yJ2_charAt_3b067 cJ2_charAt_3b067 2 (some .char), Cond.methodLink RJ2 67 yJ2_checkIndex_2214a, Cond.static yJ2_checkIndex_2214a, Cond.code yJ2_checkIndex_2214a cJ2_checkIndex_2214a 2 none, Cond.methodLink RJ2 48 yJ2_length_9d52b, Cond.static yJ2_length_9d52b, Cond.code yJ2_length_9d52b cJ2_length_9d52b 1 (some .int), Cond.methodLink RJ2 414 yJ0_checkIndex_df160, Cond.methodLink RJ2 71 yJ2_getChar_3b067, Cond.static yJ2_getChar_3b067, Cond.code yJ2_getChar_3b067 cJ2_getChar_3b067 2 (some .char), Cond.fieldLink RJ2 44 "java/lang/StringUTF16" "$assertionsDisabled" "Z", Cond.fieldLink RJ2 59 "java/lang/StringUTF16" "HI_BYTE_SHIFT" "I", Cond.fieldLink RJ2 63 "java/lang/StringUTF16" "LO_BYTE_SHIFT" "I", Cond.methodLink RX10 41 yX10_isLetter, Cond.static yX10_isLetter, Cond.code yX10_isLetter cX10_isLetter 1 (some .boolean), Cond.methodLink RX10 45 yX10_withLetter, Cond.static yX10_withLetter]
def wsL_law0_r6 : List Cond := [Cond.code yX10_withLetter cX10_withLetter 3 (some .long), Cond.methodLink RX11 18 yX8_init, Cond.instanceMethod yX8_init, Cond.code yX8_init cX8_init 2 none, Cond.methodLink RX8 3 objectInit, Cond.classLink RX8 9 RX0, Cond.instantiable RX0 4, Cond.initialized RX0, Cond.fieldLink RX8 12 "EndsRound$Parser" "bars" "LEndsRound$Bars;", Cond.classLink RX8 18 RX4, Cond.fieldLink RX8 21 "EndsRound$Parser" "told" "LEndsRound$Form;", Cond.fieldLink RX8 25 "EndsRound$Parser" "names" "[J", Cond.fieldLink RX8 29 "EndsRound$Parser" "tape" "LEndsRound$Tape;", Cond.instanceMethod yX0_init, Cond.code yX0_init cX0_init 1 none, Cond.methodLink RX0 3 objectInit, Cond.fieldLink RX0 9 "EndsRound$Bars" "code" "[I", Cond.fieldLink RX0 15 "EndsRound$Bars" "stack" "[I", Cond.instanceMethod yX4_init, Cond.code yX4_init cX4_init 1 none, Cond.methodLink RX4 3 objectInit, Cond.fieldLink RX4 9 "EndsRound$Form" "from" "[I", Cond.fieldLink RX4 15 "EndsRound$Form" "rhymesWith" "[I", Cond.fieldLink RX4 18 "EndsRound$Form" "every" "[I"]
def wsL_law0_r7 : List Cond := [Cond.fieldLink RX4 21 "EndsRound$Form" "wordRhyme" "[I", Cond.fieldLink RX4 24 "EndsRound$Form" "wordBeats" "[I", Cond.fieldLink RX4 27 "EndsRound$Form" "wordKind" "[I", Cond.fieldLink RX4 30 "EndsRound$Form" "barredBehind" "[I", Cond.fieldLink RX4 33 "EndsRound$Form" "spare" "[I", Cond.instanceMethod yX2_init, Cond.code yX2_init cX2_init 1 none, Cond.methodLink RX2 3 objectInit, Cond.fieldLink RX2 9 "EndsRound$Draft" "words" "[I", Cond.fieldLink RX2 15 "EndsRound$Draft" "texts" "[I", Cond.fieldLink RX2 18 "EndsRound$Draft" "beats" "[I", Cond.instanceMethod yX9_init, Cond.code yX9_init cX9_init 1 none, Cond.methodLink RX9 3 objectInit, Cond.classLink RX9 9 RX1, Cond.fieldLink RX9 14 "EndsRound$Stanzas" "cycles" "LEndsRound$Cycles;", Cond.fieldLink RX9 20 "EndsRound$Stanzas" "from" "[I", Cond.fieldLink RX9 24 "EndsRound$Stanzas" "to" "[I", Cond.fieldLink RX9 27 "EndsRound$Stanzas" "classes" "[I", Cond.fieldLink RX9 30 "EndsRound$Stanzas" "ahead" "[I", Cond.fieldLink RX9 33 "EndsRound$Stanzas" "row" "[I", Cond.fieldLink RX9 36 "EndsRound$Stanzas" "spare" "[I", Cond.methodLink RX9 11 yX1_init, Cond.instanceMethod yX1_init]
def wsL_law0_r8 : List Cond := [Cond.code yX1_init cX1_init 2 none, Cond.methodLink RX1 1 objectInit, Cond.fieldLink RX1 7 "EndsRound$Cycles" "lengths" "[I", Cond.methodLink RX11 48 yX3_init, Cond.instanceMethod yX3_init, Cond.code yX3_init cX3_init 3 none, Cond.methodLink RX3 3 objectInit, Cond.fieldLink RX3 9 "EndsRound$Filler" "first" "[I", Cond.fieldLink RX3 15 "EndsRound$Filler" "allowed" "[I", Cond.fieldLink RX3 18 "EndsRound$Filler" "relations" "[I", Cond.fieldLink RX3 21 "EndsRound$Filler" "chosen" "[I", Cond.fieldLink RX3 24 "EndsRound$Filler" "given" "[I", Cond.fieldLink RX3 27 "EndsRound$Filler" "open" "[I", Cond.fieldLink RX3 30 "EndsRound$Filler" "form" "LEndsRound$Form;", Cond.fieldLink RX3 34 "EndsRound$Filler" "stanzas" "LEndsRound$Stanzas;", Cond.methodLink RX11 57 yX6_init, Cond.instanceMethod yX6_init, Cond.code yX6_init cX6_init 4 none, Cond.methodLink RX6 3 objectInit, Cond.fieldLink RX6 9 "EndsRound$Mender" "given" "[I", Cond.fieldLink RX6 15 "EndsRound$Mender" "changes" "[I", Cond.fieldLink RX6 18 "EndsRound$Mender" "byRhyme" "[I", Cond.fieldLink RX6 21 "EndsRound$Mender" "unbroken" "[I", Cond.fieldLink RX6 24 "EndsRound$Mender" "least" "[I"]
def wsL_law0_r9 : List Cond := [Cond.fieldLink RX6 27 "EndsRound$Mender" "form" "LEndsRound$Form;", Cond.fieldLink RX6 31 "EndsRound$Mender" "stanzas" "LEndsRound$Stanzas;", Cond.fieldLink RX6 35 "EndsRound$Mender" "draft" "LEndsRound$Draft;", Cond.methodLink RX11 66 yX7_init, Cond.instanceMethod yX7_init, Cond.code yX7_init cX7_init 2 none, Cond.methodLink RX7 3 objectInit, Cond.fieldLink RX7 9 "EndsRound$Namer" "names" "[I", Cond.fieldLink RX7 15 "EndsRound$Namer" "hereTints" "[I", Cond.fieldLink RX7 18 "EndsRound$Namer" "thereTints" "[I", Cond.fieldLink RX7 21 "EndsRound$Namer" "spare" "[I", Cond.classLink RX7 24 RX1, Cond.fieldLink RX7 29 "EndsRound$Namer" "cycles" "LEndsRound$Cycles;", Cond.fieldLink RX7 33 "EndsRound$Namer" "here" "LEndsRound$Form;", Cond.fieldLink RX7 37 "EndsRound$Namer" "there" "LEndsRound$Form;", Cond.methodLink RX7 26 yX1_init, Cond.instanceMethod yX5_init, Cond.code yX5_init cX5_init 1 none, Cond.methodLink RX5 1 objectInit, Cond.classLink RX5 7 RX4, Cond.fieldLink RX5 10 "EndsRound$Mark" "form" "LEndsRound$Form;", Cond.classLink RX5 16 RX2, Cond.fieldLink RX5 19 "EndsRound$Mark" "draft" "LEndsRound$Draft;", Cond.methodLink RX11 82 yX1_init]
def wsL_law0_r10 : List Cond := [Cond.methodLink RX11 93 yX4_begin, Cond.instanceMethod yX4_begin, Cond.selects RX4 yX4_begin yX4_begin, Cond.code yX4_begin cX4_begin 3 none, Cond.fieldLink RX4 36 "EndsRound$Form" "ends" "I", Cond.fieldLink RX4 40 "EndsRound$Form" "steps" "I", Cond.fieldLink RX4 43 "EndsRound$Form" "rhymeLines" "I", Cond.fieldLink RX4 46 "EndsRound$Form" "wholeLines" "I", Cond.fieldLink RX4 49 "EndsRound$Form" "feet" "I", Cond.fieldLink RX4 52 "EndsRound$Form" "words" "I", Cond.fieldLink RX4 55 "EndsRound$Form" "bars" "I", Cond.static yX11_put, Cond.code yX11_put cX11_put 3 none, Cond.static yX11_blank, Cond.code yX11_blank cX11_blank 3 none, Cond.methodLink RX11 96 yX9_follow, Cond.instanceMethod yX9_follow, Cond.selects RX9 yX9_follow yX9_follow, Cond.code yX9_follow cX9_follow 4 none, Cond.fieldLink RX9 45 "EndsRound$Stanzas" "ends" "I", Cond.static yX11_copyRow, Cond.code yX11_copyRow cX11_copyRow 3 none, Cond.static yX11_cell, Cond.code yX11_cell cX11_cell 2 (some .int)]
def wsL_law0_r11 : List Cond := [Cond.methodLink RX9 59 yX1_follow, Cond.instanceMethod yX1_follow, Cond.selects RX1 yX1_follow yX1_follow, Cond.code yX1_follow cX1_follow 4 none, Cond.fieldLink RX1 13 "EndsRound$Cycles" "size" "I", Cond.fieldLink RX1 17 "EndsRound$Cycles" "number" "I", Cond.fieldLink RX1 20 "EndsRound$Cycles" "longest" "I", Cond.fieldLink RX1 23 "EndsRound$Cycles" "staying" "I", Cond.fieldLink RX1 26 "EndsRound$Cycles" "period" "J", Cond.methodLink RX1 40 yX1_addCycle, Cond.instanceMethod yX1_addCycle, Cond.selects RX1 yX1_addCycle yX1_addCycle, Cond.code yX1_addCycle cX1_addCycle 6 none, Cond.methodLink RX1 47 Lib.Math.max.name, Cond.static Lib.Math.max.name, Cond.initialized "java/lang/Math", Cond.code Lib.Math.max.name Lib.Math.max.code 2 (some .int), Cond.methodLink RX1 53 yX1_leastMultiple, Cond.static yX1_leastMultiple, Cond.code yX1_leastMultiple cX1_leastMultiple 11 (some .long), Cond.methodLink RX9 70 yX9_addNeighbours, Cond.instanceMethod yX9_addNeighbours, Cond.selects RX9 yX9_addNeighbours yX9_addNeighbours, Cond.code yX9_addNeighbours cX9_addNeighbours 3 none]
def wsL_law0_r12 : List Cond := [Cond.methodLink RX9 73 yX9_addRhymes, Cond.instanceMethod yX9_addRhymes, Cond.selects RX9 yX9_addRhymes yX9_addRhymes, Cond.code yX9_addRhymes cX9_addRhymes 5 none, Cond.methodLink RX9 83 yX9_joinClasses, Cond.instanceMethod yX9_joinClasses, Cond.selects RX9 yX9_joinClasses yX9_joinClasses, Cond.code yX9_joinClasses cX9_joinClasses 6 none, Cond.methodLink RX9 87 Lib.Math.min.name, Cond.static Lib.Math.min.name, Cond.code Lib.Math.min.name Lib.Math.min.code 2 (some .int), Cond.methodLink RX9 93 Lib.Math.max.name, Cond.methodLink RX9 77 yX9_turnRow, Cond.instanceMethod yX9_turnRow, Cond.selects RX9 yX9_turnRow yX9_turnRow, Cond.code yX9_turnRow cX9_turnRow 2 none, Cond.methodLink RL 18 yX12_init, Cond.instanceMethod yX12_init, Cond.code yX12_init cX12_init 1 none, Cond.methodLink RX12 1 objectInit, Cond.fieldLink RX12 7 "EndsRoundModel" "tape" "[I", Cond.fieldLink RX12 13 "EndsRoundModel" "from" "[I", Cond.fieldLink RX12 16 "EndsRoundModel" "pairA" "[I", Cond.fieldLink RX12 19 "EndsRoundModel" "pairB" "[I"]
def wsL_law0_r13 : List Cond := [Cond.fieldLink RX12 22 "EndsRoundModel" "every" "[I", Cond.fieldLink RX12 25 "EndsRoundModel" "wordRhyme" "[I", Cond.fieldLink RX12 28 "EndsRoundModel" "wordBeats" "[I", Cond.fieldLink RX12 31 "EndsRoundModel" "wordKind" "[I", Cond.arrayClass .boolean, Cond.fieldLink RX12 34 "EndsRoundModel" "isBarred" "[Z", Cond.fieldLink RX12 38 "EndsRoundModel" "newFrom" "[I", Cond.fieldLink RX12 41 "EndsRoundModel" "newA" "[I", Cond.fieldLink RX12 44 "EndsRoundModel" "newB" "[I", Cond.fieldLink RX12 47 "EndsRoundModel" "newEvery" "[I", Cond.fieldLink RX12 50 "EndsRoundModel" "newName" "[J", Cond.fieldLink RX12 54 "EndsRoundModel" "newRhyme" "[I", Cond.fieldLink RX12 57 "EndsRoundModel" "newBeats" "[I", Cond.fieldLink RX12 60 "EndsRoundModel" "newKind" "[I", Cond.fieldLink RX12 63 "EndsRoundModel" "lineFrom" "[I", Cond.fieldLink RX12 66 "EndsRoundModel" "lineTo" "[I", Cond.fieldLink RX12 69 "EndsRoundModel" "codes" "[I", Cond.fieldLink RX12 72 "EndsRoundModel" "opened" "[I", Cond.fieldLink RX12 75 "EndsRoundModel" "compared" "[Z", Cond.fieldLink RX12 78 "EndsRoundModel" "kept" "[I", Cond.fieldLink RX12 81 "EndsRoundModel" "keptBy" "[I", Cond.fieldLink RX12 84 "EndsRoundModel" "ahead" "[I", Cond.fieldLink RX12 87 "EndsRoundModel" "against" "[I", Cond.fieldLink RX12 90 "EndsRoundModel" "sum" "[I"]
def wsL_law0_r14 : List Cond := [Cond.fieldLink RX12 93 "EndsRoundModel" "sumBy" "[I", Cond.fieldLink RX12 96 "EndsRoundModel" "term" "[I", Cond.fieldLink RX12 99 "EndsRoundModel" "termBy" "[I", Cond.fieldLink RX12 102 "EndsRoundModel" "byNot" "[I", Cond.fieldLink RX12 105 "EndsRoundModel" "valueOf" "[I", Cond.fieldLink RX12 108 "EndsRoundModel" "step" "[I", Cond.fieldLink RX12 111 "EndsRoundModel" "turned" "[I", Cond.fieldLink RX12 114 "EndsRoundModel" "seen" "[Z", Cond.fieldLink RX12 117 "EndsRoundModel" "powers" "[I", Cond.fieldLink RX12 120 "EndsRoundModel" "classOf" "[I", Cond.fieldLink RX12 123 "EndsRoundModel" "isAhead" "[Z", Cond.fieldLink RX12 126 "EndsRoundModel" "given" "[I", Cond.fieldLink RX12 129 "EndsRoundModel" "first" "[I", Cond.fieldLink RX12 132 "EndsRoundModel" "lineWord" "[I", Cond.fieldLink RX12 135 "EndsRoundModel" "lineText" "[I", Cond.fieldLink RX12 138 "EndsRoundModel" "lineBeats" "[I", Cond.fieldLink RX12 141 "EndsRoundModel" "others" "[I", Cond.fieldLink RX12 144 "EndsRoundModel" "isLaid" "[Z", Cond.fieldLink RX12 147 "EndsRoundModel" "marked" "[I", Cond.fieldLink RX12 150 "EndsRoundModel" "named" "[I", Cond.fieldLink RX12 153 "EndsRoundModel" "ends" "I", Cond.methodLink RL 21 yX11_feed, Cond.instanceMethod yX11_feed, Cond.selects RX11 yX11_feed yX11_feed]
def wsL_law0_r15 : List Cond := [Cond.code yX11_feed cX11_feed 7 (some .int), Cond.methodLink RX11 99 yX10_addBytes, Cond.instanceMethod yX10_addBytes, Cond.selects RX10 yX10_addBytes yX10_addBytes, Cond.code yX10_addBytes cX10_addBytes 4 none, Cond.methodLink RX10 49 yX10_addSign, Cond.instanceMethod yX10_addSign, Cond.selects RX10 yX10_addSign yX10_addSign, Cond.code yX10_addSign cX10_addSign 3 none, Cond.fieldLink RX10 53 "EndsRound$Tape" "length" "I", Cond.methodLink RL 25 yX12_feed, Cond.instanceMethod yX12_feed, Cond.selects RX12 yX12_feed yX12_feed, Cond.code yX12_feed cX12_feed 11 (some .int), Cond.fieldLink RX12 157 "EndsRoundModel" "thrown" "I", Cond.constantLong RX12 160 (255), Cond.fieldLink RX12 162 "EndsRoundModel" "taped" "I", Cond.methodLink RL 26 yX11_form, Cond.instanceMethod yX11_form, Cond.selects RX11 yX11_form yX11_form, Cond.code yX11_form cX11_form 2 (some .int), Cond.methodLink RX11 107 yX8_read, Cond.instanceMethod yX8_read, Cond.selects RX8 yX8_read yX8_read]
def wsL_law0_r16 : List Cond := [Cond.code yX8_read cX8_read 3 (some .int), Cond.fieldLink RX8 38 "EndsRound$Parser" "fault" "I", Cond.fieldLink RX8 57 "EndsRound$Parser" "taken" "I", Cond.fieldLink RX8 63 "EndsRound$Parser" "key" "I", Cond.methodLink RX8 33 yX10_cut, Cond.instanceMethod yX10_cut, Cond.selects RX10 yX10_cut yX10_cut, Cond.code yX10_cut cX10_cut 3 none, Cond.fieldLink RX10 56 "EndsRound$Tape" "tokens" "I", Cond.methodLink RX10 59 yX10_cutToken, Cond.instanceMethod yX10_cutToken, Cond.selects RX10 yX10_cutToken yX10_cutToken, Cond.code yX10_cutToken cX10_cutToken 3 (some .int), Cond.methodLink RX10 67 yX10_signAt, Cond.instanceMethod yX10_signAt, Cond.selects RX10 yX10_signAt yX10_signAt, Cond.code yX10_signAt cX10_signAt 2 (some .int), Cond.methodLink RX10 70 yX10_cutWord, Cond.instanceMethod yX10_cutWord, Cond.selects RX10 yX10_cutWord yX10_cutWord, Cond.code yX10_cutWord cX10_cutWord 5 (some .int), Cond.methodLink RX10 85 yX10_keyOf, Cond.instanceMethod yX10_keyOf, Cond.selects RX10 yX10_keyOf yX10_keyOf]
def wsL_law0_r17 : List Cond := [Cond.code yX10_keyOf cX10_keyOf 4 (some .int), Cond.methodLink RX10 63 yX10_addToken, Cond.instanceMethod yX10_addToken, Cond.selects RX10 yX10_addToken yX10_addToken, Cond.code yX10_addToken cX10_addToken 5 none, Cond.methodLink RX10 73 yX10_isDigit, Cond.static yX10_isDigit, Cond.code yX10_isDigit cX10_isDigit 1 (some .boolean), Cond.methodLink RX10 76 yX10_cutNumber, Cond.instanceMethod yX10_cutNumber, Cond.selects RX10 yX10_cutNumber yX10_cutNumber, Cond.code yX10_cutNumber cX10_cutNumber 5 (some .int), Cond.constantLong RX10 89 (10), Cond.constantLong RX10 91 (48), Cond.methodLink RX10 79 yX10_isBlank, Cond.static yX10_isBlank, Cond.code yX10_isBlank cX10_isBlank 1 (some .boolean), Cond.methodLink RX10 82 yX10_isSign, Cond.static yX10_isSign, Cond.code yX10_isSign cX10_isSign 1 (some .boolean), Cond.methodLink RX8 45 yX8_holdToken, Cond.instanceMethod yX8_holdToken, Cond.selects RX8 yX8_holdToken yX8_holdToken, Cond.code yX8_holdToken cX8_holdToken 2 none]
def wsL_law0_r18 : List Cond := [Cond.fieldLink RX8 95 "EndsRound$Parser" "token" "I", Cond.fieldLink RX8 122 "EndsRound$Parser" "value" "J", Cond.methodLink RX8 49 yX8_takeKey, Cond.instanceMethod yX8_takeKey, Cond.selects RX8 yX8_takeKey yX8_takeKey, Cond.code yX8_takeKey cX8_takeKey 2 (some .boolean), Cond.methodLink RX8 92 yX8_isWrong, Cond.instanceMethod yX8_isWrong, Cond.selects RX8 yX8_isWrong yX8_isWrong, Cond.code yX8_isWrong cX8_isWrong 2 (some .boolean), Cond.methodLink RX8 53 yX8_takeNumber, Cond.instanceMethod yX8_takeNumber, Cond.selects RX8 yX8_takeNumber yX8_takeNumber, Cond.code yX8_takeNumber cX8_takeNumber 4 (some .boolean), Cond.methodLink RX8 60 yX4_begin, Cond.methodLink RX8 66 yX8_readLine, Cond.instanceMethod yX8_readLine, Cond.selects RX8 yX8_readLine yX8_readLine, Cond.code yX8_readLine cX8_readLine 1 (some .boolean), Cond.methodLink RX8 74 yX8_readTurn, Cond.instanceMethod yX8_readTurn, Cond.selects RX8 yX8_readTurn yX8_readTurn, Cond.code yX8_readTurn cX8_readTurn 3 (some .boolean), Cond.methodLink RX8 98 yX8_readStep]
def wsL_law0_r19 : List Cond := [Cond.instanceMethod yX8_readStep, Cond.selects RX8 yX8_readStep yX8_readStep, Cond.code yX8_readStep cX8_readStep 4 (some .boolean), Cond.methodLink RX8 107 yX4_addStep, Cond.instanceMethod yX4_addStep, Cond.selects RX4 yX4_addStep yX4_addStep, Cond.code yX4_addStep cX4_addStep 5 none, Cond.methodLink RX4 70 yX4_sourceOf, Cond.instanceMethod yX4_sourceOf, Cond.selects RX4 yX4_sourceOf yX4_sourceOf, Cond.code yX4_sourceOf cX4_sourceOf 5 (some .int), Cond.static yX11_spiralSource, Cond.code yX11_spiralSource cX11_spiralSource 2 (some .int), Cond.methodLink RX4 82 yX4_thirdsSource, Cond.instanceMethod yX4_thirdsSource, Cond.selects RX4 yX4_thirdsSource yX4_thirdsSource, Cond.code yX4_thirdsSource cX4_thirdsSource 4 (some .int), Cond.methodLink RX4 86 yJ9_floorMod_7cf53, Cond.static yJ9_floorMod_7cf53, Cond.initialized RJ9, Cond.code yJ9_floorMod_7cf53 cJ9_floorMod_7cf53 3 (some .int), Cond.methodLink RX8 77 yX8_readRhyme, Cond.instanceMethod yX8_readRhyme, Cond.selects RX8 yX8_readRhyme yX8_readRhyme]
def wsL_law0_r20 : List Cond := [Cond.code yX8_readRhyme cX8_readRhyme 2 (some .boolean), Cond.methodLink RX8 114 yX4_addRhyme, Cond.instanceMethod yX4_addRhyme, Cond.selects RX4 yX4_addRhyme yX4_addRhyme, Cond.code yX4_addRhyme cX4_addRhyme 3 none, Cond.methodLink RX8 80 yX8_readWhole, Cond.instanceMethod yX8_readWhole, Cond.selects RX8 yX8_readWhole yX8_readWhole, Cond.code yX8_readWhole cX8_readWhole 3 (some .boolean), Cond.methodLink RX8 130 yX4_addWhole, Cond.instanceMethod yX4_addWhole, Cond.selects RX4 yX4_addWhole yX4_addWhole, Cond.code yX4_addWhole cX4_addWhole 3 none, Cond.methodLink RX8 83 yX8_readFeet, Cond.instanceMethod yX8_readFeet, Cond.selects RX8 yX8_readFeet yX8_readFeet, Cond.code yX8_readFeet cX8_readFeet 1 (some .boolean), Cond.methodLink RX8 86 yX8_readWord, Cond.instanceMethod yX8_readWord, Cond.selects RX8 yX8_readWord yX8_readWord, Cond.code yX8_readWord cX8_readWord 3 (some .boolean), Cond.methodLink RX8 139 yX8_takeName, Cond.instanceMethod yX8_takeName, Cond.selects RX8 yX8_takeName yX8_takeName]
def wsL_law0_r21 : List Cond := [Cond.code yX8_takeName cX8_takeName 2 (some .boolean), Cond.methodLink RX8 142 yX4_addWord, Cond.instanceMethod yX4_addWord, Cond.selects RX4 yX4_addWord yX4_addWord, Cond.code yX4_addWord cX4_addWord 4 none, Cond.methodLink RX8 89 yX8_readBar, Cond.instanceMethod yX8_readBar, Cond.selects RX8 yX8_readBar yX8_readBar, Cond.code yX8_readBar cX8_readBar 1 (some .boolean), Cond.methodLink RX8 147 yX8_readTests, Cond.instanceMethod yX8_readTests, Cond.selects RX8 yX8_readTests yX8_readTests, Cond.code yX8_readTests cX8_readTests 5 (some .boolean), Cond.methodLink RX8 153 yX8_readTest, Cond.instanceMethod yX8_readTest, Cond.selects RX8 yX8_readTest yX8_readTest, Cond.methodLink RX8 150 yX0_add, Cond.instanceMethod yX0_add, Cond.selects RX0 yX0_add yX0_add, Cond.code yX0_add cX0_add 2 none, Cond.fieldLink RX0 18 "EndsRound$Bars" "length" "I", Cond.code yX8_readPart cX8_readPart 4 (some .boolean), Cond.methodLink RX8 162 yX8_readPart, Cond.instanceMethod yX8_readPart]
def wsL_law0_r22 : List Cond := [Cond.selects RX8 yX8_readPart yX8_readPart, Cond.code yX8_readProduct cX8_readProduct 4 (some .boolean), Cond.code yX8_readSum cX8_readSum 5 (some .boolean), Cond.methodLink RX8 159 yX8_readProduct, Cond.instanceMethod yX8_readProduct, Cond.selects RX8 yX8_readProduct yX8_readProduct, Cond.code yX8_readTest cX8_readTest 4 (some .boolean), Cond.methodLink RX8 156 yX8_readSum, Cond.instanceMethod yX8_readSum, Cond.selects RX8 yX8_readSum yX8_readSum, Cond.methodLink RX8 70 yX0_weigh, Cond.instanceMethod yX0_weigh, Cond.selects RX0 yX0_weigh yX0_weigh, Cond.code yX0_weigh cX0_weigh 5 none, Cond.methodLink RX0 31 yX0_holds, Cond.instanceMethod yX0_holds, Cond.selects RX0 yX0_holds yX0_holds, Cond.code yX0_holds cX0_holds 7 (some .boolean), Cond.fieldLink RX0 38 "EndsRound$Bars" "height" "I", Cond.methodLink RX0 45 yX0_push, Cond.instanceMethod yX0_push, Cond.selects RX0 yX0_push yX0_push, Cond.code yX0_push cX0_push 2 none, Cond.methodLink RX0 49 yX0_factOf]
def wsL_law0_r23 : List Cond := [Cond.static yX0_factOf, Cond.code yX0_factOf cX0_factOf 4 (some .int), Cond.methodLink RX0 67 yX4_areRhyming, Cond.instanceMethod yX4_areRhyming, Cond.selects RX4 yX4_areRhyming yX4_areRhyming, Cond.code yX4_areRhyming cX4_areRhyming 3 (some .boolean), Cond.methodLink RX0 53 yX0_pop, Cond.instanceMethod yX0_pop, Cond.selects RX0 yX0_pop yX0_pop, Cond.code yX0_pop cX0_pop 1 (some .int), Cond.methodLink RX0 57 yX0_joined, Cond.static yX0_joined, Cond.code yX0_joined cX0_joined 3 (some .int), Cond.methodLink RX11 114 yX4_copy, Cond.instanceMethod yX4_copy, Cond.selects RX4 yX4_copy yX4_copy, Cond.code yX4_copy cX4_copy 2 none, Cond.methodLink RX11 118 yX11_formChanged, Cond.instanceMethod yX11_formChanged, Cond.selects RX11 yX11_formChanged yX11_formChanged, Cond.code yX11_formChanged cX11_formChanged 1 none, Cond.methodLink RX11 304 yX3_forget, Cond.instanceMethod yX3_forget, Cond.selects RX3 yX3_forget yX3_forget]
def wsL_law0_r24 : List Cond := [Cond.code yX3_forget cX3_forget 1 none, Cond.fieldLink RX3 38 "EndsRound$Filler" "prepared" "Z", Cond.fieldLink RX3 42 "EndsRound$Filler" "counted" "Z", Cond.fieldLink RX3 45 "EndsRound$Filler" "searched" "Z", Cond.fieldLink RX3 48 "EndsRound$Filler" "stuckBits" "I", Cond.methodLink RX11 239 yX6_forget, Cond.instanceMethod yX6_forget, Cond.selects RX6 yX6_forget yX6_forget, Cond.code yX6_forget cX6_forget 1 none, Cond.fieldLink RX6 39 "EndsRound$Mender" "known" "Z", Cond.methodLink RL 30 yX12_form, Cond.instanceMethod yX12_form, Cond.selects RX12 yX12_form yX12_form, Cond.code yX12_form cX12_form 3 (some .int), Cond.fieldLink RX12 192 "EndsRoundModel" "wrong" "I", Cond.fieldLink RX12 281 "EndsRoundModel" "newEnds" "I", Cond.fieldLink RX12 287 "EndsRoundModel" "newSteps" "I", Cond.fieldLink RX12 352 "EndsRoundModel" "steps" "I", Cond.fieldLink RX12 307 "EndsRoundModel" "newRhymes" "I", Cond.fieldLink RX12 355 "EndsRoundModel" "rhymes" "I", Cond.fieldLink RX12 313 "EndsRoundModel" "newWholes" "I", Cond.fieldLink RX12 358 "EndsRoundModel" "wholes" "I", Cond.fieldLink RX12 316 "EndsRoundModel" "newFeet" "I", Cond.fieldLink RX12 361 "EndsRoundModel" "feet" "I"]
def wsL_law0_r25 : List Cond := [Cond.fieldLink RX12 319 "EndsRoundModel" "newWords" "I", Cond.fieldLink RX12 364 "EndsRoundModel" "words" "I", Cond.fieldLink RX12 325 "EndsRoundModel" "newBars" "I", Cond.fieldLink RX12 367 "EndsRoundModel" "bars" "I", Cond.fieldLink RX12 372 "EndsRoundModel" "lines" "I", Cond.methodLink RX12 349 yX12_readsAll, Cond.instanceMethod yX12_readsAll, Cond.selects RX12 yX12_readsAll yX12_readsAll, Cond.code yX12_readsAll cX12_readsAll 2 (some .boolean), Cond.fieldLink RX12 195 "EndsRoundModel" "code" "I", Cond.fieldLink RX12 165 "EndsRoundModel" "size" "I", Cond.fieldLink RX12 168 "EndsRoundModel" "place" "I", Cond.constantLong RX12 245 (108748), Cond.fieldLink RX12 178 "EndsRoundModel" "told" "I", Cond.fieldLink RX12 181 "EndsRoundModel" "token" "I", Cond.constantLong RX12 247 (409469), Cond.constantLong RX12 261 (9741983), Cond.constantLong RX12 263 (12391871), Cond.constantLong RX12 267 (121898), Cond.constantLong RX12 269 (464134), Cond.constantLong RX12 275 (1503), Cond.methodLink RX12 229 yX12_nextToken, Cond.instanceMethod yX12_nextToken, Cond.selects RX12 yX12_nextToken yX12_nextToken]
def wsL_law0_r26 : List Cond := [Cond.code yX12_nextToken cX12_nextToken 2 none, Cond.fieldLink RX12 171 "EndsRoundModel" "begin" "I", Cond.fieldLink RX12 174 "EndsRoundModel" "word" "J", Cond.constantLong RX12 188 (27), Cond.constantLong RX12 190 (96), Cond.methodLink RX12 184 yX12_signAt, Cond.instanceMethod yX12_signAt, Cond.selects RX12 yX12_signAt yX12_signAt, Cond.code yX12_signAt cX12_signAt 2 (some .int), Cond.methodLink RX12 310 yX12_needsWord, Cond.instanceMethod yX12_needsWord, Cond.selects RX12 yX12_needsWord yX12_needsWord, Cond.code yX12_needsWord cX12_needsWord 3 (some .boolean), Cond.methodLink RX12 214 yX12_isWord, Cond.instanceMethod yX12_isWord, Cond.selects RX12 yX12_isWord yX12_isWord, Cond.code yX12_isWord cX12_isWord 3 (some .boolean), Cond.methodLink RX12 222 yX12_fails, Cond.instanceMethod yX12_fails, Cond.selects RX12 yX12_fails yX12_fails, Cond.code yX12_fails cX12_fails 2 (some .boolean), Cond.methodLink RX12 290 yX12_needsNumber, Cond.instanceMethod yX12_needsNumber, Cond.selects RX12 yX12_needsNumber yX12_needsNumber]
def wsL_law0_r27 : List Cond := [Cond.code yX12_needsNumber cX12_needsNumber 3 (some .boolean), Cond.methodLink RX12 277 yX12_within, Cond.static yX12_within, Cond.code yX12_within cX12_within 3 (some .boolean), Cond.methodLink RX12 305 yX12_ends, Cond.instanceMethod yX12_ends, Cond.selects RX12 yX12_ends yX12_ends, Cond.code yX12_ends cX12_ends 1 (some .boolean), Cond.methodLink RX12 218 yX12_isSign, Cond.instanceMethod yX12_isSign, Cond.selects RX12 yX12_isSign yX12_isSign, Cond.code yX12_isSign cX12_isSign 2 (some .boolean), Cond.methodLink RX12 331 yX12_readsTurn, Cond.instanceMethod yX12_readsTurn, Cond.selects RX12 yX12_readsTurn yX12_readsTurn, Cond.code yX12_readsTurn cX12_readsTurn 1 (some .boolean), Cond.methodLink RX12 301 yX12_readsStep, Cond.instanceMethod yX12_readsStep, Cond.selects RX12 yX12_readsStep yX12_readsStep, Cond.code yX12_readsStep cX12_readsStep 6 (some .boolean), Cond.methodLink RX12 284 yX12_stepKind, Cond.instanceMethod yX12_stepKind, Cond.selects RX12 yX12_stepKind yX12_stepKind, Cond.code yX12_stepKind cX12_stepKind 1 (some .int)]
def wsL_law0_r28 : List Cond := [Cond.constantLong RX12 249 (281322597), Cond.constantLong RX12 251 (40187), Cond.constantLong RX12 253 (115575085), Cond.constantLong RX12 255 (291420064), Cond.constantLong RX12 257 (10261586), Cond.constantLong RX12 259 (390787), Cond.methodLink RX12 294 yX12_lays, Cond.instanceMethod yX12_lays, Cond.selects RX12 yX12_lays yX12_lays, Cond.code yX12_lays cX12_lays 8 none, Cond.methodLink RX12 298 yX12_turns, Cond.instanceMethod yX12_turns, Cond.selects RX12 yX12_turns yX12_turns, Cond.code yX12_turns cX12_turns 2 none, Cond.methodLink RX12 334 yX12_readsRhyme, Cond.instanceMethod yX12_readsRhyme, Cond.selects RX12 yX12_readsRhyme yX12_readsRhyme, Cond.code yX12_readsRhyme cX12_readsRhyme 1 (some .boolean), Cond.methodLink RX12 337 yX12_readsWhole, Cond.instanceMethod yX12_readsWhole, Cond.selects RX12 yX12_readsWhole yX12_readsWhole, Cond.code yX12_readsWhole cX12_readsWhole 2 (some .boolean), Cond.constantLong RX12 265 (3094387), Cond.methodLink RX12 340 yX12_readsFeet]
def wsL_law0_r29 : List Cond := [Cond.instanceMethod yX12_readsFeet, Cond.selects RX12 yX12_readsFeet yX12_readsFeet, Cond.code yX12_readsFeet cX12_readsFeet 1 (some .boolean), Cond.methodLink RX12 343 yX12_readsEntry, Cond.instanceMethod yX12_readsEntry, Cond.selects RX12 yX12_readsEntry yX12_readsEntry, Cond.code yX12_readsEntry cX12_readsEntry 2 (some .boolean), Cond.constantLong RX12 271 (1162585), Cond.constantLong RX12 273 (223456), Cond.methodLink RX12 322 yX12_isKept, Cond.instanceMethod yX12_isKept, Cond.selects RX12 yX12_isKept yX12_isKept, Cond.code yX12_isKept cX12_isKept 1 (some .boolean), Cond.constantLong RX12 212 (10631), Cond.constantLong RX12 232 (1111), Cond.constantLong RX12 234 (423), Cond.methodLink RX12 346 yX12_readsBar, Cond.instanceMethod yX12_readsBar, Cond.selects RX12 yX12_readsBar yX12_readsBar, Cond.code yX12_readsBar cX12_readsBar 1 (some .boolean), Cond.methodLink RX12 328 yX12_reads, Cond.instanceMethod yX12_reads, Cond.selects RX12 yX12_reads yX12_reads, Cond.code yX12_reads cX12_reads 6 (some .boolean)]
def wsL_law0_r30 : List Cond := [Cond.methodLink RX12 208 yX12_fact, Cond.instanceMethod yX12_fact, Cond.selects RX12 yX12_fact yX12_fact, Cond.code yX12_fact cX12_fact 1 (some .int), Cond.constantLong RX12 198 (385418), Cond.constantLong RX12 200 (279875), Cond.constantLong RX12 202 (247516), Cond.constantLong RX12 204 (10266284), Cond.constantLong RX12 206 (774500), Cond.methodLink RX12 225 yX12_puts, Cond.instanceMethod yX12_puts, Cond.selects RX12 yX12_puts yX12_puts, Cond.code yX12_puts cX12_puts 2 none, Cond.methodLink RX12 370 yX12_bars, Cond.instanceMethod yX12_bars, Cond.selects RX12 yX12_bars yX12_bars, Cond.code yX12_bars cX12_bars 4 (some .boolean), Cond.methodLink RX12 375 yX12_worked, Cond.instanceMethod yX12_worked, Cond.selects RX12 yX12_worked yX12_worked, Cond.code yX12_worked cX12_worked 6 (some .int), Cond.methodLink RX12 239 yX12_opens, Cond.instanceMethod yX12_opens, Cond.selects RX12 yX12_opens yX12_opens]
def wsL_law0_r31 : List Cond := [Cond.code yX12_opens cX12_opens 2 none, Cond.methodLink RX12 236 yX12_sums, Cond.instanceMethod yX12_sums, Cond.selects RX12 yX12_sums yX12_sums, Cond.code yX12_sums cX12_sums 2 none, Cond.methodLink RX12 242 yX12_tests, Cond.instanceMethod yX12_tests, Cond.selects RX12 yX12_tests yX12_tests, Cond.code yX12_tests cX12_tests 3 none, Cond.methodLink RL 31 yX11_turning, Cond.instanceMethod yX11_turning, Cond.selects RX11 yX11_turning yX11_turning, Cond.code yX11_turning cX11_turning 3 (some .int), Cond.methodLink RX11 121 yX11_isEnd, Cond.instanceMethod yX11_isEnd, Cond.selects RX11 yX11_isEnd yX11_isEnd, Cond.code yX11_isEnd cX11_isEnd 2 (some .boolean), Cond.methodLink RX11 128 yX11_cell, Cond.methodLink RL 35 yX12_turning, Cond.instanceMethod yX12_turning, Cond.selects RX12 yX12_turning yX12_turning, Cond.code yX12_turning cX12_turning 3 (some .int), Cond.methodLink RX12 378 yX12_isPlace, Cond.instanceMethod yX12_isPlace]
def wsL_law0_r32 : List Cond := [Cond.selects RX12 yX12_isPlace yX12_isPlace, Cond.code yX12_isPlace cX12_isPlace 2 (some .boolean), Cond.methodLink RX12 381 yX12_goesTo, Cond.instanceMethod yX12_goesTo, Cond.selects RX12 yX12_goesTo yX12_goesTo, Cond.code yX12_goesTo cX12_goesTo 3 (some .int), Cond.methodLink RX12 384 yX12_cycleOf, Cond.instanceMethod yX12_cycleOf, Cond.selects RX12 yX12_cycleOf yX12_cycleOf, Cond.code yX12_cycleOf cX12_cycleOf 4 (some .int), Cond.methodLink RL 36 yX11_end, Cond.instanceMethod yX11_end, Cond.selects RX11 yX11_end yX11_end, Cond.code yX11_end cX11_end 4 (some .int), Cond.methodLink RX11 141 yX11_isStanza, Cond.static yX11_isStanza, Cond.code yX11_isStanza cX11_isStanza 2 (some .boolean), Cond.constantLong RX11 305 (1000000000000000), Cond.methodLink RX11 145 yX9_endAt, Cond.instanceMethod yX9_endAt, Cond.selects RX9 yX9_endAt yX9_endAt, Cond.code yX9_endAt cX9_endAt 4 (some .int), Cond.methodLink RX9 96 yX9_walk, Cond.instanceMethod yX9_walk]
def wsL_law0_r33 : List Cond := [Cond.selects RX9 yX9_walk yX9_walk, Cond.code yX9_walk cX9_walk 11 (some .int), Cond.methodLink RL 40 yX12_end, Cond.instanceMethod yX12_end, Cond.selects RX12 yX12_end yX12_end, Cond.code yX12_end cX12_end 4 (some .int), Cond.methodLink RX12 393 yX12_isStanza, Cond.static yX12_isStanza, Cond.code yX12_isStanza cX12_isStanza 2 (some .boolean), Cond.constantLong RX12 387 (1000000000000000), Cond.methodLink RX12 389 yX12_endAt, Cond.instanceMethod yX12_endAt, Cond.selects RX12 yX12_endAt yX12_endAt, Cond.code yX12_endAt cX12_endAt 6 (some .int), Cond.methodLink RL 41 yX11_where, Cond.instanceMethod yX11_where, Cond.selects RX11 yX11_where yX11_where, Cond.code yX11_where cX11_where 4 (some .int), Cond.methodLink RX11 149 yX9_placeOf, Cond.instanceMethod yX9_placeOf, Cond.selects RX9 yX9_placeOf yX9_placeOf, Cond.code yX9_placeOf cX9_placeOf 4 (some .int), Cond.methodLink RL 44 yX12_where, Cond.instanceMethod yX12_where]
def wsL_law0_r34 : List Cond := [Cond.selects RX12 yX12_where yX12_where, Cond.code yX12_where cX12_where 4 (some .int), Cond.methodLink RX12 396 yX12_whereIs, Cond.instanceMethod yX12_whereIs, Cond.selects RX12 yX12_whereIs yX12_whereIs, Cond.code yX12_whereIs cX12_whereIs 5 (some .int), Cond.methodLink RL 45 yX11_meets, Cond.instanceMethod yX11_meets, Cond.selects RX11 yX11_meets yX11_meets, Cond.code yX11_meets cX11_meets 3 (some .int), Cond.methodLink RX11 152 yX9_firstMeeting, Cond.instanceMethod yX9_firstMeeting, Cond.selects RX9 yX9_firstMeeting yX9_firstMeeting, Cond.code yX9_firstMeeting cX9_firstMeeting 5 (some .int), Cond.methodLink RL 48 yX12_meets, Cond.instanceMethod yX12_meets, Cond.selects RX12 yX12_meets yX12_meets, Cond.code yX12_meets cX12_meets 4 (some .int), Cond.methodLink RL 49 yX11_round, Cond.instanceMethod yX11_round, Cond.selects RX11 yX11_round yX11_round, Cond.code yX11_round cX11_round 2 (some .int), Cond.methodLink RL 52 yX12_round, Cond.instanceMethod yX12_round]
def wsL_law0_r35 : List Cond := [Cond.selects RX12 yX12_round yX12_round, Cond.code yX12_round cX12_round 6 (some .int), Cond.methodLink RX12 406 Lib.Math.max.name, Cond.methodLink RX12 403 yX12_isLeast, Cond.instanceMethod yX12_isLeast, Cond.selects RX12 yX12_isLeast yX12_isLeast, Cond.code yX12_isLeast cX12_isLeast 3 (some .boolean), Cond.methodLink RX12 411 yX12_roundIs, Cond.instanceMethod yX12_roundIs, Cond.selects RX12 yX12_roundIs yX12_roundIs, Cond.code yX12_roundIs cX12_roundIs 3 (some .int), Cond.methodLink RX12 399 yX12_gcd, Cond.static yX12_gcd, Cond.code yX12_gcd cX12_gcd 5 (some .int), Cond.methodLink RL 53 yX11_roots, Cond.instanceMethod yX11_roots, Cond.selects RX11 yX11_roots yX11_roots, Cond.code yX11_roots cX11_roots 4 (some .long), Cond.methodLink RX11 172 yX1_ofLength, Cond.instanceMethod yX1_ofLength, Cond.selects RX1 yX1_ofLength yX1_ofLength, Cond.code yX1_ofLength cX1_ofLength 4 (some .int), Cond.methodLink RX11 176 yX11_rootsOfAlike, Cond.static yX11_rootsOfAlike]
def wsL_law0_r36 : List Cond := [Cond.code yX11_rootsOfAlike cX11_rootsOfAlike 11 (some .long), Cond.methodLink RL 57 yX12_roots, Cond.instanceMethod yX12_roots, Cond.selects RX12 yX12_roots yX12_roots, Cond.code yX12_roots cX12_roots 6 (some .long), Cond.methodLink RX12 414 yX12_rootsOf, Cond.static yX12_rootsOf, Cond.code yX12_rootsOf cX12_rootsOf 4 (some .long), Cond.methodLink RL 58 yX11_spiral, Cond.instanceMethod yX11_spiral, Cond.selects RX11 yX11_spiral yX11_spiral, Cond.code yX11_spiral cX11_spiral 4 (some .int), Cond.constantLong RX11 190 (1000000007), Cond.methodLink RX11 180 yX11_spiralSource, Cond.methodLink RX11 183 yX11_put, Cond.methodLink RX11 187 yX1_follow, Cond.methodLink RL 61 yX12_spiral, Cond.instanceMethod yX12_spiral, Cond.selects RX12 yX12_spiral yX12_spiral, Cond.code yX12_spiral cX12_spiral 9 (some .int), Cond.constantLong RX12 418 (1000000007), Cond.methodLink RL 62 yX11_rhymes, Cond.instanceMethod yX11_rhymes, Cond.selects RX11 yX11_rhymes yX11_rhymes]
def wsL_law0_r37 : List Cond := [Cond.code yX11_rhymes cX11_rhymes 2 (some .int), Cond.methodLink RL 65 yX12_rhymes, Cond.instanceMethod yX12_rhymes, Cond.selects RX12 yX12_rhymes yX12_rhymes, Cond.code yX12_rhymes cX12_rhymes 2 (some .int), Cond.methodLink RX12 423 yX12_classes, Cond.instanceMethod yX12_classes, Cond.selects RX12 yX12_classes yX12_classes, Cond.code yX12_classes cX12_classes 7 none, Cond.methodLink RX12 420 Lib.Math.min.name, Cond.methodLink RL 66 yX11_beside, Cond.instanceMethod yX11_beside, Cond.selects RX11 yX11_beside yX11_beside, Cond.code yX11_beside cX11_beside 3 (some .int), Cond.methodLink RX11 195 yX9_timesAhead, Cond.instanceMethod yX9_timesAhead, Cond.selects RX9 yX9_timesAhead yX9_timesAhead, Cond.code yX9_timesAhead cX9_timesAhead 3 (some .int), Cond.methodLink RL 69 yX12_beside, Cond.instanceMethod yX12_beside, Cond.selects RX12 yX12_beside yX12_beside, Cond.code yX12_beside cX12_beside 6 (some .int), Cond.methodLink RX12 426 Lib.Math.abs.name, Cond.static Lib.Math.abs.name]
def wsL_law0_r38 : List Cond := [Cond.code Lib.Math.abs.name Lib.Math.abs.code 1 (some .int), Cond.methodLink RL 70 yX11_word, Cond.instanceMethod yX11_word, Cond.selects RX11 yX11_word yX11_word, Cond.code yX11_word cX11_word 3 (some .int), Cond.methodLink RX11 198 yX11_isWord, Cond.instanceMethod yX11_isWord, Cond.selects RX11 yX11_isWord yX11_isWord, Cond.code yX11_isWord cX11_isWord 2 (some .boolean), Cond.methodLink RL 73 yX12_word, Cond.instanceMethod yX12_word, Cond.selects RX12 yX12_word yX12_word, Cond.code yX12_word cX12_word 3 (some .int), Cond.methodLink RX12 429 yX12_isWordAt, Cond.instanceMethod yX12_isWordAt, Cond.selects RX12 yX12_isWordAt yX12_isWordAt, Cond.code yX12_isWordAt cX12_isWordAt 2 (some .boolean), Cond.methodLink RL 74 yX11_barred, Cond.instanceMethod yX11_barred, Cond.selects RX11 yX11_barred yX11_barred, Cond.code yX11_barred cX11_barred 3 (some .int), Cond.methodLink RX11 210 yX4_forbids, Cond.instanceMethod yX4_forbids, Cond.selects RX4 yX4_forbids yX4_forbids]
def wsL_law0_r39 : List Cond := [Cond.code yX4_forbids cX4_forbids 3 (some .boolean), Cond.methodLink RL 77 yX12_barred, Cond.instanceMethod yX12_barred, Cond.selects RX12 yX12_barred yX12_barred, Cond.code yX12_barred cX12_barred 3 (some .int), Cond.methodLink RL 78 yX11_fills, Cond.instanceMethod yX11_fills, Cond.selects RX11 yX11_fills yX11_fills, Cond.code yX11_fills cX11_fills 1 (some .long), Cond.constantLong RX11 214 (-1), Cond.methodLink RX11 216 yX3_howMany, Cond.instanceMethod yX3_howMany, Cond.selects RX3 yX3_howMany yX3_howMany, Cond.code yX3_howMany cX3_howMany 1 (some .long), Cond.fieldLink RX3 65 "EndsRound$Filler" "number" "J", Cond.methodLink RX3 57 yX3_choose, Cond.instanceMethod yX3_choose, Cond.selects RX3 yX3_choose yX3_choose, Cond.code yX3_choose cX3_choose 3 none, Cond.fieldLink RX3 85 "EndsRound$Filler" "size" "I", Cond.methodLink RX3 82 yX3_prepare, Cond.instanceMethod yX3_prepare, Cond.selects RX3 yX3_prepare yX3_prepare, Cond.code yX3_prepare cX3_prepare 4 none]
def wsL_law0_r40 : List Cond := [Cond.methodLink RX3 95 yX9_areOneClass, Cond.instanceMethod yX9_areOneClass, Cond.selects RX9 yX9_areOneClass yX9_areOneClass, Cond.code yX9_areOneClass cX9_areOneClass 3 (some .boolean), Cond.methodLink RX3 101 yX9_timesAhead, Cond.methodLink RX3 105 yX3_allowedBy, Cond.instanceMethod yX3_allowedBy, Cond.selects RX3 yX3_allowedBy yX3_allowedBy, Cond.code yX3_allowedBy cX3_allowedBy 6 (some .int), Cond.methodLink RX3 108 yX4_areRhyming, Cond.methodLink RX3 111 yX4_forbids, Cond.methodLink RX3 61 yX3_ways, Cond.instanceMethod yX3_ways, Cond.selects RX3 yX3_ways yX3_ways, Cond.code yX3_ways cX3_ways 7 (some .long), Cond.methodLink RX3 76 yJ6_bitCount_0f7a4, Cond.static yJ6_bitCount_0f7a4, Cond.initialized RJ6, Cond.code yJ6_bitCount_0f7a4 cJ6_bitCount_0f7a4 1 (some .int), Cond.constant RJ6 265 (1431655765), Cond.constant RJ6 266 (858993459), Cond.constant RJ6 267 (252645135), Cond.methodLink RX3 118 yX3_waysWith, Cond.instanceMethod yX3_waysWith]
def wsL_law0_r41 : List Cond := [Cond.selects RX3 yX3_waysWith yX3_waysWith, Cond.code yX3_waysWith cX3_waysWith 4 (some .long), Cond.methodLink RX3 122 yX3_leavesOpen, Cond.instanceMethod yX3_leavesOpen, Cond.selects RX3 yX3_leavesOpen yX3_leavesOpen, Cond.code yX3_leavesOpen cX3_leavesOpen 8 (some .boolean), Cond.methodLink RL 81 yX12_fills, Cond.instanceMethod yX12_fills, Cond.selects RX12 yX12_fills yX12_fills, Cond.code yX12_fills cX12_fills 1 (some .long), Cond.constantLong RX12 444 (-1), Cond.methodLink RX12 446 yX12_neighbours, Cond.instanceMethod yX12_neighbours, Cond.selects RX12 yX12_neighbours yX12_neighbours, Cond.code yX12_neighbours cX12_neighbours 4 none, Cond.methodLink RX12 449 yX12_waysFor, Cond.instanceMethod yX12_waysFor, Cond.selects RX12 yX12_waysFor yX12_waysFor, Cond.code yX12_waysFor cX12_waysFor 3 (some .long), Cond.fieldLink RX12 432 "EndsRoundModel" "isFirst" "Z", Cond.methodLink RX12 436 yX12_gives, Cond.instanceMethod yX12_gives, Cond.selects RX12 yX12_gives yX12_gives, Cond.code yX12_gives cX12_gives 7 (some .long)]
def wsL_law0_r42 : List Cond := [Cond.methodLink RX12 440 yX12_goes, Cond.instanceMethod yX12_goes, Cond.selects RX12 yX12_goes yX12_goes, Cond.code yX12_goes cX12_goes 6 (some .boolean), Cond.methodLink RL 82 yX11_fill, Cond.instanceMethod yX11_fill, Cond.selects RX11 yX11_fill yX11_fill, Cond.code yX11_fill cX11_fill 2 (some .int), Cond.methodLink RX11 220 yX3_canAll, Cond.instanceMethod yX3_canAll, Cond.selects RX3 yX3_canAll yX3_canAll, Cond.code yX3_canAll cX3_canAll 1 (some .boolean), Cond.fieldLink RX3 69 "EndsRound$Filler" "found" "Z", Cond.methodLink RL 85 yX12_fill, Cond.instanceMethod yX12_fill, Cond.selects RX12 yX12_fill yX12_fill, Cond.code yX12_fill cX12_fill 2 (some .int), Cond.methodLink RL 86 yX11_stuck, Cond.instanceMethod yX11_stuck, Cond.selects RX11 yX11_stuck yX11_stuck, Cond.code yX11_stuck cX11_stuck 3 (some .int), Cond.methodLink RX11 227 yX3_fewestStuck, Cond.instanceMethod yX3_fewestStuck, Cond.selects RX3 yX3_fewestStuck yX3_fewestStuck]
def wsL_law0_r43 : List Cond := [Cond.code yX3_fewestStuck cX3_fewestStuck 3 (some .int), Cond.methodLink RX11 230 yJ6_bitCount_0f7a4, Cond.methodLink RL 89 yX12_stuck, Cond.instanceMethod yX12_stuck, Cond.selects RX12 yX12_stuck yX12_stuck, Cond.code yX12_stuck cX12_stuck 4 (some .int), Cond.methodLink RX12 453 yX12_bits, Cond.static yX12_bits, Cond.code yX12_bits cX12_bits 3 (some .int), Cond.methodLink RL 90 yX11_line, Cond.instanceMethod yX11_line, Cond.selects RX11 yX11_line yX11_line, Cond.code yX11_line cX11_line 4 (some .int), Cond.methodLink RX11 235 yX2_add, Cond.instanceMethod yX2_add, Cond.selects RX2 yX2_add yX2_add, Cond.code yX2_add cX2_add 4 none, Cond.fieldLink RX2 21 "EndsRound$Draft" "length" "I", Cond.methodLink RL 94 yX12_line, Cond.instanceMethod yX12_line, Cond.selects RX12 yX12_line yX12_line, Cond.code yX12_line cX12_line 4 (some .int), Cond.methodLink RL 95 yX11_clear, Cond.instanceMethod yX11_clear]
def wsL_law0_r44 : List Cond := [Cond.selects RX11 yX11_clear yX11_clear, Cond.code yX11_clear cX11_clear 1 (some .boolean), Cond.methodLink RL 99 yX12_clear, Cond.instanceMethod yX12_clear, Cond.selects RX12 yX12_clear yX12_clear, Cond.code yX12_clear cX12_clear 1 (some .boolean), Cond.methodLink RL 100 yL_judged, Cond.static yL_judged, Cond.initialized RL, Cond.codeWith yL_judged cL_judged 4 (some .int) [(0, 9, 12, 13)], Cond.classLink RL 13 "java/util/NoSuchElementException", Cond.methodLink RL 7 yX11_judged, Cond.instanceMethod yX11_judged, Cond.selects RX11 yX11_judged yX11_judged, Cond.code yX11_judged cX11_judged 4 (some .int), Cond.classLink RX11 242 "java/util/NoSuchElementException", Cond.initialized "java/util/NoSuchElementException", Cond.methodLink RX11 249 yX11_whyWrong, Cond.instanceMethod yX11_whyWrong, Cond.selects RX11 yX11_whyWrong yX11_whyWrong, Cond.code yX11_whyWrong cX11_whyWrong 7 (some .int), Cond.methodLink RX11 309 yX11_isRepeated, Cond.instanceMethod yX11_isRepeated, Cond.selects RX11 yX11_isRepeated yX11_isRepeated]
def wsL_law0_r45 : List Cond := [Cond.code yX11_isRepeated cX11_isRepeated 4 (some .boolean), Cond.methodLink RX11 312 yX11_jars, Cond.instanceMethod yX11_jars, Cond.selects RX11 yX11_jars yX11_jars, Cond.code yX11_jars cX11_jars 5 (some .boolean), Cond.methodLink RX11 324 yX9_areOneClass, Cond.methodLink RL 105 yX12_judged, Cond.instanceMethod yX12_judged, Cond.selects RX12 yX12_judged yX12_judged, Cond.code yX12_judged cX12_judged 4 (some .int), Cond.methodLink RX12 456 yX12_wrongIn, Cond.instanceMethod yX12_wrongIn, Cond.selects RX12 yX12_wrongIn yX12_wrongIn, Cond.code yX12_wrongIn cX12_wrongIn 6 (some .int), Cond.methodLink RL 106 yX12_thrown, Cond.instanceMethod yX12_thrown, Cond.selects RX12 yX12_thrown yX12_thrown, Cond.code yX12_thrown cX12_thrown 1 (some .int), Cond.methodLink RL 109 yX11_mend, Cond.instanceMethod yX11_mend, Cond.selects RX11 yX11_mend yX11_mend, Cond.code yX11_mend cX11_mend 1 (some .int), Cond.methodLink RX11 252 yX6_howMany, Cond.instanceMethod yX6_howMany]
def wsL_law0_r46 : List Cond := [Cond.selects RX6 yX6_howMany yX6_howMany, Cond.code yX6_howMany cX6_howMany 1 (some .int), Cond.fieldLink RX6 46 "EndsRound$Mender" "fewest" "I", Cond.methodLink RX6 43 yX6_settle, Cond.instanceMethod yX6_settle, Cond.selects RX6 yX6_settle yX6_settle, Cond.code yX6_settle cX6_settle 2 none, Cond.methodLink RX6 55 yX6_countChanges, Cond.instanceMethod yX6_countChanges, Cond.selects RX6 yX6_countChanges yX6_countChanges, Cond.code yX6_countChanges cX6_countChanges 5 none, Cond.methodLink RX6 88 yX9_endAt, Cond.methodLink RX6 58 yX6_sortWords, Cond.instanceMethod yX6_sortWords, Cond.selects RX6 yX6_sortWords yX6_sortWords, Cond.code yX6_sortWords cX6_sortWords 5 none, Cond.methodLink RX6 61 yX6_findUnbroken, Cond.instanceMethod yX6_findUnbroken, Cond.selects RX6 yX6_findUnbroken yX6_findUnbroken, Cond.code yX6_findUnbroken cX6_findUnbroken 5 none, Cond.methodLink RX6 68 yX6_cheapest, Cond.instanceMethod yX6_cheapest, Cond.selects RX6 yX6_cheapest yX6_cheapest, Cond.code yX6_cheapest cX6_cheapest 5 (some .int)]
def wsL_law0_r47 : List Cond := [Cond.methodLink RX6 106 yX6_offer, Cond.instanceMethod yX6_offer, Cond.selects RX6 yX6_offer yX6_offer, Cond.code yX6_offer cX6_offer 7 none, Cond.methodLink RX6 117 Lib.Math.min.name, Cond.methodLink RX6 110 yX4_areRhyming, Cond.methodLink RX6 114 yX6_dropBroken, Cond.instanceMethod yX6_dropBroken, Cond.selects RX6 yX6_dropBroken yX6_dropBroken, Cond.code yX6_dropBroken cX6_dropBroken 3 none, Cond.methodLink RX6 72 yX6_giveLeast, Cond.instanceMethod yX6_giveLeast, Cond.selects RX6 yX6_giveLeast yX6_giveLeast, Cond.code yX6_giveLeast cX6_giveLeast 3 none, Cond.methodLink RL 112 yX12_mend, Cond.instanceMethod yX12_mend, Cond.selects RX12 yX12_mend yX12_mend, Cond.code yX12_mend cX12_mend 1 (some .int), Cond.fieldLink RX12 459 "EndsRoundModel" "fewest" "I", Cond.methodLink RX12 465 yX12_hasMended, Cond.instanceMethod yX12_hasMended, Cond.selects RX12 yX12_hasMended yX12_hasMended, Cond.code yX12_hasMended cX12_hasMended 4 (some .boolean), Cond.methodLink RX12 462 yX12_mends]
def wsL_law0_r48 : List Cond := [Cond.instanceMethod yX12_mends, Cond.selects RX12 yX12_mends yX12_mends, Cond.code yX12_mends cX12_mends 4 none, Cond.methodLink RL 113 yX11_mended, Cond.instanceMethod yX11_mended, Cond.selects RX11 yX11_mended yX11_mended, Cond.code yX11_mended cX11_mended 2 (some .int), Cond.methodLink RL 116 yX12_mended, Cond.instanceMethod yX12_mended, Cond.selects RX12 yX12_mended yX12_mended, Cond.code yX12_mended cX12_mended 2 (some .int), Cond.methodLink RL 117 yX11_same, Cond.instanceMethod yX11_same, Cond.selects RX11 yX11_same yX11_same, Cond.code yX11_same cX11_same 3 (some .int), Cond.methodLink RX11 257 yX11_markAt, Cond.instanceMethod yX11_markAt, Cond.selects RX11 yX11_markAt yX11_markAt, Cond.code yX11_markAt cX11_markAt 2 (some (.object "EndsRound$Mark")), Cond.methodLink RX11 268 yX7_finds, Cond.instanceMethod yX7_finds, Cond.selects RX7 yX7_finds yX7_finds, Cond.code yX7_finds cX7_finds 2 (some .boolean), Cond.fieldLink RX7 54 "EndsRound$Namer" "taken" "I"]
def wsL_law0_r49 : List Cond := [Cond.methodLink RX7 46 yX7_tint, Cond.instanceMethod yX7_tint, Cond.selects RX7 yX7_tint yX7_tint, Cond.code yX7_tint cX7_tint 5 none, Cond.methodLink RX7 68 yX1_follow, Cond.methodLink RX7 85 yX7_mixed, Cond.static yX7_mixed, Cond.code yX7_mixed cX7_mixed 6 (some .int), Cond.methodLink RX7 93 yX7_spread, Cond.static yX7_spread, Cond.code yX7_spread cX7_spread 1 (some .int), Cond.constant RX7 100 (73471), Cond.methodLink RX7 50 yX7_haveSameTints, Cond.instanceMethod yX7_haveSameTints, Cond.selects RX7 yX7_haveSameTints yX7_haveSameTints, Cond.code yX7_haveSameTints cX7_haveSameTints 4 (some .boolean), Cond.methodLink RX7 61 yX7_namesFrom, Cond.instanceMethod yX7_namesFrom, Cond.selects RX7 yX7_namesFrom yX7_namesFrom, Cond.code yX7_namesFrom cX7_namesFrom 3 (some .boolean), Cond.methodLink RX7 101 yX7_namesWith, Cond.instanceMethod yX7_namesWith, Cond.selects RX7 yX7_namesWith yX7_namesWith, Cond.code yX7_namesWith cX7_namesWith 3 (some .boolean)]
def wsL_law0_r50 : List Cond := [Cond.methodLink RX7 105 yX7_givesCycle, Cond.instanceMethod yX7_givesCycle, Cond.selects RX7 yX7_givesCycle yX7_givesCycle, Cond.code yX7_givesCycle cX7_givesCycle 6 (some .boolean), Cond.methodLink RX7 111 yX7_fits, Cond.instanceMethod yX7_fits, Cond.selects RX7 yX7_fits yX7_fits, Cond.code yX7_fits cX7_fits 5 (some .boolean), Cond.methodLink RX7 108 yX7_takeCycleBack, Cond.instanceMethod yX7_takeCycleBack, Cond.selects RX7 yX7_takeCycleBack yX7_takeCycleBack, Cond.code yX7_takeCycleBack cX7_takeCycleBack 4 none, Cond.methodLink RL 120 yX12_same, Cond.instanceMethod yX12_same, Cond.selects RX12 yX12_same yX12_same, Cond.code yX12_same cX12_same 2 (some .int), Cond.methodLink RX12 494 yX12_areSame, Cond.instanceMethod yX12_areSame, Cond.selects RX12 yX12_areSame yX12_areSame, Cond.code yX12_areSame cX12_areSame 2 (some .boolean), Cond.methodLink RX12 491 yX12_names, Cond.instanceMethod yX12_names, Cond.selects RX12 yX12_names yX12_names, Cond.code yX12_names cX12_names 4 (some .boolean)]
def wsL_law0_r51 : List Cond := [Cond.methodLink RX12 488 yX12_mayBe, Cond.instanceMethod yX12_mayBe, Cond.selects RX12 yX12_mayBe yX12_mayBe, Cond.code yX12_mayBe cX12_mayBe 5 (some .boolean), Cond.methodLink RX12 485 yX12_friends, Cond.instanceMethod yX12_friends, Cond.selects RX12 yX12_friends yX12_friends, Cond.code yX12_friends cX12_friends 5 (some .int), Cond.methodLink RX12 479 yX12_isPair, Cond.instanceMethod yX12_isPair, Cond.selects RX12 yX12_isPair yX12_isPair, Cond.code yX12_isPair cX12_isPair 4 (some .boolean), Cond.methodLink RX12 482 yX12_isPairOn, Cond.instanceMethod yX12_isPairOn, Cond.selects RX12 yX12_isPairOn yX12_isPairOn, Cond.code yX12_isPairOn cX12_isPairOn 7 (some .boolean), Cond.methodLink RL 121 yX11_renamed, Cond.instanceMethod yX11_renamed, Cond.selects RX11 yX11_renamed yX11_renamed, Cond.code yX11_renamed cX11_renamed 3 (some .int), Cond.methodLink RX11 272 yX11_same, Cond.methodLink RL 124 yX12_renamed, Cond.instanceMethod yX12_renamed, Cond.selects RX12 yX12_renamed yX12_renamed]
def wsL_law0_r52 : List Cond := [Cond.code yX12_renamed cX12_renamed 3 (some .int), Cond.methodLink RL 125 yX11_mark, Cond.instanceMethod yX11_mark, Cond.selects RX11 yX11_mark yX11_mark, Cond.code yX11_mark cX11_mark 4 (some .boolean), Cond.methodLink RX11 279 yX2_copy, Cond.instanceMethod yX2_copy, Cond.selects RX2 yX2_copy yX2_copy, Cond.code yX2_copy cX2_copy 2 none, Cond.methodLink RX11 282 yX5_lay, Cond.instanceMethod yX5_lay, Cond.selects RX5 yX5_lay yX5_lay, Cond.code yX5_lay cX5_lay 3 none, Cond.fieldLink RX5 30 "EndsRound$Mark" "laid" "Z", Cond.methodLink RX5 23 yX4_copy, Cond.methodLink RX5 27 yX2_copy, Cond.methodLink RL 129 yX12_mark, Cond.instanceMethod yX12_mark, Cond.selects RX12 yX12_mark yX12_mark, Cond.code yX12_mark cX12_mark 4 (some .boolean), Cond.fieldLink RX12 468 "EndsRoundModel" "markAt" "I", Cond.methodLink RX12 471 yX12_keeps, Cond.instanceMethod yX12_keeps, Cond.selects RX12 yX12_keeps yX12_keeps]
def wsL_law0_r53 : List Cond := [Cond.code yX12_keeps cX12_keeps 4 (some .int), Cond.methodLink RX12 475 yX12_keepsRow, Cond.instanceMethod yX12_keepsRow, Cond.selects RX12 yX12_keepsRow yX12_keepsRow, Cond.code yX12_keepsRow cX12_keepsRow 5 none, Cond.methodLink RL 130 yX11_count, Cond.instanceMethod yX11_count, Cond.selects RX11 yX11_count yX11_count, Cond.code yX11_count cX11_count 2 (some .int), Cond.methodLink RL 133 yX12_count, Cond.instanceMethod yX12_count, Cond.selects RX12 yX12_count yX12_count, Cond.code yX12_count cX12_count 2 (some .int)]
abbrev vwCl : List vw_C := [(RX0, TX0, 4), (RX1, TX1, 6), (RX2, TX2, 4), (RX3, TX3, 15), (RX4, TX4, 15), (RX5, TX5, 3), (RX6, TX6, 10), (RX7, TX7, 8), (RX8, TX8, 9), (RX9, TX9, 8), (RX10, TX10, 7), (RX11, TX11, 11), (RX12, TX12, 75)]
/-! ===== one list of words for all methods ===== -/
def bigT : List Cond := wsX110 ++ (wsX120 ++ (wsX100 ++ (wsX80 ++ (wsX40 ++ (wsX20 ++ (wsX90 ++ (wsX30 ++ (wsX60 ++ (wsX70 ++ (wsX50 ++ (wsX10 ++ (wsX00))))))))))))
def big53 : List Cond := wsL_law0_r53 ++ bigT
def big52 : List Cond := wsL_law0_r52 ++ big53
def big51 : List Cond := wsL_law0_r51 ++ big52
def big50 : List Cond := wsL_law0_r50 ++ big51
def big49 : List Cond := wsL_law0_r49 ++ big50
def big48 : List Cond := wsL_law0_r48 ++ big49
def big47 : List Cond := wsL_law0_r47 ++ big48
def big46 : List Cond := wsL_law0_r46 ++ big47
def big45 : List Cond := wsL_law0_r45 ++ big46
def big44 : List Cond := wsL_law0_r44 ++ big45
def big43 : List Cond := wsL_law0_r43 ++ big44
def big42 : List Cond := wsL_law0_r42 ++ big43
def big41 : List Cond := wsL_law0_r41 ++ big42
def big40 : List Cond := wsL_law0_r40 ++ big41
def big39 : List Cond := wsL_law0_r39 ++ big40
def big38 : List Cond := wsL_law0_r38 ++ big39
def big37 : List Cond := wsL_law0_r37 ++ big38
def big36 : List Cond := wsL_law0_r36 ++ big37
def big35 : List Cond := wsL_law0_r35 ++ big36
def big34 : List Cond := wsL_law0_r34 ++ big35
def big33 : List Cond := wsL_law0_r33 ++ big34
def big32 : List Cond := wsL_law0_r32 ++ big33
def big31 : List Cond := wsL_law0_r31 ++ big32
def big30 : List Cond := wsL_law0_r30 ++ big31
def big29 : List Cond := wsL_law0_r29 ++ big30
def big28 : List Cond := wsL_law0_r28 ++ big29
def big27 : List Cond := wsL_law0_r27 ++ big28
def big26 : List Cond := wsL_law0_r26 ++ big27
def big25 : List Cond := wsL_law0_r25 ++ big26
def big24 : List Cond := wsL_law0_r24 ++ big25
def big23 : List Cond := wsL_law0_r23 ++ big24
def big22 : List Cond := wsL_law0_r22 ++ big23
def big21 : List Cond := wsL_law0_r21 ++ big22
def big20 : List Cond := wsL_law0_r20 ++ big21
def big19 : List Cond := wsL_law0_r19 ++ big20
def big18 : List Cond := wsL_law0_r18 ++ big19
def big17 : List Cond := wsL_law0_r17 ++ big18
def big16 : List Cond := wsL_law0_r16 ++ big17
def big15 : List Cond := wsL_law0_r15 ++ big16
def big14 : List Cond := wsL_law0_r14 ++ big15
def big13 : List Cond := wsL_law0_r13 ++ big14
def big12 : List Cond := wsL_law0_r12 ++ big13
def big11 : List Cond := wsL_law0_r11 ++ big12
def big10 : List Cond := wsL_law0_r10 ++ big11
def big9 : List Cond := wsL_law0_r9 ++ big10
def big8 : List Cond := wsL_law0_r8 ++ big9
def big7 : List Cond := wsL_law0_r7 ++ big8
def big6 : List Cond := wsL_law0_r6 ++ big7
def big5 : List Cond := wsL_law0_r5 ++ big6
def big4 : List Cond := wsL_law0_r4 ++ big5
def big3 : List Cond := wsL_law0_r3 ++ big4
def big2 : List Cond := wsL_law0_r2 ++ big3
def big1 : List Cond := wsL_law0_r1 ++ big2
abbrev BIG : List Cond := big1
theorem sb_1 : ∀ w ∈ big1, w ∈ BIG := fun _ h => h
theorem sb_2 : ∀ w ∈ big2, w ∈ BIG := fun w h => sb_1 w (List.mem_append_right _ h)
theorem sb_3 : ∀ w ∈ big3, w ∈ BIG := fun w h => sb_2 w (List.mem_append_right _ h)
theorem sb_4 : ∀ w ∈ big4, w ∈ BIG := fun w h => sb_3 w (List.mem_append_right _ h)
theorem sb_5 : ∀ w ∈ big5, w ∈ BIG := fun w h => sb_4 w (List.mem_append_right _ h)
theorem sb_6 : ∀ w ∈ big6, w ∈ BIG := fun w h => sb_5 w (List.mem_append_right _ h)
theorem sb_7 : ∀ w ∈ big7, w ∈ BIG := fun w h => sb_6 w (List.mem_append_right _ h)
theorem sb_8 : ∀ w ∈ big8, w ∈ BIG := fun w h => sb_7 w (List.mem_append_right _ h)
theorem sb_9 : ∀ w ∈ big9, w ∈ BIG := fun w h => sb_8 w (List.mem_append_right _ h)
theorem sb_10 : ∀ w ∈ big10, w ∈ BIG := fun w h => sb_9 w (List.mem_append_right _ h)
theorem sb_11 : ∀ w ∈ big11, w ∈ BIG := fun w h => sb_10 w (List.mem_append_right _ h)
theorem sb_12 : ∀ w ∈ big12, w ∈ BIG := fun w h => sb_11 w (List.mem_append_right _ h)
theorem sb_13 : ∀ w ∈ big13, w ∈ BIG := fun w h => sb_12 w (List.mem_append_right _ h)
theorem sb_14 : ∀ w ∈ big14, w ∈ BIG := fun w h => sb_13 w (List.mem_append_right _ h)
theorem sb_15 : ∀ w ∈ big15, w ∈ BIG := fun w h => sb_14 w (List.mem_append_right _ h)
theorem sb_16 : ∀ w ∈ big16, w ∈ BIG := fun w h => sb_15 w (List.mem_append_right _ h)
theorem sb_17 : ∀ w ∈ big17, w ∈ BIG := fun w h => sb_16 w (List.mem_append_right _ h)
theorem sb_18 : ∀ w ∈ big18, w ∈ BIG := fun w h => sb_17 w (List.mem_append_right _ h)
theorem sb_19 : ∀ w ∈ big19, w ∈ BIG := fun w h => sb_18 w (List.mem_append_right _ h)
theorem sb_20 : ∀ w ∈ big20, w ∈ BIG := fun w h => sb_19 w (List.mem_append_right _ h)
theorem sb_21 : ∀ w ∈ big21, w ∈ BIG := fun w h => sb_20 w (List.mem_append_right _ h)
theorem sb_22 : ∀ w ∈ big22, w ∈ BIG := fun w h => sb_21 w (List.mem_append_right _ h)
theorem sb_23 : ∀ w ∈ big23, w ∈ BIG := fun w h => sb_22 w (List.mem_append_right _ h)
theorem sb_24 : ∀ w ∈ big24, w ∈ BIG := fun w h => sb_23 w (List.mem_append_right _ h)
theorem sb_25 : ∀ w ∈ big25, w ∈ BIG := fun w h => sb_24 w (List.mem_append_right _ h)
theorem sb_26 : ∀ w ∈ big26, w ∈ BIG := fun w h => sb_25 w (List.mem_append_right _ h)
theorem sb_27 : ∀ w ∈ big27, w ∈ BIG := fun w h => sb_26 w (List.mem_append_right _ h)
theorem sb_28 : ∀ w ∈ big28, w ∈ BIG := fun w h => sb_27 w (List.mem_append_right _ h)
theorem sb_29 : ∀ w ∈ big29, w ∈ BIG := fun w h => sb_28 w (List.mem_append_right _ h)
theorem sb_30 : ∀ w ∈ big30, w ∈ BIG := fun w h => sb_29 w (List.mem_append_right _ h)
theorem sb_31 : ∀ w ∈ big31, w ∈ BIG := fun w h => sb_30 w (List.mem_append_right _ h)
theorem sb_32 : ∀ w ∈ big32, w ∈ BIG := fun w h => sb_31 w (List.mem_append_right _ h)
theorem sb_33 : ∀ w ∈ big33, w ∈ BIG := fun w h => sb_32 w (List.mem_append_right _ h)
theorem sb_34 : ∀ w ∈ big34, w ∈ BIG := fun w h => sb_33 w (List.mem_append_right _ h)
theorem sb_35 : ∀ w ∈ big35, w ∈ BIG := fun w h => sb_34 w (List.mem_append_right _ h)
theorem sb_36 : ∀ w ∈ big36, w ∈ BIG := fun w h => sb_35 w (List.mem_append_right _ h)
theorem sb_37 : ∀ w ∈ big37, w ∈ BIG := fun w h => sb_36 w (List.mem_append_right _ h)
theorem sb_38 : ∀ w ∈ big38, w ∈ BIG := fun w h => sb_37 w (List.mem_append_right _ h)
theorem sb_39 : ∀ w ∈ big39, w ∈ BIG := fun w h => sb_38 w (List.mem_append_right _ h)
theorem sb_40 : ∀ w ∈ big40, w ∈ BIG := fun w h => sb_39 w (List.mem_append_right _ h)
theorem sb_41 : ∀ w ∈ big41, w ∈ BIG := fun w h => sb_40 w (List.mem_append_right _ h)
theorem sb_42 : ∀ w ∈ big42, w ∈ BIG := fun w h => sb_41 w (List.mem_append_right _ h)
theorem sb_43 : ∀ w ∈ big43, w ∈ BIG := fun w h => sb_42 w (List.mem_append_right _ h)
theorem sb_44 : ∀ w ∈ big44, w ∈ BIG := fun w h => sb_43 w (List.mem_append_right _ h)
theorem sb_45 : ∀ w ∈ big45, w ∈ BIG := fun w h => sb_44 w (List.mem_append_right _ h)
theorem sb_46 : ∀ w ∈ big46, w ∈ BIG := fun w h => sb_45 w (List.mem_append_right _ h)
theorem sb_47 : ∀ w ∈ big47, w ∈ BIG := fun w h => sb_46 w (List.mem_append_right _ h)
theorem sb_48 : ∀ w ∈ big48, w ∈ BIG := fun w h => sb_47 w (List.mem_append_right _ h)
theorem sb_49 : ∀ w ∈ big49, w ∈ BIG := fun w h => sb_48 w (List.mem_append_right _ h)
theorem sb_50 : ∀ w ∈ big50, w ∈ BIG := fun w h => sb_49 w (List.mem_append_right _ h)
theorem sb_51 : ∀ w ∈ big51, w ∈ BIG := fun w h => sb_50 w (List.mem_append_right _ h)
theorem sb_52 : ∀ w ∈ big52, w ∈ BIG := fun w h => sb_51 w (List.mem_append_right _ h)
theorem sb_53 : ∀ w ∈ big53, w ∈ BIG := fun w h => sb_52 w (List.mem_append_right _ h)
theorem sb_T : ∀ w ∈ bigT, w ∈ BIG := fun w h => sb_53 w (List.mem_append_right _ h)
theorem rb_1 : ∀ w ∈ wsL_law0_r1, w ∈ BIG := fun w h => sb_1 w (List.mem_append_left _ h)
theorem rb_2 : ∀ w ∈ wsL_law0_r2, w ∈ BIG := fun w h => sb_2 w (List.mem_append_left _ h)
theorem rb_3 : ∀ w ∈ wsL_law0_r3, w ∈ BIG := fun w h => sb_3 w (List.mem_append_left _ h)
theorem rb_4 : ∀ w ∈ wsL_law0_r4, w ∈ BIG := fun w h => sb_4 w (List.mem_append_left _ h)
theorem rb_5 : ∀ w ∈ wsL_law0_r5, w ∈ BIG := fun w h => sb_5 w (List.mem_append_left _ h)
theorem rb_6 : ∀ w ∈ wsL_law0_r6, w ∈ BIG := fun w h => sb_6 w (List.mem_append_left _ h)
theorem rb_7 : ∀ w ∈ wsL_law0_r7, w ∈ BIG := fun w h => sb_7 w (List.mem_append_left _ h)
theorem rb_8 : ∀ w ∈ wsL_law0_r8, w ∈ BIG := fun w h => sb_8 w (List.mem_append_left _ h)
theorem rb_9 : ∀ w ∈ wsL_law0_r9, w ∈ BIG := fun w h => sb_9 w (List.mem_append_left _ h)
theorem rb_10 : ∀ w ∈ wsL_law0_r10, w ∈ BIG := fun w h => sb_10 w (List.mem_append_left _ h)
theorem rb_11 : ∀ w ∈ wsL_law0_r11, w ∈ BIG := fun w h => sb_11 w (List.mem_append_left _ h)
theorem rb_12 : ∀ w ∈ wsL_law0_r12, w ∈ BIG := fun w h => sb_12 w (List.mem_append_left _ h)
theorem rb_13 : ∀ w ∈ wsL_law0_r13, w ∈ BIG := fun w h => sb_13 w (List.mem_append_left _ h)
theorem rb_14 : ∀ w ∈ wsL_law0_r14, w ∈ BIG := fun w h => sb_14 w (List.mem_append_left _ h)
theorem rb_15 : ∀ w ∈ wsL_law0_r15, w ∈ BIG := fun w h => sb_15 w (List.mem_append_left _ h)
theorem rb_16 : ∀ w ∈ wsL_law0_r16, w ∈ BIG := fun w h => sb_16 w (List.mem_append_left _ h)
theorem rb_17 : ∀ w ∈ wsL_law0_r17, w ∈ BIG := fun w h => sb_17 w (List.mem_append_left _ h)
theorem rb_18 : ∀ w ∈ wsL_law0_r18, w ∈ BIG := fun w h => sb_18 w (List.mem_append_left _ h)
theorem rb_19 : ∀ w ∈ wsL_law0_r19, w ∈ BIG := fun w h => sb_19 w (List.mem_append_left _ h)
theorem rb_20 : ∀ w ∈ wsL_law0_r20, w ∈ BIG := fun w h => sb_20 w (List.mem_append_left _ h)
theorem rb_21 : ∀ w ∈ wsL_law0_r21, w ∈ BIG := fun w h => sb_21 w (List.mem_append_left _ h)
theorem rb_22 : ∀ w ∈ wsL_law0_r22, w ∈ BIG := fun w h => sb_22 w (List.mem_append_left _ h)
theorem rb_23 : ∀ w ∈ wsL_law0_r23, w ∈ BIG := fun w h => sb_23 w (List.mem_append_left _ h)
theorem rb_24 : ∀ w ∈ wsL_law0_r24, w ∈ BIG := fun w h => sb_24 w (List.mem_append_left _ h)
theorem rb_25 : ∀ w ∈ wsL_law0_r25, w ∈ BIG := fun w h => sb_25 w (List.mem_append_left _ h)
theorem rb_26 : ∀ w ∈ wsL_law0_r26, w ∈ BIG := fun w h => sb_26 w (List.mem_append_left _ h)
theorem rb_27 : ∀ w ∈ wsL_law0_r27, w ∈ BIG := fun w h => sb_27 w (List.mem_append_left _ h)
theorem rb_28 : ∀ w ∈ wsL_law0_r28, w ∈ BIG := fun w h => sb_28 w (List.mem_append_left _ h)
theorem rb_29 : ∀ w ∈ wsL_law0_r29, w ∈ BIG := fun w h => sb_29 w (List.mem_append_left _ h)
theorem rb_30 : ∀ w ∈ wsL_law0_r30, w ∈ BIG := fun w h => sb_30 w (List.mem_append_left _ h)
theorem rb_31 : ∀ w ∈ wsL_law0_r31, w ∈ BIG := fun w h => sb_31 w (List.mem_append_left _ h)
theorem rb_32 : ∀ w ∈ wsL_law0_r32, w ∈ BIG := fun w h => sb_32 w (List.mem_append_left _ h)
theorem rb_33 : ∀ w ∈ wsL_law0_r33, w ∈ BIG := fun w h => sb_33 w (List.mem_append_left _ h)
theorem rb_34 : ∀ w ∈ wsL_law0_r34, w ∈ BIG := fun w h => sb_34 w (List.mem_append_left _ h)
theorem rb_35 : ∀ w ∈ wsL_law0_r35, w ∈ BIG := fun w h => sb_35 w (List.mem_append_left _ h)
theorem rb_36 : ∀ w ∈ wsL_law0_r36, w ∈ BIG := fun w h => sb_36 w (List.mem_append_left _ h)
theorem rb_37 : ∀ w ∈ wsL_law0_r37, w ∈ BIG := fun w h => sb_37 w (List.mem_append_left _ h)
theorem rb_38 : ∀ w ∈ wsL_law0_r38, w ∈ BIG := fun w h => sb_38 w (List.mem_append_left _ h)
theorem rb_39 : ∀ w ∈ wsL_law0_r39, w ∈ BIG := fun w h => sb_39 w (List.mem_append_left _ h)
theorem rb_40 : ∀ w ∈ wsL_law0_r40, w ∈ BIG := fun w h => sb_40 w (List.mem_append_left _ h)
theorem rb_41 : ∀ w ∈ wsL_law0_r41, w ∈ BIG := fun w h => sb_41 w (List.mem_append_left _ h)
theorem rb_42 : ∀ w ∈ wsL_law0_r42, w ∈ BIG := fun w h => sb_42 w (List.mem_append_left _ h)
theorem rb_43 : ∀ w ∈ wsL_law0_r43, w ∈ BIG := fun w h => sb_43 w (List.mem_append_left _ h)
theorem rb_44 : ∀ w ∈ wsL_law0_r44, w ∈ BIG := fun w h => sb_44 w (List.mem_append_left _ h)
theorem rb_45 : ∀ w ∈ wsL_law0_r45, w ∈ BIG := fun w h => sb_45 w (List.mem_append_left _ h)
theorem rb_46 : ∀ w ∈ wsL_law0_r46, w ∈ BIG := fun w h => sb_46 w (List.mem_append_left _ h)
theorem rb_47 : ∀ w ∈ wsL_law0_r47, w ∈ BIG := fun w h => sb_47 w (List.mem_append_left _ h)
theorem rb_48 : ∀ w ∈ wsL_law0_r48, w ∈ BIG := fun w h => sb_48 w (List.mem_append_left _ h)
theorem rb_49 : ∀ w ∈ wsL_law0_r49, w ∈ BIG := fun w h => sb_49 w (List.mem_append_left _ h)
theorem rb_50 : ∀ w ∈ wsL_law0_r50, w ∈ BIG := fun w h => sb_50 w (List.mem_append_left _ h)
theorem rb_51 : ∀ w ∈ wsL_law0_r51, w ∈ BIG := fun w h => sb_51 w (List.mem_append_left _ h)
theorem rb_52 : ∀ w ∈ wsL_law0_r52, w ∈ BIG := fun w h => sb_52 w (List.mem_append_left _ h)
theorem rb_53 : ∀ w ∈ wsL_law0_r53, w ∈ BIG := fun w h => sb_53 w (List.mem_append_left _ h)
theorem wm_1_0 : Cond.classLink RL 8 RX11 ∈ BIG := rb_1 _ (List.mem_of_getElem? (i := 0) rfl)
theorem wm_1_1 : Cond.instantiable RX11 11 ∈ BIG := rb_1 _ (List.mem_of_getElem? (i := 1) rfl)
theorem wm_1_2 : Cond.initialized RX11 ∈ BIG := rb_1 _ (List.mem_of_getElem? (i := 2) rfl)
theorem wm_1_3 : Cond.classLink RL 16 RX12 ∈ BIG := rb_1 _ (List.mem_of_getElem? (i := 3) rfl)
theorem wm_1_4 : Cond.instantiable RX12 75 ∈ BIG := rb_1 _ (List.mem_of_getElem? (i := 4) rfl)
theorem wm_1_5 : Cond.initialized RX12 ∈ BIG := rb_1 _ (List.mem_of_getElem? (i := 5) rfl)
theorem wm_1_6 : Cond.arrayClass .long ∈ BIG := rb_1 _ (List.mem_of_getElem? (i := 6) rfl)
theorem wm_1_7 : Cond.constantLong RL 19 (4294967295) ∈ BIG := rb_1 _ (List.mem_of_getElem? (i := 7) rfl)
theorem wm_1_8 : Cond.methodLink RL 15 yX11_init ∈ BIG := rb_1 _ (List.mem_of_getElem? (i := 8) rfl)
theorem wm_1_9 : Cond.instanceMethod yX11_init ∈ BIG := rb_1 _ (List.mem_of_getElem? (i := 9) rfl)
theorem wm_1_10 : Cond.code yX11_init cX11_init 2 none ∈ BIG := rb_1 _ (List.mem_of_getElem? (i := 10) rfl)
theorem wm_1_11 : Cond.methodLink RX11 1 objectInit ∈ BIG := rb_1 _ (List.mem_of_getElem? (i := 11) rfl)
theorem wm_1_12 : Cond.instanceMethod objectInit ∈ BIG := rb_1 _ (List.mem_of_getElem? (i := 12) rfl)
theorem wm_1_13 : Cond.code objectInit ⟨#[0xb1]⟩ 1 none ∈ BIG := rb_1 _ (List.mem_of_getElem? (i := 13) rfl)
theorem wm_1_14 : Cond.classLink RX11 7 RX10 ∈ BIG := rb_1 _ (List.mem_of_getElem? (i := 14) rfl)
theorem wm_1_15 : Cond.instantiable RX10 7 ∈ BIG := rb_1 _ (List.mem_of_getElem? (i := 15) rfl)
theorem wm_1_16 : Cond.initialized RX10 ∈ BIG := rb_1 _ (List.mem_of_getElem? (i := 16) rfl)
theorem wm_1_17 : Cond.fieldLink RX11 10 "EndsRound" "tape" "LEndsRound$Tape;" ∈ BIG := rb_1 _ (List.mem_of_getElem? (i := 17) rfl)
theorem wm_1_18 : Cond.classLink RX11 16 RX8 ∈ BIG := rb_1 _ (List.mem_of_getElem? (i := 18) rfl)
theorem wm_1_19 : Cond.instantiable RX8 9 ∈ BIG := rb_1 _ (List.mem_of_getElem? (i := 19) rfl)
theorem wm_1_20 : Cond.initialized RX8 ∈ BIG := rb_1 _ (List.mem_of_getElem? (i := 20) rfl)
theorem wm_1_21 : Cond.fieldLink RX11 21 "EndsRound" "parser" "LEndsRound$Parser;" ∈ BIG := rb_1 _ (List.mem_of_getElem? (i := 21) rfl)
theorem wm_1_22 : Cond.classLink RX11 25 RX4 ∈ BIG := rb_1 _ (List.mem_of_getElem? (i := 22) rfl)
theorem wm_1_23 : Cond.instantiable RX4 15 ∈ BIG := rb_1 _ (List.mem_of_getElem? (i := 23) rfl)
theorem wm_2_0 : Cond.initialized RX4 ∈ BIG := rb_2 _ (List.mem_of_getElem? (i := 0) rfl)
theorem wm_2_1 : Cond.fieldLink RX11 28 "EndsRound" "current" "LEndsRound$Form;" ∈ BIG := rb_2 _ (List.mem_of_getElem? (i := 1) rfl)
theorem wm_2_2 : Cond.classLink RX11 32 RX2 ∈ BIG := rb_2 _ (List.mem_of_getElem? (i := 2) rfl)
theorem wm_2_3 : Cond.instantiable RX2 4 ∈ BIG := rb_2 _ (List.mem_of_getElem? (i := 3) rfl)
theorem wm_2_4 : Cond.initialized RX2 ∈ BIG := rb_2 _ (List.mem_of_getElem? (i := 4) rfl)
theorem wm_2_5 : Cond.fieldLink RX11 35 "EndsRound" "draft" "LEndsRound$Draft;" ∈ BIG := rb_2 _ (List.mem_of_getElem? (i := 5) rfl)
theorem wm_2_6 : Cond.classLink RX11 39 RX9 ∈ BIG := rb_2 _ (List.mem_of_getElem? (i := 6) rfl)
theorem wm_2_7 : Cond.instantiable RX9 8 ∈ BIG := rb_2 _ (List.mem_of_getElem? (i := 7) rfl)
theorem wm_2_8 : Cond.initialized RX9 ∈ BIG := rb_2 _ (List.mem_of_getElem? (i := 8) rfl)
theorem wm_2_9 : Cond.fieldLink RX11 42 "EndsRound" "stanzas" "LEndsRound$Stanzas;" ∈ BIG := rb_2 _ (List.mem_of_getElem? (i := 9) rfl)
theorem wm_2_10 : Cond.classLink RX11 46 RX3 ∈ BIG := rb_2 _ (List.mem_of_getElem? (i := 10) rfl)
theorem wm_2_11 : Cond.instantiable RX3 15 ∈ BIG := rb_2 _ (List.mem_of_getElem? (i := 11) rfl)
theorem wm_2_12 : Cond.initialized RX3 ∈ BIG := rb_2 _ (List.mem_of_getElem? (i := 12) rfl)
theorem wm_2_13 : Cond.fieldLink RX11 51 "EndsRound" "filler" "LEndsRound$Filler;" ∈ BIG := rb_2 _ (List.mem_of_getElem? (i := 13) rfl)
theorem wm_2_14 : Cond.classLink RX11 55 RX6 ∈ BIG := rb_2 _ (List.mem_of_getElem? (i := 14) rfl)
theorem wm_2_15 : Cond.instantiable RX6 10 ∈ BIG := rb_2 _ (List.mem_of_getElem? (i := 15) rfl)
theorem wm_2_16 : Cond.initialized RX6 ∈ BIG := rb_2 _ (List.mem_of_getElem? (i := 16) rfl)
theorem wm_2_17 : Cond.fieldLink RX11 60 "EndsRound" "mender" "LEndsRound$Mender;" ∈ BIG := rb_2 _ (List.mem_of_getElem? (i := 17) rfl)
theorem wm_2_18 : Cond.classLink RX11 64 RX7 ∈ BIG := rb_2 _ (List.mem_of_getElem? (i := 18) rfl)
theorem wm_2_19 : Cond.instantiable RX7 8 ∈ BIG := rb_2 _ (List.mem_of_getElem? (i := 19) rfl)
theorem wm_2_20 : Cond.initialized RX7 ∈ BIG := rb_2 _ (List.mem_of_getElem? (i := 20) rfl)
theorem wm_2_21 : Cond.fieldLink RX11 69 "EndsRound" "namer" "LEndsRound$Namer;" ∈ BIG := rb_2 _ (List.mem_of_getElem? (i := 21) rfl)
theorem wm_2_22 : Cond.classLink RX11 73 RX5 ∈ BIG := rb_2 _ (List.mem_of_getElem? (i := 22) rfl)
theorem wm_2_23 : Cond.fieldLink RX11 75 "EndsRound" "marks" "[LEndsRound$Mark;" ∈ BIG := rb_2 _ (List.mem_of_getElem? (i := 23) rfl)
theorem wm_3_0 : Cond.instantiable RX5 3 ∈ BIG := rb_3 _ (List.mem_of_getElem? (i := 0) rfl)
theorem wm_3_1 : Cond.initialized RX5 ∈ BIG := rb_3 _ (List.mem_of_getElem? (i := 1) rfl)
theorem wm_3_2 : Cond.classLink RX11 80 RX1 ∈ BIG := rb_3 _ (List.mem_of_getElem? (i := 2) rfl)
theorem wm_3_3 : Cond.instantiable RX1 6 ∈ BIG := rb_3 _ (List.mem_of_getElem? (i := 3) rfl)
theorem wm_3_4 : Cond.initialized RX1 ∈ BIG := rb_3 _ (List.mem_of_getElem? (i := 4) rfl)
theorem wm_3_5 : Cond.fieldLink RX11 85 "EndsRound" "spiralCycles" "LEndsRound$Cycles;" ∈ BIG := rb_3 _ (List.mem_of_getElem? (i := 5) rfl)
theorem wm_3_6 : Cond.arrayClass .int ∈ BIG := rb_3 _ (List.mem_of_getElem? (i := 6) rfl)
theorem wm_3_7 : Cond.fieldLink RX11 89 "EndsRound" "spiralRow" "[I" ∈ BIG := rb_3 _ (List.mem_of_getElem? (i := 7) rfl)
theorem wm_3_8 : Cond.methodLink RX11 9 yX10_init ∈ BIG := rb_3 _ (List.mem_of_getElem? (i := 8) rfl)
theorem wm_3_9 : Cond.instanceMethod yX10_init ∈ BIG := rb_3 _ (List.mem_of_getElem? (i := 9) rfl)
theorem wm_3_10 : Cond.code yX10_init cX10_init 5 none ∈ BIG := rb_3 _ (List.mem_of_getElem? (i := 10) rfl)
theorem wm_3_11 : Cond.methodLink RX10 3 objectInit ∈ BIG := rb_3 _ (List.mem_of_getElem? (i := 11) rfl)
theorem wm_3_12 : Cond.arrayClass .char ∈ BIG := rb_3 _ (List.mem_of_getElem? (i := 12) rfl)
theorem wm_3_13 : Cond.fieldLink RX10 9 "EndsRound$Tape" "signs" "[C" ∈ BIG := rb_3 _ (List.mem_of_getElem? (i := 13) rfl)
theorem wm_3_14 : Cond.fieldLink RX10 15 "EndsRound$Tape" "keys" "[I" ∈ BIG := rb_3 _ (List.mem_of_getElem? (i := 14) rfl)
theorem wm_3_15 : Cond.fieldLink RX10 19 "EndsRound$Tape" "starts" "[I" ∈ BIG := rb_3 _ (List.mem_of_getElem? (i := 15) rfl)
theorem wm_3_16 : Cond.fieldLink RX10 22 "EndsRound$Tape" "values" "[J" ∈ BIG := rb_3 _ (List.mem_of_getElem? (i := 16) rfl)
theorem wm_3_17 : Cond.fieldLink RX10 26 "EndsRound$Tape" "words" "[J" ∈ BIG := rb_3 _ (List.mem_of_getElem? (i := 17) rfl)
theorem wm_3_18 : Cond.methodLink RX10 31 yJ0_length_8abf5 ∈ BIG := rb_3 _ (List.mem_of_getElem? (i := 18) rfl)
theorem wm_3_19 : Cond.instanceMethod yJ0_length_8abf5 ∈ BIG := rb_3 _ (List.mem_of_getElem? (i := 19) rfl)
theorem wm_3_20 : Cond.selects RJ0 yJ0_length_8abf5 yJ0_length_8abf5 ∈ BIG := rb_3 _ (List.mem_of_getElem? (i := 20) rfl)
theorem wm_3_21 : Cond.initialized RJ0 ∈ BIG := rb_3 _ (List.mem_of_getElem? (i := 21) rfl)
theorem wm_3_22 : Cond.code yJ0_length_8abf5 cJ0_length_8abf5 1 (some .int) ∈ BIG := rb_3 _ (List.mem_of_getElem? (i := 22) rfl)
theorem wm_3_23 : Cond.fieldLink RJ0 9 "java/lang/String" "value" "[B" ∈ BIG := rb_3 _ (List.mem_of_getElem? (i := 23) rfl)
theorem wm_4_0 : Cond.methodLink RJ0 335 yJ0_coder_7d493 ∈ BIG := rb_4 _ (List.mem_of_getElem? (i := 0) rfl)
theorem wm_4_1 : Cond.instanceMethod yJ0_coder_7d493 ∈ BIG := rb_4 _ (List.mem_of_getElem? (i := 1) rfl)
theorem wm_4_2 : Cond.selects RJ0 yJ0_coder_7d493 yJ0_coder_7d493 ∈ BIG := rb_4 _ (List.mem_of_getElem? (i := 2) rfl)
theorem wm_4_3 : Cond.code yJ0_coder_7d493 cJ0_coder_7d493 1 (some .byte) ∈ BIG := rb_4 _ (List.mem_of_getElem? (i := 3) rfl)
theorem wm_4_4 : Cond.fieldLink RJ0 38 "java/lang/String" "COMPACT_STRINGS" "Z" ∈ BIG := rb_4 _ (List.mem_of_getElem? (i := 4) rfl)
theorem wm_4_5 : Cond.fieldLink RJ0 15 "java/lang/String" "coder" "B" ∈ BIG := rb_4 _ (List.mem_of_getElem? (i := 5) rfl)
theorem wm_4_6 : Cond.methodLink RX10 37 yJ0_charAt_5068e ∈ BIG := rb_4 _ (List.mem_of_getElem? (i := 6) rfl)
theorem wm_4_7 : Cond.instanceMethod yJ0_charAt_5068e ∈ BIG := rb_4 _ (List.mem_of_getElem? (i := 7) rfl)
theorem wm_4_8 : Cond.selects RJ0 yJ0_charAt_5068e yJ0_charAt_5068e ∈ BIG := rb_4 _ (List.mem_of_getElem? (i := 8) rfl)
theorem wm_4_9 : Cond.code yJ0_charAt_5068e cJ0_charAt_5068e 2 (some .char) ∈ BIG := rb_4 _ (List.mem_of_getElem? (i := 9) rfl)
theorem wm_4_10 : Cond.methodLink RJ0 492 yJ0_isLatin1_aae02 ∈ BIG := rb_4 _ (List.mem_of_getElem? (i := 10) rfl)
theorem wm_4_11 : Cond.instanceMethod yJ0_isLatin1_aae02 ∈ BIG := rb_4 _ (List.mem_of_getElem? (i := 11) rfl)
theorem wm_4_12 : Cond.selects RJ0 yJ0_isLatin1_aae02 yJ0_isLatin1_aae02 ∈ BIG := rb_4 _ (List.mem_of_getElem? (i := 12) rfl)
theorem wm_4_13 : Cond.code yJ0_isLatin1_aae02 cJ0_isLatin1_aae02 1 (some .boolean) ∈ BIG := rb_4 _ (List.mem_of_getElem? (i := 13) rfl)
theorem wm_4_14 : Cond.methodLink RJ0 495 yJ1_charAt_3b067 ∈ BIG := rb_4 _ (List.mem_of_getElem? (i := 14) rfl)
theorem wm_4_15 : Cond.static yJ1_charAt_3b067 ∈ BIG := rb_4 _ (List.mem_of_getElem? (i := 15) rfl)
theorem wm_4_16 : Cond.initialized RJ1 ∈ BIG := rb_4 _ (List.mem_of_getElem? (i := 16) rfl)
theorem wm_4_17 : Cond.code yJ1_charAt_3b067 cJ1_charAt_3b067 2 (some .char) ∈ BIG := rb_4 _ (List.mem_of_getElem? (i := 17) rfl)
theorem wm_4_18 : Cond.methodLink RJ1 9 yJ0_checkIndex_df160 ∈ BIG := rb_4 _ (List.mem_of_getElem? (i := 18) rfl)
theorem wm_4_19 : Cond.static yJ0_checkIndex_df160 ∈ BIG := rb_4 _ (List.mem_of_getElem? (i := 19) rfl)
theorem wm_4_20 : Cond.code yJ0_checkIndex_df160 cJ0_checkIndex_df160 2 none ∈ BIG := rb_4 _ (List.mem_of_getElem? (i := 20) rfl)
theorem wm_4_21 : Cond.fieldLink RJ0 1053 "jdk/internal/util/Preconditions" "SIOOBE_FORMATTER" "Ljava/util/function/BiFunction;" ∈ BIG := rb_4 _ (List.mem_of_getElem? (i := 21) rfl)
theorem wm_4_22 : Cond.methodLink RJ0 1059 yJ3_checkIndex_8e157 ∈ BIG := rb_4 _ (List.mem_of_getElem? (i := 22) rfl)
theorem wm_4_23 : Cond.static yJ3_checkIndex_8e157 ∈ BIG := rb_4 _ (List.mem_of_getElem? (i := 23) rfl)
theorem wm_5_0 : Cond.initialized RJ3 ∈ BIG := rb_5 _ (List.mem_of_getElem? (i := 0) rfl)
theorem wm_5_1 : Cond.code yJ3_checkIndex_8e157 cJ3_checkIndex_8e157 3 (some .int) ∈ BIG := rb_5 _ (List.mem_of_getElem? (i := 1) rfl)
theorem wm_5_2 : Cond.methodLink RJ0 498 yJ2_charAt_3b067 ∈ BIG := rb_5 _ (List.mem_of_getElem? (i := 2) rfl)
theorem wm_5_3 : Cond.static yJ2_charAt_3b067 ∈ BIG := rb_5 _ (List.mem_of_getElem? (i := 3) rfl)
theorem wm_5_4 : Cond.initialized RJ2 ∈ BIG := rb_5 _ (List.mem_of_getElem? (i := 4) rfl)
theorem wm_5_5 : Cond.code yJ2_charAt_3b067 cJ2_charAt_3b067 2 (some .char) ∈ BIG := rb_5 _ (List.mem_of_getElem? (i := 5) rfl)
theorem wm_5_6 : Cond.methodLink RJ2 67 yJ2_checkIndex_2214a ∈ BIG := rb_5 _ (List.mem_of_getElem? (i := 6) rfl)
theorem wm_5_7 : Cond.static yJ2_checkIndex_2214a ∈ BIG := rb_5 _ (List.mem_of_getElem? (i := 7) rfl)
theorem wm_5_8 : Cond.code yJ2_checkIndex_2214a cJ2_checkIndex_2214a 2 none ∈ BIG := rb_5 _ (List.mem_of_getElem? (i := 8) rfl)
theorem wm_5_9 : Cond.methodLink RJ2 48 yJ2_length_9d52b ∈ BIG := rb_5 _ (List.mem_of_getElem? (i := 9) rfl)
theorem wm_5_10 : Cond.static yJ2_length_9d52b ∈ BIG := rb_5 _ (List.mem_of_getElem? (i := 10) rfl)
theorem wm_5_11 : Cond.code yJ2_length_9d52b cJ2_length_9d52b 1 (some .int) ∈ BIG := rb_5 _ (List.mem_of_getElem? (i := 11) rfl)
theorem wm_5_12 : Cond.methodLink RJ2 414 yJ0_checkIndex_df160 ∈ BIG := rb_5 _ (List.mem_of_getElem? (i := 12) rfl)
theorem wm_5_13 : Cond.methodLink RJ2 71 yJ2_getChar_3b067 ∈ BIG := rb_5 _ (List.mem_of_getElem? (i := 13) rfl)
theorem wm_5_14 : Cond.static yJ2_getChar_3b067 ∈ BIG := rb_5 _ (List.mem_of_getElem? (i := 14) rfl)
theorem wm_5_15 : Cond.code yJ2_getChar_3b067 cJ2_getChar_3b067 2 (some .char) ∈ BIG := rb_5 _ (List.mem_of_getElem? (i := 15) rfl)
theorem wm_5_16 : Cond.fieldLink RJ2 44 "java/lang/StringUTF16" "$assertionsDisabled" "Z" ∈ BIG := rb_5 _ (List.mem_of_getElem? (i := 16) rfl)
theorem wm_5_17 : Cond.fieldLink RJ2 59 "java/lang/StringUTF16" "HI_BYTE_SHIFT" "I" ∈ BIG := rb_5 _ (List.mem_of_getElem? (i := 17) rfl)
theorem wm_5_18 : Cond.fieldLink RJ2 63 "java/lang/StringUTF16" "LO_BYTE_SHIFT" "I" ∈ BIG := rb_5 _ (List.mem_of_getElem? (i := 18) rfl)
theorem wm_5_19 : Cond.methodLink RX10 41 yX10_isLetter ∈ BIG := rb_5 _ (List.mem_of_getElem? (i := 19) rfl)
theorem wm_5_20 : Cond.static yX10_isLetter ∈ BIG := rb_5 _ (List.mem_of_getElem? (i := 20) rfl)
theorem wm_5_21 : Cond.code yX10_isLetter cX10_isLetter 1 (some .boolean) ∈ BIG := rb_5 _ (List.mem_of_getElem? (i := 21) rfl)
theorem wm_5_22 : Cond.methodLink RX10 45 yX10_withLetter ∈ BIG := rb_5 _ (List.mem_of_getElem? (i := 22) rfl)
theorem wm_5_23 : Cond.static yX10_withLetter ∈ BIG := rb_5 _ (List.mem_of_getElem? (i := 23) rfl)
theorem wm_6_0 : Cond.code yX10_withLetter cX10_withLetter 3 (some .long) ∈ BIG := rb_6 _ (List.mem_of_getElem? (i := 0) rfl)
theorem wm_6_1 : Cond.methodLink RX11 18 yX8_init ∈ BIG := rb_6 _ (List.mem_of_getElem? (i := 1) rfl)
theorem wm_6_2 : Cond.instanceMethod yX8_init ∈ BIG := rb_6 _ (List.mem_of_getElem? (i := 2) rfl)
theorem wm_6_3 : Cond.code yX8_init cX8_init 2 none ∈ BIG := rb_6 _ (List.mem_of_getElem? (i := 3) rfl)
theorem wm_6_4 : Cond.methodLink RX8 3 objectInit ∈ BIG := rb_6 _ (List.mem_of_getElem? (i := 4) rfl)
theorem wm_6_5 : Cond.classLink RX8 9 RX0 ∈ BIG := rb_6 _ (List.mem_of_getElem? (i := 5) rfl)
theorem wm_6_6 : Cond.instantiable RX0 4 ∈ BIG := rb_6 _ (List.mem_of_getElem? (i := 6) rfl)
theorem wm_6_7 : Cond.initialized RX0 ∈ BIG := rb_6 _ (List.mem_of_getElem? (i := 7) rfl)
theorem wm_6_8 : Cond.fieldLink RX8 12 "EndsRound$Parser" "bars" "LEndsRound$Bars;" ∈ BIG := rb_6 _ (List.mem_of_getElem? (i := 8) rfl)
theorem wm_6_9 : Cond.classLink RX8 18 RX4 ∈ BIG := rb_6 _ (List.mem_of_getElem? (i := 9) rfl)
theorem wm_6_10 : Cond.fieldLink RX8 21 "EndsRound$Parser" "told" "LEndsRound$Form;" ∈ BIG := rb_6 _ (List.mem_of_getElem? (i := 10) rfl)
theorem wm_6_11 : Cond.fieldLink RX8 25 "EndsRound$Parser" "names" "[J" ∈ BIG := rb_6 _ (List.mem_of_getElem? (i := 11) rfl)
theorem wm_6_12 : Cond.fieldLink RX8 29 "EndsRound$Parser" "tape" "LEndsRound$Tape;" ∈ BIG := rb_6 _ (List.mem_of_getElem? (i := 12) rfl)
theorem wm_6_13 : Cond.instanceMethod yX0_init ∈ BIG := rb_6 _ (List.mem_of_getElem? (i := 13) rfl)
theorem wm_6_14 : Cond.code yX0_init cX0_init 1 none ∈ BIG := rb_6 _ (List.mem_of_getElem? (i := 14) rfl)
theorem wm_6_15 : Cond.methodLink RX0 3 objectInit ∈ BIG := rb_6 _ (List.mem_of_getElem? (i := 15) rfl)
theorem wm_6_16 : Cond.fieldLink RX0 9 "EndsRound$Bars" "code" "[I" ∈ BIG := rb_6 _ (List.mem_of_getElem? (i := 16) rfl)
theorem wm_6_17 : Cond.fieldLink RX0 15 "EndsRound$Bars" "stack" "[I" ∈ BIG := rb_6 _ (List.mem_of_getElem? (i := 17) rfl)
theorem wm_6_18 : Cond.instanceMethod yX4_init ∈ BIG := rb_6 _ (List.mem_of_getElem? (i := 18) rfl)
theorem wm_6_19 : Cond.code yX4_init cX4_init 1 none ∈ BIG := rb_6 _ (List.mem_of_getElem? (i := 19) rfl)
theorem wm_6_20 : Cond.methodLink RX4 3 objectInit ∈ BIG := rb_6 _ (List.mem_of_getElem? (i := 20) rfl)
theorem wm_6_21 : Cond.fieldLink RX4 9 "EndsRound$Form" "from" "[I" ∈ BIG := rb_6 _ (List.mem_of_getElem? (i := 21) rfl)
theorem wm_6_22 : Cond.fieldLink RX4 15 "EndsRound$Form" "rhymesWith" "[I" ∈ BIG := rb_6 _ (List.mem_of_getElem? (i := 22) rfl)
theorem wm_6_23 : Cond.fieldLink RX4 18 "EndsRound$Form" "every" "[I" ∈ BIG := rb_6 _ (List.mem_of_getElem? (i := 23) rfl)
theorem wm_7_0 : Cond.fieldLink RX4 21 "EndsRound$Form" "wordRhyme" "[I" ∈ BIG := rb_7 _ (List.mem_of_getElem? (i := 0) rfl)
theorem wm_7_1 : Cond.fieldLink RX4 24 "EndsRound$Form" "wordBeats" "[I" ∈ BIG := rb_7 _ (List.mem_of_getElem? (i := 1) rfl)
theorem wm_7_2 : Cond.fieldLink RX4 27 "EndsRound$Form" "wordKind" "[I" ∈ BIG := rb_7 _ (List.mem_of_getElem? (i := 2) rfl)
theorem wm_7_3 : Cond.fieldLink RX4 30 "EndsRound$Form" "barredBehind" "[I" ∈ BIG := rb_7 _ (List.mem_of_getElem? (i := 3) rfl)
theorem wm_7_4 : Cond.fieldLink RX4 33 "EndsRound$Form" "spare" "[I" ∈ BIG := rb_7 _ (List.mem_of_getElem? (i := 4) rfl)
theorem wm_7_5 : Cond.instanceMethod yX2_init ∈ BIG := rb_7 _ (List.mem_of_getElem? (i := 5) rfl)
theorem wm_7_6 : Cond.code yX2_init cX2_init 1 none ∈ BIG := rb_7 _ (List.mem_of_getElem? (i := 6) rfl)
theorem wm_7_7 : Cond.methodLink RX2 3 objectInit ∈ BIG := rb_7 _ (List.mem_of_getElem? (i := 7) rfl)
theorem wm_7_8 : Cond.fieldLink RX2 9 "EndsRound$Draft" "words" "[I" ∈ BIG := rb_7 _ (List.mem_of_getElem? (i := 8) rfl)
theorem wm_7_9 : Cond.fieldLink RX2 15 "EndsRound$Draft" "texts" "[I" ∈ BIG := rb_7 _ (List.mem_of_getElem? (i := 9) rfl)
theorem wm_7_10 : Cond.fieldLink RX2 18 "EndsRound$Draft" "beats" "[I" ∈ BIG := rb_7 _ (List.mem_of_getElem? (i := 10) rfl)
theorem wm_7_11 : Cond.instanceMethod yX9_init ∈ BIG := rb_7 _ (List.mem_of_getElem? (i := 11) rfl)
theorem wm_7_12 : Cond.code yX9_init cX9_init 1 none ∈ BIG := rb_7 _ (List.mem_of_getElem? (i := 12) rfl)
theorem wm_7_13 : Cond.methodLink RX9 3 objectInit ∈ BIG := rb_7 _ (List.mem_of_getElem? (i := 13) rfl)
theorem wm_7_14 : Cond.classLink RX9 9 RX1 ∈ BIG := rb_7 _ (List.mem_of_getElem? (i := 14) rfl)
theorem wm_7_15 : Cond.fieldLink RX9 14 "EndsRound$Stanzas" "cycles" "LEndsRound$Cycles;" ∈ BIG := rb_7 _ (List.mem_of_getElem? (i := 15) rfl)
theorem wm_7_16 : Cond.fieldLink RX9 20 "EndsRound$Stanzas" "from" "[I" ∈ BIG := rb_7 _ (List.mem_of_getElem? (i := 16) rfl)
theorem wm_7_17 : Cond.fieldLink RX9 24 "EndsRound$Stanzas" "to" "[I" ∈ BIG := rb_7 _ (List.mem_of_getElem? (i := 17) rfl)
theorem wm_7_18 : Cond.fieldLink RX9 27 "EndsRound$Stanzas" "classes" "[I" ∈ BIG := rb_7 _ (List.mem_of_getElem? (i := 18) rfl)
theorem wm_7_19 : Cond.fieldLink RX9 30 "EndsRound$Stanzas" "ahead" "[I" ∈ BIG := rb_7 _ (List.mem_of_getElem? (i := 19) rfl)
theorem wm_7_20 : Cond.fieldLink RX9 33 "EndsRound$Stanzas" "row" "[I" ∈ BIG := rb_7 _ (List.mem_of_getElem? (i := 20) rfl)
theorem wm_7_21 : Cond.fieldLink RX9 36 "EndsRound$Stanzas" "spare" "[I" ∈ BIG := rb_7 _ (List.mem_of_getElem? (i := 21) rfl)
theorem wm_7_22 : Cond.methodLink RX9 11 yX1_init ∈ BIG := rb_7 _ (List.mem_of_getElem? (i := 22) rfl)
theorem wm_7_23 : Cond.instanceMethod yX1_init ∈ BIG := rb_7 _ (List.mem_of_getElem? (i := 23) rfl)
theorem wm_8_0 : Cond.code yX1_init cX1_init 2 none ∈ BIG := rb_8 _ (List.mem_of_getElem? (i := 0) rfl)
theorem wm_8_1 : Cond.methodLink RX1 1 objectInit ∈ BIG := rb_8 _ (List.mem_of_getElem? (i := 1) rfl)
theorem wm_8_2 : Cond.fieldLink RX1 7 "EndsRound$Cycles" "lengths" "[I" ∈ BIG := rb_8 _ (List.mem_of_getElem? (i := 2) rfl)
theorem wm_8_3 : Cond.methodLink RX11 48 yX3_init ∈ BIG := rb_8 _ (List.mem_of_getElem? (i := 3) rfl)
theorem wm_8_4 : Cond.instanceMethod yX3_init ∈ BIG := rb_8 _ (List.mem_of_getElem? (i := 4) rfl)
theorem wm_8_5 : Cond.code yX3_init cX3_init 3 none ∈ BIG := rb_8 _ (List.mem_of_getElem? (i := 5) rfl)
theorem wm_8_6 : Cond.methodLink RX3 3 objectInit ∈ BIG := rb_8 _ (List.mem_of_getElem? (i := 6) rfl)
theorem wm_8_7 : Cond.fieldLink RX3 9 "EndsRound$Filler" "first" "[I" ∈ BIG := rb_8 _ (List.mem_of_getElem? (i := 7) rfl)
theorem wm_8_8 : Cond.fieldLink RX3 15 "EndsRound$Filler" "allowed" "[I" ∈ BIG := rb_8 _ (List.mem_of_getElem? (i := 8) rfl)
theorem wm_8_9 : Cond.fieldLink RX3 18 "EndsRound$Filler" "relations" "[I" ∈ BIG := rb_8 _ (List.mem_of_getElem? (i := 9) rfl)
theorem wm_8_10 : Cond.fieldLink RX3 21 "EndsRound$Filler" "chosen" "[I" ∈ BIG := rb_8 _ (List.mem_of_getElem? (i := 10) rfl)
theorem wm_8_11 : Cond.fieldLink RX3 24 "EndsRound$Filler" "given" "[I" ∈ BIG := rb_8 _ (List.mem_of_getElem? (i := 11) rfl)
theorem wm_8_12 : Cond.fieldLink RX3 27 "EndsRound$Filler" "open" "[I" ∈ BIG := rb_8 _ (List.mem_of_getElem? (i := 12) rfl)
theorem wm_8_13 : Cond.fieldLink RX3 30 "EndsRound$Filler" "form" "LEndsRound$Form;" ∈ BIG := rb_8 _ (List.mem_of_getElem? (i := 13) rfl)
theorem wm_8_14 : Cond.fieldLink RX3 34 "EndsRound$Filler" "stanzas" "LEndsRound$Stanzas;" ∈ BIG := rb_8 _ (List.mem_of_getElem? (i := 14) rfl)
theorem wm_8_15 : Cond.methodLink RX11 57 yX6_init ∈ BIG := rb_8 _ (List.mem_of_getElem? (i := 15) rfl)
theorem wm_8_16 : Cond.instanceMethod yX6_init ∈ BIG := rb_8 _ (List.mem_of_getElem? (i := 16) rfl)
theorem wm_8_17 : Cond.code yX6_init cX6_init 4 none ∈ BIG := rb_8 _ (List.mem_of_getElem? (i := 17) rfl)
theorem wm_8_18 : Cond.methodLink RX6 3 objectInit ∈ BIG := rb_8 _ (List.mem_of_getElem? (i := 18) rfl)
theorem wm_8_19 : Cond.fieldLink RX6 9 "EndsRound$Mender" "given" "[I" ∈ BIG := rb_8 _ (List.mem_of_getElem? (i := 19) rfl)
theorem wm_8_20 : Cond.fieldLink RX6 15 "EndsRound$Mender" "changes" "[I" ∈ BIG := rb_8 _ (List.mem_of_getElem? (i := 20) rfl)
theorem wm_8_21 : Cond.fieldLink RX6 18 "EndsRound$Mender" "byRhyme" "[I" ∈ BIG := rb_8 _ (List.mem_of_getElem? (i := 21) rfl)
theorem wm_8_22 : Cond.fieldLink RX6 21 "EndsRound$Mender" "unbroken" "[I" ∈ BIG := rb_8 _ (List.mem_of_getElem? (i := 22) rfl)
theorem wm_8_23 : Cond.fieldLink RX6 24 "EndsRound$Mender" "least" "[I" ∈ BIG := rb_8 _ (List.mem_of_getElem? (i := 23) rfl)
theorem wm_9_0 : Cond.fieldLink RX6 27 "EndsRound$Mender" "form" "LEndsRound$Form;" ∈ BIG := rb_9 _ (List.mem_of_getElem? (i := 0) rfl)
theorem wm_9_1 : Cond.fieldLink RX6 31 "EndsRound$Mender" "stanzas" "LEndsRound$Stanzas;" ∈ BIG := rb_9 _ (List.mem_of_getElem? (i := 1) rfl)
theorem wm_9_2 : Cond.fieldLink RX6 35 "EndsRound$Mender" "draft" "LEndsRound$Draft;" ∈ BIG := rb_9 _ (List.mem_of_getElem? (i := 2) rfl)
theorem wm_9_3 : Cond.methodLink RX11 66 yX7_init ∈ BIG := rb_9 _ (List.mem_of_getElem? (i := 3) rfl)
theorem wm_9_4 : Cond.instanceMethod yX7_init ∈ BIG := rb_9 _ (List.mem_of_getElem? (i := 4) rfl)
theorem wm_9_5 : Cond.code yX7_init cX7_init 2 none ∈ BIG := rb_9 _ (List.mem_of_getElem? (i := 5) rfl)
theorem wm_9_6 : Cond.methodLink RX7 3 objectInit ∈ BIG := rb_9 _ (List.mem_of_getElem? (i := 6) rfl)
theorem wm_9_7 : Cond.fieldLink RX7 9 "EndsRound$Namer" "names" "[I" ∈ BIG := rb_9 _ (List.mem_of_getElem? (i := 7) rfl)
theorem wm_9_8 : Cond.fieldLink RX7 15 "EndsRound$Namer" "hereTints" "[I" ∈ BIG := rb_9 _ (List.mem_of_getElem? (i := 8) rfl)
theorem wm_9_9 : Cond.fieldLink RX7 18 "EndsRound$Namer" "thereTints" "[I" ∈ BIG := rb_9 _ (List.mem_of_getElem? (i := 9) rfl)
theorem wm_9_10 : Cond.fieldLink RX7 21 "EndsRound$Namer" "spare" "[I" ∈ BIG := rb_9 _ (List.mem_of_getElem? (i := 10) rfl)
theorem wm_9_11 : Cond.classLink RX7 24 RX1 ∈ BIG := rb_9 _ (List.mem_of_getElem? (i := 11) rfl)
theorem wm_9_12 : Cond.fieldLink RX7 29 "EndsRound$Namer" "cycles" "LEndsRound$Cycles;" ∈ BIG := rb_9 _ (List.mem_of_getElem? (i := 12) rfl)
theorem wm_9_13 : Cond.fieldLink RX7 33 "EndsRound$Namer" "here" "LEndsRound$Form;" ∈ BIG := rb_9 _ (List.mem_of_getElem? (i := 13) rfl)
theorem wm_9_14 : Cond.fieldLink RX7 37 "EndsRound$Namer" "there" "LEndsRound$Form;" ∈ BIG := rb_9 _ (List.mem_of_getElem? (i := 14) rfl)
theorem wm_9_15 : Cond.methodLink RX7 26 yX1_init ∈ BIG := rb_9 _ (List.mem_of_getElem? (i := 15) rfl)
theorem wm_9_16 : Cond.instanceMethod yX5_init ∈ BIG := rb_9 _ (List.mem_of_getElem? (i := 16) rfl)
theorem wm_9_17 : Cond.code yX5_init cX5_init 1 none ∈ BIG := rb_9 _ (List.mem_of_getElem? (i := 17) rfl)
theorem wm_9_18 : Cond.methodLink RX5 1 objectInit ∈ BIG := rb_9 _ (List.mem_of_getElem? (i := 18) rfl)
theorem wm_9_19 : Cond.classLink RX5 7 RX4 ∈ BIG := rb_9 _ (List.mem_of_getElem? (i := 19) rfl)
theorem wm_9_20 : Cond.fieldLink RX5 10 "EndsRound$Mark" "form" "LEndsRound$Form;" ∈ BIG := rb_9 _ (List.mem_of_getElem? (i := 20) rfl)
theorem wm_9_21 : Cond.classLink RX5 16 RX2 ∈ BIG := rb_9 _ (List.mem_of_getElem? (i := 21) rfl)
theorem wm_9_22 : Cond.fieldLink RX5 19 "EndsRound$Mark" "draft" "LEndsRound$Draft;" ∈ BIG := rb_9 _ (List.mem_of_getElem? (i := 22) rfl)
theorem wm_9_23 : Cond.methodLink RX11 82 yX1_init ∈ BIG := rb_9 _ (List.mem_of_getElem? (i := 23) rfl)
theorem wm_10_0 : Cond.methodLink RX11 93 yX4_begin ∈ BIG := rb_10 _ (List.mem_of_getElem? (i := 0) rfl)
theorem wm_10_1 : Cond.instanceMethod yX4_begin ∈ BIG := rb_10 _ (List.mem_of_getElem? (i := 1) rfl)
theorem wm_10_2 : Cond.selects RX4 yX4_begin yX4_begin ∈ BIG := rb_10 _ (List.mem_of_getElem? (i := 2) rfl)
theorem wm_10_3 : Cond.code yX4_begin cX4_begin 3 none ∈ BIG := rb_10 _ (List.mem_of_getElem? (i := 3) rfl)
theorem wm_10_4 : Cond.fieldLink RX4 36 "EndsRound$Form" "ends" "I" ∈ BIG := rb_10 _ (List.mem_of_getElem? (i := 4) rfl)
theorem wm_10_5 : Cond.fieldLink RX4 40 "EndsRound$Form" "steps" "I" ∈ BIG := rb_10 _ (List.mem_of_getElem? (i := 5) rfl)
theorem wm_10_6 : Cond.fieldLink RX4 43 "EndsRound$Form" "rhymeLines" "I" ∈ BIG := rb_10 _ (List.mem_of_getElem? (i := 6) rfl)
theorem wm_10_7 : Cond.fieldLink RX4 46 "EndsRound$Form" "wholeLines" "I" ∈ BIG := rb_10 _ (List.mem_of_getElem? (i := 7) rfl)
theorem wm_10_8 : Cond.fieldLink RX4 49 "EndsRound$Form" "feet" "I" ∈ BIG := rb_10 _ (List.mem_of_getElem? (i := 8) rfl)
theorem wm_10_9 : Cond.fieldLink RX4 52 "EndsRound$Form" "words" "I" ∈ BIG := rb_10 _ (List.mem_of_getElem? (i := 9) rfl)
theorem wm_10_10 : Cond.fieldLink RX4 55 "EndsRound$Form" "bars" "I" ∈ BIG := rb_10 _ (List.mem_of_getElem? (i := 10) rfl)
theorem wm_10_11 : Cond.static yX11_put ∈ BIG := rb_10 _ (List.mem_of_getElem? (i := 11) rfl)
theorem wm_10_12 : Cond.code yX11_put cX11_put 3 none ∈ BIG := rb_10 _ (List.mem_of_getElem? (i := 12) rfl)
theorem wm_10_13 : Cond.static yX11_blank ∈ BIG := rb_10 _ (List.mem_of_getElem? (i := 13) rfl)
theorem wm_10_14 : Cond.code yX11_blank cX11_blank 3 none ∈ BIG := rb_10 _ (List.mem_of_getElem? (i := 14) rfl)
theorem wm_10_15 : Cond.methodLink RX11 96 yX9_follow ∈ BIG := rb_10 _ (List.mem_of_getElem? (i := 15) rfl)
theorem wm_10_16 : Cond.instanceMethod yX9_follow ∈ BIG := rb_10 _ (List.mem_of_getElem? (i := 16) rfl)
theorem wm_10_17 : Cond.selects RX9 yX9_follow yX9_follow ∈ BIG := rb_10 _ (List.mem_of_getElem? (i := 17) rfl)
theorem wm_10_18 : Cond.code yX9_follow cX9_follow 4 none ∈ BIG := rb_10 _ (List.mem_of_getElem? (i := 18) rfl)
theorem wm_10_19 : Cond.fieldLink RX9 45 "EndsRound$Stanzas" "ends" "I" ∈ BIG := rb_10 _ (List.mem_of_getElem? (i := 19) rfl)
theorem wm_10_20 : Cond.static yX11_copyRow ∈ BIG := rb_10 _ (List.mem_of_getElem? (i := 20) rfl)
theorem wm_10_21 : Cond.code yX11_copyRow cX11_copyRow 3 none ∈ BIG := rb_10 _ (List.mem_of_getElem? (i := 21) rfl)
theorem wm_10_22 : Cond.static yX11_cell ∈ BIG := rb_10 _ (List.mem_of_getElem? (i := 22) rfl)
theorem wm_10_23 : Cond.code yX11_cell cX11_cell 2 (some .int) ∈ BIG := rb_10 _ (List.mem_of_getElem? (i := 23) rfl)
theorem wm_11_0 : Cond.methodLink RX9 59 yX1_follow ∈ BIG := rb_11 _ (List.mem_of_getElem? (i := 0) rfl)
theorem wm_11_1 : Cond.instanceMethod yX1_follow ∈ BIG := rb_11 _ (List.mem_of_getElem? (i := 1) rfl)
theorem wm_11_2 : Cond.selects RX1 yX1_follow yX1_follow ∈ BIG := rb_11 _ (List.mem_of_getElem? (i := 2) rfl)
theorem wm_11_3 : Cond.code yX1_follow cX1_follow 4 none ∈ BIG := rb_11 _ (List.mem_of_getElem? (i := 3) rfl)
theorem wm_11_4 : Cond.fieldLink RX1 13 "EndsRound$Cycles" "size" "I" ∈ BIG := rb_11 _ (List.mem_of_getElem? (i := 4) rfl)
theorem wm_11_5 : Cond.fieldLink RX1 17 "EndsRound$Cycles" "number" "I" ∈ BIG := rb_11 _ (List.mem_of_getElem? (i := 5) rfl)
theorem wm_11_6 : Cond.fieldLink RX1 20 "EndsRound$Cycles" "longest" "I" ∈ BIG := rb_11 _ (List.mem_of_getElem? (i := 6) rfl)
theorem wm_11_7 : Cond.fieldLink RX1 23 "EndsRound$Cycles" "staying" "I" ∈ BIG := rb_11 _ (List.mem_of_getElem? (i := 7) rfl)
theorem wm_11_8 : Cond.fieldLink RX1 26 "EndsRound$Cycles" "period" "J" ∈ BIG := rb_11 _ (List.mem_of_getElem? (i := 8) rfl)
theorem wm_11_9 : Cond.methodLink RX1 40 yX1_addCycle ∈ BIG := rb_11 _ (List.mem_of_getElem? (i := 9) rfl)
theorem wm_11_10 : Cond.instanceMethod yX1_addCycle ∈ BIG := rb_11 _ (List.mem_of_getElem? (i := 10) rfl)
theorem wm_11_11 : Cond.selects RX1 yX1_addCycle yX1_addCycle ∈ BIG := rb_11 _ (List.mem_of_getElem? (i := 11) rfl)
theorem wm_11_12 : Cond.code yX1_addCycle cX1_addCycle 6 none ∈ BIG := rb_11 _ (List.mem_of_getElem? (i := 12) rfl)
theorem wm_11_13 : Cond.methodLink RX1 47 Lib.Math.max.name ∈ BIG := rb_11 _ (List.mem_of_getElem? (i := 13) rfl)
theorem wm_11_14 : Cond.static Lib.Math.max.name ∈ BIG := rb_11 _ (List.mem_of_getElem? (i := 14) rfl)
theorem wm_11_15 : Cond.initialized "java/lang/Math" ∈ BIG := rb_11 _ (List.mem_of_getElem? (i := 15) rfl)
theorem wm_11_16 : Cond.code Lib.Math.max.name Lib.Math.max.code 2 (some .int) ∈ BIG := rb_11 _ (List.mem_of_getElem? (i := 16) rfl)
theorem wm_11_17 : Cond.methodLink RX1 53 yX1_leastMultiple ∈ BIG := rb_11 _ (List.mem_of_getElem? (i := 17) rfl)
theorem wm_11_18 : Cond.static yX1_leastMultiple ∈ BIG := rb_11 _ (List.mem_of_getElem? (i := 18) rfl)
theorem wm_11_19 : Cond.code yX1_leastMultiple cX1_leastMultiple 11 (some .long) ∈ BIG := rb_11 _ (List.mem_of_getElem? (i := 19) rfl)
theorem wm_11_20 : Cond.methodLink RX9 70 yX9_addNeighbours ∈ BIG := rb_11 _ (List.mem_of_getElem? (i := 20) rfl)
theorem wm_11_21 : Cond.instanceMethod yX9_addNeighbours ∈ BIG := rb_11 _ (List.mem_of_getElem? (i := 21) rfl)
theorem wm_11_22 : Cond.selects RX9 yX9_addNeighbours yX9_addNeighbours ∈ BIG := rb_11 _ (List.mem_of_getElem? (i := 22) rfl)
theorem wm_11_23 : Cond.code yX9_addNeighbours cX9_addNeighbours 3 none ∈ BIG := rb_11 _ (List.mem_of_getElem? (i := 23) rfl)
theorem wm_12_0 : Cond.methodLink RX9 73 yX9_addRhymes ∈ BIG := rb_12 _ (List.mem_of_getElem? (i := 0) rfl)
theorem wm_12_1 : Cond.instanceMethod yX9_addRhymes ∈ BIG := rb_12 _ (List.mem_of_getElem? (i := 1) rfl)
theorem wm_12_2 : Cond.selects RX9 yX9_addRhymes yX9_addRhymes ∈ BIG := rb_12 _ (List.mem_of_getElem? (i := 2) rfl)
theorem wm_12_3 : Cond.code yX9_addRhymes cX9_addRhymes 5 none ∈ BIG := rb_12 _ (List.mem_of_getElem? (i := 3) rfl)
theorem wm_12_4 : Cond.methodLink RX9 83 yX9_joinClasses ∈ BIG := rb_12 _ (List.mem_of_getElem? (i := 4) rfl)
theorem wm_12_5 : Cond.instanceMethod yX9_joinClasses ∈ BIG := rb_12 _ (List.mem_of_getElem? (i := 5) rfl)
theorem wm_12_6 : Cond.selects RX9 yX9_joinClasses yX9_joinClasses ∈ BIG := rb_12 _ (List.mem_of_getElem? (i := 6) rfl)
theorem wm_12_7 : Cond.code yX9_joinClasses cX9_joinClasses 6 none ∈ BIG := rb_12 _ (List.mem_of_getElem? (i := 7) rfl)
theorem wm_12_8 : Cond.methodLink RX9 87 Lib.Math.min.name ∈ BIG := rb_12 _ (List.mem_of_getElem? (i := 8) rfl)
theorem wm_12_9 : Cond.static Lib.Math.min.name ∈ BIG := rb_12 _ (List.mem_of_getElem? (i := 9) rfl)
theorem wm_12_10 : Cond.code Lib.Math.min.name Lib.Math.min.code 2 (some .int) ∈ BIG := rb_12 _ (List.mem_of_getElem? (i := 10) rfl)
theorem wm_12_11 : Cond.methodLink RX9 93 Lib.Math.max.name ∈ BIG := rb_12 _ (List.mem_of_getElem? (i := 11) rfl)
theorem wm_12_12 : Cond.methodLink RX9 77 yX9_turnRow ∈ BIG := rb_12 _ (List.mem_of_getElem? (i := 12) rfl)
theorem wm_12_13 : Cond.instanceMethod yX9_turnRow ∈ BIG := rb_12 _ (List.mem_of_getElem? (i := 13) rfl)
theorem wm_12_14 : Cond.selects RX9 yX9_turnRow yX9_turnRow ∈ BIG := rb_12 _ (List.mem_of_getElem? (i := 14) rfl)
theorem wm_12_15 : Cond.code yX9_turnRow cX9_turnRow 2 none ∈ BIG := rb_12 _ (List.mem_of_getElem? (i := 15) rfl)
theorem wm_12_16 : Cond.methodLink RL 18 yX12_init ∈ BIG := rb_12 _ (List.mem_of_getElem? (i := 16) rfl)
theorem wm_12_17 : Cond.instanceMethod yX12_init ∈ BIG := rb_12 _ (List.mem_of_getElem? (i := 17) rfl)
theorem wm_12_18 : Cond.code yX12_init cX12_init 1 none ∈ BIG := rb_12 _ (List.mem_of_getElem? (i := 18) rfl)
theorem wm_12_19 : Cond.methodLink RX12 1 objectInit ∈ BIG := rb_12 _ (List.mem_of_getElem? (i := 19) rfl)
theorem wm_12_20 : Cond.fieldLink RX12 7 "EndsRoundModel" "tape" "[I" ∈ BIG := rb_12 _ (List.mem_of_getElem? (i := 20) rfl)
theorem wm_12_21 : Cond.fieldLink RX12 13 "EndsRoundModel" "from" "[I" ∈ BIG := rb_12 _ (List.mem_of_getElem? (i := 21) rfl)
theorem wm_12_22 : Cond.fieldLink RX12 16 "EndsRoundModel" "pairA" "[I" ∈ BIG := rb_12 _ (List.mem_of_getElem? (i := 22) rfl)
theorem wm_12_23 : Cond.fieldLink RX12 19 "EndsRoundModel" "pairB" "[I" ∈ BIG := rb_12 _ (List.mem_of_getElem? (i := 23) rfl)
theorem wm_13_0 : Cond.fieldLink RX12 22 "EndsRoundModel" "every" "[I" ∈ BIG := rb_13 _ (List.mem_of_getElem? (i := 0) rfl)
theorem wm_13_1 : Cond.fieldLink RX12 25 "EndsRoundModel" "wordRhyme" "[I" ∈ BIG := rb_13 _ (List.mem_of_getElem? (i := 1) rfl)
theorem wm_13_2 : Cond.fieldLink RX12 28 "EndsRoundModel" "wordBeats" "[I" ∈ BIG := rb_13 _ (List.mem_of_getElem? (i := 2) rfl)
theorem wm_13_3 : Cond.fieldLink RX12 31 "EndsRoundModel" "wordKind" "[I" ∈ BIG := rb_13 _ (List.mem_of_getElem? (i := 3) rfl)
theorem wm_13_4 : Cond.arrayClass .boolean ∈ BIG := rb_13 _ (List.mem_of_getElem? (i := 4) rfl)
theorem wm_13_5 : Cond.fieldLink RX12 34 "EndsRoundModel" "isBarred" "[Z" ∈ BIG := rb_13 _ (List.mem_of_getElem? (i := 5) rfl)
theorem wm_13_6 : Cond.fieldLink RX12 38 "EndsRoundModel" "newFrom" "[I" ∈ BIG := rb_13 _ (List.mem_of_getElem? (i := 6) rfl)
theorem wm_13_7 : Cond.fieldLink RX12 41 "EndsRoundModel" "newA" "[I" ∈ BIG := rb_13 _ (List.mem_of_getElem? (i := 7) rfl)
theorem wm_13_8 : Cond.fieldLink RX12 44 "EndsRoundModel" "newB" "[I" ∈ BIG := rb_13 _ (List.mem_of_getElem? (i := 8) rfl)
theorem wm_13_9 : Cond.fieldLink RX12 47 "EndsRoundModel" "newEvery" "[I" ∈ BIG := rb_13 _ (List.mem_of_getElem? (i := 9) rfl)
theorem wm_13_10 : Cond.fieldLink RX12 50 "EndsRoundModel" "newName" "[J" ∈ BIG := rb_13 _ (List.mem_of_getElem? (i := 10) rfl)
theorem wm_13_11 : Cond.fieldLink RX12 54 "EndsRoundModel" "newRhyme" "[I" ∈ BIG := rb_13 _ (List.mem_of_getElem? (i := 11) rfl)
theorem wm_13_12 : Cond.fieldLink RX12 57 "EndsRoundModel" "newBeats" "[I" ∈ BIG := rb_13 _ (List.mem_of_getElem? (i := 12) rfl)
theorem wm_13_13 : Cond.fieldLink RX12 60 "EndsRoundModel" "newKind" "[I" ∈ BIG := rb_13 _ (List.mem_of_getElem? (i := 13) rfl)
theorem wm_13_14 : Cond.fieldLink RX12 63 "EndsRoundModel" "lineFrom" "[I" ∈ BIG := rb_13 _ (List.mem_of_getElem? (i := 14) rfl)
theorem wm_13_15 : Cond.fieldLink RX12 66 "EndsRoundModel" "lineTo" "[I" ∈ BIG := rb_13 _ (List.mem_of_getElem? (i := 15) rfl)
theorem wm_13_16 : Cond.fieldLink RX12 69 "EndsRoundModel" "codes" "[I" ∈ BIG := rb_13 _ (List.mem_of_getElem? (i := 16) rfl)
theorem wm_13_17 : Cond.fieldLink RX12 72 "EndsRoundModel" "opened" "[I" ∈ BIG := rb_13 _ (List.mem_of_getElem? (i := 17) rfl)
theorem wm_13_18 : Cond.fieldLink RX12 75 "EndsRoundModel" "compared" "[Z" ∈ BIG := rb_13 _ (List.mem_of_getElem? (i := 18) rfl)
theorem wm_13_19 : Cond.fieldLink RX12 78 "EndsRoundModel" "kept" "[I" ∈ BIG := rb_13 _ (List.mem_of_getElem? (i := 19) rfl)
theorem wm_13_20 : Cond.fieldLink RX12 81 "EndsRoundModel" "keptBy" "[I" ∈ BIG := rb_13 _ (List.mem_of_getElem? (i := 20) rfl)
theorem wm_13_21 : Cond.fieldLink RX12 84 "EndsRoundModel" "ahead" "[I" ∈ BIG := rb_13 _ (List.mem_of_getElem? (i := 21) rfl)
theorem wm_13_22 : Cond.fieldLink RX12 87 "EndsRoundModel" "against" "[I" ∈ BIG := rb_13 _ (List.mem_of_getElem? (i := 22) rfl)
theorem wm_13_23 : Cond.fieldLink RX12 90 "EndsRoundModel" "sum" "[I" ∈ BIG := rb_13 _ (List.mem_of_getElem? (i := 23) rfl)
theorem wm_14_0 : Cond.fieldLink RX12 93 "EndsRoundModel" "sumBy" "[I" ∈ BIG := rb_14 _ (List.mem_of_getElem? (i := 0) rfl)
theorem wm_14_1 : Cond.fieldLink RX12 96 "EndsRoundModel" "term" "[I" ∈ BIG := rb_14 _ (List.mem_of_getElem? (i := 1) rfl)
theorem wm_14_2 : Cond.fieldLink RX12 99 "EndsRoundModel" "termBy" "[I" ∈ BIG := rb_14 _ (List.mem_of_getElem? (i := 2) rfl)
theorem wm_14_3 : Cond.fieldLink RX12 102 "EndsRoundModel" "byNot" "[I" ∈ BIG := rb_14 _ (List.mem_of_getElem? (i := 3) rfl)
theorem wm_14_4 : Cond.fieldLink RX12 105 "EndsRoundModel" "valueOf" "[I" ∈ BIG := rb_14 _ (List.mem_of_getElem? (i := 4) rfl)
theorem wm_14_5 : Cond.fieldLink RX12 108 "EndsRoundModel" "step" "[I" ∈ BIG := rb_14 _ (List.mem_of_getElem? (i := 5) rfl)
theorem wm_14_6 : Cond.fieldLink RX12 111 "EndsRoundModel" "turned" "[I" ∈ BIG := rb_14 _ (List.mem_of_getElem? (i := 6) rfl)
theorem wm_14_7 : Cond.fieldLink RX12 114 "EndsRoundModel" "seen" "[Z" ∈ BIG := rb_14 _ (List.mem_of_getElem? (i := 7) rfl)
theorem wm_14_8 : Cond.fieldLink RX12 117 "EndsRoundModel" "powers" "[I" ∈ BIG := rb_14 _ (List.mem_of_getElem? (i := 8) rfl)
theorem wm_14_9 : Cond.fieldLink RX12 120 "EndsRoundModel" "classOf" "[I" ∈ BIG := rb_14 _ (List.mem_of_getElem? (i := 9) rfl)
theorem wm_14_10 : Cond.fieldLink RX12 123 "EndsRoundModel" "isAhead" "[Z" ∈ BIG := rb_14 _ (List.mem_of_getElem? (i := 10) rfl)
theorem wm_14_11 : Cond.fieldLink RX12 126 "EndsRoundModel" "given" "[I" ∈ BIG := rb_14 _ (List.mem_of_getElem? (i := 11) rfl)
theorem wm_14_12 : Cond.fieldLink RX12 129 "EndsRoundModel" "first" "[I" ∈ BIG := rb_14 _ (List.mem_of_getElem? (i := 12) rfl)
theorem wm_14_13 : Cond.fieldLink RX12 132 "EndsRoundModel" "lineWord" "[I" ∈ BIG := rb_14 _ (List.mem_of_getElem? (i := 13) rfl)
theorem wm_14_14 : Cond.fieldLink RX12 135 "EndsRoundModel" "lineText" "[I" ∈ BIG := rb_14 _ (List.mem_of_getElem? (i := 14) rfl)
theorem wm_14_15 : Cond.fieldLink RX12 138 "EndsRoundModel" "lineBeats" "[I" ∈ BIG := rb_14 _ (List.mem_of_getElem? (i := 15) rfl)
theorem wm_14_16 : Cond.fieldLink RX12 141 "EndsRoundModel" "others" "[I" ∈ BIG := rb_14 _ (List.mem_of_getElem? (i := 16) rfl)
theorem wm_14_17 : Cond.fieldLink RX12 144 "EndsRoundModel" "isLaid" "[Z" ∈ BIG := rb_14 _ (List.mem_of_getElem? (i := 17) rfl)
theorem wm_14_18 : Cond.fieldLink RX12 147 "EndsRoundModel" "marked" "[I" ∈ BIG := rb_14 _ (List.mem_of_getElem? (i := 18) rfl)
theorem wm_14_19 : Cond.fieldLink RX12 150 "EndsRoundModel" "named" "[I" ∈ BIG := rb_14 _ (List.mem_of_getElem? (i := 19) rfl)
theorem wm_14_20 : Cond.fieldLink RX12 153 "EndsRoundModel" "ends" "I" ∈ BIG := rb_14 _ (List.mem_of_getElem? (i := 20) rfl)
theorem wm_14_21 : Cond.methodLink RL 21 yX11_feed ∈ BIG := rb_14 _ (List.mem_of_getElem? (i := 21) rfl)
theorem wm_14_22 : Cond.instanceMethod yX11_feed ∈ BIG := rb_14 _ (List.mem_of_getElem? (i := 22) rfl)
theorem wm_14_23 : Cond.selects RX11 yX11_feed yX11_feed ∈ BIG := rb_14 _ (List.mem_of_getElem? (i := 23) rfl)
theorem wm_15_0 : Cond.code yX11_feed cX11_feed 7 (some .int) ∈ BIG := rb_15 _ (List.mem_of_getElem? (i := 0) rfl)
theorem wm_15_1 : Cond.methodLink RX11 99 yX10_addBytes ∈ BIG := rb_15 _ (List.mem_of_getElem? (i := 1) rfl)
theorem wm_15_2 : Cond.instanceMethod yX10_addBytes ∈ BIG := rb_15 _ (List.mem_of_getElem? (i := 2) rfl)
theorem wm_15_3 : Cond.selects RX10 yX10_addBytes yX10_addBytes ∈ BIG := rb_15 _ (List.mem_of_getElem? (i := 3) rfl)
theorem wm_15_4 : Cond.code yX10_addBytes cX10_addBytes 4 none ∈ BIG := rb_15 _ (List.mem_of_getElem? (i := 4) rfl)
theorem wm_15_5 : Cond.methodLink RX10 49 yX10_addSign ∈ BIG := rb_15 _ (List.mem_of_getElem? (i := 5) rfl)
theorem wm_15_6 : Cond.instanceMethod yX10_addSign ∈ BIG := rb_15 _ (List.mem_of_getElem? (i := 6) rfl)
theorem wm_15_7 : Cond.selects RX10 yX10_addSign yX10_addSign ∈ BIG := rb_15 _ (List.mem_of_getElem? (i := 7) rfl)
theorem wm_15_8 : Cond.code yX10_addSign cX10_addSign 3 none ∈ BIG := rb_15 _ (List.mem_of_getElem? (i := 8) rfl)
theorem wm_15_9 : Cond.fieldLink RX10 53 "EndsRound$Tape" "length" "I" ∈ BIG := rb_15 _ (List.mem_of_getElem? (i := 9) rfl)
theorem wm_15_10 : Cond.methodLink RL 25 yX12_feed ∈ BIG := rb_15 _ (List.mem_of_getElem? (i := 10) rfl)
theorem wm_15_11 : Cond.instanceMethod yX12_feed ∈ BIG := rb_15 _ (List.mem_of_getElem? (i := 11) rfl)
theorem wm_15_12 : Cond.selects RX12 yX12_feed yX12_feed ∈ BIG := rb_15 _ (List.mem_of_getElem? (i := 12) rfl)
theorem wm_15_13 : Cond.code yX12_feed cX12_feed 11 (some .int) ∈ BIG := rb_15 _ (List.mem_of_getElem? (i := 13) rfl)
theorem wm_15_14 : Cond.fieldLink RX12 157 "EndsRoundModel" "thrown" "I" ∈ BIG := rb_15 _ (List.mem_of_getElem? (i := 14) rfl)
theorem wm_15_15 : Cond.constantLong RX12 160 (255) ∈ BIG := rb_15 _ (List.mem_of_getElem? (i := 15) rfl)
theorem wm_15_16 : Cond.fieldLink RX12 162 "EndsRoundModel" "taped" "I" ∈ BIG := rb_15 _ (List.mem_of_getElem? (i := 16) rfl)
theorem wm_15_17 : Cond.methodLink RL 26 yX11_form ∈ BIG := rb_15 _ (List.mem_of_getElem? (i := 17) rfl)
theorem wm_15_18 : Cond.instanceMethod yX11_form ∈ BIG := rb_15 _ (List.mem_of_getElem? (i := 18) rfl)
theorem wm_15_19 : Cond.selects RX11 yX11_form yX11_form ∈ BIG := rb_15 _ (List.mem_of_getElem? (i := 19) rfl)
theorem wm_15_20 : Cond.code yX11_form cX11_form 2 (some .int) ∈ BIG := rb_15 _ (List.mem_of_getElem? (i := 20) rfl)
theorem wm_15_21 : Cond.methodLink RX11 107 yX8_read ∈ BIG := rb_15 _ (List.mem_of_getElem? (i := 21) rfl)
theorem wm_15_22 : Cond.instanceMethod yX8_read ∈ BIG := rb_15 _ (List.mem_of_getElem? (i := 22) rfl)
theorem wm_15_23 : Cond.selects RX8 yX8_read yX8_read ∈ BIG := rb_15 _ (List.mem_of_getElem? (i := 23) rfl)
theorem wm_16_0 : Cond.code yX8_read cX8_read 3 (some .int) ∈ BIG := rb_16 _ (List.mem_of_getElem? (i := 0) rfl)
theorem wm_16_1 : Cond.fieldLink RX8 38 "EndsRound$Parser" "fault" "I" ∈ BIG := rb_16 _ (List.mem_of_getElem? (i := 1) rfl)
theorem wm_16_2 : Cond.fieldLink RX8 57 "EndsRound$Parser" "taken" "I" ∈ BIG := rb_16 _ (List.mem_of_getElem? (i := 2) rfl)
theorem wm_16_3 : Cond.fieldLink RX8 63 "EndsRound$Parser" "key" "I" ∈ BIG := rb_16 _ (List.mem_of_getElem? (i := 3) rfl)
theorem wm_16_4 : Cond.methodLink RX8 33 yX10_cut ∈ BIG := rb_16 _ (List.mem_of_getElem? (i := 4) rfl)
theorem wm_16_5 : Cond.instanceMethod yX10_cut ∈ BIG := rb_16 _ (List.mem_of_getElem? (i := 5) rfl)
theorem wm_16_6 : Cond.selects RX10 yX10_cut yX10_cut ∈ BIG := rb_16 _ (List.mem_of_getElem? (i := 6) rfl)
theorem wm_16_7 : Cond.code yX10_cut cX10_cut 3 none ∈ BIG := rb_16 _ (List.mem_of_getElem? (i := 7) rfl)
theorem wm_16_8 : Cond.fieldLink RX10 56 "EndsRound$Tape" "tokens" "I" ∈ BIG := rb_16 _ (List.mem_of_getElem? (i := 8) rfl)
theorem wm_16_9 : Cond.methodLink RX10 59 yX10_cutToken ∈ BIG := rb_16 _ (List.mem_of_getElem? (i := 9) rfl)
theorem wm_16_10 : Cond.instanceMethod yX10_cutToken ∈ BIG := rb_16 _ (List.mem_of_getElem? (i := 10) rfl)
theorem wm_16_11 : Cond.selects RX10 yX10_cutToken yX10_cutToken ∈ BIG := rb_16 _ (List.mem_of_getElem? (i := 11) rfl)
theorem wm_16_12 : Cond.code yX10_cutToken cX10_cutToken 3 (some .int) ∈ BIG := rb_16 _ (List.mem_of_getElem? (i := 12) rfl)
theorem wm_16_13 : Cond.methodLink RX10 67 yX10_signAt ∈ BIG := rb_16 _ (List.mem_of_getElem? (i := 13) rfl)
theorem wm_16_14 : Cond.instanceMethod yX10_signAt ∈ BIG := rb_16 _ (List.mem_of_getElem? (i := 14) rfl)
theorem wm_16_15 : Cond.selects RX10 yX10_signAt yX10_signAt ∈ BIG := rb_16 _ (List.mem_of_getElem? (i := 15) rfl)
theorem wm_16_16 : Cond.code yX10_signAt cX10_signAt 2 (some .int) ∈ BIG := rb_16 _ (List.mem_of_getElem? (i := 16) rfl)
theorem wm_16_17 : Cond.methodLink RX10 70 yX10_cutWord ∈ BIG := rb_16 _ (List.mem_of_getElem? (i := 17) rfl)
theorem wm_16_18 : Cond.instanceMethod yX10_cutWord ∈ BIG := rb_16 _ (List.mem_of_getElem? (i := 18) rfl)
theorem wm_16_19 : Cond.selects RX10 yX10_cutWord yX10_cutWord ∈ BIG := rb_16 _ (List.mem_of_getElem? (i := 19) rfl)
theorem wm_16_20 : Cond.code yX10_cutWord cX10_cutWord 5 (some .int) ∈ BIG := rb_16 _ (List.mem_of_getElem? (i := 20) rfl)
theorem wm_16_21 : Cond.methodLink RX10 85 yX10_keyOf ∈ BIG := rb_16 _ (List.mem_of_getElem? (i := 21) rfl)
theorem wm_16_22 : Cond.instanceMethod yX10_keyOf ∈ BIG := rb_16 _ (List.mem_of_getElem? (i := 22) rfl)
theorem wm_16_23 : Cond.selects RX10 yX10_keyOf yX10_keyOf ∈ BIG := rb_16 _ (List.mem_of_getElem? (i := 23) rfl)
theorem wm_17_0 : Cond.code yX10_keyOf cX10_keyOf 4 (some .int) ∈ BIG := rb_17 _ (List.mem_of_getElem? (i := 0) rfl)
theorem wm_17_1 : Cond.methodLink RX10 63 yX10_addToken ∈ BIG := rb_17 _ (List.mem_of_getElem? (i := 1) rfl)
theorem wm_17_2 : Cond.instanceMethod yX10_addToken ∈ BIG := rb_17 _ (List.mem_of_getElem? (i := 2) rfl)
theorem wm_17_3 : Cond.selects RX10 yX10_addToken yX10_addToken ∈ BIG := rb_17 _ (List.mem_of_getElem? (i := 3) rfl)
theorem wm_17_4 : Cond.code yX10_addToken cX10_addToken 5 none ∈ BIG := rb_17 _ (List.mem_of_getElem? (i := 4) rfl)
theorem wm_17_5 : Cond.methodLink RX10 73 yX10_isDigit ∈ BIG := rb_17 _ (List.mem_of_getElem? (i := 5) rfl)
theorem wm_17_6 : Cond.static yX10_isDigit ∈ BIG := rb_17 _ (List.mem_of_getElem? (i := 6) rfl)
theorem wm_17_7 : Cond.code yX10_isDigit cX10_isDigit 1 (some .boolean) ∈ BIG := rb_17 _ (List.mem_of_getElem? (i := 7) rfl)
theorem wm_17_8 : Cond.methodLink RX10 76 yX10_cutNumber ∈ BIG := rb_17 _ (List.mem_of_getElem? (i := 8) rfl)
theorem wm_17_9 : Cond.instanceMethod yX10_cutNumber ∈ BIG := rb_17 _ (List.mem_of_getElem? (i := 9) rfl)
theorem wm_17_10 : Cond.selects RX10 yX10_cutNumber yX10_cutNumber ∈ BIG := rb_17 _ (List.mem_of_getElem? (i := 10) rfl)
theorem wm_17_11 : Cond.code yX10_cutNumber cX10_cutNumber 5 (some .int) ∈ BIG := rb_17 _ (List.mem_of_getElem? (i := 11) rfl)
theorem wm_17_12 : Cond.constantLong RX10 89 (10) ∈ BIG := rb_17 _ (List.mem_of_getElem? (i := 12) rfl)
theorem wm_17_13 : Cond.constantLong RX10 91 (48) ∈ BIG := rb_17 _ (List.mem_of_getElem? (i := 13) rfl)
theorem wm_17_14 : Cond.methodLink RX10 79 yX10_isBlank ∈ BIG := rb_17 _ (List.mem_of_getElem? (i := 14) rfl)
theorem wm_17_15 : Cond.static yX10_isBlank ∈ BIG := rb_17 _ (List.mem_of_getElem? (i := 15) rfl)
theorem wm_17_16 : Cond.code yX10_isBlank cX10_isBlank 1 (some .boolean) ∈ BIG := rb_17 _ (List.mem_of_getElem? (i := 16) rfl)
theorem wm_17_17 : Cond.methodLink RX10 82 yX10_isSign ∈ BIG := rb_17 _ (List.mem_of_getElem? (i := 17) rfl)
theorem wm_17_18 : Cond.static yX10_isSign ∈ BIG := rb_17 _ (List.mem_of_getElem? (i := 18) rfl)
theorem wm_17_19 : Cond.code yX10_isSign cX10_isSign 1 (some .boolean) ∈ BIG := rb_17 _ (List.mem_of_getElem? (i := 19) rfl)
theorem wm_17_20 : Cond.methodLink RX8 45 yX8_holdToken ∈ BIG := rb_17 _ (List.mem_of_getElem? (i := 20) rfl)
theorem wm_17_21 : Cond.instanceMethod yX8_holdToken ∈ BIG := rb_17 _ (List.mem_of_getElem? (i := 21) rfl)
theorem wm_17_22 : Cond.selects RX8 yX8_holdToken yX8_holdToken ∈ BIG := rb_17 _ (List.mem_of_getElem? (i := 22) rfl)
theorem wm_17_23 : Cond.code yX8_holdToken cX8_holdToken 2 none ∈ BIG := rb_17 _ (List.mem_of_getElem? (i := 23) rfl)
theorem wm_18_0 : Cond.fieldLink RX8 95 "EndsRound$Parser" "token" "I" ∈ BIG := rb_18 _ (List.mem_of_getElem? (i := 0) rfl)
theorem wm_18_1 : Cond.fieldLink RX8 122 "EndsRound$Parser" "value" "J" ∈ BIG := rb_18 _ (List.mem_of_getElem? (i := 1) rfl)
theorem wm_18_2 : Cond.methodLink RX8 49 yX8_takeKey ∈ BIG := rb_18 _ (List.mem_of_getElem? (i := 2) rfl)
theorem wm_18_3 : Cond.instanceMethod yX8_takeKey ∈ BIG := rb_18 _ (List.mem_of_getElem? (i := 3) rfl)
theorem wm_18_4 : Cond.selects RX8 yX8_takeKey yX8_takeKey ∈ BIG := rb_18 _ (List.mem_of_getElem? (i := 4) rfl)
theorem wm_18_5 : Cond.code yX8_takeKey cX8_takeKey 2 (some .boolean) ∈ BIG := rb_18 _ (List.mem_of_getElem? (i := 5) rfl)
theorem wm_18_6 : Cond.methodLink RX8 92 yX8_isWrong ∈ BIG := rb_18 _ (List.mem_of_getElem? (i := 6) rfl)
theorem wm_18_7 : Cond.instanceMethod yX8_isWrong ∈ BIG := rb_18 _ (List.mem_of_getElem? (i := 7) rfl)
theorem wm_18_8 : Cond.selects RX8 yX8_isWrong yX8_isWrong ∈ BIG := rb_18 _ (List.mem_of_getElem? (i := 8) rfl)
theorem wm_18_9 : Cond.code yX8_isWrong cX8_isWrong 2 (some .boolean) ∈ BIG := rb_18 _ (List.mem_of_getElem? (i := 9) rfl)
theorem wm_18_10 : Cond.methodLink RX8 53 yX8_takeNumber ∈ BIG := rb_18 _ (List.mem_of_getElem? (i := 10) rfl)
theorem wm_18_11 : Cond.instanceMethod yX8_takeNumber ∈ BIG := rb_18 _ (List.mem_of_getElem? (i := 11) rfl)
theorem wm_18_12 : Cond.selects RX8 yX8_takeNumber yX8_takeNumber ∈ BIG := rb_18 _ (List.mem_of_getElem? (i := 12) rfl)
theorem wm_18_13 : Cond.code yX8_takeNumber cX8_takeNumber 4 (some .boolean) ∈ BIG := rb_18 _ (List.mem_of_getElem? (i := 13) rfl)
theorem wm_18_14 : Cond.methodLink RX8 60 yX4_begin ∈ BIG := rb_18 _ (List.mem_of_getElem? (i := 14) rfl)
theorem wm_18_15 : Cond.methodLink RX8 66 yX8_readLine ∈ BIG := rb_18 _ (List.mem_of_getElem? (i := 15) rfl)
theorem wm_18_16 : Cond.instanceMethod yX8_readLine ∈ BIG := rb_18 _ (List.mem_of_getElem? (i := 16) rfl)
theorem wm_18_17 : Cond.selects RX8 yX8_readLine yX8_readLine ∈ BIG := rb_18 _ (List.mem_of_getElem? (i := 17) rfl)
theorem wm_18_18 : Cond.code yX8_readLine cX8_readLine 1 (some .boolean) ∈ BIG := rb_18 _ (List.mem_of_getElem? (i := 18) rfl)
theorem wm_18_19 : Cond.methodLink RX8 74 yX8_readTurn ∈ BIG := rb_18 _ (List.mem_of_getElem? (i := 19) rfl)
theorem wm_18_20 : Cond.instanceMethod yX8_readTurn ∈ BIG := rb_18 _ (List.mem_of_getElem? (i := 20) rfl)
theorem wm_18_21 : Cond.selects RX8 yX8_readTurn yX8_readTurn ∈ BIG := rb_18 _ (List.mem_of_getElem? (i := 21) rfl)
theorem wm_18_22 : Cond.code yX8_readTurn cX8_readTurn 3 (some .boolean) ∈ BIG := rb_18 _ (List.mem_of_getElem? (i := 22) rfl)
theorem wm_18_23 : Cond.methodLink RX8 98 yX8_readStep ∈ BIG := rb_18 _ (List.mem_of_getElem? (i := 23) rfl)
theorem wm_19_0 : Cond.instanceMethod yX8_readStep ∈ BIG := rb_19 _ (List.mem_of_getElem? (i := 0) rfl)
theorem wm_19_1 : Cond.selects RX8 yX8_readStep yX8_readStep ∈ BIG := rb_19 _ (List.mem_of_getElem? (i := 1) rfl)
theorem wm_19_2 : Cond.code yX8_readStep cX8_readStep 4 (some .boolean) ∈ BIG := rb_19 _ (List.mem_of_getElem? (i := 2) rfl)
theorem wm_19_3 : Cond.methodLink RX8 107 yX4_addStep ∈ BIG := rb_19 _ (List.mem_of_getElem? (i := 3) rfl)
theorem wm_19_4 : Cond.instanceMethod yX4_addStep ∈ BIG := rb_19 _ (List.mem_of_getElem? (i := 4) rfl)
theorem wm_19_5 : Cond.selects RX4 yX4_addStep yX4_addStep ∈ BIG := rb_19 _ (List.mem_of_getElem? (i := 5) rfl)
theorem wm_19_6 : Cond.code yX4_addStep cX4_addStep 5 none ∈ BIG := rb_19 _ (List.mem_of_getElem? (i := 6) rfl)
theorem wm_19_7 : Cond.methodLink RX4 70 yX4_sourceOf ∈ BIG := rb_19 _ (List.mem_of_getElem? (i := 7) rfl)
theorem wm_19_8 : Cond.instanceMethod yX4_sourceOf ∈ BIG := rb_19 _ (List.mem_of_getElem? (i := 8) rfl)
theorem wm_19_9 : Cond.selects RX4 yX4_sourceOf yX4_sourceOf ∈ BIG := rb_19 _ (List.mem_of_getElem? (i := 9) rfl)
theorem wm_19_10 : Cond.code yX4_sourceOf cX4_sourceOf 5 (some .int) ∈ BIG := rb_19 _ (List.mem_of_getElem? (i := 10) rfl)
theorem wm_19_11 : Cond.static yX11_spiralSource ∈ BIG := rb_19 _ (List.mem_of_getElem? (i := 11) rfl)
theorem wm_19_12 : Cond.code yX11_spiralSource cX11_spiralSource 2 (some .int) ∈ BIG := rb_19 _ (List.mem_of_getElem? (i := 12) rfl)
theorem wm_19_13 : Cond.methodLink RX4 82 yX4_thirdsSource ∈ BIG := rb_19 _ (List.mem_of_getElem? (i := 13) rfl)
theorem wm_19_14 : Cond.instanceMethod yX4_thirdsSource ∈ BIG := rb_19 _ (List.mem_of_getElem? (i := 14) rfl)
theorem wm_19_15 : Cond.selects RX4 yX4_thirdsSource yX4_thirdsSource ∈ BIG := rb_19 _ (List.mem_of_getElem? (i := 15) rfl)
theorem wm_19_16 : Cond.code yX4_thirdsSource cX4_thirdsSource 4 (some .int) ∈ BIG := rb_19 _ (List.mem_of_getElem? (i := 16) rfl)
theorem wm_19_17 : Cond.methodLink RX4 86 yJ9_floorMod_7cf53 ∈ BIG := rb_19 _ (List.mem_of_getElem? (i := 17) rfl)
theorem wm_19_18 : Cond.static yJ9_floorMod_7cf53 ∈ BIG := rb_19 _ (List.mem_of_getElem? (i := 18) rfl)
theorem wm_19_19 : Cond.initialized RJ9 ∈ BIG := rb_19 _ (List.mem_of_getElem? (i := 19) rfl)
theorem wm_19_20 : Cond.code yJ9_floorMod_7cf53 cJ9_floorMod_7cf53 3 (some .int) ∈ BIG := rb_19 _ (List.mem_of_getElem? (i := 20) rfl)
theorem wm_19_21 : Cond.methodLink RX8 77 yX8_readRhyme ∈ BIG := rb_19 _ (List.mem_of_getElem? (i := 21) rfl)
theorem wm_19_22 : Cond.instanceMethod yX8_readRhyme ∈ BIG := rb_19 _ (List.mem_of_getElem? (i := 22) rfl)
theorem wm_19_23 : Cond.selects RX8 yX8_readRhyme yX8_readRhyme ∈ BIG := rb_19 _ (List.mem_of_getElem? (i := 23) rfl)
theorem wm_20_0 : Cond.code yX8_readRhyme cX8_readRhyme 2 (some .boolean) ∈ BIG := rb_20 _ (List.mem_of_getElem? (i := 0) rfl)
theorem wm_20_1 : Cond.methodLink RX8 114 yX4_addRhyme ∈ BIG := rb_20 _ (List.mem_of_getElem? (i := 1) rfl)
theorem wm_20_2 : Cond.instanceMethod yX4_addRhyme ∈ BIG := rb_20 _ (List.mem_of_getElem? (i := 2) rfl)
theorem wm_20_3 : Cond.selects RX4 yX4_addRhyme yX4_addRhyme ∈ BIG := rb_20 _ (List.mem_of_getElem? (i := 3) rfl)
theorem wm_20_4 : Cond.code yX4_addRhyme cX4_addRhyme 3 none ∈ BIG := rb_20 _ (List.mem_of_getElem? (i := 4) rfl)
theorem wm_20_5 : Cond.methodLink RX8 80 yX8_readWhole ∈ BIG := rb_20 _ (List.mem_of_getElem? (i := 5) rfl)
theorem wm_20_6 : Cond.instanceMethod yX8_readWhole ∈ BIG := rb_20 _ (List.mem_of_getElem? (i := 6) rfl)
theorem wm_20_7 : Cond.selects RX8 yX8_readWhole yX8_readWhole ∈ BIG := rb_20 _ (List.mem_of_getElem? (i := 7) rfl)
theorem wm_20_8 : Cond.code yX8_readWhole cX8_readWhole 3 (some .boolean) ∈ BIG := rb_20 _ (List.mem_of_getElem? (i := 8) rfl)
theorem wm_20_9 : Cond.methodLink RX8 130 yX4_addWhole ∈ BIG := rb_20 _ (List.mem_of_getElem? (i := 9) rfl)
theorem wm_20_10 : Cond.instanceMethod yX4_addWhole ∈ BIG := rb_20 _ (List.mem_of_getElem? (i := 10) rfl)
theorem wm_20_11 : Cond.selects RX4 yX4_addWhole yX4_addWhole ∈ BIG := rb_20 _ (List.mem_of_getElem? (i := 11) rfl)
theorem wm_20_12 : Cond.code yX4_addWhole cX4_addWhole 3 none ∈ BIG := rb_20 _ (List.mem_of_getElem? (i := 12) rfl)
theorem wm_20_13 : Cond.methodLink RX8 83 yX8_readFeet ∈ BIG := rb_20 _ (List.mem_of_getElem? (i := 13) rfl)
theorem wm_20_14 : Cond.instanceMethod yX8_readFeet ∈ BIG := rb_20 _ (List.mem_of_getElem? (i := 14) rfl)
theorem wm_20_15 : Cond.selects RX8 yX8_readFeet yX8_readFeet ∈ BIG := rb_20 _ (List.mem_of_getElem? (i := 15) rfl)
theorem wm_20_16 : Cond.code yX8_readFeet cX8_readFeet 1 (some .boolean) ∈ BIG := rb_20 _ (List.mem_of_getElem? (i := 16) rfl)
theorem wm_20_17 : Cond.methodLink RX8 86 yX8_readWord ∈ BIG := rb_20 _ (List.mem_of_getElem? (i := 17) rfl)
theorem wm_20_18 : Cond.instanceMethod yX8_readWord ∈ BIG := rb_20 _ (List.mem_of_getElem? (i := 18) rfl)
theorem wm_20_19 : Cond.selects RX8 yX8_readWord yX8_readWord ∈ BIG := rb_20 _ (List.mem_of_getElem? (i := 19) rfl)
theorem wm_20_20 : Cond.code yX8_readWord cX8_readWord 3 (some .boolean) ∈ BIG := rb_20 _ (List.mem_of_getElem? (i := 20) rfl)
theorem wm_20_21 : Cond.methodLink RX8 139 yX8_takeName ∈ BIG := rb_20 _ (List.mem_of_getElem? (i := 21) rfl)
theorem wm_20_22 : Cond.instanceMethod yX8_takeName ∈ BIG := rb_20 _ (List.mem_of_getElem? (i := 22) rfl)
theorem wm_20_23 : Cond.selects RX8 yX8_takeName yX8_takeName ∈ BIG := rb_20 _ (List.mem_of_getElem? (i := 23) rfl)
theorem wm_21_0 : Cond.code yX8_takeName cX8_takeName 2 (some .boolean) ∈ BIG := rb_21 _ (List.mem_of_getElem? (i := 0) rfl)
theorem wm_21_1 : Cond.methodLink RX8 142 yX4_addWord ∈ BIG := rb_21 _ (List.mem_of_getElem? (i := 1) rfl)
theorem wm_21_2 : Cond.instanceMethod yX4_addWord ∈ BIG := rb_21 _ (List.mem_of_getElem? (i := 2) rfl)
theorem wm_21_3 : Cond.selects RX4 yX4_addWord yX4_addWord ∈ BIG := rb_21 _ (List.mem_of_getElem? (i := 3) rfl)
theorem wm_21_4 : Cond.code yX4_addWord cX4_addWord 4 none ∈ BIG := rb_21 _ (List.mem_of_getElem? (i := 4) rfl)
theorem wm_21_5 : Cond.methodLink RX8 89 yX8_readBar ∈ BIG := rb_21 _ (List.mem_of_getElem? (i := 5) rfl)
theorem wm_21_6 : Cond.instanceMethod yX8_readBar ∈ BIG := rb_21 _ (List.mem_of_getElem? (i := 6) rfl)
theorem wm_21_7 : Cond.selects RX8 yX8_readBar yX8_readBar ∈ BIG := rb_21 _ (List.mem_of_getElem? (i := 7) rfl)
theorem wm_21_8 : Cond.code yX8_readBar cX8_readBar 1 (some .boolean) ∈ BIG := rb_21 _ (List.mem_of_getElem? (i := 8) rfl)
theorem wm_21_9 : Cond.methodLink RX8 147 yX8_readTests ∈ BIG := rb_21 _ (List.mem_of_getElem? (i := 9) rfl)
theorem wm_21_10 : Cond.instanceMethod yX8_readTests ∈ BIG := rb_21 _ (List.mem_of_getElem? (i := 10) rfl)
theorem wm_21_11 : Cond.selects RX8 yX8_readTests yX8_readTests ∈ BIG := rb_21 _ (List.mem_of_getElem? (i := 11) rfl)
theorem wm_21_12 : Cond.code yX8_readTests cX8_readTests 5 (some .boolean) ∈ BIG := rb_21 _ (List.mem_of_getElem? (i := 12) rfl)
theorem wm_21_13 : Cond.methodLink RX8 153 yX8_readTest ∈ BIG := rb_21 _ (List.mem_of_getElem? (i := 13) rfl)
theorem wm_21_14 : Cond.instanceMethod yX8_readTest ∈ BIG := rb_21 _ (List.mem_of_getElem? (i := 14) rfl)
theorem wm_21_15 : Cond.selects RX8 yX8_readTest yX8_readTest ∈ BIG := rb_21 _ (List.mem_of_getElem? (i := 15) rfl)
theorem wm_21_16 : Cond.methodLink RX8 150 yX0_add ∈ BIG := rb_21 _ (List.mem_of_getElem? (i := 16) rfl)
theorem wm_21_17 : Cond.instanceMethod yX0_add ∈ BIG := rb_21 _ (List.mem_of_getElem? (i := 17) rfl)
theorem wm_21_18 : Cond.selects RX0 yX0_add yX0_add ∈ BIG := rb_21 _ (List.mem_of_getElem? (i := 18) rfl)
theorem wm_21_19 : Cond.code yX0_add cX0_add 2 none ∈ BIG := rb_21 _ (List.mem_of_getElem? (i := 19) rfl)
theorem wm_21_20 : Cond.fieldLink RX0 18 "EndsRound$Bars" "length" "I" ∈ BIG := rb_21 _ (List.mem_of_getElem? (i := 20) rfl)
theorem wm_21_21 : Cond.code yX8_readPart cX8_readPart 4 (some .boolean) ∈ BIG := rb_21 _ (List.mem_of_getElem? (i := 21) rfl)
theorem wm_21_22 : Cond.methodLink RX8 162 yX8_readPart ∈ BIG := rb_21 _ (List.mem_of_getElem? (i := 22) rfl)
theorem wm_21_23 : Cond.instanceMethod yX8_readPart ∈ BIG := rb_21 _ (List.mem_of_getElem? (i := 23) rfl)
theorem wm_22_0 : Cond.selects RX8 yX8_readPart yX8_readPart ∈ BIG := rb_22 _ (List.mem_of_getElem? (i := 0) rfl)
theorem wm_22_1 : Cond.code yX8_readProduct cX8_readProduct 4 (some .boolean) ∈ BIG := rb_22 _ (List.mem_of_getElem? (i := 1) rfl)
theorem wm_22_2 : Cond.code yX8_readSum cX8_readSum 5 (some .boolean) ∈ BIG := rb_22 _ (List.mem_of_getElem? (i := 2) rfl)
theorem wm_22_3 : Cond.methodLink RX8 159 yX8_readProduct ∈ BIG := rb_22 _ (List.mem_of_getElem? (i := 3) rfl)
theorem wm_22_4 : Cond.instanceMethod yX8_readProduct ∈ BIG := rb_22 _ (List.mem_of_getElem? (i := 4) rfl)
theorem wm_22_5 : Cond.selects RX8 yX8_readProduct yX8_readProduct ∈ BIG := rb_22 _ (List.mem_of_getElem? (i := 5) rfl)
theorem wm_22_6 : Cond.code yX8_readTest cX8_readTest 4 (some .boolean) ∈ BIG := rb_22 _ (List.mem_of_getElem? (i := 6) rfl)
theorem wm_22_7 : Cond.methodLink RX8 156 yX8_readSum ∈ BIG := rb_22 _ (List.mem_of_getElem? (i := 7) rfl)
theorem wm_22_8 : Cond.instanceMethod yX8_readSum ∈ BIG := rb_22 _ (List.mem_of_getElem? (i := 8) rfl)
theorem wm_22_9 : Cond.selects RX8 yX8_readSum yX8_readSum ∈ BIG := rb_22 _ (List.mem_of_getElem? (i := 9) rfl)
theorem wm_22_10 : Cond.methodLink RX8 70 yX0_weigh ∈ BIG := rb_22 _ (List.mem_of_getElem? (i := 10) rfl)
theorem wm_22_11 : Cond.instanceMethod yX0_weigh ∈ BIG := rb_22 _ (List.mem_of_getElem? (i := 11) rfl)
theorem wm_22_12 : Cond.selects RX0 yX0_weigh yX0_weigh ∈ BIG := rb_22 _ (List.mem_of_getElem? (i := 12) rfl)
theorem wm_22_13 : Cond.code yX0_weigh cX0_weigh 5 none ∈ BIG := rb_22 _ (List.mem_of_getElem? (i := 13) rfl)
theorem wm_22_14 : Cond.methodLink RX0 31 yX0_holds ∈ BIG := rb_22 _ (List.mem_of_getElem? (i := 14) rfl)
theorem wm_22_15 : Cond.instanceMethod yX0_holds ∈ BIG := rb_22 _ (List.mem_of_getElem? (i := 15) rfl)
theorem wm_22_16 : Cond.selects RX0 yX0_holds yX0_holds ∈ BIG := rb_22 _ (List.mem_of_getElem? (i := 16) rfl)
theorem wm_22_17 : Cond.code yX0_holds cX0_holds 7 (some .boolean) ∈ BIG := rb_22 _ (List.mem_of_getElem? (i := 17) rfl)
theorem wm_22_18 : Cond.fieldLink RX0 38 "EndsRound$Bars" "height" "I" ∈ BIG := rb_22 _ (List.mem_of_getElem? (i := 18) rfl)
theorem wm_22_19 : Cond.methodLink RX0 45 yX0_push ∈ BIG := rb_22 _ (List.mem_of_getElem? (i := 19) rfl)
theorem wm_22_20 : Cond.instanceMethod yX0_push ∈ BIG := rb_22 _ (List.mem_of_getElem? (i := 20) rfl)
theorem wm_22_21 : Cond.selects RX0 yX0_push yX0_push ∈ BIG := rb_22 _ (List.mem_of_getElem? (i := 21) rfl)
theorem wm_22_22 : Cond.code yX0_push cX0_push 2 none ∈ BIG := rb_22 _ (List.mem_of_getElem? (i := 22) rfl)
theorem wm_22_23 : Cond.methodLink RX0 49 yX0_factOf ∈ BIG := rb_22 _ (List.mem_of_getElem? (i := 23) rfl)
theorem wm_23_0 : Cond.static yX0_factOf ∈ BIG := rb_23 _ (List.mem_of_getElem? (i := 0) rfl)
theorem wm_23_1 : Cond.code yX0_factOf cX0_factOf 4 (some .int) ∈ BIG := rb_23 _ (List.mem_of_getElem? (i := 1) rfl)
theorem wm_23_2 : Cond.methodLink RX0 67 yX4_areRhyming ∈ BIG := rb_23 _ (List.mem_of_getElem? (i := 2) rfl)
theorem wm_23_3 : Cond.instanceMethod yX4_areRhyming ∈ BIG := rb_23 _ (List.mem_of_getElem? (i := 3) rfl)
theorem wm_23_4 : Cond.selects RX4 yX4_areRhyming yX4_areRhyming ∈ BIG := rb_23 _ (List.mem_of_getElem? (i := 4) rfl)
theorem wm_23_5 : Cond.code yX4_areRhyming cX4_areRhyming 3 (some .boolean) ∈ BIG := rb_23 _ (List.mem_of_getElem? (i := 5) rfl)
theorem wm_23_6 : Cond.methodLink RX0 53 yX0_pop ∈ BIG := rb_23 _ (List.mem_of_getElem? (i := 6) rfl)
theorem wm_23_7 : Cond.instanceMethod yX0_pop ∈ BIG := rb_23 _ (List.mem_of_getElem? (i := 7) rfl)
theorem wm_23_8 : Cond.selects RX0 yX0_pop yX0_pop ∈ BIG := rb_23 _ (List.mem_of_getElem? (i := 8) rfl)
theorem wm_23_9 : Cond.code yX0_pop cX0_pop 1 (some .int) ∈ BIG := rb_23 _ (List.mem_of_getElem? (i := 9) rfl)
theorem wm_23_10 : Cond.methodLink RX0 57 yX0_joined ∈ BIG := rb_23 _ (List.mem_of_getElem? (i := 10) rfl)
theorem wm_23_11 : Cond.static yX0_joined ∈ BIG := rb_23 _ (List.mem_of_getElem? (i := 11) rfl)
theorem wm_23_12 : Cond.code yX0_joined cX0_joined 3 (some .int) ∈ BIG := rb_23 _ (List.mem_of_getElem? (i := 12) rfl)
theorem wm_23_13 : Cond.methodLink RX11 114 yX4_copy ∈ BIG := rb_23 _ (List.mem_of_getElem? (i := 13) rfl)
theorem wm_23_14 : Cond.instanceMethod yX4_copy ∈ BIG := rb_23 _ (List.mem_of_getElem? (i := 14) rfl)
theorem wm_23_15 : Cond.selects RX4 yX4_copy yX4_copy ∈ BIG := rb_23 _ (List.mem_of_getElem? (i := 15) rfl)
theorem wm_23_16 : Cond.code yX4_copy cX4_copy 2 none ∈ BIG := rb_23 _ (List.mem_of_getElem? (i := 16) rfl)
theorem wm_23_17 : Cond.methodLink RX11 118 yX11_formChanged ∈ BIG := rb_23 _ (List.mem_of_getElem? (i := 17) rfl)
theorem wm_23_18 : Cond.instanceMethod yX11_formChanged ∈ BIG := rb_23 _ (List.mem_of_getElem? (i := 18) rfl)
theorem wm_23_19 : Cond.selects RX11 yX11_formChanged yX11_formChanged ∈ BIG := rb_23 _ (List.mem_of_getElem? (i := 19) rfl)
theorem wm_23_20 : Cond.code yX11_formChanged cX11_formChanged 1 none ∈ BIG := rb_23 _ (List.mem_of_getElem? (i := 20) rfl)
theorem wm_23_21 : Cond.methodLink RX11 304 yX3_forget ∈ BIG := rb_23 _ (List.mem_of_getElem? (i := 21) rfl)
theorem wm_23_22 : Cond.instanceMethod yX3_forget ∈ BIG := rb_23 _ (List.mem_of_getElem? (i := 22) rfl)
theorem wm_23_23 : Cond.selects RX3 yX3_forget yX3_forget ∈ BIG := rb_23 _ (List.mem_of_getElem? (i := 23) rfl)
theorem wm_24_0 : Cond.code yX3_forget cX3_forget 1 none ∈ BIG := rb_24 _ (List.mem_of_getElem? (i := 0) rfl)
theorem wm_24_1 : Cond.fieldLink RX3 38 "EndsRound$Filler" "prepared" "Z" ∈ BIG := rb_24 _ (List.mem_of_getElem? (i := 1) rfl)
theorem wm_24_2 : Cond.fieldLink RX3 42 "EndsRound$Filler" "counted" "Z" ∈ BIG := rb_24 _ (List.mem_of_getElem? (i := 2) rfl)
theorem wm_24_3 : Cond.fieldLink RX3 45 "EndsRound$Filler" "searched" "Z" ∈ BIG := rb_24 _ (List.mem_of_getElem? (i := 3) rfl)
theorem wm_24_4 : Cond.fieldLink RX3 48 "EndsRound$Filler" "stuckBits" "I" ∈ BIG := rb_24 _ (List.mem_of_getElem? (i := 4) rfl)
theorem wm_24_5 : Cond.methodLink RX11 239 yX6_forget ∈ BIG := rb_24 _ (List.mem_of_getElem? (i := 5) rfl)
theorem wm_24_6 : Cond.instanceMethod yX6_forget ∈ BIG := rb_24 _ (List.mem_of_getElem? (i := 6) rfl)
theorem wm_24_7 : Cond.selects RX6 yX6_forget yX6_forget ∈ BIG := rb_24 _ (List.mem_of_getElem? (i := 7) rfl)
theorem wm_24_8 : Cond.code yX6_forget cX6_forget 1 none ∈ BIG := rb_24 _ (List.mem_of_getElem? (i := 8) rfl)
theorem wm_24_9 : Cond.fieldLink RX6 39 "EndsRound$Mender" "known" "Z" ∈ BIG := rb_24 _ (List.mem_of_getElem? (i := 9) rfl)
theorem wm_24_10 : Cond.methodLink RL 30 yX12_form ∈ BIG := rb_24 _ (List.mem_of_getElem? (i := 10) rfl)
theorem wm_24_11 : Cond.instanceMethod yX12_form ∈ BIG := rb_24 _ (List.mem_of_getElem? (i := 11) rfl)
theorem wm_24_12 : Cond.selects RX12 yX12_form yX12_form ∈ BIG := rb_24 _ (List.mem_of_getElem? (i := 12) rfl)
theorem wm_24_13 : Cond.code yX12_form cX12_form 3 (some .int) ∈ BIG := rb_24 _ (List.mem_of_getElem? (i := 13) rfl)
theorem wm_24_14 : Cond.fieldLink RX12 192 "EndsRoundModel" "wrong" "I" ∈ BIG := rb_24 _ (List.mem_of_getElem? (i := 14) rfl)
theorem wm_24_15 : Cond.fieldLink RX12 281 "EndsRoundModel" "newEnds" "I" ∈ BIG := rb_24 _ (List.mem_of_getElem? (i := 15) rfl)
theorem wm_24_16 : Cond.fieldLink RX12 287 "EndsRoundModel" "newSteps" "I" ∈ BIG := rb_24 _ (List.mem_of_getElem? (i := 16) rfl)
theorem wm_24_17 : Cond.fieldLink RX12 352 "EndsRoundModel" "steps" "I" ∈ BIG := rb_24 _ (List.mem_of_getElem? (i := 17) rfl)
theorem wm_24_18 : Cond.fieldLink RX12 307 "EndsRoundModel" "newRhymes" "I" ∈ BIG := rb_24 _ (List.mem_of_getElem? (i := 18) rfl)
theorem wm_24_19 : Cond.fieldLink RX12 355 "EndsRoundModel" "rhymes" "I" ∈ BIG := rb_24 _ (List.mem_of_getElem? (i := 19) rfl)
theorem wm_24_20 : Cond.fieldLink RX12 313 "EndsRoundModel" "newWholes" "I" ∈ BIG := rb_24 _ (List.mem_of_getElem? (i := 20) rfl)
theorem wm_24_21 : Cond.fieldLink RX12 358 "EndsRoundModel" "wholes" "I" ∈ BIG := rb_24 _ (List.mem_of_getElem? (i := 21) rfl)
theorem wm_24_22 : Cond.fieldLink RX12 316 "EndsRoundModel" "newFeet" "I" ∈ BIG := rb_24 _ (List.mem_of_getElem? (i := 22) rfl)
theorem wm_24_23 : Cond.fieldLink RX12 361 "EndsRoundModel" "feet" "I" ∈ BIG := rb_24 _ (List.mem_of_getElem? (i := 23) rfl)
theorem wm_25_0 : Cond.fieldLink RX12 319 "EndsRoundModel" "newWords" "I" ∈ BIG := rb_25 _ (List.mem_of_getElem? (i := 0) rfl)
theorem wm_25_1 : Cond.fieldLink RX12 364 "EndsRoundModel" "words" "I" ∈ BIG := rb_25 _ (List.mem_of_getElem? (i := 1) rfl)
theorem wm_25_2 : Cond.fieldLink RX12 325 "EndsRoundModel" "newBars" "I" ∈ BIG := rb_25 _ (List.mem_of_getElem? (i := 2) rfl)
theorem wm_25_3 : Cond.fieldLink RX12 367 "EndsRoundModel" "bars" "I" ∈ BIG := rb_25 _ (List.mem_of_getElem? (i := 3) rfl)
theorem wm_25_4 : Cond.fieldLink RX12 372 "EndsRoundModel" "lines" "I" ∈ BIG := rb_25 _ (List.mem_of_getElem? (i := 4) rfl)
theorem wm_25_5 : Cond.methodLink RX12 349 yX12_readsAll ∈ BIG := rb_25 _ (List.mem_of_getElem? (i := 5) rfl)
theorem wm_25_6 : Cond.instanceMethod yX12_readsAll ∈ BIG := rb_25 _ (List.mem_of_getElem? (i := 6) rfl)
theorem wm_25_7 : Cond.selects RX12 yX12_readsAll yX12_readsAll ∈ BIG := rb_25 _ (List.mem_of_getElem? (i := 7) rfl)
theorem wm_25_8 : Cond.code yX12_readsAll cX12_readsAll 2 (some .boolean) ∈ BIG := rb_25 _ (List.mem_of_getElem? (i := 8) rfl)
theorem wm_25_9 : Cond.fieldLink RX12 195 "EndsRoundModel" "code" "I" ∈ BIG := rb_25 _ (List.mem_of_getElem? (i := 9) rfl)
theorem wm_25_10 : Cond.fieldLink RX12 165 "EndsRoundModel" "size" "I" ∈ BIG := rb_25 _ (List.mem_of_getElem? (i := 10) rfl)
theorem wm_25_11 : Cond.fieldLink RX12 168 "EndsRoundModel" "place" "I" ∈ BIG := rb_25 _ (List.mem_of_getElem? (i := 11) rfl)
theorem wm_25_12 : Cond.constantLong RX12 245 (108748) ∈ BIG := rb_25 _ (List.mem_of_getElem? (i := 12) rfl)
theorem wm_25_13 : Cond.fieldLink RX12 178 "EndsRoundModel" "told" "I" ∈ BIG := rb_25 _ (List.mem_of_getElem? (i := 13) rfl)
theorem wm_25_14 : Cond.fieldLink RX12 181 "EndsRoundModel" "token" "I" ∈ BIG := rb_25 _ (List.mem_of_getElem? (i := 14) rfl)
theorem wm_25_15 : Cond.constantLong RX12 247 (409469) ∈ BIG := rb_25 _ (List.mem_of_getElem? (i := 15) rfl)
theorem wm_25_16 : Cond.constantLong RX12 261 (9741983) ∈ BIG := rb_25 _ (List.mem_of_getElem? (i := 16) rfl)
theorem wm_25_17 : Cond.constantLong RX12 263 (12391871) ∈ BIG := rb_25 _ (List.mem_of_getElem? (i := 17) rfl)
theorem wm_25_18 : Cond.constantLong RX12 267 (121898) ∈ BIG := rb_25 _ (List.mem_of_getElem? (i := 18) rfl)
theorem wm_25_19 : Cond.constantLong RX12 269 (464134) ∈ BIG := rb_25 _ (List.mem_of_getElem? (i := 19) rfl)
theorem wm_25_20 : Cond.constantLong RX12 275 (1503) ∈ BIG := rb_25 _ (List.mem_of_getElem? (i := 20) rfl)
theorem wm_25_21 : Cond.methodLink RX12 229 yX12_nextToken ∈ BIG := rb_25 _ (List.mem_of_getElem? (i := 21) rfl)
theorem wm_25_22 : Cond.instanceMethod yX12_nextToken ∈ BIG := rb_25 _ (List.mem_of_getElem? (i := 22) rfl)
theorem wm_25_23 : Cond.selects RX12 yX12_nextToken yX12_nextToken ∈ BIG := rb_25 _ (List.mem_of_getElem? (i := 23) rfl)
theorem wm_26_0 : Cond.code yX12_nextToken cX12_nextToken 2 none ∈ BIG := rb_26 _ (List.mem_of_getElem? (i := 0) rfl)
theorem wm_26_1 : Cond.fieldLink RX12 171 "EndsRoundModel" "begin" "I" ∈ BIG := rb_26 _ (List.mem_of_getElem? (i := 1) rfl)
theorem wm_26_2 : Cond.fieldLink RX12 174 "EndsRoundModel" "word" "J" ∈ BIG := rb_26 _ (List.mem_of_getElem? (i := 2) rfl)
theorem wm_26_3 : Cond.constantLong RX12 188 (27) ∈ BIG := rb_26 _ (List.mem_of_getElem? (i := 3) rfl)
theorem wm_26_4 : Cond.constantLong RX12 190 (96) ∈ BIG := rb_26 _ (List.mem_of_getElem? (i := 4) rfl)
theorem wm_26_5 : Cond.methodLink RX12 184 yX12_signAt ∈ BIG := rb_26 _ (List.mem_of_getElem? (i := 5) rfl)
theorem wm_26_6 : Cond.instanceMethod yX12_signAt ∈ BIG := rb_26 _ (List.mem_of_getElem? (i := 6) rfl)
theorem wm_26_7 : Cond.selects RX12 yX12_signAt yX12_signAt ∈ BIG := rb_26 _ (List.mem_of_getElem? (i := 7) rfl)
theorem wm_26_8 : Cond.code yX12_signAt cX12_signAt 2 (some .int) ∈ BIG := rb_26 _ (List.mem_of_getElem? (i := 8) rfl)
theorem wm_26_9 : Cond.methodLink RX12 310 yX12_needsWord ∈ BIG := rb_26 _ (List.mem_of_getElem? (i := 9) rfl)
theorem wm_26_10 : Cond.instanceMethod yX12_needsWord ∈ BIG := rb_26 _ (List.mem_of_getElem? (i := 10) rfl)
theorem wm_26_11 : Cond.selects RX12 yX12_needsWord yX12_needsWord ∈ BIG := rb_26 _ (List.mem_of_getElem? (i := 11) rfl)
theorem wm_26_12 : Cond.code yX12_needsWord cX12_needsWord 3 (some .boolean) ∈ BIG := rb_26 _ (List.mem_of_getElem? (i := 12) rfl)
theorem wm_26_13 : Cond.methodLink RX12 214 yX12_isWord ∈ BIG := rb_26 _ (List.mem_of_getElem? (i := 13) rfl)
theorem wm_26_14 : Cond.instanceMethod yX12_isWord ∈ BIG := rb_26 _ (List.mem_of_getElem? (i := 14) rfl)
theorem wm_26_15 : Cond.selects RX12 yX12_isWord yX12_isWord ∈ BIG := rb_26 _ (List.mem_of_getElem? (i := 15) rfl)
theorem wm_26_16 : Cond.code yX12_isWord cX12_isWord 3 (some .boolean) ∈ BIG := rb_26 _ (List.mem_of_getElem? (i := 16) rfl)
theorem wm_26_17 : Cond.methodLink RX12 222 yX12_fails ∈ BIG := rb_26 _ (List.mem_of_getElem? (i := 17) rfl)
theorem wm_26_18 : Cond.instanceMethod yX12_fails ∈ BIG := rb_26 _ (List.mem_of_getElem? (i := 18) rfl)
theorem wm_26_19 : Cond.selects RX12 yX12_fails yX12_fails ∈ BIG := rb_26 _ (List.mem_of_getElem? (i := 19) rfl)
theorem wm_26_20 : Cond.code yX12_fails cX12_fails 2 (some .boolean) ∈ BIG := rb_26 _ (List.mem_of_getElem? (i := 20) rfl)
theorem wm_26_21 : Cond.methodLink RX12 290 yX12_needsNumber ∈ BIG := rb_26 _ (List.mem_of_getElem? (i := 21) rfl)
theorem wm_26_22 : Cond.instanceMethod yX12_needsNumber ∈ BIG := rb_26 _ (List.mem_of_getElem? (i := 22) rfl)
theorem wm_26_23 : Cond.selects RX12 yX12_needsNumber yX12_needsNumber ∈ BIG := rb_26 _ (List.mem_of_getElem? (i := 23) rfl)
theorem wm_27_0 : Cond.code yX12_needsNumber cX12_needsNumber 3 (some .boolean) ∈ BIG := rb_27 _ (List.mem_of_getElem? (i := 0) rfl)
theorem wm_27_1 : Cond.methodLink RX12 277 yX12_within ∈ BIG := rb_27 _ (List.mem_of_getElem? (i := 1) rfl)
theorem wm_27_2 : Cond.static yX12_within ∈ BIG := rb_27 _ (List.mem_of_getElem? (i := 2) rfl)
theorem wm_27_3 : Cond.code yX12_within cX12_within 3 (some .boolean) ∈ BIG := rb_27 _ (List.mem_of_getElem? (i := 3) rfl)
theorem wm_27_4 : Cond.methodLink RX12 305 yX12_ends ∈ BIG := rb_27 _ (List.mem_of_getElem? (i := 4) rfl)
theorem wm_27_5 : Cond.instanceMethod yX12_ends ∈ BIG := rb_27 _ (List.mem_of_getElem? (i := 5) rfl)
theorem wm_27_6 : Cond.selects RX12 yX12_ends yX12_ends ∈ BIG := rb_27 _ (List.mem_of_getElem? (i := 6) rfl)
theorem wm_27_7 : Cond.code yX12_ends cX12_ends 1 (some .boolean) ∈ BIG := rb_27 _ (List.mem_of_getElem? (i := 7) rfl)
theorem wm_27_8 : Cond.methodLink RX12 218 yX12_isSign ∈ BIG := rb_27 _ (List.mem_of_getElem? (i := 8) rfl)
theorem wm_27_9 : Cond.instanceMethod yX12_isSign ∈ BIG := rb_27 _ (List.mem_of_getElem? (i := 9) rfl)
theorem wm_27_10 : Cond.selects RX12 yX12_isSign yX12_isSign ∈ BIG := rb_27 _ (List.mem_of_getElem? (i := 10) rfl)
theorem wm_27_11 : Cond.code yX12_isSign cX12_isSign 2 (some .boolean) ∈ BIG := rb_27 _ (List.mem_of_getElem? (i := 11) rfl)
theorem wm_27_12 : Cond.methodLink RX12 331 yX12_readsTurn ∈ BIG := rb_27 _ (List.mem_of_getElem? (i := 12) rfl)
theorem wm_27_13 : Cond.instanceMethod yX12_readsTurn ∈ BIG := rb_27 _ (List.mem_of_getElem? (i := 13) rfl)
theorem wm_27_14 : Cond.selects RX12 yX12_readsTurn yX12_readsTurn ∈ BIG := rb_27 _ (List.mem_of_getElem? (i := 14) rfl)
theorem wm_27_15 : Cond.code yX12_readsTurn cX12_readsTurn 1 (some .boolean) ∈ BIG := rb_27 _ (List.mem_of_getElem? (i := 15) rfl)
theorem wm_27_16 : Cond.methodLink RX12 301 yX12_readsStep ∈ BIG := rb_27 _ (List.mem_of_getElem? (i := 16) rfl)
theorem wm_27_17 : Cond.instanceMethod yX12_readsStep ∈ BIG := rb_27 _ (List.mem_of_getElem? (i := 17) rfl)
theorem wm_27_18 : Cond.selects RX12 yX12_readsStep yX12_readsStep ∈ BIG := rb_27 _ (List.mem_of_getElem? (i := 18) rfl)
theorem wm_27_19 : Cond.code yX12_readsStep cX12_readsStep 6 (some .boolean) ∈ BIG := rb_27 _ (List.mem_of_getElem? (i := 19) rfl)
theorem wm_27_20 : Cond.methodLink RX12 284 yX12_stepKind ∈ BIG := rb_27 _ (List.mem_of_getElem? (i := 20) rfl)
theorem wm_27_21 : Cond.instanceMethod yX12_stepKind ∈ BIG := rb_27 _ (List.mem_of_getElem? (i := 21) rfl)
theorem wm_27_22 : Cond.selects RX12 yX12_stepKind yX12_stepKind ∈ BIG := rb_27 _ (List.mem_of_getElem? (i := 22) rfl)
theorem wm_27_23 : Cond.code yX12_stepKind cX12_stepKind 1 (some .int) ∈ BIG := rb_27 _ (List.mem_of_getElem? (i := 23) rfl)
theorem wm_28_0 : Cond.constantLong RX12 249 (281322597) ∈ BIG := rb_28 _ (List.mem_of_getElem? (i := 0) rfl)
theorem wm_28_1 : Cond.constantLong RX12 251 (40187) ∈ BIG := rb_28 _ (List.mem_of_getElem? (i := 1) rfl)
theorem wm_28_2 : Cond.constantLong RX12 253 (115575085) ∈ BIG := rb_28 _ (List.mem_of_getElem? (i := 2) rfl)
theorem wm_28_3 : Cond.constantLong RX12 255 (291420064) ∈ BIG := rb_28 _ (List.mem_of_getElem? (i := 3) rfl)
theorem wm_28_4 : Cond.constantLong RX12 257 (10261586) ∈ BIG := rb_28 _ (List.mem_of_getElem? (i := 4) rfl)
theorem wm_28_5 : Cond.constantLong RX12 259 (390787) ∈ BIG := rb_28 _ (List.mem_of_getElem? (i := 5) rfl)
theorem wm_28_6 : Cond.methodLink RX12 294 yX12_lays ∈ BIG := rb_28 _ (List.mem_of_getElem? (i := 6) rfl)
theorem wm_28_7 : Cond.instanceMethod yX12_lays ∈ BIG := rb_28 _ (List.mem_of_getElem? (i := 7) rfl)
theorem wm_28_8 : Cond.selects RX12 yX12_lays yX12_lays ∈ BIG := rb_28 _ (List.mem_of_getElem? (i := 8) rfl)
theorem wm_28_9 : Cond.code yX12_lays cX12_lays 8 none ∈ BIG := rb_28 _ (List.mem_of_getElem? (i := 9) rfl)
theorem wm_28_10 : Cond.methodLink RX12 298 yX12_turns ∈ BIG := rb_28 _ (List.mem_of_getElem? (i := 10) rfl)
theorem wm_28_11 : Cond.instanceMethod yX12_turns ∈ BIG := rb_28 _ (List.mem_of_getElem? (i := 11) rfl)
theorem wm_28_12 : Cond.selects RX12 yX12_turns yX12_turns ∈ BIG := rb_28 _ (List.mem_of_getElem? (i := 12) rfl)
theorem wm_28_13 : Cond.code yX12_turns cX12_turns 2 none ∈ BIG := rb_28 _ (List.mem_of_getElem? (i := 13) rfl)
theorem wm_28_14 : Cond.methodLink RX12 334 yX12_readsRhyme ∈ BIG := rb_28 _ (List.mem_of_getElem? (i := 14) rfl)
theorem wm_28_15 : Cond.instanceMethod yX12_readsRhyme ∈ BIG := rb_28 _ (List.mem_of_getElem? (i := 15) rfl)
theorem wm_28_16 : Cond.selects RX12 yX12_readsRhyme yX12_readsRhyme ∈ BIG := rb_28 _ (List.mem_of_getElem? (i := 16) rfl)
theorem wm_28_17 : Cond.code yX12_readsRhyme cX12_readsRhyme 1 (some .boolean) ∈ BIG := rb_28 _ (List.mem_of_getElem? (i := 17) rfl)
theorem wm_28_18 : Cond.methodLink RX12 337 yX12_readsWhole ∈ BIG := rb_28 _ (List.mem_of_getElem? (i := 18) rfl)
theorem wm_28_19 : Cond.instanceMethod yX12_readsWhole ∈ BIG := rb_28 _ (List.mem_of_getElem? (i := 19) rfl)
theorem wm_28_20 : Cond.selects RX12 yX12_readsWhole yX12_readsWhole ∈ BIG := rb_28 _ (List.mem_of_getElem? (i := 20) rfl)
theorem wm_28_21 : Cond.code yX12_readsWhole cX12_readsWhole 2 (some .boolean) ∈ BIG := rb_28 _ (List.mem_of_getElem? (i := 21) rfl)
theorem wm_28_22 : Cond.constantLong RX12 265 (3094387) ∈ BIG := rb_28 _ (List.mem_of_getElem? (i := 22) rfl)
theorem wm_28_23 : Cond.methodLink RX12 340 yX12_readsFeet ∈ BIG := rb_28 _ (List.mem_of_getElem? (i := 23) rfl)
theorem wm_29_0 : Cond.instanceMethod yX12_readsFeet ∈ BIG := rb_29 _ (List.mem_of_getElem? (i := 0) rfl)
theorem wm_29_1 : Cond.selects RX12 yX12_readsFeet yX12_readsFeet ∈ BIG := rb_29 _ (List.mem_of_getElem? (i := 1) rfl)
theorem wm_29_2 : Cond.code yX12_readsFeet cX12_readsFeet 1 (some .boolean) ∈ BIG := rb_29 _ (List.mem_of_getElem? (i := 2) rfl)
theorem wm_29_3 : Cond.methodLink RX12 343 yX12_readsEntry ∈ BIG := rb_29 _ (List.mem_of_getElem? (i := 3) rfl)
theorem wm_29_4 : Cond.instanceMethod yX12_readsEntry ∈ BIG := rb_29 _ (List.mem_of_getElem? (i := 4) rfl)
theorem wm_29_5 : Cond.selects RX12 yX12_readsEntry yX12_readsEntry ∈ BIG := rb_29 _ (List.mem_of_getElem? (i := 5) rfl)
theorem wm_29_6 : Cond.code yX12_readsEntry cX12_readsEntry 2 (some .boolean) ∈ BIG := rb_29 _ (List.mem_of_getElem? (i := 6) rfl)
theorem wm_29_7 : Cond.constantLong RX12 271 (1162585) ∈ BIG := rb_29 _ (List.mem_of_getElem? (i := 7) rfl)
theorem wm_29_8 : Cond.constantLong RX12 273 (223456) ∈ BIG := rb_29 _ (List.mem_of_getElem? (i := 8) rfl)
theorem wm_29_9 : Cond.methodLink RX12 322 yX12_isKept ∈ BIG := rb_29 _ (List.mem_of_getElem? (i := 9) rfl)
theorem wm_29_10 : Cond.instanceMethod yX12_isKept ∈ BIG := rb_29 _ (List.mem_of_getElem? (i := 10) rfl)
theorem wm_29_11 : Cond.selects RX12 yX12_isKept yX12_isKept ∈ BIG := rb_29 _ (List.mem_of_getElem? (i := 11) rfl)
theorem wm_29_12 : Cond.code yX12_isKept cX12_isKept 1 (some .boolean) ∈ BIG := rb_29 _ (List.mem_of_getElem? (i := 12) rfl)
theorem wm_29_13 : Cond.constantLong RX12 212 (10631) ∈ BIG := rb_29 _ (List.mem_of_getElem? (i := 13) rfl)
theorem wm_29_14 : Cond.constantLong RX12 232 (1111) ∈ BIG := rb_29 _ (List.mem_of_getElem? (i := 14) rfl)
theorem wm_29_15 : Cond.constantLong RX12 234 (423) ∈ BIG := rb_29 _ (List.mem_of_getElem? (i := 15) rfl)
theorem wm_29_16 : Cond.methodLink RX12 346 yX12_readsBar ∈ BIG := rb_29 _ (List.mem_of_getElem? (i := 16) rfl)
theorem wm_29_17 : Cond.instanceMethod yX12_readsBar ∈ BIG := rb_29 _ (List.mem_of_getElem? (i := 17) rfl)
theorem wm_29_18 : Cond.selects RX12 yX12_readsBar yX12_readsBar ∈ BIG := rb_29 _ (List.mem_of_getElem? (i := 18) rfl)
theorem wm_29_19 : Cond.code yX12_readsBar cX12_readsBar 1 (some .boolean) ∈ BIG := rb_29 _ (List.mem_of_getElem? (i := 19) rfl)
theorem wm_29_20 : Cond.methodLink RX12 328 yX12_reads ∈ BIG := rb_29 _ (List.mem_of_getElem? (i := 20) rfl)
theorem wm_29_21 : Cond.instanceMethod yX12_reads ∈ BIG := rb_29 _ (List.mem_of_getElem? (i := 21) rfl)
theorem wm_29_22 : Cond.selects RX12 yX12_reads yX12_reads ∈ BIG := rb_29 _ (List.mem_of_getElem? (i := 22) rfl)
theorem wm_29_23 : Cond.code yX12_reads cX12_reads 6 (some .boolean) ∈ BIG := rb_29 _ (List.mem_of_getElem? (i := 23) rfl)
theorem wm_30_0 : Cond.methodLink RX12 208 yX12_fact ∈ BIG := rb_30 _ (List.mem_of_getElem? (i := 0) rfl)
theorem wm_30_1 : Cond.instanceMethod yX12_fact ∈ BIG := rb_30 _ (List.mem_of_getElem? (i := 1) rfl)
theorem wm_30_2 : Cond.selects RX12 yX12_fact yX12_fact ∈ BIG := rb_30 _ (List.mem_of_getElem? (i := 2) rfl)
theorem wm_30_3 : Cond.code yX12_fact cX12_fact 1 (some .int) ∈ BIG := rb_30 _ (List.mem_of_getElem? (i := 3) rfl)
theorem wm_30_4 : Cond.constantLong RX12 198 (385418) ∈ BIG := rb_30 _ (List.mem_of_getElem? (i := 4) rfl)
theorem wm_30_5 : Cond.constantLong RX12 200 (279875) ∈ BIG := rb_30 _ (List.mem_of_getElem? (i := 5) rfl)
theorem wm_30_6 : Cond.constantLong RX12 202 (247516) ∈ BIG := rb_30 _ (List.mem_of_getElem? (i := 6) rfl)
theorem wm_30_7 : Cond.constantLong RX12 204 (10266284) ∈ BIG := rb_30 _ (List.mem_of_getElem? (i := 7) rfl)
theorem wm_30_8 : Cond.constantLong RX12 206 (774500) ∈ BIG := rb_30 _ (List.mem_of_getElem? (i := 8) rfl)
theorem wm_30_9 : Cond.methodLink RX12 225 yX12_puts ∈ BIG := rb_30 _ (List.mem_of_getElem? (i := 9) rfl)
theorem wm_30_10 : Cond.instanceMethod yX12_puts ∈ BIG := rb_30 _ (List.mem_of_getElem? (i := 10) rfl)
theorem wm_30_11 : Cond.selects RX12 yX12_puts yX12_puts ∈ BIG := rb_30 _ (List.mem_of_getElem? (i := 11) rfl)
theorem wm_30_12 : Cond.code yX12_puts cX12_puts 2 none ∈ BIG := rb_30 _ (List.mem_of_getElem? (i := 12) rfl)
theorem wm_30_13 : Cond.methodLink RX12 370 yX12_bars ∈ BIG := rb_30 _ (List.mem_of_getElem? (i := 13) rfl)
theorem wm_30_14 : Cond.instanceMethod yX12_bars ∈ BIG := rb_30 _ (List.mem_of_getElem? (i := 14) rfl)
theorem wm_30_15 : Cond.selects RX12 yX12_bars yX12_bars ∈ BIG := rb_30 _ (List.mem_of_getElem? (i := 15) rfl)
theorem wm_30_16 : Cond.code yX12_bars cX12_bars 4 (some .boolean) ∈ BIG := rb_30 _ (List.mem_of_getElem? (i := 16) rfl)
theorem wm_30_17 : Cond.methodLink RX12 375 yX12_worked ∈ BIG := rb_30 _ (List.mem_of_getElem? (i := 17) rfl)
theorem wm_30_18 : Cond.instanceMethod yX12_worked ∈ BIG := rb_30 _ (List.mem_of_getElem? (i := 18) rfl)
theorem wm_30_19 : Cond.selects RX12 yX12_worked yX12_worked ∈ BIG := rb_30 _ (List.mem_of_getElem? (i := 19) rfl)
theorem wm_30_20 : Cond.code yX12_worked cX12_worked 6 (some .int) ∈ BIG := rb_30 _ (List.mem_of_getElem? (i := 20) rfl)
theorem wm_30_21 : Cond.methodLink RX12 239 yX12_opens ∈ BIG := rb_30 _ (List.mem_of_getElem? (i := 21) rfl)
theorem wm_30_22 : Cond.instanceMethod yX12_opens ∈ BIG := rb_30 _ (List.mem_of_getElem? (i := 22) rfl)
theorem wm_30_23 : Cond.selects RX12 yX12_opens yX12_opens ∈ BIG := rb_30 _ (List.mem_of_getElem? (i := 23) rfl)
theorem wm_31_0 : Cond.code yX12_opens cX12_opens 2 none ∈ BIG := rb_31 _ (List.mem_of_getElem? (i := 0) rfl)
theorem wm_31_1 : Cond.methodLink RX12 236 yX12_sums ∈ BIG := rb_31 _ (List.mem_of_getElem? (i := 1) rfl)
theorem wm_31_2 : Cond.instanceMethod yX12_sums ∈ BIG := rb_31 _ (List.mem_of_getElem? (i := 2) rfl)
theorem wm_31_3 : Cond.selects RX12 yX12_sums yX12_sums ∈ BIG := rb_31 _ (List.mem_of_getElem? (i := 3) rfl)
theorem wm_31_4 : Cond.code yX12_sums cX12_sums 2 none ∈ BIG := rb_31 _ (List.mem_of_getElem? (i := 4) rfl)
theorem wm_31_5 : Cond.methodLink RX12 242 yX12_tests ∈ BIG := rb_31 _ (List.mem_of_getElem? (i := 5) rfl)
theorem wm_31_6 : Cond.instanceMethod yX12_tests ∈ BIG := rb_31 _ (List.mem_of_getElem? (i := 6) rfl)
theorem wm_31_7 : Cond.selects RX12 yX12_tests yX12_tests ∈ BIG := rb_31 _ (List.mem_of_getElem? (i := 7) rfl)
theorem wm_31_8 : Cond.code yX12_tests cX12_tests 3 none ∈ BIG := rb_31 _ (List.mem_of_getElem? (i := 8) rfl)
theorem wm_31_9 : Cond.methodLink RL 31 yX11_turning ∈ BIG := rb_31 _ (List.mem_of_getElem? (i := 9) rfl)
theorem wm_31_10 : Cond.instanceMethod yX11_turning ∈ BIG := rb_31 _ (List.mem_of_getElem? (i := 10) rfl)
theorem wm_31_11 : Cond.selects RX11 yX11_turning yX11_turning ∈ BIG := rb_31 _ (List.mem_of_getElem? (i := 11) rfl)
theorem wm_31_12 : Cond.code yX11_turning cX11_turning 3 (some .int) ∈ BIG := rb_31 _ (List.mem_of_getElem? (i := 12) rfl)
theorem wm_31_13 : Cond.methodLink RX11 121 yX11_isEnd ∈ BIG := rb_31 _ (List.mem_of_getElem? (i := 13) rfl)
theorem wm_31_14 : Cond.instanceMethod yX11_isEnd ∈ BIG := rb_31 _ (List.mem_of_getElem? (i := 14) rfl)
theorem wm_31_15 : Cond.selects RX11 yX11_isEnd yX11_isEnd ∈ BIG := rb_31 _ (List.mem_of_getElem? (i := 15) rfl)
theorem wm_31_16 : Cond.code yX11_isEnd cX11_isEnd 2 (some .boolean) ∈ BIG := rb_31 _ (List.mem_of_getElem? (i := 16) rfl)
theorem wm_31_17 : Cond.methodLink RX11 128 yX11_cell ∈ BIG := rb_31 _ (List.mem_of_getElem? (i := 17) rfl)
theorem wm_31_18 : Cond.methodLink RL 35 yX12_turning ∈ BIG := rb_31 _ (List.mem_of_getElem? (i := 18) rfl)
theorem wm_31_19 : Cond.instanceMethod yX12_turning ∈ BIG := rb_31 _ (List.mem_of_getElem? (i := 19) rfl)
theorem wm_31_20 : Cond.selects RX12 yX12_turning yX12_turning ∈ BIG := rb_31 _ (List.mem_of_getElem? (i := 20) rfl)
theorem wm_31_21 : Cond.code yX12_turning cX12_turning 3 (some .int) ∈ BIG := rb_31 _ (List.mem_of_getElem? (i := 21) rfl)
theorem wm_31_22 : Cond.methodLink RX12 378 yX12_isPlace ∈ BIG := rb_31 _ (List.mem_of_getElem? (i := 22) rfl)
theorem wm_31_23 : Cond.instanceMethod yX12_isPlace ∈ BIG := rb_31 _ (List.mem_of_getElem? (i := 23) rfl)
theorem wm_32_0 : Cond.selects RX12 yX12_isPlace yX12_isPlace ∈ BIG := rb_32 _ (List.mem_of_getElem? (i := 0) rfl)
theorem wm_32_1 : Cond.code yX12_isPlace cX12_isPlace 2 (some .boolean) ∈ BIG := rb_32 _ (List.mem_of_getElem? (i := 1) rfl)
theorem wm_32_2 : Cond.methodLink RX12 381 yX12_goesTo ∈ BIG := rb_32 _ (List.mem_of_getElem? (i := 2) rfl)
theorem wm_32_3 : Cond.instanceMethod yX12_goesTo ∈ BIG := rb_32 _ (List.mem_of_getElem? (i := 3) rfl)
theorem wm_32_4 : Cond.selects RX12 yX12_goesTo yX12_goesTo ∈ BIG := rb_32 _ (List.mem_of_getElem? (i := 4) rfl)
theorem wm_32_5 : Cond.code yX12_goesTo cX12_goesTo 3 (some .int) ∈ BIG := rb_32 _ (List.mem_of_getElem? (i := 5) rfl)
theorem wm_32_6 : Cond.methodLink RX12 384 yX12_cycleOf ∈ BIG := rb_32 _ (List.mem_of_getElem? (i := 6) rfl)
theorem wm_32_7 : Cond.instanceMethod yX12_cycleOf ∈ BIG := rb_32 _ (List.mem_of_getElem? (i := 7) rfl)
theorem wm_32_8 : Cond.selects RX12 yX12_cycleOf yX12_cycleOf ∈ BIG := rb_32 _ (List.mem_of_getElem? (i := 8) rfl)
theorem wm_32_9 : Cond.code yX12_cycleOf cX12_cycleOf 4 (some .int) ∈ BIG := rb_32 _ (List.mem_of_getElem? (i := 9) rfl)
theorem wm_32_10 : Cond.methodLink RL 36 yX11_end ∈ BIG := rb_32 _ (List.mem_of_getElem? (i := 10) rfl)
theorem wm_32_11 : Cond.instanceMethod yX11_end ∈ BIG := rb_32 _ (List.mem_of_getElem? (i := 11) rfl)
theorem wm_32_12 : Cond.selects RX11 yX11_end yX11_end ∈ BIG := rb_32 _ (List.mem_of_getElem? (i := 12) rfl)
theorem wm_32_13 : Cond.code yX11_end cX11_end 4 (some .int) ∈ BIG := rb_32 _ (List.mem_of_getElem? (i := 13) rfl)
theorem wm_32_14 : Cond.methodLink RX11 141 yX11_isStanza ∈ BIG := rb_32 _ (List.mem_of_getElem? (i := 14) rfl)
theorem wm_32_15 : Cond.static yX11_isStanza ∈ BIG := rb_32 _ (List.mem_of_getElem? (i := 15) rfl)
theorem wm_32_16 : Cond.code yX11_isStanza cX11_isStanza 2 (some .boolean) ∈ BIG := rb_32 _ (List.mem_of_getElem? (i := 16) rfl)
theorem wm_32_17 : Cond.constantLong RX11 305 (1000000000000000) ∈ BIG := rb_32 _ (List.mem_of_getElem? (i := 17) rfl)
theorem wm_32_18 : Cond.methodLink RX11 145 yX9_endAt ∈ BIG := rb_32 _ (List.mem_of_getElem? (i := 18) rfl)
theorem wm_32_19 : Cond.instanceMethod yX9_endAt ∈ BIG := rb_32 _ (List.mem_of_getElem? (i := 19) rfl)
theorem wm_32_20 : Cond.selects RX9 yX9_endAt yX9_endAt ∈ BIG := rb_32 _ (List.mem_of_getElem? (i := 20) rfl)
theorem wm_32_21 : Cond.code yX9_endAt cX9_endAt 4 (some .int) ∈ BIG := rb_32 _ (List.mem_of_getElem? (i := 21) rfl)
theorem wm_32_22 : Cond.methodLink RX9 96 yX9_walk ∈ BIG := rb_32 _ (List.mem_of_getElem? (i := 22) rfl)
theorem wm_32_23 : Cond.instanceMethod yX9_walk ∈ BIG := rb_32 _ (List.mem_of_getElem? (i := 23) rfl)
theorem wm_33_0 : Cond.selects RX9 yX9_walk yX9_walk ∈ BIG := rb_33 _ (List.mem_of_getElem? (i := 0) rfl)
theorem wm_33_1 : Cond.code yX9_walk cX9_walk 11 (some .int) ∈ BIG := rb_33 _ (List.mem_of_getElem? (i := 1) rfl)
theorem wm_33_2 : Cond.methodLink RL 40 yX12_end ∈ BIG := rb_33 _ (List.mem_of_getElem? (i := 2) rfl)
theorem wm_33_3 : Cond.instanceMethod yX12_end ∈ BIG := rb_33 _ (List.mem_of_getElem? (i := 3) rfl)
theorem wm_33_4 : Cond.selects RX12 yX12_end yX12_end ∈ BIG := rb_33 _ (List.mem_of_getElem? (i := 4) rfl)
theorem wm_33_5 : Cond.code yX12_end cX12_end 4 (some .int) ∈ BIG := rb_33 _ (List.mem_of_getElem? (i := 5) rfl)
theorem wm_33_6 : Cond.methodLink RX12 393 yX12_isStanza ∈ BIG := rb_33 _ (List.mem_of_getElem? (i := 6) rfl)
theorem wm_33_7 : Cond.static yX12_isStanza ∈ BIG := rb_33 _ (List.mem_of_getElem? (i := 7) rfl)
theorem wm_33_8 : Cond.code yX12_isStanza cX12_isStanza 2 (some .boolean) ∈ BIG := rb_33 _ (List.mem_of_getElem? (i := 8) rfl)
theorem wm_33_9 : Cond.constantLong RX12 387 (1000000000000000) ∈ BIG := rb_33 _ (List.mem_of_getElem? (i := 9) rfl)
theorem wm_33_10 : Cond.methodLink RX12 389 yX12_endAt ∈ BIG := rb_33 _ (List.mem_of_getElem? (i := 10) rfl)
theorem wm_33_11 : Cond.instanceMethod yX12_endAt ∈ BIG := rb_33 _ (List.mem_of_getElem? (i := 11) rfl)
theorem wm_33_12 : Cond.selects RX12 yX12_endAt yX12_endAt ∈ BIG := rb_33 _ (List.mem_of_getElem? (i := 12) rfl)
theorem wm_33_13 : Cond.code yX12_endAt cX12_endAt 6 (some .int) ∈ BIG := rb_33 _ (List.mem_of_getElem? (i := 13) rfl)
theorem wm_33_14 : Cond.methodLink RL 41 yX11_where ∈ BIG := rb_33 _ (List.mem_of_getElem? (i := 14) rfl)
theorem wm_33_15 : Cond.instanceMethod yX11_where ∈ BIG := rb_33 _ (List.mem_of_getElem? (i := 15) rfl)
theorem wm_33_16 : Cond.selects RX11 yX11_where yX11_where ∈ BIG := rb_33 _ (List.mem_of_getElem? (i := 16) rfl)
theorem wm_33_17 : Cond.code yX11_where cX11_where 4 (some .int) ∈ BIG := rb_33 _ (List.mem_of_getElem? (i := 17) rfl)
theorem wm_33_18 : Cond.methodLink RX11 149 yX9_placeOf ∈ BIG := rb_33 _ (List.mem_of_getElem? (i := 18) rfl)
theorem wm_33_19 : Cond.instanceMethod yX9_placeOf ∈ BIG := rb_33 _ (List.mem_of_getElem? (i := 19) rfl)
theorem wm_33_20 : Cond.selects RX9 yX9_placeOf yX9_placeOf ∈ BIG := rb_33 _ (List.mem_of_getElem? (i := 20) rfl)
theorem wm_33_21 : Cond.code yX9_placeOf cX9_placeOf 4 (some .int) ∈ BIG := rb_33 _ (List.mem_of_getElem? (i := 21) rfl)
theorem wm_33_22 : Cond.methodLink RL 44 yX12_where ∈ BIG := rb_33 _ (List.mem_of_getElem? (i := 22) rfl)
theorem wm_33_23 : Cond.instanceMethod yX12_where ∈ BIG := rb_33 _ (List.mem_of_getElem? (i := 23) rfl)
theorem wm_34_0 : Cond.selects RX12 yX12_where yX12_where ∈ BIG := rb_34 _ (List.mem_of_getElem? (i := 0) rfl)
theorem wm_34_1 : Cond.code yX12_where cX12_where 4 (some .int) ∈ BIG := rb_34 _ (List.mem_of_getElem? (i := 1) rfl)
theorem wm_34_2 : Cond.methodLink RX12 396 yX12_whereIs ∈ BIG := rb_34 _ (List.mem_of_getElem? (i := 2) rfl)
theorem wm_34_3 : Cond.instanceMethod yX12_whereIs ∈ BIG := rb_34 _ (List.mem_of_getElem? (i := 3) rfl)
theorem wm_34_4 : Cond.selects RX12 yX12_whereIs yX12_whereIs ∈ BIG := rb_34 _ (List.mem_of_getElem? (i := 4) rfl)
theorem wm_34_5 : Cond.code yX12_whereIs cX12_whereIs 5 (some .int) ∈ BIG := rb_34 _ (List.mem_of_getElem? (i := 5) rfl)
theorem wm_34_6 : Cond.methodLink RL 45 yX11_meets ∈ BIG := rb_34 _ (List.mem_of_getElem? (i := 6) rfl)
theorem wm_34_7 : Cond.instanceMethod yX11_meets ∈ BIG := rb_34 _ (List.mem_of_getElem? (i := 7) rfl)
theorem wm_34_8 : Cond.selects RX11 yX11_meets yX11_meets ∈ BIG := rb_34 _ (List.mem_of_getElem? (i := 8) rfl)
theorem wm_34_9 : Cond.code yX11_meets cX11_meets 3 (some .int) ∈ BIG := rb_34 _ (List.mem_of_getElem? (i := 9) rfl)
theorem wm_34_10 : Cond.methodLink RX11 152 yX9_firstMeeting ∈ BIG := rb_34 _ (List.mem_of_getElem? (i := 10) rfl)
theorem wm_34_11 : Cond.instanceMethod yX9_firstMeeting ∈ BIG := rb_34 _ (List.mem_of_getElem? (i := 11) rfl)
theorem wm_34_12 : Cond.selects RX9 yX9_firstMeeting yX9_firstMeeting ∈ BIG := rb_34 _ (List.mem_of_getElem? (i := 12) rfl)
theorem wm_34_13 : Cond.code yX9_firstMeeting cX9_firstMeeting 5 (some .int) ∈ BIG := rb_34 _ (List.mem_of_getElem? (i := 13) rfl)
theorem wm_34_14 : Cond.methodLink RL 48 yX12_meets ∈ BIG := rb_34 _ (List.mem_of_getElem? (i := 14) rfl)
theorem wm_34_15 : Cond.instanceMethod yX12_meets ∈ BIG := rb_34 _ (List.mem_of_getElem? (i := 15) rfl)
theorem wm_34_16 : Cond.selects RX12 yX12_meets yX12_meets ∈ BIG := rb_34 _ (List.mem_of_getElem? (i := 16) rfl)
theorem wm_34_17 : Cond.code yX12_meets cX12_meets 4 (some .int) ∈ BIG := rb_34 _ (List.mem_of_getElem? (i := 17) rfl)
theorem wm_34_18 : Cond.methodLink RL 49 yX11_round ∈ BIG := rb_34 _ (List.mem_of_getElem? (i := 18) rfl)
theorem wm_34_19 : Cond.instanceMethod yX11_round ∈ BIG := rb_34 _ (List.mem_of_getElem? (i := 19) rfl)
theorem wm_34_20 : Cond.selects RX11 yX11_round yX11_round ∈ BIG := rb_34 _ (List.mem_of_getElem? (i := 20) rfl)
theorem wm_34_21 : Cond.code yX11_round cX11_round 2 (some .int) ∈ BIG := rb_34 _ (List.mem_of_getElem? (i := 21) rfl)
theorem wm_34_22 : Cond.methodLink RL 52 yX12_round ∈ BIG := rb_34 _ (List.mem_of_getElem? (i := 22) rfl)
theorem wm_34_23 : Cond.instanceMethod yX12_round ∈ BIG := rb_34 _ (List.mem_of_getElem? (i := 23) rfl)
theorem wm_35_0 : Cond.selects RX12 yX12_round yX12_round ∈ BIG := rb_35 _ (List.mem_of_getElem? (i := 0) rfl)
theorem wm_35_1 : Cond.code yX12_round cX12_round 6 (some .int) ∈ BIG := rb_35 _ (List.mem_of_getElem? (i := 1) rfl)
theorem wm_35_2 : Cond.methodLink RX12 406 Lib.Math.max.name ∈ BIG := rb_35 _ (List.mem_of_getElem? (i := 2) rfl)
theorem wm_35_3 : Cond.methodLink RX12 403 yX12_isLeast ∈ BIG := rb_35 _ (List.mem_of_getElem? (i := 3) rfl)
theorem wm_35_4 : Cond.instanceMethod yX12_isLeast ∈ BIG := rb_35 _ (List.mem_of_getElem? (i := 4) rfl)
theorem wm_35_5 : Cond.selects RX12 yX12_isLeast yX12_isLeast ∈ BIG := rb_35 _ (List.mem_of_getElem? (i := 5) rfl)
theorem wm_35_6 : Cond.code yX12_isLeast cX12_isLeast 3 (some .boolean) ∈ BIG := rb_35 _ (List.mem_of_getElem? (i := 6) rfl)
theorem wm_35_7 : Cond.methodLink RX12 411 yX12_roundIs ∈ BIG := rb_35 _ (List.mem_of_getElem? (i := 7) rfl)
theorem wm_35_8 : Cond.instanceMethod yX12_roundIs ∈ BIG := rb_35 _ (List.mem_of_getElem? (i := 8) rfl)
theorem wm_35_9 : Cond.selects RX12 yX12_roundIs yX12_roundIs ∈ BIG := rb_35 _ (List.mem_of_getElem? (i := 9) rfl)
theorem wm_35_10 : Cond.code yX12_roundIs cX12_roundIs 3 (some .int) ∈ BIG := rb_35 _ (List.mem_of_getElem? (i := 10) rfl)
theorem wm_35_11 : Cond.methodLink RX12 399 yX12_gcd ∈ BIG := rb_35 _ (List.mem_of_getElem? (i := 11) rfl)
theorem wm_35_12 : Cond.static yX12_gcd ∈ BIG := rb_35 _ (List.mem_of_getElem? (i := 12) rfl)
theorem wm_35_13 : Cond.code yX12_gcd cX12_gcd 5 (some .int) ∈ BIG := rb_35 _ (List.mem_of_getElem? (i := 13) rfl)
theorem wm_35_14 : Cond.methodLink RL 53 yX11_roots ∈ BIG := rb_35 _ (List.mem_of_getElem? (i := 14) rfl)
theorem wm_35_15 : Cond.instanceMethod yX11_roots ∈ BIG := rb_35 _ (List.mem_of_getElem? (i := 15) rfl)
theorem wm_35_16 : Cond.selects RX11 yX11_roots yX11_roots ∈ BIG := rb_35 _ (List.mem_of_getElem? (i := 16) rfl)
theorem wm_35_17 : Cond.code yX11_roots cX11_roots 4 (some .long) ∈ BIG := rb_35 _ (List.mem_of_getElem? (i := 17) rfl)
theorem wm_35_18 : Cond.methodLink RX11 172 yX1_ofLength ∈ BIG := rb_35 _ (List.mem_of_getElem? (i := 18) rfl)
theorem wm_35_19 : Cond.instanceMethod yX1_ofLength ∈ BIG := rb_35 _ (List.mem_of_getElem? (i := 19) rfl)
theorem wm_35_20 : Cond.selects RX1 yX1_ofLength yX1_ofLength ∈ BIG := rb_35 _ (List.mem_of_getElem? (i := 20) rfl)
theorem wm_35_21 : Cond.code yX1_ofLength cX1_ofLength 4 (some .int) ∈ BIG := rb_35 _ (List.mem_of_getElem? (i := 21) rfl)
theorem wm_35_22 : Cond.methodLink RX11 176 yX11_rootsOfAlike ∈ BIG := rb_35 _ (List.mem_of_getElem? (i := 22) rfl)
theorem wm_35_23 : Cond.static yX11_rootsOfAlike ∈ BIG := rb_35 _ (List.mem_of_getElem? (i := 23) rfl)
theorem wm_36_0 : Cond.code yX11_rootsOfAlike cX11_rootsOfAlike 11 (some .long) ∈ BIG := rb_36 _ (List.mem_of_getElem? (i := 0) rfl)
theorem wm_36_1 : Cond.methodLink RL 57 yX12_roots ∈ BIG := rb_36 _ (List.mem_of_getElem? (i := 1) rfl)
theorem wm_36_2 : Cond.instanceMethod yX12_roots ∈ BIG := rb_36 _ (List.mem_of_getElem? (i := 2) rfl)
theorem wm_36_3 : Cond.selects RX12 yX12_roots yX12_roots ∈ BIG := rb_36 _ (List.mem_of_getElem? (i := 3) rfl)
theorem wm_36_4 : Cond.code yX12_roots cX12_roots 6 (some .long) ∈ BIG := rb_36 _ (List.mem_of_getElem? (i := 4) rfl)
theorem wm_36_5 : Cond.methodLink RX12 414 yX12_rootsOf ∈ BIG := rb_36 _ (List.mem_of_getElem? (i := 5) rfl)
theorem wm_36_6 : Cond.static yX12_rootsOf ∈ BIG := rb_36 _ (List.mem_of_getElem? (i := 6) rfl)
theorem wm_36_7 : Cond.code yX12_rootsOf cX12_rootsOf 4 (some .long) ∈ BIG := rb_36 _ (List.mem_of_getElem? (i := 7) rfl)
theorem wm_36_8 : Cond.methodLink RL 58 yX11_spiral ∈ BIG := rb_36 _ (List.mem_of_getElem? (i := 8) rfl)
theorem wm_36_9 : Cond.instanceMethod yX11_spiral ∈ BIG := rb_36 _ (List.mem_of_getElem? (i := 9) rfl)
theorem wm_36_10 : Cond.selects RX11 yX11_spiral yX11_spiral ∈ BIG := rb_36 _ (List.mem_of_getElem? (i := 10) rfl)
theorem wm_36_11 : Cond.code yX11_spiral cX11_spiral 4 (some .int) ∈ BIG := rb_36 _ (List.mem_of_getElem? (i := 11) rfl)
theorem wm_36_12 : Cond.constantLong RX11 190 (1000000007) ∈ BIG := rb_36 _ (List.mem_of_getElem? (i := 12) rfl)
theorem wm_36_13 : Cond.methodLink RX11 180 yX11_spiralSource ∈ BIG := rb_36 _ (List.mem_of_getElem? (i := 13) rfl)
theorem wm_36_14 : Cond.methodLink RX11 183 yX11_put ∈ BIG := rb_36 _ (List.mem_of_getElem? (i := 14) rfl)
theorem wm_36_15 : Cond.methodLink RX11 187 yX1_follow ∈ BIG := rb_36 _ (List.mem_of_getElem? (i := 15) rfl)
theorem wm_36_16 : Cond.methodLink RL 61 yX12_spiral ∈ BIG := rb_36 _ (List.mem_of_getElem? (i := 16) rfl)
theorem wm_36_17 : Cond.instanceMethod yX12_spiral ∈ BIG := rb_36 _ (List.mem_of_getElem? (i := 17) rfl)
theorem wm_36_18 : Cond.selects RX12 yX12_spiral yX12_spiral ∈ BIG := rb_36 _ (List.mem_of_getElem? (i := 18) rfl)
theorem wm_36_19 : Cond.code yX12_spiral cX12_spiral 9 (some .int) ∈ BIG := rb_36 _ (List.mem_of_getElem? (i := 19) rfl)
theorem wm_36_20 : Cond.constantLong RX12 418 (1000000007) ∈ BIG := rb_36 _ (List.mem_of_getElem? (i := 20) rfl)
theorem wm_36_21 : Cond.methodLink RL 62 yX11_rhymes ∈ BIG := rb_36 _ (List.mem_of_getElem? (i := 21) rfl)
theorem wm_36_22 : Cond.instanceMethod yX11_rhymes ∈ BIG := rb_36 _ (List.mem_of_getElem? (i := 22) rfl)
theorem wm_36_23 : Cond.selects RX11 yX11_rhymes yX11_rhymes ∈ BIG := rb_36 _ (List.mem_of_getElem? (i := 23) rfl)
theorem wm_37_0 : Cond.code yX11_rhymes cX11_rhymes 2 (some .int) ∈ BIG := rb_37 _ (List.mem_of_getElem? (i := 0) rfl)
theorem wm_37_1 : Cond.methodLink RL 65 yX12_rhymes ∈ BIG := rb_37 _ (List.mem_of_getElem? (i := 1) rfl)
theorem wm_37_2 : Cond.instanceMethod yX12_rhymes ∈ BIG := rb_37 _ (List.mem_of_getElem? (i := 2) rfl)
theorem wm_37_3 : Cond.selects RX12 yX12_rhymes yX12_rhymes ∈ BIG := rb_37 _ (List.mem_of_getElem? (i := 3) rfl)
theorem wm_37_4 : Cond.code yX12_rhymes cX12_rhymes 2 (some .int) ∈ BIG := rb_37 _ (List.mem_of_getElem? (i := 4) rfl)
theorem wm_37_5 : Cond.methodLink RX12 423 yX12_classes ∈ BIG := rb_37 _ (List.mem_of_getElem? (i := 5) rfl)
theorem wm_37_6 : Cond.instanceMethod yX12_classes ∈ BIG := rb_37 _ (List.mem_of_getElem? (i := 6) rfl)
theorem wm_37_7 : Cond.selects RX12 yX12_classes yX12_classes ∈ BIG := rb_37 _ (List.mem_of_getElem? (i := 7) rfl)
theorem wm_37_8 : Cond.code yX12_classes cX12_classes 7 none ∈ BIG := rb_37 _ (List.mem_of_getElem? (i := 8) rfl)
theorem wm_37_9 : Cond.methodLink RX12 420 Lib.Math.min.name ∈ BIG := rb_37 _ (List.mem_of_getElem? (i := 9) rfl)
theorem wm_37_10 : Cond.methodLink RL 66 yX11_beside ∈ BIG := rb_37 _ (List.mem_of_getElem? (i := 10) rfl)
theorem wm_37_11 : Cond.instanceMethod yX11_beside ∈ BIG := rb_37 _ (List.mem_of_getElem? (i := 11) rfl)
theorem wm_37_12 : Cond.selects RX11 yX11_beside yX11_beside ∈ BIG := rb_37 _ (List.mem_of_getElem? (i := 12) rfl)
theorem wm_37_13 : Cond.code yX11_beside cX11_beside 3 (some .int) ∈ BIG := rb_37 _ (List.mem_of_getElem? (i := 13) rfl)
theorem wm_37_14 : Cond.methodLink RX11 195 yX9_timesAhead ∈ BIG := rb_37 _ (List.mem_of_getElem? (i := 14) rfl)
theorem wm_37_15 : Cond.instanceMethod yX9_timesAhead ∈ BIG := rb_37 _ (List.mem_of_getElem? (i := 15) rfl)
theorem wm_37_16 : Cond.selects RX9 yX9_timesAhead yX9_timesAhead ∈ BIG := rb_37 _ (List.mem_of_getElem? (i := 16) rfl)
theorem wm_37_17 : Cond.code yX9_timesAhead cX9_timesAhead 3 (some .int) ∈ BIG := rb_37 _ (List.mem_of_getElem? (i := 17) rfl)
theorem wm_37_18 : Cond.methodLink RL 69 yX12_beside ∈ BIG := rb_37 _ (List.mem_of_getElem? (i := 18) rfl)
theorem wm_37_19 : Cond.instanceMethod yX12_beside ∈ BIG := rb_37 _ (List.mem_of_getElem? (i := 19) rfl)
theorem wm_37_20 : Cond.selects RX12 yX12_beside yX12_beside ∈ BIG := rb_37 _ (List.mem_of_getElem? (i := 20) rfl)
theorem wm_37_21 : Cond.code yX12_beside cX12_beside 6 (some .int) ∈ BIG := rb_37 _ (List.mem_of_getElem? (i := 21) rfl)
theorem wm_37_22 : Cond.methodLink RX12 426 Lib.Math.abs.name ∈ BIG := rb_37 _ (List.mem_of_getElem? (i := 22) rfl)
theorem wm_37_23 : Cond.static Lib.Math.abs.name ∈ BIG := rb_37 _ (List.mem_of_getElem? (i := 23) rfl)
theorem wm_38_0 : Cond.code Lib.Math.abs.name Lib.Math.abs.code 1 (some .int) ∈ BIG := rb_38 _ (List.mem_of_getElem? (i := 0) rfl)
theorem wm_38_1 : Cond.methodLink RL 70 yX11_word ∈ BIG := rb_38 _ (List.mem_of_getElem? (i := 1) rfl)
theorem wm_38_2 : Cond.instanceMethod yX11_word ∈ BIG := rb_38 _ (List.mem_of_getElem? (i := 2) rfl)
theorem wm_38_3 : Cond.selects RX11 yX11_word yX11_word ∈ BIG := rb_38 _ (List.mem_of_getElem? (i := 3) rfl)
theorem wm_38_4 : Cond.code yX11_word cX11_word 3 (some .int) ∈ BIG := rb_38 _ (List.mem_of_getElem? (i := 4) rfl)
theorem wm_38_5 : Cond.methodLink RX11 198 yX11_isWord ∈ BIG := rb_38 _ (List.mem_of_getElem? (i := 5) rfl)
theorem wm_38_6 : Cond.instanceMethod yX11_isWord ∈ BIG := rb_38 _ (List.mem_of_getElem? (i := 6) rfl)
theorem wm_38_7 : Cond.selects RX11 yX11_isWord yX11_isWord ∈ BIG := rb_38 _ (List.mem_of_getElem? (i := 7) rfl)
theorem wm_38_8 : Cond.code yX11_isWord cX11_isWord 2 (some .boolean) ∈ BIG := rb_38 _ (List.mem_of_getElem? (i := 8) rfl)
theorem wm_38_9 : Cond.methodLink RL 73 yX12_word ∈ BIG := rb_38 _ (List.mem_of_getElem? (i := 9) rfl)
theorem wm_38_10 : Cond.instanceMethod yX12_word ∈ BIG := rb_38 _ (List.mem_of_getElem? (i := 10) rfl)
theorem wm_38_11 : Cond.selects RX12 yX12_word yX12_word ∈ BIG := rb_38 _ (List.mem_of_getElem? (i := 11) rfl)
theorem wm_38_12 : Cond.code yX12_word cX12_word 3 (some .int) ∈ BIG := rb_38 _ (List.mem_of_getElem? (i := 12) rfl)
theorem wm_38_13 : Cond.methodLink RX12 429 yX12_isWordAt ∈ BIG := rb_38 _ (List.mem_of_getElem? (i := 13) rfl)
theorem wm_38_14 : Cond.instanceMethod yX12_isWordAt ∈ BIG := rb_38 _ (List.mem_of_getElem? (i := 14) rfl)
theorem wm_38_15 : Cond.selects RX12 yX12_isWordAt yX12_isWordAt ∈ BIG := rb_38 _ (List.mem_of_getElem? (i := 15) rfl)
theorem wm_38_16 : Cond.code yX12_isWordAt cX12_isWordAt 2 (some .boolean) ∈ BIG := rb_38 _ (List.mem_of_getElem? (i := 16) rfl)
theorem wm_38_17 : Cond.methodLink RL 74 yX11_barred ∈ BIG := rb_38 _ (List.mem_of_getElem? (i := 17) rfl)
theorem wm_38_18 : Cond.instanceMethod yX11_barred ∈ BIG := rb_38 _ (List.mem_of_getElem? (i := 18) rfl)
theorem wm_38_19 : Cond.selects RX11 yX11_barred yX11_barred ∈ BIG := rb_38 _ (List.mem_of_getElem? (i := 19) rfl)
theorem wm_38_20 : Cond.code yX11_barred cX11_barred 3 (some .int) ∈ BIG := rb_38 _ (List.mem_of_getElem? (i := 20) rfl)
theorem wm_38_21 : Cond.methodLink RX11 210 yX4_forbids ∈ BIG := rb_38 _ (List.mem_of_getElem? (i := 21) rfl)
theorem wm_38_22 : Cond.instanceMethod yX4_forbids ∈ BIG := rb_38 _ (List.mem_of_getElem? (i := 22) rfl)
theorem wm_38_23 : Cond.selects RX4 yX4_forbids yX4_forbids ∈ BIG := rb_38 _ (List.mem_of_getElem? (i := 23) rfl)
theorem wm_39_0 : Cond.code yX4_forbids cX4_forbids 3 (some .boolean) ∈ BIG := rb_39 _ (List.mem_of_getElem? (i := 0) rfl)
theorem wm_39_1 : Cond.methodLink RL 77 yX12_barred ∈ BIG := rb_39 _ (List.mem_of_getElem? (i := 1) rfl)
theorem wm_39_2 : Cond.instanceMethod yX12_barred ∈ BIG := rb_39 _ (List.mem_of_getElem? (i := 2) rfl)
theorem wm_39_3 : Cond.selects RX12 yX12_barred yX12_barred ∈ BIG := rb_39 _ (List.mem_of_getElem? (i := 3) rfl)
theorem wm_39_4 : Cond.code yX12_barred cX12_barred 3 (some .int) ∈ BIG := rb_39 _ (List.mem_of_getElem? (i := 4) rfl)
theorem wm_39_5 : Cond.methodLink RL 78 yX11_fills ∈ BIG := rb_39 _ (List.mem_of_getElem? (i := 5) rfl)
theorem wm_39_6 : Cond.instanceMethod yX11_fills ∈ BIG := rb_39 _ (List.mem_of_getElem? (i := 6) rfl)
theorem wm_39_7 : Cond.selects RX11 yX11_fills yX11_fills ∈ BIG := rb_39 _ (List.mem_of_getElem? (i := 7) rfl)
theorem wm_39_8 : Cond.code yX11_fills cX11_fills 1 (some .long) ∈ BIG := rb_39 _ (List.mem_of_getElem? (i := 8) rfl)
theorem wm_39_9 : Cond.constantLong RX11 214 (-1) ∈ BIG := rb_39 _ (List.mem_of_getElem? (i := 9) rfl)
theorem wm_39_10 : Cond.methodLink RX11 216 yX3_howMany ∈ BIG := rb_39 _ (List.mem_of_getElem? (i := 10) rfl)
theorem wm_39_11 : Cond.instanceMethod yX3_howMany ∈ BIG := rb_39 _ (List.mem_of_getElem? (i := 11) rfl)
theorem wm_39_12 : Cond.selects RX3 yX3_howMany yX3_howMany ∈ BIG := rb_39 _ (List.mem_of_getElem? (i := 12) rfl)
theorem wm_39_13 : Cond.code yX3_howMany cX3_howMany 1 (some .long) ∈ BIG := rb_39 _ (List.mem_of_getElem? (i := 13) rfl)
theorem wm_39_14 : Cond.fieldLink RX3 65 "EndsRound$Filler" "number" "J" ∈ BIG := rb_39 _ (List.mem_of_getElem? (i := 14) rfl)
theorem wm_39_15 : Cond.methodLink RX3 57 yX3_choose ∈ BIG := rb_39 _ (List.mem_of_getElem? (i := 15) rfl)
theorem wm_39_16 : Cond.instanceMethod yX3_choose ∈ BIG := rb_39 _ (List.mem_of_getElem? (i := 16) rfl)
theorem wm_39_17 : Cond.selects RX3 yX3_choose yX3_choose ∈ BIG := rb_39 _ (List.mem_of_getElem? (i := 17) rfl)
theorem wm_39_18 : Cond.code yX3_choose cX3_choose 3 none ∈ BIG := rb_39 _ (List.mem_of_getElem? (i := 18) rfl)
theorem wm_39_19 : Cond.fieldLink RX3 85 "EndsRound$Filler" "size" "I" ∈ BIG := rb_39 _ (List.mem_of_getElem? (i := 19) rfl)
theorem wm_39_20 : Cond.methodLink RX3 82 yX3_prepare ∈ BIG := rb_39 _ (List.mem_of_getElem? (i := 20) rfl)
theorem wm_39_21 : Cond.instanceMethod yX3_prepare ∈ BIG := rb_39 _ (List.mem_of_getElem? (i := 21) rfl)
theorem wm_39_22 : Cond.selects RX3 yX3_prepare yX3_prepare ∈ BIG := rb_39 _ (List.mem_of_getElem? (i := 22) rfl)
theorem wm_39_23 : Cond.code yX3_prepare cX3_prepare 4 none ∈ BIG := rb_39 _ (List.mem_of_getElem? (i := 23) rfl)
theorem wm_40_0 : Cond.methodLink RX3 95 yX9_areOneClass ∈ BIG := rb_40 _ (List.mem_of_getElem? (i := 0) rfl)
theorem wm_40_1 : Cond.instanceMethod yX9_areOneClass ∈ BIG := rb_40 _ (List.mem_of_getElem? (i := 1) rfl)
theorem wm_40_2 : Cond.selects RX9 yX9_areOneClass yX9_areOneClass ∈ BIG := rb_40 _ (List.mem_of_getElem? (i := 2) rfl)
theorem wm_40_3 : Cond.code yX9_areOneClass cX9_areOneClass 3 (some .boolean) ∈ BIG := rb_40 _ (List.mem_of_getElem? (i := 3) rfl)
theorem wm_40_4 : Cond.methodLink RX3 101 yX9_timesAhead ∈ BIG := rb_40 _ (List.mem_of_getElem? (i := 4) rfl)
theorem wm_40_5 : Cond.methodLink RX3 105 yX3_allowedBy ∈ BIG := rb_40 _ (List.mem_of_getElem? (i := 5) rfl)
theorem wm_40_6 : Cond.instanceMethod yX3_allowedBy ∈ BIG := rb_40 _ (List.mem_of_getElem? (i := 6) rfl)
theorem wm_40_7 : Cond.selects RX3 yX3_allowedBy yX3_allowedBy ∈ BIG := rb_40 _ (List.mem_of_getElem? (i := 7) rfl)
theorem wm_40_8 : Cond.code yX3_allowedBy cX3_allowedBy 6 (some .int) ∈ BIG := rb_40 _ (List.mem_of_getElem? (i := 8) rfl)
theorem wm_40_9 : Cond.methodLink RX3 108 yX4_areRhyming ∈ BIG := rb_40 _ (List.mem_of_getElem? (i := 9) rfl)
theorem wm_40_10 : Cond.methodLink RX3 111 yX4_forbids ∈ BIG := rb_40 _ (List.mem_of_getElem? (i := 10) rfl)
theorem wm_40_11 : Cond.methodLink RX3 61 yX3_ways ∈ BIG := rb_40 _ (List.mem_of_getElem? (i := 11) rfl)
theorem wm_40_12 : Cond.instanceMethod yX3_ways ∈ BIG := rb_40 _ (List.mem_of_getElem? (i := 12) rfl)
theorem wm_40_13 : Cond.selects RX3 yX3_ways yX3_ways ∈ BIG := rb_40 _ (List.mem_of_getElem? (i := 13) rfl)
theorem wm_40_14 : Cond.code yX3_ways cX3_ways 7 (some .long) ∈ BIG := rb_40 _ (List.mem_of_getElem? (i := 14) rfl)
theorem wm_40_15 : Cond.methodLink RX3 76 yJ6_bitCount_0f7a4 ∈ BIG := rb_40 _ (List.mem_of_getElem? (i := 15) rfl)
theorem wm_40_16 : Cond.static yJ6_bitCount_0f7a4 ∈ BIG := rb_40 _ (List.mem_of_getElem? (i := 16) rfl)
theorem wm_40_17 : Cond.initialized RJ6 ∈ BIG := rb_40 _ (List.mem_of_getElem? (i := 17) rfl)
theorem wm_40_18 : Cond.code yJ6_bitCount_0f7a4 cJ6_bitCount_0f7a4 1 (some .int) ∈ BIG := rb_40 _ (List.mem_of_getElem? (i := 18) rfl)
theorem wm_40_19 : Cond.constant RJ6 265 (1431655765) ∈ BIG := rb_40 _ (List.mem_of_getElem? (i := 19) rfl)
theorem wm_40_20 : Cond.constant RJ6 266 (858993459) ∈ BIG := rb_40 _ (List.mem_of_getElem? (i := 20) rfl)
theorem wm_40_21 : Cond.constant RJ6 267 (252645135) ∈ BIG := rb_40 _ (List.mem_of_getElem? (i := 21) rfl)
theorem wm_40_22 : Cond.methodLink RX3 118 yX3_waysWith ∈ BIG := rb_40 _ (List.mem_of_getElem? (i := 22) rfl)
theorem wm_40_23 : Cond.instanceMethod yX3_waysWith ∈ BIG := rb_40 _ (List.mem_of_getElem? (i := 23) rfl)
theorem wm_41_0 : Cond.selects RX3 yX3_waysWith yX3_waysWith ∈ BIG := rb_41 _ (List.mem_of_getElem? (i := 0) rfl)
theorem wm_41_1 : Cond.code yX3_waysWith cX3_waysWith 4 (some .long) ∈ BIG := rb_41 _ (List.mem_of_getElem? (i := 1) rfl)
theorem wm_41_2 : Cond.methodLink RX3 122 yX3_leavesOpen ∈ BIG := rb_41 _ (List.mem_of_getElem? (i := 2) rfl)
theorem wm_41_3 : Cond.instanceMethod yX3_leavesOpen ∈ BIG := rb_41 _ (List.mem_of_getElem? (i := 3) rfl)
theorem wm_41_4 : Cond.selects RX3 yX3_leavesOpen yX3_leavesOpen ∈ BIG := rb_41 _ (List.mem_of_getElem? (i := 4) rfl)
theorem wm_41_5 : Cond.code yX3_leavesOpen cX3_leavesOpen 8 (some .boolean) ∈ BIG := rb_41 _ (List.mem_of_getElem? (i := 5) rfl)
theorem wm_41_6 : Cond.methodLink RL 81 yX12_fills ∈ BIG := rb_41 _ (List.mem_of_getElem? (i := 6) rfl)
theorem wm_41_7 : Cond.instanceMethod yX12_fills ∈ BIG := rb_41 _ (List.mem_of_getElem? (i := 7) rfl)
theorem wm_41_8 : Cond.selects RX12 yX12_fills yX12_fills ∈ BIG := rb_41 _ (List.mem_of_getElem? (i := 8) rfl)
theorem wm_41_9 : Cond.code yX12_fills cX12_fills 1 (some .long) ∈ BIG := rb_41 _ (List.mem_of_getElem? (i := 9) rfl)
theorem wm_41_10 : Cond.constantLong RX12 444 (-1) ∈ BIG := rb_41 _ (List.mem_of_getElem? (i := 10) rfl)
theorem wm_41_11 : Cond.methodLink RX12 446 yX12_neighbours ∈ BIG := rb_41 _ (List.mem_of_getElem? (i := 11) rfl)
theorem wm_41_12 : Cond.instanceMethod yX12_neighbours ∈ BIG := rb_41 _ (List.mem_of_getElem? (i := 12) rfl)
theorem wm_41_13 : Cond.selects RX12 yX12_neighbours yX12_neighbours ∈ BIG := rb_41 _ (List.mem_of_getElem? (i := 13) rfl)
theorem wm_41_14 : Cond.code yX12_neighbours cX12_neighbours 4 none ∈ BIG := rb_41 _ (List.mem_of_getElem? (i := 14) rfl)
theorem wm_41_15 : Cond.methodLink RX12 449 yX12_waysFor ∈ BIG := rb_41 _ (List.mem_of_getElem? (i := 15) rfl)
theorem wm_41_16 : Cond.instanceMethod yX12_waysFor ∈ BIG := rb_41 _ (List.mem_of_getElem? (i := 16) rfl)
theorem wm_41_17 : Cond.selects RX12 yX12_waysFor yX12_waysFor ∈ BIG := rb_41 _ (List.mem_of_getElem? (i := 17) rfl)
theorem wm_41_18 : Cond.code yX12_waysFor cX12_waysFor 3 (some .long) ∈ BIG := rb_41 _ (List.mem_of_getElem? (i := 18) rfl)
theorem wm_41_19 : Cond.fieldLink RX12 432 "EndsRoundModel" "isFirst" "Z" ∈ BIG := rb_41 _ (List.mem_of_getElem? (i := 19) rfl)
theorem wm_41_20 : Cond.methodLink RX12 436 yX12_gives ∈ BIG := rb_41 _ (List.mem_of_getElem? (i := 20) rfl)
theorem wm_41_21 : Cond.instanceMethod yX12_gives ∈ BIG := rb_41 _ (List.mem_of_getElem? (i := 21) rfl)
theorem wm_41_22 : Cond.selects RX12 yX12_gives yX12_gives ∈ BIG := rb_41 _ (List.mem_of_getElem? (i := 22) rfl)
theorem wm_41_23 : Cond.code yX12_gives cX12_gives 7 (some .long) ∈ BIG := rb_41 _ (List.mem_of_getElem? (i := 23) rfl)
theorem wm_42_0 : Cond.methodLink RX12 440 yX12_goes ∈ BIG := rb_42 _ (List.mem_of_getElem? (i := 0) rfl)
theorem wm_42_1 : Cond.instanceMethod yX12_goes ∈ BIG := rb_42 _ (List.mem_of_getElem? (i := 1) rfl)
theorem wm_42_2 : Cond.selects RX12 yX12_goes yX12_goes ∈ BIG := rb_42 _ (List.mem_of_getElem? (i := 2) rfl)
theorem wm_42_3 : Cond.code yX12_goes cX12_goes 6 (some .boolean) ∈ BIG := rb_42 _ (List.mem_of_getElem? (i := 3) rfl)
theorem wm_42_4 : Cond.methodLink RL 82 yX11_fill ∈ BIG := rb_42 _ (List.mem_of_getElem? (i := 4) rfl)
theorem wm_42_5 : Cond.instanceMethod yX11_fill ∈ BIG := rb_42 _ (List.mem_of_getElem? (i := 5) rfl)
theorem wm_42_6 : Cond.selects RX11 yX11_fill yX11_fill ∈ BIG := rb_42 _ (List.mem_of_getElem? (i := 6) rfl)
theorem wm_42_7 : Cond.code yX11_fill cX11_fill 2 (some .int) ∈ BIG := rb_42 _ (List.mem_of_getElem? (i := 7) rfl)
theorem wm_42_8 : Cond.methodLink RX11 220 yX3_canAll ∈ BIG := rb_42 _ (List.mem_of_getElem? (i := 8) rfl)
theorem wm_42_9 : Cond.instanceMethod yX3_canAll ∈ BIG := rb_42 _ (List.mem_of_getElem? (i := 9) rfl)
theorem wm_42_10 : Cond.selects RX3 yX3_canAll yX3_canAll ∈ BIG := rb_42 _ (List.mem_of_getElem? (i := 10) rfl)
theorem wm_42_11 : Cond.code yX3_canAll cX3_canAll 1 (some .boolean) ∈ BIG := rb_42 _ (List.mem_of_getElem? (i := 11) rfl)
theorem wm_42_12 : Cond.fieldLink RX3 69 "EndsRound$Filler" "found" "Z" ∈ BIG := rb_42 _ (List.mem_of_getElem? (i := 12) rfl)
theorem wm_42_13 : Cond.methodLink RL 85 yX12_fill ∈ BIG := rb_42 _ (List.mem_of_getElem? (i := 13) rfl)
theorem wm_42_14 : Cond.instanceMethod yX12_fill ∈ BIG := rb_42 _ (List.mem_of_getElem? (i := 14) rfl)
theorem wm_42_15 : Cond.selects RX12 yX12_fill yX12_fill ∈ BIG := rb_42 _ (List.mem_of_getElem? (i := 15) rfl)
theorem wm_42_16 : Cond.code yX12_fill cX12_fill 2 (some .int) ∈ BIG := rb_42 _ (List.mem_of_getElem? (i := 16) rfl)
theorem wm_42_17 : Cond.methodLink RL 86 yX11_stuck ∈ BIG := rb_42 _ (List.mem_of_getElem? (i := 17) rfl)
theorem wm_42_18 : Cond.instanceMethod yX11_stuck ∈ BIG := rb_42 _ (List.mem_of_getElem? (i := 18) rfl)
theorem wm_42_19 : Cond.selects RX11 yX11_stuck yX11_stuck ∈ BIG := rb_42 _ (List.mem_of_getElem? (i := 19) rfl)
theorem wm_42_20 : Cond.code yX11_stuck cX11_stuck 3 (some .int) ∈ BIG := rb_42 _ (List.mem_of_getElem? (i := 20) rfl)
theorem wm_42_21 : Cond.methodLink RX11 227 yX3_fewestStuck ∈ BIG := rb_42 _ (List.mem_of_getElem? (i := 21) rfl)
theorem wm_42_22 : Cond.instanceMethod yX3_fewestStuck ∈ BIG := rb_42 _ (List.mem_of_getElem? (i := 22) rfl)
theorem wm_42_23 : Cond.selects RX3 yX3_fewestStuck yX3_fewestStuck ∈ BIG := rb_42 _ (List.mem_of_getElem? (i := 23) rfl)
theorem wm_43_0 : Cond.code yX3_fewestStuck cX3_fewestStuck 3 (some .int) ∈ BIG := rb_43 _ (List.mem_of_getElem? (i := 0) rfl)
theorem wm_43_1 : Cond.methodLink RX11 230 yJ6_bitCount_0f7a4 ∈ BIG := rb_43 _ (List.mem_of_getElem? (i := 1) rfl)
theorem wm_43_2 : Cond.methodLink RL 89 yX12_stuck ∈ BIG := rb_43 _ (List.mem_of_getElem? (i := 2) rfl)
theorem wm_43_3 : Cond.instanceMethod yX12_stuck ∈ BIG := rb_43 _ (List.mem_of_getElem? (i := 3) rfl)
theorem wm_43_4 : Cond.selects RX12 yX12_stuck yX12_stuck ∈ BIG := rb_43 _ (List.mem_of_getElem? (i := 4) rfl)
theorem wm_43_5 : Cond.code yX12_stuck cX12_stuck 4 (some .int) ∈ BIG := rb_43 _ (List.mem_of_getElem? (i := 5) rfl)
theorem wm_43_6 : Cond.methodLink RX12 453 yX12_bits ∈ BIG := rb_43 _ (List.mem_of_getElem? (i := 6) rfl)
theorem wm_43_7 : Cond.static yX12_bits ∈ BIG := rb_43 _ (List.mem_of_getElem? (i := 7) rfl)
theorem wm_43_8 : Cond.code yX12_bits cX12_bits 3 (some .int) ∈ BIG := rb_43 _ (List.mem_of_getElem? (i := 8) rfl)
theorem wm_43_9 : Cond.methodLink RL 90 yX11_line ∈ BIG := rb_43 _ (List.mem_of_getElem? (i := 9) rfl)
theorem wm_43_10 : Cond.instanceMethod yX11_line ∈ BIG := rb_43 _ (List.mem_of_getElem? (i := 10) rfl)
theorem wm_43_11 : Cond.selects RX11 yX11_line yX11_line ∈ BIG := rb_43 _ (List.mem_of_getElem? (i := 11) rfl)
theorem wm_43_12 : Cond.code yX11_line cX11_line 4 (some .int) ∈ BIG := rb_43 _ (List.mem_of_getElem? (i := 12) rfl)
theorem wm_43_13 : Cond.methodLink RX11 235 yX2_add ∈ BIG := rb_43 _ (List.mem_of_getElem? (i := 13) rfl)
theorem wm_43_14 : Cond.instanceMethod yX2_add ∈ BIG := rb_43 _ (List.mem_of_getElem? (i := 14) rfl)
theorem wm_43_15 : Cond.selects RX2 yX2_add yX2_add ∈ BIG := rb_43 _ (List.mem_of_getElem? (i := 15) rfl)
theorem wm_43_16 : Cond.code yX2_add cX2_add 4 none ∈ BIG := rb_43 _ (List.mem_of_getElem? (i := 16) rfl)
theorem wm_43_17 : Cond.fieldLink RX2 21 "EndsRound$Draft" "length" "I" ∈ BIG := rb_43 _ (List.mem_of_getElem? (i := 17) rfl)
theorem wm_43_18 : Cond.methodLink RL 94 yX12_line ∈ BIG := rb_43 _ (List.mem_of_getElem? (i := 18) rfl)
theorem wm_43_19 : Cond.instanceMethod yX12_line ∈ BIG := rb_43 _ (List.mem_of_getElem? (i := 19) rfl)
theorem wm_43_20 : Cond.selects RX12 yX12_line yX12_line ∈ BIG := rb_43 _ (List.mem_of_getElem? (i := 20) rfl)
theorem wm_43_21 : Cond.code yX12_line cX12_line 4 (some .int) ∈ BIG := rb_43 _ (List.mem_of_getElem? (i := 21) rfl)
theorem wm_43_22 : Cond.methodLink RL 95 yX11_clear ∈ BIG := rb_43 _ (List.mem_of_getElem? (i := 22) rfl)
theorem wm_43_23 : Cond.instanceMethod yX11_clear ∈ BIG := rb_43 _ (List.mem_of_getElem? (i := 23) rfl)
theorem wm_44_0 : Cond.selects RX11 yX11_clear yX11_clear ∈ BIG := rb_44 _ (List.mem_of_getElem? (i := 0) rfl)
theorem wm_44_1 : Cond.code yX11_clear cX11_clear 1 (some .boolean) ∈ BIG := rb_44 _ (List.mem_of_getElem? (i := 1) rfl)
theorem wm_44_2 : Cond.methodLink RL 99 yX12_clear ∈ BIG := rb_44 _ (List.mem_of_getElem? (i := 2) rfl)
theorem wm_44_3 : Cond.instanceMethod yX12_clear ∈ BIG := rb_44 _ (List.mem_of_getElem? (i := 3) rfl)
theorem wm_44_4 : Cond.selects RX12 yX12_clear yX12_clear ∈ BIG := rb_44 _ (List.mem_of_getElem? (i := 4) rfl)
theorem wm_44_5 : Cond.code yX12_clear cX12_clear 1 (some .boolean) ∈ BIG := rb_44 _ (List.mem_of_getElem? (i := 5) rfl)
theorem wm_44_6 : Cond.methodLink RL 100 yL_judged ∈ BIG := rb_44 _ (List.mem_of_getElem? (i := 6) rfl)
theorem wm_44_7 : Cond.static yL_judged ∈ BIG := rb_44 _ (List.mem_of_getElem? (i := 7) rfl)
theorem wm_44_8 : Cond.initialized RL ∈ BIG := rb_44 _ (List.mem_of_getElem? (i := 8) rfl)
theorem wm_44_9 : Cond.codeWith yL_judged cL_judged 4 (some .int) [(0, 9, 12, 13)] ∈ BIG := rb_44 _ (List.mem_of_getElem? (i := 9) rfl)
theorem wm_44_10 : Cond.classLink RL 13 "java/util/NoSuchElementException" ∈ BIG := rb_44 _ (List.mem_of_getElem? (i := 10) rfl)
theorem wm_44_11 : Cond.methodLink RL 7 yX11_judged ∈ BIG := rb_44 _ (List.mem_of_getElem? (i := 11) rfl)
theorem wm_44_12 : Cond.instanceMethod yX11_judged ∈ BIG := rb_44 _ (List.mem_of_getElem? (i := 12) rfl)
theorem wm_44_13 : Cond.selects RX11 yX11_judged yX11_judged ∈ BIG := rb_44 _ (List.mem_of_getElem? (i := 13) rfl)
theorem wm_44_14 : Cond.code yX11_judged cX11_judged 4 (some .int) ∈ BIG := rb_44 _ (List.mem_of_getElem? (i := 14) rfl)
theorem wm_44_15 : Cond.classLink RX11 242 "java/util/NoSuchElementException" ∈ BIG := rb_44 _ (List.mem_of_getElem? (i := 15) rfl)
theorem wm_44_16 : Cond.initialized "java/util/NoSuchElementException" ∈ BIG := rb_44 _ (List.mem_of_getElem? (i := 16) rfl)
theorem wm_44_17 : Cond.methodLink RX11 249 yX11_whyWrong ∈ BIG := rb_44 _ (List.mem_of_getElem? (i := 17) rfl)
theorem wm_44_18 : Cond.instanceMethod yX11_whyWrong ∈ BIG := rb_44 _ (List.mem_of_getElem? (i := 18) rfl)
theorem wm_44_19 : Cond.selects RX11 yX11_whyWrong yX11_whyWrong ∈ BIG := rb_44 _ (List.mem_of_getElem? (i := 19) rfl)
theorem wm_44_20 : Cond.code yX11_whyWrong cX11_whyWrong 7 (some .int) ∈ BIG := rb_44 _ (List.mem_of_getElem? (i := 20) rfl)
theorem wm_44_21 : Cond.methodLink RX11 309 yX11_isRepeated ∈ BIG := rb_44 _ (List.mem_of_getElem? (i := 21) rfl)
theorem wm_44_22 : Cond.instanceMethod yX11_isRepeated ∈ BIG := rb_44 _ (List.mem_of_getElem? (i := 22) rfl)
theorem wm_44_23 : Cond.selects RX11 yX11_isRepeated yX11_isRepeated ∈ BIG := rb_44 _ (List.mem_of_getElem? (i := 23) rfl)
theorem wm_45_0 : Cond.code yX11_isRepeated cX11_isRepeated 4 (some .boolean) ∈ BIG := rb_45 _ (List.mem_of_getElem? (i := 0) rfl)
theorem wm_45_1 : Cond.methodLink RX11 312 yX11_jars ∈ BIG := rb_45 _ (List.mem_of_getElem? (i := 1) rfl)
theorem wm_45_2 : Cond.instanceMethod yX11_jars ∈ BIG := rb_45 _ (List.mem_of_getElem? (i := 2) rfl)
theorem wm_45_3 : Cond.selects RX11 yX11_jars yX11_jars ∈ BIG := rb_45 _ (List.mem_of_getElem? (i := 3) rfl)
theorem wm_45_4 : Cond.code yX11_jars cX11_jars 5 (some .boolean) ∈ BIG := rb_45 _ (List.mem_of_getElem? (i := 4) rfl)
theorem wm_45_5 : Cond.methodLink RX11 324 yX9_areOneClass ∈ BIG := rb_45 _ (List.mem_of_getElem? (i := 5) rfl)
theorem wm_45_6 : Cond.methodLink RL 105 yX12_judged ∈ BIG := rb_45 _ (List.mem_of_getElem? (i := 6) rfl)
theorem wm_45_7 : Cond.instanceMethod yX12_judged ∈ BIG := rb_45 _ (List.mem_of_getElem? (i := 7) rfl)
theorem wm_45_8 : Cond.selects RX12 yX12_judged yX12_judged ∈ BIG := rb_45 _ (List.mem_of_getElem? (i := 8) rfl)
theorem wm_45_9 : Cond.code yX12_judged cX12_judged 4 (some .int) ∈ BIG := rb_45 _ (List.mem_of_getElem? (i := 9) rfl)
theorem wm_45_10 : Cond.methodLink RX12 456 yX12_wrongIn ∈ BIG := rb_45 _ (List.mem_of_getElem? (i := 10) rfl)
theorem wm_45_11 : Cond.instanceMethod yX12_wrongIn ∈ BIG := rb_45 _ (List.mem_of_getElem? (i := 11) rfl)
theorem wm_45_12 : Cond.selects RX12 yX12_wrongIn yX12_wrongIn ∈ BIG := rb_45 _ (List.mem_of_getElem? (i := 12) rfl)
theorem wm_45_13 : Cond.code yX12_wrongIn cX12_wrongIn 6 (some .int) ∈ BIG := rb_45 _ (List.mem_of_getElem? (i := 13) rfl)
theorem wm_45_14 : Cond.methodLink RL 106 yX12_thrown ∈ BIG := rb_45 _ (List.mem_of_getElem? (i := 14) rfl)
theorem wm_45_15 : Cond.instanceMethod yX12_thrown ∈ BIG := rb_45 _ (List.mem_of_getElem? (i := 15) rfl)
theorem wm_45_16 : Cond.selects RX12 yX12_thrown yX12_thrown ∈ BIG := rb_45 _ (List.mem_of_getElem? (i := 16) rfl)
theorem wm_45_17 : Cond.code yX12_thrown cX12_thrown 1 (some .int) ∈ BIG := rb_45 _ (List.mem_of_getElem? (i := 17) rfl)
theorem wm_45_18 : Cond.methodLink RL 109 yX11_mend ∈ BIG := rb_45 _ (List.mem_of_getElem? (i := 18) rfl)
theorem wm_45_19 : Cond.instanceMethod yX11_mend ∈ BIG := rb_45 _ (List.mem_of_getElem? (i := 19) rfl)
theorem wm_45_20 : Cond.selects RX11 yX11_mend yX11_mend ∈ BIG := rb_45 _ (List.mem_of_getElem? (i := 20) rfl)
theorem wm_45_21 : Cond.code yX11_mend cX11_mend 1 (some .int) ∈ BIG := rb_45 _ (List.mem_of_getElem? (i := 21) rfl)
theorem wm_45_22 : Cond.methodLink RX11 252 yX6_howMany ∈ BIG := rb_45 _ (List.mem_of_getElem? (i := 22) rfl)
theorem wm_45_23 : Cond.instanceMethod yX6_howMany ∈ BIG := rb_45 _ (List.mem_of_getElem? (i := 23) rfl)
theorem wm_46_0 : Cond.selects RX6 yX6_howMany yX6_howMany ∈ BIG := rb_46 _ (List.mem_of_getElem? (i := 0) rfl)
theorem wm_46_1 : Cond.code yX6_howMany cX6_howMany 1 (some .int) ∈ BIG := rb_46 _ (List.mem_of_getElem? (i := 1) rfl)
theorem wm_46_2 : Cond.fieldLink RX6 46 "EndsRound$Mender" "fewest" "I" ∈ BIG := rb_46 _ (List.mem_of_getElem? (i := 2) rfl)
theorem wm_46_3 : Cond.methodLink RX6 43 yX6_settle ∈ BIG := rb_46 _ (List.mem_of_getElem? (i := 3) rfl)
theorem wm_46_4 : Cond.instanceMethod yX6_settle ∈ BIG := rb_46 _ (List.mem_of_getElem? (i := 4) rfl)
theorem wm_46_5 : Cond.selects RX6 yX6_settle yX6_settle ∈ BIG := rb_46 _ (List.mem_of_getElem? (i := 5) rfl)
theorem wm_46_6 : Cond.code yX6_settle cX6_settle 2 none ∈ BIG := rb_46 _ (List.mem_of_getElem? (i := 6) rfl)
theorem wm_46_7 : Cond.methodLink RX6 55 yX6_countChanges ∈ BIG := rb_46 _ (List.mem_of_getElem? (i := 7) rfl)
theorem wm_46_8 : Cond.instanceMethod yX6_countChanges ∈ BIG := rb_46 _ (List.mem_of_getElem? (i := 8) rfl)
theorem wm_46_9 : Cond.selects RX6 yX6_countChanges yX6_countChanges ∈ BIG := rb_46 _ (List.mem_of_getElem? (i := 9) rfl)
theorem wm_46_10 : Cond.code yX6_countChanges cX6_countChanges 5 none ∈ BIG := rb_46 _ (List.mem_of_getElem? (i := 10) rfl)
theorem wm_46_11 : Cond.methodLink RX6 88 yX9_endAt ∈ BIG := rb_46 _ (List.mem_of_getElem? (i := 11) rfl)
theorem wm_46_12 : Cond.methodLink RX6 58 yX6_sortWords ∈ BIG := rb_46 _ (List.mem_of_getElem? (i := 12) rfl)
theorem wm_46_13 : Cond.instanceMethod yX6_sortWords ∈ BIG := rb_46 _ (List.mem_of_getElem? (i := 13) rfl)
theorem wm_46_14 : Cond.selects RX6 yX6_sortWords yX6_sortWords ∈ BIG := rb_46 _ (List.mem_of_getElem? (i := 14) rfl)
theorem wm_46_15 : Cond.code yX6_sortWords cX6_sortWords 5 none ∈ BIG := rb_46 _ (List.mem_of_getElem? (i := 15) rfl)
theorem wm_46_16 : Cond.methodLink RX6 61 yX6_findUnbroken ∈ BIG := rb_46 _ (List.mem_of_getElem? (i := 16) rfl)
theorem wm_46_17 : Cond.instanceMethod yX6_findUnbroken ∈ BIG := rb_46 _ (List.mem_of_getElem? (i := 17) rfl)
theorem wm_46_18 : Cond.selects RX6 yX6_findUnbroken yX6_findUnbroken ∈ BIG := rb_46 _ (List.mem_of_getElem? (i := 18) rfl)
theorem wm_46_19 : Cond.code yX6_findUnbroken cX6_findUnbroken 5 none ∈ BIG := rb_46 _ (List.mem_of_getElem? (i := 19) rfl)
theorem wm_46_20 : Cond.methodLink RX6 68 yX6_cheapest ∈ BIG := rb_46 _ (List.mem_of_getElem? (i := 20) rfl)
theorem wm_46_21 : Cond.instanceMethod yX6_cheapest ∈ BIG := rb_46 _ (List.mem_of_getElem? (i := 21) rfl)
theorem wm_46_22 : Cond.selects RX6 yX6_cheapest yX6_cheapest ∈ BIG := rb_46 _ (List.mem_of_getElem? (i := 22) rfl)
theorem wm_46_23 : Cond.code yX6_cheapest cX6_cheapest 5 (some .int) ∈ BIG := rb_46 _ (List.mem_of_getElem? (i := 23) rfl)
theorem wm_47_0 : Cond.methodLink RX6 106 yX6_offer ∈ BIG := rb_47 _ (List.mem_of_getElem? (i := 0) rfl)
theorem wm_47_1 : Cond.instanceMethod yX6_offer ∈ BIG := rb_47 _ (List.mem_of_getElem? (i := 1) rfl)
theorem wm_47_2 : Cond.selects RX6 yX6_offer yX6_offer ∈ BIG := rb_47 _ (List.mem_of_getElem? (i := 2) rfl)
theorem wm_47_3 : Cond.code yX6_offer cX6_offer 7 none ∈ BIG := rb_47 _ (List.mem_of_getElem? (i := 3) rfl)
theorem wm_47_4 : Cond.methodLink RX6 117 Lib.Math.min.name ∈ BIG := rb_47 _ (List.mem_of_getElem? (i := 4) rfl)
theorem wm_47_5 : Cond.methodLink RX6 110 yX4_areRhyming ∈ BIG := rb_47 _ (List.mem_of_getElem? (i := 5) rfl)
theorem wm_47_6 : Cond.methodLink RX6 114 yX6_dropBroken ∈ BIG := rb_47 _ (List.mem_of_getElem? (i := 6) rfl)
theorem wm_47_7 : Cond.instanceMethod yX6_dropBroken ∈ BIG := rb_47 _ (List.mem_of_getElem? (i := 7) rfl)
theorem wm_47_8 : Cond.selects RX6 yX6_dropBroken yX6_dropBroken ∈ BIG := rb_47 _ (List.mem_of_getElem? (i := 8) rfl)
theorem wm_47_9 : Cond.code yX6_dropBroken cX6_dropBroken 3 none ∈ BIG := rb_47 _ (List.mem_of_getElem? (i := 9) rfl)
theorem wm_47_10 : Cond.methodLink RX6 72 yX6_giveLeast ∈ BIG := rb_47 _ (List.mem_of_getElem? (i := 10) rfl)
theorem wm_47_11 : Cond.instanceMethod yX6_giveLeast ∈ BIG := rb_47 _ (List.mem_of_getElem? (i := 11) rfl)
theorem wm_47_12 : Cond.selects RX6 yX6_giveLeast yX6_giveLeast ∈ BIG := rb_47 _ (List.mem_of_getElem? (i := 12) rfl)
theorem wm_47_13 : Cond.code yX6_giveLeast cX6_giveLeast 3 none ∈ BIG := rb_47 _ (List.mem_of_getElem? (i := 13) rfl)
theorem wm_47_14 : Cond.methodLink RL 112 yX12_mend ∈ BIG := rb_47 _ (List.mem_of_getElem? (i := 14) rfl)
theorem wm_47_15 : Cond.instanceMethod yX12_mend ∈ BIG := rb_47 _ (List.mem_of_getElem? (i := 15) rfl)
theorem wm_47_16 : Cond.selects RX12 yX12_mend yX12_mend ∈ BIG := rb_47 _ (List.mem_of_getElem? (i := 16) rfl)
theorem wm_47_17 : Cond.code yX12_mend cX12_mend 1 (some .int) ∈ BIG := rb_47 _ (List.mem_of_getElem? (i := 17) rfl)
theorem wm_47_18 : Cond.fieldLink RX12 459 "EndsRoundModel" "fewest" "I" ∈ BIG := rb_47 _ (List.mem_of_getElem? (i := 18) rfl)
theorem wm_47_19 : Cond.methodLink RX12 465 yX12_hasMended ∈ BIG := rb_47 _ (List.mem_of_getElem? (i := 19) rfl)
theorem wm_47_20 : Cond.instanceMethod yX12_hasMended ∈ BIG := rb_47 _ (List.mem_of_getElem? (i := 20) rfl)
theorem wm_47_21 : Cond.selects RX12 yX12_hasMended yX12_hasMended ∈ BIG := rb_47 _ (List.mem_of_getElem? (i := 21) rfl)
theorem wm_47_22 : Cond.code yX12_hasMended cX12_hasMended 4 (some .boolean) ∈ BIG := rb_47 _ (List.mem_of_getElem? (i := 22) rfl)
theorem wm_47_23 : Cond.methodLink RX12 462 yX12_mends ∈ BIG := rb_47 _ (List.mem_of_getElem? (i := 23) rfl)
theorem wm_48_0 : Cond.instanceMethod yX12_mends ∈ BIG := rb_48 _ (List.mem_of_getElem? (i := 0) rfl)
theorem wm_48_1 : Cond.selects RX12 yX12_mends yX12_mends ∈ BIG := rb_48 _ (List.mem_of_getElem? (i := 1) rfl)
theorem wm_48_2 : Cond.code yX12_mends cX12_mends 4 none ∈ BIG := rb_48 _ (List.mem_of_getElem? (i := 2) rfl)
theorem wm_48_3 : Cond.methodLink RL 113 yX11_mended ∈ BIG := rb_48 _ (List.mem_of_getElem? (i := 3) rfl)
theorem wm_48_4 : Cond.instanceMethod yX11_mended ∈ BIG := rb_48 _ (List.mem_of_getElem? (i := 4) rfl)
theorem wm_48_5 : Cond.selects RX11 yX11_mended yX11_mended ∈ BIG := rb_48 _ (List.mem_of_getElem? (i := 5) rfl)
theorem wm_48_6 : Cond.code yX11_mended cX11_mended 2 (some .int) ∈ BIG := rb_48 _ (List.mem_of_getElem? (i := 6) rfl)
theorem wm_48_7 : Cond.methodLink RL 116 yX12_mended ∈ BIG := rb_48 _ (List.mem_of_getElem? (i := 7) rfl)
theorem wm_48_8 : Cond.instanceMethod yX12_mended ∈ BIG := rb_48 _ (List.mem_of_getElem? (i := 8) rfl)
theorem wm_48_9 : Cond.selects RX12 yX12_mended yX12_mended ∈ BIG := rb_48 _ (List.mem_of_getElem? (i := 9) rfl)
theorem wm_48_10 : Cond.code yX12_mended cX12_mended 2 (some .int) ∈ BIG := rb_48 _ (List.mem_of_getElem? (i := 10) rfl)
theorem wm_48_11 : Cond.methodLink RL 117 yX11_same ∈ BIG := rb_48 _ (List.mem_of_getElem? (i := 11) rfl)
theorem wm_48_12 : Cond.instanceMethod yX11_same ∈ BIG := rb_48 _ (List.mem_of_getElem? (i := 12) rfl)
theorem wm_48_13 : Cond.selects RX11 yX11_same yX11_same ∈ BIG := rb_48 _ (List.mem_of_getElem? (i := 13) rfl)
theorem wm_48_14 : Cond.code yX11_same cX11_same 3 (some .int) ∈ BIG := rb_48 _ (List.mem_of_getElem? (i := 14) rfl)
theorem wm_48_15 : Cond.methodLink RX11 257 yX11_markAt ∈ BIG := rb_48 _ (List.mem_of_getElem? (i := 15) rfl)
theorem wm_48_16 : Cond.instanceMethod yX11_markAt ∈ BIG := rb_48 _ (List.mem_of_getElem? (i := 16) rfl)
theorem wm_48_17 : Cond.selects RX11 yX11_markAt yX11_markAt ∈ BIG := rb_48 _ (List.mem_of_getElem? (i := 17) rfl)
theorem wm_48_18 : Cond.code yX11_markAt cX11_markAt 2 (some (.object "EndsRound$Mark")) ∈ BIG := rb_48 _ (List.mem_of_getElem? (i := 18) rfl)
theorem wm_48_19 : Cond.methodLink RX11 268 yX7_finds ∈ BIG := rb_48 _ (List.mem_of_getElem? (i := 19) rfl)
theorem wm_48_20 : Cond.instanceMethod yX7_finds ∈ BIG := rb_48 _ (List.mem_of_getElem? (i := 20) rfl)
theorem wm_48_21 : Cond.selects RX7 yX7_finds yX7_finds ∈ BIG := rb_48 _ (List.mem_of_getElem? (i := 21) rfl)
theorem wm_48_22 : Cond.code yX7_finds cX7_finds 2 (some .boolean) ∈ BIG := rb_48 _ (List.mem_of_getElem? (i := 22) rfl)
theorem wm_48_23 : Cond.fieldLink RX7 54 "EndsRound$Namer" "taken" "I" ∈ BIG := rb_48 _ (List.mem_of_getElem? (i := 23) rfl)
theorem wm_49_0 : Cond.methodLink RX7 46 yX7_tint ∈ BIG := rb_49 _ (List.mem_of_getElem? (i := 0) rfl)
theorem wm_49_1 : Cond.instanceMethod yX7_tint ∈ BIG := rb_49 _ (List.mem_of_getElem? (i := 1) rfl)
theorem wm_49_2 : Cond.selects RX7 yX7_tint yX7_tint ∈ BIG := rb_49 _ (List.mem_of_getElem? (i := 2) rfl)
theorem wm_49_3 : Cond.code yX7_tint cX7_tint 5 none ∈ BIG := rb_49 _ (List.mem_of_getElem? (i := 3) rfl)
theorem wm_49_4 : Cond.methodLink RX7 68 yX1_follow ∈ BIG := rb_49 _ (List.mem_of_getElem? (i := 4) rfl)
theorem wm_49_5 : Cond.methodLink RX7 85 yX7_mixed ∈ BIG := rb_49 _ (List.mem_of_getElem? (i := 5) rfl)
theorem wm_49_6 : Cond.static yX7_mixed ∈ BIG := rb_49 _ (List.mem_of_getElem? (i := 6) rfl)
theorem wm_49_7 : Cond.code yX7_mixed cX7_mixed 6 (some .int) ∈ BIG := rb_49 _ (List.mem_of_getElem? (i := 7) rfl)
theorem wm_49_8 : Cond.methodLink RX7 93 yX7_spread ∈ BIG := rb_49 _ (List.mem_of_getElem? (i := 8) rfl)
theorem wm_49_9 : Cond.static yX7_spread ∈ BIG := rb_49 _ (List.mem_of_getElem? (i := 9) rfl)
theorem wm_49_10 : Cond.code yX7_spread cX7_spread 1 (some .int) ∈ BIG := rb_49 _ (List.mem_of_getElem? (i := 10) rfl)
theorem wm_49_11 : Cond.constant RX7 100 (73471) ∈ BIG := rb_49 _ (List.mem_of_getElem? (i := 11) rfl)
theorem wm_49_12 : Cond.methodLink RX7 50 yX7_haveSameTints ∈ BIG := rb_49 _ (List.mem_of_getElem? (i := 12) rfl)
theorem wm_49_13 : Cond.instanceMethod yX7_haveSameTints ∈ BIG := rb_49 _ (List.mem_of_getElem? (i := 13) rfl)
theorem wm_49_14 : Cond.selects RX7 yX7_haveSameTints yX7_haveSameTints ∈ BIG := rb_49 _ (List.mem_of_getElem? (i := 14) rfl)
theorem wm_49_15 : Cond.code yX7_haveSameTints cX7_haveSameTints 4 (some .boolean) ∈ BIG := rb_49 _ (List.mem_of_getElem? (i := 15) rfl)
theorem wm_49_16 : Cond.methodLink RX7 61 yX7_namesFrom ∈ BIG := rb_49 _ (List.mem_of_getElem? (i := 16) rfl)
theorem wm_49_17 : Cond.instanceMethod yX7_namesFrom ∈ BIG := rb_49 _ (List.mem_of_getElem? (i := 17) rfl)
theorem wm_49_18 : Cond.selects RX7 yX7_namesFrom yX7_namesFrom ∈ BIG := rb_49 _ (List.mem_of_getElem? (i := 18) rfl)
theorem wm_49_19 : Cond.code yX7_namesFrom cX7_namesFrom 3 (some .boolean) ∈ BIG := rb_49 _ (List.mem_of_getElem? (i := 19) rfl)
theorem wm_49_20 : Cond.methodLink RX7 101 yX7_namesWith ∈ BIG := rb_49 _ (List.mem_of_getElem? (i := 20) rfl)
theorem wm_49_21 : Cond.instanceMethod yX7_namesWith ∈ BIG := rb_49 _ (List.mem_of_getElem? (i := 21) rfl)
theorem wm_49_22 : Cond.selects RX7 yX7_namesWith yX7_namesWith ∈ BIG := rb_49 _ (List.mem_of_getElem? (i := 22) rfl)
theorem wm_49_23 : Cond.code yX7_namesWith cX7_namesWith 3 (some .boolean) ∈ BIG := rb_49 _ (List.mem_of_getElem? (i := 23) rfl)
theorem wm_50_0 : Cond.methodLink RX7 105 yX7_givesCycle ∈ BIG := rb_50 _ (List.mem_of_getElem? (i := 0) rfl)
theorem wm_50_1 : Cond.instanceMethod yX7_givesCycle ∈ BIG := rb_50 _ (List.mem_of_getElem? (i := 1) rfl)
theorem wm_50_2 : Cond.selects RX7 yX7_givesCycle yX7_givesCycle ∈ BIG := rb_50 _ (List.mem_of_getElem? (i := 2) rfl)
theorem wm_50_3 : Cond.code yX7_givesCycle cX7_givesCycle 6 (some .boolean) ∈ BIG := rb_50 _ (List.mem_of_getElem? (i := 3) rfl)
theorem wm_50_4 : Cond.methodLink RX7 111 yX7_fits ∈ BIG := rb_50 _ (List.mem_of_getElem? (i := 4) rfl)
theorem wm_50_5 : Cond.instanceMethod yX7_fits ∈ BIG := rb_50 _ (List.mem_of_getElem? (i := 5) rfl)
theorem wm_50_6 : Cond.selects RX7 yX7_fits yX7_fits ∈ BIG := rb_50 _ (List.mem_of_getElem? (i := 6) rfl)
theorem wm_50_7 : Cond.code yX7_fits cX7_fits 5 (some .boolean) ∈ BIG := rb_50 _ (List.mem_of_getElem? (i := 7) rfl)
theorem wm_50_8 : Cond.methodLink RX7 108 yX7_takeCycleBack ∈ BIG := rb_50 _ (List.mem_of_getElem? (i := 8) rfl)
theorem wm_50_9 : Cond.instanceMethod yX7_takeCycleBack ∈ BIG := rb_50 _ (List.mem_of_getElem? (i := 9) rfl)
theorem wm_50_10 : Cond.selects RX7 yX7_takeCycleBack yX7_takeCycleBack ∈ BIG := rb_50 _ (List.mem_of_getElem? (i := 10) rfl)
theorem wm_50_11 : Cond.code yX7_takeCycleBack cX7_takeCycleBack 4 none ∈ BIG := rb_50 _ (List.mem_of_getElem? (i := 11) rfl)
theorem wm_50_12 : Cond.methodLink RL 120 yX12_same ∈ BIG := rb_50 _ (List.mem_of_getElem? (i := 12) rfl)
theorem wm_50_13 : Cond.instanceMethod yX12_same ∈ BIG := rb_50 _ (List.mem_of_getElem? (i := 13) rfl)
theorem wm_50_14 : Cond.selects RX12 yX12_same yX12_same ∈ BIG := rb_50 _ (List.mem_of_getElem? (i := 14) rfl)
theorem wm_50_15 : Cond.code yX12_same cX12_same 2 (some .int) ∈ BIG := rb_50 _ (List.mem_of_getElem? (i := 15) rfl)
theorem wm_50_16 : Cond.methodLink RX12 494 yX12_areSame ∈ BIG := rb_50 _ (List.mem_of_getElem? (i := 16) rfl)
theorem wm_50_17 : Cond.instanceMethod yX12_areSame ∈ BIG := rb_50 _ (List.mem_of_getElem? (i := 17) rfl)
theorem wm_50_18 : Cond.selects RX12 yX12_areSame yX12_areSame ∈ BIG := rb_50 _ (List.mem_of_getElem? (i := 18) rfl)
theorem wm_50_19 : Cond.code yX12_areSame cX12_areSame 2 (some .boolean) ∈ BIG := rb_50 _ (List.mem_of_getElem? (i := 19) rfl)
theorem wm_50_20 : Cond.methodLink RX12 491 yX12_names ∈ BIG := rb_50 _ (List.mem_of_getElem? (i := 20) rfl)
theorem wm_50_21 : Cond.instanceMethod yX12_names ∈ BIG := rb_50 _ (List.mem_of_getElem? (i := 21) rfl)
theorem wm_50_22 : Cond.selects RX12 yX12_names yX12_names ∈ BIG := rb_50 _ (List.mem_of_getElem? (i := 22) rfl)
theorem wm_50_23 : Cond.code yX12_names cX12_names 4 (some .boolean) ∈ BIG := rb_50 _ (List.mem_of_getElem? (i := 23) rfl)
theorem wm_51_0 : Cond.methodLink RX12 488 yX12_mayBe ∈ BIG := rb_51 _ (List.mem_of_getElem? (i := 0) rfl)
theorem wm_51_1 : Cond.instanceMethod yX12_mayBe ∈ BIG := rb_51 _ (List.mem_of_getElem? (i := 1) rfl)
theorem wm_51_2 : Cond.selects RX12 yX12_mayBe yX12_mayBe ∈ BIG := rb_51 _ (List.mem_of_getElem? (i := 2) rfl)
theorem wm_51_3 : Cond.code yX12_mayBe cX12_mayBe 5 (some .boolean) ∈ BIG := rb_51 _ (List.mem_of_getElem? (i := 3) rfl)
theorem wm_51_4 : Cond.methodLink RX12 485 yX12_friends ∈ BIG := rb_51 _ (List.mem_of_getElem? (i := 4) rfl)
theorem wm_51_5 : Cond.instanceMethod yX12_friends ∈ BIG := rb_51 _ (List.mem_of_getElem? (i := 5) rfl)
theorem wm_51_6 : Cond.selects RX12 yX12_friends yX12_friends ∈ BIG := rb_51 _ (List.mem_of_getElem? (i := 6) rfl)
theorem wm_51_7 : Cond.code yX12_friends cX12_friends 5 (some .int) ∈ BIG := rb_51 _ (List.mem_of_getElem? (i := 7) rfl)
theorem wm_51_8 : Cond.methodLink RX12 479 yX12_isPair ∈ BIG := rb_51 _ (List.mem_of_getElem? (i := 8) rfl)
theorem wm_51_9 : Cond.instanceMethod yX12_isPair ∈ BIG := rb_51 _ (List.mem_of_getElem? (i := 9) rfl)
theorem wm_51_10 : Cond.selects RX12 yX12_isPair yX12_isPair ∈ BIG := rb_51 _ (List.mem_of_getElem? (i := 10) rfl)
theorem wm_51_11 : Cond.code yX12_isPair cX12_isPair 4 (some .boolean) ∈ BIG := rb_51 _ (List.mem_of_getElem? (i := 11) rfl)
theorem wm_51_12 : Cond.methodLink RX12 482 yX12_isPairOn ∈ BIG := rb_51 _ (List.mem_of_getElem? (i := 12) rfl)
theorem wm_51_13 : Cond.instanceMethod yX12_isPairOn ∈ BIG := rb_51 _ (List.mem_of_getElem? (i := 13) rfl)
theorem wm_51_14 : Cond.selects RX12 yX12_isPairOn yX12_isPairOn ∈ BIG := rb_51 _ (List.mem_of_getElem? (i := 14) rfl)
theorem wm_51_15 : Cond.code yX12_isPairOn cX12_isPairOn 7 (some .boolean) ∈ BIG := rb_51 _ (List.mem_of_getElem? (i := 15) rfl)
theorem wm_51_16 : Cond.methodLink RL 121 yX11_renamed ∈ BIG := rb_51 _ (List.mem_of_getElem? (i := 16) rfl)
theorem wm_51_17 : Cond.instanceMethod yX11_renamed ∈ BIG := rb_51 _ (List.mem_of_getElem? (i := 17) rfl)
theorem wm_51_18 : Cond.selects RX11 yX11_renamed yX11_renamed ∈ BIG := rb_51 _ (List.mem_of_getElem? (i := 18) rfl)
theorem wm_51_19 : Cond.code yX11_renamed cX11_renamed 3 (some .int) ∈ BIG := rb_51 _ (List.mem_of_getElem? (i := 19) rfl)
theorem wm_51_20 : Cond.methodLink RX11 272 yX11_same ∈ BIG := rb_51 _ (List.mem_of_getElem? (i := 20) rfl)
theorem wm_51_21 : Cond.methodLink RL 124 yX12_renamed ∈ BIG := rb_51 _ (List.mem_of_getElem? (i := 21) rfl)
theorem wm_51_22 : Cond.instanceMethod yX12_renamed ∈ BIG := rb_51 _ (List.mem_of_getElem? (i := 22) rfl)
theorem wm_51_23 : Cond.selects RX12 yX12_renamed yX12_renamed ∈ BIG := rb_51 _ (List.mem_of_getElem? (i := 23) rfl)
theorem wm_52_0 : Cond.code yX12_renamed cX12_renamed 3 (some .int) ∈ BIG := rb_52 _ (List.mem_of_getElem? (i := 0) rfl)
theorem wm_52_1 : Cond.methodLink RL 125 yX11_mark ∈ BIG := rb_52 _ (List.mem_of_getElem? (i := 1) rfl)
theorem wm_52_2 : Cond.instanceMethod yX11_mark ∈ BIG := rb_52 _ (List.mem_of_getElem? (i := 2) rfl)
theorem wm_52_3 : Cond.selects RX11 yX11_mark yX11_mark ∈ BIG := rb_52 _ (List.mem_of_getElem? (i := 3) rfl)
theorem wm_52_4 : Cond.code yX11_mark cX11_mark 4 (some .boolean) ∈ BIG := rb_52 _ (List.mem_of_getElem? (i := 4) rfl)
theorem wm_52_5 : Cond.methodLink RX11 279 yX2_copy ∈ BIG := rb_52 _ (List.mem_of_getElem? (i := 5) rfl)
theorem wm_52_6 : Cond.instanceMethod yX2_copy ∈ BIG := rb_52 _ (List.mem_of_getElem? (i := 6) rfl)
theorem wm_52_7 : Cond.selects RX2 yX2_copy yX2_copy ∈ BIG := rb_52 _ (List.mem_of_getElem? (i := 7) rfl)
theorem wm_52_8 : Cond.code yX2_copy cX2_copy 2 none ∈ BIG := rb_52 _ (List.mem_of_getElem? (i := 8) rfl)
theorem wm_52_9 : Cond.methodLink RX11 282 yX5_lay ∈ BIG := rb_52 _ (List.mem_of_getElem? (i := 9) rfl)
theorem wm_52_10 : Cond.instanceMethod yX5_lay ∈ BIG := rb_52 _ (List.mem_of_getElem? (i := 10) rfl)
theorem wm_52_11 : Cond.selects RX5 yX5_lay yX5_lay ∈ BIG := rb_52 _ (List.mem_of_getElem? (i := 11) rfl)
theorem wm_52_12 : Cond.code yX5_lay cX5_lay 3 none ∈ BIG := rb_52 _ (List.mem_of_getElem? (i := 12) rfl)
theorem wm_52_13 : Cond.fieldLink RX5 30 "EndsRound$Mark" "laid" "Z" ∈ BIG := rb_52 _ (List.mem_of_getElem? (i := 13) rfl)
theorem wm_52_14 : Cond.methodLink RX5 23 yX4_copy ∈ BIG := rb_52 _ (List.mem_of_getElem? (i := 14) rfl)
theorem wm_52_15 : Cond.methodLink RX5 27 yX2_copy ∈ BIG := rb_52 _ (List.mem_of_getElem? (i := 15) rfl)
theorem wm_52_16 : Cond.methodLink RL 129 yX12_mark ∈ BIG := rb_52 _ (List.mem_of_getElem? (i := 16) rfl)
theorem wm_52_17 : Cond.instanceMethod yX12_mark ∈ BIG := rb_52 _ (List.mem_of_getElem? (i := 17) rfl)
theorem wm_52_18 : Cond.selects RX12 yX12_mark yX12_mark ∈ BIG := rb_52 _ (List.mem_of_getElem? (i := 18) rfl)
theorem wm_52_19 : Cond.code yX12_mark cX12_mark 4 (some .boolean) ∈ BIG := rb_52 _ (List.mem_of_getElem? (i := 19) rfl)
theorem wm_52_20 : Cond.fieldLink RX12 468 "EndsRoundModel" "markAt" "I" ∈ BIG := rb_52 _ (List.mem_of_getElem? (i := 20) rfl)
theorem wm_52_21 : Cond.methodLink RX12 471 yX12_keeps ∈ BIG := rb_52 _ (List.mem_of_getElem? (i := 21) rfl)
theorem wm_52_22 : Cond.instanceMethod yX12_keeps ∈ BIG := rb_52 _ (List.mem_of_getElem? (i := 22) rfl)
theorem wm_52_23 : Cond.selects RX12 yX12_keeps yX12_keeps ∈ BIG := rb_52 _ (List.mem_of_getElem? (i := 23) rfl)
theorem wm_53_0 : Cond.code yX12_keeps cX12_keeps 4 (some .int) ∈ BIG := rb_53 _ (List.mem_of_getElem? (i := 0) rfl)
theorem wm_53_1 : Cond.methodLink RX12 475 yX12_keepsRow ∈ BIG := rb_53 _ (List.mem_of_getElem? (i := 1) rfl)
theorem wm_53_2 : Cond.instanceMethod yX12_keepsRow ∈ BIG := rb_53 _ (List.mem_of_getElem? (i := 2) rfl)
theorem wm_53_3 : Cond.selects RX12 yX12_keepsRow yX12_keepsRow ∈ BIG := rb_53 _ (List.mem_of_getElem? (i := 3) rfl)
theorem wm_53_4 : Cond.code yX12_keepsRow cX12_keepsRow 5 none ∈ BIG := rb_53 _ (List.mem_of_getElem? (i := 4) rfl)
theorem wm_53_5 : Cond.methodLink RL 130 yX11_count ∈ BIG := rb_53 _ (List.mem_of_getElem? (i := 5) rfl)
theorem wm_53_6 : Cond.instanceMethod yX11_count ∈ BIG := rb_53 _ (List.mem_of_getElem? (i := 6) rfl)
theorem wm_53_7 : Cond.selects RX11 yX11_count yX11_count ∈ BIG := rb_53 _ (List.mem_of_getElem? (i := 7) rfl)
theorem wm_53_8 : Cond.code yX11_count cX11_count 2 (some .int) ∈ BIG := rb_53 _ (List.mem_of_getElem? (i := 8) rfl)
theorem wm_53_9 : Cond.methodLink RL 133 yX12_count ∈ BIG := rb_53 _ (List.mem_of_getElem? (i := 9) rfl)
theorem wm_53_10 : Cond.instanceMethod yX12_count ∈ BIG := rb_53 _ (List.mem_of_getElem? (i := 10) rfl)
theorem wm_53_11 : Cond.selects RX12 yX12_count yX12_count ∈ BIG := rb_53 _ (List.mem_of_getElem? (i := 11) rfl)
theorem wm_53_12 : Cond.code yX12_count cX12_count 2 (some .int) ∈ BIG := rb_53 _ (List.mem_of_getElem? (i := 12) rfl)
theorem iw_11 : ∀ w ∈ wsX110, w ∈ BIG := fun w h => sb_T w (List.mem_append_left _ h)
theorem iw_12 : ∀ w ∈ wsX120, w ∈ BIG := fun w h => sb_T w (List.mem_append_right _ (List.mem_append_left _ h))
theorem iw_10 : ∀ w ∈ wsX100, w ∈ BIG := fun w h => sb_T w (List.mem_append_right _ (List.mem_append_right _ (List.mem_append_left _ h)))
theorem iw_8 : ∀ w ∈ wsX80, w ∈ BIG := fun w h => sb_T w (List.mem_append_right _ (List.mem_append_right _ (List.mem_append_right _ (List.mem_append_left _ h))))
theorem iw_4 : ∀ w ∈ wsX40, w ∈ BIG := fun w h => sb_T w (List.mem_append_right _ (List.mem_append_right _ (List.mem_append_right _ (List.mem_append_right _ (List.mem_append_left _ h)))))
theorem iw_2 : ∀ w ∈ wsX20, w ∈ BIG := fun w h => sb_T w (List.mem_append_right _ (List.mem_append_right _ (List.mem_append_right _ (List.mem_append_right _ (List.mem_append_right _ (List.mem_append_left _ h))))))
theorem iw_9 : ∀ w ∈ wsX90, w ∈ BIG := fun w h => sb_T w (List.mem_append_right _ (List.mem_append_right _ (List.mem_append_right _ (List.mem_append_right _ (List.mem_append_right _ (List.mem_append_right _ (List.mem_append_left _ h)))))))
theorem iw_3 : ∀ w ∈ wsX30, w ∈ BIG := fun w h => sb_T w (List.mem_append_right _ (List.mem_append_right _ (List.mem_append_right _ (List.mem_append_right _ (List.mem_append_right _ (List.mem_append_right _ (List.mem_append_right _ (List.mem_append_left _ h))))))))
theorem iw_6 : ∀ w ∈ wsX60, w ∈ BIG := fun w h => sb_T w (List.mem_append_right _ (List.mem_append_right _ (List.mem_append_right _ (List.mem_append_right _ (List.mem_append_right _ (List.mem_append_right _ (List.mem_append_right _ (List.mem_append_right _ (List.mem_append_left _ h)))))))))
theorem iw_7 : ∀ w ∈ wsX70, w ∈ BIG := fun w h => sb_T w (List.mem_append_right _ (List.mem_append_right _ (List.mem_append_right _ (List.mem_append_right _ (List.mem_append_right _ (List.mem_append_right _ (List.mem_append_right _ (List.mem_append_right _ (List.mem_append_right _ (List.mem_append_left _ h))))))))))
theorem iw_5 : ∀ w ∈ wsX50, w ∈ BIG := fun w h => sb_T w (List.mem_append_right _ (List.mem_append_right _ (List.mem_append_right _ (List.mem_append_right _ (List.mem_append_right _ (List.mem_append_right _ (List.mem_append_right _ (List.mem_append_right _ (List.mem_append_right _ (List.mem_append_right _ (List.mem_append_left _ h)))))))))))
theorem iw_1 : ∀ w ∈ wsX10, w ∈ BIG := fun w h => sb_T w (List.mem_append_right _ (List.mem_append_right _ (List.mem_append_right _ (List.mem_append_right _ (List.mem_append_right _ (List.mem_append_right _ (List.mem_append_right _ (List.mem_append_right _ (List.mem_append_right _ (List.mem_append_right _ (List.mem_append_right _ (List.mem_append_left _ h))))))))))))
theorem iw_0 : ∀ w ∈ wsX00, w ∈ BIG := fun w h => sb_T w (List.mem_append_right _ (List.mem_append_right _ (List.mem_append_right _ (List.mem_append_right _ (List.mem_append_right _ (List.mem_append_right _ (List.mem_append_right _ (List.mem_append_right _ (List.mem_append_right _ (List.mem_append_right _ (List.mem_append_right _ (List.mem_append_right _ (h)))))))))))))
theorem gw_T : ∀ w ∈ bigT, goodWord w = true := by decide +kernel
theorem gr_53 : ∀ w ∈ wsL_law0_r53, goodWord w = true := List.forall_mem_cons.mpr ⟨rfl, List.forall_mem_cons.mpr ⟨rfl, List.forall_mem_cons.mpr ⟨rfl, List.forall_mem_cons.mpr ⟨rfl, List.forall_mem_cons.mpr ⟨rfl, List.forall_mem_cons.mpr ⟨rfl, List.forall_mem_cons.mpr ⟨rfl, List.forall_mem_cons.mpr ⟨rfl, List.forall_mem_cons.mpr ⟨rfl, List.forall_mem_cons.mpr ⟨rfl, List.forall_mem_cons.mpr ⟨rfl, List.forall_mem_cons.mpr ⟨rfl, List.forall_mem_cons.mpr ⟨rfl, fun _ h => absurd h List.not_mem_nil⟩⟩⟩⟩⟩⟩⟩⟩⟩⟩⟩⟩⟩
theorem gw_53 : ∀ w ∈ big53, goodWord w = true := fun w h => (List.mem_append.mp h).elim (gr_53 w) (gw_T w)
theorem gr_52 : ∀ w ∈ wsL_law0_r52, goodWord w = true := List.forall_mem_cons.mpr ⟨rfl, List.forall_mem_cons.mpr ⟨rfl, List.forall_mem_cons.mpr ⟨rfl, List.forall_mem_cons.mpr ⟨rfl, List.forall_mem_cons.mpr ⟨rfl, List.forall_mem_cons.mpr ⟨rfl, List.forall_mem_cons.mpr ⟨rfl, List.forall_mem_cons.mpr ⟨rfl, List.forall_mem_cons.mpr ⟨rfl, List.forall_mem_cons.mpr ⟨rfl, List.forall_mem_cons.mpr ⟨rfl, List.forall_mem_cons.mpr ⟨rfl, List.forall_mem_cons.mpr ⟨rfl, List.forall_mem_cons.mpr ⟨rfl, List.forall_mem_cons.mpr ⟨rfl, List.forall_mem_cons.mpr ⟨rfl, List.forall_mem_cons.mpr ⟨rfl, List.forall_mem_cons.mpr ⟨rfl, List.forall_mem_cons.mpr ⟨rfl, List.forall_mem_cons.mpr ⟨rfl, List.forall_mem_cons.mpr ⟨rfl, List.forall_mem_cons.mpr ⟨rfl, List.forall_mem_cons.mpr ⟨rfl, List.forall_mem_cons.mpr ⟨rfl, fun _ h => absurd h List.not_mem_nil⟩⟩⟩⟩⟩⟩⟩⟩⟩⟩⟩⟩⟩⟩⟩⟩⟩⟩⟩⟩⟩⟩⟩⟩
theorem gw_52 : ∀ w ∈ big52, goodWord w = true := fun w h => (List.mem_append.mp h).elim (gr_52 w) (gw_53 w)
theorem gr_51 : ∀ w ∈ wsL_law0_r51, goodWord w = true := List.forall_mem_cons.mpr ⟨rfl, List.forall_mem_cons.mpr ⟨rfl, List.forall_mem_cons.mpr ⟨rfl, List.forall_mem_cons.mpr ⟨rfl, List.forall_mem_cons.mpr ⟨rfl, List.forall_mem_cons.mpr ⟨rfl, List.forall_mem_cons.mpr ⟨rfl, List.forall_mem_cons.mpr ⟨rfl, List.forall_mem_cons.mpr ⟨rfl, List.forall_mem_cons.mpr ⟨rfl, List.forall_mem_cons.mpr ⟨rfl, List.forall_mem_cons.mpr ⟨rfl, List.forall_mem_cons.mpr ⟨rfl, List.forall_mem_cons.mpr ⟨rfl, List.forall_mem_cons.mpr ⟨rfl, List.forall_mem_cons.mpr ⟨rfl, List.forall_mem_cons.mpr ⟨rfl, List.forall_mem_cons.mpr ⟨rfl, List.forall_mem_cons.mpr ⟨rfl, List.forall_mem_cons.mpr ⟨rfl, List.forall_mem_cons.mpr ⟨rfl, List.forall_mem_cons.mpr ⟨rfl, List.forall_mem_cons.mpr ⟨rfl, List.forall_mem_cons.mpr ⟨rfl, fun _ h => absurd h List.not_mem_nil⟩⟩⟩⟩⟩⟩⟩⟩⟩⟩⟩⟩⟩⟩⟩⟩⟩⟩⟩⟩⟩⟩⟩⟩
theorem gw_51 : ∀ w ∈ big51, goodWord w = true := fun w h => (List.mem_append.mp h).elim (gr_51 w) (gw_52 w)
theorem gr_50 : ∀ w ∈ wsL_law0_r50, goodWord w = true := List.forall_mem_cons.mpr ⟨rfl, List.forall_mem_cons.mpr ⟨rfl, List.forall_mem_cons.mpr ⟨rfl, List.forall_mem_cons.mpr ⟨rfl, List.forall_mem_cons.mpr ⟨rfl, List.forall_mem_cons.mpr ⟨rfl, List.forall_mem_cons.mpr ⟨rfl, List.forall_mem_cons.mpr ⟨rfl, List.forall_mem_cons.mpr ⟨rfl, List.forall_mem_cons.mpr ⟨rfl, List.forall_mem_cons.mpr ⟨rfl, List.forall_mem_cons.mpr ⟨rfl, List.forall_mem_cons.mpr ⟨rfl, List.forall_mem_cons.mpr ⟨rfl, List.forall_mem_cons.mpr ⟨rfl, List.forall_mem_cons.mpr ⟨rfl, List.forall_mem_cons.mpr ⟨rfl, List.forall_mem_cons.mpr ⟨rfl, List.forall_mem_cons.mpr ⟨rfl, List.forall_mem_cons.mpr ⟨rfl, List.forall_mem_cons.mpr ⟨rfl, List.forall_mem_cons.mpr ⟨rfl, List.forall_mem_cons.mpr ⟨rfl, List.forall_mem_cons.mpr ⟨rfl, fun _ h => absurd h List.not_mem_nil⟩⟩⟩⟩⟩⟩⟩⟩⟩⟩⟩⟩⟩⟩⟩⟩⟩⟩⟩⟩⟩⟩⟩⟩
theorem gw_50 : ∀ w ∈ big50, goodWord w = true := fun w h => (List.mem_append.mp h).elim (gr_50 w) (gw_51 w)
theorem gr_49 : ∀ w ∈ wsL_law0_r49, goodWord w = true := List.forall_mem_cons.mpr ⟨rfl, List.forall_mem_cons.mpr ⟨rfl, List.forall_mem_cons.mpr ⟨rfl, List.forall_mem_cons.mpr ⟨rfl, List.forall_mem_cons.mpr ⟨rfl, List.forall_mem_cons.mpr ⟨rfl, List.forall_mem_cons.mpr ⟨rfl, List.forall_mem_cons.mpr ⟨rfl, List.forall_mem_cons.mpr ⟨rfl, List.forall_mem_cons.mpr ⟨rfl, List.forall_mem_cons.mpr ⟨rfl, List.forall_mem_cons.mpr ⟨rfl, List.forall_mem_cons.mpr ⟨rfl, List.forall_mem_cons.mpr ⟨rfl, List.forall_mem_cons.mpr ⟨rfl, List.forall_mem_cons.mpr ⟨rfl, List.forall_mem_cons.mpr ⟨rfl, List.forall_mem_cons.mpr ⟨rfl, List.forall_mem_cons.mpr ⟨rfl, List.forall_mem_cons.mpr ⟨rfl, List.forall_mem_cons.mpr ⟨rfl, List.forall_mem_cons.mpr ⟨rfl, List.forall_mem_cons.mpr ⟨rfl, List.forall_mem_cons.mpr ⟨rfl, fun _ h => absurd h List.not_mem_nil⟩⟩⟩⟩⟩⟩⟩⟩⟩⟩⟩⟩⟩⟩⟩⟩⟩⟩⟩⟩⟩⟩⟩⟩
theorem gw_49 : ∀ w ∈ big49, goodWord w = true := fun w h => (List.mem_append.mp h).elim (gr_49 w) (gw_50 w)
theorem gr_48 : ∀ w ∈ wsL_law0_r48, goodWord w = true := List.forall_mem_cons.mpr ⟨rfl, List.forall_mem_cons.mpr ⟨rfl, List.forall_mem_cons.mpr ⟨rfl, List.forall_mem_cons.mpr ⟨rfl, List.forall_mem_cons.mpr ⟨rfl, List.forall_mem_cons.mpr ⟨rfl, List.forall_mem_cons.mpr ⟨rfl, List.forall_mem_cons.mpr ⟨rfl, List.forall_mem_cons.mpr ⟨rfl, List.forall_mem_cons.mpr ⟨rfl, List.forall_mem_cons.mpr ⟨rfl, List.forall_mem_cons.mpr ⟨rfl, List.forall_mem_cons.mpr ⟨rfl, List.forall_mem_cons.mpr ⟨rfl, List.forall_mem_cons.mpr ⟨rfl, List.forall_mem_cons.mpr ⟨rfl, List.forall_mem_cons.mpr ⟨rfl, List.forall_mem_cons.mpr ⟨rfl, List.forall_mem_cons.mpr ⟨rfl, List.forall_mem_cons.mpr ⟨rfl, List.forall_mem_cons.mpr ⟨rfl, List.forall_mem_cons.mpr ⟨rfl, List.forall_mem_cons.mpr ⟨rfl, List.forall_mem_cons.mpr ⟨rfl, fun _ h => absurd h List.not_mem_nil⟩⟩⟩⟩⟩⟩⟩⟩⟩⟩⟩⟩⟩⟩⟩⟩⟩⟩⟩⟩⟩⟩⟩⟩
theorem gw_48 : ∀ w ∈ big48, goodWord w = true := fun w h => (List.mem_append.mp h).elim (gr_48 w) (gw_49 w)
theorem gr_47 : ∀ w ∈ wsL_law0_r47, goodWord w = true := List.forall_mem_cons.mpr ⟨rfl, List.forall_mem_cons.mpr ⟨rfl, List.forall_mem_cons.mpr ⟨rfl, List.forall_mem_cons.mpr ⟨rfl, List.forall_mem_cons.mpr ⟨rfl, List.forall_mem_cons.mpr ⟨rfl, List.forall_mem_cons.mpr ⟨rfl, List.forall_mem_cons.mpr ⟨rfl, List.forall_mem_cons.mpr ⟨rfl, List.forall_mem_cons.mpr ⟨rfl, List.forall_mem_cons.mpr ⟨rfl, List.forall_mem_cons.mpr ⟨rfl, List.forall_mem_cons.mpr ⟨rfl, List.forall_mem_cons.mpr ⟨rfl, List.forall_mem_cons.mpr ⟨rfl, List.forall_mem_cons.mpr ⟨rfl, List.forall_mem_cons.mpr ⟨rfl, List.forall_mem_cons.mpr ⟨rfl, List.forall_mem_cons.mpr ⟨rfl, List.forall_mem_cons.mpr ⟨rfl, List.forall_mem_cons.mpr ⟨rfl, List.forall_mem_cons.mpr ⟨rfl, List.forall_mem_cons.mpr ⟨rfl, List.forall_mem_cons.mpr ⟨rfl, fun _ h => absurd h List.not_mem_nil⟩⟩⟩⟩⟩⟩⟩⟩⟩⟩⟩⟩⟩⟩⟩⟩⟩⟩⟩⟩⟩⟩⟩⟩
theorem gw_47 : ∀ w ∈ big47, goodWord w = true := fun w h => (List.mem_append.mp h).elim (gr_47 w) (gw_48 w)
theorem gr_46 : ∀ w ∈ wsL_law0_r46, goodWord w = true := List.forall_mem_cons.mpr ⟨rfl, List.forall_mem_cons.mpr ⟨rfl, List.forall_mem_cons.mpr ⟨rfl, List.forall_mem_cons.mpr ⟨rfl, List.forall_mem_cons.mpr ⟨rfl, List.forall_mem_cons.mpr ⟨rfl, List.forall_mem_cons.mpr ⟨rfl, List.forall_mem_cons.mpr ⟨rfl, List.forall_mem_cons.mpr ⟨rfl, List.forall_mem_cons.mpr ⟨rfl, List.forall_mem_cons.mpr ⟨rfl, List.forall_mem_cons.mpr ⟨rfl, List.forall_mem_cons.mpr ⟨rfl, List.forall_mem_cons.mpr ⟨rfl, List.forall_mem_cons.mpr ⟨rfl, List.forall_mem_cons.mpr ⟨rfl, List.forall_mem_cons.mpr ⟨rfl, List.forall_mem_cons.mpr ⟨rfl, List.forall_mem_cons.mpr ⟨rfl, List.forall_mem_cons.mpr ⟨rfl, List.forall_mem_cons.mpr ⟨rfl, List.forall_mem_cons.mpr ⟨rfl, List.forall_mem_cons.mpr ⟨rfl, List.forall_mem_cons.mpr ⟨rfl, fun _ h => absurd h List.not_mem_nil⟩⟩⟩⟩⟩⟩⟩⟩⟩⟩⟩⟩⟩⟩⟩⟩⟩⟩⟩⟩⟩⟩⟩⟩
theorem gw_46 : ∀ w ∈ big46, goodWord w = true := fun w h => (List.mem_append.mp h).elim (gr_46 w) (gw_47 w)
theorem gr_45 : ∀ w ∈ wsL_law0_r45, goodWord w = true := List.forall_mem_cons.mpr ⟨rfl, List.forall_mem_cons.mpr ⟨rfl, List.forall_mem_cons.mpr ⟨rfl, List.forall_mem_cons.mpr ⟨rfl, List.forall_mem_cons.mpr ⟨rfl, List.forall_mem_cons.mpr ⟨rfl, List.forall_mem_cons.mpr ⟨rfl, List.forall_mem_cons.mpr ⟨rfl, List.forall_mem_cons.mpr ⟨rfl, List.forall_mem_cons.mpr ⟨rfl, List.forall_mem_cons.mpr ⟨rfl, List.forall_mem_cons.mpr ⟨rfl, List.forall_mem_cons.mpr ⟨rfl, List.forall_mem_cons.mpr ⟨rfl, List.forall_mem_cons.mpr ⟨rfl, List.forall_mem_cons.mpr ⟨rfl, List.forall_mem_cons.mpr ⟨rfl, List.forall_mem_cons.mpr ⟨rfl, List.forall_mem_cons.mpr ⟨rfl, List.forall_mem_cons.mpr ⟨rfl, List.forall_mem_cons.mpr ⟨rfl, List.forall_mem_cons.mpr ⟨rfl, List.forall_mem_cons.mpr ⟨rfl, List.forall_mem_cons.mpr ⟨rfl, fun _ h => absurd h List.not_mem_nil⟩⟩⟩⟩⟩⟩⟩⟩⟩⟩⟩⟩⟩⟩⟩⟩⟩⟩⟩⟩⟩⟩⟩⟩
theorem gw_45 : ∀ w ∈ big45, goodWord w = true := fun w h => (List.mem_append.mp h).elim (gr_45 w) (gw_46 w)
theorem gr_44 : ∀ w ∈ wsL_law0_r44, goodWord w = true := List.forall_mem_cons.mpr ⟨rfl, List.forall_mem_cons.mpr ⟨rfl, List.forall_mem_cons.mpr ⟨rfl, List.forall_mem_cons.mpr ⟨rfl, List.forall_mem_cons.mpr ⟨rfl, List.forall_mem_cons.mpr ⟨rfl, List.forall_mem_cons.mpr ⟨rfl, List.forall_mem_cons.mpr ⟨rfl, List.forall_mem_cons.mpr ⟨rfl, List.forall_mem_cons.mpr ⟨rfl, List.forall_mem_cons.mpr ⟨rfl, List.forall_mem_cons.mpr ⟨rfl, List.forall_mem_cons.mpr ⟨rfl, List.forall_mem_cons.mpr ⟨rfl, List.forall_mem_cons.mpr ⟨rfl, List.forall_mem_cons.mpr ⟨rfl, List.forall_mem_cons.mpr ⟨rfl, List.forall_mem_cons.mpr ⟨rfl, List.forall_mem_cons.mpr ⟨rfl, List.forall_mem_cons.mpr ⟨rfl, List.forall_mem_cons.mpr ⟨rfl, List.forall_mem_cons.mpr ⟨rfl, List.forall_mem_cons.mpr ⟨rfl, List.forall_mem_cons.mpr ⟨rfl, fun _ h => absurd h List.not_mem_nil⟩⟩⟩⟩⟩⟩⟩⟩⟩⟩⟩⟩⟩⟩⟩⟩⟩⟩⟩⟩⟩⟩⟩⟩
theorem gw_44 : ∀ w ∈ big44, goodWord w = true := fun w h => (List.mem_append.mp h).elim (gr_44 w) (gw_45 w)
theorem gr_43 : ∀ w ∈ wsL_law0_r43, goodWord w = true := List.forall_mem_cons.mpr ⟨rfl, List.forall_mem_cons.mpr ⟨rfl, List.forall_mem_cons.mpr ⟨rfl, List.forall_mem_cons.mpr ⟨rfl, List.forall_mem_cons.mpr ⟨rfl, List.forall_mem_cons.mpr ⟨rfl, List.forall_mem_cons.mpr ⟨rfl, List.forall_mem_cons.mpr ⟨rfl, List.forall_mem_cons.mpr ⟨rfl, List.forall_mem_cons.mpr ⟨rfl, List.forall_mem_cons.mpr ⟨rfl, List.forall_mem_cons.mpr ⟨rfl, List.forall_mem_cons.mpr ⟨rfl, List.forall_mem_cons.mpr ⟨rfl, List.forall_mem_cons.mpr ⟨rfl, List.forall_mem_cons.mpr ⟨rfl, List.forall_mem_cons.mpr ⟨rfl, List.forall_mem_cons.mpr ⟨rfl, List.forall_mem_cons.mpr ⟨rfl, List.forall_mem_cons.mpr ⟨rfl, List.forall_mem_cons.mpr ⟨rfl, List.forall_mem_cons.mpr ⟨rfl, List.forall_mem_cons.mpr ⟨rfl, List.forall_mem_cons.mpr ⟨rfl, fun _ h => absurd h List.not_mem_nil⟩⟩⟩⟩⟩⟩⟩⟩⟩⟩⟩⟩⟩⟩⟩⟩⟩⟩⟩⟩⟩⟩⟩⟩
theorem gw_43 : ∀ w ∈ big43, goodWord w = true := fun w h => (List.mem_append.mp h).elim (gr_43 w) (gw_44 w)
theorem gr_42 : ∀ w ∈ wsL_law0_r42, goodWord w = true := List.forall_mem_cons.mpr ⟨rfl, List.forall_mem_cons.mpr ⟨rfl, List.forall_mem_cons.mpr ⟨rfl, List.forall_mem_cons.mpr ⟨rfl, List.forall_mem_cons.mpr ⟨rfl, List.forall_mem_cons.mpr ⟨rfl, List.forall_mem_cons.mpr ⟨rfl, List.forall_mem_cons.mpr ⟨rfl, List.forall_mem_cons.mpr ⟨rfl, List.forall_mem_cons.mpr ⟨rfl, List.forall_mem_cons.mpr ⟨rfl, List.forall_mem_cons.mpr ⟨rfl, List.forall_mem_cons.mpr ⟨rfl, List.forall_mem_cons.mpr ⟨rfl, List.forall_mem_cons.mpr ⟨rfl, List.forall_mem_cons.mpr ⟨rfl, List.forall_mem_cons.mpr ⟨rfl, List.forall_mem_cons.mpr ⟨rfl, List.forall_mem_cons.mpr ⟨rfl, List.forall_mem_cons.mpr ⟨rfl, List.forall_mem_cons.mpr ⟨rfl, List.forall_mem_cons.mpr ⟨rfl, List.forall_mem_cons.mpr ⟨rfl, List.forall_mem_cons.mpr ⟨rfl, fun _ h => absurd h List.not_mem_nil⟩⟩⟩⟩⟩⟩⟩⟩⟩⟩⟩⟩⟩⟩⟩⟩⟩⟩⟩⟩⟩⟩⟩⟩
theorem gw_42 : ∀ w ∈ big42, goodWord w = true := fun w h => (List.mem_append.mp h).elim (gr_42 w) (gw_43 w)
theorem gr_41 : ∀ w ∈ wsL_law0_r41, goodWord w = true := List.forall_mem_cons.mpr ⟨rfl, List.forall_mem_cons.mpr ⟨rfl, List.forall_mem_cons.mpr ⟨rfl, List.forall_mem_cons.mpr ⟨rfl, List.forall_mem_cons.mpr ⟨rfl, List.forall_mem_cons.mpr ⟨rfl, List.forall_mem_cons.mpr ⟨rfl, List.forall_mem_cons.mpr ⟨rfl, List.forall_mem_cons.mpr ⟨rfl, List.forall_mem_cons.mpr ⟨rfl, List.forall_mem_cons.mpr ⟨rfl, List.forall_mem_cons.mpr ⟨rfl, List.forall_mem_cons.mpr ⟨rfl, List.forall_mem_cons.mpr ⟨rfl, List.forall_mem_cons.mpr ⟨rfl, List.forall_mem_cons.mpr ⟨rfl, List.forall_mem_cons.mpr ⟨rfl, List.forall_mem_cons.mpr ⟨rfl, List.forall_mem_cons.mpr ⟨rfl, List.forall_mem_cons.mpr ⟨rfl, List.forall_mem_cons.mpr ⟨rfl, List.forall_mem_cons.mpr ⟨rfl, List.forall_mem_cons.mpr ⟨rfl, List.forall_mem_cons.mpr ⟨rfl, fun _ h => absurd h List.not_mem_nil⟩⟩⟩⟩⟩⟩⟩⟩⟩⟩⟩⟩⟩⟩⟩⟩⟩⟩⟩⟩⟩⟩⟩⟩
theorem gw_41 : ∀ w ∈ big41, goodWord w = true := fun w h => (List.mem_append.mp h).elim (gr_41 w) (gw_42 w)
theorem gr_40 : ∀ w ∈ wsL_law0_r40, goodWord w = true := List.forall_mem_cons.mpr ⟨rfl, List.forall_mem_cons.mpr ⟨rfl, List.forall_mem_cons.mpr ⟨rfl, List.forall_mem_cons.mpr ⟨rfl, List.forall_mem_cons.mpr ⟨rfl, List.forall_mem_cons.mpr ⟨rfl, List.forall_mem_cons.mpr ⟨rfl, List.forall_mem_cons.mpr ⟨rfl, List.forall_mem_cons.mpr ⟨rfl, List.forall_mem_cons.mpr ⟨rfl, List.forall_mem_cons.mpr ⟨rfl, List.forall_mem_cons.mpr ⟨rfl, List.forall_mem_cons.mpr ⟨rfl, List.forall_mem_cons.mpr ⟨rfl, List.forall_mem_cons.mpr ⟨rfl, List.forall_mem_cons.mpr ⟨rfl, List.forall_mem_cons.mpr ⟨rfl, List.forall_mem_cons.mpr ⟨rfl, List.forall_mem_cons.mpr ⟨rfl, List.forall_mem_cons.mpr ⟨rfl, List.forall_mem_cons.mpr ⟨rfl, List.forall_mem_cons.mpr ⟨rfl, List.forall_mem_cons.mpr ⟨rfl, List.forall_mem_cons.mpr ⟨rfl, fun _ h => absurd h List.not_mem_nil⟩⟩⟩⟩⟩⟩⟩⟩⟩⟩⟩⟩⟩⟩⟩⟩⟩⟩⟩⟩⟩⟩⟩⟩
theorem gw_40 : ∀ w ∈ big40, goodWord w = true := fun w h => (List.mem_append.mp h).elim (gr_40 w) (gw_41 w)
theorem gr_39 : ∀ w ∈ wsL_law0_r39, goodWord w = true := List.forall_mem_cons.mpr ⟨rfl, List.forall_mem_cons.mpr ⟨rfl, List.forall_mem_cons.mpr ⟨rfl, List.forall_mem_cons.mpr ⟨rfl, List.forall_mem_cons.mpr ⟨rfl, List.forall_mem_cons.mpr ⟨rfl, List.forall_mem_cons.mpr ⟨rfl, List.forall_mem_cons.mpr ⟨rfl, List.forall_mem_cons.mpr ⟨rfl, List.forall_mem_cons.mpr ⟨rfl, List.forall_mem_cons.mpr ⟨rfl, List.forall_mem_cons.mpr ⟨rfl, List.forall_mem_cons.mpr ⟨rfl, List.forall_mem_cons.mpr ⟨rfl, List.forall_mem_cons.mpr ⟨rfl, List.forall_mem_cons.mpr ⟨rfl, List.forall_mem_cons.mpr ⟨rfl, List.forall_mem_cons.mpr ⟨rfl, List.forall_mem_cons.mpr ⟨rfl, List.forall_mem_cons.mpr ⟨rfl, List.forall_mem_cons.mpr ⟨rfl, List.forall_mem_cons.mpr ⟨rfl, List.forall_mem_cons.mpr ⟨rfl, List.forall_mem_cons.mpr ⟨rfl, fun _ h => absurd h List.not_mem_nil⟩⟩⟩⟩⟩⟩⟩⟩⟩⟩⟩⟩⟩⟩⟩⟩⟩⟩⟩⟩⟩⟩⟩⟩
theorem gw_39 : ∀ w ∈ big39, goodWord w = true := fun w h => (List.mem_append.mp h).elim (gr_39 w) (gw_40 w)
theorem gr_38 : ∀ w ∈ wsL_law0_r38, goodWord w = true := List.forall_mem_cons.mpr ⟨rfl, List.forall_mem_cons.mpr ⟨rfl, List.forall_mem_cons.mpr ⟨rfl, List.forall_mem_cons.mpr ⟨rfl, List.forall_mem_cons.mpr ⟨rfl, List.forall_mem_cons.mpr ⟨rfl, List.forall_mem_cons.mpr ⟨rfl, List.forall_mem_cons.mpr ⟨rfl, List.forall_mem_cons.mpr ⟨rfl, List.forall_mem_cons.mpr ⟨rfl, List.forall_mem_cons.mpr ⟨rfl, List.forall_mem_cons.mpr ⟨rfl, List.forall_mem_cons.mpr ⟨rfl, List.forall_mem_cons.mpr ⟨rfl, List.forall_mem_cons.mpr ⟨rfl, List.forall_mem_cons.mpr ⟨rfl, List.forall_mem_cons.mpr ⟨rfl, List.forall_mem_cons.mpr ⟨rfl, List.forall_mem_cons.mpr ⟨rfl, List.forall_mem_cons.mpr ⟨rfl, List.forall_mem_cons.mpr ⟨rfl, List.forall_mem_cons.mpr ⟨rfl, List.forall_mem_cons.mpr ⟨rfl, List.forall_mem_cons.mpr ⟨rfl, fun _ h => absurd h List.not_mem_nil⟩⟩⟩⟩⟩⟩⟩⟩⟩⟩⟩⟩⟩⟩⟩⟩⟩⟩⟩⟩⟩⟩⟩⟩
theorem gw_38 : ∀ w ∈ big38, goodWord w = true := fun w h => (List.mem_append.mp h).elim (gr_38 w) (gw_39 w)
theorem gr_37 : ∀ w ∈ wsL_law0_r37, goodWord w = true := List.forall_mem_cons.mpr ⟨rfl, List.forall_mem_cons.mpr ⟨rfl, List.forall_mem_cons.mpr ⟨rfl, List.forall_mem_cons.mpr ⟨rfl, List.forall_mem_cons.mpr ⟨rfl, List.forall_mem_cons.mpr ⟨rfl, List.forall_mem_cons.mpr ⟨rfl, List.forall_mem_cons.mpr ⟨rfl, List.forall_mem_cons.mpr ⟨rfl, List.forall_mem_cons.mpr ⟨rfl, List.forall_mem_cons.mpr ⟨rfl, List.forall_mem_cons.mpr ⟨rfl, List.forall_mem_cons.mpr ⟨rfl, List.forall_mem_cons.mpr ⟨rfl, List.forall_mem_cons.mpr ⟨rfl, List.forall_mem_cons.mpr ⟨rfl, List.forall_mem_cons.mpr ⟨rfl, List.forall_mem_cons.mpr ⟨rfl, List.forall_mem_cons.mpr ⟨rfl, List.forall_mem_cons.mpr ⟨rfl, List.forall_mem_cons.mpr ⟨rfl, List.forall_mem_cons.mpr ⟨rfl, List.forall_mem_cons.mpr ⟨rfl, List.forall_mem_cons.mpr ⟨rfl, fun _ h => absurd h List.not_mem_nil⟩⟩⟩⟩⟩⟩⟩⟩⟩⟩⟩⟩⟩⟩⟩⟩⟩⟩⟩⟩⟩⟩⟩⟩
theorem gw_37 : ∀ w ∈ big37, goodWord w = true := fun w h => (List.mem_append.mp h).elim (gr_37 w) (gw_38 w)
theorem gr_36 : ∀ w ∈ wsL_law0_r36, goodWord w = true := List.forall_mem_cons.mpr ⟨rfl, List.forall_mem_cons.mpr ⟨rfl, List.forall_mem_cons.mpr ⟨rfl, List.forall_mem_cons.mpr ⟨rfl, List.forall_mem_cons.mpr ⟨rfl, List.forall_mem_cons.mpr ⟨rfl, List.forall_mem_cons.mpr ⟨rfl, List.forall_mem_cons.mpr ⟨rfl, List.forall_mem_cons.mpr ⟨rfl, List.forall_mem_cons.mpr ⟨rfl, List.forall_mem_cons.mpr ⟨rfl, List.forall_mem_cons.mpr ⟨rfl, List.forall_mem_cons.mpr ⟨rfl, List.forall_mem_cons.mpr ⟨rfl, List.forall_mem_cons.mpr ⟨rfl, List.forall_mem_cons.mpr ⟨rfl, List.forall_mem_cons.mpr ⟨rfl, List.forall_mem_cons.mpr ⟨rfl, List.forall_mem_cons.mpr ⟨rfl, List.forall_mem_cons.mpr ⟨rfl, List.forall_mem_cons.mpr ⟨rfl, List.forall_mem_cons.mpr ⟨rfl, List.forall_mem_cons.mpr ⟨rfl, List.forall_mem_cons.mpr ⟨rfl, fun _ h => absurd h List.not_mem_nil⟩⟩⟩⟩⟩⟩⟩⟩⟩⟩⟩⟩⟩⟩⟩⟩⟩⟩⟩⟩⟩⟩⟩⟩
theorem gw_36 : ∀ w ∈ big36, goodWord w = true := fun w h => (List.mem_append.mp h).elim (gr_36 w) (gw_37 w)
theorem gr_35 : ∀ w ∈ wsL_law0_r35, goodWord w = true := List.forall_mem_cons.mpr ⟨rfl, List.forall_mem_cons.mpr ⟨rfl, List.forall_mem_cons.mpr ⟨rfl, List.forall_mem_cons.mpr ⟨rfl, List.forall_mem_cons.mpr ⟨rfl, List.forall_mem_cons.mpr ⟨rfl, List.forall_mem_cons.mpr ⟨rfl, List.forall_mem_cons.mpr ⟨rfl, List.forall_mem_cons.mpr ⟨rfl, List.forall_mem_cons.mpr ⟨rfl, List.forall_mem_cons.mpr ⟨rfl, List.forall_mem_cons.mpr ⟨rfl, List.forall_mem_cons.mpr ⟨rfl, List.forall_mem_cons.mpr ⟨rfl, List.forall_mem_cons.mpr ⟨rfl, List.forall_mem_cons.mpr ⟨rfl, List.forall_mem_cons.mpr ⟨rfl, List.forall_mem_cons.mpr ⟨rfl, List.forall_mem_cons.mpr ⟨rfl, List.forall_mem_cons.mpr ⟨rfl, List.forall_mem_cons.mpr ⟨rfl, List.forall_mem_cons.mpr ⟨rfl, List.forall_mem_cons.mpr ⟨rfl, List.forall_mem_cons.mpr ⟨rfl, fun _ h => absurd h List.not_mem_nil⟩⟩⟩⟩⟩⟩⟩⟩⟩⟩⟩⟩⟩⟩⟩⟩⟩⟩⟩⟩⟩⟩⟩⟩
theorem gw_35 : ∀ w ∈ big35, goodWord w = true := fun w h => (List.mem_append.mp h).elim (gr_35 w) (gw_36 w)
theorem gr_34 : ∀ w ∈ wsL_law0_r34, goodWord w = true := List.forall_mem_cons.mpr ⟨rfl, List.forall_mem_cons.mpr ⟨rfl, List.forall_mem_cons.mpr ⟨rfl, List.forall_mem_cons.mpr ⟨rfl, List.forall_mem_cons.mpr ⟨rfl, List.forall_mem_cons.mpr ⟨rfl, List.forall_mem_cons.mpr ⟨rfl, List.forall_mem_cons.mpr ⟨rfl, List.forall_mem_cons.mpr ⟨rfl, List.forall_mem_cons.mpr ⟨rfl, List.forall_mem_cons.mpr ⟨rfl, List.forall_mem_cons.mpr ⟨rfl, List.forall_mem_cons.mpr ⟨rfl, List.forall_mem_cons.mpr ⟨rfl, List.forall_mem_cons.mpr ⟨rfl, List.forall_mem_cons.mpr ⟨rfl, List.forall_mem_cons.mpr ⟨rfl, List.forall_mem_cons.mpr ⟨rfl, List.forall_mem_cons.mpr ⟨rfl, List.forall_mem_cons.mpr ⟨rfl, List.forall_mem_cons.mpr ⟨rfl, List.forall_mem_cons.mpr ⟨rfl, List.forall_mem_cons.mpr ⟨rfl, List.forall_mem_cons.mpr ⟨rfl, fun _ h => absurd h List.not_mem_nil⟩⟩⟩⟩⟩⟩⟩⟩⟩⟩⟩⟩⟩⟩⟩⟩⟩⟩⟩⟩⟩⟩⟩⟩
theorem gw_34 : ∀ w ∈ big34, goodWord w = true := fun w h => (List.mem_append.mp h).elim (gr_34 w) (gw_35 w)
theorem gr_33 : ∀ w ∈ wsL_law0_r33, goodWord w = true := List.forall_mem_cons.mpr ⟨rfl, List.forall_mem_cons.mpr ⟨rfl, List.forall_mem_cons.mpr ⟨rfl, List.forall_mem_cons.mpr ⟨rfl, List.forall_mem_cons.mpr ⟨rfl, List.forall_mem_cons.mpr ⟨rfl, List.forall_mem_cons.mpr ⟨rfl, List.forall_mem_cons.mpr ⟨rfl, List.forall_mem_cons.mpr ⟨rfl, List.forall_mem_cons.mpr ⟨rfl, List.forall_mem_cons.mpr ⟨rfl, List.forall_mem_cons.mpr ⟨rfl, List.forall_mem_cons.mpr ⟨rfl, List.forall_mem_cons.mpr ⟨rfl, List.forall_mem_cons.mpr ⟨rfl, List.forall_mem_cons.mpr ⟨rfl, List.forall_mem_cons.mpr ⟨rfl, List.forall_mem_cons.mpr ⟨rfl, List.forall_mem_cons.mpr ⟨rfl, List.forall_mem_cons.mpr ⟨rfl, List.forall_mem_cons.mpr ⟨rfl, List.forall_mem_cons.mpr ⟨rfl, List.forall_mem_cons.mpr ⟨rfl, List.forall_mem_cons.mpr ⟨rfl, fun _ h => absurd h List.not_mem_nil⟩⟩⟩⟩⟩⟩⟩⟩⟩⟩⟩⟩⟩⟩⟩⟩⟩⟩⟩⟩⟩⟩⟩⟩
theorem gw_33 : ∀ w ∈ big33, goodWord w = true := fun w h => (List.mem_append.mp h).elim (gr_33 w) (gw_34 w)
theorem gr_32 : ∀ w ∈ wsL_law0_r32, goodWord w = true := List.forall_mem_cons.mpr ⟨rfl, List.forall_mem_cons.mpr ⟨rfl, List.forall_mem_cons.mpr ⟨rfl, List.forall_mem_cons.mpr ⟨rfl, List.forall_mem_cons.mpr ⟨rfl, List.forall_mem_cons.mpr ⟨rfl, List.forall_mem_cons.mpr ⟨rfl, List.forall_mem_cons.mpr ⟨rfl, List.forall_mem_cons.mpr ⟨rfl, List.forall_mem_cons.mpr ⟨rfl, List.forall_mem_cons.mpr ⟨rfl, List.forall_mem_cons.mpr ⟨rfl, List.forall_mem_cons.mpr ⟨rfl, List.forall_mem_cons.mpr ⟨rfl, List.forall_mem_cons.mpr ⟨rfl, List.forall_mem_cons.mpr ⟨rfl, List.forall_mem_cons.mpr ⟨rfl, List.forall_mem_cons.mpr ⟨rfl, List.forall_mem_cons.mpr ⟨rfl, List.forall_mem_cons.mpr ⟨rfl, List.forall_mem_cons.mpr ⟨rfl, List.forall_mem_cons.mpr ⟨rfl, List.forall_mem_cons.mpr ⟨rfl, List.forall_mem_cons.mpr ⟨rfl, fun _ h => absurd h List.not_mem_nil⟩⟩⟩⟩⟩⟩⟩⟩⟩⟩⟩⟩⟩⟩⟩⟩⟩⟩⟩⟩⟩⟩⟩⟩
theorem gw_32 : ∀ w ∈ big32, goodWord w = true := fun w h => (List.mem_append.mp h).elim (gr_32 w) (gw_33 w)
theorem gr_31 : ∀ w ∈ wsL_law0_r31, goodWord w = true := List.forall_mem_cons.mpr ⟨rfl, List.forall_mem_cons.mpr ⟨rfl, List.forall_mem_cons.mpr ⟨rfl, List.forall_mem_cons.mpr ⟨rfl, List.forall_mem_cons.mpr ⟨rfl, List.forall_mem_cons.mpr ⟨rfl, List.forall_mem_cons.mpr ⟨rfl, List.forall_mem_cons.mpr ⟨rfl, List.forall_mem_cons.mpr ⟨rfl, List.forall_mem_cons.mpr ⟨rfl, List.forall_mem_cons.mpr ⟨rfl, List.forall_mem_cons.mpr ⟨rfl, List.forall_mem_cons.mpr ⟨rfl, List.forall_mem_cons.mpr ⟨rfl, List.forall_mem_cons.mpr ⟨rfl, List.forall_mem_cons.mpr ⟨rfl, List.forall_mem_cons.mpr ⟨rfl, List.forall_mem_cons.mpr ⟨rfl, List.forall_mem_cons.mpr ⟨rfl, List.forall_mem_cons.mpr ⟨rfl, List.forall_mem_cons.mpr ⟨rfl, List.forall_mem_cons.mpr ⟨rfl, List.forall_mem_cons.mpr ⟨rfl, List.forall_mem_cons.mpr ⟨rfl, fun _ h => absurd h List.not_mem_nil⟩⟩⟩⟩⟩⟩⟩⟩⟩⟩⟩⟩⟩⟩⟩⟩⟩⟩⟩⟩⟩⟩⟩⟩
theorem gw_31 : ∀ w ∈ big31, goodWord w = true := fun w h => (List.mem_append.mp h).elim (gr_31 w) (gw_32 w)
theorem gr_30 : ∀ w ∈ wsL_law0_r30, goodWord w = true := List.forall_mem_cons.mpr ⟨rfl, List.forall_mem_cons.mpr ⟨rfl, List.forall_mem_cons.mpr ⟨rfl, List.forall_mem_cons.mpr ⟨rfl, List.forall_mem_cons.mpr ⟨rfl, List.forall_mem_cons.mpr ⟨rfl, List.forall_mem_cons.mpr ⟨rfl, List.forall_mem_cons.mpr ⟨rfl, List.forall_mem_cons.mpr ⟨rfl, List.forall_mem_cons.mpr ⟨rfl, List.forall_mem_cons.mpr ⟨rfl, List.forall_mem_cons.mpr ⟨rfl, List.forall_mem_cons.mpr ⟨rfl, List.forall_mem_cons.mpr ⟨rfl, List.forall_mem_cons.mpr ⟨rfl, List.forall_mem_cons.mpr ⟨rfl, List.forall_mem_cons.mpr ⟨rfl, List.forall_mem_cons.mpr ⟨rfl, List.forall_mem_cons.mpr ⟨rfl, List.forall_mem_cons.mpr ⟨rfl, List.forall_mem_cons.mpr ⟨rfl, List.forall_mem_cons.mpr ⟨rfl, List.forall_mem_cons.mpr ⟨rfl, List.forall_mem_cons.mpr ⟨rfl, fun _ h => absurd h List.not_mem_nil⟩⟩⟩⟩⟩⟩⟩⟩⟩⟩⟩⟩⟩⟩⟩⟩⟩⟩⟩⟩⟩⟩⟩⟩
theorem gw_30 : ∀ w ∈ big30, goodWord w = true := fun w h => (List.mem_append.mp h).elim (gr_30 w) (gw_31 w)
theorem gr_29 : ∀ w ∈ wsL_law0_r29, goodWord w = true := List.forall_mem_cons.mpr ⟨rfl, List.forall_mem_cons.mpr ⟨rfl, List.forall_mem_cons.mpr ⟨rfl, List.forall_mem_cons.mpr ⟨rfl, List.forall_mem_cons.mpr ⟨rfl, List.forall_mem_cons.mpr ⟨rfl, List.forall_mem_cons.mpr ⟨rfl, List.forall_mem_cons.mpr ⟨rfl, List.forall_mem_cons.mpr ⟨rfl, List.forall_mem_cons.mpr ⟨rfl, List.forall_mem_cons.mpr ⟨rfl, List.forall_mem_cons.mpr ⟨rfl, List.forall_mem_cons.mpr ⟨rfl, List.forall_mem_cons.mpr ⟨rfl, List.forall_mem_cons.mpr ⟨rfl, List.forall_mem_cons.mpr ⟨rfl, List.forall_mem_cons.mpr ⟨rfl, List.forall_mem_cons.mpr ⟨rfl, List.forall_mem_cons.mpr ⟨rfl, List.forall_mem_cons.mpr ⟨rfl, List.forall_mem_cons.mpr ⟨rfl, List.forall_mem_cons.mpr ⟨rfl, List.forall_mem_cons.mpr ⟨rfl, List.forall_mem_cons.mpr ⟨rfl, fun _ h => absurd h List.not_mem_nil⟩⟩⟩⟩⟩⟩⟩⟩⟩⟩⟩⟩⟩⟩⟩⟩⟩⟩⟩⟩⟩⟩⟩⟩
theorem gw_29 : ∀ w ∈ big29, goodWord w = true := fun w h => (List.mem_append.mp h).elim (gr_29 w) (gw_30 w)
theorem gr_28 : ∀ w ∈ wsL_law0_r28, goodWord w = true := List.forall_mem_cons.mpr ⟨rfl, List.forall_mem_cons.mpr ⟨rfl, List.forall_mem_cons.mpr ⟨rfl, List.forall_mem_cons.mpr ⟨rfl, List.forall_mem_cons.mpr ⟨rfl, List.forall_mem_cons.mpr ⟨rfl, List.forall_mem_cons.mpr ⟨rfl, List.forall_mem_cons.mpr ⟨rfl, List.forall_mem_cons.mpr ⟨rfl, List.forall_mem_cons.mpr ⟨rfl, List.forall_mem_cons.mpr ⟨rfl, List.forall_mem_cons.mpr ⟨rfl, List.forall_mem_cons.mpr ⟨rfl, List.forall_mem_cons.mpr ⟨rfl, List.forall_mem_cons.mpr ⟨rfl, List.forall_mem_cons.mpr ⟨rfl, List.forall_mem_cons.mpr ⟨rfl, List.forall_mem_cons.mpr ⟨rfl, List.forall_mem_cons.mpr ⟨rfl, List.forall_mem_cons.mpr ⟨rfl, List.forall_mem_cons.mpr ⟨rfl, List.forall_mem_cons.mpr ⟨rfl, List.forall_mem_cons.mpr ⟨rfl, List.forall_mem_cons.mpr ⟨rfl, fun _ h => absurd h List.not_mem_nil⟩⟩⟩⟩⟩⟩⟩⟩⟩⟩⟩⟩⟩⟩⟩⟩⟩⟩⟩⟩⟩⟩⟩⟩
theorem gw_28 : ∀ w ∈ big28, goodWord w = true := fun w h => (List.mem_append.mp h).elim (gr_28 w) (gw_29 w)
theorem gr_27 : ∀ w ∈ wsL_law0_r27, goodWord w = true := List.forall_mem_cons.mpr ⟨rfl, List.forall_mem_cons.mpr ⟨rfl, List.forall_mem_cons.mpr ⟨rfl, List.forall_mem_cons.mpr ⟨rfl, List.forall_mem_cons.mpr ⟨rfl, List.forall_mem_cons.mpr ⟨rfl, List.forall_mem_cons.mpr ⟨rfl, List.forall_mem_cons.mpr ⟨rfl, List.forall_mem_cons.mpr ⟨rfl, List.forall_mem_cons.mpr ⟨rfl, List.forall_mem_cons.mpr ⟨rfl, List.forall_mem_cons.mpr ⟨rfl, List.forall_mem_cons.mpr ⟨rfl, List.forall_mem_cons.mpr ⟨rfl, List.forall_mem_cons.mpr ⟨rfl, List.forall_mem_cons.mpr ⟨rfl, List.forall_mem_cons.mpr ⟨rfl, List.forall_mem_cons.mpr ⟨rfl, List.forall_mem_cons.mpr ⟨rfl, List.forall_mem_cons.mpr ⟨rfl, List.forall_mem_cons.mpr ⟨rfl, List.forall_mem_cons.mpr ⟨rfl, List.forall_mem_cons.mpr ⟨rfl, List.forall_mem_cons.mpr ⟨rfl, fun _ h => absurd h List.not_mem_nil⟩⟩⟩⟩⟩⟩⟩⟩⟩⟩⟩⟩⟩⟩⟩⟩⟩⟩⟩⟩⟩⟩⟩⟩
theorem gw_27 : ∀ w ∈ big27, goodWord w = true := fun w h => (List.mem_append.mp h).elim (gr_27 w) (gw_28 w)
theorem gr_26 : ∀ w ∈ wsL_law0_r26, goodWord w = true := List.forall_mem_cons.mpr ⟨rfl, List.forall_mem_cons.mpr ⟨rfl, List.forall_mem_cons.mpr ⟨rfl, List.forall_mem_cons.mpr ⟨rfl, List.forall_mem_cons.mpr ⟨rfl, List.forall_mem_cons.mpr ⟨rfl, List.forall_mem_cons.mpr ⟨rfl, List.forall_mem_cons.mpr ⟨rfl, List.forall_mem_cons.mpr ⟨rfl, List.forall_mem_cons.mpr ⟨rfl, List.forall_mem_cons.mpr ⟨rfl, List.forall_mem_cons.mpr ⟨rfl, List.forall_mem_cons.mpr ⟨rfl, List.forall_mem_cons.mpr ⟨rfl, List.forall_mem_cons.mpr ⟨rfl, List.forall_mem_cons.mpr ⟨rfl, List.forall_mem_cons.mpr ⟨rfl, List.forall_mem_cons.mpr ⟨rfl, List.forall_mem_cons.mpr ⟨rfl, List.forall_mem_cons.mpr ⟨rfl, List.forall_mem_cons.mpr ⟨rfl, List.forall_mem_cons.mpr ⟨rfl, List.forall_mem_cons.mpr ⟨rfl, List.forall_mem_cons.mpr ⟨rfl, fun _ h => absurd h List.not_mem_nil⟩⟩⟩⟩⟩⟩⟩⟩⟩⟩⟩⟩⟩⟩⟩⟩⟩⟩⟩⟩⟩⟩⟩⟩
theorem gw_26 : ∀ w ∈ big26, goodWord w = true := fun w h => (List.mem_append.mp h).elim (gr_26 w) (gw_27 w)
theorem gr_25 : ∀ w ∈ wsL_law0_r25, goodWord w = true := List.forall_mem_cons.mpr ⟨rfl, List.forall_mem_cons.mpr ⟨rfl, List.forall_mem_cons.mpr ⟨rfl, List.forall_mem_cons.mpr ⟨rfl, List.forall_mem_cons.mpr ⟨rfl, List.forall_mem_cons.mpr ⟨rfl, List.forall_mem_cons.mpr ⟨rfl, List.forall_mem_cons.mpr ⟨rfl, List.forall_mem_cons.mpr ⟨rfl, List.forall_mem_cons.mpr ⟨rfl, List.forall_mem_cons.mpr ⟨rfl, List.forall_mem_cons.mpr ⟨rfl, List.forall_mem_cons.mpr ⟨rfl, List.forall_mem_cons.mpr ⟨rfl, List.forall_mem_cons.mpr ⟨rfl, List.forall_mem_cons.mpr ⟨rfl, List.forall_mem_cons.mpr ⟨rfl, List.forall_mem_cons.mpr ⟨rfl, List.forall_mem_cons.mpr ⟨rfl, List.forall_mem_cons.mpr ⟨rfl, List.forall_mem_cons.mpr ⟨rfl, List.forall_mem_cons.mpr ⟨rfl, List.forall_mem_cons.mpr ⟨rfl, List.forall_mem_cons.mpr ⟨rfl, fun _ h => absurd h List.not_mem_nil⟩⟩⟩⟩⟩⟩⟩⟩⟩⟩⟩⟩⟩⟩⟩⟩⟩⟩⟩⟩⟩⟩⟩⟩
theorem gw_25 : ∀ w ∈ big25, goodWord w = true := fun w h => (List.mem_append.mp h).elim (gr_25 w) (gw_26 w)
theorem gr_24 : ∀ w ∈ wsL_law0_r24, goodWord w = true := List.forall_mem_cons.mpr ⟨rfl, List.forall_mem_cons.mpr ⟨rfl, List.forall_mem_cons.mpr ⟨rfl, List.forall_mem_cons.mpr ⟨rfl, List.forall_mem_cons.mpr ⟨rfl, List.forall_mem_cons.mpr ⟨rfl, List.forall_mem_cons.mpr ⟨rfl, List.forall_mem_cons.mpr ⟨rfl, List.forall_mem_cons.mpr ⟨rfl, List.forall_mem_cons.mpr ⟨rfl, List.forall_mem_cons.mpr ⟨rfl, List.forall_mem_cons.mpr ⟨rfl, List.forall_mem_cons.mpr ⟨rfl, List.forall_mem_cons.mpr ⟨rfl, List.forall_mem_cons.mpr ⟨rfl, List.forall_mem_cons.mpr ⟨rfl, List.forall_mem_cons.mpr ⟨rfl, List.forall_mem_cons.mpr ⟨rfl, List.forall_mem_cons.mpr ⟨rfl, List.forall_mem_cons.mpr ⟨rfl, List.forall_mem_cons.mpr ⟨rfl, List.forall_mem_cons.mpr ⟨rfl, List.forall_mem_cons.mpr ⟨rfl, List.forall_mem_cons.mpr ⟨rfl, fun _ h => absurd h List.not_mem_nil⟩⟩⟩⟩⟩⟩⟩⟩⟩⟩⟩⟩⟩⟩⟩⟩⟩⟩⟩⟩⟩⟩⟩⟩
theorem gw_24 : ∀ w ∈ big24, goodWord w = true := fun w h => (List.mem_append.mp h).elim (gr_24 w) (gw_25 w)
theorem gr_23 : ∀ w ∈ wsL_law0_r23, goodWord w = true := List.forall_mem_cons.mpr ⟨rfl, List.forall_mem_cons.mpr ⟨rfl, List.forall_mem_cons.mpr ⟨rfl, List.forall_mem_cons.mpr ⟨rfl, List.forall_mem_cons.mpr ⟨rfl, List.forall_mem_cons.mpr ⟨rfl, List.forall_mem_cons.mpr ⟨rfl, List.forall_mem_cons.mpr ⟨rfl, List.forall_mem_cons.mpr ⟨rfl, List.forall_mem_cons.mpr ⟨rfl, List.forall_mem_cons.mpr ⟨rfl, List.forall_mem_cons.mpr ⟨rfl, List.forall_mem_cons.mpr ⟨rfl, List.forall_mem_cons.mpr ⟨rfl, List.forall_mem_cons.mpr ⟨rfl, List.forall_mem_cons.mpr ⟨rfl, List.forall_mem_cons.mpr ⟨rfl, List.forall_mem_cons.mpr ⟨rfl, List.forall_mem_cons.mpr ⟨rfl, List.forall_mem_cons.mpr ⟨rfl, List.forall_mem_cons.mpr ⟨rfl, List.forall_mem_cons.mpr ⟨rfl, List.forall_mem_cons.mpr ⟨rfl, List.forall_mem_cons.mpr ⟨rfl, fun _ h => absurd h List.not_mem_nil⟩⟩⟩⟩⟩⟩⟩⟩⟩⟩⟩⟩⟩⟩⟩⟩⟩⟩⟩⟩⟩⟩⟩⟩
theorem gw_23 : ∀ w ∈ big23, goodWord w = true := fun w h => (List.mem_append.mp h).elim (gr_23 w) (gw_24 w)
theorem gr_22 : ∀ w ∈ wsL_law0_r22, goodWord w = true := List.forall_mem_cons.mpr ⟨rfl, List.forall_mem_cons.mpr ⟨rfl, List.forall_mem_cons.mpr ⟨rfl, List.forall_mem_cons.mpr ⟨rfl, List.forall_mem_cons.mpr ⟨rfl, List.forall_mem_cons.mpr ⟨rfl, List.forall_mem_cons.mpr ⟨rfl, List.forall_mem_cons.mpr ⟨rfl, List.forall_mem_cons.mpr ⟨rfl, List.forall_mem_cons.mpr ⟨rfl, List.forall_mem_cons.mpr ⟨rfl, List.forall_mem_cons.mpr ⟨rfl, List.forall_mem_cons.mpr ⟨rfl, List.forall_mem_cons.mpr ⟨rfl, List.forall_mem_cons.mpr ⟨rfl, List.forall_mem_cons.mpr ⟨rfl, List.forall_mem_cons.mpr ⟨rfl, List.forall_mem_cons.mpr ⟨rfl, List.forall_mem_cons.mpr ⟨rfl, List.forall_mem_cons.mpr ⟨rfl, List.forall_mem_cons.mpr ⟨rfl, List.forall_mem_cons.mpr ⟨rfl, List.forall_mem_cons.mpr ⟨rfl, List.forall_mem_cons.mpr ⟨rfl, fun _ h => absurd h List.not_mem_nil⟩⟩⟩⟩⟩⟩⟩⟩⟩⟩⟩⟩⟩⟩⟩⟩⟩⟩⟩⟩⟩⟩⟩⟩
theorem gw_22 : ∀ w ∈ big22, goodWord w = true := fun w h => (List.mem_append.mp h).elim (gr_22 w) (gw_23 w)
theorem gr_21 : ∀ w ∈ wsL_law0_r21, goodWord w = true := List.forall_mem_cons.mpr ⟨rfl, List.forall_mem_cons.mpr ⟨rfl, List.forall_mem_cons.mpr ⟨rfl, List.forall_mem_cons.mpr ⟨rfl, List.forall_mem_cons.mpr ⟨rfl, List.forall_mem_cons.mpr ⟨rfl, List.forall_mem_cons.mpr ⟨rfl, List.forall_mem_cons.mpr ⟨rfl, List.forall_mem_cons.mpr ⟨rfl, List.forall_mem_cons.mpr ⟨rfl, List.forall_mem_cons.mpr ⟨rfl, List.forall_mem_cons.mpr ⟨rfl, List.forall_mem_cons.mpr ⟨rfl, List.forall_mem_cons.mpr ⟨rfl, List.forall_mem_cons.mpr ⟨rfl, List.forall_mem_cons.mpr ⟨rfl, List.forall_mem_cons.mpr ⟨rfl, List.forall_mem_cons.mpr ⟨rfl, List.forall_mem_cons.mpr ⟨rfl, List.forall_mem_cons.mpr ⟨rfl, List.forall_mem_cons.mpr ⟨rfl, List.forall_mem_cons.mpr ⟨rfl, List.forall_mem_cons.mpr ⟨rfl, List.forall_mem_cons.mpr ⟨rfl, fun _ h => absurd h List.not_mem_nil⟩⟩⟩⟩⟩⟩⟩⟩⟩⟩⟩⟩⟩⟩⟩⟩⟩⟩⟩⟩⟩⟩⟩⟩
theorem gw_21 : ∀ w ∈ big21, goodWord w = true := fun w h => (List.mem_append.mp h).elim (gr_21 w) (gw_22 w)
theorem gr_20 : ∀ w ∈ wsL_law0_r20, goodWord w = true := List.forall_mem_cons.mpr ⟨rfl, List.forall_mem_cons.mpr ⟨rfl, List.forall_mem_cons.mpr ⟨rfl, List.forall_mem_cons.mpr ⟨rfl, List.forall_mem_cons.mpr ⟨rfl, List.forall_mem_cons.mpr ⟨rfl, List.forall_mem_cons.mpr ⟨rfl, List.forall_mem_cons.mpr ⟨rfl, List.forall_mem_cons.mpr ⟨rfl, List.forall_mem_cons.mpr ⟨rfl, List.forall_mem_cons.mpr ⟨rfl, List.forall_mem_cons.mpr ⟨rfl, List.forall_mem_cons.mpr ⟨rfl, List.forall_mem_cons.mpr ⟨rfl, List.forall_mem_cons.mpr ⟨rfl, List.forall_mem_cons.mpr ⟨rfl, List.forall_mem_cons.mpr ⟨rfl, List.forall_mem_cons.mpr ⟨rfl, List.forall_mem_cons.mpr ⟨rfl, List.forall_mem_cons.mpr ⟨rfl, List.forall_mem_cons.mpr ⟨rfl, List.forall_mem_cons.mpr ⟨rfl, List.forall_mem_cons.mpr ⟨rfl, List.forall_mem_cons.mpr ⟨rfl, fun _ h => absurd h List.not_mem_nil⟩⟩⟩⟩⟩⟩⟩⟩⟩⟩⟩⟩⟩⟩⟩⟩⟩⟩⟩⟩⟩⟩⟩⟩
theorem gw_20 : ∀ w ∈ big20, goodWord w = true := fun w h => (List.mem_append.mp h).elim (gr_20 w) (gw_21 w)
theorem gr_19 : ∀ w ∈ wsL_law0_r19, goodWord w = true := List.forall_mem_cons.mpr ⟨rfl, List.forall_mem_cons.mpr ⟨rfl, List.forall_mem_cons.mpr ⟨rfl, List.forall_mem_cons.mpr ⟨rfl, List.forall_mem_cons.mpr ⟨rfl, List.forall_mem_cons.mpr ⟨rfl, List.forall_mem_cons.mpr ⟨rfl, List.forall_mem_cons.mpr ⟨rfl, List.forall_mem_cons.mpr ⟨rfl, List.forall_mem_cons.mpr ⟨rfl, List.forall_mem_cons.mpr ⟨rfl, List.forall_mem_cons.mpr ⟨rfl, List.forall_mem_cons.mpr ⟨rfl, List.forall_mem_cons.mpr ⟨rfl, List.forall_mem_cons.mpr ⟨rfl, List.forall_mem_cons.mpr ⟨rfl, List.forall_mem_cons.mpr ⟨rfl, List.forall_mem_cons.mpr ⟨rfl, List.forall_mem_cons.mpr ⟨rfl, List.forall_mem_cons.mpr ⟨rfl, List.forall_mem_cons.mpr ⟨rfl, List.forall_mem_cons.mpr ⟨rfl, List.forall_mem_cons.mpr ⟨rfl, List.forall_mem_cons.mpr ⟨rfl, fun _ h => absurd h List.not_mem_nil⟩⟩⟩⟩⟩⟩⟩⟩⟩⟩⟩⟩⟩⟩⟩⟩⟩⟩⟩⟩⟩⟩⟩⟩
theorem gw_19 : ∀ w ∈ big19, goodWord w = true := fun w h => (List.mem_append.mp h).elim (gr_19 w) (gw_20 w)
theorem gr_18 : ∀ w ∈ wsL_law0_r18, goodWord w = true := List.forall_mem_cons.mpr ⟨rfl, List.forall_mem_cons.mpr ⟨rfl, List.forall_mem_cons.mpr ⟨rfl, List.forall_mem_cons.mpr ⟨rfl, List.forall_mem_cons.mpr ⟨rfl, List.forall_mem_cons.mpr ⟨rfl, List.forall_mem_cons.mpr ⟨rfl, List.forall_mem_cons.mpr ⟨rfl, List.forall_mem_cons.mpr ⟨rfl, List.forall_mem_cons.mpr ⟨rfl, List.forall_mem_cons.mpr ⟨rfl, List.forall_mem_cons.mpr ⟨rfl, List.forall_mem_cons.mpr ⟨rfl, List.forall_mem_cons.mpr ⟨rfl, List.forall_mem_cons.mpr ⟨rfl, List.forall_mem_cons.mpr ⟨rfl, List.forall_mem_cons.mpr ⟨rfl, List.forall_mem_cons.mpr ⟨rfl, List.forall_mem_cons.mpr ⟨rfl, List.forall_mem_cons.mpr ⟨rfl, List.forall_mem_cons.mpr ⟨rfl, List.forall_mem_cons.mpr ⟨rfl, List.forall_mem_cons.mpr ⟨rfl, List.forall_mem_cons.mpr ⟨rfl, fun _ h => absurd h List.not_mem_nil⟩⟩⟩⟩⟩⟩⟩⟩⟩⟩⟩⟩⟩⟩⟩⟩⟩⟩⟩⟩⟩⟩⟩⟩
theorem gw_18 : ∀ w ∈ big18, goodWord w = true := fun w h => (List.mem_append.mp h).elim (gr_18 w) (gw_19 w)
theorem gr_17 : ∀ w ∈ wsL_law0_r17, goodWord w = true := List.forall_mem_cons.mpr ⟨rfl, List.forall_mem_cons.mpr ⟨rfl, List.forall_mem_cons.mpr ⟨rfl, List.forall_mem_cons.mpr ⟨rfl, List.forall_mem_cons.mpr ⟨rfl, List.forall_mem_cons.mpr ⟨rfl, List.forall_mem_cons.mpr ⟨rfl, List.forall_mem_cons.mpr ⟨rfl, List.forall_mem_cons.mpr ⟨rfl, List.forall_mem_cons.mpr ⟨rfl, List.forall_mem_cons.mpr ⟨rfl, List.forall_mem_cons.mpr ⟨rfl, List.forall_mem_cons.mpr ⟨rfl, List.forall_mem_cons.mpr ⟨rfl, List.forall_mem_cons.mpr ⟨rfl, List.forall_mem_cons.mpr ⟨rfl, List.forall_mem_cons.mpr ⟨rfl, List.forall_mem_cons.mpr ⟨rfl, List.forall_mem_cons.mpr ⟨rfl, List.forall_mem_cons.mpr ⟨rfl, List.forall_mem_cons.mpr ⟨rfl, List.forall_mem_cons.mpr ⟨rfl, List.forall_mem_cons.mpr ⟨rfl, List.forall_mem_cons.mpr ⟨rfl, fun _ h => absurd h List.not_mem_nil⟩⟩⟩⟩⟩⟩⟩⟩⟩⟩⟩⟩⟩⟩⟩⟩⟩⟩⟩⟩⟩⟩⟩⟩
theorem gw_17 : ∀ w ∈ big17, goodWord w = true := fun w h => (List.mem_append.mp h).elim (gr_17 w) (gw_18 w)
theorem gr_16 : ∀ w ∈ wsL_law0_r16, goodWord w = true := List.forall_mem_cons.mpr ⟨rfl, List.forall_mem_cons.mpr ⟨rfl, List.forall_mem_cons.mpr ⟨rfl, List.forall_mem_cons.mpr ⟨rfl, List.forall_mem_cons.mpr ⟨rfl, List.forall_mem_cons.mpr ⟨rfl, List.forall_mem_cons.mpr ⟨rfl, List.forall_mem_cons.mpr ⟨rfl, List.forall_mem_cons.mpr ⟨rfl, List.forall_mem_cons.mpr ⟨rfl, List.forall_mem_cons.mpr ⟨rfl, List.forall_mem_cons.mpr ⟨rfl, List.forall_mem_cons.mpr ⟨rfl, List.forall_mem_cons.mpr ⟨rfl, List.forall_mem_cons.mpr ⟨rfl, List.forall_mem_cons.mpr ⟨rfl, List.forall_mem_cons.mpr ⟨rfl, List.forall_mem_cons.mpr ⟨rfl, List.forall_mem_cons.mpr ⟨rfl, List.forall_mem_cons.mpr ⟨rfl, List.forall_mem_cons.mpr ⟨rfl, List.forall_mem_cons.mpr ⟨rfl, List.forall_mem_cons.mpr ⟨rfl, List.forall_mem_cons.mpr ⟨rfl, fun _ h => absurd h List.not_mem_nil⟩⟩⟩⟩⟩⟩⟩⟩⟩⟩⟩⟩⟩⟩⟩⟩⟩⟩⟩⟩⟩⟩⟩⟩
theorem gw_16 : ∀ w ∈ big16, goodWord w = true := fun w h => (List.mem_append.mp h).elim (gr_16 w) (gw_17 w)
theorem gr_15 : ∀ w ∈ wsL_law0_r15, goodWord w = true := List.forall_mem_cons.mpr ⟨rfl, List.forall_mem_cons.mpr ⟨rfl, List.forall_mem_cons.mpr ⟨rfl, List.forall_mem_cons.mpr ⟨rfl, List.forall_mem_cons.mpr ⟨rfl, List.forall_mem_cons.mpr ⟨rfl, List.forall_mem_cons.mpr ⟨rfl, List.forall_mem_cons.mpr ⟨rfl, List.forall_mem_cons.mpr ⟨rfl, List.forall_mem_cons.mpr ⟨rfl, List.forall_mem_cons.mpr ⟨rfl, List.forall_mem_cons.mpr ⟨rfl, List.forall_mem_cons.mpr ⟨rfl, List.forall_mem_cons.mpr ⟨rfl, List.forall_mem_cons.mpr ⟨rfl, List.forall_mem_cons.mpr ⟨rfl, List.forall_mem_cons.mpr ⟨rfl, List.forall_mem_cons.mpr ⟨rfl, List.forall_mem_cons.mpr ⟨rfl, List.forall_mem_cons.mpr ⟨rfl, List.forall_mem_cons.mpr ⟨rfl, List.forall_mem_cons.mpr ⟨rfl, List.forall_mem_cons.mpr ⟨rfl, List.forall_mem_cons.mpr ⟨rfl, fun _ h => absurd h List.not_mem_nil⟩⟩⟩⟩⟩⟩⟩⟩⟩⟩⟩⟩⟩⟩⟩⟩⟩⟩⟩⟩⟩⟩⟩⟩
theorem gw_15 : ∀ w ∈ big15, goodWord w = true := fun w h => (List.mem_append.mp h).elim (gr_15 w) (gw_16 w)
theorem gr_14 : ∀ w ∈ wsL_law0_r14, goodWord w = true := List.forall_mem_cons.mpr ⟨rfl, List.forall_mem_cons.mpr ⟨rfl, List.forall_mem_cons.mpr ⟨rfl, List.forall_mem_cons.mpr ⟨rfl, List.forall_mem_cons.mpr ⟨rfl, List.forall_mem_cons.mpr ⟨rfl, List.forall_mem_cons.mpr ⟨rfl, List.forall_mem_cons.mpr ⟨rfl, List.forall_mem_cons.mpr ⟨rfl, List.forall_mem_cons.mpr ⟨rfl, List.forall_mem_cons.mpr ⟨rfl, List.forall_mem_cons.mpr ⟨rfl, List.forall_mem_cons.mpr ⟨rfl, List.forall_mem_cons.mpr ⟨rfl, List.forall_mem_cons.mpr ⟨rfl, List.forall_mem_cons.mpr ⟨rfl, List.forall_mem_cons.mpr ⟨rfl, List.forall_mem_cons.mpr ⟨rfl, List.forall_mem_cons.mpr ⟨rfl, List.forall_mem_cons.mpr ⟨rfl, List.forall_mem_cons.mpr ⟨rfl, List.forall_mem_cons.mpr ⟨rfl, List.forall_mem_cons.mpr ⟨rfl, List.forall_mem_cons.mpr ⟨rfl, fun _ h => absurd h List.not_mem_nil⟩⟩⟩⟩⟩⟩⟩⟩⟩⟩⟩⟩⟩⟩⟩⟩⟩⟩⟩⟩⟩⟩⟩⟩
theorem gw_14 : ∀ w ∈ big14, goodWord w = true := fun w h => (List.mem_append.mp h).elim (gr_14 w) (gw_15 w)
theorem gr_13 : ∀ w ∈ wsL_law0_r13, goodWord w = true := List.forall_mem_cons.mpr ⟨rfl, List.forall_mem_cons.mpr ⟨rfl, List.forall_mem_cons.mpr ⟨rfl, List.forall_mem_cons.mpr ⟨rfl, List.forall_mem_cons.mpr ⟨rfl, List.forall_mem_cons.mpr ⟨rfl, List.forall_mem_cons.mpr ⟨rfl, List.forall_mem_cons.mpr ⟨rfl, List.forall_mem_cons.mpr ⟨rfl, List.forall_mem_cons.mpr ⟨rfl, List.forall_mem_cons.mpr ⟨rfl, List.forall_mem_cons.mpr ⟨rfl, List.forall_mem_cons.mpr ⟨rfl, List.forall_mem_cons.mpr ⟨rfl, List.forall_mem_cons.mpr ⟨rfl, List.forall_mem_cons.mpr ⟨rfl, List.forall_mem_cons.mpr ⟨rfl, List.forall_mem_cons.mpr ⟨rfl, List.forall_mem_cons.mpr ⟨rfl, List.forall_mem_cons.mpr ⟨rfl, List.forall_mem_cons.mpr ⟨rfl, List.forall_mem_cons.mpr ⟨rfl, List.forall_mem_cons.mpr ⟨rfl, List.forall_mem_cons.mpr ⟨rfl, fun _ h => absurd h List.not_mem_nil⟩⟩⟩⟩⟩⟩⟩⟩⟩⟩⟩⟩⟩⟩⟩⟩⟩⟩⟩⟩⟩⟩⟩⟩
theorem gw_13 : ∀ w ∈ big13, goodWord w = true := fun w h => (List.mem_append.mp h).elim (gr_13 w) (gw_14 w)
theorem gr_12 : ∀ w ∈ wsL_law0_r12, goodWord w = true := List.forall_mem_cons.mpr ⟨rfl, List.forall_mem_cons.mpr ⟨rfl, List.forall_mem_cons.mpr ⟨rfl, List.forall_mem_cons.mpr ⟨rfl, List.forall_mem_cons.mpr ⟨rfl, List.forall_mem_cons.mpr ⟨rfl, List.forall_mem_cons.mpr ⟨rfl, List.forall_mem_cons.mpr ⟨rfl, List.forall_mem_cons.mpr ⟨rfl, List.forall_mem_cons.mpr ⟨rfl, List.forall_mem_cons.mpr ⟨rfl, List.forall_mem_cons.mpr ⟨rfl, List.forall_mem_cons.mpr ⟨rfl, List.forall_mem_cons.mpr ⟨rfl, List.forall_mem_cons.mpr ⟨rfl, List.forall_mem_cons.mpr ⟨rfl, List.forall_mem_cons.mpr ⟨rfl, List.forall_mem_cons.mpr ⟨rfl, List.forall_mem_cons.mpr ⟨rfl, List.forall_mem_cons.mpr ⟨rfl, List.forall_mem_cons.mpr ⟨rfl, List.forall_mem_cons.mpr ⟨rfl, List.forall_mem_cons.mpr ⟨rfl, List.forall_mem_cons.mpr ⟨rfl, fun _ h => absurd h List.not_mem_nil⟩⟩⟩⟩⟩⟩⟩⟩⟩⟩⟩⟩⟩⟩⟩⟩⟩⟩⟩⟩⟩⟩⟩⟩
theorem gw_12 : ∀ w ∈ big12, goodWord w = true := fun w h => (List.mem_append.mp h).elim (gr_12 w) (gw_13 w)
theorem gr_11 : ∀ w ∈ wsL_law0_r11, goodWord w = true := List.forall_mem_cons.mpr ⟨rfl, List.forall_mem_cons.mpr ⟨rfl, List.forall_mem_cons.mpr ⟨rfl, List.forall_mem_cons.mpr ⟨rfl, List.forall_mem_cons.mpr ⟨rfl, List.forall_mem_cons.mpr ⟨rfl, List.forall_mem_cons.mpr ⟨rfl, List.forall_mem_cons.mpr ⟨rfl, List.forall_mem_cons.mpr ⟨rfl, List.forall_mem_cons.mpr ⟨rfl, List.forall_mem_cons.mpr ⟨rfl, List.forall_mem_cons.mpr ⟨rfl, List.forall_mem_cons.mpr ⟨rfl, List.forall_mem_cons.mpr ⟨rfl, List.forall_mem_cons.mpr ⟨rfl, List.forall_mem_cons.mpr ⟨rfl, List.forall_mem_cons.mpr ⟨rfl, List.forall_mem_cons.mpr ⟨rfl, List.forall_mem_cons.mpr ⟨rfl, List.forall_mem_cons.mpr ⟨rfl, List.forall_mem_cons.mpr ⟨rfl, List.forall_mem_cons.mpr ⟨rfl, List.forall_mem_cons.mpr ⟨rfl, List.forall_mem_cons.mpr ⟨rfl, fun _ h => absurd h List.not_mem_nil⟩⟩⟩⟩⟩⟩⟩⟩⟩⟩⟩⟩⟩⟩⟩⟩⟩⟩⟩⟩⟩⟩⟩⟩
theorem gw_11 : ∀ w ∈ big11, goodWord w = true := fun w h => (List.mem_append.mp h).elim (gr_11 w) (gw_12 w)
theorem gr_10 : ∀ w ∈ wsL_law0_r10, goodWord w = true := List.forall_mem_cons.mpr ⟨rfl, List.forall_mem_cons.mpr ⟨rfl, List.forall_mem_cons.mpr ⟨rfl, List.forall_mem_cons.mpr ⟨rfl, List.forall_mem_cons.mpr ⟨rfl, List.forall_mem_cons.mpr ⟨rfl, List.forall_mem_cons.mpr ⟨rfl, List.forall_mem_cons.mpr ⟨rfl, List.forall_mem_cons.mpr ⟨rfl, List.forall_mem_cons.mpr ⟨rfl, List.forall_mem_cons.mpr ⟨rfl, List.forall_mem_cons.mpr ⟨rfl, List.forall_mem_cons.mpr ⟨rfl, List.forall_mem_cons.mpr ⟨rfl, List.forall_mem_cons.mpr ⟨rfl, List.forall_mem_cons.mpr ⟨rfl, List.forall_mem_cons.mpr ⟨rfl, List.forall_mem_cons.mpr ⟨rfl, List.forall_mem_cons.mpr ⟨rfl, List.forall_mem_cons.mpr ⟨rfl, List.forall_mem_cons.mpr ⟨rfl, List.forall_mem_cons.mpr ⟨rfl, List.forall_mem_cons.mpr ⟨rfl, List.forall_mem_cons.mpr ⟨rfl, fun _ h => absurd h List.not_mem_nil⟩⟩⟩⟩⟩⟩⟩⟩⟩⟩⟩⟩⟩⟩⟩⟩⟩⟩⟩⟩⟩⟩⟩⟩
theorem gw_10 : ∀ w ∈ big10, goodWord w = true := fun w h => (List.mem_append.mp h).elim (gr_10 w) (gw_11 w)
theorem gr_9 : ∀ w ∈ wsL_law0_r9, goodWord w = true := List.forall_mem_cons.mpr ⟨rfl, List.forall_mem_cons.mpr ⟨rfl, List.forall_mem_cons.mpr ⟨rfl, List.forall_mem_cons.mpr ⟨rfl, List.forall_mem_cons.mpr ⟨rfl, List.forall_mem_cons.mpr ⟨rfl, List.forall_mem_cons.mpr ⟨rfl, List.forall_mem_cons.mpr ⟨rfl, List.forall_mem_cons.mpr ⟨rfl, List.forall_mem_cons.mpr ⟨rfl, List.forall_mem_cons.mpr ⟨rfl, List.forall_mem_cons.mpr ⟨rfl, List.forall_mem_cons.mpr ⟨rfl, List.forall_mem_cons.mpr ⟨rfl, List.forall_mem_cons.mpr ⟨rfl, List.forall_mem_cons.mpr ⟨rfl, List.forall_mem_cons.mpr ⟨rfl, List.forall_mem_cons.mpr ⟨rfl, List.forall_mem_cons.mpr ⟨rfl, List.forall_mem_cons.mpr ⟨rfl, List.forall_mem_cons.mpr ⟨rfl, List.forall_mem_cons.mpr ⟨rfl, List.forall_mem_cons.mpr ⟨rfl, List.forall_mem_cons.mpr ⟨rfl, fun _ h => absurd h List.not_mem_nil⟩⟩⟩⟩⟩⟩⟩⟩⟩⟩⟩⟩⟩⟩⟩⟩⟩⟩⟩⟩⟩⟩⟩⟩
theorem gw_9 : ∀ w ∈ big9, goodWord w = true := fun w h => (List.mem_append.mp h).elim (gr_9 w) (gw_10 w)
theorem gr_8 : ∀ w ∈ wsL_law0_r8, goodWord w = true := List.forall_mem_cons.mpr ⟨rfl, List.forall_mem_cons.mpr ⟨rfl, List.forall_mem_cons.mpr ⟨rfl, List.forall_mem_cons.mpr ⟨rfl, List.forall_mem_cons.mpr ⟨rfl, List.forall_mem_cons.mpr ⟨rfl, List.forall_mem_cons.mpr ⟨rfl, List.forall_mem_cons.mpr ⟨rfl, List.forall_mem_cons.mpr ⟨rfl, List.forall_mem_cons.mpr ⟨rfl, List.forall_mem_cons.mpr ⟨rfl, List.forall_mem_cons.mpr ⟨rfl, List.forall_mem_cons.mpr ⟨rfl, List.forall_mem_cons.mpr ⟨rfl, List.forall_mem_cons.mpr ⟨rfl, List.forall_mem_cons.mpr ⟨rfl, List.forall_mem_cons.mpr ⟨rfl, List.forall_mem_cons.mpr ⟨rfl, List.forall_mem_cons.mpr ⟨rfl, List.forall_mem_cons.mpr ⟨rfl, List.forall_mem_cons.mpr ⟨rfl, List.forall_mem_cons.mpr ⟨rfl, List.forall_mem_cons.mpr ⟨rfl, List.forall_mem_cons.mpr ⟨rfl, fun _ h => absurd h List.not_mem_nil⟩⟩⟩⟩⟩⟩⟩⟩⟩⟩⟩⟩⟩⟩⟩⟩⟩⟩⟩⟩⟩⟩⟩⟩
theorem gw_8 : ∀ w ∈ big8, goodWord w = true := fun w h => (List.mem_append.mp h).elim (gr_8 w) (gw_9 w)
theorem gr_7 : ∀ w ∈ wsL_law0_r7, goodWord w = true := List.forall_mem_cons.mpr ⟨rfl, List.forall_mem_cons.mpr ⟨rfl, List.forall_mem_cons.mpr ⟨rfl, List.forall_mem_cons.mpr ⟨rfl, List.forall_mem_cons.mpr ⟨rfl, List.forall_mem_cons.mpr ⟨rfl, List.forall_mem_cons.mpr ⟨rfl, List.forall_mem_cons.mpr ⟨rfl, List.forall_mem_cons.mpr ⟨rfl, List.forall_mem_cons.mpr ⟨rfl, List.forall_mem_cons.mpr ⟨rfl, List.forall_mem_cons.mpr ⟨rfl, List.forall_mem_cons.mpr ⟨rfl, List.forall_mem_cons.mpr ⟨rfl, List.forall_mem_cons.mpr ⟨rfl, List.forall_mem_cons.mpr ⟨rfl, List.forall_mem_cons.mpr ⟨rfl, List.forall_mem_cons.mpr ⟨rfl, List.forall_mem_cons.mpr ⟨rfl, List.forall_mem_cons.mpr ⟨rfl, List.forall_mem_cons.mpr ⟨rfl, List.forall_mem_cons.mpr ⟨rfl, List.forall_mem_cons.mpr ⟨rfl, List.forall_mem_cons.mpr ⟨rfl, fun _ h => absurd h List.not_mem_nil⟩⟩⟩⟩⟩⟩⟩⟩⟩⟩⟩⟩⟩⟩⟩⟩⟩⟩⟩⟩⟩⟩⟩⟩
theorem gw_7 : ∀ w ∈ big7, goodWord w = true := fun w h => (List.mem_append.mp h).elim (gr_7 w) (gw_8 w)
theorem gr_6 : ∀ w ∈ wsL_law0_r6, goodWord w = true := List.forall_mem_cons.mpr ⟨rfl, List.forall_mem_cons.mpr ⟨rfl, List.forall_mem_cons.mpr ⟨rfl, List.forall_mem_cons.mpr ⟨rfl, List.forall_mem_cons.mpr ⟨rfl, List.forall_mem_cons.mpr ⟨rfl, List.forall_mem_cons.mpr ⟨rfl, List.forall_mem_cons.mpr ⟨rfl, List.forall_mem_cons.mpr ⟨rfl, List.forall_mem_cons.mpr ⟨rfl, List.forall_mem_cons.mpr ⟨rfl, List.forall_mem_cons.mpr ⟨rfl, List.forall_mem_cons.mpr ⟨rfl, List.forall_mem_cons.mpr ⟨rfl, List.forall_mem_cons.mpr ⟨rfl, List.forall_mem_cons.mpr ⟨rfl, List.forall_mem_cons.mpr ⟨rfl, List.forall_mem_cons.mpr ⟨rfl, List.forall_mem_cons.mpr ⟨rfl, List.forall_mem_cons.mpr ⟨rfl, List.forall_mem_cons.mpr ⟨rfl, List.forall_mem_cons.mpr ⟨rfl, List.forall_mem_cons.mpr ⟨rfl, List.forall_mem_cons.mpr ⟨rfl, fun _ h => absurd h List.not_mem_nil⟩⟩⟩⟩⟩⟩⟩⟩⟩⟩⟩⟩⟩⟩⟩⟩⟩⟩⟩⟩⟩⟩⟩⟩
theorem gw_6 : ∀ w ∈ big6, goodWord w = true := fun w h => (List.mem_append.mp h).elim (gr_6 w) (gw_7 w)
theorem gr_5 : ∀ w ∈ wsL_law0_r5, goodWord w = true := List.forall_mem_cons.mpr ⟨rfl, List.forall_mem_cons.mpr ⟨rfl, List.forall_mem_cons.mpr ⟨rfl, List.forall_mem_cons.mpr ⟨rfl, List.forall_mem_cons.mpr ⟨rfl, List.forall_mem_cons.mpr ⟨rfl, List.forall_mem_cons.mpr ⟨rfl, List.forall_mem_cons.mpr ⟨rfl, List.forall_mem_cons.mpr ⟨rfl, List.forall_mem_cons.mpr ⟨rfl, List.forall_mem_cons.mpr ⟨rfl, List.forall_mem_cons.mpr ⟨rfl, List.forall_mem_cons.mpr ⟨rfl, List.forall_mem_cons.mpr ⟨rfl, List.forall_mem_cons.mpr ⟨rfl, List.forall_mem_cons.mpr ⟨rfl, List.forall_mem_cons.mpr ⟨rfl, List.forall_mem_cons.mpr ⟨rfl, List.forall_mem_cons.mpr ⟨rfl, List.forall_mem_cons.mpr ⟨rfl, List.forall_mem_cons.mpr ⟨rfl, List.forall_mem_cons.mpr ⟨rfl, List.forall_mem_cons.mpr ⟨rfl, List.forall_mem_cons.mpr ⟨rfl, fun _ h => absurd h List.not_mem_nil⟩⟩⟩⟩⟩⟩⟩⟩⟩⟩⟩⟩⟩⟩⟩⟩⟩⟩⟩⟩⟩⟩⟩⟩
theorem gw_5 : ∀ w ∈ big5, goodWord w = true := fun w h => (List.mem_append.mp h).elim (gr_5 w) (gw_6 w)
theorem gr_4 : ∀ w ∈ wsL_law0_r4, goodWord w = true := List.forall_mem_cons.mpr ⟨rfl, List.forall_mem_cons.mpr ⟨rfl, List.forall_mem_cons.mpr ⟨rfl, List.forall_mem_cons.mpr ⟨rfl, List.forall_mem_cons.mpr ⟨rfl, List.forall_mem_cons.mpr ⟨rfl, List.forall_mem_cons.mpr ⟨rfl, List.forall_mem_cons.mpr ⟨rfl, List.forall_mem_cons.mpr ⟨rfl, List.forall_mem_cons.mpr ⟨rfl, List.forall_mem_cons.mpr ⟨rfl, List.forall_mem_cons.mpr ⟨rfl, List.forall_mem_cons.mpr ⟨rfl, List.forall_mem_cons.mpr ⟨rfl, List.forall_mem_cons.mpr ⟨rfl, List.forall_mem_cons.mpr ⟨rfl, List.forall_mem_cons.mpr ⟨rfl, List.forall_mem_cons.mpr ⟨rfl, List.forall_mem_cons.mpr ⟨rfl, List.forall_mem_cons.mpr ⟨rfl, List.forall_mem_cons.mpr ⟨rfl, List.forall_mem_cons.mpr ⟨rfl, List.forall_mem_cons.mpr ⟨rfl, List.forall_mem_cons.mpr ⟨rfl, fun _ h => absurd h List.not_mem_nil⟩⟩⟩⟩⟩⟩⟩⟩⟩⟩⟩⟩⟩⟩⟩⟩⟩⟩⟩⟩⟩⟩⟩⟩
theorem gw_4 : ∀ w ∈ big4, goodWord w = true := fun w h => (List.mem_append.mp h).elim (gr_4 w) (gw_5 w)
theorem gr_3 : ∀ w ∈ wsL_law0_r3, goodWord w = true := List.forall_mem_cons.mpr ⟨rfl, List.forall_mem_cons.mpr ⟨rfl, List.forall_mem_cons.mpr ⟨rfl, List.forall_mem_cons.mpr ⟨rfl, List.forall_mem_cons.mpr ⟨rfl, List.forall_mem_cons.mpr ⟨rfl, List.forall_mem_cons.mpr ⟨rfl, List.forall_mem_cons.mpr ⟨rfl, List.forall_mem_cons.mpr ⟨rfl, List.forall_mem_cons.mpr ⟨rfl, List.forall_mem_cons.mpr ⟨rfl, List.forall_mem_cons.mpr ⟨rfl, List.forall_mem_cons.mpr ⟨rfl, List.forall_mem_cons.mpr ⟨rfl, List.forall_mem_cons.mpr ⟨rfl, List.forall_mem_cons.mpr ⟨rfl, List.forall_mem_cons.mpr ⟨rfl, List.forall_mem_cons.mpr ⟨rfl, List.forall_mem_cons.mpr ⟨rfl, List.forall_mem_cons.mpr ⟨rfl, List.forall_mem_cons.mpr ⟨rfl, List.forall_mem_cons.mpr ⟨rfl, List.forall_mem_cons.mpr ⟨rfl, List.forall_mem_cons.mpr ⟨rfl, fun _ h => absurd h List.not_mem_nil⟩⟩⟩⟩⟩⟩⟩⟩⟩⟩⟩⟩⟩⟩⟩⟩⟩⟩⟩⟩⟩⟩⟩⟩
theorem gw_3 : ∀ w ∈ big3, goodWord w = true := fun w h => (List.mem_append.mp h).elim (gr_3 w) (gw_4 w)
theorem gr_2 : ∀ w ∈ wsL_law0_r2, goodWord w = true := List.forall_mem_cons.mpr ⟨rfl, List.forall_mem_cons.mpr ⟨rfl, List.forall_mem_cons.mpr ⟨rfl, List.forall_mem_cons.mpr ⟨rfl, List.forall_mem_cons.mpr ⟨rfl, List.forall_mem_cons.mpr ⟨rfl, List.forall_mem_cons.mpr ⟨rfl, List.forall_mem_cons.mpr ⟨rfl, List.forall_mem_cons.mpr ⟨rfl, List.forall_mem_cons.mpr ⟨rfl, List.forall_mem_cons.mpr ⟨rfl, List.forall_mem_cons.mpr ⟨rfl, List.forall_mem_cons.mpr ⟨rfl, List.forall_mem_cons.mpr ⟨rfl, List.forall_mem_cons.mpr ⟨rfl, List.forall_mem_cons.mpr ⟨rfl, List.forall_mem_cons.mpr ⟨rfl, List.forall_mem_cons.mpr ⟨rfl, List.forall_mem_cons.mpr ⟨rfl, List.forall_mem_cons.mpr ⟨rfl, List.forall_mem_cons.mpr ⟨rfl, List.forall_mem_cons.mpr ⟨rfl, List.forall_mem_cons.mpr ⟨rfl, List.forall_mem_cons.mpr ⟨rfl, fun _ h => absurd h List.not_mem_nil⟩⟩⟩⟩⟩⟩⟩⟩⟩⟩⟩⟩⟩⟩⟩⟩⟩⟩⟩⟩⟩⟩⟩⟩
theorem gw_2 : ∀ w ∈ big2, goodWord w = true := fun w h => (List.mem_append.mp h).elim (gr_2 w) (gw_3 w)
theorem gr_1 : ∀ w ∈ wsL_law0_r1, goodWord w = true := List.forall_mem_cons.mpr ⟨rfl, List.forall_mem_cons.mpr ⟨rfl, List.forall_mem_cons.mpr ⟨rfl, List.forall_mem_cons.mpr ⟨rfl, List.forall_mem_cons.mpr ⟨rfl, List.forall_mem_cons.mpr ⟨rfl, List.forall_mem_cons.mpr ⟨rfl, List.forall_mem_cons.mpr ⟨rfl, List.forall_mem_cons.mpr ⟨rfl, List.forall_mem_cons.mpr ⟨rfl, List.forall_mem_cons.mpr ⟨rfl, List.forall_mem_cons.mpr ⟨rfl, List.forall_mem_cons.mpr ⟨rfl, List.forall_mem_cons.mpr ⟨rfl, List.forall_mem_cons.mpr ⟨rfl, List.forall_mem_cons.mpr ⟨rfl, List.forall_mem_cons.mpr ⟨rfl, List.forall_mem_cons.mpr ⟨rfl, List.forall_mem_cons.mpr ⟨rfl, List.forall_mem_cons.mpr ⟨rfl, List.forall_mem_cons.mpr ⟨rfl, List.forall_mem_cons.mpr ⟨rfl, List.forall_mem_cons.mpr ⟨rfl, List.forall_mem_cons.mpr ⟨rfl, fun _ h => absurd h List.not_mem_nil⟩⟩⟩⟩⟩⟩⟩⟩⟩⟩⟩⟩⟩⟩⟩⟩⟩⟩⟩⟩⟩⟩⟩⟩
theorem gw_1 : ∀ w ∈ big1, goodWord w = true := fun w h => (List.mem_append.mp h).elim (gr_1 w) (gw_2 w)
theorem BIG_good : ∀ w ∈ BIG, goodWord w = true := gw_1
