/-! ===== BEGIN words of one list among another's, by their places ===== -/
theorem goodIn_r {big : List Cond} (ws : List Cond) (ps : List Nat) (hp : ws = ps.filterMap (fun i => big[i]?)) (h : ws.all goodWord = true) : GoodIn big ws := by
  intro w hw
  have h1 := List.all_eq_true.mp h w hw
  rw [hp] at hw
  obtain ⟨i, -, hi⟩ := List.mem_filterMap.mp hw
  have hm : w ∈ big := by first | exact List.mem_of_getElem? hi | exact List.getElem?_mem hi
  exact ⟨hm, good_of_word h1⟩
theorem goodIn_app {big a b : List Cond} (ha : GoodIn big a) (hb : GoodIn big b) : GoodIn big (a ++ b) := fun w h => (List.mem_append.mp h).elim (ha w) (hb w)
theorem goodIn_ca {big a b : List Cond} {c : Cond} (ha : GoodIn big (c :: a)) (hb : GoodIn big b) : GoodIn big (c :: (a ++ b)) := fun w h => (List.mem_cons.mp h).elim (fun e => ha w (List.mem_cons.mpr (Or.inl e))) (fun h => (List.mem_append.mp h).elim (fun h => ha w (List.mem_cons.mpr (Or.inr h))) (hb w))
theorem goodIn_sub {big ws : List Cond} (hm : ∀ w ∈ ws, w ∈ big) (h : ws.all goodWord = true) : GoodIn big ws := fun w hw => ⟨hm w hw, good_of_word (List.all_eq_true.mp h w hw)⟩
/-! ===== END ===== -/

/-! ===== BEGIN printed: names, fields, word lists, decode rows ===== -/
def RX0 : String := "LadderLand$Hours"
def TX0 : u_T := fun k => match k with
  | 0 => ("LadderLand$Hours", "brokenRung", "I", false)
  | 1 => ("LadderLand$Hours", "will", "[I", true)
  | 2 => ("LadderLand$Hours", "deed", "[I", true)
  | _ => ("LadderLand$Hours", "words", "[J", true)
def tyX0 : Nat → FieldType := fun k => match k with
  | 0 => .int
  | 1 => .array .int
  | 2 => .array .int
  | _ => .array .long
abbrev wsX00 : List Cond := u_ws RX0 TX0 4
theorem nmX0 : ∀ a, a < 4 → ∀ b, b < 4 → a ≠ b → (TX0 a).2.1 ≠ (TX0 b).2.1 := by decide +kernel
theorem tyX0_ok : ∀ k, k < 4 → parseFieldDescriptor (TX0 k).2.2.1 = some (tyX0 k) := by decide +kernel
abbrev cX0_init : ByteArray := prog_2_method_1_code
def yX0_init : MethodName := ⟨RX0, "<init>", "()V"⟩
abbrev cX0_spend : ByteArray := prog_2_method_2_code
def yX0_spend : MethodName := ⟨RX0, "spend", "(LLadderLand$World;LLadderLand$Rule;)I"⟩
abbrev cX0_willOf : ByteArray := prog_2_method_3_code
def yX0_willOf : MethodName := ⟨RX0, "willOf", "(LLadderLand$World;LLadderLand$Rule;I)I"⟩
abbrev cX0_go : ByteArray := prog_2_method_4_code
def yX0_go : MethodName := ⟨RX0, "go", "(LLadderLand$World;I)V"⟩
abbrev cX0_partner : ByteArray := prog_2_method_5_code
def yX0_partner : MethodName := ⟨RX0, "partner", "(LLadderLand$World;II)I"⟩
abbrev cX0_wear : ByteArray := prog_2_method_6_code
def yX0_wear : MethodName := ⟨RX0, "wear", "(LLadderLand$World;)I"⟩
abbrev cX0_tire : ByteArray := prog_2_method_7_code
def yX0_tire : MethodName := ⟨RX0, "tire", "(LLadderLand$World;I)I"⟩
def RX1 : String := "LadderLand$Ladder"
def TX1 : u_T := fun k => match k with
  | 0 => ("LadderLand$Ladder", "rungs", "I", false)
  | 1 => ("LadderLand$Ladder", "people", "I", false)
  | 2 => ("LadderLand$Ladder", "startBroken", "I", false)
  | 3 => ("LadderLand$Ladder", "room", "[I", true)
  | 4 => ("LadderLand$Ladder", "strength", "[I", true)
  | 5 => ("LadderLand$Ladder", "weight", "[I", true)
  | 6 => ("LadderLand$Ladder", "told", "[I", true)
  | 7 => ("LadderLand$Ladder", "startRung", "[I", true)
  | _ => ("LadderLand$Ladder", "startWant", "[I", true)
def tyX1 : Nat → FieldType := fun k => match k with
  | 0 => .int
  | 1 => .int
  | 2 => .int
  | 3 => .array .int
  | 4 => .array .int
  | 5 => .array .int
  | 6 => .array .int
  | 7 => .array .int
  | _ => .array .int
abbrev wsX10 : List Cond := u_ws RX1 TX1 9
theorem nmX1 : ∀ a, a < 9 → ∀ b, b < 9 → a ≠ b → (TX1 a).2.1 ≠ (TX1 b).2.1 := by decide +kernel
theorem tyX1_ok : ∀ k, k < 9 → parseFieldDescriptor (TX1 k).2.2.1 = some (tyX1 k) := by decide +kernel
abbrev cX1_init : ByteArray := prog_3_method_1_code
def yX1_init : MethodName := ⟨RX1, "<init>", "()V"⟩
abbrev cX1_crowdAtStart : ByteArray := prog_3_method_2_code
def yX1_crowdAtStart : MethodName := ⟨RX1, "crowdAtStart", "(I)I"⟩
abbrev cX1_takesPerson : ByteArray := prog_3_method_3_code
def yX1_takesPerson : MethodName := ⟨RX1, "takesPerson", "(I)Z"⟩
def RX2 : String := "LadderLand$LadderReader"
def TX2 : u_T := fun k => match k with
  | _ => ("LadderLand$LadderReader", "tape", "LLadderLand$Tape;", true)
def tyX2 : Nat → FieldType := fun k => match k with
  | _ => .object "LadderLand$Tape"
abbrev wsX20 : List Cond := u_ws RX2 TX2 1
theorem nmX2 : ∀ a, a < 1 → ∀ b, b < 1 → a ≠ b → (TX2 a).2.1 ≠ (TX2 b).2.1 := by decide +kernel
theorem tyX2_ok : ∀ k, k < 1 → parseFieldDescriptor (TX2 k).2.2.1 = some (tyX2 k) := by decide +kernel
abbrev cX2_init : ByteArray := prog_4_method_1_code
def yX2_init : MethodName := ⟨RX2, "<init>", "(LLadderLand$Tape;)V"⟩
abbrev cX2_readInto : ByteArray := prog_4_method_2_code
def yX2_readInto : MethodName := ⟨RX2, "readInto", "(LLadderLand$Ladder;)Z"⟩
abbrev cX2_readClause : ByteArray := prog_4_method_3_code
def yX2_readClause : MethodName := ⟨RX2, "readClause", "(LLadderLand$Ladder;I)Z"⟩
abbrev cX2_number : ByteArray := prog_4_method_4_code
def yX2_number : MethodName := ⟨RX2, "number", "(II)I"⟩
abbrev cX2_readRungs : ByteArray := prog_4_method_5_code
def yX2_readRungs : MethodName := ⟨RX2, "readRungs", "(LLadderLand$Ladder;)Z"⟩
abbrev cX2_readRung : ByteArray := prog_4_method_6_code
def yX2_readRung : MethodName := ⟨RX2, "readRung", "(LLadderLand$Ladder;)Z"⟩
abbrev cX2_readBroken : ByteArray := prog_4_method_7_code
def yX2_readBroken : MethodName := ⟨RX2, "readBroken", "(LLadderLand$Ladder;)Z"⟩
abbrev cX2_readPerson : ByteArray := prog_4_method_8_code
def yX2_readPerson : MethodName := ⟨RX2, "readPerson", "(LLadderLand$Ladder;)Z"⟩
def RX3 : String := "LadderLand$Outlook"
def TX3 : u_T := fun k => match k with
  | 0 => ("LadderLand$Outlook", "brokenRung", "I", false)
  | 1 => ("LadderLand$Outlook", "brokenHour", "I", false)
  | 2 => ("LadderLand$Outlook", "mendedRung", "I", false)
  | 3 => ("LadderLand$Outlook", "mendedHour", "I", false)
  | 4 => ("LadderLand$Outlook", "fittingCount", "I", false)
  | 5 => ("LadderLand$Outlook", "firstFitting", "I", false)
  | 6 => ("LadderLand$Outlook", "partingRung", "I", false)
  | 7 => ("LadderLand$Outlook", "mostAlike", "I", false)
  | 8 => ("LadderLand$Outlook", "windSlips", "I", false)
  | 9 => ("LadderLand$Outlook", "windFalls", "I", false)
  | 10 => ("LadderLand$Outlook", "windX", "I", false)
  | 11 => ("LadderLand$Outlook", "hours", "LLadderLand$Hours;", true)
  | 12 => ("LadderLand$Outlook", "trial", "LLadderLand$World;", true)
  | _ => ("LadderLand$Outlook", "crowds", "[I", true)
def tyX3 : Nat → FieldType := fun k => match k with
  | 0 => .int
  | 1 => .int
  | 2 => .int
  | 3 => .int
  | 4 => .int
  | 5 => .int
  | 6 => .int
  | 7 => .int
  | 8 => .int
  | 9 => .int
  | 10 => .int
  | 11 => .object "LadderLand$Hours"
  | 12 => .object "LadderLand$World"
  | _ => .array .int
abbrev wsX30 : List Cond := u_ws RX3 TX3 14
theorem nmX3 : ∀ a, a < 14 → ∀ b, b < 14 → a ≠ b → (TX3 a).2.1 ≠ (TX3 b).2.1 := by decide +kernel
theorem tyX3_ok : ∀ k, k < 14 → parseFieldDescriptor (TX3 k).2.2.1 = some (tyX3 k) := by decide +kernel
abbrev cX3_init : ByteArray := prog_5_method_1_code
def yX3_init : MethodName := ⟨RX3, "<init>", "(LLadderLand$Hours;LLadderLand$World;)V"⟩
abbrev cX3_after : ByteArray := prog_5_method_2_code
def yX3_after : MethodName := ⟨RX3, "after", "(LLadderLand$World;LLadderLand$Rule;I)LLadderLand$World;"⟩
abbrev cX3_foreseesBreak : ByteArray := prog_5_method_3_code
def yX3_foreseesBreak : MethodName := ⟨RX3, "foreseesBreak", "(LLadderLand$World;ILLadderLand$Rule;)Z"⟩
abbrev cX3_findMending : ByteArray := prog_5_method_4_code
def yX3_findMending : MethodName := ⟨RX3, "findMending", "(LLadderLand$World;LLadderLand$Rule;)V"⟩
abbrev cX3_goodsHour : ByteArray := prog_5_method_5_code
def yX3_goodsHour : MethodName := ⟨RX3, "goodsHour", "(LLadderLand$World;LLadderLand$Rule;II)I"⟩
abbrev cX3_tryRules : ByteArray := prog_5_method_6_code
def yX3_tryRules : MethodName := ⟨RX3, "tryRules", "(LLadderLand$State;[LLadderLand$Rule;II)V"⟩
abbrev cX3_fits : ByteArray := prog_5_method_7_code
def yX3_fits : MethodName := ⟨RX3, "fits", "(LLadderLand$State;LLadderLand$Rule;I)Z"⟩
abbrev cX3_keepCrowds : ByteArray := prog_5_method_8_code
def yX3_keepCrowds : MethodName := ⟨RX3, "keepCrowds", "()V"⟩
abbrev cX3_findPartingRung : ByteArray := prog_5_method_9_code
def yX3_findPartingRung : MethodName := ⟨RX3, "findPartingRung", "(I)V"⟩
abbrev cX3_largestGroup : ByteArray := prog_5_method_10_code
def yX3_largestGroup : MethodName := ⟨RX3, "largestGroup", "(I)I"⟩
abbrev cX3_blow : ByteArray := prog_5_method_11_code
def yX3_blow : MethodName := ⟨RX3, "blow", "(LLadderLand$State;LLadderLand$Rule;III)V"⟩
abbrev cX3_loosen : ByteArray := prog_5_method_12_code
def yX3_loosen : MethodName := ⟨RX3, "loosen", "(I)V"⟩
abbrev cX3_draw : ByteArray := prog_5_method_13_code
def yX3_draw : MethodName := ⟨RX3, "draw", "()I"⟩
def RX4 : String := "LadderLand$Paths"
def TX4 : u_T := fun k => match k with
  | 0 => ("LadderLand$Paths", "world", "LLadderLand$World;", true)
  | 1 => ("LadderLand$Paths", "set", "I", false)
  | 2 => ("LadderLand$Paths", "from", "[I", false)
  | 3 => ("LadderLand$Paths", "queue", "[I", false)
  | 4 => ("LadderLand$Paths", "tail", "I", false)
  | 5 => ("LadderLand$Paths", "goal", "I", false)
  | 6 => ("LadderLand$Paths", "rowLength", "I", false)
  | 7 => ("LadderLand$Paths", "digit", "[I", true)
  | 8 => ("LadderLand$Paths", "rung", "[I", true)
  | 9 => ("LadderLand$Paths", "crowd", "[I", true)
  | 10 => ("LadderLand$Paths", "above", "[I", true)
  | _ => ("LadderLand$Paths", "below", "[I", true)
def tyX4 : Nat → FieldType := fun k => match k with
  | 0 => .object "LadderLand$World"
  | 1 => .int
  | 2 => .array .int
  | 3 => .array .int
  | 4 => .int
  | 5 => .int
  | 6 => .int
  | 7 => .array .int
  | 8 => .array .int
  | 9 => .array .int
  | 10 => .array .int
  | _ => .array .int
abbrev wsX40 : List Cond := u_ws RX4 TX4 12
theorem nmX4 : ∀ a, a < 12 → ∀ b, b < 12 → a ≠ b → (TX4 a).2.1 ≠ (TX4 b).2.1 := by decide +kernel
theorem tyX4_ok : ∀ k, k < 12 → parseFieldDescriptor (TX4 k).2.2.1 = some (tyX4 k) := by decide +kernel
abbrev cX4_init : ByteArray := prog_6_method_1_code
def yX4_init : MethodName := ⟨RX4, "<init>", "(LLadderLand$World;)V"⟩
abbrev cX4_fewestMoves : ByteArray := prog_6_method_2_code
def yX4_fewestMoves : MethodName := ⟨RX4, "fewestMoves", "(I)I"⟩
abbrev cX4_lengthOfRow : ByteArray := prog_6_method_3_code
def yX4_lengthOfRow : MethodName := ⟨RX4, "lengthOfRow", "()I"⟩
abbrev cX4_toldMove : ByteArray := prog_6_method_4_code
def yX4_toldMove : MethodName := ⟨RX4, "toldMove", "(II)I"⟩
abbrev cX4_fewestPasses : ByteArray := prog_6_method_5_code
def yX4_fewestPasses : MethodName := ⟨RX4, "fewestPasses", "(I)I"⟩
abbrev cX4_begin : ByteArray := prog_6_method_6_code
def yX4_begin : MethodName := ⟨RX4, "begin", "(I)Z"⟩
abbrev cX4_comeTo : ByteArray := prog_6_method_7_code
def yX4_comeTo : MethodName := ⟨RX4, "comeTo", "(II)V"⟩
abbrev cX4_unfold : ByteArray := prog_6_method_8_code
def yX4_unfold : MethodName := ⟨RX4, "unfold", "(I)V"⟩
abbrev cX4_isThere : ByteArray := prog_6_method_9_code
def yX4_isThere : MethodName := ⟨RX4, "isThere", "()Z"⟩
abbrev cX4_trySteps : ByteArray := prog_6_method_10_code
def yX4_trySteps : MethodName := ⟨RX4, "trySteps", "(II)V"⟩
abbrev cX4_tryStep : ByteArray := prog_6_method_11_code
def yX4_tryStep : MethodName := ⟨RX4, "tryStep", "(IIII)V"⟩
abbrev cX4_tryPasses : ByteArray := prog_6_method_12_code
def yX4_tryPasses : MethodName := ⟨RX4, "tryPasses", "(II)V"⟩
def RX5 : String := "LadderLand$Rule"
def TX5 : u_T := fun k => match k with
  | 0 => ("LadderLand$Rule", "code", "[I", true)
  | 1 => ("LadderLand$Rule", "sumEnd", "[I", true)
  | 2 => ("LadderLand$Rule", "testEnd", "[I", true)
  | 3 => ("LadderLand$Rule", "stack", "[J", true)
  | _ => ("LadderLand$Rule", "top", "I", false)
def tyX5 : Nat → FieldType := fun k => match k with
  | 0 => .array .int
  | 1 => .array .int
  | 2 => .array .int
  | 3 => .array .long
  | _ => .int
abbrev wsX50 : List Cond := u_ws RX5 TX5 5
theorem nmX5 : ∀ a, a < 5 → ∀ b, b < 5 → a ≠ b → (TX5 a).2.1 ≠ (TX5 b).2.1 := by decide +kernel
theorem tyX5_ok : ∀ k, k < 5 → parseFieldDescriptor (TX5 k).2.2.1 = some (tyX5 k) := by decide +kernel
abbrev cX5_init : ByteArray := prog_7_method_1_code
def yX5_init : MethodName := ⟨RX5, "<init>", "([I[I[I)V"⟩
abbrev cX5_compares : ByteArray := prog_7_method_2_code
def yX5_compares : MethodName := ⟨RX5, "compares", "(I)Z"⟩
abbrev cX5_wish : ByteArray := prog_7_method_3_code
def yX5_wish : MethodName := ⟨RX5, "wish", "([J)I"⟩
abbrev cX5_result : ByteArray := prog_7_method_4_code
def yX5_result : MethodName := ⟨RX5, "result", "(II[J)J"⟩
abbrev cX5_push : ByteArray := prog_7_method_5_code
def yX5_push : MethodName := ⟨RX5, "push", "(J)V"⟩
abbrev cX5_pop : ByteArray := prog_7_method_6_code
def yX5_pop : MethodName := ⟨RX5, "pop", "()J"⟩
abbrev cX5_joined : ByteArray := prog_7_method_7_code
def yX5_joined : MethodName := ⟨RX5, "joined", "(IJJ)J"⟩
def RX6 : String := "LadderLand$RuleReader"
def TX6 : u_T := fun k => match k with
  | 0 => ("LadderLand$RuleReader", "tape", "LLadderLand$Tape;", true)
  | 1 => ("LadderLand$RuleReader", "code", "[I", true)
  | 2 => ("LadderLand$RuleReader", "sumEnd", "[I", true)
  | 3 => ("LadderLand$RuleReader", "testEnd", "[I", true)
  | 4 => ("LadderLand$RuleReader", "size", "I", false)
  | 5 => ("LadderLand$RuleReader", "clauses", "I", false)
  | _ => ("LadderLand$RuleReader", "values", "I", false)
def tyX6 : Nat → FieldType := fun k => match k with
  | 0 => .object "LadderLand$Tape"
  | 1 => .array .int
  | 2 => .array .int
  | 3 => .array .int
  | 4 => .int
  | 5 => .int
  | _ => .int
abbrev wsX60 : List Cond := u_ws RX6 TX6 7
theorem nmX6 : ∀ a, a < 7 → ∀ b, b < 7 → a ≠ b → (TX6 a).2.1 ≠ (TX6 b).2.1 := by decide +kernel
theorem tyX6_ok : ∀ k, k < 7 → parseFieldDescriptor (TX6 k).2.2.1 = some (tyX6 k) := by decide +kernel
abbrev cX6_init : ByteArray := prog_8_method_1_code
def yX6_init : MethodName := ⟨RX6, "<init>", "(LLadderLand$Tape;)V"⟩
abbrev cX6_made : ByteArray := prog_8_method_2_code
def yX6_made : MethodName := ⟨RX6, "made", "()LLadderLand$Rule;"⟩
abbrev cX6_readText : ByteArray := prog_8_method_3_code
def yX6_readText : MethodName := ⟨RX6, "readText", "()Z"⟩
abbrev cX6_readTest : ByteArray := prog_8_method_4_code
def yX6_readTest : MethodName := ⟨RX6, "readTest", "(I)Z"⟩
abbrev cX6_readFact : ByteArray := prog_8_method_5_code
def yX6_readFact : MethodName := ⟨RX6, "readFact", "(I)Z"⟩
abbrev cX6_readNegated : ByteArray := prog_8_method_6_code
def yX6_readNegated : MethodName := ⟨RX6, "readNegated", "(I)Z"⟩
abbrev cX6_readBracketed : ByteArray := prog_8_method_7_code
def yX6_readBracketed : MethodName := ⟨RX6, "readBracketed", "(I)Z"⟩
abbrev cX6_readComparison : ByteArray := prog_8_method_8_code
def yX6_readComparison : MethodName := ⟨RX6, "readComparison", "()Z"⟩
abbrev cX6_readSum : ByteArray := prog_8_method_9_code
def yX6_readSum : MethodName := ⟨RX6, "readSum", "()Z"⟩
abbrev cX6_emitWaiting : ByteArray := prog_8_method_10_code
def yX6_emitWaiting : MethodName := ⟨RX6, "emitWaiting", "(I)V"⟩
abbrev cX6_readValue : ByteArray := prog_8_method_11_code
def yX6_readValue : MethodName := ⟨RX6, "readValue", "()Z"⟩
abbrev cX6_emit : ByteArray := prog_8_method_12_code
def yX6_emit : MethodName := ⟨RX6, "emit", "(II)V"⟩
def RX7 : String := "LadderLand$Siege"
def TX7 : u_T := fun k => match k with
  | 0 => ("LadderLand$Siege", "firstStep", "I", false)
  | _ => ("LadderLand$Siege", "trial", "LLadderLand$World;", true)
def tyX7 : Nat → FieldType := fun k => match k with
  | 0 => .int
  | _ => .object "LadderLand$World"
abbrev wsX70 : List Cond := u_ws RX7 TX7 2
theorem nmX7 : ∀ a, a < 2 → ∀ b, b < 2 → a ≠ b → (TX7 a).2.1 ≠ (TX7 b).2.1 := by decide +kernel
theorem tyX7_ok : ∀ k, k < 2 → parseFieldDescriptor (TX7 k).2.2.1 = some (tyX7 k) := by decide +kernel
abbrev cX7_init : ByteArray := prog_9_method_1_code
def yX7_init : MethodName := ⟨RX7, "<init>", "(LLadderLand$World;)V"⟩
abbrev cX7_possibleCapitals : ByteArray := prog_9_method_2_code
def yX7_possibleCapitals : MethodName := ⟨RX7, "possibleCapitals", "(LLadderLand$World;)I"⟩
abbrev cX7_capitalBit : ByteArray := prog_9_method_3_code
def yX7_capitalBit : MethodName := ⟨RX7, "capitalBit", "()I"⟩
abbrev cX7_goalOf : ByteArray := prog_9_method_4_code
def yX7_goalOf : MethodName := ⟨RX7, "goalOf", "(I)I"⟩
abbrev cX7_lowestHeight : ByteArray := prog_9_method_5_code
def yX7_lowestHeight : MethodName := ⟨RX7, "lowestHeight", "(LLadderLand$World;I)I"⟩
abbrev cX7_defend : ByteArray := prog_9_method_6_code
def yX7_defend : MethodName := ⟨RX7, "defend", "(II)I"⟩
abbrev cX7_letClimb : ByteArray := prog_9_method_7_code
def yX7_letClimb : MethodName := ⟨RX7, "letClimb", "(II)I"⟩
def RX8 : String := "LadderLand$State"
def TX8 : u_T := fun k => match k with
  | 0 => ("LadderLand$State", "world", "LLadderLand$World;", true)
  | 1 => ("LadderLand$State", "force", "I", false)
  | 2 => ("LadderLand$State", "x", "I", false)
  | 3 => ("LadderLand$State", "notes", "I", false)
  | 4 => ("LadderLand$State", "noteHour", "[I", true)
  | 5 => ("LadderLand$State", "noteRung", "[I", true)
  | 6 => ("LadderLand$State", "noteMany", "[I", true)
  | _ => ("LadderLand$State", "made", "Z", false)
def tyX8 : Nat → FieldType := fun k => match k with
  | 0 => .object "LadderLand$World"
  | 1 => .int
  | 2 => .int
  | 3 => .int
  | 4 => .array .int
  | 5 => .array .int
  | 6 => .array .int
  | _ => .boolean
abbrev wsX80 : List Cond := u_ws RX8 TX8 8
theorem nmX8 : ∀ a, a < 8 → ∀ b, b < 8 → a ≠ b → (TX8 a).2.1 ≠ (TX8 b).2.1 := by decide +kernel
theorem tyX8_ok : ∀ k, k < 8 → parseFieldDescriptor (TX8 k).2.2.1 = some (tyX8 k) := by decide +kernel
abbrev cX8_init : ByteArray := prog_10_method_1_code
def yX8_init : MethodName := ⟨RX8, "<init>", "(LLadderLand$Ladder;)V"⟩
abbrev cX8_copyFrom : ByteArray := prog_10_method_2_code
def yX8_copyFrom : MethodName := ⟨RX8, "copyFrom", "(LLadderLand$State;)V"⟩
abbrev cX8_addNote : ByteArray := prog_10_method_3_code
def yX8_addNote : MethodName := ⟨RX8, "addNote", "(III)I"⟩
abbrev cX8_lastNotedHour : ByteArray := prog_10_method_4_code
def yX8_lastNotedHour : MethodName := ⟨RX8, "lastNotedHour", "()I"⟩
abbrev cX8_isAsNoted : ByteArray := prog_10_method_5_code
def yX8_isAsNoted : MethodName := ⟨RX8, "isAsNoted", "(LLadderLand$World;)Z"⟩
def RX9 : String := "LadderLand$Tape"
def TX9 : u_T := fun k => match k with
  | 0 => ("LadderLand$Tape", "bytes", "[I", true)
  | 1 => ("LadderLand$Tape", "length", "I", false)
  | 2 => ("LadderLand$Tape", "kind", "I", false)
  | 3 => ("LadderLand$Tape", "sign", "I", false)
  | 4 => ("LadderLand$Tape", "fault", "I", false)
  | 5 => ("LadderLand$Tape", "start", "I", false)
  | _ => ("LadderLand$Tape", "stop", "I", false)
def tyX9 : Nat → FieldType := fun k => match k with
  | 0 => .array .int
  | 1 => .int
  | 2 => .int
  | 3 => .int
  | 4 => .int
  | 5 => .int
  | _ => .int
abbrev wsX90 : List Cond := u_ws RX9 TX9 7
theorem nmX9 : ∀ a, a < 7 → ∀ b, b < 7 → a ≠ b → (TX9 a).2.1 ≠ (TX9 b).2.1 := by decide +kernel
theorem tyX9_ok : ∀ k, k < 7 → parseFieldDescriptor (TX9 k).2.2.1 = some (tyX9 k) := by decide +kernel
abbrev cX9_init : ByteArray := prog_11_method_1_code
def yX9_init : MethodName := ⟨RX9, "<init>", "()V"⟩
abbrev cX9_append : ByteArray := prog_11_method_2_code
def yX9_append : MethodName := ⟨RX9, "append", "(I)V"⟩
abbrev cX9_open : ByteArray := prog_11_method_3_code
def yX9_open : MethodName := ⟨RX9, "open", "()V"⟩
abbrev cX9_advance : ByteArray := prog_11_method_4_code
def yX9_advance : MethodName := ⟨RX9, "advance", "()V"⟩
abbrev cX9_isAt : ByteArray := prog_11_method_5_code
def yX9_isAt : MethodName := ⟨RX9, "isAt", "(C)Z"⟩
abbrev cX9_wordIn : ByteArray := prog_11_method_6_code
def yX9_wordIn : MethodName := ⟨RX9, "wordIn", "(Ljava/lang/String;)I"⟩
abbrev cX9_isAtWord : ByteArray := prog_11_method_7_code
def yX9_isAtWord : MethodName := ⟨RX9, "isAtWord", "(Ljava/lang/String;)Z"⟩
abbrev cX9_numberAtHand : ByteArray := prog_11_method_8_code
def yX9_numberAtHand : MethodName := ⟨RX9, "numberAtHand", "()I"⟩
abbrev cX9_refuse : ByteArray := prog_11_method_9_code
def yX9_refuse : MethodName := ⟨RX9, "refuse", "(I)Z"⟩
def RX10 : String := "LadderLand$World"
def TX10 : u_T := fun k => match k with
  | 0 => ("LadderLand$World", "ladder", "LLadderLand$Ladder;", false)
  | 1 => ("LadderLand$World", "hour", "I", false)
  | 2 => ("LadderLand$World", "broken", "I", false)
  | 3 => ("LadderLand$World", "rung", "[I", true)
  | 4 => ("LadderLand$World", "grip", "[I", true)
  | 5 => ("LadderLand$World", "want", "[I", true)
  | 6 => ("LadderLand$World", "slips", "[I", true)
  | _ => ("LadderLand$World", "worn", "[I", true)
def tyX10 : Nat → FieldType := fun k => match k with
  | 0 => .object "LadderLand$Ladder"
  | 1 => .int
  | 2 => .int
  | 3 => .array .int
  | 4 => .array .int
  | 5 => .array .int
  | 6 => .array .int
  | _ => .array .int
abbrev wsX100 : List Cond := u_ws RX10 TX10 8
theorem nmX10 : ∀ a, a < 8 → ∀ b, b < 8 → a ≠ b → (TX10 a).2.1 ≠ (TX10 b).2.1 := by decide +kernel
theorem tyX10_ok : ∀ k, k < 8 → parseFieldDescriptor (TX10 k).2.2.1 = some (tyX10 k) := by decide +kernel
abbrev cX10_init : ByteArray := prog_12_method_1_code
def yX10_init : MethodName := ⟨RX10, "<init>", "(LLadderLand$Ladder;)V"⟩
abbrev cX10_begin : ByteArray := prog_12_method_2_code
def yX10_begin : MethodName := ⟨RX10, "begin", "(LLadderLand$Ladder;)V"⟩
abbrev cX10_copyFrom : ByteArray := prog_12_method_3_code
def yX10_copyFrom : MethodName := ⟨RX10, "copyFrom", "(LLadderLand$World;)V"⟩
abbrev cX10_isBroken : ByteArray := prog_12_method_4_code
def yX10_isBroken : MethodName := ⟨RX10, "isBroken", "(I)Z"⟩
abbrev cX10_hasFallen : ByteArray := prog_12_method_5_code
def yX10_hasFallen : MethodName := ⟨RX10, "hasFallen", "(I)Z"⟩
abbrev cX10_needsMending : ByteArray := prog_12_method_6_code
def yX10_needsMending : MethodName := ⟨RX10, "needsMending", "(I)Z"⟩
abbrev cX10_whoIsOn : ByteArray := prog_12_method_7_code
def yX10_whoIsOn : MethodName := ⟨RX10, "whoIsOn", "(I)I"⟩
abbrev cX10_crowdOn : ByteArray := prog_12_method_8_code
def yX10_crowdOn : MethodName := ⟨RX10, "crowdOn", "(I)I"⟩
abbrev cX10_weightOn : ByteArray := prog_12_method_9_code
def yX10_weightOn : MethodName := ⟨RX10, "weightOn", "(I)I"⟩
abbrev cX10_whoIsLeft : ByteArray := prog_12_method_10_code
def yX10_whoIsLeft : MethodName := ⟨RX10, "whoIsLeft", "()I"⟩
abbrev cX10_allSlips : ByteArray := prog_12_method_11_code
def yX10_allSlips : MethodName := ⟨RX10, "allSlips", "()I"⟩
abbrev cX10_allWorn : ByteArray := prog_12_method_12_code
def yX10_allWorn : MethodName := ⟨RX10, "allWorn", "()I"⟩
abbrev cX10_beside : ByteArray := prog_12_method_13_code
def yX10_beside : MethodName := ⟨RX10, "beside", "(II)I"⟩
abbrev cX10_hasRoom : ByteArray := prog_12_method_14_code
def yX10_hasRoom : MethodName := ⟨RX10, "hasRoom", "(I)Z"⟩
abbrev cX10_stepGoal : ByteArray := prog_12_method_15_code
def yX10_stepGoal : MethodName := ⟨RX10, "stepGoal", "(II)I"⟩
abbrev cX10_canPass : ByteArray := prog_12_method_16_code
def yX10_canPass : MethodName := ⟨RX10, "canPass", "(II)Z"⟩
abbrev cX10_swap : ByteArray := prog_12_method_17_code
def yX10_swap : MethodName := ⟨RX10, "swap", "(II)V"⟩
abbrev cX10_slip : ByteArray := prog_12_method_18_code
def yX10_slip : MethodName := ⟨RX10, "slip", "(I)V"⟩
abbrev cX10_split : ByteArray := prog_12_method_19_code
def yX10_split : MethodName := ⟨RX10, "split", "(I)I"⟩
abbrev cX10_repair : ByteArray := prog_12_method_20_code
def yX10_repair : MethodName := ⟨RX10, "repair", "(I)V"⟩
abbrev cX10_fullestRung : ByteArray := prog_12_method_21_code
def yX10_fullestRung : MethodName := ⟨RX10, "fullestRung", "()I"⟩
abbrev cX10_hoursBorne : ByteArray := prog_12_method_22_code
def yX10_hoursBorne : MethodName := ⟨RX10, "hoursBorne", "(II)I"⟩
abbrev cX10_tellWords : ByteArray := prog_12_method_23_code
def yX10_tellWords : MethodName := ⟨RX10, "tellWords", "(I[J)V"⟩
def RX11 : String := "LadderLand"
def TX11 : u_T := fun k => match k with
  | 0 => ("LadderLand", "tape", "LLadderLand$Tape;", true)
  | 1 => ("LadderLand", "ladderReader", "LLadderLand$LadderReader;", true)
  | 2 => ("LadderLand", "ruleReader", "LLadderLand$RuleReader;", true)
  | 3 => ("LadderLand", "rules", "[LLadderLand$Rule;", true)
  | 4 => ("LadderLand", "ruleCount", "I", false)
  | 5 => ("LadderLand", "now", "LLadderLand$State;", true)
  | 6 => ("LadderLand", "images", "[LLadderLand$State;", true)
  | 7 => ("LadderLand", "past", "[LLadderLand$World;", true)
  | 8 => ("LadderLand", "pastNext", "I", false)
  | 9 => ("LadderLand", "pastCount", "I", false)
  | 10 => ("LadderLand", "hours", "LLadderLand$Hours;", true)
  | 11 => ("LadderLand", "outlook", "LLadderLand$Outlook;", true)
  | 12 => ("LadderLand", "paths", "LLadderLand$Paths;", true)
  | _ => ("LadderLand", "siege", "LLadderLand$Siege;", true)
def tyX11 : Nat → FieldType := fun k => match k with
  | 0 => .object "LadderLand$Tape"
  | 1 => .object "LadderLand$LadderReader"
  | 2 => .object "LadderLand$RuleReader"
  | 3 => .array (.object "LadderLand$Rule")
  | 4 => .int
  | 5 => .object "LadderLand$State"
  | 6 => .array (.object "LadderLand$State")
  | 7 => .array (.object "LadderLand$World")
  | 8 => .int
  | 9 => .int
  | 10 => .object "LadderLand$Hours"
  | 11 => .object "LadderLand$Outlook"
  | 12 => .object "LadderLand$Paths"
  | _ => .object "LadderLand$Siege"
abbrev wsX110 : List Cond := u_ws RX11 TX11 14
theorem nmX11 : ∀ a, a < 14 → ∀ b, b < 14 → a ≠ b → (TX11 a).2.1 ≠ (TX11 b).2.1 := by decide +kernel
theorem tyX11_ok : ∀ k, k < 14 → parseFieldDescriptor (TX11 k).2.2.1 = some (tyX11 k) := by decide +kernel
abbrev cX11_init : ByteArray := prog_1_method_1_code
def yX11_init : MethodName := ⟨RX11, "<init>", "()V"⟩
abbrev cX11_feed : ByteArray := prog_1_method_2_code
def yX11_feed : MethodName := ⟨RX11, "feed", "(IIIII)I"⟩
abbrev cX11_end : ByteArray := prog_1_method_3_code
def yX11_end : MethodName := ⟨RX11, "end", "(I)I"⟩
abbrev cX11_ladder : ByteArray := prog_1_method_4_code
def yX11_ladder : MethodName := ⟨RX11, "ladder", "()I"⟩
abbrev cX11_rule : ByteArray := prog_1_method_5_code
def yX11_rule : MethodName := ⟨RX11, "rule", "()I"⟩
abbrev cX11_force : ByteArray := prog_1_method_6_code
def yX11_force : MethodName := ⟨RX11, "force", "(I)I"⟩
abbrev cX11_person : ByteArray := prog_1_method_7_code
def yX11_person : MethodName := ⟨RX11, "person", "(II)I"⟩
abbrev cX11_rung : ByteArray := prog_1_method_8_code
def yX11_rung : MethodName := ⟨RX11, "rung", "(II)I"⟩
abbrev cX11_hour : ByteArray := prog_1_method_9_code
def yX11_hour : MethodName := ⟨RX11, "hour", "()I"⟩
abbrev cX11_step : ByteArray := prog_1_method_10_code
def yX11_step : MethodName := ⟨RX11, "step", "(IZ)I"⟩
abbrev cX11_pass : ByteArray := prog_1_method_11_code
def yX11_pass : MethodName := ⟨RX11, "pass", "(II)Z"⟩
abbrev cX11_mend : ByteArray := prog_1_method_12_code
def yX11_mend : MethodName := ⟨RX11, "mend", "(I)I"⟩
abbrev cX11_cut : ByteArray := prog_1_method_13_code
def yX11_cut : MethodName := ⟨RX11, "cut", "(I)I"⟩
abbrev cX11_aim : ByteArray := prog_1_method_14_code
def yX11_aim : MethodName := ⟨RX11, "aim", "(II)I"⟩
abbrev cX11_undo : ByteArray := prog_1_method_15_code
def yX11_undo : MethodName := ⟨RX11, "undo", "()I"⟩
abbrev cX11_ahead : ByteArray := prog_1_method_16_code
def yX11_ahead : MethodName := ⟨RX11, "ahead", "(III)I"⟩
abbrev cX11_breaks : ByteArray := prog_1_method_17_code
def yX11_breaks : MethodName := ⟨RX11, "breaks", "(I)I"⟩
abbrev cX11_moves : ByteArray := prog_1_method_18_code
def yX11_moves : MethodName := ⟨RX11, "moves", "(I)I"⟩
abbrev cX11_move : ByteArray := prog_1_method_19_code
def yX11_move : MethodName := ⟨RX11, "move", "(III)I"⟩
abbrev cX11_squeeze : ByteArray := prog_1_method_20_code
def yX11_squeeze : MethodName := ⟨RX11, "squeeze", "(I)I"⟩
abbrev cX11_mending : ByteArray := prog_1_method_21_code
def yX11_mending : MethodName := ⟨RX11, "mending", "(I)I"⟩
abbrev cX11_capital : ByteArray := prog_1_method_22_code
def yX11_capital : MethodName := ⟨RX11, "capital", "()I"⟩
abbrev cX11_ballot : ByteArray := prog_1_method_23_code
def yX11_ballot : MethodName := ⟨RX11, "ballot", "()I"⟩
abbrev cX11_hold : ByteArray := prog_1_method_24_code
def yX11_hold : MethodName := ⟨RX11, "hold", "(II)I"⟩
abbrev cX11_goods : ByteArray := prog_1_method_25_code
def yX11_goods : MethodName := ⟨RX11, "goods", "(II)I"⟩
abbrev cX11_stand : ByteArray := prog_1_method_26_code
def yX11_stand : MethodName := ⟨RX11, "stand", "(II)I"⟩
abbrev cX11_note : ByteArray := prog_1_method_27_code
def yX11_note : MethodName := ⟨RX11, "note", "(III)I"⟩
abbrev cX11_ruled : ByteArray := prog_1_method_28_code
def yX11_ruled : MethodName := ⟨RX11, "ruled", "(I)I"⟩
abbrev cX11_look : ByteArray := prog_1_method_29_code
def yX11_look : MethodName := ⟨RX11, "look", "(II)I"⟩
abbrev cX11_seed : ByteArray := prog_1_method_30_code
def yX11_seed : MethodName := ⟨RX11, "seed", "(I)I"⟩
abbrev cX11_years : ByteArray := prog_1_method_31_code
def yX11_years : MethodName := ⟨RX11, "years", "(IIII)I"⟩
abbrev cX11_count : ByteArray := prog_1_method_32_code
def yX11_count : MethodName := ⟨RX11, "count", "(I)I"⟩
abbrev cX11_image : ByteArray := prog_1_method_33_code
def yX11_image : MethodName := ⟨RX11, "image", "(I)I"⟩
abbrev cX11_back : ByteArray := prog_1_method_34_code
def yX11_back : MethodName := ⟨RX11, "back", "(I)I"⟩
abbrev cX11_hasLadder : ByteArray := prog_1_method_35_code
def yX11_hasLadder : MethodName := ⟨RX11, "hasLadder", "()Z"⟩
abbrev cX11_isPerson : ByteArray := prog_1_method_36_code
def yX11_isPerson : MethodName := ⟨RX11, "isPerson", "(I)Z"⟩
abbrev cX11_isRung : ByteArray := prog_1_method_37_code
def yX11_isRung : MethodName := ⟨RX11, "isRung", "(I)Z"⟩
abbrev cX11_isSet : ByteArray := prog_1_method_38_code
def yX11_isSet : MethodName := ⟨RX11, "isSet", "(I)Z"⟩
abbrev cX11_inForce : ByteArray := prog_1_method_39_code
def yX11_inForce : MethodName := ⟨RX11, "inForce", "()LLadderLand$Rule;"⟩
abbrev cX11_remember : ByteArray := prog_1_method_40_code
def yX11_remember : MethodName := ⟨RX11, "remember", "()V"⟩
def RX12 : String := "LadderLandModel"
def TX12 : u_T := fun k => match k with
  | 0 => ("LadderLandModel", "tape", "[B", true)
  | 1 => ("LadderLandModel", "taped", "I", false)
  | 2 => ("LadderLandModel", "rules", "I", false)
  | 3 => ("LadderLandModel", "sign", "[I", true)
  | 4 => ("LadderLandModel", "length", "[I", true)
  | 5 => ("LadderLandModel", "clause", "[I", true)
  | 6 => ("LadderLandModel", "clauses", "[I", true)
  | 7 => ("LadderLandModel", "read", "[I", true)
  | 8 => ("LadderLandModel", "next", "I", false)
  | 9 => ("LadderLandModel", "wrong", "I", false)
  | 10 => ("LadderLandModel", "number", "I", false)
  | 11 => ("LadderLandModel", "text", "I", false)
  | 12 => ("LadderLandModel", "made", "I", false)
  | 13 => ("LadderLandModel", "deep", "I", false)
  | 14 => ("LadderLandModel", "lines", "I", false)
  | 15 => ("LadderLandModel", "open", "[I", true)
  | 16 => ("LadderLandModel", "opened", "I", false)
  | 17 => ("LadderLandModel", "stack", "[J", true)
  | 18 => ("LadderLandModel", "top", "I", false)
  | 19 => ("LadderLandModel", "word", "[J", true)
  | 20 => ("LadderLandModel", "said", "[I", true)
  | 21 => ("LadderLandModel", "force", "I", false)
  | 22 => ("LadderLandModel", "x", "I", false)
  | 23 => ("LadderLandModel", "will", "[I", true)
  | 24 => ("LadderLandModel", "moved", "[I", true)
  | 25 => ("LadderLandModel", "broke", "I", false)
  | 26 => ("LadderLandModel", "wasSaid", "[I", true)
  | 27 => ("LadderLandModel", "undone", "I", false)
  | 28 => ("LadderLandModel", "kept", "[I", true)
  | 29 => ("LadderLandModel", "breakHour", "I", false)
  | 30 => ("LadderLandModel", "far", "[I", true)
  | 31 => ("LadderLandModel", "queue", "[I", true)
  | 32 => ("LadderLandModel", "queued", "I", false)
  | 33 => ("LadderLandModel", "isOnWay", "[Z", true)
  | 34 => ("LadderLandModel", "movePerson", "I", false)
  | 35 => ("LadderLandModel", "moveKind", "I", false)
  | 36 => ("LadderLandModel", "isFit", "[Z", true)
  | 37 => ("LadderLandModel", "standThen", "[I", true)
  | 38 => ("LadderLandModel", "drawX", "J", false)
  | 39 => ("LadderLandModel", "images", "[I", true)
  | 40 => ("LadderLandModel", "imageForce", "[I", true)
  | 41 => ("LadderLandModel", "imageX", "[I", true)
  | _ => ("LadderLandModel", "isMade", "[Z", true)
def tyX12 : Nat → FieldType := fun k => match k with
  | 0 => .array .byte
  | 1 => .int
  | 2 => .int
  | 3 => .array .int
  | 4 => .array .int
  | 5 => .array .int
  | 6 => .array .int
  | 7 => .array .int
  | 8 => .int
  | 9 => .int
  | 10 => .int
  | 11 => .int
  | 12 => .int
  | 13 => .int
  | 14 => .int
  | 15 => .array .int
  | 16 => .int
  | 17 => .array .long
  | 18 => .int
  | 19 => .array .long
  | 20 => .array .int
  | 21 => .int
  | 22 => .int
  | 23 => .array .int
  | 24 => .array .int
  | 25 => .int
  | 26 => .array .int
  | 27 => .int
  | 28 => .array .int
  | 29 => .int
  | 30 => .array .int
  | 31 => .array .int
  | 32 => .int
  | 33 => .array .boolean
  | 34 => .int
  | 35 => .int
  | 36 => .array .boolean
  | 37 => .array .int
  | 38 => .long
  | 39 => .array .int
  | 40 => .array .int
  | 41 => .array .int
  | _ => .array .boolean
abbrev wsX120 : List Cond := u_ws RX12 TX12 43
theorem nmX12 : ∀ a, a < 43 → ∀ b, b < 43 → a ≠ b → (TX12 a).2.1 ≠ (TX12 b).2.1 := by decide +kernel
theorem tyX12_ok : ∀ k, k < 43 → parseFieldDescriptor (TX12 k).2.2.1 = some (tyX12 k) := by decide +kernel
abbrev cX12_init : ByteArray := prog_14_method_1_code
def yX12_init : MethodName := ⟨RX12, "<init>", "()V"⟩
abbrev cX12_in : ByteArray := prog_14_method_2_code
def yX12_in : MethodName := ⟨RX12, "in", "(JJJ)Z"⟩
abbrev cX12_isOf : ByteArray := prog_14_method_3_code
def yX12_isOf : MethodName := ⟨RX12, "isOf", "(II)Z"⟩
abbrev cX12_four : ByteArray := prog_14_method_4_code
def yX12_four : MethodName := ⟨RX12, "four", "(I)V"⟩
abbrev cX12_feed : ByteArray := prog_14_method_5_code
def yX12_feed : MethodName := ⟨RX12, "feed", "(IIIII)I"⟩
abbrev cX12_end : ByteArray := prog_14_method_6_code
def yX12_end : MethodName := ⟨RX12, "end", "(I)I"⟩
abbrev cX12_fails : ByteArray := prog_14_method_7_code
def yX12_fails : MethodName := ⟨RX12, "fails", "(II)Z"⟩
abbrev cX12_see : ByteArray := prog_14_method_8_code
def yX12_see : MethodName := ⟨RX12, "see", "()I"⟩
abbrev cX12_isDigit : ByteArray := prog_14_method_9_code
def yX12_isDigit : MethodName := ⟨RX12, "isDigit", "(I)Z"⟩
abbrev cX12_isLetter : ByteArray := prog_14_method_10_code
def yX12_isLetter : MethodName := ⟨RX12, "isLetter", "(I)Z"⟩
abbrev cX12_isWord : ByteArray := prog_14_method_11_code
def yX12_isWord : MethodName := ⟨RX12, "isWord", "(J)Z"⟩
abbrev cX12_passWord : ByteArray := prog_14_method_12_code
def yX12_passWord : MethodName := ⟨RX12, "passWord", "()V"⟩
abbrev cX12_takesWord : ByteArray := prog_14_method_13_code
def yX12_takesWord : MethodName := ⟨RX12, "takesWord", "(J)Z"⟩
abbrev cX12_numberHere : ByteArray := prog_14_method_14_code
def yX12_numberHere : MethodName := ⟨RX12, "numberHere", "(II)Z"⟩
abbrev cX12_wordHere : ByteArray := prog_14_method_15_code
def yX12_wordHere : MethodName := ⟨RX12, "wordHere", "()I"⟩
abbrev cX12_puts : ByteArray := prog_14_method_16_code
def yX12_puts : MethodName := ⟨RX12, "puts", "(II)V"⟩
abbrev cX12_makes : ByteArray := prog_14_method_17_code
def yX12_makes : MethodName := ⟨RX12, "makes", "(I)Z"⟩
abbrev cX12_opens : ByteArray := prog_14_method_18_code
def yX12_opens : MethodName := ⟨RX12, "opens", "(I)Z"⟩
abbrev cX12_strength : ByteArray := prog_14_method_19_code
def yX12_strength : MethodName := ⟨RX12, "strength", "(I)I"⟩
abbrev cX12_settles : ByteArray := prog_14_method_20_code
def yX12_settles : MethodName := ⟨RX12, "settles", "(I)V"⟩
abbrev cX12_value : ByteArray := prog_14_method_21_code
def yX12_value : MethodName := ⟨RX12, "value", "()Z"⟩
abbrev cX12_term : ByteArray := prog_14_method_22_code
def yX12_term : MethodName := ⟨RX12, "term", "()Z"⟩
abbrev cX12_sum : ByteArray := prog_14_method_23_code
def yX12_sum : MethodName := ⟨RX12, "sum", "()Z"⟩
abbrev cX12_compare : ByteArray := prog_14_method_24_code
def yX12_compare : MethodName := ⟨RX12, "compare", "()Z"⟩
abbrev cX12_fact : ByteArray := prog_14_method_25_code
def yX12_fact : MethodName := ⟨RX12, "fact", "()Z"⟩
abbrev cX12_isInside : ByteArray := prog_14_method_26_code
def yX12_isInside : MethodName := ⟨RX12, "isInside", "()Z"⟩
abbrev cX12_closes : ByteArray := prog_14_method_27_code
def yX12_closes : MethodName := ⟨RX12, "closes", "()V"⟩
abbrev cX12_tested : ByteArray := prog_14_method_28_code
def yX12_tested : MethodName := ⟨RX12, "tested", "()Z"⟩
abbrev cX12_isClimbHere : ByteArray := prog_14_method_29_code
def yX12_isClimbHere : MethodName := ⟨RX12, "isClimbHere", "()Z"⟩
abbrev cX12_cellHere : ByteArray := prog_14_method_30_code
def yX12_cellHere : MethodName := ⟨RX12, "cellHere", "(III)Z"⟩
abbrev cX12_isLadderHere : ByteArray := prog_14_method_31_code
def yX12_isLadderHere : MethodName := ⟨RX12, "isLadderHere", "(I)Z"⟩
abbrev cX12_standingSoFar : ByteArray := prog_14_method_32_code
def yX12_standingSoFar : MethodName := ⟨RX12, "standingSoFar", "(I)I"⟩
abbrev cX12_isRungHere : ByteArray := prog_14_method_33_code
def yX12_isRungHere : MethodName := ⟨RX12, "isRungHere", "()Z"⟩
abbrev cX12_isBrokenHere : ByteArray := prog_14_method_34_code
def yX12_isBrokenHere : MethodName := ⟨RX12, "isBrokenHere", "()Z"⟩
abbrev cX12_isPersonHere : ByteArray := prog_14_method_35_code
def yX12_isPersonHere : MethodName := ⟨RX12, "isPersonHere", "(I)Z"⟩
abbrev cX12_ladderLineHere : ByteArray := prog_14_method_36_code
def yX12_ladderLineHere : MethodName := ⟨RX12, "ladderLineHere", "(I)Z"⟩
abbrev cX12_isLadderWord : ByteArray := prog_14_method_37_code
def yX12_isLadderWord : MethodName := ⟨RX12, "isLadderWord", "()Z"⟩
abbrev cX12_clauseHere : ByteArray := prog_14_method_38_code
def yX12_clauseHere : MethodName := ⟨RX12, "clauseHere", "()Z"⟩
abbrev cX12_readsAll : ByteArray := prog_14_method_39_code
def yX12_readsAll : MethodName := ⟨RX12, "readsAll", "()Z"⟩
abbrev cX12_rule : ByteArray := prog_14_method_40_code
def yX12_rule : MethodName := ⟨RX12, "rule", "()I"⟩
abbrev cX12_ladder : ByteArray := prog_14_method_41_code
def yX12_ladder : MethodName := ⟨RX12, "ladder", "()I"⟩
abbrev cX12_isRule : ByteArray := prog_14_method_42_code
def yX12_isRule : MethodName := ⟨RX12, "isRule", "(I)Z"⟩
abbrev cX12_push : ByteArray := prog_14_method_43_code
def yX12_push : MethodName := ⟨RX12, "push", "(J)V"⟩
abbrev cX12_pop : ByteArray := prog_14_method_44_code
def yX12_pop : MethodName := ⟨RX12, "pop", "()J"⟩
abbrev cX12_one : ByteArray := prog_14_method_45_code
def yX12_one : MethodName := ⟨RX12, "one", "(IJJ)J"⟩
abbrev cX12_reckons : ByteArray := prog_14_method_46_code
def yX12_reckons : MethodName := ⟨RX12, "reckons", "(III)J"⟩
abbrev cX12_isLadder : ByteArray := prog_14_method_47_code
def yX12_isLadder : MethodName := ⟨RX12, "isLadder", "()Z"⟩
abbrev cX12_isRung : ByteArray := prog_14_method_48_code
def yX12_isRung : MethodName := ⟨RX12, "isRung", "(I)Z"⟩
abbrev cX12_isPerson : ByteArray := prog_14_method_49_code
def yX12_isPerson : MethodName := ⟨RX12, "isPerson", "(I)Z"⟩
abbrev cX12_rungOf : ByteArray := prog_14_method_50_code
def yX12_rungOf : MethodName := ⟨RX12, "rungOf", "(II)I"⟩
abbrev cX12_personOf : ByteArray := prog_14_method_51_code
def yX12_personOf : MethodName := ⟨RX12, "personOf", "(II)I"⟩
abbrev cX12_weightOf : ByteArray := prog_14_method_52_code
def yX12_weightOf : MethodName := ⟨RX12, "weightOf", "(I)I"⟩
abbrev cX12_gripTold : ByteArray := prog_14_method_53_code
def yX12_gripTold : MethodName := ⟨RX12, "gripTold", "(I)I"⟩
abbrev cX12_isUp : ByteArray := prog_14_method_54_code
def yX12_isUp : MethodName := ⟨RX12, "isUp", "(I)Z"⟩
abbrev cX12_isWhole : ByteArray := prog_14_method_55_code
def yX12_isWhole : MethodName := ⟨RX12, "isWhole", "(I)Z"⟩
abbrev cX12_beside : ByteArray := prog_14_method_56_code
def yX12_beside : MethodName := ⟨RX12, "beside", "(II)I"⟩
abbrev cX12_standing : ByteArray := prog_14_method_57_code
def yX12_standing : MethodName := ⟨RX12, "standing", "(I)I"⟩
abbrev cX12_whoStands : ByteArray := prog_14_method_58_code
def yX12_whoStands : MethodName := ⟨RX12, "whoStands", "(I)I"⟩
abbrev cX12_weightOn : ByteArray := prog_14_method_59_code
def yX12_weightOn : MethodName := ⟨RX12, "weightOn", "(I)I"⟩
abbrev cX12_force : ByteArray := prog_14_method_60_code
def yX12_force : MethodName := ⟨RX12, "force", "(I)I"⟩
abbrev cX12_person : ByteArray := prog_14_method_61_code
def yX12_person : MethodName := ⟨RX12, "person", "(II)I"⟩
abbrev cX12_rung : ByteArray := prog_14_method_62_code
def yX12_rung : MethodName := ⟨RX12, "rung", "(II)I"⟩
abbrev cX12_summedBy : ByteArray := prog_14_method_63_code
def yX12_summedBy : MethodName := ⟨RX12, "summedBy", "(I)J"⟩
abbrev cX12_words : ByteArray := prog_14_method_64_code
def yX12_words : MethodName := ⟨RX12, "words", "(I)V"⟩
abbrev cX12_willOf : ByteArray := prog_14_method_65_code
def yX12_willOf : MethodName := ⟨RX12, "willOf", "(I)I"⟩
abbrev cX12_passer : ByteArray := prog_14_method_66_code
def yX12_passer : MethodName := ⟨RX12, "passer", "(II)I"⟩
abbrev cX12_goesBy : ByteArray := prog_14_method_67_code
def yX12_goesBy : MethodName := ⟨RX12, "goesBy", "(I)V"⟩
abbrev cX12_slides : ByteArray := prog_14_method_68_code
def yX12_slides : MethodName := ⟨RX12, "slides", "(I)V"⟩
abbrev cX12_breaksNow : ByteArray := prog_14_method_69_code
def yX12_breaksNow : MethodName := ⟨RX12, "breaksNow", "(I)I"⟩
abbrev cX12_wears : ByteArray := prog_14_method_70_code
def yX12_wears : MethodName := ⟨RX12, "wears", "()I"⟩
abbrev cX12_tires : ByteArray := prog_14_method_71_code
def yX12_tires : MethodName := ⟨RX12, "tires", "(I)Z"⟩
abbrev cX12_passes : ByteArray := prog_14_method_72_code
def yX12_passes : MethodName := ⟨RX12, "passes", "()I"⟩
abbrev cX12_keepsAct : ByteArray := prog_14_method_73_code
def yX12_keepsAct : MethodName := ⟨RX12, "keepsAct", "()V"⟩
abbrev cX12_undo : ByteArray := prog_14_method_74_code
def yX12_undo : MethodName := ⟨RX12, "undo", "()I"⟩
abbrev cX12_hour : ByteArray := prog_14_method_75_code
def yX12_hour : MethodName := ⟨RX12, "hour", "()I"⟩
abbrev cX12_stepTo : ByteArray := prog_14_method_76_code
def yX12_stepTo : MethodName := ⟨RX12, "stepTo", "(II)I"⟩
abbrev cX12_step : ByteArray := prog_14_method_77_code
def yX12_step : MethodName := ⟨RX12, "step", "(IZ)I"⟩
abbrev cX12_canPass : ByteArray := prog_14_method_78_code
def yX12_canPass : MethodName := ⟨RX12, "canPass", "(II)Z"⟩
abbrev cX12_swaps : ByteArray := prog_14_method_79_code
def yX12_swaps : MethodName := ⟨RX12, "swaps", "(II)V"⟩
abbrev cX12_pass : ByteArray := prog_14_method_80_code
def yX12_pass : MethodName := ⟨RX12, "pass", "(II)Z"⟩
abbrev cX12_mends : ByteArray := prog_14_method_81_code
def yX12_mends : MethodName := ⟨RX12, "mends", "(I)V"⟩
abbrev cX12_canMend : ByteArray := prog_14_method_82_code
def yX12_canMend : MethodName := ⟨RX12, "canMend", "(I)Z"⟩
abbrev cX12_mend : ByteArray := prog_14_method_83_code
def yX12_mend : MethodName := ⟨RX12, "mend", "(I)I"⟩
abbrev cX12_cut : ByteArray := prog_14_method_84_code
def yX12_cut : MethodName := ⟨RX12, "cut", "(I)I"⟩
abbrev cX12_aim : ByteArray := prog_14_method_85_code
def yX12_aim : MethodName := ⟨RX12, "aim", "(II)I"⟩
abbrev cX12_keeps : ByteArray := prog_14_method_86_code
def yX12_keeps : MethodName := ⟨RX12, "keeps", "()V"⟩
abbrev cX12_laysBack : ByteArray := prog_14_method_87_code
def yX12_laysBack : MethodName := ⟨RX12, "laysBack", "()V"⟩
abbrev cX12_ahead : ByteArray := prog_14_method_88_code
def yX12_ahead : MethodName := ⟨RX12, "ahead", "(III)I"⟩
abbrev cX12_firstBreak : ByteArray := prog_14_method_89_code
def yX12_firstBreak : MethodName := ⟨RX12, "firstBreak", "()I"⟩
abbrev cX12_breaks : ByteArray := prog_14_method_90_code
def yX12_breaks : MethodName := ⟨RX12, "breaks", "(I)I"⟩
abbrev cX12_mending : ByteArray := prog_14_method_91_code
def yX12_mending : MethodName := ⟨RX12, "mending", "(I)I"⟩
abbrev cX12_code : ByteArray := prog_14_method_92_code
def yX12_code : MethodName := ⟨RX12, "code", "()I"⟩
abbrev cX12_standsAs : ByteArray := prog_14_method_93_code
def yX12_standsAs : MethodName := ⟨RX12, "standsAs", "(I)V"⟩
abbrev cX12_states : ByteArray := prog_14_method_94_code
def yX12_states : MethodName := ⟨RX12, "states", "()I"⟩
abbrev cX12_isGoal : ByteArray := prog_14_method_95_code
def yX12_isGoal : MethodName := ⟨RX12, "isGoal", "(I)Z"⟩
abbrev cX12_kinds : ByteArray := prog_14_method_96_code
def yX12_kinds : MethodName := ⟨RX12, "kinds", "(I)I"⟩
abbrev cX12_codeBehind : ByteArray := prog_14_method_97_code
def yX12_codeBehind : MethodName := ⟨RX12, "codeBehind", "(II)I"⟩
abbrev cX12_goesOnFrom : ByteArray := prog_14_method_98_code
def yX12_goesOnFrom : MethodName := ⟨RX12, "goesOnFrom", "(IIII)V"⟩
abbrev cX12_startsFar : ByteArray := prog_14_method_99_code
def yX12_startsFar : MethodName := ⟨RX12, "startsFar", "()V"⟩
abbrev cX12_fillsMoves : ByteArray := prog_14_method_100_code
def yX12_fillsMoves : MethodName := ⟨RX12, "fillsMoves", "()V"⟩
abbrev cX12_fillsPasses : ByteArray := prog_14_method_101_code
def yX12_fillsPasses : MethodName := ⟨RX12, "fillsPasses", "()V"⟩
abbrev cX12_goalFar : ByteArray := prog_14_method_102_code
def yX12_goalFar : MethodName := ⟨RX12, "goalFar", "(I)I"⟩
abbrev cX12_isSet : ByteArray := prog_14_method_103_code
def yX12_isSet : MethodName := ⟨RX12, "isSet", "(I)Z"⟩
abbrev cX12_moves : ByteArray := prog_14_method_104_code
def yX12_moves : MethodName := ⟨RX12, "moves", "(I)I"⟩
abbrev cX12_squeeze : ByteArray := prog_14_method_105_code
def yX12_squeeze : MethodName := ⟨RX12, "squeeze", "(I)I"⟩
abbrev cX12_findsMove : ByteArray := prog_14_method_106_code
def yX12_findsMove : MethodName := ⟨RX12, "findsMove", "()Z"⟩
abbrev cX12_fillsWay : ByteArray := prog_14_method_107_code
def yX12_fillsWay : MethodName := ⟨RX12, "fillsWay", "(II)V"⟩
abbrev cX12_move : ByteArray := prog_14_method_108_code
def yX12_move : MethodName := ⟨RX12, "move", "(III)I"⟩
abbrev cX12_capitalNow : ByteArray := prog_14_method_109_code
def yX12_capitalNow : MethodName := ⟨RX12, "capitalNow", "()I"⟩
abbrev cX12_capital : ByteArray := prog_14_method_110_code
def yX12_capital : MethodName := ⟨RX12, "capital", "()I"⟩
abbrev cX12_ballot : ByteArray := prog_14_method_111_code
def yX12_ballot : MethodName := ⟨RX12, "ballot", "()I"⟩
abbrev cX12_power : ByteArray := prog_14_method_112_code
def yX12_power : MethodName := ⟨RX12, "power", "(II)I"⟩
abbrev cX12_heightBy : ByteArray := prog_14_method_113_code
def yX12_heightBy : MethodName := ⟨RX12, "heightBy", "(II)I"⟩
abbrev cX12_hold : ByteArray := prog_14_method_114_code
def yX12_hold : MethodName := ⟨RX12, "hold", "(II)I"⟩
abbrev cX12_goods : ByteArray := prog_14_method_115_code
def yX12_goods : MethodName := ⟨RX12, "goods", "(II)I"⟩
abbrev cX12_stand : ByteArray := prog_14_method_116_code
def yX12_stand : MethodName := ⟨RX12, "stand", "(II)I"⟩
abbrev cX12_note : ByteArray := prog_14_method_117_code
def yX12_note : MethodName := ⟨RX12, "note", "(III)I"⟩
abbrev cX12_begins : ByteArray := prog_14_method_118_code
def yX12_begins : MethodName := ⟨RX12, "begins", "()V"⟩
abbrev cX12_areNotesSo : ByteArray := prog_14_method_119_code
def yX12_areNotesSo : MethodName := ⟨RX12, "areNotesSo", "()Z"⟩
abbrev cX12_fillsFits : ByteArray := prog_14_method_120_code
def yX12_fillsFits : MethodName := ⟨RX12, "fillsFits", "(I)V"⟩
abbrev cX12_ruled : ByteArray := prog_14_method_121_code
def yX12_ruled : MethodName := ⟨RX12, "ruled", "(I)I"⟩
abbrev cX12_alikeAt : ByteArray := prog_14_method_122_code
def yX12_alikeAt : MethodName := ⟨RX12, "alikeAt", "(I)I"⟩
abbrev cX12_look : ByteArray := prog_14_method_123_code
def yX12_look : MethodName := ⟨RX12, "look", "(II)I"⟩
abbrev cX12_seed : ByteArray := prog_14_method_124_code
def yX12_seed : MethodName := ⟨RX12, "seed", "(I)I"⟩
abbrev cX12_draw : ByteArray := prog_14_method_125_code
def yX12_draw : MethodName := ⟨RX12, "draw", "(I)I"⟩
abbrev cX12_fallen : ByteArray := prog_14_method_126_code
def yX12_fallen : MethodName := ⟨RX12, "fallen", "()I"⟩
abbrev cX12_years : ByteArray := prog_14_method_127_code
def yX12_years : MethodName := ⟨RX12, "years", "(IIII)I"⟩
abbrev cX12_count : ByteArray := prog_14_method_128_code
def yX12_count : MethodName := ⟨RX12, "count", "(I)I"⟩
abbrev cX12_image : ByteArray := prog_14_method_129_code
def yX12_image : MethodName := ⟨RX12, "image", "(I)I"⟩
abbrev cX12_back : ByteArray := prog_14_method_130_code
def yX12_back : MethodName := ⟨RX12, "back", "(I)I"⟩
def RJx145de : String := "java/io/Serializable"
def TJx145de : u_T := fun k => match k with
  | _ => ("", "", "", false)
def tyJx145de : Nat → FieldType := fun k => match k with
  | _ => .int
abbrev wsJx145de0 : List Cond := u_ws RJx145de TJx145de 0
theorem nmJx145de : ∀ a, a < 0 → ∀ b, b < 0 → a ≠ b → (TJx145de a).2.1 ≠ (TJx145de b).2.1 := by decide +kernel
theorem tyJx145de_ok : ∀ k, k < 0 → parseFieldDescriptor (TJx145de k).2.2.1 = some (tyJx145de k) := by decide +kernel
def RJx9f9b0 : String := "java/lang/CharSequence"
def TJx9f9b0 : u_T := fun k => match k with
  | _ => ("", "", "", false)
def tyJx9f9b0 : Nat → FieldType := fun k => match k with
  | _ => .int
abbrev wsJx9f9b00 : List Cond := u_ws RJx9f9b0 TJx9f9b0 0
theorem nmJx9f9b0 : ∀ a, a < 0 → ∀ b, b < 0 → a ≠ b → (TJx9f9b0 a).2.1 ≠ (TJx9f9b0 b).2.1 := by decide +kernel
theorem tyJx9f9b0_ok : ∀ k, k < 0 → parseFieldDescriptor (TJx9f9b0 k).2.2.1 = some (tyJx9f9b0 k) := by decide +kernel
def RJx8e188 : String := "java/lang/Cloneable"
def TJx8e188 : u_T := fun k => match k with
  | _ => ("", "", "", false)
def tyJx8e188 : Nat → FieldType := fun k => match k with
  | _ => .int
abbrev wsJx8e1880 : List Cond := u_ws RJx8e188 TJx8e188 0
theorem nmJx8e188 : ∀ a, a < 0 → ∀ b, b < 0 → a ≠ b → (TJx8e188 a).2.1 ≠ (TJx8e188 b).2.1 := by decide +kernel
theorem tyJx8e188_ok : ∀ k, k < 0 → parseFieldDescriptor (TJx8e188 k).2.2.1 = some (tyJx8e188 k) := by decide +kernel
def RJxb160c : String := "java/lang/Comparable"
def TJxb160c : u_T := fun k => match k with
  | _ => ("", "", "", false)
def tyJxb160c : Nat → FieldType := fun k => match k with
  | _ => .int
abbrev wsJxb160c0 : List Cond := u_ws RJxb160c TJxb160c 0
theorem nmJxb160c : ∀ a, a < 0 → ∀ b, b < 0 → a ≠ b → (TJxb160c a).2.1 ≠ (TJxb160c b).2.1 := by decide +kernel
theorem tyJxb160c_ok : ∀ k, k < 0 → parseFieldDescriptor (TJxb160c k).2.2.1 = some (tyJxb160c k) := by decide +kernel
def RJ6 : String := "java/lang/Integer"
def TJ6 : u_T := fun k => match k with
  | _ => ("", "", "", false)
def tyJ6 : Nat → FieldType := fun k => match k with
  | _ => .int
abbrev wsJ60 : List Cond := u_ws RJ6 TJ6 0
theorem nmJ6 : ∀ a, a < 0 → ∀ b, b < 0 → a ≠ b → (TJ6 a).2.1 ≠ (TJ6 b).2.1 := by decide +kernel
theorem tyJ6_ok : ∀ k, k < 0 → parseFieldDescriptor (TJ6 k).2.2.1 = some (tyJ6 k) := by decide +kernel
abbrev cJ6_compare_7cf53 : ByteArray := prog_16_method_40_code
def yJ6_compare_7cf53 : MethodName := ⟨RJ6, "compare", "(II)I"⟩
abbrev cJ6_bitCount_0f7a4 : ByteArray := prog_16_method_49_code
def yJ6_bitCount_0f7a4 : MethodName := ⟨RJ6, "bitCount", "(I)I"⟩
def RJ13 : String := "java/lang/Long"
def TJ13 : u_T := fun k => match k with
  | _ => ("", "", "", false)
def tyJ13 : Nat → FieldType := fun k => match k with
  | _ => .int
abbrev wsJ130 : List Cond := u_ws RJ13 TJ13 0
theorem nmJ13 : ∀ a, a < 0 → ∀ b, b < 0 → a ≠ b → (TJ13 a).2.1 ≠ (TJ13 b).2.1 := by decide +kernel
theorem tyJ13_ok : ∀ k, k < 0 → parseFieldDescriptor (TJ13 k).2.2.1 = some (tyJ13 k) := by decide +kernel
abbrev cJ13_compare_74951 : ByteArray := prog_17_method_42_code
def yJ13_compare_74951 : MethodName := ⟨RJ13, "compare", "(JJ)I"⟩
def RJ9 : String := "java/lang/Math"
def TJ9 : u_T := fun k => match k with
  | _ => ("", "", "", false)
def tyJ9 : Nat → FieldType := fun k => match k with
  | _ => .int
abbrev wsJ90 : List Cond := u_ws RJ9 TJ9 0
theorem nmJ9 : ∀ a, a < 0 → ∀ b, b < 0 → a ≠ b → (TJ9 a).2.1 ≠ (TJ9 b).2.1 := by decide +kernel
theorem tyJ9_ok : ∀ k, k < 0 → parseFieldDescriptor (TJ9 k).2.2.1 = some (tyJ9 k) := by decide +kernel
abbrev cJ9_max_7cf53 : ByteArray := prog_18_method_65_code
def yJ9_max_7cf53 : MethodName := ⟨RJ9, "max", "(II)I"⟩
abbrev cJ9_min_7cf53 : ByteArray := prog_18_method_69_code
def yJ9_min_7cf53 : MethodName := ⟨RJ9, "min", "(II)I"⟩
def RJ0 : String := "java/lang/String"
def TJ0 : u_T := fun k => match k with
  | _ => ("", "", "", false)
def tyJ0 : Nat → FieldType := fun k => match k with
  | _ => .int
abbrev wsJ00 : List Cond := u_ws RJ0 TJ0 0
theorem nmJ0 : ∀ a, a < 0 → ∀ b, b < 0 → a ≠ b → (TJ0 a).2.1 ≠ (TJ0 b).2.1 := by decide +kernel
theorem tyJ0_ok : ∀ k, k < 0 → parseFieldDescriptor (TJ0 k).2.2.1 = some (tyJ0 k) := by decide +kernel
abbrev cJ0_length_8abf5 : ByteArray := prog_19_method_54_code
def yJ0_length_8abf5 : MethodName := ⟨RJ0, "length", "()I"⟩
abbrev cJ0_charAt_5068e : ByteArray := prog_19_method_56_code
def yJ0_charAt_5068e : MethodName := ⟨RJ0, "charAt", "(I)C"⟩
abbrev cJ0_coder_7d493 : ByteArray := prog_19_method_152_code
def yJ0_coder_7d493 : MethodName := ⟨RJ0, "coder", "()B"⟩
abbrev cJ0_isLatin1_aae02 : ByteArray := prog_19_method_154_code
def yJ0_isLatin1_aae02 : MethodName := ⟨RJ0, "isLatin1", "()Z"⟩
abbrev cJ0_checkIndex_df160 : ByteArray := prog_19_method_155_code
def yJ0_checkIndex_df160 : MethodName := ⟨RJ0, "checkIndex", "(II)V"⟩
def RJ1 : String := "java/lang/StringLatin1"
def TJ1 : u_T := fun k => match k with
  | _ => ("", "", "", false)
def tyJ1 : Nat → FieldType := fun k => match k with
  | _ => .int
abbrev wsJ10 : List Cond := u_ws RJ1 TJ1 0
theorem nmJ1 : ∀ a, a < 0 → ∀ b, b < 0 → a ≠ b → (TJ1 a).2.1 ≠ (TJ1 b).2.1 := by decide +kernel
theorem tyJ1_ok : ∀ k, k < 0 → parseFieldDescriptor (TJ1 k).2.2.1 = some (tyJ1 k) := by decide +kernel
abbrev cJ1_charAt_3b067 : ByteArray := prog_20_method_2_code
def yJ1_charAt_3b067 : MethodName := ⟨RJ1, "charAt", "([BI)C"⟩
def RJ2 : String := "java/lang/StringUTF16"
def TJ2 : u_T := fun k => match k with
  | _ => ("", "", "", false)
def tyJ2 : Nat → FieldType := fun k => match k with
  | _ => .int
abbrev wsJ20 : List Cond := u_ws RJ2 TJ2 0
theorem nmJ2 : ∀ a, a < 0 → ∀ b, b < 0 → a ≠ b → (TJ2 a).2.1 ≠ (TJ2 b).2.1 := by decide +kernel
theorem tyJ2_ok : ∀ k, k < 0 → parseFieldDescriptor (TJ2 k).2.2.1 = some (tyJ2 k) := by decide +kernel
abbrev cJ2_getChar_3b067 : ByteArray := prog_21_method_5_code
def yJ2_getChar_3b067 : MethodName := ⟨RJ2, "getChar", "([BI)C"⟩
abbrev cJ2_length_9d52b : ByteArray := prog_21_method_6_code
def yJ2_length_9d52b : MethodName := ⟨RJ2, "length", "([B)I"⟩
abbrev cJ2_charAt_3b067 : ByteArray := prog_21_method_83_code
def yJ2_charAt_3b067 : MethodName := ⟨RJ2, "charAt", "([BI)C"⟩
abbrev cJ2_checkIndex_2214a : ByteArray := prog_21_method_91_code
def yJ2_checkIndex_2214a : MethodName := ⟨RJ2, "checkIndex", "(I[B)V"⟩
def RJ10 : String := "java/lang/System"
def TJ10 : u_T := fun k => match k with
  | _ => ("", "", "", false)
def tyJ10 : Nat → FieldType := fun k => match k with
  | _ => .int
abbrev wsJ100 : List Cond := u_ws RJ10 TJ10 0
theorem nmJ10 : ∀ a, a < 0 → ∀ b, b < 0 → a ≠ b → (TJ10 a).2.1 ≠ (TJ10 b).2.1 := by decide +kernel
theorem tyJ10_ok : ∀ k, k < 0 → parseFieldDescriptor (TJ10 k).2.2.1 = some (tyJ10 k) := by decide +kernel
def RJxfd54e : String := "java/lang/constant/Constable"
def TJxfd54e : u_T := fun k => match k with
  | _ => ("", "", "", false)
def tyJxfd54e : Nat → FieldType := fun k => match k with
  | _ => .int
abbrev wsJxfd54e0 : List Cond := u_ws RJxfd54e TJxfd54e 0
theorem nmJxfd54e : ∀ a, a < 0 → ∀ b, b < 0 → a ≠ b → (TJxfd54e a).2.1 ≠ (TJxfd54e b).2.1 := by decide +kernel
theorem tyJxfd54e_ok : ∀ k, k < 0 → parseFieldDescriptor (TJxfd54e k).2.2.1 = some (tyJxfd54e k) := by decide +kernel
def RJx3cf43 : String := "java/lang/constant/ConstantDesc"
def TJx3cf43 : u_T := fun k => match k with
  | _ => ("", "", "", false)
def tyJx3cf43 : Nat → FieldType := fun k => match k with
  | _ => .int
abbrev wsJx3cf430 : List Cond := u_ws RJx3cf43 TJx3cf43 0
theorem nmJx3cf43 : ∀ a, a < 0 → ∀ b, b < 0 → a ≠ b → (TJx3cf43 a).2.1 ≠ (TJx3cf43 b).2.1 := by decide +kernel
theorem tyJx3cf43_ok : ∀ k, k < 0 → parseFieldDescriptor (TJx3cf43 k).2.2.1 = some (tyJx3cf43 k) := by decide +kernel
def RJ7 : String := "java/util/Arrays"
def TJ7 : u_T := fun k => match k with
  | _ => ("", "", "", false)
def tyJ7 : Nat → FieldType := fun k => match k with
  | _ => .int
abbrev wsJ70 : List Cond := u_ws RJ7 TJ7 0
theorem nmJ7 : ∀ a, a < 0 → ∀ b, b < 0 → a ≠ b → (TJ7 a).2.1 ≠ (TJ7 b).2.1 := by decide +kernel
theorem tyJ7_ok : ∀ k, k < 0 → parseFieldDescriptor (TJ7 k).2.2.1 = some (tyJ7 k) := by decide +kernel
abbrev cJ7_fill_53178 : ByteArray := prog_23_method_103_code
def yJ7_fill_53178 : MethodName := ⟨RJ7, "fill", "([II)V"⟩
abbrev cJ7_copyOf_59c91 : ByteArray := prog_23_method_123_code
def yJ7_copyOf_59c91 : MethodName := ⟨RJ7, "copyOf", "([II)[I"⟩
def RJ3 : String := "jdk/internal/util/Preconditions"
def TJ3 : u_T := fun k => match k with
  | _ => ("", "", "", false)
def tyJ3 : Nat → FieldType := fun k => match k with
  | _ => .int
abbrev wsJ30 : List Cond := u_ws RJ3 TJ3 0
theorem nmJ3 : ∀ a, a < 0 → ∀ b, b < 0 → a ≠ b → (TJ3 a).2.1 ≠ (TJ3 b).2.1 := by decide +kernel
theorem tyJ3_ok : ∀ k, k < 0 → parseFieldDescriptor (TJ3 k).2.2.1 = some (tyJ3 k) := by decide +kernel
abbrev cJ3_checkIndex_8e157 : ByteArray := prog_24_method_11_code
def yJ3_checkIndex_8e157 : MethodName := ⟨RJ3, "checkIndex", "(IILjava/util/function/BiFunction;)I"⟩
def RL : String := "LadderLandLaw"
abbrev cL_law : ByteArray := code
def yL_law : MethodName := ⟨RL, "law", "([I)Z"⟩
def wsJ6_compare_7cf53 : List Cond := .code yJ6_compare_7cf53 cJ6_compare_7cf53 2 (some .int) :: ([])
def wsJ13_compare_74951 : List Cond := .code yJ13_compare_74951 cJ13_compare_74951 4 (some .int) :: ([])
def wsJ7_fill_53178 : List Cond := .code yJ7_fill_53178 cJ7_fill_53178 4 none :: ([])
def wsJ0_coder_7d493 : List Cond := .code yJ0_coder_7d493 cJ0_coder_7d493 1 (some .byte) :: ([.fieldLink RJ0 38 "java/lang/String" "COMPACT_STRINGS" "Z", .fieldLink RJ0 15 "java/lang/String" "coder" "B"])
def wsJ0_length_8abf5 : List Cond := .code yJ0_length_8abf5 cJ0_length_8abf5 1 (some .int) :: ([.fieldLink RJ0 9 "java/lang/String" "value" "[B", .methodLink RJ0 335 yJ0_coder_7d493, .instanceMethod yJ0_coder_7d493, .selects RJ0 yJ0_coder_7d493 yJ0_coder_7d493, .initialized RJ0, .code yJ0_coder_7d493 cJ0_coder_7d493 1 (some .byte), .fieldLink RJ0 38 "java/lang/String" "COMPACT_STRINGS" "Z", .fieldLink RJ0 15 "java/lang/String" "coder" "B"])
def wsJ0_isLatin1_aae02 : List Cond := .code yJ0_isLatin1_aae02 cJ0_isLatin1_aae02 1 (some .boolean) :: ([.fieldLink RJ0 38 "java/lang/String" "COMPACT_STRINGS" "Z", .fieldLink RJ0 15 "java/lang/String" "coder" "B"])
def wsJ3_checkIndex_8e157 : List Cond := .code yJ3_checkIndex_8e157 cJ3_checkIndex_8e157 3 (some .int) :: ([])
def wsJ0_checkIndex_df160 : List Cond := .code yJ0_checkIndex_df160 cJ0_checkIndex_df160 2 none :: ([.fieldLink RJ0 1053 "jdk/internal/util/Preconditions" "SIOOBE_FORMATTER" "Ljava/util/function/BiFunction;", .methodLink RJ0 1059 yJ3_checkIndex_8e157, .static yJ3_checkIndex_8e157, .initialized RJ3, .code yJ3_checkIndex_8e157 cJ3_checkIndex_8e157 3 (some .int)])
def wsJ1_charAt_3b067 : List Cond := .code yJ1_charAt_3b067 cJ1_charAt_3b067 2 (some .char) :: ([.methodLink RJ1 9 yJ0_checkIndex_df160, .static yJ0_checkIndex_df160, .initialized RJ0, .code yJ0_checkIndex_df160 cJ0_checkIndex_df160 2 none, .fieldLink RJ0 1053 "jdk/internal/util/Preconditions" "SIOOBE_FORMATTER" "Ljava/util/function/BiFunction;", .methodLink RJ0 1059 yJ3_checkIndex_8e157, .static yJ3_checkIndex_8e157, .initialized RJ3, .code yJ3_checkIndex_8e157 cJ3_checkIndex_8e157 3 (some .int)])
def wsJ2_length_9d52b : List Cond := .code yJ2_length_9d52b cJ2_length_9d52b 1 (some .int) :: ([])
def wsJ2_checkIndex_2214a : List Cond := .code yJ2_checkIndex_2214a cJ2_checkIndex_2214a 2 none :: ([.methodLink RJ2 48 yJ2_length_9d52b, .static yJ2_length_9d52b, .initialized RJ2, .code yJ2_length_9d52b cJ2_length_9d52b 1 (some .int), .methodLink RJ2 414 yJ0_checkIndex_df160, .static yJ0_checkIndex_df160, .initialized RJ0, .code yJ0_checkIndex_df160 cJ0_checkIndex_df160 2 none, .fieldLink RJ0 1053 "jdk/internal/util/Preconditions" "SIOOBE_FORMATTER" "Ljava/util/function/BiFunction;", .methodLink RJ0 1059 yJ3_checkIndex_8e157, .static yJ3_checkIndex_8e157, .initialized RJ3, .code yJ3_checkIndex_8e157 cJ3_checkIndex_8e157 3 (some .int)])
def wsJ2_getChar_3b067 : List Cond := .code yJ2_getChar_3b067 cJ2_getChar_3b067 2 (some .char) :: ([.fieldLink RJ2 44 "java/lang/StringUTF16" "$assertionsDisabled" "Z", .fieldLink RJ2 59 "java/lang/StringUTF16" "HI_BYTE_SHIFT" "I", .fieldLink RJ2 63 "java/lang/StringUTF16" "LO_BYTE_SHIFT" "I", .methodLink RJ2 48 yJ2_length_9d52b, .static yJ2_length_9d52b, .initialized RJ2, .code yJ2_length_9d52b cJ2_length_9d52b 1 (some .int)])
def wsJ2_charAt_3b067 : List Cond := .code yJ2_charAt_3b067 cJ2_charAt_3b067 2 (some .char) :: ([.methodLink RJ2 67 yJ2_checkIndex_2214a, .static yJ2_checkIndex_2214a, .initialized RJ2, .code yJ2_checkIndex_2214a cJ2_checkIndex_2214a 2 none, .methodLink RJ2 48 yJ2_length_9d52b, .static yJ2_length_9d52b, .code yJ2_length_9d52b cJ2_length_9d52b 1 (some .int), .methodLink RJ2 414 yJ0_checkIndex_df160, .static yJ0_checkIndex_df160, .initialized RJ0, .code yJ0_checkIndex_df160 cJ0_checkIndex_df160 2 none, .fieldLink RJ0 1053 "jdk/internal/util/Preconditions" "SIOOBE_FORMATTER" "Ljava/util/function/BiFunction;", .methodLink RJ0 1059 yJ3_checkIndex_8e157, .static yJ3_checkIndex_8e157, .initialized RJ3, .code yJ3_checkIndex_8e157 cJ3_checkIndex_8e157 3 (some .int), .methodLink RJ2 71 yJ2_getChar_3b067, .static yJ2_getChar_3b067, .code yJ2_getChar_3b067 cJ2_getChar_3b067 2 (some .char), .fieldLink RJ2 44 "java/lang/StringUTF16" "$assertionsDisabled" "Z", .fieldLink RJ2 59 "java/lang/StringUTF16" "HI_BYTE_SHIFT" "I", .fieldLink RJ2 63 "java/lang/StringUTF16" "LO_BYTE_SHIFT" "I"])
def wsJ0_charAt_5068e_r1 : List Cond := [Cond.fieldLink RJ0 9 "java/lang/String" "value" "[B", Cond.methodLink RJ0 492 yJ0_isLatin1_aae02, Cond.instanceMethod yJ0_isLatin1_aae02, Cond.selects RJ0 yJ0_isLatin1_aae02 yJ0_isLatin1_aae02, Cond.initialized RJ0, Cond.code yJ0_isLatin1_aae02 cJ0_isLatin1_aae02 1 (some .boolean), Cond.fieldLink RJ0 38 "java/lang/String" "COMPACT_STRINGS" "Z", Cond.fieldLink RJ0 15 "java/lang/String" "coder" "B", Cond.methodLink RJ0 495 yJ1_charAt_3b067, Cond.static yJ1_charAt_3b067, Cond.initialized RJ1, Cond.code yJ1_charAt_3b067 cJ1_charAt_3b067 2 (some .char), Cond.methodLink RJ1 9 yJ0_checkIndex_df160, Cond.static yJ0_checkIndex_df160, Cond.code yJ0_checkIndex_df160 cJ0_checkIndex_df160 2 none, Cond.fieldLink RJ0 1053 "jdk/internal/util/Preconditions" "SIOOBE_FORMATTER" "Ljava/util/function/BiFunction;", Cond.methodLink RJ0 1059 yJ3_checkIndex_8e157, Cond.static yJ3_checkIndex_8e157, Cond.initialized RJ3, Cond.code yJ3_checkIndex_8e157 cJ3_checkIndex_8e157 3 (some .int), Cond.methodLink RJ0 498 yJ2_charAt_3b067, Cond.static yJ2_charAt_3b067, Cond.initialized RJ2, Cond.code yJ2_charAt_3b067 cJ2_charAt_3b067 2 (some .char)]
def wsJ0_charAt_5068e_r2 : List Cond := [Cond.methodLink RJ2 67 yJ2_checkIndex_2214a, Cond.static yJ2_checkIndex_2214a, Cond.code yJ2_checkIndex_2214a cJ2_checkIndex_2214a 2 none, Cond.methodLink RJ2 48 yJ2_length_9d52b, Cond.static yJ2_length_9d52b, Cond.code yJ2_length_9d52b cJ2_length_9d52b 1 (some .int), Cond.methodLink RJ2 414 yJ0_checkIndex_df160, Cond.methodLink RJ2 71 yJ2_getChar_3b067, Cond.static yJ2_getChar_3b067, Cond.code yJ2_getChar_3b067 cJ2_getChar_3b067 2 (some .char), Cond.fieldLink RJ2 44 "java/lang/StringUTF16" "$assertionsDisabled" "Z", Cond.fieldLink RJ2 59 "java/lang/StringUTF16" "HI_BYTE_SHIFT" "I", Cond.fieldLink RJ2 63 "java/lang/StringUTF16" "LO_BYTE_SHIFT" "I"]
def wsJ0_charAt_5068e : List Cond := .code yJ0_charAt_5068e cJ0_charAt_5068e 2 (some .char) :: ((wsJ0_charAt_5068e_r1 ++ wsJ0_charAt_5068e_r2))
def wsJ6_bitCount_0f7a4 : List Cond := .code yJ6_bitCount_0f7a4 cJ6_bitCount_0f7a4 1 (some .int) :: ([.constant RJ6 265 (1431655765), .constant RJ6 266 (858993459), .constant RJ6 267 (252645135)])
def wsJ7_copyOf_59c91 : List Cond := .code yJ7_copyOf_59c91 cJ7_copyOf_59c91 3 (some (.array .int)) :: ([.methodLink RJ7 316 ⟨"[I", "clone", "()Ljava/lang/Object;"⟩, .sameMethod "[I" "java/lang/Object" "clone" "()Ljava/lang/Object;", .native ⟨"java/lang/Object", "clone", "()Ljava/lang/Object;"⟩, .instanceMethod ⟨"java/lang/Object", "clone", "()Ljava/lang/Object;"⟩, .selects "[I" ⟨"[I", "clone", "()Ljava/lang/Object;"⟩ ⟨"java/lang/Object", "clone", "()Ljava/lang/Object;"⟩, .classLink RJ7 317 "[I", .arrayClass .int, .methodLink RJ7 304 Lib.Math.min.name, .static Lib.Math.min.name, .initialized "java/lang/Math", .code Lib.Math.min.name Lib.Math.min.code 2 (some .int), .methodLink RJ7 150 arraycopyName, .native arraycopyName, .static arraycopyName, .initialized "java/lang/System"])
def wsJ9_max_7cf53 : List Cond := .code yJ9_max_7cf53 cJ9_max_7cf53 2 (some .int) :: ([])
def wsJ9_min_7cf53 : List Cond := .code yJ9_min_7cf53 cJ9_min_7cf53 2 (some .int) :: ([])
def wsL_law_r1 : List Cond := [Cond.classLink RL 7 RX11, Cond.instantiable RX11 14, Cond.initialized RX11, Cond.classLink RL 10 RX12, Cond.instantiable RX12 43, Cond.initialized RX12, Cond.methodLink RL 9 yX11_init, Cond.instanceMethod yX11_init, Cond.code yX11_init cX11_init 3 none, Cond.methodLink RX11 1 objectInit, Cond.instanceMethod objectInit, Cond.code objectInit ⟨#[0xb1]⟩ 1 none, Cond.classLink RX11 7 RX1, Cond.instantiable RX1 9, Cond.initialized RX1, Cond.classLink RX11 10 RX9, Cond.instantiable RX9 7, Cond.initialized RX9, Cond.fieldLink RX11 13 "LadderLand" "tape" "LLadderLand$Tape;", Cond.classLink RX11 19 RX2, Cond.instantiable RX2 1, Cond.initialized RX2, Cond.fieldLink RX11 24 "LadderLand" "ladderReader" "LLadderLand$LadderReader;", Cond.classLink RX11 28 RX6]
def wsL_law_r2 : List Cond := [Cond.instantiable RX6 7, Cond.initialized RX6, Cond.fieldLink RX11 31 "LadderLand" "ruleReader" "LLadderLand$RuleReader;", Cond.classLink RX11 35 RX5, Cond.fieldLink RX11 37 "LadderLand" "rules" "[LLadderLand$Rule;", Cond.classLink RX11 41 RX8, Cond.instantiable RX8 8, Cond.initialized RX8, Cond.fieldLink RX11 46 "LadderLand" "now" "LLadderLand$State;", Cond.fieldLink RX11 50 "LadderLand" "images" "[LLadderLand$State;", Cond.classLink RX11 54 RX10, Cond.fieldLink RX11 56 "LadderLand" "past" "[LLadderLand$World;", Cond.instantiable RX10 8, Cond.initialized RX10, Cond.classLink RX11 61 RX0, Cond.instantiable RX0 4, Cond.initialized RX0, Cond.fieldLink RX11 64 "LadderLand" "hours" "LLadderLand$Hours;", Cond.classLink RX11 68 RX3, Cond.instantiable RX3 14, Cond.initialized RX3, Cond.fieldLink RX11 73 "LadderLand" "outlook" "LLadderLand$Outlook;", Cond.classLink RX11 77 RX4, Cond.instantiable RX4 12]
def wsL_law_r3 : List Cond := [Cond.initialized RX4, Cond.fieldLink RX11 79 "LadderLand$State" "world" "LLadderLand$World;", Cond.fieldLink RX11 86 "LadderLand" "paths" "LLadderLand$Paths;", Cond.classLink RX11 90 RX7, Cond.instantiable RX7 2, Cond.initialized RX7, Cond.fieldLink RX11 93 "LadderLand" "siege" "LLadderLand$Siege;", Cond.methodLink RX11 9 yX1_init, Cond.instanceMethod yX1_init, Cond.code yX1_init cX1_init 1 none, Cond.methodLink RX1 3 objectInit, Cond.arrayClass .int, Cond.fieldLink RX1 9 "LadderLand$Ladder" "room" "[I", Cond.fieldLink RX1 15 "LadderLand$Ladder" "strength" "[I", Cond.fieldLink RX1 18 "LadderLand$Ladder" "weight" "[I", Cond.fieldLink RX1 21 "LadderLand$Ladder" "told" "[I", Cond.fieldLink RX1 24 "LadderLand$Ladder" "startRung" "[I", Cond.fieldLink RX1 27 "LadderLand$Ladder" "startWant" "[I", Cond.methodLink RX1 30 yJ7_fill_53178, Cond.static yJ7_fill_53178, Cond.initialized RJ7, Cond.code yJ7_fill_53178 cJ7_fill_53178 4 none, Cond.instanceMethod yX9_init, Cond.code yX9_init cX9_init 1 none]
def wsL_law_r4 : List Cond := [Cond.methodLink RX9 3 objectInit, Cond.fieldLink RX9 9 "LadderLand$Tape" "bytes" "[I", Cond.methodLink RX11 21 yX2_init, Cond.instanceMethod yX2_init, Cond.code yX2_init cX2_init 2 none, Cond.methodLink RX2 3 objectInit, Cond.fieldLink RX2 9 "LadderLand$LadderReader" "tape" "LLadderLand$Tape;", Cond.methodLink RX11 30 yX6_init, Cond.instanceMethod yX6_init, Cond.code yX6_init cX6_init 2 none, Cond.methodLink RX6 3 objectInit, Cond.fieldLink RX6 9 "LadderLand$RuleReader" "code" "[I", Cond.fieldLink RX6 15 "LadderLand$RuleReader" "sumEnd" "[I", Cond.fieldLink RX6 18 "LadderLand$RuleReader" "testEnd" "[I", Cond.fieldLink RX6 21 "LadderLand$RuleReader" "tape" "LLadderLand$Tape;", Cond.methodLink RX11 43 yX8_init, Cond.instanceMethod yX8_init, Cond.code yX8_init cX8_init 2 none, Cond.methodLink RX8 3 objectInit, Cond.fieldLink RX8 9 "LadderLand$State" "force" "I", Cond.fieldLink RX8 15 "LadderLand$State" "noteHour" "[I", Cond.fieldLink RX8 19 "LadderLand$State" "noteRung" "[I", Cond.fieldLink RX8 22 "LadderLand$State" "noteMany" "[I", Cond.classLink RX8 25 RX10]
def wsL_law_r5 : List Cond := [Cond.fieldLink RX8 30 "LadderLand$State" "world" "LLadderLand$World;", Cond.methodLink RX8 27 yX10_init, Cond.instanceMethod yX10_init, Cond.code yX10_init cX10_init 2 none, Cond.methodLink RX10 3 objectInit, Cond.fieldLink RX10 9 "LadderLand$World" "rung" "[I", Cond.fieldLink RX10 15 "LadderLand$World" "grip" "[I", Cond.fieldLink RX10 18 "LadderLand$World" "want" "[I", Cond.fieldLink RX10 21 "LadderLand$World" "slips" "[I", Cond.fieldLink RX10 24 "LadderLand$World" "worn" "[I", Cond.fieldLink RX10 27 "LadderLand$World" "ladder" "LLadderLand$Ladder;", Cond.methodLink RX11 60 yX10_init, Cond.instanceMethod yX0_init, Cond.code yX0_init cX0_init 1 none, Cond.methodLink RX0 3 objectInit, Cond.fieldLink RX0 9 "LadderLand$Hours" "brokenRung" "I", Cond.fieldLink RX0 15 "LadderLand$Hours" "will" "[I", Cond.fieldLink RX0 19 "LadderLand$Hours" "deed" "[I", Cond.arrayClass .long, Cond.fieldLink RX0 24 "LadderLand$Hours" "words" "[J", Cond.methodLink RX11 70 yX3_init, Cond.instanceMethod yX3_init, Cond.code yX3_init cX3_init 3 none, Cond.methodLink RX3 3 objectInit]
def wsL_law_r6 : List Cond := [Cond.fieldLink RX3 11 "LadderLand$Outlook" "crowds" "[I", Cond.fieldLink RX3 15 "LadderLand$Outlook" "hours" "LLadderLand$Hours;", Cond.fieldLink RX3 19 "LadderLand$Outlook" "trial" "LLadderLand$World;", Cond.methodLink RX11 83 yX4_init, Cond.instanceMethod yX4_init, Cond.code yX4_init cX4_init 2 none, Cond.methodLink RX4 3 objectInit, Cond.fieldLink RX4 9 "LadderLand$Paths" "from" "[I", Cond.fieldLink RX4 15 "LadderLand$Paths" "queue" "[I", Cond.fieldLink RX4 18 "LadderLand$Paths" "digit" "[I", Cond.fieldLink RX4 21 "LadderLand$Paths" "rung" "[I", Cond.fieldLink RX4 24 "LadderLand$Paths" "crowd" "[I", Cond.fieldLink RX4 27 "LadderLand$Paths" "above" "[I", Cond.fieldLink RX4 30 "LadderLand$Paths" "below" "[I", Cond.fieldLink RX4 33 "LadderLand$Paths" "world" "LLadderLand$World;", Cond.methodLink RX11 92 yX7_init, Cond.instanceMethod yX7_init, Cond.code yX7_init cX7_init 2 none, Cond.methodLink RX7 3 objectInit, Cond.fieldLink RX7 9 "LadderLand$Siege" "trial" "LLadderLand$World;", Cond.methodLink RL 12 yX12_init, Cond.instanceMethod yX12_init, Cond.code yX12_init cX12_init 1 none, Cond.methodLink RX12 1 objectInit]
def wsL_law_r7 : List Cond := [Cond.arrayClass .byte, Cond.fieldLink RX12 7 "LadderLandModel" "tape" "[B", Cond.fieldLink RX12 13 "LadderLandModel" "sign" "[I", Cond.fieldLink RX12 17 "LadderLandModel" "length" "[I", Cond.fieldLink RX12 20 "LadderLandModel" "clause" "[I", Cond.fieldLink RX12 23 "LadderLandModel" "clauses" "[I", Cond.fieldLink RX12 26 "LadderLandModel" "read" "[I", Cond.fieldLink RX12 29 "LadderLandModel" "open" "[I", Cond.fieldLink RX12 32 "LadderLandModel" "stack" "[J", Cond.fieldLink RX12 36 "LadderLandModel" "word" "[J", Cond.fieldLink RX12 39 "LadderLandModel" "said" "[I", Cond.fieldLink RX12 42 "LadderLandModel" "force" "I", Cond.fieldLink RX12 46 "LadderLandModel" "will" "[I", Cond.fieldLink RX12 49 "LadderLandModel" "moved" "[I", Cond.fieldLink RX12 52 "LadderLandModel" "wasSaid" "[I", Cond.fieldLink RX12 55 "LadderLandModel" "kept" "[I", Cond.fieldLink RX12 58 "LadderLandModel" "far" "[I", Cond.fieldLink RX12 61 "LadderLandModel" "queue" "[I", Cond.arrayClass .boolean, Cond.fieldLink RX12 64 "LadderLandModel" "isOnWay" "[Z", Cond.fieldLink RX12 68 "LadderLandModel" "isFit" "[Z", Cond.fieldLink RX12 71 "LadderLandModel" "standThen" "[I", Cond.fieldLink RX12 74 "LadderLandModel" "images" "[I", Cond.fieldLink RX12 77 "LadderLandModel" "imageForce" "[I"]
def wsL_law_r8 : List Cond := [Cond.fieldLink RX12 80 "LadderLandModel" "imageX" "[I", Cond.fieldLink RX12 83 "LadderLandModel" "isMade" "[Z", Cond.methodLink RL 13 yX11_feed, Cond.instanceMethod yX11_feed, Cond.selects RX11 yX11_feed yX11_feed, Cond.code yX11_feed cX11_feed 6 (some .int), Cond.fieldLink RX11 97 "LadderLand$Tape" "length" "I", Cond.methodLink RX11 101 yX9_append, Cond.instanceMethod yX9_append, Cond.selects RX9 yX9_append yX9_append, Cond.code yX9_append cX9_append 3 none, Cond.fieldLink RX9 15 "LadderLand$Tape" "length" "I", Cond.methodLink RL 17 yX12_feed, Cond.instanceMethod yX12_feed, Cond.selects RX12 yX12_feed yX12_feed, Cond.code yX12_feed cX12_feed 6 (some .int), Cond.fieldLink RX12 86 "LadderLandModel" "taped" "I", Cond.methodLink RX12 89 yX12_four, Cond.instanceMethod yX12_four, Cond.selects RX12 yX12_four yX12_four, Cond.code yX12_four cX12_four 3 none, Cond.methodLink RL 18 yX11_end, Cond.instanceMethod yX11_end, Cond.selects RX11 yX11_end yX11_end]
def wsL_law_r9 : List Cond := [Cond.code yX11_end cX11_end 2 (some .int), Cond.methodLink RL 22 yX12_end, Cond.instanceMethod yX12_end, Cond.selects RX12 yX12_end yX12_end, Cond.code yX12_end cX12_end 2 (some .int), Cond.methodLink RL 23 yX11_ladder, Cond.instanceMethod yX11_ladder, Cond.selects RX11 yX11_ladder yX11_ladder, Cond.code yX11_ladder cX11_ladder 3 (some .int), Cond.fieldLink RX11 109 "LadderLand$Tape" "fault" "I", Cond.fieldLink RX11 115 "LadderLand$State" "notes" "I", Cond.fieldLink RX11 118 "LadderLand" "pastCount" "I", Cond.fieldLink RX11 121 "LadderLand$Ladder" "people" "I", Cond.methodLink RX11 105 yX2_readInto, Cond.instanceMethod yX2_readInto, Cond.selects RX2 yX2_readInto yX2_readInto, Cond.code yX2_readInto cX2_readInto 3 (some .boolean), Cond.fieldLink RX2 24 "LadderLand$Tape" "kind" "I", Cond.methodLink RX2 15 yX9_open, Cond.instanceMethod yX9_open, Cond.selects RX9 yX9_open yX9_open, Cond.code yX9_open cX9_open 1 none, Cond.fieldLink RX9 19 "LadderLand$Tape" "fault" "I", Cond.fieldLink RX9 22 "LadderLand$Tape" "stop" "I"]
def wsL_law_r10 : List Cond := [Cond.methodLink RX9 25 yX9_advance, Cond.instanceMethod yX9_advance, Cond.selects RX9 yX9_advance yX9_advance, Cond.code yX9_advance cX9_advance 4 none, Cond.fieldLink RX9 28 "LadderLand$Tape" "start" "I", Cond.fieldLink RX9 31 "LadderLand$Tape" "kind" "I", Cond.fieldLink RX9 34 "LadderLand$Tape" "sign" "I", Cond.methodLink RX2 20 yX2_readClause, Cond.instanceMethod yX2_readClause, Cond.selects RX2 yX2_readClause yX2_readClause, Cond.code yX2_readClause cX2_readClause 4 (some .boolean), Cond.fieldLink RX2 45 "LadderLand$Ladder" "people" "I", Cond.methodLink RX2 41 yX9_wordIn, Cond.instanceMethod yX9_wordIn, Cond.selects RX9 yX9_wordIn yX9_wordIn, Cond.code yX9_wordIn cX9_wordIn 7 (some .int), Cond.methodLink RX9 37 yJ0_length_8abf5, Cond.instanceMethod yJ0_length_8abf5, Cond.selects RJ0 yJ0_length_8abf5 yJ0_length_8abf5, Cond.initialized RJ0, Cond.code yJ0_length_8abf5 cJ0_length_8abf5 1 (some .int), Cond.fieldLink RJ0 9 "java/lang/String" "value" "[B", Cond.methodLink RJ0 335 yJ0_coder_7d493, Cond.instanceMethod yJ0_coder_7d493]
def wsL_law_r11 : List Cond := [Cond.selects RJ0 yJ0_coder_7d493 yJ0_coder_7d493, Cond.code yJ0_coder_7d493 cJ0_coder_7d493 1 (some .byte), Cond.fieldLink RJ0 38 "java/lang/String" "COMPACT_STRINGS" "Z", Cond.fieldLink RJ0 15 "java/lang/String" "coder" "B", Cond.methodLink RX9 42 yJ0_charAt_5068e, Cond.instanceMethod yJ0_charAt_5068e, Cond.selects RJ0 yJ0_charAt_5068e yJ0_charAt_5068e, Cond.code yJ0_charAt_5068e cJ0_charAt_5068e 2 (some .char), Cond.methodLink RJ0 492 yJ0_isLatin1_aae02, Cond.instanceMethod yJ0_isLatin1_aae02, Cond.selects RJ0 yJ0_isLatin1_aae02 yJ0_isLatin1_aae02, Cond.code yJ0_isLatin1_aae02 cJ0_isLatin1_aae02 1 (some .boolean), Cond.methodLink RJ0 495 yJ1_charAt_3b067, Cond.static yJ1_charAt_3b067, Cond.initialized RJ1, Cond.code yJ1_charAt_3b067 cJ1_charAt_3b067 2 (some .char), Cond.methodLink RJ1 9 yJ0_checkIndex_df160, Cond.static yJ0_checkIndex_df160, Cond.code yJ0_checkIndex_df160 cJ0_checkIndex_df160 2 none, Cond.fieldLink RJ0 1053 "jdk/internal/util/Preconditions" "SIOOBE_FORMATTER" "Ljava/util/function/BiFunction;", Cond.methodLink RJ0 1059 yJ3_checkIndex_8e157, Cond.static yJ3_checkIndex_8e157, Cond.initialized RJ3, Cond.code yJ3_checkIndex_8e157 cJ3_checkIndex_8e157 3 (some .int)]
def wsL_law_r12 : List Cond := [Cond.methodLink RJ0 498 yJ2_charAt_3b067, Cond.static yJ2_charAt_3b067, Cond.initialized RJ2, Cond.code yJ2_charAt_3b067 cJ2_charAt_3b067 2 (some .char), Cond.methodLink RJ2 67 yJ2_checkIndex_2214a, Cond.static yJ2_checkIndex_2214a, Cond.code yJ2_checkIndex_2214a cJ2_checkIndex_2214a 2 none, Cond.methodLink RJ2 48 yJ2_length_9d52b, Cond.static yJ2_length_9d52b, Cond.code yJ2_length_9d52b cJ2_length_9d52b 1 (some .int), Cond.methodLink RJ2 414 yJ0_checkIndex_df160, Cond.methodLink RJ2 71 yJ2_getChar_3b067, Cond.static yJ2_getChar_3b067, Cond.code yJ2_getChar_3b067 cJ2_getChar_3b067 2 (some .char), Cond.fieldLink RJ2 44 "java/lang/StringUTF16" "$assertionsDisabled" "Z", Cond.fieldLink RJ2 59 "java/lang/StringUTF16" "HI_BYTE_SHIFT" "I", Cond.fieldLink RJ2 63 "java/lang/StringUTF16" "LO_BYTE_SHIFT" "I", Cond.methodLink RX2 32 yX9_refuse, Cond.instanceMethod yX9_refuse, Cond.selects RX9 yX9_refuse yX9_refuse, Cond.code yX9_refuse cX9_refuse 2 (some .boolean), Cond.methodLink RX2 36 yX9_advance, Cond.methodLink RX2 50 yX2_readRungs, Cond.instanceMethod yX2_readRungs]
def wsL_law_r13 : List Cond := [Cond.selects RX2 yX2_readRungs yX2_readRungs, Cond.code yX2_readRungs cX2_readRungs 3 (some .boolean), Cond.fieldLink RX2 71 "LadderLand$Ladder" "rungs" "I", Cond.methodLink RX2 67 yX2_number, Cond.instanceMethod yX2_number, Cond.selects RX2 yX2_number yX2_number, Cond.code yX2_number cX2_number 4 (some .int), Cond.methodLink RX2 63 yX9_numberAtHand, Cond.instanceMethod yX9_numberAtHand, Cond.selects RX9 yX9_numberAtHand yX9_numberAtHand, Cond.code yX9_numberAtHand cX9_numberAtHand 3 (some .int), Cond.methodLink RX2 54 yX2_readRung, Cond.instanceMethod yX2_readRung, Cond.selects RX2 yX2_readRung yX2_readRung, Cond.code yX2_readRung cX2_readRung 5 (some .boolean), Cond.methodLink RX2 78 Lib.Math.max.name, Cond.static Lib.Math.max.name, Cond.initialized "java/lang/Math", Cond.code Lib.Math.max.name Lib.Math.max.code 2 (some .int), Cond.fieldLink RX2 83 "LadderLand$Ladder" "room" "[I", Cond.fieldLink RX2 87 "LadderLand$Ladder" "strength" "[I", Cond.methodLink RX2 74 yX1_crowdAtStart, Cond.instanceMethod yX1_crowdAtStart, Cond.selects RX1 yX1_crowdAtStart yX1_crowdAtStart]
def wsL_law_r14 : List Cond := [Cond.code yX1_crowdAtStart cX1_crowdAtStart 4 (some .int), Cond.fieldLink RX1 36 "LadderLand$Ladder" "people" "I", Cond.methodLink RX2 57 yX2_readBroken, Cond.instanceMethod yX2_readBroken, Cond.selects RX2 yX2_readBroken yX2_readBroken, Cond.code yX2_readBroken cX2_readBroken 3 (some .boolean), Cond.fieldLink RX2 90 "LadderLand$Ladder" "startBroken" "I", Cond.methodLink RX2 60 yX2_readPerson, Cond.instanceMethod yX2_readPerson, Cond.selects RX2 yX2_readPerson yX2_readPerson, Cond.code yX2_readPerson cX2_readPerson 7 (some .boolean), Cond.fieldLink RX2 96 "LadderLand$Ladder" "startRung" "[I", Cond.fieldLink RX2 99 "LadderLand$Ladder" "weight" "[I", Cond.fieldLink RX2 102 "LadderLand$Ladder" "told" "[I", Cond.fieldLink RX2 105 "LadderLand$Ladder" "startWant" "[I", Cond.methodLink RX2 93 yX1_takesPerson, Cond.instanceMethod yX1_takesPerson, Cond.selects RX1 yX1_takesPerson yX1_takesPerson, Cond.code yX1_takesPerson cX1_takesPerson 2 (some .boolean), Cond.fieldLink RX1 40 "LadderLand$Ladder" "startBroken" "I", Cond.methodLink RX1 43 yX1_crowdAtStart, Cond.methodLink RX2 28 yX9_isAt, Cond.instanceMethod yX9_isAt, Cond.selects RX9 yX9_isAt yX9_isAt]
def wsL_law_r15 : List Cond := [Cond.code yX9_isAt cX9_isAt 2 (some .boolean), Cond.methodLink RX11 112 yX10_begin, Cond.instanceMethod yX10_begin, Cond.selects RX10 yX10_begin yX10_begin, Cond.code yX10_begin cX10_begin 2 none, Cond.fieldLink RX10 31 "LadderLand$World" "hour" "I", Cond.fieldLink RX10 35 "LadderLand$Ladder" "startBroken" "I", Cond.fieldLink RX10 40 "LadderLand$World" "broken" "I", Cond.fieldLink RX10 43 "LadderLand$Ladder" "startRung" "[I", Cond.methodLink RX10 46 arraycopyName, Cond.native arraycopyName, Cond.static arraycopyName, Cond.initialized "java/lang/System", Cond.fieldLink RX10 52 "LadderLand$Ladder" "told" "[I", Cond.fieldLink RX10 55 "LadderLand$Ladder" "startWant" "[I", Cond.methodLink RX10 58 yJ7_fill_53178, Cond.methodLink RL 27 yX12_ladder, Cond.instanceMethod yX12_ladder, Cond.selects RX12 yX12_ladder yX12_ladder, Cond.code yX12_ladder cX12_ladder 2 (some .int), Cond.fieldLink RX12 154 "LadderLandModel" "text" "I", Cond.fieldLink RX12 93 "LadderLandModel" "wrong" "I", Cond.fieldLink RX12 272 "LadderLandModel" "undone" "I", Cond.methodLink RX12 269 yX12_readsAll]
def wsL_law_r16 : List Cond := [Cond.instanceMethod yX12_readsAll, Cond.selects RX12 yX12_readsAll yX12_readsAll, Cond.code yX12_readsAll cX12_readsAll 2 (some .boolean), Cond.fieldLink RX12 254 "LadderLandModel" "lines" "I", Cond.fieldLink RX12 96 "LadderLandModel" "next" "I", Cond.fieldLink RX12 157 "LadderLandModel" "made" "I", Cond.methodLink RX12 263 yX12_clauseHere, Cond.instanceMethod yX12_clauseHere, Cond.selects RX12 yX12_clauseHere yX12_clauseHere, Cond.code yX12_clauseHere cX12_clauseHere 3 (some .boolean), Cond.constantLong RX12 252 (427020610914), Cond.methodLink RX12 99 yX12_see, Cond.instanceMethod yX12_see, Cond.selects RX12 yX12_see yX12_see, Cond.code yX12_see cX12_see 1 (some .int), Cond.methodLink RX12 249 yX12_isLadderWord, Cond.instanceMethod yX12_isLadderWord, Cond.selects RX12 yX12_isLadderWord yX12_isLadderWord, Cond.code yX12_isLadderWord cX12_isLadderWord 1 (some .boolean), Cond.constantLong RX12 233 (119165551928690), Cond.constantLong RX12 130 (1920298599), Cond.constantLong RX12 241 (108243635103086), Cond.constantLong RX12 128 (123581014175598), Cond.methodLink RX12 107 yX12_isWord]
def wsL_law_r17 : List Cond := [Cond.instanceMethod yX12_isWord, Cond.selects RX12 yX12_isWord yX12_isWord, Cond.code yX12_isWord cX12_isWord 6 (some .boolean), Cond.methodLink RX12 103 yX12_isLetter, Cond.instanceMethod yX12_isLetter, Cond.selects RX12 yX12_isLetter yX12_isLetter, Cond.code yX12_isLetter cX12_isLetter 2 (some .boolean), Cond.methodLink RX12 117 yX12_fails, Cond.instanceMethod yX12_fails, Cond.selects RX12 yX12_fails yX12_fails, Cond.code yX12_fails cX12_fails 3 (some .boolean), Cond.methodLink RX12 257 yX12_ladderLineHere, Cond.instanceMethod yX12_ladderLineHere, Cond.selects RX12 yX12_ladderLineHere yX12_ladderLineHere, Cond.code yX12_ladderLineHere cX12_ladderLineHere 2 (some .boolean), Cond.methodLink RX12 235 yX12_isLadderHere, Cond.instanceMethod yX12_isLadderHere, Cond.selects RX12 yX12_isLadderHere yX12_isLadderHere, Cond.code yX12_isLadderHere cX12_isLadderHere 2 (some .boolean), Cond.methodLink RX12 111 yX12_passWord, Cond.instanceMethod yX12_passWord, Cond.selects RX12 yX12_passWord yX12_passWord, Cond.code yX12_passWord cX12_passWord 1 none, Cond.methodLink RX12 226 yX12_cellHere]
def wsL_law_r18 : List Cond := [Cond.instanceMethod yX12_cellHere, Cond.selects RX12 yX12_cellHere yX12_cellHere, Cond.code yX12_cellHere cX12_cellHere 4 (some .boolean), Cond.fieldLink RX12 121 "LadderLandModel" "number" "I", Cond.methodLink RX12 175 yX12_numberHere, Cond.instanceMethod yX12_numberHere, Cond.selects RX12 yX12_numberHere yX12_numberHere, Cond.code yX12_numberHere cX12_numberHere 5 (some .boolean), Cond.methodLink RX12 114 yX12_isDigit, Cond.instanceMethod yX12_isDigit, Cond.selects RX12 yX12_isDigit yX12_isDigit, Cond.code yX12_isDigit cX12_isDigit 2 (some .boolean), Cond.methodLink RX12 124 yX12_in, Cond.static yX12_in, Cond.code yX12_in cX12_in 6 (some .boolean), Cond.methodLink RX12 238 yX12_isRungHere, Cond.instanceMethod yX12_isRungHere, Cond.selects RX12 yX12_isRungHere yX12_isRungHere, Cond.code yX12_isRungHere cX12_isRungHere 3 (some .boolean), Cond.methodLink RX12 230 yX12_standingSoFar, Cond.instanceMethod yX12_standingSoFar, Cond.selects RX12 yX12_standingSoFar yX12_standingSoFar, Cond.code yX12_standingSoFar cX12_standingSoFar 4 (some .int), Cond.methodLink RX12 243 yX12_isBrokenHere]
def wsL_law_r19 : List Cond := [Cond.instanceMethod yX12_isBrokenHere, Cond.selects RX12 yX12_isBrokenHere yX12_isBrokenHere, Cond.code yX12_isBrokenHere cX12_isBrokenHere 2 (some .boolean), Cond.methodLink RX12 246 yX12_isPersonHere, Cond.instanceMethod yX12_isPersonHere, Cond.selects RX12 yX12_isPersonHere yX12_isPersonHere, Cond.code yX12_isPersonHere cX12_isPersonHere 5 (some .boolean), Cond.methodLink RX12 260 yX12_isClimbHere, Cond.instanceMethod yX12_isClimbHere, Cond.selects RX12 yX12_isClimbHere yX12_isClimbHere, Cond.code yX12_isClimbHere cX12_isClimbHere 2 (some .boolean), Cond.constantLong RX12 218 (26982), Cond.methodLink RX12 191 yX12_sum, Cond.instanceMethod yX12_sum, Cond.selects RX12 yX12_sum yX12_sum, Cond.code yX12_sum cX12_sum 2 (some .boolean), Cond.methodLink RX12 188 yX12_term, Cond.instanceMethod yX12_term, Cond.selects RX12 yX12_term yX12_term, Cond.code yX12_term cX12_term 2 (some .boolean), Cond.methodLink RX12 184 yX12_value, Cond.instanceMethod yX12_value, Cond.selects RX12 yX12_value yX12_value, Cond.code yX12_value cX12_value 3 (some .boolean)]
def wsL_law_r20 : List Cond := [Cond.constant RX12 174 (99999), Cond.methodLink RX12 178 yX12_makes, Cond.instanceMethod yX12_makes, Cond.selects RX12 yX12_makes yX12_makes, Cond.code yX12_makes cX12_makes 2 (some .boolean), Cond.methodLink RX12 170 yX12_puts, Cond.instanceMethod yX12_puts, Cond.selects RX12 yX12_puts yX12_puts, Cond.code yX12_puts cX12_puts 3 none, Cond.methodLink RX12 181 yX12_wordHere, Cond.instanceMethod yX12_wordHere, Cond.selects RX12 yX12_wordHere yX12_wordHere, Cond.code yX12_wordHere cX12_wordHere 1 (some .int), Cond.constantLong RX12 132 (2002873972), Cond.constantLong RX12 134 (131277443786868), Cond.constantLong RX12 136 (1735551344), Cond.constantLong RX12 138 (1953459300), Cond.constantLong RX12 140 (1752135026), Cond.constantLong RX12 142 (1751478885), Cond.constantLong RX12 144 (418263299685), Cond.constantLong RX12 146 (422608400247), Cond.constantLong RX12 148 (2003792494), Cond.constantLong RX12 150 (8319400191629685864), Cond.constantLong RX12 152 (495740088435)]
def wsL_law_r21 : List Cond := [Cond.methodLink RX12 220 yX12_takesWord, Cond.instanceMethod yX12_takesWord, Cond.selects RX12 yX12_takesWord yX12_takesWord, Cond.code yX12_takesWord cX12_takesWord 3 (some .boolean), Cond.methodLink RX12 223 yX12_tested, Cond.instanceMethod yX12_tested, Cond.selects RX12 yX12_tested yX12_tested, Cond.code yX12_tested cX12_tested 3 (some .boolean), Cond.fieldLink RX12 163 "LadderLandModel" "opened" "I", Cond.fieldLink RX12 160 "LadderLandModel" "deep" "I", Cond.constantLong RX12 214 (6385252), Cond.constantLong RX12 216 (28530), Cond.methodLink RX12 208 yX12_fact, Cond.instanceMethod yX12_fact, Cond.selects RX12 yX12_fact yX12_fact, Cond.code yX12_fact cX12_fact 3 (some .boolean), Cond.constantLong RX12 194 (7237492), Cond.methodLink RX12 196 yX12_opens, Cond.instanceMethod yX12_opens, Cond.selects RX12 yX12_opens yX12_opens, Cond.code yX12_opens cX12_opens 2 (some .boolean), Cond.methodLink RX12 199 yX12_compare, Cond.instanceMethod yX12_compare, Cond.selects RX12 yX12_compare yX12_compare]
def wsL_law_r22 : List Cond := [Cond.code yX12_compare cX12_compare 5 (some .boolean), Cond.methodLink RX12 211 yX12_closes, Cond.instanceMethod yX12_closes, Cond.selects RX12 yX12_closes yX12_closes, Cond.code yX12_closes cX12_closes 1 none, Cond.methodLink RX12 202 yX12_settles, Cond.instanceMethod yX12_settles, Cond.selects RX12 yX12_settles yX12_settles, Cond.code yX12_settles cX12_settles 2 none, Cond.methodLink RX12 166 yX12_strength, Cond.static yX12_strength, Cond.code yX12_strength cX12_strength 1 (some .int), Cond.methodLink RX12 205 yX12_isInside, Cond.instanceMethod yX12_isInside, Cond.selects RX12 yX12_isInside yX12_isInside, Cond.code yX12_isInside cX12_isInside 2 (some .boolean), Cond.methodLink RL 28 yX11_rule, Cond.instanceMethod yX11_rule, Cond.selects RX11 yX11_rule yX11_rule, Cond.code yX11_rule cX11_rule 2 (some .int), Cond.fieldLink RX11 124 "LadderLand" "ruleCount" "I", Cond.methodLink RX11 127 yX6_readText, Cond.instanceMethod yX6_readText, Cond.selects RX6 yX6_readText yX6_readText]
def wsL_law_r23 : List Cond := [Cond.code yX6_readText cX6_readText 2 (some .boolean), Cond.fieldLink RX6 27 "LadderLand$RuleReader" "size" "I", Cond.fieldLink RX6 37 "LadderLand$RuleReader" "clauses" "I", Cond.fieldLink RX6 43 "LadderLand$RuleReader" "values" "I", Cond.fieldLink RX6 73 "LadderLand$Tape" "kind" "I", Cond.methodLink RX6 46 yX9_open, Cond.methodLink RX6 53 yX9_isAtWord, Cond.instanceMethod yX9_isAtWord, Cond.selects RX9 yX9_isAtWord yX9_isAtWord, Cond.code yX9_isAtWord cX9_isAtWord 2 (some .boolean), Cond.methodLink RX9 46 yX9_wordIn, Cond.methodLink RX6 57 yX9_refuse, Cond.methodLink RX6 61 yX9_advance, Cond.methodLink RX6 64 yX6_readSum, Cond.instanceMethod yX6_readSum, Cond.selects RX6 yX6_readSum yX6_readSum, Cond.code yX6_readSum cX6_readSum 5 (some .boolean), Cond.fieldLink RX6 102 "LadderLand$Tape" "sign" "I", Cond.methodLink RX6 108 yX6_readValue, Cond.instanceMethod yX6_readValue, Cond.selects RX6 yX6_readValue yX6_readValue, Cond.code yX6_readValue cX6_readValue 3 (some .boolean), Cond.methodLink RX6 115 yX9_numberAtHand, Cond.methodLink RX6 121 yX9_wordIn]
def wsL_law_r24 : List Cond := [Cond.methodLink RX6 87 yX6_emit, Cond.instanceMethod yX6_emit, Cond.selects RX6 yX6_emit yX6_emit, Cond.code yX6_emit cX6_emit 3 none, Cond.methodLink RX6 76 yX9_isAt, Cond.methodLink RX6 111 yX6_emitWaiting, Cond.instanceMethod yX6_emitWaiting, Cond.selects RX6 yX6_emitWaiting yX6_emitWaiting, Cond.code yX6_emitWaiting cX6_emitWaiting 2 none, Cond.methodLink RX6 70 yX6_readTest, Cond.instanceMethod yX6_readTest, Cond.selects RX6 yX6_readTest yX6_readTest, Cond.code yX6_readTest cX6_readTest 5 (some .boolean), Cond.methodLink RX6 80 yX6_readFact, Cond.instanceMethod yX6_readFact, Cond.selects RX6 yX6_readFact yX6_readFact, Cond.code yX6_readBracketed cX6_readBracketed 2 (some .boolean), Cond.code yX6_readFact cX6_readFact 3 (some .boolean), Cond.methodLink RX6 93 yX6_readComparison, Cond.instanceMethod yX6_readComparison, Cond.selects RX6 yX6_readComparison yX6_readComparison, Cond.code yX6_readComparison cX6_readComparison 2 (some .boolean), Cond.methodLink RX6 105 yX5_compares, Cond.static yX5_compares]
def wsL_law_r25 : List Cond := [Cond.initialized RX5, Cond.code yX5_compares cX5_compares 1 (some .boolean), Cond.methodLink RX6 96 yX6_readNegated, Cond.instanceMethod yX6_readNegated, Cond.selects RX6 yX6_readNegated yX6_readNegated, Cond.methodLink RX6 99 yX6_readBracketed, Cond.instanceMethod yX6_readBracketed, Cond.selects RX6 yX6_readBracketed yX6_readBracketed, Cond.code yX6_readNegated cX6_readNegated 3 (some .boolean), Cond.methodLink RX11 131 yX6_made, Cond.instanceMethod yX6_made, Cond.selects RX6 yX6_made yX6_made, Cond.code yX6_made cX6_made 1 (some (.object "LadderLand$Rule")), Cond.classLink RX6 25 RX5, Cond.instantiable RX5 5, Cond.methodLink RX6 31 yJ7_copyOf_59c91, Cond.static yJ7_copyOf_59c91, Cond.code yJ7_copyOf_59c91 cJ7_copyOf_59c91 3 (some (.array .int)), Cond.methodLink RJ7 316 ⟨"[I", "clone", "()Ljava/lang/Object;"⟩, Cond.sameMethod "[I" "java/lang/Object" "clone" "()Ljava/lang/Object;", Cond.native ⟨"java/lang/Object", "clone", "()Ljava/lang/Object;"⟩, Cond.instanceMethod ⟨"java/lang/Object", "clone", "()Ljava/lang/Object;"⟩, Cond.selects "[I" ⟨"[I", "clone", "()Ljava/lang/Object;"⟩ ⟨"java/lang/Object", "clone", "()Ljava/lang/Object;"⟩, Cond.classLink RJ7 317 "[I"]
def wsL_law_r26 : List Cond := [Cond.methodLink RJ7 304 Lib.Math.min.name, Cond.static Lib.Math.min.name, Cond.code Lib.Math.min.name Lib.Math.min.code 2 (some .int), Cond.methodLink RJ7 150 arraycopyName, Cond.methodLink RX6 40 yX5_init, Cond.instanceMethod yX5_init, Cond.code yX5_init cX5_init 4 none, Cond.methodLink RX5 5 objectInit, Cond.fieldLink RX5 11 "LadderLand$Rule" "stack" "[J", Cond.fieldLink RX5 15 "LadderLand$Rule" "code" "[I", Cond.fieldLink RX5 19 "LadderLand$Rule" "sumEnd" "[I", Cond.fieldLink RX5 22 "LadderLand$Rule" "testEnd" "[I", Cond.methodLink RL 31 yX12_rule, Cond.instanceMethod yX12_rule, Cond.selects RX12 yX12_rule yX12_rule, Cond.code yX12_rule cX12_rule 1 (some .int), Cond.fieldLink RX12 266 "LadderLandModel" "rules" "I", Cond.methodLink RL 32 yX11_force, Cond.instanceMethod yX11_force, Cond.selects RX11 yX11_force yX11_force, Cond.code yX11_force cX11_force 3 (some .int), Cond.fieldLink RX11 135 "LadderLand$State" "force" "I", Cond.methodLink RL 35 yX12_force, Cond.instanceMethod yX12_force]
def wsL_law_r27 : List Cond := [Cond.selects RX12 yX12_force yX12_force, Cond.code yX12_force cX12_force 3 (some .int), Cond.methodLink RX12 306 yX12_isRule, Cond.instanceMethod yX12_isRule, Cond.selects RX12 yX12_isRule yX12_isRule, Cond.code yX12_isRule cX12_isRule 2 (some .boolean), Cond.methodLink RL 36 yX11_person, Cond.instanceMethod yX11_person, Cond.selects RX11 yX11_person yX11_person, Cond.code yX11_person cX11_person 4 (some .int), Cond.fieldLink RX11 142 "LadderLand$World" "rung" "[I", Cond.fieldLink RX11 146 "LadderLand$World" "ladder" "LLadderLand$Ladder;", Cond.fieldLink RX11 150 "LadderLand$Ladder" "weight" "[I", Cond.fieldLink RX11 153 "LadderLand$World" "grip" "[I", Cond.fieldLink RX11 156 "LadderLand$World" "want" "[I", Cond.fieldLink RX11 159 "LadderLand$World" "slips" "[I", Cond.methodLink RX11 138 yX11_isPerson, Cond.instanceMethod yX11_isPerson, Cond.selects RX11 yX11_isPerson yX11_isPerson, Cond.code yX11_isPerson cX11_isPerson 2 (some .boolean), Cond.methodLink RX11 162 yX10_beside, Cond.instanceMethod yX10_beside, Cond.selects RX10 yX10_beside yX10_beside, Cond.code yX10_beside cX10_beside 6 (some .int)]
def wsL_law_r28 : List Cond := [Cond.fieldLink RX10 77 "LadderLand$Ladder" "rungs" "I", Cond.methodLink RL 40 yX12_person, Cond.instanceMethod yX12_person, Cond.selects RX12 yX12_person yX12_person, Cond.code yX12_person cX12_person 3 (some .int), Cond.methodLink RX12 309 yX12_isPerson, Cond.instanceMethod yX12_isPerson, Cond.selects RX12 yX12_isPerson yX12_isPerson, Cond.code yX12_isPerson cX12_isPerson 2 (some .boolean), Cond.methodLink RX12 290 yX12_personOf, Cond.instanceMethod yX12_personOf, Cond.selects RX12 yX12_personOf yX12_personOf, Cond.code yX12_personOf cX12_personOf 3 (some .int), Cond.methodLink RX12 303 yX12_weightOf, Cond.instanceMethod yX12_weightOf, Cond.selects RX12 yX12_weightOf yX12_weightOf, Cond.code yX12_weightOf cX12_weightOf 2 (some .int), Cond.methodLink RX12 312 yX12_beside, Cond.instanceMethod yX12_beside, Cond.selects RX12 yX12_beside yX12_beside, Cond.code yX12_beside cX12_beside 3 (some .int), Cond.methodLink RX12 300 yX12_isWhole, Cond.instanceMethod yX12_isWhole, Cond.selects RX12 yX12_isWhole yX12_isWhole]
def wsL_law_r29 : List Cond := [Cond.code yX12_isWhole cX12_isWhole 2 (some .boolean), Cond.methodLink RX12 294 yX12_isRung, Cond.instanceMethod yX12_isRung, Cond.selects RX12 yX12_isRung yX12_isRung, Cond.code yX12_isRung cX12_isRung 2 (some .boolean), Cond.methodLink RX12 297 yX12_rungOf, Cond.instanceMethod yX12_rungOf, Cond.selects RX12 yX12_rungOf yX12_rungOf, Cond.code yX12_rungOf cX12_rungOf 3 (some .int), Cond.methodLink RL 41 yX11_rung, Cond.instanceMethod yX11_rung, Cond.selects RX11 yX11_rung yX11_rung, Cond.code yX11_rung cX11_rung 4 (some .int), Cond.fieldLink RX11 169 "LadderLand$Ladder" "room" "[I", Cond.fieldLink RX11 172 "LadderLand$Ladder" "strength" "[I", Cond.fieldLink RX11 175 "LadderLand$World" "worn" "[I", Cond.methodLink RX11 166 yX11_isRung, Cond.instanceMethod yX11_isRung, Cond.selects RX11 yX11_isRung yX11_isRung, Cond.code yX11_isRung cX11_isRung 2 (some .boolean), Cond.fieldLink RX11 305 "LadderLand$Ladder" "rungs" "I", Cond.methodLink RX11 178 yX10_isBroken, Cond.instanceMethod yX10_isBroken, Cond.selects RX10 yX10_isBroken yX10_isBroken]
def wsL_law_r30 : List Cond := [Cond.code yX10_isBroken cX10_isBroken 2 (some .boolean), Cond.methodLink RX11 181 yX10_whoIsOn, Cond.instanceMethod yX10_whoIsOn, Cond.selects RX10 yX10_whoIsOn yX10_whoIsOn, Cond.code yX10_whoIsOn cX10_whoIsOn 4 (some .int), Cond.fieldLink RX10 68 "LadderLand$Ladder" "people" "I", Cond.methodLink RX11 185 yX10_weightOn, Cond.instanceMethod yX10_weightOn, Cond.selects RX10 yX10_weightOn yX10_weightOn, Cond.code yX10_weightOn cX10_weightOn 4 (some .int), Cond.fieldLink RX10 71 "LadderLand$Ladder" "weight" "[I", Cond.methodLink RL 44 yX12_rung, Cond.instanceMethod yX12_rung, Cond.selects RX12 yX12_rung yX12_rung, Cond.code yX12_rung cX12_rung 3 (some .int), Cond.constantLong RX12 315 (5), Cond.methodLink RX12 317 yX12_whoStands, Cond.instanceMethod yX12_whoStands, Cond.selects RX12 yX12_whoStands yX12_whoStands, Cond.code yX12_whoStands cX12_whoStands 4 (some .int), Cond.methodLink RX12 320 yX12_weightOn, Cond.instanceMethod yX12_weightOn, Cond.selects RX12 yX12_weightOn yX12_weightOn, Cond.code yX12_weightOn cX12_weightOn 4 (some .int)]
def wsL_law_r31 : List Cond := [Cond.methodLink RL 45 yX11_hour, Cond.instanceMethod yX11_hour, Cond.selects RX11 yX11_hour yX11_hour, Cond.code yX11_hour cX11_hour 1 (some .int), Cond.fieldLink RX11 191 "LadderLand$World" "hour" "I", Cond.methodLink RX11 188 yX11_hasLadder, Cond.instanceMethod yX11_hasLadder, Cond.selects RX11 yX11_hasLadder yX11_hasLadder, Cond.code yX11_hasLadder cX11_hasLadder 1 (some .boolean), Cond.methodLink RX11 194 yX11_remember, Cond.instanceMethod yX11_remember, Cond.selects RX11 yX11_remember yX11_remember, Cond.code yX11_remember cX11_remember 1 none, Cond.fieldLink RX11 227 "LadderLand" "pastNext" "I", Cond.methodLink RX11 348 Lib.Math.min.name, Cond.methodLink RX11 230 yX10_copyFrom, Cond.instanceMethod yX10_copyFrom, Cond.selects RX10 yX10_copyFrom yX10_copyFrom, Cond.code yX10_copyFrom cX10_copyFrom 2 none, Cond.methodLink RX11 197 yX11_inForce, Cond.instanceMethod yX11_inForce, Cond.selects RX11 yX11_inForce yX11_inForce, Cond.code yX11_inForce cX11_inForce 2 (some (.object "LadderLand$Rule")), Cond.methodLink RX11 200 yX0_spend]
def wsL_law_r32 : List Cond := [Cond.instanceMethod yX0_spend, Cond.selects RX0 yX0_spend yX0_spend, Cond.code yX0_spend cX0_spend 6 (some .int), Cond.fieldLink RX0 28 "LadderLand$World" "ladder" "LLadderLand$Ladder;", Cond.fieldLink RX0 34 "LadderLand$Ladder" "people" "I", Cond.fieldLink RX0 59 "LadderLand$World" "hour" "I", Cond.methodLink RX0 39 yX0_willOf, Cond.instanceMethod yX0_willOf, Cond.selects RX0 yX0_willOf yX0_willOf, Cond.code yX0_willOf cX0_willOf 4 (some .int), Cond.fieldLink RX0 62 "LadderLand$World" "want" "[I", Cond.fieldLink RX0 65 "LadderLand$World" "rung" "[I", Cond.methodLink RX0 51 yX10_hasFallen, Cond.instanceMethod yX10_hasFallen, Cond.selects RX10 yX10_hasFallen yX10_hasFallen, Cond.code yX10_hasFallen cX10_hasFallen 2 (some .boolean), Cond.methodLink RX0 68 yJ6_compare_7cf53, Cond.static yJ6_compare_7cf53, Cond.initialized RJ6, Cond.code yJ6_compare_7cf53 cJ6_compare_7cf53 2 (some .int), Cond.methodLink RX0 74 yX10_tellWords, Cond.instanceMethod yX10_tellWords, Cond.selects RX10 yX10_tellWords yX10_tellWords, Cond.code yX10_tellWords cX10_tellWords 6 none]
def wsL_law_r33 : List Cond := [Cond.constantLong RX10 111 (-1), Cond.fieldLink RX10 106 "LadderLand$Ladder" "strength" "[I", Cond.methodLink RX10 87 yX10_beside, Cond.methodLink RX10 80 yX10_crowdOn, Cond.instanceMethod yX10_crowdOn, Cond.selects RX10 yX10_crowdOn yX10_crowdOn, Cond.code yX10_crowdOn cX10_crowdOn 4 (some .int), Cond.methodLink RX0 78 yX5_wish, Cond.instanceMethod yX5_wish, Cond.selects RX5 yX5_wish yX5_wish, Cond.code yX5_wish cX5_wish 5 (some .int), Cond.methodLink RX5 25 yX5_result, Cond.instanceMethod yX5_result, Cond.selects RX5 yX5_result yX5_result, Cond.code yX5_result cX5_result 9 (some .long), Cond.fieldLink RX5 35 "LadderLand$Rule" "top" "I", Cond.constant RX5 39 (1048575), Cond.methodLink RX5 40 yX5_push, Cond.instanceMethod yX5_push, Cond.selects RX5 yX5_push yX5_push, Cond.code yX5_push cX5_push 3 none, Cond.methodLink RX5 44 yX5_pop, Cond.instanceMethod yX5_pop, Cond.selects RX5 yX5_pop yX5_pop]
def wsL_law_r34 : List Cond := [Cond.code yX5_pop cX5_pop 1 (some .long), Cond.methodLink RX5 48 yX5_joined, Cond.static yX5_joined, Cond.code yX5_joined cX5_joined 5 (some .long), Cond.methodLink RX5 29 yJ13_compare_74951, Cond.static yJ13_compare_74951, Cond.initialized RJ13, Cond.code yJ13_compare_74951 cJ13_compare_74951 4 (some .int), Cond.methodLink RX0 43 yX0_go, Cond.instanceMethod yX0_go, Cond.selects RX0 yX0_go yX0_go, Cond.code yX0_go cX0_go 5 none, Cond.methodLink RX0 82 yX10_beside, Cond.methodLink RX0 85 yX10_hasRoom, Cond.instanceMethod yX10_hasRoom, Cond.selects RX10 yX10_hasRoom yX10_hasRoom, Cond.code yX10_hasRoom cX10_hasRoom 2 (some .boolean), Cond.fieldLink RX10 84 "LadderLand$Ladder" "room" "[I", Cond.methodLink RX0 88 yX0_partner, Cond.instanceMethod yX0_partner, Cond.selects RX0 yX0_partner yX0_partner, Cond.code yX0_partner cX0_partner 6 (some .int), Cond.methodLink RX0 92 yX10_swap, Cond.instanceMethod yX10_swap]
def wsL_law_r35 : List Cond := [Cond.selects RX10 yX10_swap yX10_swap, Cond.code yX10_swap cX10_swap 4 none, Cond.methodLink RX0 47 yX0_wear, Cond.instanceMethod yX0_wear, Cond.selects RX0 yX0_wear yX0_wear, Cond.code yX0_wear cX0_wear 5 (some .int), Cond.fieldLink RX0 96 "LadderLand$Ladder" "rungs" "I", Cond.fieldLink RX0 99 "LadderLand$World" "worn" "[I", Cond.fieldLink RX0 109 "LadderLand$Ladder" "strength" "[I", Cond.methodLink RX0 115 Lib.Math.max.name, Cond.methodLink RX0 102 yX10_weightOn, Cond.methodLink RX0 106 yX10_isBroken, Cond.methodLink RX0 112 yX10_split, Cond.instanceMethod yX10_split, Cond.selects RX10 yX10_split yX10_split, Cond.code yX10_split cX10_split 4 (some .int), Cond.methodLink RX10 99 yX10_slip, Cond.instanceMethod yX10_slip, Cond.selects RX10 yX10_slip yX10_slip, Cond.code yX10_slip cX10_slip 3 none, Cond.methodLink RX10 94 Lib.Math.max.name, Cond.methodLink RX10 64 yX10_isBroken, Cond.methodLink RX0 55 yX0_tire, Cond.instanceMethod yX0_tire]
def wsL_law_r36 : List Cond := [Cond.selects RX0 yX0_tire yX0_tire, Cond.code yX0_tire cX0_tire 5 (some .int), Cond.fieldLink RX0 120 "LadderLand$Ladder" "told" "[I", Cond.fieldLink RX0 123 "LadderLand$World" "grip" "[I", Cond.methodLink RX0 126 Lib.Math.min.name, Cond.methodLink RX0 129 yX10_slip, Cond.methodLink RL 48 yX12_hour, Cond.instanceMethod yX12_hour, Cond.selects RX12 yX12_hour yX12_hour, Cond.code yX12_hour cX12_hour 1 (some .int), Cond.methodLink RX12 369 yX12_isLadder, Cond.instanceMethod yX12_isLadder, Cond.selects RX12 yX12_isLadder yX12_isLadder, Cond.code yX12_isLadder cX12_isLadder 1 (some .boolean), Cond.methodLink RX12 372 yX12_keepsAct, Cond.instanceMethod yX12_keepsAct, Cond.selects RX12 yX12_keepsAct yX12_keepsAct, Cond.code yX12_keepsAct cX12_keepsAct 2 none, Cond.methodLink RX12 375 yX12_passes, Cond.instanceMethod yX12_passes, Cond.selects RX12 yX12_passes yX12_passes, Cond.code yX12_passes cX12_passes 3 (some .int), Cond.methodLink RX12 357 yX12_willOf, Cond.instanceMethod yX12_willOf]
def wsL_law_r37 : List Cond := [Cond.selects RX12 yX12_willOf yX12_willOf, Cond.code yX12_willOf cX12_willOf 4 (some .int), Cond.methodLink RX12 335 yX12_isUp, Cond.instanceMethod yX12_isUp, Cond.selects RX12 yX12_isUp yX12_isUp, Cond.code yX12_isUp cX12_isUp 2 (some .boolean), Cond.methodLink RX12 338 yX12_words, Cond.instanceMethod yX12_words, Cond.selects RX12 yX12_words yX12_words, Cond.code yX12_words cX12_words 5 none, Cond.constantLong RX12 333 (-1), Cond.methodLink RX12 327 yX12_gripTold, Cond.instanceMethod yX12_gripTold, Cond.selects RX12 yX12_gripTold yX12_gripTold, Cond.code yX12_gripTold cX12_gripTold 2 (some .int), Cond.methodLink RX12 330 yX12_standing, Cond.instanceMethod yX12_standing, Cond.selects RX12 yX12_standing yX12_standing, Cond.code yX12_standing cX12_standing 4 (some .int), Cond.methodLink RX12 341 yX12_summedBy, Cond.instanceMethod yX12_summedBy, Cond.selects RX12 yX12_summedBy yX12_summedBy, Cond.code yX12_summedBy cX12_summedBy 4 (some .long), Cond.methodLink RX12 323 yX12_reckons]
def wsL_law_r38 : List Cond := [Cond.instanceMethod yX12_reckons, Cond.selects RX12 yX12_reckons yX12_reckons, Cond.code yX12_reckons cX12_reckons 11 (some .long), Cond.fieldLink RX12 275 "LadderLandModel" "top" "I", Cond.methodLink RX12 278 yX12_push, Cond.instanceMethod yX12_push, Cond.selects RX12 yX12_push yX12_push, Cond.code yX12_push cX12_push 3 none, Cond.methodLink RX12 282 yX12_pop, Cond.instanceMethod yX12_pop, Cond.selects RX12 yX12_pop yX12_pop, Cond.code yX12_pop cX12_pop 1 (some .long), Cond.methodLink RX12 286 yX12_one, Cond.static yX12_one, Cond.code yX12_one cX12_one 5 (some .long), Cond.methodLink RX12 360 yX12_goesBy, Cond.instanceMethod yX12_goesBy, Cond.selects RX12 yX12_goesBy yX12_goesBy, Cond.code yX12_goesBy cX12_goesBy 5 none, Cond.methodLink RX12 345 yX12_passer, Cond.instanceMethod yX12_passer, Cond.selects RX12 yX12_passer yX12_passer, Cond.code yX12_passer cX12_passer 4 (some .int), Cond.methodLink RX12 363 yX12_wears]
def wsL_law_r39 : List Cond := [Cond.instanceMethod yX12_wears, Cond.selects RX12 yX12_wears yX12_wears, Cond.code yX12_wears cX12_wears 3 (some .int), Cond.fieldLink RX12 351 "LadderLandModel" "broke" "I", Cond.methodLink RX12 354 yX12_breaksNow, Cond.instanceMethod yX12_breaksNow, Cond.selects RX12 yX12_breaksNow yX12_breaksNow, Cond.code yX12_breaksNow cX12_breaksNow 4 (some .int), Cond.methodLink RX12 348 yX12_slides, Cond.instanceMethod yX12_slides, Cond.selects RX12 yX12_slides yX12_slides, Cond.code yX12_slides cX12_slides 3 none, Cond.methodLink RX12 366 yX12_tires, Cond.instanceMethod yX12_tires, Cond.selects RX12 yX12_tires yX12_tires, Cond.code yX12_tires cX12_tires 3 (some .boolean), Cond.methodLink RL 49 yX11_step, Cond.instanceMethod yX11_step, Cond.selects RX11 yX11_step yX11_step, Cond.code yX11_step cX11_step 4 (some .int), Cond.methodLink RX11 204 yX10_stepGoal, Cond.instanceMethod yX10_stepGoal, Cond.selects RX10 yX10_stepGoal yX10_stepGoal, Cond.code yX10_stepGoal cX10_stepGoal 4 (some .int)]
def wsL_law_r40 : List Cond := [Cond.methodLink RX10 91 yX10_hasRoom, Cond.methodLink RL 53 yX12_step, Cond.instanceMethod yX12_step, Cond.selects RX12 yX12_step yX12_step, Cond.code yX12_step cX12_step 4 (some .int), Cond.methodLink RX12 378 yX12_stepTo, Cond.instanceMethod yX12_stepTo, Cond.selects RX12 yX12_stepTo yX12_stepTo, Cond.code yX12_stepTo cX12_stepTo 4 (some .int), Cond.methodLink RL 54 yX11_pass, Cond.instanceMethod yX11_pass, Cond.selects RX11 yX11_pass yX11_pass, Cond.code yX11_pass cX11_pass 3 (some .boolean), Cond.methodLink RX11 207 yX10_canPass, Cond.instanceMethod yX10_canPass, Cond.selects RX10 yX10_canPass yX10_canPass, Cond.code yX10_canPass cX10_canPass 3 (some .boolean), Cond.methodLink RX10 74 yX10_hasFallen, Cond.methodLink RX11 211 yX10_swap, Cond.methodLink RL 58 yX12_pass, Cond.instanceMethod yX12_pass, Cond.selects RX12 yX12_pass yX12_pass, Cond.code yX12_pass cX12_pass 3 (some .boolean), Cond.methodLink RX12 381 yX12_canPass]
def wsL_law_r41 : List Cond := [Cond.instanceMethod yX12_canPass, Cond.selects RX12 yX12_canPass yX12_canPass, Cond.code yX12_canPass cX12_canPass 3 (some .boolean), Cond.methodLink RX12 384 yX12_swaps, Cond.instanceMethod yX12_swaps, Cond.selects RX12 yX12_swaps yX12_swaps, Cond.code yX12_swaps cX12_swaps 4 none, Cond.methodLink RL 59 yX11_mend, Cond.instanceMethod yX11_mend, Cond.selects RX11 yX11_mend yX11_mend, Cond.code yX11_mend cX11_mend 2 (some .int), Cond.methodLink RX11 215 yX10_needsMending, Cond.instanceMethod yX10_needsMending, Cond.selects RX10 yX10_needsMending yX10_needsMending, Cond.code yX10_needsMending cX10_needsMending 2 (some .boolean), Cond.methodLink RX11 218 yX10_repair, Cond.instanceMethod yX10_repair, Cond.selects RX10 yX10_repair yX10_repair, Cond.code yX10_repair cX10_repair 2 none, Cond.methodLink RL 62 yX12_mend, Cond.instanceMethod yX12_mend, Cond.selects RX12 yX12_mend yX12_mend, Cond.code yX12_mend cX12_mend 2 (some .int), Cond.methodLink RX12 387 yX12_canMend]
def wsL_law_r42 : List Cond := [Cond.instanceMethod yX12_canMend, Cond.selects RX12 yX12_canMend yX12_canMend, Cond.code yX12_canMend cX12_canMend 2 (some .boolean), Cond.methodLink RX12 390 yX12_mends, Cond.instanceMethod yX12_mends, Cond.selects RX12 yX12_mends yX12_mends, Cond.code yX12_mends cX12_mends 2 none, Cond.methodLink RL 63 yX11_cut, Cond.instanceMethod yX11_cut, Cond.selects RX11 yX11_cut yX11_cut, Cond.code yX11_cut cX11_cut 2 (some .int), Cond.methodLink RX11 221 yX10_split, Cond.methodLink RL 66 yX12_cut, Cond.instanceMethod yX12_cut, Cond.selects RX12 yX12_cut yX12_cut, Cond.code yX12_cut cX12_cut 2 (some .int), Cond.methodLink RL 67 yX11_aim, Cond.instanceMethod yX11_aim, Cond.selects RX11 yX11_aim yX11_aim, Cond.code yX11_aim cX11_aim 4 (some .int), Cond.methodLink RX11 224 yX10_hasFallen, Cond.methodLink RL 70 yX12_aim, Cond.instanceMethod yX12_aim, Cond.selects RX12 yX12_aim yX12_aim]
def wsL_law_r43 : List Cond := [Cond.code yX12_aim cX12_aim 4 (some .int), Cond.methodLink RL 71 yX11_undo, Cond.instanceMethod yX11_undo, Cond.selects RX11 yX11_undo yX11_undo, Cond.code yX11_undo cX11_undo 1 (some .int), Cond.methodLink RL 74 yX12_undo, Cond.instanceMethod yX12_undo, Cond.selects RX12 yX12_undo yX12_undo, Cond.code yX12_undo cX12_undo 2 (some .int), Cond.methodLink RL 75 yX11_ahead, Cond.instanceMethod yX11_ahead, Cond.selects RX11 yX11_ahead yX11_ahead, Cond.code yX11_ahead cX11_ahead 5 (some .int), Cond.methodLink RX11 233 yX3_after, Cond.instanceMethod yX3_after, Cond.selects RX3 yX3_after yX3_after, Cond.code yX3_after cX3_after 5 (some (.object "LadderLand$World")), Cond.methodLink RX3 23 yX10_copyFrom, Cond.methodLink RX3 29 yX0_spend, Cond.methodLink RL 79 yX12_ahead, Cond.instanceMethod yX12_ahead, Cond.selects RX12 yX12_ahead yX12_ahead, Cond.code yX12_ahead cX12_ahead 5 (some .int), Cond.constantLong RX12 393 (100)]
def wsL_law_r44 : List Cond := [Cond.constantLong RX12 395 (2), Cond.methodLink RX12 397 yX12_keeps, Cond.instanceMethod yX12_keeps, Cond.selects RX12 yX12_keeps yX12_keeps, Cond.code yX12_keeps cX12_keeps 2 none, Cond.methodLink RX12 400 yX12_laysBack, Cond.instanceMethod yX12_laysBack, Cond.selects RX12 yX12_laysBack yX12_laysBack, Cond.code yX12_laysBack cX12_laysBack 2 none, Cond.methodLink RL 80 yX11_breaks, Cond.instanceMethod yX11_breaks, Cond.selects RX11 yX11_breaks yX11_breaks, Cond.code yX11_breaks cX11_breaks 2 (some .int), Cond.fieldLink RX11 241 "LadderLand$Outlook" "brokenRung" "I", Cond.fieldLink RX11 244 "LadderLand$Outlook" "brokenHour" "I", Cond.methodLink RX11 237 yX3_foreseesBreak, Cond.instanceMethod yX3_foreseesBreak, Cond.selects RX3 yX3_foreseesBreak yX3_foreseesBreak, Cond.code yX3_foreseesBreak cX3_foreseesBreak 5 (some .boolean), Cond.fieldLink RX3 39 "LadderLand$World" "hour" "I", Cond.fieldLink RX3 43 "LadderLand$Outlook" "brokenHour" "I", Cond.fieldLink RX3 46 "LadderLand$Hours" "brokenRung" "I", Cond.fieldLink RX3 49 "LadderLand$Outlook" "brokenRung" "I", Cond.methodLink RX3 35 yX10_repair]
def wsL_law_r45 : List Cond := [Cond.methodLink RL 83 yX12_breaks, Cond.instanceMethod yX12_breaks, Cond.selects RX12 yX12_breaks yX12_breaks, Cond.code yX12_breaks cX12_breaks 3 (some .int), Cond.fieldLink RX12 403 "LadderLandModel" "breakHour" "I", Cond.methodLink RX12 406 yX12_firstBreak, Cond.instanceMethod yX12_firstBreak, Cond.selects RX12 yX12_firstBreak yX12_firstBreak, Cond.code yX12_firstBreak cX12_firstBreak 2 (some .int), Cond.methodLink RL 84 yX11_moves, Cond.instanceMethod yX11_moves, Cond.selects RX11 yX11_moves yX11_moves, Cond.code yX11_moves cX11_moves 2 (some .int), Cond.methodLink RX11 247 yX11_isSet, Cond.instanceMethod yX11_isSet, Cond.selects RX11 yX11_isSet yX11_isSet, Cond.code yX11_isSet cX11_isSet 2 (some .boolean), Cond.methodLink RX11 250 yX4_fewestMoves, Cond.instanceMethod yX4_fewestMoves, Cond.selects RX4 yX4_fewestMoves yX4_fewestMoves, Cond.code yX4_fewestMoves cX4_fewestMoves 4 (some .int), Cond.fieldLink RX4 41 "LadderLand$Paths" "tail" "I", Cond.fieldLink RX4 53 "LadderLand$Paths" "goal" "I", Cond.fieldLink RX4 60 "LadderLand$Paths" "rowLength" "I"]
def wsL_law_r46 : List Cond := [Cond.fieldLink RX4 63 "LadderLand$World" "ladder" "LLadderLand$Ladder;", Cond.fieldLink RX4 69 "LadderLand$Ladder" "people" "I", Cond.methodLink RX4 37 yX4_begin, Cond.instanceMethod yX4_begin, Cond.selects RX4 yX4_begin yX4_begin, Cond.code yX4_begin cX4_begin 5 (some .boolean), Cond.fieldLink RX4 90 "LadderLand$Paths" "set" "I", Cond.fieldLink RX4 99 "LadderLand$Ladder" "rungs" "I", Cond.fieldLink RX4 105 "LadderLand$World" "rung" "[I", Cond.methodLink RX4 106 Lib.Math.max.name, Cond.methodLink RX4 87 yX10_whoIsLeft, Cond.instanceMethod yX10_whoIsLeft, Cond.selects RX10 yX10_whoIsLeft yX10_whoIsLeft, Cond.code yX10_whoIsLeft cX10_whoIsLeft 3 (some .int), Cond.methodLink RX4 93 yJ7_fill_53178, Cond.methodLink RX4 102 yX10_beside, Cond.methodLink RX4 109 yX4_comeTo, Cond.instanceMethod yX4_comeTo, Cond.selects RX4 yX4_comeTo yX4_comeTo, Cond.code yX4_comeTo cX4_comeTo 3 none, Cond.methodLink RX4 45 yX4_unfold, Cond.instanceMethod yX4_unfold, Cond.selects RX4 yX4_unfold yX4_unfold, Cond.code yX4_unfold cX4_unfold 5 none]
def wsL_law_r47 : List Cond := [Cond.methodLink RX4 112 yX10_hasFallen, Cond.methodLink RX4 49 yX4_isThere, Cond.instanceMethod yX4_isThere, Cond.selects RX4 yX4_isThere yX4_isThere, Cond.code yX4_isThere cX4_isThere 2 (some .boolean), Cond.fieldLink RX4 115 "LadderLand$World" "want" "[I", Cond.methodLink RX4 56 yX4_lengthOfRow, Cond.instanceMethod yX4_lengthOfRow, Cond.selects RX4 yX4_lengthOfRow yX4_lengthOfRow, Cond.code yX4_lengthOfRow cX4_lengthOfRow 3 (some .int), Cond.methodLink RX4 74 yX4_trySteps, Cond.instanceMethod yX4_trySteps, Cond.selects RX4 yX4_trySteps yX4_trySteps, Cond.code yX4_trySteps cX4_trySteps 3 none, Cond.methodLink RX4 118 yX4_tryStep, Cond.instanceMethod yX4_tryStep, Cond.selects RX4 yX4_tryStep yX4_tryStep, Cond.code yX4_tryStep cX4_tryStep 5 none, Cond.fieldLink RX4 122 "LadderLand$Ladder" "room" "[I", Cond.methodLink RX4 78 yX4_tryPasses, Cond.instanceMethod yX4_tryPasses, Cond.selects RX4 yX4_tryPasses yX4_tryPasses, Cond.code yX4_tryPasses cX4_tryPasses 6 none, Cond.methodLink RL 87 yX12_moves]
def wsL_law_r48 : List Cond := [Cond.instanceMethod yX12_moves, Cond.selects RX12 yX12_moves yX12_moves, Cond.code yX12_moves cX12_moves 3 (some .int), Cond.methodLink RX12 440 yX12_isSet, Cond.instanceMethod yX12_isSet, Cond.selects RX12 yX12_isSet yX12_isSet, Cond.code yX12_isSet cX12_isSet 2 (some .boolean), Cond.methodLink RX12 443 yX12_fillsMoves, Cond.instanceMethod yX12_fillsMoves, Cond.selects RX12 yX12_fillsMoves yX12_fillsMoves, Cond.code yX12_fillsMoves cX12_fillsMoves 3 none, Cond.fieldLink RX12 424 "LadderLandModel" "queued" "I", Cond.methodLink RX12 430 yX12_startsFar, Cond.instanceMethod yX12_startsFar, Cond.selects RX12 yX12_startsFar yX12_startsFar, Cond.code yX12_startsFar cX12_startsFar 2 none, Cond.methodLink RX12 427 yX12_states, Cond.instanceMethod yX12_states, Cond.selects RX12 yX12_states yX12_states, Cond.code yX12_states cX12_states 3 (some .int), Cond.methodLink RX12 412 yX12_code, Cond.instanceMethod yX12_code, Cond.selects RX12 yX12_code yX12_code, Cond.code yX12_code cX12_code 3 (some .int)]
def wsL_law_r49 : List Cond := [Cond.methodLink RX12 433 yX12_goesOnFrom, Cond.instanceMethod yX12_goesOnFrom, Cond.selects RX12 yX12_goesOnFrom yX12_goesOnFrom, Cond.code yX12_goesOnFrom cX12_goesOnFrom 8 none, Cond.methodLink RX12 415 yX12_standsAs, Cond.instanceMethod yX12_standsAs, Cond.selects RX12 yX12_standsAs yX12_standsAs, Cond.code yX12_standsAs cX12_standsAs 4 none, Cond.methodLink RX12 418 yX12_kinds, Cond.instanceMethod yX12_kinds, Cond.selects RX12 yX12_kinds yX12_kinds, Cond.code yX12_kinds cX12_kinds 2 (some .int), Cond.methodLink RX12 421 yX12_codeBehind, Cond.instanceMethod yX12_codeBehind, Cond.selects RX12 yX12_codeBehind yX12_codeBehind, Cond.code yX12_codeBehind cX12_codeBehind 6 (some .int), Cond.methodLink RX12 446 yX12_goalFar, Cond.instanceMethod yX12_goalFar, Cond.selects RX12 yX12_goalFar yX12_goalFar, Cond.code yX12_goalFar cX12_goalFar 5 (some .int), Cond.methodLink RX12 437 yX12_isGoal, Cond.instanceMethod yX12_isGoal, Cond.selects RX12 yX12_isGoal yX12_isGoal, Cond.code yX12_isGoal cX12_isGoal 3 (some .boolean)]
def wsL_law_r50 : List Cond := [Cond.methodLink RX12 409 yX12_isOf, Cond.static yX12_isOf, Cond.code yX12_isOf cX12_isOf 2 (some .boolean), Cond.methodLink RL 88 yX11_move, Cond.instanceMethod yX11_move, Cond.selects RX11 yX11_move yX11_move, Cond.code yX11_move cX11_move 4 (some .int), Cond.methodLink RX11 253 yX4_toldMove, Cond.instanceMethod yX4_toldMove, Cond.selects RX4 yX4_toldMove yX4_toldMove, Cond.code yX4_toldMove cX4_toldMove 6 (some .int), Cond.methodLink RX4 81 Lib.Math.min.name, Cond.methodLink RL 91 yX12_move, Cond.instanceMethod yX12_move, Cond.selects RX12 yX12_move yX12_move, Cond.code yX12_move cX12_move 7 (some .int), Cond.fieldLink RX12 452 "LadderLandModel" "movePerson" "I", Cond.fieldLink RX12 455 "LadderLandModel" "moveKind" "I", Cond.methodLink RX12 461 yX12_fillsWay, Cond.instanceMethod yX12_fillsWay, Cond.selects RX12 yX12_fillsWay yX12_fillsWay, Cond.code yX12_fillsWay cX12_fillsWay 6 none, Cond.methodLink RX12 458 yX12_findsMove, Cond.instanceMethod yX12_findsMove]
def wsL_law_r51 : List Cond := [Cond.selects RX12 yX12_findsMove yX12_findsMove, Cond.code yX12_findsMove cX12_findsMove 5 (some .boolean), Cond.methodLink RL 92 yX11_squeeze, Cond.instanceMethod yX11_squeeze, Cond.selects RX11 yX11_squeeze yX11_squeeze, Cond.code yX11_squeeze cX11_squeeze 2 (some .int), Cond.methodLink RX11 256 yX4_fewestPasses, Cond.instanceMethod yX4_fewestPasses, Cond.selects RX4 yX4_fewestPasses yX4_fewestPasses, Cond.code yX4_fewestPasses cX4_fewestPasses 7 (some .int), Cond.methodLink RL 95 yX12_squeeze, Cond.instanceMethod yX12_squeeze, Cond.selects RX12 yX12_squeeze yX12_squeeze, Cond.code yX12_squeeze cX12_squeeze 3 (some .int), Cond.methodLink RX12 449 yX12_fillsPasses, Cond.instanceMethod yX12_fillsPasses, Cond.selects RX12 yX12_fillsPasses yX12_fillsPasses, Cond.code yX12_fillsPasses cX12_fillsPasses 6 none, Cond.methodLink RL 96 yX11_mending, Cond.instanceMethod yX11_mending, Cond.selects RX11 yX11_mending yX11_mending, Cond.code yX11_mending cX11_mending 2 (some .int), Cond.fieldLink RX11 263 "LadderLand$Outlook" "mendedRung" "I", Cond.fieldLink RX11 266 "LadderLand$Outlook" "mendedHour" "I"]
def wsL_law_r52 : List Cond := [Cond.methodLink RX11 259 yX3_findMending, Cond.instanceMethod yX3_findMending, Cond.selects RX3 yX3_findMending yX3_findMending, Cond.code yX3_findMending cX3_findMending 6 none, Cond.fieldLink RX3 50 "LadderLand$Outlook" "mendedRung" "I", Cond.fieldLink RX3 53 "LadderLand$Outlook" "mendedHour" "I", Cond.fieldLink RX3 56 "LadderLand$World" "ladder" "LLadderLand$Ladder;", Cond.fieldLink RX3 60 "LadderLand$Ladder" "rungs" "I", Cond.constant RX3 65 (1000000), Cond.methodLink RX3 66 yX10_needsMending, Cond.methodLink RX3 70 yX3_foreseesBreak, Cond.methodLink RL 99 yX12_mending, Cond.instanceMethod yX12_mending, Cond.selects RX12 yX12_mending yX12_mending, Cond.code yX12_mending cX12_mending 6 (some .int), Cond.methodLink RL 100 yX11_capital, Cond.instanceMethod yX11_capital, Cond.selects RX11 yX11_capital yX11_capital, Cond.code yX11_capital cX11_capital 1 (some .int), Cond.methodLink RX11 269 yX10_fullestRung, Cond.instanceMethod yX10_fullestRung, Cond.selects RX10 yX10_fullestRung yX10_fullestRung, Cond.code yX10_fullestRung cX10_fullestRung 5 (some .int), Cond.methodLink RL 103 yX12_capital]
def wsL_law_r53 : List Cond := [Cond.instanceMethod yX12_capital, Cond.selects RX12 yX12_capital yX12_capital, Cond.code yX12_capital cX12_capital 1 (some .int), Cond.methodLink RX12 464 yX12_capitalNow, Cond.instanceMethod yX12_capitalNow, Cond.selects RX12 yX12_capitalNow yX12_capitalNow, Cond.code yX12_capitalNow cX12_capitalNow 4 (some .int), Cond.methodLink RL 104 yX11_ballot, Cond.instanceMethod yX11_ballot, Cond.selects RX11 yX11_ballot yX11_ballot, Cond.code yX11_ballot cX11_ballot 1 (some .int), Cond.methodLink RX11 273 yX7_possibleCapitals, Cond.instanceMethod yX7_possibleCapitals, Cond.selects RX7 yX7_possibleCapitals yX7_possibleCapitals, Cond.code yX7_possibleCapitals cX7_possibleCapitals 7 (some .int), Cond.fieldLink RX7 25 "LadderLand$World" "ladder" "LLadderLand$Ladder;", Cond.fieldLink RX7 29 "LadderLand$Ladder" "people" "I", Cond.fieldLink RX7 35 "LadderLand$World" "rung" "[I", Cond.methodLink RX7 15 yX10_copyFrom, Cond.methodLink RX7 21 yX7_capitalBit, Cond.instanceMethod yX7_capitalBit, Cond.selects RX7 yX7_capitalBit yX7_capitalBit, Cond.code yX7_capitalBit cX7_capitalBit 2 (some .int), Cond.methodLink RX7 43 yX10_fullestRung]
def wsL_law_r54 : List Cond := [Cond.methodLink RX7 39 yX7_goalOf, Cond.instanceMethod yX7_goalOf, Cond.selects RX7 yX7_goalOf yX7_goalOf, Cond.code yX7_goalOf cX7_goalOf 2 (some .int), Cond.methodLink RX7 46 yX10_stepGoal, Cond.methodLink RL 107 yX12_ballot, Cond.instanceMethod yX12_ballot, Cond.selects RX12 yX12_ballot yX12_ballot, Cond.code yX12_ballot cX12_ballot 6 (some .int), Cond.methodLink RL 108 yX11_hold, Cond.instanceMethod yX11_hold, Cond.selects RX11 yX11_hold yX11_hold, Cond.code yX11_hold cX11_hold 4 (some .int), Cond.fieldLink RX11 281 "LadderLand$Siege" "firstStep" "I", Cond.methodLink RX11 277 yX7_lowestHeight, Cond.instanceMethod yX7_lowestHeight, Cond.selects RX7 yX7_lowestHeight yX7_lowestHeight, Cond.code yX7_lowestHeight cX7_lowestHeight 3 (some .int), Cond.methodLink RX7 50 yX7_defend, Cond.instanceMethod yX7_defend, Cond.selects RX7 yX7_defend yX7_defend, Cond.code yX7_defend cX7_defend 10 (some .int), Cond.fieldLink RX7 56 "LadderLand$Siege" "firstStep" "I", Cond.methodLink RX7 53 yX7_letClimb]
def wsL_law_r55 : List Cond := [Cond.instanceMethod yX7_letClimb, Cond.selects RX7 yX7_letClimb yX7_letClimb, Cond.code yX7_letClimb cX7_letClimb 5 (some .int), Cond.fieldLink RX7 59 "LadderLand$Ladder" "rungs" "I", Cond.methodLink RX7 62 yX10_hasRoom, Cond.methodLink RL 111 yX12_hold, Cond.instanceMethod yX12_hold, Cond.selects RX12 yX12_hold yX12_hold, Cond.code yX12_hold cX12_hold 8 (some .int), Cond.constantLong RX12 470 (4), Cond.methodLink RX12 467 yX12_power, Cond.static yX12_power, Cond.code yX12_power cX12_power 4 (some .int), Cond.methodLink RX12 472 yX12_heightBy, Cond.instanceMethod yX12_heightBy, Cond.selects RX12 yX12_heightBy yX12_heightBy, Cond.code yX12_heightBy cX12_heightBy 8 (some .int), Cond.methodLink RL 112 yX11_goods, Cond.instanceMethod yX11_goods, Cond.selects RX11 yX11_goods yX11_goods, Cond.code yX11_goods cX11_goods 3 (some .int), Cond.methodLink RX11 284 yX3_goodsHour, Cond.instanceMethod yX3_goodsHour, Cond.selects RX3 yX3_goodsHour yX3_goodsHour]
def wsL_law_r56 : List Cond := [Cond.code yX3_goodsHour cX3_goodsHour 9 (some .int), Cond.methodLink RX3 74 yX10_crowdOn, Cond.methodLink RL 115 yX12_goods, Cond.instanceMethod yX12_goods, Cond.selects RX12 yX12_goods yX12_goods, Cond.code yX12_goods cX12_goods 7 (some .int), Cond.methodLink RL 116 yX11_stand, Cond.instanceMethod yX11_stand, Cond.selects RX11 yX11_stand yX11_stand, Cond.code yX11_stand cX11_stand 3 (some .int), Cond.methodLink RX11 288 yX10_hoursBorne, Cond.instanceMethod yX10_hoursBorne, Cond.selects RX10 yX10_hoursBorne yX10_hoursBorne, Cond.code yX10_hoursBorne cX10_hoursBorne 5 (some .int), Cond.methodLink RX10 103 yX10_weightOn, Cond.methodLink RL 119 yX12_stand, Cond.instanceMethod yX12_stand, Cond.selects RX12 yX12_stand yX12_stand, Cond.code yX12_stand cX12_stand 5 (some .int), Cond.constantLong RX12 475 (20), Cond.methodLink RL 120 yX11_note, Cond.instanceMethod yX11_note, Cond.selects RX11 yX11_note yX11_note, Cond.code yX11_note cX11_note 4 (some .int)]
def wsL_law_r57 : List Cond := [Cond.methodLink RX11 291 yX8_addNote, Cond.instanceMethod yX8_addNote, Cond.selects RX8 yX8_addNote yX8_addNote, Cond.code yX8_addNote cX8_addNote 4 (some .int), Cond.fieldLink RX8 41 "LadderLand$State" "notes" "I", Cond.methodLink RL 123 yX12_note, Cond.instanceMethod yX12_note, Cond.selects RX12 yX12_note yX12_note, Cond.code yX12_note cX12_note 5 (some .int), Cond.constantLong RX12 477 (60), Cond.methodLink RL 124 yX11_ruled, Cond.instanceMethod yX11_ruled, Cond.selects RX11 yX11_ruled yX11_ruled, Cond.code yX11_ruled cX11_ruled 2 (some .int), Cond.fieldLink RX11 299 "LadderLand$Outlook" "fittingCount" "I", Cond.fieldLink RX11 302 "LadderLand$Outlook" "firstFitting" "I", Cond.methodLink RX11 295 yX3_tryRules, Cond.instanceMethod yX3_tryRules, Cond.selects RX3 yX3_tryRules yX3_tryRules, Cond.code yX3_tryRules cX3_tryRules 6 none, Cond.fieldLink RX3 78 "LadderLand$Outlook" "fittingCount" "I", Cond.fieldLink RX3 81 "LadderLand$Outlook" "firstFitting" "I", Cond.methodLink RX3 84 yX3_fits, Cond.instanceMethod yX3_fits]
def wsL_law_r58 : List Cond := [Cond.selects RX3 yX3_fits yX3_fits, Cond.code yX3_fits cX3_fits 6 (some .boolean), Cond.fieldLink RX3 88 "LadderLand$State" "world" "LLadderLand$World;", Cond.methodLink RX3 101 Lib.Math.max.name, Cond.methodLink RX3 93 yX10_begin, Cond.methodLink RX3 97 yX8_lastNotedHour, Cond.instanceMethod yX8_lastNotedHour, Cond.selects RX8 yX8_lastNotedHour yX8_lastNotedHour, Cond.code yX8_lastNotedHour cX8_lastNotedHour 3 (some .int), Cond.methodLink RX8 50 Lib.Math.max.name, Cond.methodLink RX3 107 yX8_isAsNoted, Cond.instanceMethod yX8_isAsNoted, Cond.selects RX8 yX8_isAsNoted yX8_isAsNoted, Cond.code yX8_isAsNoted cX8_isAsNoted 3 (some .boolean), Cond.fieldLink RX8 56 "LadderLand$World" "hour" "I", Cond.methodLink RX8 59 yX10_crowdOn, Cond.methodLink RX3 111 yX3_keepCrowds, Cond.instanceMethod yX3_keepCrowds, Cond.selects RX3 yX3_keepCrowds yX3_keepCrowds, Cond.code yX3_keepCrowds cX3_keepCrowds 3 none, Cond.methodLink RL 127 yX12_ruled, Cond.instanceMethod yX12_ruled, Cond.selects RX12 yX12_ruled yX12_ruled, Cond.code yX12_ruled cX12_ruled 5 (some .int)]
def wsL_law_r59 : List Cond := [Cond.methodLink RX12 485 yX12_fillsFits, Cond.instanceMethod yX12_fillsFits, Cond.selects RX12 yX12_fillsFits yX12_fillsFits, Cond.code yX12_fillsFits cX12_fillsFits 7 none, Cond.methodLink RX12 479 yX12_begins, Cond.instanceMethod yX12_begins, Cond.selects RX12 yX12_begins yX12_begins, Cond.code yX12_begins cX12_begins 2 none, Cond.methodLink RX12 482 yX12_areNotesSo, Cond.instanceMethod yX12_areNotesSo, Cond.selects RX12 yX12_areNotesSo yX12_areNotesSo, Cond.code yX12_areNotesSo cX12_areNotesSo 2 (some .boolean), Cond.methodLink RL 128 yX11_look, Cond.instanceMethod yX11_look, Cond.selects RX11 yX11_look yX11_look, Cond.code yX11_look cX11_look 3 (some .int), Cond.fieldLink RX11 311 "LadderLand$Outlook" "partingRung" "I", Cond.fieldLink RX11 314 "LadderLand$Outlook" "mostAlike" "I", Cond.methodLink RX11 308 yX3_findPartingRung, Cond.instanceMethod yX3_findPartingRung, Cond.selects RX3 yX3_findPartingRung yX3_findPartingRung, Cond.code yX3_findPartingRung cX3_findPartingRung 4 none, Cond.fieldLink RX3 114 "LadderLand$Outlook" "partingRung" "I", Cond.fieldLink RX3 117 "LadderLand$Outlook" "mostAlike" "I"]
def wsL_law_r60 : List Cond := [Cond.methodLink RX3 120 yX3_largestGroup, Cond.instanceMethod yX3_largestGroup, Cond.selects RX3 yX3_largestGroup yX3_largestGroup, Cond.code yX3_largestGroup cX3_largestGroup 6 (some .int), Cond.methodLink RL 131 yX12_look, Cond.instanceMethod yX12_look, Cond.selects RX12 yX12_look yX12_look, Cond.code yX12_look cX12_look 5 (some .int), Cond.methodLink RX12 488 yX12_alikeAt, Cond.instanceMethod yX12_alikeAt, Cond.selects RX12 yX12_alikeAt yX12_alikeAt, Cond.code yX12_alikeAt cX12_alikeAt 6 (some .int), Cond.methodLink RL 132 yX11_seed, Cond.instanceMethod yX11_seed, Cond.selects RX11 yX11_seed yX11_seed, Cond.code yX11_seed cX11_seed 3 (some .int), Cond.fieldLink RX11 317 "LadderLand$State" "x" "I", Cond.methodLink RL 135 yX12_seed, Cond.instanceMethod yX12_seed, Cond.selects RX12 yX12_seed yX12_seed, Cond.code yX12_seed cX12_seed 3 (some .int), Cond.fieldLink RX12 491 "LadderLandModel" "x" "I", Cond.methodLink RL 136 yX11_years, Cond.instanceMethod yX11_years]
def wsL_law_r61 : List Cond := [Cond.selects RX11 yX11_years yX11_years, Cond.code yX11_years cX11_years 5 (some .int), Cond.fieldLink RX11 324 "LadderLand$Outlook" "windSlips" "I", Cond.fieldLink RX11 327 "LadderLand$Outlook" "windFalls" "I", Cond.methodLink RX11 320 yX3_blow, Cond.instanceMethod yX3_blow, Cond.selects RX3 yX3_blow yX3_blow, Cond.code yX3_blow cX3_blow 9 none, Cond.fieldLink RX3 123 "LadderLand$State" "x" "I", Cond.fieldLink RX3 126 "LadderLand$Outlook" "windX" "I", Cond.fieldLink RX3 129 "LadderLand$Outlook" "windSlips" "I", Cond.fieldLink RX3 132 "LadderLand$Outlook" "windFalls" "I", Cond.methodLink RX3 135 yX10_whoIsLeft, Cond.methodLink RX3 138 yJ6_bitCount_0f7a4, Cond.static yJ6_bitCount_0f7a4, Cond.code yJ6_bitCount_0f7a4 cJ6_bitCount_0f7a4 1 (some .int), Cond.constant RJ6 265 (1431655765), Cond.constant RJ6 266 (858993459), Cond.constant RJ6 267 (252645135), Cond.methodLink RX3 143 yX3_loosen, Cond.instanceMethod yX3_loosen, Cond.selects RX3 yX3_loosen yX3_loosen, Cond.code yX3_loosen cX3_loosen 3 none, Cond.fieldLink RX3 146 "LadderLand$Ladder" "people" "I"]
def wsL_law_r62 : List Cond := [Cond.fieldLink RX3 155 "LadderLand$World" "grip" "[I", Cond.methodLink RX3 149 yX10_hasFallen, Cond.methodLink RX3 152 yX3_draw, Cond.instanceMethod yX3_draw, Cond.selects RX3 yX3_draw yX3_draw, Cond.code yX3_draw cX3_draw 1 (some .int), Cond.constantLong RX3 158 (1103515245), Cond.constantLong RX3 160 (12345), Cond.constantLong RX3 162 (2147483648), Cond.constant RX3 164 (65536), Cond.methodLink RL 140 yX12_years, Cond.instanceMethod yX12_years, Cond.selects RX12 yX12_years yX12_years, Cond.code yX12_years cX12_years 12 (some .int), Cond.constantLong RX12 506 (10), Cond.fieldLink RX12 494 "LadderLandModel" "drawX" "J", Cond.methodLink RX12 508 yX12_fallen, Cond.instanceMethod yX12_fallen, Cond.selects RX12 yX12_fallen yX12_fallen, Cond.code yX12_fallen cX12_fallen 3 (some .int), Cond.methodLink RX12 511 yX12_draw, Cond.instanceMethod yX12_draw, Cond.selects RX12 yX12_draw yX12_draw, Cond.code yX12_draw cX12_draw 2 (some .int)]
def wsL_law_r63 : List Cond := [Cond.constantLong RX12 498 (1103515245), Cond.constantLong RX12 500 (12345), Cond.constantLong RX12 502 (2147483648), Cond.constantLong RX12 504 (65536), Cond.methodLink RL 141 yX11_count, Cond.instanceMethod yX11_count, Cond.selects RX11 yX11_count yX11_count, Cond.code yX11_count cX11_count 3 (some .int), Cond.fieldLink RX11 333 "LadderLand$World" "broken" "I", Cond.methodLink RX11 330 yX10_whoIsLeft, Cond.methodLink RX11 336 yX10_allSlips, Cond.instanceMethod yX10_allSlips, Cond.selects RX10 yX10_allSlips yX10_allSlips, Cond.code yX10_allSlips cX10_allSlips 3 (some .int), Cond.methodLink RX11 339 yX10_allWorn, Cond.instanceMethod yX10_allWorn, Cond.selects RX10 yX10_allWorn yX10_allWorn, Cond.code yX10_allWorn cX10_allWorn 3 (some .int), Cond.methodLink RL 144 yX12_count, Cond.instanceMethod yX12_count, Cond.selects RX12 yX12_count yX12_count, Cond.code yX12_count cX12_count 4 (some .int), Cond.methodLink RL 145 yX11_image, Cond.instanceMethod yX11_image]
def wsL_law_r64 : List Cond := [Cond.selects RX11 yX11_image yX11_image, Cond.code yX11_image cX11_image 2 (some .int), Cond.fieldLink RX11 345 "LadderLand$State" "made" "Z", Cond.methodLink RX11 342 yX8_copyFrom, Cond.instanceMethod yX8_copyFrom, Cond.selects RX8 yX8_copyFrom yX8_copyFrom, Cond.code yX8_copyFrom cX8_copyFrom 2 none, Cond.fieldLink RX8 38 "LadderLand$State" "x" "I", Cond.methodLink RX8 44 arraycopyName, Cond.methodLink RX8 34 yX10_copyFrom, Cond.methodLink RL 148 yX12_image, Cond.instanceMethod yX12_image, Cond.selects RX12 yX12_image yX12_image, Cond.code yX12_image cX12_image 3 (some .int), Cond.constantLong RX12 514 (3), Cond.methodLink RL 149 yX11_back, Cond.instanceMethod yX11_back, Cond.selects RX11 yX11_back yX11_back, Cond.code yX11_back cX11_back 2 (some .int), Cond.methodLink RL 152 yX12_back, Cond.instanceMethod yX12_back, Cond.selects RX12 yX12_back yX12_back, Cond.code yX12_back cX12_back 3 (some .int)]
def wsL_law : List Cond := (wsL_law_r1 ++ (wsL_law_r2 ++ (wsL_law_r3 ++ (wsL_law_r4 ++ (wsL_law_r5 ++ (wsL_law_r6 ++ (wsL_law_r7 ++ (wsL_law_r8 ++ (wsL_law_r9 ++ (wsL_law_r10 ++ (wsL_law_r11 ++ (wsL_law_r12 ++ (wsL_law_r13 ++ (wsL_law_r14 ++ (wsL_law_r15 ++ (wsL_law_r16 ++ (wsL_law_r17 ++ (wsL_law_r18 ++ (wsL_law_r19 ++ (wsL_law_r20 ++ (wsL_law_r21 ++ (wsL_law_r22 ++ (wsL_law_r23 ++ (wsL_law_r24 ++ (wsL_law_r25 ++ (wsL_law_r26 ++ (wsL_law_r27 ++ (wsL_law_r28 ++ (wsL_law_r29 ++ (wsL_law_r30 ++ (wsL_law_r31 ++ (wsL_law_r32 ++ (wsL_law_r33 ++ (wsL_law_r34 ++ (wsL_law_r35 ++ (wsL_law_r36 ++ (wsL_law_r37 ++ (wsL_law_r38 ++ (wsL_law_r39 ++ (wsL_law_r40 ++ (wsL_law_r41 ++ (wsL_law_r42 ++ (wsL_law_r43 ++ (wsL_law_r44 ++ (wsL_law_r45 ++ (wsL_law_r46 ++ (wsL_law_r47 ++ (wsL_law_r48 ++ (wsL_law_r49 ++ (wsL_law_r50 ++ (wsL_law_r51 ++ (wsL_law_r52 ++ (wsL_law_r53 ++ (wsL_law_r54 ++ (wsL_law_r55 ++ (wsL_law_r56 ++ (wsL_law_r57 ++ (wsL_law_r58 ++ (wsL_law_r59 ++ (wsL_law_r60 ++ (wsL_law_r61 ++ (wsL_law_r62 ++ (wsL_law_r63 ++ wsL_law_r64))))))))))))))))))))))))))))))))))))))))))))))))))))))))))))))) ++ wsX110 ++ wsX120 ++ wsX10 ++ wsX90 ++ wsX20 ++ wsX60 ++ wsX80 ++ wsX100 ++ wsX00 ++ wsX30 ++ wsX40 ++ wsX70 ++ wsX50 ++ ([] : List Cond)
theorem inlX0 : ∀ w ∈ wsX00, w ∈ wsL_law := fun _ h => List.mem_append_left _ (List.mem_append_left _ (List.mem_append_left _ (List.mem_append_left _ (List.mem_append_left _ (List.mem_append_right _ h)))))
theorem inlX1 : ∀ w ∈ wsX10, w ∈ wsL_law := fun _ h => List.mem_append_left _ (List.mem_append_left _ (List.mem_append_left _ (List.mem_append_left _ (List.mem_append_left _ (List.mem_append_left _ (List.mem_append_left _ (List.mem_append_left _ (List.mem_append_left _ (List.mem_append_left _ (List.mem_append_left _ (List.mem_append_right _ h)))))))))))
theorem inlX2 : ∀ w ∈ wsX20, w ∈ wsL_law := fun _ h => List.mem_append_left _ (List.mem_append_left _ (List.mem_append_left _ (List.mem_append_left _ (List.mem_append_left _ (List.mem_append_left _ (List.mem_append_left _ (List.mem_append_left _ (List.mem_append_left _ (List.mem_append_right _ h)))))))))
theorem inlX3 : ∀ w ∈ wsX30, w ∈ wsL_law := fun _ h => List.mem_append_left _ (List.mem_append_left _ (List.mem_append_left _ (List.mem_append_left _ (List.mem_append_right _ h))))
theorem inlX4 : ∀ w ∈ wsX40, w ∈ wsL_law := fun _ h => List.mem_append_left _ (List.mem_append_left _ (List.mem_append_left _ (List.mem_append_right _ h)))
theorem inlX5 : ∀ w ∈ wsX50, w ∈ wsL_law := fun _ h => List.mem_append_left _ (List.mem_append_right _ h)
theorem inlX6 : ∀ w ∈ wsX60, w ∈ wsL_law := fun _ h => List.mem_append_left _ (List.mem_append_left _ (List.mem_append_left _ (List.mem_append_left _ (List.mem_append_left _ (List.mem_append_left _ (List.mem_append_left _ (List.mem_append_left _ (List.mem_append_right _ h))))))))
theorem inlX7 : ∀ w ∈ wsX70, w ∈ wsL_law := fun _ h => List.mem_append_left _ (List.mem_append_left _ (List.mem_append_right _ h))
theorem inlX8 : ∀ w ∈ wsX80, w ∈ wsL_law := fun _ h => List.mem_append_left _ (List.mem_append_left _ (List.mem_append_left _ (List.mem_append_left _ (List.mem_append_left _ (List.mem_append_left _ (List.mem_append_left _ (List.mem_append_right _ h)))))))
theorem inlX9 : ∀ w ∈ wsX90, w ∈ wsL_law := fun _ h => List.mem_append_left _ (List.mem_append_left _ (List.mem_append_left _ (List.mem_append_left _ (List.mem_append_left _ (List.mem_append_left _ (List.mem_append_left _ (List.mem_append_left _ (List.mem_append_left _ (List.mem_append_left _ (List.mem_append_right _ h))))))))))
theorem inlX10 : ∀ w ∈ wsX100, w ∈ wsL_law := fun _ h => List.mem_append_left _ (List.mem_append_left _ (List.mem_append_left _ (List.mem_append_left _ (List.mem_append_left _ (List.mem_append_left _ (List.mem_append_right _ h))))))
theorem inlX11 : ∀ w ∈ wsX110, w ∈ wsL_law := fun _ h => List.mem_append_left _ (List.mem_append_left _ (List.mem_append_left _ (List.mem_append_left _ (List.mem_append_left _ (List.mem_append_left _ (List.mem_append_left _ (List.mem_append_left _ (List.mem_append_left _ (List.mem_append_left _ (List.mem_append_left _ (List.mem_append_left _ (List.mem_append_left _ (List.mem_append_right _ h)))))))))))))
theorem inlX12 : ∀ w ∈ wsX120, w ∈ wsL_law := fun _ h => List.mem_append_left _ (List.mem_append_left _ (List.mem_append_left _ (List.mem_append_left _ (List.mem_append_left _ (List.mem_append_left _ (List.mem_append_left _ (List.mem_append_left _ (List.mem_append_left _ (List.mem_append_left _ (List.mem_append_left _ (List.mem_append_left _ (List.mem_append_right _ h))))))))))))
theorem inJx145de : ∀ w ∈ wsJx145de0, w ∈ lw_tbl := by decide +kernel
theorem inJx9f9b0 : ∀ w ∈ wsJx9f9b00, w ∈ lw_tbl := by decide +kernel
theorem inJx8e188 : ∀ w ∈ wsJx8e1880, w ∈ lw_tbl := by decide +kernel
theorem inJxb160c : ∀ w ∈ wsJxb160c0, w ∈ lw_tbl := by decide +kernel
theorem inJxfd54e : ∀ w ∈ wsJxfd54e0, w ∈ lw_tbl := by decide +kernel
theorem inJx3cf43 : ∀ w ∈ wsJx3cf430, w ∈ lw_tbl := by decide +kernel
set_option maxRecDepth 20000 in
theorem ggJ0_length_8abf5_J0_coder_7d493 : GoodIn wsJ0_length_8abf5 wsJ0_coder_7d493 := goodIn_r _ [6, 7, 8] (by decide +kernel) (by decide +kernel)
set_option maxRecDepth 20000 in
theorem gJ0_length_8abf5_J0_coder_7d493 : GoodIn wsJ0_length_8abf5 (wsV RJ0 335 RJ0 yJ0_coder_7d493 wsJ0_coder_7d493) := goodIn_app (goodIn_of _ (by decide +kernel)) ggJ0_length_8abf5_J0_coder_7d493
set_option maxRecDepth 20000 in
theorem ggJ0_charAt_5068e_J0_isLatin1_aae02 : GoodIn wsJ0_charAt_5068e wsJ0_isLatin1_aae02 := goodIn_r _ [6, 7, 8] (by decide +kernel) (by decide +kernel)
set_option maxRecDepth 20000 in
theorem gJ0_charAt_5068e_J0_isLatin1_aae02 : GoodIn wsJ0_charAt_5068e (wsV RJ0 492 RJ0 yJ0_isLatin1_aae02 wsJ0_isLatin1_aae02) := goodIn_app (goodIn_of _ (by decide +kernel)) ggJ0_charAt_5068e_J0_isLatin1_aae02
set_option maxRecDepth 20000 in
theorem ggJ0_charAt_5068e_J1_charAt_3b067 : GoodIn wsJ0_charAt_5068e wsJ1_charAt_3b067 := goodIn_r _ [12, 13, 14, 5, 15, 16, 17, 18, 19, 20] (by decide +kernel) (by decide +kernel)
set_option maxRecDepth 20000 in
theorem gJ0_charAt_5068e_J1_charAt_3b067 : GoodIn wsJ0_charAt_5068e (va_wsS RJ0 495 yJ1_charAt_3b067 wsJ1_charAt_3b067) := goodIn_app (goodIn_of _ (by decide +kernel)) ggJ0_charAt_5068e_J1_charAt_3b067
set_option maxRecDepth 20000 in
theorem ggJ0_charAt_5068e_J2_charAt_3b067 : GoodIn wsJ0_charAt_5068e wsJ2_charAt_3b067 := goodIn_r _ [24, 25, 26, 23, 27, 28, 29, 30, 31, 14, 5, 15, 16, 17, 18, 19, 20, 32, 33, 34, 35, 36, 37] (by decide +kernel) (by decide +kernel)
set_option maxRecDepth 20000 in
theorem gJ0_charAt_5068e_J2_charAt_3b067 : GoodIn wsJ0_charAt_5068e (va_wsS RJ0 498 yJ2_charAt_3b067 wsJ2_charAt_3b067) := goodIn_app (goodIn_of _ (by decide +kernel)) ggJ0_charAt_5068e_J2_charAt_3b067
set_option maxRecDepth 20000 in
theorem ggJ0_checkIndex_df160_J3_checkIndex_8e157 : GoodIn wsJ0_checkIndex_df160 wsJ3_checkIndex_8e157 := goodIn_r _ [5] (by decide +kernel) (by decide +kernel)
set_option maxRecDepth 20000 in
theorem gJ0_checkIndex_df160_J3_checkIndex_8e157 : GoodIn wsJ0_checkIndex_df160 (va_wsS RJ0 1059 yJ3_checkIndex_8e157 wsJ3_checkIndex_8e157) := goodIn_app (goodIn_of _ (by decide +kernel)) ggJ0_checkIndex_df160_J3_checkIndex_8e157
set_option maxRecDepth 20000 in
theorem ggJ1_charAt_3b067_J0_checkIndex_df160 : GoodIn wsJ1_charAt_3b067 wsJ0_checkIndex_df160 := goodIn_r _ [4, 5, 6, 7, 8, 9] (by decide +kernel) (by decide +kernel)
set_option maxRecDepth 20000 in
theorem gJ1_charAt_3b067_J0_checkIndex_df160 : GoodIn wsJ1_charAt_3b067 (va_wsS RJ1 9 yJ0_checkIndex_df160 wsJ0_checkIndex_df160) := goodIn_app (goodIn_of _ (by decide +kernel)) ggJ1_charAt_3b067_J0_checkIndex_df160
set_option maxRecDepth 20000 in
theorem ggJ2_getChar_3b067_J2_length_9d52b : GoodIn wsJ2_getChar_3b067 wsJ2_length_9d52b := goodIn_r _ [7] (by decide +kernel) (by decide +kernel)
set_option maxRecDepth 20000 in
theorem gJ2_getChar_3b067_J2_length_9d52b : GoodIn wsJ2_getChar_3b067 (va_wsS RJ2 48 yJ2_length_9d52b wsJ2_length_9d52b) := goodIn_app (goodIn_of _ (by decide +kernel)) ggJ2_getChar_3b067_J2_length_9d52b
set_option maxRecDepth 20000 in
theorem ggJ2_charAt_3b067_J2_checkIndex_2214a : GoodIn wsJ2_charAt_3b067 wsJ2_checkIndex_2214a := goodIn_r _ [4, 5, 6, 3, 7, 8, 9, 10, 11, 12, 13, 14, 15, 16] (by decide +kernel) (by decide +kernel)
set_option maxRecDepth 20000 in
theorem gJ2_charAt_3b067_J2_checkIndex_2214a : GoodIn wsJ2_charAt_3b067 (va_wsS RJ2 67 yJ2_checkIndex_2214a wsJ2_checkIndex_2214a) := goodIn_app (goodIn_of _ (by decide +kernel)) ggJ2_charAt_3b067_J2_checkIndex_2214a
set_option maxRecDepth 20000 in
theorem ggJ2_charAt_3b067_J2_getChar_3b067 : GoodIn wsJ2_charAt_3b067 wsJ2_getChar_3b067 := goodIn_r _ [19, 20, 21, 22, 5, 6, 3, 7] (by decide +kernel) (by decide +kernel)
set_option maxRecDepth 20000 in
theorem gJ2_charAt_3b067_J2_getChar_3b067 : GoodIn wsJ2_charAt_3b067 (va_wsS RJ2 71 yJ2_getChar_3b067 wsJ2_getChar_3b067) := goodIn_app (goodIn_of _ (by decide +kernel)) ggJ2_charAt_3b067_J2_getChar_3b067
set_option maxRecDepth 20000 in
theorem ggJ2_checkIndex_2214a_J2_length_9d52b : GoodIn wsJ2_checkIndex_2214a wsJ2_length_9d52b := goodIn_r _ [4] (by decide +kernel) (by decide +kernel)
set_option maxRecDepth 20000 in
theorem gJ2_checkIndex_2214a_J2_length_9d52b : GoodIn wsJ2_checkIndex_2214a (va_wsS RJ2 48 yJ2_length_9d52b wsJ2_length_9d52b) := goodIn_app (goodIn_of _ (by decide +kernel)) ggJ2_checkIndex_2214a_J2_length_9d52b
set_option maxRecDepth 20000 in
theorem ggJ2_checkIndex_2214a_J0_checkIndex_df160 : GoodIn wsJ2_checkIndex_2214a wsJ0_checkIndex_df160 := goodIn_r _ [8, 9, 10, 11, 12, 13] (by decide +kernel) (by decide +kernel)
set_option maxRecDepth 20000 in
theorem gJ2_checkIndex_2214a_J0_checkIndex_df160 : GoodIn wsJ2_checkIndex_2214a (va_wsS RJ2 414 yJ0_checkIndex_df160 wsJ0_checkIndex_df160) := goodIn_app (goodIn_of _ (by decide +kernel)) ggJ2_checkIndex_2214a_J0_checkIndex_df160
abbrev vwCl : List vw_C := [(RX0, TX0, 4), (RX1, TX1, 9), (RX2, TX2, 1), (RX3, TX3, 14), (RX4, TX4, 12), (RX5, TX5, 5), (RX6, TX6, 7), (RX7, TX7, 2), (RX8, TX8, 8), (RX9, TX9, 7), (RX10, TX10, 8), (RX11, TX11, 14), (RX12, TX12, 43)]
