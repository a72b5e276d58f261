/-- the words that a method keeps through its calls -/
def lwT : List Cond := lw_tbl.filter goodWord
theorem tn1 {w : Cond} (h : w ∈ tables_1_1) : w ∈ lw_tbl := List.mem_append_right _ (show w ∈ tables_1 from List.mem_append_left _ h)
theorem tb1 {w : Cond} (h : w ∈ tables_1_1) (g : goodWord w = true) : w ∈ lwT := List.mem_filter.mpr ⟨tn1 h, g⟩
theorem tn2 {w : Cond} (h : w ∈ tables_1_2) : w ∈ lw_tbl := List.mem_append_right _ (show w ∈ tables_1 from List.mem_append_right _ (List.mem_append_left _ h))
theorem tb2 {w : Cond} (h : w ∈ tables_1_2) (g : goodWord w = true) : w ∈ lwT := List.mem_filter.mpr ⟨tn2 h, g⟩
theorem tn3 {w : Cond} (h : w ∈ tables_1_3) : w ∈ lw_tbl := List.mem_append_right _ (show w ∈ tables_1 from List.mem_append_right _ (List.mem_append_right _ (List.mem_append_left _ h)))
theorem tb3 {w : Cond} (h : w ∈ tables_1_3) (g : goodWord w = true) : w ∈ lwT := List.mem_filter.mpr ⟨tn3 h, g⟩
theorem tn4 {w : Cond} (h : w ∈ tables_1_4) : w ∈ lw_tbl := List.mem_append_right _ (show w ∈ tables_1 from List.mem_append_right _ (List.mem_append_right _ (List.mem_append_right _ (List.mem_append_left _ h))))
theorem tb4 {w : Cond} (h : w ∈ tables_1_4) (g : goodWord w = true) : w ∈ lwT := List.mem_filter.mpr ⟨tn4 h, g⟩
theorem tn5 {w : Cond} (h : w ∈ tables_1_5) : w ∈ lw_tbl := List.mem_append_right _ (show w ∈ tables_1 from List.mem_append_right _ (List.mem_append_right _ (List.mem_append_right _ (List.mem_append_right _ (List.mem_append_left _ h)))))
theorem tb5 {w : Cond} (h : w ∈ tables_1_5) (g : goodWord w = true) : w ∈ lwT := List.mem_filter.mpr ⟨tn5 h, g⟩
theorem tn6 {w : Cond} (h : w ∈ tables_1_6) : w ∈ lw_tbl := List.mem_append_right _ (show w ∈ tables_1 from List.mem_append_right _ (List.mem_append_right _ (List.mem_append_right _ (List.mem_append_right _ (List.mem_append_right _ (h))))))
theorem tb6 {w : Cond} (h : w ∈ tables_1_6) (g : goodWord w = true) : w ∈ lwT := List.mem_filter.mpr ⟨tn6 h, g⟩
theorem tb0 {w : Cond} (h : w ∈ k2_sels lw_privs) (g : goodWord w = true) : w ∈ lwT := List.mem_filter.mpr ⟨List.mem_append_left _ h, g⟩
def RX0 : String := "ChainBooks$Auditor"
def TX0 : u_T := fun k => match k with
  | 0 => ("ChainBooks$Auditor", "mirror", "LChainBooks$Ledger;", true)
  | _ => ("ChainBooks$Auditor", "legs", "LChainBooks$Legs;", true)
def tyX0 : Nat → FieldType := fun k => match k with
  | 0 => .object "ChainBooks$Ledger"
  | _ => .object "ChainBooks$Legs"
abbrev wsX00 : List Cond := u_ws RX0 TX0 2
theorem nmX0 : ∀ a, a < 2 → ∀ b, b < 2 → a ≠ b → (TX0 a).2.1 ≠ (TX0 b).2.1 := by decide +kernel
theorem tyX0_ok : ∀ k, k < 2 → parseFieldDescriptor (TX0 k).2.2.1 = some (tyX0 k) := by decide +kernel
abbrev cX0_init : ByteArray := prog_2_method_1_code
def yX0_init : MethodName := ⟨RX0, "<init>", "()V"⟩
abbrev cX0_firstBad : ByteArray := prog_2_method_2_code
def yX0_firstBad : MethodName := ⟨RX0, "firstBad", "(LChainBooks$Pages;[I)I"⟩
abbrev cX0_hasToStand : ByteArray := prog_2_method_3_code
def yX0_hasToStand : MethodName := ⟨RX0, "hasToStand", "(LChainBooks$Pages;I)Z"⟩
abbrev cX0_callAgain : ByteArray := prog_2_method_4_code
def yX0_callAgain : MethodName := ⟨RX0, "callAgain", "(LChainBooks$Pages;I)V"⟩
abbrev cX0_readLegs : ByteArray := prog_2_method_5_code
def yX0_readLegs : MethodName := ⟨RX0, "readLegs", "(LChainBooks$Pages;I)Z"⟩
abbrev cX0_stands : ByteArray := prog_2_method_6_code
def yX0_stands : MethodName := ⟨RX0, "stands", "(LChainBooks$Pages;I)Z"⟩
def RX1 : String := "ChainBooks$Draft"
def TX1 : u_T := fun k => match k with
  | 0 => ("ChainBooks$Draft", "bytes", "[B", true)
  | _ => ("ChainBooks$Draft", "size", "I", false)
def tyX1 : Nat → FieldType := fun k => match k with
  | 0 => .array .byte
  | _ => .int
abbrev wsX10 : List Cond := u_ws RX1 TX1 2
theorem nmX1 : ∀ a, a < 2 → ∀ b, b < 2 → a ≠ b → (TX1 a).2.1 ≠ (TX1 b).2.1 := by decide +kernel
theorem tyX1_ok : ∀ k, k < 2 → parseFieldDescriptor (TX1 k).2.2.1 = some (tyX1 k) := by decide +kernel
abbrev cX1_init : ByteArray := prog_3_method_1_code
def yX1_init : MethodName := ⟨RX1, "<init>", "()V"⟩
abbrev cX1_begin : ByteArray := prog_3_method_2_code
def yX1_begin : MethodName := ⟨RX1, "begin", "(I)V"⟩
abbrev cX1_beginKeyed : ByteArray := prog_3_method_3_code
def yX1_beginKeyed : MethodName := ⟨RX1, "beginKeyed", "(IJ)V"⟩
abbrev cX1_add : ByteArray := prog_3_method_4_code
def yX1_add : MethodName := ⟨RX1, "add", "(JI)V"⟩
def RX2 : String := "ChainBooks$Head"
def TX2 : u_T := fun k => match k with
  | 0 => ("ChainBooks$Head", "chain", "[I", true)
  | 1 => ("ChainBooks$Head", "tree", "[I", true)
  | _ => ("ChainBooks$Head", "entries", "I", false)
def tyX2 : Nat → FieldType := fun k => match k with
  | 0 => .array .int
  | 1 => .array .int
  | _ => .int
abbrev wsX20 : List Cond := u_ws RX2 TX2 3
theorem nmX2 : ∀ a, a < 3 → ∀ b, b < 3 → a ≠ b → (TX2 a).2.1 ≠ (TX2 b).2.1 := by decide +kernel
theorem tyX2_ok : ∀ k, k < 3 → parseFieldDescriptor (TX2 k).2.2.1 = some (tyX2 k) := by decide +kernel
abbrev cX2_init : ByteArray := prog_4_method_1_code
def yX2_init : MethodName := ⟨RX2, "<init>", "()V"⟩
def RX3 : String := "ChainBooks$Ledger"
def TX3 : u_T := fun k => match k with
  | 0 => ("ChainBooks$Ledger", "floor", "[J", true)
  | 1 => ("ChainBooks$Ledger", "balance", "[J", true)
  | 2 => ("ChainBooks$Ledger", "held", "[J", true)
  | 3 => ("ChainBooks$Ledger", "balanceBehind", "[J", true)
  | 4 => ("ChainBooks$Ledger", "accounts", "I", false)
  | 5 => ("ChainBooks$Ledger", "made", "[B", true)
  | 6 => ("ChainBooks$Ledger", "start", "[I", true)
  | 7 => ("ChainBooks$Ledger", "keys", "[J", true)
  | 8 => ("ChainBooks$Ledger", "endedBy", "[I", true)
  | 9 => ("ChainBooks$Ledger", "legCount", "[I", true)
  | 10 => ("ChainBooks$Ledger", "legAccount", "[I", true)
  | 11 => ("ChainBooks$Ledger", "legAmount", "[J", true)
  | 12 => ("ChainBooks$Ledger", "entries", "I", false)
  | 13 => ("ChainBooks$Ledger", "draft", "LChainBooks$Draft;", true)
  | 14 => ("ChainBooks$Ledger", "moving", "LChainBooks$Legs;", true)
  | 15 => ("ChainBooks$Ledger", "holdsThere", "I", false)
  | 16 => ("ChainBooks$Ledger", "every", "I", false)
  | _ => ("ChainBooks$Ledger", "sinceTrial", "I", false)
def tyX3 : Nat → FieldType := fun k => match k with
  | 0 => .array .long
  | 1 => .array .long
  | 2 => .array .long
  | 3 => .array .long
  | 4 => .int
  | 5 => .array .byte
  | 6 => .array .int
  | 7 => .array .long
  | 8 => .array .int
  | 9 => .array .int
  | 10 => .array .int
  | 11 => .array .long
  | 12 => .int
  | 13 => .object "ChainBooks$Draft"
  | 14 => .object "ChainBooks$Legs"
  | 15 => .int
  | 16 => .int
  | _ => .int
abbrev wsX30 : List Cond := u_ws RX3 TX3 18
theorem nmX3 : ∀ a, a < 18 → ∀ b, b < 18 → a ≠ b → (TX3 a).2.1 ≠ (TX3 b).2.1 := by decide +kernel
theorem tyX3_ok : ∀ k, k < 18 → parseFieldDescriptor (TX3 k).2.2.1 = some (tyX3 k) := by decide +kernel
abbrev cX3_init : ByteArray := prog_5_method_1_code
def yX3_init : MethodName := ⟨RX3, "<init>", "()V"⟩
abbrev cX3_startAnew : ByteArray := prog_5_method_2_code
def yX3_startAnew : MethodName := ⟨RX3, "startAnew", "()V"⟩
abbrev cX3_startEvery : ByteArray := prog_5_method_3_code
def yX3_startEvery : MethodName := ⟨RX3, "startEvery", "(I)V"⟩
abbrev cX3_addAccount : ByteArray := prog_5_method_4_code
def yX3_addAccount : MethodName := ⟨RX3, "addAccount", "(J)I"⟩
abbrev cX3_addPost : ByteArray := prog_5_method_5_code
def yX3_addPost : MethodName := ⟨RX3, "addPost", "(JLChainBooks$Legs;)I"⟩
abbrev cX3_addHold : ByteArray := prog_5_method_6_code
def yX3_addHold : MethodName := ⟨RX3, "addHold", "(JIJ)I"⟩
abbrev cX3_addRelease : ByteArray := prog_5_method_7_code
def yX3_addRelease : MethodName := ⟨RX3, "addRelease", "(I)I"⟩
abbrev cX3_addCapture : ByteArray := prog_5_method_8_code
def yX3_addCapture : MethodName := ⟨RX3, "addCapture", "(JIIJ)I"⟩
abbrev cX3_addReversal : ByteArray := prog_5_method_9_code
def yX3_addReversal : MethodName := ⟨RX3, "addReversal", "(JI)I"⟩
abbrev cX3_kindOf : ByteArray := prog_5_method_10_code
def yX3_kindOf : MethodName := ⟨RX3, "kindOf", "(I)I"⟩
abbrev cX3_answeredBefore : ByteArray := prog_5_method_11_code
def yX3_answeredBefore : MethodName := ⟨RX3, "answeredBefore", "(J)I"⟩
abbrev cX3_isAsDrafted : ByteArray := prog_5_method_12_code
def yX3_isAsDrafted : MethodName := ⟨RX3, "isAsDrafted", "(I)Z"⟩
abbrev cX3_areThere : ByteArray := prog_5_method_13_code
def yX3_areThere : MethodName := ⟨RX3, "areThere", "(LChainBooks$Legs;)Z"⟩
abbrev cX3_weigh : ByteArray := prog_5_method_14_code
def yX3_weigh : MethodName := ⟨RX3, "weigh", "(LChainBooks$Legs;IJ)I"⟩
abbrev cX3_move : ByteArray := prog_5_method_15_code
def yX3_move : MethodName := ⟨RX3, "move", "(JLChainBooks$Legs;)I"⟩
abbrev cX3_addTrial : ByteArray := prog_5_method_16_code
def yX3_addTrial : MethodName := ⟨RX3, "addTrial", "()V"⟩
abbrev cX3_isHoldThere : ByteArray := prog_5_method_17_code
def yX3_isHoldThere : MethodName := ⟨RX3, "isHoldThere", "(I)Z"⟩
abbrev cX3_accountHeld : ByteArray := prog_5_method_18_code
def yX3_accountHeld : MethodName := ⟨RX3, "accountHeld", "(I)I"⟩
abbrev cX3_amountHeld : ByteArray := prog_5_method_19_code
def yX3_amountHeld : MethodName := ⟨RX3, "amountHeld", "(I)J"⟩
abbrev cX3_endHold : ByteArray := prog_5_method_20_code
def yX3_endHold : MethodName := ⟨RX3, "endHold", "(II)V"⟩
abbrev cX3_append : ByteArray := prog_5_method_21_code
def yX3_append : MethodName := ⟨RX3, "append", "(J)I"⟩
def RX4 : String := "ChainBooks$Legs"
def TX4 : u_T := fun k => match k with
  | 0 => ("ChainBooks$Legs", "account", "[I", true)
  | 1 => ("ChainBooks$Legs", "amount", "[J", true)
  | _ => ("ChainBooks$Legs", "size", "I", false)
def tyX4 : Nat → FieldType := fun k => match k with
  | 0 => .array .int
  | 1 => .array .long
  | _ => .int
abbrev wsX40 : List Cond := u_ws RX4 TX4 3
theorem nmX4 : ∀ a, a < 3 → ∀ b, b < 3 → a ≠ b → (TX4 a).2.1 ≠ (TX4 b).2.1 := by decide +kernel
theorem tyX4_ok : ∀ k, k < 3 → parseFieldDescriptor (TX4 k).2.2.1 = some (tyX4 k) := by decide +kernel
abbrev cX4_init : ByteArray := prog_6_method_1_code
def yX4_init : MethodName := ⟨RX4, "<init>", "()V"⟩
abbrev cX4_add : ByteArray := prog_6_method_2_code
def yX4_add : MethodName := ⟨RX4, "add", "(IJ)Z"⟩
abbrev cX4_comeToNothing : ByteArray := prog_6_method_3_code
def yX4_comeToNothing : MethodName := ⟨RX4, "comeToNothing", "()Z"⟩
def RX5 : String := "ChainBooks$Pages"
def TX5 : u_T := fun k => match k with
  | 0 => ("ChainBooks$Pages", "now", "[B", true)
  | 1 => ("ChainBooks$Pages", "start", "[I", true)
  | 2 => ("ChainBooks$Pages", "entries", "I", false)
  | 3 => ("ChainBooks$Pages", "sha", "LChainBooks$Sha;", true)
  | 4 => ("ChainBooks$Pages", "chain", "[[I", true)
  | 5 => ("ChainBooks$Pages", "chained", "I", false)
  | 6 => ("ChainBooks$Pages", "nodes", "[[I", true)
  | _ => ("ChainBooks$Pages", "known", "[Z", true)
def tyX5 : Nat → FieldType := fun k => match k with
  | 0 => .array .byte
  | 1 => .array .int
  | 2 => .int
  | 3 => .object "ChainBooks$Sha"
  | 4 => .array (.array .int)
  | 5 => .int
  | 6 => .array (.array .int)
  | _ => .array .boolean
abbrev wsX50 : List Cond := u_ws RX5 TX5 8
theorem nmX5 : ∀ a, a < 8 → ∀ b, b < 8 → a ≠ b → (TX5 a).2.1 ≠ (TX5 b).2.1 := by decide +kernel
theorem tyX5_ok : ∀ k, k < 8 → parseFieldDescriptor (TX5 k).2.2.1 = some (tyX5 k) := by decide +kernel
abbrev cX5_init : ByteArray := prog_7_method_1_code
def yX5_init : MethodName := ⟨RX5, "<init>", "()V"⟩
abbrev cX5_size : ByteArray := prog_7_method_2_code
def yX5_size : MethodName := ⟨RX5, "size", "()I"⟩
abbrev cX5_follow : ByteArray := prog_7_method_3_code
def yX5_follow : MethodName := ⟨RX5, "follow", "(LChainBooks$Ledger;)V"⟩
abbrev cX5_number : ByteArray := prog_7_method_4_code
def yX5_number : MethodName := ⟨RX5, "number", "(II)J"⟩
abbrev cX5_flip : ByteArray := prog_7_method_5_code
def yX5_flip : MethodName := ⟨RX5, "flip", "(II)V"⟩
abbrev cX5_entryWith : ByteArray := prog_7_method_6_code
def yX5_entryWith : MethodName := ⟨RX5, "entryWith", "(I)I"⟩
abbrev cX5_chainBehind : ByteArray := prog_7_method_7_code
def yX5_chainBehind : MethodName := ⟨RX5, "chainBehind", "(I)[I"⟩
abbrev cX5_leafOf : ByteArray := prog_7_method_8_code
def yX5_leafOf : MethodName := ⟨RX5, "leafOf", "(I)[I"⟩
abbrev cX5_treeOf : ByteArray := prog_7_method_9_code
def yX5_treeOf : MethodName := ⟨RX5, "treeOf", "(II[I)V"⟩
abbrev cX5_nodeOf : ByteArray := prog_7_method_10_code
def yX5_nodeOf : MethodName := ⟨RX5, "nodeOf", "(II)[I"⟩
abbrev cX5_learn : ByteArray := prog_7_method_11_code
def yX5_learn : MethodName := ⟨RX5, "learn", "(I)V"⟩
def RX6 : String := "ChainBooks$Sha"
def TX6 : u_T := fun k => match k with
  | 0 => ("ChainBooks$Sha", "text", "[B", true)
  | 1 => ("ChainBooks$Sha", "size", "I", false)
  | 2 => ("ChainBooks$Sha", "schedule", "[I", true)
  | _ => ("ChainBooks$Sha", "state", "[I", true)
def tyX6 : Nat → FieldType := fun k => match k with
  | 0 => .array .byte
  | 1 => .int
  | 2 => .array .int
  | _ => .array .int
abbrev wsX60 : List Cond := u_ws RX6 TX6 4
theorem nmX6 : ∀ a, a < 4 → ∀ b, b < 4 → a ≠ b → (TX6 a).2.1 ≠ (TX6 b).2.1 := by decide +kernel
theorem tyX6_ok : ∀ k, k < 4 → parseFieldDescriptor (TX6 k).2.2.1 = some (tyX6 k) := by decide +kernel
abbrev cX6_init : ByteArray := prog_8_method_1_code
def yX6_init : MethodName := ⟨RX6, "<init>", "()V"⟩
abbrev cX6_begin : ByteArray := prog_8_method_2_code
def yX6_begin : MethodName := ⟨RX6, "begin", "()V"⟩
abbrev cX6_add : ByteArray := prog_8_method_3_code
def yX6_add : MethodName := ⟨RX6, "add", "(I)V"⟩
abbrev cX6_addBytes : ByteArray := prog_8_method_4_code
def yX6_addBytes : MethodName := ⟨RX6, "addBytes", "([BII)V"⟩
abbrev cX6_addHash : ByteArray := prog_8_method_5_code
def yX6_addHash : MethodName := ⟨RX6, "addHash", "([I)V"⟩
abbrev cX6_join : ByteArray := prog_8_method_6_code
def yX6_join : MethodName := ⟨RX6, "join", "([I[I[I)V"⟩
abbrev cX6_end : ByteArray := prog_8_method_7_code
def yX6_end : MethodName := ⟨RX6, "end", "([I)V"⟩
abbrev cX6_readSchedule : ByteArray := prog_8_method_8_code
def yX6_readSchedule : MethodName := ⟨RX6, "readSchedule", "(I)V"⟩
abbrev cX6_mix : ByteArray := prog_8_method_9_code
def yX6_mix : MethodName := ⟨RX6, "mix", "()V"⟩
def RX7 : String := "ChainBooks$Trail"
def TX7 : u_T := fun k => match k with
  | 0 => ("ChainBooks$Trail", "hashes", "[[I", true)
  | 1 => ("ChainBooks$Trail", "steps", "I", false)
  | 2 => ("ChainBooks$Trail", "isMade", "Z", false)
  | 3 => ("ChainBooks$Trail", "isProof", "Z", false)
  | 4 => ("ChainBooks$Trail", "from", "I", false)
  | 5 => ("ChainBooks$Trail", "till", "I", false)
  | 6 => ("ChainBooks$Trail", "wentRight", "[Z", true)
  | 7 => ("ChainBooks$Trail", "asideFirst", "[I", true)
  | 8 => ("ChainBooks$Trail", "asideSize", "[I", true)
  | 9 => ("ChainBooks$Trail", "turns", "I", false)
  | 10 => ("ChainBooks$Trail", "endFirst", "I", false)
  | 11 => ("ChainBooks$Trail", "endSize", "I", false)
  | 12 => ("ChainBooks$Trail", "sha", "LChainBooks$Sha;", true)
  | 13 => ("ChainBooks$Trail", "older", "[I", true)
  | _ => ("ChainBooks$Trail", "newer", "[I", true)
def tyX7 : Nat → FieldType := fun k => match k with
  | 0 => .array (.array .int)
  | 1 => .int
  | 2 => .boolean
  | 3 => .boolean
  | 4 => .int
  | 5 => .int
  | 6 => .array .boolean
  | 7 => .array .int
  | 8 => .array .int
  | 9 => .int
  | 10 => .int
  | 11 => .int
  | 12 => .object "ChainBooks$Sha"
  | 13 => .array .int
  | _ => .array .int
abbrev wsX70 : List Cond := u_ws RX7 TX7 15
theorem nmX7 : ∀ a, a < 15 → ∀ b, b < 15 → a ≠ b → (TX7 a).2.1 ≠ (TX7 b).2.1 := by decide +kernel
theorem tyX7_ok : ∀ k, k < 15 → parseFieldDescriptor (TX7 k).2.2.1 = some (tyX7 k) := by decide +kernel
abbrev cX7_init : ByteArray := prog_9_method_1_code
def yX7_init : MethodName := ⟨RX7, "<init>", "()V"⟩
abbrev cX7_make : ByteArray := prog_9_method_2_code
def yX7_make : MethodName := ⟨RX7, "make", "(LChainBooks$Pages;ZII)V"⟩
abbrev cX7_reaches : ByteArray := prog_9_method_3_code
def yX7_reaches : MethodName := ⟨RX7, "reaches", "([ILChainBooks$Head;)Z"⟩
abbrev cX7_joins : ByteArray := prog_9_method_4_code
def yX7_joins : MethodName := ⟨RX7, "joins", "(LChainBooks$Head;LChainBooks$Head;)Z"⟩
abbrev cX7_hasOwnBeginning : ByteArray := prog_9_method_5_code
def yX7_hasOwnBeginning : MethodName := ⟨RX7, "hasOwnBeginning", "()Z"⟩
abbrev cX7_goDown : ByteArray := prog_9_method_6_code
def yX7_goDown : MethodName := ⟨RX7, "goDown", "(I)V"⟩
abbrev cX7_isEnd : ByteArray := prog_9_method_7_code
def yX7_isEnd : MethodName := ⟨RX7, "isEnd", "(I)Z"⟩
abbrev cX7_powerBelow : ByteArray := prog_9_method_8_code
def yX7_powerBelow : MethodName := ⟨RX7, "powerBelow", "(I)I"⟩
abbrev cX7_goUp : ByteArray := prog_9_method_9_code
def yX7_goUp : MethodName := ⟨RX7, "goUp", "([I)V"⟩
def RX8 : String := "ChainBooks"
def TX8 : u_T := fun k => match k with
  | 0 => ("ChainBooks", "ledger", "LChainBooks$Ledger;", true)
  | 1 => ("ChainBooks", "told", "LChainBooks$Legs;", true)
  | 2 => ("ChainBooks", "everyTold", "[I", true)
  | 3 => ("ChainBooks", "pages", "LChainBooks$Pages;", true)
  | 4 => ("ChainBooks", "heads", "[LChainBooks$Head;", true)
  | 5 => ("ChainBooks", "trail", "LChainBooks$Trail;", true)
  | 6 => ("ChainBooks", "auditor", "LChainBooks$Auditor;", true)
  | _ => ("ChainBooks", "spareHash", "[I", true)
def tyX8 : Nat → FieldType := fun k => match k with
  | 0 => .object "ChainBooks$Ledger"
  | 1 => .object "ChainBooks$Legs"
  | 2 => .array .int
  | 3 => .object "ChainBooks$Pages"
  | 4 => .array (.object "ChainBooks$Head")
  | 5 => .object "ChainBooks$Trail"
  | 6 => .object "ChainBooks$Auditor"
  | _ => .array .int
abbrev wsX80 : List Cond := u_ws RX8 TX8 8
theorem nmX8 : ∀ a, a < 8 → ∀ b, b < 8 → a ≠ b → (TX8 a).2.1 ≠ (TX8 b).2.1 := by decide +kernel
theorem tyX8_ok : ∀ k, k < 8 → parseFieldDescriptor (TX8 k).2.2.1 = some (tyX8 k) := by decide +kernel
abbrev cX8_init : ByteArray := prog_1_method_1_code
def yX8_init : MethodName := ⟨RX8, "<init>", "()V"⟩
abbrev cX8_open : ByteArray := prog_1_method_2_code
def yX8_open : MethodName := ⟨RX8, "open", "(J)I"⟩
abbrev cX8_leg : ByteArray := prog_1_method_3_code
def yX8_leg : MethodName := ⟨RX8, "leg", "(IJ)I"⟩
abbrev cX8_clear : ByteArray := prog_1_method_4_code
def yX8_clear : MethodName := ⟨RX8, "clear", "()I"⟩
abbrev cX8_post : ByteArray := prog_1_method_5_code
def yX8_post : MethodName := ⟨RX8, "post", "(J)I"⟩
abbrev cX8_hold : ByteArray := prog_1_method_6_code
def yX8_hold : MethodName := ⟨RX8, "hold", "(JIJ)I"⟩
abbrev cX8_release : ByteArray := prog_1_method_7_code
def yX8_release : MethodName := ⟨RX8, "release", "(I)I"⟩
abbrev cX8_capture : ByteArray := prog_1_method_8_code
def yX8_capture : MethodName := ⟨RX8, "capture", "(JIIJ)I"⟩
abbrev cX8_reverse : ByteArray := prog_1_method_9_code
def yX8_reverse : MethodName := ⟨RX8, "reverse", "(JI)I"⟩
abbrev cX8_every : ByteArray := prog_1_method_10_code
def yX8_every : MethodName := ⟨RX8, "every", "(I)I"⟩
abbrev cX8_account : ByteArray := prog_1_method_11_code
def yX8_account : MethodName := ⟨RX8, "account", "(II)J"⟩
abbrev cX8_entry : ByteArray := prog_1_method_12_code
def yX8_entry : MethodName := ⟨RX8, "entry", "(II)J"⟩
abbrev cX8_data : ByteArray := prog_1_method_13_code
def yX8_data : MethodName := ⟨RX8, "data", "(I)I"⟩
abbrev cX8_alter : ByteArray := prog_1_method_14_code
def yX8_alter : MethodName := ⟨RX8, "alter", "(II)I"⟩
abbrev cX8_hash : ByteArray := prog_1_method_15_code
def yX8_hash : MethodName := ⟨RX8, "hash", "(III)I"⟩
abbrev cX8_keep : ByteArray := prog_1_method_16_code
def yX8_keep : MethodName := ⟨RX8, "keep", "(I)I"⟩
abbrev cX8_verify : ByteArray := prog_1_method_17_code
def yX8_verify : MethodName := ⟨RX8, "verify", "(I)I"⟩
abbrev cX8_path : ByteArray := prog_1_method_18_code
def yX8_path : MethodName := ⟨RX8, "path", "(II)I"⟩
abbrev cX8_proof : ByteArray := prog_1_method_19_code
def yX8_proof : MethodName := ⟨RX8, "proof", "(II)I"⟩
abbrev cX8_step : ByteArray := prog_1_method_20_code
def yX8_step : MethodName := ⟨RX8, "step", "(II)I"⟩
abbrev cX8_leads : ByteArray := prog_1_method_21_code
def yX8_leads : MethodName := ⟨RX8, "leads", "(II)I"⟩
abbrev cX8_audit : ByteArray := prog_1_method_22_code
def yX8_audit : MethodName := ⟨RX8, "audit", "()I"⟩
abbrev cX8_count : ByteArray := prog_1_method_23_code
def yX8_count : MethodName := ⟨RX8, "count", "(I)I"⟩
abbrev cX8_written : ByteArray := prog_1_method_24_code
def yX8_written : MethodName := ⟨RX8, "written", "(I)I"⟩
abbrev cX8_legOf : ByteArray := prog_1_method_25_code
def yX8_legOf : MethodName := ⟨RX8, "legOf", "(II)J"⟩
abbrev cX8_alteredBytes : ByteArray := prog_1_method_26_code
def yX8_alteredBytes : MethodName := ⟨RX8, "alteredBytes", "()I"⟩
abbrev cX8_isHeadOf : ByteArray := prog_1_method_27_code
def yX8_isHeadOf : MethodName := ⟨RX8, "isHeadOf", "(II)Z"⟩
abbrev cX8_oneIf : ByteArray := prog_1_method_28_code
def yX8_oneIf : MethodName := ⟨RX8, "oneIf", "(Z)I"⟩
abbrev cX8_byteOf : ByteArray := prog_1_method_29_code
def yX8_byteOf : MethodName := ⟨RX8, "byteOf", "([II)I"⟩
abbrev cX8_copyHash : ByteArray := prog_1_method_30_code
def yX8_copyHash : MethodName := ⟨RX8, "copyHash", "([I[I)V"⟩
abbrev cX8_sameHash : ByteArray := prog_1_method_31_code
def yX8_sameHash : MethodName := ⟨RX8, "sameHash", "([I[I)Z"⟩
abbrev cX8_isByte : ByteArray := prog_1_method_32_code
def yX8_isByte : MethodName := ⟨RX8, "isByte", "(I)Z"⟩
abbrev cX8_canBeEntry : ByteArray := prog_1_method_33_code
def yX8_canBeEntry : MethodName := ⟨RX8, "canBeEntry", "(I)Z"⟩
abbrev cX8_isBelow : ByteArray := prog_1_method_34_code
def yX8_isBelow : MethodName := ⟨RX8, "isBelow", "(JJ)Z"⟩
def RX9 : String := "ChainBooksModel"
def TX9 : u_T := fun k => match k with
  | 0 => ("ChainBooksModel", "accounts", "[I", true)
  | 1 => ("ChainBooksModel", "entries", "[I", true)
  | 2 => ("ChainBooksModel", "every", "[I", true)
  | 3 => ("ChainBooksModel", "since", "[I", true)
  | 4 => ("ChainBooksModel", "isDue", "[Z", true)
  | 5 => ("ChainBooksModel", "floor", "[J", true)
  | 6 => ("ChainBooksModel", "balance", "[J", true)
  | 7 => ("ChainBooksModel", "heldHigh", "[J", true)
  | 8 => ("ChainBooksModel", "heldLow", "[J", true)
  | 9 => ("ChainBooksModel", "kind", "[I", true)
  | 10 => ("ChainBooksModel", "keys", "[J", true)
  | 11 => ("ChainBooksModel", "legs", "[I", true)
  | 12 => ("ChainBooksModel", "legAccount", "[I", true)
  | 13 => ("ChainBooksModel", "legAmount", "[J", true)
  | 14 => ("ChainBooksModel", "holdAccount", "[I", true)
  | 15 => ("ChainBooksModel", "holdAmount", "[J", true)
  | 16 => ("ChainBooksModel", "isThere", "[Z", true)
  | 17 => ("ChainBooksModel", "endedBy", "[I", true)
  | 18 => ("ChainBooksModel", "data", "[I", true)
  | 19 => ("ChainBooksModel", "made", "[I", true)
  | 20 => ("ChainBooksModel", "bytes", "I", false)
  | 21 => ("ChainBooksModel", "begin", "[I", true)
  | 22 => ("ChainBooksModel", "size", "[I", true)
  | 23 => ("ChainBooksModel", "toldAt", "[I", true)
  | 24 => ("ChainBooksModel", "toldEvery", "[I", true)
  | 25 => ("ChainBooksModel", "tolds", "I", false)
  | 26 => ("ChainBooksModel", "cKind", "I", false)
  | 27 => ("ChainBooksModel", "cLegs", "I", false)
  | 28 => ("ChainBooksModel", "cEntry", "I", false)
  | 29 => ("ChainBooksModel", "cAccount", "I", false)
  | 30 => ("ChainBooksModel", "cKey", "J", false)
  | 31 => ("ChainBooksModel", "cAmount", "J", false)
  | 32 => ("ChainBooksModel", "cLegAccount", "[I", true)
  | 33 => ("ChainBooksModel", "cLegAmount", "[J", true)
  | 34 => ("ChainBooksModel", "row", "[I", true)
  | 35 => ("ChainBooksModel", "rowSize", "I", false)
  | 36 => ("ChainBooksModel", "after", "[J", true)
  | 37 => ("ChainBooksModel", "told", "I", false)
  | 38 => ("ChainBooksModel", "toldAccount", "[I", true)
  | 39 => ("ChainBooksModel", "toldAmount", "[J", true)
  | 40 => ("ChainBooksModel", "rounds", "[I", true)
  | 41 => ("ChainBooksModel", "message", "[I", true)
  | 42 => ("ChainBooksModel", "length", "I", false)
  | 43 => ("ChainBooksModel", "words", "[I", true)
  | 44 => ("ChainBooksModel", "state", "[I", true)
  | 45 => ("ChainBooksModel", "hash", "[I", true)
  | 46 => ("ChainBooksModel", "waits", "[I", true)
  | 47 => ("ChainBooksModel", "waitSize", "[I", true)
  | 48 => ("ChainBooksModel", "headMany", "[I", true)
  | 49 => ("ChainBooksModel", "isKept", "[Z", true)
  | 50 => ("ChainBooksModel", "headChain", "[I", true)
  | 51 => ("ChainBooksModel", "headTree", "[I", true)
  | 52 => ("ChainBooksModel", "sort", "I", false)
  | 53 => ("ChainBooksModel", "first", "I", false)
  | 54 => ("ChainBooksModel", "all", "I", false)
  | 55 => ("ChainBooksModel", "steps", "I", false)
  | 56 => ("ChainBooksModel", "stepHash", "[I", true)
  | 57 => ("ChainBooksModel", "isLeft", "[Z", true)
  | 58 => ("ChainBooksModel", "sideFrom", "[I", true)
  | 59 => ("ChainBooksModel", "sideTo", "[I", true)
  | 60 => ("ChainBooksModel", "ways", "I", false)
  | 61 => ("ChainBooksModel", "downFrom", "I", false)
  | 62 => ("ChainBooksModel", "downTo", "I", false)
  | 63 => ("ChainBooksModel", "isWhole", "Z", false)
  | 64 => ("ChainBooksModel", "older", "[I", true)
  | 65 => ("ChainBooksModel", "newer", "[I", true)
  | _ => ("ChainBooksModel", "at", "I", false)
def tyX9 : Nat → FieldType := fun k => match k with
  | 0 => .array .int
  | 1 => .array .int
  | 2 => .array .int
  | 3 => .array .int
  | 4 => .array .boolean
  | 5 => .array .long
  | 6 => .array .long
  | 7 => .array .long
  | 8 => .array .long
  | 9 => .array .int
  | 10 => .array .long
  | 11 => .array .int
  | 12 => .array .int
  | 13 => .array .long
  | 14 => .array .int
  | 15 => .array .long
  | 16 => .array .boolean
  | 17 => .array .int
  | 18 => .array .int
  | 19 => .array .int
  | 20 => .int
  | 21 => .array .int
  | 22 => .array .int
  | 23 => .array .int
  | 24 => .array .int
  | 25 => .int
  | 26 => .int
  | 27 => .int
  | 28 => .int
  | 29 => .int
  | 30 => .long
  | 31 => .long
  | 32 => .array .int
  | 33 => .array .long
  | 34 => .array .int
  | 35 => .int
  | 36 => .array .long
  | 37 => .int
  | 38 => .array .int
  | 39 => .array .long
  | 40 => .array .int
  | 41 => .array .int
  | 42 => .int
  | 43 => .array .int
  | 44 => .array .int
  | 45 => .array .int
  | 46 => .array .int
  | 47 => .array .int
  | 48 => .array .int
  | 49 => .array .boolean
  | 50 => .array .int
  | 51 => .array .int
  | 52 => .int
  | 53 => .int
  | 54 => .int
  | 55 => .int
  | 56 => .array .int
  | 57 => .array .boolean
  | 58 => .array .int
  | 59 => .array .int
  | 60 => .int
  | 61 => .int
  | 62 => .int
  | 63 => .boolean
  | 64 => .array .int
  | 65 => .array .int
  | _ => .int
abbrev wsX90 : List Cond := u_ws RX9 TX9 67
theorem nmX9 : ∀ a, a < 67 → ∀ b, b < 67 → a ≠ b → (TX9 a).2.1 ≠ (TX9 b).2.1 := by decide +kernel
theorem tyX9_ok : ∀ k, k < 67 → parseFieldDescriptor (TX9 k).2.2.1 = some (tyX9 k) := by decide +kernel
abbrev cX9_init : ByteArray := prog_11_method_1_code
def yX9_init : MethodName := ⟨RX9, "<init>", "()V"⟩
abbrev cX9_begins : ByteArray := prog_11_method_2_code
def yX9_begins : MethodName := ⟨RX9, "begins", "(IJ)V"⟩
abbrev cX9_put : ByteArray := prog_11_method_3_code
def yX9_put : MethodName := ⟨RX9, "put", "(I)V"⟩
abbrev cX9_putLong : ByteArray := prog_11_method_4_code
def yX9_putLong : MethodName := ⟨RX9, "putLong", "(J)V"⟩
abbrev cX9_putShort : ByteArray := prog_11_method_5_code
def yX9_putShort : MethodName := ⟨RX9, "putShort", "(I)V"⟩
abbrev cX9_leg : ByteArray := prog_11_method_6_code
def yX9_leg : MethodName := ⟨RX9, "leg", "(IJI)V"⟩
abbrev cX9_byKey : ByteArray := prog_11_method_7_code
def yX9_byKey : MethodName := ⟨RX9, "byKey", "(IJ)I"⟩
abbrev cX9_isSame : ByteArray := prog_11_method_8_code
def yX9_isSame : MethodName := ⟨RX9, "isSame", "(I)Z"⟩
abbrev cX9_isHold : ByteArray := prog_11_method_9_code
def yX9_isHold : MethodName := ⟨RX9, "isHold", "(II)Z"⟩
abbrev cX9_isAccount : ByteArray := prog_11_method_10_code
def yX9_isAccount : MethodName := ⟨RX9, "isAccount", "(II)Z"⟩
abbrev cX9_isUnknown : ByteArray := prog_11_method_11_code
def yX9_isUnknown : MethodName := ⟨RX9, "isUnknown", "(I)Z"⟩
abbrev cX9_isUneven : ByteArray := prog_11_method_12_code
def yX9_isUneven : MethodName := ⟨RX9, "isUneven", "()Z"⟩
abbrev cX9_isOver : ByteArray := prog_11_method_13_code
def yX9_isOver : MethodName := ⟨RX9, "isOver", "(I)Z"⟩
abbrev cX9_isBelow : ByteArray := prog_11_method_14_code
def yX9_isBelow : MethodName := ⟨RX9, "isBelow", "(II)Z"⟩
abbrev cX9_refused : ByteArray := prog_11_method_15_code
def yX9_refused : MethodName := ⟨RX9, "refused", "(I)I"⟩
abbrev cX9_hold : ByteArray := prog_11_method_16_code
def yX9_hold : MethodName := ⟨RX9, "hold", "(IIJI)V"⟩
abbrev cX9_does : ByteArray := prog_11_method_17_code
def yX9_does : MethodName := ⟨RX9, "does", "(I)I"⟩
abbrev cX9_trial : ByteArray := prog_11_method_18_code
def yX9_trial : MethodName := ⟨RX9, "trial", "(I)V"⟩
abbrev cX9_writes : ByteArray := prog_11_method_19_code
def yX9_writes : MethodName := ⟨RX9, "writes", "()V"⟩
abbrev cX9_calls : ByteArray := prog_11_method_20_code
def yX9_calls : MethodName := ⟨RX9, "calls", "()I"⟩
abbrev cX9_in : ByteArray := prog_11_method_21_code
def yX9_in : MethodName := ⟨RX9, "in", "(III)Z"⟩
abbrev cX9_open : ByteArray := prog_11_method_22_code
def yX9_open : MethodName := ⟨RX9, "open", "(J)I"⟩
abbrev cX9_leg_ : ByteArray := prog_11_method_23_code
def yX9_leg_ : MethodName := ⟨RX9, "leg", "(IJ)I"⟩
abbrev cX9_clear : ByteArray := prog_11_method_24_code
def yX9_clear : MethodName := ⟨RX9, "clear", "()I"⟩
abbrev cX9_post : ByteArray := prog_11_method_25_code
def yX9_post : MethodName := ⟨RX9, "post", "(J)I"⟩
abbrev cX9_hold_ : ByteArray := prog_11_method_26_code
def yX9_hold_ : MethodName := ⟨RX9, "hold", "(JIJ)I"⟩
abbrev cX9_release : ByteArray := prog_11_method_27_code
def yX9_release : MethodName := ⟨RX9, "release", "(I)I"⟩
abbrev cX9_capture : ByteArray := prog_11_method_28_code
def yX9_capture : MethodName := ⟨RX9, "capture", "(JIIJ)I"⟩
abbrev cX9_reverse : ByteArray := prog_11_method_29_code
def yX9_reverse : MethodName := ⟨RX9, "reverse", "(JI)I"⟩
abbrev cX9_every : ByteArray := prog_11_method_30_code
def yX9_every : MethodName := ⟨RX9, "every", "(I)I"⟩
abbrev cX9_account : ByteArray := prog_11_method_31_code
def yX9_account : MethodName := ⟨RX9, "account", "(II)J"⟩
abbrev cX9_entry : ByteArray := prog_11_method_32_code
def yX9_entry : MethodName := ⟨RX9, "entry", "(II)J"⟩
abbrev cX9_data : ByteArray := prog_11_method_33_code
def yX9_data : MethodName := ⟨RX9, "data", "(I)I"⟩
abbrev cX9_alter : ByteArray := prog_11_method_34_code
def yX9_alter : MethodName := ⟨RX9, "alter", "(II)I"⟩
abbrev cX9_turn : ByteArray := prog_11_method_35_code
def yX9_turn : MethodName := ⟨RX9, "turn", "(II)I"⟩
abbrev cX9_says : ByteArray := prog_11_method_36_code
def yX9_says : MethodName := ⟨RX9, "says", "(I)V"⟩
abbrev cX9_sum : ByteArray := prog_11_method_37_code
def yX9_sum : MethodName := ⟨RX9, "sum", "()V"⟩
abbrev cX9_block : ByteArray := prog_11_method_38_code
def yX9_block : MethodName := ⟨RX9, "block", "(I)V"⟩
abbrev cX9_saysEntry : ByteArray := prog_11_method_39_code
def yX9_saysEntry : MethodName := ⟨RX9, "saysEntry", "(I)V"⟩
abbrev cX9_chain : ByteArray := prog_11_method_40_code
def yX9_chain : MethodName := ⟨RX9, "chain", "(I)V"⟩
abbrev cX9_leaf : ByteArray := prog_11_method_41_code
def yX9_leaf : MethodName := ⟨RX9, "leaf", "(I)V"⟩
abbrev cX9_keepWait : ByteArray := prog_11_method_42_code
def yX9_keepWait : MethodName := ⟨RX9, "keepWait", "(I)V"⟩
abbrev cX9_joins : ByteArray := prog_11_method_43_code
def yX9_joins : MethodName := ⟨RX9, "joins", "(I)V"⟩
abbrev cX9_tree : ByteArray := prog_11_method_44_code
def yX9_tree : MethodName := ⟨RX9, "tree", "(II)V"⟩
abbrev cX9_hash : ByteArray := prog_11_method_45_code
def yX9_hash : MethodName := ⟨RX9, "hash", "(III)I"⟩
abbrev cX9_keep : ByteArray := prog_11_method_46_code
def yX9_keep : MethodName := ⟨RX9, "keep", "(I)I"⟩
abbrev cX9_isAs : ByteArray := prog_11_method_47_code
def yX9_isAs : MethodName := ⟨RX9, "isAs", "([II)Z"⟩
abbrev cX9_verify : ByteArray := prog_11_method_48_code
def yX9_verify : MethodName := ⟨RX9, "verify", "(I)I"⟩
abbrev cX9_half : ByteArray := prog_11_method_49_code
def yX9_half : MethodName := ⟨RX9, "half", "(I)I"⟩
abbrev cX9_down : ByteArray := prog_11_method_50_code
def yX9_down : MethodName := ⟨RX9, "down", "(IIZ)V"⟩
abbrev cX9_step : ByteArray := prog_11_method_51_code
def yX9_step : MethodName := ⟨RX9, "step", "()V"⟩
abbrev cX9_sides : ByteArray := prog_11_method_52_code
def yX9_sides : MethodName := ⟨RX9, "sides", "()V"⟩
abbrev cX9_path : ByteArray := prog_11_method_53_code
def yX9_path : MethodName := ⟨RX9, "path", "(II)I"⟩
abbrev cX9_proof : ByteArray := prog_11_method_54_code
def yX9_proof : MethodName := ⟨RX9, "proof", "(II)I"⟩
abbrev cX9_step_ : ByteArray := prog_11_method_55_code
def yX9_step_ : MethodName := ⟨RX9, "step", "(II)I"⟩
abbrev cX9_beside : ByteArray := prog_11_method_56_code
def yX9_beside : MethodName := ⟨RX9, "beside", "([IIZ)V"⟩
abbrev cX9_isHead : ByteArray := prog_11_method_57_code
def yX9_isHead : MethodName := ⟨RX9, "isHead", "([II)Z"⟩
abbrev cX9_isHeadOf : ByteArray := prog_11_method_58_code
def yX9_isHeadOf : MethodName := ⟨RX9, "isHeadOf", "(II)Z"⟩
abbrev cX9_leads : ByteArray := prog_11_method_59_code
def yX9_leads : MethodName := ⟨RX9, "leads", "(II)I"⟩
abbrev cX9_number : ByteArray := prog_11_method_60_code
def yX9_number : MethodName := ⟨RX9, "number", "(I)J"⟩
abbrev cX9_sizeOf : ByteArray := prog_11_method_61_code
def yX9_sizeOf : MethodName := ⟨RX9, "sizeOf", "(I)I"⟩
abbrev cX9_reads : ByteArray := prog_11_method_62_code
def yX9_reads : MethodName := ⟨RX9, "reads", "()Z"⟩
abbrev cX9_readsLegs : ByteArray := prog_11_method_63_code
def yX9_readsLegs : MethodName := ⟨RX9, "readsLegs", "()Z"⟩
abbrev cX9_isTrial : ByteArray := prog_11_method_64_code
def yX9_isTrial : MethodName := ⟨RX9, "isTrial", "()Z"⟩
abbrev cX9_tells : ByteArray := prog_11_method_65_code
def yX9_tells : MethodName := ⟨RX9, "tells", "(I)I"⟩
abbrev cX9_audit : ByteArray := prog_11_method_66_code
def yX9_audit : MethodName := ⟨RX9, "audit", "()I"⟩
abbrev cX9_altered : ByteArray := prog_11_method_67_code
def yX9_altered : MethodName := ⟨RX9, "altered", "()I"⟩
abbrev cX9_there : ByteArray := prog_11_method_68_code
def yX9_there : MethodName := ⟨RX9, "there", "()I"⟩
abbrev cX9_count : ByteArray := prog_11_method_69_code
def yX9_count : MethodName := ⟨RX9, "count", "(I)I"⟩
def RJ9 : String := "java/lang/Math"
abbrev cJ9_max_7cf53 : ByteArray := prog_12_method_65_code
def yJ9_max_7cf53 : MethodName := ⟨RJ9, "max", "(II)I"⟩
abbrev cJ9_min_7cf53 : ByteArray := prog_12_method_69_code
def yJ9_min_7cf53 : MethodName := ⟨RJ9, "min", "(II)I"⟩
def RJ10 : String := "java/lang/System"
def RL : String := "ChainBooksLaw"
abbrev cL_law : ByteArray := code
def yL_law : MethodName := ⟨RL, "law", "([I)Z"⟩
abbrev vwCl : List vw_C := [(RX0, TX0, 2), (RX1, TX1, 2), (RX2, TX2, 3), (RX3, TX3, 18), (RX4, TX4, 3), (RX5, TX5, 8), (RX6, TX6, 4), (RX7, TX7, 15), (RX8, TX8, 8), (RX9, TX9, 67)]
def nS : Nat := 3
def lwN : List (String × Nat × MethodName × String) := [("ChainBooks", 11, ⟨"ChainBooks$Ledger", "<init>", "()V"⟩, "ChainBooks"), ("ChainBooks$Ledger", 49, ⟨"ChainBooks$Draft", "<init>", "()V"⟩, "ChainBooks"), ("ChainBooks$Ledger", 56, ⟨"ChainBooks$Legs", "<init>", "()V"⟩, "ChainBooks"), ("ChainBooks", 18, ⟨"ChainBooks$Legs", "<init>", "()V"⟩, "ChainBooks"), ("ChainBooks", 29, ⟨"ChainBooks$Pages", "<init>", "()V"⟩, "ChainBooks"), ("ChainBooks$Pages", 21, ⟨"ChainBooks$Sha", "<init>", "()V"⟩, "ChainBooks"), ("ChainBooks", 40, ⟨"ChainBooks$Head", "<init>", "()V"⟩, "ChainBooks"), ("ChainBooks", 43, ⟨"ChainBooks$Trail", "<init>", "()V"⟩, "ChainBooks"), ("ChainBooks$Trail", 29, ⟨"ChainBooks$Sha", "<init>", "()V"⟩, "ChainBooks"), ("ChainBooks", 50, ⟨"ChainBooks$Auditor", "<init>", "()V"⟩, "ChainBooks"), ("ChainBooks$Auditor", 11, ⟨"ChainBooks$Ledger", "<init>", "()V"⟩, "ChainBooks"), ("ChainBooks$Auditor", 20, ⟨"ChainBooks$Legs", "<init>", "()V"⟩, "ChainBooks"), ("ChainBooks$Legs", 23, ⟨"ChainBooks", "isByte", "(I)Z"⟩, "ChainBooks"), ("ChainBooks$Ledger", 128, ⟨"ChainBooks", "isBelow", "(JJ)Z"⟩, "ChainBooks"), ("ChainBooks$Ledger", 124, ⟨"ChainBooks", "isByte", "(I)Z"⟩, "ChainBooks"), ("ChainBooks$Ledger", 132, ⟨"ChainBooks", "canBeEntry", "(I)Z"⟩, "ChainBooks"), ("ChainBooks$Sha", 30, ⟨"ChainBooks", "byteOf", "([II)I"⟩, "ChainBooks"), ("ChainBooks$Sha", 47, ⟨"ChainBooks", "copyHash", "([I[I)V"⟩, "ChainBooks"), ("ChainBooks$Pages", 93, ⟨"ChainBooks", "copyHash", "([I[I)V"⟩, "ChainBooks"), ("ChainBooks$Trail", 101, ⟨"ChainBooks", "copyHash", "([I[I)V"⟩, "ChainBooks"), ("ChainBooks$Trail", 89, ⟨"ChainBooks", "sameHash", "([I[I)Z"⟩, "ChainBooks")]
theorem lwN_in : ∀ q ∈ lwN, Cond.methodLinkNest q.1 q.2.1 q.2.2.1 q.2.2.2 ∈ lw_tbl := by
  intro q hq
  obtain ⟨k, hk⟩ := List.getElem?_of_mem hq
  match k, hk with
  | 0, hk => cases hk; exact tn1 (List.mem_of_getElem? (i := 23) rfl)
  | 1, hk => cases hk; exact tn1 (List.mem_of_getElem? (i := 29) rfl)
  | 2, hk => cases hk; exact tn1 (List.mem_of_getElem? (i := 47) rfl)
  | 3, hk => cases hk; exact tn1 (List.mem_of_getElem? (i := 143) rfl)
  | 4, hk => cases hk; exact tn1 (List.mem_of_getElem? (i := 146) rfl)
  | 5, hk => cases hk; exact tn1 (List.mem_of_getElem? (i := 152) rfl)
  | 6, hk => cases hk; exact tn1 (List.mem_of_getElem? (i := 203) rfl)
  | 7, hk => cases hk; exact tn1 (List.mem_of_getElem? (i := 223) rfl)
  | 8, hk => cases hk; exact tn1 (List.mem_of_getElem? (i := 229) rfl)
  | 9, hk => cases hk; exact tn2 (List.mem_of_getElem? (i := 44) rfl)
  | 10, hk => cases hk; exact tn2 (List.mem_of_getElem? (i := 49) rfl)
  | 11, hk => cases hk; exact tn2 (List.mem_of_getElem? (i := 51) rfl)
  | 12, hk => cases hk; exact tn2 (List.mem_of_getElem? (i := 129) rfl)
  | 13, hk => cases hk; exact tn2 (List.mem_of_getElem? (i := 171) rfl)
  | 14, hk => cases hk; exact tn2 (List.mem_of_getElem? (i := 191) rfl)
  | 15, hk => cases hk; exact tn2 (List.mem_of_getElem? (i := 200) rfl)
  | 16, hk => cases hk; exact tn3 (List.mem_of_getElem? (i := 57) rfl)
  | 17, hk => cases hk; exact tn3 (List.mem_of_getElem? (i := 74) rfl)
  | 18, hk => cases hk; exact tn3 (List.mem_of_getElem? (i := 111) rfl)
  | 19, hk => cases hk; exact tn3 (List.mem_of_getElem? (i := 176) rfl)
  | 20, hk => cases hk; exact tn3 (List.mem_of_getElem? (i := 178) rfl)
  | k + 21, hk => cases hk
def cfT : Nat → List FieldType := fun ci => match ci with
  | 0 => [.object "ChainBooks$Ledger", .object "ChainBooks$Legs"]
  | 1 => [.array .byte, .int]
  | 2 => [.array .int, .array .int, .int]
  | 3 => [.array .long, .array .long, .array .long, .array .long, .int, .array .byte, .array .int, .array .long, .array .int, .array .int, .array .int, .array .long, .int, .object "ChainBooks$Draft", .object "ChainBooks$Legs", .int, .int, .int]
  | 4 => [.array .int, .array .long, .int]
  | 5 => [.array .byte, .array .int, .int, .object "ChainBooks$Sha", .array (.array .int), .int, .array (.array .int), .array .boolean]
  | 6 => [.array .byte, .int, .array .int, .array .int]
  | 7 => [.array (.array .int), .int, .boolean, .boolean, .int, .int, .array .boolean, .array .int, .array .int, .int, .int, .int, .object "ChainBooks$Sha", .array .int, .array .int]
  | 8 => [.object "ChainBooks$Ledger", .object "ChainBooks$Legs", .array .int, .object "ChainBooks$Pages", .array (.object "ChainBooks$Head"), .object "ChainBooks$Trail", .object "ChainBooks$Auditor", .array .int]
  | 9 => [.array .int, .array .int, .array .int, .array .int, .array .boolean, .array .long, .array .long, .array .long, .array .long, .array .int, .array .long, .array .int, .array .int, .array .long, .array .int, .array .long, .array .boolean, .array .int, .array .int, .array .int, .int, .array .int, .array .int, .array .int, .array .int, .int, .int, .int, .int, .int, .long, .long, .array .int, .array .long, .array .int, .int, .array .long, .int, .array .int, .array .long, .array .int, .array .int, .int, .array .int, .array .int, .array .int, .array .int, .array .int, .array .int, .array .boolean, .array .int, .array .int, .int, .int, .int, .int, .array .int, .array .boolean, .array .int, .array .int, .int, .int, .int, .boolean, .array .int, .array .int, .int]
  | _ => []
def aTys : List FieldType := [.int, .byte, .boolean, .long, .array .int, .object "ChainBooks$Head"]
def sTab : List (String × String × String) := [("ChainBooks$Sha", "FIRST", "[I"), ("ChainBooks$Sha", "ROUND", "[I")]
theorem inX0 : ∀ w ∈ wsX00, w ∈ lwT := by
  intro w hw
  obtain ⟨k, hk, rfl⟩ := List.mem_map.mp hw
  have hk := List.mem_range.mp hk
  match k, hk with
  | 0, _ => exact tb2 (List.mem_of_getElem? (i := 54) rfl) rfl
  | 1, _ => exact tb2 (List.mem_of_getElem? (i := 56) rfl) rfl
  | k + 2, h => exact absurd h (by omega)
theorem cfX0 : ∀ k, k < 2 → (cfT 0)[k]? = some (tyX0 k) := by decide +kernel
theorem inX1 : ∀ w ∈ wsX10, w ∈ lwT := by
  intro w hw
  obtain ⟨k, hk, rfl⟩ := List.mem_map.mp hw
  have hk := List.mem_range.mp hk
  match k, hk with
  | 0, _ => exact tb1 (List.mem_of_getElem? (i := 37) rfl) rfl
  | 1, _ => exact tb1 (List.mem_of_getElem? (i := 39) rfl) rfl
  | k + 2, h => exact absurd h (by omega)
theorem cfX1 : ∀ k, k < 2 → (cfT 1)[k]? = some (tyX1 k) := by decide +kernel
theorem inX2 : ∀ w ∈ wsX20, w ∈ lwT := by
  intro w hw
  obtain ⟨k, hk, rfl⟩ := List.mem_map.mp hw
  have hk := List.mem_range.mp hk
  match k, hk with
  | 0, _ => exact tb1 (List.mem_of_getElem? (i := 214) rfl) rfl
  | 1, _ => exact tb1 (List.mem_of_getElem? (i := 216) rfl) rfl
  | 2, _ => exact tb1 (List.mem_of_getElem? (i := 218) rfl) rfl
  | k + 3, h => exact absurd h (by omega)
theorem cfX2 : ∀ k, k < 3 → (cfT 2)[k]? = some (tyX2 k) := by decide +kernel
theorem inX3 : ∀ w ∈ wsX30, w ∈ lwT := by
  intro w hw
  obtain ⟨k, hk, rfl⟩ := List.mem_map.mp hw
  have hk := List.mem_range.mp hk
  match k, hk with
  | 0, _ => exact tb1 (List.mem_of_getElem? (i := 105) rfl) rfl
  | 1, _ => exact tb1 (List.mem_of_getElem? (i := 107) rfl) rfl
  | 2, _ => exact tb1 (List.mem_of_getElem? (i := 109) rfl) rfl
  | 3, _ => exact tb1 (List.mem_of_getElem? (i := 111) rfl) rfl
  | 4, _ => exact tb1 (List.mem_of_getElem? (i := 113) rfl) rfl
  | 5, _ => exact tb1 (List.mem_of_getElem? (i := 115) rfl) rfl
  | 6, _ => exact tb1 (List.mem_of_getElem? (i := 117) rfl) rfl
  | 7, _ => exact tb1 (List.mem_of_getElem? (i := 119) rfl) rfl
  | 8, _ => exact tb1 (List.mem_of_getElem? (i := 121) rfl) rfl
  | 9, _ => exact tb1 (List.mem_of_getElem? (i := 123) rfl) rfl
  | 10, _ => exact tb1 (List.mem_of_getElem? (i := 125) rfl) rfl
  | 11, _ => exact tb1 (List.mem_of_getElem? (i := 127) rfl) rfl
  | 12, _ => exact tb1 (List.mem_of_getElem? (i := 129) rfl) rfl
  | 13, _ => exact tb1 (List.mem_of_getElem? (i := 131) rfl) rfl
  | 14, _ => exact tb1 (List.mem_of_getElem? (i := 133) rfl) rfl
  | 15, _ => exact tb1 (List.mem_of_getElem? (i := 135) rfl) rfl
  | 16, _ => exact tb1 (List.mem_of_getElem? (i := 137) rfl) rfl
  | 17, _ => exact tb1 (List.mem_of_getElem? (i := 139) rfl) rfl
  | k + 18, h => exact absurd h (by omega)
theorem cfX3 : ∀ k, k < 18 → (cfT 3)[k]? = some (tyX3 k) := by decide +kernel
theorem inX4 : ∀ w ∈ wsX40, w ∈ lwT := by
  intro w hw
  obtain ⟨k, hk, rfl⟩ := List.mem_map.mp hw
  have hk := List.mem_range.mp hk
  match k, hk with
  | 0, _ => exact tb1 (List.mem_of_getElem? (i := 59) rfl) rfl
  | 1, _ => exact tb1 (List.mem_of_getElem? (i := 61) rfl) rfl
  | 2, _ => exact tb1 (List.mem_of_getElem? (i := 63) rfl) rfl
  | k + 3, h => exact absurd h (by omega)
theorem cfX4 : ∀ k, k < 3 → (cfT 4)[k]? = some (tyX4 k) := by decide +kernel
theorem inX5 : ∀ w ∈ wsX50, w ∈ lwT := by
  intro w hw
  obtain ⟨k, hk, rfl⟩ := List.mem_map.mp hw
  have hk := List.mem_range.mp hk
  match k, hk with
  | 0, _ => exact tb1 (List.mem_of_getElem? (i := 182) rfl) rfl
  | 1, _ => exact tb1 (List.mem_of_getElem? (i := 184) rfl) rfl
  | 2, _ => exact tb1 (List.mem_of_getElem? (i := 186) rfl) rfl
  | 3, _ => exact tb1 (List.mem_of_getElem? (i := 188) rfl) rfl
  | 4, _ => exact tb1 (List.mem_of_getElem? (i := 190) rfl) rfl
  | 5, _ => exact tb1 (List.mem_of_getElem? (i := 192) rfl) rfl
  | 6, _ => exact tb1 (List.mem_of_getElem? (i := 194) rfl) rfl
  | 7, _ => exact tb1 (List.mem_of_getElem? (i := 196) rfl) rfl
  | k + 8, h => exact absurd h (by omega)
theorem cfX5 : ∀ k, k < 8 → (cfT 5)[k]? = some (tyX5 k) := by decide +kernel
theorem inX6 : ∀ w ∈ wsX60, w ∈ lwT := by
  intro w hw
  obtain ⟨k, hk, rfl⟩ := List.mem_map.mp hw
  have hk := List.mem_range.mp hk
  match k, hk with
  | 0, _ => exact tb1 (List.mem_of_getElem? (i := 160) rfl) rfl
  | 1, _ => exact tb1 (List.mem_of_getElem? (i := 162) rfl) rfl
  | 2, _ => exact tb1 (List.mem_of_getElem? (i := 164) rfl) rfl
  | 3, _ => exact tb1 (List.mem_of_getElem? (i := 166) rfl) rfl
  | k + 4, h => exact absurd h (by omega)
theorem cfX6 : ∀ k, k < 4 → (cfT 6)[k]? = some (tyX6 k) := by decide +kernel
theorem inX7 : ∀ w ∈ wsX70, w ∈ lwT := by
  intro w hw
  obtain ⟨k, hk, rfl⟩ := List.mem_map.mp hw
  have hk := List.mem_range.mp hk
  match k, hk with
  | 0, _ => exact tb2 (List.mem_of_getElem? (i := 11) rfl) rfl
  | 1, _ => exact tb2 (List.mem_of_getElem? (i := 13) rfl) rfl
  | 2, _ => exact tb2 (List.mem_of_getElem? (i := 15) rfl) rfl
  | 3, _ => exact tb2 (List.mem_of_getElem? (i := 17) rfl) rfl
  | 4, _ => exact tb2 (List.mem_of_getElem? (i := 19) rfl) rfl
  | 5, _ => exact tb2 (List.mem_of_getElem? (i := 21) rfl) rfl
  | 6, _ => exact tb2 (List.mem_of_getElem? (i := 23) rfl) rfl
  | 7, _ => exact tb2 (List.mem_of_getElem? (i := 25) rfl) rfl
  | 8, _ => exact tb2 (List.mem_of_getElem? (i := 27) rfl) rfl
  | 9, _ => exact tb2 (List.mem_of_getElem? (i := 29) rfl) rfl
  | 10, _ => exact tb2 (List.mem_of_getElem? (i := 31) rfl) rfl
  | 11, _ => exact tb2 (List.mem_of_getElem? (i := 33) rfl) rfl
  | 12, _ => exact tb2 (List.mem_of_getElem? (i := 35) rfl) rfl
  | 13, _ => exact tb2 (List.mem_of_getElem? (i := 37) rfl) rfl
  | 14, _ => exact tb2 (List.mem_of_getElem? (i := 39) rfl) rfl
  | k + 15, h => exact absurd h (by omega)
theorem cfX7 : ∀ k, k < 15 → (cfT 7)[k]? = some (tyX7 k) := by decide +kernel
theorem inX8 : ∀ w ∈ wsX80, w ∈ lwT := by
  intro w hw
  obtain ⟨k, hk, rfl⟩ := List.mem_map.mp hw
  have hk := List.mem_range.mp hk
  match k, hk with
  | 0, _ => exact tb2 (List.mem_of_getElem? (i := 67) rfl) rfl
  | 1, _ => exact tb2 (List.mem_of_getElem? (i := 69) rfl) rfl
  | 2, _ => exact tb2 (List.mem_of_getElem? (i := 71) rfl) rfl
  | 3, _ => exact tb2 (List.mem_of_getElem? (i := 73) rfl) rfl
  | 4, _ => exact tb2 (List.mem_of_getElem? (i := 75) rfl) rfl
  | 5, _ => exact tb2 (List.mem_of_getElem? (i := 77) rfl) rfl
  | 6, _ => exact tb2 (List.mem_of_getElem? (i := 79) rfl) rfl
  | 7, _ => exact tb2 (List.mem_of_getElem? (i := 81) rfl) rfl
  | k + 8, h => exact absurd h (by omega)
theorem cfX8 : ∀ k, k < 8 → (cfT 8)[k]? = some (tyX8 k) := by decide +kernel
theorem inX9 : ∀ w ∈ wsX90, w ∈ lwT := by
  intro w hw
  obtain ⟨k, hk, rfl⟩ := List.mem_map.mp hw
  have hk := List.mem_range.mp hk
  match k, hk with
  | 0, _ => exact tb4 (List.mem_of_getElem? (i := 134) rfl) rfl
  | 1, _ => exact tb4 (List.mem_of_getElem? (i := 136) rfl) rfl
  | 2, _ => exact tb4 (List.mem_of_getElem? (i := 138) rfl) rfl
  | 3, _ => exact tb4 (List.mem_of_getElem? (i := 140) rfl) rfl
  | 4, _ => exact tb4 (List.mem_of_getElem? (i := 142) rfl) rfl
  | 5, _ => exact tb4 (List.mem_of_getElem? (i := 144) rfl) rfl
  | 6, _ => exact tb4 (List.mem_of_getElem? (i := 146) rfl) rfl
  | 7, _ => exact tb4 (List.mem_of_getElem? (i := 148) rfl) rfl
  | 8, _ => exact tb4 (List.mem_of_getElem? (i := 150) rfl) rfl
  | 9, _ => exact tb4 (List.mem_of_getElem? (i := 152) rfl) rfl
  | 10, _ => exact tb4 (List.mem_of_getElem? (i := 154) rfl) rfl
  | 11, _ => exact tb4 (List.mem_of_getElem? (i := 156) rfl) rfl
  | 12, _ => exact tb4 (List.mem_of_getElem? (i := 158) rfl) rfl
  | 13, _ => exact tb4 (List.mem_of_getElem? (i := 160) rfl) rfl
  | 14, _ => exact tb4 (List.mem_of_getElem? (i := 162) rfl) rfl
  | 15, _ => exact tb4 (List.mem_of_getElem? (i := 164) rfl) rfl
  | 16, _ => exact tb4 (List.mem_of_getElem? (i := 166) rfl) rfl
  | 17, _ => exact tb4 (List.mem_of_getElem? (i := 168) rfl) rfl
  | 18, _ => exact tb4 (List.mem_of_getElem? (i := 170) rfl) rfl
  | 19, _ => exact tb4 (List.mem_of_getElem? (i := 172) rfl) rfl
  | 20, _ => exact tb4 (List.mem_of_getElem? (i := 174) rfl) rfl
  | 21, _ => exact tb4 (List.mem_of_getElem? (i := 176) rfl) rfl
  | 22, _ => exact tb4 (List.mem_of_getElem? (i := 178) rfl) rfl
  | 23, _ => exact tb4 (List.mem_of_getElem? (i := 180) rfl) rfl
  | 24, _ => exact tb4 (List.mem_of_getElem? (i := 182) rfl) rfl
  | 25, _ => exact tb4 (List.mem_of_getElem? (i := 184) rfl) rfl
  | 26, _ => exact tb4 (List.mem_of_getElem? (i := 186) rfl) rfl
  | 27, _ => exact tb4 (List.mem_of_getElem? (i := 188) rfl) rfl
  | 28, _ => exact tb4 (List.mem_of_getElem? (i := 190) rfl) rfl
  | 29, _ => exact tb4 (List.mem_of_getElem? (i := 192) rfl) rfl
  | 30, _ => exact tb4 (List.mem_of_getElem? (i := 194) rfl) rfl
  | 31, _ => exact tb4 (List.mem_of_getElem? (i := 196) rfl) rfl
  | 32, _ => exact tb4 (List.mem_of_getElem? (i := 198) rfl) rfl
  | 33, _ => exact tb4 (List.mem_of_getElem? (i := 200) rfl) rfl
  | 34, _ => exact tb4 (List.mem_of_getElem? (i := 202) rfl) rfl
  | 35, _ => exact tb4 (List.mem_of_getElem? (i := 204) rfl) rfl
  | 36, _ => exact tb4 (List.mem_of_getElem? (i := 206) rfl) rfl
  | 37, _ => exact tb4 (List.mem_of_getElem? (i := 208) rfl) rfl
  | 38, _ => exact tb4 (List.mem_of_getElem? (i := 210) rfl) rfl
  | 39, _ => exact tb4 (List.mem_of_getElem? (i := 212) rfl) rfl
  | 40, _ => exact tb4 (List.mem_of_getElem? (i := 214) rfl) rfl
  | 41, _ => exact tb4 (List.mem_of_getElem? (i := 216) rfl) rfl
  | 42, _ => exact tb4 (List.mem_of_getElem? (i := 218) rfl) rfl
  | 43, _ => exact tb4 (List.mem_of_getElem? (i := 220) rfl) rfl
  | 44, _ => exact tb4 (List.mem_of_getElem? (i := 222) rfl) rfl
  | 45, _ => exact tb4 (List.mem_of_getElem? (i := 224) rfl) rfl
  | 46, _ => exact tb4 (List.mem_of_getElem? (i := 226) rfl) rfl
  | 47, _ => exact tb4 (List.mem_of_getElem? (i := 228) rfl) rfl
  | 48, _ => exact tb4 (List.mem_of_getElem? (i := 230) rfl) rfl
  | 49, _ => exact tb4 (List.mem_of_getElem? (i := 232) rfl) rfl
  | 50, _ => exact tb4 (List.mem_of_getElem? (i := 234) rfl) rfl
  | 51, _ => exact tb4 (List.mem_of_getElem? (i := 236) rfl) rfl
  | 52, _ => exact tb4 (List.mem_of_getElem? (i := 238) rfl) rfl
  | 53, _ => exact tb5 (List.mem_of_getElem? (i := 0) rfl) rfl
  | 54, _ => exact tb5 (List.mem_of_getElem? (i := 2) rfl) rfl
  | 55, _ => exact tb5 (List.mem_of_getElem? (i := 4) rfl) rfl
  | 56, _ => exact tb5 (List.mem_of_getElem? (i := 6) rfl) rfl
  | 57, _ => exact tb5 (List.mem_of_getElem? (i := 8) rfl) rfl
  | 58, _ => exact tb5 (List.mem_of_getElem? (i := 10) rfl) rfl
  | 59, _ => exact tb5 (List.mem_of_getElem? (i := 12) rfl) rfl
  | 60, _ => exact tb5 (List.mem_of_getElem? (i := 14) rfl) rfl
  | 61, _ => exact tb5 (List.mem_of_getElem? (i := 16) rfl) rfl
  | 62, _ => exact tb5 (List.mem_of_getElem? (i := 18) rfl) rfl
  | 63, _ => exact tb5 (List.mem_of_getElem? (i := 20) rfl) rfl
  | 64, _ => exact tb5 (List.mem_of_getElem? (i := 22) rfl) rfl
  | 65, _ => exact tb5 (List.mem_of_getElem? (i := 24) rfl) rfl
  | 66, _ => exact tb5 (List.mem_of_getElem? (i := 26) rfl) rfl
  | k + 67, h => exact absurd h (by omega)
theorem cfX9 : ∀ k, k < 67 → (cfT 9)[k]? = some (tyX9 k) := by decide +kernel
