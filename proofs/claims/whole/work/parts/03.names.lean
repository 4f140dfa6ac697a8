def RX0 : String := "WatchLots$Book"
def TX0 : u_T := fun k => match k with
  | 0 => ("WatchLots$Book", "town", "LWatchLots$Town;", true)
  | 1 => ("WatchLots$Book", "diary", "LWatchLots$Diary;", true)
  | 2 => ("WatchLots$Book", "told", "LWatchLots$Told;", true)
  | _ => ("WatchLots$Book", "status", "[I", true)
def tyX0 : Nat → FieldType := fun k => match k with
  | 0 => .object "WatchLots$Town"
  | 1 => .object "WatchLots$Diary"
  | 2 => .object "WatchLots$Told"
  | _ => .array .int
theorem nmX0 : ∀ a, a < 4 → ∀ b, b < 4 → a ≠ b → (TX0 a).2.1 ≠ (TX0 b).2.1 := by decide +kernel
theorem tyX0_ok : ∀ k, k < 4 → parseFieldDescriptor (TX0 k).2.2.1 = some (tyX0 k) := by decide +kernel
abbrev cX0_init : ByteArray := prog_2_method_1_code
def yX0_init : MethodName := ⟨RX0, "<init>", "()V"⟩
abbrev cX0_begin : ByteArray := prog_2_method_2_code
def yX0_begin : MethodName := ⟨RX0, "begin", "(LWatchLots$Ward;)V"⟩
abbrev cX0_keepAct : ByteArray := prog_2_method_3_code
def yX0_keepAct : MethodName := ⟨RX0, "keepAct", "()V"⟩
abbrev cX0_undoAct : ByteArray := prog_2_method_4_code
def yX0_undoAct : MethodName := ⟨RX0, "undoAct", "()Z"⟩
abbrev cX0_refuse : ByteArray := prog_2_method_5_code
def yX0_refuse : MethodName := ⟨RX0, "refuse", "(I)I"⟩
abbrev cX0_copy : ByteArray := prog_2_method_6_code
def yX0_copy : MethodName := ⟨RX0, "copy", "(LWatchLots$Book;)V"⟩
def RX1 : String := "WatchLots$Diary"
def TX1 : u_T := fun k => match k with
  | 0 => ("WatchLots$Diary", "rows", "[I", true)
  | _ => ("WatchLots$Diary", "count", "I", false)
def tyX1 : Nat → FieldType := fun k => match k with
  | 0 => .array .int
  | _ => .int
theorem nmX1 : ∀ a, a < 2 → ∀ b, b < 2 → a ≠ b → (TX1 a).2.1 ≠ (TX1 b).2.1 := by decide +kernel
theorem tyX1_ok : ∀ k, k < 2 → parseFieldDescriptor (TX1 k).2.2.1 = some (tyX1 k) := by decide +kernel
abbrev cX1_init : ByteArray := prog_3_method_1_code
def yX1_init : MethodName := ⟨RX1, "<init>", "()V"⟩
abbrev cX1_add : ByteArray := prog_3_method_2_code
def yX1_add : MethodName := ⟨RX1, "add", "(LWatchLots$Town;)V"⟩
abbrev cX1_takeBack : ByteArray := prog_3_method_3_code
def yX1_takeBack : MethodName := ⟨RX1, "takeBack", "(LWatchLots$Town;)Z"⟩
abbrev cX1_copy : ByteArray := prog_3_method_4_code
def yX1_copy : MethodName := ⟨RX1, "copy", "(LWatchLots$Diary;)V"⟩
abbrev cX1_dropOldest : ByteArray := prog_3_method_5_code
def yX1_dropOldest : MethodName := ⟨RX1, "dropOldest", "()V"⟩
def RX2 : String := "WatchLots$Dice"
def TX2 : u_T := fun k => match k with
  | _ => ("WatchLots$Dice", "seed", "I", false)
def tyX2 : Nat → FieldType := fun k => match k with
  | _ => .int
theorem nmX2 : ∀ a, a < 1 → ∀ b, b < 1 → a ≠ b → (TX2 a).2.1 ≠ (TX2 b).2.1 := by decide +kernel
theorem tyX2_ok : ∀ k, k < 1 → parseFieldDescriptor (TX2 k).2.2.1 = some (tyX2 k) := by decide +kernel
abbrev cX2_init : ByteArray := prog_4_method_1_code
def yX2_init : MethodName := ⟨RX2, "<init>", "()V"⟩
abbrev cX2_start : ByteArray := prog_4_method_2_code
def yX2_start : MethodName := ⟨RX2, "start", "(I)V"⟩
abbrev cX2_draw : ByteArray := prog_4_method_3_code
def yX2_draw : MethodName := ⟨RX2, "draw", "(I)I"⟩
def RX3 : String := "WatchLots$Gifts"
def TX3 : u_T := fun k => match k with
  | 0 => ("WatchLots$Gifts", "bids", "[I", true)
  | 1 => ("WatchLots$Gifts", "best", "[I", true)
  | _ => ("WatchLots$Gifts", "takers", "[I", true)
def tyX3 : Nat → FieldType := fun k => match k with
  | 0 => .array .int
  | 1 => .array .int
  | _ => .array .int
theorem nmX3 : ∀ a, a < 3 → ∀ b, b < 3 → a ≠ b → (TX3 a).2.1 ≠ (TX3 b).2.1 := by decide +kernel
theorem tyX3_ok : ∀ k, k < 3 → parseFieldDescriptor (TX3 k).2.2.1 = some (tyX3 k) := by decide +kernel
abbrev cX3_init : ByteArray := prog_5_method_1_code
def yX3_init : MethodName := ⟨RX3, "<init>", "()V"⟩
abbrev cX3_giveOut : ByteArray := prog_5_method_2_code
def yX3_giveOut : MethodName := ⟨RX3, "giveOut", "(LWatchLots$Ward;LWatchLots$Town;LWatchLots$Sale;)V"⟩
abbrev cX3_allTogether : ByteArray := prog_5_method_3_code
def yX3_allTogether : MethodName := ⟨RX3, "allTogether", "()I"⟩
abbrev cX3_sumWith : ByteArray := prog_5_method_4_code
def yX3_sumWith : MethodName := ⟨RX3, "sumWith", "(III)I"⟩
abbrev cX3_bestFrom : ByteArray := prog_5_method_5_code
def yX3_bestFrom : MethodName := ⟨RX3, "bestFrom", "(II)I"⟩
abbrev cX3_chooseFirstRow : ByteArray := prog_5_method_6_code
def yX3_chooseFirstRow : MethodName := ⟨RX3, "chooseFirstRow", "()V"⟩
abbrev cX3_takerOf : ByteArray := prog_5_method_7_code
def yX3_takerOf : MethodName := ⟨RX3, "takerOf", "(II)I"⟩
def RX4 : String := "WatchLots$Guess"
def TX4 : u_T := fun k => match k with
  | 0 => ("WatchLots$Guess", "nightsSeen", "[I", true)
  | 1 => ("WatchLots$Guess", "marks", "[I", true)
  | 2 => ("WatchLots$Guess", "count", "I", false)
  | 3 => ("WatchLots$Guess", "first", "I", false)
  | _ => ("WatchLots$Guess", "without", "Z", false)
def tyX4 : Nat → FieldType := fun k => match k with
  | 0 => .array .int
  | 1 => .array .int
  | 2 => .int
  | 3 => .int
  | _ => .boolean
theorem nmX4 : ∀ a, a < 5 → ∀ b, b < 5 → a ≠ b → (TX4 a).2.1 ≠ (TX4 b).2.1 := by decide +kernel
theorem tyX4_ok : ∀ k, k < 5 → parseFieldDescriptor (TX4 k).2.2.1 = some (tyX4 k) := by decide +kernel
abbrev cX4_init : ByteArray := prog_6_method_1_code
def yX4_init : MethodName := ⟨RX4, "<init>", "()V"⟩
abbrev cX4_scan : ByteArray := prog_6_method_2_code
def yX4_scan : MethodName := ⟨RX4, "scan", "(LWatchLots$Ward;LWatchLots$Town;LWatchLots$Told;)V"⟩
abbrev cX4_tryWalksOf : ByteArray := prog_6_method_3_code
def yX4_tryWalksOf : MethodName := ⟨RX4, "tryWalksOf", "(ILWatchLots$Ward;LWatchLots$Town;LWatchLots$Told;)V"⟩
abbrev cX4_note : ByteArray := prog_6_method_4_code
def yX4_note : MethodName := ⟨RX4, "note", "(II)V"⟩
abbrev cX4_nightsOf : ByteArray := prog_6_method_5_code
def yX4_nightsOf : MethodName := ⟨RX4, "nightsOf", "(LWatchLots$Ward;LWatchLots$Town;II)I"⟩
abbrev cX4_unlike : ByteArray := prog_6_method_6_code
def yX4_unlike : MethodName := ⟨RX4, "unlike", "(I)I"⟩
abbrev cX4_mostUnlike : ByteArray := prog_6_method_7_code
def yX4_mostUnlike : MethodName := ⟨RX4, "mostUnlike", "()I"⟩
abbrev cX4_nightToLook : ByteArray := prog_6_method_8_code
def yX4_nightToLook : MethodName := ⟨RX4, "nightToLook", "()I"⟩
def RX5 : String := "WatchLots$Reader"
def TX5 : u_T := fun k => match k with
  | 0 => ("WatchLots$Reader", "tape", "[I", true)
  | 1 => ("WatchLots$Reader", "taped", "I", false)
  | 2 => ("WatchLots$Reader", "draft", "LWatchLots$Ward;", false)
  | 3 => ("WatchLots$Reader", "end", "I", false)
  | 4 => ("WatchLots$Reader", "start", "I", false)
  | 5 => ("WatchLots$Reader", "next", "I", false)
  | 6 => ("WatchLots$Reader", "kind", "I", false)
  | 7 => ("WatchLots$Reader", "value", "I", false)
  | 8 => ("WatchLots$Reader", "found", "I", false)
  | 9 => ("WatchLots$Reader", "linesTold", "I", false)
  | 10 => ("WatchLots$Reader", "hasStreet", "Z", false)
  | _ => ("WatchLots$Reader", "row", "[I", true)
def tyX5 : Nat → FieldType := fun k => match k with
  | 0 => .array .int
  | 1 => .int
  | 2 => .object "WatchLots$Ward"
  | 3 => .int
  | 4 => .int
  | 5 => .int
  | 6 => .int
  | 7 => .int
  | 8 => .int
  | 9 => .int
  | 10 => .boolean
  | _ => .array .int
theorem nmX5 : ∀ a, a < 12 → ∀ b, b < 12 → a ≠ b → (TX5 a).2.1 ≠ (TX5 b).2.1 := by decide +kernel
theorem tyX5_ok : ∀ k, k < 12 → parseFieldDescriptor (TX5 k).2.2.1 = some (tyX5 k) := by decide +kernel
abbrev cX5_init : ByteArray := prog_7_method_1_code
def yX5_init : MethodName := ⟨RX5, "<init>", "()V"⟩
abbrev cX5_append : ByteArray := prog_7_method_2_code
def yX5_append : MethodName := ⟨RX5, "append", "(I)V"⟩
abbrev cX5_exchange : ByteArray := prog_7_method_3_code
def yX5_exchange : MethodName := ⟨RX5, "exchange", "(LWatchLots$Ward;)LWatchLots$Ward;"⟩
abbrev cX5_read : ByteArray := prog_7_method_4_code
def yX5_read : MethodName := ⟨RX5, "read", "(I)I"⟩
abbrev cX5_advance : ByteArray := prog_7_method_5_code
def yX5_advance : MethodName := ⟨RX5, "advance", "()V"⟩
abbrev cX5_readDigits : ByteArray := prog_7_method_6_code
def yX5_readDigits : MethodName := ⟨RX5, "readDigits", "()V"⟩
abbrev cX5_isBlank : ByteArray := prog_7_method_7_code
def yX5_isBlank : MethodName := ⟨RX5, "isBlank", "(I)Z"⟩
abbrev cX5_isLetter : ByteArray := prog_7_method_8_code
def yX5_isLetter : MethodName := ⟨RX5, "isLetter", "(I)Z"⟩
abbrev cX5_isDigit : ByteArray := prog_7_method_9_code
def yX5_isDigit : MethodName := ⟨RX5, "isDigit", "(I)Z"⟩
abbrev cX5_isSign : ByteArray := prog_7_method_10_code
def yX5_isSign : MethodName := ⟨RX5, "isSign", "(I)Z"⟩
abbrev cX5_isWord : ByteArray := prog_7_method_11_code
def yX5_isWord : MethodName := ⟨RX5, "isWord", "(Ljava/lang/String;)Z"⟩
abbrev cX5_refuse : ByteArray := prog_7_method_12_code
def yX5_refuse : MethodName := ⟨RX5, "refuse", "(I)Z"⟩
abbrev cX5_once : ByteArray := prog_7_method_13_code
def yX5_once : MethodName := ⟨RX5, "once", "(I)Z"⟩
abbrev cX5_sign : ByteArray := prog_7_method_14_code
def yX5_sign : MethodName := ⟨RX5, "sign", "(C)Z"⟩
abbrev cX5_number : ByteArray := prog_7_method_15_code
def yX5_number : MethodName := ⟨RX5, "number", "(II)Z"⟩
abbrev cX5_street : ByteArray := prog_7_method_16_code
def yX5_street : MethodName := ⟨RX5, "street", "()Z"⟩
abbrev cX5_readRow : ByteArray := prog_7_method_17_code
def yX5_readRow : MethodName := ⟨RX5, "readRow", "(IZ)I"⟩
abbrev cX5_line : ByteArray := prog_7_method_18_code
def yX5_line : MethodName := ⟨RX5, "line", "()Z"⟩
abbrev cX5_streetsLine : ByteArray := prog_7_method_19_code
def yX5_streetsLine : MethodName := ⟨RX5, "streetsLine", "()Z"⟩
abbrev cX5_pathLine : ByteArray := prog_7_method_20_code
def yX5_pathLine : MethodName := ⟨RX5, "pathLine", "()Z"⟩
abbrev cX5_roundLine : ByteArray := prog_7_method_21_code
def yX5_roundLine : MethodName := ⟨RX5, "roundLine", "()Z"⟩
abbrev cX5_personLine : ByteArray := prog_7_method_22_code
def yX5_personLine : MethodName := ⟨RX5, "personLine", "(Z)Z"⟩
abbrev cX5_fogLine : ByteArray := prog_7_method_23_code
def yX5_fogLine : MethodName := ⟨RX5, "fogLine", "()Z"⟩
abbrev cX5_reserveLine : ByteArray := prog_7_method_24_code
def yX5_reserveLine : MethodName := ⟨RX5, "reserveLine", "()Z"⟩
abbrev cX5_expr : ByteArray := prog_7_method_25_code
def yX5_expr : MethodName := ⟨RX5, "expr", "(I)Z"⟩
abbrev cX5_both : ByteArray := prog_7_method_26_code
def yX5_both : MethodName := ⟨RX5, "both", "(I)Z"⟩
abbrev cX5_denied : ByteArray := prog_7_method_27_code
def yX5_denied : MethodName := ⟨RX5, "denied", "(I)Z"⟩
abbrev cX5_test : ByteArray := prog_7_method_28_code
def yX5_test : MethodName := ⟨RX5, "test", "(I)Z"⟩
abbrev cX5_sum : ByteArray := prog_7_method_29_code
def yX5_sum : MethodName := ⟨RX5, "sum", "(I)Z"⟩
abbrev cX5_product : ByteArray := prog_7_method_30_code
def yX5_product : MethodName := ⟨RX5, "product", "(I)Z"⟩
abbrev cX5_part : ByteArray := prog_7_method_31_code
def yX5_part : MethodName := ⟨RX5, "part", "(I)Z"⟩
abbrev cX5_valueHere : ByteArray := prog_7_method_32_code
def yX5_valueHere : MethodName := ⟨RX5, "valueHere", "()I"⟩
def RX6 : String := "WatchLots$Sale"
def TX6 : u_T := fun k => match k with
  | 0 => ("WatchLots$Sale", "hours", "[I", true)
  | 1 => ("WatchLots$Sale", "values", "[I", true)
  | 2 => ("WatchLots$Sale", "buyers", "[I", true)
  | 3 => ("WatchLots$Sale", "prices", "[I", true)
  | 4 => ("WatchLots$Sale", "lotCount", "I", false)
  | _ => ("WatchLots$Sale", "bought", "I", false)
def tyX6 : Nat → FieldType := fun k => match k with
  | 0 => .array .int
  | 1 => .array .int
  | 2 => .array .int
  | 3 => .array .int
  | 4 => .int
  | _ => .int
theorem nmX6 : ∀ a, a < 6 → ∀ b, b < 6 → a ≠ b → (TX6 a).2.1 ≠ (TX6 b).2.1 := by decide +kernel
theorem tyX6_ok : ∀ k, k < 6 → parseFieldDescriptor (TX6 k).2.2.1 = some (tyX6 k) := by decide +kernel
abbrev cX6_init : ByteArray := prog_8_method_1_code
def yX6_init : MethodName := ⟨RX6, "<init>", "()V"⟩
abbrev cX6_open : ByteArray := prog_8_method_2_code
def yX6_open : MethodName := ⟨RX6, "open", "(LWatchLots$Ward;LWatchLots$Town;I)V"⟩
abbrev cX6_hasLot : ByteArray := prog_8_method_3_code
def yX6_hasLot : MethodName := ⟨RX6, "hasLot", "(I)Z"⟩
abbrev cX6_bid : ByteArray := prog_8_method_4_code
def yX6_bid : MethodName := ⟨RX6, "bid", "(LWatchLots$Ward;LWatchLots$Town;II)I"⟩
abbrev cX6_plainWorth : ByteArray := prog_8_method_5_code
def yX6_plainWorth : MethodName := ⟨RX6, "plainWorth", "(LWatchLots$Town;II)I"⟩
abbrev cX6_putValues : ByteArray := prog_8_method_6_code
def yX6_putValues : MethodName := ⟨RX6, "putValues", "(LWatchLots$Ward;LWatchLots$Town;II)V"⟩
abbrev cX6_sell : ByteArray := prog_8_method_7_code
def yX6_sell : MethodName := ⟨RX6, "sell", "(LWatchLots$Ward;LWatchLots$Town;I)V"⟩
abbrev cX6_handOver : ByteArray := prog_8_method_8_code
def yX6_handOver : MethodName := ⟨RX6, "handOver", "(LWatchLots$Town;III)V"⟩
abbrev cX6_pass : ByteArray := prog_8_method_9_code
def yX6_pass : MethodName := ⟨RX6, "pass", "(LWatchLots$Ward;LWatchLots$Town;I)V"⟩
abbrev cX6_paidBy : ByteArray := prog_8_method_10_code
def yX6_paidBy : MethodName := ⟨RX6, "paidBy", "(I)I"⟩
def RX7 : String := "WatchLots$Told"
def TX7 : u_T := fun k => match k with
  | 0 => ("WatchLots$Told", "people", "[I", true)
  | 1 => ("WatchLots$Told", "nights", "[I", true)
  | 2 => ("WatchLots$Told", "wasSeen", "[I", true)
  | _ => ("WatchLots$Told", "count", "I", false)
def tyX7 : Nat → FieldType := fun k => match k with
  | 0 => .array .int
  | 1 => .array .int
  | 2 => .array .int
  | _ => .int
theorem nmX7 : ∀ a, a < 4 → ∀ b, b < 4 → a ≠ b → (TX7 a).2.1 ≠ (TX7 b).2.1 := by decide +kernel
theorem tyX7_ok : ∀ k, k < 4 → parseFieldDescriptor (TX7 k).2.2.1 = some (tyX7 k) := by decide +kernel
abbrev cX7_init : ByteArray := prog_9_method_1_code
def yX7_init : MethodName := ⟨RX7, "<init>", "()V"⟩
abbrev cX7_hasRoom : ByteArray := prog_9_method_2_code
def yX7_hasRoom : MethodName := ⟨RX7, "hasRoom", "()Z"⟩
abbrev cX7_add : ByteArray := prog_9_method_3_code
def yX7_add : MethodName := ⟨RX7, "add", "(IIZ)V"⟩
abbrev cX7_holds : ByteArray := prog_9_method_4_code
def yX7_holds : MethodName := ⟨RX7, "holds", "([I)Z"⟩
abbrev cX7_copy : ByteArray := prog_9_method_5_code
def yX7_copy : MethodName := ⟨RX7, "copy", "(LWatchLots$Told;)V"⟩
def RX8 : String := "WatchLots$Town"
def TX8 : u_T := fun k => match k with
  | 0 => ("WatchLots$Town", "night", "I", false)
  | 1 => ("WatchLots$Town", "dark", "I", false)
  | 2 => ("WatchLots$Town", "bribing", "I", false)
  | 3 => ("WatchLots$Town", "reserve", "I", false)
  | 4 => ("WatchLots$Town", "coins", "[I", true)
  | 5 => ("WatchLots$Town", "knows", "[I", true)
  | _ => ("WatchLots$Town", "walks", "[I", true)
def tyX8 : Nat → FieldType := fun k => match k with
  | 0 => .int
  | 1 => .int
  | 2 => .int
  | 3 => .int
  | 4 => .array .int
  | 5 => .array .int
  | _ => .array .int
theorem nmX8 : ∀ a, a < 7 → ∀ b, b < 7 → a ≠ b → (TX8 a).2.1 ≠ (TX8 b).2.1 := by decide +kernel
theorem tyX8_ok : ∀ k, k < 7 → parseFieldDescriptor (TX8 k).2.2.1 = some (tyX8 k) := by decide +kernel
abbrev cX8_init : ByteArray := prog_10_method_1_code
def yX8_init : MethodName := ⟨RX8, "<init>", "()V"⟩
abbrev cX8_begin : ByteArray := prog_10_method_2_code
def yX8_begin : MethodName := ⟨RX8, "begin", "(LWatchLots$Ward;)V"⟩
abbrev cX8_copy : ByteArray := prog_10_method_3_code
def yX8_copy : MethodName := ⟨RX8, "copy", "(LWatchLots$Town;)V"⟩
abbrev cX8_writeTo : ByteArray := prog_10_method_4_code
def yX8_writeTo : MethodName := ⟨RX8, "writeTo", "([II)V"⟩
abbrev cX8_readFrom : ByteArray := prog_10_method_5_code
def yX8_readFrom : MethodName := ⟨RX8, "readFrom", "([II)V"⟩
abbrev cX8_isBribing : ByteArray := prog_10_method_6_code
def yX8_isBribing : MethodName := ⟨RX8, "isBribing", "(I)Z"⟩
abbrev cX8_canBribe : ByteArray := prog_10_method_7_code
def yX8_canBribe : MethodName := ⟨RX8, "canBribe", "(I)Z"⟩
abbrev cX8_startBribing : ByteArray := prog_10_method_8_code
def yX8_startBribing : MethodName := ⟨RX8, "startBribing", "(I)V"⟩
abbrev cX8_addCoins : ByteArray := prog_10_method_9_code
def yX8_addCoins : MethodName := ⟨RX8, "addCoins", "(II)V"⟩
abbrev cX8_move : ByteArray := prog_10_method_10_code
def yX8_move : MethodName := ⟨RX8, "move", "(III)V"⟩
abbrev cX8_doesKnow : ByteArray := prog_10_method_11_code
def yX8_doesKnow : MethodName := ⟨RX8, "doesKnow", "(II)Z"⟩
abbrev cX8_coinsOfAll : ByteArray := prog_10_method_12_code
def yX8_coinsOfAll : MethodName := ⟨RX8, "coinsOfAll", "()I"⟩
abbrev cX8_knownBy : ByteArray := prog_10_method_13_code
def yX8_knownBy : MethodName := ⟨RX8, "knownBy", "(I)I"⟩
abbrev cX8_knowers : ByteArray := prog_10_method_14_code
def yX8_knowers : MethodName := ⟨RX8, "knowers", "(I)I"⟩
def RX9 : String := "WatchLots$Ward"
def TX9 : u_T := fun k => match k with
  | 0 => ("WatchLots$Ward", "streets", "I", false)
  | 1 => ("WatchLots$Ward", "paths", "I", false)
  | 2 => ("WatchLots$Ward", "rounds", "I", false)
  | 3 => ("WatchLots$Ward", "people", "I", false)
  | 4 => ("WatchLots$Ward", "bishops", "I", false)
  | 5 => ("WatchLots$Ward", "fogs", "I", false)
  | 6 => ("WatchLots$Ward", "reserve", "I", false)
  | 7 => ("WatchLots$Ward", "near", "[I", true)
  | 8 => ("WatchLots$Ward", "round", "[I", true)
  | 9 => ("WatchLots$Ward", "coins", "[I", true)
  | 10 => ("WatchLots$Ward", "lengths", "[I", true)
  | 11 => ("WatchLots$Ward", "walks", "[I", true)
  | 12 => ("WatchLots$Ward", "fog", "[I", true)
  | _ => ("WatchLots$Ward", "worth", "LWatchLots$Worth;", true)
def tyX9 : Nat → FieldType := fun k => match k with
  | 0 => .int
  | 1 => .int
  | 2 => .int
  | 3 => .int
  | 4 => .int
  | 5 => .int
  | 6 => .int
  | 7 => .array .int
  | 8 => .array .int
  | 9 => .array .int
  | 10 => .array .int
  | 11 => .array .int
  | 12 => .array .int
  | _ => .object "WatchLots$Worth"
theorem nmX9 : ∀ a, a < 14 → ∀ b, b < 14 → a ≠ b → (TX9 a).2.1 ≠ (TX9 b).2.1 := by decide +kernel
theorem tyX9_ok : ∀ k, k < 14 → parseFieldDescriptor (TX9 k).2.2.1 = some (tyX9 k) := by decide +kernel
abbrev cX9_init : ByteArray := prog_11_method_1_code
def yX9_init : MethodName := ⟨RX9, "<init>", "()V"⟩
abbrev cX9_clear : ByteArray := prog_11_method_2_code
def yX9_clear : MethodName := ⟨RX9, "clear", "()V"⟩
abbrev cX9_join : ByteArray := prog_11_method_3_code
def yX9_join : MethodName := ⟨RX9, "join", "(II)V"⟩
abbrev cX9_addPerson : ByteArray := prog_11_method_4_code
def yX9_addPerson : MethodName := ⟨RX9, "addPerson", "(IZ[II)V"⟩
abbrev cX9_watchAt : ByteArray := prog_11_method_5_code
def yX9_watchAt : MethodName := ⟨RX9, "watchAt", "(II)I"⟩
abbrev cX9_fogOf : ByteArray := prog_11_method_6_code
def yX9_fogOf : MethodName := ⟨RX9, "fogOf", "(I)I"⟩
abbrev cX9_placeAt : ByteArray := prog_11_method_7_code
def yX9_placeAt : MethodName := ⟨RX9, "placeAt", "(II)I"⟩
abbrev cX9_spread : ByteArray := prog_11_method_8_code
def yX9_spread : MethodName := ⟨RX9, "spread", "(I)I"⟩
abbrev cX9_hoursMet : ByteArray := prog_11_method_9_code
def yX9_hoursMet : MethodName := ⟨RX9, "hoursMet", "(III)I"⟩
abbrev cX9_seenIn : ByteArray := prog_11_method_10_code
def yX9_seenIn : MethodName := ⟨RX9, "seenIn", "(LWatchLots$Town;III)I"⟩
abbrev cX9_lotsIn : ByteArray := prog_11_method_11_code
def yX9_lotsIn : MethodName := ⟨RX9, "lotsIn", "(LWatchLots$Town;I)I"⟩
abbrev cX9_seenAt : ByteArray := prog_11_method_12_code
def yX9_seenAt : MethodName := ⟨RX9, "seenAt", "(LWatchLots$Town;II)I"⟩
def RX10 : String := "WatchLots$Worth"
def TX10 : u_T := fun k => match k with
  | 0 => ("WatchLots$Worth", "code", "[I", true)
  | 1 => ("WatchLots$Worth", "length", "I", false)
  | 2 => ("WatchLots$Worth", "stack", "[I", true)
  | _ => ("WatchLots$Worth", "height", "I", false)
def tyX10 : Nat → FieldType := fun k => match k with
  | 0 => .array .int
  | 1 => .int
  | 2 => .array .int
  | _ => .int
theorem nmX10 : ∀ a, a < 4 → ∀ b, b < 4 → a ≠ b → (TX10 a).2.1 ≠ (TX10 b).2.1 := by decide +kernel
theorem tyX10_ok : ∀ k, k < 4 → parseFieldDescriptor (TX10 k).2.2.1 = some (tyX10 k) := by decide +kernel
abbrev cX10_init : ByteArray := prog_12_method_1_code
def yX10_init : MethodName := ⟨RX10, "<init>", "()V"⟩
abbrev cX10_clear : ByteArray := prog_12_method_2_code
def yX10_clear : MethodName := ⟨RX10, "clear", "()V"⟩
abbrev cX10_isTold : ByteArray := prog_12_method_3_code
def yX10_isTold : MethodName := ⟨RX10, "isTold", "()Z"⟩
abbrev cX10_add : ByteArray := prog_12_method_4_code
def yX10_add : MethodName := ⟨RX10, "add", "(I)V"⟩
abbrev cX10_addValue : ByteArray := prog_12_method_5_code
def yX10_addValue : MethodName := ⟨RX10, "addValue", "(I)V"⟩
abbrev cX10_of : ByteArray := prog_12_method_6_code
def yX10_of : MethodName := ⟨RX10, "of", "([I)I"⟩
abbrev cX10_push : ByteArray := prog_12_method_7_code
def yX10_push : MethodName := ⟨RX10, "push", "(I)V"⟩
abbrev cX10_pop : ByteArray := prog_12_method_8_code
def yX10_pop : MethodName := ⟨RX10, "pop", "()I"⟩
abbrev cX10_joined : ByteArray := prog_12_method_9_code
def yX10_joined : MethodName := ⟨RX10, "joined", "(III)I"⟩
def RX11 : String := "WatchLots"
def TX11 : u_T := fun k => match k with
  | 0 => ("WatchLots", "reader", "LWatchLots$Reader;", true)
  | 1 => ("WatchLots", "plan", "LWatchLots$Ward;", false)
  | 2 => ("WatchLots", "faultPlace", "I", false)
  | 3 => ("WatchLots", "book", "LWatchLots$Book;", true)
  | 4 => ("WatchLots", "kept", "LWatchLots$Book;", true)
  | 5 => ("WatchLots", "isKept", "Z", false)
  | 6 => ("WatchLots", "later", "LWatchLots$Town;", true)
  | 7 => ("WatchLots", "sale", "LWatchLots$Sale;", true)
  | 8 => ("WatchLots", "gifts", "LWatchLots$Gifts;", true)
  | 9 => ("WatchLots", "guess", "LWatchLots$Guess;", true)
  | 10 => ("WatchLots", "dice", "LWatchLots$Dice;", true)
  | 11 => ("WatchLots", "losses", "[I", true)
  | _ => ("WatchLots", "otherLosses", "[I", true)
def tyX11 : Nat → FieldType := fun k => match k with
  | 0 => .object "WatchLots$Reader"
  | 1 => .object "WatchLots$Ward"
  | 2 => .int
  | 3 => .object "WatchLots$Book"
  | 4 => .object "WatchLots$Book"
  | 5 => .boolean
  | 6 => .object "WatchLots$Town"
  | 7 => .object "WatchLots$Sale"
  | 8 => .object "WatchLots$Gifts"
  | 9 => .object "WatchLots$Guess"
  | 10 => .object "WatchLots$Dice"
  | 11 => .array .int
  | _ => .array .int
theorem nmX11 : ∀ a, a < 13 → ∀ b, b < 13 → a ≠ b → (TX11 a).2.1 ≠ (TX11 b).2.1 := by decide +kernel
theorem tyX11_ok : ∀ k, k < 13 → parseFieldDescriptor (TX11 k).2.2.1 = some (tyX11 k) := by decide +kernel
abbrev cX11_init : ByteArray := prog_1_method_1_code
def yX11_init : MethodName := ⟨RX11, "<init>", "()V"⟩
abbrev cX11_feed : ByteArray := prog_1_method_2_code
def yX11_feed : MethodName := ⟨RX11, "feed", "(IIIII)I"⟩
abbrev cX11_ward : ByteArray := prog_1_method_3_code
def yX11_ward : MethodName := ⟨RX11, "ward", "(I)I"⟩
abbrev cX11_fault : ByteArray := prog_1_method_4_code
def yX11_fault : MethodName := ⟨RX11, "fault", "()I"⟩
abbrev cX11_count : ByteArray := prog_1_method_5_code
def yX11_count : MethodName := ⟨RX11, "count", "(I)I"⟩
abbrev cX11_paths : ByteArray := prog_1_method_6_code
def yX11_paths : MethodName := ⟨RX11, "paths", "(I)I"⟩
abbrev cX11_person : ByteArray := prog_1_method_7_code
def yX11_person : MethodName := ⟨RX11, "person", "(II)I"⟩
abbrev cX11_walk : ByteArray := prog_1_method_8_code
def yX11_walk : MethodName := ⟨RX11, "walk", "(II)I"⟩
abbrev cX11_nights : ByteArray := prog_1_method_9_code
def yX11_nights : MethodName := ⟨RX11, "nights", "(I)I"⟩
abbrev cX11_bribe : ByteArray := prog_1_method_10_code
def yX11_bribe : MethodName := ⟨RX11, "bribe", "(I)I"⟩
abbrev cX11_wander : ByteArray := prog_1_method_11_code
def yX11_wander : MethodName := ⟨RX11, "wander", "(III)I"⟩
abbrev cX11_earn : ByteArray := prog_1_method_12_code
def yX11_earn : MethodName := ⟨RX11, "earn", "(II)I"⟩
abbrev cX11_reserve : ByteArray := prog_1_method_13_code
def yX11_reserve : MethodName := ⟨RX11, "reserve", "(I)I"⟩
abbrev cX11_undo : ByteArray := prog_1_method_14_code
def yX11_undo : MethodName := ⟨RX11, "undo", "()I"⟩
abbrev cX11_lots : ByteArray := prog_1_method_15_code
def yX11_lots : MethodName := ⟨RX11, "lots", "(I)I"⟩
abbrev cX11_sold : ByteArray := prog_1_method_16_code
def yX11_sold : MethodName := ⟨RX11, "sold", "(III)I"⟩
abbrev cX11_then : ByteArray := prog_1_method_17_code
def yX11_then : MethodName := ⟨RX11, "then", "(III)I"⟩
abbrev cX11_dark : ByteArray := prog_1_method_18_code
def yX11_dark : MethodName := ⟨RX11, "dark", "(I)I"⟩
abbrev cX11_first : ByteArray := prog_1_method_19_code
def yX11_first : MethodName := ⟨RX11, "first", "(I)I"⟩
abbrev cX11_secret : ByteArray := prog_1_method_20_code
def yX11_secret : MethodName := ⟨RX11, "secret", "()I"⟩
abbrev cX11_haunt : ByteArray := prog_1_method_21_code
def yX11_haunt : MethodName := ⟨RX11, "haunt", "(I)I"⟩
abbrev cX11_watch : ByteArray := prog_1_method_22_code
def yX11_watch : MethodName := ⟨RX11, "watch", "(II)I"⟩
abbrev cX11_way : ByteArray := prog_1_method_23_code
def yX11_way : MethodName := ⟨RX11, "way", "(II)I"⟩
abbrev cX11_sneak : ByteArray := prog_1_method_24_code
def yX11_sneak : MethodName := ⟨RX11, "sneak", "(II)I"⟩
abbrev cX11_safe : ByteArray := prog_1_method_25_code
def yX11_safe : MethodName := ⟨RX11, "safe", "(I)I"⟩
abbrev cX11_toHide : ByteArray := prog_1_method_26_code
def yX11_toHide : MethodName := ⟨RX11, "toHide", "(I)I"⟩
abbrev cX11_toWin : ByteArray := prog_1_method_27_code
def yX11_toWin : MethodName := ⟨RX11, "toWin", "(II)I"⟩
abbrev cX11_given : ByteArray := prog_1_method_28_code
def yX11_given : MethodName := ⟨RX11, "given", "(I)I"⟩
abbrev cX11_gossip : ByteArray := prog_1_method_29_code
def yX11_gossip : MethodName := ⟨RX11, "gossip", "(I)I"⟩
abbrev cX11_most : ByteArray := prog_1_method_30_code
def yX11_most : MethodName := ⟨RX11, "most", "(I)I"⟩
abbrev cX11_lantern : ByteArray := prog_1_method_31_code
def yX11_lantern : MethodName := ⟨RX11, "lantern", "(I)I"⟩
abbrev cX11_meet : ByteArray := prog_1_method_32_code
def yX11_meet : MethodName := ⟨RX11, "meet", "(II)I"⟩
abbrev cX11_spends : ByteArray := prog_1_method_33_code
def yX11_spends : MethodName := ⟨RX11, "spends", "(II)I"⟩
abbrev cX11_unknown : ByteArray := prog_1_method_34_code
def yX11_unknown : MethodName := ⟨RX11, "unknown", "(I)I"⟩
abbrev cX11_tell : ByteArray := prog_1_method_35_code
def yX11_tell : MethodName := ⟨RX11, "tell", "(IIZ)I"⟩
abbrev cX11_otherwise : ByteArray := prog_1_method_36_code
def yX11_otherwise : MethodName := ⟨RX11, "otherwise", "(I)I"⟩
abbrev cX11_look : ByteArray := prog_1_method_37_code
def yX11_look : MethodName := ⟨RX11, "look", "(I)I"⟩
abbrev cX11_forget : ByteArray := prog_1_method_38_code
def yX11_forget : MethodName := ⟨RX11, "forget", "()V"⟩
abbrev cX11_game : ByteArray := prog_1_method_39_code
def yX11_game : MethodName := ⟨RX11, "game", "(III)I"⟩
abbrev cX11_years : ByteArray := prog_1_method_40_code
def yX11_years : MethodName := ⟨RX11, "years", "(III)I"⟩
abbrev cX11_image : ByteArray := prog_1_method_41_code
def yX11_image : MethodName := ⟨RX11, "image", "()V"⟩
abbrev cX11_restore : ByteArray := prog_1_method_42_code
def yX11_restore : MethodName := ⟨RX11, "restore", "()Z"⟩
abbrev cX11_at : ByteArray := prog_1_method_43_code
def yX11_at : MethodName := ⟨RX11, "at", "([II)I"⟩
abbrev cX11_put : ByteArray := prog_1_method_44_code
def yX11_put : MethodName := ⟨RX11, "put", "([III)V"⟩
abbrev cX11_copyRow : ByteArray := prog_1_method_45_code
def yX11_copyRow : MethodName := ⟨RX11, "copyRow", "([I[I)V"⟩
abbrev cX11_streetIn : ByteArray := prog_1_method_46_code
def yX11_streetIn : MethodName := ⟨RX11, "streetIn", "(II)I"⟩
abbrev cX11_walkWith : ByteArray := prog_1_method_47_code
def yX11_walkWith : MethodName := ⟨RX11, "walkWith", "(III)I"⟩
abbrev cX11_needWhat : ByteArray := prog_1_method_48_code
def yX11_needWhat : MethodName := ⟨RX11, "needWhat", "(II)V"⟩
abbrev cX11_needWithin : ByteArray := prog_1_method_49_code
def yX11_needWithin : MethodName := ⟨RX11, "needWithin", "(III)V"⟩
abbrev cX11_needStreet : ByteArray := prog_1_method_50_code
def yX11_needStreet : MethodName := ⟨RX11, "needStreet", "(I)V"⟩
abbrev cX11_needPerson : ByteArray := prog_1_method_51_code
def yX11_needPerson : MethodName := ⟨RX11, "needPerson", "(I)V"⟩
abbrev cX11_needPlace : ByteArray := prog_1_method_52_code
def yX11_needPlace : MethodName := ⟨RX11, "needPlace", "(II)V"⟩
abbrev cX11_goAhead : ByteArray := prog_1_method_53_code
def yX11_goAhead : MethodName := ⟨RX11, "goAhead", "(I)V"⟩
abbrev cX11_firstSeen : ByteArray := prog_1_method_54_code
def yX11_firstSeen : MethodName := ⟨RX11, "firstSeen", "(I)I"⟩
abbrev cX11_streetNow : ByteArray := prog_1_method_55_code
def yX11_streetNow : MethodName := ⟨RX11, "streetNow", "(II)I"⟩
abbrev cX11_isSafe : ByteArray := prog_1_method_56_code
def yX11_isSafe : MethodName := ⟨RX11, "isSafe", "(III)Z"⟩
abbrev cX11_canHide : ByteArray := prog_1_method_57_code
def yX11_canHide : MethodName := ⟨RX11, "canHide", "(II)Z"⟩
abbrev cX11_wouldBuy : ByteArray := prog_1_method_58_code
def yX11_wouldBuy : MethodName := ⟨RX11, "wouldBuy", "(III)Z"⟩
abbrev cX11_playCouples : ByteArray := prog_1_method_59_code
def yX11_playCouples : MethodName := ⟨RX11, "playCouples", "(IIII)V"⟩
abbrev cX11_lossOf : ByteArray := prog_1_method_60_code
def yX11_lossOf : MethodName := ⟨RX11, "lossOf", "(I)I"⟩
abbrev cX11_rests : ByteArray := prog_1_method_61_code
def yX11_rests : MethodName := ⟨RX11, "rests", "(IIII)Z"⟩
abbrev cX11_drawEvent : ByteArray := prog_1_method_62_code
def yX11_drawEvent : MethodName := ⟨RX11, "drawEvent", "()V"⟩
def RX12 : String := "WatchLotsModel"
def TX12 : u_T := fun k => match k with
  | 0 => ("WatchLotsModel", "people", "[Ljava/lang/String;", true)
  | 1 => ("WatchLotsModel", "values", "[Ljava/lang/String;", true)
  | 2 => ("WatchLotsModel", "code", "I", false)
  | 3 => ("WatchLotsModel", "told", "[I", true)
  | 4 => ("WatchLotsModel", "pathTold", "[I", true)
  | 5 => ("WatchLotsModel", "roundTold", "[I", true)
  | 6 => ("WatchLotsModel", "bishop", "[I", true)
  | 7 => ("WatchLotsModel", "coinsTold", "[I", true)
  | 8 => ("WatchLotsModel", "places", "[I", true)
  | 9 => ("WatchLotsModel", "walkTold", "[I", true)
  | 10 => ("WatchLotsModel", "fogTold", "[I", true)
  | 11 => ("WatchLotsModel", "signs", "[I", true)
  | 12 => ("WatchLotsModel", "status", "[I", true)
  | 13 => ("WatchLotsModel", "tape", "[I", true)
  | 14 => ("WatchLotsModel", "taped", "I", false)
  | 15 => ("WatchLotsModel", "at", "I", false)
  | 16 => ("WatchLotsModel", "size", "I", false)
  | 17 => ("WatchLotsModel", "token", "I", false)
  | 18 => ("WatchLotsModel", "number", "I", false)
  | 19 => ("WatchLotsModel", "begins", "I", false)
  | 20 => ("WatchLotsModel", "stops", "I", false)
  | 21 => ("WatchLotsModel", "bad", "I", false)
  | 22 => ("WatchLotsModel", "badPlace", "I", false)
  | 23 => ("WatchLotsModel", "faultPlace", "I", false)
  | 24 => ("WatchLotsModel", "anyStreet", "Z", false)
  | 25 => ("WatchLotsModel", "purse", "[I", true)
  | 26 => ("WatchLotsModel", "knows", "[I", true)
  | 27 => ("WatchLotsModel", "walks", "[I", true)
  | 28 => ("WatchLotsModel", "past", "[I", true)
  | 29 => ("WatchLotsModel", "night", "I", false)
  | 30 => ("WatchLotsModel", "darkness", "I", false)
  | 31 => ("WatchLotsModel", "held", "I", false)
  | 32 => ("WatchLotsModel", "bribing", "I", false)
  | 33 => ("WatchLotsModel", "acts", "I", false)
  | 34 => ("WatchLotsModel", "tellings", "I", false)
  | 35 => ("WatchLotsModel", "fogNow", "I", false)
  | 36 => ("WatchLotsModel", "asked", "[I", true)
  | 37 => ("WatchLotsModel", "stack", "[I", true)
  | 38 => ("WatchLotsModel", "hoursOf", "[I", true)
  | 39 => ("WatchLotsModel", "lots", "I", false)
  | 40 => ("WatchLotsModel", "buyers", "[I", true)
  | 41 => ("WatchLotsModel", "prices", "[I", true)
  | 42 => ("WatchLotsModel", "soldMany", "I", false)
  | 43 => ("WatchLotsModel", "rowThen", "[I", true)
  | 44 => ("WatchLotsModel", "haunted", "[I", true)
  | 45 => ("WatchLotsModel", "mostBy", "[I", true)
  | 46 => ("WatchLotsModel", "toldPerson", "[I", true)
  | 47 => ("WatchLotsModel", "toldIn", "[I", true)
  | 48 => ("WatchLotsModel", "rowTold", "[I", true)
  | 49 => ("WatchLotsModel", "toldSeen", "[Z", true)
  | 50 => ("WatchLotsModel", "fits", "[I", true)
  | 51 => ("WatchLotsModel", "lotsThen", "[I", true)
  | 52 => ("WatchLotsModel", "fitMany", "I", false)
  | 53 => ("WatchLotsModel", "gains", "[I", true)
  | 54 => ("WatchLotsModel", "seedNow", "I", false)
  | 55 => ("WatchLotsModel", "hasImage", "Z", false)
  | 56 => ("WatchLotsModel", "actsThen", "I", false)
  | 57 => ("WatchLotsModel", "tellingsThen", "I", false)
  | 58 => ("WatchLotsModel", "imageRow", "[I", true)
  | 59 => ("WatchLotsModel", "pastThen", "[I", true)
  | 60 => ("WatchLotsModel", "toldPersonThen", "[I", true)
  | 61 => ("WatchLotsModel", "toldInThen", "[I", true)
  | 62 => ("WatchLotsModel", "statusThen", "[I", true)
  | _ => ("WatchLotsModel", "toldSeenThen", "[Z", true)
def tyX12 : Nat → FieldType := fun k => match k with
  | 0 => .array (.object "java/lang/String")
  | 1 => .array (.object "java/lang/String")
  | 2 => .int
  | 3 => .array .int
  | 4 => .array .int
  | 5 => .array .int
  | 6 => .array .int
  | 7 => .array .int
  | 8 => .array .int
  | 9 => .array .int
  | 10 => .array .int
  | 11 => .array .int
  | 12 => .array .int
  | 13 => .array .int
  | 14 => .int
  | 15 => .int
  | 16 => .int
  | 17 => .int
  | 18 => .int
  | 19 => .int
  | 20 => .int
  | 21 => .int
  | 22 => .int
  | 23 => .int
  | 24 => .boolean
  | 25 => .array .int
  | 26 => .array .int
  | 27 => .array .int
  | 28 => .array .int
  | 29 => .int
  | 30 => .int
  | 31 => .int
  | 32 => .int
  | 33 => .int
  | 34 => .int
  | 35 => .int
  | 36 => .array .int
  | 37 => .array .int
  | 38 => .array .int
  | 39 => .int
  | 40 => .array .int
  | 41 => .array .int
  | 42 => .int
  | 43 => .array .int
  | 44 => .array .int
  | 45 => .array .int
  | 46 => .array .int
  | 47 => .array .int
  | 48 => .array .int
  | 49 => .array .boolean
  | 50 => .array .int
  | 51 => .array .int
  | 52 => .int
  | 53 => .array .int
  | 54 => .int
  | 55 => .boolean
  | 56 => .int
  | 57 => .int
  | 58 => .array .int
  | 59 => .array .int
  | 60 => .array .int
  | 61 => .array .int
  | 62 => .array .int
  | _ => .array .boolean
theorem nmX12 : ∀ a, a < 64 → ∀ b, b < 64 → a ≠ b → (TX12 a).2.1 ≠ (TX12 b).2.1 := by decide +kernel
theorem tyX12_ok : ∀ k, k < 64 → parseFieldDescriptor (TX12 k).2.2.1 = some (tyX12 k) := by decide +kernel
abbrev cX12_init : ByteArray := prog_14_method_1_code
def yX12_init : MethodName := ⟨RX12, "<init>", "()V"⟩
abbrev cX12_thrown : ByteArray := prog_14_method_2_code
def yX12_thrown : MethodName := ⟨RX12, "thrown", "()I"⟩
abbrev cX12_fail : ByteArray := prog_14_method_3_code
def yX12_fail : MethodName := ⟨RX12, "fail", "(I)I"⟩
abbrev cX12_isIn : ByteArray := prog_14_method_4_code
def yX12_isIn : MethodName := ⟨RX12, "isIn", "(JJJ)Z"⟩
abbrev cX12_isOf : ByteArray := prog_14_method_5_code
def yX12_isOf : MethodName := ⟨RX12, "isOf", "(II)Z"⟩
abbrev cX12_bitsOf : ByteArray := prog_14_method_6_code
def yX12_bitsOf : MethodName := ⟨RX12, "bitsOf", "(I)I"⟩
abbrev cX12_isStreet : ByteArray := prog_14_method_7_code
def yX12_isStreet : MethodName := ⟨RX12, "isStreet", "(I)Z"⟩
abbrev cX12_isPerson : ByteArray := prog_14_method_8_code
def yX12_isPerson : MethodName := ⟨RX12, "isPerson", "(I)Z"⟩
abbrev cX12_feed : ByteArray := prog_14_method_9_code
def yX12_feed : MethodName := ⟨RX12, "feed", "(IIIII)I"⟩
abbrev cX12_byteAt : ByteArray := prog_14_method_10_code
def yX12_byteAt : MethodName := ⟨RX12, "byteAt", "(I)I"⟩
abbrev cX12_isLetter : ByteArray := prog_14_method_11_code
def yX12_isLetter : MethodName := ⟨RX12, "isLetter", "(I)Z"⟩
abbrev cX12_isDigit : ByteArray := prog_14_method_12_code
def yX12_isDigit : MethodName := ⟨RX12, "isDigit", "(I)Z"⟩
abbrev cX12_isMark : ByteArray := prog_14_method_13_code
def yX12_isMark : MethodName := ⟨RX12, "isMark", "(I)Z"⟩
abbrev cX12_stepOn : ByteArray := prog_14_method_14_code
def yX12_stepOn : MethodName := ⟨RX12, "stepOn", "()V"⟩
abbrev cX12_wrong : ByteArray := prog_14_method_15_code
def yX12_wrong : MethodName := ⟨RX12, "wrong", "(I)V"⟩
abbrev cX12_is : ByteArray := prog_14_method_16_code
def yX12_is : MethodName := ⟨RX12, "is", "(Ljava/lang/String;)Z"⟩
abbrev cX12_which : ByteArray := prog_14_method_17_code
def yX12_which : MethodName := ⟨RX12, "which", "([Ljava/lang/String;)I"⟩
abbrev cX12_isMarked : ByteArray := prog_14_method_18_code
def yX12_isMarked : MethodName := ⟨RX12, "isMarked", "(I)Z"⟩
abbrev cX12_mark : ByteArray := prog_14_method_19_code
def yX12_mark : MethodName := ⟨RX12, "mark", "(I)V"⟩
abbrev cX12_numberNow : ByteArray := prog_14_method_20_code
def yX12_numberNow : MethodName := ⟨RX12, "numberNow", "(II)I"⟩
abbrev cX12_readNumber : ByteArray := prog_14_method_21_code
def yX12_readNumber : MethodName := ⟨RX12, "readNumber", "(II)I"⟩
abbrev cX12_streetNow : ByteArray := prog_14_method_22_code
def yX12_streetNow : MethodName := ⟨RX12, "streetNow", "()I"⟩
abbrev cX12_readStreet : ByteArray := prog_14_method_23_code
def yX12_readStreet : MethodName := ⟨RX12, "readStreet", "()I"⟩
abbrev cX12_lay : ByteArray := prog_14_method_24_code
def yX12_lay : MethodName := ⟨RX12, "lay", "(I)V"⟩
abbrev cX12_readPart : ByteArray := prog_14_method_25_code
def yX12_readPart : MethodName := ⟨RX12, "readPart", "(I)V"⟩
abbrev cX12_readProduct : ByteArray := prog_14_method_26_code
def yX12_readProduct : MethodName := ⟨RX12, "readProduct", "(I)V"⟩
abbrev cX12_readSum : ByteArray := prog_14_method_27_code
def yX12_readSum : MethodName := ⟨RX12, "readSum", "(I)V"⟩
abbrev cX12_readNot : ByteArray := prog_14_method_28_code
def yX12_readNot : MethodName := ⟨RX12, "readNot", "(I)V"⟩
abbrev cX12_readAnd : ByteArray := prog_14_method_29_code
def yX12_readAnd : MethodName := ⟨RX12, "readAnd", "(I)V"⟩
abbrev cX12_readExpression : ByteArray := prog_14_method_30_code
def yX12_readExpression : MethodName := ⟨RX12, "readExpression", "(I)V"⟩
abbrev cX12_readStreets : ByteArray := prog_14_method_31_code
def yX12_readStreets : MethodName := ⟨RX12, "readStreets", "([III)I"⟩
abbrev cX12_another : ByteArray := prog_14_method_32_code
def yX12_another : MethodName := ⟨RX12, "another", "(II)Z"⟩
abbrev cX12_sayPath : ByteArray := prog_14_method_33_code
def yX12_sayPath : MethodName := ⟨RX12, "sayPath", "()V"⟩
abbrev cX12_sayPerson : ByteArray := prog_14_method_34_code
def yX12_sayPerson : MethodName := ⟨RX12, "sayPerson", "(I)V"⟩
abbrev cX12_sayFogs : ByteArray := prog_14_method_35_code
def yX12_sayFogs : MethodName := ⟨RX12, "sayFogs", "()V"⟩
abbrev cX12_sayOnce : ByteArray := prog_14_method_36_code
def yX12_sayOnce : MethodName := ⟨RX12, "sayOnce", "(I)V"⟩
abbrev cX12_readLine : ByteArray := prog_14_method_37_code
def yX12_readLine : MethodName := ⟨RX12, "readLine", "(I)I"⟩
abbrev cX12_ward : ByteArray := prog_14_method_38_code
def yX12_ward : MethodName := ⟨RX12, "ward", "(I)I"⟩
abbrev cX12_takeHalf : ByteArray := prog_14_method_39_code
def yX12_takeHalf : MethodName := ⟨RX12, "takeHalf", "([I)V"⟩
abbrev cX12_takeOver : ByteArray := prog_14_method_40_code
def yX12_takeOver : MethodName := ⟨RX12, "takeOver", "()V"⟩
abbrev cX12_fault : ByteArray := prog_14_method_41_code
def yX12_fault : MethodName := ⟨RX12, "fault", "()I"⟩
abbrev cX12_pack : ByteArray := prog_14_method_42_code
def yX12_pack : MethodName := ⟨RX12, "pack", "([II)V"⟩
abbrev cX12_unpack : ByteArray := prog_14_method_43_code
def yX12_unpack : MethodName := ⟨RX12, "unpack", "([II)V"⟩
abbrev cX12_fogOf : ByteArray := prog_14_method_44_code
def yX12_fogOf : MethodName := ⟨RX12, "fogOf", "()I"⟩
abbrev cX12_watchAt : ByteArray := prog_14_method_45_code
def yX12_watchAt : MethodName := ⟨RX12, "watchAt", "(II)I"⟩
abbrev cX12_streetOf : ByteArray := prog_14_method_46_code
def yX12_streetOf : MethodName := ⟨RX12, "streetOf", "(II)I"⟩
abbrev cX12_seenHours : ByteArray := prog_14_method_47_code
def yX12_seenHours : MethodName := ⟨RX12, "seenHours", "(I)I"⟩
abbrev cX12_lotsNow : ByteArray := prog_14_method_48_code
def yX12_lotsNow : MethodName := ⟨RX12, "lotsNow", "()I"⟩
abbrev cX12_reckon : ByteArray := prog_14_method_49_code
def yX12_reckon : MethodName := ⟨RX12, "reckon", "(III)I"⟩
abbrev cX12_valueNow : ByteArray := prog_14_method_50_code
def yX12_valueNow : MethodName := ⟨RX12, "valueNow", "()I"⟩
abbrev cX12_tellLots : ByteArray := prog_14_method_51_code
def yX12_tellLots : MethodName := ⟨RX12, "tellLots", "()V"⟩
abbrev cX12_firstStreet : ByteArray := prog_14_method_52_code
def yX12_firstStreet : MethodName := ⟨RX12, "firstStreet", "(I)I"⟩
abbrev cX12_bidOf : ByteArray := prog_14_method_53_code
def yX12_bidOf : MethodName := ⟨RX12, "bidOf", "(II)I"⟩
abbrev cX12_sell : ByteArray := prog_14_method_54_code
def yX12_sell : MethodName := ⟨RX12, "sell", "(I)V"⟩
abbrev cX12_aNight : ByteArray := prog_14_method_55_code
def yX12_aNight : MethodName := ⟨RX12, "aNight", "()V"⟩
abbrev cX12_goOn : ByteArray := prog_14_method_56_code
def yX12_goOn : MethodName := ⟨RX12, "goOn", "(I)V"⟩
abbrev cX12_allCoins : ByteArray := prog_14_method_57_code
def yX12_allCoins : MethodName := ⟨RX12, "allCoins", "()I"⟩
abbrev cX12_count : ByteArray := prog_14_method_58_code
def yX12_count : MethodName := ⟨RX12, "count", "(I)I"⟩
abbrev cX12_paths : ByteArray := prog_14_method_59_code
def yX12_paths : MethodName := ⟨RX12, "paths", "(I)I"⟩
abbrev cX12_person : ByteArray := prog_14_method_60_code
def yX12_person : MethodName := ⟨RX12, "person", "(II)I"⟩
abbrev cX12_walk : ByteArray := prog_14_method_61_code
def yX12_walk : MethodName := ⟨RX12, "walk", "(II)I"⟩
abbrev cX12_refuse : ByteArray := prog_14_method_62_code
def yX12_refuse : MethodName := ⟨RX12, "refuse", "(I)I"⟩
abbrev cX12_keep : ByteArray := prog_14_method_63_code
def yX12_keep : MethodName := ⟨RX12, "keep", "()V"⟩
abbrev cX12_nights : ByteArray := prog_14_method_64_code
def yX12_nights : MethodName := ⟨RX12, "nights", "(I)I"⟩
abbrev cX12_canBribe : ByteArray := prog_14_method_65_code
def yX12_canBribe : MethodName := ⟨RX12, "canBribe", "(I)Z"⟩
abbrev cX12_doBribe : ByteArray := prog_14_method_66_code
def yX12_doBribe : MethodName := ⟨RX12, "doBribe", "(I)V"⟩
abbrev cX12_bribe : ByteArray := prog_14_method_67_code
def yX12_bribe : MethodName := ⟨RX12, "bribe", "(I)I"⟩
abbrev cX12_wander : ByteArray := prog_14_method_68_code
def yX12_wander : MethodName := ⟨RX12, "wander", "(III)I"⟩
abbrev cX12_earn : ByteArray := prog_14_method_69_code
def yX12_earn : MethodName := ⟨RX12, "earn", "(II)I"⟩
abbrev cX12_reserve : ByteArray := prog_14_method_70_code
def yX12_reserve : MethodName := ⟨RX12, "reserve", "(I)I"⟩
abbrev cX12_undo : ByteArray := prog_14_method_71_code
def yX12_undo : MethodName := ⟨RX12, "undo", "()I"⟩
abbrev cX12_lots : ByteArray := prog_14_method_72_code
def yX12_lots : MethodName := ⟨RX12, "lots", "(I)I"⟩
abbrev cX12_sold : ByteArray := prog_14_method_73_code
def yX12_sold : MethodName := ⟨RX12, "sold", "(III)I"⟩
abbrev cX12_then : ByteArray := prog_14_method_74_code
def yX12_then : MethodName := ⟨RX12, "then", "(III)I"⟩
abbrev cX12_dark : ByteArray := prog_14_method_75_code
def yX12_dark : MethodName := ⟨RX12, "dark", "(I)I"⟩
abbrev cX12_spends : ByteArray := prog_14_method_76_code
def yX12_spends : MethodName := ⟨RX12, "spends", "(II)I"⟩
abbrev cX12_firstOf : ByteArray := prog_14_method_77_code
def yX12_firstOf : MethodName := ⟨RX12, "firstOf", "(I)I"⟩
abbrev cX12_first : ByteArray := prog_14_method_78_code
def yX12_first : MethodName := ⟨RX12, "first", "(I)I"⟩
abbrev cX12_secret : ByteArray := prog_14_method_79_code
def yX12_secret : MethodName := ⟨RX12, "secret", "()I"⟩
abbrev cX12_haunt : ByteArray := prog_14_method_80_code
def yX12_haunt : MethodName := ⟨RX12, "haunt", "(I)I"⟩
abbrev cX12_watch : ByteArray := prog_14_method_81_code
def yX12_watch : MethodName := ⟨RX12, "watch", "(II)I"⟩
abbrev cX12_lantern : ByteArray := prog_14_method_82_code
def yX12_lantern : MethodName := ⟨RX12, "lantern", "(I)I"⟩
abbrev cX12_stepped : ByteArray := prog_14_method_83_code
def yX12_stepped : MethodName := ⟨RX12, "stepped", "(I)I"⟩
abbrev cX12_way : ByteArray := prog_14_method_84_code
def yX12_way : MethodName := ⟨RX12, "way", "(II)I"⟩
abbrev cX12_sneak : ByteArray := prog_14_method_85_code
def yX12_sneak : MethodName := ⟨RX12, "sneak", "(II)I"⟩
abbrev cX12_lit : ByteArray := prog_14_method_86_code
def yX12_lit : MethodName := ⟨RX12, "lit", "(II)I"⟩
abbrev cX12_safe : ByteArray := prog_14_method_87_code
def yX12_safe : MethodName := ⟨RX12, "safe", "(I)I"⟩
abbrev cX12_toHide : ByteArray := prog_14_method_88_code
def yX12_toHide : MethodName := ⟨RX12, "toHide", "(I)I"⟩
abbrev cX12_meet : ByteArray := prog_14_method_89_code
def yX12_meet : MethodName := ⟨RX12, "meet", "(II)I"⟩
abbrev cX12_toWin : ByteArray := prog_14_method_90_code
def yX12_toWin : MethodName := ⟨RX12, "toWin", "(II)I"⟩
abbrev cX12_with : ByteArray := prog_14_method_91_code
def yX12_with : MethodName := ⟨RX12, "with", "(III)I"⟩
abbrev cX12_mayHave : ByteArray := prog_14_method_92_code
def yX12_mayHave : MethodName := ⟨RX12, "mayHave", "(III)Z"⟩
abbrev cX12_tellMost : ByteArray := prog_14_method_93_code
def yX12_tellMost : MethodName := ⟨RX12, "tellMost", "()V"⟩
abbrev cX12_given : ByteArray := prog_14_method_94_code
def yX12_given : MethodName := ⟨RX12, "given", "(I)I"⟩
abbrev cX12_gossip : ByteArray := prog_14_method_95_code
def yX12_gossip : MethodName := ⟨RX12, "gossip", "(I)I"⟩
abbrev cX12_knowers : ByteArray := prog_14_method_96_code
def yX12_knowers : MethodName := ⟨RX12, "knowers", "(I)I"⟩
abbrev cX12_most : ByteArray := prog_14_method_97_code
def yX12_most : MethodName := ⟨RX12, "most", "(I)I"⟩
abbrev cX12_unknown : ByteArray := prog_14_method_98_code
def yX12_unknown : MethodName := ⟨RX12, "unknown", "(I)I"⟩
abbrev cX12_tell : ByteArray := prog_14_method_99_code
def yX12_tell : MethodName := ⟨RX12, "tell", "(IIZ)I"⟩
abbrev cX12_isAsTold : ByteArray := prog_14_method_100_code
def yX12_isAsTold : MethodName := ⟨RX12, "isAsTold", "()Z"⟩
abbrev cX12_tellFits : ByteArray := prog_14_method_101_code
def yX12_tellFits : MethodName := ⟨RX12, "tellFits", "()V"⟩
abbrev cX12_otherwise : ByteArray := prog_14_method_102_code
def yX12_otherwise : MethodName := ⟨RX12, "otherwise", "(I)I"⟩
abbrev cX12_unlike : ByteArray := prog_14_method_103_code
def yX12_unlike : MethodName := ⟨RX12, "unlike", "(I)I"⟩
abbrev cX12_look : ByteArray := prog_14_method_104_code
def yX12_look : MethodName := ⟨RX12, "look", "(I)I"⟩
abbrev cX12_forget : ByteArray := prog_14_method_105_code
def yX12_forget : MethodName := ⟨RX12, "forget", "()V"⟩
abbrev cX12_loss : ByteArray := prog_14_method_106_code
def yX12_loss : MethodName := ⟨RX12, "loss", "(II)I"⟩
abbrev cX12_tellGains : ByteArray := prog_14_method_107_code
def yX12_tellGains : MethodName := ⟨RX12, "tellGains", "(II)V"⟩
abbrev cX12_game : ByteArray := prog_14_method_108_code
def yX12_game : MethodName := ⟨RX12, "game", "(III)I"⟩
abbrev cX12_drawOf : ByteArray := prog_14_method_109_code
def yX12_drawOf : MethodName := ⟨RX12, "drawOf", "(I)I"⟩
abbrev cX12_something : ByteArray := prog_14_method_110_code
def yX12_something : MethodName := ⟨RX12, "something", "()V"⟩
abbrev cX12_years : ByteArray := prog_14_method_111_code
def yX12_years : MethodName := ⟨RX12, "years", "(III)I"⟩
abbrev cX12_copyTo : ByteArray := prog_14_method_112_code
def yX12_copyTo : MethodName := ⟨RX12, "copyTo", "([I[I)V"⟩
abbrev cX12_image : ByteArray := prog_14_method_113_code
def yX12_image : MethodName := ⟨RX12, "image", "()V"⟩
abbrev cX12_restore : ByteArray := prog_14_method_114_code
def yX12_restore : MethodName := ⟨RX12, "restore", "()Z"⟩
def RJx145de : String := "java/io/Serializable"
def TJx145de : u_T := fun k => match k with
  | _ => ("", "", "", false)
def tyJx145de : Nat → FieldType := fun k => match k with
  | _ => .int
theorem nmJx145de : ∀ a, a < 0 → ∀ b, b < 0 → a ≠ b → (TJx145de a).2.1 ≠ (TJx145de b).2.1 := by decide +kernel
theorem tyJx145de_ok : ∀ k, k < 0 → parseFieldDescriptor (TJx145de k).2.2.1 = some (tyJx145de k) := by decide +kernel
def RJx9f9b0 : String := "java/lang/CharSequence"
def TJx9f9b0 : u_T := fun k => match k with
  | _ => ("", "", "", false)
def tyJx9f9b0 : Nat → FieldType := fun k => match k with
  | _ => .int
theorem nmJx9f9b0 : ∀ a, a < 0 → ∀ b, b < 0 → a ≠ b → (TJx9f9b0 a).2.1 ≠ (TJx9f9b0 b).2.1 := by decide +kernel
theorem tyJx9f9b0_ok : ∀ k, k < 0 → parseFieldDescriptor (TJx9f9b0 k).2.2.1 = some (tyJx9f9b0 k) := by decide +kernel
def RJxb160c : String := "java/lang/Comparable"
def TJxb160c : u_T := fun k => match k with
  | _ => ("", "", "", false)
def tyJxb160c : Nat → FieldType := fun k => match k with
  | _ => .int
theorem nmJxb160c : ∀ a, a < 0 → ∀ b, b < 0 → a ≠ b → (TJxb160c a).2.1 ≠ (TJxb160c b).2.1 := by decide +kernel
theorem tyJxb160c_ok : ∀ k, k < 0 → parseFieldDescriptor (TJxb160c k).2.2.1 = some (tyJxb160c k) := by decide +kernel
def RJ6 : String := "java/lang/Integer"
def TJ6 : u_T := fun k => match k with
  | _ => ("", "", "", false)
def tyJ6 : Nat → FieldType := fun k => match k with
  | _ => .int
theorem nmJ6 : ∀ a, a < 0 → ∀ b, b < 0 → a ≠ b → (TJ6 a).2.1 ≠ (TJ6 b).2.1 := by decide +kernel
theorem tyJ6_ok : ∀ k, k < 0 → parseFieldDescriptor (TJ6 k).2.2.1 = some (tyJ6 k) := by decide +kernel
abbrev cJ6_numberOfTrailingZeros_0f7a4 : ByteArray := prog_20_method_48_code
def yJ6_numberOfTrailingZeros_0f7a4 : MethodName := ⟨RJ6, "numberOfTrailingZeros", "(I)I"⟩
abbrev cJ6_bitCount_0f7a4 : ByteArray := prog_20_method_49_code
def yJ6_bitCount_0f7a4 : MethodName := ⟨RJ6, "bitCount", "(I)I"⟩
def RJ9 : String := "java/lang/Math"
def TJ9 : u_T := fun k => match k with
  | _ => ("", "", "", false)
def tyJ9 : Nat → FieldType := fun k => match k with
  | _ => .int
theorem nmJ9 : ∀ a, a < 0 → ∀ b, b < 0 → a ≠ b → (TJ9 a).2.1 ≠ (TJ9 b).2.1 := by decide +kernel
theorem tyJ9_ok : ∀ k, k < 0 → parseFieldDescriptor (TJ9 k).2.2.1 = some (tyJ9 k) := by decide +kernel
abbrev cJ9_max_7cf53 : ByteArray := prog_21_method_65_code
def yJ9_max_7cf53 : MethodName := ⟨RJ9, "max", "(II)I"⟩
abbrev cJ9_min_7cf53 : ByteArray := prog_21_method_69_code
def yJ9_min_7cf53 : MethodName := ⟨RJ9, "min", "(II)I"⟩
def RJ0 : String := "java/lang/String"
def TJ0 : u_T := fun k => match k with
  | _ => ("", "", "", false)
def tyJ0 : Nat → FieldType := fun k => match k with
  | _ => .int
theorem nmJ0 : ∀ a, a < 0 → ∀ b, b < 0 → a ≠ b → (TJ0 a).2.1 ≠ (TJ0 b).2.1 := by decide +kernel
theorem tyJ0_ok : ∀ k, k < 0 → parseFieldDescriptor (TJ0 k).2.2.1 = some (tyJ0 k) := by decide +kernel
abbrev cJ0_length_8abf5 : ByteArray := prog_23_method_54_code
def yJ0_length_8abf5 : MethodName := ⟨RJ0, "length", "()I"⟩
abbrev cJ0_charAt_5068e : ByteArray := prog_23_method_56_code
def yJ0_charAt_5068e : MethodName := ⟨RJ0, "charAt", "(I)C"⟩
abbrev cJ0_coder_7d493 : ByteArray := prog_23_method_152_code
def yJ0_coder_7d493 : MethodName := ⟨RJ0, "coder", "()B"⟩
abbrev cJ0_isLatin1_aae02 : ByteArray := prog_23_method_154_code
def yJ0_isLatin1_aae02 : MethodName := ⟨RJ0, "isLatin1", "()Z"⟩
abbrev cJ0_checkIndex_df160 : ByteArray := prog_23_method_155_code
def yJ0_checkIndex_df160 : MethodName := ⟨RJ0, "checkIndex", "(II)V"⟩
def RJ1 : String := "java/lang/StringLatin1"
def TJ1 : u_T := fun k => match k with
  | _ => ("", "", "", false)
def tyJ1 : Nat → FieldType := fun k => match k with
  | _ => .int
theorem nmJ1 : ∀ a, a < 0 → ∀ b, b < 0 → a ≠ b → (TJ1 a).2.1 ≠ (TJ1 b).2.1 := by decide +kernel
theorem tyJ1_ok : ∀ k, k < 0 → parseFieldDescriptor (TJ1 k).2.2.1 = some (tyJ1 k) := by decide +kernel
abbrev cJ1_charAt_3b067 : ByteArray := prog_24_method_2_code
def yJ1_charAt_3b067 : MethodName := ⟨RJ1, "charAt", "([BI)C"⟩
def RJ2 : String := "java/lang/StringUTF16"
def TJ2 : u_T := fun k => match k with
  | _ => ("", "", "", false)
def tyJ2 : Nat → FieldType := fun k => match k with
  | _ => .int
theorem nmJ2 : ∀ a, a < 0 → ∀ b, b < 0 → a ≠ b → (TJ2 a).2.1 ≠ (TJ2 b).2.1 := by decide +kernel
theorem tyJ2_ok : ∀ k, k < 0 → parseFieldDescriptor (TJ2 k).2.2.1 = some (tyJ2 k) := by decide +kernel
abbrev cJ2_getChar_3b067 : ByteArray := prog_25_method_5_code
def yJ2_getChar_3b067 : MethodName := ⟨RJ2, "getChar", "([BI)C"⟩
abbrev cJ2_length_9d52b : ByteArray := prog_25_method_6_code
def yJ2_length_9d52b : MethodName := ⟨RJ2, "length", "([B)I"⟩
abbrev cJ2_charAt_3b067 : ByteArray := prog_25_method_83_code
def yJ2_charAt_3b067 : MethodName := ⟨RJ2, "charAt", "([BI)C"⟩
abbrev cJ2_checkIndex_2214a : ByteArray := prog_25_method_91_code
def yJ2_checkIndex_2214a : MethodName := ⟨RJ2, "checkIndex", "(I[B)V"⟩
def RJxfd54e : String := "java/lang/constant/Constable"
def TJxfd54e : u_T := fun k => match k with
  | _ => ("", "", "", false)
def tyJxfd54e : Nat → FieldType := fun k => match k with
  | _ => .int
theorem nmJxfd54e : ∀ a, a < 0 → ∀ b, b < 0 → a ≠ b → (TJxfd54e a).2.1 ≠ (TJxfd54e b).2.1 := by decide +kernel
theorem tyJxfd54e_ok : ∀ k, k < 0 → parseFieldDescriptor (TJxfd54e k).2.2.1 = some (tyJxfd54e k) := by decide +kernel
def RJx3cf43 : String := "java/lang/constant/ConstantDesc"
def TJx3cf43 : u_T := fun k => match k with
  | _ => ("", "", "", false)
def tyJx3cf43 : Nat → FieldType := fun k => match k with
  | _ => .int
theorem nmJx3cf43 : ∀ a, a < 0 → ∀ b, b < 0 → a ≠ b → (TJx3cf43 a).2.1 ≠ (TJx3cf43 b).2.1 := by decide +kernel
theorem tyJx3cf43_ok : ∀ k, k < 0 → parseFieldDescriptor (TJx3cf43 k).2.2.1 = some (tyJx3cf43 k) := by decide +kernel
def RJ3 : String := "jdk/internal/util/Preconditions"
def TJ3 : u_T := fun k => match k with
  | _ => ("", "", "", false)
def tyJ3 : Nat → FieldType := fun k => match k with
  | _ => .int
theorem nmJ3 : ∀ a, a < 0 → ∀ b, b < 0 → a ≠ b → (TJ3 a).2.1 ≠ (TJ3 b).2.1 := by decide +kernel
theorem tyJ3_ok : ∀ k, k < 0 → parseFieldDescriptor (TJ3 k).2.2.1 = some (tyJ3 k) := by decide +kernel
abbrev cJ3_checkIndex_8e157 : ByteArray := prog_30_method_11_code
def yJ3_checkIndex_8e157 : MethodName := ⟨RJ3, "checkIndex", "(IILjava/util/function/BiFunction;)I"⟩
def RL : String := "WatchLotsLaw"
abbrev cL_ward : ByteArray := method_3_code
def yL_ward : MethodName := ⟨RL, "ward", "(LWatchLots;I[J)I"⟩
abbrev cL_count : ByteArray := method_4_code
def yL_count : MethodName := ⟨RL, "count", "(LWatchLots;I[J)I"⟩
abbrev cL_paths : ByteArray := method_5_code
def yL_paths : MethodName := ⟨RL, "paths", "(LWatchLots;I[J)I"⟩
abbrev cL_person : ByteArray := method_6_code
def yL_person : MethodName := ⟨RL, "person", "(LWatchLots;II[J)I"⟩
abbrev cL_walk : ByteArray := method_7_code
def yL_walk : MethodName := ⟨RL, "walk", "(LWatchLots;II[J)I"⟩
abbrev cL_bribe : ByteArray := method_8_code
def yL_bribe : MethodName := ⟨RL, "bribe", "(LWatchLots;I[J)I"⟩
abbrev cL_wander : ByteArray := method_9_code
def yL_wander : MethodName := ⟨RL, "wander", "(LWatchLots;III[J)I"⟩
abbrev cL_earn : ByteArray := method_10_code
def yL_earn : MethodName := ⟨RL, "earn", "(LWatchLots;II[J)I"⟩
abbrev cL_lots : ByteArray := method_11_code
def yL_lots : MethodName := ⟨RL, "lots", "(LWatchLots;I[J)I"⟩
abbrev cL_sold : ByteArray := method_12_code
def yL_sold : MethodName := ⟨RL, "sold", "(LWatchLots;III[J)I"⟩
abbrev cL_then : ByteArray := method_13_code
def yL_then : MethodName := ⟨RL, "then", "(LWatchLots;III[J)I"⟩
abbrev cL_dark : ByteArray := method_14_code
def yL_dark : MethodName := ⟨RL, "dark", "(LWatchLots;I[J)I"⟩
abbrev cL_first : ByteArray := method_15_code
def yL_first : MethodName := ⟨RL, "first", "(LWatchLots;I[J)I"⟩
abbrev cL_haunt : ByteArray := method_16_code
def yL_haunt : MethodName := ⟨RL, "haunt", "(LWatchLots;I[J)I"⟩
abbrev cL_watch : ByteArray := method_17_code
def yL_watch : MethodName := ⟨RL, "watch", "(LWatchLots;II[J)I"⟩
abbrev cL_way : ByteArray := method_18_code
def yL_way : MethodName := ⟨RL, "way", "(LWatchLots;II[J)I"⟩
abbrev cL_sneak : ByteArray := method_19_code
def yL_sneak : MethodName := ⟨RL, "sneak", "(LWatchLots;II[J)I"⟩
abbrev cL_safe : ByteArray := method_20_code
def yL_safe : MethodName := ⟨RL, "safe", "(LWatchLots;I[J)I"⟩
abbrev cL_toHide : ByteArray := method_21_code
def yL_toHide : MethodName := ⟨RL, "toHide", "(LWatchLots;I[J)I"⟩
abbrev cL_toWin : ByteArray := method_22_code
def yL_toWin : MethodName := ⟨RL, "toWin", "(LWatchLots;II[J)I"⟩
abbrev cL_given : ByteArray := method_23_code
def yL_given : MethodName := ⟨RL, "given", "(LWatchLots;I[J)I"⟩
abbrev cL_gossip : ByteArray := method_24_code
def yL_gossip : MethodName := ⟨RL, "gossip", "(LWatchLots;I[J)I"⟩
abbrev cL_most : ByteArray := method_25_code
def yL_most : MethodName := ⟨RL, "most", "(LWatchLots;I[J)I"⟩
abbrev cL_lantern : ByteArray := method_26_code
def yL_lantern : MethodName := ⟨RL, "lantern", "(LWatchLots;I[J)I"⟩
abbrev cL_meet : ByteArray := method_27_code
def yL_meet : MethodName := ⟨RL, "meet", "(LWatchLots;II[J)I"⟩
abbrev cL_spends : ByteArray := method_28_code
def yL_spends : MethodName := ⟨RL, "spends", "(LWatchLots;II[J)I"⟩
abbrev cL_unknown : ByteArray := method_29_code
def yL_unknown : MethodName := ⟨RL, "unknown", "(LWatchLots;I[J)I"⟩
abbrev cL_tell : ByteArray := method_30_code
def yL_tell : MethodName := ⟨RL, "tell", "(LWatchLots;IIZ[J)I"⟩
abbrev cL_otherwise : ByteArray := method_31_code
def yL_otherwise : MethodName := ⟨RL, "otherwise", "(LWatchLots;I[J)I"⟩
abbrev cL_look : ByteArray := method_32_code
def yL_look : MethodName := ⟨RL, "look", "(LWatchLots;I[J)I"⟩
abbrev cL_game : ByteArray := method_33_code
def yL_game : MethodName := ⟨RL, "game", "(LWatchLots;III[J)I"⟩
abbrev cL_years : ByteArray := method_34_code
def yL_years : MethodName := ⟨RL, "years", "(LWatchLots;III[J)I"⟩
abbrev cL_law : ByteArray := code
def yL_law : MethodName := ⟨RL, "law", "([I)Z"⟩
/-! the words of the tables that a callee may be given -/
def TW : List Cond := lw_tbl.filter goodWord
theorem tw_mem {w : Cond} (h : w ∈ lw_tbl) (hg : goodWord w = true) : w ∈ TW := List.mem_filter.mpr ⟨h, hg⟩
theorem in_tables_1_1 {w : Cond} (h : w ∈ tables_1_1) : w ∈ lw_tbl := List.mem_append_right _ (show w ∈ tables_1 from List.mem_append_left _ h)
theorem in_tables_1_2 {w : Cond} (h : w ∈ tables_1_2) : w ∈ lw_tbl := List.mem_append_right _ (show w ∈ tables_1 from List.mem_append_right _ (List.mem_append_left _ h))
theorem in_tables_1_3 {w : Cond} (h : w ∈ tables_1_3) : w ∈ lw_tbl := List.mem_append_right _ (show w ∈ tables_1 from List.mem_append_right _ (List.mem_append_right _ (List.mem_append_left _ h)))
theorem in_tables_1_4 {w : Cond} (h : w ∈ tables_1_4) : w ∈ lw_tbl := List.mem_append_right _ (show w ∈ tables_1 from List.mem_append_right _ (List.mem_append_right _ (List.mem_append_right _ (List.mem_append_left _ h))))
theorem in_tables_1_5 {w : Cond} (h : w ∈ tables_1_5) : w ∈ lw_tbl := List.mem_append_right _ (show w ∈ tables_1 from List.mem_append_right _ (List.mem_append_right _ (List.mem_append_right _ (List.mem_append_right _ (List.mem_append_left _ h)))))
theorem in_tables_1_6 {w : Cond} (h : w ∈ tables_1_6) : w ∈ lw_tbl := List.mem_append_right _ (show w ∈ tables_1 from List.mem_append_right _ (List.mem_append_right _ (List.mem_append_right _ (List.mem_append_right _ (List.mem_append_right _ (List.mem_append_left _ h))))))
theorem in_tables_1_7 {w : Cond} (h : w ∈ tables_1_7) : w ∈ lw_tbl := List.mem_append_right _ (show w ∈ tables_1 from List.mem_append_right _ (List.mem_append_right _ (List.mem_append_right _ (List.mem_append_right _ (List.mem_append_right _ (List.mem_append_right _ (List.mem_append_left _ h)))))))
theorem in_tables_1_8 {w : Cond} (h : w ∈ tables_1_8) : w ∈ lw_tbl := List.mem_append_right _ (show w ∈ tables_1 from List.mem_append_right _ (List.mem_append_right _ (List.mem_append_right _ (List.mem_append_right _ (List.mem_append_right _ (List.mem_append_right _ (List.mem_append_right _ (List.mem_append_left _ h))))))))
theorem in_tables_1_9 {w : Cond} (h : w ∈ tables_1_9) : w ∈ lw_tbl := List.mem_append_right _ (show w ∈ tables_1 from List.mem_append_right _ (List.mem_append_right _ (List.mem_append_right _ (List.mem_append_right _ (List.mem_append_right _ (List.mem_append_right _ (List.mem_append_right _ (List.mem_append_right _ (h)))))))))
theorem in_lw_privs_1 {w : Cond} (h : w ∈ (lw_privs_1.map fun q => Cond.selects q.1.cls q.1 q.1)) : w ∈ lw_tbl := by
  refine List.mem_append_left _ ?_
  obtain ⟨q, hq, rfl⟩ := List.mem_map.mp h
  exact List.mem_map.mpr ⟨q, by simp only [lw_privs, List.mem_append]; simp [hq], rfl⟩
theorem in_lw_privs_2 {w : Cond} (h : w ∈ (lw_privs_2.map fun q => Cond.selects q.1.cls q.1 q.1)) : w ∈ lw_tbl := by
  refine List.mem_append_left _ ?_
  obtain ⟨q, hq, rfl⟩ := List.mem_map.mp h
  exact List.mem_map.mpr ⟨q, by simp only [lw_privs, List.mem_append]; simp [hq], rfl⟩
theorem in_lw_privs_3 {w : Cond} (h : w ∈ (lw_privs_3.map fun q => Cond.selects q.1.cls q.1 q.1)) : w ∈ lw_tbl := by
  refine List.mem_append_left _ ?_
  obtain ⟨q, hq, rfl⟩ := List.mem_map.mp h
  exact List.mem_map.mpr ⟨q, by simp only [lw_privs, List.mem_append]; simp [hq], rfl⟩
theorem in_lw_privs_4 {w : Cond} (h : w ∈ (lw_privs_4.map fun q => Cond.selects q.1.cls q.1 q.1)) : w ∈ lw_tbl := by
  refine List.mem_append_left _ ?_
  obtain ⟨q, hq, rfl⟩ := List.mem_map.mp h
  exact List.mem_map.mpr ⟨q, by simp only [lw_privs, List.mem_append]; simp [hq], rfl⟩
theorem in_lw_privs_5 {w : Cond} (h : w ∈ (lw_privs_5.map fun q => Cond.selects q.1.cls q.1 q.1)) : w ∈ lw_tbl := by
  refine List.mem_append_left _ ?_
  obtain ⟨q, hq, rfl⟩ := List.mem_map.mp h
  exact List.mem_map.mpr ⟨q, by simp only [lw_privs, List.mem_append]; simp [hq], rfl⟩
theorem in_lw_privs_6 {w : Cond} (h : w ∈ (lw_privs_6.map fun q => Cond.selects q.1.cls q.1 q.1)) : w ∈ lw_tbl := by
  refine List.mem_append_left _ ?_
  obtain ⟨q, hq, rfl⟩ := List.mem_map.mp h
  exact List.mem_map.mpr ⟨q, by simp only [lw_privs, List.mem_append]; simp [hq], rfl⟩
theorem in_lw_privs_7 {w : Cond} (h : w ∈ (lw_privs_7.map fun q => Cond.selects q.1.cls q.1 q.1)) : w ∈ lw_tbl := by
  refine List.mem_append_left _ ?_
  obtain ⟨q, hq, rfl⟩ := List.mem_map.mp h
  exact List.mem_map.mpr ⟨q, by simp only [lw_privs, List.mem_append]; simp [hq], rfl⟩
theorem in_lw_privs_8 {w : Cond} (h : w ∈ (lw_privs_8.map fun q => Cond.selects q.1.cls q.1 q.1)) : w ∈ lw_tbl := by
  refine List.mem_append_left _ ?_
  obtain ⟨q, hq, rfl⟩ := List.mem_map.mp h
  exact List.mem_map.mpr ⟨q, by simp only [lw_privs, List.mem_append]; simp [hq], rfl⟩
theorem tw_good : ∀ w ∈ TW, w ∈ TW ∧ ((w.onTables && w.keeps) = true ∨ ∃ ty, w = .arrayClass ty) := fun w h => ⟨h, good_of_word (List.mem_filter.mp h).2⟩
theorem tw_lw : ∀ w ∈ TW, w ∈ lw_tbl := fun w h => (List.mem_filter.mp h).1
/-- an instruction out of a method's list -/
theorem dk {c : ByteArray} {L : List (Nat × Instr × Nat)} (h : ∀ q ∈ L, decode c q.1 = .ok (q.2.1, q.2.2)) (k : Nat) {pc n : Nat} {i : Instr} (hk : L[k]? = some (pc, i, n)) : decode c pc = .ok (i, n) := h (pc, i, n) (List.mem_of_getElem? hk)
theorem se_X1_dropOldest : Cond.selects RX1 yX1_dropOldest yX1_dropOldest ∈ TW := tw_mem (in_lw_privs_1 (List.mem_of_getElem? (i := 0) rfl)) rfl
theorem se_X6_plainWorth : Cond.selects RX6 yX6_plainWorth yX6_plainWorth ∈ TW := tw_mem (in_lw_privs_1 (List.mem_of_getElem? (i := 1) rfl)) rfl
theorem se_X6_putValues : Cond.selects RX6 yX6_putValues yX6_putValues ∈ TW := tw_mem (in_lw_privs_1 (List.mem_of_getElem? (i := 2) rfl)) rfl
theorem se_X10_push : Cond.selects RX10 yX10_push yX10_push ∈ TW := tw_mem (in_lw_privs_1 (List.mem_of_getElem? (i := 3) rfl)) rfl
theorem se_X10_pop : Cond.selects RX10 yX10_pop yX10_pop ∈ TW := tw_mem (in_lw_privs_1 (List.mem_of_getElem? (i := 4) rfl)) rfl
theorem se_X6_handOver : Cond.selects RX6 yX6_handOver yX6_handOver ∈ TW := tw_mem (in_lw_privs_1 (List.mem_of_getElem? (i := 5) rfl)) rfl
theorem se_X11_firstSeen : Cond.selects RX11 yX11_firstSeen yX11_firstSeen ∈ TW := tw_mem (in_lw_privs_1 (List.mem_of_getElem? (i := 6) rfl)) rfl
theorem se_X5_advance : Cond.selects RX5 yX5_advance yX5_advance ∈ TW := tw_mem (in_lw_privs_1 (List.mem_of_getElem? (i := 8) rfl)) rfl
theorem se_X5_readDigits : Cond.selects RX5 yX5_readDigits yX5_readDigits ∈ TW := tw_mem (in_lw_privs_1 (List.mem_of_getElem? (i := 9) rfl)) rfl
theorem se_X5_line : Cond.selects RX5 yX5_line yX5_line ∈ TW := tw_mem (in_lw_privs_1 (List.mem_of_getElem? (i := 10) rfl)) rfl
theorem se_X5_isWord : Cond.selects RX5 yX5_isWord yX5_isWord ∈ TW := tw_mem (in_lw_privs_1 (List.mem_of_getElem? (i := 11) rfl)) rfl
theorem se_X5_streetsLine : Cond.selects RX5 yX5_streetsLine yX5_streetsLine ∈ TW := tw_mem (in_lw_privs_1 (List.mem_of_getElem? (i := 12) rfl)) rfl
theorem se_X5_refuse : Cond.selects RX5 yX5_refuse yX5_refuse ∈ TW := tw_mem (in_lw_privs_1 (List.mem_of_getElem? (i := 13) rfl)) rfl
theorem se_X5_once : Cond.selects RX5 yX5_once yX5_once ∈ TW := tw_mem (in_lw_privs_1 (List.mem_of_getElem? (i := 14) rfl)) rfl
theorem se_X5_number : Cond.selects RX5 yX5_number yX5_number ∈ TW := tw_mem (in_lw_privs_1 (List.mem_of_getElem? (i := 15) rfl)) rfl
theorem se_X5_sign : Cond.selects RX5 yX5_sign yX5_sign ∈ TW := tw_mem (in_lw_privs_2 (List.mem_of_getElem? (i := 0) rfl)) rfl
theorem se_X5_pathLine : Cond.selects RX5 yX5_pathLine yX5_pathLine ∈ TW := tw_mem (in_lw_privs_2 (List.mem_of_getElem? (i := 1) rfl)) rfl
theorem se_X5_street : Cond.selects RX5 yX5_street yX5_street ∈ TW := tw_mem (in_lw_privs_2 (List.mem_of_getElem? (i := 2) rfl)) rfl
theorem se_X5_roundLine : Cond.selects RX5 yX5_roundLine yX5_roundLine ∈ TW := tw_mem (in_lw_privs_2 (List.mem_of_getElem? (i := 3) rfl)) rfl
theorem se_X5_readRow : Cond.selects RX5 yX5_readRow yX5_readRow ∈ TW := tw_mem (in_lw_privs_2 (List.mem_of_getElem? (i := 4) rfl)) rfl
theorem se_X5_personLine : Cond.selects RX5 yX5_personLine yX5_personLine ∈ TW := tw_mem (in_lw_privs_2 (List.mem_of_getElem? (i := 5) rfl)) rfl
theorem se_X5_fogLine : Cond.selects RX5 yX5_fogLine yX5_fogLine ∈ TW := tw_mem (in_lw_privs_2 (List.mem_of_getElem? (i := 6) rfl)) rfl
theorem se_X5_reserveLine : Cond.selects RX5 yX5_reserveLine yX5_reserveLine ∈ TW := tw_mem (in_lw_privs_2 (List.mem_of_getElem? (i := 7) rfl)) rfl
theorem se_X5_expr : Cond.selects RX5 yX5_expr yX5_expr ∈ TW := tw_mem (in_lw_privs_2 (List.mem_of_getElem? (i := 8) rfl)) rfl
theorem se_X5_both : Cond.selects RX5 yX5_both yX5_both ∈ TW := tw_mem (in_lw_privs_2 (List.mem_of_getElem? (i := 9) rfl)) rfl
theorem se_X5_denied : Cond.selects RX5 yX5_denied yX5_denied ∈ TW := tw_mem (in_lw_privs_2 (List.mem_of_getElem? (i := 10) rfl)) rfl
theorem se_X5_test : Cond.selects RX5 yX5_test yX5_test ∈ TW := tw_mem (in_lw_privs_2 (List.mem_of_getElem? (i := 11) rfl)) rfl
theorem se_X5_sum : Cond.selects RX5 yX5_sum yX5_sum ∈ TW := tw_mem (in_lw_privs_2 (List.mem_of_getElem? (i := 12) rfl)) rfl
theorem se_X5_product : Cond.selects RX5 yX5_product yX5_product ∈ TW := tw_mem (in_lw_privs_2 (List.mem_of_getElem? (i := 13) rfl)) rfl
theorem se_X5_part : Cond.selects RX5 yX5_part yX5_part ∈ TW := tw_mem (in_lw_privs_2 (List.mem_of_getElem? (i := 14) rfl)) rfl
theorem se_X5_valueHere : Cond.selects RX5 yX5_valueHere yX5_valueHere ∈ TW := tw_mem (in_lw_privs_2 (List.mem_of_getElem? (i := 15) rfl)) rfl
theorem se_X11_needStreet : Cond.selects RX11 yX11_needStreet yX11_needStreet ∈ TW := tw_mem (in_lw_privs_3 (List.mem_of_getElem? (i := 0) rfl)) rfl
theorem se_X11_needPerson : Cond.selects RX11 yX11_needPerson yX11_needPerson ∈ TW := tw_mem (in_lw_privs_3 (List.mem_of_getElem? (i := 1) rfl)) rfl
theorem se_X11_needPlace : Cond.selects RX11 yX11_needPlace yX11_needPlace ∈ TW := tw_mem (in_lw_privs_3 (List.mem_of_getElem? (i := 2) rfl)) rfl
theorem se_X11_goAhead : Cond.selects RX11 yX11_goAhead yX11_goAhead ∈ TW := tw_mem (in_lw_privs_3 (List.mem_of_getElem? (i := 3) rfl)) rfl
theorem se_X11_isSafe : Cond.selects RX11 yX11_isSafe yX11_isSafe ∈ TW := tw_mem (in_lw_privs_3 (List.mem_of_getElem? (i := 4) rfl)) rfl
theorem se_X11_canHide : Cond.selects RX11 yX11_canHide yX11_canHide ∈ TW := tw_mem (in_lw_privs_3 (List.mem_of_getElem? (i := 5) rfl)) rfl
theorem se_X11_wouldBuy : Cond.selects RX11 yX11_wouldBuy yX11_wouldBuy ∈ TW := tw_mem (in_lw_privs_3 (List.mem_of_getElem? (i := 6) rfl)) rfl
theorem se_X3_bestFrom : Cond.selects RX3 yX3_bestFrom yX3_bestFrom ∈ TW := tw_mem (in_lw_privs_3 (List.mem_of_getElem? (i := 7) rfl)) rfl
theorem se_X3_sumWith : Cond.selects RX3 yX3_sumWith yX3_sumWith ∈ TW := tw_mem (in_lw_privs_3 (List.mem_of_getElem? (i := 8) rfl)) rfl
theorem se_X3_chooseFirstRow : Cond.selects RX3 yX3_chooseFirstRow yX3_chooseFirstRow ∈ TW := tw_mem (in_lw_privs_3 (List.mem_of_getElem? (i := 9) rfl)) rfl
theorem se_X3_takerOf : Cond.selects RX3 yX3_takerOf yX3_takerOf ∈ TW := tw_mem (in_lw_privs_3 (List.mem_of_getElem? (i := 10) rfl)) rfl
theorem se_X11_streetNow : Cond.selects RX11 yX11_streetNow yX11_streetNow ∈ TW := tw_mem (in_lw_privs_3 (List.mem_of_getElem? (i := 11) rfl)) rfl
theorem se_X4_tryWalksOf : Cond.selects RX4 yX4_tryWalksOf yX4_tryWalksOf ∈ TW := tw_mem (in_lw_privs_3 (List.mem_of_getElem? (i := 12) rfl)) rfl
theorem se_X4_note : Cond.selects RX4 yX4_note yX4_note ∈ TW := tw_mem (in_lw_privs_3 (List.mem_of_getElem? (i := 13) rfl)) rfl
theorem se_X4_unlike : Cond.selects RX4 yX4_unlike yX4_unlike ∈ TW := tw_mem (in_lw_privs_3 (List.mem_of_getElem? (i := 14) rfl)) rfl
theorem se_X11_playCouples : Cond.selects RX11 yX11_playCouples yX11_playCouples ∈ TW := tw_mem (in_lw_privs_3 (List.mem_of_getElem? (i := 15) rfl)) rfl
theorem se_X11_lossOf : Cond.selects RX11 yX11_lossOf yX11_lossOf ∈ TW := tw_mem (in_lw_privs_4 (List.mem_of_getElem? (i := 0) rfl)) rfl
theorem se_X11_rests : Cond.selects RX11 yX11_rests yX11_rests ∈ TW := tw_mem (in_lw_privs_4 (List.mem_of_getElem? (i := 1) rfl)) rfl
theorem se_X11_drawEvent : Cond.selects RX11 yX11_drawEvent yX11_drawEvent ∈ TW := tw_mem (in_lw_privs_4 (List.mem_of_getElem? (i := 2) rfl)) rfl
theorem se_X12_fail : Cond.selects RX12 yX12_fail yX12_fail ∈ TW := tw_mem (in_lw_privs_4 (List.mem_of_getElem? (i := 3) rfl)) rfl
theorem se_X12_stepOn : Cond.selects RX12 yX12_stepOn yX12_stepOn ∈ TW := tw_mem (in_lw_privs_4 (List.mem_of_getElem? (i := 4) rfl)) rfl
theorem se_X12_byteAt : Cond.selects RX12 yX12_byteAt yX12_byteAt ∈ TW := tw_mem (in_lw_privs_4 (List.mem_of_getElem? (i := 5) rfl)) rfl
theorem se_X12_readLine : Cond.selects RX12 yX12_readLine yX12_readLine ∈ TW := tw_mem (in_lw_privs_4 (List.mem_of_getElem? (i := 6) rfl)) rfl
theorem se_X12_which : Cond.selects RX12 yX12_which yX12_which ∈ TW := tw_mem (in_lw_privs_4 (List.mem_of_getElem? (i := 7) rfl)) rfl
theorem se_X12_is : Cond.selects RX12 yX12_is yX12_is ∈ TW := tw_mem (in_lw_privs_4 (List.mem_of_getElem? (i := 8) rfl)) rfl
theorem se_X12_wrong : Cond.selects RX12 yX12_wrong yX12_wrong ∈ TW := tw_mem (in_lw_privs_4 (List.mem_of_getElem? (i := 9) rfl)) rfl
theorem se_X12_sayOnce : Cond.selects RX12 yX12_sayOnce yX12_sayOnce ∈ TW := tw_mem (in_lw_privs_4 (List.mem_of_getElem? (i := 10) rfl)) rfl
theorem se_X12_readNumber : Cond.selects RX12 yX12_readNumber yX12_readNumber ∈ TW := tw_mem (in_lw_privs_4 (List.mem_of_getElem? (i := 11) rfl)) rfl
theorem se_X12_numberNow : Cond.selects RX12 yX12_numberNow yX12_numberNow ∈ TW := tw_mem (in_lw_privs_4 (List.mem_of_getElem? (i := 12) rfl)) rfl
theorem se_X12_readStreets : Cond.selects RX12 yX12_readStreets yX12_readStreets ∈ TW := tw_mem (in_lw_privs_4 (List.mem_of_getElem? (i := 13) rfl)) rfl
theorem se_X12_readStreet : Cond.selects RX12 yX12_readStreet yX12_readStreet ∈ TW := tw_mem (in_lw_privs_4 (List.mem_of_getElem? (i := 14) rfl)) rfl
theorem se_X12_streetNow : Cond.selects RX12 yX12_streetNow yX12_streetNow ∈ TW := tw_mem (in_lw_privs_4 (List.mem_of_getElem? (i := 15) rfl)) rfl
theorem se_X12_sayFogs : Cond.selects RX12 yX12_sayFogs yX12_sayFogs ∈ TW := tw_mem (in_lw_privs_5 (List.mem_of_getElem? (i := 0) rfl)) rfl
theorem se_X12_readExpression : Cond.selects RX12 yX12_readExpression yX12_readExpression ∈ TW := tw_mem (in_lw_privs_5 (List.mem_of_getElem? (i := 1) rfl)) rfl
theorem se_X12_isMarked : Cond.selects RX12 yX12_isMarked yX12_isMarked ∈ TW := tw_mem (in_lw_privs_5 (List.mem_of_getElem? (i := 2) rfl)) rfl
theorem se_X12_readAnd : Cond.selects RX12 yX12_readAnd yX12_readAnd ∈ TW := tw_mem (in_lw_privs_5 (List.mem_of_getElem? (i := 3) rfl)) rfl
theorem se_X12_readNot : Cond.selects RX12 yX12_readNot yX12_readNot ∈ TW := tw_mem (in_lw_privs_5 (List.mem_of_getElem? (i := 4) rfl)) rfl
theorem se_X12_readSum : Cond.selects RX12 yX12_readSum yX12_readSum ∈ TW := tw_mem (in_lw_privs_5 (List.mem_of_getElem? (i := 5) rfl)) rfl
theorem se_X12_readProduct : Cond.selects RX12 yX12_readProduct yX12_readProduct ∈ TW := tw_mem (in_lw_privs_5 (List.mem_of_getElem? (i := 6) rfl)) rfl
theorem se_X12_readPart : Cond.selects RX12 yX12_readPart yX12_readPart ∈ TW := tw_mem (in_lw_privs_5 (List.mem_of_getElem? (i := 7) rfl)) rfl
theorem se_X12_lay : Cond.selects RX12 yX12_lay yX12_lay ∈ TW := tw_mem (in_lw_privs_5 (List.mem_of_getElem? (i := 8) rfl)) rfl
theorem se_X12_mark : Cond.selects RX12 yX12_mark yX12_mark ∈ TW := tw_mem (in_lw_privs_5 (List.mem_of_getElem? (i := 9) rfl)) rfl
theorem se_X12_sayPerson : Cond.selects RX12 yX12_sayPerson yX12_sayPerson ∈ TW := tw_mem (in_lw_privs_5 (List.mem_of_getElem? (i := 10) rfl)) rfl
theorem se_X12_another : Cond.selects RX12 yX12_another yX12_another ∈ TW := tw_mem (in_lw_privs_5 (List.mem_of_getElem? (i := 11) rfl)) rfl
theorem se_X12_sayPath : Cond.selects RX12 yX12_sayPath yX12_sayPath ∈ TW := tw_mem (in_lw_privs_5 (List.mem_of_getElem? (i := 12) rfl)) rfl
theorem se_X12_takeOver : Cond.selects RX12 yX12_takeOver yX12_takeOver ∈ TW := tw_mem (in_lw_privs_5 (List.mem_of_getElem? (i := 13) rfl)) rfl
theorem se_X12_fogOf : Cond.selects RX12 yX12_fogOf yX12_fogOf ∈ TW := tw_mem (in_lw_privs_5 (List.mem_of_getElem? (i := 14) rfl)) rfl
theorem se_X12_allCoins : Cond.selects RX12 yX12_allCoins yX12_allCoins ∈ TW := tw_mem (in_lw_privs_5 (List.mem_of_getElem? (i := 15) rfl)) rfl
theorem se_X12_isStreet : Cond.selects RX12 yX12_isStreet yX12_isStreet ∈ TW := tw_mem (in_lw_privs_6 (List.mem_of_getElem? (i := 0) rfl)) rfl
theorem se_X12_isPerson : Cond.selects RX12 yX12_isPerson yX12_isPerson ∈ TW := tw_mem (in_lw_privs_6 (List.mem_of_getElem? (i := 1) rfl)) rfl
theorem se_X12_seenHours : Cond.selects RX12 yX12_seenHours yX12_seenHours ∈ TW := tw_mem (in_lw_privs_6 (List.mem_of_getElem? (i := 2) rfl)) rfl
theorem se_X12_watchAt : Cond.selects RX12 yX12_watchAt yX12_watchAt ∈ TW := tw_mem (in_lw_privs_6 (List.mem_of_getElem? (i := 3) rfl)) rfl
theorem se_X12_streetOf : Cond.selects RX12 yX12_streetOf yX12_streetOf ∈ TW := tw_mem (in_lw_privs_6 (List.mem_of_getElem? (i := 4) rfl)) rfl
theorem se_X12_refuse : Cond.selects RX12 yX12_refuse yX12_refuse ∈ TW := tw_mem (in_lw_privs_6 (List.mem_of_getElem? (i := 5) rfl)) rfl
theorem se_X12_keep : Cond.selects RX12 yX12_keep yX12_keep ∈ TW := tw_mem (in_lw_privs_6 (List.mem_of_getElem? (i := 6) rfl)) rfl
theorem se_X12_pack : Cond.selects RX12 yX12_pack yX12_pack ∈ TW := tw_mem (in_lw_privs_6 (List.mem_of_getElem? (i := 7) rfl)) rfl
theorem se_X12_goOn : Cond.selects RX12 yX12_goOn yX12_goOn ∈ TW := tw_mem (in_lw_privs_6 (List.mem_of_getElem? (i := 8) rfl)) rfl
theorem se_X12_aNight : Cond.selects RX12 yX12_aNight yX12_aNight ∈ TW := tw_mem (in_lw_privs_6 (List.mem_of_getElem? (i := 9) rfl)) rfl
theorem se_X12_tellLots : Cond.selects RX12 yX12_tellLots yX12_tellLots ∈ TW := tw_mem (in_lw_privs_6 (List.mem_of_getElem? (i := 10) rfl)) rfl
theorem se_X12_sell : Cond.selects RX12 yX12_sell yX12_sell ∈ TW := tw_mem (in_lw_privs_6 (List.mem_of_getElem? (i := 11) rfl)) rfl
theorem se_X12_bidOf : Cond.selects RX12 yX12_bidOf yX12_bidOf ∈ TW := tw_mem (in_lw_privs_6 (List.mem_of_getElem? (i := 12) rfl)) rfl
theorem se_X12_firstStreet : Cond.selects RX12 yX12_firstStreet yX12_firstStreet ∈ TW := tw_mem (in_lw_privs_6 (List.mem_of_getElem? (i := 13) rfl)) rfl
theorem se_X12_valueNow : Cond.selects RX12 yX12_valueNow yX12_valueNow ∈ TW := tw_mem (in_lw_privs_6 (List.mem_of_getElem? (i := 14) rfl)) rfl
theorem se_X12_canBribe : Cond.selects RX12 yX12_canBribe yX12_canBribe ∈ TW := tw_mem (in_lw_privs_6 (List.mem_of_getElem? (i := 15) rfl)) rfl
theorem se_X12_doBribe : Cond.selects RX12 yX12_doBribe yX12_doBribe ∈ TW := tw_mem (in_lw_privs_7 (List.mem_of_getElem? (i := 0) rfl)) rfl
theorem se_X12_unpack : Cond.selects RX12 yX12_unpack yX12_unpack ∈ TW := tw_mem (in_lw_privs_7 (List.mem_of_getElem? (i := 1) rfl)) rfl
theorem se_X12_firstOf : Cond.selects RX12 yX12_firstOf yX12_firstOf ∈ TW := tw_mem (in_lw_privs_7 (List.mem_of_getElem? (i := 2) rfl)) rfl
theorem se_X12_stepped : Cond.selects RX12 yX12_stepped yX12_stepped ∈ TW := tw_mem (in_lw_privs_7 (List.mem_of_getElem? (i := 3) rfl)) rfl
theorem se_X12_lit : Cond.selects RX12 yX12_lit yX12_lit ∈ TW := tw_mem (in_lw_privs_7 (List.mem_of_getElem? (i := 4) rfl)) rfl
theorem se_X12_lotsNow : Cond.selects RX12 yX12_lotsNow yX12_lotsNow ∈ TW := tw_mem (in_lw_privs_7 (List.mem_of_getElem? (i := 5) rfl)) rfl
theorem se_X12_tellMost : Cond.selects RX12 yX12_tellMost yX12_tellMost ∈ TW := tw_mem (in_lw_privs_7 (List.mem_of_getElem? (i := 6) rfl)) rfl
theorem se_X12_with : Cond.selects RX12 yX12_with yX12_with ∈ TW := tw_mem (in_lw_privs_7 (List.mem_of_getElem? (i := 7) rfl)) rfl
theorem se_X12_mayHave : Cond.selects RX12 yX12_mayHave yX12_mayHave ∈ TW := tw_mem (in_lw_privs_7 (List.mem_of_getElem? (i := 8) rfl)) rfl
theorem se_X12_knowers : Cond.selects RX12 yX12_knowers yX12_knowers ∈ TW := tw_mem (in_lw_privs_7 (List.mem_of_getElem? (i := 9) rfl)) rfl
theorem se_X12_isAsTold : Cond.selects RX12 yX12_isAsTold yX12_isAsTold ∈ TW := tw_mem (in_lw_privs_7 (List.mem_of_getElem? (i := 10) rfl)) rfl
theorem se_X12_tellFits : Cond.selects RX12 yX12_tellFits yX12_tellFits ∈ TW := tw_mem (in_lw_privs_7 (List.mem_of_getElem? (i := 11) rfl)) rfl
theorem se_X12_unlike : Cond.selects RX12 yX12_unlike yX12_unlike ∈ TW := tw_mem (in_lw_privs_7 (List.mem_of_getElem? (i := 12) rfl)) rfl
theorem se_X12_tellGains : Cond.selects RX12 yX12_tellGains yX12_tellGains ∈ TW := tw_mem (in_lw_privs_7 (List.mem_of_getElem? (i := 13) rfl)) rfl
theorem se_X12_loss : Cond.selects RX12 yX12_loss yX12_loss ∈ TW := tw_mem (in_lw_privs_7 (List.mem_of_getElem? (i := 14) rfl)) rfl
theorem se_X12_something : Cond.selects RX12 yX12_something yX12_something ∈ TW := tw_mem (in_lw_privs_7 (List.mem_of_getElem? (i := 15) rfl)) rfl
theorem se_X12_drawOf : Cond.selects RX12 yX12_drawOf yX12_drawOf ∈ TW := tw_mem (in_lw_privs_8 (List.mem_of_getElem? (i := 0) rfl)) rfl
theorem ini_L : Cond.initialized RL ∈ TW := tw_mem (in_tables_1_1 (List.mem_of_getElem? (i := 0) rfl)) rfl
theorem ini_X11 : Cond.initialized RX11 ∈ TW := tw_mem (in_tables_1_1 (List.mem_of_getElem? (i := 1) rfl)) rfl
theorem ini_X5 : Cond.initialized RX5 ∈ TW := tw_mem (in_tables_1_1 (List.mem_of_getElem? (i := 2) rfl)) rfl
theorem ini_X9 : Cond.initialized RX9 ∈ TW := tw_mem (in_tables_1_1 (List.mem_of_getElem? (i := 3) rfl)) rfl
theorem ini_X10 : Cond.initialized RX10 ∈ TW := tw_mem (in_tables_1_1 (List.mem_of_getElem? (i := 4) rfl)) rfl
theorem ini_X0 : Cond.initialized RX0 ∈ TW := tw_mem (in_tables_1_1 (List.mem_of_getElem? (i := 5) rfl)) rfl
theorem ini_X8 : Cond.initialized RX8 ∈ TW := tw_mem (in_tables_1_1 (List.mem_of_getElem? (i := 6) rfl)) rfl
theorem ini_X1 : Cond.initialized RX1 ∈ TW := tw_mem (in_tables_1_1 (List.mem_of_getElem? (i := 7) rfl)) rfl
theorem ini_X7 : Cond.initialized RX7 ∈ TW := tw_mem (in_tables_1_1 (List.mem_of_getElem? (i := 8) rfl)) rfl
theorem ini_X6 : Cond.initialized RX6 ∈ TW := tw_mem (in_tables_1_1 (List.mem_of_getElem? (i := 9) rfl)) rfl
theorem ini_X3 : Cond.initialized RX3 ∈ TW := tw_mem (in_tables_1_1 (List.mem_of_getElem? (i := 10) rfl)) rfl
theorem ini_X4 : Cond.initialized RX4 ∈ TW := tw_mem (in_tables_1_1 (List.mem_of_getElem? (i := 11) rfl)) rfl
theorem ini_X2 : Cond.initialized RX2 ∈ TW := tw_mem (in_tables_1_1 (List.mem_of_getElem? (i := 12) rfl)) rfl
theorem ini_X12 : Cond.initialized RX12 ∈ TW := tw_mem (in_tables_1_1 (List.mem_of_getElem? (i := 13) rfl)) rfl
theorem ini_J0 : Cond.initialized RJ0 ∈ TW := tw_mem (in_tables_1_1 (List.mem_of_getElem? (i := 18) rfl)) rfl
theorem ini_J1 : Cond.initialized RJ1 ∈ TW := tw_mem (in_tables_1_1 (List.mem_of_getElem? (i := 19) rfl)) rfl
theorem ini_J3 : Cond.initialized RJ3 ∈ TW := tw_mem (in_tables_1_1 (List.mem_of_getElem? (i := 20) rfl)) rfl
theorem ini_J2 : Cond.initialized RJ2 ∈ TW := tw_mem (in_tables_1_1 (List.mem_of_getElem? (i := 21) rfl)) rfl
theorem ini_J9 : Cond.initialized RJ9 ∈ TW := tw_mem (in_tables_1_1 (List.mem_of_getElem? (i := 22) rfl)) rfl
theorem ini_J6 : Cond.initialized RJ6 ∈ TW := tw_mem (in_tables_1_1 (List.mem_of_getElem? (i := 24) rfl)) rfl
theorem cl_L_8 : Cond.classLink RL 8 RX11 ∈ TW := tw_mem (in_tables_1_1 (List.mem_of_getElem? (i := 25) rfl)) rfl
theorem it_X11 : Cond.instantiable RX11 13 ∈ TW := tw_mem (in_tables_1_1 (List.mem_of_getElem? (i := 26) rfl)) rfl
theorem ml_L_113 : Cond.methodLink RL 113 yX11_init ∈ TW := tw_mem (in_tables_1_1 (List.mem_of_getElem? (i := 27) rfl)) rfl
theorem im_X11_init : Cond.instanceMethod yX11_init ∈ TW := tw_mem (in_tables_1_1 (List.mem_of_getElem? (i := 28) rfl)) rfl
theorem co_X11_init : Cond.code yX11_init cX11_init 1 none ∈ TW := tw_mem (in_tables_1_1 (List.mem_of_getElem? (i := 29) rfl)) rfl
theorem ml_X11_3 : Cond.methodLink RX11 3 objectInit ∈ TW := tw_mem (in_tables_1_1 (List.mem_of_getElem? (i := 30) rfl)) rfl
theorem cl_X11_9 : Cond.classLink RX11 9 RX5 ∈ TW := tw_mem (in_tables_1_1 (List.mem_of_getElem? (i := 33) rfl)) rfl
theorem it_X5 : Cond.instantiable RX5 12 ∈ TW := tw_mem (in_tables_1_1 (List.mem_of_getElem? (i := 34) rfl)) rfl
theorem ml_X11_11 : Cond.methodLink RX11 11 yX5_init ∈ TW := tw_mem (in_tables_1_1 (List.mem_of_getElem? (i := 35) rfl)) rfl
theorem im_X5_init : Cond.instanceMethod yX5_init ∈ TW := tw_mem (in_tables_1_1 (List.mem_of_getElem? (i := 36) rfl)) rfl
theorem co_X5_init : Cond.code yX5_init cX5_init 1 none ∈ TW := tw_mem (in_tables_1_1 (List.mem_of_getElem? (i := 37) rfl)) rfl
theorem ml_X5_3 : Cond.methodLink RX5 3 objectInit ∈ TW := tw_mem (in_tables_1_1 (List.mem_of_getElem? (i := 38) rfl)) rfl
theorem cl_X5_19 : Cond.classLink RX5 19 RX9 ∈ TW := tw_mem (in_tables_1_1 (List.mem_of_getElem? (i := 39) rfl)) rfl
theorem it_X9 : Cond.instantiable RX9 14 ∈ TW := tw_mem (in_tables_1_1 (List.mem_of_getElem? (i := 40) rfl)) rfl
theorem ml_X5_21 : Cond.methodLink RX5 21 yX9_init ∈ TW := tw_mem (in_tables_1_1 (List.mem_of_getElem? (i := 41) rfl)) rfl
theorem im_X9_init : Cond.instanceMethod yX9_init ∈ TW := tw_mem (in_tables_1_1 (List.mem_of_getElem? (i := 42) rfl)) rfl
theorem co_X9_init : Cond.code yX9_init cX9_init 1 none ∈ TW := tw_mem (in_tables_1_1 (List.mem_of_getElem? (i := 43) rfl)) rfl
theorem ml_X9_3 : Cond.methodLink RX9 3 objectInit ∈ TW := tw_mem (in_tables_1_1 (List.mem_of_getElem? (i := 44) rfl)) rfl
theorem cl_X9_30 : Cond.classLink RX9 30 RX10 ∈ TW := tw_mem (in_tables_1_1 (List.mem_of_getElem? (i := 45) rfl)) rfl
theorem it_X10 : Cond.instantiable RX10 4 ∈ TW := tw_mem (in_tables_1_1 (List.mem_of_getElem? (i := 46) rfl)) rfl
theorem ml_X9_32 : Cond.methodLink RX9 32 yX10_init ∈ TW := tw_mem (in_tables_1_1 (List.mem_of_getElem? (i := 47) rfl)) rfl
theorem im_X10_init : Cond.instanceMethod yX10_init ∈ TW := tw_mem (in_tables_1_1 (List.mem_of_getElem? (i := 48) rfl)) rfl
theorem co_X10_init : Cond.code yX10_init cX10_init 1 none ∈ TW := tw_mem (in_tables_1_1 (List.mem_of_getElem? (i := 49) rfl)) rfl
theorem ml_X10_3 : Cond.methodLink RX10 3 objectInit ∈ TW := tw_mem (in_tables_1_1 (List.mem_of_getElem? (i := 50) rfl)) rfl
theorem fl_X10_9 : Cond.fieldLink RX10 9 "WatchLots$Worth" "code" "[I" ∈ TW := tw_mem (in_tables_1_1 (List.mem_of_getElem? (i := 51) rfl)) rfl
theorem fl_X10_15 : Cond.fieldLink RX10 15 "WatchLots$Worth" "length" "I" ∈ TW := tw_mem (in_tables_1_1 (List.mem_of_getElem? (i := 52) rfl)) rfl
theorem fl_X10_19 : Cond.fieldLink RX10 19 "WatchLots$Worth" "stack" "[I" ∈ TW := tw_mem (in_tables_1_1 (List.mem_of_getElem? (i := 53) rfl)) rfl
theorem fl_X10_22 : Cond.fieldLink RX10 22 "WatchLots$Worth" "height" "I" ∈ TW := tw_mem (in_tables_1_1 (List.mem_of_getElem? (i := 54) rfl)) rfl
theorem ac_int : Cond.arrayClass .int ∈ TW := tw_mem (in_tables_1_1 (List.mem_of_getElem? (i := 64) rfl)) rfl
theorem ml_X9_37 : Cond.methodLink RX9 37 yX9_clear ∈ TW := tw_mem (in_tables_1_1 (List.mem_of_getElem? (i := 65) rfl)) rfl
theorem im_X9_clear : Cond.instanceMethod yX9_clear ∈ TW := tw_mem (in_tables_1_1 (List.mem_of_getElem? (i := 66) rfl)) rfl
theorem se_X9_clear : Cond.selects RX9 yX9_clear yX9_clear ∈ TW := tw_mem (in_tables_1_1 (List.mem_of_getElem? (i := 67) rfl)) rfl
theorem co_X9_clear : Cond.code yX9_clear cX9_clear 2 none ∈ TW := tw_mem (in_tables_1_1 (List.mem_of_getElem? (i := 68) rfl)) rfl
theorem sm_X11_put : Cond.static yX11_put ∈ TW := tw_mem (in_tables_1_1 (List.mem_of_getElem? (i := 70) rfl)) rfl
theorem co_X11_put : Cond.code yX11_put cX11_put 3 none ∈ TW := tw_mem (in_tables_1_1 (List.mem_of_getElem? (i := 71) rfl)) rfl
theorem ml_X9_66 : Cond.methodLink RX9 66 yX10_clear ∈ TW := tw_mem (in_tables_1_1 (List.mem_of_getElem? (i := 72) rfl)) rfl
theorem im_X10_clear : Cond.instanceMethod yX10_clear ∈ TW := tw_mem (in_tables_1_1 (List.mem_of_getElem? (i := 73) rfl)) rfl
theorem se_X10_clear : Cond.selects RX10 yX10_clear yX10_clear ∈ TW := tw_mem (in_tables_1_1 (List.mem_of_getElem? (i := 74) rfl)) rfl
theorem co_X10_clear : Cond.code yX10_clear cX10_clear 1 none ∈ TW := tw_mem (in_tables_1_1 (List.mem_of_getElem? (i := 75) rfl)) rfl
theorem fl_X9_40 : Cond.fieldLink RX9 40 "WatchLots$Ward" "streets" "I" ∈ TW := tw_mem (in_tables_1_1 (List.mem_of_getElem? (i := 76) rfl)) rfl
theorem fl_X4_64 : Cond.fieldLink RX4 64 "WatchLots$Ward" "streets" "I" ∈ TW := tw_mem (in_tables_1_1 (List.mem_of_getElem? (i := 77) rfl)) rfl
theorem fl_X11_122 : Cond.fieldLink RX11 122 "WatchLots$Ward" "streets" "I" ∈ TW := tw_mem (in_tables_1_1 (List.mem_of_getElem? (i := 78) rfl)) rfl
theorem fl_X5_105 : Cond.fieldLink RX5 105 "WatchLots$Ward" "streets" "I" ∈ TW := tw_mem (in_tables_1_1 (List.mem_of_getElem? (i := 79) rfl)) rfl
theorem fl_X9_44 : Cond.fieldLink RX9 44 "WatchLots$Ward" "paths" "I" ∈ TW := tw_mem (in_tables_1_1 (List.mem_of_getElem? (i := 80) rfl)) rfl
theorem fl_X11_125 : Cond.fieldLink RX11 125 "WatchLots$Ward" "paths" "I" ∈ TW := tw_mem (in_tables_1_1 (List.mem_of_getElem? (i := 81) rfl)) rfl
theorem fl_X5_159 : Cond.fieldLink RX5 159 "WatchLots$Ward" "paths" "I" ∈ TW := tw_mem (in_tables_1_1 (List.mem_of_getElem? (i := 82) rfl)) rfl
theorem fl_X9_47 : Cond.fieldLink RX9 47 "WatchLots$Ward" "rounds" "I" ∈ TW := tw_mem (in_tables_1_1 (List.mem_of_getElem? (i := 83) rfl)) rfl
theorem fl_X11_131 : Cond.fieldLink RX11 131 "WatchLots$Ward" "rounds" "I" ∈ TW := tw_mem (in_tables_1_1 (List.mem_of_getElem? (i := 84) rfl)) rfl
theorem fl_X5_173 : Cond.fieldLink RX5 173 "WatchLots$Ward" "rounds" "I" ∈ TW := tw_mem (in_tables_1_1 (List.mem_of_getElem? (i := 85) rfl)) rfl
theorem fl_X9_50 : Cond.fieldLink RX9 50 "WatchLots$Ward" "people" "I" ∈ TW := tw_mem (in_tables_1_1 (List.mem_of_getElem? (i := 86) rfl)) rfl
theorem fl_X6_33 : Cond.fieldLink RX6 33 "WatchLots$Ward" "people" "I" ∈ TW := tw_mem (in_tables_1_1 (List.mem_of_getElem? (i := 87) rfl)) rfl
theorem fl_X3_21 : Cond.fieldLink RX3 21 "WatchLots$Ward" "people" "I" ∈ TW := tw_mem (in_tables_1_1 (List.mem_of_getElem? (i := 88) rfl)) rfl
theorem fl_X8_37 : Cond.fieldLink RX8 37 "WatchLots$Ward" "people" "I" ∈ TW := tw_mem (in_tables_1_1 (List.mem_of_getElem? (i := 89) rfl)) rfl
theorem fl_X4_29 : Cond.fieldLink RX4 29 "WatchLots$Ward" "people" "I" ∈ TW := tw_mem (in_tables_1_1 (List.mem_of_getElem? (i := 90) rfl)) rfl
theorem fl_X11_128 : Cond.fieldLink RX11 128 "WatchLots$Ward" "people" "I" ∈ TW := tw_mem (in_tables_1_1 (List.mem_of_getElem? (i := 91) rfl)) rfl
theorem fl_X5_182 : Cond.fieldLink RX5 182 "WatchLots$Ward" "people" "I" ∈ TW := tw_mem (in_tables_1_1 (List.mem_of_getElem? (i := 92) rfl)) rfl
theorem fl_X9_53 : Cond.fieldLink RX9 53 "WatchLots$Ward" "bishops" "I" ∈ TW := tw_mem (in_tables_1_1 (List.mem_of_getElem? (i := 93) rfl)) rfl
theorem fl_X6_65 : Cond.fieldLink RX6 65 "WatchLots$Ward" "bishops" "I" ∈ TW := tw_mem (in_tables_1_1 (List.mem_of_getElem? (i := 94) rfl)) rfl
theorem fl_X11_194 : Cond.fieldLink RX11 194 "WatchLots$Ward" "bishops" "I" ∈ TW := tw_mem (in_tables_1_1 (List.mem_of_getElem? (i := 95) rfl)) rfl
theorem fl_X9_56 : Cond.fieldLink RX9 56 "WatchLots$Ward" "fogs" "I" ∈ TW := tw_mem (in_tables_1_1 (List.mem_of_getElem? (i := 96) rfl)) rfl
theorem fl_X5_189 : Cond.fieldLink RX5 189 "WatchLots$Ward" "fogs" "I" ∈ TW := tw_mem (in_tables_1_1 (List.mem_of_getElem? (i := 97) rfl)) rfl
theorem fl_X8_34 : Cond.fieldLink RX8 34 "WatchLots$Ward" "reserve" "I" ∈ TW := tw_mem (in_tables_1_1 (List.mem_of_getElem? (i := 98) rfl)) rfl
theorem fl_X9_59 : Cond.fieldLink RX9 59 "WatchLots$Ward" "reserve" "I" ∈ TW := tw_mem (in_tables_1_1 (List.mem_of_getElem? (i := 99) rfl)) rfl
theorem fl_X5_194 : Cond.fieldLink RX5 194 "WatchLots$Ward" "reserve" "I" ∈ TW := tw_mem (in_tables_1_1 (List.mem_of_getElem? (i := 100) rfl)) rfl
theorem fl_X9_9 : Cond.fieldLink RX9 9 "WatchLots$Ward" "near" "[I" ∈ TW := tw_mem (in_tables_1_1 (List.mem_of_getElem? (i := 101) rfl)) rfl
theorem fl_X11_179 : Cond.fieldLink RX11 179 "WatchLots$Ward" "near" "[I" ∈ TW := tw_mem (in_tables_1_1 (List.mem_of_getElem? (i := 102) rfl)) rfl
theorem fl_X5_162 : Cond.fieldLink RX5 162 "WatchLots$Ward" "near" "[I" ∈ TW := tw_mem (in_tables_1_1 (List.mem_of_getElem? (i := 103) rfl)) rfl
theorem fl_X9_15 : Cond.fieldLink RX9 15 "WatchLots$Ward" "round" "[I" ∈ TW := tw_mem (in_tables_1_1 (List.mem_of_getElem? (i := 104) rfl)) rfl
theorem fl_X5_176 : Cond.fieldLink RX5 176 "WatchLots$Ward" "round" "[I" ∈ TW := tw_mem (in_tables_1_1 (List.mem_of_getElem? (i := 105) rfl)) rfl
theorem fl_X9_18 : Cond.fieldLink RX9 18 "WatchLots$Ward" "coins" "[I" ∈ TW := tw_mem (in_tables_1_1 (List.mem_of_getElem? (i := 106) rfl)) rfl
theorem fl_X8_40 : Cond.fieldLink RX8 40 "WatchLots$Ward" "coins" "[I" ∈ TW := tw_mem (in_tables_1_1 (List.mem_of_getElem? (i := 107) rfl)) rfl
theorem fl_X9_21 : Cond.fieldLink RX9 21 "WatchLots$Ward" "lengths" "[I" ∈ TW := tw_mem (in_tables_1_1 (List.mem_of_getElem? (i := 108) rfl)) rfl
theorem fl_X4_61 : Cond.fieldLink RX4 61 "WatchLots$Ward" "lengths" "[I" ∈ TW := tw_mem (in_tables_1_1 (List.mem_of_getElem? (i := 109) rfl)) rfl
theorem fl_X11_188 : Cond.fieldLink RX11 188 "WatchLots$Ward" "lengths" "[I" ∈ TW := tw_mem (in_tables_1_1 (List.mem_of_getElem? (i := 110) rfl)) rfl
theorem fl_X9_24 : Cond.fieldLink RX9 24 "WatchLots$Ward" "walks" "[I" ∈ TW := tw_mem (in_tables_1_1 (List.mem_of_getElem? (i := 111) rfl)) rfl
theorem fl_X8_49 : Cond.fieldLink RX8 49 "WatchLots$Ward" "walks" "[I" ∈ TW := tw_mem (in_tables_1_1 (List.mem_of_getElem? (i := 112) rfl)) rfl
theorem fl_X9_27 : Cond.fieldLink RX9 27 "WatchLots$Ward" "fog" "[I" ∈ TW := tw_mem (in_tables_1_1 (List.mem_of_getElem? (i := 113) rfl)) rfl
theorem fl_X5_192 : Cond.fieldLink RX5 192 "WatchLots$Ward" "fog" "[I" ∈ TW := tw_mem (in_tables_1_1 (List.mem_of_getElem? (i := 114) rfl)) rfl
theorem fl_X9_33 : Cond.fieldLink RX9 33 "WatchLots$Ward" "worth" "LWatchLots$Worth;" ∈ TW := tw_mem (in_tables_1_1 (List.mem_of_getElem? (i := 115) rfl)) rfl
theorem fl_X6_68 : Cond.fieldLink RX6 68 "WatchLots$Ward" "worth" "LWatchLots$Worth;" ∈ TW := tw_mem (in_tables_1_1 (List.mem_of_getElem? (i := 116) rfl)) rfl
theorem fl_X5_201 : Cond.fieldLink RX5 201 "WatchLots$Ward" "worth" "LWatchLots$Worth;" ∈ TW := tw_mem (in_tables_1_1 (List.mem_of_getElem? (i := 117) rfl)) rfl
theorem fl_X5_9 : Cond.fieldLink RX5 9 "WatchLots$Reader" "tape" "[I" ∈ TW := tw_mem (in_tables_1_1 (List.mem_of_getElem? (i := 147) rfl)) rfl
theorem fl_X5_15 : Cond.fieldLink RX5 15 "WatchLots$Reader" "taped" "I" ∈ TW := tw_mem (in_tables_1_1 (List.mem_of_getElem? (i := 148) rfl)) rfl
theorem fl_X11_83 : Cond.fieldLink RX11 83 "WatchLots$Reader" "taped" "I" ∈ TW := tw_mem (in_tables_1_1 (List.mem_of_getElem? (i := 149) rfl)) rfl
theorem fl_X5_22 : Cond.fieldLink RX5 22 "WatchLots$Reader" "draft" "LWatchLots$Ward;" ∈ TW := tw_mem (in_tables_1_1 (List.mem_of_getElem? (i := 150) rfl)) rfl
theorem fl_X5_26 : Cond.fieldLink RX5 26 "WatchLots$Reader" "end" "I" ∈ TW := tw_mem (in_tables_1_1 (List.mem_of_getElem? (i := 151) rfl)) rfl
theorem fl_X5_29 : Cond.fieldLink RX5 29 "WatchLots$Reader" "start" "I" ∈ TW := tw_mem (in_tables_1_1 (List.mem_of_getElem? (i := 152) rfl)) rfl
theorem fl_X11_101 : Cond.fieldLink RX11 101 "WatchLots$Reader" "start" "I" ∈ TW := tw_mem (in_tables_1_1 (List.mem_of_getElem? (i := 153) rfl)) rfl
theorem fl_X5_32 : Cond.fieldLink RX5 32 "WatchLots$Reader" "next" "I" ∈ TW := tw_mem (in_tables_1_1 (List.mem_of_getElem? (i := 154) rfl)) rfl
theorem fl_X5_35 : Cond.fieldLink RX5 35 "WatchLots$Reader" "kind" "I" ∈ TW := tw_mem (in_tables_1_1 (List.mem_of_getElem? (i := 155) rfl)) rfl
theorem fl_X5_38 : Cond.fieldLink RX5 38 "WatchLots$Reader" "value" "I" ∈ TW := tw_mem (in_tables_1_1 (List.mem_of_getElem? (i := 156) rfl)) rfl
theorem fl_X5_41 : Cond.fieldLink RX5 41 "WatchLots$Reader" "found" "I" ∈ TW := tw_mem (in_tables_1_1 (List.mem_of_getElem? (i := 157) rfl)) rfl
theorem fl_X5_44 : Cond.fieldLink RX5 44 "WatchLots$Reader" "linesTold" "I" ∈ TW := tw_mem (in_tables_1_1 (List.mem_of_getElem? (i := 158) rfl)) rfl
theorem fl_X5_47 : Cond.fieldLink RX5 47 "WatchLots$Reader" "hasStreet" "Z" ∈ TW := tw_mem (in_tables_1_1 (List.mem_of_getElem? (i := 159) rfl)) rfl
theorem fl_X5_51 : Cond.fieldLink RX5 51 "WatchLots$Reader" "row" "[I" ∈ TW := tw_mem (in_tables_1_1 (List.mem_of_getElem? (i := 160) rfl)) rfl
theorem cl_X11_16 : Cond.classLink RX11 16 RX9 ∈ TW := tw_mem (in_tables_1_1 (List.mem_of_getElem? (i := 186) rfl)) rfl
theorem ml_X11_18 : Cond.methodLink RX11 18 yX9_init ∈ TW := tw_mem (in_tables_1_1 (List.mem_of_getElem? (i := 187) rfl)) rfl
theorem cl_X11_27 : Cond.classLink RX11 27 RX0 ∈ TW := tw_mem (in_tables_1_1 (List.mem_of_getElem? (i := 188) rfl)) rfl
theorem it_X0 : Cond.instantiable RX0 4 ∈ TW := tw_mem (in_tables_1_1 (List.mem_of_getElem? (i := 189) rfl)) rfl
theorem ml_X11_29 : Cond.methodLink RX11 29 yX0_init ∈ TW := tw_mem (in_tables_1_1 (List.mem_of_getElem? (i := 190) rfl)) rfl
theorem im_X0_init : Cond.instanceMethod yX0_init ∈ TW := tw_mem (in_tables_1_1 (List.mem_of_getElem? (i := 191) rfl)) rfl
theorem co_X0_init : Cond.code yX0_init cX0_init 1 none ∈ TW := tw_mem (in_tables_1_1 (List.mem_of_getElem? (i := 192) rfl)) rfl
theorem ml_X0_3 : Cond.methodLink RX0 3 objectInit ∈ TW := tw_mem (in_tables_1_1 (List.mem_of_getElem? (i := 193) rfl)) rfl
theorem cl_X0_9 : Cond.classLink RX0 9 RX8 ∈ TW := tw_mem (in_tables_1_1 (List.mem_of_getElem? (i := 194) rfl)) rfl
theorem it_X8 : Cond.instantiable RX8 7 ∈ TW := tw_mem (in_tables_1_1 (List.mem_of_getElem? (i := 195) rfl)) rfl
theorem ml_X0_11 : Cond.methodLink RX0 11 yX8_init ∈ TW := tw_mem (in_tables_1_1 (List.mem_of_getElem? (i := 196) rfl)) rfl
theorem im_X8_init : Cond.instanceMethod yX8_init ∈ TW := tw_mem (in_tables_1_1 (List.mem_of_getElem? (i := 197) rfl)) rfl
theorem co_X8_init : Cond.code yX8_init cX8_init 1 none ∈ TW := tw_mem (in_tables_1_1 (List.mem_of_getElem? (i := 198) rfl)) rfl
theorem ml_X8_3 : Cond.methodLink RX8 3 objectInit ∈ TW := tw_mem (in_tables_1_1 (List.mem_of_getElem? (i := 199) rfl)) rfl
theorem fl_X8_9 : Cond.fieldLink RX8 9 "WatchLots$Town" "night" "I" ∈ TW := tw_mem (in_tables_1_1 (List.mem_of_getElem? (i := 200) rfl)) rfl
theorem fl_X6_51 : Cond.fieldLink RX6 51 "WatchLots$Town" "night" "I" ∈ TW := tw_mem (in_tables_1_1 (List.mem_of_getElem? (i := 201) rfl)) rfl
theorem fl_X11_134 : Cond.fieldLink RX11 134 "WatchLots$Town" "night" "I" ∈ TW := tw_mem (in_tables_1_1 (List.mem_of_getElem? (i := 202) rfl)) rfl
theorem fl_X9_85 : Cond.fieldLink RX9 85 "WatchLots$Town" "night" "I" ∈ TW := tw_mem (in_tables_1_1 (List.mem_of_getElem? (i := 203) rfl)) rfl
theorem fl_X8_15 : Cond.fieldLink RX8 15 "WatchLots$Town" "dark" "I" ∈ TW := tw_mem (in_tables_1_1 (List.mem_of_getElem? (i := 204) rfl)) rfl
theorem fl_X11_143 : Cond.fieldLink RX11 143 "WatchLots$Town" "dark" "I" ∈ TW := tw_mem (in_tables_1_1 (List.mem_of_getElem? (i := 205) rfl)) rfl
theorem fl_X6_126 : Cond.fieldLink RX6 126 "WatchLots$Town" "dark" "I" ∈ TW := tw_mem (in_tables_1_1 (List.mem_of_getElem? (i := 206) rfl)) rfl
theorem fl_X8_18 : Cond.fieldLink RX8 18 "WatchLots$Town" "bribing" "I" ∈ TW := tw_mem (in_tables_1_1 (List.mem_of_getElem? (i := 207) rfl)) rfl
theorem fl_X11_146 : Cond.fieldLink RX11 146 "WatchLots$Town" "bribing" "I" ∈ TW := tw_mem (in_tables_1_1 (List.mem_of_getElem? (i := 208) rfl)) rfl
theorem fl_X6_143 : Cond.fieldLink RX6 143 "WatchLots$Town" "bribing" "I" ∈ TW := tw_mem (in_tables_1_1 (List.mem_of_getElem? (i := 209) rfl)) rfl
theorem fl_X8_21 : Cond.fieldLink RX8 21 "WatchLots$Town" "reserve" "I" ∈ TW := tw_mem (in_tables_1_1 (List.mem_of_getElem? (i := 210) rfl)) rfl
theorem fl_X11_140 : Cond.fieldLink RX11 140 "WatchLots$Town" "reserve" "I" ∈ TW := tw_mem (in_tables_1_1 (List.mem_of_getElem? (i := 211) rfl)) rfl
theorem fl_X6_123 : Cond.fieldLink RX6 123 "WatchLots$Town" "reserve" "I" ∈ TW := tw_mem (in_tables_1_1 (List.mem_of_getElem? (i := 212) rfl)) rfl
theorem fl_X8_24 : Cond.fieldLink RX8 24 "WatchLots$Town" "coins" "[I" ∈ TW := tw_mem (in_tables_1_1 (List.mem_of_getElem? (i := 213) rfl)) rfl
theorem fl_X6_62 : Cond.fieldLink RX6 62 "WatchLots$Town" "coins" "[I" ∈ TW := tw_mem (in_tables_1_1 (List.mem_of_getElem? (i := 214) rfl)) rfl
theorem fl_X11_185 : Cond.fieldLink RX11 185 "WatchLots$Town" "coins" "[I" ∈ TW := tw_mem (in_tables_1_1 (List.mem_of_getElem? (i := 215) rfl)) rfl
theorem fl_X8_28 : Cond.fieldLink RX8 28 "WatchLots$Town" "knows" "[I" ∈ TW := tw_mem (in_tables_1_1 (List.mem_of_getElem? (i := 216) rfl)) rfl
theorem fl_X11_191 : Cond.fieldLink RX11 191 "WatchLots$Town" "knows" "[I" ∈ TW := tw_mem (in_tables_1_1 (List.mem_of_getElem? (i := 217) rfl)) rfl
theorem fl_X6_133 : Cond.fieldLink RX6 133 "WatchLots$Town" "knows" "[I" ∈ TW := tw_mem (in_tables_1_1 (List.mem_of_getElem? (i := 218) rfl)) rfl
theorem fl_X8_31 : Cond.fieldLink RX8 31 "WatchLots$Town" "walks" "[I" ∈ TW := tw_mem (in_tables_1_1 (List.mem_of_getElem? (i := 219) rfl)) rfl
theorem fl_X4_34 : Cond.fieldLink RX4 34 "WatchLots$Town" "walks" "[I" ∈ TW := tw_mem (in_tables_1_1 (List.mem_of_getElem? (i := 220) rfl)) rfl
theorem fl_X6_44 : Cond.fieldLink RX6 44 "WatchLots$Town" "walks" "[I" ∈ TW := tw_mem (in_tables_1_1 (List.mem_of_getElem? (i := 221) rfl)) rfl
theorem fl_X11_197 : Cond.fieldLink RX11 197 "WatchLots$Town" "walks" "[I" ∈ TW := tw_mem (in_tables_1_1 (List.mem_of_getElem? (i := 222) rfl)) rfl
theorem fl_X9_101 : Cond.fieldLink RX9 101 "WatchLots$Town" "walks" "[I" ∈ TW := tw_mem (in_tables_1_1 (List.mem_of_getElem? (i := 223) rfl)) rfl
theorem cl_X0_18 : Cond.classLink RX0 18 RX1 ∈ TW := tw_mem (in_tables_1_1 (List.mem_of_getElem? (i := 239) rfl)) rfl
theorem it_X1 : Cond.instantiable RX1 2 ∈ TW := tw_mem (in_tables_1_2 (List.mem_of_getElem? (i := 0) rfl)) rfl
theorem ml_X0_20 : Cond.methodLink RX0 20 yX1_init ∈ TW := tw_mem (in_tables_1_2 (List.mem_of_getElem? (i := 1) rfl)) rfl
theorem im_X1_init : Cond.instanceMethod yX1_init ∈ TW := tw_mem (in_tables_1_2 (List.mem_of_getElem? (i := 2) rfl)) rfl
theorem co_X1_init : Cond.code yX1_init cX1_init 1 none ∈ TW := tw_mem (in_tables_1_2 (List.mem_of_getElem? (i := 3) rfl)) rfl
theorem ml_X1_3 : Cond.methodLink RX1 3 objectInit ∈ TW := tw_mem (in_tables_1_2 (List.mem_of_getElem? (i := 4) rfl)) rfl
theorem fl_X1_11 : Cond.fieldLink RX1 11 "WatchLots$Diary" "rows" "[I" ∈ TW := tw_mem (in_tables_1_2 (List.mem_of_getElem? (i := 5) rfl)) rfl
theorem fl_X1_17 : Cond.fieldLink RX1 17 "WatchLots$Diary" "count" "I" ∈ TW := tw_mem (in_tables_1_2 (List.mem_of_getElem? (i := 6) rfl)) rfl
theorem fl_X0_40 : Cond.fieldLink RX0 40 "WatchLots$Diary" "count" "I" ∈ TW := tw_mem (in_tables_1_2 (List.mem_of_getElem? (i := 7) rfl)) rfl
theorem fl_X11_157 : Cond.fieldLink RX11 157 "WatchLots$Diary" "count" "I" ∈ TW := tw_mem (in_tables_1_2 (List.mem_of_getElem? (i := 8) rfl)) rfl
theorem cl_X0_25 : Cond.classLink RX0 25 RX7 ∈ TW := tw_mem (in_tables_1_2 (List.mem_of_getElem? (i := 14) rfl)) rfl
theorem it_X7 : Cond.instantiable RX7 4 ∈ TW := tw_mem (in_tables_1_2 (List.mem_of_getElem? (i := 15) rfl)) rfl
theorem ml_X0_27 : Cond.methodLink RX0 27 yX7_init ∈ TW := tw_mem (in_tables_1_2 (List.mem_of_getElem? (i := 16) rfl)) rfl
theorem im_X7_init : Cond.instanceMethod yX7_init ∈ TW := tw_mem (in_tables_1_2 (List.mem_of_getElem? (i := 17) rfl)) rfl
theorem co_X7_init : Cond.code yX7_init cX7_init 1 none ∈ TW := tw_mem (in_tables_1_2 (List.mem_of_getElem? (i := 18) rfl)) rfl
theorem ml_X7_3 : Cond.methodLink RX7 3 objectInit ∈ TW := tw_mem (in_tables_1_2 (List.mem_of_getElem? (i := 19) rfl)) rfl
theorem fl_X7_9 : Cond.fieldLink RX7 9 "WatchLots$Told" "people" "[I" ∈ TW := tw_mem (in_tables_1_2 (List.mem_of_getElem? (i := 20) rfl)) rfl
theorem fl_X7_15 : Cond.fieldLink RX7 15 "WatchLots$Told" "nights" "[I" ∈ TW := tw_mem (in_tables_1_2 (List.mem_of_getElem? (i := 21) rfl)) rfl
theorem fl_X7_18 : Cond.fieldLink RX7 18 "WatchLots$Told" "wasSeen" "[I" ∈ TW := tw_mem (in_tables_1_2 (List.mem_of_getElem? (i := 22) rfl)) rfl
theorem fl_X7_21 : Cond.fieldLink RX7 21 "WatchLots$Told" "count" "I" ∈ TW := tw_mem (in_tables_1_2 (List.mem_of_getElem? (i := 23) rfl)) rfl
theorem fl_X0_44 : Cond.fieldLink RX0 44 "WatchLots$Told" "count" "I" ∈ TW := tw_mem (in_tables_1_2 (List.mem_of_getElem? (i := 24) rfl)) rfl
theorem fl_X11_166 : Cond.fieldLink RX11 166 "WatchLots$Told" "count" "I" ∈ TW := tw_mem (in_tables_1_2 (List.mem_of_getElem? (i := 25) rfl)) rfl
theorem fl_X0_12 : Cond.fieldLink RX0 12 "WatchLots$Book" "town" "LWatchLots$Town;" ∈ TW := tw_mem (in_tables_1_2 (List.mem_of_getElem? (i := 35) rfl)) rfl
theorem fl_X11_119 : Cond.fieldLink RX11 119 "WatchLots$Book" "town" "LWatchLots$Town;" ∈ TW := tw_mem (in_tables_1_2 (List.mem_of_getElem? (i := 36) rfl)) rfl
theorem fl_X0_21 : Cond.fieldLink RX0 21 "WatchLots$Book" "diary" "LWatchLots$Diary;" ∈ TW := tw_mem (in_tables_1_2 (List.mem_of_getElem? (i := 37) rfl)) rfl
theorem fl_X11_153 : Cond.fieldLink RX11 153 "WatchLots$Book" "diary" "LWatchLots$Diary;" ∈ TW := tw_mem (in_tables_1_2 (List.mem_of_getElem? (i := 38) rfl)) rfl
theorem fl_X0_28 : Cond.fieldLink RX0 28 "WatchLots$Book" "told" "LWatchLots$Told;" ∈ TW := tw_mem (in_tables_1_2 (List.mem_of_getElem? (i := 39) rfl)) rfl
theorem fl_X11_162 : Cond.fieldLink RX11 162 "WatchLots$Book" "told" "LWatchLots$Told;" ∈ TW := tw_mem (in_tables_1_2 (List.mem_of_getElem? (i := 40) rfl)) rfl
theorem fl_X0_32 : Cond.fieldLink RX0 32 "WatchLots$Book" "status" "[I" ∈ TW := tw_mem (in_tables_1_2 (List.mem_of_getElem? (i := 41) rfl)) rfl
theorem fl_X11_169 : Cond.fieldLink RX11 169 "WatchLots$Book" "status" "[I" ∈ TW := tw_mem (in_tables_1_2 (List.mem_of_getElem? (i := 42) rfl)) rfl
theorem cl_X11_41 : Cond.classLink RX11 41 RX8 ∈ TW := tw_mem (in_tables_1_2 (List.mem_of_getElem? (i := 52) rfl)) rfl
theorem ml_X11_43 : Cond.methodLink RX11 43 yX8_init ∈ TW := tw_mem (in_tables_1_2 (List.mem_of_getElem? (i := 53) rfl)) rfl
theorem cl_X11_48 : Cond.classLink RX11 48 RX6 ∈ TW := tw_mem (in_tables_1_2 (List.mem_of_getElem? (i := 54) rfl)) rfl
theorem it_X6 : Cond.instantiable RX6 6 ∈ TW := tw_mem (in_tables_1_2 (List.mem_of_getElem? (i := 55) rfl)) rfl
theorem ml_X11_50 : Cond.methodLink RX11 50 yX6_init ∈ TW := tw_mem (in_tables_1_2 (List.mem_of_getElem? (i := 56) rfl)) rfl
theorem im_X6_init : Cond.instanceMethod yX6_init ∈ TW := tw_mem (in_tables_1_2 (List.mem_of_getElem? (i := 57) rfl)) rfl
theorem co_X6_init : Cond.code yX6_init cX6_init 1 none ∈ TW := tw_mem (in_tables_1_2 (List.mem_of_getElem? (i := 58) rfl)) rfl
theorem ml_X6_3 : Cond.methodLink RX6 3 objectInit ∈ TW := tw_mem (in_tables_1_2 (List.mem_of_getElem? (i := 59) rfl)) rfl
theorem fl_X6_9 : Cond.fieldLink RX6 9 "WatchLots$Sale" "hours" "[I" ∈ TW := tw_mem (in_tables_1_2 (List.mem_of_getElem? (i := 60) rfl)) rfl
theorem fl_X6_17 : Cond.fieldLink RX6 17 "WatchLots$Sale" "values" "[I" ∈ TW := tw_mem (in_tables_1_2 (List.mem_of_getElem? (i := 61) rfl)) rfl
theorem fl_X6_20 : Cond.fieldLink RX6 20 "WatchLots$Sale" "buyers" "[I" ∈ TW := tw_mem (in_tables_1_2 (List.mem_of_getElem? (i := 62) rfl)) rfl
theorem fl_X11_246 : Cond.fieldLink RX11 246 "WatchLots$Sale" "buyers" "[I" ∈ TW := tw_mem (in_tables_1_2 (List.mem_of_getElem? (i := 63) rfl)) rfl
theorem fl_X6_23 : Cond.fieldLink RX6 23 "WatchLots$Sale" "prices" "[I" ∈ TW := tw_mem (in_tables_1_2 (List.mem_of_getElem? (i := 64) rfl)) rfl
theorem fl_X11_249 : Cond.fieldLink RX11 249 "WatchLots$Sale" "prices" "[I" ∈ TW := tw_mem (in_tables_1_2 (List.mem_of_getElem? (i := 65) rfl)) rfl
theorem fl_X6_26 : Cond.fieldLink RX6 26 "WatchLots$Sale" "lotCount" "I" ∈ TW := tw_mem (in_tables_1_2 (List.mem_of_getElem? (i := 66) rfl)) rfl
theorem fl_X6_30 : Cond.fieldLink RX6 30 "WatchLots$Sale" "bought" "I" ∈ TW := tw_mem (in_tables_1_2 (List.mem_of_getElem? (i := 67) rfl)) rfl
theorem fl_X11_352 : Cond.fieldLink RX11 352 "WatchLots$Sale" "bought" "I" ∈ TW := tw_mem (in_tables_1_2 (List.mem_of_getElem? (i := 68) rfl)) rfl
theorem cl_X11_55 : Cond.classLink RX11 55 RX3 ∈ TW := tw_mem (in_tables_1_2 (List.mem_of_getElem? (i := 82) rfl)) rfl
theorem it_X3 : Cond.instantiable RX3 3 ∈ TW := tw_mem (in_tables_1_2 (List.mem_of_getElem? (i := 83) rfl)) rfl
theorem ml_X11_57 : Cond.methodLink RX11 57 yX3_init ∈ TW := tw_mem (in_tables_1_2 (List.mem_of_getElem? (i := 84) rfl)) rfl
theorem im_X3_init : Cond.instanceMethod yX3_init ∈ TW := tw_mem (in_tables_1_2 (List.mem_of_getElem? (i := 85) rfl)) rfl
theorem co_X3_init : Cond.code yX3_init cX3_init 1 none ∈ TW := tw_mem (in_tables_1_2 (List.mem_of_getElem? (i := 86) rfl)) rfl
theorem ml_X3_3 : Cond.methodLink RX3 3 objectInit ∈ TW := tw_mem (in_tables_1_2 (List.mem_of_getElem? (i := 87) rfl)) rfl
theorem fl_X3_9 : Cond.fieldLink RX3 9 "WatchLots$Gifts" "bids" "[I" ∈ TW := tw_mem (in_tables_1_2 (List.mem_of_getElem? (i := 88) rfl)) rfl
theorem fl_X3_15 : Cond.fieldLink RX3 15 "WatchLots$Gifts" "best" "[I" ∈ TW := tw_mem (in_tables_1_2 (List.mem_of_getElem? (i := 89) rfl)) rfl
theorem fl_X3_18 : Cond.fieldLink RX3 18 "WatchLots$Gifts" "takers" "[I" ∈ TW := tw_mem (in_tables_1_2 (List.mem_of_getElem? (i := 90) rfl)) rfl
theorem fl_X11_290 : Cond.fieldLink RX11 290 "WatchLots$Gifts" "takers" "[I" ∈ TW := tw_mem (in_tables_1_2 (List.mem_of_getElem? (i := 91) rfl)) rfl
theorem cl_X11_62 : Cond.classLink RX11 62 RX4 ∈ TW := tw_mem (in_tables_1_2 (List.mem_of_getElem? (i := 99) rfl)) rfl
theorem it_X4 : Cond.instantiable RX4 5 ∈ TW := tw_mem (in_tables_1_2 (List.mem_of_getElem? (i := 100) rfl)) rfl
theorem ml_X11_64 : Cond.methodLink RX11 64 yX4_init ∈ TW := tw_mem (in_tables_1_2 (List.mem_of_getElem? (i := 101) rfl)) rfl
theorem im_X4_init : Cond.instanceMethod yX4_init ∈ TW := tw_mem (in_tables_1_2 (List.mem_of_getElem? (i := 102) rfl)) rfl
theorem co_X4_init : Cond.code yX4_init cX4_init 1 none ∈ TW := tw_mem (in_tables_1_2 (List.mem_of_getElem? (i := 103) rfl)) rfl
theorem ml_X4_3 : Cond.methodLink RX4 3 objectInit ∈ TW := tw_mem (in_tables_1_2 (List.mem_of_getElem? (i := 104) rfl)) rfl
theorem fl_X4_9 : Cond.fieldLink RX4 9 "WatchLots$Guess" "nightsSeen" "[I" ∈ TW := tw_mem (in_tables_1_2 (List.mem_of_getElem? (i := 105) rfl)) rfl
theorem fl_X4_15 : Cond.fieldLink RX4 15 "WatchLots$Guess" "marks" "[I" ∈ TW := tw_mem (in_tables_1_2 (List.mem_of_getElem? (i := 106) rfl)) rfl
theorem fl_X4_18 : Cond.fieldLink RX4 18 "WatchLots$Guess" "count" "I" ∈ TW := tw_mem (in_tables_1_2 (List.mem_of_getElem? (i := 107) rfl)) rfl
theorem fl_X11_324 : Cond.fieldLink RX11 324 "WatchLots$Guess" "count" "I" ∈ TW := tw_mem (in_tables_1_2 (List.mem_of_getElem? (i := 108) rfl)) rfl
theorem fl_X4_22 : Cond.fieldLink RX4 22 "WatchLots$Guess" "first" "I" ∈ TW := tw_mem (in_tables_1_2 (List.mem_of_getElem? (i := 109) rfl)) rfl
theorem fl_X11_325 : Cond.fieldLink RX11 325 "WatchLots$Guess" "first" "I" ∈ TW := tw_mem (in_tables_1_2 (List.mem_of_getElem? (i := 110) rfl)) rfl
theorem fl_X4_25 : Cond.fieldLink RX4 25 "WatchLots$Guess" "without" "Z" ∈ TW := tw_mem (in_tables_1_2 (List.mem_of_getElem? (i := 111) rfl)) rfl
theorem fl_X11_321 : Cond.fieldLink RX11 321 "WatchLots$Guess" "without" "Z" ∈ TW := tw_mem (in_tables_1_2 (List.mem_of_getElem? (i := 112) rfl)) rfl
theorem cl_X11_69 : Cond.classLink RX11 69 RX2 ∈ TW := tw_mem (in_tables_1_2 (List.mem_of_getElem? (i := 124) rfl)) rfl
theorem it_X2 : Cond.instantiable RX2 1 ∈ TW := tw_mem (in_tables_1_2 (List.mem_of_getElem? (i := 125) rfl)) rfl
theorem ml_X11_71 : Cond.methodLink RX11 71 yX2_init ∈ TW := tw_mem (in_tables_1_2 (List.mem_of_getElem? (i := 126) rfl)) rfl
theorem im_X2_init : Cond.instanceMethod yX2_init ∈ TW := tw_mem (in_tables_1_2 (List.mem_of_getElem? (i := 127) rfl)) rfl
theorem co_X2_init : Cond.code yX2_init cX2_init 1 none ∈ TW := tw_mem (in_tables_1_2 (List.mem_of_getElem? (i := 128) rfl)) rfl
theorem ml_X2_1 : Cond.methodLink RX2 1 objectInit ∈ TW := tw_mem (in_tables_1_2 (List.mem_of_getElem? (i := 129) rfl)) rfl
theorem fl_X2_7 : Cond.fieldLink RX2 7 "WatchLots$Dice" "seed" "I" ∈ TW := tw_mem (in_tables_1_2 (List.mem_of_getElem? (i := 130) rfl)) rfl
theorem fl_X11_12 : Cond.fieldLink RX11 12 "WatchLots" "reader" "LWatchLots$Reader;" ∈ TW := tw_mem (in_tables_1_2 (List.mem_of_getElem? (i := 134) rfl)) rfl
theorem fl_X11_19 : Cond.fieldLink RX11 19 "WatchLots" "plan" "LWatchLots$Ward;" ∈ TW := tw_mem (in_tables_1_2 (List.mem_of_getElem? (i := 135) rfl)) rfl
theorem fl_X11_23 : Cond.fieldLink RX11 23 "WatchLots" "faultPlace" "I" ∈ TW := tw_mem (in_tables_1_2 (List.mem_of_getElem? (i := 136) rfl)) rfl
theorem fl_X11_30 : Cond.fieldLink RX11 30 "WatchLots" "book" "LWatchLots$Book;" ∈ TW := tw_mem (in_tables_1_2 (List.mem_of_getElem? (i := 137) rfl)) rfl
theorem fl_X11_34 : Cond.fieldLink RX11 34 "WatchLots" "kept" "LWatchLots$Book;" ∈ TW := tw_mem (in_tables_1_2 (List.mem_of_getElem? (i := 138) rfl)) rfl
theorem fl_X11_37 : Cond.fieldLink RX11 37 "WatchLots" "isKept" "Z" ∈ TW := tw_mem (in_tables_1_2 (List.mem_of_getElem? (i := 139) rfl)) rfl
theorem fl_X11_44 : Cond.fieldLink RX11 44 "WatchLots" "later" "LWatchLots$Town;" ∈ TW := tw_mem (in_tables_1_2 (List.mem_of_getElem? (i := 140) rfl)) rfl
theorem fl_X11_51 : Cond.fieldLink RX11 51 "WatchLots" "sale" "LWatchLots$Sale;" ∈ TW := tw_mem (in_tables_1_2 (List.mem_of_getElem? (i := 141) rfl)) rfl
theorem fl_X11_58 : Cond.fieldLink RX11 58 "WatchLots" "gifts" "LWatchLots$Gifts;" ∈ TW := tw_mem (in_tables_1_2 (List.mem_of_getElem? (i := 142) rfl)) rfl
theorem fl_X11_65 : Cond.fieldLink RX11 65 "WatchLots" "guess" "LWatchLots$Guess;" ∈ TW := tw_mem (in_tables_1_2 (List.mem_of_getElem? (i := 143) rfl)) rfl
theorem fl_X11_72 : Cond.fieldLink RX11 72 "WatchLots" "dice" "LWatchLots$Dice;" ∈ TW := tw_mem (in_tables_1_2 (List.mem_of_getElem? (i := 144) rfl)) rfl
theorem fl_X11_76 : Cond.fieldLink RX11 76 "WatchLots" "losses" "[I" ∈ TW := tw_mem (in_tables_1_2 (List.mem_of_getElem? (i := 145) rfl)) rfl
theorem fl_X11_80 : Cond.fieldLink RX11 80 "WatchLots" "otherLosses" "[I" ∈ TW := tw_mem (in_tables_1_2 (List.mem_of_getElem? (i := 146) rfl)) rfl
theorem ml_L_117 : Cond.methodLink RL 117 yX11_feed ∈ TW := tw_mem (in_tables_1_2 (List.mem_of_getElem? (i := 174) rfl)) rfl
theorem im_X11_feed : Cond.instanceMethod yX11_feed ∈ TW := tw_mem (in_tables_1_2 (List.mem_of_getElem? (i := 175) rfl)) rfl
theorem se_X11_feed : Cond.selects RX11 yX11_feed yX11_feed ∈ TW := tw_mem (in_tables_1_2 (List.mem_of_getElem? (i := 176) rfl)) rfl
theorem co_X11_feed : Cond.code yX11_feed cX11_feed 6 (some .int) ∈ TW := tw_mem (in_tables_1_2 (List.mem_of_getElem? (i := 177) rfl)) rfl
theorem ml_X11_86 : Cond.methodLink RX11 86 yX5_append ∈ TW := tw_mem (in_tables_1_2 (List.mem_of_getElem? (i := 178) rfl)) rfl
theorem im_X5_append : Cond.instanceMethod yX5_append ∈ TW := tw_mem (in_tables_1_2 (List.mem_of_getElem? (i := 179) rfl)) rfl
theorem se_X5_append : Cond.selects RX5 yX5_append yX5_append ∈ TW := tw_mem (in_tables_1_2 (List.mem_of_getElem? (i := 180) rfl)) rfl
theorem co_X5_append : Cond.code yX5_append cX5_append 3 none ∈ TW := tw_mem (in_tables_1_2 (List.mem_of_getElem? (i := 181) rfl)) rfl
theorem ml_L_132 : Cond.methodLink RL 132 yX11_fault ∈ TW := tw_mem (in_tables_1_2 (List.mem_of_getElem? (i := 183) rfl)) rfl
theorem im_X11_fault : Cond.instanceMethod yX11_fault ∈ TW := tw_mem (in_tables_1_2 (List.mem_of_getElem? (i := 184) rfl)) rfl
theorem se_X11_fault : Cond.selects RX11 yX11_fault yX11_fault ∈ TW := tw_mem (in_tables_1_2 (List.mem_of_getElem? (i := 185) rfl)) rfl
theorem co_X11_fault : Cond.code yX11_fault cX11_fault 1 (some .int) ∈ TW := tw_mem (in_tables_1_2 (List.mem_of_getElem? (i := 186) rfl)) rfl
theorem ml_L_149 : Cond.methodLink RL 149 yX11_nights ∈ TW := tw_mem (in_tables_1_2 (List.mem_of_getElem? (i := 187) rfl)) rfl
theorem im_X11_nights : Cond.instanceMethod yX11_nights ∈ TW := tw_mem (in_tables_1_2 (List.mem_of_getElem? (i := 188) rfl)) rfl
theorem se_X11_nights : Cond.selects RX11 yX11_nights yX11_nights ∈ TW := tw_mem (in_tables_1_2 (List.mem_of_getElem? (i := 189) rfl)) rfl
theorem co_X11_nights : Cond.code yX11_nights cX11_nights 3 (some .int) ∈ TW := tw_mem (in_tables_1_2 (List.mem_of_getElem? (i := 190) rfl)) rfl
theorem ml_X11_104 : Cond.methodLink RX11 104 yX0_refuse ∈ TW := tw_mem (in_tables_1_2 (List.mem_of_getElem? (i := 191) rfl)) rfl
theorem im_X0_refuse : Cond.instanceMethod yX0_refuse ∈ TW := tw_mem (in_tables_1_2 (List.mem_of_getElem? (i := 192) rfl)) rfl
theorem se_X0_refuse : Cond.selects RX0 yX0_refuse yX0_refuse ∈ TW := tw_mem (in_tables_1_2 (List.mem_of_getElem? (i := 193) rfl)) rfl
theorem co_X0_refuse : Cond.code yX0_refuse cX0_refuse 2 (some .int) ∈ TW := tw_mem (in_tables_1_2 (List.mem_of_getElem? (i := 194) rfl)) rfl
theorem sm_X11_at : Cond.static yX11_at ∈ TW := tw_mem (in_tables_1_2 (List.mem_of_getElem? (i := 196) rfl)) rfl
theorem co_X11_at : Cond.code yX11_at cX11_at 2 (some .int) ∈ TW := tw_mem (in_tables_1_2 (List.mem_of_getElem? (i := 197) rfl)) rfl
theorem ml_X11_211 : Cond.methodLink RX11 211 yX0_keepAct ∈ TW := tw_mem (in_tables_1_2 (List.mem_of_getElem? (i := 199) rfl)) rfl
theorem im_X0_keepAct : Cond.instanceMethod yX0_keepAct ∈ TW := tw_mem (in_tables_1_2 (List.mem_of_getElem? (i := 200) rfl)) rfl
theorem se_X0_keepAct : Cond.selects RX0 yX0_keepAct yX0_keepAct ∈ TW := tw_mem (in_tables_1_2 (List.mem_of_getElem? (i := 201) rfl)) rfl
theorem co_X0_keepAct : Cond.code yX0_keepAct cX0_keepAct 1 none ∈ TW := tw_mem (in_tables_1_2 (List.mem_of_getElem? (i := 202) rfl)) rfl
theorem ml_X0_45 : Cond.methodLink RX0 45 yX1_add ∈ TW := tw_mem (in_tables_1_2 (List.mem_of_getElem? (i := 203) rfl)) rfl
theorem im_X1_add : Cond.instanceMethod yX1_add ∈ TW := tw_mem (in_tables_1_2 (List.mem_of_getElem? (i := 204) rfl)) rfl
theorem se_X1_add : Cond.selects RX1 yX1_add yX1_add ∈ TW := tw_mem (in_tables_1_2 (List.mem_of_getElem? (i := 205) rfl)) rfl
theorem co_X1_add : Cond.code yX1_add cX1_add 2 none ∈ TW := tw_mem (in_tables_1_2 (List.mem_of_getElem? (i := 206) rfl)) rfl
theorem ml_X1_21 : Cond.methodLink RX1 21 yX1_dropOldest ∈ TW := tw_mem (in_tables_1_2 (List.mem_of_getElem? (i := 207) rfl)) rfl
theorem im_X1_dropOldest : Cond.instanceMethod yX1_dropOldest ∈ TW := tw_mem (in_tables_1_2 (List.mem_of_getElem? (i := 209) rfl)) rfl
theorem co_X1_dropOldest : Cond.code yX1_dropOldest cX1_dropOldest 2 none ∈ TW := tw_mem (in_tables_1_2 (List.mem_of_getElem? (i := 210) rfl)) rfl
theorem ml_X1_24 : Cond.methodLink RX1 24 yX8_writeTo ∈ TW := tw_mem (in_tables_1_2 (List.mem_of_getElem? (i := 211) rfl)) rfl
theorem im_X8_writeTo : Cond.instanceMethod yX8_writeTo ∈ TW := tw_mem (in_tables_1_2 (List.mem_of_getElem? (i := 212) rfl)) rfl
theorem se_X8_writeTo : Cond.selects RX8 yX8_writeTo yX8_writeTo ∈ TW := tw_mem (in_tables_1_2 (List.mem_of_getElem? (i := 213) rfl)) rfl
theorem co_X8_writeTo : Cond.code yX8_writeTo cX8_writeTo 4 none ∈ TW := tw_mem (in_tables_1_2 (List.mem_of_getElem? (i := 214) rfl)) rfl
theorem ml_X11_137 : Cond.methodLink RX11 137 yX9_fogOf ∈ TW := tw_mem (in_tables_1_2 (List.mem_of_getElem? (i := 217) rfl)) rfl
theorem im_X9_fogOf : Cond.instanceMethod yX9_fogOf ∈ TW := tw_mem (in_tables_1_2 (List.mem_of_getElem? (i := 218) rfl)) rfl
theorem se_X9_fogOf : Cond.selects RX9 yX9_fogOf yX9_fogOf ∈ TW := tw_mem (in_tables_1_2 (List.mem_of_getElem? (i := 219) rfl)) rfl
theorem co_X9_fogOf : Cond.code yX9_fogOf cX9_fogOf 2 (some .int) ∈ TW := tw_mem (in_tables_1_2 (List.mem_of_getElem? (i := 220) rfl)) rfl
theorem ml_X11_214 : Cond.methodLink RX11 214 yX6_pass ∈ TW := tw_mem (in_tables_1_2 (List.mem_of_getElem? (i := 222) rfl)) rfl
theorem im_X6_pass : Cond.instanceMethod yX6_pass ∈ TW := tw_mem (in_tables_1_2 (List.mem_of_getElem? (i := 223) rfl)) rfl
theorem se_X6_pass : Cond.selects RX6 yX6_pass yX6_pass ∈ TW := tw_mem (in_tables_1_2 (List.mem_of_getElem? (i := 224) rfl)) rfl
theorem co_X6_pass : Cond.code yX6_pass cX6_pass 5 none ∈ TW := tw_mem (in_tables_1_2 (List.mem_of_getElem? (i := 225) rfl)) rfl
theorem ml_X6_136 : Cond.methodLink RX6 136 yX6_open ∈ TW := tw_mem (in_tables_1_2 (List.mem_of_getElem? (i := 226) rfl)) rfl
theorem im_X6_open : Cond.instanceMethod yX6_open ∈ TW := tw_mem (in_tables_1_2 (List.mem_of_getElem? (i := 227) rfl)) rfl
theorem se_X6_open : Cond.selects RX6 yX6_open yX6_open ∈ TW := tw_mem (in_tables_1_2 (List.mem_of_getElem? (i := 228) rfl)) rfl
theorem co_X6_open : Cond.code yX6_open cX6_open 7 none ∈ TW := tw_mem (in_tables_1_2 (List.mem_of_getElem? (i := 229) rfl)) rfl
theorem ml_X6_38 : Cond.methodLink RX6 38 yX8_isBribing ∈ TW := tw_mem (in_tables_1_2 (List.mem_of_getElem? (i := 230) rfl)) rfl
theorem im_X8_isBribing : Cond.instanceMethod yX8_isBribing ∈ TW := tw_mem (in_tables_1_2 (List.mem_of_getElem? (i := 231) rfl)) rfl
theorem se_X8_isBribing : Cond.selects RX8 yX8_isBribing yX8_isBribing ∈ TW := tw_mem (in_tables_1_2 (List.mem_of_getElem? (i := 232) rfl)) rfl
theorem co_X8_isBribing : Cond.code yX8_isBribing cX8_isBribing 2 (some .boolean) ∈ TW := tw_mem (in_tables_1_2 (List.mem_of_getElem? (i := 233) rfl)) rfl
theorem ml_X6_54 : Cond.methodLink RX6 54 yX9_hoursMet ∈ TW := tw_mem (in_tables_1_2 (List.mem_of_getElem? (i := 235) rfl)) rfl
theorem im_X9_hoursMet : Cond.instanceMethod yX9_hoursMet ∈ TW := tw_mem (in_tables_1_2 (List.mem_of_getElem? (i := 236) rfl)) rfl
theorem se_X9_hoursMet : Cond.selects RX9 yX9_hoursMet yX9_hoursMet ∈ TW := tw_mem (in_tables_1_2 (List.mem_of_getElem? (i := 237) rfl)) rfl
theorem co_X9_hoursMet : Cond.code yX9_hoursMet cX9_hoursMet 6 (some .int) ∈ TW := tw_mem (in_tables_1_2 (List.mem_of_getElem? (i := 238) rfl)) rfl
theorem ml_X9_75 : Cond.methodLink RX9 75 yX9_watchAt ∈ TW := tw_mem (in_tables_1_2 (List.mem_of_getElem? (i := 239) rfl)) rfl
theorem im_X9_watchAt : Cond.instanceMethod yX9_watchAt ∈ TW := tw_mem (in_tables_1_3 (List.mem_of_getElem? (i := 0) rfl)) rfl
theorem se_X9_watchAt : Cond.selects RX9 yX9_watchAt yX9_watchAt ∈ TW := tw_mem (in_tables_1_3 (List.mem_of_getElem? (i := 1) rfl)) rfl
theorem co_X9_watchAt : Cond.code yX9_watchAt cX9_watchAt 3 (some .int) ∈ TW := tw_mem (in_tables_1_3 (List.mem_of_getElem? (i := 2) rfl)) rfl
theorem ml_X9_79 : Cond.methodLink RX9 79 yX9_placeAt ∈ TW := tw_mem (in_tables_1_3 (List.mem_of_getElem? (i := 3) rfl)) rfl
theorem im_X9_placeAt : Cond.instanceMethod yX9_placeAt ∈ TW := tw_mem (in_tables_1_3 (List.mem_of_getElem? (i := 4) rfl)) rfl
theorem se_X9_placeAt : Cond.selects RX9 yX9_placeAt yX9_placeAt ∈ TW := tw_mem (in_tables_1_3 (List.mem_of_getElem? (i := 5) rfl)) rfl
theorem co_X9_placeAt : Cond.code yX9_placeAt cX9_placeAt 4 (some .int) ∈ TW := tw_mem (in_tables_1_3 (List.mem_of_getElem? (i := 6) rfl)) rfl
theorem sm_X11_streetIn : Cond.static yX11_streetIn ∈ TW := tw_mem (in_tables_1_3 (List.mem_of_getElem? (i := 8) rfl)) rfl
theorem co_X11_streetIn : Cond.code yX11_streetIn cX11_streetIn 2 (some .int) ∈ TW := tw_mem (in_tables_1_3 (List.mem_of_getElem? (i := 9) rfl)) rfl
theorem ml_X6_140 : Cond.methodLink RX6 140 yX6_sell ∈ TW := tw_mem (in_tables_1_3 (List.mem_of_getElem? (i := 11) rfl)) rfl
theorem im_X6_sell : Cond.instanceMethod yX6_sell ∈ TW := tw_mem (in_tables_1_3 (List.mem_of_getElem? (i := 12) rfl)) rfl
theorem se_X6_sell : Cond.selects RX6 yX6_sell yX6_sell ∈ TW := tw_mem (in_tables_1_3 (List.mem_of_getElem? (i := 13) rfl)) rfl
theorem co_X6_sell : Cond.code yX6_sell cX6_sell 9 none ∈ TW := tw_mem (in_tables_1_3 (List.mem_of_getElem? (i := 14) rfl)) rfl
theorem ml_X6_116 : Cond.methodLink RX6 116 yX6_hasLot ∈ TW := tw_mem (in_tables_1_3 (List.mem_of_getElem? (i := 15) rfl)) rfl
theorem im_X6_hasLot : Cond.instanceMethod yX6_hasLot ∈ TW := tw_mem (in_tables_1_3 (List.mem_of_getElem? (i := 16) rfl)) rfl
theorem se_X6_hasLot : Cond.selects RX6 yX6_hasLot yX6_hasLot ∈ TW := tw_mem (in_tables_1_3 (List.mem_of_getElem? (i := 17) rfl)) rfl
theorem co_X6_hasLot : Cond.code yX6_hasLot cX6_hasLot 2 (some .boolean) ∈ TW := tw_mem (in_tables_1_3 (List.mem_of_getElem? (i := 18) rfl)) rfl
theorem ml_X6_119 : Cond.methodLink RX6 119 yX6_bid ∈ TW := tw_mem (in_tables_1_3 (List.mem_of_getElem? (i := 19) rfl)) rfl
theorem im_X6_bid : Cond.instanceMethod yX6_bid ∈ TW := tw_mem (in_tables_1_3 (List.mem_of_getElem? (i := 20) rfl)) rfl
theorem se_X6_bid : Cond.selects RX6 yX6_bid yX6_bid ∈ TW := tw_mem (in_tables_1_3 (List.mem_of_getElem? (i := 21) rfl)) rfl
theorem co_X6_bid : Cond.code yX6_bid cX6_bid 6 (some .int) ∈ TW := tw_mem (in_tables_1_3 (List.mem_of_getElem? (i := 22) rfl)) rfl
theorem ml_X6_72 : Cond.methodLink RX6 72 yX10_isTold ∈ TW := tw_mem (in_tables_1_3 (List.mem_of_getElem? (i := 23) rfl)) rfl
theorem im_X10_isTold : Cond.instanceMethod yX10_isTold ∈ TW := tw_mem (in_tables_1_3 (List.mem_of_getElem? (i := 24) rfl)) rfl
theorem se_X10_isTold : Cond.selects RX10 yX10_isTold yX10_isTold ∈ TW := tw_mem (in_tables_1_3 (List.mem_of_getElem? (i := 25) rfl)) rfl
theorem co_X10_isTold : Cond.code yX10_isTold cX10_isTold 1 (some .boolean) ∈ TW := tw_mem (in_tables_1_3 (List.mem_of_getElem? (i := 26) rfl)) rfl
theorem ml_X6_76 : Cond.methodLink RX6 76 yX6_plainWorth ∈ TW := tw_mem (in_tables_1_3 (List.mem_of_getElem? (i := 27) rfl)) rfl
theorem im_X6_plainWorth : Cond.instanceMethod yX6_plainWorth ∈ TW := tw_mem (in_tables_1_3 (List.mem_of_getElem? (i := 29) rfl)) rfl
theorem co_X6_plainWorth : Cond.code yX6_plainWorth cX6_plainWorth 5 (some .int) ∈ TW := tw_mem (in_tables_1_3 (List.mem_of_getElem? (i := 30) rfl)) rfl
theorem ml_X6_97 : Cond.methodLink RX6 97 yJ6_bitCount_0f7a4 ∈ TW := tw_mem (in_tables_1_3 (List.mem_of_getElem? (i := 31) rfl)) rfl
theorem sm_J6_bitCount_0f7a4 : Cond.static yJ6_bitCount_0f7a4 ∈ TW := tw_mem (in_tables_1_3 (List.mem_of_getElem? (i := 32) rfl)) rfl
theorem co_J6_bitCount_0f7a4 : Cond.code yJ6_bitCount_0f7a4 cJ6_bitCount_0f7a4 1 (some .int) ∈ TW := tw_mem (in_tables_1_3 (List.mem_of_getElem? (i := 33) rfl)) rfl
theorem kc_J6_265 : Cond.constant RJ6 265 (1431655765) ∈ TW := tw_mem (in_tables_1_3 (List.mem_of_getElem? (i := 34) rfl)) rfl
theorem kc_J6_266 : Cond.constant RJ6 266 (858993459) ∈ TW := tw_mem (in_tables_1_3 (List.mem_of_getElem? (i := 35) rfl)) rfl
theorem kc_J6_267 : Cond.constant RJ6 267 (252645135) ∈ TW := tw_mem (in_tables_1_3 (List.mem_of_getElem? (i := 36) rfl)) rfl
theorem ml_X6_103 : Cond.methodLink RX6 103 yX8_doesKnow ∈ TW := tw_mem (in_tables_1_3 (List.mem_of_getElem? (i := 37) rfl)) rfl
theorem im_X8_doesKnow : Cond.instanceMethod yX8_doesKnow ∈ TW := tw_mem (in_tables_1_3 (List.mem_of_getElem? (i := 38) rfl)) rfl
theorem se_X8_doesKnow : Cond.selects RX8 yX8_doesKnow yX8_doesKnow ∈ TW := tw_mem (in_tables_1_3 (List.mem_of_getElem? (i := 39) rfl)) rfl
theorem co_X8_doesKnow : Cond.code yX8_doesKnow cX8_doesKnow 3 (some .boolean) ∈ TW := tw_mem (in_tables_1_3 (List.mem_of_getElem? (i := 40) rfl)) rfl
theorem ml_X6_80 : Cond.methodLink RX6 80 yJ9_min_7cf53 ∈ TW := tw_mem (in_tables_1_3 (List.mem_of_getElem? (i := 41) rfl)) rfl
theorem sm_J9_min_7cf53 : Cond.static yJ9_min_7cf53 ∈ TW := tw_mem (in_tables_1_3 (List.mem_of_getElem? (i := 42) rfl)) rfl
theorem co_J9_min_7cf53 : Cond.code yJ9_min_7cf53 cJ9_min_7cf53 2 (some .int) ∈ TW := tw_mem (in_tables_1_3 (List.mem_of_getElem? (i := 43) rfl)) rfl
theorem ml_X6_86 : Cond.methodLink RX6 86 yJ9_max_7cf53 ∈ TW := tw_mem (in_tables_1_3 (List.mem_of_getElem? (i := 44) rfl)) rfl
theorem sm_J9_max_7cf53 : Cond.static yJ9_max_7cf53 ∈ TW := tw_mem (in_tables_1_3 (List.mem_of_getElem? (i := 45) rfl)) rfl
theorem co_J9_max_7cf53 : Cond.code yJ9_max_7cf53 cJ9_max_7cf53 2 (some .int) ∈ TW := tw_mem (in_tables_1_3 (List.mem_of_getElem? (i := 46) rfl)) rfl
theorem ml_X6_89 : Cond.methodLink RX6 89 yX6_putValues ∈ TW := tw_mem (in_tables_1_3 (List.mem_of_getElem? (i := 47) rfl)) rfl
theorem im_X6_putValues : Cond.instanceMethod yX6_putValues ∈ TW := tw_mem (in_tables_1_3 (List.mem_of_getElem? (i := 49) rfl)) rfl
theorem co_X6_putValues : Cond.code yX6_putValues cX6_putValues 7 none ∈ TW := tw_mem (in_tables_1_3 (List.mem_of_getElem? (i := 50) rfl)) rfl
theorem ml_X6_107 : Cond.methodLink RX6 107 yJ6_numberOfTrailingZeros_0f7a4 ∈ TW := tw_mem (in_tables_1_3 (List.mem_of_getElem? (i := 51) rfl)) rfl
theorem sm_J6_numberOfTrailingZeros_0f7a4 : Cond.static yJ6_numberOfTrailingZeros_0f7a4 ∈ TW := tw_mem (in_tables_1_3 (List.mem_of_getElem? (i := 52) rfl)) rfl
theorem co_J6_numberOfTrailingZeros_0f7a4 : Cond.code yJ6_numberOfTrailingZeros_0f7a4 cJ6_numberOfTrailingZeros_0f7a4 2 (some .int) ∈ TW := tw_mem (in_tables_1_3 (List.mem_of_getElem? (i := 53) rfl)) rfl
theorem kc_J6_264 : Cond.constant RJ6 264 (65536) ∈ TW := tw_mem (in_tables_1_3 (List.mem_of_getElem? (i := 54) rfl)) rfl
theorem ml_X6_110 : Cond.methodLink RX6 110 yX9_placeAt ∈ TW := tw_mem (in_tables_1_3 (List.mem_of_getElem? (i := 55) rfl)) rfl
theorem ml_X6_93 : Cond.methodLink RX6 93 yX10_of ∈ TW := tw_mem (in_tables_1_3 (List.mem_of_getElem? (i := 57) rfl)) rfl
theorem im_X10_of : Cond.instanceMethod yX10_of ∈ TW := tw_mem (in_tables_1_3 (List.mem_of_getElem? (i := 58) rfl)) rfl
theorem se_X10_of : Cond.selects RX10 yX10_of yX10_of ∈ TW := tw_mem (in_tables_1_3 (List.mem_of_getElem? (i := 59) rfl)) rfl
theorem co_X10_of : Cond.code yX10_of cX10_of 5 (some .int) ∈ TW := tw_mem (in_tables_1_3 (List.mem_of_getElem? (i := 60) rfl)) rfl
theorem ml_X10_33 : Cond.methodLink RX10 33 yX10_push ∈ TW := tw_mem (in_tables_1_3 (List.mem_of_getElem? (i := 61) rfl)) rfl
theorem im_X10_push : Cond.instanceMethod yX10_push ∈ TW := tw_mem (in_tables_1_3 (List.mem_of_getElem? (i := 63) rfl)) rfl
theorem co_X10_push : Cond.code yX10_push cX10_push 2 none ∈ TW := tw_mem (in_tables_1_3 (List.mem_of_getElem? (i := 64) rfl)) rfl
theorem ml_X10_40 : Cond.methodLink RX10 40 yX10_pop ∈ TW := tw_mem (in_tables_1_3 (List.mem_of_getElem? (i := 67) rfl)) rfl
theorem im_X10_pop : Cond.instanceMethod yX10_pop ∈ TW := tw_mem (in_tables_1_3 (List.mem_of_getElem? (i := 69) rfl)) rfl
theorem co_X10_pop : Cond.code yX10_pop cX10_pop 1 (some .int) ∈ TW := tw_mem (in_tables_1_3 (List.mem_of_getElem? (i := 70) rfl)) rfl
theorem ml_X10_44 : Cond.methodLink RX10 44 yX10_joined ∈ TW := tw_mem (in_tables_1_3 (List.mem_of_getElem? (i := 71) rfl)) rfl
theorem sm_X10_joined : Cond.static yX10_joined ∈ TW := tw_mem (in_tables_1_3 (List.mem_of_getElem? (i := 72) rfl)) rfl
theorem co_X10_joined : Cond.code yX10_joined cX10_joined 3 (some .int) ∈ TW := tw_mem (in_tables_1_3 (List.mem_of_getElem? (i := 73) rfl)) rfl
theorem ml_X6_129 : Cond.methodLink RX6 129 yX6_handOver ∈ TW := tw_mem (in_tables_1_3 (List.mem_of_getElem? (i := 74) rfl)) rfl
theorem im_X6_handOver : Cond.instanceMethod yX6_handOver ∈ TW := tw_mem (in_tables_1_3 (List.mem_of_getElem? (i := 76) rfl)) rfl
theorem co_X6_handOver : Cond.code yX6_handOver cX6_handOver 5 none ∈ TW := tw_mem (in_tables_1_3 (List.mem_of_getElem? (i := 77) rfl)) rfl
theorem ml_L_163 : Cond.methodLink RL 163 yX11_reserve ∈ TW := tw_mem (in_tables_1_3 (List.mem_of_getElem? (i := 78) rfl)) rfl
theorem im_X11_reserve : Cond.instanceMethod yX11_reserve ∈ TW := tw_mem (in_tables_1_3 (List.mem_of_getElem? (i := 79) rfl)) rfl
theorem se_X11_reserve : Cond.selects RX11 yX11_reserve yX11_reserve ∈ TW := tw_mem (in_tables_1_3 (List.mem_of_getElem? (i := 80) rfl)) rfl
theorem co_X11_reserve : Cond.code yX11_reserve cX11_reserve 3 (some .int) ∈ TW := tw_mem (in_tables_1_3 (List.mem_of_getElem? (i := 81) rfl)) rfl
theorem ml_L_167 : Cond.methodLink RL 167 yX11_undo ∈ TW := tw_mem (in_tables_1_3 (List.mem_of_getElem? (i := 82) rfl)) rfl
theorem im_X11_undo : Cond.instanceMethod yX11_undo ∈ TW := tw_mem (in_tables_1_3 (List.mem_of_getElem? (i := 83) rfl)) rfl
theorem se_X11_undo : Cond.selects RX11 yX11_undo yX11_undo ∈ TW := tw_mem (in_tables_1_3 (List.mem_of_getElem? (i := 84) rfl)) rfl
theorem co_X11_undo : Cond.code yX11_undo cX11_undo 1 (some .int) ∈ TW := tw_mem (in_tables_1_3 (List.mem_of_getElem? (i := 85) rfl)) rfl
theorem ml_X11_232 : Cond.methodLink RX11 232 yX0_undoAct ∈ TW := tw_mem (in_tables_1_3 (List.mem_of_getElem? (i := 86) rfl)) rfl
theorem im_X0_undoAct : Cond.instanceMethod yX0_undoAct ∈ TW := tw_mem (in_tables_1_3 (List.mem_of_getElem? (i := 87) rfl)) rfl
theorem se_X0_undoAct : Cond.selects RX0 yX0_undoAct yX0_undoAct ∈ TW := tw_mem (in_tables_1_3 (List.mem_of_getElem? (i := 88) rfl)) rfl
theorem co_X0_undoAct : Cond.code yX0_undoAct cX0_undoAct 1 (some .boolean) ∈ TW := tw_mem (in_tables_1_3 (List.mem_of_getElem? (i := 89) rfl)) rfl
theorem ml_X0_49 : Cond.methodLink RX0 49 yX1_takeBack ∈ TW := tw_mem (in_tables_1_3 (List.mem_of_getElem? (i := 90) rfl)) rfl
theorem im_X1_takeBack : Cond.instanceMethod yX1_takeBack ∈ TW := tw_mem (in_tables_1_3 (List.mem_of_getElem? (i := 91) rfl)) rfl
theorem se_X1_takeBack : Cond.selects RX1 yX1_takeBack yX1_takeBack ∈ TW := tw_mem (in_tables_1_3 (List.mem_of_getElem? (i := 92) rfl)) rfl
theorem co_X1_takeBack : Cond.code yX1_takeBack cX1_takeBack 2 (some .boolean) ∈ TW := tw_mem (in_tables_1_3 (List.mem_of_getElem? (i := 93) rfl)) rfl
theorem ml_X1_28 : Cond.methodLink RX1 28 yX8_readFrom ∈ TW := tw_mem (in_tables_1_3 (List.mem_of_getElem? (i := 94) rfl)) rfl
theorem im_X8_readFrom : Cond.instanceMethod yX8_readFrom ∈ TW := tw_mem (in_tables_1_3 (List.mem_of_getElem? (i := 95) rfl)) rfl
theorem se_X8_readFrom : Cond.selects RX8 yX8_readFrom yX8_readFrom ∈ TW := tw_mem (in_tables_1_3 (List.mem_of_getElem? (i := 96) rfl)) rfl
theorem co_X8_readFrom : Cond.code yX8_readFrom cX8_readFrom 4 none ∈ TW := tw_mem (in_tables_1_3 (List.mem_of_getElem? (i := 97) rfl)) rfl
theorem ml_L_186 : Cond.methodLink RL 186 yX11_secret ∈ TW := tw_mem (in_tables_1_3 (List.mem_of_getElem? (i := 98) rfl)) rfl
theorem im_X11_secret : Cond.instanceMethod yX11_secret ∈ TW := tw_mem (in_tables_1_3 (List.mem_of_getElem? (i := 99) rfl)) rfl
theorem se_X11_secret : Cond.selects RX11 yX11_secret yX11_secret ∈ TW := tw_mem (in_tables_1_3 (List.mem_of_getElem? (i := 100) rfl)) rfl
theorem co_X11_secret : Cond.code yX11_secret cX11_secret 3 (some .int) ∈ TW := tw_mem (in_tables_1_3 (List.mem_of_getElem? (i := 101) rfl)) rfl
theorem ml_X11_252 : Cond.methodLink RX11 252 yX11_firstSeen ∈ TW := tw_mem (in_tables_1_3 (List.mem_of_getElem? (i := 102) rfl)) rfl
theorem im_X11_firstSeen : Cond.instanceMethod yX11_firstSeen ∈ TW := tw_mem (in_tables_1_3 (List.mem_of_getElem? (i := 104) rfl)) rfl
theorem co_X11_firstSeen : Cond.code yX11_firstSeen cX11_firstSeen 4 (some .int) ∈ TW := tw_mem (in_tables_1_3 (List.mem_of_getElem? (i := 105) rfl)) rfl
theorem ml_X11_172 : Cond.methodLink RX11 172 yX11_at ∈ TW := tw_mem (in_tables_1_3 (List.mem_of_getElem? (i := 106) rfl)) rfl
theorem ml_X11_200 : Cond.methodLink RX11 200 yX9_seenIn ∈ TW := tw_mem (in_tables_1_3 (List.mem_of_getElem? (i := 107) rfl)) rfl
theorem im_X9_seenIn : Cond.instanceMethod yX9_seenIn ∈ TW := tw_mem (in_tables_1_3 (List.mem_of_getElem? (i := 108) rfl)) rfl
theorem se_X9_seenIn : Cond.selects RX9 yX9_seenIn yX9_seenIn ∈ TW := tw_mem (in_tables_1_3 (List.mem_of_getElem? (i := 109) rfl)) rfl
theorem co_X9_seenIn : Cond.code yX9_seenIn cX9_seenIn 6 (some .int) ∈ TW := tw_mem (in_tables_1_3 (List.mem_of_getElem? (i := 110) rfl)) rfl
theorem ml_X9_90 : Cond.methodLink RX9 90 yX9_fogOf ∈ TW := tw_mem (in_tables_1_3 (List.mem_of_getElem? (i := 111) rfl)) rfl
theorem ml_X9_94 : Cond.methodLink RX9 94 yX8_isBribing ∈ TW := tw_mem (in_tables_1_3 (List.mem_of_getElem? (i := 112) rfl)) rfl
theorem ml_X9_98 : Cond.methodLink RX9 98 yX9_hoursMet ∈ TW := tw_mem (in_tables_1_3 (List.mem_of_getElem? (i := 113) rfl)) rfl
theorem ml_L_242 : Cond.methodLink RL 242 yX11_forget ∈ TW := tw_mem (in_tables_1_3 (List.mem_of_getElem? (i := 114) rfl)) rfl
theorem im_X11_forget : Cond.instanceMethod yX11_forget ∈ TW := tw_mem (in_tables_1_3 (List.mem_of_getElem? (i := 115) rfl)) rfl
theorem se_X11_forget : Cond.selects RX11 yX11_forget yX11_forget ∈ TW := tw_mem (in_tables_1_3 (List.mem_of_getElem? (i := 116) rfl)) rfl
theorem co_X11_forget : Cond.code yX11_forget cX11_forget 1 none ∈ TW := tw_mem (in_tables_1_3 (List.mem_of_getElem? (i := 117) rfl)) rfl
theorem ml_L_252 : Cond.methodLink RL 252 yX11_image ∈ TW := tw_mem (in_tables_1_3 (List.mem_of_getElem? (i := 118) rfl)) rfl
theorem im_X11_image : Cond.instanceMethod yX11_image ∈ TW := tw_mem (in_tables_1_3 (List.mem_of_getElem? (i := 119) rfl)) rfl
theorem se_X11_image : Cond.selects RX11 yX11_image yX11_image ∈ TW := tw_mem (in_tables_1_3 (List.mem_of_getElem? (i := 120) rfl)) rfl
theorem co_X11_image : Cond.code yX11_image cX11_image 1 none ∈ TW := tw_mem (in_tables_1_3 (List.mem_of_getElem? (i := 121) rfl)) rfl
theorem ml_X11_355 : Cond.methodLink RX11 355 yX0_copy ∈ TW := tw_mem (in_tables_1_3 (List.mem_of_getElem? (i := 122) rfl)) rfl
theorem im_X0_copy : Cond.instanceMethod yX0_copy ∈ TW := tw_mem (in_tables_1_3 (List.mem_of_getElem? (i := 123) rfl)) rfl
theorem se_X0_copy : Cond.selects RX0 yX0_copy yX0_copy ∈ TW := tw_mem (in_tables_1_3 (List.mem_of_getElem? (i := 124) rfl)) rfl
theorem co_X0_copy : Cond.code yX0_copy cX0_copy 2 none ∈ TW := tw_mem (in_tables_1_3 (List.mem_of_getElem? (i := 125) rfl)) rfl
theorem ml_X0_61 : Cond.methodLink RX0 61 yX8_copy ∈ TW := tw_mem (in_tables_1_3 (List.mem_of_getElem? (i := 126) rfl)) rfl
theorem im_X8_copy : Cond.instanceMethod yX8_copy ∈ TW := tw_mem (in_tables_1_3 (List.mem_of_getElem? (i := 127) rfl)) rfl
theorem se_X8_copy : Cond.selects RX8 yX8_copy yX8_copy ∈ TW := tw_mem (in_tables_1_3 (List.mem_of_getElem? (i := 128) rfl)) rfl
theorem co_X8_copy : Cond.code yX8_copy cX8_copy 2 none ∈ TW := tw_mem (in_tables_1_3 (List.mem_of_getElem? (i := 129) rfl)) rfl
theorem sm_X11_copyRow : Cond.static yX11_copyRow ∈ TW := tw_mem (in_tables_1_3 (List.mem_of_getElem? (i := 131) rfl)) rfl
theorem co_X11_copyRow : Cond.code yX11_copyRow cX11_copyRow 3 none ∈ TW := tw_mem (in_tables_1_3 (List.mem_of_getElem? (i := 132) rfl)) rfl
theorem ml_X0_64 : Cond.methodLink RX0 64 yX1_copy ∈ TW := tw_mem (in_tables_1_3 (List.mem_of_getElem? (i := 133) rfl)) rfl
theorem im_X1_copy : Cond.instanceMethod yX1_copy ∈ TW := tw_mem (in_tables_1_3 (List.mem_of_getElem? (i := 134) rfl)) rfl
theorem se_X1_copy : Cond.selects RX1 yX1_copy yX1_copy ∈ TW := tw_mem (in_tables_1_3 (List.mem_of_getElem? (i := 135) rfl)) rfl
theorem co_X1_copy : Cond.code yX1_copy cX1_copy 3 none ∈ TW := tw_mem (in_tables_1_3 (List.mem_of_getElem? (i := 136) rfl)) rfl
theorem ml_X0_67 : Cond.methodLink RX0 67 yX7_copy ∈ TW := tw_mem (in_tables_1_3 (List.mem_of_getElem? (i := 139) rfl)) rfl
theorem im_X7_copy : Cond.instanceMethod yX7_copy ∈ TW := tw_mem (in_tables_1_3 (List.mem_of_getElem? (i := 140) rfl)) rfl
theorem se_X7_copy : Cond.selects RX7 yX7_copy yX7_copy ∈ TW := tw_mem (in_tables_1_3 (List.mem_of_getElem? (i := 141) rfl)) rfl
theorem co_X7_copy : Cond.code yX7_copy cX7_copy 2 none ∈ TW := tw_mem (in_tables_1_3 (List.mem_of_getElem? (i := 142) rfl)) rfl
theorem ml_L_256 : Cond.methodLink RL 256 yX11_restore ∈ TW := tw_mem (in_tables_1_3 (List.mem_of_getElem? (i := 145) rfl)) rfl
theorem im_X11_restore : Cond.instanceMethod yX11_restore ∈ TW := tw_mem (in_tables_1_3 (List.mem_of_getElem? (i := 146) rfl)) rfl
theorem se_X11_restore : Cond.selects RX11 yX11_restore yX11_restore ∈ TW := tw_mem (in_tables_1_3 (List.mem_of_getElem? (i := 147) rfl)) rfl
theorem co_X11_restore : Cond.code yX11_restore cX11_restore 1 (some .boolean) ∈ TW := tw_mem (in_tables_1_3 (List.mem_of_getElem? (i := 148) rfl)) rfl
theorem ml_L_122 : Cond.methodLink RL 122 yL_ward ∈ TW := tw_mem (in_tables_1_3 (List.mem_of_getElem? (i := 149) rfl)) rfl
theorem sm_L_ward : Cond.static yL_ward ∈ TW := tw_mem (in_tables_1_3 (List.mem_of_getElem? (i := 150) rfl)) rfl
theorem ml_L_7 : Cond.methodLink RL 7 yX11_ward ∈ TW := tw_mem (in_tables_1_3 (List.mem_of_getElem? (i := 153) rfl)) rfl
theorem im_X11_ward : Cond.instanceMethod yX11_ward ∈ TW := tw_mem (in_tables_1_3 (List.mem_of_getElem? (i := 154) rfl)) rfl
theorem se_X11_ward : Cond.selects RX11 yX11_ward yX11_ward ∈ TW := tw_mem (in_tables_1_3 (List.mem_of_getElem? (i := 155) rfl)) rfl
theorem co_X11_ward : Cond.code yX11_ward cX11_ward 3 (some .int) ∈ TW := tw_mem (in_tables_1_3 (List.mem_of_getElem? (i := 156) rfl)) rfl
theorem ac_byte : Cond.arrayClass .byte ∈ TW := tw_mem (in_tables_1_3 (List.mem_of_getElem? (i := 223) rfl)) rfl
theorem ml_X11_97 : Cond.methodLink RX11 97 yX5_read ∈ TW := tw_mem (in_tables_1_3 (List.mem_of_getElem? (i := 224) rfl)) rfl
theorem im_X5_read : Cond.instanceMethod yX5_read ∈ TW := tw_mem (in_tables_1_3 (List.mem_of_getElem? (i := 225) rfl)) rfl
theorem se_X5_read : Cond.selects RX5 yX5_read yX5_read ∈ TW := tw_mem (in_tables_1_3 (List.mem_of_getElem? (i := 226) rfl)) rfl
theorem co_X5_read : Cond.code yX5_read cX5_read 3 (some .int) ∈ TW := tw_mem (in_tables_1_3 (List.mem_of_getElem? (i := 227) rfl)) rfl
theorem ml_X5_58 : Cond.methodLink RX5 58 yX9_clear ∈ TW := tw_mem (in_tables_1_3 (List.mem_of_getElem? (i := 228) rfl)) rfl
theorem ml_X5_61 : Cond.methodLink RX5 61 yX5_advance ∈ TW := tw_mem (in_tables_1_3 (List.mem_of_getElem? (i := 229) rfl)) rfl
theorem im_X5_advance : Cond.instanceMethod yX5_advance ∈ TW := tw_mem (in_tables_1_3 (List.mem_of_getElem? (i := 231) rfl)) rfl
theorem co_X5_advance : Cond.code yX5_advance cX5_advance 2 none ∈ TW := tw_mem (in_tables_1_3 (List.mem_of_getElem? (i := 232) rfl)) rfl
theorem ml_X5_72 : Cond.methodLink RX5 72 yX5_isBlank ∈ TW := tw_mem (in_tables_1_3 (List.mem_of_getElem? (i := 234) rfl)) rfl
theorem sm_X5_isBlank : Cond.static yX5_isBlank ∈ TW := tw_mem (in_tables_1_3 (List.mem_of_getElem? (i := 235) rfl)) rfl
theorem co_X5_isBlank : Cond.code yX5_isBlank cX5_isBlank 1 (some .boolean) ∈ TW := tw_mem (in_tables_1_3 (List.mem_of_getElem? (i := 236) rfl)) rfl
theorem ml_X5_76 : Cond.methodLink RX5 76 yX5_isLetter ∈ TW := tw_mem (in_tables_1_3 (List.mem_of_getElem? (i := 237) rfl)) rfl
theorem sm_X5_isLetter : Cond.static yX5_isLetter ∈ TW := tw_mem (in_tables_1_3 (List.mem_of_getElem? (i := 238) rfl)) rfl
theorem co_X5_isLetter : Cond.code yX5_isLetter cX5_isLetter 1 (some .boolean) ∈ TW := tw_mem (in_tables_1_3 (List.mem_of_getElem? (i := 239) rfl)) rfl
theorem ml_X5_79 : Cond.methodLink RX5 79 yX5_isDigit ∈ TW := tw_mem (in_tables_1_4 (List.mem_of_getElem? (i := 0) rfl)) rfl
theorem sm_X5_isDigit : Cond.static yX5_isDigit ∈ TW := tw_mem (in_tables_1_4 (List.mem_of_getElem? (i := 1) rfl)) rfl
theorem co_X5_isDigit : Cond.code yX5_isDigit cX5_isDigit 1 (some .boolean) ∈ TW := tw_mem (in_tables_1_4 (List.mem_of_getElem? (i := 2) rfl)) rfl
theorem ml_X5_82 : Cond.methodLink RX5 82 yX5_readDigits ∈ TW := tw_mem (in_tables_1_4 (List.mem_of_getElem? (i := 3) rfl)) rfl
theorem im_X5_readDigits : Cond.instanceMethod yX5_readDigits ∈ TW := tw_mem (in_tables_1_4 (List.mem_of_getElem? (i := 5) rfl)) rfl
theorem co_X5_readDigits : Cond.code yX5_readDigits cX5_readDigits 1 none ∈ TW := tw_mem (in_tables_1_4 (List.mem_of_getElem? (i := 6) rfl)) rfl
theorem ml_X5_85 : Cond.methodLink RX5 85 yX5_isSign ∈ TW := tw_mem (in_tables_1_4 (List.mem_of_getElem? (i := 7) rfl)) rfl
theorem sm_X5_isSign : Cond.static yX5_isSign ∈ TW := tw_mem (in_tables_1_4 (List.mem_of_getElem? (i := 8) rfl)) rfl
theorem co_X5_isSign : Cond.code yX5_isSign cX5_isSign 1 (some .boolean) ∈ TW := tw_mem (in_tables_1_4 (List.mem_of_getElem? (i := 9) rfl)) rfl
theorem ml_X5_64 : Cond.methodLink RX5 64 yX5_line ∈ TW := tw_mem (in_tables_1_4 (List.mem_of_getElem? (i := 10) rfl)) rfl
theorem im_X5_line : Cond.instanceMethod yX5_line ∈ TW := tw_mem (in_tables_1_4 (List.mem_of_getElem? (i := 12) rfl)) rfl
theorem co_X5_line : Cond.code yX5_line cX5_line 1 (some .boolean) ∈ TW := tw_mem (in_tables_1_4 (List.mem_of_getElem? (i := 13) rfl)) rfl
theorem ml_X5_112 : Cond.methodLink RX5 112 yX5_isWord ∈ TW := tw_mem (in_tables_1_4 (List.mem_of_getElem? (i := 15) rfl)) rfl
theorem im_X5_isWord : Cond.instanceMethod yX5_isWord ∈ TW := tw_mem (in_tables_1_4 (List.mem_of_getElem? (i := 17) rfl)) rfl
theorem co_X5_isWord : Cond.code yX5_isWord cX5_isWord 3 (some .boolean) ∈ TW := tw_mem (in_tables_1_4 (List.mem_of_getElem? (i := 18) rfl)) rfl
theorem ml_X5_88 : Cond.methodLink RX5 88 yJ0_length_8abf5 ∈ TW := tw_mem (in_tables_1_4 (List.mem_of_getElem? (i := 19) rfl)) rfl
theorem im_J0_length_8abf5 : Cond.instanceMethod yJ0_length_8abf5 ∈ TW := tw_mem (in_tables_1_4 (List.mem_of_getElem? (i := 20) rfl)) rfl
theorem se_J0_length_8abf5 : Cond.selects RJ0 yJ0_length_8abf5 yJ0_length_8abf5 ∈ TW := tw_mem (in_tables_1_4 (List.mem_of_getElem? (i := 21) rfl)) rfl
theorem co_J0_length_8abf5 : Cond.code yJ0_length_8abf5 cJ0_length_8abf5 1 (some .int) ∈ TW := tw_mem (in_tables_1_4 (List.mem_of_getElem? (i := 22) rfl)) rfl
theorem ml_J0_335 : Cond.methodLink RJ0 335 yJ0_coder_7d493 ∈ TW := tw_mem (in_tables_1_4 (List.mem_of_getElem? (i := 23) rfl)) rfl
theorem im_J0_coder_7d493 : Cond.instanceMethod yJ0_coder_7d493 ∈ TW := tw_mem (in_tables_1_4 (List.mem_of_getElem? (i := 24) rfl)) rfl
theorem se_J0_coder_7d493 : Cond.selects RJ0 yJ0_coder_7d493 yJ0_coder_7d493 ∈ TW := tw_mem (in_tables_1_4 (List.mem_of_getElem? (i := 25) rfl)) rfl
theorem co_J0_coder_7d493 : Cond.code yJ0_coder_7d493 cJ0_coder_7d493 1 (some .byte) ∈ TW := tw_mem (in_tables_1_4 (List.mem_of_getElem? (i := 26) rfl)) rfl
theorem fl_J0_38 : Cond.fieldLink RJ0 38 "java/lang/String" "COMPACT_STRINGS" "Z" ∈ TW := tw_mem (in_tables_1_4 (List.mem_of_getElem? (i := 27) rfl)) rfl
theorem ml_X5_94 : Cond.methodLink RX5 94 yJ0_charAt_5068e ∈ TW := tw_mem (in_tables_1_4 (List.mem_of_getElem? (i := 29) rfl)) rfl
theorem im_J0_charAt_5068e : Cond.instanceMethod yJ0_charAt_5068e ∈ TW := tw_mem (in_tables_1_4 (List.mem_of_getElem? (i := 30) rfl)) rfl
theorem se_J0_charAt_5068e : Cond.selects RJ0 yJ0_charAt_5068e yJ0_charAt_5068e ∈ TW := tw_mem (in_tables_1_4 (List.mem_of_getElem? (i := 31) rfl)) rfl
theorem co_J0_charAt_5068e : Cond.code yJ0_charAt_5068e cJ0_charAt_5068e 2 (some .char) ∈ TW := tw_mem (in_tables_1_4 (List.mem_of_getElem? (i := 32) rfl)) rfl
theorem ml_J0_492 : Cond.methodLink RJ0 492 yJ0_isLatin1_aae02 ∈ TW := tw_mem (in_tables_1_4 (List.mem_of_getElem? (i := 33) rfl)) rfl
theorem im_J0_isLatin1_aae02 : Cond.instanceMethod yJ0_isLatin1_aae02 ∈ TW := tw_mem (in_tables_1_4 (List.mem_of_getElem? (i := 34) rfl)) rfl
theorem se_J0_isLatin1_aae02 : Cond.selects RJ0 yJ0_isLatin1_aae02 yJ0_isLatin1_aae02 ∈ TW := tw_mem (in_tables_1_4 (List.mem_of_getElem? (i := 35) rfl)) rfl
theorem co_J0_isLatin1_aae02 : Cond.code yJ0_isLatin1_aae02 cJ0_isLatin1_aae02 1 (some .boolean) ∈ TW := tw_mem (in_tables_1_4 (List.mem_of_getElem? (i := 36) rfl)) rfl
theorem ml_J0_495 : Cond.methodLink RJ0 495 yJ1_charAt_3b067 ∈ TW := tw_mem (in_tables_1_4 (List.mem_of_getElem? (i := 37) rfl)) rfl
theorem sm_J1_charAt_3b067 : Cond.static yJ1_charAt_3b067 ∈ TW := tw_mem (in_tables_1_4 (List.mem_of_getElem? (i := 38) rfl)) rfl
theorem co_J1_charAt_3b067 : Cond.code yJ1_charAt_3b067 cJ1_charAt_3b067 2 (some .char) ∈ TW := tw_mem (in_tables_1_4 (List.mem_of_getElem? (i := 39) rfl)) rfl
theorem ml_J1_9 : Cond.methodLink RJ1 9 yJ0_checkIndex_df160 ∈ TW := tw_mem (in_tables_1_4 (List.mem_of_getElem? (i := 40) rfl)) rfl
theorem sm_J0_checkIndex_df160 : Cond.static yJ0_checkIndex_df160 ∈ TW := tw_mem (in_tables_1_4 (List.mem_of_getElem? (i := 41) rfl)) rfl
theorem co_J0_checkIndex_df160 : Cond.code yJ0_checkIndex_df160 cJ0_checkIndex_df160 2 none ∈ TW := tw_mem (in_tables_1_4 (List.mem_of_getElem? (i := 42) rfl)) rfl
theorem fl_J0_1053 : Cond.fieldLink RJ0 1053 "jdk/internal/util/Preconditions" "SIOOBE_FORMATTER" "Ljava/util/function/BiFunction;" ∈ TW := tw_mem (in_tables_1_4 (List.mem_of_getElem? (i := 43) rfl)) rfl
theorem ml_J0_1059 : Cond.methodLink RJ0 1059 yJ3_checkIndex_8e157 ∈ TW := tw_mem (in_tables_1_4 (List.mem_of_getElem? (i := 45) rfl)) rfl
theorem sm_J3_checkIndex_8e157 : Cond.static yJ3_checkIndex_8e157 ∈ TW := tw_mem (in_tables_1_4 (List.mem_of_getElem? (i := 46) rfl)) rfl
theorem co_J3_checkIndex_8e157 : Cond.code yJ3_checkIndex_8e157 cJ3_checkIndex_8e157 3 (some .int) ∈ TW := tw_mem (in_tables_1_4 (List.mem_of_getElem? (i := 47) rfl)) rfl
theorem ml_J0_498 : Cond.methodLink RJ0 498 yJ2_charAt_3b067 ∈ TW := tw_mem (in_tables_1_4 (List.mem_of_getElem? (i := 48) rfl)) rfl
theorem sm_J2_charAt_3b067 : Cond.static yJ2_charAt_3b067 ∈ TW := tw_mem (in_tables_1_4 (List.mem_of_getElem? (i := 49) rfl)) rfl
theorem co_J2_charAt_3b067 : Cond.code yJ2_charAt_3b067 cJ2_charAt_3b067 2 (some .char) ∈ TW := tw_mem (in_tables_1_4 (List.mem_of_getElem? (i := 50) rfl)) rfl
theorem ml_J2_67 : Cond.methodLink RJ2 67 yJ2_checkIndex_2214a ∈ TW := tw_mem (in_tables_1_4 (List.mem_of_getElem? (i := 51) rfl)) rfl
theorem sm_J2_checkIndex_2214a : Cond.static yJ2_checkIndex_2214a ∈ TW := tw_mem (in_tables_1_4 (List.mem_of_getElem? (i := 52) rfl)) rfl
theorem co_J2_checkIndex_2214a : Cond.code yJ2_checkIndex_2214a cJ2_checkIndex_2214a 2 none ∈ TW := tw_mem (in_tables_1_4 (List.mem_of_getElem? (i := 53) rfl)) rfl
theorem ml_J2_48 : Cond.methodLink RJ2 48 yJ2_length_9d52b ∈ TW := tw_mem (in_tables_1_4 (List.mem_of_getElem? (i := 54) rfl)) rfl
theorem sm_J2_length_9d52b : Cond.static yJ2_length_9d52b ∈ TW := tw_mem (in_tables_1_4 (List.mem_of_getElem? (i := 55) rfl)) rfl
theorem co_J2_length_9d52b : Cond.code yJ2_length_9d52b cJ2_length_9d52b 1 (some .int) ∈ TW := tw_mem (in_tables_1_4 (List.mem_of_getElem? (i := 56) rfl)) rfl
theorem ml_J2_414 : Cond.methodLink RJ2 414 yJ0_checkIndex_df160 ∈ TW := tw_mem (in_tables_1_4 (List.mem_of_getElem? (i := 57) rfl)) rfl
theorem ml_J2_71 : Cond.methodLink RJ2 71 yJ2_getChar_3b067 ∈ TW := tw_mem (in_tables_1_4 (List.mem_of_getElem? (i := 58) rfl)) rfl
theorem sm_J2_getChar_3b067 : Cond.static yJ2_getChar_3b067 ∈ TW := tw_mem (in_tables_1_4 (List.mem_of_getElem? (i := 59) rfl)) rfl
theorem co_J2_getChar_3b067 : Cond.code yJ2_getChar_3b067 cJ2_getChar_3b067 2 (some .char) ∈ TW := tw_mem (in_tables_1_4 (List.mem_of_getElem? (i := 60) rfl)) rfl
theorem fl_J2_44 : Cond.fieldLink RJ2 44 "java/lang/StringUTF16" "$assertionsDisabled" "Z" ∈ TW := tw_mem (in_tables_1_4 (List.mem_of_getElem? (i := 61) rfl)) rfl
theorem fl_J2_59 : Cond.fieldLink RJ2 59 "java/lang/StringUTF16" "HI_BYTE_SHIFT" "I" ∈ TW := tw_mem (in_tables_1_4 (List.mem_of_getElem? (i := 63) rfl)) rfl
theorem fl_J2_63 : Cond.fieldLink RJ2 63 "java/lang/StringUTF16" "LO_BYTE_SHIFT" "I" ∈ TW := tw_mem (in_tables_1_4 (List.mem_of_getElem? (i := 65) rfl)) rfl
theorem ml_X5_116 : Cond.methodLink RX5 116 yX5_streetsLine ∈ TW := tw_mem (in_tables_1_4 (List.mem_of_getElem? (i := 67) rfl)) rfl
theorem im_X5_streetsLine : Cond.instanceMethod yX5_streetsLine ∈ TW := tw_mem (in_tables_1_4 (List.mem_of_getElem? (i := 69) rfl)) rfl
theorem co_X5_streetsLine : Cond.code yX5_streetsLine cX5_streetsLine 1 (some .boolean) ∈ TW := tw_mem (in_tables_1_4 (List.mem_of_getElem? (i := 70) rfl)) rfl
theorem ml_X5_98 : Cond.methodLink RX5 98 yX5_refuse ∈ TW := tw_mem (in_tables_1_4 (List.mem_of_getElem? (i := 71) rfl)) rfl
theorem im_X5_refuse : Cond.instanceMethod yX5_refuse ∈ TW := tw_mem (in_tables_1_4 (List.mem_of_getElem? (i := 73) rfl)) rfl
theorem co_X5_refuse : Cond.code yX5_refuse cX5_refuse 2 (some .boolean) ∈ TW := tw_mem (in_tables_1_4 (List.mem_of_getElem? (i := 74) rfl)) rfl
theorem ml_X5_149 : Cond.methodLink RX5 149 yX5_once ∈ TW := tw_mem (in_tables_1_4 (List.mem_of_getElem? (i := 75) rfl)) rfl
theorem im_X5_once : Cond.instanceMethod yX5_once ∈ TW := tw_mem (in_tables_1_4 (List.mem_of_getElem? (i := 77) rfl)) rfl
theorem co_X5_once : Cond.code yX5_once cX5_once 2 (some .boolean) ∈ TW := tw_mem (in_tables_1_4 (List.mem_of_getElem? (i := 78) rfl)) rfl
theorem ml_X5_101 : Cond.methodLink RX5 101 yX5_number ∈ TW := tw_mem (in_tables_1_4 (List.mem_of_getElem? (i := 79) rfl)) rfl
theorem im_X5_number : Cond.instanceMethod yX5_number ∈ TW := tw_mem (in_tables_1_4 (List.mem_of_getElem? (i := 81) rfl)) rfl
theorem co_X5_number : Cond.code yX5_number cX5_number 3 (some .boolean) ∈ TW := tw_mem (in_tables_1_4 (List.mem_of_getElem? (i := 82) rfl)) rfl
theorem ml_X5_155 : Cond.methodLink RX5 155 yX5_sign ∈ TW := tw_mem (in_tables_1_4 (List.mem_of_getElem? (i := 83) rfl)) rfl
theorem im_X5_sign : Cond.instanceMethod yX5_sign ∈ TW := tw_mem (in_tables_1_4 (List.mem_of_getElem? (i := 85) rfl)) rfl
theorem co_X5_sign : Cond.code yX5_sign cX5_sign 2 (some .boolean) ∈ TW := tw_mem (in_tables_1_4 (List.mem_of_getElem? (i := 86) rfl)) rfl
theorem ml_X5_121 : Cond.methodLink RX5 121 yX5_pathLine ∈ TW := tw_mem (in_tables_1_4 (List.mem_of_getElem? (i := 88) rfl)) rfl
theorem im_X5_pathLine : Cond.instanceMethod yX5_pathLine ∈ TW := tw_mem (in_tables_1_4 (List.mem_of_getElem? (i := 90) rfl)) rfl
theorem co_X5_pathLine : Cond.code yX5_pathLine cX5_pathLine 2 (some .boolean) ∈ TW := tw_mem (in_tables_1_4 (List.mem_of_getElem? (i := 91) rfl)) rfl
theorem ml_X5_108 : Cond.methodLink RX5 108 yX5_street ∈ TW := tw_mem (in_tables_1_4 (List.mem_of_getElem? (i := 92) rfl)) rfl
theorem im_X5_street : Cond.instanceMethod yX5_street ∈ TW := tw_mem (in_tables_1_4 (List.mem_of_getElem? (i := 94) rfl)) rfl
theorem co_X5_street : Cond.code yX5_street cX5_street 1 (some .boolean) ∈ TW := tw_mem (in_tables_1_4 (List.mem_of_getElem? (i := 95) rfl)) rfl
theorem ml_X5_165 : Cond.methodLink RX5 165 yX9_join ∈ TW := tw_mem (in_tables_1_4 (List.mem_of_getElem? (i := 96) rfl)) rfl
theorem im_X9_join : Cond.instanceMethod yX9_join ∈ TW := tw_mem (in_tables_1_4 (List.mem_of_getElem? (i := 97) rfl)) rfl
theorem se_X9_join : Cond.selects RX9 yX9_join yX9_join ∈ TW := tw_mem (in_tables_1_4 (List.mem_of_getElem? (i := 98) rfl)) rfl
theorem co_X9_join : Cond.code yX9_join cX9_join 3 none ∈ TW := tw_mem (in_tables_1_4 (List.mem_of_getElem? (i := 99) rfl)) rfl
theorem ml_X5_126 : Cond.methodLink RX5 126 yX5_roundLine ∈ TW := tw_mem (in_tables_1_4 (List.mem_of_getElem? (i := 101) rfl)) rfl
theorem im_X5_roundLine : Cond.instanceMethod yX5_roundLine ∈ TW := tw_mem (in_tables_1_4 (List.mem_of_getElem? (i := 103) rfl)) rfl
theorem co_X5_roundLine : Cond.code yX5_roundLine cX5_roundLine 2 (some .boolean) ∈ TW := tw_mem (in_tables_1_4 (List.mem_of_getElem? (i := 104) rfl)) rfl
theorem ml_X5_169 : Cond.methodLink RX5 169 yX5_readRow ∈ TW := tw_mem (in_tables_1_4 (List.mem_of_getElem? (i := 105) rfl)) rfl
theorem im_X5_readRow : Cond.instanceMethod yX5_readRow ∈ TW := tw_mem (in_tables_1_4 (List.mem_of_getElem? (i := 107) rfl)) rfl
theorem co_X5_readRow : Cond.code yX5_readRow cX5_readRow 4 (some .int) ∈ TW := tw_mem (in_tables_1_4 (List.mem_of_getElem? (i := 108) rfl)) rfl
theorem ml_X5_131 : Cond.methodLink RX5 131 yX5_personLine ∈ TW := tw_mem (in_tables_1_4 (List.mem_of_getElem? (i := 111) rfl)) rfl
theorem im_X5_personLine : Cond.instanceMethod yX5_personLine ∈ TW := tw_mem (in_tables_1_4 (List.mem_of_getElem? (i := 113) rfl)) rfl
theorem co_X5_personLine : Cond.code yX5_personLine cX5_personLine 4 (some .boolean) ∈ TW := tw_mem (in_tables_1_4 (List.mem_of_getElem? (i := 114) rfl)) rfl
theorem ml_X5_185 : Cond.methodLink RX5 185 yX9_addPerson ∈ TW := tw_mem (in_tables_1_4 (List.mem_of_getElem? (i := 115) rfl)) rfl
theorem im_X9_addPerson : Cond.instanceMethod yX9_addPerson ∈ TW := tw_mem (in_tables_1_4 (List.mem_of_getElem? (i := 116) rfl)) rfl
theorem se_X9_addPerson : Cond.selects RX9 yX9_addPerson yX9_addPerson ∈ TW := tw_mem (in_tables_1_4 (List.mem_of_getElem? (i := 117) rfl)) rfl
theorem co_X9_addPerson : Cond.code yX9_addPerson cX9_addPerson 7 none ∈ TW := tw_mem (in_tables_1_4 (List.mem_of_getElem? (i := 118) rfl)) rfl
theorem sm_X11_walkWith : Cond.static yX11_walkWith ∈ TW := tw_mem (in_tables_1_4 (List.mem_of_getElem? (i := 120) rfl)) rfl
theorem co_X11_walkWith : Cond.code yX11_walkWith cX11_walkWith 3 (some .int) ∈ TW := tw_mem (in_tables_1_4 (List.mem_of_getElem? (i := 121) rfl)) rfl
theorem ml_X5_139 : Cond.methodLink RX5 139 yX5_fogLine ∈ TW := tw_mem (in_tables_1_4 (List.mem_of_getElem? (i := 124) rfl)) rfl
theorem im_X5_fogLine : Cond.instanceMethod yX5_fogLine ∈ TW := tw_mem (in_tables_1_4 (List.mem_of_getElem? (i := 126) rfl)) rfl
theorem co_X5_fogLine : Cond.code yX5_fogLine cX5_fogLine 2 (some .boolean) ∈ TW := tw_mem (in_tables_1_4 (List.mem_of_getElem? (i := 127) rfl)) rfl
theorem ml_X5_144 : Cond.methodLink RX5 144 yX5_reserveLine ∈ TW := tw_mem (in_tables_1_4 (List.mem_of_getElem? (i := 129) rfl)) rfl
theorem im_X5_reserveLine : Cond.instanceMethod yX5_reserveLine ∈ TW := tw_mem (in_tables_1_4 (List.mem_of_getElem? (i := 131) rfl)) rfl
theorem co_X5_reserveLine : Cond.code yX5_reserveLine cX5_reserveLine 1 (some .boolean) ∈ TW := tw_mem (in_tables_1_4 (List.mem_of_getElem? (i := 132) rfl)) rfl
theorem ml_X5_152 : Cond.methodLink RX5 152 yX5_expr ∈ TW := tw_mem (in_tables_1_4 (List.mem_of_getElem? (i := 134) rfl)) rfl
theorem im_X5_expr : Cond.instanceMethod yX5_expr ∈ TW := tw_mem (in_tables_1_4 (List.mem_of_getElem? (i := 136) rfl)) rfl
theorem co_X5_expr : Cond.code yX5_expr cX5_expr 3 (some .boolean) ∈ TW := tw_mem (in_tables_1_4 (List.mem_of_getElem? (i := 137) rfl)) rfl
theorem ml_X5_196 : Cond.methodLink RX5 196 yX5_both ∈ TW := tw_mem (in_tables_1_4 (List.mem_of_getElem? (i := 138) rfl)) rfl
theorem im_X5_both : Cond.instanceMethod yX5_both ∈ TW := tw_mem (in_tables_1_4 (List.mem_of_getElem? (i := 140) rfl)) rfl
theorem co_X5_both : Cond.code yX5_both cX5_both 3 (some .boolean) ∈ TW := tw_mem (in_tables_1_4 (List.mem_of_getElem? (i := 141) rfl)) rfl
theorem ml_X5_210 : Cond.methodLink RX5 210 yX5_denied ∈ TW := tw_mem (in_tables_1_4 (List.mem_of_getElem? (i := 142) rfl)) rfl
theorem im_X5_denied : Cond.instanceMethod yX5_denied ∈ TW := tw_mem (in_tables_1_4 (List.mem_of_getElem? (i := 144) rfl)) rfl
theorem co_X5_denied : Cond.code yX5_denied cX5_denied 4 (some .boolean) ∈ TW := tw_mem (in_tables_1_4 (List.mem_of_getElem? (i := 145) rfl)) rfl
theorem ml_X5_217 : Cond.methodLink RX5 217 yX5_test ∈ TW := tw_mem (in_tables_1_4 (List.mem_of_getElem? (i := 147) rfl)) rfl
theorem im_X5_test : Cond.instanceMethod yX5_test ∈ TW := tw_mem (in_tables_1_4 (List.mem_of_getElem? (i := 149) rfl)) rfl
theorem co_X5_test : Cond.code yX5_test cX5_test 3 (some .boolean) ∈ TW := tw_mem (in_tables_1_4 (List.mem_of_getElem? (i := 150) rfl)) rfl
theorem ml_X5_220 : Cond.methodLink RX5 220 yX5_sum ∈ TW := tw_mem (in_tables_1_4 (List.mem_of_getElem? (i := 151) rfl)) rfl
theorem im_X5_sum : Cond.instanceMethod yX5_sum ∈ TW := tw_mem (in_tables_1_4 (List.mem_of_getElem? (i := 153) rfl)) rfl
theorem co_X5_sum : Cond.code yX5_sum cX5_sum 4 (some .boolean) ∈ TW := tw_mem (in_tables_1_4 (List.mem_of_getElem? (i := 154) rfl)) rfl
theorem ml_X5_223 : Cond.methodLink RX5 223 yX5_product ∈ TW := tw_mem (in_tables_1_4 (List.mem_of_getElem? (i := 155) rfl)) rfl
theorem im_X5_product : Cond.instanceMethod yX5_product ∈ TW := tw_mem (in_tables_1_4 (List.mem_of_getElem? (i := 157) rfl)) rfl
theorem co_X5_product : Cond.code yX5_product cX5_product 4 (some .boolean) ∈ TW := tw_mem (in_tables_1_4 (List.mem_of_getElem? (i := 158) rfl)) rfl
theorem ml_X5_226 : Cond.methodLink RX5 226 yX5_part ∈ TW := tw_mem (in_tables_1_4 (List.mem_of_getElem? (i := 159) rfl)) rfl
theorem im_X5_part : Cond.instanceMethod yX5_part ∈ TW := tw_mem (in_tables_1_4 (List.mem_of_getElem? (i := 161) rfl)) rfl
theorem co_X5_part : Cond.code yX5_part cX5_part 3 (some .boolean) ∈ TW := tw_mem (in_tables_1_4 (List.mem_of_getElem? (i := 162) rfl)) rfl
theorem ml_X5_229 : Cond.methodLink RX5 229 yX5_valueHere ∈ TW := tw_mem (in_tables_1_4 (List.mem_of_getElem? (i := 163) rfl)) rfl
theorem im_X5_valueHere : Cond.instanceMethod yX5_valueHere ∈ TW := tw_mem (in_tables_1_4 (List.mem_of_getElem? (i := 165) rfl)) rfl
theorem co_X5_valueHere : Cond.code yX5_valueHere cX5_valueHere 1 (some .int) ∈ TW := tw_mem (in_tables_1_4 (List.mem_of_getElem? (i := 166) rfl)) rfl
theorem ml_X5_232 : Cond.methodLink RX5 232 yX10_addValue ∈ TW := tw_mem (in_tables_1_4 (List.mem_of_getElem? (i := 175) rfl)) rfl
theorem im_X10_addValue : Cond.instanceMethod yX10_addValue ∈ TW := tw_mem (in_tables_1_4 (List.mem_of_getElem? (i := 176) rfl)) rfl
theorem se_X10_addValue : Cond.selects RX10 yX10_addValue yX10_addValue ∈ TW := tw_mem (in_tables_1_4 (List.mem_of_getElem? (i := 177) rfl)) rfl
theorem co_X10_addValue : Cond.code yX10_addValue cX10_addValue 2 none ∈ TW := tw_mem (in_tables_1_4 (List.mem_of_getElem? (i := 178) rfl)) rfl
theorem ml_X10_29 : Cond.methodLink RX10 29 yX10_add ∈ TW := tw_mem (in_tables_1_4 (List.mem_of_getElem? (i := 179) rfl)) rfl
theorem im_X10_add : Cond.instanceMethod yX10_add ∈ TW := tw_mem (in_tables_1_4 (List.mem_of_getElem? (i := 180) rfl)) rfl
theorem se_X10_add : Cond.selects RX10 yX10_add yX10_add ∈ TW := tw_mem (in_tables_1_4 (List.mem_of_getElem? (i := 181) rfl)) rfl
theorem co_X10_add : Cond.code yX10_add cX10_add 2 none ∈ TW := tw_mem (in_tables_1_4 (List.mem_of_getElem? (i := 182) rfl)) rfl
theorem ml_X5_206 : Cond.methodLink RX5 206 yX10_add ∈ TW := tw_mem (in_tables_1_4 (List.mem_of_getElem? (i := 183) rfl)) rfl
theorem ml_X11_107 : Cond.methodLink RX11 107 yX5_exchange ∈ TW := tw_mem (in_tables_1_4 (List.mem_of_getElem? (i := 186) rfl)) rfl
theorem im_X5_exchange : Cond.instanceMethod yX5_exchange ∈ TW := tw_mem (in_tables_1_4 (List.mem_of_getElem? (i := 187) rfl)) rfl
theorem se_X5_exchange : Cond.selects RX5 yX5_exchange yX5_exchange ∈ TW := tw_mem (in_tables_1_4 (List.mem_of_getElem? (i := 188) rfl)) rfl
theorem co_X5_exchange : Cond.code yX5_exchange cX5_exchange 3 (some (.object "WatchLots$Ward")) ∈ TW := tw_mem (in_tables_1_4 (List.mem_of_getElem? (i := 189) rfl)) rfl
theorem ml_X11_111 : Cond.methodLink RX11 111 yX0_begin ∈ TW := tw_mem (in_tables_1_4 (List.mem_of_getElem? (i := 190) rfl)) rfl
theorem im_X0_begin : Cond.instanceMethod yX0_begin ∈ TW := tw_mem (in_tables_1_4 (List.mem_of_getElem? (i := 191) rfl)) rfl
theorem se_X0_begin : Cond.selects RX0 yX0_begin yX0_begin ∈ TW := tw_mem (in_tables_1_4 (List.mem_of_getElem? (i := 192) rfl)) rfl
theorem co_X0_begin : Cond.code yX0_begin cX0_begin 2 none ∈ TW := tw_mem (in_tables_1_4 (List.mem_of_getElem? (i := 193) rfl)) rfl
theorem ml_X0_36 : Cond.methodLink RX0 36 yX8_begin ∈ TW := tw_mem (in_tables_1_4 (List.mem_of_getElem? (i := 194) rfl)) rfl
theorem im_X8_begin : Cond.instanceMethod yX8_begin ∈ TW := tw_mem (in_tables_1_4 (List.mem_of_getElem? (i := 195) rfl)) rfl
theorem se_X8_begin : Cond.selects RX8 yX8_begin yX8_begin ∈ TW := tw_mem (in_tables_1_4 (List.mem_of_getElem? (i := 196) rfl)) rfl
theorem co_X8_begin : Cond.code yX8_begin cX8_begin 4 none ∈ TW := tw_mem (in_tables_1_4 (List.mem_of_getElem? (i := 197) rfl)) rfl
theorem ml_L_136 : Cond.methodLink RL 136 yL_count ∈ TW := tw_mem (in_tables_1_4 (List.mem_of_getElem? (i := 198) rfl)) rfl
theorem sm_L_count : Cond.static yL_count ∈ TW := tw_mem (in_tables_1_4 (List.mem_of_getElem? (i := 199) rfl)) rfl
theorem ml_L_15 : Cond.methodLink RL 15 yX11_count ∈ TW := tw_mem (in_tables_1_4 (List.mem_of_getElem? (i := 202) rfl)) rfl
theorem im_X11_count : Cond.instanceMethod yX11_count ∈ TW := tw_mem (in_tables_1_4 (List.mem_of_getElem? (i := 203) rfl)) rfl
theorem se_X11_count : Cond.selects RX11 yX11_count yX11_count ∈ TW := tw_mem (in_tables_1_4 (List.mem_of_getElem? (i := 204) rfl)) rfl
theorem co_X11_count : Cond.code yX11_count cX11_count 3 (some .int) ∈ TW := tw_mem (in_tables_1_4 (List.mem_of_getElem? (i := 205) rfl)) rfl
theorem ml_X11_115 : Cond.methodLink RX11 115 yX11_needWhat ∈ TW := tw_mem (in_tables_1_4 (List.mem_of_getElem? (i := 206) rfl)) rfl
theorem sm_X11_needWhat : Cond.static yX11_needWhat ∈ TW := tw_mem (in_tables_1_4 (List.mem_of_getElem? (i := 207) rfl)) rfl
theorem co_X11_needWhat : Cond.code yX11_needWhat cX11_needWhat 2 none ∈ TW := tw_mem (in_tables_1_4 (List.mem_of_getElem? (i := 208) rfl)) rfl
theorem ml_X11_149 : Cond.methodLink RX11 149 yX8_coinsOfAll ∈ TW := tw_mem (in_tables_1_4 (List.mem_of_getElem? (i := 225) rfl)) rfl
theorem im_X8_coinsOfAll : Cond.instanceMethod yX8_coinsOfAll ∈ TW := tw_mem (in_tables_1_4 (List.mem_of_getElem? (i := 226) rfl)) rfl
theorem se_X8_coinsOfAll : Cond.selects RX8 yX8_coinsOfAll yX8_coinsOfAll ∈ TW := tw_mem (in_tables_1_4 (List.mem_of_getElem? (i := 227) rfl)) rfl
theorem co_X8_coinsOfAll : Cond.code yX8_coinsOfAll cX8_coinsOfAll 3 (some .int) ∈ TW := tw_mem (in_tables_1_4 (List.mem_of_getElem? (i := 228) rfl)) rfl
theorem ml_L_139 : Cond.methodLink RL 139 yL_paths ∈ TW := tw_mem (in_tables_1_4 (List.mem_of_getElem? (i := 229) rfl)) rfl
theorem sm_L_paths : Cond.static yL_paths ∈ TW := tw_mem (in_tables_1_4 (List.mem_of_getElem? (i := 230) rfl)) rfl
theorem ml_L_20 : Cond.methodLink RL 20 yX11_paths ∈ TW := tw_mem (in_tables_1_4 (List.mem_of_getElem? (i := 232) rfl)) rfl
theorem im_X11_paths : Cond.instanceMethod yX11_paths ∈ TW := tw_mem (in_tables_1_4 (List.mem_of_getElem? (i := 233) rfl)) rfl
theorem se_X11_paths : Cond.selects RX11 yX11_paths yX11_paths ∈ TW := tw_mem (in_tables_1_4 (List.mem_of_getElem? (i := 234) rfl)) rfl
theorem co_X11_paths : Cond.code yX11_paths cX11_paths 2 (some .int) ∈ TW := tw_mem (in_tables_1_4 (List.mem_of_getElem? (i := 235) rfl)) rfl
theorem ml_X11_176 : Cond.methodLink RX11 176 yX11_needStreet ∈ TW := tw_mem (in_tables_1_4 (List.mem_of_getElem? (i := 236) rfl)) rfl
theorem im_X11_needStreet : Cond.instanceMethod yX11_needStreet ∈ TW := tw_mem (in_tables_1_4 (List.mem_of_getElem? (i := 238) rfl)) rfl
theorem co_X11_needStreet : Cond.code yX11_needStreet cX11_needStreet 2 none ∈ TW := tw_mem (in_tables_1_4 (List.mem_of_getElem? (i := 239) rfl)) rfl
theorem ml_L_142 : Cond.methodLink RL 142 yL_person ∈ TW := tw_mem (in_tables_1_5 (List.mem_of_getElem? (i := 1) rfl)) rfl
theorem sm_L_person : Cond.static yL_person ∈ TW := tw_mem (in_tables_1_5 (List.mem_of_getElem? (i := 2) rfl)) rfl
theorem ml_L_23 : Cond.methodLink RL 23 yX11_person ∈ TW := tw_mem (in_tables_1_5 (List.mem_of_getElem? (i := 4) rfl)) rfl
theorem im_X11_person : Cond.instanceMethod yX11_person ∈ TW := tw_mem (in_tables_1_5 (List.mem_of_getElem? (i := 5) rfl)) rfl
theorem se_X11_person : Cond.selects RX11 yX11_person yX11_person ∈ TW := tw_mem (in_tables_1_5 (List.mem_of_getElem? (i := 6) rfl)) rfl
theorem co_X11_person : Cond.code yX11_person cX11_person 4 (some .int) ∈ TW := tw_mem (in_tables_1_5 (List.mem_of_getElem? (i := 7) rfl)) rfl
theorem ml_X11_182 : Cond.methodLink RX11 182 yX11_needPerson ∈ TW := tw_mem (in_tables_1_5 (List.mem_of_getElem? (i := 8) rfl)) rfl
theorem im_X11_needPerson : Cond.instanceMethod yX11_needPerson ∈ TW := tw_mem (in_tables_1_5 (List.mem_of_getElem? (i := 10) rfl)) rfl
theorem co_X11_needPerson : Cond.code yX11_needPerson cX11_needPerson 2 none ∈ TW := tw_mem (in_tables_1_5 (List.mem_of_getElem? (i := 11) rfl)) rfl
theorem ml_L_146 : Cond.methodLink RL 146 yL_walk ∈ TW := tw_mem (in_tables_1_5 (List.mem_of_getElem? (i := 13) rfl)) rfl
theorem sm_L_walk : Cond.static yL_walk ∈ TW := tw_mem (in_tables_1_5 (List.mem_of_getElem? (i := 14) rfl)) rfl
theorem ml_L_27 : Cond.methodLink RL 27 yX11_walk ∈ TW := tw_mem (in_tables_1_5 (List.mem_of_getElem? (i := 16) rfl)) rfl
theorem im_X11_walk : Cond.instanceMethod yX11_walk ∈ TW := tw_mem (in_tables_1_5 (List.mem_of_getElem? (i := 17) rfl)) rfl
theorem se_X11_walk : Cond.selects RX11 yX11_walk yX11_walk ∈ TW := tw_mem (in_tables_1_5 (List.mem_of_getElem? (i := 18) rfl)) rfl
theorem co_X11_walk : Cond.code yX11_walk cX11_walk 3 (some .int) ∈ TW := tw_mem (in_tables_1_5 (List.mem_of_getElem? (i := 19) rfl)) rfl
theorem ml_X11_204 : Cond.methodLink RX11 204 yX11_needPlace ∈ TW := tw_mem (in_tables_1_5 (List.mem_of_getElem? (i := 20) rfl)) rfl
theorem im_X11_needPlace : Cond.instanceMethod yX11_needPlace ∈ TW := tw_mem (in_tables_1_5 (List.mem_of_getElem? (i := 22) rfl)) rfl
theorem co_X11_needPlace : Cond.code yX11_needPlace cX11_needPlace 3 none ∈ TW := tw_mem (in_tables_1_5 (List.mem_of_getElem? (i := 23) rfl)) rfl
theorem ml_X11_207 : Cond.methodLink RX11 207 yX11_streetIn ∈ TW := tw_mem (in_tables_1_5 (List.mem_of_getElem? (i := 25) rfl)) rfl
theorem ml_L_153 : Cond.methodLink RL 153 yL_bribe ∈ TW := tw_mem (in_tables_1_5 (List.mem_of_getElem? (i := 26) rfl)) rfl
theorem sm_L_bribe : Cond.static yL_bribe ∈ TW := tw_mem (in_tables_1_5 (List.mem_of_getElem? (i := 27) rfl)) rfl
theorem ml_L_30 : Cond.methodLink RL 30 yX11_bribe ∈ TW := tw_mem (in_tables_1_5 (List.mem_of_getElem? (i := 29) rfl)) rfl
theorem im_X11_bribe : Cond.instanceMethod yX11_bribe ∈ TW := tw_mem (in_tables_1_5 (List.mem_of_getElem? (i := 30) rfl)) rfl
theorem se_X11_bribe : Cond.selects RX11 yX11_bribe yX11_bribe ∈ TW := tw_mem (in_tables_1_5 (List.mem_of_getElem? (i := 31) rfl)) rfl
theorem co_X11_bribe : Cond.code yX11_bribe cX11_bribe 2 (some .int) ∈ TW := tw_mem (in_tables_1_5 (List.mem_of_getElem? (i := 32) rfl)) rfl
theorem ml_X11_218 : Cond.methodLink RX11 218 yX8_canBribe ∈ TW := tw_mem (in_tables_1_5 (List.mem_of_getElem? (i := 33) rfl)) rfl
theorem im_X8_canBribe : Cond.instanceMethod yX8_canBribe ∈ TW := tw_mem (in_tables_1_5 (List.mem_of_getElem? (i := 34) rfl)) rfl
theorem se_X8_canBribe : Cond.selects RX8 yX8_canBribe yX8_canBribe ∈ TW := tw_mem (in_tables_1_5 (List.mem_of_getElem? (i := 35) rfl)) rfl
theorem co_X8_canBribe : Cond.code yX8_canBribe cX8_canBribe 2 (some .boolean) ∈ TW := tw_mem (in_tables_1_5 (List.mem_of_getElem? (i := 36) rfl)) rfl
theorem ml_X8_54 : Cond.methodLink RX8 54 yX8_isBribing ∈ TW := tw_mem (in_tables_1_5 (List.mem_of_getElem? (i := 37) rfl)) rfl
theorem ml_X11_222 : Cond.methodLink RX11 222 yX8_startBribing ∈ TW := tw_mem (in_tables_1_5 (List.mem_of_getElem? (i := 38) rfl)) rfl
theorem im_X8_startBribing : Cond.instanceMethod yX8_startBribing ∈ TW := tw_mem (in_tables_1_5 (List.mem_of_getElem? (i := 39) rfl)) rfl
theorem se_X8_startBribing : Cond.selects RX8 yX8_startBribing yX8_startBribing ∈ TW := tw_mem (in_tables_1_5 (List.mem_of_getElem? (i := 40) rfl)) rfl
theorem co_X8_startBribing : Cond.code yX8_startBribing cX8_startBribing 2 none ∈ TW := tw_mem (in_tables_1_5 (List.mem_of_getElem? (i := 41) rfl)) rfl
theorem ml_L_156 : Cond.methodLink RL 156 yL_wander ∈ TW := tw_mem (in_tables_1_5 (List.mem_of_getElem? (i := 42) rfl)) rfl
theorem sm_L_wander : Cond.static yL_wander ∈ TW := tw_mem (in_tables_1_5 (List.mem_of_getElem? (i := 43) rfl)) rfl
theorem ml_L_33 : Cond.methodLink RL 33 yX11_wander ∈ TW := tw_mem (in_tables_1_5 (List.mem_of_getElem? (i := 45) rfl)) rfl
theorem im_X11_wander : Cond.instanceMethod yX11_wander ∈ TW := tw_mem (in_tables_1_5 (List.mem_of_getElem? (i := 46) rfl)) rfl
theorem se_X11_wander : Cond.selects RX11 yX11_wander yX11_wander ∈ TW := tw_mem (in_tables_1_5 (List.mem_of_getElem? (i := 47) rfl)) rfl
theorem co_X11_wander : Cond.code yX11_wander cX11_wander 5 (some .int) ∈ TW := tw_mem (in_tables_1_5 (List.mem_of_getElem? (i := 48) rfl)) rfl
theorem ml_X11_225 : Cond.methodLink RX11 225 yX8_move ∈ TW := tw_mem (in_tables_1_5 (List.mem_of_getElem? (i := 49) rfl)) rfl
theorem im_X8_move : Cond.instanceMethod yX8_move ∈ TW := tw_mem (in_tables_1_5 (List.mem_of_getElem? (i := 50) rfl)) rfl
theorem se_X8_move : Cond.selects RX8 yX8_move yX8_move ∈ TW := tw_mem (in_tables_1_5 (List.mem_of_getElem? (i := 51) rfl)) rfl
theorem co_X8_move : Cond.code yX8_move cX8_move 4 none ∈ TW := tw_mem (in_tables_1_5 (List.mem_of_getElem? (i := 52) rfl)) rfl
theorem ml_L_160 : Cond.methodLink RL 160 yL_earn ∈ TW := tw_mem (in_tables_1_5 (List.mem_of_getElem? (i := 54) rfl)) rfl
theorem sm_L_earn : Cond.static yL_earn ∈ TW := tw_mem (in_tables_1_5 (List.mem_of_getElem? (i := 55) rfl)) rfl
theorem ml_L_37 : Cond.methodLink RL 37 yX11_earn ∈ TW := tw_mem (in_tables_1_5 (List.mem_of_getElem? (i := 57) rfl)) rfl
theorem im_X11_earn : Cond.instanceMethod yX11_earn ∈ TW := tw_mem (in_tables_1_5 (List.mem_of_getElem? (i := 58) rfl)) rfl
theorem se_X11_earn : Cond.selects RX11 yX11_earn yX11_earn ∈ TW := tw_mem (in_tables_1_5 (List.mem_of_getElem? (i := 59) rfl)) rfl
theorem co_X11_earn : Cond.code yX11_earn cX11_earn 3 (some .int) ∈ TW := tw_mem (in_tables_1_5 (List.mem_of_getElem? (i := 60) rfl)) rfl
theorem ml_X11_229 : Cond.methodLink RX11 229 yX8_addCoins ∈ TW := tw_mem (in_tables_1_5 (List.mem_of_getElem? (i := 61) rfl)) rfl
theorem im_X8_addCoins : Cond.instanceMethod yX8_addCoins ∈ TW := tw_mem (in_tables_1_5 (List.mem_of_getElem? (i := 62) rfl)) rfl
theorem se_X8_addCoins : Cond.selects RX8 yX8_addCoins yX8_addCoins ∈ TW := tw_mem (in_tables_1_5 (List.mem_of_getElem? (i := 63) rfl)) rfl
theorem co_X8_addCoins : Cond.code yX8_addCoins cX8_addCoins 3 none ∈ TW := tw_mem (in_tables_1_5 (List.mem_of_getElem? (i := 64) rfl)) rfl
theorem ml_X8_58 : Cond.methodLink RX8 58 yJ9_min_7cf53 ∈ TW := tw_mem (in_tables_1_5 (List.mem_of_getElem? (i := 65) rfl)) rfl
theorem ml_L_171 : Cond.methodLink RL 171 yL_lots ∈ TW := tw_mem (in_tables_1_5 (List.mem_of_getElem? (i := 66) rfl)) rfl
theorem sm_L_lots : Cond.static yL_lots ∈ TW := tw_mem (in_tables_1_5 (List.mem_of_getElem? (i := 67) rfl)) rfl
theorem ml_L_40 : Cond.methodLink RL 40 yX11_lots ∈ TW := tw_mem (in_tables_1_5 (List.mem_of_getElem? (i := 69) rfl)) rfl
theorem im_X11_lots : Cond.instanceMethod yX11_lots ∈ TW := tw_mem (in_tables_1_5 (List.mem_of_getElem? (i := 70) rfl)) rfl
theorem se_X11_lots : Cond.selects RX11 yX11_lots yX11_lots ∈ TW := tw_mem (in_tables_1_5 (List.mem_of_getElem? (i := 71) rfl)) rfl
theorem co_X11_lots : Cond.code yX11_lots cX11_lots 2 (some .int) ∈ TW := tw_mem (in_tables_1_5 (List.mem_of_getElem? (i := 72) rfl)) rfl
theorem ml_X11_236 : Cond.methodLink RX11 236 yX11_needWithin ∈ TW := tw_mem (in_tables_1_5 (List.mem_of_getElem? (i := 73) rfl)) rfl
theorem sm_X11_needWithin : Cond.static yX11_needWithin ∈ TW := tw_mem (in_tables_1_5 (List.mem_of_getElem? (i := 74) rfl)) rfl
theorem co_X11_needWithin : Cond.code yX11_needWithin cX11_needWithin 3 none ∈ TW := tw_mem (in_tables_1_5 (List.mem_of_getElem? (i := 75) rfl)) rfl
theorem ml_X11_239 : Cond.methodLink RX11 239 yX9_lotsIn ∈ TW := tw_mem (in_tables_1_5 (List.mem_of_getElem? (i := 77) rfl)) rfl
theorem im_X9_lotsIn : Cond.instanceMethod yX9_lotsIn ∈ TW := tw_mem (in_tables_1_5 (List.mem_of_getElem? (i := 78) rfl)) rfl
theorem se_X9_lotsIn : Cond.selects RX9 yX9_lotsIn yX9_lotsIn ∈ TW := tw_mem (in_tables_1_5 (List.mem_of_getElem? (i := 79) rfl)) rfl
theorem co_X9_lotsIn : Cond.code yX9_lotsIn cX9_lotsIn 5 (some .int) ∈ TW := tw_mem (in_tables_1_5 (List.mem_of_getElem? (i := 80) rfl)) rfl
theorem ml_X9_102 : Cond.methodLink RX9 102 yX9_seenIn ∈ TW := tw_mem (in_tables_1_5 (List.mem_of_getElem? (i := 81) rfl)) rfl
theorem ml_L_174 : Cond.methodLink RL 174 yL_sold ∈ TW := tw_mem (in_tables_1_5 (List.mem_of_getElem? (i := 82) rfl)) rfl
theorem sm_L_sold : Cond.static yL_sold ∈ TW := tw_mem (in_tables_1_5 (List.mem_of_getElem? (i := 83) rfl)) rfl
theorem ml_L_43 : Cond.methodLink RL 43 yX11_sold ∈ TW := tw_mem (in_tables_1_5 (List.mem_of_getElem? (i := 85) rfl)) rfl
theorem im_X11_sold : Cond.instanceMethod yX11_sold ∈ TW := tw_mem (in_tables_1_5 (List.mem_of_getElem? (i := 86) rfl)) rfl
theorem se_X11_sold : Cond.selects RX11 yX11_sold yX11_sold ∈ TW := tw_mem (in_tables_1_5 (List.mem_of_getElem? (i := 87) rfl)) rfl
theorem co_X11_sold : Cond.code yX11_sold cX11_sold 4 (some .int) ∈ TW := tw_mem (in_tables_1_5 (List.mem_of_getElem? (i := 88) rfl)) rfl
theorem ml_X11_243 : Cond.methodLink RX11 243 yX11_goAhead ∈ TW := tw_mem (in_tables_1_5 (List.mem_of_getElem? (i := 89) rfl)) rfl
theorem im_X11_goAhead : Cond.instanceMethod yX11_goAhead ∈ TW := tw_mem (in_tables_1_5 (List.mem_of_getElem? (i := 91) rfl)) rfl
theorem co_X11_goAhead : Cond.code yX11_goAhead cX11_goAhead 3 none ∈ TW := tw_mem (in_tables_1_5 (List.mem_of_getElem? (i := 92) rfl)) rfl
theorem ml_X11_276 : Cond.methodLink RX11 276 yX8_copy ∈ TW := tw_mem (in_tables_1_5 (List.mem_of_getElem? (i := 93) rfl)) rfl
theorem ml_L_177 : Cond.methodLink RL 177 yL_then ∈ TW := tw_mem (in_tables_1_5 (List.mem_of_getElem? (i := 94) rfl)) rfl
theorem sm_L_then : Cond.static yL_then ∈ TW := tw_mem (in_tables_1_5 (List.mem_of_getElem? (i := 95) rfl)) rfl
theorem ml_L_46 : Cond.methodLink RL 46 yX11_then ∈ TW := tw_mem (in_tables_1_5 (List.mem_of_getElem? (i := 97) rfl)) rfl
theorem im_X11_then : Cond.instanceMethod yX11_then ∈ TW := tw_mem (in_tables_1_5 (List.mem_of_getElem? (i := 98) rfl)) rfl
theorem se_X11_then : Cond.selects RX11 yX11_then yX11_then ∈ TW := tw_mem (in_tables_1_5 (List.mem_of_getElem? (i := 99) rfl)) rfl
theorem co_X11_then : Cond.code yX11_then cX11_then 4 (some .int) ∈ TW := tw_mem (in_tables_1_5 (List.mem_of_getElem? (i := 100) rfl)) rfl
theorem ml_L_180 : Cond.methodLink RL 180 yL_dark ∈ TW := tw_mem (in_tables_1_5 (List.mem_of_getElem? (i := 101) rfl)) rfl
theorem sm_L_dark : Cond.static yL_dark ∈ TW := tw_mem (in_tables_1_5 (List.mem_of_getElem? (i := 102) rfl)) rfl
theorem ml_L_49 : Cond.methodLink RL 49 yX11_dark ∈ TW := tw_mem (in_tables_1_5 (List.mem_of_getElem? (i := 104) rfl)) rfl
theorem im_X11_dark : Cond.instanceMethod yX11_dark ∈ TW := tw_mem (in_tables_1_5 (List.mem_of_getElem? (i := 105) rfl)) rfl
theorem se_X11_dark : Cond.selects RX11 yX11_dark yX11_dark ∈ TW := tw_mem (in_tables_1_5 (List.mem_of_getElem? (i := 106) rfl)) rfl
theorem co_X11_dark : Cond.code yX11_dark cX11_dark 2 (some .int) ∈ TW := tw_mem (in_tables_1_5 (List.mem_of_getElem? (i := 107) rfl)) rfl
theorem ml_L_183 : Cond.methodLink RL 183 yL_first ∈ TW := tw_mem (in_tables_1_5 (List.mem_of_getElem? (i := 108) rfl)) rfl
theorem sm_L_first : Cond.static yL_first ∈ TW := tw_mem (in_tables_1_5 (List.mem_of_getElem? (i := 109) rfl)) rfl
theorem ml_L_52 : Cond.methodLink RL 52 yX11_first ∈ TW := tw_mem (in_tables_1_5 (List.mem_of_getElem? (i := 111) rfl)) rfl
theorem im_X11_first : Cond.instanceMethod yX11_first ∈ TW := tw_mem (in_tables_1_5 (List.mem_of_getElem? (i := 112) rfl)) rfl
theorem se_X11_first : Cond.selects RX11 yX11_first yX11_first ∈ TW := tw_mem (in_tables_1_5 (List.mem_of_getElem? (i := 113) rfl)) rfl
theorem co_X11_first : Cond.code yX11_first cX11_first 2 (some .int) ∈ TW := tw_mem (in_tables_1_5 (List.mem_of_getElem? (i := 114) rfl)) rfl
theorem ml_L_190 : Cond.methodLink RL 190 yL_haunt ∈ TW := tw_mem (in_tables_1_5 (List.mem_of_getElem? (i := 115) rfl)) rfl
theorem sm_L_haunt : Cond.static yL_haunt ∈ TW := tw_mem (in_tables_1_5 (List.mem_of_getElem? (i := 116) rfl)) rfl
theorem ml_L_55 : Cond.methodLink RL 55 yX11_haunt ∈ TW := tw_mem (in_tables_1_5 (List.mem_of_getElem? (i := 118) rfl)) rfl
theorem im_X11_haunt : Cond.instanceMethod yX11_haunt ∈ TW := tw_mem (in_tables_1_5 (List.mem_of_getElem? (i := 119) rfl)) rfl
theorem se_X11_haunt : Cond.selects RX11 yX11_haunt yX11_haunt ∈ TW := tw_mem (in_tables_1_5 (List.mem_of_getElem? (i := 120) rfl)) rfl
theorem co_X11_haunt : Cond.code yX11_haunt cX11_haunt 6 (some .int) ∈ TW := tw_mem (in_tables_1_5 (List.mem_of_getElem? (i := 121) rfl)) rfl
theorem ml_X11_255 : Cond.methodLink RX11 255 yX9_seenAt ∈ TW := tw_mem (in_tables_1_5 (List.mem_of_getElem? (i := 122) rfl)) rfl
theorem im_X9_seenAt : Cond.instanceMethod yX9_seenAt ∈ TW := tw_mem (in_tables_1_5 (List.mem_of_getElem? (i := 123) rfl)) rfl
theorem se_X9_seenAt : Cond.selects RX9 yX9_seenAt yX9_seenAt ∈ TW := tw_mem (in_tables_1_5 (List.mem_of_getElem? (i := 124) rfl)) rfl
theorem co_X9_seenAt : Cond.code yX9_seenAt cX9_seenAt 8 (some .int) ∈ TW := tw_mem (in_tables_1_5 (List.mem_of_getElem? (i := 125) rfl)) rfl
theorem ml_X9_106 : Cond.methodLink RX9 106 yJ6_bitCount_0f7a4 ∈ TW := tw_mem (in_tables_1_5 (List.mem_of_getElem? (i := 126) rfl)) rfl
theorem ml_L_193 : Cond.methodLink RL 193 yL_watch ∈ TW := tw_mem (in_tables_1_5 (List.mem_of_getElem? (i := 127) rfl)) rfl
theorem sm_L_watch : Cond.static yL_watch ∈ TW := tw_mem (in_tables_1_5 (List.mem_of_getElem? (i := 128) rfl)) rfl
theorem ml_L_58 : Cond.methodLink RL 58 yX11_watch ∈ TW := tw_mem (in_tables_1_5 (List.mem_of_getElem? (i := 130) rfl)) rfl
theorem im_X11_watch : Cond.instanceMethod yX11_watch ∈ TW := tw_mem (in_tables_1_5 (List.mem_of_getElem? (i := 131) rfl)) rfl
theorem se_X11_watch : Cond.selects RX11 yX11_watch yX11_watch ∈ TW := tw_mem (in_tables_1_5 (List.mem_of_getElem? (i := 132) rfl)) rfl
theorem co_X11_watch : Cond.code yX11_watch cX11_watch 3 (some .int) ∈ TW := tw_mem (in_tables_1_5 (List.mem_of_getElem? (i := 133) rfl)) rfl
theorem ml_X11_259 : Cond.methodLink RX11 259 yX9_watchAt ∈ TW := tw_mem (in_tables_1_5 (List.mem_of_getElem? (i := 134) rfl)) rfl
theorem ml_L_196 : Cond.methodLink RL 196 yL_way ∈ TW := tw_mem (in_tables_1_5 (List.mem_of_getElem? (i := 135) rfl)) rfl
theorem sm_L_way : Cond.static yL_way ∈ TW := tw_mem (in_tables_1_5 (List.mem_of_getElem? (i := 136) rfl)) rfl
theorem ml_L_61 : Cond.methodLink RL 61 yX11_way ∈ TW := tw_mem (in_tables_1_5 (List.mem_of_getElem? (i := 138) rfl)) rfl
theorem im_X11_way : Cond.instanceMethod yX11_way ∈ TW := tw_mem (in_tables_1_5 (List.mem_of_getElem? (i := 139) rfl)) rfl
theorem se_X11_way : Cond.selects RX11 yX11_way yX11_way ∈ TW := tw_mem (in_tables_1_5 (List.mem_of_getElem? (i := 140) rfl)) rfl
theorem co_X11_way : Cond.code yX11_way cX11_way 5 (some .int) ∈ TW := tw_mem (in_tables_1_5 (List.mem_of_getElem? (i := 141) rfl)) rfl
theorem ml_X11_262 : Cond.methodLink RX11 262 yX9_spread ∈ TW := tw_mem (in_tables_1_5 (List.mem_of_getElem? (i := 142) rfl)) rfl
theorem im_X9_spread : Cond.instanceMethod yX9_spread ∈ TW := tw_mem (in_tables_1_5 (List.mem_of_getElem? (i := 143) rfl)) rfl
theorem se_X9_spread : Cond.selects RX9 yX9_spread yX9_spread ∈ TW := tw_mem (in_tables_1_5 (List.mem_of_getElem? (i := 144) rfl)) rfl
theorem co_X9_spread : Cond.code yX9_spread cX9_spread 4 (some .int) ∈ TW := tw_mem (in_tables_1_5 (List.mem_of_getElem? (i := 145) rfl)) rfl
theorem ml_L_199 : Cond.methodLink RL 199 yL_sneak ∈ TW := tw_mem (in_tables_1_5 (List.mem_of_getElem? (i := 146) rfl)) rfl
theorem sm_L_sneak : Cond.static yL_sneak ∈ TW := tw_mem (in_tables_1_5 (List.mem_of_getElem? (i := 147) rfl)) rfl
theorem ml_L_64 : Cond.methodLink RL 64 yX11_sneak ∈ TW := tw_mem (in_tables_1_5 (List.mem_of_getElem? (i := 149) rfl)) rfl
theorem im_X11_sneak : Cond.instanceMethod yX11_sneak ∈ TW := tw_mem (in_tables_1_5 (List.mem_of_getElem? (i := 150) rfl)) rfl
theorem se_X11_sneak : Cond.selects RX11 yX11_sneak yX11_sneak ∈ TW := tw_mem (in_tables_1_5 (List.mem_of_getElem? (i := 151) rfl)) rfl
theorem co_X11_sneak : Cond.code yX11_sneak cX11_sneak 5 (some .int) ∈ TW := tw_mem (in_tables_1_5 (List.mem_of_getElem? (i := 152) rfl)) rfl
theorem ml_L_202 : Cond.methodLink RL 202 yL_safe ∈ TW := tw_mem (in_tables_1_5 (List.mem_of_getElem? (i := 153) rfl)) rfl
theorem sm_L_safe : Cond.static yL_safe ∈ TW := tw_mem (in_tables_1_5 (List.mem_of_getElem? (i := 154) rfl)) rfl
theorem ml_L_67 : Cond.methodLink RL 67 yX11_safe ∈ TW := tw_mem (in_tables_1_5 (List.mem_of_getElem? (i := 156) rfl)) rfl
theorem im_X11_safe : Cond.instanceMethod yX11_safe ∈ TW := tw_mem (in_tables_1_5 (List.mem_of_getElem? (i := 157) rfl)) rfl
theorem se_X11_safe : Cond.selects RX11 yX11_safe yX11_safe ∈ TW := tw_mem (in_tables_1_5 (List.mem_of_getElem? (i := 158) rfl)) rfl
theorem co_X11_safe : Cond.code yX11_safe cX11_safe 5 (some .int) ∈ TW := tw_mem (in_tables_1_5 (List.mem_of_getElem? (i := 159) rfl)) rfl
theorem ml_X11_265 : Cond.methodLink RX11 265 yX11_isSafe ∈ TW := tw_mem (in_tables_1_5 (List.mem_of_getElem? (i := 160) rfl)) rfl
theorem im_X11_isSafe : Cond.instanceMethod yX11_isSafe ∈ TW := tw_mem (in_tables_1_5 (List.mem_of_getElem? (i := 162) rfl)) rfl
theorem co_X11_isSafe : Cond.code yX11_isSafe cX11_isSafe 5 (some .boolean) ∈ TW := tw_mem (in_tables_1_5 (List.mem_of_getElem? (i := 163) rfl)) rfl
theorem ml_X11_371 : Cond.methodLink RX11 371 yX9_placeAt ∈ TW := tw_mem (in_tables_1_5 (List.mem_of_getElem? (i := 164) rfl)) rfl
theorem ml_L_205 : Cond.methodLink RL 205 yL_toHide ∈ TW := tw_mem (in_tables_1_5 (List.mem_of_getElem? (i := 165) rfl)) rfl
theorem sm_L_toHide : Cond.static yL_toHide ∈ TW := tw_mem (in_tables_1_5 (List.mem_of_getElem? (i := 166) rfl)) rfl
theorem ml_L_70 : Cond.methodLink RL 70 yX11_toHide ∈ TW := tw_mem (in_tables_1_5 (List.mem_of_getElem? (i := 168) rfl)) rfl
theorem im_X11_toHide : Cond.instanceMethod yX11_toHide ∈ TW := tw_mem (in_tables_1_5 (List.mem_of_getElem? (i := 169) rfl)) rfl
theorem se_X11_toHide : Cond.selects RX11 yX11_toHide yX11_toHide ∈ TW := tw_mem (in_tables_1_5 (List.mem_of_getElem? (i := 170) rfl)) rfl
theorem co_X11_toHide : Cond.code yX11_toHide cX11_toHide 5 (some .int) ∈ TW := tw_mem (in_tables_1_5 (List.mem_of_getElem? (i := 171) rfl)) rfl
theorem ml_X11_269 : Cond.methodLink RX11 269 yX11_canHide ∈ TW := tw_mem (in_tables_1_5 (List.mem_of_getElem? (i := 172) rfl)) rfl
theorem im_X11_canHide : Cond.instanceMethod yX11_canHide ∈ TW := tw_mem (in_tables_1_5 (List.mem_of_getElem? (i := 174) rfl)) rfl
theorem co_X11_canHide : Cond.code yX11_canHide cX11_canHide 4 (some .boolean) ∈ TW := tw_mem (in_tables_1_5 (List.mem_of_getElem? (i := 175) rfl)) rfl
theorem ml_L_208 : Cond.methodLink RL 208 yL_toWin ∈ TW := tw_mem (in_tables_1_5 (List.mem_of_getElem? (i := 176) rfl)) rfl
theorem sm_L_toWin : Cond.static yL_toWin ∈ TW := tw_mem (in_tables_1_5 (List.mem_of_getElem? (i := 177) rfl)) rfl
theorem ml_L_73 : Cond.methodLink RL 73 yX11_toWin ∈ TW := tw_mem (in_tables_1_5 (List.mem_of_getElem? (i := 179) rfl)) rfl
theorem im_X11_toWin : Cond.instanceMethod yX11_toWin ∈ TW := tw_mem (in_tables_1_5 (List.mem_of_getElem? (i := 180) rfl)) rfl
theorem se_X11_toWin : Cond.selects RX11 yX11_toWin yX11_toWin ∈ TW := tw_mem (in_tables_1_5 (List.mem_of_getElem? (i := 181) rfl)) rfl
theorem co_X11_toWin : Cond.code yX11_toWin cX11_toWin 4 (some .int) ∈ TW := tw_mem (in_tables_1_5 (List.mem_of_getElem? (i := 182) rfl)) rfl
theorem ml_X11_273 : Cond.methodLink RX11 273 yX11_wouldBuy ∈ TW := tw_mem (in_tables_1_5 (List.mem_of_getElem? (i := 183) rfl)) rfl
theorem im_X11_wouldBuy : Cond.instanceMethod yX11_wouldBuy ∈ TW := tw_mem (in_tables_1_5 (List.mem_of_getElem? (i := 185) rfl)) rfl
theorem co_X11_wouldBuy : Cond.code yX11_wouldBuy cX11_wouldBuy 5 (some .boolean) ∈ TW := tw_mem (in_tables_1_5 (List.mem_of_getElem? (i := 186) rfl)) rfl
theorem ml_X11_374 : Cond.methodLink RX11 374 yX11_put ∈ TW := tw_mem (in_tables_1_5 (List.mem_of_getElem? (i := 187) rfl)) rfl
theorem ml_X11_280 : Cond.methodLink RX11 280 yX6_open ∈ TW := tw_mem (in_tables_1_5 (List.mem_of_getElem? (i := 188) rfl)) rfl
theorem ml_X11_378 : Cond.methodLink RX11 378 yX6_sell ∈ TW := tw_mem (in_tables_1_5 (List.mem_of_getElem? (i := 189) rfl)) rfl
theorem ml_L_211 : Cond.methodLink RL 211 yL_given ∈ TW := tw_mem (in_tables_1_5 (List.mem_of_getElem? (i := 190) rfl)) rfl
theorem sm_L_given : Cond.static yL_given ∈ TW := tw_mem (in_tables_1_5 (List.mem_of_getElem? (i := 191) rfl)) rfl
theorem ml_L_76 : Cond.methodLink RL 76 yX11_given ∈ TW := tw_mem (in_tables_1_5 (List.mem_of_getElem? (i := 193) rfl)) rfl
theorem im_X11_given : Cond.instanceMethod yX11_given ∈ TW := tw_mem (in_tables_1_5 (List.mem_of_getElem? (i := 194) rfl)) rfl
theorem se_X11_given : Cond.selects RX11 yX11_given yX11_given ∈ TW := tw_mem (in_tables_1_5 (List.mem_of_getElem? (i := 195) rfl)) rfl
theorem co_X11_given : Cond.code yX11_given cX11_given 2 (some .int) ∈ TW := tw_mem (in_tables_1_5 (List.mem_of_getElem? (i := 196) rfl)) rfl
theorem ml_X11_283 : Cond.methodLink RX11 283 yX3_giveOut ∈ TW := tw_mem (in_tables_1_5 (List.mem_of_getElem? (i := 197) rfl)) rfl
theorem im_X3_giveOut : Cond.instanceMethod yX3_giveOut ∈ TW := tw_mem (in_tables_1_5 (List.mem_of_getElem? (i := 198) rfl)) rfl
theorem se_X3_giveOut : Cond.selects RX3 yX3_giveOut yX3_giveOut ∈ TW := tw_mem (in_tables_1_5 (List.mem_of_getElem? (i := 199) rfl)) rfl
theorem co_X3_giveOut : Cond.code yX3_giveOut cX3_giveOut 7 none ∈ TW := tw_mem (in_tables_1_5 (List.mem_of_getElem? (i := 200) rfl)) rfl
theorem ml_X3_27 : Cond.methodLink RX3 27 yX6_hasLot ∈ TW := tw_mem (in_tables_1_5 (List.mem_of_getElem? (i := 201) rfl)) rfl
theorem ml_X3_33 : Cond.methodLink RX3 33 yX6_bid ∈ TW := tw_mem (in_tables_1_5 (List.mem_of_getElem? (i := 202) rfl)) rfl
theorem ml_X3_41 : Cond.methodLink RX3 41 yX3_bestFrom ∈ TW := tw_mem (in_tables_1_5 (List.mem_of_getElem? (i := 204) rfl)) rfl
theorem im_X3_bestFrom : Cond.instanceMethod yX3_bestFrom ∈ TW := tw_mem (in_tables_1_5 (List.mem_of_getElem? (i := 206) rfl)) rfl
theorem co_X3_bestFrom : Cond.code yX3_bestFrom cX3_bestFrom 5 (some .int) ∈ TW := tw_mem (in_tables_1_5 (List.mem_of_getElem? (i := 207) rfl)) rfl
theorem ml_X3_52 : Cond.methodLink RX3 52 yX3_sumWith ∈ TW := tw_mem (in_tables_1_5 (List.mem_of_getElem? (i := 209) rfl)) rfl
theorem im_X3_sumWith : Cond.instanceMethod yX3_sumWith ∈ TW := tw_mem (in_tables_1_5 (List.mem_of_getElem? (i := 211) rfl)) rfl
theorem co_X3_sumWith : Cond.code yX3_sumWith cX3_sumWith 5 (some .int) ∈ TW := tw_mem (in_tables_1_5 (List.mem_of_getElem? (i := 212) rfl)) rfl
theorem ml_X3_56 : Cond.methodLink RX3 56 yJ9_max_7cf53 ∈ TW := tw_mem (in_tables_1_5 (List.mem_of_getElem? (i := 213) rfl)) rfl
theorem ml_X3_45 : Cond.methodLink RX3 45 yX3_chooseFirstRow ∈ TW := tw_mem (in_tables_1_5 (List.mem_of_getElem? (i := 214) rfl)) rfl
theorem im_X3_chooseFirstRow : Cond.instanceMethod yX3_chooseFirstRow ∈ TW := tw_mem (in_tables_1_5 (List.mem_of_getElem? (i := 216) rfl)) rfl
theorem co_X3_chooseFirstRow : Cond.code yX3_chooseFirstRow cX3_chooseFirstRow 4 none ∈ TW := tw_mem (in_tables_1_5 (List.mem_of_getElem? (i := 217) rfl)) rfl
theorem ml_X3_61 : Cond.methodLink RX3 61 yX3_takerOf ∈ TW := tw_mem (in_tables_1_5 (List.mem_of_getElem? (i := 218) rfl)) rfl
theorem im_X3_takerOf : Cond.instanceMethod yX3_takerOf ∈ TW := tw_mem (in_tables_1_5 (List.mem_of_getElem? (i := 220) rfl)) rfl
theorem co_X3_takerOf : Cond.code yX3_takerOf cX3_takerOf 5 (some .int) ∈ TW := tw_mem (in_tables_1_5 (List.mem_of_getElem? (i := 221) rfl)) rfl
theorem ml_X11_287 : Cond.methodLink RX11 287 yX3_allTogether ∈ TW := tw_mem (in_tables_1_5 (List.mem_of_getElem? (i := 222) rfl)) rfl
theorem im_X3_allTogether : Cond.instanceMethod yX3_allTogether ∈ TW := tw_mem (in_tables_1_5 (List.mem_of_getElem? (i := 223) rfl)) rfl
theorem se_X3_allTogether : Cond.selects RX3 yX3_allTogether yX3_allTogether ∈ TW := tw_mem (in_tables_1_5 (List.mem_of_getElem? (i := 224) rfl)) rfl
theorem co_X3_allTogether : Cond.code yX3_allTogether cX3_allTogether 1 (some .int) ∈ TW := tw_mem (in_tables_1_5 (List.mem_of_getElem? (i := 225) rfl)) rfl
theorem ml_L_214 : Cond.methodLink RL 214 yL_gossip ∈ TW := tw_mem (in_tables_1_5 (List.mem_of_getElem? (i := 226) rfl)) rfl
theorem sm_L_gossip : Cond.static yL_gossip ∈ TW := tw_mem (in_tables_1_5 (List.mem_of_getElem? (i := 227) rfl)) rfl
theorem ml_L_79 : Cond.methodLink RL 79 yX11_gossip ∈ TW := tw_mem (in_tables_1_5 (List.mem_of_getElem? (i := 229) rfl)) rfl
theorem im_X11_gossip : Cond.instanceMethod yX11_gossip ∈ TW := tw_mem (in_tables_1_5 (List.mem_of_getElem? (i := 230) rfl)) rfl
theorem se_X11_gossip : Cond.selects RX11 yX11_gossip yX11_gossip ∈ TW := tw_mem (in_tables_1_5 (List.mem_of_getElem? (i := 231) rfl)) rfl
theorem co_X11_gossip : Cond.code yX11_gossip cX11_gossip 4 (some .int) ∈ TW := tw_mem (in_tables_1_5 (List.mem_of_getElem? (i := 232) rfl)) rfl
theorem ml_X11_293 : Cond.methodLink RX11 293 yX8_knownBy ∈ TW := tw_mem (in_tables_1_5 (List.mem_of_getElem? (i := 233) rfl)) rfl
theorem im_X8_knownBy : Cond.instanceMethod yX8_knownBy ∈ TW := tw_mem (in_tables_1_5 (List.mem_of_getElem? (i := 234) rfl)) rfl
theorem se_X8_knownBy : Cond.selects RX8 yX8_knownBy yX8_knownBy ∈ TW := tw_mem (in_tables_1_5 (List.mem_of_getElem? (i := 235) rfl)) rfl
theorem co_X8_knownBy : Cond.code yX8_knownBy cX8_knownBy 4 (some .int) ∈ TW := tw_mem (in_tables_1_5 (List.mem_of_getElem? (i := 236) rfl)) rfl
theorem ml_L_217 : Cond.methodLink RL 217 yL_most ∈ TW := tw_mem (in_tables_1_5 (List.mem_of_getElem? (i := 237) rfl)) rfl
theorem sm_L_most : Cond.static yL_most ∈ TW := tw_mem (in_tables_1_5 (List.mem_of_getElem? (i := 238) rfl)) rfl
theorem ml_L_82 : Cond.methodLink RL 82 yX11_most ∈ TW := tw_mem (in_tables_1_6 (List.mem_of_getElem? (i := 0) rfl)) rfl
theorem im_X11_most : Cond.instanceMethod yX11_most ∈ TW := tw_mem (in_tables_1_6 (List.mem_of_getElem? (i := 1) rfl)) rfl
theorem se_X11_most : Cond.selects RX11 yX11_most yX11_most ∈ TW := tw_mem (in_tables_1_6 (List.mem_of_getElem? (i := 2) rfl)) rfl
theorem co_X11_most : Cond.code yX11_most cX11_most 6 (some .int) ∈ TW := tw_mem (in_tables_1_6 (List.mem_of_getElem? (i := 3) rfl)) rfl
theorem ml_X11_296 : Cond.methodLink RX11 296 yX8_knowers ∈ TW := tw_mem (in_tables_1_6 (List.mem_of_getElem? (i := 4) rfl)) rfl
theorem im_X8_knowers : Cond.instanceMethod yX8_knowers ∈ TW := tw_mem (in_tables_1_6 (List.mem_of_getElem? (i := 5) rfl)) rfl
theorem se_X8_knowers : Cond.selects RX8 yX8_knowers yX8_knowers ∈ TW := tw_mem (in_tables_1_6 (List.mem_of_getElem? (i := 6) rfl)) rfl
theorem co_X8_knowers : Cond.code yX8_knowers cX8_knowers 4 (some .int) ∈ TW := tw_mem (in_tables_1_6 (List.mem_of_getElem? (i := 7) rfl)) rfl
theorem ml_X11_299 : Cond.methodLink RX11 299 yJ6_bitCount_0f7a4 ∈ TW := tw_mem (in_tables_1_6 (List.mem_of_getElem? (i := 8) rfl)) rfl
theorem ml_L_220 : Cond.methodLink RL 220 yL_lantern ∈ TW := tw_mem (in_tables_1_6 (List.mem_of_getElem? (i := 9) rfl)) rfl
theorem sm_L_lantern : Cond.static yL_lantern ∈ TW := tw_mem (in_tables_1_6 (List.mem_of_getElem? (i := 10) rfl)) rfl
theorem ml_L_85 : Cond.methodLink RL 85 yX11_lantern ∈ TW := tw_mem (in_tables_1_6 (List.mem_of_getElem? (i := 12) rfl)) rfl
theorem im_X11_lantern : Cond.instanceMethod yX11_lantern ∈ TW := tw_mem (in_tables_1_6 (List.mem_of_getElem? (i := 13) rfl)) rfl
theorem se_X11_lantern : Cond.selects RX11 yX11_lantern yX11_lantern ∈ TW := tw_mem (in_tables_1_6 (List.mem_of_getElem? (i := 14) rfl)) rfl
theorem co_X11_lantern : Cond.code yX11_lantern cX11_lantern 4 (some .int) ∈ TW := tw_mem (in_tables_1_6 (List.mem_of_getElem? (i := 15) rfl)) rfl
theorem ml_L_223 : Cond.methodLink RL 223 yL_meet ∈ TW := tw_mem (in_tables_1_6 (List.mem_of_getElem? (i := 16) rfl)) rfl
theorem sm_L_meet : Cond.static yL_meet ∈ TW := tw_mem (in_tables_1_6 (List.mem_of_getElem? (i := 17) rfl)) rfl
theorem ml_L_88 : Cond.methodLink RL 88 yX11_meet ∈ TW := tw_mem (in_tables_1_6 (List.mem_of_getElem? (i := 19) rfl)) rfl
theorem im_X11_meet : Cond.instanceMethod yX11_meet ∈ TW := tw_mem (in_tables_1_6 (List.mem_of_getElem? (i := 20) rfl)) rfl
theorem se_X11_meet : Cond.selects RX11 yX11_meet yX11_meet ∈ TW := tw_mem (in_tables_1_6 (List.mem_of_getElem? (i := 21) rfl)) rfl
theorem co_X11_meet : Cond.code yX11_meet cX11_meet 5 (some .int) ∈ TW := tw_mem (in_tables_1_6 (List.mem_of_getElem? (i := 22) rfl)) rfl
theorem ml_X11_304 : Cond.methodLink RX11 304 yX11_streetNow ∈ TW := tw_mem (in_tables_1_6 (List.mem_of_getElem? (i := 23) rfl)) rfl
theorem im_X11_streetNow : Cond.instanceMethod yX11_streetNow ∈ TW := tw_mem (in_tables_1_6 (List.mem_of_getElem? (i := 25) rfl)) rfl
theorem co_X11_streetNow : Cond.code yX11_streetNow cX11_streetNow 3 (some .int) ∈ TW := tw_mem (in_tables_1_6 (List.mem_of_getElem? (i := 26) rfl)) rfl
theorem ml_L_226 : Cond.methodLink RL 226 yL_spends ∈ TW := tw_mem (in_tables_1_6 (List.mem_of_getElem? (i := 27) rfl)) rfl
theorem sm_L_spends : Cond.static yL_spends ∈ TW := tw_mem (in_tables_1_6 (List.mem_of_getElem? (i := 28) rfl)) rfl
theorem ml_L_91 : Cond.methodLink RL 91 yX11_spends ∈ TW := tw_mem (in_tables_1_6 (List.mem_of_getElem? (i := 30) rfl)) rfl
theorem im_X11_spends : Cond.instanceMethod yX11_spends ∈ TW := tw_mem (in_tables_1_6 (List.mem_of_getElem? (i := 31) rfl)) rfl
theorem se_X11_spends : Cond.selects RX11 yX11_spends yX11_spends ∈ TW := tw_mem (in_tables_1_6 (List.mem_of_getElem? (i := 32) rfl)) rfl
theorem co_X11_spends : Cond.code yX11_spends cX11_spends 5 (some .int) ∈ TW := tw_mem (in_tables_1_6 (List.mem_of_getElem? (i := 33) rfl)) rfl
theorem ml_X11_307 : Cond.methodLink RX11 307 yX6_paidBy ∈ TW := tw_mem (in_tables_1_6 (List.mem_of_getElem? (i := 34) rfl)) rfl
theorem im_X6_paidBy : Cond.instanceMethod yX6_paidBy ∈ TW := tw_mem (in_tables_1_6 (List.mem_of_getElem? (i := 35) rfl)) rfl
theorem se_X6_paidBy : Cond.selects RX6 yX6_paidBy yX6_paidBy ∈ TW := tw_mem (in_tables_1_6 (List.mem_of_getElem? (i := 36) rfl)) rfl
theorem co_X6_paidBy : Cond.code yX6_paidBy cX6_paidBy 4 (some .int) ∈ TW := tw_mem (in_tables_1_6 (List.mem_of_getElem? (i := 37) rfl)) rfl
theorem ml_L_229 : Cond.methodLink RL 229 yL_unknown ∈ TW := tw_mem (in_tables_1_6 (List.mem_of_getElem? (i := 38) rfl)) rfl
theorem sm_L_unknown : Cond.static yL_unknown ∈ TW := tw_mem (in_tables_1_6 (List.mem_of_getElem? (i := 39) rfl)) rfl
theorem ml_L_94 : Cond.methodLink RL 94 yX11_unknown ∈ TW := tw_mem (in_tables_1_6 (List.mem_of_getElem? (i := 41) rfl)) rfl
theorem im_X11_unknown : Cond.instanceMethod yX11_unknown ∈ TW := tw_mem (in_tables_1_6 (List.mem_of_getElem? (i := 42) rfl)) rfl
theorem se_X11_unknown : Cond.selects RX11 yX11_unknown yX11_unknown ∈ TW := tw_mem (in_tables_1_6 (List.mem_of_getElem? (i := 43) rfl)) rfl
theorem co_X11_unknown : Cond.code yX11_unknown cX11_unknown 3 (some .int) ∈ TW := tw_mem (in_tables_1_6 (List.mem_of_getElem? (i := 44) rfl)) rfl
theorem ml_L_232 : Cond.methodLink RL 232 yL_tell ∈ TW := tw_mem (in_tables_1_6 (List.mem_of_getElem? (i := 45) rfl)) rfl
theorem sm_L_tell : Cond.static yL_tell ∈ TW := tw_mem (in_tables_1_6 (List.mem_of_getElem? (i := 46) rfl)) rfl
theorem ml_L_97 : Cond.methodLink RL 97 yX11_tell ∈ TW := tw_mem (in_tables_1_6 (List.mem_of_getElem? (i := 48) rfl)) rfl
theorem im_X11_tell : Cond.instanceMethod yX11_tell ∈ TW := tw_mem (in_tables_1_6 (List.mem_of_getElem? (i := 49) rfl)) rfl
theorem se_X11_tell : Cond.selects RX11 yX11_tell yX11_tell ∈ TW := tw_mem (in_tables_1_6 (List.mem_of_getElem? (i := 50) rfl)) rfl
theorem co_X11_tell : Cond.code yX11_tell cX11_tell 4 (some .int) ∈ TW := tw_mem (in_tables_1_6 (List.mem_of_getElem? (i := 51) rfl)) rfl
theorem ml_X11_310 : Cond.methodLink RX11 310 yX7_hasRoom ∈ TW := tw_mem (in_tables_1_6 (List.mem_of_getElem? (i := 52) rfl)) rfl
theorem im_X7_hasRoom : Cond.instanceMethod yX7_hasRoom ∈ TW := tw_mem (in_tables_1_6 (List.mem_of_getElem? (i := 53) rfl)) rfl
theorem se_X7_hasRoom : Cond.selects RX7 yX7_hasRoom yX7_hasRoom ∈ TW := tw_mem (in_tables_1_6 (List.mem_of_getElem? (i := 54) rfl)) rfl
theorem co_X7_hasRoom : Cond.code yX7_hasRoom cX7_hasRoom 1 (some .boolean) ∈ TW := tw_mem (in_tables_1_6 (List.mem_of_getElem? (i := 55) rfl)) rfl
theorem ml_X11_313 : Cond.methodLink RX11 313 yX7_add ∈ TW := tw_mem (in_tables_1_6 (List.mem_of_getElem? (i := 56) rfl)) rfl
theorem im_X7_add : Cond.instanceMethod yX7_add ∈ TW := tw_mem (in_tables_1_6 (List.mem_of_getElem? (i := 57) rfl)) rfl
theorem se_X7_add : Cond.selects RX7 yX7_add yX7_add ∈ TW := tw_mem (in_tables_1_6 (List.mem_of_getElem? (i := 58) rfl)) rfl
theorem co_X7_add : Cond.code yX7_add cX7_add 4 none ∈ TW := tw_mem (in_tables_1_6 (List.mem_of_getElem? (i := 59) rfl)) rfl
theorem ml_L_236 : Cond.methodLink RL 236 yL_otherwise ∈ TW := tw_mem (in_tables_1_6 (List.mem_of_getElem? (i := 61) rfl)) rfl
theorem sm_L_otherwise : Cond.static yL_otherwise ∈ TW := tw_mem (in_tables_1_6 (List.mem_of_getElem? (i := 62) rfl)) rfl
theorem ml_L_101 : Cond.methodLink RL 101 yX11_otherwise ∈ TW := tw_mem (in_tables_1_6 (List.mem_of_getElem? (i := 64) rfl)) rfl
theorem im_X11_otherwise : Cond.instanceMethod yX11_otherwise ∈ TW := tw_mem (in_tables_1_6 (List.mem_of_getElem? (i := 65) rfl)) rfl
theorem se_X11_otherwise : Cond.selects RX11 yX11_otherwise yX11_otherwise ∈ TW := tw_mem (in_tables_1_6 (List.mem_of_getElem? (i := 66) rfl)) rfl
theorem co_X11_otherwise : Cond.code yX11_otherwise cX11_otherwise 2 (some .int) ∈ TW := tw_mem (in_tables_1_6 (List.mem_of_getElem? (i := 67) rfl)) rfl
theorem ml_X11_317 : Cond.methodLink RX11 317 yX4_scan ∈ TW := tw_mem (in_tables_1_6 (List.mem_of_getElem? (i := 68) rfl)) rfl
theorem im_X4_scan : Cond.instanceMethod yX4_scan ∈ TW := tw_mem (in_tables_1_6 (List.mem_of_getElem? (i := 69) rfl)) rfl
theorem se_X4_scan : Cond.selects RX4 yX4_scan yX4_scan ∈ TW := tw_mem (in_tables_1_6 (List.mem_of_getElem? (i := 70) rfl)) rfl
theorem co_X4_scan : Cond.code yX4_scan cX4_scan 5 none ∈ TW := tw_mem (in_tables_1_6 (List.mem_of_getElem? (i := 71) rfl)) rfl
theorem ml_X4_43 : Cond.methodLink RX4 43 yX4_nightsOf ∈ TW := tw_mem (in_tables_1_6 (List.mem_of_getElem? (i := 73) rfl)) rfl
theorem sm_X4_nightsOf : Cond.static yX4_nightsOf ∈ TW := tw_mem (in_tables_1_6 (List.mem_of_getElem? (i := 74) rfl)) rfl
theorem co_X4_nightsOf : Cond.code yX4_nightsOf cX4_nightsOf 6 (some .int) ∈ TW := tw_mem (in_tables_1_6 (List.mem_of_getElem? (i := 75) rfl)) rfl
theorem ml_X4_79 : Cond.methodLink RX4 79 yX9_seenIn ∈ TW := tw_mem (in_tables_1_6 (List.mem_of_getElem? (i := 76) rfl)) rfl
theorem ml_X4_51 : Cond.methodLink RX4 51 yX7_holds ∈ TW := tw_mem (in_tables_1_6 (List.mem_of_getElem? (i := 78) rfl)) rfl
theorem im_X7_holds : Cond.instanceMethod yX7_holds ∈ TW := tw_mem (in_tables_1_6 (List.mem_of_getElem? (i := 79) rfl)) rfl
theorem se_X7_holds : Cond.selects RX7 yX7_holds yX7_holds ∈ TW := tw_mem (in_tables_1_6 (List.mem_of_getElem? (i := 80) rfl)) rfl
theorem co_X7_holds : Cond.code yX7_holds cX7_holds 4 (some .boolean) ∈ TW := tw_mem (in_tables_1_6 (List.mem_of_getElem? (i := 81) rfl)) rfl
theorem ml_X4_57 : Cond.methodLink RX4 57 yX4_tryWalksOf ∈ TW := tw_mem (in_tables_1_6 (List.mem_of_getElem? (i := 83) rfl)) rfl
theorem im_X4_tryWalksOf : Cond.instanceMethod yX4_tryWalksOf ∈ TW := tw_mem (in_tables_1_6 (List.mem_of_getElem? (i := 85) rfl)) rfl
theorem co_X4_tryWalksOf : Cond.code yX4_tryWalksOf cX4_tryWalksOf 10 none ∈ TW := tw_mem (in_tables_1_6 (List.mem_of_getElem? (i := 86) rfl)) rfl
theorem ml_X4_75 : Cond.methodLink RX4 75 yX4_note ∈ TW := tw_mem (in_tables_1_6 (List.mem_of_getElem? (i := 89) rfl)) rfl
theorem im_X4_note : Cond.instanceMethod yX4_note ∈ TW := tw_mem (in_tables_1_6 (List.mem_of_getElem? (i := 91) rfl)) rfl
theorem co_X4_note : Cond.code yX4_note cX4_note 6 none ∈ TW := tw_mem (in_tables_1_6 (List.mem_of_getElem? (i := 92) rfl)) rfl
theorem ml_L_239 : Cond.methodLink RL 239 yL_look ∈ TW := tw_mem (in_tables_1_6 (List.mem_of_getElem? (i := 93) rfl)) rfl
theorem sm_L_look : Cond.static yL_look ∈ TW := tw_mem (in_tables_1_6 (List.mem_of_getElem? (i := 94) rfl)) rfl
theorem ml_L_104 : Cond.methodLink RL 104 yX11_look ∈ TW := tw_mem (in_tables_1_6 (List.mem_of_getElem? (i := 96) rfl)) rfl
theorem im_X11_look : Cond.instanceMethod yX11_look ∈ TW := tw_mem (in_tables_1_6 (List.mem_of_getElem? (i := 97) rfl)) rfl
theorem se_X11_look : Cond.selects RX11 yX11_look yX11_look ∈ TW := tw_mem (in_tables_1_6 (List.mem_of_getElem? (i := 98) rfl)) rfl
theorem co_X11_look : Cond.code yX11_look cX11_look 2 (some .int) ∈ TW := tw_mem (in_tables_1_6 (List.mem_of_getElem? (i := 99) rfl)) rfl
theorem ml_X11_328 : Cond.methodLink RX11 328 yX4_nightToLook ∈ TW := tw_mem (in_tables_1_6 (List.mem_of_getElem? (i := 100) rfl)) rfl
theorem im_X4_nightToLook : Cond.instanceMethod yX4_nightToLook ∈ TW := tw_mem (in_tables_1_6 (List.mem_of_getElem? (i := 101) rfl)) rfl
theorem se_X4_nightToLook : Cond.selects RX4 yX4_nightToLook yX4_nightToLook ∈ TW := tw_mem (in_tables_1_6 (List.mem_of_getElem? (i := 102) rfl)) rfl
theorem co_X4_nightToLook : Cond.code yX4_nightToLook cX4_nightToLook 3 (some .int) ∈ TW := tw_mem (in_tables_1_6 (List.mem_of_getElem? (i := 103) rfl)) rfl
theorem ml_X4_97 : Cond.methodLink RX4 97 yX4_mostUnlike ∈ TW := tw_mem (in_tables_1_6 (List.mem_of_getElem? (i := 104) rfl)) rfl
theorem im_X4_mostUnlike : Cond.instanceMethod yX4_mostUnlike ∈ TW := tw_mem (in_tables_1_6 (List.mem_of_getElem? (i := 105) rfl)) rfl
theorem se_X4_mostUnlike : Cond.selects RX4 yX4_mostUnlike yX4_mostUnlike ∈ TW := tw_mem (in_tables_1_6 (List.mem_of_getElem? (i := 106) rfl)) rfl
theorem co_X4_mostUnlike : Cond.code yX4_mostUnlike cX4_mostUnlike 3 (some .int) ∈ TW := tw_mem (in_tables_1_6 (List.mem_of_getElem? (i := 107) rfl)) rfl
theorem ml_X4_89 : Cond.methodLink RX4 89 yX4_unlike ∈ TW := tw_mem (in_tables_1_6 (List.mem_of_getElem? (i := 108) rfl)) rfl
theorem im_X4_unlike : Cond.instanceMethod yX4_unlike ∈ TW := tw_mem (in_tables_1_6 (List.mem_of_getElem? (i := 110) rfl)) rfl
theorem co_X4_unlike : Cond.code yX4_unlike cX4_unlike 4 (some .int) ∈ TW := tw_mem (in_tables_1_6 (List.mem_of_getElem? (i := 111) rfl)) rfl
theorem ml_X4_83 : Cond.methodLink RX4 83 yJ6_bitCount_0f7a4 ∈ TW := tw_mem (in_tables_1_6 (List.mem_of_getElem? (i := 112) rfl)) rfl
theorem ml_X4_92 : Cond.methodLink RX4 92 yJ9_max_7cf53 ∈ TW := tw_mem (in_tables_1_6 (List.mem_of_getElem? (i := 113) rfl)) rfl
theorem ml_X11_331 : Cond.methodLink RX11 331 yX4_mostUnlike ∈ TW := tw_mem (in_tables_1_6 (List.mem_of_getElem? (i := 114) rfl)) rfl
theorem ml_L_246 : Cond.methodLink RL 246 yL_game ∈ TW := tw_mem (in_tables_1_6 (List.mem_of_getElem? (i := 115) rfl)) rfl
theorem sm_L_game : Cond.static yL_game ∈ TW := tw_mem (in_tables_1_6 (List.mem_of_getElem? (i := 116) rfl)) rfl
theorem ml_L_107 : Cond.methodLink RL 107 yX11_game ∈ TW := tw_mem (in_tables_1_6 (List.mem_of_getElem? (i := 118) rfl)) rfl
theorem im_X11_game : Cond.instanceMethod yX11_game ∈ TW := tw_mem (in_tables_1_6 (List.mem_of_getElem? (i := 119) rfl)) rfl
theorem se_X11_game : Cond.selects RX11 yX11_game yX11_game ∈ TW := tw_mem (in_tables_1_6 (List.mem_of_getElem? (i := 120) rfl)) rfl
theorem co_X11_game : Cond.code yX11_game cX11_game 10 (some .int) ∈ TW := tw_mem (in_tables_1_6 (List.mem_of_getElem? (i := 121) rfl)) rfl
theorem ml_X11_336 : Cond.methodLink RX11 336 yX11_playCouples ∈ TW := tw_mem (in_tables_1_6 (List.mem_of_getElem? (i := 123) rfl)) rfl
theorem im_X11_playCouples : Cond.instanceMethod yX11_playCouples ∈ TW := tw_mem (in_tables_1_6 (List.mem_of_getElem? (i := 125) rfl)) rfl
theorem co_X11_playCouples : Cond.code yX11_playCouples cX11_playCouples 7 none ∈ TW := tw_mem (in_tables_1_6 (List.mem_of_getElem? (i := 126) rfl)) rfl
theorem ml_X11_381 : Cond.methodLink RX11 381 yX11_lossOf ∈ TW := tw_mem (in_tables_1_6 (List.mem_of_getElem? (i := 127) rfl)) rfl
theorem im_X11_lossOf : Cond.instanceMethod yX11_lossOf ∈ TW := tw_mem (in_tables_1_6 (List.mem_of_getElem? (i := 129) rfl)) rfl
theorem co_X11_lossOf : Cond.code yX11_lossOf cX11_lossOf 3 (some .int) ∈ TW := tw_mem (in_tables_1_6 (List.mem_of_getElem? (i := 130) rfl)) rfl
theorem ml_X11_340 : Cond.methodLink RX11 340 yX11_rests ∈ TW := tw_mem (in_tables_1_6 (List.mem_of_getElem? (i := 131) rfl)) rfl
theorem im_X11_rests : Cond.instanceMethod yX11_rests ∈ TW := tw_mem (in_tables_1_6 (List.mem_of_getElem? (i := 133) rfl)) rfl
theorem co_X11_rests : Cond.code yX11_rests cX11_rests 6 (some .boolean) ∈ TW := tw_mem (in_tables_1_6 (List.mem_of_getElem? (i := 134) rfl)) rfl
theorem ml_L_249 : Cond.methodLink RL 249 yL_years ∈ TW := tw_mem (in_tables_1_6 (List.mem_of_getElem? (i := 135) rfl)) rfl
theorem sm_L_years : Cond.static yL_years ∈ TW := tw_mem (in_tables_1_6 (List.mem_of_getElem? (i := 136) rfl)) rfl
theorem ml_L_110 : Cond.methodLink RL 110 yX11_years ∈ TW := tw_mem (in_tables_1_6 (List.mem_of_getElem? (i := 138) rfl)) rfl
theorem im_X11_years : Cond.instanceMethod yX11_years ∈ TW := tw_mem (in_tables_1_6 (List.mem_of_getElem? (i := 139) rfl)) rfl
theorem se_X11_years : Cond.selects RX11 yX11_years yX11_years ∈ TW := tw_mem (in_tables_1_6 (List.mem_of_getElem? (i := 140) rfl)) rfl
theorem co_X11_years : Cond.code yX11_years cX11_years 6 (some .int) ∈ TW := tw_mem (in_tables_1_6 (List.mem_of_getElem? (i := 141) rfl)) rfl
theorem ml_X11_344 : Cond.methodLink RX11 344 yX2_start ∈ TW := tw_mem (in_tables_1_6 (List.mem_of_getElem? (i := 142) rfl)) rfl
theorem im_X2_start : Cond.instanceMethod yX2_start ∈ TW := tw_mem (in_tables_1_6 (List.mem_of_getElem? (i := 143) rfl)) rfl
theorem se_X2_start : Cond.selects RX2 yX2_start yX2_start ∈ TW := tw_mem (in_tables_1_6 (List.mem_of_getElem? (i := 144) rfl)) rfl
theorem co_X2_start : Cond.code yX2_start cX2_start 2 none ∈ TW := tw_mem (in_tables_1_6 (List.mem_of_getElem? (i := 145) rfl)) rfl
theorem ml_X11_346 : Cond.methodLink RX11 346 yX11_drawEvent ∈ TW := tw_mem (in_tables_1_6 (List.mem_of_getElem? (i := 146) rfl)) rfl
theorem im_X11_drawEvent : Cond.instanceMethod yX11_drawEvent ∈ TW := tw_mem (in_tables_1_6 (List.mem_of_getElem? (i := 148) rfl)) rfl
theorem co_X11_drawEvent : Cond.code yX11_drawEvent cX11_drawEvent 4 none ∈ TW := tw_mem (in_tables_1_6 (List.mem_of_getElem? (i := 149) rfl)) rfl
theorem ml_X11_349 : Cond.methodLink RX11 349 yX2_draw ∈ TW := tw_mem (in_tables_1_6 (List.mem_of_getElem? (i := 150) rfl)) rfl
theorem im_X2_draw : Cond.instanceMethod yX2_draw ∈ TW := tw_mem (in_tables_1_6 (List.mem_of_getElem? (i := 151) rfl)) rfl
theorem se_X2_draw : Cond.selects RX2 yX2_draw yX2_draw ∈ TW := tw_mem (in_tables_1_6 (List.mem_of_getElem? (i := 152) rfl)) rfl
theorem co_X2_draw : Cond.code yX2_draw cX2_draw 2 (some .int) ∈ TW := tw_mem (in_tables_1_6 (List.mem_of_getElem? (i := 153) rfl)) rfl
theorem kc_X2_13 : Cond.constant RX2 13 (1103515245) ∈ TW := tw_mem (in_tables_1_6 (List.mem_of_getElem? (i := 154) rfl)) rfl
theorem cl_L_114 : Cond.classLink RL 114 RX12 ∈ TW := tw_mem (in_tables_1_6 (List.mem_of_getElem? (i := 155) rfl)) rfl
theorem it_X12 : Cond.instantiable RX12 64 ∈ TW := tw_mem (in_tables_1_6 (List.mem_of_getElem? (i := 156) rfl)) rfl
theorem ml_L_116 : Cond.methodLink RL 116 yX12_init ∈ TW := tw_mem (in_tables_1_6 (List.mem_of_getElem? (i := 157) rfl)) rfl
theorem im_X12_init : Cond.instanceMethod yX12_init ∈ TW := tw_mem (in_tables_1_6 (List.mem_of_getElem? (i := 158) rfl)) rfl
theorem co_X12_init : Cond.code yX12_init cX12_init 1 none ∈ TW := tw_mem (in_tables_1_6 (List.mem_of_getElem? (i := 159) rfl)) rfl
theorem ml_X12_3 : Cond.methodLink RX12 3 objectInit ∈ TW := tw_mem (in_tables_1_6 (List.mem_of_getElem? (i := 160) rfl)) rfl
theorem cl_X12_9 : Cond.classLink RX12 9 RJ0 ∈ TW := tw_mem (in_tables_1_6 (List.mem_of_getElem? (i := 161) rfl)) rfl
theorem ao_str : Cond.arrayOver (.object "java/lang/String") ∈ lw_tbl := in_tables_1_6 (List.mem_of_getElem? (i := 162) rfl)
theorem fl_X12_15 : Cond.fieldLink RX12 15 "WatchLotsModel" "people" "[Ljava/lang/String;" ∈ TW := tw_mem (in_tables_1_6 (List.mem_of_getElem? (i := 173) rfl)) rfl
theorem fl_X12_35 : Cond.fieldLink RX12 35 "WatchLotsModel" "values" "[Ljava/lang/String;" ∈ TW := tw_mem (in_tables_1_6 (List.mem_of_getElem? (i := 174) rfl)) rfl
theorem fl_X12_156 : Cond.fieldLink RX12 156 "WatchLotsModel" "code" "I" ∈ TW := tw_mem (in_tables_1_6 (List.mem_of_getElem? (i := 175) rfl)) rfl
theorem fl_X12_38 : Cond.fieldLink RX12 38 "WatchLotsModel" "told" "[I" ∈ TW := tw_mem (in_tables_1_6 (List.mem_of_getElem? (i := 176) rfl)) rfl
theorem fl_X12_42 : Cond.fieldLink RX12 42 "WatchLotsModel" "pathTold" "[I" ∈ TW := tw_mem (in_tables_1_6 (List.mem_of_getElem? (i := 177) rfl)) rfl
theorem fl_X12_45 : Cond.fieldLink RX12 45 "WatchLotsModel" "roundTold" "[I" ∈ TW := tw_mem (in_tables_1_6 (List.mem_of_getElem? (i := 178) rfl)) rfl
theorem fl_X12_48 : Cond.fieldLink RX12 48 "WatchLotsModel" "bishop" "[I" ∈ TW := tw_mem (in_tables_1_6 (List.mem_of_getElem? (i := 179) rfl)) rfl
theorem fl_X12_50 : Cond.fieldLink RX12 50 "WatchLotsModel" "coinsTold" "[I" ∈ TW := tw_mem (in_tables_1_6 (List.mem_of_getElem? (i := 180) rfl)) rfl
theorem fl_X12_53 : Cond.fieldLink RX12 53 "WatchLotsModel" "places" "[I" ∈ TW := tw_mem (in_tables_1_6 (List.mem_of_getElem? (i := 181) rfl)) rfl
theorem fl_X12_56 : Cond.fieldLink RX12 56 "WatchLotsModel" "walkTold" "[I" ∈ TW := tw_mem (in_tables_1_6 (List.mem_of_getElem? (i := 182) rfl)) rfl
theorem fl_X12_59 : Cond.fieldLink RX12 59 "WatchLotsModel" "fogTold" "[I" ∈ TW := tw_mem (in_tables_1_6 (List.mem_of_getElem? (i := 183) rfl)) rfl
theorem fl_X12_62 : Cond.fieldLink RX12 62 "WatchLotsModel" "signs" "[I" ∈ TW := tw_mem (in_tables_1_6 (List.mem_of_getElem? (i := 184) rfl)) rfl
theorem fl_X12_65 : Cond.fieldLink RX12 65 "WatchLotsModel" "status" "[I" ∈ TW := tw_mem (in_tables_1_6 (List.mem_of_getElem? (i := 185) rfl)) rfl
theorem fl_X12_68 : Cond.fieldLink RX12 68 "WatchLotsModel" "tape" "[I" ∈ TW := tw_mem (in_tables_1_6 (List.mem_of_getElem? (i := 186) rfl)) rfl
theorem fl_X12_163 : Cond.fieldLink RX12 163 "WatchLotsModel" "taped" "I" ∈ TW := tw_mem (in_tables_1_6 (List.mem_of_getElem? (i := 187) rfl)) rfl
theorem fl_X12_169 : Cond.fieldLink RX12 169 "WatchLotsModel" "at" "I" ∈ TW := tw_mem (in_tables_1_6 (List.mem_of_getElem? (i := 188) rfl)) rfl
theorem fl_X12_166 : Cond.fieldLink RX12 166 "WatchLotsModel" "size" "I" ∈ TW := tw_mem (in_tables_1_6 (List.mem_of_getElem? (i := 189) rfl)) rfl
theorem fl_X12_179 : Cond.fieldLink RX12 179 "WatchLotsModel" "token" "I" ∈ TW := tw_mem (in_tables_1_6 (List.mem_of_getElem? (i := 190) rfl)) rfl
theorem fl_X12_189 : Cond.fieldLink RX12 189 "WatchLotsModel" "number" "I" ∈ TW := tw_mem (in_tables_1_6 (List.mem_of_getElem? (i := 191) rfl)) rfl
theorem fl_X12_176 : Cond.fieldLink RX12 176 "WatchLotsModel" "begins" "I" ∈ TW := tw_mem (in_tables_1_6 (List.mem_of_getElem? (i := 192) rfl)) rfl
theorem fl_X12_202 : Cond.fieldLink RX12 202 "WatchLotsModel" "stops" "I" ∈ TW := tw_mem (in_tables_1_6 (List.mem_of_getElem? (i := 193) rfl)) rfl
theorem fl_X12_205 : Cond.fieldLink RX12 205 "WatchLotsModel" "bad" "I" ∈ TW := tw_mem (in_tables_1_6 (List.mem_of_getElem? (i := 194) rfl)) rfl
theorem fl_X12_208 : Cond.fieldLink RX12 208 "WatchLotsModel" "badPlace" "I" ∈ TW := tw_mem (in_tables_1_6 (List.mem_of_getElem? (i := 195) rfl)) rfl
theorem fl_X12_71 : Cond.fieldLink RX12 71 "WatchLotsModel" "faultPlace" "I" ∈ TW := tw_mem (in_tables_1_6 (List.mem_of_getElem? (i := 196) rfl)) rfl
theorem fl_X12_236 : Cond.fieldLink RX12 236 "WatchLotsModel" "anyStreet" "Z" ∈ TW := tw_mem (in_tables_1_6 (List.mem_of_getElem? (i := 197) rfl)) rfl
theorem fl_X12_75 : Cond.fieldLink RX12 75 "WatchLotsModel" "purse" "[I" ∈ TW := tw_mem (in_tables_1_6 (List.mem_of_getElem? (i := 198) rfl)) rfl
theorem fl_X12_78 : Cond.fieldLink RX12 78 "WatchLotsModel" "knows" "[I" ∈ TW := tw_mem (in_tables_1_6 (List.mem_of_getElem? (i := 199) rfl)) rfl
theorem fl_X12_80 : Cond.fieldLink RX12 80 "WatchLotsModel" "walks" "[I" ∈ TW := tw_mem (in_tables_1_6 (List.mem_of_getElem? (i := 200) rfl)) rfl
theorem fl_X12_83 : Cond.fieldLink RX12 83 "WatchLotsModel" "past" "[I" ∈ TW := tw_mem (in_tables_1_6 (List.mem_of_getElem? (i := 201) rfl)) rfl
theorem fl_X12_331 : Cond.fieldLink RX12 331 "WatchLotsModel" "night" "I" ∈ TW := tw_mem (in_tables_1_6 (List.mem_of_getElem? (i := 202) rfl)) rfl
theorem fl_X12_333 : Cond.fieldLink RX12 333 "WatchLotsModel" "darkness" "I" ∈ TW := tw_mem (in_tables_1_6 (List.mem_of_getElem? (i := 203) rfl)) rfl
theorem fl_X12_153 : Cond.fieldLink RX12 153 "WatchLotsModel" "held" "I" ∈ TW := tw_mem (in_tables_1_6 (List.mem_of_getElem? (i := 204) rfl)) rfl
theorem fl_X12_336 : Cond.fieldLink RX12 336 "WatchLotsModel" "bribing" "I" ∈ TW := tw_mem (in_tables_1_6 (List.mem_of_getElem? (i := 205) rfl)) rfl
theorem fl_X12_339 : Cond.fieldLink RX12 339 "WatchLotsModel" "acts" "I" ∈ TW := tw_mem (in_tables_1_6 (List.mem_of_getElem? (i := 206) rfl)) rfl
theorem fl_X12_342 : Cond.fieldLink RX12 342 "WatchLotsModel" "tellings" "I" ∈ TW := tw_mem (in_tables_1_6 (List.mem_of_getElem? (i := 207) rfl)) rfl
theorem fl_X12_86 : Cond.fieldLink RX12 86 "WatchLotsModel" "fogNow" "I" ∈ TW := tw_mem (in_tables_1_6 (List.mem_of_getElem? (i := 208) rfl)) rfl
theorem fl_X12_89 : Cond.fieldLink RX12 89 "WatchLotsModel" "asked" "[I" ∈ TW := tw_mem (in_tables_1_6 (List.mem_of_getElem? (i := 209) rfl)) rfl
theorem fl_X12_92 : Cond.fieldLink RX12 92 "WatchLotsModel" "stack" "[I" ∈ TW := tw_mem (in_tables_1_6 (List.mem_of_getElem? (i := 210) rfl)) rfl
theorem fl_X12_95 : Cond.fieldLink RX12 95 "WatchLotsModel" "hoursOf" "[I" ∈ TW := tw_mem (in_tables_1_6 (List.mem_of_getElem? (i := 211) rfl)) rfl
theorem fl_X12_364 : Cond.fieldLink RX12 364 "WatchLotsModel" "lots" "I" ∈ TW := tw_mem (in_tables_1_6 (List.mem_of_getElem? (i := 212) rfl)) rfl
theorem fl_X12_98 : Cond.fieldLink RX12 98 "WatchLotsModel" "buyers" "[I" ∈ TW := tw_mem (in_tables_1_6 (List.mem_of_getElem? (i := 213) rfl)) rfl
theorem fl_X12_101 : Cond.fieldLink RX12 101 "WatchLotsModel" "prices" "[I" ∈ TW := tw_mem (in_tables_1_6 (List.mem_of_getElem? (i := 214) rfl)) rfl
theorem fl_X12_381 : Cond.fieldLink RX12 381 "WatchLotsModel" "soldMany" "I" ∈ TW := tw_mem (in_tables_1_6 (List.mem_of_getElem? (i := 215) rfl)) rfl
theorem fl_X12_104 : Cond.fieldLink RX12 104 "WatchLotsModel" "rowThen" "[I" ∈ TW := tw_mem (in_tables_1_6 (List.mem_of_getElem? (i := 216) rfl)) rfl
theorem fl_X12_107 : Cond.fieldLink RX12 107 "WatchLotsModel" "haunted" "[I" ∈ TW := tw_mem (in_tables_1_6 (List.mem_of_getElem? (i := 217) rfl)) rfl
theorem fl_X12_110 : Cond.fieldLink RX12 110 "WatchLotsModel" "mostBy" "[I" ∈ TW := tw_mem (in_tables_1_6 (List.mem_of_getElem? (i := 218) rfl)) rfl
theorem fl_X12_113 : Cond.fieldLink RX12 113 "WatchLotsModel" "toldPerson" "[I" ∈ TW := tw_mem (in_tables_1_6 (List.mem_of_getElem? (i := 219) rfl)) rfl
theorem fl_X12_116 : Cond.fieldLink RX12 116 "WatchLotsModel" "toldIn" "[I" ∈ TW := tw_mem (in_tables_1_6 (List.mem_of_getElem? (i := 220) rfl)) rfl
theorem fl_X12_119 : Cond.fieldLink RX12 119 "WatchLotsModel" "rowTold" "[I" ∈ TW := tw_mem (in_tables_1_6 (List.mem_of_getElem? (i := 221) rfl)) rfl
theorem fl_X12_122 : Cond.fieldLink RX12 122 "WatchLotsModel" "toldSeen" "[Z" ∈ TW := tw_mem (in_tables_1_6 (List.mem_of_getElem? (i := 222) rfl)) rfl
theorem fl_X12_126 : Cond.fieldLink RX12 126 "WatchLotsModel" "fits" "[I" ∈ TW := tw_mem (in_tables_1_6 (List.mem_of_getElem? (i := 223) rfl)) rfl
theorem fl_X12_129 : Cond.fieldLink RX12 129 "WatchLotsModel" "lotsThen" "[I" ∈ TW := tw_mem (in_tables_1_6 (List.mem_of_getElem? (i := 224) rfl)) rfl
theorem fl_X12_461 : Cond.fieldLink RX12 461 "WatchLotsModel" "fitMany" "I" ∈ TW := tw_mem (in_tables_1_6 (List.mem_of_getElem? (i := 225) rfl)) rfl
theorem fl_X12_132 : Cond.fieldLink RX12 132 "WatchLotsModel" "gains" "[I" ∈ TW := tw_mem (in_tables_1_6 (List.mem_of_getElem? (i := 226) rfl)) rfl
theorem fl_X12_483 : Cond.fieldLink RX12 483 "WatchLotsModel" "seedNow" "I" ∈ TW := tw_mem (in_tables_1_6 (List.mem_of_getElem? (i := 227) rfl)) rfl
theorem fl_X12_345 : Cond.fieldLink RX12 345 "WatchLotsModel" "hasImage" "Z" ∈ TW := tw_mem (in_tables_1_6 (List.mem_of_getElem? (i := 228) rfl)) rfl
theorem fl_X12_493 : Cond.fieldLink RX12 493 "WatchLotsModel" "actsThen" "I" ∈ TW := tw_mem (in_tables_1_6 (List.mem_of_getElem? (i := 229) rfl)) rfl
theorem fl_X12_496 : Cond.fieldLink RX12 496 "WatchLotsModel" "tellingsThen" "I" ∈ TW := tw_mem (in_tables_1_6 (List.mem_of_getElem? (i := 230) rfl)) rfl
theorem fl_X12_135 : Cond.fieldLink RX12 135 "WatchLotsModel" "imageRow" "[I" ∈ TW := tw_mem (in_tables_1_6 (List.mem_of_getElem? (i := 231) rfl)) rfl
theorem fl_X12_138 : Cond.fieldLink RX12 138 "WatchLotsModel" "pastThen" "[I" ∈ TW := tw_mem (in_tables_1_6 (List.mem_of_getElem? (i := 232) rfl)) rfl
theorem fl_X12_141 : Cond.fieldLink RX12 141 "WatchLotsModel" "toldPersonThen" "[I" ∈ TW := tw_mem (in_tables_1_6 (List.mem_of_getElem? (i := 233) rfl)) rfl
theorem fl_X12_144 : Cond.fieldLink RX12 144 "WatchLotsModel" "toldInThen" "[I" ∈ TW := tw_mem (in_tables_1_6 (List.mem_of_getElem? (i := 234) rfl)) rfl
theorem fl_X12_147 : Cond.fieldLink RX12 147 "WatchLotsModel" "statusThen" "[I" ∈ TW := tw_mem (in_tables_1_6 (List.mem_of_getElem? (i := 235) rfl)) rfl
theorem fl_X12_150 : Cond.fieldLink RX12 150 "WatchLotsModel" "toldSeenThen" "[Z" ∈ TW := tw_mem (in_tables_1_6 (List.mem_of_getElem? (i := 236) rfl)) rfl
theorem ac_boolean : Cond.arrayClass .boolean ∈ TW := tw_mem (in_tables_1_7 (List.mem_of_getElem? (i := 126) rfl)) rfl
theorem ml_L_128 : Cond.methodLink RL 128 yX12_thrown ∈ TW := tw_mem (in_tables_1_7 (List.mem_of_getElem? (i := 127) rfl)) rfl
theorem im_X12_thrown : Cond.instanceMethod yX12_thrown ∈ TW := tw_mem (in_tables_1_7 (List.mem_of_getElem? (i := 128) rfl)) rfl
theorem se_X12_thrown : Cond.selects RX12 yX12_thrown yX12_thrown ∈ TW := tw_mem (in_tables_1_7 (List.mem_of_getElem? (i := 129) rfl)) rfl
theorem co_X12_thrown : Cond.code yX12_thrown cX12_thrown 1 (some .int) ∈ TW := tw_mem (in_tables_1_7 (List.mem_of_getElem? (i := 130) rfl)) rfl
theorem ml_L_121 : Cond.methodLink RL 121 yX12_feed ∈ TW := tw_mem (in_tables_1_7 (List.mem_of_getElem? (i := 131) rfl)) rfl
theorem im_X12_feed : Cond.instanceMethod yX12_feed ∈ TW := tw_mem (in_tables_1_7 (List.mem_of_getElem? (i := 132) rfl)) rfl
theorem se_X12_feed : Cond.selects RX12 yX12_feed yX12_feed ∈ TW := tw_mem (in_tables_1_7 (List.mem_of_getElem? (i := 133) rfl)) rfl
theorem co_X12_feed : Cond.code yX12_feed cX12_feed 8 (some .int) ∈ TW := tw_mem (in_tables_1_7 (List.mem_of_getElem? (i := 134) rfl)) rfl
theorem ml_L_127 : Cond.methodLink RL 127 yX12_ward ∈ TW := tw_mem (in_tables_1_7 (List.mem_of_getElem? (i := 135) rfl)) rfl
theorem im_X12_ward : Cond.instanceMethod yX12_ward ∈ TW := tw_mem (in_tables_1_7 (List.mem_of_getElem? (i := 136) rfl)) rfl
theorem se_X12_ward : Cond.selects RX12 yX12_ward yX12_ward ∈ TW := tw_mem (in_tables_1_7 (List.mem_of_getElem? (i := 137) rfl)) rfl
theorem co_X12_ward : Cond.code yX12_ward cX12_ward 3 (some .int) ∈ TW := tw_mem (in_tables_1_7 (List.mem_of_getElem? (i := 138) rfl)) rfl
theorem ml_X12_318 : Cond.methodLink RX12 318 yX12_fail ∈ TW := tw_mem (in_tables_1_7 (List.mem_of_getElem? (i := 139) rfl)) rfl
theorem im_X12_fail : Cond.instanceMethod yX12_fail ∈ TW := tw_mem (in_tables_1_7 (List.mem_of_getElem? (i := 141) rfl)) rfl
theorem co_X12_fail : Cond.code yX12_fail cX12_fail 2 (some .int) ∈ TW := tw_mem (in_tables_1_7 (List.mem_of_getElem? (i := 142) rfl)) rfl
theorem ml_X12_230 : Cond.methodLink RX12 230 yX12_stepOn ∈ TW := tw_mem (in_tables_1_7 (List.mem_of_getElem? (i := 143) rfl)) rfl
theorem im_X12_stepOn : Cond.instanceMethod yX12_stepOn ∈ TW := tw_mem (in_tables_1_7 (List.mem_of_getElem? (i := 145) rfl)) rfl
theorem co_X12_stepOn : Cond.code yX12_stepOn cX12_stepOn 2 none ∈ TW := tw_mem (in_tables_1_7 (List.mem_of_getElem? (i := 146) rfl)) rfl
theorem ml_X12_172 : Cond.methodLink RX12 172 yX12_byteAt ∈ TW := tw_mem (in_tables_1_7 (List.mem_of_getElem? (i := 147) rfl)) rfl
theorem im_X12_byteAt : Cond.instanceMethod yX12_byteAt ∈ TW := tw_mem (in_tables_1_7 (List.mem_of_getElem? (i := 149) rfl)) rfl
theorem co_X12_byteAt : Cond.code yX12_byteAt cX12_byteAt 2 (some .int) ∈ TW := tw_mem (in_tables_1_7 (List.mem_of_getElem? (i := 150) rfl)) rfl
theorem ml_X12_182 : Cond.methodLink RX12 182 yX12_isLetter ∈ TW := tw_mem (in_tables_1_7 (List.mem_of_getElem? (i := 151) rfl)) rfl
theorem sm_X12_isLetter : Cond.static yX12_isLetter ∈ TW := tw_mem (in_tables_1_7 (List.mem_of_getElem? (i := 152) rfl)) rfl
theorem co_X12_isLetter : Cond.code yX12_isLetter cX12_isLetter 1 (some .boolean) ∈ TW := tw_mem (in_tables_1_7 (List.mem_of_getElem? (i := 153) rfl)) rfl
theorem ml_X12_186 : Cond.methodLink RX12 186 yX12_isDigit ∈ TW := tw_mem (in_tables_1_7 (List.mem_of_getElem? (i := 154) rfl)) rfl
theorem sm_X12_isDigit : Cond.static yX12_isDigit ∈ TW := tw_mem (in_tables_1_7 (List.mem_of_getElem? (i := 155) rfl)) rfl
theorem co_X12_isDigit : Cond.code yX12_isDigit cX12_isDigit 1 (some .boolean) ∈ TW := tw_mem (in_tables_1_7 (List.mem_of_getElem? (i := 156) rfl)) rfl
theorem kc_X12_192 : Cond.constant RX12 192 (100000) ∈ TW := tw_mem (in_tables_1_7 (List.mem_of_getElem? (i := 157) rfl)) rfl
theorem ml_X12_193 : Cond.methodLink RX12 193 yJ9_min_7cf53 ∈ TW := tw_mem (in_tables_1_7 (List.mem_of_getElem? (i := 158) rfl)) rfl
theorem ml_X12_199 : Cond.methodLink RX12 199 yX12_isMark ∈ TW := tw_mem (in_tables_1_7 (List.mem_of_getElem? (i := 159) rfl)) rfl
theorem sm_X12_isMark : Cond.static yX12_isMark ∈ TW := tw_mem (in_tables_1_7 (List.mem_of_getElem? (i := 160) rfl)) rfl
theorem co_X12_isMark : Cond.code yX12_isMark cX12_isMark 1 (some .boolean) ∈ TW := tw_mem (in_tables_1_7 (List.mem_of_getElem? (i := 161) rfl)) rfl
theorem ml_X12_321 : Cond.methodLink RX12 321 yX12_readLine ∈ TW := tw_mem (in_tables_1_7 (List.mem_of_getElem? (i := 162) rfl)) rfl
theorem im_X12_readLine : Cond.instanceMethod yX12_readLine ∈ TW := tw_mem (in_tables_1_7 (List.mem_of_getElem? (i := 164) rfl)) rfl
theorem co_X12_readLine : Cond.code yX12_readLine cX12_readLine 4 (some .int) ∈ TW := tw_mem (in_tables_1_7 (List.mem_of_getElem? (i := 165) rfl)) rfl
theorem ml_X12_249 : Cond.methodLink RX12 249 yX12_which ∈ TW := tw_mem (in_tables_1_7 (List.mem_of_getElem? (i := 166) rfl)) rfl
theorem im_X12_which : Cond.instanceMethod yX12_which ∈ TW := tw_mem (in_tables_1_7 (List.mem_of_getElem? (i := 168) rfl)) rfl
theorem co_X12_which : Cond.code yX12_which cX12_which 3 (some .int) ∈ TW := tw_mem (in_tables_1_7 (List.mem_of_getElem? (i := 169) rfl)) rfl
theorem ml_X12_219 : Cond.methodLink RX12 219 yX12_is ∈ TW := tw_mem (in_tables_1_7 (List.mem_of_getElem? (i := 170) rfl)) rfl
theorem im_X12_is : Cond.instanceMethod yX12_is ∈ TW := tw_mem (in_tables_1_7 (List.mem_of_getElem? (i := 172) rfl)) rfl
theorem co_X12_is : Cond.code yX12_is cX12_is 4 (some .boolean) ∈ TW := tw_mem (in_tables_1_7 (List.mem_of_getElem? (i := 173) rfl)) rfl
theorem ml_X12_211 : Cond.methodLink RX12 211 yJ0_length_8abf5 ∈ TW := tw_mem (in_tables_1_7 (List.mem_of_getElem? (i := 174) rfl)) rfl
theorem ml_X12_215 : Cond.methodLink RX12 215 yJ0_charAt_5068e ∈ TW := tw_mem (in_tables_1_7 (List.mem_of_getElem? (i := 175) rfl)) rfl
theorem ml_X12_226 : Cond.methodLink RX12 226 yX12_wrong ∈ TW := tw_mem (in_tables_1_7 (List.mem_of_getElem? (i := 181) rfl)) rfl
theorem im_X12_wrong : Cond.instanceMethod yX12_wrong ∈ TW := tw_mem (in_tables_1_7 (List.mem_of_getElem? (i := 183) rfl)) rfl
theorem co_X12_wrong : Cond.code yX12_wrong cX12_wrong 2 none ∈ TW := tw_mem (in_tables_1_7 (List.mem_of_getElem? (i := 184) rfl)) rfl
theorem ml_X12_307 : Cond.methodLink RX12 307 yX12_sayOnce ∈ TW := tw_mem (in_tables_1_7 (List.mem_of_getElem? (i := 185) rfl)) rfl
theorem im_X12_sayOnce : Cond.instanceMethod yX12_sayOnce ∈ TW := tw_mem (in_tables_1_7 (List.mem_of_getElem? (i := 187) rfl)) rfl
theorem co_X12_sayOnce : Cond.code yX12_sayOnce cX12_sayOnce 2 none ∈ TW := tw_mem (in_tables_1_7 (List.mem_of_getElem? (i := 188) rfl)) rfl
theorem ml_X12_243 : Cond.methodLink RX12 243 yX12_readNumber ∈ TW := tw_mem (in_tables_1_7 (List.mem_of_getElem? (i := 189) rfl)) rfl
theorem im_X12_readNumber : Cond.instanceMethod yX12_readNumber ∈ TW := tw_mem (in_tables_1_7 (List.mem_of_getElem? (i := 191) rfl)) rfl
theorem co_X12_readNumber : Cond.code yX12_readNumber cX12_readNumber 4 (some .int) ∈ TW := tw_mem (in_tables_1_7 (List.mem_of_getElem? (i := 192) rfl)) rfl
theorem ml_X12_233 : Cond.methodLink RX12 233 yX12_numberNow ∈ TW := tw_mem (in_tables_1_7 (List.mem_of_getElem? (i := 193) rfl)) rfl
theorem im_X12_numberNow : Cond.instanceMethod yX12_numberNow ∈ TW := tw_mem (in_tables_1_7 (List.mem_of_getElem? (i := 195) rfl)) rfl
theorem co_X12_numberNow : Cond.code yX12_numberNow cX12_numberNow 3 (some .int) ∈ TW := tw_mem (in_tables_1_7 (List.mem_of_getElem? (i := 196) rfl)) rfl
theorem ml_X12_290 : Cond.methodLink RX12 290 yX12_readStreets ∈ TW := tw_mem (in_tables_1_7 (List.mem_of_getElem? (i := 197) rfl)) rfl
theorem im_X12_readStreets : Cond.instanceMethod yX12_readStreets ∈ TW := tw_mem (in_tables_1_7 (List.mem_of_getElem? (i := 199) rfl)) rfl
theorem co_X12_readStreets : Cond.code yX12_readStreets cX12_readStreets 6 (some .int) ∈ TW := tw_mem (in_tables_1_7 (List.mem_of_getElem? (i := 200) rfl)) rfl
theorem ml_X12_280 : Cond.methodLink RX12 280 yX12_readStreet ∈ TW := tw_mem (in_tables_1_7 (List.mem_of_getElem? (i := 201) rfl)) rfl
theorem im_X12_readStreet : Cond.instanceMethod yX12_readStreet ∈ TW := tw_mem (in_tables_1_7 (List.mem_of_getElem? (i := 203) rfl)) rfl
theorem co_X12_readStreet : Cond.code yX12_readStreet cX12_readStreet 2 (some .int) ∈ TW := tw_mem (in_tables_1_7 (List.mem_of_getElem? (i := 204) rfl)) rfl
theorem ml_X12_240 : Cond.methodLink RX12 240 yX12_streetNow ∈ TW := tw_mem (in_tables_1_7 (List.mem_of_getElem? (i := 205) rfl)) rfl
theorem im_X12_streetNow : Cond.instanceMethod yX12_streetNow ∈ TW := tw_mem (in_tables_1_7 (List.mem_of_getElem? (i := 207) rfl)) rfl
theorem co_X12_streetNow : Cond.code yX12_streetNow cX12_streetNow 2 (some .int) ∈ TW := tw_mem (in_tables_1_7 (List.mem_of_getElem? (i := 208) rfl)) rfl
theorem ml_X12_294 : Cond.methodLink RX12 294 yX12_sayFogs ∈ TW := tw_mem (in_tables_1_7 (List.mem_of_getElem? (i := 209) rfl)) rfl
theorem im_X12_sayFogs : Cond.instanceMethod yX12_sayFogs ∈ TW := tw_mem (in_tables_1_7 (List.mem_of_getElem? (i := 211) rfl)) rfl
theorem co_X12_sayFogs : Cond.code yX12_sayFogs cX12_sayFogs 3 none ∈ TW := tw_mem (in_tables_1_7 (List.mem_of_getElem? (i := 212) rfl)) rfl
theorem ml_X12_256 : Cond.methodLink RX12 256 yX12_readExpression ∈ TW := tw_mem (in_tables_1_7 (List.mem_of_getElem? (i := 213) rfl)) rfl
theorem im_X12_readExpression : Cond.instanceMethod yX12_readExpression ∈ TW := tw_mem (in_tables_1_7 (List.mem_of_getElem? (i := 215) rfl)) rfl
theorem co_X12_readExpression : Cond.code yX12_readExpression cX12_readExpression 3 none ∈ TW := tw_mem (in_tables_1_7 (List.mem_of_getElem? (i := 216) rfl)) rfl
theorem ml_X12_223 : Cond.methodLink RX12 223 yX12_isMarked ∈ TW := tw_mem (in_tables_1_7 (List.mem_of_getElem? (i := 217) rfl)) rfl
theorem im_X12_isMarked : Cond.instanceMethod yX12_isMarked ∈ TW := tw_mem (in_tables_1_7 (List.mem_of_getElem? (i := 219) rfl)) rfl
theorem co_X12_isMarked : Cond.code yX12_isMarked cX12_isMarked 2 (some .boolean) ∈ TW := tw_mem (in_tables_1_7 (List.mem_of_getElem? (i := 220) rfl)) rfl
theorem ml_X12_275 : Cond.methodLink RX12 275 yX12_readAnd ∈ TW := tw_mem (in_tables_1_7 (List.mem_of_getElem? (i := 221) rfl)) rfl
theorem im_X12_readAnd : Cond.instanceMethod yX12_readAnd ∈ TW := tw_mem (in_tables_1_7 (List.mem_of_getElem? (i := 223) rfl)) rfl
theorem co_X12_readAnd : Cond.code yX12_readAnd cX12_readAnd 2 none ∈ TW := tw_mem (in_tables_1_7 (List.mem_of_getElem? (i := 224) rfl)) rfl
theorem ml_X12_270 : Cond.methodLink RX12 270 yX12_readNot ∈ TW := tw_mem (in_tables_1_7 (List.mem_of_getElem? (i := 225) rfl)) rfl
theorem im_X12_readNot : Cond.instanceMethod yX12_readNot ∈ TW := tw_mem (in_tables_1_7 (List.mem_of_getElem? (i := 227) rfl)) rfl
theorem co_X12_readNot : Cond.code yX12_readNot cX12_readNot 4 none ∈ TW := tw_mem (in_tables_1_7 (List.mem_of_getElem? (i := 228) rfl)) rfl
theorem ml_X12_267 : Cond.methodLink RX12 267 yX12_readSum ∈ TW := tw_mem (in_tables_1_7 (List.mem_of_getElem? (i := 230) rfl)) rfl
theorem im_X12_readSum : Cond.instanceMethod yX12_readSum ∈ TW := tw_mem (in_tables_1_7 (List.mem_of_getElem? (i := 232) rfl)) rfl
theorem co_X12_readSum : Cond.code yX12_readSum cX12_readSum 3 none ∈ TW := tw_mem (in_tables_1_7 (List.mem_of_getElem? (i := 233) rfl)) rfl
theorem ml_X12_262 : Cond.methodLink RX12 262 yX12_readProduct ∈ TW := tw_mem (in_tables_1_7 (List.mem_of_getElem? (i := 234) rfl)) rfl
theorem im_X12_readProduct : Cond.instanceMethod yX12_readProduct ∈ TW := tw_mem (in_tables_1_7 (List.mem_of_getElem? (i := 236) rfl)) rfl
theorem co_X12_readProduct : Cond.code yX12_readProduct cX12_readProduct 3 none ∈ TW := tw_mem (in_tables_1_7 (List.mem_of_getElem? (i := 237) rfl)) rfl
theorem ml_X12_259 : Cond.methodLink RX12 259 yX12_readPart ∈ TW := tw_mem (in_tables_1_7 (List.mem_of_getElem? (i := 238) rfl)) rfl
theorem im_X12_readPart : Cond.instanceMethod yX12_readPart ∈ TW := tw_mem (in_tables_1_8 (List.mem_of_getElem? (i := 0) rfl)) rfl
theorem co_X12_readPart : Cond.code yX12_readPart cX12_readPart 3 none ∈ TW := tw_mem (in_tables_1_8 (List.mem_of_getElem? (i := 1) rfl)) rfl
theorem ml_X12_246 : Cond.methodLink RX12 246 yX12_lay ∈ TW := tw_mem (in_tables_1_8 (List.mem_of_getElem? (i := 2) rfl)) rfl
theorem im_X12_lay : Cond.instanceMethod yX12_lay ∈ TW := tw_mem (in_tables_1_8 (List.mem_of_getElem? (i := 4) rfl)) rfl
theorem co_X12_lay : Cond.code yX12_lay cX12_lay 2 none ∈ TW := tw_mem (in_tables_1_8 (List.mem_of_getElem? (i := 5) rfl)) rfl
theorem ml_X12_253 : Cond.methodLink RX12 253 yX12_mark ∈ TW := tw_mem (in_tables_1_8 (List.mem_of_getElem? (i := 6) rfl)) rfl
theorem im_X12_mark : Cond.instanceMethod yX12_mark ∈ TW := tw_mem (in_tables_1_8 (List.mem_of_getElem? (i := 8) rfl)) rfl
theorem co_X12_mark : Cond.code yX12_mark cX12_mark 2 none ∈ TW := tw_mem (in_tables_1_8 (List.mem_of_getElem? (i := 9) rfl)) rfl
theorem ml_X12_310 : Cond.methodLink RX12 310 yX12_sayPerson ∈ TW := tw_mem (in_tables_1_8 (List.mem_of_getElem? (i := 12) rfl)) rfl
theorem im_X12_sayPerson : Cond.instanceMethod yX12_sayPerson ∈ TW := tw_mem (in_tables_1_8 (List.mem_of_getElem? (i := 14) rfl)) rfl
theorem co_X12_sayPerson : Cond.code yX12_sayPerson cX12_sayPerson 3 none ∈ TW := tw_mem (in_tables_1_8 (List.mem_of_getElem? (i := 15) rfl)) rfl
theorem ml_X12_283 : Cond.methodLink RX12 283 yX12_another ∈ TW := tw_mem (in_tables_1_8 (List.mem_of_getElem? (i := 16) rfl)) rfl
theorem im_X12_another : Cond.instanceMethod yX12_another ∈ TW := tw_mem (in_tables_1_8 (List.mem_of_getElem? (i := 18) rfl)) rfl
theorem co_X12_another : Cond.code yX12_another cX12_another 3 (some .boolean) ∈ TW := tw_mem (in_tables_1_8 (List.mem_of_getElem? (i := 19) rfl)) rfl
theorem ml_X12_315 : Cond.methodLink RX12 315 yX12_sayPath ∈ TW := tw_mem (in_tables_1_8 (List.mem_of_getElem? (i := 21) rfl)) rfl
theorem im_X12_sayPath : Cond.instanceMethod yX12_sayPath ∈ TW := tw_mem (in_tables_1_8 (List.mem_of_getElem? (i := 23) rfl)) rfl
theorem co_X12_sayPath : Cond.code yX12_sayPath cX12_sayPath 3 none ∈ TW := tw_mem (in_tables_1_8 (List.mem_of_getElem? (i := 24) rfl)) rfl
theorem ml_X12_287 : Cond.methodLink RX12 287 yX12_isOf ∈ TW := tw_mem (in_tables_1_8 (List.mem_of_getElem? (i := 25) rfl)) rfl
theorem sm_X12_isOf : Cond.static yX12_isOf ∈ TW := tw_mem (in_tables_1_8 (List.mem_of_getElem? (i := 26) rfl)) rfl
theorem co_X12_isOf : Cond.code yX12_isOf cX12_isOf 2 (some .boolean) ∈ TW := tw_mem (in_tables_1_8 (List.mem_of_getElem? (i := 27) rfl)) rfl
theorem ml_X12_324 : Cond.methodLink RX12 324 yX12_takeOver ∈ TW := tw_mem (in_tables_1_8 (List.mem_of_getElem? (i := 28) rfl)) rfl
theorem im_X12_takeOver : Cond.instanceMethod yX12_takeOver ∈ TW := tw_mem (in_tables_1_8 (List.mem_of_getElem? (i := 30) rfl)) rfl
theorem co_X12_takeOver : Cond.code yX12_takeOver cX12_takeOver 4 none ∈ TW := tw_mem (in_tables_1_8 (List.mem_of_getElem? (i := 31) rfl)) rfl
theorem ml_X12_327 : Cond.methodLink RX12 327 yX12_takeHalf ∈ TW := tw_mem (in_tables_1_8 (List.mem_of_getElem? (i := 32) rfl)) rfl
theorem sm_X12_takeHalf : Cond.static yX12_takeHalf ∈ TW := tw_mem (in_tables_1_8 (List.mem_of_getElem? (i := 33) rfl)) rfl
theorem co_X12_takeHalf : Cond.code yX12_takeHalf cX12_takeHalf 2 none ∈ TW := tw_mem (in_tables_1_8 (List.mem_of_getElem? (i := 34) rfl)) rfl
theorem ml_L_135 : Cond.methodLink RL 135 yX12_fault ∈ TW := tw_mem (in_tables_1_8 (List.mem_of_getElem? (i := 35) rfl)) rfl
theorem im_X12_fault : Cond.instanceMethod yX12_fault ∈ TW := tw_mem (in_tables_1_8 (List.mem_of_getElem? (i := 36) rfl)) rfl
theorem se_X12_fault : Cond.selects RX12 yX12_fault yX12_fault ∈ TW := tw_mem (in_tables_1_8 (List.mem_of_getElem? (i := 37) rfl)) rfl
theorem co_X12_fault : Cond.code yX12_fault cX12_fault 1 (some .int) ∈ TW := tw_mem (in_tables_1_8 (List.mem_of_getElem? (i := 38) rfl)) rfl
theorem ml_L_138 : Cond.methodLink RL 138 yX12_count ∈ TW := tw_mem (in_tables_1_8 (List.mem_of_getElem? (i := 39) rfl)) rfl
theorem im_X12_count : Cond.instanceMethod yX12_count ∈ TW := tw_mem (in_tables_1_8 (List.mem_of_getElem? (i := 40) rfl)) rfl
theorem se_X12_count : Cond.selects RX12 yX12_count yX12_count ∈ TW := tw_mem (in_tables_1_8 (List.mem_of_getElem? (i := 41) rfl)) rfl
theorem co_X12_count : Cond.code yX12_count cX12_count 2 (some .int) ∈ TW := tw_mem (in_tables_1_8 (List.mem_of_getElem? (i := 42) rfl)) rfl
theorem ml_X12_348 : Cond.methodLink RX12 348 yX12_fogOf ∈ TW := tw_mem (in_tables_1_8 (List.mem_of_getElem? (i := 43) rfl)) rfl
theorem im_X12_fogOf : Cond.instanceMethod yX12_fogOf ∈ TW := tw_mem (in_tables_1_8 (List.mem_of_getElem? (i := 45) rfl)) rfl
theorem co_X12_fogOf : Cond.code yX12_fogOf cX12_fogOf 1 (some .int) ∈ TW := tw_mem (in_tables_1_8 (List.mem_of_getElem? (i := 46) rfl)) rfl
theorem ml_X12_393 : Cond.methodLink RX12 393 yX12_allCoins ∈ TW := tw_mem (in_tables_1_8 (List.mem_of_getElem? (i := 47) rfl)) rfl
theorem im_X12_allCoins : Cond.instanceMethod yX12_allCoins ∈ TW := tw_mem (in_tables_1_8 (List.mem_of_getElem? (i := 49) rfl)) rfl
theorem co_X12_allCoins : Cond.code yX12_allCoins cX12_allCoins 3 (some .int) ∈ TW := tw_mem (in_tables_1_8 (List.mem_of_getElem? (i := 50) rfl)) rfl
theorem ml_L_141 : Cond.methodLink RL 141 yX12_paths ∈ TW := tw_mem (in_tables_1_8 (List.mem_of_getElem? (i := 51) rfl)) rfl
theorem im_X12_paths : Cond.instanceMethod yX12_paths ∈ TW := tw_mem (in_tables_1_8 (List.mem_of_getElem? (i := 52) rfl)) rfl
theorem se_X12_paths : Cond.selects RX12 yX12_paths yX12_paths ∈ TW := tw_mem (in_tables_1_8 (List.mem_of_getElem? (i := 53) rfl)) rfl
theorem co_X12_paths : Cond.code yX12_paths cX12_paths 2 (some .int) ∈ TW := tw_mem (in_tables_1_8 (List.mem_of_getElem? (i := 54) rfl)) rfl
theorem ml_X12_396 : Cond.methodLink RX12 396 yX12_isStreet ∈ TW := tw_mem (in_tables_1_8 (List.mem_of_getElem? (i := 55) rfl)) rfl
theorem im_X12_isStreet : Cond.instanceMethod yX12_isStreet ∈ TW := tw_mem (in_tables_1_8 (List.mem_of_getElem? (i := 57) rfl)) rfl
theorem co_X12_isStreet : Cond.code yX12_isStreet cX12_isStreet 2 (some .boolean) ∈ TW := tw_mem (in_tables_1_8 (List.mem_of_getElem? (i := 58) rfl)) rfl
theorem ml_X12_159 : Cond.methodLink RX12 159 yX12_isIn ∈ TW := tw_mem (in_tables_1_8 (List.mem_of_getElem? (i := 59) rfl)) rfl
theorem sm_X12_isIn : Cond.static yX12_isIn ∈ TW := tw_mem (in_tables_1_8 (List.mem_of_getElem? (i := 60) rfl)) rfl
theorem co_X12_isIn : Cond.code yX12_isIn cX12_isIn 6 (some .boolean) ∈ TW := tw_mem (in_tables_1_8 (List.mem_of_getElem? (i := 61) rfl)) rfl
theorem ml_L_145 : Cond.methodLink RL 145 yX12_person ∈ TW := tw_mem (in_tables_1_8 (List.mem_of_getElem? (i := 62) rfl)) rfl
theorem im_X12_person : Cond.instanceMethod yX12_person ∈ TW := tw_mem (in_tables_1_8 (List.mem_of_getElem? (i := 63) rfl)) rfl
theorem se_X12_person : Cond.selects RX12 yX12_person yX12_person ∈ TW := tw_mem (in_tables_1_8 (List.mem_of_getElem? (i := 64) rfl)) rfl
theorem co_X12_person : Cond.code yX12_person cX12_person 3 (some .int) ∈ TW := tw_mem (in_tables_1_8 (List.mem_of_getElem? (i := 65) rfl)) rfl
theorem ml_X12_399 : Cond.methodLink RX12 399 yX12_isPerson ∈ TW := tw_mem (in_tables_1_8 (List.mem_of_getElem? (i := 66) rfl)) rfl
theorem im_X12_isPerson : Cond.instanceMethod yX12_isPerson ∈ TW := tw_mem (in_tables_1_8 (List.mem_of_getElem? (i := 68) rfl)) rfl
theorem co_X12_isPerson : Cond.code yX12_isPerson cX12_isPerson 2 (some .boolean) ∈ TW := tw_mem (in_tables_1_8 (List.mem_of_getElem? (i := 69) rfl)) rfl
theorem ml_X12_357 : Cond.methodLink RX12 357 yX12_seenHours ∈ TW := tw_mem (in_tables_1_8 (List.mem_of_getElem? (i := 70) rfl)) rfl
theorem im_X12_seenHours : Cond.instanceMethod yX12_seenHours ∈ TW := tw_mem (in_tables_1_8 (List.mem_of_getElem? (i := 72) rfl)) rfl
theorem co_X12_seenHours : Cond.code yX12_seenHours cX12_seenHours 5 (some .int) ∈ TW := tw_mem (in_tables_1_8 (List.mem_of_getElem? (i := 73) rfl)) rfl
theorem ml_X12_351 : Cond.methodLink RX12 351 yX12_watchAt ∈ TW := tw_mem (in_tables_1_8 (List.mem_of_getElem? (i := 74) rfl)) rfl
theorem im_X12_watchAt : Cond.instanceMethod yX12_watchAt ∈ TW := tw_mem (in_tables_1_8 (List.mem_of_getElem? (i := 76) rfl)) rfl
theorem co_X12_watchAt : Cond.code yX12_watchAt cX12_watchAt 3 (some .int) ∈ TW := tw_mem (in_tables_1_8 (List.mem_of_getElem? (i := 77) rfl)) rfl
theorem ml_X12_354 : Cond.methodLink RX12 354 yX12_streetOf ∈ TW := tw_mem (in_tables_1_8 (List.mem_of_getElem? (i := 78) rfl)) rfl
theorem im_X12_streetOf : Cond.instanceMethod yX12_streetOf ∈ TW := tw_mem (in_tables_1_8 (List.mem_of_getElem? (i := 80) rfl)) rfl
theorem co_X12_streetOf : Cond.code yX12_streetOf cX12_streetOf 3 (some .int) ∈ TW := tw_mem (in_tables_1_8 (List.mem_of_getElem? (i := 81) rfl)) rfl
theorem ml_L_148 : Cond.methodLink RL 148 yX12_walk ∈ TW := tw_mem (in_tables_1_8 (List.mem_of_getElem? (i := 82) rfl)) rfl
theorem im_X12_walk : Cond.instanceMethod yX12_walk ∈ TW := tw_mem (in_tables_1_8 (List.mem_of_getElem? (i := 83) rfl)) rfl
theorem se_X12_walk : Cond.selects RX12 yX12_walk yX12_walk ∈ TW := tw_mem (in_tables_1_8 (List.mem_of_getElem? (i := 84) rfl)) rfl
theorem co_X12_walk : Cond.code yX12_walk cX12_walk 3 (some .int) ∈ TW := tw_mem (in_tables_1_8 (List.mem_of_getElem? (i := 85) rfl)) rfl
theorem ml_L_152 : Cond.methodLink RL 152 yX12_nights ∈ TW := tw_mem (in_tables_1_8 (List.mem_of_getElem? (i := 86) rfl)) rfl
theorem im_X12_nights : Cond.instanceMethod yX12_nights ∈ TW := tw_mem (in_tables_1_8 (List.mem_of_getElem? (i := 87) rfl)) rfl
theorem se_X12_nights : Cond.selects RX12 yX12_nights yX12_nights ∈ TW := tw_mem (in_tables_1_8 (List.mem_of_getElem? (i := 88) rfl)) rfl
theorem co_X12_nights : Cond.code yX12_nights cX12_nights 2 (some .int) ∈ TW := tw_mem (in_tables_1_8 (List.mem_of_getElem? (i := 89) rfl)) rfl
theorem kl_X12_406 : Cond.constantLong RX12 406 (20) ∈ TW := tw_mem (in_tables_1_8 (List.mem_of_getElem? (i := 90) rfl)) rfl
theorem ml_X12_408 : Cond.methodLink RX12 408 yX12_refuse ∈ TW := tw_mem (in_tables_1_8 (List.mem_of_getElem? (i := 91) rfl)) rfl
theorem im_X12_refuse : Cond.instanceMethod yX12_refuse ∈ TW := tw_mem (in_tables_1_8 (List.mem_of_getElem? (i := 93) rfl)) rfl
theorem co_X12_refuse : Cond.code yX12_refuse cX12_refuse 2 (some .int) ∈ TW := tw_mem (in_tables_1_8 (List.mem_of_getElem? (i := 94) rfl)) rfl
theorem ml_X12_411 : Cond.methodLink RX12 411 yX12_keep ∈ TW := tw_mem (in_tables_1_8 (List.mem_of_getElem? (i := 95) rfl)) rfl
theorem im_X12_keep : Cond.instanceMethod yX12_keep ∈ TW := tw_mem (in_tables_1_8 (List.mem_of_getElem? (i := 97) rfl)) rfl
theorem co_X12_keep : Cond.code yX12_keep cX12_keep 2 none ∈ TW := tw_mem (in_tables_1_8 (List.mem_of_getElem? (i := 98) rfl)) rfl
theorem ml_X12_402 : Cond.methodLink RX12 402 yX12_pack ∈ TW := tw_mem (in_tables_1_8 (List.mem_of_getElem? (i := 99) rfl)) rfl
theorem im_X12_pack : Cond.instanceMethod yX12_pack ∈ TW := tw_mem (in_tables_1_8 (List.mem_of_getElem? (i := 101) rfl)) rfl
theorem co_X12_pack : Cond.code yX12_pack cX12_pack 5 none ∈ TW := tw_mem (in_tables_1_8 (List.mem_of_getElem? (i := 102) rfl)) rfl
theorem ml_X12_414 : Cond.methodLink RX12 414 yX12_goOn ∈ TW := tw_mem (in_tables_1_8 (List.mem_of_getElem? (i := 103) rfl)) rfl
theorem im_X12_goOn : Cond.instanceMethod yX12_goOn ∈ TW := tw_mem (in_tables_1_8 (List.mem_of_getElem? (i := 105) rfl)) rfl
theorem co_X12_goOn : Cond.code yX12_goOn cX12_goOn 3 none ∈ TW := tw_mem (in_tables_1_8 (List.mem_of_getElem? (i := 106) rfl)) rfl
theorem ml_X12_390 : Cond.methodLink RX12 390 yX12_aNight ∈ TW := tw_mem (in_tables_1_8 (List.mem_of_getElem? (i := 107) rfl)) rfl
theorem im_X12_aNight : Cond.instanceMethod yX12_aNight ∈ TW := tw_mem (in_tables_1_8 (List.mem_of_getElem? (i := 109) rfl)) rfl
theorem co_X12_aNight : Cond.code yX12_aNight cX12_aNight 2 none ∈ TW := tw_mem (in_tables_1_8 (List.mem_of_getElem? (i := 110) rfl)) rfl
theorem ml_X12_384 : Cond.methodLink RX12 384 yX12_tellLots ∈ TW := tw_mem (in_tables_1_8 (List.mem_of_getElem? (i := 111) rfl)) rfl
theorem im_X12_tellLots : Cond.instanceMethod yX12_tellLots ∈ TW := tw_mem (in_tables_1_8 (List.mem_of_getElem? (i := 113) rfl)) rfl
theorem co_X12_tellLots : Cond.code yX12_tellLots cX12_tellLots 2 none ∈ TW := tw_mem (in_tables_1_8 (List.mem_of_getElem? (i := 114) rfl)) rfl
theorem ml_X12_387 : Cond.methodLink RX12 387 yX12_sell ∈ TW := tw_mem (in_tables_1_8 (List.mem_of_getElem? (i := 115) rfl)) rfl
theorem im_X12_sell : Cond.instanceMethod yX12_sell ∈ TW := tw_mem (in_tables_1_8 (List.mem_of_getElem? (i := 117) rfl)) rfl
theorem co_X12_sell : Cond.code yX12_sell cX12_sell 7 none ∈ TW := tw_mem (in_tables_1_8 (List.mem_of_getElem? (i := 118) rfl)) rfl
theorem ml_X12_378 : Cond.methodLink RX12 378 yX12_bidOf ∈ TW := tw_mem (in_tables_1_8 (List.mem_of_getElem? (i := 119) rfl)) rfl
theorem im_X12_bidOf : Cond.instanceMethod yX12_bidOf ∈ TW := tw_mem (in_tables_1_8 (List.mem_of_getElem? (i := 121) rfl)) rfl
theorem co_X12_bidOf : Cond.code yX12_bidOf cX12_bidOf 5 (some .int) ∈ TW := tw_mem (in_tables_1_8 (List.mem_of_getElem? (i := 122) rfl)) rfl
theorem ml_X12_366 : Cond.methodLink RX12 366 yX12_bitsOf ∈ TW := tw_mem (in_tables_1_8 (List.mem_of_getElem? (i := 123) rfl)) rfl
theorem sm_X12_bitsOf : Cond.static yX12_bitsOf ∈ TW := tw_mem (in_tables_1_8 (List.mem_of_getElem? (i := 124) rfl)) rfl
theorem co_X12_bitsOf : Cond.code yX12_bitsOf cX12_bitsOf 3 (some .int) ∈ TW := tw_mem (in_tables_1_8 (List.mem_of_getElem? (i := 125) rfl)) rfl
theorem ml_X12_369 : Cond.methodLink RX12 369 yX12_firstStreet ∈ TW := tw_mem (in_tables_1_8 (List.mem_of_getElem? (i := 126) rfl)) rfl
theorem im_X12_firstStreet : Cond.instanceMethod yX12_firstStreet ∈ TW := tw_mem (in_tables_1_8 (List.mem_of_getElem? (i := 128) rfl)) rfl
theorem co_X12_firstStreet : Cond.code yX12_firstStreet cX12_firstStreet 3 (some .int) ∈ TW := tw_mem (in_tables_1_8 (List.mem_of_getElem? (i := 129) rfl)) rfl
theorem ml_X12_372 : Cond.methodLink RX12 372 yX12_valueNow ∈ TW := tw_mem (in_tables_1_8 (List.mem_of_getElem? (i := 130) rfl)) rfl
theorem im_X12_valueNow : Cond.instanceMethod yX12_valueNow ∈ TW := tw_mem (in_tables_1_8 (List.mem_of_getElem? (i := 132) rfl)) rfl
theorem co_X12_valueNow : Cond.code yX12_valueNow cX12_valueNow 4 (some .int) ∈ TW := tw_mem (in_tables_1_8 (List.mem_of_getElem? (i := 133) rfl)) rfl
theorem ml_X12_360 : Cond.methodLink RX12 360 yX12_reckon ∈ TW := tw_mem (in_tables_1_8 (List.mem_of_getElem? (i := 134) rfl)) rfl
theorem sm_X12_reckon : Cond.static yX12_reckon ∈ TW := tw_mem (in_tables_1_8 (List.mem_of_getElem? (i := 135) rfl)) rfl
theorem co_X12_reckon : Cond.code yX12_reckon cX12_reckon 3 (some .int) ∈ TW := tw_mem (in_tables_1_8 (List.mem_of_getElem? (i := 136) rfl)) rfl
theorem ml_X12_375 : Cond.methodLink RX12 375 yJ9_max_7cf53 ∈ TW := tw_mem (in_tables_1_8 (List.mem_of_getElem? (i := 137) rfl)) rfl
theorem ml_L_155 : Cond.methodLink RL 155 yX12_bribe ∈ TW := tw_mem (in_tables_1_8 (List.mem_of_getElem? (i := 138) rfl)) rfl
theorem im_X12_bribe : Cond.instanceMethod yX12_bribe ∈ TW := tw_mem (in_tables_1_8 (List.mem_of_getElem? (i := 139) rfl)) rfl
theorem se_X12_bribe : Cond.selects RX12 yX12_bribe yX12_bribe ∈ TW := tw_mem (in_tables_1_8 (List.mem_of_getElem? (i := 140) rfl)) rfl
theorem co_X12_bribe : Cond.code yX12_bribe cX12_bribe 2 (some .int) ∈ TW := tw_mem (in_tables_1_8 (List.mem_of_getElem? (i := 141) rfl)) rfl
theorem ml_X12_417 : Cond.methodLink RX12 417 yX12_canBribe ∈ TW := tw_mem (in_tables_1_8 (List.mem_of_getElem? (i := 142) rfl)) rfl
theorem im_X12_canBribe : Cond.instanceMethod yX12_canBribe ∈ TW := tw_mem (in_tables_1_8 (List.mem_of_getElem? (i := 144) rfl)) rfl
theorem co_X12_canBribe : Cond.code yX12_canBribe cX12_canBribe 2 (some .boolean) ∈ TW := tw_mem (in_tables_1_8 (List.mem_of_getElem? (i := 145) rfl)) rfl
theorem ml_X12_420 : Cond.methodLink RX12 420 yX12_doBribe ∈ TW := tw_mem (in_tables_1_8 (List.mem_of_getElem? (i := 146) rfl)) rfl
theorem im_X12_doBribe : Cond.instanceMethod yX12_doBribe ∈ TW := tw_mem (in_tables_1_8 (List.mem_of_getElem? (i := 148) rfl)) rfl
theorem co_X12_doBribe : Cond.code yX12_doBribe cX12_doBribe 2 none ∈ TW := tw_mem (in_tables_1_8 (List.mem_of_getElem? (i := 149) rfl)) rfl
theorem ml_L_159 : Cond.methodLink RL 159 yX12_wander ∈ TW := tw_mem (in_tables_1_8 (List.mem_of_getElem? (i := 150) rfl)) rfl
theorem im_X12_wander : Cond.instanceMethod yX12_wander ∈ TW := tw_mem (in_tables_1_8 (List.mem_of_getElem? (i := 151) rfl)) rfl
theorem se_X12_wander : Cond.selects RX12 yX12_wander yX12_wander ∈ TW := tw_mem (in_tables_1_8 (List.mem_of_getElem? (i := 152) rfl)) rfl
theorem co_X12_wander : Cond.code yX12_wander cX12_wander 5 (some .int) ∈ TW := tw_mem (in_tables_1_8 (List.mem_of_getElem? (i := 153) rfl)) rfl
theorem ml_L_162 : Cond.methodLink RL 162 yX12_earn ∈ TW := tw_mem (in_tables_1_8 (List.mem_of_getElem? (i := 154) rfl)) rfl
theorem im_X12_earn : Cond.instanceMethod yX12_earn ∈ TW := tw_mem (in_tables_1_8 (List.mem_of_getElem? (i := 155) rfl)) rfl
theorem se_X12_earn : Cond.selects RX12 yX12_earn yX12_earn ∈ TW := tw_mem (in_tables_1_8 (List.mem_of_getElem? (i := 156) rfl)) rfl
theorem co_X12_earn : Cond.code yX12_earn cX12_earn 3 (some .int) ∈ TW := tw_mem (in_tables_1_8 (List.mem_of_getElem? (i := 157) rfl)) rfl
theorem kl_X12_423 : Cond.constantLong RX12 423 (99) ∈ TW := tw_mem (in_tables_1_8 (List.mem_of_getElem? (i := 158) rfl)) rfl
theorem ml_L_166 : Cond.methodLink RL 166 yX12_reserve ∈ TW := tw_mem (in_tables_1_8 (List.mem_of_getElem? (i := 159) rfl)) rfl
theorem im_X12_reserve : Cond.instanceMethod yX12_reserve ∈ TW := tw_mem (in_tables_1_8 (List.mem_of_getElem? (i := 160) rfl)) rfl
theorem se_X12_reserve : Cond.selects RX12 yX12_reserve yX12_reserve ∈ TW := tw_mem (in_tables_1_8 (List.mem_of_getElem? (i := 161) rfl)) rfl
theorem co_X12_reserve : Cond.code yX12_reserve cX12_reserve 3 (some .int) ∈ TW := tw_mem (in_tables_1_8 (List.mem_of_getElem? (i := 162) rfl)) rfl
theorem ml_L_170 : Cond.methodLink RL 170 yX12_undo ∈ TW := tw_mem (in_tables_1_8 (List.mem_of_getElem? (i := 163) rfl)) rfl
theorem im_X12_undo : Cond.instanceMethod yX12_undo ∈ TW := tw_mem (in_tables_1_8 (List.mem_of_getElem? (i := 164) rfl)) rfl
theorem se_X12_undo : Cond.selects RX12 yX12_undo yX12_undo ∈ TW := tw_mem (in_tables_1_8 (List.mem_of_getElem? (i := 165) rfl)) rfl
theorem co_X12_undo : Cond.code yX12_undo cX12_undo 1 (some .int) ∈ TW := tw_mem (in_tables_1_8 (List.mem_of_getElem? (i := 166) rfl)) rfl
theorem ml_X12_425 : Cond.methodLink RX12 425 yX12_unpack ∈ TW := tw_mem (in_tables_1_8 (List.mem_of_getElem? (i := 167) rfl)) rfl
theorem im_X12_unpack : Cond.instanceMethod yX12_unpack ∈ TW := tw_mem (in_tables_1_8 (List.mem_of_getElem? (i := 169) rfl)) rfl
theorem co_X12_unpack : Cond.code yX12_unpack cX12_unpack 5 none ∈ TW := tw_mem (in_tables_1_8 (List.mem_of_getElem? (i := 170) rfl)) rfl
theorem ml_L_173 : Cond.methodLink RL 173 yX12_lots ∈ TW := tw_mem (in_tables_1_8 (List.mem_of_getElem? (i := 171) rfl)) rfl
theorem im_X12_lots : Cond.instanceMethod yX12_lots ∈ TW := tw_mem (in_tables_1_8 (List.mem_of_getElem? (i := 172) rfl)) rfl
theorem se_X12_lots : Cond.selects RX12 yX12_lots yX12_lots ∈ TW := tw_mem (in_tables_1_8 (List.mem_of_getElem? (i := 173) rfl)) rfl
theorem co_X12_lots : Cond.code yX12_lots cX12_lots 2 (some .int) ∈ TW := tw_mem (in_tables_1_8 (List.mem_of_getElem? (i := 174) rfl)) rfl
theorem kl_X12_428 : Cond.constantLong RX12 428 (40) ∈ TW := tw_mem (in_tables_1_8 (List.mem_of_getElem? (i := 175) rfl)) rfl
theorem ml_L_176 : Cond.methodLink RL 176 yX12_sold ∈ TW := tw_mem (in_tables_1_8 (List.mem_of_getElem? (i := 176) rfl)) rfl
theorem im_X12_sold : Cond.instanceMethod yX12_sold ∈ TW := tw_mem (in_tables_1_8 (List.mem_of_getElem? (i := 177) rfl)) rfl
theorem se_X12_sold : Cond.selects RX12 yX12_sold yX12_sold ∈ TW := tw_mem (in_tables_1_8 (List.mem_of_getElem? (i := 178) rfl)) rfl
theorem co_X12_sold : Cond.code yX12_sold cX12_sold 4 (some .int) ∈ TW := tw_mem (in_tables_1_8 (List.mem_of_getElem? (i := 179) rfl)) rfl
theorem ml_L_179 : Cond.methodLink RL 179 yX12_then ∈ TW := tw_mem (in_tables_1_8 (List.mem_of_getElem? (i := 180) rfl)) rfl
theorem im_X12_then : Cond.instanceMethod yX12_then ∈ TW := tw_mem (in_tables_1_8 (List.mem_of_getElem? (i := 181) rfl)) rfl
theorem se_X12_then : Cond.selects RX12 yX12_then yX12_then ∈ TW := tw_mem (in_tables_1_8 (List.mem_of_getElem? (i := 182) rfl)) rfl
theorem co_X12_then : Cond.code yX12_then cX12_then 5 (some .int) ∈ TW := tw_mem (in_tables_1_8 (List.mem_of_getElem? (i := 183) rfl)) rfl
theorem ml_L_182 : Cond.methodLink RL 182 yX12_dark ∈ TW := tw_mem (in_tables_1_8 (List.mem_of_getElem? (i := 184) rfl)) rfl
theorem im_X12_dark : Cond.instanceMethod yX12_dark ∈ TW := tw_mem (in_tables_1_8 (List.mem_of_getElem? (i := 185) rfl)) rfl
theorem se_X12_dark : Cond.selects RX12 yX12_dark yX12_dark ∈ TW := tw_mem (in_tables_1_8 (List.mem_of_getElem? (i := 186) rfl)) rfl
theorem co_X12_dark : Cond.code yX12_dark cX12_dark 3 (some .int) ∈ TW := tw_mem (in_tables_1_8 (List.mem_of_getElem? (i := 187) rfl)) rfl
theorem ml_L_228 : Cond.methodLink RL 228 yX12_spends ∈ TW := tw_mem (in_tables_1_8 (List.mem_of_getElem? (i := 188) rfl)) rfl
theorem im_X12_spends : Cond.instanceMethod yX12_spends ∈ TW := tw_mem (in_tables_1_8 (List.mem_of_getElem? (i := 189) rfl)) rfl
theorem se_X12_spends : Cond.selects RX12 yX12_spends yX12_spends ∈ TW := tw_mem (in_tables_1_8 (List.mem_of_getElem? (i := 190) rfl)) rfl
theorem co_X12_spends : Cond.code yX12_spends cX12_spends 6 (some .int) ∈ TW := tw_mem (in_tables_1_8 (List.mem_of_getElem? (i := 191) rfl)) rfl
theorem ml_L_185 : Cond.methodLink RL 185 yX12_first ∈ TW := tw_mem (in_tables_1_8 (List.mem_of_getElem? (i := 192) rfl)) rfl
theorem im_X12_first : Cond.instanceMethod yX12_first ∈ TW := tw_mem (in_tables_1_8 (List.mem_of_getElem? (i := 193) rfl)) rfl
theorem se_X12_first : Cond.selects RX12 yX12_first yX12_first ∈ TW := tw_mem (in_tables_1_8 (List.mem_of_getElem? (i := 194) rfl)) rfl
theorem co_X12_first : Cond.code yX12_first cX12_first 2 (some .int) ∈ TW := tw_mem (in_tables_1_8 (List.mem_of_getElem? (i := 195) rfl)) rfl
theorem ml_X12_430 : Cond.methodLink RX12 430 yX12_firstOf ∈ TW := tw_mem (in_tables_1_8 (List.mem_of_getElem? (i := 196) rfl)) rfl
theorem im_X12_firstOf : Cond.instanceMethod yX12_firstOf ∈ TW := tw_mem (in_tables_1_8 (List.mem_of_getElem? (i := 198) rfl)) rfl
theorem co_X12_firstOf : Cond.code yX12_firstOf cX12_firstOf 4 (some .int) ∈ TW := tw_mem (in_tables_1_8 (List.mem_of_getElem? (i := 199) rfl)) rfl
theorem ml_L_189 : Cond.methodLink RL 189 yX12_secret ∈ TW := tw_mem (in_tables_1_8 (List.mem_of_getElem? (i := 200) rfl)) rfl
theorem im_X12_secret : Cond.instanceMethod yX12_secret ∈ TW := tw_mem (in_tables_1_8 (List.mem_of_getElem? (i := 201) rfl)) rfl
theorem se_X12_secret : Cond.selects RX12 yX12_secret yX12_secret ∈ TW := tw_mem (in_tables_1_8 (List.mem_of_getElem? (i := 202) rfl)) rfl
theorem co_X12_secret : Cond.code yX12_secret cX12_secret 3 (some .int) ∈ TW := tw_mem (in_tables_1_8 (List.mem_of_getElem? (i := 203) rfl)) rfl
theorem ml_L_192 : Cond.methodLink RL 192 yX12_haunt ∈ TW := tw_mem (in_tables_1_8 (List.mem_of_getElem? (i := 204) rfl)) rfl
theorem im_X12_haunt : Cond.instanceMethod yX12_haunt ∈ TW := tw_mem (in_tables_1_8 (List.mem_of_getElem? (i := 205) rfl)) rfl
theorem se_X12_haunt : Cond.selects RX12 yX12_haunt yX12_haunt ∈ TW := tw_mem (in_tables_1_8 (List.mem_of_getElem? (i := 206) rfl)) rfl
theorem co_X12_haunt : Cond.code yX12_haunt cX12_haunt 5 (some .int) ∈ TW := tw_mem (in_tables_1_8 (List.mem_of_getElem? (i := 207) rfl)) rfl
theorem ml_L_195 : Cond.methodLink RL 195 yX12_watch ∈ TW := tw_mem (in_tables_1_8 (List.mem_of_getElem? (i := 208) rfl)) rfl
theorem im_X12_watch : Cond.instanceMethod yX12_watch ∈ TW := tw_mem (in_tables_1_8 (List.mem_of_getElem? (i := 209) rfl)) rfl
theorem se_X12_watch : Cond.selects RX12 yX12_watch yX12_watch ∈ TW := tw_mem (in_tables_1_8 (List.mem_of_getElem? (i := 210) rfl)) rfl
theorem co_X12_watch : Cond.code yX12_watch cX12_watch 3 (some .int) ∈ TW := tw_mem (in_tables_1_8 (List.mem_of_getElem? (i := 211) rfl)) rfl
theorem kl_X12_433 : Cond.constantLong RX12 433 (5) ∈ TW := tw_mem (in_tables_1_8 (List.mem_of_getElem? (i := 212) rfl)) rfl
theorem ml_L_222 : Cond.methodLink RL 222 yX12_lantern ∈ TW := tw_mem (in_tables_1_8 (List.mem_of_getElem? (i := 213) rfl)) rfl
theorem im_X12_lantern : Cond.instanceMethod yX12_lantern ∈ TW := tw_mem (in_tables_1_8 (List.mem_of_getElem? (i := 214) rfl)) rfl
theorem se_X12_lantern : Cond.selects RX12 yX12_lantern yX12_lantern ∈ TW := tw_mem (in_tables_1_8 (List.mem_of_getElem? (i := 215) rfl)) rfl
theorem co_X12_lantern : Cond.code yX12_lantern cX12_lantern 4 (some .int) ∈ TW := tw_mem (in_tables_1_8 (List.mem_of_getElem? (i := 216) rfl)) rfl
theorem ml_L_198 : Cond.methodLink RL 198 yX12_way ∈ TW := tw_mem (in_tables_1_8 (List.mem_of_getElem? (i := 217) rfl)) rfl
theorem im_X12_way : Cond.instanceMethod yX12_way ∈ TW := tw_mem (in_tables_1_8 (List.mem_of_getElem? (i := 218) rfl)) rfl
theorem se_X12_way : Cond.selects RX12 yX12_way yX12_way ∈ TW := tw_mem (in_tables_1_8 (List.mem_of_getElem? (i := 219) rfl)) rfl
theorem co_X12_way : Cond.code yX12_way cX12_way 5 (some .int) ∈ TW := tw_mem (in_tables_1_8 (List.mem_of_getElem? (i := 220) rfl)) rfl
theorem ml_X12_435 : Cond.methodLink RX12 435 yX12_stepped ∈ TW := tw_mem (in_tables_1_8 (List.mem_of_getElem? (i := 221) rfl)) rfl
theorem im_X12_stepped : Cond.instanceMethod yX12_stepped ∈ TW := tw_mem (in_tables_1_8 (List.mem_of_getElem? (i := 223) rfl)) rfl
theorem co_X12_stepped : Cond.code yX12_stepped cX12_stepped 4 (some .int) ∈ TW := tw_mem (in_tables_1_8 (List.mem_of_getElem? (i := 224) rfl)) rfl
theorem ml_L_201 : Cond.methodLink RL 201 yX12_sneak ∈ TW := tw_mem (in_tables_1_8 (List.mem_of_getElem? (i := 225) rfl)) rfl
theorem im_X12_sneak : Cond.instanceMethod yX12_sneak ∈ TW := tw_mem (in_tables_1_8 (List.mem_of_getElem? (i := 226) rfl)) rfl
theorem se_X12_sneak : Cond.selects RX12 yX12_sneak yX12_sneak ∈ TW := tw_mem (in_tables_1_8 (List.mem_of_getElem? (i := 227) rfl)) rfl
theorem co_X12_sneak : Cond.code yX12_sneak cX12_sneak 5 (some .int) ∈ TW := tw_mem (in_tables_1_8 (List.mem_of_getElem? (i := 228) rfl)) rfl
theorem ml_L_204 : Cond.methodLink RL 204 yX12_safe ∈ TW := tw_mem (in_tables_1_8 (List.mem_of_getElem? (i := 229) rfl)) rfl
theorem im_X12_safe : Cond.instanceMethod yX12_safe ∈ TW := tw_mem (in_tables_1_8 (List.mem_of_getElem? (i := 230) rfl)) rfl
theorem se_X12_safe : Cond.selects RX12 yX12_safe yX12_safe ∈ TW := tw_mem (in_tables_1_8 (List.mem_of_getElem? (i := 231) rfl)) rfl
theorem co_X12_safe : Cond.code yX12_safe cX12_safe 4 (some .int) ∈ TW := tw_mem (in_tables_1_8 (List.mem_of_getElem? (i := 232) rfl)) rfl
theorem ml_X12_438 : Cond.methodLink RX12 438 yX12_lit ∈ TW := tw_mem (in_tables_1_8 (List.mem_of_getElem? (i := 233) rfl)) rfl
theorem im_X12_lit : Cond.instanceMethod yX12_lit ∈ TW := tw_mem (in_tables_1_8 (List.mem_of_getElem? (i := 235) rfl)) rfl
theorem co_X12_lit : Cond.code yX12_lit cX12_lit 5 (some .int) ∈ TW := tw_mem (in_tables_1_8 (List.mem_of_getElem? (i := 236) rfl)) rfl
theorem ml_L_207 : Cond.methodLink RL 207 yX12_toHide ∈ TW := tw_mem (in_tables_1_8 (List.mem_of_getElem? (i := 237) rfl)) rfl
theorem im_X12_toHide : Cond.instanceMethod yX12_toHide ∈ TW := tw_mem (in_tables_1_8 (List.mem_of_getElem? (i := 238) rfl)) rfl
theorem se_X12_toHide : Cond.selects RX12 yX12_toHide yX12_toHide ∈ TW := tw_mem (in_tables_1_8 (List.mem_of_getElem? (i := 239) rfl)) rfl
theorem co_X12_toHide : Cond.code yX12_toHide cX12_toHide 5 (some .int) ∈ TW := tw_mem (in_tables_1_9 (List.mem_of_getElem? (i := 0) rfl)) rfl
theorem ml_L_225 : Cond.methodLink RL 225 yX12_meet ∈ TW := tw_mem (in_tables_1_9 (List.mem_of_getElem? (i := 1) rfl)) rfl
theorem im_X12_meet : Cond.instanceMethod yX12_meet ∈ TW := tw_mem (in_tables_1_9 (List.mem_of_getElem? (i := 2) rfl)) rfl
theorem se_X12_meet : Cond.selects RX12 yX12_meet yX12_meet ∈ TW := tw_mem (in_tables_1_9 (List.mem_of_getElem? (i := 3) rfl)) rfl
theorem co_X12_meet : Cond.code yX12_meet cX12_meet 5 (some .int) ∈ TW := tw_mem (in_tables_1_9 (List.mem_of_getElem? (i := 4) rfl)) rfl
theorem ml_L_210 : Cond.methodLink RL 210 yX12_toWin ∈ TW := tw_mem (in_tables_1_9 (List.mem_of_getElem? (i := 5) rfl)) rfl
theorem im_X12_toWin : Cond.instanceMethod yX12_toWin ∈ TW := tw_mem (in_tables_1_9 (List.mem_of_getElem? (i := 6) rfl)) rfl
theorem se_X12_toWin : Cond.selects RX12 yX12_toWin yX12_toWin ∈ TW := tw_mem (in_tables_1_9 (List.mem_of_getElem? (i := 7) rfl)) rfl
theorem co_X12_toWin : Cond.code yX12_toWin cX12_toWin 5 (some .int) ∈ TW := tw_mem (in_tables_1_9 (List.mem_of_getElem? (i := 8) rfl)) rfl
theorem ml_X12_441 : Cond.methodLink RX12 441 yX12_lotsNow ∈ TW := tw_mem (in_tables_1_9 (List.mem_of_getElem? (i := 9) rfl)) rfl
theorem im_X12_lotsNow : Cond.instanceMethod yX12_lotsNow ∈ TW := tw_mem (in_tables_1_9 (List.mem_of_getElem? (i := 11) rfl)) rfl
theorem co_X12_lotsNow : Cond.code yX12_lotsNow cX12_lotsNow 3 (some .int) ∈ TW := tw_mem (in_tables_1_9 (List.mem_of_getElem? (i := 12) rfl)) rfl
theorem ml_L_213 : Cond.methodLink RL 213 yX12_given ∈ TW := tw_mem (in_tables_1_9 (List.mem_of_getElem? (i := 13) rfl)) rfl
theorem im_X12_given : Cond.instanceMethod yX12_given ∈ TW := tw_mem (in_tables_1_9 (List.mem_of_getElem? (i := 14) rfl)) rfl
theorem se_X12_given : Cond.selects RX12 yX12_given yX12_given ∈ TW := tw_mem (in_tables_1_9 (List.mem_of_getElem? (i := 15) rfl)) rfl
theorem co_X12_given : Cond.code yX12_given cX12_given 6 (some .int) ∈ TW := tw_mem (in_tables_1_9 (List.mem_of_getElem? (i := 16) rfl)) rfl
theorem kl_X12_451 : Cond.constantLong RX12 451 (-1) ∈ TW := tw_mem (in_tables_1_9 (List.mem_of_getElem? (i := 17) rfl)) rfl
theorem ml_X12_453 : Cond.methodLink RX12 453 yX12_tellMost ∈ TW := tw_mem (in_tables_1_9 (List.mem_of_getElem? (i := 18) rfl)) rfl
theorem im_X12_tellMost : Cond.instanceMethod yX12_tellMost ∈ TW := tw_mem (in_tables_1_9 (List.mem_of_getElem? (i := 20) rfl)) rfl
theorem co_X12_tellMost : Cond.code yX12_tellMost cX12_tellMost 6 none ∈ TW := tw_mem (in_tables_1_9 (List.mem_of_getElem? (i := 21) rfl)) rfl
theorem ml_X12_444 : Cond.methodLink RX12 444 yX12_with ∈ TW := tw_mem (in_tables_1_9 (List.mem_of_getElem? (i := 22) rfl)) rfl
theorem im_X12_with : Cond.instanceMethod yX12_with ∈ TW := tw_mem (in_tables_1_9 (List.mem_of_getElem? (i := 24) rfl)) rfl
theorem co_X12_with : Cond.code yX12_with cX12_with 4 (some .int) ∈ TW := tw_mem (in_tables_1_9 (List.mem_of_getElem? (i := 25) rfl)) rfl
theorem ml_X12_447 : Cond.methodLink RX12 447 yX12_mayHave ∈ TW := tw_mem (in_tables_1_9 (List.mem_of_getElem? (i := 26) rfl)) rfl
theorem im_X12_mayHave : Cond.instanceMethod yX12_mayHave ∈ TW := tw_mem (in_tables_1_9 (List.mem_of_getElem? (i := 28) rfl)) rfl
theorem co_X12_mayHave : Cond.code yX12_mayHave cX12_mayHave 4 (some .boolean) ∈ TW := tw_mem (in_tables_1_9 (List.mem_of_getElem? (i := 29) rfl)) rfl
theorem ml_L_216 : Cond.methodLink RL 216 yX12_gossip ∈ TW := tw_mem (in_tables_1_9 (List.mem_of_getElem? (i := 30) rfl)) rfl
theorem im_X12_gossip : Cond.instanceMethod yX12_gossip ∈ TW := tw_mem (in_tables_1_9 (List.mem_of_getElem? (i := 31) rfl)) rfl
theorem se_X12_gossip : Cond.selects RX12 yX12_gossip yX12_gossip ∈ TW := tw_mem (in_tables_1_9 (List.mem_of_getElem? (i := 32) rfl)) rfl
theorem co_X12_gossip : Cond.code yX12_gossip cX12_gossip 5 (some .int) ∈ TW := tw_mem (in_tables_1_9 (List.mem_of_getElem? (i := 33) rfl)) rfl
theorem ml_L_219 : Cond.methodLink RL 219 yX12_most ∈ TW := tw_mem (in_tables_1_9 (List.mem_of_getElem? (i := 34) rfl)) rfl
theorem im_X12_most : Cond.instanceMethod yX12_most ∈ TW := tw_mem (in_tables_1_9 (List.mem_of_getElem? (i := 35) rfl)) rfl
theorem se_X12_most : Cond.selects RX12 yX12_most yX12_most ∈ TW := tw_mem (in_tables_1_9 (List.mem_of_getElem? (i := 36) rfl)) rfl
theorem co_X12_most : Cond.code yX12_most cX12_most 6 (some .int) ∈ TW := tw_mem (in_tables_1_9 (List.mem_of_getElem? (i := 37) rfl)) rfl
theorem ml_X12_456 : Cond.methodLink RX12 456 yX12_knowers ∈ TW := tw_mem (in_tables_1_9 (List.mem_of_getElem? (i := 38) rfl)) rfl
theorem im_X12_knowers : Cond.instanceMethod yX12_knowers ∈ TW := tw_mem (in_tables_1_9 (List.mem_of_getElem? (i := 40) rfl)) rfl
theorem co_X12_knowers : Cond.code yX12_knowers cX12_knowers 4 (some .int) ∈ TW := tw_mem (in_tables_1_9 (List.mem_of_getElem? (i := 41) rfl)) rfl
theorem ml_L_231 : Cond.methodLink RL 231 yX12_unknown ∈ TW := tw_mem (in_tables_1_9 (List.mem_of_getElem? (i := 42) rfl)) rfl
theorem im_X12_unknown : Cond.instanceMethod yX12_unknown ∈ TW := tw_mem (in_tables_1_9 (List.mem_of_getElem? (i := 43) rfl)) rfl
theorem se_X12_unknown : Cond.selects RX12 yX12_unknown yX12_unknown ∈ TW := tw_mem (in_tables_1_9 (List.mem_of_getElem? (i := 44) rfl)) rfl
theorem co_X12_unknown : Cond.code yX12_unknown cX12_unknown 2 (some .int) ∈ TW := tw_mem (in_tables_1_9 (List.mem_of_getElem? (i := 45) rfl)) rfl
theorem ml_L_235 : Cond.methodLink RL 235 yX12_tell ∈ TW := tw_mem (in_tables_1_9 (List.mem_of_getElem? (i := 46) rfl)) rfl
theorem im_X12_tell : Cond.instanceMethod yX12_tell ∈ TW := tw_mem (in_tables_1_9 (List.mem_of_getElem? (i := 47) rfl)) rfl
theorem se_X12_tell : Cond.selects RX12 yX12_tell yX12_tell ∈ TW := tw_mem (in_tables_1_9 (List.mem_of_getElem? (i := 48) rfl)) rfl
theorem co_X12_tell : Cond.code yX12_tell cX12_tell 4 (some .int) ∈ TW := tw_mem (in_tables_1_9 (List.mem_of_getElem? (i := 49) rfl)) rfl
theorem kl_X12_459 : Cond.constantLong RX12 459 (12) ∈ TW := tw_mem (in_tables_1_9 (List.mem_of_getElem? (i := 50) rfl)) rfl
theorem ml_L_238 : Cond.methodLink RL 238 yX12_otherwise ∈ TW := tw_mem (in_tables_1_9 (List.mem_of_getElem? (i := 51) rfl)) rfl
theorem im_X12_otherwise : Cond.instanceMethod yX12_otherwise ∈ TW := tw_mem (in_tables_1_9 (List.mem_of_getElem? (i := 52) rfl)) rfl
theorem se_X12_otherwise : Cond.selects RX12 yX12_otherwise yX12_otherwise ∈ TW := tw_mem (in_tables_1_9 (List.mem_of_getElem? (i := 53) rfl)) rfl
theorem co_X12_otherwise : Cond.code yX12_otherwise cX12_otherwise 2 (some .int) ∈ TW := tw_mem (in_tables_1_9 (List.mem_of_getElem? (i := 54) rfl)) rfl
theorem kl_X12_468 : Cond.constantLong RX12 468 (2) ∈ TW := tw_mem (in_tables_1_9 (List.mem_of_getElem? (i := 55) rfl)) rfl
theorem ml_X12_464 : Cond.methodLink RX12 464 yX12_isAsTold ∈ TW := tw_mem (in_tables_1_9 (List.mem_of_getElem? (i := 56) rfl)) rfl
theorem im_X12_isAsTold : Cond.instanceMethod yX12_isAsTold ∈ TW := tw_mem (in_tables_1_9 (List.mem_of_getElem? (i := 58) rfl)) rfl
theorem co_X12_isAsTold : Cond.code yX12_isAsTold cX12_isAsTold 4 (some .boolean) ∈ TW := tw_mem (in_tables_1_9 (List.mem_of_getElem? (i := 59) rfl)) rfl
theorem ml_X12_470 : Cond.methodLink RX12 470 yX12_tellFits ∈ TW := tw_mem (in_tables_1_9 (List.mem_of_getElem? (i := 60) rfl)) rfl
theorem im_X12_tellFits : Cond.instanceMethod yX12_tellFits ∈ TW := tw_mem (in_tables_1_9 (List.mem_of_getElem? (i := 62) rfl)) rfl
theorem co_X12_tellFits : Cond.code yX12_tellFits cX12_tellFits 5 none ∈ TW := tw_mem (in_tables_1_9 (List.mem_of_getElem? (i := 63) rfl)) rfl
theorem ml_L_241 : Cond.methodLink RL 241 yX12_look ∈ TW := tw_mem (in_tables_1_9 (List.mem_of_getElem? (i := 64) rfl)) rfl
theorem im_X12_look : Cond.instanceMethod yX12_look ∈ TW := tw_mem (in_tables_1_9 (List.mem_of_getElem? (i := 65) rfl)) rfl
theorem se_X12_look : Cond.selects RX12 yX12_look yX12_look ∈ TW := tw_mem (in_tables_1_9 (List.mem_of_getElem? (i := 66) rfl)) rfl
theorem co_X12_look : Cond.code yX12_look cX12_look 6 (some .int) ∈ TW := tw_mem (in_tables_1_9 (List.mem_of_getElem? (i := 67) rfl)) rfl
theorem ml_X12_473 : Cond.methodLink RX12 473 yX12_unlike ∈ TW := tw_mem (in_tables_1_9 (List.mem_of_getElem? (i := 68) rfl)) rfl
theorem im_X12_unlike : Cond.instanceMethod yX12_unlike ∈ TW := tw_mem (in_tables_1_9 (List.mem_of_getElem? (i := 70) rfl)) rfl
theorem co_X12_unlike : Cond.code yX12_unlike cX12_unlike 6 (some .int) ∈ TW := tw_mem (in_tables_1_9 (List.mem_of_getElem? (i := 71) rfl)) rfl
theorem ml_L_245 : Cond.methodLink RL 245 yX12_forget ∈ TW := tw_mem (in_tables_1_9 (List.mem_of_getElem? (i := 72) rfl)) rfl
theorem im_X12_forget : Cond.instanceMethod yX12_forget ∈ TW := tw_mem (in_tables_1_9 (List.mem_of_getElem? (i := 73) rfl)) rfl
theorem se_X12_forget : Cond.selects RX12 yX12_forget yX12_forget ∈ TW := tw_mem (in_tables_1_9 (List.mem_of_getElem? (i := 74) rfl)) rfl
theorem co_X12_forget : Cond.code yX12_forget cX12_forget 1 none ∈ TW := tw_mem (in_tables_1_9 (List.mem_of_getElem? (i := 75) rfl)) rfl
theorem ml_L_248 : Cond.methodLink RL 248 yX12_game ∈ TW := tw_mem (in_tables_1_9 (List.mem_of_getElem? (i := 76) rfl)) rfl
theorem im_X12_game : Cond.instanceMethod yX12_game ∈ TW := tw_mem (in_tables_1_9 (List.mem_of_getElem? (i := 77) rfl)) rfl
theorem se_X12_game : Cond.selects RX12 yX12_game yX12_game ∈ TW := tw_mem (in_tables_1_9 (List.mem_of_getElem? (i := 78) rfl)) rfl
theorem co_X12_game : Cond.code yX12_game cX12_game 9 (some .int) ∈ TW := tw_mem (in_tables_1_9 (List.mem_of_getElem? (i := 79) rfl)) rfl
theorem ml_X12_479 : Cond.methodLink RX12 479 yX12_tellGains ∈ TW := tw_mem (in_tables_1_9 (List.mem_of_getElem? (i := 80) rfl)) rfl
theorem im_X12_tellGains : Cond.instanceMethod yX12_tellGains ∈ TW := tw_mem (in_tables_1_9 (List.mem_of_getElem? (i := 82) rfl)) rfl
theorem co_X12_tellGains : Cond.code yX12_tellGains cX12_tellGains 4 none ∈ TW := tw_mem (in_tables_1_9 (List.mem_of_getElem? (i := 83) rfl)) rfl
theorem ml_X12_476 : Cond.methodLink RX12 476 yX12_loss ∈ TW := tw_mem (in_tables_1_9 (List.mem_of_getElem? (i := 84) rfl)) rfl
theorem im_X12_loss : Cond.instanceMethod yX12_loss ∈ TW := tw_mem (in_tables_1_9 (List.mem_of_getElem? (i := 86) rfl)) rfl
theorem co_X12_loss : Cond.code yX12_loss cX12_loss 3 (some .int) ∈ TW := tw_mem (in_tables_1_9 (List.mem_of_getElem? (i := 87) rfl)) rfl
theorem ml_L_251 : Cond.methodLink RL 251 yX12_years ∈ TW := tw_mem (in_tables_1_9 (List.mem_of_getElem? (i := 88) rfl)) rfl
theorem im_X12_years : Cond.instanceMethod yX12_years ∈ TW := tw_mem (in_tables_1_9 (List.mem_of_getElem? (i := 89) rfl)) rfl
theorem se_X12_years : Cond.selects RX12 yX12_years yX12_years ∈ TW := tw_mem (in_tables_1_9 (List.mem_of_getElem? (i := 90) rfl)) rfl
theorem co_X12_years : Cond.code yX12_years cX12_years 6 (some .int) ∈ TW := tw_mem (in_tables_1_9 (List.mem_of_getElem? (i := 91) rfl)) rfl
theorem ml_X12_490 : Cond.methodLink RX12 490 yX12_something ∈ TW := tw_mem (in_tables_1_9 (List.mem_of_getElem? (i := 92) rfl)) rfl
theorem im_X12_something : Cond.instanceMethod yX12_something ∈ TW := tw_mem (in_tables_1_9 (List.mem_of_getElem? (i := 94) rfl)) rfl
theorem co_X12_something : Cond.code yX12_something cX12_something 4 none ∈ TW := tw_mem (in_tables_1_9 (List.mem_of_getElem? (i := 95) rfl)) rfl
theorem ml_X12_487 : Cond.methodLink RX12 487 yX12_drawOf ∈ TW := tw_mem (in_tables_1_9 (List.mem_of_getElem? (i := 96) rfl)) rfl
theorem im_X12_drawOf : Cond.instanceMethod yX12_drawOf ∈ TW := tw_mem (in_tables_1_9 (List.mem_of_getElem? (i := 98) rfl)) rfl
theorem co_X12_drawOf : Cond.code yX12_drawOf cX12_drawOf 2 (some .int) ∈ TW := tw_mem (in_tables_1_9 (List.mem_of_getElem? (i := 99) rfl)) rfl
theorem kc_X12_486 : Cond.constant RX12 486 (1103515245) ∈ TW := tw_mem (in_tables_1_9 (List.mem_of_getElem? (i := 100) rfl)) rfl
theorem ml_L_255 : Cond.methodLink RL 255 yX12_image ∈ TW := tw_mem (in_tables_1_9 (List.mem_of_getElem? (i := 101) rfl)) rfl
theorem im_X12_image : Cond.instanceMethod yX12_image ∈ TW := tw_mem (in_tables_1_9 (List.mem_of_getElem? (i := 102) rfl)) rfl
theorem se_X12_image : Cond.selects RX12 yX12_image yX12_image ∈ TW := tw_mem (in_tables_1_9 (List.mem_of_getElem? (i := 103) rfl)) rfl
theorem co_X12_image : Cond.code yX12_image cX12_image 2 none ∈ TW := tw_mem (in_tables_1_9 (List.mem_of_getElem? (i := 104) rfl)) rfl
theorem ml_X12_499 : Cond.methodLink RX12 499 yX12_copyTo ∈ TW := tw_mem (in_tables_1_9 (List.mem_of_getElem? (i := 105) rfl)) rfl
theorem sm_X12_copyTo : Cond.static yX12_copyTo ∈ TW := tw_mem (in_tables_1_9 (List.mem_of_getElem? (i := 106) rfl)) rfl
theorem co_X12_copyTo : Cond.code yX12_copyTo cX12_copyTo 3 none ∈ TW := tw_mem (in_tables_1_9 (List.mem_of_getElem? (i := 107) rfl)) rfl
theorem ml_L_260 : Cond.methodLink RL 260 yX12_restore ∈ TW := tw_mem (in_tables_1_9 (List.mem_of_getElem? (i := 108) rfl)) rfl
theorem im_X12_restore : Cond.instanceMethod yX12_restore ∈ TW := tw_mem (in_tables_1_9 (List.mem_of_getElem? (i := 109) rfl)) rfl
theorem se_X12_restore : Cond.selects RX12 yX12_restore yX12_restore ∈ TW := tw_mem (in_tables_1_9 (List.mem_of_getElem? (i := 110) rfl)) rfl
theorem co_X12_restore : Cond.code yX12_restore cX12_restore 2 (some .boolean) ∈ TW := tw_mem (in_tables_1_9 (List.mem_of_getElem? (i := 111) rfl)) rfl
theorem ac_long : Cond.arrayClass .long ∈ TW := tw_mem (in_tables_1_9 (List.mem_of_getElem? (i := 112) rfl)) rfl
theorem fl_J0_9 : Cond.fieldLink RJ0 9 "java/lang/String" "value" "[B" ∈ TW := tw_mem (in_tables_1_9 (List.mem_of_getElem? (i := 131) rfl)) rfl
theorem fl_J0_15 : Cond.fieldLink RJ0 15 "java/lang/String" "coder" "B" ∈ TW := tw_mem (in_tables_1_9 (List.mem_of_getElem? (i := 132) rfl)) rfl
/-! links between nest mates, and texts: words that hold at every later state, but are not among the steady ones -/
def NLW : List Cond := [Cond.methodLinkNest RX9 62 yX11_put RX11, Cond.methodLinkNest RX5 54 yX11_put RX11, Cond.methodLinkNest RX0 53 yX11_at RX11, Cond.methodLinkNest RX0 57 yX11_put RX11, Cond.methodLinkNest RX8 45 yX11_put RX11, Cond.methodLinkNest RX8 41 yX11_at RX11, Cond.methodLinkNest RX9 67 yX11_at RX11, Cond.methodLinkNest RX6 47 yX11_at RX11, Cond.methodLinkNest RX9 82 yX11_streetIn RX11, Cond.methodLinkNest RX6 58 yX11_put RX11, Cond.methodLinkNest RX6 113 yX11_streetIn RX11, Cond.methodLinkNest RX10 25 yX11_put RX11, Cond.methodLinkNest RX10 36 yX11_at RX11, Cond.methodLinkNest RX8 50 yX11_copyRow RX11, Cond.methodLinkNest RX1 31 yX11_at RX11, Cond.methodLinkNest RX1 35 yX11_put RX11, Cond.methodLinkNest RX7 33 yX11_copyRow RX11, Cond.methodLinkNest RX0 70 yX11_copyRow RX11, Cond.methodLinkNest RX5 68 yX11_at RX11, Cond.methodLinkNest RX5 178 yX11_copyRow RX11, Cond.methodLinkNest RX9 71 yX11_walkWith RX11, Cond.methodLinkNest RX8 64 yX11_walkWith RX11, Cond.methodLinkNest RX3 37 yX11_put RX11, Cond.methodLinkNest RX3 48 yX11_at RX11, Cond.methodLinkNest RX7 25 yX11_put RX11, Cond.methodLinkNest RX4 39 yX11_at RX11, Cond.methodLinkNest RX4 47 yX11_put RX11, Cond.methodLinkNest RX7 29 yX11_at RX11, Cond.methodLinkNest RX4 67 yX11_streetIn RX11, Cond.methodLinkNest RX4 71 yX11_walkWith RX11]
theorem mn_X9_62 : Cond.methodLinkNest RX9 62 yX11_put RX11 ∈ NLW := List.mem_of_getElem? (i := 0) rfl
theorem mn_X5_54 : Cond.methodLinkNest RX5 54 yX11_put RX11 ∈ NLW := List.mem_of_getElem? (i := 1) rfl
theorem mn_X0_53 : Cond.methodLinkNest RX0 53 yX11_at RX11 ∈ NLW := List.mem_of_getElem? (i := 2) rfl
theorem mn_X0_57 : Cond.methodLinkNest RX0 57 yX11_put RX11 ∈ NLW := List.mem_of_getElem? (i := 3) rfl
theorem mn_X8_45 : Cond.methodLinkNest RX8 45 yX11_put RX11 ∈ NLW := List.mem_of_getElem? (i := 4) rfl
theorem mn_X8_41 : Cond.methodLinkNest RX8 41 yX11_at RX11 ∈ NLW := List.mem_of_getElem? (i := 5) rfl
theorem mn_X9_67 : Cond.methodLinkNest RX9 67 yX11_at RX11 ∈ NLW := List.mem_of_getElem? (i := 6) rfl
theorem mn_X6_47 : Cond.methodLinkNest RX6 47 yX11_at RX11 ∈ NLW := List.mem_of_getElem? (i := 7) rfl
theorem mn_X9_82 : Cond.methodLinkNest RX9 82 yX11_streetIn RX11 ∈ NLW := List.mem_of_getElem? (i := 8) rfl
theorem mn_X6_58 : Cond.methodLinkNest RX6 58 yX11_put RX11 ∈ NLW := List.mem_of_getElem? (i := 9) rfl
theorem mn_X6_113 : Cond.methodLinkNest RX6 113 yX11_streetIn RX11 ∈ NLW := List.mem_of_getElem? (i := 10) rfl
theorem mn_X10_25 : Cond.methodLinkNest RX10 25 yX11_put RX11 ∈ NLW := List.mem_of_getElem? (i := 11) rfl
theorem mn_X10_36 : Cond.methodLinkNest RX10 36 yX11_at RX11 ∈ NLW := List.mem_of_getElem? (i := 12) rfl
theorem mn_X8_50 : Cond.methodLinkNest RX8 50 yX11_copyRow RX11 ∈ NLW := List.mem_of_getElem? (i := 13) rfl
theorem mn_X1_31 : Cond.methodLinkNest RX1 31 yX11_at RX11 ∈ NLW := List.mem_of_getElem? (i := 14) rfl
theorem mn_X1_35 : Cond.methodLinkNest RX1 35 yX11_put RX11 ∈ NLW := List.mem_of_getElem? (i := 15) rfl
theorem mn_X7_33 : Cond.methodLinkNest RX7 33 yX11_copyRow RX11 ∈ NLW := List.mem_of_getElem? (i := 16) rfl
theorem mn_X0_70 : Cond.methodLinkNest RX0 70 yX11_copyRow RX11 ∈ NLW := List.mem_of_getElem? (i := 17) rfl
theorem mn_X5_68 : Cond.methodLinkNest RX5 68 yX11_at RX11 ∈ NLW := List.mem_of_getElem? (i := 18) rfl
theorem mn_X5_178 : Cond.methodLinkNest RX5 178 yX11_copyRow RX11 ∈ NLW := List.mem_of_getElem? (i := 19) rfl
theorem mn_X9_71 : Cond.methodLinkNest RX9 71 yX11_walkWith RX11 ∈ NLW := List.mem_of_getElem? (i := 20) rfl
theorem mn_X8_64 : Cond.methodLinkNest RX8 64 yX11_walkWith RX11 ∈ NLW := List.mem_of_getElem? (i := 21) rfl
theorem mn_X3_37 : Cond.methodLinkNest RX3 37 yX11_put RX11 ∈ NLW := List.mem_of_getElem? (i := 22) rfl
theorem mn_X3_48 : Cond.methodLinkNest RX3 48 yX11_at RX11 ∈ NLW := List.mem_of_getElem? (i := 23) rfl
theorem mn_X7_25 : Cond.methodLinkNest RX7 25 yX11_put RX11 ∈ NLW := List.mem_of_getElem? (i := 24) rfl
theorem mn_X4_39 : Cond.methodLinkNest RX4 39 yX11_at RX11 ∈ NLW := List.mem_of_getElem? (i := 25) rfl
theorem mn_X4_47 : Cond.methodLinkNest RX4 47 yX11_put RX11 ∈ NLW := List.mem_of_getElem? (i := 26) rfl
theorem mn_X7_29 : Cond.methodLinkNest RX7 29 yX11_at RX11 ∈ NLW := List.mem_of_getElem? (i := 27) rfl
theorem mn_X4_67 : Cond.methodLinkNest RX4 67 yX11_streetIn RX11 ∈ NLW := List.mem_of_getElem? (i := 28) rfl
theorem mn_X4_71 : Cond.methodLinkNest RX4 71 yX11_walkWith RX11 ∈ NLW := List.mem_of_getElem? (i := 29) rfl
theorem NLW_tbl : ∀ w ∈ NLW, w ∈ lw_tbl := by
  intro w hw
  simp only [NLW, List.mem_cons, List.not_mem_nil, or_false] at hw
  rcases hw with rfl | rfl | rfl | rfl | rfl | rfl | rfl | rfl | rfl | rfl | rfl | rfl | rfl | rfl | rfl | rfl | rfl | rfl | rfl | rfl | rfl | rfl | rfl | rfl | rfl | rfl | rfl | rfl | rfl | rfl
  · exact in_tables_1_1 (List.mem_of_getElem? (i := 69) rfl)
  · exact in_tables_1_2 (List.mem_of_getElem? (i := 182) rfl)
  · exact in_tables_1_2 (List.mem_of_getElem? (i := 195) rfl)
  · exact in_tables_1_2 (List.mem_of_getElem? (i := 198) rfl)
  · exact in_tables_1_2 (List.mem_of_getElem? (i := 215) rfl)
  · exact in_tables_1_2 (List.mem_of_getElem? (i := 216) rfl)
  · exact in_tables_1_2 (List.mem_of_getElem? (i := 221) rfl)
  · exact in_tables_1_2 (List.mem_of_getElem? (i := 234) rfl)
  · exact in_tables_1_3 (List.mem_of_getElem? (i := 7) rfl)
  · exact in_tables_1_3 (List.mem_of_getElem? (i := 10) rfl)
  · exact in_tables_1_3 (List.mem_of_getElem? (i := 56) rfl)
  · exact in_tables_1_3 (List.mem_of_getElem? (i := 65) rfl)
  · exact in_tables_1_3 (List.mem_of_getElem? (i := 66) rfl)
  · exact in_tables_1_3 (List.mem_of_getElem? (i := 130) rfl)
  · exact in_tables_1_3 (List.mem_of_getElem? (i := 137) rfl)
  · exact in_tables_1_3 (List.mem_of_getElem? (i := 138) rfl)
  · exact in_tables_1_3 (List.mem_of_getElem? (i := 143) rfl)
  · exact in_tables_1_3 (List.mem_of_getElem? (i := 144) rfl)
  · exact in_tables_1_3 (List.mem_of_getElem? (i := 233) rfl)
  · exact in_tables_1_4 (List.mem_of_getElem? (i := 109) rfl)
  · exact in_tables_1_4 (List.mem_of_getElem? (i := 119) rfl)
  · exact in_tables_1_5 (List.mem_of_getElem? (i := 53) rfl)
  · exact in_tables_1_5 (List.mem_of_getElem? (i := 203) rfl)
  · exact in_tables_1_5 (List.mem_of_getElem? (i := 208) rfl)
  · exact in_tables_1_6 (List.mem_of_getElem? (i := 60) rfl)
  · exact in_tables_1_6 (List.mem_of_getElem? (i := 72) rfl)
  · exact in_tables_1_6 (List.mem_of_getElem? (i := 77) rfl)
  · exact in_tables_1_6 (List.mem_of_getElem? (i := 82) rfl)
  · exact in_tables_1_6 (List.mem_of_getElem? (i := 87) rfl)
  · exact in_tables_1_6 (List.mem_of_getElem? (i := 88) rfl)
theorem NLW_nest : ∀ w ∈ NLW, ∃ a i x h, w = Cond.methodLinkNest a i x h := by
  intro w hw
  simp only [NLW, List.mem_cons, List.not_mem_nil, or_false] at hw
  rcases hw with rfl | rfl | rfl | rfl | rfl | rfl | rfl | rfl | rfl | rfl | rfl | rfl | rfl | rfl | rfl | rfl | rfl | rfl | rfl | rfl | rfl | rfl | rfl | rfl | rfl | rfl | rfl | rfl | rfl | rfl <;> exact ⟨_, _, _, _, rfl⟩
/-- texts: whose pool, the place, the text, its number -/
def SRL : List (String × Nat × String × Nat) := [(RX5, 111, "streets", 0), (RX5, 119, "path", 1), (RX5, 124, "round", 2), (RX5, 129, "person", 3), (RX5, 135, "bishop", 4), (RX5, 137, "fog", 5), (RX5, 142, "reserve", 6), (RX5, 147, "worth", 7), (RX5, 215, "not", 8), (RX5, 235, "own", 9), (RX5, 237, "coins", 10), (RX5, 239, "theirs", 11), (RX5, 241, "knows", 12), (RX5, 243, "hours", 13), (RX5, 245, "street", 14), (RX5, 246, "lots", 15), (RX5, 248, "night", 16), (RX5, 213, "and", 17), (RX5, 199, "or", 18), (RX12, 11, "person", 19), (RX12, 13, "bishop", 20), (RX12, 19, "own", 21), (RX12, 21, "coins", 22), (RX12, 23, "theirs", 23), (RX12, 25, "knows", 24), (RX12, 27, "hours", 25), (RX12, 29, "street", 26), (RX12, 31, "lots", 27), (RX12, 33, "night", 28), (RX12, 297, "streets", 29), (RX12, 299, "round", 30), (RX12, 301, "fog", 31), (RX12, 303, "reserve", 32), (RX12, 305, "worth", 33), (RX12, 265, "not", 34), (RX12, 273, "and", 35), (RX12, 278, "or", 36), (RX12, 313, "path", 37)]
theorem sr_X5_111 : (RX5, 111, "streets", 0) ∈ SRL := List.mem_of_getElem? (i := 0) rfl
theorem sr_X5_119 : (RX5, 119, "path", 1) ∈ SRL := List.mem_of_getElem? (i := 1) rfl
theorem sr_X5_124 : (RX5, 124, "round", 2) ∈ SRL := List.mem_of_getElem? (i := 2) rfl
theorem sr_X5_129 : (RX5, 129, "person", 3) ∈ SRL := List.mem_of_getElem? (i := 3) rfl
theorem sr_X5_135 : (RX5, 135, "bishop", 4) ∈ SRL := List.mem_of_getElem? (i := 4) rfl
theorem sr_X5_137 : (RX5, 137, "fog", 5) ∈ SRL := List.mem_of_getElem? (i := 5) rfl
theorem sr_X5_142 : (RX5, 142, "reserve", 6) ∈ SRL := List.mem_of_getElem? (i := 6) rfl
theorem sr_X5_147 : (RX5, 147, "worth", 7) ∈ SRL := List.mem_of_getElem? (i := 7) rfl
theorem sr_X5_215 : (RX5, 215, "not", 8) ∈ SRL := List.mem_of_getElem? (i := 8) rfl
theorem sr_X5_235 : (RX5, 235, "own", 9) ∈ SRL := List.mem_of_getElem? (i := 9) rfl
theorem sr_X5_237 : (RX5, 237, "coins", 10) ∈ SRL := List.mem_of_getElem? (i := 10) rfl
theorem sr_X5_239 : (RX5, 239, "theirs", 11) ∈ SRL := List.mem_of_getElem? (i := 11) rfl
theorem sr_X5_241 : (RX5, 241, "knows", 12) ∈ SRL := List.mem_of_getElem? (i := 12) rfl
theorem sr_X5_243 : (RX5, 243, "hours", 13) ∈ SRL := List.mem_of_getElem? (i := 13) rfl
theorem sr_X5_245 : (RX5, 245, "street", 14) ∈ SRL := List.mem_of_getElem? (i := 14) rfl
theorem sr_X5_246 : (RX5, 246, "lots", 15) ∈ SRL := List.mem_of_getElem? (i := 15) rfl
theorem sr_X5_248 : (RX5, 248, "night", 16) ∈ SRL := List.mem_of_getElem? (i := 16) rfl
theorem sr_X5_213 : (RX5, 213, "and", 17) ∈ SRL := List.mem_of_getElem? (i := 17) rfl
theorem sr_X5_199 : (RX5, 199, "or", 18) ∈ SRL := List.mem_of_getElem? (i := 18) rfl
theorem sr_X12_11 : (RX12, 11, "person", 19) ∈ SRL := List.mem_of_getElem? (i := 19) rfl
theorem sr_X12_13 : (RX12, 13, "bishop", 20) ∈ SRL := List.mem_of_getElem? (i := 20) rfl
theorem sr_X12_19 : (RX12, 19, "own", 21) ∈ SRL := List.mem_of_getElem? (i := 21) rfl
theorem sr_X12_21 : (RX12, 21, "coins", 22) ∈ SRL := List.mem_of_getElem? (i := 22) rfl
theorem sr_X12_23 : (RX12, 23, "theirs", 23) ∈ SRL := List.mem_of_getElem? (i := 23) rfl
theorem sr_X12_25 : (RX12, 25, "knows", 24) ∈ SRL := List.mem_of_getElem? (i := 24) rfl
theorem sr_X12_27 : (RX12, 27, "hours", 25) ∈ SRL := List.mem_of_getElem? (i := 25) rfl
theorem sr_X12_29 : (RX12, 29, "street", 26) ∈ SRL := List.mem_of_getElem? (i := 26) rfl
theorem sr_X12_31 : (RX12, 31, "lots", 27) ∈ SRL := List.mem_of_getElem? (i := 27) rfl
theorem sr_X12_33 : (RX12, 33, "night", 28) ∈ SRL := List.mem_of_getElem? (i := 28) rfl
theorem sr_X12_297 : (RX12, 297, "streets", 29) ∈ SRL := List.mem_of_getElem? (i := 29) rfl
theorem sr_X12_299 : (RX12, 299, "round", 30) ∈ SRL := List.mem_of_getElem? (i := 30) rfl
theorem sr_X12_301 : (RX12, 301, "fog", 31) ∈ SRL := List.mem_of_getElem? (i := 31) rfl
theorem sr_X12_303 : (RX12, 303, "reserve", 32) ∈ SRL := List.mem_of_getElem? (i := 32) rfl
theorem sr_X12_305 : (RX12, 305, "worth", 33) ∈ SRL := List.mem_of_getElem? (i := 33) rfl
theorem sr_X12_265 : (RX12, 265, "not", 34) ∈ SRL := List.mem_of_getElem? (i := 34) rfl
theorem sr_X12_273 : (RX12, 273, "and", 35) ∈ SRL := List.mem_of_getElem? (i := 35) rfl
theorem sr_X12_278 : (RX12, 278, "or", 36) ∈ SRL := List.mem_of_getElem? (i := 36) rfl
theorem sr_X12_313 : (RX12, 313, "path", 37) ∈ SRL := List.mem_of_getElem? (i := 37) rfl
theorem SRL_tbl : ∀ q ∈ SRL, Cond.stringRef q.1 q.2.1 q.2.2.1 ∈ lw_tbl := by
  intro q hq
  simp only [SRL, List.mem_cons, List.not_mem_nil, or_false] at hq
  rcases hq with rfl | rfl | rfl | rfl | rfl | rfl | rfl | rfl | rfl | rfl | rfl | rfl | rfl | rfl | rfl | rfl | rfl | rfl | rfl | rfl | rfl | rfl | rfl | rfl | rfl | rfl | rfl | rfl | rfl | rfl | rfl | rfl | rfl | rfl | rfl | rfl | rfl | rfl
  · exact in_tables_1_4 (List.mem_of_getElem? (i := 14) rfl)
  · exact in_tables_1_4 (List.mem_of_getElem? (i := 87) rfl)
  · exact in_tables_1_4 (List.mem_of_getElem? (i := 100) rfl)
  · exact in_tables_1_4 (List.mem_of_getElem? (i := 110) rfl)
  · exact in_tables_1_4 (List.mem_of_getElem? (i := 122) rfl)
  · exact in_tables_1_4 (List.mem_of_getElem? (i := 123) rfl)
  · exact in_tables_1_4 (List.mem_of_getElem? (i := 128) rfl)
  · exact in_tables_1_4 (List.mem_of_getElem? (i := 133) rfl)
  · exact in_tables_1_4 (List.mem_of_getElem? (i := 146) rfl)
  · exact in_tables_1_4 (List.mem_of_getElem? (i := 167) rfl)
  · exact in_tables_1_4 (List.mem_of_getElem? (i := 168) rfl)
  · exact in_tables_1_4 (List.mem_of_getElem? (i := 169) rfl)
  · exact in_tables_1_4 (List.mem_of_getElem? (i := 170) rfl)
  · exact in_tables_1_4 (List.mem_of_getElem? (i := 171) rfl)
  · exact in_tables_1_4 (List.mem_of_getElem? (i := 172) rfl)
  · exact in_tables_1_4 (List.mem_of_getElem? (i := 173) rfl)
  · exact in_tables_1_4 (List.mem_of_getElem? (i := 174) rfl)
  · exact in_tables_1_4 (List.mem_of_getElem? (i := 184) rfl)
  · exact in_tables_1_4 (List.mem_of_getElem? (i := 185) rfl)
  · exact in_tables_1_6 (List.mem_of_getElem? (i := 163) rfl)
  · exact in_tables_1_6 (List.mem_of_getElem? (i := 164) rfl)
  · exact in_tables_1_6 (List.mem_of_getElem? (i := 165) rfl)
  · exact in_tables_1_6 (List.mem_of_getElem? (i := 166) rfl)
  · exact in_tables_1_6 (List.mem_of_getElem? (i := 167) rfl)
  · exact in_tables_1_6 (List.mem_of_getElem? (i := 168) rfl)
  · exact in_tables_1_6 (List.mem_of_getElem? (i := 169) rfl)
  · exact in_tables_1_6 (List.mem_of_getElem? (i := 170) rfl)
  · exact in_tables_1_6 (List.mem_of_getElem? (i := 171) rfl)
  · exact in_tables_1_6 (List.mem_of_getElem? (i := 172) rfl)
  · exact in_tables_1_7 (List.mem_of_getElem? (i := 176) rfl)
  · exact in_tables_1_7 (List.mem_of_getElem? (i := 177) rfl)
  · exact in_tables_1_7 (List.mem_of_getElem? (i := 178) rfl)
  · exact in_tables_1_7 (List.mem_of_getElem? (i := 179) rfl)
  · exact in_tables_1_7 (List.mem_of_getElem? (i := 180) rfl)
  · exact in_tables_1_7 (List.mem_of_getElem? (i := 229) rfl)
  · exact in_tables_1_8 (List.mem_of_getElem? (i := 10) rfl)
  · exact in_tables_1_8 (List.mem_of_getElem? (i := 11) rfl)
  · exact in_tables_1_8 (List.mem_of_getElem? (i := 20) rfl)
def TXL : List Nat := [7, 4, 5, 6, 6, 3, 7, 5, 3, 3, 5, 6, 5, 5, 6, 4, 5, 3, 2, 6, 6, 3, 5, 6, 5, 5, 6, 4, 5, 7, 5, 3, 7, 5, 3, 3, 2, 4]
def TXB : List (List Int32) := [[115, 116, 114, 101, 101, 116, 115], [112, 97, 116, 104], [114, 111, 117, 110, 100], [112, 101, 114, 115, 111, 110], [98, 105, 115, 104, 111, 112], [102, 111, 103], [114, 101, 115, 101, 114, 118, 101], [119, 111, 114, 116, 104], [110, 111, 116], [111, 119, 110], [99, 111, 105, 110, 115], [116, 104, 101, 105, 114, 115], [107, 110, 111, 119, 115], [104, 111, 117, 114, 115], [115, 116, 114, 101, 101, 116], [108, 111, 116, 115], [110, 105, 103, 104, 116], [97, 110, 100], [111, 114], [112, 101, 114, 115, 111, 110], [98, 105, 115, 104, 111, 112], [111, 119, 110], [99, 111, 105, 110, 115], [116, 104, 101, 105, 114, 115], [107, 110, 111, 119, 115], [104, 111, 117, 114, 115], [115, 116, 114, 101, 101, 116], [108, 111, 116, 115], [110, 105, 103, 104, 116], [115, 116, 114, 101, 101, 116, 115], [114, 111, 117, 110, 100], [102, 111, 103], [114, 101, 115, 101, 114, 118, 101], [119, 111, 114, 116, 104], [110, 111, 116], [97, 110, 100], [111, 114], [112, 97, 116, 104]]
theorem tw_X0 : ∀ w ∈ u_ws RX0 TX0 4, w ∈ TW := by
  intro w hw
  obtain ⟨k, hk, rfl⟩ := List.mem_map.mp hw
  have hk := List.mem_range.mp hk
  match k, hk with
  | 0, _ => exact tw_mem (in_tables_1_2 (List.mem_of_getElem? (i := 43) rfl)) rfl
  | 1, _ => exact tw_mem (in_tables_1_2 (List.mem_of_getElem? (i := 45) rfl)) rfl
  | 2, _ => exact tw_mem (in_tables_1_2 (List.mem_of_getElem? (i := 47) rfl)) rfl
  | 3, _ => exact tw_mem (in_tables_1_2 (List.mem_of_getElem? (i := 49) rfl)) rfl
  | n + 4, h => exact absurd h (by omega)
theorem tw_X1 : ∀ w ∈ u_ws RX1 TX1 2, w ∈ TW := by
  intro w hw
  obtain ⟨k, hk, rfl⟩ := List.mem_map.mp hw
  have hk := List.mem_range.mp hk
  match k, hk with
  | 0, _ => exact tw_mem (in_tables_1_2 (List.mem_of_getElem? (i := 9) rfl)) rfl
  | 1, _ => exact tw_mem (in_tables_1_2 (List.mem_of_getElem? (i := 11) rfl)) rfl
  | n + 2, h => exact absurd h (by omega)
theorem tw_X2 : ∀ w ∈ u_ws RX2 TX2 1, w ∈ TW := by
  intro w hw
  obtain ⟨k, hk, rfl⟩ := List.mem_map.mp hw
  have hk := List.mem_range.mp hk
  match k, hk with
  | 0, _ => exact tw_mem (in_tables_1_2 (List.mem_of_getElem? (i := 131) rfl)) rfl
  | n + 1, h => exact absurd h (by omega)
theorem tw_X3 : ∀ w ∈ u_ws RX3 TX3 3, w ∈ TW := by
  intro w hw
  obtain ⟨k, hk, rfl⟩ := List.mem_map.mp hw
  have hk := List.mem_range.mp hk
  match k, hk with
  | 0, _ => exact tw_mem (in_tables_1_2 (List.mem_of_getElem? (i := 92) rfl)) rfl
  | 1, _ => exact tw_mem (in_tables_1_2 (List.mem_of_getElem? (i := 94) rfl)) rfl
  | 2, _ => exact tw_mem (in_tables_1_2 (List.mem_of_getElem? (i := 96) rfl)) rfl
  | n + 3, h => exact absurd h (by omega)
theorem tw_X4 : ∀ w ∈ u_ws RX4 TX4 5, w ∈ TW := by
  intro w hw
  obtain ⟨k, hk, rfl⟩ := List.mem_map.mp hw
  have hk := List.mem_range.mp hk
  match k, hk with
  | 0, _ => exact tw_mem (in_tables_1_2 (List.mem_of_getElem? (i := 113) rfl)) rfl
  | 1, _ => exact tw_mem (in_tables_1_2 (List.mem_of_getElem? (i := 115) rfl)) rfl
  | 2, _ => exact tw_mem (in_tables_1_2 (List.mem_of_getElem? (i := 117) rfl)) rfl
  | 3, _ => exact tw_mem (in_tables_1_2 (List.mem_of_getElem? (i := 119) rfl)) rfl
  | 4, _ => exact tw_mem (in_tables_1_2 (List.mem_of_getElem? (i := 121) rfl)) rfl
  | n + 5, h => exact absurd h (by omega)
theorem tw_X5 : ∀ w ∈ u_ws RX5 TX5 12, w ∈ TW := by
  intro w hw
  obtain ⟨k, hk, rfl⟩ := List.mem_map.mp hw
  have hk := List.mem_range.mp hk
  match k, hk with
  | 0, _ => exact tw_mem (in_tables_1_1 (List.mem_of_getElem? (i := 161) rfl)) rfl
  | 1, _ => exact tw_mem (in_tables_1_1 (List.mem_of_getElem? (i := 163) rfl)) rfl
  | 2, _ => exact tw_mem (in_tables_1_1 (List.mem_of_getElem? (i := 165) rfl)) rfl
  | 3, _ => exact tw_mem (in_tables_1_1 (List.mem_of_getElem? (i := 167) rfl)) rfl
  | 4, _ => exact tw_mem (in_tables_1_1 (List.mem_of_getElem? (i := 169) rfl)) rfl
  | 5, _ => exact tw_mem (in_tables_1_1 (List.mem_of_getElem? (i := 171) rfl)) rfl
  | 6, _ => exact tw_mem (in_tables_1_1 (List.mem_of_getElem? (i := 173) rfl)) rfl
  | 7, _ => exact tw_mem (in_tables_1_1 (List.mem_of_getElem? (i := 175) rfl)) rfl
  | 8, _ => exact tw_mem (in_tables_1_1 (List.mem_of_getElem? (i := 177) rfl)) rfl
  | 9, _ => exact tw_mem (in_tables_1_1 (List.mem_of_getElem? (i := 179) rfl)) rfl
  | 10, _ => exact tw_mem (in_tables_1_1 (List.mem_of_getElem? (i := 181) rfl)) rfl
  | 11, _ => exact tw_mem (in_tables_1_1 (List.mem_of_getElem? (i := 183) rfl)) rfl
  | n + 12, h => exact absurd h (by omega)
theorem tw_X6 : ∀ w ∈ u_ws RX6 TX6 6, w ∈ TW := by
  intro w hw
  obtain ⟨k, hk, rfl⟩ := List.mem_map.mp hw
  have hk := List.mem_range.mp hk
  match k, hk with
  | 0, _ => exact tw_mem (in_tables_1_2 (List.mem_of_getElem? (i := 69) rfl)) rfl
  | 1, _ => exact tw_mem (in_tables_1_2 (List.mem_of_getElem? (i := 71) rfl)) rfl
  | 2, _ => exact tw_mem (in_tables_1_2 (List.mem_of_getElem? (i := 73) rfl)) rfl
  | 3, _ => exact tw_mem (in_tables_1_2 (List.mem_of_getElem? (i := 75) rfl)) rfl
  | 4, _ => exact tw_mem (in_tables_1_2 (List.mem_of_getElem? (i := 77) rfl)) rfl
  | 5, _ => exact tw_mem (in_tables_1_2 (List.mem_of_getElem? (i := 79) rfl)) rfl
  | n + 6, h => exact absurd h (by omega)
theorem tw_X7 : ∀ w ∈ u_ws RX7 TX7 4, w ∈ TW := by
  intro w hw
  obtain ⟨k, hk, rfl⟩ := List.mem_map.mp hw
  have hk := List.mem_range.mp hk
  match k, hk with
  | 0, _ => exact tw_mem (in_tables_1_2 (List.mem_of_getElem? (i := 26) rfl)) rfl
  | 1, _ => exact tw_mem (in_tables_1_2 (List.mem_of_getElem? (i := 28) rfl)) rfl
  | 2, _ => exact tw_mem (in_tables_1_2 (List.mem_of_getElem? (i := 30) rfl)) rfl
  | 3, _ => exact tw_mem (in_tables_1_2 (List.mem_of_getElem? (i := 32) rfl)) rfl
  | n + 4, h => exact absurd h (by omega)
theorem tw_X8 : ∀ w ∈ u_ws RX8 TX8 7, w ∈ TW := by
  intro w hw
  obtain ⟨k, hk, rfl⟩ := List.mem_map.mp hw
  have hk := List.mem_range.mp hk
  match k, hk with
  | 0, _ => exact tw_mem (in_tables_1_1 (List.mem_of_getElem? (i := 224) rfl)) rfl
  | 1, _ => exact tw_mem (in_tables_1_1 (List.mem_of_getElem? (i := 226) rfl)) rfl
  | 2, _ => exact tw_mem (in_tables_1_1 (List.mem_of_getElem? (i := 228) rfl)) rfl
  | 3, _ => exact tw_mem (in_tables_1_1 (List.mem_of_getElem? (i := 230) rfl)) rfl
  | 4, _ => exact tw_mem (in_tables_1_1 (List.mem_of_getElem? (i := 232) rfl)) rfl
  | 5, _ => exact tw_mem (in_tables_1_1 (List.mem_of_getElem? (i := 234) rfl)) rfl
  | 6, _ => exact tw_mem (in_tables_1_1 (List.mem_of_getElem? (i := 236) rfl)) rfl
  | n + 7, h => exact absurd h (by omega)
theorem tw_X9 : ∀ w ∈ u_ws RX9 TX9 14, w ∈ TW := by
  intro w hw
  obtain ⟨k, hk, rfl⟩ := List.mem_map.mp hw
  have hk := List.mem_range.mp hk
  match k, hk with
  | 0, _ => exact tw_mem (in_tables_1_1 (List.mem_of_getElem? (i := 118) rfl)) rfl
  | 1, _ => exact tw_mem (in_tables_1_1 (List.mem_of_getElem? (i := 120) rfl)) rfl
  | 2, _ => exact tw_mem (in_tables_1_1 (List.mem_of_getElem? (i := 122) rfl)) rfl
  | 3, _ => exact tw_mem (in_tables_1_1 (List.mem_of_getElem? (i := 124) rfl)) rfl
  | 4, _ => exact tw_mem (in_tables_1_1 (List.mem_of_getElem? (i := 126) rfl)) rfl
  | 5, _ => exact tw_mem (in_tables_1_1 (List.mem_of_getElem? (i := 128) rfl)) rfl
  | 6, _ => exact tw_mem (in_tables_1_1 (List.mem_of_getElem? (i := 130) rfl)) rfl
  | 7, _ => exact tw_mem (in_tables_1_1 (List.mem_of_getElem? (i := 132) rfl)) rfl
  | 8, _ => exact tw_mem (in_tables_1_1 (List.mem_of_getElem? (i := 134) rfl)) rfl
  | 9, _ => exact tw_mem (in_tables_1_1 (List.mem_of_getElem? (i := 136) rfl)) rfl
  | 10, _ => exact tw_mem (in_tables_1_1 (List.mem_of_getElem? (i := 138) rfl)) rfl
  | 11, _ => exact tw_mem (in_tables_1_1 (List.mem_of_getElem? (i := 140) rfl)) rfl
  | 12, _ => exact tw_mem (in_tables_1_1 (List.mem_of_getElem? (i := 142) rfl)) rfl
  | 13, _ => exact tw_mem (in_tables_1_1 (List.mem_of_getElem? (i := 144) rfl)) rfl
  | n + 14, h => exact absurd h (by omega)
theorem tw_X10 : ∀ w ∈ u_ws RX10 TX10 4, w ∈ TW := by
  intro w hw
  obtain ⟨k, hk, rfl⟩ := List.mem_map.mp hw
  have hk := List.mem_range.mp hk
  match k, hk with
  | 0, _ => exact tw_mem (in_tables_1_1 (List.mem_of_getElem? (i := 55) rfl)) rfl
  | 1, _ => exact tw_mem (in_tables_1_1 (List.mem_of_getElem? (i := 57) rfl)) rfl
  | 2, _ => exact tw_mem (in_tables_1_1 (List.mem_of_getElem? (i := 59) rfl)) rfl
  | 3, _ => exact tw_mem (in_tables_1_1 (List.mem_of_getElem? (i := 61) rfl)) rfl
  | n + 4, h => exact absurd h (by omega)
theorem tw_X11 : ∀ w ∈ u_ws RX11 TX11 13, w ∈ TW := by
  intro w hw
  obtain ⟨k, hk, rfl⟩ := List.mem_map.mp hw
  have hk := List.mem_range.mp hk
  match k, hk with
  | 0, _ => exact tw_mem (in_tables_1_2 (List.mem_of_getElem? (i := 147) rfl)) rfl
  | 1, _ => exact tw_mem (in_tables_1_2 (List.mem_of_getElem? (i := 149) rfl)) rfl
  | 2, _ => exact tw_mem (in_tables_1_2 (List.mem_of_getElem? (i := 151) rfl)) rfl
  | 3, _ => exact tw_mem (in_tables_1_2 (List.mem_of_getElem? (i := 153) rfl)) rfl
  | 4, _ => exact tw_mem (in_tables_1_2 (List.mem_of_getElem? (i := 155) rfl)) rfl
  | 5, _ => exact tw_mem (in_tables_1_2 (List.mem_of_getElem? (i := 157) rfl)) rfl
  | 6, _ => exact tw_mem (in_tables_1_2 (List.mem_of_getElem? (i := 159) rfl)) rfl
  | 7, _ => exact tw_mem (in_tables_1_2 (List.mem_of_getElem? (i := 161) rfl)) rfl
  | 8, _ => exact tw_mem (in_tables_1_2 (List.mem_of_getElem? (i := 163) rfl)) rfl
  | 9, _ => exact tw_mem (in_tables_1_2 (List.mem_of_getElem? (i := 165) rfl)) rfl
  | 10, _ => exact tw_mem (in_tables_1_2 (List.mem_of_getElem? (i := 167) rfl)) rfl
  | 11, _ => exact tw_mem (in_tables_1_2 (List.mem_of_getElem? (i := 169) rfl)) rfl
  | 12, _ => exact tw_mem (in_tables_1_2 (List.mem_of_getElem? (i := 171) rfl)) rfl
  | n + 13, h => exact absurd h (by omega)
theorem tw_X12 : ∀ w ∈ u_ws RX12 TX12 64, w ∈ TW := by
  intro w hw
  obtain ⟨k, hk, rfl⟩ := List.mem_map.mp hw
  have hk := List.mem_range.mp hk
  match k, hk with
  | 0, _ => exact tw_mem (in_tables_1_6 (List.mem_of_getElem? (i := 237) rfl)) rfl
  | 1, _ => exact tw_mem (in_tables_1_6 (List.mem_of_getElem? (i := 239) rfl)) rfl
  | 2, _ => exact tw_mem (in_tables_1_7 (List.mem_of_getElem? (i := 1) rfl)) rfl
  | 3, _ => exact tw_mem (in_tables_1_7 (List.mem_of_getElem? (i := 3) rfl)) rfl
  | 4, _ => exact tw_mem (in_tables_1_7 (List.mem_of_getElem? (i := 5) rfl)) rfl
  | 5, _ => exact tw_mem (in_tables_1_7 (List.mem_of_getElem? (i := 7) rfl)) rfl
  | 6, _ => exact tw_mem (in_tables_1_7 (List.mem_of_getElem? (i := 9) rfl)) rfl
  | 7, _ => exact tw_mem (in_tables_1_7 (List.mem_of_getElem? (i := 11) rfl)) rfl
  | 8, _ => exact tw_mem (in_tables_1_7 (List.mem_of_getElem? (i := 13) rfl)) rfl
  | 9, _ => exact tw_mem (in_tables_1_7 (List.mem_of_getElem? (i := 15) rfl)) rfl
  | 10, _ => exact tw_mem (in_tables_1_7 (List.mem_of_getElem? (i := 17) rfl)) rfl
  | 11, _ => exact tw_mem (in_tables_1_7 (List.mem_of_getElem? (i := 19) rfl)) rfl
  | 12, _ => exact tw_mem (in_tables_1_7 (List.mem_of_getElem? (i := 21) rfl)) rfl
  | 13, _ => exact tw_mem (in_tables_1_7 (List.mem_of_getElem? (i := 23) rfl)) rfl
  | 14, _ => exact tw_mem (in_tables_1_7 (List.mem_of_getElem? (i := 25) rfl)) rfl
  | 15, _ => exact tw_mem (in_tables_1_7 (List.mem_of_getElem? (i := 27) rfl)) rfl
  | 16, _ => exact tw_mem (in_tables_1_7 (List.mem_of_getElem? (i := 29) rfl)) rfl
  | 17, _ => exact tw_mem (in_tables_1_7 (List.mem_of_getElem? (i := 31) rfl)) rfl
  | 18, _ => exact tw_mem (in_tables_1_7 (List.mem_of_getElem? (i := 33) rfl)) rfl
  | 19, _ => exact tw_mem (in_tables_1_7 (List.mem_of_getElem? (i := 35) rfl)) rfl
  | 20, _ => exact tw_mem (in_tables_1_7 (List.mem_of_getElem? (i := 37) rfl)) rfl
  | 21, _ => exact tw_mem (in_tables_1_7 (List.mem_of_getElem? (i := 39) rfl)) rfl
  | 22, _ => exact tw_mem (in_tables_1_7 (List.mem_of_getElem? (i := 41) rfl)) rfl
  | 23, _ => exact tw_mem (in_tables_1_7 (List.mem_of_getElem? (i := 43) rfl)) rfl
  | 24, _ => exact tw_mem (in_tables_1_7 (List.mem_of_getElem? (i := 45) rfl)) rfl
  | 25, _ => exact tw_mem (in_tables_1_7 (List.mem_of_getElem? (i := 47) rfl)) rfl
  | 26, _ => exact tw_mem (in_tables_1_7 (List.mem_of_getElem? (i := 49) rfl)) rfl
  | 27, _ => exact tw_mem (in_tables_1_7 (List.mem_of_getElem? (i := 51) rfl)) rfl
  | 28, _ => exact tw_mem (in_tables_1_7 (List.mem_of_getElem? (i := 53) rfl)) rfl
  | 29, _ => exact tw_mem (in_tables_1_7 (List.mem_of_getElem? (i := 55) rfl)) rfl
  | 30, _ => exact tw_mem (in_tables_1_7 (List.mem_of_getElem? (i := 57) rfl)) rfl
  | 31, _ => exact tw_mem (in_tables_1_7 (List.mem_of_getElem? (i := 59) rfl)) rfl
  | 32, _ => exact tw_mem (in_tables_1_7 (List.mem_of_getElem? (i := 61) rfl)) rfl
  | 33, _ => exact tw_mem (in_tables_1_7 (List.mem_of_getElem? (i := 63) rfl)) rfl
  | 34, _ => exact tw_mem (in_tables_1_7 (List.mem_of_getElem? (i := 65) rfl)) rfl
  | 35, _ => exact tw_mem (in_tables_1_7 (List.mem_of_getElem? (i := 67) rfl)) rfl
  | 36, _ => exact tw_mem (in_tables_1_7 (List.mem_of_getElem? (i := 69) rfl)) rfl
  | 37, _ => exact tw_mem (in_tables_1_7 (List.mem_of_getElem? (i := 71) rfl)) rfl
  | 38, _ => exact tw_mem (in_tables_1_7 (List.mem_of_getElem? (i := 73) rfl)) rfl
  | 39, _ => exact tw_mem (in_tables_1_7 (List.mem_of_getElem? (i := 75) rfl)) rfl
  | 40, _ => exact tw_mem (in_tables_1_7 (List.mem_of_getElem? (i := 77) rfl)) rfl
  | 41, _ => exact tw_mem (in_tables_1_7 (List.mem_of_getElem? (i := 79) rfl)) rfl
  | 42, _ => exact tw_mem (in_tables_1_7 (List.mem_of_getElem? (i := 81) rfl)) rfl
  | 43, _ => exact tw_mem (in_tables_1_7 (List.mem_of_getElem? (i := 83) rfl)) rfl
  | 44, _ => exact tw_mem (in_tables_1_7 (List.mem_of_getElem? (i := 85) rfl)) rfl
  | 45, _ => exact tw_mem (in_tables_1_7 (List.mem_of_getElem? (i := 87) rfl)) rfl
  | 46, _ => exact tw_mem (in_tables_1_7 (List.mem_of_getElem? (i := 89) rfl)) rfl
  | 47, _ => exact tw_mem (in_tables_1_7 (List.mem_of_getElem? (i := 91) rfl)) rfl
  | 48, _ => exact tw_mem (in_tables_1_7 (List.mem_of_getElem? (i := 93) rfl)) rfl
  | 49, _ => exact tw_mem (in_tables_1_7 (List.mem_of_getElem? (i := 95) rfl)) rfl
  | 50, _ => exact tw_mem (in_tables_1_7 (List.mem_of_getElem? (i := 97) rfl)) rfl
  | 51, _ => exact tw_mem (in_tables_1_7 (List.mem_of_getElem? (i := 99) rfl)) rfl
  | 52, _ => exact tw_mem (in_tables_1_7 (List.mem_of_getElem? (i := 101) rfl)) rfl
  | 53, _ => exact tw_mem (in_tables_1_7 (List.mem_of_getElem? (i := 103) rfl)) rfl
  | 54, _ => exact tw_mem (in_tables_1_7 (List.mem_of_getElem? (i := 105) rfl)) rfl
  | 55, _ => exact tw_mem (in_tables_1_7 (List.mem_of_getElem? (i := 107) rfl)) rfl
  | 56, _ => exact tw_mem (in_tables_1_7 (List.mem_of_getElem? (i := 109) rfl)) rfl
  | 57, _ => exact tw_mem (in_tables_1_7 (List.mem_of_getElem? (i := 111) rfl)) rfl
  | 58, _ => exact tw_mem (in_tables_1_7 (List.mem_of_getElem? (i := 113) rfl)) rfl
  | 59, _ => exact tw_mem (in_tables_1_7 (List.mem_of_getElem? (i := 115) rfl)) rfl
  | 60, _ => exact tw_mem (in_tables_1_7 (List.mem_of_getElem? (i := 117) rfl)) rfl
  | 61, _ => exact tw_mem (in_tables_1_7 (List.mem_of_getElem? (i := 119) rfl)) rfl
  | 62, _ => exact tw_mem (in_tables_1_7 (List.mem_of_getElem? (i := 121) rfl)) rfl
  | 63, _ => exact tw_mem (in_tables_1_7 (List.mem_of_getElem? (i := 123) rfl)) rfl
  | n + 64, h => exact absurd h (by omega)
