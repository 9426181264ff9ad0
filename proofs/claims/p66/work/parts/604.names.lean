def RX0 : String := "SeesawMarket$Board"
def TX0 : u_T := fun k => match k with
  | 0 => ("SeesawMarket$Board", "number", "I", true)
  | 1 => ("SeesawMarket$Board", "armLength", "I", false)
  | 2 => ("SeesawMarket$Board", "stiffness", "I", false)
  | 3 => ("SeesawMarket$Board", "torqueLimit", "I", false)
  | _ => ("SeesawMarket$Board", "owners", "[I", true)
def tyX0 : Nat → FieldType := fun k => match k with
  | 0 => .int
  | 1 => .int
  | 2 => .int
  | 3 => .int
  | _ => .array .int
theorem nmX0 : ∀ a, a < 5 → ∀ b, b < 5 → a ≠ b → (TX0 a).2.1 ≠ (TX0 b).2.1 := by decide +kernel
theorem tyX0_ok : ∀ k, k < 5 → parseFieldDescriptor (TX0 k).2.2.1 = some (tyX0 k) := by decide +kernel
abbrev cX0_init : ByteArray := prog_2_method_1_code
def yX0_init : MethodName := ⟨RX0, "<init>", "(I)V"⟩
abbrev cX0_build : ByteArray := prog_2_method_2_code
def yX0_build : MethodName := ⟨RX0, "build", "(III)V"⟩
abbrev cX0_hasSeat : ByteArray := prog_2_method_3_code
def yX0_hasSeat : MethodName := ⟨RX0, "hasSeat", "(I)Z"⟩
abbrev cX0_ownerAt : ByteArray := prog_2_method_4_code
def yX0_ownerAt : MethodName := ⟨RX0, "ownerAt", "(I)I"⟩
abbrev cX0_setOwner : ByteArray := prog_2_method_5_code
def yX0_setOwner : MethodName := ⟨RX0, "setOwner", "(II)V"⟩
abbrev cX0_isFree : ByteArray := prog_2_method_6_code
def yX0_isFree : MethodName := ⟨RX0, "isFree", "(I)Z"⟩
abbrev cX0_tipsUnder : ByteArray := prog_2_method_7_code
def yX0_tipsUnder : MethodName := ⟨RX0, "tipsUnder", "(I)Z"⟩
abbrev cX0_tiltUnder : ByteArray := prog_2_method_8_code
def yX0_tiltUnder : MethodName := ⟨RX0, "tiltUnder", "(I)I"⟩
abbrev cX0_copyFrom : ByteArray := prog_2_method_9_code
def yX0_copyFrom : MethodName := ⟨RX0, "copyFrom", "(LSeesawMarket$Board;)V"⟩
def RX1 : String := "SeesawMarket$Command"
def TX1 : u_T := fun k => match k with
  | 0 => ("SeesawMarket$Command", "kind", "I", false)
  | 1 => ("SeesawMarket$Command", "name", "J", false)
  | 2 => ("SeesawMarket$Command", "otherName", "J", false)
  | 3 => ("SeesawMarket$Command", "number", "I", false)
  | 4 => ("SeesawMarket$Command", "purse", "I", false)
  | 5 => ("SeesawMarket$Command", "position", "I", false)
  | _ => ("SeesawMarket$Command", "end", "I", false)
def tyX1 : Nat → FieldType := fun k => match k with
  | 0 => .int
  | 1 => .long
  | 2 => .long
  | 3 => .int
  | 4 => .int
  | 5 => .int
  | _ => .int
theorem nmX1 : ∀ a, a < 7 → ∀ b, b < 7 → a ≠ b → (TX1 a).2.1 ≠ (TX1 b).2.1 := by decide +kernel
theorem tyX1_ok : ∀ k, k < 7 → parseFieldDescriptor (TX1 k).2.2.1 = some (tyX1 k) := by decide +kernel
abbrev cX1_init : ByteArray := prog_3_method_1_code
def yX1_init : MethodName := ⟨RX1, "<init>", "()V"⟩
def RX2 : String := "SeesawMarket$EventLog"
def TX2 : u_T := fun k => match k with
  | 0 => ("SeesawMarket$EventLog", "kinds", "[I", true)
  | 1 => ("SeesawMarket$EventLog", "traders", "[I", true)
  | 2 => ("SeesawMarket$EventLog", "days", "[I", true)
  | _ => ("SeesawMarket$EventLog", "count", "I", false)
def tyX2 : Nat → FieldType := fun k => match k with
  | 0 => .array .int
  | 1 => .array .int
  | 2 => .array .int
  | _ => .int
theorem nmX2 : ∀ a, a < 4 → ∀ b, b < 4 → a ≠ b → (TX2 a).2.1 ≠ (TX2 b).2.1 := by decide +kernel
theorem tyX2_ok : ∀ k, k < 4 → parseFieldDescriptor (TX2 k).2.2.1 = some (tyX2 k) := by decide +kernel
abbrev cX2_init : ByteArray := prog_4_method_1_code
def yX2_init : MethodName := ⟨RX2, "<init>", "()V"⟩
abbrev cX2_add : ByteArray := prog_4_method_2_code
def yX2_add : MethodName := ⟨RX2, "add", "(III)V"⟩
abbrev cX2_copyFrom : ByteArray := prog_4_method_7_code
def yX2_copyFrom : MethodName := ⟨RX2, "copyFrom", "(LSeesawMarket$EventLog;)V"⟩
def RX3 : String := "SeesawMarket$History"
def TX3 : u_T := fun k => match k with
  | 0 => ("SeesawMarket$History", "states", "[LSeesawMarket$Market;", true)
  | 1 => ("SeesawMarket$History", "next", "I", false)
  | _ => ("SeesawMarket$History", "count", "I", false)
def tyX3 : Nat → FieldType := fun k => match k with
  | 0 => .array (.object "SeesawMarket$Market")
  | 1 => .int
  | _ => .int
theorem nmX3 : ∀ a, a < 3 → ∀ b, b < 3 → a ≠ b → (TX3 a).2.1 ≠ (TX3 b).2.1 := by decide +kernel
theorem tyX3_ok : ∀ k, k < 3 → parseFieldDescriptor (TX3 k).2.2.1 = some (tyX3 k) := by decide +kernel
abbrev cX3_init : ByteArray := prog_5_method_1_code
def yX3_init : MethodName := ⟨RX3, "<init>", "()V"⟩
abbrev cX3_record : ByteArray := prog_5_method_2_code
def yX3_record : MethodName := ⟨RX3, "record", "(LSeesawMarket$Market;)V"⟩
abbrev cX3_forget : ByteArray := prog_5_method_4_code
def yX3_forget : MethodName := ⟨RX3, "forget", "()V"⟩
def RX4 : String := "SeesawMarket$Market"
def TX4 : u_T := fun k => match k with
  | 0 => ("SeesawMarket$Market", "day", "I", false)
  | 1 => ("SeesawMarket$Market", "bank", "I", false)
  | 2 => ("SeesawMarket$Market", "wage", "I", false)
  | 3 => ("SeesawMarket$Market", "basePrice", "I", false)
  | 4 => ("SeesawMarket$Market", "weightPrice", "I", false)
  | 5 => ("SeesawMarket$Market", "retirementAge", "I", false)
  | 6 => ("SeesawMarket$Market", "fallFine", "I", false)
  | 7 => ("SeesawMarket$Market", "broughtCoins", "I", false)
  | 8 => ("SeesawMarket$Market", "seatsSold", "I", false)
  | 9 => ("SeesawMarket$Market", "weightSold", "I", false)
  | 10 => ("SeesawMarket$Market", "fallCount", "I", false)
  | 11 => ("SeesawMarket$Market", "boardCount", "I", false)
  | 12 => ("SeesawMarket$Market", "traderCount", "I", false)
  | 13 => ("SeesawMarket$Market", "boards", "[LSeesawMarket$Board;", true)
  | 14 => ("SeesawMarket$Market", "traders", "[LSeesawMarket$Trader;", true)
  | _ => ("SeesawMarket$Market", "events", "LSeesawMarket$EventLog;", true)
def tyX4 : Nat → FieldType := fun k => match k with
  | 0 => .int
  | 1 => .int
  | 2 => .int
  | 3 => .int
  | 4 => .int
  | 5 => .int
  | 6 => .int
  | 7 => .int
  | 8 => .int
  | 9 => .int
  | 10 => .int
  | 11 => .int
  | 12 => .int
  | 13 => .array (.object "SeesawMarket$Board")
  | 14 => .array (.object "SeesawMarket$Trader")
  | _ => .object "SeesawMarket$EventLog"
theorem nmX4 : ∀ a, a < 16 → ∀ b, b < 16 → a ≠ b → (TX4 a).2.1 ≠ (TX4 b).2.1 := by decide +kernel
theorem tyX4_ok : ∀ k, k < 16 → parseFieldDescriptor (TX4 k).2.2.1 = some (tyX4 k) := by decide +kernel
abbrev cX4_init : ByteArray := prog_6_method_1_code
def yX4_init : MethodName := ⟨RX4, "<init>", "()V"⟩
abbrev cX4_clear : ByteArray := prog_6_method_2_code
def yX4_clear : MethodName := ⟨RX4, "clear", "()V"⟩
abbrev cX4_copyFrom : ByteArray := prog_6_method_3_code
def yX4_copyFrom : MethodName := ⟨RX4, "copyFrom", "(LSeesawMarket$Market;)V"⟩
abbrev cX4_boardNumbered : ByteArray := prog_6_method_4_code
def yX4_boardNumbered : MethodName := ⟨RX4, "boardNumbered", "(I)LSeesawMarket$Board;"⟩
abbrev cX4_traderNumbered : ByteArray := prog_6_method_5_code
def yX4_traderNumbered : MethodName := ⟨RX4, "traderNumbered", "(I)LSeesawMarket$Trader;"⟩
abbrev cX4_traderNamed : ByteArray := prog_6_method_6_code
def yX4_traderNamed : MethodName := ⟨RX4, "traderNamed", "(J)LSeesawMarket$Trader;"⟩
abbrev cX4_addBoard : ByteArray := prog_6_method_7_code
def yX4_addBoard : MethodName := ⟨RX4, "addBoard", "(III)V"⟩
abbrev cX4_admit : ByteArray := prog_6_method_9_code
def yX4_admit : MethodName := ⟨RX4, (match tables_1_3[40]? with | some (Cond.instanceMethod y) => y.name | _ => ""), "(JIII)I"⟩
abbrev cX4_torqueOn : ByteArray := prog_6_method_10_code
def yX4_torqueOn : MethodName := ⟨RX4, "torqueOn", "(LSeesawMarket$Board;)I"⟩
abbrev cX4_heightOn : ByteArray := prog_6_method_11_code
def yX4_heightOn : MethodName := ⟨RX4, "heightOn", "(LSeesawMarket$Board;I)I"⟩
abbrev cX4_priceOn : ByteArray := prog_6_method_12_code
def yX4_priceOn : MethodName := ⟨RX4, "priceOn", "(LSeesawMarket$Board;I)I"⟩
abbrev cX4_heightUnder : ByteArray := prog_6_method_13_code
def yX4_heightUnder : MethodName := ⟨RX4, "heightUnder", "(LSeesawMarket$Trader;)I"⟩
abbrev cX4_incomeFor : ByteArray := prog_6_method_14_code
def yX4_incomeFor : MethodName := ⟨RX4, "incomeFor", "(LSeesawMarket$Trader;)I"⟩
abbrev cX4_unitPrice : ByteArray := prog_6_method_15_code
def yX4_unitPrice : MethodName := ⟨RX4, "unitPrice", "(LSeesawMarket$Trader;LSeesawMarket$Trader;)I"⟩
abbrev cX4_whyNotSeat : ByteArray := prog_6_method_18_code
def yX4_whyNotSeat : MethodName := ⟨RX4, "whyNotSeat", "(LSeesawMarket$Trader;LSeesawMarket$Board;I)I"⟩
abbrev cX4_torqueAfterMove : ByteArray := prog_6_method_19_code
def yX4_torqueAfterMove : MethodName := ⟨RX4, "torqueAfterMove", "(LSeesawMarket$Trader;LSeesawMarket$Board;I)I"⟩
abbrev cX4_whyNotSale : ByteArray := prog_6_method_20_code
def yX4_whyNotSale : MethodName := ⟨RX4, "whyNotSale", "(LSeesawMarket$Trader;LSeesawMarket$Trader;I)I"⟩
abbrev cX4_whyNotSwap : ByteArray := prog_6_method_21_code
def yX4_whyNotSwap : MethodName := ⟨RX4, "whyNotSwap", "(LSeesawMarket$Trader;LSeesawMarket$Trader;)I"⟩
abbrev cX4_tipsAfterSwap : ByteArray := prog_6_method_22_code
def yX4_tipsAfterSwap : MethodName := ⟨RX4, "tipsAfterSwap", "(LSeesawMarket$Board;LSeesawMarket$Trader;LSeesawMarket$Trader;)Z"⟩
abbrev cX4_seat : ByteArray := prog_6_method_23_code
def yX4_seat : MethodName := ⟨RX4, "seat", "(LSeesawMarket$Trader;LSeesawMarket$Board;I)V"⟩
abbrev cX4_unseat : ByteArray := prog_6_method_24_code
def yX4_unseat : MethodName := ⟨RX4, "unseat", "(LSeesawMarket$Trader;)V"⟩
abbrev cX4_sellSeat : ByteArray := prog_6_method_25_code
def yX4_sellSeat : MethodName := ⟨RX4, "sellSeat", "(LSeesawMarket$Trader;LSeesawMarket$Board;I)I"⟩
abbrev cX4_moveWeight : ByteArray := prog_6_method_26_code
def yX4_moveWeight : MethodName := ⟨RX4, "moveWeight", "(LSeesawMarket$Trader;LSeesawMarket$Trader;I)I"⟩
abbrev cX4_exchangeSeats : ByteArray := prog_6_method_27_code
def yX4_exchangeSeats : MethodName := ⟨RX4, "exchangeSeats", "(LSeesawMarket$Trader;LSeesawMarket$Trader;)I"⟩
abbrev cX4_allowsDays : ByteArray := prog_6_method_28_code
def yX4_allowsDays : MethodName := ⟨RX4, "allowsDays", "(I)Z"⟩
abbrev cX4_passDays : ByteArray := prog_6_method_29_code
def yX4_passDays : MethodName := ⟨RX4, "passDays", "(I)I"⟩
abbrev cX4_payIncomes : ByteArray := prog_6_method_31_code
def yX4_payIncomes : MethodName := ⟨RX4, "payIncomes", "()V"⟩
abbrev cX4_ageTraders : ByteArray := prog_6_method_32_code
def yX4_ageTraders : MethodName := ⟨RX4, "ageTraders", "()V"⟩
abbrev cX4_retire : ByteArray := prog_6_method_33_code
def yX4_retire : MethodName := ⟨RX4, "retire", "(LSeesawMarket$Trader;)V"⟩
abbrev cX4_payToBank : ByteArray := prog_6_method_34_code
def yX4_payToBank : MethodName := ⟨RX4, "payToBank", "(LSeesawMarket$Trader;I)V"⟩
abbrev cX4_tipBoards : ByteArray := prog_6_method_35_code
def yX4_tipBoards : MethodName := ⟨RX4, "tipBoards", "()I"⟩
abbrev cX4_dropFarthest : ByteArray := prog_6_method_36_code
def yX4_dropFarthest : MethodName := ⟨RX4, "dropFarthest", "(LSeesawMarket$Board;I)V"⟩
abbrev cX4_coinsInPurses : ByteArray := prog_6_method_38_code
def yX4_coinsInPurses : MethodName := ⟨RX4, "coinsInPurses", "()I"⟩
abbrev cX4_countContradictions : ByteArray := prog_6_method_43_code
def yX4_countContradictions : MethodName := ⟨RX4, "countContradictions", "()I"⟩
abbrev cX4_torqueByDistances : ByteArray := prog_6_method_44_code
def yX4_torqueByDistances : MethodName := ⟨RX4, "torqueByDistances", "(LSeesawMarket$Board;)I"⟩
abbrev cX4_weightOn : ByteArray := prog_6_method_45_code
def yX4_weightOn : MethodName := ⟨RX4, "weightOn", "(LSeesawMarket$Board;I)I"⟩
abbrev cX4_wrongSeats : ByteArray := prog_6_method_46_code
def yX4_wrongSeats : MethodName := ⟨RX4, "wrongSeats", "(LSeesawMarket$Board;)I"⟩
def RX6 : String := "SeesawMarket$Script"
def TX6 : u_T := fun k => match k with
  | 0 => ("SeesawMarket$Script", "commands", "[LSeesawMarket$Command;", true)
  | 1 => ("SeesawMarket$Script", "count", "I", false)
  | 2 => ("SeesawMarket$Script", "openRepeats", "[I", true)
  | 3 => ("SeesawMarket$Script", "depth", "I", false)
  | 4 => ("SeesawMarket$Script", "steps", "[I", true)
  | _ => ("SeesawMarket$Script", "stepCount", "I", false)
def tyX6 : Nat → FieldType := fun k => match k with
  | 0 => .array (.object "SeesawMarket$Command")
  | 1 => .int
  | 2 => .array .int
  | 3 => .int
  | 4 => .array .int
  | _ => .int
theorem nmX6 : ∀ a, a < 6 → ∀ b, b < 6 → a ≠ b → (TX6 a).2.1 ≠ (TX6 b).2.1 := by decide +kernel
theorem tyX6_ok : ∀ k, k < 6 → parseFieldDescriptor (TX6 k).2.2.1 = some (tyX6 k) := by decide +kernel
abbrev cX6_init : ByteArray := prog_7_method_1_code
def yX6_init : MethodName := ⟨RX6, "<init>", "()V"⟩
def RX7 : String := "SeesawMarket$Setup"
def TX7 : u_T := fun k => match k with
  | _ => ("", "", "", false)
def tyX7 : Nat → FieldType := fun k => match k with
  | _ => .int
theorem nmX7 : ∀ a, a < 0 → ∀ b, b < 0 → a ≠ b → (TX7 a).2.1 ≠ (TX7 b).2.1 := by decide +kernel
theorem tyX7_ok : ∀ k, k < 0 → parseFieldDescriptor (TX7 k).2.2.1 = some (tyX7 k) := by decide +kernel
abbrev cX7_read : ByteArray := prog_8_method_2_code
def yX7_read : MethodName := ⟨RX7, "read", "(LSeesawMarket$Tokens;LSeesawMarket$Market;)V"⟩
abbrev cX7_readMarket : ByteArray := prog_8_method_3_code
def yX7_readMarket : MethodName := ⟨RX7, "readMarket", "(LSeesawMarket$Tokens;LSeesawMarket$Market;)V"⟩
abbrev cX7_readBoard : ByteArray := prog_8_method_4_code
def yX7_readBoard : MethodName := ⟨RX7, "readBoard", "(LSeesawMarket$Tokens;LSeesawMarket$Market;)V"⟩
abbrev cX7_readTrader : ByteArray := prog_8_method_5_code
def yX7_readTrader : MethodName := ⟨RX7, "readTrader", "(LSeesawMarket$Tokens;LSeesawMarket$Market;)V"⟩
abbrev cX7_readSeat : ByteArray := prog_8_method_6_code
def yX7_readSeat : MethodName := ⟨RX7, "readSeat", "(LSeesawMarket$Tokens;LSeesawMarket$Market;)V"⟩
def RX8 : String := "SeesawMarket$Text"
def TX8 : u_T := fun k => match k with
  | 0 => ("SeesawMarket$Text", "bytes", "[I", true)
  | _ => ("SeesawMarket$Text", "length", "I", false)
def tyX8 : Nat → FieldType := fun k => match k with
  | 0 => .array .int
  | _ => .int
theorem nmX8 : ∀ a, a < 2 → ∀ b, b < 2 → a ≠ b → (TX8 a).2.1 ≠ (TX8 b).2.1 := by decide +kernel
theorem tyX8_ok : ∀ k, k < 2 → parseFieldDescriptor (TX8 k).2.2.1 = some (tyX8 k) := by decide +kernel
abbrev cX8_init : ByteArray := prog_9_method_1_code
def yX8_init : MethodName := ⟨RX8, "<init>", "()V"⟩
abbrev cX8_byteAt : ByteArray := prog_9_method_2_code
def yX8_byteAt : MethodName := ⟨RX8, "byteAt", "(I)I"⟩
abbrev cX8_add : ByteArray := prog_9_method_3_code
def yX8_add : MethodName := ⟨RX8, "add", "(I)V"⟩
abbrev cX8_addBytesOf : ByteArray := prog_9_method_4_code
def yX8_addBytesOf : MethodName := ⟨RX8, "addBytesOf", "(I)V"⟩
abbrev cX8_addAll : ByteArray := prog_9_method_5_code
def yX8_addAll : MethodName := ⟨RX8, "addAll", "(Ljava/lang/String;)V"⟩
abbrev cX8_nameBetween : ByteArray := prog_9_method_7_code
def yX8_nameBetween : MethodName := ⟨RX8, "nameBetween", "(II)J"⟩
def RX9 : String := "SeesawMarket$Tokens"
def TX9 : u_T := fun k => match k with
  | 0 => ("SeesawMarket$Tokens", "text", "LSeesawMarket$Text;", true)
  | 1 => ("SeesawMarket$Tokens", "kinds", "[I", true)
  | 2 => ("SeesawMarket$Tokens", "starts", "[I", true)
  | 3 => ("SeesawMarket$Tokens", "ends", "[I", true)
  | 4 => ("SeesawMarket$Tokens", "count", "I", false)
  | 5 => ("SeesawMarket$Tokens", "here", "I", false)
  | 6 => ("SeesawMarket$Tokens", "errorCode", "I", false)
  | _ => ("SeesawMarket$Tokens", "errorPosition", "I", false)
def tyX9 : Nat → FieldType := fun k => match k with
  | 0 => .object "SeesawMarket$Text"
  | 1 => .array .int
  | 2 => .array .int
  | 3 => .array .int
  | 4 => .int
  | 5 => .int
  | 6 => .int
  | _ => .int
theorem nmX9 : ∀ a, a < 8 → ∀ b, b < 8 → a ≠ b → (TX9 a).2.1 ≠ (TX9 b).2.1 := by decide +kernel
theorem tyX9_ok : ∀ k, k < 8 → parseFieldDescriptor (TX9 k).2.2.1 = some (tyX9 k) := by decide +kernel
abbrev cX9_init : ByteArray := prog_10_method_1_code
def yX9_init : MethodName := ⟨RX9, "<init>", "(LSeesawMarket$Text;)V"⟩
abbrev cX9_begin : ByteArray := prog_10_method_2_code
def yX9_begin : MethodName := ⟨RX9, "begin", "()V"⟩
abbrev cX9_kindOf : ByteArray := prog_10_method_3_code
def yX9_kindOf : MethodName := ⟨RX9, "kindOf", "(I)I"⟩
abbrev cX9_add : ByteArray := prog_10_method_4_code
def yX9_add : MethodName := ⟨RX9, "add", "(III)V"⟩
abbrev cX9_lengthen : ByteArray := prog_10_method_5_code
def yX9_lengthen : MethodName := ⟨RX9, "lengthen", "(I)V"⟩
abbrev cX9_failed : ByteArray := prog_10_method_6_code
def yX9_failed : MethodName := ⟨RX9, "failed", "()Z"⟩
abbrev cX9_refuse : ByteArray := prog_10_method_7_code
def yX9_refuse : MethodName := ⟨RX9, "refuse", "(I)V"⟩
abbrev cX9_refuseTaken : ByteArray := prog_10_method_8_code
def yX9_refuseTaken : MethodName := ⟨RX9, "refuseTaken", "(I)V"⟩
abbrev cX9_failAt : ByteArray := prog_10_method_9_code
def yX9_failAt : MethodName := ⟨RX9, "failAt", "(II)V"⟩
abbrev cX9_at : ByteArray := prog_10_method_10_code
def yX9_at : MethodName := ⟨RX9, "at", "(I)Z"⟩
abbrev cX9_atWord : ByteArray := prog_10_method_12_code
def yX9_atWord : MethodName := ⟨RX9, "atWord", "(Ljava/lang/String;)Z"⟩
abbrev cX9_atSign : ByteArray := prog_10_method_13_code
def yX9_atSign : MethodName := ⟨RX9, "atSign", "(C)Z"⟩
abbrev cX9_takeWord : ByteArray := prog_10_method_14_code
def yX9_takeWord : MethodName := ⟨RX9, "takeWord", "(Ljava/lang/String;)V"⟩
abbrev cX9_takeAnyWord : ByteArray := prog_10_method_15_code
def yX9_takeAnyWord : MethodName := ⟨RX9, "takeAnyWord", "()V"⟩
abbrev cX9_takeSign : ByteArray := prog_10_method_16_code
def yX9_takeSign : MethodName := ⟨RX9, "takeSign", "(C)V"⟩
abbrev cX9_takeName : ByteArray := prog_10_method_17_code
def yX9_takeName : MethodName := ⟨RX9, "takeName", "()J"⟩
abbrev cX9_takeNumber : ByteArray := prog_10_method_18_code
def yX9_takeNumber : MethodName := ⟨RX9, "takeNumber", "(II)I"⟩
abbrev cX9_valueHere : ByteArray := prog_10_method_19_code
def yX9_valueHere : MethodName := ⟨RX9, "valueHere", "()I"⟩
abbrev cX9_takeSide : ByteArray := prog_10_method_20_code
def yX9_takeSide : MethodName := ⟨RX9, "takeSide", "()I"⟩
abbrev cX9_takeEnd : ByteArray := prog_10_method_21_code
def yX9_takeEnd : MethodName := ⟨RX9, "takeEnd", "()V"⟩
abbrev cX9_takeIf : ByteArray := prog_10_method_22_code
def yX9_takeIf : MethodName := ⟨RX9, "takeIf", "(Z)V"⟩
def RX10 : String := "SeesawMarket$Trader"
def TX10 : u_T := fun k => match k with
  | 0 => ("SeesawMarket$Trader", "number", "I", true)
  | 1 => ("SeesawMarket$Trader", "name", "J", false)
  | 2 => ("SeesawMarket$Trader", "weight", "I", false)
  | 3 => ("SeesawMarket$Trader", "purse", "I", false)
  | 4 => ("SeesawMarket$Trader", "age", "I", false)
  | 5 => ("SeesawMarket$Trader", "present", "Z", false)
  | 6 => ("SeesawMarket$Trader", "board", "I", false)
  | _ => ("SeesawMarket$Trader", "position", "I", false)
def tyX10 : Nat → FieldType := fun k => match k with
  | 0 => .int
  | 1 => .long
  | 2 => .int
  | 3 => .int
  | 4 => .int
  | 5 => .boolean
  | 6 => .int
  | _ => .int
theorem nmX10 : ∀ a, a < 8 → ∀ b, b < 8 → a ≠ b → (TX10 a).2.1 ≠ (TX10 b).2.1 := by decide +kernel
theorem tyX10_ok : ∀ k, k < 8 → parseFieldDescriptor (TX10 k).2.2.1 = some (tyX10 k) := by decide +kernel
abbrev cX10_init : ByteArray := prog_11_method_1_code
def yX10_init : MethodName := ⟨RX10, "<init>", "(I)V"⟩
abbrev cX10_isSeated : ByteArray := prog_11_method_2_code
def yX10_isSeated : MethodName := ⟨RX10, "isSeated", "()Z"⟩
abbrev cX10_copyFrom : ByteArray := prog_11_method_3_code
def yX10_copyFrom : MethodName := ⟨RX10, "copyFrom", "(LSeesawMarket$Trader;)V"⟩
def RX11 : String := "SeesawMarket"
def TX11 : u_T := fun k => match k with
  | 0 => ("SeesawMarket", "text", "LSeesawMarket$Text;", true)
  | 1 => ("SeesawMarket", "output", "LSeesawMarket$Text;", true)
  | 2 => ("SeesawMarket", "tokens", "LSeesawMarket$Tokens;", true)
  | 3 => ("SeesawMarket", "script", "LSeesawMarket$Script;", true)
  | 4 => ("SeesawMarket", "market", "LSeesawMarket$Market;", true)
  | 5 => ("SeesawMarket", "draft", "LSeesawMarket$Market;", true)
  | 6 => ("SeesawMarket", "history", "LSeesawMarket$History;", true)
  | 7 => ("SeesawMarket", "slots", "[LSeesawMarket$Market;", true)
  | _ => ("SeesawMarket", "slotFilled", "[Z", true)
def tyX11 : Nat → FieldType := fun k => match k with
  | 0 => .object "SeesawMarket$Text"
  | 1 => .object "SeesawMarket$Text"
  | 2 => .object "SeesawMarket$Tokens"
  | 3 => .object "SeesawMarket$Script"
  | 4 => .object "SeesawMarket$Market"
  | 5 => .object "SeesawMarket$Market"
  | 6 => .object "SeesawMarket$History"
  | 7 => .array (.object "SeesawMarket$Market")
  | _ => .array .boolean
theorem nmX11 : ∀ a, a < 9 → ∀ b, b < 9 → a ≠ b → (TX11 a).2.1 ≠ (TX11 b).2.1 := by decide +kernel
theorem tyX11_ok : ∀ k, k < 9 → parseFieldDescriptor (TX11 k).2.2.1 = some (tyX11 k) := by decide +kernel
abbrev cX11_init : ByteArray := prog_1_method_1_code
def yX11_init : MethodName := ⟨RX11, "<init>", "()V"⟩
abbrev cX11_append : ByteArray := prog_1_method_2_code
def yX11_append : MethodName := ⟨RX11, "append", "(IIIII)I"⟩
abbrev cX11_truncate : ByteArray := prog_1_method_3_code
def yX11_truncate : MethodName := ⟨RX11, "truncate", "(I)I"⟩
abbrev cX11_load : ByteArray := prog_1_method_4_code
def yX11_load : MethodName := ⟨RX11, "load", "()I"⟩
abbrev cX11_errorPosition : ByteArray := prog_1_method_7_code
def yX11_errorPosition : MethodName := ⟨RX11, "errorPosition", "()I"⟩
abbrev cX11_day : ByteArray := prog_1_method_8_code
def yX11_day : MethodName := ⟨RX11, "day", "()I"⟩
abbrev cX11_bank : ByteArray := prog_1_method_9_code
def yX11_bank : MethodName := ⟨RX11, "bank", "()I"⟩
abbrev cX11_torque : ByteArray := prog_1_method_16_code
def yX11_torque : MethodName := ⟨RX11, "torque", "(I)I"⟩
abbrev cX11_tilt : ByteArray := prog_1_method_17_code
def yX11_tilt : MethodName := ⟨RX11, "tilt", "(I)I"⟩
abbrev cX11_seatOwner : ByteArray := prog_1_method_19_code
def yX11_seatOwner : MethodName := ⟨RX11, "seatOwner", "(II)I"⟩
abbrev cX11_seatHeight : ByteArray := prog_1_method_20_code
def yX11_seatHeight : MethodName := ⟨RX11, "seatHeight", "(II)I"⟩
abbrev cX11_seatPrice : ByteArray := prog_1_method_21_code
def yX11_seatPrice : MethodName := ⟨RX11, "seatPrice", "(II)I"⟩
abbrev cX11_weightOf : ByteArray := prog_1_method_26_code
def yX11_weightOf : MethodName := ⟨RX11, "weightOf", "(I)I"⟩
abbrev cX11_purseOf : ByteArray := prog_1_method_27_code
def yX11_purseOf : MethodName := ⟨RX11, "purseOf", "(I)I"⟩
abbrev cX11_ageOf : ByteArray := prog_1_method_28_code
def yX11_ageOf : MethodName := ⟨RX11, "ageOf", "(I)I"⟩
abbrev cX11_isPresent : ByteArray := prog_1_method_29_code
def yX11_isPresent : MethodName := ⟨RX11, "isPresent", "(I)Z"⟩
abbrev cX11_boardOf : ByteArray := prog_1_method_30_code
def yX11_boardOf : MethodName := ⟨RX11, "boardOf", "(I)I"⟩
abbrev cX11_positionOf : ByteArray := prog_1_method_31_code
def yX11_positionOf : MethodName := ⟨RX11, "positionOf", "(I)I"⟩
abbrev cX11_incomeOf : ByteArray := prog_1_method_32_code
def yX11_incomeOf : MethodName := ⟨RX11, "incomeOf", "(I)I"⟩
abbrev cX11_reasonAgainstSeat : ByteArray := prog_1_method_34_code
def yX11_reasonAgainstSeat : MethodName := ⟨RX11, "reasonAgainstSeat", "(III)I"⟩
abbrev cX11_reasonAgainstSale : ByteArray := prog_1_method_35_code
def yX11_reasonAgainstSale : MethodName := ⟨RX11, "reasonAgainstSale", "(III)I"⟩
abbrev cX11_reasonAgainstSwap : ByteArray := prog_1_method_36_code
def yX11_reasonAgainstSwap : MethodName := ⟨RX11, "reasonAgainstSwap", "(II)I"⟩
abbrev cX11_seatsSold : ByteArray := prog_1_method_39_code
def yX11_seatsSold : MethodName := ⟨RX11, "seatsSold", "()I"⟩
abbrev cX11_weightSold : ByteArray := prog_1_method_40_code
def yX11_weightSold : MethodName := ⟨RX11, "weightSold", "()I"⟩
abbrev cX11_fallCount : ByteArray := prog_1_method_41_code
def yX11_fallCount : MethodName := ⟨RX11, "fallCount", "()I"⟩
abbrev cX11_contradictions : ByteArray := prog_1_method_44_code
def yX11_contradictions : MethodName := ⟨RX11, "contradictions", "()I"⟩
abbrev cX11_buySeat : ByteArray := prog_1_method_53_code
def yX11_buySeat : MethodName := ⟨RX11, "buySeat", "(III)I"⟩
abbrev cX11_sellWeight : ByteArray := prog_1_method_55_code
def yX11_sellWeight : MethodName := ⟨RX11, "sellWeight", "(III)I"⟩
abbrev cX11_swapSeats : ByteArray := prog_1_method_56_code
def yX11_swapSeats : MethodName := ⟨RX11, "swapSeats", "(II)I"⟩
abbrev cX11_setWage : ByteArray := prog_1_method_57_code
def yX11_setWage : MethodName := ⟨RX11, "setWage", "(I)I"⟩
abbrev cX11_advance : ByteArray := prog_1_method_58_code
def yX11_advance : MethodName := ⟨RX11, "advance", "(I)I"⟩
abbrev cX11_beginMarketOfText : ByteArray := prog_1_method_65_code
def yX11_beginMarketOfText : MethodName := ⟨RX11, "beginMarketOfText", "()V"⟩
abbrev cX11_existingBoard : ByteArray := prog_1_method_67_code
def yX11_existingBoard : MethodName := ⟨RX11, "existingBoard", "(I)LSeesawMarket$Board;"⟩
abbrev cX11_boardWithSeat : ByteArray := prog_1_method_68_code
def yX11_boardWithSeat : MethodName := ⟨RX11, "boardWithSeat", "(II)LSeesawMarket$Board;"⟩
abbrev cX11_existingTrader : ByteArray := prog_1_method_69_code
def yX11_existingTrader : MethodName := ⟨RX11, "existingTrader", "(I)LSeesawMarket$Trader;"⟩
abbrev cX11_requireRange : ByteArray := prog_1_method_71_code
def yX11_requireRange : MethodName := ⟨RX11, "requireRange", "(III)V"⟩
abbrev cX11_requireDifferent : ByteArray := prog_1_method_72_code
def yX11_requireDifferent : MethodName := ⟨RX11, "requireDifferent", "(II)V"⟩
abbrev cX11_requirePossible : ByteArray := prog_1_method_74_code
def yX11_requirePossible : MethodName := ⟨RX11, "requirePossible", "(I)V"⟩
abbrev cX11_bytesIn : ByteArray := prog_1_method_75_code
def yX11_bytesIn : MethodName := ⟨RX11, "bytesIn", "(I)I"⟩
abbrev cX11_isLetter : ByteArray := prog_1_method_77_code
def yX11_isLetter : MethodName := ⟨RX11, "isLetter", "(I)Z"⟩
abbrev cX11_isDigit : ByteArray := prog_1_method_78_code
def yX11_isDigit : MethodName := ⟨RX11, "isDigit", "(I)Z"⟩
def RLB : String := "SeesawMarketLaw$Board"
def TLB : u_T := fun k => match k with
  | 0 => ("SeesawMarketLaw$Board", "number", "I", true)
  | 1 => ("SeesawMarketLaw$Board", "arm", "I", true)
  | 2 => ("SeesawMarketLaw$Board", "stiffness", "I", true)
  | 3 => ("SeesawMarketLaw$Board", "limit", "I", true)
  | _ => ("SeesawMarketLaw$Board", "seats", "Ljava/util/TreeMap;", true)
def tyLB : Nat → FieldType := fun k => match k with
  | 0 => .int
  | 1 => .int
  | 2 => .int
  | 3 => .int
  | _ => .object "java/util/TreeMap"
theorem nmLB : ∀ a, a < 5 → ∀ b, b < 5 → a ≠ b → (TLB a).2.1 ≠ (TLB b).2.1 := by decide +kernel
theorem tyLB_ok : ∀ k, k < 5 → parseFieldDescriptor (TLB k).2.2.1 = some (tyLB k) := by decide +kernel
abbrev cLB_init : ByteArray := prog_13_method_1_code
def yLB_init : MethodName := ⟨RLB, "<init>", "(IIII)V"⟩
abbrev cLB_torque : ByteArray := prog_13_method_2_code
def yLB_torque : MethodName := ⟨RLB, "torque", "()I"⟩
abbrev cLB_tilt : ByteArray := prog_13_method_3_code
def yLB_tilt : MethodName := ⟨RLB, "tilt", "()I"⟩
abbrev cLB_height : ByteArray := prog_13_method_4_code
def yLB_height : MethodName := ⟨RLB, "height", "(I)I"⟩
def RLT : String := "SeesawMarketLaw$Trader"
def TLT : u_T := fun k => match k with
  | 0 => ("SeesawMarketLaw$Trader", "number", "I", true)
  | 1 => ("SeesawMarketLaw$Trader", "weight", "I", false)
  | 2 => ("SeesawMarketLaw$Trader", "purse", "I", false)
  | 3 => ("SeesawMarketLaw$Trader", "age", "I", false)
  | 4 => ("SeesawMarketLaw$Trader", "position", "I", false)
  | 5 => ("SeesawMarketLaw$Trader", "isPresent", "Z", false)
  | _ => ("SeesawMarketLaw$Trader", "board", "LSeesawMarketLaw$Board;", false)
def tyLT : Nat → FieldType := fun k => match k with
  | 0 => .int
  | 1 => .int
  | 2 => .int
  | 3 => .int
  | 4 => .int
  | 5 => .boolean
  | _ => .object "SeesawMarketLaw$Board"
theorem nmLT : ∀ a, a < 7 → ∀ b, b < 7 → a ≠ b → (TLT a).2.1 ≠ (TLT b).2.1 := by decide +kernel
theorem tyLT_ok : ∀ k, k < 7 → parseFieldDescriptor (TLT k).2.2.1 = some (tyLT k) := by decide +kernel
abbrev cLT_init : ByteArray := prog_14_method_1_code
def yLT_init : MethodName := ⟨RLT, "<init>", "(IIII)V"⟩
abbrev cLT_rises : ByteArray := prog_14_method_2_code
def yLT_rises : MethodName := ⟨RLT, "rises", "()V"⟩
abbrev cLT_sits : ByteArray := prog_14_method_3_code
def yLT_sits : MethodName := ⟨RLT, "sits", "(LSeesawMarketLaw$Board;I)V"⟩
def RXM : String := "SeesawMarketModel"
def TXM : u_T := fun k => match k with
  | _ => ("", "", "", false)
def tyXM : Nat → FieldType := fun k => match k with
  | _ => .int
theorem nmXM : ∀ a, a < 0 → ∀ b, b < 0 → a ≠ b → (TXM a).2.1 ≠ (TXM b).2.1 := by decide +kernel
theorem tyXM_ok : ∀ k, k < 0 → parseFieldDescriptor (TXM k).2.2.1 = some (tyXM k) := by decide +kernel
def RJx145de : String := "java/io/Serializable"
def TJx145de : u_T := fun k => match k with
  | _ => ("", "", "", false)
def tyJx145de : Nat → FieldType := fun k => match k with
  | _ => .int
theorem nmJx145de : ∀ a, a < 0 → ∀ b, b < 0 → a ≠ b → (TJx145de a).2.1 ≠ (TJx145de b).2.1 := by decide +kernel
theorem tyJx145de_ok : ∀ k, k < 0 → parseFieldDescriptor (TJx145de k).2.2.1 = some (tyJx145de k) := by decide +kernel
def RAS : String := "java/lang/AbstractStringBuilder"
def TAS : u_T := fun k => match k with
  | _ => ("", "", "", false)
def tyAS : Nat → FieldType := fun k => match k with
  | _ => .int
theorem nmAS : ∀ a, a < 0 → ∀ b, b < 0 → a ≠ b → (TAS a).2.1 ≠ (TAS b).2.1 := by decide +kernel
theorem tyAS_ok : ∀ k, k < 0 → parseFieldDescriptor (TAS k).2.2.1 = some (tyAS k) := by decide +kernel
abbrev cAS_init_a7421 : ByteArray := prog_17_method_3_code
def yAS_init_a7421 : MethodName := ⟨RAS, "<init>", "(Ljava/lang/String;)V"⟩
abbrev cAS_compareTo_759ea : ByteArray := prog_17_method_5_code
def yAS_compareTo_759ea : MethodName := ⟨RAS, "compareTo", "(Ljava/lang/AbstractStringBuilder;)I"⟩
abbrev cAS_length_8abf5 : ByteArray := prog_17_method_6_code
def yAS_length_8abf5 : MethodName := ⟨RAS, "length", "()I"⟩
abbrev cAS_ensureCapacityInternal_d00df : ByteArray := prog_17_method_9_code
def yAS_ensureCapacityInternal_d00df : MethodName := ⟨RAS, "ensureCapacityInternal", "(I)V"⟩
abbrev cAS_newCapacity_0f7a4 : ByteArray := prog_17_method_10_code
def yAS_newCapacity_0f7a4 : MethodName := ⟨RAS, "newCapacity", "(I)I"⟩
abbrev cAS_inflate_da8c8 : ByteArray := prog_17_method_11_code
def yAS_inflate_da8c8 : MethodName := ⟨RAS, "inflate", "()V"⟩
abbrev cAS_append_cf1ce : ByteArray := prog_17_method_22_code
def yAS_append_cf1ce : MethodName := ⟨RAS, "append", "(Ljava/lang/String;)Ljava/lang/AbstractStringBuilder;"⟩
abbrev cAS_appendNull_278bc : ByteArray := prog_17_method_26_code
def yAS_appendNull_278bc : MethodName := ⟨RAS, "appendNull", "()Ljava/lang/AbstractStringBuilder;"⟩
abbrev cAS_append_3fe6f : ByteArray := prog_17_method_31_code
def yAS_append_3fe6f : MethodName := ⟨RAS, "append", "(C)Ljava/lang/AbstractStringBuilder;"⟩
abbrev cAS_append_c97b9 : ByteArray := prog_17_method_32_code
def yAS_append_c97b9 : MethodName := ⟨RAS, "append", "(I)Ljava/lang/AbstractStringBuilder;"⟩
abbrev cAS_getValue_6d5f1 : ByteArray := prog_17_method_64_code
def yAS_getValue_6d5f1 : MethodName := ⟨RAS, "getValue", "()[B"⟩
abbrev cAS_isLatin1_aae02 : ByteArray := prog_17_method_68_code
def yAS_isLatin1_aae02 : MethodName := ⟨RAS, "isLatin1", "()Z"⟩
abbrev cAS_inflateIfNeededFor_a7421 : ByteArray := prog_17_method_71_code
def yAS_inflateIfNeededFor_a7421 : MethodName := ⟨RAS, "inflateIfNeededFor", "(Ljava/lang/String;)V"⟩
abbrev cAS_putStringAt_47b60 : ByteArray := prog_17_method_73_code
def yAS_putStringAt_47b60 : MethodName := ⟨RAS, "putStringAt", "(ILjava/lang/String;)V"⟩
def RJx2cfe8 : String := "java/lang/Appendable"
def TJx2cfe8 : u_T := fun k => match k with
  | _ => ("", "", "", false)
def tyJx2cfe8 : Nat → FieldType := fun k => match k with
  | _ => .int
theorem nmJx2cfe8 : ∀ a, a < 0 → ∀ b, b < 0 → a ≠ b → (TJx2cfe8 a).2.1 ≠ (TJx2cfe8 b).2.1 := by decide +kernel
theorem tyJx2cfe8_ok : ∀ k, k < 0 → parseFieldDescriptor (TJx2cfe8 k).2.2.1 = some (tyJx2cfe8 k) := by decide +kernel
def RJx9f9b0 : String := "java/lang/CharSequence"
def TJx9f9b0 : u_T := fun k => match k with
  | _ => ("", "", "", false)
def tyJx9f9b0 : Nat → FieldType := fun k => match k with
  | _ => .int
theorem nmJx9f9b0 : ∀ a, a < 0 → ∀ b, b < 0 → a ≠ b → (TJx9f9b0 a).2.1 ≠ (TJx9f9b0 b).2.1 := by decide +kernel
theorem tyJx9f9b0_ok : ∀ k, k < 0 → parseFieldDescriptor (TJx9f9b0 k).2.2.1 = some (tyJx9f9b0 k) := by decide +kernel
def RJx8e188 : String := "java/lang/Cloneable"
def TJx8e188 : u_T := fun k => match k with
  | _ => ("", "", "", false)
def tyJx8e188 : Nat → FieldType := fun k => match k with
  | _ => .int
theorem nmJx8e188 : ∀ a, a < 0 → ∀ b, b < 0 → a ≠ b → (TJx8e188 a).2.1 ≠ (TJx8e188 b).2.1 := by decide +kernel
theorem tyJx8e188_ok : ∀ k, k < 0 → parseFieldDescriptor (TJx8e188 k).2.2.1 = some (tyJx8e188 k) := by decide +kernel
def RJxb160c : String := "java/lang/Comparable"
def TJxb160c : u_T := fun k => match k with
  | _ => ("", "", "", false)
def tyJxb160c : Nat → FieldType := fun k => match k with
  | _ => .int
theorem nmJxb160c : ∀ a, a < 0 → ∀ b, b < 0 → a ≠ b → (TJxb160c a).2.1 ≠ (TJxb160c b).2.1 := by decide +kernel
theorem tyJxb160c_ok : ∀ k, k < 0 → parseFieldDescriptor (TJxb160c k).2.2.1 = some (tyJxb160c k) := by decide +kernel
def RIC : String := "java/lang/Integer$IntegerCache"
def TIC : u_T := fun k => match k with
  | _ => ("", "", "", false)
def tyIC : Nat → FieldType := fun k => match k with
  | _ => .int
theorem nmIC : ∀ a, a < 0 → ∀ b, b < 0 → a ≠ b → (TIC a).2.1 ≠ (TIC b).2.1 := by decide +kernel
theorem tyIC_ok : ∀ k, k < 0 → parseFieldDescriptor (TIC k).2.2.1 = some (tyIC k) := by decide +kernel
def RIN : String := "java/lang/Integer"
def TIN : u_T := fun k => match k with
  | _ => ("java/lang/Integer", "value", "I", true)
def tyIN : Nat → FieldType := fun k => match k with
  | _ => .int
theorem nmIN : ∀ a, a < 1 → ∀ b, b < 1 → a ≠ b → (TIN a).2.1 ≠ (TIN b).2.1 := by decide +kernel
theorem tyIN_ok : ∀ k, k < 1 → parseFieldDescriptor (TIN k).2.2.1 = some (tyIN k) := by decide +kernel
abbrev cIN_getChars_ba4f3 : ByteArray := prog_26_method_12_code
def yIN_getChars_ba4f3 : MethodName := ⟨RIN, "getChars", "(II[B)I"⟩
abbrev cIN_stringSize_0f7a4 : ByteArray := prog_26_method_13_code
def yIN_stringSize_0f7a4 : MethodName := ⟨RIN, "stringSize", "(I)I"⟩
abbrev cIN_valueOf_2dffe : ByteArray := prog_26_method_22_code
def yIN_valueOf_2dffe : MethodName := ⟨RIN, "valueOf", "(I)Ljava/lang/Integer;"⟩
abbrev cIN_init_d00df : ByteArray := prog_26_method_23_code
def yIN_init_d00df : MethodName := ⟨RIN, "<init>", "(I)V"⟩
abbrev cIN_compareTo_e8194 : ByteArray := prog_26_method_39_code
def yIN_compareTo_e8194 : MethodName := ⟨RIN, "compareTo", "(Ljava/lang/Integer;)I"⟩
abbrev cIN_compare_7cf53 : ByteArray := prog_26_method_40_code
def yIN_compare_7cf53 : MethodName := ⟨RIN, "compare", "(II)I"⟩
abbrev cIN_numberOfLeadingZeros_0f7a4 : ByteArray := prog_26_method_47_code
def yIN_numberOfLeadingZeros_0f7a4 : MethodName := ⟨RIN, "numberOfLeadingZeros", "(I)I"⟩
abbrev cIN_numberOfTrailingZeros_0f7a4 : ByteArray := prog_26_method_48_code
def yIN_numberOfTrailingZeros_0f7a4 : MethodName := ⟨RIN, "numberOfTrailingZeros", "(I)I"⟩
abbrev cIN_compareTo_e47da : ByteArray := prog_26_method_63_code
def yIN_compareTo_e47da : MethodName := ⟨RIN, "compareTo", "(Ljava/lang/Object;)I"⟩
def RJxab1ab : String := "java/lang/Iterable"
def TJxab1ab : u_T := fun k => match k with
  | _ => ("", "", "", false)
def tyJxab1ab : Nat → FieldType := fun k => match k with
  | _ => .int
theorem nmJxab1ab : ∀ a, a < 0 → ∀ b, b < 0 → a ≠ b → (TJxab1ab a).2.1 ≠ (TJxab1ab b).2.1 := by decide +kernel
theorem tyJxab1ab_ok : ∀ k, k < 0 → parseFieldDescriptor (TJxab1ab k).2.2.1 = some (tyJxab1ab k) := by decide +kernel
def RJ13 : String := "java/lang/Long"
def TJ13 : u_T := fun k => match k with
  | _ => ("", "", "", false)
def tyJ13 : Nat → FieldType := fun k => match k with
  | _ => .int
theorem nmJ13 : ∀ a, a < 0 → ∀ b, b < 0 → a ≠ b → (TJ13 a).2.1 ≠ (TJ13 b).2.1 := by decide +kernel
theorem tyJ13_ok : ∀ k, k < 0 → parseFieldDescriptor (TJ13 k).2.2.1 = some (tyJ13 k) := by decide +kernel
abbrev cJ13_numberOfLeadingZeros_95d88 : ByteArray := prog_29_method_48_code
def yJ13_numberOfLeadingZeros_95d88 : MethodName := ⟨RJ13, "numberOfLeadingZeros", "(J)I"⟩
abbrev cJ13_numberOfTrailingZeros_95d88 : ByteArray := prog_29_method_49_code
def yJ13_numberOfTrailingZeros_95d88 : MethodName := ⟨RJ13, "numberOfTrailingZeros", "(J)I"⟩
def RJ9 : String := "java/lang/Math"
def TJ9 : u_T := fun k => match k with
  | _ => ("", "", "", false)
def tyJ9 : Nat → FieldType := fun k => match k with
  | _ => .int
theorem nmJ9 : ∀ a, a < 0 → ∀ b, b < 0 → a ≠ b → (TJ9 a).2.1 ≠ (TJ9 b).2.1 := by decide +kernel
theorem tyJ9_ok : ∀ k, k < 0 → parseFieldDescriptor (TJ9 k).2.2.1 = some (tyJ9 k) := by decide +kernel
abbrev cJ9_abs_0f7a4 : ByteArray := prog_30_method_59_code
def yJ9_abs_0f7a4 : MethodName := ⟨RJ9, "abs", "(I)I"⟩
abbrev cJ9_max_7cf53 : ByteArray := prog_30_method_65_code
def yJ9_max_7cf53 : MethodName := ⟨RJ9, "max", "(II)I"⟩
abbrev cJ9_min_7cf53 : ByteArray := prog_30_method_69_code
def yJ9_min_7cf53 : MethodName := ⟨RJ9, "min", "(II)I"⟩
def RNU : String := "java/lang/Number"
def TNU : u_T := fun k => match k with
  | _ => ("", "", "", false)
def tyNU : Nat → FieldType := fun k => match k with
  | _ => .int
theorem nmNU : ∀ a, a < 0 → ∀ b, b < 0 → a ≠ b → (TNU a).2.1 ≠ (TNU b).2.1 := by decide +kernel
theorem tyNU_ok : ∀ k, k < 0 → parseFieldDescriptor (TNU k).2.2.1 = some (tyNU k) := by decide +kernel
abbrev cNU_init_da8c8 : ByteArray := prog_31_method_1_code
def yNU_init_da8c8 : MethodName := ⟨RNU, "<init>", "()V"⟩
def RJ0 : String := "java/lang/String"
def TJ0 : u_T := fun k => match k with
  | 0 => ("java/lang/String", "value", "[B", true)
  | 1 => ("java/lang/String", "coder", "B", true)
  | 2 => ("java/lang/String", "hash", "I", false)
  | _ => ("java/lang/String", "hashIsZero", "Z", false)
def tyJ0 : Nat → FieldType := fun k => match k with
  | 0 => .array .byte
  | 1 => .byte
  | 2 => .int
  | _ => .boolean
theorem nmJ0 : ∀ a, a < 4 → ∀ b, b < 4 → a ≠ b → (TJ0 a).2.1 ≠ (TJ0 b).2.1 := by decide +kernel
theorem tyJ0_ok : ∀ k, k < 4 → parseFieldDescriptor (TJ0 k).2.2.1 = some (tyJ0 k) := by decide +kernel
abbrev cJ0_init_81219 : ByteArray := prog_33_method_53_code
def yJ0_init_81219 : MethodName := ⟨RJ0, "<init>", "(Ljava/lang/StringBuilder;)V"⟩
abbrev cJ0_length_8abf5 : ByteArray := prog_33_method_54_code
def yJ0_length_8abf5 : MethodName := ⟨RJ0, "length", "()I"⟩
abbrev cJ0_charAt_5068e : ByteArray := prog_33_method_56_code
def yJ0_charAt_5068e : MethodName := ⟨RJ0, "charAt", "(I)C"⟩
abbrev cJ0_compareTo_2f485 : ByteArray := prog_33_method_71_code
def yJ0_compareTo_2f485 : MethodName := ⟨RJ0, "compareTo", "(Ljava/lang/String;)I"⟩
abbrev cJ0_getBytes_840e7 : ByteArray := prog_33_method_147_code
def yJ0_getBytes_840e7 : MethodName := ⟨RJ0, "getBytes", "([BIB)V"⟩
abbrev cJ0_init_db425 : ByteArray := prog_33_method_150_code
def yJ0_init_db425 : MethodName := ⟨RJ0, "<init>", "(Ljava/lang/AbstractStringBuilder;Ljava/lang/Void;)V"⟩
abbrev cJ0_coder_7d493 : ByteArray := prog_33_method_152_code
def yJ0_coder_7d493 : MethodName := ⟨RJ0, "coder", "()B"⟩
abbrev cJ0_isLatin1_aae02 : ByteArray := prog_33_method_154_code
def yJ0_isLatin1_aae02 : MethodName := ⟨RJ0, "isLatin1", "()Z"⟩
abbrev cJ0_checkIndex_df160 : ByteArray := prog_33_method_155_code
def yJ0_checkIndex_df160 : MethodName := ⟨RJ0, "checkIndex", "(II)V"⟩
abbrev cJ0_checkOffset_df160 : ByteArray := prog_33_method_156_code
def yJ0_checkOffset_df160 : MethodName := ⟨RJ0, "checkOffset", "(II)V"⟩
abbrev cJ0_checkBoundsOffCount_cabcc : ByteArray := prog_33_method_157_code
def yJ0_checkBoundsOffCount_cabcc : MethodName := ⟨RJ0, "checkBoundsOffCount", "(III)I"⟩
abbrev cJ0_checkBoundsBeginEnd_23922 : ByteArray := prog_33_method_158_code
def yJ0_checkBoundsBeginEnd_23922 : MethodName := ⟨RJ0, "checkBoundsBeginEnd", "(III)V"⟩
abbrev cJ0_compareTo_e47da : ByteArray := prog_33_method_162_code
def yJ0_compareTo_e47da : MethodName := ⟨RJ0, "compareTo", "(Ljava/lang/Object;)I"⟩
def RSB : String := "java/lang/StringBuilder"
def TSB : u_T := fun k => match k with
  | 0 => ("java/lang/AbstractStringBuilder", "value", "[B", false)
  | 1 => ("java/lang/AbstractStringBuilder", "coder", "B", false)
  | 2 => ("java/lang/AbstractStringBuilder", "maybeLatin1", "Z", false)
  | _ => ("java/lang/AbstractStringBuilder", "count", "I", false)
def tySB : Nat → FieldType := fun k => match k with
  | 0 => .array .byte
  | 1 => .byte
  | 2 => .boolean
  | _ => .int
theorem nmSB : ∀ a, a < 4 → ∀ b, b < 4 → a ≠ b → (TSB a).2.1 ≠ (TSB b).2.1 := by decide +kernel
theorem tySB_ok : ∀ k, k < 4 → parseFieldDescriptor (TSB k).2.2.1 = some (tySB k) := by decide +kernel
abbrev cSB_init_a7421 : ByteArray := prog_34_method_3_code
def ySB_init_a7421 : MethodName := ⟨RSB, "<init>", "(Ljava/lang/String;)V"⟩
abbrev cSB_compareTo_93759 : ByteArray := prog_34_method_5_code
def ySB_compareTo_93759 : MethodName := ⟨RSB, "compareTo", "(Ljava/lang/StringBuilder;)I"⟩
abbrev cSB_append_15ec4 : ByteArray := prog_34_method_7_code
def ySB_append_15ec4 : MethodName := ⟨RSB, "append", "(Ljava/lang/String;)Ljava/lang/StringBuilder;"⟩
abbrev cSB_append_cf468 : ByteArray := prog_34_method_14_code
def ySB_append_cf468 : MethodName := ⟨RSB, "append", "(C)Ljava/lang/StringBuilder;"⟩
abbrev cSB_append_bf812 : ByteArray := prog_34_method_15_code
def ySB_append_bf812 : MethodName := ⟨RSB, "append", "(I)Ljava/lang/StringBuilder;"⟩
abbrev cSB_toString_0e30d : ByteArray := prog_34_method_42_code
def ySB_toString_0e30d : MethodName := ⟨RSB, "toString", "()Ljava/lang/String;"⟩
abbrev cSB_append_cf1ce : ByteArray := prog_34_method_80_code
def ySB_append_cf1ce : MethodName := ⟨RSB, "append", "(Ljava/lang/String;)Ljava/lang/AbstractStringBuilder;"⟩
abbrev cSB_length_8abf5 : ByteArray := prog_34_method_93_code
def ySB_length_8abf5 : MethodName := ⟨RSB, "length", "()I"⟩
abbrev cSB_compareTo_e47da : ByteArray := prog_34_method_97_code
def ySB_compareTo_e47da : MethodName := ⟨RSB, "compareTo", "(Ljava/lang/Object;)I"⟩
def RJ1 : String := "java/lang/StringLatin1"
def TJ1 : u_T := fun k => match k with
  | _ => ("", "", "", false)
def tyJ1 : Nat → FieldType := fun k => match k with
  | _ => .int
theorem nmJ1 : ∀ a, a < 0 → ∀ b, b < 0 → a ≠ b → (TJ1 a).2.1 ≠ (TJ1 b).2.1 := by decide +kernel
theorem tyJ1_ok : ∀ k, k < 0 → parseFieldDescriptor (TJ1 k).2.2.1 = some (tyJ1 k) := by decide +kernel
abbrev cJ1_charAt_3b067 : ByteArray := prog_35_method_2_code
def yJ1_charAt_3b067 : MethodName := ⟨RJ1, "charAt", "([BI)C"⟩
abbrev cJ1_canEncode_fc78d : ByteArray := prog_35_method_3_code
def yJ1_canEncode_fc78d : MethodName := ⟨RJ1, "canEncode", "(C)Z"⟩
abbrev cJ1_length_9d52b : ByteArray := prog_35_method_5_code
def yJ1_length_9d52b : MethodName := ⟨RJ1, "length", "([B)I"⟩
abbrev cJ1_compareTo_b82b6 : ByteArray := prog_35_method_14_code
def yJ1_compareTo_b82b6 : MethodName := ⟨RJ1, "compareTo", "([B[B)I"⟩
abbrev cJ1_compareTo_66405 : ByteArray := prog_35_method_15_code
def yJ1_compareTo_66405 : MethodName := ⟨RJ1, "compareTo", "([B[BII)I"⟩
abbrev cJ1_compareToUTF16_b82b6 : ByteArray := prog_35_method_16_code
def yJ1_compareToUTF16_b82b6 : MethodName := ⟨RJ1, "compareToUTF16", "([B[B)I"⟩
abbrev cJ1_compareToUTF16_66405 : ByteArray := prog_35_method_17_code
def yJ1_compareToUTF16_66405 : MethodName := ⟨RJ1, "compareToUTF16", "([B[BII)I"⟩
abbrev cJ1_compareToUTF16Values_66405 : ByteArray := prog_35_method_18_code
def yJ1_compareToUTF16Values_66405 : MethodName := ⟨RJ1, "compareToUTF16Values", "([B[BII)I"⟩
abbrev cJ1_getChar_3b067 : ByteArray := prog_35_method_44_code
def yJ1_getChar_3b067 : MethodName := ⟨RJ1, "getChar", "([BI)C"⟩
abbrev cJ1_inflate_0e8fd : ByteArray := prog_35_method_50_code
def yJ1_inflate_0e8fd : MethodName := ⟨RJ1, "inflate", "([BI[BII)V"⟩
def RJ2 : String := "java/lang/StringUTF16"
def TJ2 : u_T := fun k => match k with
  | _ => ("", "", "", false)
def tyJ2 : Nat → FieldType := fun k => match k with
  | _ => .int
theorem nmJ2 : ∀ a, a < 0 → ∀ b, b < 0 → a ≠ b → (TJ2 a).2.1 ≠ (TJ2 b).2.1 := by decide +kernel
theorem tyJ2_ok : ∀ k, k < 0 → parseFieldDescriptor (TJ2 k).2.2.1 = some (tyJ2 k) := by decide +kernel
abbrev cJ2_newBytesFor_77867 : ByteArray := prog_36_method_2_code
def yJ2_newBytesFor_77867 : MethodName := ⟨RJ2, "newBytesFor", "(I)[B"⟩
abbrev cJ2_newBytesLength_0f7a4 : ByteArray := prog_36_method_3_code
def yJ2_newBytesLength_0f7a4 : MethodName := ⟨RJ2, "newBytesLength", "(I)I"⟩
abbrev cJ2_putChar_b72d1 : ByteArray := prog_36_method_4_code
def yJ2_putChar_b72d1 : MethodName := ⟨RJ2, "putChar", "([BII)V"⟩
abbrev cJ2_getChar_3b067 : ByteArray := prog_36_method_5_code
def yJ2_getChar_3b067 : MethodName := ⟨RJ2, "getChar", "([BI)C"⟩
abbrev cJ2_length_9d52b : ByteArray := prog_36_method_6_code
def yJ2_length_9d52b : MethodName := ⟨RJ2, "length", "([B)I"⟩
abbrev cJ2_coderFromArrayLen_85cad : ByteArray := prog_36_method_15_code
def yJ2_coderFromArrayLen_85cad : MethodName := ⟨RJ2, "coderFromArrayLen", "([BI)B"⟩
abbrev cJ2_compress_39247 : ByteArray := prog_36_method_17_code
def yJ2_compress_39247 : MethodName := ⟨RJ2, "compress", "([BII)[B"⟩
abbrev cJ2_compress_5af95 : ByteArray := prog_36_method_22_code
def yJ2_compress_5af95 : MethodName := ⟨RJ2, "compress", "([BI[BII)I"⟩
abbrev cJ2_compareTo_b82b6 : ByteArray := prog_36_method_29_code
def yJ2_compareTo_b82b6 : MethodName := ⟨RJ2, "compareTo", "([B[B)I"⟩
abbrev cJ2_compareTo_66405 : ByteArray := prog_36_method_30_code
def yJ2_compareTo_66405 : MethodName := ⟨RJ2, "compareTo", "([B[BII)I"⟩
abbrev cJ2_compareValues_66405 : ByteArray := prog_36_method_31_code
def yJ2_compareValues_66405 : MethodName := ⟨RJ2, "compareValues", "([B[BII)I"⟩
abbrev cJ2_compareToLatin1_b82b6 : ByteArray := prog_36_method_32_code
def yJ2_compareToLatin1_b82b6 : MethodName := ⟨RJ2, "compareToLatin1", "([B[B)I"⟩
abbrev cJ2_compareToLatin1_66405 : ByteArray := prog_36_method_33_code
def yJ2_compareToLatin1_66405 : MethodName := ⟨RJ2, "compareToLatin1", "([B[BII)I"⟩
abbrev cJ2_putCharSB_b72d1 : ByteArray := prog_36_method_71_code
def yJ2_putCharSB_b72d1 : MethodName := ⟨RJ2, "putCharSB", "([BII)V"⟩
abbrev cJ2_getChars_46870 : ByteArray := prog_36_method_77_code
def yJ2_getChars_46870 : MethodName := ⟨RJ2, "getChars", "(III[B)I"⟩
abbrev cJ2_putCharsAt_cd4e5 : ByteArray := prog_36_method_81_code
def yJ2_putCharsAt_cd4e5 : MethodName := ⟨RJ2, "putCharsAt", "([BICCCC)I"⟩
abbrev cJ2_charAt_3b067 : ByteArray := prog_36_method_83_code
def yJ2_charAt_3b067 : MethodName := ⟨RJ2, "charAt", "([BI)C"⟩
abbrev cJ2_inflate_0e8fd : ByteArray := prog_36_method_86_code
def yJ2_inflate_0e8fd : MethodName := ⟨RJ2, "inflate", "([BI[BII)V"⟩
abbrev cJ2_getChars_ba4f3 : ByteArray := prog_36_method_89_code
def yJ2_getChars_ba4f3 : MethodName := ⟨RJ2, "getChars", "(II[B)I"⟩
abbrev cJ2_checkIndex_2214a : ByteArray := prog_36_method_91_code
def yJ2_checkIndex_2214a : MethodName := ⟨RJ2, "checkIndex", "(I[B)V"⟩
abbrev cJ2_checkOffset_2214a : ByteArray := prog_36_method_92_code
def yJ2_checkOffset_2214a : MethodName := ⟨RJ2, "checkOffset", "(I[B)V"⟩
abbrev cJ2_checkBoundsBeginEnd_d044e : ByteArray := prog_36_method_93_code
def yJ2_checkBoundsBeginEnd_d044e : MethodName := ⟨RJ2, "checkBoundsBeginEnd", "(II[B)V"⟩
abbrev cJ2_checkBoundsOffCount_d044e : ByteArray := prog_36_method_94_code
def yJ2_checkBoundsOffCount_d044e : MethodName := ⟨RJ2, "checkBoundsOffCount", "(II[B)V"⟩
def RJ10 : String := "java/lang/System"
def TJ10 : u_T := fun k => match k with
  | _ => ("", "", "", false)
def tyJ10 : Nat → FieldType := fun k => match k with
  | _ => .int
theorem nmJ10 : ∀ a, a < 0 → ∀ b, b < 0 → a ≠ b → (TJ10 a).2.1 ≠ (TJ10 b).2.1 := by decide +kernel
theorem tyJ10_ok : ∀ k, k < 0 → parseFieldDescriptor (TJ10 k).2.2.1 = some (tyJ10 k) := by decide +kernel
def RJxfd54e : String := "java/lang/constant/Constable"
def TJxfd54e : u_T := fun k => match k with
  | _ => ("", "", "", false)
def tyJxfd54e : Nat → FieldType := fun k => match k with
  | _ => .int
theorem nmJxfd54e : ∀ a, a < 0 → ∀ b, b < 0 → a ≠ b → (TJxfd54e a).2.1 ≠ (TJxfd54e b).2.1 := by decide +kernel
theorem tyJxfd54e_ok : ∀ k, k < 0 → parseFieldDescriptor (TJxfd54e k).2.2.1 = some (tyJxfd54e k) := by decide +kernel
def RJx3cf43 : String := "java/lang/constant/ConstantDesc"
def TJx3cf43 : u_T := fun k => match k with
  | _ => ("", "", "", false)
def tyJx3cf43 : Nat → FieldType := fun k => match k with
  | _ => .int
theorem nmJx3cf43 : ∀ a, a < 0 → ∀ b, b < 0 → a ≠ b → (TJx3cf43 a).2.1 ≠ (TJx3cf43 b).2.1 := by decide +kernel
theorem tyJx3cf43_ok : ∀ k, k < 0 → parseFieldDescriptor (TJx3cf43 k).2.2.1 = some (tyJx3cf43 k) := by decide +kernel
def RAC : String := "java/util/AbstractCollection"
def TAC : u_T := fun k => match k with
  | _ => ("", "", "", false)
def tyAC : Nat → FieldType := fun k => match k with
  | _ => .int
theorem nmAC : ∀ a, a < 0 → ∀ b, b < 0 → a ≠ b → (TAC a).2.1 ≠ (TAC b).2.1 := by decide +kernel
theorem tyAC_ok : ∀ k, k < 0 → parseFieldDescriptor (TAC k).2.2.1 = some (tyAC k) := by decide +kernel
abbrev cAC_init_da8c8 : ByteArray := prog_41_method_1_code
def yAC_init_da8c8 : MethodName := ⟨RAC, "<init>", "()V"⟩
def RAB : String := "java/util/AbstractList"
def TAB : u_T := fun k => match k with
  | _ => ("", "", "", false)
def tyAB : Nat → FieldType := fun k => match k with
  | _ => .int
theorem nmAB : ∀ a, a < 0 → ∀ b, b < 0 → a ≠ b → (TAB a).2.1 ≠ (TAB b).2.1 := by decide +kernel
theorem tyAB_ok : ∀ k, k < 0 → parseFieldDescriptor (TAB k).2.2.1 = some (tyAB k) := by decide +kernel
abbrev cAB_init_da8c8 : ByteArray := prog_42_method_1_code
def yAB_init_da8c8 : MethodName := ⟨RAB, "<init>", "()V"⟩
def RSE : String := "java/util/AbstractMap$SimpleImmutableEntry"
def TSE : u_T := fun k => match k with
  | 0 => ("java/util/AbstractMap$SimpleImmutableEntry", "key", "Ljava/lang/Object;", true)
  | _ => ("java/util/AbstractMap$SimpleImmutableEntry", "value", "Ljava/lang/Object;", true)
def tySE : Nat → FieldType := fun k => match k with
  | 0 => .object "java/lang/Object"
  | _ => .object "java/lang/Object"
theorem nmSE : ∀ a, a < 2 → ∀ b, b < 2 → a ≠ b → (TSE a).2.1 ≠ (TSE b).2.1 := by decide +kernel
theorem tySE_ok : ∀ k, k < 2 → parseFieldDescriptor (TSE k).2.2.1 = some (tySE k) := by decide +kernel
abbrev cSE_init : ByteArray := prog_44_method_2_code
def ySE_init : MethodName := ⟨RSE, "<init>", "(Ljava/util/Map$Entry;)V"⟩
abbrev cSE_getKey : ByteArray := prog_44_method_3_code
def ySE_getKey : MethodName := ⟨RSE, "getKey", "()Ljava/lang/Object;"⟩
abbrev cSE_getValue : ByteArray := prog_44_method_4_code
def ySE_getValue : MethodName := ⟨RSE, "getValue", "()Ljava/lang/Object;"⟩
def RAM : String := "java/util/AbstractMap"
def TAM : u_T := fun k => match k with
  | _ => ("", "", "", false)
def tyAM : Nat → FieldType := fun k => match k with
  | _ => .int
theorem nmAM : ∀ a, a < 0 → ∀ b, b < 0 → a ≠ b → (TAM a).2.1 ≠ (TAM b).2.1 := by decide +kernel
theorem tyAM_ok : ∀ k, k < 0 → parseFieldDescriptor (TAM k).2.2.1 = some (tyAM k) := by decide +kernel
abbrev cAM_init : ByteArray := prog_43_method_1_code
def yAM_init : MethodName := ⟨RAM, "<init>", "()V"⟩
def RAI : String := "java/util/ArrayList$Itr"
def TAI : u_T := fun k => match k with
  | 0 => ("java/util/ArrayList$Itr", "cursor", "I", false)
  | 1 => ("java/util/ArrayList$Itr", "lastRet", "I", false)
  | 2 => ("java/util/ArrayList$Itr", "expectedModCount", "I", false)
  | _ => ("java/util/ArrayList$Itr", "this$0", "Ljava/util/ArrayList;", true)
def tyAI : Nat → FieldType := fun k => match k with
  | 0 => .int
  | 1 => .int
  | 2 => .int
  | _ => .object "java/util/ArrayList"
theorem nmAI : ∀ a, a < 4 → ∀ b, b < 4 → a ≠ b → (TAI a).2.1 ≠ (TAI b).2.1 := by decide +kernel
theorem tyAI_ok : ∀ k, k < 4 → parseFieldDescriptor (TAI k).2.2.1 = some (tyAI k) := by decide +kernel
abbrev cAI_init_45d68 : ByteArray := prog_46_method_1_code
def yAI_init_45d68 : MethodName := ⟨RAI, "<init>", "(Ljava/util/ArrayList;)V"⟩
abbrev cAI_hasNext_aae02 : ByteArray := prog_46_method_2_code
def yAI_hasNext_aae02 : MethodName := ⟨RAI, "hasNext", "()Z"⟩
abbrev cAI_next_0502b : ByteArray := prog_46_method_3_code
def yAI_next_0502b : MethodName := ⟨RAI, "next", "()Ljava/lang/Object;"⟩
abbrev cAI_checkForComodification_da8c8 : ByteArray := prog_46_method_6_code
def yAI_checkForComodification_da8c8 : MethodName := ⟨RAI, "checkForComodification", "()V"⟩
def RAL : String := "java/util/ArrayList"
def TAL : u_T := fun k => match k with
  | 0 => ("java/util/AbstractList", "modCount", "I", false)
  | 1 => ("java/util/ArrayList", "elementData", "[Ljava/lang/Object;", false)
  | _ => ("java/util/ArrayList", "size", "I", false)
def tyAL : Nat → FieldType := fun k => match k with
  | 0 => .int
  | 1 => .array (.object "java/lang/Object")
  | _ => .int
theorem nmAL : ∀ a, a < 3 → ∀ b, b < 3 → a ≠ b → (TAL a).2.1 ≠ (TAL b).2.1 := by decide +kernel
theorem tyAL_ok : ∀ k, k < 3 → parseFieldDescriptor (TAL k).2.2.1 = some (tyAL k) := by decide +kernel
abbrev cAL_init_da8c8 : ByteArray := prog_45_method_2_code
def yAL_init_da8c8 : MethodName := ⟨RAL, "<init>", "()V"⟩
abbrev cAL_grow_92f84 : ByteArray := prog_45_method_6_code
def yAL_grow_92f84 : MethodName := ⟨RAL, "grow", "(I)[Ljava/lang/Object;"⟩
abbrev cAL_grow_d5877 : ByteArray := prog_45_method_7_code
def yAL_grow_d5877 : MethodName := ⟨RAL, "grow", "()[Ljava/lang/Object;"⟩
abbrev cAL_size_8abf5 : ByteArray := prog_45_method_8_code
def yAL_size_8abf5 : MethodName := ⟨RAL, "size", "()I"⟩
abbrev cAL_elementData_915e3 : ByteArray := prog_45_method_18_code
def yAL_elementData_915e3 : MethodName := ⟨RAL, "elementData", "(I)Ljava/lang/Object;"⟩
abbrev cAL_get_915e3 : ByteArray := prog_45_method_20_code
def yAL_get_915e3 : MethodName := ⟨RAL, "get", "(I)Ljava/lang/Object;"⟩
abbrev cAL_add_72be8 : ByteArray := prog_45_method_24_code
def yAL_add_72be8 : MethodName := ⟨RAL, "add", "(Ljava/lang/Object;[Ljava/lang/Object;I)V"⟩
abbrev cAL_add_9ea2d : ByteArray := prog_45_method_25_code
def yAL_add_9ea2d : MethodName := ⟨RAL, "add", "(Ljava/lang/Object;)Z"⟩
abbrev cAL_iterator_32c93 : ByteArray := prog_45_method_55_code
def yAL_iterator_32c93 : MethodName := ⟨RAL, "iterator", "()Ljava/util/Iterator;"⟩
def RAR : String := "java/util/Arrays"
def TAR : u_T := fun k => match k with
  | _ => ("", "", "", false)
def tyAR : Nat → FieldType := fun k => match k with
  | _ => .int
theorem nmAR : ∀ a, a < 0 → ∀ b, b < 0 → a ≠ b → (TAR a).2.1 ≠ (TAR b).2.1 := by decide +kernel
theorem tyAR_ok : ∀ k, k < 0 → parseFieldDescriptor (TAR k).2.2.1 = some (tyAR k) := by decide +kernel
abbrev cAR_copyOf_1904c : ByteArray := prog_47_method_119_code
def yAR_copyOf_1904c : MethodName := ⟨RAR, "copyOf", "([Ljava/lang/Object;I)[Ljava/lang/Object;"⟩
abbrev cAR_copyOf_6403c : ByteArray := prog_47_method_120_code
def yAR_copyOf_6403c : MethodName := ⟨RAR, "copyOf", "([Ljava/lang/Object;ILjava/lang/Class;)[Ljava/lang/Object;"⟩
abbrev cAR_copyOf_9075b : ByteArray := prog_47_method_121_code
def yAR_copyOf_9075b : MethodName := ⟨RAR, "copyOf", "([BI)[B"⟩
abbrev cAR_checkLength_df160 : ByteArray := prog_47_method_131_code
def yAR_checkLength_df160 : MethodName := ⟨RAR, "checkLength", "(II)V"⟩
abbrev cAR_copyOfRange_39247 : ByteArray := prog_47_method_132_code
def yAR_copyOfRange_39247 : MethodName := ⟨RAR, "copyOfRange", "([BII)[B"⟩
abbrev cAR_copyOfRangeByte_39247 : ByteArray := prog_47_method_133_code
def yAR_copyOfRangeByte_39247 : MethodName := ⟨RAR, "copyOfRangeByte", "([BII)[B"⟩
def RJx5ef63 : String := "java/util/Collection"
def TJx5ef63 : u_T := fun k => match k with
  | _ => ("", "", "", false)
def tyJx5ef63 : Nat → FieldType := fun k => match k with
  | _ => .int
theorem nmJx5ef63 : ∀ a, a < 0 → ∀ b, b < 0 → a ≠ b → (TJx5ef63 a).2.1 ≠ (TJx5ef63 b).2.1 := by decide +kernel
theorem tyJx5ef63_ok : ∀ k, k < 0 → parseFieldDescriptor (TJx5ef63 k).2.2.1 = some (tyJx5ef63 k) := by decide +kernel
def RJxa8996 : String := "java/util/Comparator"
def TJxa8996 : u_T := fun k => match k with
  | _ => ("", "", "", false)
def tyJxa8996 : Nat → FieldType := fun k => match k with
  | _ => .int
theorem nmJxa8996 : ∀ a, a < 0 → ∀ b, b < 0 → a ≠ b → (TJxa8996 a).2.1 ≠ (TJxa8996 b).2.1 := by decide +kernel
theorem tyJxa8996_ok : ∀ k, k < 0 → parseFieldDescriptor (TJxa8996 k).2.2.1 = some (tyJxa8996 k) := by decide +kernel
def RJx4d0d8 : String := "java/util/Iterator"
def TJx4d0d8 : u_T := fun k => match k with
  | _ => ("", "", "", false)
def tyJx4d0d8 : Nat → FieldType := fun k => match k with
  | _ => .int
theorem nmJx4d0d8 : ∀ a, a < 0 → ∀ b, b < 0 → a ≠ b → (TJx4d0d8 a).2.1 ≠ (TJx4d0d8 b).2.1 := by decide +kernel
theorem tyJx4d0d8_ok : ∀ k, k < 0 → parseFieldDescriptor (TJx4d0d8 k).2.2.1 = some (tyJx4d0d8 k) := by decide +kernel
def RJxbd725 : String := "java/util/List"
def TJxbd725 : u_T := fun k => match k with
  | _ => ("", "", "", false)
def tyJxbd725 : Nat → FieldType := fun k => match k with
  | _ => .int
theorem nmJxbd725 : ∀ a, a < 0 → ∀ b, b < 0 → a ≠ b → (TJxbd725 a).2.1 ≠ (TJxbd725 b).2.1 := by decide +kernel
theorem tyJxbd725_ok : ∀ k, k < 0 → parseFieldDescriptor (TJxbd725 k).2.2.1 = some (tyJxbd725 k) := by decide +kernel
def RJxf0cc3 : String := "java/util/Map$Entry"
def TJxf0cc3 : u_T := fun k => match k with
  | _ => ("", "", "", false)
def tyJxf0cc3 : Nat → FieldType := fun k => match k with
  | _ => .int
theorem nmJxf0cc3 : ∀ a, a < 0 → ∀ b, b < 0 → a ≠ b → (TJxf0cc3 a).2.1 ≠ (TJxf0cc3 b).2.1 := by decide +kernel
theorem tyJxf0cc3_ok : ∀ k, k < 0 → parseFieldDescriptor (TJxf0cc3 k).2.2.1 = some (tyJxf0cc3 k) := by decide +kernel
def RJxdf0bc : String := "java/util/Map"
def TJxdf0bc : u_T := fun k => match k with
  | _ => ("", "", "", false)
def tyJxdf0bc : Nat → FieldType := fun k => match k with
  | _ => .int
theorem nmJxdf0bc : ∀ a, a < 0 → ∀ b, b < 0 → a ≠ b → (TJxdf0bc a).2.1 ≠ (TJxdf0bc b).2.1 := by decide +kernel
theorem tyJxdf0bc_ok : ∀ k, k < 0 → parseFieldDescriptor (TJxdf0bc k).2.2.1 = some (tyJxdf0bc k) := by decide +kernel
def RJxf6e05 : String := "java/util/NavigableMap"
def TJxf6e05 : u_T := fun k => match k with
  | _ => ("", "", "", false)
def tyJxf6e05 : Nat → FieldType := fun k => match k with
  | _ => .int
theorem nmJxf6e05 : ∀ a, a < 0 → ∀ b, b < 0 → a ≠ b → (TJxf6e05 a).2.1 ≠ (TJxf6e05 b).2.1 := by decide +kernel
theorem tyJxf6e05_ok : ∀ k, k < 0 → parseFieldDescriptor (TJxf6e05 k).2.2.1 = some (tyJxf6e05 k) := by decide +kernel
def ROJ : String := "java/util/Objects"
def TOJ : u_T := fun k => match k with
  | _ => ("", "", "", false)
def tyOJ : Nat → FieldType := fun k => match k with
  | _ => .int
theorem nmOJ : ∀ a, a < 0 → ∀ b, b < 0 → a ≠ b → (TOJ a).2.1 ≠ (TOJ b).2.1 := by decide +kernel
theorem tyOJ_ok : ∀ k, k < 0 → parseFieldDescriptor (TOJ k).2.2.1 = some (tyOJ k) := by decide +kernel
abbrev cOJ_requireNonNull_262c5 : ByteArray := prog_55_method_10_code
def yOJ_requireNonNull_262c5 : MethodName := ⟨ROJ, "requireNonNull", "(Ljava/lang/Object;)Ljava/lang/Object;"⟩
abbrev cOJ_checkIndex_7cf53 : ByteArray := prog_55_method_17_code
def yOJ_checkIndex_7cf53 : MethodName := ⟨ROJ, "checkIndex", "(II)I"⟩
def RJxf0a74 : String := "java/util/RandomAccess"
def TJxf0a74 : u_T := fun k => match k with
  | _ => ("", "", "", false)
def tyJxf0a74 : Nat → FieldType := fun k => match k with
  | _ => .int
theorem nmJxf0a74 : ∀ a, a < 0 → ∀ b, b < 0 → a ≠ b → (TJxf0a74 a).2.1 ≠ (TJxf0a74 b).2.1 := by decide +kernel
theorem tyJxf0a74_ok : ∀ k, k < 0 → parseFieldDescriptor (TJxf0a74 k).2.2.1 = some (tyJxf0a74 k) := by decide +kernel
def RJxa66e6 : String := "java/util/SequencedCollection"
def TJxa66e6 : u_T := fun k => match k with
  | _ => ("", "", "", false)
def tyJxa66e6 : Nat → FieldType := fun k => match k with
  | _ => .int
theorem nmJxa66e6 : ∀ a, a < 0 → ∀ b, b < 0 → a ≠ b → (TJxa66e6 a).2.1 ≠ (TJxa66e6 b).2.1 := by decide +kernel
theorem tyJxa66e6_ok : ∀ k, k < 0 → parseFieldDescriptor (TJxa66e6 k).2.2.1 = some (tyJxa66e6 k) := by decide +kernel
def RJxe8c38 : String := "java/util/SequencedMap"
def TJxe8c38 : u_T := fun k => match k with
  | _ => ("", "", "", false)
def tyJxe8c38 : Nat → FieldType := fun k => match k with
  | _ => .int
theorem nmJxe8c38 : ∀ a, a < 0 → ∀ b, b < 0 → a ≠ b → (TJxe8c38 a).2.1 ≠ (TJxe8c38 b).2.1 := by decide +kernel
theorem tyJxe8c38_ok : ∀ k, k < 0 → parseFieldDescriptor (TJxe8c38 k).2.2.1 = some (tyJxe8c38 k) := by decide +kernel
def RJx03f2f : String := "java/util/SortedMap"
def TJx03f2f : u_T := fun k => match k with
  | _ => ("", "", "", false)
def tyJx03f2f : Nat → FieldType := fun k => match k with
  | _ => .int
theorem nmJx03f2f : ∀ a, a < 0 → ∀ b, b < 0 → a ≠ b → (TJx03f2f a).2.1 ≠ (TJx03f2f b).2.1 := by decide +kernel
theorem tyJx03f2f_ok : ∀ k, k < 0 → parseFieldDescriptor (TJx03f2f k).2.2.1 = some (tyJx03f2f k) := by decide +kernel
def RTE : String := "java/util/TreeMap$Entry"
def TTE : u_T := fun k => match k with
  | 0 => ("java/util/TreeMap$Entry", "key", "Ljava/lang/Object;", false)
  | 1 => ("java/util/TreeMap$Entry", "value", "Ljava/lang/Object;", false)
  | 2 => ("java/util/TreeMap$Entry", "left", "Ljava/util/TreeMap$Entry;", false)
  | 3 => ("java/util/TreeMap$Entry", "right", "Ljava/util/TreeMap$Entry;", false)
  | 4 => ("java/util/TreeMap$Entry", "parent", "Ljava/util/TreeMap$Entry;", false)
  | _ => ("java/util/TreeMap$Entry", "color", "Z", false)
def tyTE : Nat → FieldType := fun k => match k with
  | 0 => .object "java/lang/Object"
  | 1 => .object "java/lang/Object"
  | 2 => .object "java/util/TreeMap$Entry"
  | 3 => .object "java/util/TreeMap$Entry"
  | 4 => .object "java/util/TreeMap$Entry"
  | _ => .boolean
theorem nmTE : ∀ a, a < 6 → ∀ b, b < 6 → a ≠ b → (TTE a).2.1 ≠ (TTE b).2.1 := by decide +kernel
theorem tyTE_ok : ∀ k, k < 6 → parseFieldDescriptor (TTE k).2.2.1 = some (tyTE k) := by decide +kernel
abbrev cTE_init : ByteArray := prog_61_method_1_code
def yTE_init : MethodName := ⟨RTE, "<init>", "(Ljava/lang/Object;Ljava/lang/Object;Ljava/util/TreeMap$Entry;)V"⟩
abbrev cTE_getKey : ByteArray := prog_61_method_2_code
def yTE_getKey : MethodName := ⟨RTE, "getKey", "()Ljava/lang/Object;"⟩
abbrev cTE_getValue : ByteArray := prog_61_method_3_code
def yTE_getValue : MethodName := ⟨RTE, "getValue", "()Ljava/lang/Object;"⟩
def RPI : String := "java/util/TreeMap$PrivateEntryIterator"
def TPI : u_T := fun k => match k with
  | _ => ("", "", "", false)
def tyPI : Nat → FieldType := fun k => match k with
  | _ => .int
theorem nmPI : ∀ a, a < 0 → ∀ b, b < 0 → a ≠ b → (TPI a).2.1 ≠ (TPI b).2.1 := by decide +kernel
theorem tyPI_ok : ∀ k, k < 0 → parseFieldDescriptor (TPI k).2.2.1 = some (tyPI k) := by decide +kernel
abbrev cPI_init : ByteArray := prog_62_method_1_code
def yPI_init : MethodName := ⟨RPI, "<init>", "(Ljava/util/TreeMap;Ljava/util/TreeMap$Entry;)V"⟩
abbrev cPI_hasNext : ByteArray := prog_62_method_2_code
def yPI_hasNext : MethodName := ⟨RPI, "hasNext", "()Z"⟩
abbrev cPI_nextEntry : ByteArray := prog_62_method_3_code
def yPI_nextEntry : MethodName := ⟨RPI, "nextEntry", "()Ljava/util/TreeMap$Entry;"⟩
def RTI : String := "java/util/TreeMap$ValueIterator"
def TTI : u_T := fun k => match k with
  | 0 => ("java/util/TreeMap$PrivateEntryIterator", "next", "Ljava/util/TreeMap$Entry;", false)
  | 1 => ("java/util/TreeMap$PrivateEntryIterator", "lastReturned", "Ljava/util/TreeMap$Entry;", false)
  | 2 => ("java/util/TreeMap$PrivateEntryIterator", "expectedModCount", "I", false)
  | _ => ("java/util/TreeMap$PrivateEntryIterator", "this$0", "Ljava/util/TreeMap;", true)
def tyTI : Nat → FieldType := fun k => match k with
  | 0 => .object "java/util/TreeMap$Entry"
  | 1 => .object "java/util/TreeMap$Entry"
  | 2 => .int
  | _ => .object "java/util/TreeMap"
theorem nmTI : ∀ a, a < 4 → ∀ b, b < 4 → a ≠ b → (TTI a).2.1 ≠ (TTI b).2.1 := by decide +kernel
theorem tyTI_ok : ∀ k, k < 4 → parseFieldDescriptor (TTI k).2.2.1 = some (tyTI k) := by decide +kernel
abbrev cTI_init : ByteArray := prog_63_method_1_code
def yTI_init : MethodName := ⟨RTI, "<init>", "(Ljava/util/TreeMap;Ljava/util/TreeMap$Entry;)V"⟩
abbrev cTI_next : ByteArray := prog_63_method_2_code
def yTI_next : MethodName := ⟨RTI, "next", "()Ljava/lang/Object;"⟩
def RTV : String := "java/util/TreeMap$Values"
def TTV : u_T := fun k => match k with
  | _ => ("java/util/TreeMap$Values", "this$0", "Ljava/util/TreeMap;", true)
def tyTV : Nat → FieldType := fun k => match k with
  | _ => .object "java/util/TreeMap"
theorem nmTV : ∀ a, a < 1 → ∀ b, b < 1 → a ≠ b → (TTV a).2.1 ≠ (TTV b).2.1 := by decide +kernel
theorem tyTV_ok : ∀ k, k < 1 → parseFieldDescriptor (TTV k).2.2.1 = some (tyTV k) := by decide +kernel
abbrev cTV_init : ByteArray := prog_64_method_1_code
def yTV_init : MethodName := ⟨RTV, "<init>", "(Ljava/util/TreeMap;)V"⟩
abbrev cTV_iterator : ByteArray := prog_64_method_2_code
def yTV_iterator : MethodName := ⟨RTV, "iterator", "()Ljava/util/Iterator;"⟩
def RTM : String := "java/util/TreeMap"
def TTM : u_T := fun k => match k with
  | 0 => ("java/util/AbstractMap", "keySet", "Ljava/util/Set;", false)
  | 1 => ("java/util/AbstractMap", "values", "Ljava/util/Collection;", false)
  | 2 => ("java/util/TreeMap", "comparator", "Ljava/util/Comparator;", true)
  | 3 => ("java/util/TreeMap", "root", "Ljava/util/TreeMap$Entry;", false)
  | 4 => ("java/util/TreeMap", "size", "I", false)
  | 5 => ("java/util/TreeMap", "modCount", "I", false)
  | 6 => ("java/util/TreeMap", "entrySet", "Ljava/util/TreeMap$EntrySet;", false)
  | 7 => ("java/util/TreeMap", "navigableKeySet", "Ljava/util/TreeMap$KeySet;", false)
  | _ => ("java/util/TreeMap", "descendingMap", "Ljava/util/NavigableMap;", false)
def tyTM : Nat → FieldType := fun k => match k with
  | 0 => .object "java/util/Set"
  | 1 => .object "java/util/Collection"
  | 2 => .object "java/util/Comparator"
  | 3 => .object "java/util/TreeMap$Entry"
  | 4 => .int
  | 5 => .int
  | 6 => .object "java/util/TreeMap$EntrySet"
  | 7 => .object "java/util/TreeMap$KeySet"
  | _ => .object "java/util/NavigableMap"
theorem nmTM : ∀ a, a < 9 → ∀ b, b < 9 → a ≠ b → (TTM a).2.1 ≠ (TTM b).2.1 := by decide +kernel
theorem tyTM_ok : ∀ k, k < 9 → parseFieldDescriptor (TTM k).2.2.1 = some (tyTM k) := by decide +kernel
abbrev cTM_init : ByteArray := prog_60_method_1_code
def yTM_init : MethodName := ⟨RTM, "<init>", "()V"⟩
abbrev cTM_containsKey : ByteArray := prog_60_method_6_code
def yTM_containsKey : MethodName := ⟨RTM, "containsKey", "(Ljava/lang/Object;)Z"⟩
abbrev cTM_get : ByteArray := prog_60_method_8_code
def yTM_get : MethodName := ⟨RTM, "get", "(Ljava/lang/Object;)Ljava/lang/Object;"⟩
abbrev cTM_getEntry : ByteArray := prog_60_method_15_code
def yTM_getEntry : MethodName := ⟨RTM, "getEntry", "(Ljava/lang/Object;)Ljava/util/TreeMap$Entry;"⟩
abbrev cTM_getEntryUsingComparator : ByteArray := prog_60_method_16_code
def yTM_getEntryUsingComparator : MethodName := ⟨RTM, "getEntryUsingComparator", "(Ljava/lang/Object;)Ljava/util/TreeMap$Entry;"⟩
abbrev cTM_put : ByteArray := prog_60_method_21_code
def yTM_put : MethodName := ⟨RTM, "put", "(Ljava/lang/Object;Ljava/lang/Object;)Ljava/lang/Object;"⟩
abbrev cTM_addEntry : ByteArray := prog_60_method_29_code
def yTM_addEntry : MethodName := ⟨RTM, "addEntry", "(Ljava/lang/Object;Ljava/lang/Object;Ljava/util/TreeMap$Entry;Z)V"⟩
abbrev cTM_addEntryToEmptyMap : ByteArray := prog_60_method_30_code
def yTM_addEntryToEmptyMap : MethodName := ⟨RTM, "addEntryToEmptyMap", "(Ljava/lang/Object;Ljava/lang/Object;)V"⟩
abbrev cTM_put_ : ByteArray := prog_60_method_31_code
def yTM_put_ : MethodName := ⟨RTM, "put", "(Ljava/lang/Object;Ljava/lang/Object;Z)Ljava/lang/Object;"⟩
abbrev cTM_remove : ByteArray := prog_60_method_34_code
def yTM_remove : MethodName := ⟨RTM, "remove", "(Ljava/lang/Object;)Ljava/lang/Object;"⟩
abbrev cTM_firstEntry : ByteArray := prog_60_method_37_code
def yTM_firstEntry : MethodName := ⟨RTM, "firstEntry", "()Ljava/util/Map$Entry;"⟩
abbrev cTM_lastEntry : ByteArray := prog_60_method_38_code
def yTM_lastEntry : MethodName := ⟨RTM, "lastEntry", "()Ljava/util/Map$Entry;"⟩
abbrev cTM_values : ByteArray := prog_60_method_52_code
def yTM_values : MethodName := ⟨RTM, "values", "()Ljava/util/Collection;"⟩
abbrev cTM_compare : ByteArray := prog_60_method_67_code
def yTM_compare : MethodName := ⟨RTM, "compare", "(Ljava/lang/Object;Ljava/lang/Object;)I"⟩
abbrev cTM_exportEntry : ByteArray := prog_60_method_69_code
def yTM_exportEntry : MethodName := ⟨RTM, "exportEntry", "(Ljava/util/TreeMap$Entry;)Ljava/util/Map$Entry;"⟩
abbrev cTM_getFirstEntry : ByteArray := prog_60_method_72_code
def yTM_getFirstEntry : MethodName := ⟨RTM, "getFirstEntry", "()Ljava/util/TreeMap$Entry;"⟩
abbrev cTM_getLastEntry : ByteArray := prog_60_method_73_code
def yTM_getLastEntry : MethodName := ⟨RTM, "getLastEntry", "()Ljava/util/TreeMap$Entry;"⟩
abbrev cTM_successor : ByteArray := prog_60_method_74_code
def yTM_successor : MethodName := ⟨RTM, "successor", "(Ljava/util/TreeMap$Entry;)Ljava/util/TreeMap$Entry;"⟩
abbrev cTM_colorOf : ByteArray := prog_60_method_76_code
def yTM_colorOf : MethodName := ⟨RTM, "colorOf", "(Ljava/util/TreeMap$Entry;)Z"⟩
abbrev cTM_parentOf : ByteArray := prog_60_method_77_code
def yTM_parentOf : MethodName := ⟨RTM, "parentOf", "(Ljava/util/TreeMap$Entry;)Ljava/util/TreeMap$Entry;"⟩
abbrev cTM_setColor : ByteArray := prog_60_method_78_code
def yTM_setColor : MethodName := ⟨RTM, "setColor", "(Ljava/util/TreeMap$Entry;Z)V"⟩
abbrev cTM_leftOf : ByteArray := prog_60_method_79_code
def yTM_leftOf : MethodName := ⟨RTM, "leftOf", "(Ljava/util/TreeMap$Entry;)Ljava/util/TreeMap$Entry;"⟩
abbrev cTM_rightOf : ByteArray := prog_60_method_80_code
def yTM_rightOf : MethodName := ⟨RTM, "rightOf", "(Ljava/util/TreeMap$Entry;)Ljava/util/TreeMap$Entry;"⟩
abbrev cTM_rotateLeft : ByteArray := prog_60_method_81_code
def yTM_rotateLeft : MethodName := ⟨RTM, "rotateLeft", "(Ljava/util/TreeMap$Entry;)V"⟩
abbrev cTM_rotateRight : ByteArray := prog_60_method_82_code
def yTM_rotateRight : MethodName := ⟨RTM, "rotateRight", "(Ljava/util/TreeMap$Entry;)V"⟩
abbrev cTM_fixAfterInsertion : ByteArray := prog_60_method_83_code
def yTM_fixAfterInsertion : MethodName := ⟨RTM, "fixAfterInsertion", "(Ljava/util/TreeMap$Entry;)V"⟩
abbrev cTM_deleteEntry : ByteArray := prog_60_method_84_code
def yTM_deleteEntry : MethodName := ⟨RTM, "deleteEntry", "(Ljava/util/TreeMap$Entry;)V"⟩
abbrev cTM_fixAfterDeletion : ByteArray := prog_60_method_85_code
def yTM_fixAfterDeletion : MethodName := ⟨RTM, "fixAfterDeletion", "(Ljava/util/TreeMap$Entry;)V"⟩
def RJx9a822 : String := "jdk/internal/misc/Unsafe"
def TJx9a822 : u_T := fun k => match k with
  | _ => ("", "", "", false)
def tyJx9a822 : Nat → FieldType := fun k => match k with
  | _ => .int
theorem nmJx9a822 : ∀ a, a < 0 → ∀ b, b < 0 → a ≠ b → (TJx9a822 a).2.1 ≠ (TJx9a822 b).2.1 := by decide +kernel
theorem tyJx9a822_ok : ∀ k, k < 0 → parseFieldDescriptor (TJx9a822 k).2.2.1 = some (tyJx9a822 k) := by decide +kernel
abbrev cJx9a822_getLongUnaligned_f02c6 : ByteArray := prog_65_method_334_code
def yJx9a822_getLongUnaligned_f02c6 : MethodName := ⟨RJx9a822, "getLongUnaligned", "(Ljava/lang/Object;J)J"⟩
abbrev cJx9a822_getIntUnaligned_25a47 : ByteArray := prog_65_method_336_code
def yJx9a822_getIntUnaligned_25a47 : MethodName := ⟨RJx9a822, "getIntUnaligned", "(Ljava/lang/Object;J)I"⟩
abbrev cJx9a822_pickPos_7cf53 : ByteArray := prog_65_method_350_code
def yJx9a822_pickPos_7cf53 : MethodName := ⟨RJx9a822, "pickPos", "(II)I"⟩
abbrev cJx9a822_makeLong_0477f : ByteArray := prog_65_method_351_code
def yJx9a822_makeLong_0477f : MethodName := ⟨RJx9a822, "makeLong", "(BBBBBBBB)J"⟩
abbrev cJx9a822_makeLong_4b46d : ByteArray := prog_65_method_352_code
def yJx9a822_makeLong_4b46d : MethodName := ⟨RJx9a822, "makeLong", "(SSSS)J"⟩
abbrev cJx9a822_makeLong_a216e : ByteArray := prog_65_method_353_code
def yJx9a822_makeLong_a216e : MethodName := ⟨RJx9a822, "makeLong", "(II)J"⟩
abbrev cJx9a822_makeInt_4e28c : ByteArray := prog_65_method_354_code
def yJx9a822_makeInt_4e28c : MethodName := ⟨RJx9a822, "makeInt", "(SS)I"⟩
abbrev cJx9a822_makeInt_86272 : ByteArray := prog_65_method_355_code
def yJx9a822_makeInt_86272 : MethodName := ⟨RJx9a822, "makeInt", "(BBBB)I"⟩
abbrev cJx9a822_toUnsignedInt_4d018 : ByteArray := prog_65_method_366_code
def yJx9a822_toUnsignedInt_4d018 : MethodName := ⟨RJx9a822, "toUnsignedInt", "(B)I"⟩
abbrev cJx9a822_toUnsignedInt_f1ed4 : ByteArray := prog_65_method_367_code
def yJx9a822_toUnsignedInt_f1ed4 : MethodName := ⟨RJx9a822, "toUnsignedInt", "(S)I"⟩
abbrev cJx9a822_toUnsignedLong_c5be9 : ByteArray := prog_65_method_368_code
def yJx9a822_toUnsignedLong_c5be9 : MethodName := ⟨RJx9a822, "toUnsignedLong", "(B)J"⟩
abbrev cJx9a822_toUnsignedLong_51cfc : ByteArray := prog_65_method_369_code
def yJx9a822_toUnsignedLong_51cfc : MethodName := ⟨RJx9a822, "toUnsignedLong", "(S)J"⟩
abbrev cJx9a822_toUnsignedLong_3e8ac : ByteArray := prog_65_method_370_code
def yJx9a822_toUnsignedLong_3e8ac : MethodName := ⟨RJx9a822, "toUnsignedLong", "(I)J"⟩
def RJxf92f9 : String := "jdk/internal/misc/UnsafeConstants"
def TJxf92f9 : u_T := fun k => match k with
  | _ => ("", "", "", false)
def tyJxf92f9 : Nat → FieldType := fun k => match k with
  | _ => .int
theorem nmJxf92f9 : ∀ a, a < 0 → ∀ b, b < 0 → a ≠ b → (TJxf92f9 a).2.1 ≠ (TJxf92f9 b).2.1 := by decide +kernel
theorem tyJxf92f9_ok : ∀ k, k < 0 → parseFieldDescriptor (TJxf92f9 k).2.2.1 = some (tyJxf92f9 k) := by decide +kernel
def RAX : String := "jdk/internal/util/ArraysSupport"
def TAX : u_T := fun k => match k with
  | _ => ("", "", "", false)
def tyAX : Nat → FieldType := fun k => match k with
  | _ => .int
theorem nmAX : ∀ a, a < 0 → ∀ b, b < 0 → a ≠ b → (TAX a).2.1 ≠ (TAX b).2.1 := by decide +kernel
theorem tyAX_ok : ∀ k, k < 0 → parseFieldDescriptor (TAX k).2.2.1 = some (tyAX k) := by decide +kernel
abbrev cAX_vectorizedMismatch_456ae : ByteArray := prog_67_method_3_code
def yAX_vectorizedMismatch_456ae : MethodName := ⟨RAX, "vectorizedMismatch", "(Ljava/lang/Object;JLjava/lang/Object;JII)I"⟩
abbrev cAX_mismatch_cb723 : ByteArray := prog_67_method_13_code
def yAX_mismatch_cb723 : MethodName := ⟨RAX, "mismatch", "([B[BI)I"⟩
abbrev cAX_newLength_cabcc : ByteArray := prog_67_method_27_code
def yAX_newLength_cabcc : MethodName := ⟨RAX, "newLength", "(III)I"⟩
abbrev cAX_hugeLength_7cf53 : ByteArray := prog_67_method_28_code
def yAX_hugeLength_7cf53 : MethodName := ⟨RAX, "hugeLength", "(II)I"⟩
def RJ3 : String := "jdk/internal/util/Preconditions"
def TJ3 : u_T := fun k => match k with
  | _ => ("", "", "", false)
def tyJ3 : Nat → FieldType := fun k => match k with
  | _ => .int
theorem nmJ3 : ∀ a, a < 0 → ∀ b, b < 0 → a ≠ b → (TJ3 a).2.1 ≠ (TJ3 b).2.1 := by decide +kernel
theorem tyJ3_ok : ∀ k, k < 0 → parseFieldDescriptor (TJ3 k).2.2.1 = some (tyJ3 k) := by decide +kernel
abbrev cJ3_checkIndex_8e157 : ByteArray := prog_68_method_11_code
def yJ3_checkIndex_8e157 : MethodName := ⟨RJ3, "checkIndex", "(IILjava/util/function/BiFunction;)I"⟩
abbrev cJ3_checkFromToIndex_8c36e : ByteArray := prog_68_method_12_code
def yJ3_checkFromToIndex_8c36e : MethodName := ⟨RJ3, "checkFromToIndex", "(IIILjava/util/function/BiFunction;)I"⟩
abbrev cJ3_checkFromIndexSize_8c36e : ByteArray := prog_68_method_13_code
def yJ3_checkFromIndexSize_8c36e : MethodName := ⟨RJ3, "checkFromIndexSize", "(IIILjava/util/function/BiFunction;)I"⟩
def RL : String := "SeesawMarketLaw"
def TL : u_T := fun k => match k with
  | 0 => ("SeesawMarketLaw", "boards", "Ljava/util/List;", true)
  | 1 => ("SeesawMarketLaw", "traders", "Ljava/util/List;", true)
  | 2 => ("SeesawMarketLaw", "wage", "I", false)
  | 3 => ("SeesawMarketLaw", "base", "I", false)
  | 4 => ("SeesawMarketLaw", "weightPrice", "I", false)
  | 5 => ("SeesawMarketLaw", "retires", "I", false)
  | 6 => ("SeesawMarketLaw", "fine", "I", false)
  | 7 => ("SeesawMarketLaw", "bank", "I", false)
  | 8 => ("SeesawMarketLaw", "day", "I", false)
  | 9 => ("SeesawMarketLaw", "sold", "I", false)
  | 10 => ("SeesawMarketLaw", "units", "I", false)
  | _ => ("SeesawMarketLaw", "falls", "I", false)
def tyL : Nat → FieldType := fun k => match k with
  | 0 => .object "java/util/List"
  | 1 => .object "java/util/List"
  | 2 => .int
  | 3 => .int
  | 4 => .int
  | 5 => .int
  | 6 => .int
  | 7 => .int
  | 8 => .int
  | 9 => .int
  | 10 => .int
  | _ => .int
theorem nmL : ∀ a, a < 12 → ∀ b, b < 12 → a ≠ b → (TL a).2.1 ≠ (TL b).2.1 := by decide +kernel
theorem tyL_ok : ∀ k, k < 12 → parseFieldDescriptor (TL k).2.2.1 = some (tyL k) := by decide +kernel
abbrev cL_init : ByteArray := method_1_code
def yL_init : MethodName := ⟨RL, "<init>", "()V"⟩
abbrev cL_feeds : ByteArray := method_2_code
def yL_feeds : MethodName := ⟨RL, "feeds", "(LSeesawMarket;Ljava/lang/String;)Z"⟩
abbrev cL_draw : ByteArray := method_3_code
def yL_draw : MethodName := ⟨RL, "draw", "([II)I"⟩
abbrev cL_price : ByteArray := method_4_code
def yL_price : MethodName := ⟨RL, "price", "(LSeesawMarketLaw$Board;I)I"⟩
abbrev cL_earns : ByteArray := method_5_code
def yL_earns : MethodName := ⟨RL, "earns", "(LSeesawMarketLaw$Trader;)V"⟩
abbrev cL_pays : ByteArray := method_6_code
def yL_pays : MethodName := ⟨RL, "pays", "(LSeesawMarketLaw$Trader;I)V"⟩
abbrev cL_passes : ByteArray := method_7_code
def yL_passes : MethodName := ⟨RL, "passes", "()I"⟩
abbrev cL_against : ByteArray := method_8_code
def yL_against : MethodName := ⟨RL, "against", "(LSeesawMarketLaw$Trader;LSeesawMarketLaw$Board;I)I"⟩
abbrev cL_against_ : ByteArray := method_9_code
def yL_against_ : MethodName := ⟨RL, "against", "(LSeesawMarketLaw$Trader;LSeesawMarketLaw$Trader;I)I"⟩
abbrev cL_unit : ByteArray := method_10_code
def yL_unit : MethodName := ⟨RL, "unit", "(LSeesawMarketLaw$Trader;LSeesawMarketLaw$Trader;)I"⟩
abbrev cL_more : ByteArray := method_11_code
def yL_more : MethodName := ⟨RL, "more", "(LSeesawMarketLaw$Trader;LSeesawMarketLaw$Trader;)I"⟩
abbrev cL_exchange : ByteArray := method_12_code
def yL_exchange : MethodName := ⟨RL, "exchange", "(LSeesawMarketLaw$Trader;LSeesawMarketLaw$Trader;)V"⟩
abbrev cL_against__ : ByteArray := method_13_code
def yL_against__ : MethodName := ⟨RL, "against", "(LSeesawMarketLaw$Trader;LSeesawMarketLaw$Trader;)I"⟩
abbrev cL_law : ByteArray := code
def yL_law : MethodName := ⟨RL, "law", "([I)Z"⟩
abbrev cL_begins : ByteArray := method_15_code
def yL_begins : MethodName := ⟨RL, "begins", "(LSeesawMarket;[I)LSeesawMarketLaw;"⟩
abbrev cL_position : ByteArray := method_16_code
def yL_position : MethodName := ⟨RL, "position", "(LSeesawMarketLaw$Board;[I)I"⟩
abbrev cL_still : ByteArray := method_17_code
def yL_still : MethodName := ⟨RL, "still", "(LSeesawMarket;LSeesawMarketLaw;)Z"⟩
abbrev cL_act : ByteArray := method_18_code
def yL_act : MethodName := ⟨RL, "act", "(LSeesawMarket;LSeesawMarketLaw;[I)Z"⟩
abbrev vwCl : List vw_C := [(RJ0, TJ0, 4), (RSB, TSB, 4), (RIN, TIN, 1), (RAI, TAI, 4), (RAL, TAL, 3), (RX0, TX0, 5), (RX1, TX1, 7), (RX2, TX2, 4), (RX3, TX3, 3), (RX4, TX4, 16), (RX6, TX6, 6), (RX8, TX8, 2), (RX9, TX9, 8), (RX10, TX10, 8), (RX11, TX11, 9), (RLB, TLB, 5), (RLT, TLT, 7), (RL, TL, 12), (RSE, TSE, 2), (RTE, TTE, 6), (RTI, TTI, 4), (RTV, TTV, 1), (RTM, TTM, 9)]
