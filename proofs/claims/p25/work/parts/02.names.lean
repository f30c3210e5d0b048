/-! ===== BEGIN printed: names, fields, word lists, decode rows ===== -/
def RX0 : String := "AuditoriumKeys$Codes"
def TX0 : u_T := fun k => match k with
  | 0 => ("AuditoriumKeys$Codes", "count", "I", false)
  | 1 => ("AuditoriumKeys$Codes", "ofPerson", "[I", true)
  | 2 => ("AuditoriumKeys$Codes", "ofHousehold", "[I", true)
  | _ => ("AuditoriumKeys$Codes", "counted", "[I", true)
def tyX0 : Nat → FieldType := fun k => match k with
  | 0 => .int
  | 1 => .array .int
  | 2 => .array .int
  | _ => .array .int
abbrev wsX00 : List Cond := u_ws RX0 TX0 4
theorem nmX0 : ∀ a, a < 4 → ∀ b, b < 4 → a ≠ b → (TX0 a).2.1 ≠ (TX0 b).2.1 := by decide +kernel
theorem tyX0_ok : ∀ k, k < 4 → parseFieldDescriptor (TX0 k).2.2.1 = some (tyX0 k) := by decide +kernel
abbrev cX0_init : ByteArray := prog_2_method_1_code
def yX0_init : MethodName := ⟨RX0, "<init>", "()V"⟩
abbrev cX0_add : ByteArray := prog_2_method_2_code
def yX0_add : MethodName := ⟨RX0, "add", "(II)I"⟩
abbrev cX0_seatsOf : ByteArray := prog_2_method_3_code
def yX0_seatsOf : MethodName := ⟨RX0, "seatsOf", "(II)I"⟩
abbrev cX0_haveRoom : ByteArray := prog_2_method_4_code
def yX0_haveRoom : MethodName := ⟨RX0, "haveRoom", "(III)Z"⟩
abbrev cX0_tally : ByteArray := prog_2_method_5_code
def yX0_tally : MethodName := ⟨RX0, "tally", "(III)V"⟩
def RX1 : String := "AuditoriumKeys$Holds"
def TX1 : u_T := fun k => match k with
  | 0 => ("AuditoriumKeys$Holds", "first", "[I", true)
  | 1 => ("AuditoriumKeys$Holds", "many", "[I", true)
  | 2 => ("AuditoriumKeys$Holds", "code", "[I", true)
  | 3 => ("AuditoriumKeys$Holds", "cost", "[I", true)
  | 4 => ("AuditoriumKeys$Holds", "paid", "[I", true)
  | 5 => ("AuditoriumKeys$Holds", "latest", "[I", true)
  | _ => ("AuditoriumKeys$Holds", "lapse", "[I", true)
def tyX1 : Nat → FieldType := fun k => match k with
  | 0 => .array .int
  | 1 => .array .int
  | 2 => .array .int
  | 3 => .array .int
  | 4 => .array .int
  | 5 => .array .int
  | _ => .array .int
abbrev wsX10 : List Cond := u_ws RX1 TX1 7
theorem nmX1 : ∀ a, a < 7 → ∀ b, b < 7 → a ≠ b → (TX1 a).2.1 ≠ (TX1 b).2.1 := by decide +kernel
theorem tyX1_ok : ∀ k, k < 7 → parseFieldDescriptor (TX1 k).2.2.1 = some (tyX1 k) := by decide +kernel
abbrev cX1_init : ByteArray := prog_3_method_1_code
def yX1_init : MethodName := ⟨RX1, "<init>", "()V"⟩
abbrev cX1_isThere : ByteArray := prog_3_method_2_code
def yX1_isThere : MethodName := ⟨RX1, "isThere", "(I)Z"⟩
abbrev cX1_left : ByteArray := prog_3_method_3_code
def yX1_left : MethodName := ⟨RX1, "left", "(I)I"⟩
abbrev cX1_make : ByteArray := prog_3_method_4_code
def yX1_make : MethodName := ⟨RX1, "make", "(IIIIII)V"⟩
abbrev cX1_prolong : ByteArray := prog_3_method_5_code
def yX1_prolong : MethodName := ⟨RX1, "prolong", "(I)V"⟩
abbrev cX1_end : ByteArray := prog_3_method_6_code
def yX1_end : MethodName := ⟨RX1, "end", "(I)V"⟩
def RX2 : String := "AuditoriumKeys$Line"
def TX2 : u_T := fun k => match k with
  | _ => ("AuditoriumKeys$Line", "came", "[I", true)
def tyX2 : Nat → FieldType := fun k => match k with
  | _ => .array .int
abbrev wsX20 : List Cond := u_ws RX2 TX2 1
theorem nmX2 : ∀ a, a < 1 → ∀ b, b < 1 → a ≠ b → (TX2 a).2.1 ≠ (TX2 b).2.1 := by decide +kernel
theorem tyX2_ok : ∀ k, k < 1 → parseFieldDescriptor (TX2 k).2.2.1 = some (tyX2 k) := by decide +kernel
abbrev cX2_init : ByteArray := prog_4_method_1_code
def yX2_init : MethodName := ⟨RX2, "<init>", "()V"⟩
abbrev cX2_isIn : ByteArray := prog_4_method_2_code
def yX2_isIn : MethodName := ⟨RX2, "isIn", "(I)Z"⟩
abbrev cX2_enter : ByteArray := prog_4_method_3_code
def yX2_enter : MethodName := ⟨RX2, "enter", "(II)V"⟩
abbrev cX2_leave : ByteArray := prog_4_method_4_code
def yX2_leave : MethodName := ⟨RX2, "leave", "(I)V"⟩
abbrev cX2_length : ByteArray := prog_4_method_5_code
def yX2_length : MethodName := ⟨RX2, "length", "()I"⟩
abbrev cX2_personAt : ByteArray := prog_4_method_6_code
def yX2_personAt : MethodName := ⟨RX2, "personAt", "(I)I"⟩
abbrev cX2_placeOf : ByteArray := prog_4_method_7_code
def yX2_placeOf : MethodName := ⟨RX2, "placeOf", "(I)I"⟩
abbrev cX2_rank : ByteArray := prog_4_method_8_code
def yX2_rank : MethodName := ⟨RX2, "rank", "(I)I"⟩
def RX3 : String := "AuditoriumKeys$Sales"
def TX3 : u_T := fun k => match k with
  | 0 => ("AuditoriumKeys$Sales", "count", "I", false)
  | 1 => ("AuditoriumKeys$Sales", "first", "[I", true)
  | 2 => ("AuditoriumKeys$Sales", "many", "[I", true)
  | _ => ("AuditoriumKeys$Sales", "buyer", "[I", true)
def tyX3 : Nat → FieldType := fun k => match k with
  | 0 => .int
  | 1 => .array .int
  | 2 => .array .int
  | _ => .array .int
abbrev wsX30 : List Cond := u_ws RX3 TX3 4
theorem nmX3 : ∀ a, a < 4 → ∀ b, b < 4 → a ≠ b → (TX3 a).2.1 ≠ (TX3 b).2.1 := by decide +kernel
theorem tyX3_ok : ∀ k, k < 4 → parseFieldDescriptor (TX3 k).2.2.1 = some (tyX3 k) := by decide +kernel
abbrev cX3_init : ByteArray := prog_5_method_1_code
def yX3_init : MethodName := ⟨RX3, "<init>", "()V"⟩
abbrev cX3_add : ByteArray := prog_5_method_2_code
def yX3_add : MethodName := ⟨RX3, "add", "(III)V"⟩
abbrev cX3_lastBuyerOf : ByteArray := prog_5_method_3_code
def yX3_lastBuyerOf : MethodName := ⟨RX3, "lastBuyerOf", "(I)I"⟩
def RX4 : String := "AuditoriumKeys$Seats"
def TX4 : u_T := fun k => match k with
  | 0 => ("AuditoriumKeys$Seats", "held", "[Z", true)
  | 1 => ("AuditoriumKeys$Seats", "offered", "[Z", true)
  | 2 => ("AuditoriumKeys$Seats", "owner", "[I", true)
  | 3 => ("AuditoriumKeys$Seats", "price", "[I", true)
  | _ => ("AuditoriumKeys$Seats", "bought", "[I", true)
def tyX4 : Nat → FieldType := fun k => match k with
  | 0 => .array .boolean
  | 1 => .array .boolean
  | 2 => .array .int
  | 3 => .array .int
  | _ => .array .int
abbrev wsX40 : List Cond := u_ws RX4 TX4 5
theorem nmX4 : ∀ a, a < 5 → ∀ b, b < 5 → a ≠ b → (TX4 a).2.1 ≠ (TX4 b).2.1 := by decide +kernel
theorem tyX4_ok : ∀ k, k < 5 → parseFieldDescriptor (TX4 k).2.2.1 = some (tyX4 k) := by decide +kernel
abbrev cX4_init : ByteArray := prog_6_method_1_code
def yX4_init : MethodName := ⟨RX4, "<init>", "()V"⟩
abbrev cX4_stateOf : ByteArray := prog_6_method_2_code
def yX4_stateOf : MethodName := ⟨RX4, "stateOf", "(I)I"⟩
abbrev cX4_isOpen : ByteArray := prog_6_method_3_code
def yX4_isOpen : MethodName := ⟨RX4, "isOpen", "(II)Z"⟩
abbrev cX4_leavesSingle : ByteArray := prog_6_method_4_code
def yX4_leavesSingle : MethodName := ⟨RX4, "leavesSingle", "(III)Z"⟩
abbrev cX4_lock : ByteArray := prog_6_method_5_code
def yX4_lock : MethodName := ⟨RX4, "lock", "(II)I"⟩
abbrev cX4_unlock : ByteArray := prog_6_method_6_code
def yX4_unlock : MethodName := ⟨RX4, "unlock", "(II)V"⟩
abbrev cX4_giveTo : ByteArray := prog_6_method_7_code
def yX4_giveTo : MethodName := ⟨RX4, "giveTo", "(II)V"⟩
abbrev cX4_ceilingOf : ByteArray := prog_6_method_8_code
def yX4_ceilingOf : MethodName := ⟨RX4, "ceilingOf", "(I)I"⟩
abbrev cX4_putUp : ByteArray := prog_6_method_9_code
def yX4_putUp : MethodName := ⟨RX4, "putUp", "(II)V"⟩
def RX5 : String := "AuditoriumKeys"
def TX5 : u_T := fun k => match k with
  | 0 => ("AuditoriumKeys", "now", "I", false)
  | 1 => ("AuditoriumKeys", "opening", "I", false)
  | 2 => ("AuditoriumKeys", "taken", "I", false)
  | 3 => ("AuditoriumKeys", "outlay", "[I", true)
  | 4 => ("AuditoriumKeys", "codes", "LAuditoriumKeys$Codes;", true)
  | 5 => ("AuditoriumKeys", "line", "LAuditoriumKeys$Line;", true)
  | 6 => ("AuditoriumKeys", "holds", "LAuditoriumKeys$Holds;", true)
  | 7 => ("AuditoriumKeys", "seats", "LAuditoriumKeys$Seats;", true)
  | _ => ("AuditoriumKeys", "sales", "LAuditoriumKeys$Sales;", true)
def tyX5 : Nat → FieldType := fun k => match k with
  | 0 => .int
  | 1 => .int
  | 2 => .int
  | 3 => .array .int
  | 4 => .object "AuditoriumKeys$Codes"
  | 5 => .object "AuditoriumKeys$Line"
  | 6 => .object "AuditoriumKeys$Holds"
  | 7 => .object "AuditoriumKeys$Seats"
  | _ => .object "AuditoriumKeys$Sales"
abbrev wsX50 : List Cond := u_ws RX5 TX5 9
theorem nmX5 : ∀ a, a < 9 → ∀ b, b < 9 → a ≠ b → (TX5 a).2.1 ≠ (TX5 b).2.1 := by decide +kernel
theorem tyX5_ok : ∀ k, k < 9 → parseFieldDescriptor (TX5 k).2.2.1 = some (tyX5 k) := by decide +kernel
abbrev cX5_init : ByteArray := prog_1_method_1_code
def yX5_init : MethodName := ⟨RX5, "<init>", "()V"⟩
abbrev cX5_pass : ByteArray := prog_1_method_2_code
def yX5_pass : MethodName := ⟨RX5, "pass", "(I)I"⟩
abbrev cX5_time : ByteArray := prog_1_method_3_code
def yX5_time : MethodName := ⟨RX5, "time", "()I"⟩
abbrev cX5_setOpening : ByteArray := prog_1_method_4_code
def yX5_setOpening : MethodName := ⟨RX5, "setOpening", "(I)I"⟩
abbrev cX5_code : ByteArray := prog_1_method_5_code
def yX5_code : MethodName := ⟨RX5, "code", "(II)I"⟩
abbrev cX5_join : ByteArray := prog_1_method_7_code
def yX5_join : MethodName := ⟨RX5, "join", "(I)I"⟩
abbrev cX5_quit : ByteArray := prog_1_method_8_code
def yX5_quit : MethodName := ⟨RX5, "quit", "(I)I"⟩
abbrev cX5_queueAt : ByteArray := prog_1_method_9_code
def yX5_queueAt : MethodName := ⟨RX5, "queueAt", "(I)I"⟩
abbrev cX5_served : ByteArray := prog_1_method_10_code
def yX5_served : MethodName := ⟨RX5, "served", "()I"⟩
abbrev cX5_hold : ByteArray := prog_1_method_11_code
def yX5_hold : MethodName := ⟨RX5, "hold", "(IIIII)I"⟩
abbrev cX5_pay : ByteArray := prog_1_method_12_code
def yX5_pay : MethodName := ⟨RX5, "pay", "(II)I"⟩
abbrev cX5_letGo : ByteArray := prog_1_method_13_code
def yX5_letGo : MethodName := ⟨RX5, "letGo", "(I)I"⟩
abbrev cX5_lapses : ByteArray := prog_1_method_14_code
def yX5_lapses : MethodName := ⟨RX5, "lapses", "(I)I"⟩
abbrev cX5_state : ByteArray := prog_1_method_15_code
def yX5_state : MethodName := ⟨RX5, "state", "(I)I"⟩
abbrev cX5_owner : ByteArray := prog_1_method_16_code
def yX5_owner : MethodName := ⟨RX5, "owner", "(I)I"⟩
abbrev cX5_ownerBySales : ByteArray := prog_1_method_17_code
def yX5_ownerBySales : MethodName := ⟨RX5, "ownerBySales", "(I)I"⟩
abbrev cX5_isSingle : ByteArray := prog_1_method_18_code
def yX5_isSingle : MethodName := ⟨RX5, "isSingle", "(I)Z"⟩
abbrev cX5_firstOpen : ByteArray := prog_1_method_19_code
def yX5_firstOpen : MethodName := ⟨RX5, "firstOpen", "(II)I"⟩
abbrev cX5_offer : ByteArray := prog_1_method_20_code
def yX5_offer : MethodName := ⟨RX5, "offer", "(III)I"⟩
abbrev cX5_retract : ByteArray := prog_1_method_21_code
def yX5_retract : MethodName := ⟨RX5, "retract", "(I)I"⟩
abbrev cX5_spent : ByteArray := prog_1_method_22_code
def yX5_spent : MethodName := ⟨RX5, "spent", "(I)I"⟩
abbrev cX5_takings : ByteArray := prog_1_method_23_code
def yX5_takings : MethodName := ⟨RX5, "takings", "()I"⟩
abbrev cX5_needPerson : ByteArray := prog_1_method_24_code
def yX5_needPerson : MethodName := ⟨RX5, "needPerson", "(I)V"⟩
abbrev cX5_needRow : ByteArray := prog_1_method_25_code
def yX5_needRow : MethodName := ⟨RX5, "needRow", "(I)V"⟩
abbrev cX5_needSeat : ByteArray := prog_1_method_26_code
def yX5_needSeat : MethodName := ⟨RX5, "needSeat", "(I)V"⟩
abbrev cX5_needCode : ByteArray := prog_1_method_27_code
def yX5_needCode : MethodName := ⟨RX5, "needCode", "(I)V"⟩
abbrev cX5_needHold : ByteArray := prog_1_method_28_code
def yX5_needHold : MethodName := ⟨RX5, "needHold", "(I)V"⟩
abbrev cX5_needSeatsFor : ByteArray := prog_1_method_29_code
def yX5_needSeatsFor : MethodName := ⟨RX5, "needSeatsFor", "(IIII)V"⟩
abbrev cX5_needRightFor : ByteArray := prog_1_method_30_code
def yX5_needRightFor : MethodName := ⟨RX5, "needRightFor", "(III)V"⟩
abbrev cX5_giveBack : ByteArray := prog_1_method_31_code
def yX5_giveBack : MethodName := ⟨RX5, "giveBack", "(I)I"⟩
abbrev cX5_sell : ByteArray := prog_1_method_32_code
def yX5_sell : MethodName := ⟨RX5, "sell", "(I)V"⟩
def RX6 : String := "AuditoriumKeysModel"
def TX6 : u_T := fun k => match k with
  | _ => ("", "", "", false)
def tyX6 : Nat → FieldType := fun k => match k with
  | _ => .int
abbrev wsX60 : List Cond := u_ws RX6 TX6 0
theorem nmX6 : ∀ a, a < 0 → ∀ b, b < 0 → a ≠ b → (TX6 a).2.1 ≠ (TX6 b).2.1 := by decide +kernel
theorem tyX6_ok : ∀ k, k < 0 → parseFieldDescriptor (TX6 k).2.2.1 = some (tyX6 k) := by decide +kernel
def RJ9 : String := "java/lang/Math"
def TJ9 : u_T := fun k => match k with
  | _ => ("", "", "", false)
def tyJ9 : Nat → FieldType := fun k => match k with
  | _ => .int
abbrev wsJ90 : List Cond := u_ws RJ9 TJ9 0
theorem nmJ9 : ∀ a, a < 0 → ∀ b, b < 0 → a ≠ b → (TJ9 a).2.1 ≠ (TJ9 b).2.1 := by decide +kernel
theorem tyJ9_ok : ∀ k, k < 0 → parseFieldDescriptor (TJ9 k).2.2.1 = some (tyJ9 k) := by decide +kernel
abbrev cJ9_min_7cf53 : ByteArray := prog_13_method_69_code
def yJ9_min_7cf53 : MethodName := ⟨RJ9, "min", "(II)I"⟩
def RJ0 : String := "java/lang/String"
def TJ0 : u_T := fun k => match k with
  | _ => ("", "", "", false)
def tyJ0 : Nat → FieldType := fun k => match k with
  | _ => .int
abbrev wsJ00 : List Cond := u_ws RJ0 TJ0 0
theorem nmJ0 : ∀ a, a < 0 → ∀ b, b < 0 → a ≠ b → (TJ0 a).2.1 ≠ (TJ0 b).2.1 := by decide +kernel
theorem tyJ0_ok : ∀ k, k < 0 → parseFieldDescriptor (TJ0 k).2.2.1 = some (tyJ0 k) := by decide +kernel
def RL : String := "AuditoriumKeysLaw"
def wsX0_init : List Cond := .code yX0_init cX0_init 1 none :: ([.methodLink RX0 3 objectInit, .instanceMethod objectInit, .code objectInit ⟨#[0xb1]⟩ 1 none, .fieldLink RX0 9 "AuditoriumKeys$Codes" "count" "I", .arrayClass .int, .fieldLink RX0 15 "AuditoriumKeys$Codes" "ofPerson" "[I", .fieldLink RX0 19 "AuditoriumKeys$Codes" "ofHousehold" "[I", .fieldLink RX0 22 "AuditoriumKeys$Codes" "counted" "[I"] ++ wsX00)
def wsX0_add : List Cond := .code yX0_add cX0_add 3 (some .int) :: ([.fieldLink RX0 15 "AuditoriumKeys$Codes" "ofPerson" "[I", .fieldLink RX0 9 "AuditoriumKeys$Codes" "count" "I", .fieldLink RX0 19 "AuditoriumKeys$Codes" "ofHousehold" "[I"] ++ wsX00)
def wsX0_seatsOf : List Cond := .code yX0_seatsOf cX0_seatsOf 3 (some .int) :: ([.fieldLink RX0 22 "AuditoriumKeys$Codes" "counted" "[I"] ++ wsX00)
def wsX0_haveRoom : List Cond := .code yX0_haveRoom cX0_haveRoom 6 (some .boolean) :: ([.fieldLink RX0 15 "AuditoriumKeys$Codes" "ofPerson" "[I", .fieldLink RX0 19 "AuditoriumKeys$Codes" "ofHousehold" "[I", .methodLink RX0 25 yX0_seatsOf, .instanceMethod yX0_seatsOf, .selects RX0 yX0_seatsOf yX0_seatsOf, .initialized RX0, .code yX0_seatsOf cX0_seatsOf 3 (some .int), .fieldLink RX0 22 "AuditoriumKeys$Codes" "counted" "[I"] ++ wsX00)
def wsX0_tally : List Cond := .code yX0_tally cX0_tally 4 none :: ([.fieldLink RX0 22 "AuditoriumKeys$Codes" "counted" "[I"] ++ wsX00)
def wsX1_init : List Cond := .code yX1_init cX1_init 1 none :: ([.methodLink RX1 3 objectInit, .instanceMethod objectInit, .code objectInit ⟨#[0xb1]⟩ 1 none, .arrayClass .int, .fieldLink RX1 9 "AuditoriumKeys$Holds" "first" "[I", .fieldLink RX1 15 "AuditoriumKeys$Holds" "many" "[I", .fieldLink RX1 18 "AuditoriumKeys$Holds" "code" "[I", .fieldLink RX1 21 "AuditoriumKeys$Holds" "cost" "[I", .fieldLink RX1 24 "AuditoriumKeys$Holds" "paid" "[I", .fieldLink RX1 27 "AuditoriumKeys$Holds" "latest" "[I", .fieldLink RX1 30 "AuditoriumKeys$Holds" "lapse" "[I"] ++ wsX10)
def wsX1_isThere : List Cond := .code yX1_isThere cX1_isThere 2 (some .boolean) :: ([.fieldLink RX1 15 "AuditoriumKeys$Holds" "many" "[I"] ++ wsX10)
def wsX1_left : List Cond := .code yX1_left cX1_left 2 (some .int) :: ([.fieldLink RX1 21 "AuditoriumKeys$Holds" "cost" "[I", .fieldLink RX1 24 "AuditoriumKeys$Holds" "paid" "[I"] ++ wsX10)
def wsX1_make : List Cond := .code yX1_make cX1_make 7 none :: ([.fieldLink RX1 9 "AuditoriumKeys$Holds" "first" "[I", .fieldLink RX1 15 "AuditoriumKeys$Holds" "many" "[I", .fieldLink RX1 18 "AuditoriumKeys$Holds" "code" "[I", .fieldLink RX1 21 "AuditoriumKeys$Holds" "cost" "[I", .fieldLink RX1 24 "AuditoriumKeys$Holds" "paid" "[I", .fieldLink RX1 27 "AuditoriumKeys$Holds" "latest" "[I", .fieldLink RX1 30 "AuditoriumKeys$Holds" "lapse" "[I"] ++ wsX10)
def wsX1_prolong : List Cond := .code yX1_prolong cX1_prolong 2 none :: ([.fieldLink RX1 30 "AuditoriumKeys$Holds" "lapse" "[I", .fieldLink RX1 27 "AuditoriumKeys$Holds" "latest" "[I", .methodLink RX1 33 Lib.Math.min.name, .static Lib.Math.min.name, .initialized "java/lang/Math", .code Lib.Math.min.name Lib.Math.min.code 2 (some .int)] ++ wsX10)
def wsX1_end : List Cond := .code yX1_end cX1_end 2 none :: ([.fieldLink RX1 15 "AuditoriumKeys$Holds" "many" "[I"] ++ wsX10)
def wsX2_init : List Cond := .code yX2_init cX2_init 2 none :: ([.methodLink RX2 3 objectInit, .instanceMethod objectInit, .code objectInit ⟨#[0xb1]⟩ 1 none, .arrayClass .int, .fieldLink RX2 9 "AuditoriumKeys$Line" "came" "[I"] ++ wsX20)
def wsX2_isIn : List Cond := .code yX2_isIn cX2_isIn 2 (some .boolean) :: ([.fieldLink RX2 9 "AuditoriumKeys$Line" "came" "[I"] ++ wsX20)
def wsX2_enter : List Cond := .code yX2_enter cX2_enter 3 none :: ([.fieldLink RX2 9 "AuditoriumKeys$Line" "came" "[I"] ++ wsX20)
def wsX2_leave : List Cond := .code yX2_leave cX2_leave 2 none :: ([.fieldLink RX2 9 "AuditoriumKeys$Line" "came" "[I"] ++ wsX20)
def wsX2_length : List Cond := .code yX2_length cX2_length 3 (some .int) :: ([.methodLink RX2 15 yX2_isIn, .instanceMethod yX2_isIn, .selects RX2 yX2_isIn yX2_isIn, .initialized RX2, .code yX2_isIn cX2_isIn 2 (some .boolean), .fieldLink RX2 9 "AuditoriumKeys$Line" "came" "[I"] ++ wsX20)
def wsX2_rank : List Cond := .code yX2_rank cX2_rank 3 (some .int) :: ([.fieldLink RX2 9 "AuditoriumKeys$Line" "came" "[I"] ++ wsX20)
def wsX2_placeOf : List Cond := .code yX2_placeOf cX2_placeOf 4 (some .int) :: ([.methodLink RX2 15 yX2_isIn, .instanceMethod yX2_isIn, .selects RX2 yX2_isIn yX2_isIn, .initialized RX2, .code yX2_isIn cX2_isIn 2 (some .boolean), .fieldLink RX2 9 "AuditoriumKeys$Line" "came" "[I", .methodLink RX2 23 yX2_rank, .instanceMethod yX2_rank, .selects RX2 yX2_rank yX2_rank, .code yX2_rank cX2_rank 3 (some .int)] ++ wsX20)
def wsX2_personAt : List Cond := .code yX2_personAt cX2_personAt 3 (some .int) :: ([.methodLink RX2 15 yX2_isIn, .instanceMethod yX2_isIn, .selects RX2 yX2_isIn yX2_isIn, .initialized RX2, .code yX2_isIn cX2_isIn 2 (some .boolean), .fieldLink RX2 9 "AuditoriumKeys$Line" "came" "[I", .methodLink RX2 19 yX2_placeOf, .instanceMethod yX2_placeOf, .selects RX2 yX2_placeOf yX2_placeOf, .code yX2_placeOf cX2_placeOf 4 (some .int), .methodLink RX2 23 yX2_rank, .instanceMethod yX2_rank, .selects RX2 yX2_rank yX2_rank, .code yX2_rank cX2_rank 3 (some .int)] ++ wsX20)
def wsX3_init : List Cond := .code yX3_init cX3_init 1 none :: ([.methodLink RX3 3 objectInit, .instanceMethod objectInit, .code objectInit ⟨#[0xb1]⟩ 1 none, .fieldLink RX3 9 "AuditoriumKeys$Sales" "count" "I", .arrayClass .int, .fieldLink RX3 15 "AuditoriumKeys$Sales" "first" "[I", .fieldLink RX3 19 "AuditoriumKeys$Sales" "many" "[I", .fieldLink RX3 22 "AuditoriumKeys$Sales" "buyer" "[I"] ++ wsX30)
def wsX3_add : List Cond := .code yX3_add cX3_add 4 none :: ([.fieldLink RX3 9 "AuditoriumKeys$Sales" "count" "I", .fieldLink RX3 15 "AuditoriumKeys$Sales" "first" "[I", .fieldLink RX3 19 "AuditoriumKeys$Sales" "many" "[I", .fieldLink RX3 22 "AuditoriumKeys$Sales" "buyer" "[I"] ++ wsX30)
def wsX3_lastBuyerOf : List Cond := .code yX3_lastBuyerOf cX3_lastBuyerOf 4 (some .int) :: ([.fieldLink RX3 9 "AuditoriumKeys$Sales" "count" "I", .fieldLink RX3 15 "AuditoriumKeys$Sales" "first" "[I", .fieldLink RX3 19 "AuditoriumKeys$Sales" "many" "[I", .fieldLink RX3 22 "AuditoriumKeys$Sales" "buyer" "[I"] ++ wsX30)
def wsX4_init : List Cond := .code yX4_init cX4_init 2 none :: ([.methodLink RX4 3 objectInit, .instanceMethod objectInit, .code objectInit ⟨#[0xb1]⟩ 1 none, .arrayClass .boolean, .fieldLink RX4 9 "AuditoriumKeys$Seats" "held" "[Z", .fieldLink RX4 15 "AuditoriumKeys$Seats" "offered" "[Z", .arrayClass .int, .fieldLink RX4 18 "AuditoriumKeys$Seats" "owner" "[I", .fieldLink RX4 22 "AuditoriumKeys$Seats" "price" "[I", .fieldLink RX4 25 "AuditoriumKeys$Seats" "bought" "[I"] ++ wsX40)
def wsX4_stateOf : List Cond := .code yX4_stateOf cX4_stateOf 2 (some .int) :: ([.fieldLink RX4 9 "AuditoriumKeys$Seats" "held" "[Z", .fieldLink RX4 18 "AuditoriumKeys$Seats" "owner" "[I", .fieldLink RX4 15 "AuditoriumKeys$Seats" "offered" "[Z"] ++ wsX40)
def wsX4_isOpen : List Cond := .code yX4_isOpen cX4_isOpen 4 (some .boolean) :: ([.methodLink RX4 28 yX4_stateOf, .instanceMethod yX4_stateOf, .selects RX4 yX4_stateOf yX4_stateOf, .initialized RX4, .code yX4_stateOf cX4_stateOf 2 (some .int), .fieldLink RX4 9 "AuditoriumKeys$Seats" "held" "[Z", .fieldLink RX4 18 "AuditoriumKeys$Seats" "owner" "[I", .fieldLink RX4 15 "AuditoriumKeys$Seats" "offered" "[Z"] ++ wsX40)
def wsX4_leavesSingle : List Cond := .code yX4_leavesSingle cX4_leavesSingle 5 (some .boolean) :: ([.methodLink RX4 32 yX4_isOpen, .instanceMethod yX4_isOpen, .selects RX4 yX4_isOpen yX4_isOpen, .initialized RX4, .code yX4_isOpen cX4_isOpen 4 (some .boolean), .methodLink RX4 28 yX4_stateOf, .instanceMethod yX4_stateOf, .selects RX4 yX4_stateOf yX4_stateOf, .code yX4_stateOf cX4_stateOf 2 (some .int), .fieldLink RX4 9 "AuditoriumKeys$Seats" "held" "[Z", .fieldLink RX4 18 "AuditoriumKeys$Seats" "owner" "[I", .fieldLink RX4 15 "AuditoriumKeys$Seats" "offered" "[Z"] ++ wsX40)
def wsX4_lock : List Cond := .code yX4_lock cX4_lock 5 (some .int) :: ([.fieldLink RX4 9 "AuditoriumKeys$Seats" "held" "[Z", .fieldLink RX4 22 "AuditoriumKeys$Seats" "price" "[I"] ++ wsX40)
def wsX4_unlock : List Cond := .code yX4_unlock cX4_unlock 4 none :: ([.fieldLink RX4 9 "AuditoriumKeys$Seats" "held" "[Z"] ++ wsX40)
def wsX4_giveTo : List Cond := .code yX4_giveTo cX4_giveTo 3 none :: ([.fieldLink RX4 9 "AuditoriumKeys$Seats" "held" "[Z", .fieldLink RX4 15 "AuditoriumKeys$Seats" "offered" "[Z", .fieldLink RX4 18 "AuditoriumKeys$Seats" "owner" "[I", .fieldLink RX4 25 "AuditoriumKeys$Seats" "bought" "[I", .fieldLink RX4 22 "AuditoriumKeys$Seats" "price" "[I"] ++ wsX40)
def wsX4_ceilingOf : List Cond := .code yX4_ceilingOf cX4_ceilingOf 2 (some .int) :: ([.fieldLink RX4 25 "AuditoriumKeys$Seats" "bought" "[I"] ++ wsX40)
def wsX4_putUp : List Cond := .code yX4_putUp cX4_putUp 3 none :: ([.fieldLink RX4 15 "AuditoriumKeys$Seats" "offered" "[Z", .fieldLink RX4 22 "AuditoriumKeys$Seats" "price" "[I"] ++ wsX40)
def wsX5_init_r1 : List Cond := [Cond.methodLink RX5 3 objectInit, Cond.instanceMethod objectInit, Cond.code objectInit ⟨#[0xb1]⟩ 1 none, Cond.fieldLink RX5 9 "AuditoriumKeys" "now" "I", Cond.fieldLink RX5 13 "AuditoriumKeys" "opening" "I", Cond.fieldLink RX5 16 "AuditoriumKeys" "taken" "I", Cond.arrayClass .int, Cond.fieldLink RX5 19 "AuditoriumKeys" "outlay" "[I", Cond.classLink RX5 23 RX0, Cond.instantiable RX0 4, Cond.initialized RX0, Cond.fieldLink RX5 26 "AuditoriumKeys" "codes" "LAuditoriumKeys$Codes;", Cond.classLink RX5 30 RX2, Cond.instantiable RX2 1, Cond.initialized RX2, Cond.fieldLink RX5 33 "AuditoriumKeys" "line" "LAuditoriumKeys$Line;", Cond.classLink RX5 37 RX1, Cond.instantiable RX1 7, Cond.initialized RX1, Cond.fieldLink RX5 40 "AuditoriumKeys" "holds" "LAuditoriumKeys$Holds;", Cond.classLink RX5 44 RX4, Cond.instantiable RX4 5, Cond.initialized RX4, Cond.fieldLink RX5 47 "AuditoriumKeys" "seats" "LAuditoriumKeys$Seats;"]
def wsX5_init_r2 : List Cond := [Cond.classLink RX5 51 RX3, Cond.instantiable RX3 4, Cond.initialized RX3, Cond.fieldLink RX5 54 "AuditoriumKeys" "sales" "LAuditoriumKeys$Sales;", Cond.instanceMethod yX0_init, Cond.code yX0_init cX0_init 1 none, Cond.methodLink RX0 3 objectInit, Cond.fieldLink RX0 9 "AuditoriumKeys$Codes" "count" "I", Cond.fieldLink RX0 15 "AuditoriumKeys$Codes" "ofPerson" "[I", Cond.fieldLink RX0 19 "AuditoriumKeys$Codes" "ofHousehold" "[I", Cond.fieldLink RX0 22 "AuditoriumKeys$Codes" "counted" "[I", Cond.instanceMethod yX2_init, Cond.code yX2_init cX2_init 2 none, Cond.methodLink RX2 3 objectInit, Cond.fieldLink RX2 9 "AuditoriumKeys$Line" "came" "[I", Cond.instanceMethod yX1_init, Cond.code yX1_init cX1_init 1 none, Cond.methodLink RX1 3 objectInit, Cond.fieldLink RX1 9 "AuditoriumKeys$Holds" "first" "[I", Cond.fieldLink RX1 15 "AuditoriumKeys$Holds" "many" "[I", Cond.fieldLink RX1 18 "AuditoriumKeys$Holds" "code" "[I", Cond.fieldLink RX1 21 "AuditoriumKeys$Holds" "cost" "[I", Cond.fieldLink RX1 24 "AuditoriumKeys$Holds" "paid" "[I", Cond.fieldLink RX1 27 "AuditoriumKeys$Holds" "latest" "[I"]
def wsX5_init_r3 : List Cond := [Cond.fieldLink RX1 30 "AuditoriumKeys$Holds" "lapse" "[I", Cond.instanceMethod yX4_init, Cond.code yX4_init cX4_init 2 none, Cond.methodLink RX4 3 objectInit, Cond.arrayClass .boolean, Cond.fieldLink RX4 9 "AuditoriumKeys$Seats" "held" "[Z", Cond.fieldLink RX4 15 "AuditoriumKeys$Seats" "offered" "[Z", Cond.fieldLink RX4 18 "AuditoriumKeys$Seats" "owner" "[I", Cond.fieldLink RX4 22 "AuditoriumKeys$Seats" "price" "[I", Cond.fieldLink RX4 25 "AuditoriumKeys$Seats" "bought" "[I", Cond.instanceMethod yX3_init, Cond.code yX3_init cX3_init 1 none, Cond.methodLink RX3 3 objectInit, Cond.fieldLink RX3 9 "AuditoriumKeys$Sales" "count" "I", Cond.fieldLink RX3 15 "AuditoriumKeys$Sales" "first" "[I", Cond.fieldLink RX3 19 "AuditoriumKeys$Sales" "many" "[I", Cond.fieldLink RX3 22 "AuditoriumKeys$Sales" "buyer" "[I"]
def wsX5_init : List Cond := .code yX5_init cX5_init 1 none :: ((wsX5_init_r1 ++ (wsX5_init_r2 ++ wsX5_init_r3)) ++ wsX50 ++ wsX00 ++ wsX20 ++ wsX10 ++ wsX40 ++ wsX30)
def wsX5_giveBack : List Cond := .code yX5_giveBack cX5_giveBack 3 (some .int) :: ([.fieldLink RX5 40 "AuditoriumKeys" "holds" "LAuditoriumKeys$Holds;", .fieldLink RX5 19 "AuditoriumKeys" "outlay" "[I", .fieldLink RX5 26 "AuditoriumKeys" "codes" "LAuditoriumKeys$Codes;", .fieldLink RX5 47 "AuditoriumKeys" "seats" "LAuditoriumKeys$Seats;", .instanceMethod yX0_tally, .initialized RX0, .selects RX0 yX0_tally yX0_tally, .code yX0_tally cX0_tally 4 none, .fieldLink RX0 22 "AuditoriumKeys$Codes" "counted" "[I", .instanceMethod yX4_unlock, .initialized RX4, .selects RX4 yX4_unlock yX4_unlock, .code yX4_unlock cX4_unlock 4 none, .fieldLink RX4 9 "AuditoriumKeys$Seats" "held" "[Z", .instanceMethod yX1_end, .initialized RX1, .selects RX1 yX1_end yX1_end, .code yX1_end cX1_end 2 none, .fieldLink RX1 15 "AuditoriumKeys$Holds" "many" "[I"] ++ wsX50 ++ wsX10 ++ wsX00 ++ wsX40)
def wsX5_pass_r1 : List Cond := [Cond.classLink RX5 58 "java/lang/IllegalArgumentException", Cond.initialized "java/lang/IllegalArgumentException", Cond.classLink RX5 65 "java/lang/IllegalStateException", Cond.initialized "java/lang/IllegalStateException", Cond.fieldLink RX5 9 "AuditoriumKeys" "now" "I", Cond.fieldLink RX5 40 "AuditoriumKeys" "holds" "LAuditoriumKeys$Holds;", Cond.instanceMethod yX1_isThere, Cond.initialized RX1, Cond.selects RX1 yX1_isThere yX1_isThere, Cond.code yX1_isThere cX1_isThere 2 (some .boolean), Cond.fieldLink RX1 15 "AuditoriumKeys$Holds" "many" "[I", Cond.methodLink RX5 77 yX5_giveBack, Cond.instanceMethod yX5_giveBack, Cond.selects RX5 yX5_giveBack yX5_giveBack, Cond.initialized RX5, Cond.code yX5_giveBack cX5_giveBack 3 (some .int), Cond.fieldLink RX5 19 "AuditoriumKeys" "outlay" "[I", Cond.fieldLink RX5 26 "AuditoriumKeys" "codes" "LAuditoriumKeys$Codes;", Cond.fieldLink RX5 47 "AuditoriumKeys" "seats" "LAuditoriumKeys$Seats;", Cond.instanceMethod yX0_tally, Cond.initialized RX0, Cond.selects RX0 yX0_tally yX0_tally, Cond.code yX0_tally cX0_tally 4 none, Cond.fieldLink RX0 22 "AuditoriumKeys$Codes" "counted" "[I"]
def wsX5_pass_r2 : List Cond := [Cond.instanceMethod yX4_unlock, Cond.initialized RX4, Cond.selects RX4 yX4_unlock yX4_unlock, Cond.code yX4_unlock cX4_unlock 4 none, Cond.fieldLink RX4 9 "AuditoriumKeys$Seats" "held" "[Z", Cond.instanceMethod yX1_end, Cond.selects RX1 yX1_end yX1_end, Cond.code yX1_end cX1_end 2 none]
def wsX5_pass : List Cond := .code yX5_pass cX5_pass 4 (some .int) :: ((wsX5_pass_r1 ++ wsX5_pass_r2) ++ wsX50 ++ wsX10 ++ wsX00 ++ wsX40 ++ (vx_atS RX5 62 "java/lang/IllegalArgumentException" ["java/lang/RuntimeException", "java/lang/Exception"]).filter goodWord ++ (vx_atS RX5 69 "java/lang/IllegalStateException" ["java/lang/RuntimeException", "java/lang/Exception"]).filter goodWord)
def wsX5_time : List Cond := .code yX5_time cX5_time 1 (some .int) :: ([.fieldLink RX5 9 "AuditoriumKeys" "now" "I"] ++ wsX50)
def wsX5_setOpening : List Cond := .code yX5_setOpening cX5_setOpening 3 (some .int) :: ([.classLink RX5 58 "java/lang/IllegalArgumentException", .initialized "java/lang/IllegalArgumentException", .fieldLink RX5 13 "AuditoriumKeys" "opening" "I"] ++ wsX50 ++ (vx_atS RX5 62 "java/lang/IllegalArgumentException" ["java/lang/RuntimeException", "java/lang/Exception"]).filter goodWord)
def wsX5_code : List Cond := .code yX5_code cX5_code 3 (some .int) :: ([.classLink RX5 58 "java/lang/IllegalArgumentException", .initialized "java/lang/IllegalArgumentException", .classLink RX5 65 "java/lang/IllegalStateException", .initialized "java/lang/IllegalStateException", .fieldLink RX5 26 "AuditoriumKeys" "codes" "LAuditoriumKeys$Codes;", .instanceMethod yX0_add, .initialized RX0, .selects RX0 yX0_add yX0_add, .code yX0_add cX0_add 3 (some .int), .fieldLink RX0 15 "AuditoriumKeys$Codes" "ofPerson" "[I", .fieldLink RX0 9 "AuditoriumKeys$Codes" "count" "I", .fieldLink RX0 19 "AuditoriumKeys$Codes" "ofHousehold" "[I"] ++ wsX50 ++ wsX00 ++ (vx_atS RX5 62 "java/lang/IllegalArgumentException" ["java/lang/RuntimeException", "java/lang/Exception"]).filter goodWord ++ (vx_atS RX5 69 "java/lang/IllegalStateException" ["java/lang/RuntimeException", "java/lang/Exception"]).filter goodWord)
def wsX5_needPerson : List Cond := .code yX5_needPerson cX5_needPerson 1 none :: ([.classLink RX5 129 "java/lang/IndexOutOfBoundsException", .initialized "java/lang/IndexOutOfBoundsException"] ++ (vx_atS RX5 133 "java/lang/IndexOutOfBoundsException" ["java/lang/RuntimeException", "java/lang/Exception"]).filter goodWord)
def wsX5_join_r1 : List Cond := [Cond.classLink RX5 65 "java/lang/IllegalStateException", Cond.initialized "java/lang/IllegalStateException", Cond.fieldLink RX5 33 "AuditoriumKeys" "line" "LAuditoriumKeys$Line;", Cond.fieldLink RX5 40 "AuditoriumKeys" "holds" "LAuditoriumKeys$Holds;", Cond.fieldLink RX5 9 "AuditoriumKeys" "now" "I", Cond.methodLink RX5 100 yX5_needPerson, Cond.static yX5_needPerson, Cond.initialized RX5, Cond.code yX5_needPerson cX5_needPerson 1 none, Cond.classLink RX5 129 "java/lang/IndexOutOfBoundsException", Cond.initialized "java/lang/IndexOutOfBoundsException", Cond.instanceMethod yX2_isIn, Cond.initialized RX2, Cond.selects RX2 yX2_isIn yX2_isIn, Cond.code yX2_isIn cX2_isIn 2 (some .boolean), Cond.fieldLink RX2 9 "AuditoriumKeys$Line" "came" "[I", Cond.instanceMethod yX1_isThere, Cond.initialized RX1, Cond.selects RX1 yX1_isThere yX1_isThere, Cond.code yX1_isThere cX1_isThere 2 (some .boolean), Cond.fieldLink RX1 15 "AuditoriumKeys$Holds" "many" "[I", Cond.instanceMethod yX2_enter, Cond.selects RX2 yX2_enter yX2_enter, Cond.code yX2_enter cX2_enter 3 none]
def wsX5_join_r2 : List Cond := [Cond.instanceMethod yX2_length, Cond.selects RX2 yX2_length yX2_length, Cond.code yX2_length cX2_length 3 (some .int), Cond.methodLink RX2 15 yX2_isIn]
def wsX5_join : List Cond := .code yX5_join cX5_join 2 (some .int) :: ((wsX5_join_r1 ++ wsX5_join_r2) ++ wsX50 ++ wsX20 ++ wsX10 ++ (vx_atS RX5 69 "java/lang/IllegalStateException" ["java/lang/RuntimeException", "java/lang/Exception"]).filter goodWord ++ (vx_atS RX5 133 "java/lang/IndexOutOfBoundsException" ["java/lang/RuntimeException", "java/lang/Exception"]).filter goodWord)
def wsX5_quit : List Cond := .code yX5_quit cX5_quit 2 (some .int) :: ([.classLink RX5 65 "java/lang/IllegalStateException", .initialized "java/lang/IllegalStateException", .fieldLink RX5 33 "AuditoriumKeys" "line" "LAuditoriumKeys$Line;", .methodLink RX5 100 yX5_needPerson, .static yX5_needPerson, .initialized RX5, .code yX5_needPerson cX5_needPerson 1 none, .classLink RX5 129 "java/lang/IndexOutOfBoundsException", .initialized "java/lang/IndexOutOfBoundsException", .instanceMethod yX2_isIn, .initialized RX2, .selects RX2 yX2_isIn yX2_isIn, .code yX2_isIn cX2_isIn 2 (some .boolean), .fieldLink RX2 9 "AuditoriumKeys$Line" "came" "[I", .instanceMethod yX2_leave, .selects RX2 yX2_leave yX2_leave, .code yX2_leave cX2_leave 2 none, .instanceMethod yX2_length, .selects RX2 yX2_length yX2_length, .code yX2_length cX2_length 3 (some .int), .methodLink RX2 15 yX2_isIn] ++ wsX50 ++ wsX20 ++ (vx_atS RX5 69 "java/lang/IllegalStateException" ["java/lang/RuntimeException", "java/lang/Exception"]).filter goodWord ++ (vx_atS RX5 133 "java/lang/IndexOutOfBoundsException" ["java/lang/RuntimeException", "java/lang/Exception"]).filter goodWord)
def wsX5_queueAt : List Cond := .code yX5_queueAt cX5_queueAt 3 (some .int) :: ([.classLink RX5 129 "java/lang/IndexOutOfBoundsException", .initialized "java/lang/IndexOutOfBoundsException", .fieldLink RX5 33 "AuditoriumKeys" "line" "LAuditoriumKeys$Line;", .instanceMethod yX2_personAt, .initialized RX2, .selects RX2 yX2_personAt yX2_personAt, .code yX2_personAt cX2_personAt 3 (some .int), .methodLink RX2 15 yX2_isIn, .instanceMethod yX2_isIn, .selects RX2 yX2_isIn yX2_isIn, .code yX2_isIn cX2_isIn 2 (some .boolean), .fieldLink RX2 9 "AuditoriumKeys$Line" "came" "[I", .methodLink RX2 19 yX2_placeOf, .instanceMethod yX2_placeOf, .selects RX2 yX2_placeOf yX2_placeOf, .code yX2_placeOf cX2_placeOf 4 (some .int), .methodLink RX2 23 yX2_rank, .instanceMethod yX2_rank, .selects RX2 yX2_rank yX2_rank, .code yX2_rank cX2_rank 3 (some .int)] ++ wsX50 ++ wsX20 ++ (vx_atS RX5 133 "java/lang/IndexOutOfBoundsException" ["java/lang/RuntimeException", "java/lang/Exception"]).filter goodWord)
def wsX5_served : List Cond := .code yX5_served cX5_served 2 (some .int) :: ([.fieldLink RX5 33 "AuditoriumKeys" "line" "LAuditoriumKeys$Line;", .fieldLink RX5 9 "AuditoriumKeys" "now" "I", .instanceMethod yX2_personAt, .initialized RX2, .selects RX2 yX2_personAt yX2_personAt, .code yX2_personAt cX2_personAt 3 (some .int), .methodLink RX2 15 yX2_isIn, .instanceMethod yX2_isIn, .selects RX2 yX2_isIn yX2_isIn, .code yX2_isIn cX2_isIn 2 (some .boolean), .fieldLink RX2 9 "AuditoriumKeys$Line" "came" "[I", .methodLink RX2 19 yX2_placeOf, .instanceMethod yX2_placeOf, .selects RX2 yX2_placeOf yX2_placeOf, .code yX2_placeOf cX2_placeOf 4 (some .int), .methodLink RX2 23 yX2_rank, .instanceMethod yX2_rank, .selects RX2 yX2_rank yX2_rank, .code yX2_rank cX2_rank 3 (some .int)] ++ wsX50 ++ wsX20)
def wsX5_needRow : List Cond := .code yX5_needRow cX5_needRow 1 none :: ([.classLink RX5 129 "java/lang/IndexOutOfBoundsException", .initialized "java/lang/IndexOutOfBoundsException"] ++ (vx_atS RX5 133 "java/lang/IndexOutOfBoundsException" ["java/lang/RuntimeException", "java/lang/Exception"]).filter goodWord)
def wsX5_needCode : List Cond := .code yX5_needCode cX5_needCode 2 none :: ([.classLink RX5 129 "java/lang/IndexOutOfBoundsException", .initialized "java/lang/IndexOutOfBoundsException", .fieldLink RX5 26 "AuditoriumKeys" "codes" "LAuditoriumKeys$Codes;"] ++ wsX50 ++ wsX00 ++ (vx_atS RX5 133 "java/lang/IndexOutOfBoundsException" ["java/lang/RuntimeException", "java/lang/Exception"]).filter goodWord)
def wsX5_needSeatsFor : List Cond := .code yX5_needSeatsFor cX5_needSeatsFor 6 none :: ([.classLink RX5 65 "java/lang/IllegalStateException", .initialized "java/lang/IllegalStateException", .fieldLink RX5 47 "AuditoriumKeys" "seats" "LAuditoriumKeys$Seats;", .instanceMethod yX4_isOpen, .initialized RX4, .selects RX4 yX4_isOpen yX4_isOpen, .code yX4_isOpen cX4_isOpen 4 (some .boolean), .methodLink RX4 28 yX4_stateOf, .instanceMethod yX4_stateOf, .selects RX4 yX4_stateOf yX4_stateOf, .code yX4_stateOf cX4_stateOf 2 (some .int), .fieldLink RX4 9 "AuditoriumKeys$Seats" "held" "[Z", .fieldLink RX4 18 "AuditoriumKeys$Seats" "owner" "[I", .fieldLink RX4 15 "AuditoriumKeys$Seats" "offered" "[Z", .instanceMethod yX4_leavesSingle, .selects RX4 yX4_leavesSingle yX4_leavesSingle, .code yX4_leavesSingle cX4_leavesSingle 5 (some .boolean), .methodLink RX4 32 yX4_isOpen] ++ wsX50 ++ wsX40 ++ (vx_atS RX5 69 "java/lang/IllegalStateException" ["java/lang/RuntimeException", "java/lang/Exception"]).filter goodWord)
def wsX5_needRightFor : List Cond := .code yX5_needRightFor cX5_needRightFor 4 none :: ([.classLink RX5 65 "java/lang/IllegalStateException", .initialized "java/lang/IllegalStateException", .fieldLink RX5 9 "AuditoriumKeys" "now" "I", .fieldLink RX5 13 "AuditoriumKeys" "opening" "I", .fieldLink RX5 26 "AuditoriumKeys" "codes" "LAuditoriumKeys$Codes;", .instanceMethod yX0_haveRoom, .initialized RX0, .selects RX0 yX0_haveRoom yX0_haveRoom, .code yX0_haveRoom cX0_haveRoom 6 (some .boolean), .fieldLink RX0 15 "AuditoriumKeys$Codes" "ofPerson" "[I", .fieldLink RX0 19 "AuditoriumKeys$Codes" "ofHousehold" "[I", .methodLink RX0 25 yX0_seatsOf, .instanceMethod yX0_seatsOf, .selects RX0 yX0_seatsOf yX0_seatsOf, .code yX0_seatsOf cX0_seatsOf 3 (some .int), .fieldLink RX0 22 "AuditoriumKeys$Codes" "counted" "[I"] ++ wsX50 ++ wsX00 ++ (vx_atS RX5 69 "java/lang/IllegalStateException" ["java/lang/RuntimeException", "java/lang/Exception"]).filter goodWord)
def wsX5_hold_r1 : List Cond := [Cond.classLink RX5 129 "java/lang/IndexOutOfBoundsException", Cond.initialized "java/lang/IndexOutOfBoundsException", Cond.classLink RX5 58 "java/lang/IllegalArgumentException", Cond.initialized "java/lang/IllegalArgumentException", Cond.classLink RX5 65 "java/lang/IllegalStateException", Cond.initialized "java/lang/IllegalStateException", Cond.fieldLink RX5 33 "AuditoriumKeys" "line" "LAuditoriumKeys$Line;", Cond.fieldLink RX5 26 "AuditoriumKeys" "codes" "LAuditoriumKeys$Codes;", Cond.fieldLink RX5 47 "AuditoriumKeys" "seats" "LAuditoriumKeys$Seats;", Cond.fieldLink RX5 40 "AuditoriumKeys" "holds" "LAuditoriumKeys$Holds;", Cond.fieldLink RX5 9 "AuditoriumKeys" "now" "I", Cond.methodLink RX5 100 yX5_needPerson, Cond.static yX5_needPerson, Cond.initialized RX5, Cond.code yX5_needPerson cX5_needPerson 1 none, Cond.methodLink RX5 137 yX5_needRow, Cond.static yX5_needRow, Cond.code yX5_needRow cX5_needRow 1 none, Cond.methodLink RX5 96 yX5_needCode, Cond.instanceMethod yX5_needCode, Cond.selects RX5 yX5_needCode yX5_needCode, Cond.code yX5_needCode cX5_needCode 2 none, Cond.methodLink RX5 144 yX5_served, Cond.instanceMethod yX5_served]
def wsX5_hold_r2 : List Cond := [Cond.selects RX5 yX5_served yX5_served, Cond.code yX5_served cX5_served 2 (some .int), Cond.instanceMethod yX2_personAt, Cond.initialized RX2, Cond.selects RX2 yX2_personAt yX2_personAt, Cond.code yX2_personAt cX2_personAt 3 (some .int), Cond.methodLink RX2 15 yX2_isIn, Cond.instanceMethod yX2_isIn, Cond.selects RX2 yX2_isIn yX2_isIn, Cond.code yX2_isIn cX2_isIn 2 (some .boolean), Cond.fieldLink RX2 9 "AuditoriumKeys$Line" "came" "[I", Cond.methodLink RX2 19 yX2_placeOf, Cond.instanceMethod yX2_placeOf, Cond.selects RX2 yX2_placeOf yX2_placeOf, Cond.code yX2_placeOf cX2_placeOf 4 (some .int), Cond.methodLink RX2 23 yX2_rank, Cond.instanceMethod yX2_rank, Cond.selects RX2 yX2_rank yX2_rank, Cond.code yX2_rank cX2_rank 3 (some .int), Cond.methodLink RX5 149 yX5_needSeatsFor, Cond.instanceMethod yX5_needSeatsFor, Cond.selects RX5 yX5_needSeatsFor yX5_needSeatsFor, Cond.code yX5_needSeatsFor cX5_needSeatsFor 6 none, Cond.instanceMethod yX4_isOpen]
def wsX5_hold_r3 : List Cond := [Cond.initialized RX4, Cond.selects RX4 yX4_isOpen yX4_isOpen, Cond.code yX4_isOpen cX4_isOpen 4 (some .boolean), Cond.methodLink RX4 28 yX4_stateOf, Cond.instanceMethod yX4_stateOf, Cond.selects RX4 yX4_stateOf yX4_stateOf, Cond.code yX4_stateOf cX4_stateOf 2 (some .int), Cond.fieldLink RX4 9 "AuditoriumKeys$Seats" "held" "[Z", Cond.fieldLink RX4 18 "AuditoriumKeys$Seats" "owner" "[I", Cond.fieldLink RX4 15 "AuditoriumKeys$Seats" "offered" "[Z", Cond.instanceMethod yX4_leavesSingle, Cond.selects RX4 yX4_leavesSingle yX4_leavesSingle, Cond.code yX4_leavesSingle cX4_leavesSingle 5 (some .boolean), Cond.methodLink RX4 32 yX4_isOpen, Cond.methodLink RX5 153 yX5_needRightFor, Cond.instanceMethod yX5_needRightFor, Cond.selects RX5 yX5_needRightFor yX5_needRightFor, Cond.code yX5_needRightFor cX5_needRightFor 4 none, Cond.fieldLink RX5 13 "AuditoriumKeys" "opening" "I", Cond.instanceMethod yX0_haveRoom, Cond.initialized RX0, Cond.selects RX0 yX0_haveRoom yX0_haveRoom, Cond.code yX0_haveRoom cX0_haveRoom 6 (some .boolean), Cond.fieldLink RX0 15 "AuditoriumKeys$Codes" "ofPerson" "[I"]
def wsX5_hold_r4 : List Cond := [Cond.fieldLink RX0 19 "AuditoriumKeys$Codes" "ofHousehold" "[I", Cond.methodLink RX0 25 yX0_seatsOf, Cond.instanceMethod yX0_seatsOf, Cond.selects RX0 yX0_seatsOf yX0_seatsOf, Cond.code yX0_seatsOf cX0_seatsOf 3 (some .int), Cond.fieldLink RX0 22 "AuditoriumKeys$Codes" "counted" "[I", Cond.instanceMethod yX2_leave, Cond.selects RX2 yX2_leave yX2_leave, Cond.code yX2_leave cX2_leave 2 none, Cond.instanceMethod yX0_tally, Cond.selects RX0 yX0_tally yX0_tally, Cond.code yX0_tally cX0_tally 4 none, Cond.instanceMethod yX4_lock, Cond.selects RX4 yX4_lock yX4_lock, Cond.code yX4_lock cX4_lock 5 (some .int), Cond.fieldLink RX4 22 "AuditoriumKeys$Seats" "price" "[I", Cond.instanceMethod yX1_make, Cond.initialized RX1, Cond.selects RX1 yX1_make yX1_make, Cond.code yX1_make cX1_make 7 none, Cond.fieldLink RX1 9 "AuditoriumKeys$Holds" "first" "[I", Cond.fieldLink RX1 15 "AuditoriumKeys$Holds" "many" "[I", Cond.fieldLink RX1 18 "AuditoriumKeys$Holds" "code" "[I", Cond.fieldLink RX1 21 "AuditoriumKeys$Holds" "cost" "[I"]
def wsX5_hold_r5 : List Cond := [Cond.fieldLink RX1 24 "AuditoriumKeys$Holds" "paid" "[I", Cond.fieldLink RX1 27 "AuditoriumKeys$Holds" "latest" "[I", Cond.fieldLink RX1 30 "AuditoriumKeys$Holds" "lapse" "[I"]
def wsX5_hold : List Cond := .code yX5_hold cX5_hold 8 (some .int) :: ((wsX5_hold_r1 ++ (wsX5_hold_r2 ++ (wsX5_hold_r3 ++ (wsX5_hold_r4 ++ wsX5_hold_r5)))) ++ wsX50 ++ wsX00 ++ wsX20 ++ wsX40 ++ wsX10 ++ (vx_atS RX5 133 "java/lang/IndexOutOfBoundsException" ["java/lang/RuntimeException", "java/lang/Exception"]).filter goodWord ++ (vx_atS RX5 62 "java/lang/IllegalArgumentException" ["java/lang/RuntimeException", "java/lang/Exception"]).filter goodWord ++ (vx_atS RX5 69 "java/lang/IllegalStateException" ["java/lang/RuntimeException", "java/lang/Exception"]).filter goodWord)
def wsX5_needHold : List Cond := .code yX5_needHold cX5_needHold 2 none :: ([.classLink RX5 65 "java/lang/IllegalStateException", .initialized "java/lang/IllegalStateException", .fieldLink RX5 40 "AuditoriumKeys" "holds" "LAuditoriumKeys$Holds;", .instanceMethod yX1_isThere, .initialized RX1, .selects RX1 yX1_isThere yX1_isThere, .code yX1_isThere cX1_isThere 2 (some .boolean), .fieldLink RX1 15 "AuditoriumKeys$Holds" "many" "[I"] ++ wsX50 ++ wsX10 ++ (vx_atS RX5 69 "java/lang/IllegalStateException" ["java/lang/RuntimeException", "java/lang/Exception"]).filter goodWord)
def wsX5_sell_r1 : List Cond := [Cond.fieldLink RX5 40 "AuditoriumKeys" "holds" "LAuditoriumKeys$Holds;", Cond.fieldLink RX5 47 "AuditoriumKeys" "seats" "LAuditoriumKeys$Seats;", Cond.fieldLink RX5 16 "AuditoriumKeys" "taken" "I", Cond.fieldLink RX5 19 "AuditoriumKeys" "outlay" "[I", Cond.fieldLink RX5 54 "AuditoriumKeys" "sales" "LAuditoriumKeys$Sales;", Cond.instanceMethod yX4_giveTo, Cond.initialized RX4, Cond.selects RX4 yX4_giveTo yX4_giveTo, Cond.code yX4_giveTo cX4_giveTo 3 none, Cond.fieldLink RX4 9 "AuditoriumKeys$Seats" "held" "[Z", Cond.fieldLink RX4 15 "AuditoriumKeys$Seats" "offered" "[Z", Cond.fieldLink RX4 18 "AuditoriumKeys$Seats" "owner" "[I", Cond.fieldLink RX4 25 "AuditoriumKeys$Seats" "bought" "[I", Cond.fieldLink RX4 22 "AuditoriumKeys$Seats" "price" "[I", Cond.instanceMethod yX3_add, Cond.initialized RX3, Cond.selects RX3 yX3_add yX3_add, Cond.code yX3_add cX3_add 4 none, Cond.fieldLink RX3 9 "AuditoriumKeys$Sales" "count" "I", Cond.fieldLink RX3 15 "AuditoriumKeys$Sales" "first" "[I", Cond.fieldLink RX3 19 "AuditoriumKeys$Sales" "many" "[I", Cond.fieldLink RX3 22 "AuditoriumKeys$Sales" "buyer" "[I", Cond.instanceMethod yX1_end, Cond.initialized RX1]
def wsX5_sell_r2 : List Cond := [Cond.selects RX1 yX1_end yX1_end, Cond.code yX1_end cX1_end 2 none, Cond.fieldLink RX1 15 "AuditoriumKeys$Holds" "many" "[I"]
def wsX5_sell : List Cond := .code yX5_sell cX5_sell 6 none :: ((wsX5_sell_r1 ++ wsX5_sell_r2) ++ wsX50 ++ wsX10 ++ wsX40 ++ wsX30)
def wsX5_pay_r1 : List Cond := [Cond.classLink RX5 58 "java/lang/IllegalArgumentException", Cond.initialized "java/lang/IllegalArgumentException", Cond.classLink RX5 65 "java/lang/IllegalStateException", Cond.initialized "java/lang/IllegalStateException", Cond.fieldLink RX5 40 "AuditoriumKeys" "holds" "LAuditoriumKeys$Holds;", Cond.fieldLink RX5 19 "AuditoriumKeys" "outlay" "[I", Cond.methodLink RX5 100 yX5_needPerson, Cond.static yX5_needPerson, Cond.initialized RX5, Cond.code yX5_needPerson cX5_needPerson 1 none, Cond.classLink RX5 129 "java/lang/IndexOutOfBoundsException", Cond.initialized "java/lang/IndexOutOfBoundsException", Cond.methodLink RX5 169 yX5_needHold, Cond.instanceMethod yX5_needHold, Cond.selects RX5 yX5_needHold yX5_needHold, Cond.code yX5_needHold cX5_needHold 2 none, Cond.instanceMethod yX1_isThere, Cond.initialized RX1, Cond.selects RX1 yX1_isThere yX1_isThere, Cond.code yX1_isThere cX1_isThere 2 (some .boolean), Cond.fieldLink RX1 15 "AuditoriumKeys$Holds" "many" "[I", Cond.instanceMethod yX1_left, Cond.selects RX1 yX1_left yX1_left, Cond.code yX1_left cX1_left 2 (some .int)]
def wsX5_pay_r2 : List Cond := [Cond.fieldLink RX1 21 "AuditoriumKeys$Holds" "cost" "[I", Cond.fieldLink RX1 24 "AuditoriumKeys$Holds" "paid" "[I", Cond.methodLink RX5 180 yX5_sell, Cond.instanceMethod yX5_sell, Cond.selects RX5 yX5_sell yX5_sell, Cond.code yX5_sell cX5_sell 6 none, Cond.fieldLink RX5 47 "AuditoriumKeys" "seats" "LAuditoriumKeys$Seats;", Cond.fieldLink RX5 16 "AuditoriumKeys" "taken" "I", Cond.fieldLink RX5 54 "AuditoriumKeys" "sales" "LAuditoriumKeys$Sales;", Cond.instanceMethod yX4_giveTo, Cond.initialized RX4, Cond.selects RX4 yX4_giveTo yX4_giveTo, Cond.code yX4_giveTo cX4_giveTo 3 none, Cond.fieldLink RX4 9 "AuditoriumKeys$Seats" "held" "[Z", Cond.fieldLink RX4 15 "AuditoriumKeys$Seats" "offered" "[Z", Cond.fieldLink RX4 18 "AuditoriumKeys$Seats" "owner" "[I", Cond.fieldLink RX4 25 "AuditoriumKeys$Seats" "bought" "[I", Cond.fieldLink RX4 22 "AuditoriumKeys$Seats" "price" "[I", Cond.instanceMethod yX3_add, Cond.initialized RX3, Cond.selects RX3 yX3_add yX3_add, Cond.code yX3_add cX3_add 4 none, Cond.fieldLink RX3 9 "AuditoriumKeys$Sales" "count" "I", Cond.fieldLink RX3 15 "AuditoriumKeys$Sales" "first" "[I"]
def wsX5_pay_r3 : List Cond := [Cond.fieldLink RX3 19 "AuditoriumKeys$Sales" "many" "[I", Cond.fieldLink RX3 22 "AuditoriumKeys$Sales" "buyer" "[I", Cond.instanceMethod yX1_end, Cond.selects RX1 yX1_end yX1_end, Cond.code yX1_end cX1_end 2 none, Cond.instanceMethod yX1_prolong, Cond.selects RX1 yX1_prolong yX1_prolong, Cond.code yX1_prolong cX1_prolong 2 none, Cond.fieldLink RX1 30 "AuditoriumKeys$Holds" "lapse" "[I", Cond.fieldLink RX1 27 "AuditoriumKeys$Holds" "latest" "[I", Cond.methodLink RX1 33 Lib.Math.min.name, Cond.static Lib.Math.min.name, Cond.initialized "java/lang/Math", Cond.code Lib.Math.min.name Lib.Math.min.code 2 (some .int)]
def wsX5_pay : List Cond := .code yX5_pay cX5_pay 4 (some .int) :: ((wsX5_pay_r1 ++ (wsX5_pay_r2 ++ wsX5_pay_r3)) ++ wsX50 ++ wsX10 ++ wsX40 ++ wsX30 ++ (vx_atS RX5 62 "java/lang/IllegalArgumentException" ["java/lang/RuntimeException", "java/lang/Exception"]).filter goodWord ++ (vx_atS RX5 69 "java/lang/IllegalStateException" ["java/lang/RuntimeException", "java/lang/Exception"]).filter goodWord ++ (vx_atS RX5 133 "java/lang/IndexOutOfBoundsException" ["java/lang/RuntimeException", "java/lang/Exception"]).filter goodWord)
def wsX5_letGo_r1 : List Cond := [Cond.methodLink RX5 100 yX5_needPerson, Cond.static yX5_needPerson, Cond.initialized RX5, Cond.code yX5_needPerson cX5_needPerson 1 none, Cond.classLink RX5 129 "java/lang/IndexOutOfBoundsException", Cond.initialized "java/lang/IndexOutOfBoundsException", Cond.methodLink RX5 169 yX5_needHold, Cond.instanceMethod yX5_needHold, Cond.selects RX5 yX5_needHold yX5_needHold, Cond.code yX5_needHold cX5_needHold 2 none, Cond.classLink RX5 65 "java/lang/IllegalStateException", Cond.initialized "java/lang/IllegalStateException", Cond.fieldLink RX5 40 "AuditoriumKeys" "holds" "LAuditoriumKeys$Holds;", Cond.instanceMethod yX1_isThere, Cond.initialized RX1, Cond.selects RX1 yX1_isThere yX1_isThere, Cond.code yX1_isThere cX1_isThere 2 (some .boolean), Cond.fieldLink RX1 15 "AuditoriumKeys$Holds" "many" "[I", Cond.methodLink RX5 77 yX5_giveBack, Cond.instanceMethod yX5_giveBack, Cond.selects RX5 yX5_giveBack yX5_giveBack, Cond.code yX5_giveBack cX5_giveBack 3 (some .int), Cond.fieldLink RX5 19 "AuditoriumKeys" "outlay" "[I", Cond.fieldLink RX5 26 "AuditoriumKeys" "codes" "LAuditoriumKeys$Codes;"]
def wsX5_letGo_r2 : List Cond := [Cond.fieldLink RX5 47 "AuditoriumKeys" "seats" "LAuditoriumKeys$Seats;", Cond.instanceMethod yX0_tally, Cond.initialized RX0, Cond.selects RX0 yX0_tally yX0_tally, Cond.code yX0_tally cX0_tally 4 none, Cond.fieldLink RX0 22 "AuditoriumKeys$Codes" "counted" "[I", Cond.instanceMethod yX4_unlock, Cond.initialized RX4, Cond.selects RX4 yX4_unlock yX4_unlock, Cond.code yX4_unlock cX4_unlock 4 none, Cond.fieldLink RX4 9 "AuditoriumKeys$Seats" "held" "[Z", Cond.instanceMethod yX1_end, Cond.selects RX1 yX1_end yX1_end, Cond.code yX1_end cX1_end 2 none]
def wsX5_letGo : List Cond := .code yX5_letGo cX5_letGo 2 (some .int) :: ((wsX5_letGo_r1 ++ wsX5_letGo_r2) ++ wsX50 ++ wsX10 ++ wsX00 ++ wsX40 ++ (vx_atS RX5 133 "java/lang/IndexOutOfBoundsException" ["java/lang/RuntimeException", "java/lang/Exception"]).filter goodWord ++ (vx_atS RX5 69 "java/lang/IllegalStateException" ["java/lang/RuntimeException", "java/lang/Exception"]).filter goodWord)
def wsX5_lapses : List Cond := .code yX5_lapses cX5_lapses 2 (some .int) :: ([.fieldLink RX5 40 "AuditoriumKeys" "holds" "LAuditoriumKeys$Holds;", .methodLink RX5 100 yX5_needPerson, .static yX5_needPerson, .initialized RX5, .code yX5_needPerson cX5_needPerson 1 none, .classLink RX5 129 "java/lang/IndexOutOfBoundsException", .initialized "java/lang/IndexOutOfBoundsException", .instanceMethod yX1_isThere, .initialized RX1, .selects RX1 yX1_isThere yX1_isThere, .code yX1_isThere cX1_isThere 2 (some .boolean), .fieldLink RX1 15 "AuditoriumKeys$Holds" "many" "[I"] ++ wsX50 ++ wsX10 ++ (vx_atS RX5 133 "java/lang/IndexOutOfBoundsException" ["java/lang/RuntimeException", "java/lang/Exception"]).filter goodWord)
def wsX5_needSeat : List Cond := .code yX5_needSeat cX5_needSeat 1 none :: ([.classLink RX5 129 "java/lang/IndexOutOfBoundsException", .initialized "java/lang/IndexOutOfBoundsException"] ++ (vx_atS RX5 133 "java/lang/IndexOutOfBoundsException" ["java/lang/RuntimeException", "java/lang/Exception"]).filter goodWord)
def wsX5_state : List Cond := .code yX5_state cX5_state 2 (some .int) :: ([.fieldLink RX5 47 "AuditoriumKeys" "seats" "LAuditoriumKeys$Seats;", .methodLink RX5 186 yX5_needSeat, .static yX5_needSeat, .initialized RX5, .code yX5_needSeat cX5_needSeat 1 none, .classLink RX5 129 "java/lang/IndexOutOfBoundsException", .initialized "java/lang/IndexOutOfBoundsException", .instanceMethod yX4_stateOf, .initialized RX4, .selects RX4 yX4_stateOf yX4_stateOf, .code yX4_stateOf cX4_stateOf 2 (some .int), .fieldLink RX4 9 "AuditoriumKeys$Seats" "held" "[Z", .fieldLink RX4 18 "AuditoriumKeys$Seats" "owner" "[I", .fieldLink RX4 15 "AuditoriumKeys$Seats" "offered" "[Z"] ++ wsX50 ++ wsX40 ++ (vx_atS RX5 133 "java/lang/IndexOutOfBoundsException" ["java/lang/RuntimeException", "java/lang/Exception"]).filter goodWord)
def wsX5_owner : List Cond := .code yX5_owner cX5_owner 2 (some .int) :: ([.fieldLink RX5 47 "AuditoriumKeys" "seats" "LAuditoriumKeys$Seats;", .methodLink RX5 186 yX5_needSeat, .static yX5_needSeat, .initialized RX5, .code yX5_needSeat cX5_needSeat 1 none, .classLink RX5 129 "java/lang/IndexOutOfBoundsException", .initialized "java/lang/IndexOutOfBoundsException"] ++ wsX50 ++ wsX40 ++ (vx_atS RX5 133 "java/lang/IndexOutOfBoundsException" ["java/lang/RuntimeException", "java/lang/Exception"]).filter goodWord)
def wsX5_ownerBySales : List Cond := .code yX5_ownerBySales cX5_ownerBySales 2 (some .int) :: ([.fieldLink RX5 54 "AuditoriumKeys" "sales" "LAuditoriumKeys$Sales;", .methodLink RX5 186 yX5_needSeat, .static yX5_needSeat, .initialized RX5, .code yX5_needSeat cX5_needSeat 1 none, .classLink RX5 129 "java/lang/IndexOutOfBoundsException", .initialized "java/lang/IndexOutOfBoundsException", .instanceMethod yX3_lastBuyerOf, .initialized RX3, .selects RX3 yX3_lastBuyerOf yX3_lastBuyerOf, .code yX3_lastBuyerOf cX3_lastBuyerOf 4 (some .int), .fieldLink RX3 9 "AuditoriumKeys$Sales" "count" "I", .fieldLink RX3 15 "AuditoriumKeys$Sales" "first" "[I", .fieldLink RX3 19 "AuditoriumKeys$Sales" "many" "[I", .fieldLink RX3 22 "AuditoriumKeys$Sales" "buyer" "[I"] ++ wsX50 ++ wsX30 ++ (vx_atS RX5 133 "java/lang/IndexOutOfBoundsException" ["java/lang/RuntimeException", "java/lang/Exception"]).filter goodWord)
def wsX5_isSingle : List Cond := .code yX5_isSingle cX5_isSingle 4 (some .boolean) :: ([.fieldLink RX5 47 "AuditoriumKeys" "seats" "LAuditoriumKeys$Seats;", .methodLink RX5 186 yX5_needSeat, .static yX5_needSeat, .initialized RX5, .code yX5_needSeat cX5_needSeat 1 none, .classLink RX5 129 "java/lang/IndexOutOfBoundsException", .initialized "java/lang/IndexOutOfBoundsException", .instanceMethod yX4_isOpen, .initialized RX4, .selects RX4 yX4_isOpen yX4_isOpen, .code yX4_isOpen cX4_isOpen 4 (some .boolean), .methodLink RX4 28 yX4_stateOf, .instanceMethod yX4_stateOf, .selects RX4 yX4_stateOf yX4_stateOf, .code yX4_stateOf cX4_stateOf 2 (some .int), .fieldLink RX4 9 "AuditoriumKeys$Seats" "held" "[Z", .fieldLink RX4 18 "AuditoriumKeys$Seats" "owner" "[I", .fieldLink RX4 15 "AuditoriumKeys$Seats" "offered" "[Z"] ++ wsX50 ++ wsX40 ++ (vx_atS RX5 133 "java/lang/IndexOutOfBoundsException" ["java/lang/RuntimeException", "java/lang/Exception"]).filter goodWord)
def wsX5_firstOpen : List Cond := .code yX5_firstOpen cX5_firstOpen 5 (some .int) :: ([.classLink RX5 58 "java/lang/IllegalArgumentException", .initialized "java/lang/IllegalArgumentException", .fieldLink RX5 47 "AuditoriumKeys" "seats" "LAuditoriumKeys$Seats;", .methodLink RX5 137 yX5_needRow, .static yX5_needRow, .initialized RX5, .code yX5_needRow cX5_needRow 1 none, .classLink RX5 129 "java/lang/IndexOutOfBoundsException", .initialized "java/lang/IndexOutOfBoundsException", .instanceMethod yX4_isOpen, .initialized RX4, .selects RX4 yX4_isOpen yX4_isOpen, .code yX4_isOpen cX4_isOpen 4 (some .boolean), .methodLink RX4 28 yX4_stateOf, .instanceMethod yX4_stateOf, .selects RX4 yX4_stateOf yX4_stateOf, .code yX4_stateOf cX4_stateOf 2 (some .int), .fieldLink RX4 9 "AuditoriumKeys$Seats" "held" "[Z", .fieldLink RX4 18 "AuditoriumKeys$Seats" "owner" "[I", .fieldLink RX4 15 "AuditoriumKeys$Seats" "offered" "[Z"] ++ wsX50 ++ wsX40 ++ (vx_atS RX5 62 "java/lang/IllegalArgumentException" ["java/lang/RuntimeException", "java/lang/Exception"]).filter goodWord ++ (vx_atS RX5 133 "java/lang/IndexOutOfBoundsException" ["java/lang/RuntimeException", "java/lang/Exception"]).filter goodWord)
def wsX5_offer_r1 : List Cond := [Cond.classLink RX5 58 "java/lang/IllegalArgumentException", Cond.initialized "java/lang/IllegalArgumentException", Cond.classLink RX5 65 "java/lang/IllegalStateException", Cond.initialized "java/lang/IllegalStateException", Cond.fieldLink RX5 47 "AuditoriumKeys" "seats" "LAuditoriumKeys$Seats;", Cond.methodLink RX5 100 yX5_needPerson, Cond.static yX5_needPerson, Cond.initialized RX5, Cond.code yX5_needPerson cX5_needPerson 1 none, Cond.classLink RX5 129 "java/lang/IndexOutOfBoundsException", Cond.initialized "java/lang/IndexOutOfBoundsException", Cond.methodLink RX5 186 yX5_needSeat, Cond.static yX5_needSeat, Cond.code yX5_needSeat cX5_needSeat 1 none, Cond.instanceMethod yX4_stateOf, Cond.initialized RX4, Cond.selects RX4 yX4_stateOf yX4_stateOf, Cond.code yX4_stateOf cX4_stateOf 2 (some .int), Cond.fieldLink RX4 9 "AuditoriumKeys$Seats" "held" "[Z", Cond.fieldLink RX4 18 "AuditoriumKeys$Seats" "owner" "[I", Cond.fieldLink RX4 15 "AuditoriumKeys$Seats" "offered" "[Z", Cond.instanceMethod yX4_ceilingOf, Cond.selects RX4 yX4_ceilingOf yX4_ceilingOf, Cond.code yX4_ceilingOf cX4_ceilingOf 2 (some .int)]
def wsX5_offer_r2 : List Cond := [Cond.fieldLink RX4 25 "AuditoriumKeys$Seats" "bought" "[I", Cond.instanceMethod yX4_putUp, Cond.selects RX4 yX4_putUp yX4_putUp, Cond.code yX4_putUp cX4_putUp 3 none, Cond.fieldLink RX4 22 "AuditoriumKeys$Seats" "price" "[I"]
def wsX5_offer : List Cond := .code yX5_offer cX5_offer 5 (some .int) :: ((wsX5_offer_r1 ++ wsX5_offer_r2) ++ wsX50 ++ wsX40 ++ (vx_atS RX5 62 "java/lang/IllegalArgumentException" ["java/lang/RuntimeException", "java/lang/Exception"]).filter goodWord ++ (vx_atS RX5 69 "java/lang/IllegalStateException" ["java/lang/RuntimeException", "java/lang/Exception"]).filter goodWord ++ (vx_atS RX5 133 "java/lang/IndexOutOfBoundsException" ["java/lang/RuntimeException", "java/lang/Exception"]).filter goodWord)
def wsX5_retract : List Cond := .code yX5_retract cX5_retract 2 (some .int) :: ([.classLink RX5 65 "java/lang/IllegalStateException", .initialized "java/lang/IllegalStateException", .fieldLink RX5 47 "AuditoriumKeys" "seats" "LAuditoriumKeys$Seats;", .methodLink RX5 186 yX5_needSeat, .static yX5_needSeat, .initialized RX5, .code yX5_needSeat cX5_needSeat 1 none, .classLink RX5 129 "java/lang/IndexOutOfBoundsException", .initialized "java/lang/IndexOutOfBoundsException", .instanceMethod yX4_stateOf, .initialized RX4, .selects RX4 yX4_stateOf yX4_stateOf, .code yX4_stateOf cX4_stateOf 2 (some .int), .fieldLink RX4 9 "AuditoriumKeys$Seats" "held" "[Z", .fieldLink RX4 18 "AuditoriumKeys$Seats" "owner" "[I", .fieldLink RX4 15 "AuditoriumKeys$Seats" "offered" "[Z"] ++ wsX50 ++ wsX40 ++ (vx_atS RX5 69 "java/lang/IllegalStateException" ["java/lang/RuntimeException", "java/lang/Exception"]).filter goodWord ++ (vx_atS RX5 133 "java/lang/IndexOutOfBoundsException" ["java/lang/RuntimeException", "java/lang/Exception"]).filter goodWord)
def wsX5_spent : List Cond := .code yX5_spent cX5_spent 2 (some .int) :: ([.fieldLink RX5 19 "AuditoriumKeys" "outlay" "[I", .methodLink RX5 100 yX5_needPerson, .static yX5_needPerson, .initialized RX5, .code yX5_needPerson cX5_needPerson 1 none, .classLink RX5 129 "java/lang/IndexOutOfBoundsException", .initialized "java/lang/IndexOutOfBoundsException"] ++ wsX50 ++ (vx_atS RX5 133 "java/lang/IndexOutOfBoundsException" ["java/lang/RuntimeException", "java/lang/Exception"]).filter goodWord)
def wsX5_takings : List Cond := .code yX5_takings cX5_takings 1 (some .int) :: ([.fieldLink RX5 16 "AuditoriumKeys" "taken" "I"] ++ wsX50)
def wsJ9_min_7cf53 : List Cond := .code yJ9_min_7cf53 cJ9_min_7cf53 2 (some .int) :: ([])
theorem dX0_init_0 : decode cX0_init 0 = .ok (.aload_n 0, 1) := by decide +kernel
theorem dX0_init_1 : decode cX0_init 1 = .ok (.invokespecial 3, 3) := by decide +kernel
theorem dX0_init_4 : decode cX0_init 4 = .ok (.aload_n 0, 1) := by decide +kernel
theorem dX0_init_5 : decode cX0_init 5 = .ok (.iconst 0, 1) := by decide +kernel
theorem dX0_init_6 : decode cX0_init 6 = .ok (.putfield 9, 3) := by decide +kernel
theorem dX0_init_9 : decode cX0_init 9 = .ok (.aload_n 0, 1) := by decide +kernel
theorem dX0_init_10 : decode cX0_init 10 = .ok (.bipush 10, 2) := by decide +kernel
theorem dX0_init_12 : decode cX0_init 12 = .ok (.newarray .int, 2) := by decide +kernel
theorem dX0_init_14 : decode cX0_init 14 = .ok (.putfield 15, 3) := by decide +kernel
theorem dX0_init_17 : decode cX0_init 17 = .ok (.aload_n 0, 1) := by decide +kernel
theorem dX0_init_18 : decode cX0_init 18 = .ok (.bipush 10, 2) := by decide +kernel
theorem dX0_init_20 : decode cX0_init 20 = .ok (.newarray .int, 2) := by decide +kernel
theorem dX0_init_22 : decode cX0_init 22 = .ok (.putfield 19, 3) := by decide +kernel
theorem dX0_init_25 : decode cX0_init 25 = .ok (.aload_n 0, 1) := by decide +kernel
theorem dX0_init_26 : decode cX0_init 26 = .ok (.bipush 80, 2) := by decide +kernel
theorem dX0_init_28 : decode cX0_init 28 = .ok (.newarray .int, 2) := by decide +kernel
theorem dX0_init_30 : decode cX0_init 30 = .ok (.putfield 22, 3) := by decide +kernel
theorem dX0_init_33 : decode cX0_init 33 = .ok (.return_, 1) := by decide +kernel
theorem dX0_add_0 : decode cX0_add 0 = .ok (.aload_n 0, 1) := by decide +kernel
theorem dX0_add_1 : decode cX0_add 1 = .ok (.getfield 15, 3) := by decide +kernel
theorem dX0_add_4 : decode cX0_add 4 = .ok (.aload_n 0, 1) := by decide +kernel
theorem dX0_add_5 : decode cX0_add 5 = .ok (.getfield 9, 3) := by decide +kernel
theorem dX0_add_8 : decode cX0_add 8 = .ok (.iload_n 1, 1) := by decide +kernel
theorem dX0_add_9 : decode cX0_add 9 = .ok (.iastore, 1) := by decide +kernel
theorem dX0_add_10 : decode cX0_add 10 = .ok (.aload_n 0, 1) := by decide +kernel
theorem dX0_add_11 : decode cX0_add 11 = .ok (.getfield 19, 3) := by decide +kernel
theorem dX0_add_14 : decode cX0_add 14 = .ok (.aload_n 0, 1) := by decide +kernel
theorem dX0_add_15 : decode cX0_add 15 = .ok (.getfield 9, 3) := by decide +kernel
theorem dX0_add_18 : decode cX0_add 18 = .ok (.iload_n 2, 1) := by decide +kernel
theorem dX0_add_19 : decode cX0_add 19 = .ok (.iastore, 1) := by decide +kernel
theorem dX0_add_20 : decode cX0_add 20 = .ok (.aload_n 0, 1) := by decide +kernel
theorem dX0_add_21 : decode cX0_add 21 = .ok (.dup, 1) := by decide +kernel
theorem dX0_add_22 : decode cX0_add 22 = .ok (.getfield 9, 3) := by decide +kernel
theorem dX0_add_25 : decode cX0_add 25 = .ok (.iconst 1, 1) := by decide +kernel
theorem dX0_add_26 : decode cX0_add 26 = .ok (.iadd, 1) := by decide +kernel
theorem dX0_add_27 : decode cX0_add 27 = .ok (.putfield 9, 3) := by decide +kernel
theorem dX0_add_30 : decode cX0_add 30 = .ok (.aload_n 0, 1) := by decide +kernel
theorem dX0_add_31 : decode cX0_add 31 = .ok (.getfield 9, 3) := by decide +kernel
theorem dX0_add_34 : decode cX0_add 34 = .ok (.iconst 1, 1) := by decide +kernel
theorem dX0_add_35 : decode cX0_add 35 = .ok (.isub, 1) := by decide +kernel
theorem dX0_add_36 : decode cX0_add 36 = .ok (.ireturn, 1) := by decide +kernel
theorem dX0_seatsOf_0 : decode cX0_seatsOf 0 = .ok (.aload_n 0, 1) := by decide +kernel
theorem dX0_seatsOf_1 : decode cX0_seatsOf 1 = .ok (.getfield 22, 3) := by decide +kernel
theorem dX0_seatsOf_4 : decode cX0_seatsOf 4 = .ok (.bipush 8, 2) := by decide +kernel
theorem dX0_seatsOf_6 : decode cX0_seatsOf 6 = .ok (.iload_n 1, 1) := by decide +kernel
theorem dX0_seatsOf_7 : decode cX0_seatsOf 7 = .ok (.imul, 1) := by decide +kernel
theorem dX0_seatsOf_8 : decode cX0_seatsOf 8 = .ok (.iload_n 2, 1) := by decide +kernel
theorem dX0_seatsOf_9 : decode cX0_seatsOf 9 = .ok (.iadd, 1) := by decide +kernel
theorem dX0_seatsOf_10 : decode cX0_seatsOf 10 = .ok (.iaload, 1) := by decide +kernel
theorem dX0_seatsOf_11 : decode cX0_seatsOf 11 = .ok (.ireturn, 1) := by decide +kernel
set_option maxRecDepth 20000 in
theorem ggX0_haveRoom_X0_seatsOf : GoodIn wsX0_haveRoom wsX0_seatsOf := goodIn_r _ [7, 8, 9, 10, 11, 12] (by decide +kernel) (by decide +kernel)
set_option maxRecDepth 20000 in
theorem gX0_haveRoom_X0_seatsOf : GoodIn wsX0_haveRoom (wsV RX0 25 RX0 yX0_seatsOf wsX0_seatsOf) := goodIn_app (goodIn_of _ (by decide +kernel)) ggX0_haveRoom_X0_seatsOf
theorem dX0_haveRoom_0 : decode cX0_haveRoom 0 = .ok (.iload_n 2, 1) := by decide +kernel
theorem dX0_haveRoom_1 : decode cX0_haveRoom 1 = .ok (.iconst 1, 1) := by decide +kernel
theorem dX0_haveRoom_2 : decode cX0_haveRoom 2 = .ok (.ixor, 1) := by decide +kernel
theorem dX0_haveRoom_3 : decode cX0_haveRoom 3 = .ok (.istore 4, 2) := by decide +kernel
theorem dX0_haveRoom_5 : decode cX0_haveRoom 5 = .ok (.aload_n 0, 1) := by decide +kernel
theorem dX0_haveRoom_6 : decode cX0_haveRoom 6 = .ok (.iload_n 1, 1) := by decide +kernel
theorem dX0_haveRoom_7 : decode cX0_haveRoom 7 = .ok (.iload_n 2, 1) := by decide +kernel
theorem dX0_haveRoom_8 : decode cX0_haveRoom 8 = .ok (.invokevirtual 25, 3) := by decide +kernel
theorem dX0_haveRoom_11 : decode cX0_haveRoom 11 = .ok (.iload_n 3, 1) := by decide +kernel
theorem dX0_haveRoom_12 : decode cX0_haveRoom 12 = .ok (.iadd, 1) := by decide +kernel
theorem dX0_haveRoom_13 : decode cX0_haveRoom 13 = .ok (.istore 5, 2) := by decide +kernel
theorem dX0_haveRoom_15 : decode cX0_haveRoom 15 = .ok (.iload 5, 2) := by decide +kernel
theorem dX0_haveRoom_17 : decode cX0_haveRoom 17 = .ok (.aload_n 0, 1) := by decide +kernel
theorem dX0_haveRoom_18 : decode cX0_haveRoom 18 = .ok (.getfield 15, 3) := by decide +kernel
theorem dX0_haveRoom_21 : decode cX0_haveRoom 21 = .ok (.iload_n 1, 1) := by decide +kernel
theorem dX0_haveRoom_22 : decode cX0_haveRoom 22 = .ok (.iaload, 1) := by decide +kernel
theorem dX0_haveRoom_23 : decode cX0_haveRoom 23 = .ok (.if_icmp .gt 26, 3) := by decide +kernel
theorem dX0_haveRoom_26 : decode cX0_haveRoom 26 = .ok (.iload 5, 2) := by decide +kernel
theorem dX0_haveRoom_28 : decode cX0_haveRoom 28 = .ok (.aload_n 0, 1) := by decide +kernel
theorem dX0_haveRoom_29 : decode cX0_haveRoom 29 = .ok (.iload_n 1, 1) := by decide +kernel
theorem dX0_haveRoom_30 : decode cX0_haveRoom 30 = .ok (.iload 4, 2) := by decide +kernel
theorem dX0_haveRoom_32 : decode cX0_haveRoom 32 = .ok (.invokevirtual 25, 3) := by decide +kernel
theorem dX0_haveRoom_35 : decode cX0_haveRoom 35 = .ok (.iadd, 1) := by decide +kernel
theorem dX0_haveRoom_36 : decode cX0_haveRoom 36 = .ok (.aload_n 0, 1) := by decide +kernel
theorem dX0_haveRoom_37 : decode cX0_haveRoom 37 = .ok (.getfield 19, 3) := by decide +kernel
theorem dX0_haveRoom_40 : decode cX0_haveRoom 40 = .ok (.iload_n 1, 1) := by decide +kernel
theorem dX0_haveRoom_41 : decode cX0_haveRoom 41 = .ok (.iaload, 1) := by decide +kernel
theorem dX0_haveRoom_42 : decode cX0_haveRoom 42 = .ok (.if_icmp .gt 7, 3) := by decide +kernel
theorem dX0_haveRoom_45 : decode cX0_haveRoom 45 = .ok (.iconst 1, 1) := by decide +kernel
theorem dX0_haveRoom_46 : decode cX0_haveRoom 46 = .ok (.goto 4, 3) := by decide +kernel
theorem dX0_haveRoom_49 : decode cX0_haveRoom 49 = .ok (.iconst 0, 1) := by decide +kernel
theorem dX0_haveRoom_50 : decode cX0_haveRoom 50 = .ok (.ireturn, 1) := by decide +kernel
theorem dX0_tally_0 : decode cX0_tally 0 = .ok (.iload_n 1, 1) := by decide +kernel
theorem dX0_tally_1 : decode cX0_tally 1 = .ok (.iconst (-1), 1) := by decide +kernel
theorem dX0_tally_2 : decode cX0_tally 2 = .ok (.if_icmp .eq 18, 3) := by decide +kernel
theorem dX0_tally_5 : decode cX0_tally 5 = .ok (.aload_n 0, 1) := by decide +kernel
theorem dX0_tally_6 : decode cX0_tally 6 = .ok (.getfield 22, 3) := by decide +kernel
theorem dX0_tally_9 : decode cX0_tally 9 = .ok (.bipush 8, 2) := by decide +kernel
theorem dX0_tally_11 : decode cX0_tally 11 = .ok (.iload_n 1, 1) := by decide +kernel
theorem dX0_tally_12 : decode cX0_tally 12 = .ok (.imul, 1) := by decide +kernel
theorem dX0_tally_13 : decode cX0_tally 13 = .ok (.iload_n 2, 1) := by decide +kernel
theorem dX0_tally_14 : decode cX0_tally 14 = .ok (.iadd, 1) := by decide +kernel
theorem dX0_tally_15 : decode cX0_tally 15 = .ok (.dup2, 1) := by decide +kernel
theorem dX0_tally_16 : decode cX0_tally 16 = .ok (.iaload, 1) := by decide +kernel
theorem dX0_tally_17 : decode cX0_tally 17 = .ok (.iload_n 3, 1) := by decide +kernel
theorem dX0_tally_18 : decode cX0_tally 18 = .ok (.iadd, 1) := by decide +kernel
theorem dX0_tally_19 : decode cX0_tally 19 = .ok (.iastore, 1) := by decide +kernel
theorem dX0_tally_20 : decode cX0_tally 20 = .ok (.return_, 1) := by decide +kernel
theorem dX1_init_0 : decode cX1_init 0 = .ok (.aload_n 0, 1) := by decide +kernel
theorem dX1_init_1 : decode cX1_init 1 = .ok (.invokespecial 3, 3) := by decide +kernel
theorem dX1_init_4 : decode cX1_init 4 = .ok (.aload_n 0, 1) := by decide +kernel
theorem dX1_init_5 : decode cX1_init 5 = .ok (.bipush 8, 2) := by decide +kernel
theorem dX1_init_7 : decode cX1_init 7 = .ok (.newarray .int, 2) := by decide +kernel
theorem dX1_init_9 : decode cX1_init 9 = .ok (.putfield 9, 3) := by decide +kernel
theorem dX1_init_12 : decode cX1_init 12 = .ok (.aload_n 0, 1) := by decide +kernel
theorem dX1_init_13 : decode cX1_init 13 = .ok (.bipush 8, 2) := by decide +kernel
theorem dX1_init_15 : decode cX1_init 15 = .ok (.newarray .int, 2) := by decide +kernel
theorem dX1_init_17 : decode cX1_init 17 = .ok (.putfield 15, 3) := by decide +kernel
theorem dX1_init_20 : decode cX1_init 20 = .ok (.aload_n 0, 1) := by decide +kernel
theorem dX1_init_21 : decode cX1_init 21 = .ok (.bipush 8, 2) := by decide +kernel
theorem dX1_init_23 : decode cX1_init 23 = .ok (.newarray .int, 2) := by decide +kernel
theorem dX1_init_25 : decode cX1_init 25 = .ok (.putfield 18, 3) := by decide +kernel
theorem dX1_init_28 : decode cX1_init 28 = .ok (.aload_n 0, 1) := by decide +kernel
theorem dX1_init_29 : decode cX1_init 29 = .ok (.bipush 8, 2) := by decide +kernel
theorem dX1_init_31 : decode cX1_init 31 = .ok (.newarray .int, 2) := by decide +kernel
theorem dX1_init_33 : decode cX1_init 33 = .ok (.putfield 21, 3) := by decide +kernel
theorem dX1_init_36 : decode cX1_init 36 = .ok (.aload_n 0, 1) := by decide +kernel
theorem dX1_init_37 : decode cX1_init 37 = .ok (.bipush 8, 2) := by decide +kernel
theorem dX1_init_39 : decode cX1_init 39 = .ok (.newarray .int, 2) := by decide +kernel
theorem dX1_init_41 : decode cX1_init 41 = .ok (.putfield 24, 3) := by decide +kernel
theorem dX1_init_44 : decode cX1_init 44 = .ok (.aload_n 0, 1) := by decide +kernel
theorem dX1_init_45 : decode cX1_init 45 = .ok (.bipush 8, 2) := by decide +kernel
theorem dX1_init_47 : decode cX1_init 47 = .ok (.newarray .int, 2) := by decide +kernel
theorem dX1_init_49 : decode cX1_init 49 = .ok (.putfield 27, 3) := by decide +kernel
theorem dX1_init_52 : decode cX1_init 52 = .ok (.aload_n 0, 1) := by decide +kernel
theorem dX1_init_53 : decode cX1_init 53 = .ok (.bipush 8, 2) := by decide +kernel
theorem dX1_init_55 : decode cX1_init 55 = .ok (.newarray .int, 2) := by decide +kernel
theorem dX1_init_57 : decode cX1_init 57 = .ok (.putfield 30, 3) := by decide +kernel
theorem dX1_init_60 : decode cX1_init 60 = .ok (.return_, 1) := by decide +kernel
theorem dX1_isThere_0 : decode cX1_isThere 0 = .ok (.aload_n 0, 1) := by decide +kernel
theorem dX1_isThere_1 : decode cX1_isThere 1 = .ok (.getfield 15, 3) := by decide +kernel
theorem dX1_isThere_4 : decode cX1_isThere 4 = .ok (.iload_n 1, 1) := by decide +kernel
theorem dX1_isThere_5 : decode cX1_isThere 5 = .ok (.iaload, 1) := by decide +kernel
theorem dX1_isThere_6 : decode cX1_isThere 6 = .ok (.ifCond .le 7, 3) := by decide +kernel
theorem dX1_isThere_9 : decode cX1_isThere 9 = .ok (.iconst 1, 1) := by decide +kernel
theorem dX1_isThere_10 : decode cX1_isThere 10 = .ok (.goto 4, 3) := by decide +kernel
theorem dX1_isThere_13 : decode cX1_isThere 13 = .ok (.iconst 0, 1) := by decide +kernel
theorem dX1_isThere_14 : decode cX1_isThere 14 = .ok (.ireturn, 1) := by decide +kernel
theorem dX1_left_0 : decode cX1_left 0 = .ok (.aload_n 0, 1) := by decide +kernel
theorem dX1_left_1 : decode cX1_left 1 = .ok (.getfield 21, 3) := by decide +kernel
theorem dX1_left_4 : decode cX1_left 4 = .ok (.iload_n 1, 1) := by decide +kernel
theorem dX1_left_5 : decode cX1_left 5 = .ok (.iaload, 1) := by decide +kernel
theorem dX1_left_6 : decode cX1_left 6 = .ok (.aload_n 0, 1) := by decide +kernel
theorem dX1_left_7 : decode cX1_left 7 = .ok (.getfield 24, 3) := by decide +kernel
theorem dX1_left_10 : decode cX1_left 10 = .ok (.iload_n 1, 1) := by decide +kernel
theorem dX1_left_11 : decode cX1_left 11 = .ok (.iaload, 1) := by decide +kernel
theorem dX1_left_12 : decode cX1_left 12 = .ok (.isub, 1) := by decide +kernel
theorem dX1_left_13 : decode cX1_left 13 = .ok (.ireturn, 1) := by decide +kernel
theorem dX1_make_0 : decode cX1_make 0 = .ok (.aload_n 0, 1) := by decide +kernel
theorem dX1_make_1 : decode cX1_make 1 = .ok (.getfield 9, 3) := by decide +kernel
theorem dX1_make_4 : decode cX1_make 4 = .ok (.iload_n 1, 1) := by decide +kernel
theorem dX1_make_5 : decode cX1_make 5 = .ok (.iload_n 2, 1) := by decide +kernel
theorem dX1_make_6 : decode cX1_make 6 = .ok (.iastore, 1) := by decide +kernel
theorem dX1_make_7 : decode cX1_make 7 = .ok (.aload_n 0, 1) := by decide +kernel
theorem dX1_make_8 : decode cX1_make 8 = .ok (.getfield 15, 3) := by decide +kernel
theorem dX1_make_11 : decode cX1_make 11 = .ok (.iload_n 1, 1) := by decide +kernel
theorem dX1_make_12 : decode cX1_make 12 = .ok (.iload_n 3, 1) := by decide +kernel
theorem dX1_make_13 : decode cX1_make 13 = .ok (.iastore, 1) := by decide +kernel
theorem dX1_make_14 : decode cX1_make 14 = .ok (.aload_n 0, 1) := by decide +kernel
theorem dX1_make_15 : decode cX1_make 15 = .ok (.getfield 18, 3) := by decide +kernel
theorem dX1_make_18 : decode cX1_make 18 = .ok (.iload_n 1, 1) := by decide +kernel
theorem dX1_make_19 : decode cX1_make 19 = .ok (.iload 4, 2) := by decide +kernel
theorem dX1_make_21 : decode cX1_make 21 = .ok (.iastore, 1) := by decide +kernel
theorem dX1_make_22 : decode cX1_make 22 = .ok (.aload_n 0, 1) := by decide +kernel
theorem dX1_make_23 : decode cX1_make 23 = .ok (.getfield 21, 3) := by decide +kernel
theorem dX1_make_26 : decode cX1_make 26 = .ok (.iload_n 1, 1) := by decide +kernel
theorem dX1_make_27 : decode cX1_make 27 = .ok (.iload 5, 2) := by decide +kernel
theorem dX1_make_29 : decode cX1_make 29 = .ok (.iastore, 1) := by decide +kernel
theorem dX1_make_30 : decode cX1_make 30 = .ok (.aload_n 0, 1) := by decide +kernel
theorem dX1_make_31 : decode cX1_make 31 = .ok (.getfield 24, 3) := by decide +kernel
theorem dX1_make_34 : decode cX1_make 34 = .ok (.iload_n 1, 1) := by decide +kernel
theorem dX1_make_35 : decode cX1_make 35 = .ok (.iconst 0, 1) := by decide +kernel
theorem dX1_make_36 : decode cX1_make 36 = .ok (.iastore, 1) := by decide +kernel
theorem dX1_make_37 : decode cX1_make 37 = .ok (.aload_n 0, 1) := by decide +kernel
theorem dX1_make_38 : decode cX1_make 38 = .ok (.getfield 27, 3) := by decide +kernel
theorem dX1_make_41 : decode cX1_make 41 = .ok (.iload_n 1, 1) := by decide +kernel
theorem dX1_make_42 : decode cX1_make 42 = .ok (.iload 6, 2) := by decide +kernel
theorem dX1_make_44 : decode cX1_make 44 = .ok (.bipush 30, 2) := by decide +kernel
theorem dX1_make_46 : decode cX1_make 46 = .ok (.iadd, 1) := by decide +kernel
theorem dX1_make_47 : decode cX1_make 47 = .ok (.iastore, 1) := by decide +kernel
theorem dX1_make_48 : decode cX1_make 48 = .ok (.aload_n 0, 1) := by decide +kernel
theorem dX1_make_49 : decode cX1_make 49 = .ok (.getfield 30, 3) := by decide +kernel
theorem dX1_make_52 : decode cX1_make 52 = .ok (.iload_n 1, 1) := by decide +kernel
theorem dX1_make_53 : decode cX1_make 53 = .ok (.iload 6, 2) := by decide +kernel
theorem dX1_make_55 : decode cX1_make 55 = .ok (.bipush 10, 2) := by decide +kernel
theorem dX1_make_57 : decode cX1_make 57 = .ok (.iadd, 1) := by decide +kernel
theorem dX1_make_58 : decode cX1_make 58 = .ok (.iastore, 1) := by decide +kernel
theorem dX1_make_59 : decode cX1_make 59 = .ok (.return_, 1) := by decide +kernel
theorem dX1_prolong_0 : decode cX1_prolong 0 = .ok (.aload_n 0, 1) := by decide +kernel
theorem dX1_prolong_1 : decode cX1_prolong 1 = .ok (.getfield 30, 3) := by decide +kernel
theorem dX1_prolong_4 : decode cX1_prolong 4 = .ok (.iload_n 1, 1) := by decide +kernel
theorem dX1_prolong_5 : decode cX1_prolong 5 = .ok (.aload_n 0, 1) := by decide +kernel
theorem dX1_prolong_6 : decode cX1_prolong 6 = .ok (.getfield 30, 3) := by decide +kernel
theorem dX1_prolong_9 : decode cX1_prolong 9 = .ok (.iload_n 1, 1) := by decide +kernel
theorem dX1_prolong_10 : decode cX1_prolong 10 = .ok (.iaload, 1) := by decide +kernel
theorem dX1_prolong_11 : decode cX1_prolong 11 = .ok (.iconst 5, 1) := by decide +kernel
theorem dX1_prolong_12 : decode cX1_prolong 12 = .ok (.iadd, 1) := by decide +kernel
theorem dX1_prolong_13 : decode cX1_prolong 13 = .ok (.aload_n 0, 1) := by decide +kernel
theorem dX1_prolong_14 : decode cX1_prolong 14 = .ok (.getfield 27, 3) := by decide +kernel
theorem dX1_prolong_17 : decode cX1_prolong 17 = .ok (.iload_n 1, 1) := by decide +kernel
theorem dX1_prolong_18 : decode cX1_prolong 18 = .ok (.iaload, 1) := by decide +kernel
theorem dX1_prolong_19 : decode cX1_prolong 19 = .ok (.invokestatic 33, 3) := by decide +kernel
theorem dX1_prolong_22 : decode cX1_prolong 22 = .ok (.iastore, 1) := by decide +kernel
theorem dX1_prolong_23 : decode cX1_prolong 23 = .ok (.return_, 1) := by decide +kernel
theorem dX1_end_0 : decode cX1_end 0 = .ok (.aload_n 0, 1) := by decide +kernel
theorem dX1_end_1 : decode cX1_end 1 = .ok (.getfield 15, 3) := by decide +kernel
theorem dX1_end_4 : decode cX1_end 4 = .ok (.iload_n 1, 1) := by decide +kernel
theorem dX1_end_5 : decode cX1_end 5 = .ok (.iconst 0, 1) := by decide +kernel
theorem dX1_end_6 : decode cX1_end 6 = .ok (.iastore, 1) := by decide +kernel
theorem dX1_end_7 : decode cX1_end 7 = .ok (.return_, 1) := by decide +kernel
theorem dX2_init_0 : decode cX2_init 0 = .ok (.aload_n 0, 1) := by decide +kernel
theorem dX2_init_1 : decode cX2_init 1 = .ok (.invokespecial 3, 3) := by decide +kernel
theorem dX2_init_4 : decode cX2_init 4 = .ok (.aload_n 0, 1) := by decide +kernel
theorem dX2_init_5 : decode cX2_init 5 = .ok (.bipush 8, 2) := by decide +kernel
theorem dX2_init_7 : decode cX2_init 7 = .ok (.newarray .int, 2) := by decide +kernel
theorem dX2_init_9 : decode cX2_init 9 = .ok (.putfield 9, 3) := by decide +kernel
theorem dX2_init_12 : decode cX2_init 12 = .ok (.iconst 0, 1) := by decide +kernel
theorem dX2_init_13 : decode cX2_init 13 = .ok (.istore_n 1, 1) := by decide +kernel
theorem dX2_init_14 : decode cX2_init 14 = .ok (.iload_n 1, 1) := by decide +kernel
theorem dX2_init_15 : decode cX2_init 15 = .ok (.bipush 8, 2) := by decide +kernel
theorem dX2_init_17 : decode cX2_init 17 = .ok (.if_icmp .ge 16, 3) := by decide +kernel
theorem dX2_init_20 : decode cX2_init 20 = .ok (.aload_n 0, 1) := by decide +kernel
theorem dX2_init_21 : decode cX2_init 21 = .ok (.getfield 9, 3) := by decide +kernel
theorem dX2_init_24 : decode cX2_init 24 = .ok (.iload_n 1, 1) := by decide +kernel
theorem dX2_init_25 : decode cX2_init 25 = .ok (.iconst (-1), 1) := by decide +kernel
theorem dX2_init_26 : decode cX2_init 26 = .ok (.iastore, 1) := by decide +kernel
theorem dX2_init_27 : decode cX2_init 27 = .ok (.iinc 1 1, 3) := by decide +kernel
theorem dX2_init_30 : decode cX2_init 30 = .ok (.goto (-16), 3) := by decide +kernel
theorem dX2_init_33 : decode cX2_init 33 = .ok (.return_, 1) := by decide +kernel
theorem dX2_isIn_0 : decode cX2_isIn 0 = .ok (.aload_n 0, 1) := by decide +kernel
theorem dX2_isIn_1 : decode cX2_isIn 1 = .ok (.getfield 9, 3) := by decide +kernel
theorem dX2_isIn_4 : decode cX2_isIn 4 = .ok (.iload_n 1, 1) := by decide +kernel
theorem dX2_isIn_5 : decode cX2_isIn 5 = .ok (.iaload, 1) := by decide +kernel
theorem dX2_isIn_6 : decode cX2_isIn 6 = .ok (.iconst (-1), 1) := by decide +kernel
theorem dX2_isIn_7 : decode cX2_isIn 7 = .ok (.if_icmp .eq 7, 3) := by decide +kernel
theorem dX2_isIn_10 : decode cX2_isIn 10 = .ok (.iconst 1, 1) := by decide +kernel
theorem dX2_isIn_11 : decode cX2_isIn 11 = .ok (.goto 4, 3) := by decide +kernel
theorem dX2_isIn_14 : decode cX2_isIn 14 = .ok (.iconst 0, 1) := by decide +kernel
theorem dX2_isIn_15 : decode cX2_isIn 15 = .ok (.ireturn, 1) := by decide +kernel
theorem dX2_enter_0 : decode cX2_enter 0 = .ok (.aload_n 0, 1) := by decide +kernel
theorem dX2_enter_1 : decode cX2_enter 1 = .ok (.getfield 9, 3) := by decide +kernel
theorem dX2_enter_4 : decode cX2_enter 4 = .ok (.iload_n 1, 1) := by decide +kernel
theorem dX2_enter_5 : decode cX2_enter 5 = .ok (.iload_n 2, 1) := by decide +kernel
theorem dX2_enter_6 : decode cX2_enter 6 = .ok (.iastore, 1) := by decide +kernel
theorem dX2_enter_7 : decode cX2_enter 7 = .ok (.return_, 1) := by decide +kernel
theorem dX2_leave_0 : decode cX2_leave 0 = .ok (.aload_n 0, 1) := by decide +kernel
theorem dX2_leave_1 : decode cX2_leave 1 = .ok (.getfield 9, 3) := by decide +kernel
theorem dX2_leave_4 : decode cX2_leave 4 = .ok (.iload_n 1, 1) := by decide +kernel
theorem dX2_leave_5 : decode cX2_leave 5 = .ok (.iconst (-1), 1) := by decide +kernel
theorem dX2_leave_6 : decode cX2_leave 6 = .ok (.iastore, 1) := by decide +kernel
theorem dX2_leave_7 : decode cX2_leave 7 = .ok (.return_, 1) := by decide +kernel
set_option maxRecDepth 20000 in
theorem ggX2_length_X2_isIn : GoodIn wsX2_length wsX2_isIn := goodIn_r _ [5, 6, 7] (by decide +kernel) (by decide +kernel)
set_option maxRecDepth 20000 in
theorem gX2_length_X2_isIn : GoodIn wsX2_length (wsV RX2 15 RX2 yX2_isIn wsX2_isIn) := goodIn_app (goodIn_of _ (by decide +kernel)) ggX2_length_X2_isIn
theorem dX2_length_0 : decode cX2_length 0 = .ok (.iconst 0, 1) := by decide +kernel
theorem dX2_length_1 : decode cX2_length 1 = .ok (.istore_n 1, 1) := by decide +kernel
theorem dX2_length_2 : decode cX2_length 2 = .ok (.iconst 0, 1) := by decide +kernel
theorem dX2_length_3 : decode cX2_length 3 = .ok (.istore_n 2, 1) := by decide +kernel
theorem dX2_length_4 : decode cX2_length 4 = .ok (.iload_n 2, 1) := by decide +kernel
theorem dX2_length_5 : decode cX2_length 5 = .ok (.bipush 8, 2) := by decide +kernel
theorem dX2_length_7 : decode cX2_length 7 = .ok (.if_icmp .ge 20, 3) := by decide +kernel
theorem dX2_length_10 : decode cX2_length 10 = .ok (.aload_n 0, 1) := by decide +kernel
theorem dX2_length_11 : decode cX2_length 11 = .ok (.iload_n 2, 1) := by decide +kernel
theorem dX2_length_12 : decode cX2_length 12 = .ok (.invokevirtual 15, 3) := by decide +kernel
theorem dX2_length_15 : decode cX2_length 15 = .ok (.ifCond .eq 6, 3) := by decide +kernel
theorem dX2_length_18 : decode cX2_length 18 = .ok (.iinc 1 1, 3) := by decide +kernel
theorem dX2_length_21 : decode cX2_length 21 = .ok (.iinc 2 1, 3) := by decide +kernel
theorem dX2_length_24 : decode cX2_length 24 = .ok (.goto (-20), 3) := by decide +kernel
theorem dX2_length_27 : decode cX2_length 27 = .ok (.iload_n 1, 1) := by decide +kernel
theorem dX2_length_28 : decode cX2_length 28 = .ok (.ireturn, 1) := by decide +kernel
set_option maxRecDepth 20000 in
theorem ggX2_personAt_X2_isIn : GoodIn wsX2_personAt wsX2_isIn := goodIn_r _ [5, 6, 15] (by decide +kernel) (by decide +kernel)
set_option maxRecDepth 20000 in
theorem gX2_personAt_X2_isIn : GoodIn wsX2_personAt (wsV RX2 15 RX2 yX2_isIn wsX2_isIn) := goodIn_app (goodIn_of _ (by decide +kernel)) ggX2_personAt_X2_isIn
set_option maxRecDepth 20000 in
theorem ggX2_personAt_X2_placeOf : GoodIn wsX2_personAt wsX2_placeOf := goodIn_r _ [10, 1, 2, 3, 4, 5, 6, 11, 12, 13, 14, 15] (by decide +kernel) (by decide +kernel)
set_option maxRecDepth 20000 in
theorem gX2_personAt_X2_placeOf : GoodIn wsX2_personAt (wsV RX2 19 RX2 yX2_placeOf wsX2_placeOf) := goodIn_app (goodIn_of _ (by decide +kernel)) ggX2_personAt_X2_placeOf
theorem dX2_personAt_0 : decode cX2_personAt 0 = .ok (.iconst 0, 1) := by decide +kernel
theorem dX2_personAt_1 : decode cX2_personAt 1 = .ok (.istore_n 2, 1) := by decide +kernel
theorem dX2_personAt_2 : decode cX2_personAt 2 = .ok (.iload_n 2, 1) := by decide +kernel
theorem dX2_personAt_3 : decode cX2_personAt 3 = .ok (.bipush 8, 2) := by decide +kernel
theorem dX2_personAt_5 : decode cX2_personAt 5 = .ok (.if_icmp .ge 28, 3) := by decide +kernel
theorem dX2_personAt_8 : decode cX2_personAt 8 = .ok (.aload_n 0, 1) := by decide +kernel
theorem dX2_personAt_9 : decode cX2_personAt 9 = .ok (.iload_n 2, 1) := by decide +kernel
theorem dX2_personAt_10 : decode cX2_personAt 10 = .ok (.invokevirtual 15, 3) := by decide +kernel
theorem dX2_personAt_13 : decode cX2_personAt 13 = .ok (.ifCond .eq 14, 3) := by decide +kernel
theorem dX2_personAt_16 : decode cX2_personAt 16 = .ok (.aload_n 0, 1) := by decide +kernel
theorem dX2_personAt_17 : decode cX2_personAt 17 = .ok (.iload_n 2, 1) := by decide +kernel
theorem dX2_personAt_18 : decode cX2_personAt 18 = .ok (.invokevirtual 19, 3) := by decide +kernel
theorem dX2_personAt_21 : decode cX2_personAt 21 = .ok (.iload_n 1, 1) := by decide +kernel
theorem dX2_personAt_22 : decode cX2_personAt 22 = .ok (.if_icmp .ne 5, 3) := by decide +kernel
theorem dX2_personAt_25 : decode cX2_personAt 25 = .ok (.iload_n 2, 1) := by decide +kernel
theorem dX2_personAt_26 : decode cX2_personAt 26 = .ok (.ireturn, 1) := by decide +kernel
theorem dX2_personAt_27 : decode cX2_personAt 27 = .ok (.iinc 2 1, 3) := by decide +kernel
theorem dX2_personAt_30 : decode cX2_personAt 30 = .ok (.goto (-28), 3) := by decide +kernel
theorem dX2_personAt_33 : decode cX2_personAt 33 = .ok (.iconst (-1), 1) := by decide +kernel
theorem dX2_personAt_34 : decode cX2_personAt 34 = .ok (.ireturn, 1) := by decide +kernel
set_option maxRecDepth 20000 in
theorem ggX2_placeOf_X2_isIn : GoodIn wsX2_placeOf wsX2_isIn := goodIn_r _ [5, 6, 11] (by decide +kernel) (by decide +kernel)
set_option maxRecDepth 20000 in
theorem gX2_placeOf_X2_isIn : GoodIn wsX2_placeOf (wsV RX2 15 RX2 yX2_isIn wsX2_isIn) := goodIn_app (goodIn_of _ (by decide +kernel)) ggX2_placeOf_X2_isIn
set_option maxRecDepth 20000 in
theorem ggX2_placeOf_X2_rank : GoodIn wsX2_placeOf wsX2_rank := goodIn_r _ [10, 6, 11] (by decide +kernel) (by decide +kernel)
set_option maxRecDepth 20000 in
theorem gX2_placeOf_X2_rank : GoodIn wsX2_placeOf (wsV RX2 23 RX2 yX2_rank wsX2_rank) := goodIn_app (goodIn_of _ (by decide +kernel)) ggX2_placeOf_X2_rank
theorem dX2_placeOf_0 : decode cX2_placeOf 0 = .ok (.iconst 0, 1) := by decide +kernel
theorem dX2_placeOf_1 : decode cX2_placeOf 1 = .ok (.istore_n 2, 1) := by decide +kernel
theorem dX2_placeOf_2 : decode cX2_placeOf 2 = .ok (.iconst 0, 1) := by decide +kernel
theorem dX2_placeOf_3 : decode cX2_placeOf 3 = .ok (.istore_n 3, 1) := by decide +kernel
theorem dX2_placeOf_4 : decode cX2_placeOf 4 = .ok (.iload_n 3, 1) := by decide +kernel
theorem dX2_placeOf_5 : decode cX2_placeOf 5 = .ok (.bipush 8, 2) := by decide +kernel
theorem dX2_placeOf_7 : decode cX2_placeOf 7 = .ok (.if_icmp .ge 33, 3) := by decide +kernel
theorem dX2_placeOf_10 : decode cX2_placeOf 10 = .ok (.aload_n 0, 1) := by decide +kernel
theorem dX2_placeOf_11 : decode cX2_placeOf 11 = .ok (.iload_n 3, 1) := by decide +kernel
theorem dX2_placeOf_12 : decode cX2_placeOf 12 = .ok (.invokevirtual 15, 3) := by decide +kernel
theorem dX2_placeOf_15 : decode cX2_placeOf 15 = .ok (.ifCond .eq 19, 3) := by decide +kernel
theorem dX2_placeOf_18 : decode cX2_placeOf 18 = .ok (.aload_n 0, 1) := by decide +kernel
theorem dX2_placeOf_19 : decode cX2_placeOf 19 = .ok (.iload_n 3, 1) := by decide +kernel
theorem dX2_placeOf_20 : decode cX2_placeOf 20 = .ok (.invokevirtual 23, 3) := by decide +kernel
theorem dX2_placeOf_23 : decode cX2_placeOf 23 = .ok (.aload_n 0, 1) := by decide +kernel
theorem dX2_placeOf_24 : decode cX2_placeOf 24 = .ok (.iload_n 1, 1) := by decide +kernel
theorem dX2_placeOf_25 : decode cX2_placeOf 25 = .ok (.invokevirtual 23, 3) := by decide +kernel
theorem dX2_placeOf_28 : decode cX2_placeOf 28 = .ok (.if_icmp .ge 6, 3) := by decide +kernel
theorem dX2_placeOf_31 : decode cX2_placeOf 31 = .ok (.iinc 2 1, 3) := by decide +kernel
theorem dX2_placeOf_34 : decode cX2_placeOf 34 = .ok (.iinc 3 1, 3) := by decide +kernel
theorem dX2_placeOf_37 : decode cX2_placeOf 37 = .ok (.goto (-33), 3) := by decide +kernel
theorem dX2_placeOf_40 : decode cX2_placeOf 40 = .ok (.iload_n 2, 1) := by decide +kernel
theorem dX2_placeOf_41 : decode cX2_placeOf 41 = .ok (.ireturn, 1) := by decide +kernel
theorem dX2_rank_0 : decode cX2_rank 0 = .ok (.aload_n 0, 1) := by decide +kernel
theorem dX2_rank_1 : decode cX2_rank 1 = .ok (.getfield 9, 3) := by decide +kernel
theorem dX2_rank_4 : decode cX2_rank 4 = .ok (.iload_n 1, 1) := by decide +kernel
theorem dX2_rank_5 : decode cX2_rank 5 = .ok (.iaload, 1) := by decide +kernel
theorem dX2_rank_6 : decode cX2_rank 6 = .ok (.istore_n 2, 1) := by decide +kernel
theorem dX2_rank_7 : decode cX2_rank 7 = .ok (.bipush 8, 2) := by decide +kernel
theorem dX2_rank_9 : decode cX2_rank 9 = .ok (.iload_n 2, 1) := by decide +kernel
theorem dX2_rank_10 : decode cX2_rank 10 = .ok (.imul, 1) := by decide +kernel
theorem dX2_rank_11 : decode cX2_rank 11 = .ok (.iconst 5, 1) := by decide +kernel
theorem dX2_rank_12 : decode cX2_rank 12 = .ok (.iload_n 1, 1) := by decide +kernel
theorem dX2_rank_13 : decode cX2_rank 13 = .ok (.imul, 1) := by decide +kernel
theorem dX2_rank_14 : decode cX2_rank 14 = .ok (.iconst 3, 1) := by decide +kernel
theorem dX2_rank_15 : decode cX2_rank 15 = .ok (.iload_n 2, 1) := by decide +kernel
theorem dX2_rank_16 : decode cX2_rank 16 = .ok (.imul, 1) := by decide +kernel
theorem dX2_rank_17 : decode cX2_rank 17 = .ok (.iadd, 1) := by decide +kernel
theorem dX2_rank_18 : decode cX2_rank 18 = .ok (.bipush 8, 2) := by decide +kernel
theorem dX2_rank_20 : decode cX2_rank 20 = .ok (.irem, 1) := by decide +kernel
theorem dX2_rank_21 : decode cX2_rank 21 = .ok (.iadd, 1) := by decide +kernel
theorem dX2_rank_22 : decode cX2_rank 22 = .ok (.ireturn, 1) := by decide +kernel
theorem dX3_init_0 : decode cX3_init 0 = .ok (.aload_n 0, 1) := by decide +kernel
theorem dX3_init_1 : decode cX3_init 1 = .ok (.invokespecial 3, 3) := by decide +kernel
theorem dX3_init_4 : decode cX3_init 4 = .ok (.aload_n 0, 1) := by decide +kernel
theorem dX3_init_5 : decode cX3_init 5 = .ok (.iconst 0, 1) := by decide +kernel
theorem dX3_init_6 : decode cX3_init 6 = .ok (.putfield 9, 3) := by decide +kernel
theorem dX3_init_9 : decode cX3_init 9 = .ok (.aload_n 0, 1) := by decide +kernel
theorem dX3_init_10 : decode cX3_init 10 = .ok (.sipush 170, 3) := by decide +kernel
theorem dX3_init_13 : decode cX3_init 13 = .ok (.newarray .int, 2) := by decide +kernel
theorem dX3_init_15 : decode cX3_init 15 = .ok (.putfield 15, 3) := by decide +kernel
theorem dX3_init_18 : decode cX3_init 18 = .ok (.aload_n 0, 1) := by decide +kernel
theorem dX3_init_19 : decode cX3_init 19 = .ok (.sipush 170, 3) := by decide +kernel
theorem dX3_init_22 : decode cX3_init 22 = .ok (.newarray .int, 2) := by decide +kernel
theorem dX3_init_24 : decode cX3_init 24 = .ok (.putfield 19, 3) := by decide +kernel
theorem dX3_init_27 : decode cX3_init 27 = .ok (.aload_n 0, 1) := by decide +kernel
theorem dX3_init_28 : decode cX3_init 28 = .ok (.sipush 170, 3) := by decide +kernel
theorem dX3_init_31 : decode cX3_init 31 = .ok (.newarray .int, 2) := by decide +kernel
theorem dX3_init_33 : decode cX3_init 33 = .ok (.putfield 22, 3) := by decide +kernel
theorem dX3_init_36 : decode cX3_init 36 = .ok (.return_, 1) := by decide +kernel
theorem dX3_add_0 : decode cX3_add 0 = .ok (.aload_n 0, 1) := by decide +kernel
theorem dX3_add_1 : decode cX3_add 1 = .ok (.getfield 9, 3) := by decide +kernel
theorem dX3_add_4 : decode cX3_add 4 = .ok (.sipush 170, 3) := by decide +kernel
theorem dX3_add_7 : decode cX3_add 7 = .ok (.if_icmp .lt 4, 3) := by decide +kernel
theorem dX3_add_10 : decode cX3_add 10 = .ok (.return_, 1) := by decide +kernel
theorem dX3_add_11 : decode cX3_add 11 = .ok (.aload_n 0, 1) := by decide +kernel
theorem dX3_add_12 : decode cX3_add 12 = .ok (.getfield 15, 3) := by decide +kernel
theorem dX3_add_15 : decode cX3_add 15 = .ok (.aload_n 0, 1) := by decide +kernel
theorem dX3_add_16 : decode cX3_add 16 = .ok (.getfield 9, 3) := by decide +kernel
theorem dX3_add_19 : decode cX3_add 19 = .ok (.iload_n 1, 1) := by decide +kernel
theorem dX3_add_20 : decode cX3_add 20 = .ok (.iastore, 1) := by decide +kernel
theorem dX3_add_21 : decode cX3_add 21 = .ok (.aload_n 0, 1) := by decide +kernel
theorem dX3_add_22 : decode cX3_add 22 = .ok (.getfield 19, 3) := by decide +kernel
theorem dX3_add_25 : decode cX3_add 25 = .ok (.aload_n 0, 1) := by decide +kernel
theorem dX3_add_26 : decode cX3_add 26 = .ok (.getfield 9, 3) := by decide +kernel
theorem dX3_add_29 : decode cX3_add 29 = .ok (.iload_n 2, 1) := by decide +kernel
theorem dX3_add_30 : decode cX3_add 30 = .ok (.iastore, 1) := by decide +kernel
theorem dX3_add_31 : decode cX3_add 31 = .ok (.aload_n 0, 1) := by decide +kernel
theorem dX3_add_32 : decode cX3_add 32 = .ok (.getfield 22, 3) := by decide +kernel
theorem dX3_add_35 : decode cX3_add 35 = .ok (.aload_n 0, 1) := by decide +kernel
theorem dX3_add_36 : decode cX3_add 36 = .ok (.getfield 9, 3) := by decide +kernel
theorem dX3_add_39 : decode cX3_add 39 = .ok (.iload_n 3, 1) := by decide +kernel
theorem dX3_add_40 : decode cX3_add 40 = .ok (.iastore, 1) := by decide +kernel
theorem dX3_add_41 : decode cX3_add 41 = .ok (.aload_n 0, 1) := by decide +kernel
theorem dX3_add_42 : decode cX3_add 42 = .ok (.dup, 1) := by decide +kernel
theorem dX3_add_43 : decode cX3_add 43 = .ok (.getfield 9, 3) := by decide +kernel
theorem dX3_add_46 : decode cX3_add 46 = .ok (.iconst 1, 1) := by decide +kernel
theorem dX3_add_47 : decode cX3_add 47 = .ok (.iadd, 1) := by decide +kernel
theorem dX3_add_48 : decode cX3_add 48 = .ok (.putfield 9, 3) := by decide +kernel
theorem dX3_add_51 : decode cX3_add 51 = .ok (.return_, 1) := by decide +kernel
theorem dX3_lastBuyerOf_0 : decode cX3_lastBuyerOf 0 = .ok (.iconst (-1), 1) := by decide +kernel
theorem dX3_lastBuyerOf_1 : decode cX3_lastBuyerOf 1 = .ok (.istore_n 2, 1) := by decide +kernel
theorem dX3_lastBuyerOf_2 : decode cX3_lastBuyerOf 2 = .ok (.iconst 0, 1) := by decide +kernel
theorem dX3_lastBuyerOf_3 : decode cX3_lastBuyerOf 3 = .ok (.istore_n 3, 1) := by decide +kernel
theorem dX3_lastBuyerOf_4 : decode cX3_lastBuyerOf 4 = .ok (.iload_n 3, 1) := by decide +kernel
theorem dX3_lastBuyerOf_5 : decode cX3_lastBuyerOf 5 = .ok (.aload_n 0, 1) := by decide +kernel
theorem dX3_lastBuyerOf_6 : decode cX3_lastBuyerOf 6 = .ok (.getfield 9, 3) := by decide +kernel
theorem dX3_lastBuyerOf_9 : decode cX3_lastBuyerOf 9 = .ok (.if_icmp .ge 43, 3) := by decide +kernel
theorem dX3_lastBuyerOf_12 : decode cX3_lastBuyerOf 12 = .ok (.aload_n 0, 1) := by decide +kernel
theorem dX3_lastBuyerOf_13 : decode cX3_lastBuyerOf 13 = .ok (.getfield 15, 3) := by decide +kernel
theorem dX3_lastBuyerOf_16 : decode cX3_lastBuyerOf 16 = .ok (.iload_n 3, 1) := by decide +kernel
theorem dX3_lastBuyerOf_17 : decode cX3_lastBuyerOf 17 = .ok (.iaload, 1) := by decide +kernel
theorem dX3_lastBuyerOf_18 : decode cX3_lastBuyerOf 18 = .ok (.iload_n 1, 1) := by decide +kernel
theorem dX3_lastBuyerOf_19 : decode cX3_lastBuyerOf 19 = .ok (.if_icmp .gt 27, 3) := by decide +kernel
theorem dX3_lastBuyerOf_22 : decode cX3_lastBuyerOf 22 = .ok (.iload_n 1, 1) := by decide +kernel
theorem dX3_lastBuyerOf_23 : decode cX3_lastBuyerOf 23 = .ok (.aload_n 0, 1) := by decide +kernel
theorem dX3_lastBuyerOf_24 : decode cX3_lastBuyerOf 24 = .ok (.getfield 15, 3) := by decide +kernel
theorem dX3_lastBuyerOf_27 : decode cX3_lastBuyerOf 27 = .ok (.iload_n 3, 1) := by decide +kernel
theorem dX3_lastBuyerOf_28 : decode cX3_lastBuyerOf 28 = .ok (.iaload, 1) := by decide +kernel
theorem dX3_lastBuyerOf_29 : decode cX3_lastBuyerOf 29 = .ok (.aload_n 0, 1) := by decide +kernel
theorem dX3_lastBuyerOf_30 : decode cX3_lastBuyerOf 30 = .ok (.getfield 19, 3) := by decide +kernel
theorem dX3_lastBuyerOf_33 : decode cX3_lastBuyerOf 33 = .ok (.iload_n 3, 1) := by decide +kernel
theorem dX3_lastBuyerOf_34 : decode cX3_lastBuyerOf 34 = .ok (.iaload, 1) := by decide +kernel
theorem dX3_lastBuyerOf_35 : decode cX3_lastBuyerOf 35 = .ok (.iadd, 1) := by decide +kernel
theorem dX3_lastBuyerOf_36 : decode cX3_lastBuyerOf 36 = .ok (.if_icmp .ge 10, 3) := by decide +kernel
theorem dX3_lastBuyerOf_39 : decode cX3_lastBuyerOf 39 = .ok (.aload_n 0, 1) := by decide +kernel
theorem dX3_lastBuyerOf_40 : decode cX3_lastBuyerOf 40 = .ok (.getfield 22, 3) := by decide +kernel
theorem dX3_lastBuyerOf_43 : decode cX3_lastBuyerOf 43 = .ok (.iload_n 3, 1) := by decide +kernel
theorem dX3_lastBuyerOf_44 : decode cX3_lastBuyerOf 44 = .ok (.iaload, 1) := by decide +kernel
theorem dX3_lastBuyerOf_45 : decode cX3_lastBuyerOf 45 = .ok (.istore_n 2, 1) := by decide +kernel
theorem dX3_lastBuyerOf_46 : decode cX3_lastBuyerOf 46 = .ok (.iinc 3 1, 3) := by decide +kernel
theorem dX3_lastBuyerOf_49 : decode cX3_lastBuyerOf 49 = .ok (.goto (-45), 3) := by decide +kernel
theorem dX3_lastBuyerOf_52 : decode cX3_lastBuyerOf 52 = .ok (.iload_n 2, 1) := by decide +kernel
theorem dX3_lastBuyerOf_53 : decode cX3_lastBuyerOf 53 = .ok (.ireturn, 1) := by decide +kernel
theorem dX4_init_0 : decode cX4_init 0 = .ok (.aload_n 0, 1) := by decide +kernel
theorem dX4_init_1 : decode cX4_init 1 = .ok (.invokespecial 3, 3) := by decide +kernel
theorem dX4_init_4 : decode cX4_init 4 = .ok (.aload_n 0, 1) := by decide +kernel
theorem dX4_init_5 : decode cX4_init 5 = .ok (.bipush 60, 2) := by decide +kernel
theorem dX4_init_7 : decode cX4_init 7 = .ok (.newarray .boolean, 2) := by decide +kernel
theorem dX4_init_9 : decode cX4_init 9 = .ok (.putfield 9, 3) := by decide +kernel
theorem dX4_init_12 : decode cX4_init 12 = .ok (.aload_n 0, 1) := by decide +kernel
theorem dX4_init_13 : decode cX4_init 13 = .ok (.bipush 60, 2) := by decide +kernel
theorem dX4_init_15 : decode cX4_init 15 = .ok (.newarray .boolean, 2) := by decide +kernel
theorem dX4_init_17 : decode cX4_init 17 = .ok (.putfield 15, 3) := by decide +kernel
theorem dX4_init_20 : decode cX4_init 20 = .ok (.aload_n 0, 1) := by decide +kernel
theorem dX4_init_21 : decode cX4_init 21 = .ok (.bipush 60, 2) := by decide +kernel
theorem dX4_init_23 : decode cX4_init 23 = .ok (.newarray .int, 2) := by decide +kernel
theorem dX4_init_25 : decode cX4_init 25 = .ok (.putfield 18, 3) := by decide +kernel
theorem dX4_init_28 : decode cX4_init 28 = .ok (.aload_n 0, 1) := by decide +kernel
theorem dX4_init_29 : decode cX4_init 29 = .ok (.bipush 60, 2) := by decide +kernel
theorem dX4_init_31 : decode cX4_init 31 = .ok (.newarray .int, 2) := by decide +kernel
theorem dX4_init_33 : decode cX4_init 33 = .ok (.putfield 22, 3) := by decide +kernel
theorem dX4_init_36 : decode cX4_init 36 = .ok (.aload_n 0, 1) := by decide +kernel
theorem dX4_init_37 : decode cX4_init 37 = .ok (.bipush 60, 2) := by decide +kernel
theorem dX4_init_39 : decode cX4_init 39 = .ok (.newarray .int, 2) := by decide +kernel
theorem dX4_init_41 : decode cX4_init 41 = .ok (.putfield 25, 3) := by decide +kernel
theorem dX4_init_44 : decode cX4_init 44 = .ok (.iconst 0, 1) := by decide +kernel
theorem dX4_init_45 : decode cX4_init 45 = .ok (.istore_n 1, 1) := by decide +kernel
theorem dX4_init_46 : decode cX4_init 46 = .ok (.iload_n 1, 1) := by decide +kernel
theorem dX4_init_47 : decode cX4_init 47 = .ok (.bipush 60, 2) := by decide +kernel
theorem dX4_init_49 : decode cX4_init 49 = .ok (.if_icmp .ge 32, 3) := by decide +kernel
theorem dX4_init_52 : decode cX4_init 52 = .ok (.aload_n 0, 1) := by decide +kernel
theorem dX4_init_53 : decode cX4_init 53 = .ok (.getfield 18, 3) := by decide +kernel
theorem dX4_init_56 : decode cX4_init 56 = .ok (.iload_n 1, 1) := by decide +kernel
theorem dX4_init_57 : decode cX4_init 57 = .ok (.iconst (-1), 1) := by decide +kernel
theorem dX4_init_58 : decode cX4_init 58 = .ok (.iastore, 1) := by decide +kernel
theorem dX4_init_59 : decode cX4_init 59 = .ok (.aload_n 0, 1) := by decide +kernel
theorem dX4_init_60 : decode cX4_init 60 = .ok (.getfield 22, 3) := by decide +kernel
theorem dX4_init_63 : decode cX4_init 63 = .ok (.iload_n 1, 1) := by decide +kernel
theorem dX4_init_64 : decode cX4_init 64 = .ok (.bipush 100, 2) := by decide +kernel
theorem dX4_init_66 : decode cX4_init 66 = .ok (.bipush 10, 2) := by decide +kernel
theorem dX4_init_68 : decode cX4_init 68 = .ok (.iload_n 1, 1) := by decide +kernel
theorem dX4_init_69 : decode cX4_init 69 = .ok (.bipush 10, 2) := by decide +kernel
theorem dX4_init_71 : decode cX4_init 71 = .ok (.idiv, 1) := by decide +kernel
theorem dX4_init_72 : decode cX4_init 72 = .ok (.imul, 1) := by decide +kernel
theorem dX4_init_73 : decode cX4_init 73 = .ok (.isub, 1) := by decide +kernel
theorem dX4_init_74 : decode cX4_init 74 = .ok (.iastore, 1) := by decide +kernel
theorem dX4_init_75 : decode cX4_init 75 = .ok (.iinc 1 1, 3) := by decide +kernel
theorem dX4_init_78 : decode cX4_init 78 = .ok (.goto (-32), 3) := by decide +kernel
theorem dX4_init_81 : decode cX4_init 81 = .ok (.return_, 1) := by decide +kernel
theorem dX4_stateOf_0 : decode cX4_stateOf 0 = .ok (.aload_n 0, 1) := by decide +kernel
theorem dX4_stateOf_1 : decode cX4_stateOf 1 = .ok (.getfield 9, 3) := by decide +kernel
theorem dX4_stateOf_4 : decode cX4_stateOf 4 = .ok (.iload_n 1, 1) := by decide +kernel
theorem dX4_stateOf_5 : decode cX4_stateOf 5 = .ok (.baload, 1) := by decide +kernel
theorem dX4_stateOf_6 : decode cX4_stateOf 6 = .ok (.ifCond .eq 5, 3) := by decide +kernel
theorem dX4_stateOf_9 : decode cX4_stateOf 9 = .ok (.iconst 1, 1) := by decide +kernel
theorem dX4_stateOf_10 : decode cX4_stateOf 10 = .ok (.ireturn, 1) := by decide +kernel
theorem dX4_stateOf_11 : decode cX4_stateOf 11 = .ok (.aload_n 0, 1) := by decide +kernel
theorem dX4_stateOf_12 : decode cX4_stateOf 12 = .ok (.getfield 18, 3) := by decide +kernel
theorem dX4_stateOf_15 : decode cX4_stateOf 15 = .ok (.iload_n 1, 1) := by decide +kernel
theorem dX4_stateOf_16 : decode cX4_stateOf 16 = .ok (.iaload, 1) := by decide +kernel
theorem dX4_stateOf_17 : decode cX4_stateOf 17 = .ok (.iconst (-1), 1) := by decide +kernel
theorem dX4_stateOf_18 : decode cX4_stateOf 18 = .ok (.if_icmp .ne 5, 3) := by decide +kernel
theorem dX4_stateOf_21 : decode cX4_stateOf 21 = .ok (.iconst 0, 1) := by decide +kernel
theorem dX4_stateOf_22 : decode cX4_stateOf 22 = .ok (.ireturn, 1) := by decide +kernel
theorem dX4_stateOf_23 : decode cX4_stateOf 23 = .ok (.aload_n 0, 1) := by decide +kernel
theorem dX4_stateOf_24 : decode cX4_stateOf 24 = .ok (.getfield 15, 3) := by decide +kernel
theorem dX4_stateOf_27 : decode cX4_stateOf 27 = .ok (.iload_n 1, 1) := by decide +kernel
theorem dX4_stateOf_28 : decode cX4_stateOf 28 = .ok (.baload, 1) := by decide +kernel
theorem dX4_stateOf_29 : decode cX4_stateOf 29 = .ok (.ifCond .eq 7, 3) := by decide +kernel
theorem dX4_stateOf_32 : decode cX4_stateOf 32 = .ok (.iconst 3, 1) := by decide +kernel
theorem dX4_stateOf_33 : decode cX4_stateOf 33 = .ok (.goto 4, 3) := by decide +kernel
theorem dX4_stateOf_36 : decode cX4_stateOf 36 = .ok (.iconst 2, 1) := by decide +kernel
theorem dX4_stateOf_37 : decode cX4_stateOf 37 = .ok (.ireturn, 1) := by decide +kernel
set_option maxRecDepth 20000 in
theorem ggX4_isOpen_X4_stateOf : GoodIn wsX4_isOpen wsX4_stateOf := goodIn_r _ [5, 6, 7, 8, 9, 10, 11, 12, 13] (by decide +kernel) (by decide +kernel)
set_option maxRecDepth 20000 in
theorem gX4_isOpen_X4_stateOf : GoodIn wsX4_isOpen (wsV RX4 28 RX4 yX4_stateOf wsX4_stateOf) := goodIn_app (goodIn_of _ (by decide +kernel)) ggX4_isOpen_X4_stateOf
theorem dX4_isOpen_0 : decode cX4_isOpen 0 = .ok (.iload_n 2, 1) := by decide +kernel
theorem dX4_isOpen_1 : decode cX4_isOpen 1 = .ok (.ifCond .lt 9, 3) := by decide +kernel
theorem dX4_isOpen_4 : decode cX4_isOpen 4 = .ok (.iload_n 2, 1) := by decide +kernel
theorem dX4_isOpen_5 : decode cX4_isOpen 5 = .ok (.bipush 10, 2) := by decide +kernel
theorem dX4_isOpen_7 : decode cX4_isOpen 7 = .ok (.if_icmp .lt 5, 3) := by decide +kernel
theorem dX4_isOpen_10 : decode cX4_isOpen 10 = .ok (.iconst 0, 1) := by decide +kernel
theorem dX4_isOpen_11 : decode cX4_isOpen 11 = .ok (.ireturn, 1) := by decide +kernel
theorem dX4_isOpen_12 : decode cX4_isOpen 12 = .ok (.aload_n 0, 1) := by decide +kernel
theorem dX4_isOpen_13 : decode cX4_isOpen 13 = .ok (.bipush 10, 2) := by decide +kernel
theorem dX4_isOpen_15 : decode cX4_isOpen 15 = .ok (.iload_n 1, 1) := by decide +kernel
theorem dX4_isOpen_16 : decode cX4_isOpen 16 = .ok (.imul, 1) := by decide +kernel
theorem dX4_isOpen_17 : decode cX4_isOpen 17 = .ok (.iload_n 2, 1) := by decide +kernel
theorem dX4_isOpen_18 : decode cX4_isOpen 18 = .ok (.iadd, 1) := by decide +kernel
theorem dX4_isOpen_19 : decode cX4_isOpen 19 = .ok (.invokevirtual 28, 3) := by decide +kernel
theorem dX4_isOpen_22 : decode cX4_isOpen 22 = .ok (.istore_n 3, 1) := by decide +kernel
theorem dX4_isOpen_23 : decode cX4_isOpen 23 = .ok (.iload_n 3, 1) := by decide +kernel
theorem dX4_isOpen_24 : decode cX4_isOpen 24 = .ok (.ifCond .eq 8, 3) := by decide +kernel
theorem dX4_isOpen_27 : decode cX4_isOpen 27 = .ok (.iload_n 3, 1) := by decide +kernel
theorem dX4_isOpen_28 : decode cX4_isOpen 28 = .ok (.iconst 3, 1) := by decide +kernel
theorem dX4_isOpen_29 : decode cX4_isOpen 29 = .ok (.if_icmp .ne 7, 3) := by decide +kernel
theorem dX4_isOpen_32 : decode cX4_isOpen 32 = .ok (.iconst 1, 1) := by decide +kernel
theorem dX4_isOpen_33 : decode cX4_isOpen 33 = .ok (.goto 4, 3) := by decide +kernel
theorem dX4_isOpen_36 : decode cX4_isOpen 36 = .ok (.iconst 0, 1) := by decide +kernel
theorem dX4_isOpen_37 : decode cX4_isOpen 37 = .ok (.ireturn, 1) := by decide +kernel
set_option maxRecDepth 20000 in
theorem ggX4_leavesSingle_X4_isOpen : GoodIn wsX4_leavesSingle wsX4_isOpen := goodIn_r _ [5, 6, 7, 8, 4, 9, 10, 11, 12, 13, 14, 15, 16, 17] (by decide +kernel) (by decide +kernel)
set_option maxRecDepth 20000 in
theorem gX4_leavesSingle_X4_isOpen : GoodIn wsX4_leavesSingle (wsV RX4 32 RX4 yX4_isOpen wsX4_isOpen) := goodIn_app (goodIn_of _ (by decide +kernel)) ggX4_leavesSingle_X4_isOpen
theorem dX4_leavesSingle_0 : decode cX4_leavesSingle 0 = .ok (.iload_n 2, 1) := by decide +kernel
theorem dX4_leavesSingle_1 : decode cX4_leavesSingle 1 = .ok (.iload_n 3, 1) := by decide +kernel
theorem dX4_leavesSingle_2 : decode cX4_leavesSingle 2 = .ok (.iadd, 1) := by decide +kernel
theorem dX4_leavesSingle_3 : decode cX4_leavesSingle 3 = .ok (.istore 4, 2) := by decide +kernel
theorem dX4_leavesSingle_5 : decode cX4_leavesSingle 5 = .ok (.aload_n 0, 1) := by decide +kernel
theorem dX4_leavesSingle_6 : decode cX4_leavesSingle 6 = .ok (.iload_n 1, 1) := by decide +kernel
theorem dX4_leavesSingle_7 : decode cX4_leavesSingle 7 = .ok (.iload_n 2, 1) := by decide +kernel
theorem dX4_leavesSingle_8 : decode cX4_leavesSingle 8 = .ok (.iconst 1, 1) := by decide +kernel
theorem dX4_leavesSingle_9 : decode cX4_leavesSingle 9 = .ok (.isub, 1) := by decide +kernel
theorem dX4_leavesSingle_10 : decode cX4_leavesSingle 10 = .ok (.invokevirtual 32, 3) := by decide +kernel
theorem dX4_leavesSingle_13 : decode cX4_leavesSingle 13 = .ok (.ifCond .eq 14, 3) := by decide +kernel
theorem dX4_leavesSingle_16 : decode cX4_leavesSingle 16 = .ok (.aload_n 0, 1) := by decide +kernel
theorem dX4_leavesSingle_17 : decode cX4_leavesSingle 17 = .ok (.iload_n 1, 1) := by decide +kernel
theorem dX4_leavesSingle_18 : decode cX4_leavesSingle 18 = .ok (.iload_n 2, 1) := by decide +kernel
theorem dX4_leavesSingle_19 : decode cX4_leavesSingle 19 = .ok (.iconst 2, 1) := by decide +kernel
theorem dX4_leavesSingle_20 : decode cX4_leavesSingle 20 = .ok (.isub, 1) := by decide +kernel
theorem dX4_leavesSingle_21 : decode cX4_leavesSingle 21 = .ok (.invokevirtual 32, 3) := by decide +kernel
theorem dX4_leavesSingle_24 : decode cX4_leavesSingle 24 = .ok (.ifCond .eq 25, 3) := by decide +kernel
theorem dX4_leavesSingle_27 : decode cX4_leavesSingle 27 = .ok (.aload_n 0, 1) := by decide +kernel
theorem dX4_leavesSingle_28 : decode cX4_leavesSingle 28 = .ok (.iload_n 1, 1) := by decide +kernel
theorem dX4_leavesSingle_29 : decode cX4_leavesSingle 29 = .ok (.iload 4, 2) := by decide +kernel
theorem dX4_leavesSingle_31 : decode cX4_leavesSingle 31 = .ok (.invokevirtual 32, 3) := by decide +kernel
theorem dX4_leavesSingle_34 : decode cX4_leavesSingle 34 = .ok (.ifCond .eq 19, 3) := by decide +kernel
theorem dX4_leavesSingle_37 : decode cX4_leavesSingle 37 = .ok (.aload_n 0, 1) := by decide +kernel
theorem dX4_leavesSingle_38 : decode cX4_leavesSingle 38 = .ok (.iload_n 1, 1) := by decide +kernel
theorem dX4_leavesSingle_39 : decode cX4_leavesSingle 39 = .ok (.iload 4, 2) := by decide +kernel
theorem dX4_leavesSingle_41 : decode cX4_leavesSingle 41 = .ok (.iconst 1, 1) := by decide +kernel
theorem dX4_leavesSingle_42 : decode cX4_leavesSingle 42 = .ok (.iadd, 1) := by decide +kernel
theorem dX4_leavesSingle_43 : decode cX4_leavesSingle 43 = .ok (.invokevirtual 32, 3) := by decide +kernel
theorem dX4_leavesSingle_46 : decode cX4_leavesSingle 46 = .ok (.ifCond .ne 7, 3) := by decide +kernel
theorem dX4_leavesSingle_49 : decode cX4_leavesSingle 49 = .ok (.iconst 1, 1) := by decide +kernel
theorem dX4_leavesSingle_50 : decode cX4_leavesSingle 50 = .ok (.goto 4, 3) := by decide +kernel
theorem dX4_leavesSingle_53 : decode cX4_leavesSingle 53 = .ok (.iconst 0, 1) := by decide +kernel
theorem dX4_leavesSingle_54 : decode cX4_leavesSingle 54 = .ok (.ireturn, 1) := by decide +kernel
theorem dX4_lock_0 : decode cX4_lock 0 = .ok (.iconst 0, 1) := by decide +kernel
theorem dX4_lock_1 : decode cX4_lock 1 = .ok (.istore_n 3, 1) := by decide +kernel
theorem dX4_lock_2 : decode cX4_lock 2 = .ok (.iload_n 1, 1) := by decide +kernel
theorem dX4_lock_3 : decode cX4_lock 3 = .ok (.istore 4, 2) := by decide +kernel
theorem dX4_lock_5 : decode cX4_lock 5 = .ok (.iload 4, 2) := by decide +kernel
theorem dX4_lock_7 : decode cX4_lock 7 = .ok (.iload_n 1, 1) := by decide +kernel
theorem dX4_lock_8 : decode cX4_lock 8 = .ok (.iload_n 2, 1) := by decide +kernel
theorem dX4_lock_9 : decode cX4_lock 9 = .ok (.iadd, 1) := by decide +kernel
theorem dX4_lock_10 : decode cX4_lock 10 = .ok (.if_icmp .ge 27, 3) := by decide +kernel
theorem dX4_lock_13 : decode cX4_lock 13 = .ok (.aload_n 0, 1) := by decide +kernel
theorem dX4_lock_14 : decode cX4_lock 14 = .ok (.getfield 9, 3) := by decide +kernel
theorem dX4_lock_17 : decode cX4_lock 17 = .ok (.iload 4, 2) := by decide +kernel
theorem dX4_lock_19 : decode cX4_lock 19 = .ok (.iconst 1, 1) := by decide +kernel
theorem dX4_lock_20 : decode cX4_lock 20 = .ok (.bastore, 1) := by decide +kernel
theorem dX4_lock_21 : decode cX4_lock 21 = .ok (.iload_n 3, 1) := by decide +kernel
theorem dX4_lock_22 : decode cX4_lock 22 = .ok (.aload_n 0, 1) := by decide +kernel
theorem dX4_lock_23 : decode cX4_lock 23 = .ok (.getfield 22, 3) := by decide +kernel
theorem dX4_lock_26 : decode cX4_lock 26 = .ok (.iload 4, 2) := by decide +kernel
theorem dX4_lock_28 : decode cX4_lock 28 = .ok (.iaload, 1) := by decide +kernel
theorem dX4_lock_29 : decode cX4_lock 29 = .ok (.iadd, 1) := by decide +kernel
theorem dX4_lock_30 : decode cX4_lock 30 = .ok (.istore_n 3, 1) := by decide +kernel
theorem dX4_lock_31 : decode cX4_lock 31 = .ok (.iinc 4 1, 3) := by decide +kernel
theorem dX4_lock_34 : decode cX4_lock 34 = .ok (.goto (-29), 3) := by decide +kernel
theorem dX4_lock_37 : decode cX4_lock 37 = .ok (.iload_n 3, 1) := by decide +kernel
theorem dX4_lock_38 : decode cX4_lock 38 = .ok (.ireturn, 1) := by decide +kernel
theorem dX4_unlock_0 : decode cX4_unlock 0 = .ok (.iload_n 1, 1) := by decide +kernel
theorem dX4_unlock_1 : decode cX4_unlock 1 = .ok (.istore_n 3, 1) := by decide +kernel
theorem dX4_unlock_2 : decode cX4_unlock 2 = .ok (.iload_n 3, 1) := by decide +kernel
theorem dX4_unlock_3 : decode cX4_unlock 3 = .ok (.iload_n 1, 1) := by decide +kernel
theorem dX4_unlock_4 : decode cX4_unlock 4 = .ok (.iload_n 2, 1) := by decide +kernel
theorem dX4_unlock_5 : decode cX4_unlock 5 = .ok (.iadd, 1) := by decide +kernel
theorem dX4_unlock_6 : decode cX4_unlock 6 = .ok (.if_icmp .ge 16, 3) := by decide +kernel
theorem dX4_unlock_9 : decode cX4_unlock 9 = .ok (.aload_n 0, 1) := by decide +kernel
theorem dX4_unlock_10 : decode cX4_unlock 10 = .ok (.getfield 9, 3) := by decide +kernel
theorem dX4_unlock_13 : decode cX4_unlock 13 = .ok (.iload_n 3, 1) := by decide +kernel
theorem dX4_unlock_14 : decode cX4_unlock 14 = .ok (.iconst 0, 1) := by decide +kernel
theorem dX4_unlock_15 : decode cX4_unlock 15 = .ok (.bastore, 1) := by decide +kernel
theorem dX4_unlock_16 : decode cX4_unlock 16 = .ok (.iinc 3 1, 3) := by decide +kernel
theorem dX4_unlock_19 : decode cX4_unlock 19 = .ok (.goto (-17), 3) := by decide +kernel
theorem dX4_unlock_22 : decode cX4_unlock 22 = .ok (.return_, 1) := by decide +kernel
theorem dX4_giveTo_0 : decode cX4_giveTo 0 = .ok (.aload_n 0, 1) := by decide +kernel
theorem dX4_giveTo_1 : decode cX4_giveTo 1 = .ok (.getfield 9, 3) := by decide +kernel
theorem dX4_giveTo_4 : decode cX4_giveTo 4 = .ok (.iload_n 1, 1) := by decide +kernel
theorem dX4_giveTo_5 : decode cX4_giveTo 5 = .ok (.iconst 0, 1) := by decide +kernel
theorem dX4_giveTo_6 : decode cX4_giveTo 6 = .ok (.bastore, 1) := by decide +kernel
theorem dX4_giveTo_7 : decode cX4_giveTo 7 = .ok (.aload_n 0, 1) := by decide +kernel
theorem dX4_giveTo_8 : decode cX4_giveTo 8 = .ok (.getfield 15, 3) := by decide +kernel
theorem dX4_giveTo_11 : decode cX4_giveTo 11 = .ok (.iload_n 1, 1) := by decide +kernel
theorem dX4_giveTo_12 : decode cX4_giveTo 12 = .ok (.iconst 0, 1) := by decide +kernel
theorem dX4_giveTo_13 : decode cX4_giveTo 13 = .ok (.bastore, 1) := by decide +kernel
theorem dX4_giveTo_14 : decode cX4_giveTo 14 = .ok (.aload_n 0, 1) := by decide +kernel
theorem dX4_giveTo_15 : decode cX4_giveTo 15 = .ok (.getfield 18, 3) := by decide +kernel
theorem dX4_giveTo_18 : decode cX4_giveTo 18 = .ok (.iload_n 1, 1) := by decide +kernel
theorem dX4_giveTo_19 : decode cX4_giveTo 19 = .ok (.iload_n 2, 1) := by decide +kernel
theorem dX4_giveTo_20 : decode cX4_giveTo 20 = .ok (.iastore, 1) := by decide +kernel
theorem dX4_giveTo_21 : decode cX4_giveTo 21 = .ok (.aload_n 0, 1) := by decide +kernel
theorem dX4_giveTo_22 : decode cX4_giveTo 22 = .ok (.getfield 25, 3) := by decide +kernel
theorem dX4_giveTo_25 : decode cX4_giveTo 25 = .ok (.iload_n 1, 1) := by decide +kernel
theorem dX4_giveTo_26 : decode cX4_giveTo 26 = .ok (.aload_n 0, 1) := by decide +kernel
theorem dX4_giveTo_27 : decode cX4_giveTo 27 = .ok (.getfield 22, 3) := by decide +kernel
theorem dX4_giveTo_30 : decode cX4_giveTo 30 = .ok (.iload_n 1, 1) := by decide +kernel
theorem dX4_giveTo_31 : decode cX4_giveTo 31 = .ok (.iaload, 1) := by decide +kernel
theorem dX4_giveTo_32 : decode cX4_giveTo 32 = .ok (.iastore, 1) := by decide +kernel
theorem dX4_giveTo_33 : decode cX4_giveTo 33 = .ok (.return_, 1) := by decide +kernel
theorem dX4_ceilingOf_0 : decode cX4_ceilingOf 0 = .ok (.aload_n 0, 1) := by decide +kernel
theorem dX4_ceilingOf_1 : decode cX4_ceilingOf 1 = .ok (.getfield 25, 3) := by decide +kernel
theorem dX4_ceilingOf_4 : decode cX4_ceilingOf 4 = .ok (.iload_n 1, 1) := by decide +kernel
theorem dX4_ceilingOf_5 : decode cX4_ceilingOf 5 = .ok (.iaload, 1) := by decide +kernel
theorem dX4_ceilingOf_6 : decode cX4_ceilingOf 6 = .ok (.bipush 11, 2) := by decide +kernel
theorem dX4_ceilingOf_8 : decode cX4_ceilingOf 8 = .ok (.imul, 1) := by decide +kernel
theorem dX4_ceilingOf_9 : decode cX4_ceilingOf 9 = .ok (.bipush 10, 2) := by decide +kernel
theorem dX4_ceilingOf_11 : decode cX4_ceilingOf 11 = .ok (.idiv, 1) := by decide +kernel
theorem dX4_ceilingOf_12 : decode cX4_ceilingOf 12 = .ok (.ireturn, 1) := by decide +kernel
theorem dX4_putUp_0 : decode cX4_putUp 0 = .ok (.aload_n 0, 1) := by decide +kernel
theorem dX4_putUp_1 : decode cX4_putUp 1 = .ok (.getfield 15, 3) := by decide +kernel
theorem dX4_putUp_4 : decode cX4_putUp 4 = .ok (.iload_n 1, 1) := by decide +kernel
theorem dX4_putUp_5 : decode cX4_putUp 5 = .ok (.iconst 1, 1) := by decide +kernel
theorem dX4_putUp_6 : decode cX4_putUp 6 = .ok (.bastore, 1) := by decide +kernel
theorem dX4_putUp_7 : decode cX4_putUp 7 = .ok (.aload_n 0, 1) := by decide +kernel
theorem dX4_putUp_8 : decode cX4_putUp 8 = .ok (.getfield 22, 3) := by decide +kernel
theorem dX4_putUp_11 : decode cX4_putUp 11 = .ok (.iload_n 1, 1) := by decide +kernel
theorem dX4_putUp_12 : decode cX4_putUp 12 = .ok (.iload_n 2, 1) := by decide +kernel
theorem dX4_putUp_13 : decode cX4_putUp 13 = .ok (.iastore, 1) := by decide +kernel
theorem dX4_putUp_14 : decode cX4_putUp 14 = .ok (.return_, 1) := by decide +kernel
set_option maxRecDepth 20000 in
theorem ggX5_init_X0_init : GoodIn wsX5_init wsX0_init := goodIn_r _ [30, 31, 2, 3, 32, 7, 33, 34, 35, 75, 76, 77, 78] (by decide +kernel) (by decide +kernel)
set_option maxRecDepth 20000 in
theorem gX5_init_X0_init_n25 : GoodIn wsX5_init (wsX0_init) := ggX5_init_X0_init
set_option maxRecDepth 20000 in
theorem ggX5_init_X2_init : GoodIn wsX5_init wsX2_init := goodIn_r _ [37, 38, 2, 3, 7, 39, 79] (by decide +kernel) (by decide +kernel)
set_option maxRecDepth 20000 in
theorem gX5_init_X2_init_n32 : GoodIn wsX5_init (wsX2_init) := ggX5_init_X2_init
set_option maxRecDepth 20000 in
theorem ggX5_init_X1_init : GoodIn wsX5_init wsX1_init := goodIn_r _ [41, 42, 2, 3, 7, 43, 44, 45, 46, 47, 48, 49, 80, 81, 82, 83, 84, 85, 86] (by decide +kernel) (by decide +kernel)
set_option maxRecDepth 20000 in
theorem gX5_init_X1_init_n39 : GoodIn wsX5_init (wsX1_init) := ggX5_init_X1_init
set_option maxRecDepth 20000 in
theorem ggX5_init_X4_init : GoodIn wsX5_init wsX4_init := goodIn_r _ [51, 52, 2, 3, 53, 54, 55, 7, 56, 57, 58, 87, 88, 89, 90, 91] (by decide +kernel) (by decide +kernel)
set_option maxRecDepth 20000 in
theorem gX5_init_X4_init_n46 : GoodIn wsX5_init (wsX4_init) := ggX5_init_X4_init
set_option maxRecDepth 20000 in
theorem ggX5_init_X3_init : GoodIn wsX5_init wsX3_init := goodIn_r _ [60, 61, 2, 3, 62, 7, 63, 64, 65, 92, 93, 94, 95] (by decide +kernel) (by decide +kernel)
set_option maxRecDepth 20000 in
theorem gX5_init_X3_init_n53 : GoodIn wsX5_init (wsX3_init) := ggX5_init_X3_init
theorem dX5_init_0 : decode cX5_init 0 = .ok (.aload_n 0, 1) := by decide +kernel
theorem dX5_init_1 : decode cX5_init 1 = .ok (.invokespecial 3, 3) := by decide +kernel
theorem dX5_init_4 : decode cX5_init 4 = .ok (.aload_n 0, 1) := by decide +kernel
theorem dX5_init_5 : decode cX5_init 5 = .ok (.iconst 0, 1) := by decide +kernel
theorem dX5_init_6 : decode cX5_init 6 = .ok (.putfield 9, 3) := by decide +kernel
theorem dX5_init_9 : decode cX5_init 9 = .ok (.aload_n 0, 1) := by decide +kernel
theorem dX5_init_10 : decode cX5_init 10 = .ok (.bipush 100, 2) := by decide +kernel
theorem dX5_init_12 : decode cX5_init 12 = .ok (.putfield 13, 3) := by decide +kernel
theorem dX5_init_15 : decode cX5_init 15 = .ok (.aload_n 0, 1) := by decide +kernel
theorem dX5_init_16 : decode cX5_init 16 = .ok (.iconst 0, 1) := by decide +kernel
theorem dX5_init_17 : decode cX5_init 17 = .ok (.putfield 16, 3) := by decide +kernel
theorem dX5_init_20 : decode cX5_init 20 = .ok (.aload_n 0, 1) := by decide +kernel
theorem dX5_init_21 : decode cX5_init 21 = .ok (.bipush 8, 2) := by decide +kernel
theorem dX5_init_23 : decode cX5_init 23 = .ok (.newarray .int, 2) := by decide +kernel
theorem dX5_init_25 : decode cX5_init 25 = .ok (.putfield 19, 3) := by decide +kernel
theorem dX5_init_28 : decode cX5_init 28 = .ok (.aload_n 0, 1) := by decide +kernel
theorem dX5_init_29 : decode cX5_init 29 = .ok (.new 23, 3) := by decide +kernel
theorem dX5_init_32 : decode cX5_init 32 = .ok (.dup, 1) := by decide +kernel
theorem dX5_init_33 : decode cX5_init 33 = .ok (.invokespecial 25, 3) := by decide +kernel
theorem dX5_init_36 : decode cX5_init 36 = .ok (.putfield 26, 3) := by decide +kernel
theorem dX5_init_39 : decode cX5_init 39 = .ok (.aload_n 0, 1) := by decide +kernel
theorem dX5_init_40 : decode cX5_init 40 = .ok (.new 30, 3) := by decide +kernel
theorem dX5_init_43 : decode cX5_init 43 = .ok (.dup, 1) := by decide +kernel
theorem dX5_init_44 : decode cX5_init 44 = .ok (.invokespecial 32, 3) := by decide +kernel
theorem dX5_init_47 : decode cX5_init 47 = .ok (.putfield 33, 3) := by decide +kernel
theorem dX5_init_50 : decode cX5_init 50 = .ok (.aload_n 0, 1) := by decide +kernel
theorem dX5_init_51 : decode cX5_init 51 = .ok (.new 37, 3) := by decide +kernel
theorem dX5_init_54 : decode cX5_init 54 = .ok (.dup, 1) := by decide +kernel
theorem dX5_init_55 : decode cX5_init 55 = .ok (.invokespecial 39, 3) := by decide +kernel
theorem dX5_init_58 : decode cX5_init 58 = .ok (.putfield 40, 3) := by decide +kernel
theorem dX5_init_61 : decode cX5_init 61 = .ok (.aload_n 0, 1) := by decide +kernel
theorem dX5_init_62 : decode cX5_init 62 = .ok (.new 44, 3) := by decide +kernel
theorem dX5_init_65 : decode cX5_init 65 = .ok (.dup, 1) := by decide +kernel
theorem dX5_init_66 : decode cX5_init 66 = .ok (.invokespecial 46, 3) := by decide +kernel
theorem dX5_init_69 : decode cX5_init 69 = .ok (.putfield 47, 3) := by decide +kernel
theorem dX5_init_72 : decode cX5_init 72 = .ok (.aload_n 0, 1) := by decide +kernel
theorem dX5_init_73 : decode cX5_init 73 = .ok (.new 51, 3) := by decide +kernel
theorem dX5_init_76 : decode cX5_init 76 = .ok (.dup, 1) := by decide +kernel
theorem dX5_init_77 : decode cX5_init 77 = .ok (.invokespecial 53, 3) := by decide +kernel
theorem dX5_init_80 : decode cX5_init 80 = .ok (.putfield 54, 3) := by decide +kernel
theorem dX5_init_83 : decode cX5_init 83 = .ok (.return_, 1) := by decide +kernel
set_option maxRecDepth 20000 in
theorem ggX5_pass_X1_isThere : GoodIn wsX5_pass wsX1_isThere := goodIn_r _ [10, 11, 42, 43, 44, 45, 46, 47, 48] (by decide +kernel) (by decide +kernel)
set_option maxRecDepth 20000 in
theorem gX5_pass_X1_isThere_n70 : GoodIn wsX5_pass (wsX1_isThere) := ggX5_pass_X1_isThere
set_option maxRecDepth 20000 in
theorem ggX5_pass_X5_giveBack : GoodIn wsX5_pass wsX5_giveBack := goodIn_r _ [16, 6, 17, 18, 19, 20, 21, 22, 23, 24, 25, 26, 27, 28, 29, 30, 8, 31, 32, 11, 33, 34, 35, 36, 37, 38, 39, 40, 41, 42, 43, 44, 45, 46, 47, 48, 49, 50, 51, 52, 53, 54, 55, 56, 57] (by decide +kernel) (by decide +kernel)
set_option maxRecDepth 20000 in
theorem gX5_pass_X5_giveBack : GoodIn wsX5_pass (wsV RX5 77 RX5 yX5_giveBack wsX5_giveBack) := goodIn_app (goodIn_of _ (by decide +kernel)) ggX5_pass_X5_giveBack
theorem dX5_pass_0 : decode cX5_pass 0 = .ok (.iload_n 1, 1) := by decide +kernel
theorem dX5_pass_1 : decode cX5_pass 1 = .ok (.iconst 1, 1) := by decide +kernel
theorem dX5_pass_2 : decode cX5_pass 2 = .ok (.if_icmp .lt 10, 3) := by decide +kernel
theorem dX5_pass_5 : decode cX5_pass 5 = .ok (.iload_n 1, 1) := by decide +kernel
theorem dX5_pass_6 : decode cX5_pass 6 = .ok (.sipush 500, 3) := by decide +kernel
theorem dX5_pass_9 : decode cX5_pass 9 = .ok (.if_icmp .le 13, 3) := by decide +kernel
theorem dX5_pass_12 : decode cX5_pass 12 = .ok (.new 58, 3) := by decide +kernel
theorem dX5_pass_15 : decode cX5_pass 15 = .ok (.dup, 1) := by decide +kernel
theorem dX5_pass_16 : decode cX5_pass 16 = .ok (.ldc 60, 2) := by decide +kernel
theorem dX5_pass_18 : decode cX5_pass 18 = .ok (.invokespecial 62, 3) := by decide +kernel
theorem dX5_pass_21 : decode cX5_pass 21 = .ok (.athrow, 1) := by decide +kernel
theorem dX5_pass_22 : decode cX5_pass 22 = .ok (.aload_n 0, 1) := by decide +kernel
theorem dX5_pass_23 : decode cX5_pass 23 = .ok (.getfield 9, 3) := by decide +kernel
theorem dX5_pass_26 : decode cX5_pass 26 = .ok (.iload_n 1, 1) := by decide +kernel
theorem dX5_pass_27 : decode cX5_pass 27 = .ok (.iadd, 1) := by decide +kernel
theorem dX5_pass_28 : decode cX5_pass 28 = .ok (.sipush 10000, 3) := by decide +kernel
theorem dX5_pass_31 : decode cX5_pass 31 = .ok (.if_icmp .le 13, 3) := by decide +kernel
theorem dX5_pass_34 : decode cX5_pass 34 = .ok (.new 65, 3) := by decide +kernel
theorem dX5_pass_37 : decode cX5_pass 37 = .ok (.dup, 1) := by decide +kernel
theorem dX5_pass_38 : decode cX5_pass 38 = .ok (.ldc 67, 2) := by decide +kernel
theorem dX5_pass_40 : decode cX5_pass 40 = .ok (.invokespecial 69, 3) := by decide +kernel
theorem dX5_pass_43 : decode cX5_pass 43 = .ok (.athrow, 1) := by decide +kernel
theorem dX5_pass_44 : decode cX5_pass 44 = .ok (.aload_n 0, 1) := by decide +kernel
theorem dX5_pass_45 : decode cX5_pass 45 = .ok (.dup, 1) := by decide +kernel
theorem dX5_pass_46 : decode cX5_pass 46 = .ok (.getfield 9, 3) := by decide +kernel
theorem dX5_pass_49 : decode cX5_pass 49 = .ok (.iload_n 1, 1) := by decide +kernel
theorem dX5_pass_50 : decode cX5_pass 50 = .ok (.iadd, 1) := by decide +kernel
theorem dX5_pass_51 : decode cX5_pass 51 = .ok (.putfield 9, 3) := by decide +kernel
theorem dX5_pass_54 : decode cX5_pass 54 = .ok (.iconst 0, 1) := by decide +kernel
theorem dX5_pass_55 : decode cX5_pass 55 = .ok (.istore_n 2, 1) := by decide +kernel
theorem dX5_pass_56 : decode cX5_pass 56 = .ok (.iconst 0, 1) := by decide +kernel
theorem dX5_pass_57 : decode cX5_pass 57 = .ok (.istore_n 3, 1) := by decide +kernel
theorem dX5_pass_58 : decode cX5_pass 58 = .ok (.iload_n 3, 1) := by decide +kernel
theorem dX5_pass_59 : decode cX5_pass 59 = .ok (.bipush 8, 2) := by decide +kernel
theorem dX5_pass_61 : decode cX5_pass 61 = .ok (.if_icmp .ge 45, 3) := by decide +kernel
theorem dX5_pass_64 : decode cX5_pass 64 = .ok (.aload_n 0, 1) := by decide +kernel
theorem dX5_pass_65 : decode cX5_pass 65 = .ok (.getfield 40, 3) := by decide +kernel
theorem dX5_pass_68 : decode cX5_pass 68 = .ok (.iload_n 3, 1) := by decide +kernel
theorem dX5_pass_69 : decode cX5_pass 69 = .ok (.invokevirtual 70, 3) := by decide +kernel
theorem dX5_pass_72 : decode cX5_pass 72 = .ok (.ifCond .eq 28, 3) := by decide +kernel
theorem dX5_pass_75 : decode cX5_pass 75 = .ok (.aload_n 0, 1) := by decide +kernel
theorem dX5_pass_76 : decode cX5_pass 76 = .ok (.getfield 40, 3) := by decide +kernel
theorem dX5_pass_79 : decode cX5_pass 79 = .ok (.getfield 74, 3) := by decide +kernel
theorem dX5_pass_82 : decode cX5_pass 82 = .ok (.iload_n 3, 1) := by decide +kernel
theorem dX5_pass_83 : decode cX5_pass 83 = .ok (.iaload, 1) := by decide +kernel
theorem dX5_pass_84 : decode cX5_pass 84 = .ok (.aload_n 0, 1) := by decide +kernel
theorem dX5_pass_85 : decode cX5_pass 85 = .ok (.getfield 9, 3) := by decide +kernel
theorem dX5_pass_88 : decode cX5_pass 88 = .ok (.if_icmp .gt 12, 3) := by decide +kernel
theorem dX5_pass_91 : decode cX5_pass 91 = .ok (.aload_n 0, 1) := by decide +kernel
theorem dX5_pass_92 : decode cX5_pass 92 = .ok (.iload_n 3, 1) := by decide +kernel
theorem dX5_pass_93 : decode cX5_pass 93 = .ok (.invokevirtual 77, 3) := by decide +kernel
theorem dX5_pass_96 : decode cX5_pass 96 = .ok (.pop, 1) := by decide +kernel
theorem dX5_pass_97 : decode cX5_pass 97 = .ok (.iinc 2 1, 3) := by decide +kernel
theorem dX5_pass_100 : decode cX5_pass 100 = .ok (.iinc 3 1, 3) := by decide +kernel
theorem dX5_pass_103 : decode cX5_pass 103 = .ok (.goto (-45), 3) := by decide +kernel
theorem dX5_pass_106 : decode cX5_pass 106 = .ok (.iload_n 2, 1) := by decide +kernel
theorem dX5_pass_107 : decode cX5_pass 107 = .ok (.ireturn, 1) := by decide +kernel
theorem dX5_time_0 : decode cX5_time 0 = .ok (.aload_n 0, 1) := by decide +kernel
theorem dX5_time_1 : decode cX5_time 1 = .ok (.getfield 9, 3) := by decide +kernel
theorem dX5_time_4 : decode cX5_time 4 = .ok (.ireturn, 1) := by decide +kernel
theorem dX5_setOpening_0 : decode cX5_setOpening 0 = .ok (.iload_n 1, 1) := by decide +kernel
theorem dX5_setOpening_1 : decode cX5_setOpening 1 = .ok (.ifCond .lt 10, 3) := by decide +kernel
theorem dX5_setOpening_4 : decode cX5_setOpening 4 = .ok (.iload_n 1, 1) := by decide +kernel
theorem dX5_setOpening_5 : decode cX5_setOpening 5 = .ok (.sipush 10000, 3) := by decide +kernel
theorem dX5_setOpening_8 : decode cX5_setOpening 8 = .ok (.if_icmp .le 13, 3) := by decide +kernel
theorem dX5_setOpening_11 : decode cX5_setOpening 11 = .ok (.new 58, 3) := by decide +kernel
theorem dX5_setOpening_14 : decode cX5_setOpening 14 = .ok (.dup, 1) := by decide +kernel
theorem dX5_setOpening_15 : decode cX5_setOpening 15 = .ok (.ldc 81, 2) := by decide +kernel
theorem dX5_setOpening_17 : decode cX5_setOpening 17 = .ok (.invokespecial 62, 3) := by decide +kernel
theorem dX5_setOpening_20 : decode cX5_setOpening 20 = .ok (.athrow, 1) := by decide +kernel
theorem dX5_setOpening_21 : decode cX5_setOpening 21 = .ok (.aload_n 0, 1) := by decide +kernel
theorem dX5_setOpening_22 : decode cX5_setOpening 22 = .ok (.getfield 13, 3) := by decide +kernel
theorem dX5_setOpening_25 : decode cX5_setOpening 25 = .ok (.istore_n 2, 1) := by decide +kernel
theorem dX5_setOpening_26 : decode cX5_setOpening 26 = .ok (.aload_n 0, 1) := by decide +kernel
theorem dX5_setOpening_27 : decode cX5_setOpening 27 = .ok (.iload_n 1, 1) := by decide +kernel
theorem dX5_setOpening_28 : decode cX5_setOpening 28 = .ok (.putfield 13, 3) := by decide +kernel
theorem dX5_setOpening_31 : decode cX5_setOpening 31 = .ok (.iload_n 2, 1) := by decide +kernel
theorem dX5_setOpening_32 : decode cX5_setOpening 32 = .ok (.ireturn, 1) := by decide +kernel
set_option maxRecDepth 20000 in
theorem ggX5_code_X0_add : GoodIn wsX5_code wsX0_add := goodIn_r _ [9, 10, 11, 12, 22, 23, 24, 25] (by decide +kernel) (by decide +kernel)
set_option maxRecDepth 20000 in
theorem gX5_code_X0_add_n92 : GoodIn wsX5_code (wsX0_add) := ggX5_code_X0_add
theorem dX5_code_0 : decode cX5_code 0 = .ok (.iload_n 1, 1) := by decide +kernel
theorem dX5_code_1 : decode cX5_code 1 = .ok (.iconst 1, 1) := by decide +kernel
theorem dX5_code_2 : decode cX5_code 2 = .ok (.if_icmp .lt 9, 3) := by decide +kernel
theorem dX5_code_5 : decode cX5_code 5 = .ok (.iload_n 1, 1) := by decide +kernel
theorem dX5_code_6 : decode cX5_code 6 = .ok (.bipush 10, 2) := by decide +kernel
theorem dX5_code_8 : decode cX5_code 8 = .ok (.if_icmp .le 13, 3) := by decide +kernel
theorem dX5_code_11 : decode cX5_code 11 = .ok (.new 58, 3) := by decide +kernel
theorem dX5_code_14 : decode cX5_code 14 = .ok (.dup, 1) := by decide +kernel
theorem dX5_code_15 : decode cX5_code 15 = .ok (.ldc 83, 2) := by decide +kernel
theorem dX5_code_17 : decode cX5_code 17 = .ok (.invokespecial 62, 3) := by decide +kernel
theorem dX5_code_20 : decode cX5_code 20 = .ok (.athrow, 1) := by decide +kernel
theorem dX5_code_21 : decode cX5_code 21 = .ok (.iload_n 2, 1) := by decide +kernel
theorem dX5_code_22 : decode cX5_code 22 = .ok (.iconst 1, 1) := by decide +kernel
theorem dX5_code_23 : decode cX5_code 23 = .ok (.if_icmp .lt 9, 3) := by decide +kernel
theorem dX5_code_26 : decode cX5_code 26 = .ok (.iload_n 2, 1) := by decide +kernel
theorem dX5_code_27 : decode cX5_code 27 = .ok (.bipush 20, 2) := by decide +kernel
theorem dX5_code_29 : decode cX5_code 29 = .ok (.if_icmp .le 13, 3) := by decide +kernel
theorem dX5_code_32 : decode cX5_code 32 = .ok (.new 58, 3) := by decide +kernel
theorem dX5_code_35 : decode cX5_code 35 = .ok (.dup, 1) := by decide +kernel
theorem dX5_code_36 : decode cX5_code 36 = .ok (.ldc 85, 2) := by decide +kernel
theorem dX5_code_38 : decode cX5_code 38 = .ok (.invokespecial 62, 3) := by decide +kernel
theorem dX5_code_41 : decode cX5_code 41 = .ok (.athrow, 1) := by decide +kernel
theorem dX5_code_42 : decode cX5_code 42 = .ok (.aload_n 0, 1) := by decide +kernel
theorem dX5_code_43 : decode cX5_code 43 = .ok (.getfield 26, 3) := by decide +kernel
theorem dX5_code_46 : decode cX5_code 46 = .ok (.getfield 87, 3) := by decide +kernel
theorem dX5_code_49 : decode cX5_code 49 = .ok (.bipush 10, 2) := by decide +kernel
theorem dX5_code_51 : decode cX5_code 51 = .ok (.if_icmp .lt 13, 3) := by decide +kernel
theorem dX5_code_54 : decode cX5_code 54 = .ok (.new 65, 3) := by decide +kernel
theorem dX5_code_57 : decode cX5_code 57 = .ok (.dup, 1) := by decide +kernel
theorem dX5_code_58 : decode cX5_code 58 = .ok (.ldc 90, 2) := by decide +kernel
theorem dX5_code_60 : decode cX5_code 60 = .ok (.invokespecial 69, 3) := by decide +kernel
theorem dX5_code_63 : decode cX5_code 63 = .ok (.athrow, 1) := by decide +kernel
theorem dX5_code_64 : decode cX5_code 64 = .ok (.aload_n 0, 1) := by decide +kernel
theorem dX5_code_65 : decode cX5_code 65 = .ok (.getfield 26, 3) := by decide +kernel
theorem dX5_code_68 : decode cX5_code 68 = .ok (.iload_n 1, 1) := by decide +kernel
theorem dX5_code_69 : decode cX5_code 69 = .ok (.iload_n 2, 1) := by decide +kernel
theorem dX5_code_70 : decode cX5_code 70 = .ok (.invokevirtual 92, 3) := by decide +kernel
theorem dX5_code_73 : decode cX5_code 73 = .ok (.ireturn, 1) := by decide +kernel
set_option maxRecDepth 20000 in
theorem ggX5_join_X5_needPerson : GoodIn wsX5_join wsX5_needPerson := goodIn_ca (goodIn_r _ [9, 10, 11] (by decide +kernel) (by decide +kernel)) (goodIn_sub (fun _ h => List.mem_cons_of_mem _ (List.mem_append_right _ h)) (by decide +kernel))
set_option maxRecDepth 20000 in
theorem gX5_join_X5_needPerson : GoodIn wsX5_join (va_wsS RX5 100 yX5_needPerson wsX5_needPerson) := goodIn_app (goodIn_of _ (by decide +kernel)) ggX5_join_X5_needPerson
set_option maxRecDepth 20000 in
theorem ggX5_join_X2_isIn : GoodIn wsX5_join wsX2_isIn := goodIn_r _ [15, 16, 38] (by decide +kernel) (by decide +kernel)
set_option maxRecDepth 20000 in
theorem gX5_join_X2_isIn_n106 : GoodIn wsX5_join (wsX2_isIn) := ggX5_join_X2_isIn
set_option maxRecDepth 20000 in
theorem ggX5_join_X1_isThere : GoodIn wsX5_join wsX1_isThere := goodIn_r _ [20, 21, 39, 40, 41, 42, 43, 44, 45] (by decide +kernel) (by decide +kernel)
set_option maxRecDepth 20000 in
theorem gX5_join_X1_isThere_n70 : GoodIn wsX5_join (wsX1_isThere) := ggX5_join_X1_isThere
set_option maxRecDepth 20000 in
theorem ggX5_join_X2_enter : GoodIn wsX5_join wsX2_enter := goodIn_r _ [24, 16, 38] (by decide +kernel) (by decide +kernel)
set_option maxRecDepth 20000 in
theorem gX5_join_X2_enter_n113 : GoodIn wsX5_join (wsX2_enter) := ggX5_join_X2_enter
set_option maxRecDepth 20000 in
theorem ggX5_join_X2_length : GoodIn wsX5_join wsX2_length := goodIn_r _ [27, 28, 12, 14, 13, 15, 16, 38] (by decide +kernel) (by decide +kernel)
set_option maxRecDepth 20000 in
theorem gX5_join_X2_length_n117 : GoodIn wsX5_join (wsX2_length) := ggX5_join_X2_length
theorem dX5_join_0 : decode cX5_join 0 = .ok (.iload_n 1, 1) := by decide +kernel
theorem dX5_join_1 : decode cX5_join 1 = .ok (.invokestatic 100, 3) := by decide +kernel
theorem dX5_join_4 : decode cX5_join 4 = .ok (.aload_n 0, 1) := by decide +kernel
theorem dX5_join_5 : decode cX5_join 5 = .ok (.getfield 33, 3) := by decide +kernel
theorem dX5_join_8 : decode cX5_join 8 = .ok (.iload_n 1, 1) := by decide +kernel
theorem dX5_join_9 : decode cX5_join 9 = .ok (.invokevirtual 106, 3) := by decide +kernel
theorem dX5_join_12 : decode cX5_join 12 = .ok (.ifCond .eq 13, 3) := by decide +kernel
theorem dX5_join_15 : decode cX5_join 15 = .ok (.new 65, 3) := by decide +kernel
theorem dX5_join_18 : decode cX5_join 18 = .ok (.dup, 1) := by decide +kernel
theorem dX5_join_19 : decode cX5_join 19 = .ok (.ldc 109, 2) := by decide +kernel
theorem dX5_join_21 : decode cX5_join 21 = .ok (.invokespecial 69, 3) := by decide +kernel
theorem dX5_join_24 : decode cX5_join 24 = .ok (.athrow, 1) := by decide +kernel
theorem dX5_join_25 : decode cX5_join 25 = .ok (.aload_n 0, 1) := by decide +kernel
theorem dX5_join_26 : decode cX5_join 26 = .ok (.getfield 40, 3) := by decide +kernel
theorem dX5_join_29 : decode cX5_join 29 = .ok (.iload_n 1, 1) := by decide +kernel
theorem dX5_join_30 : decode cX5_join 30 = .ok (.invokevirtual 70, 3) := by decide +kernel
theorem dX5_join_33 : decode cX5_join 33 = .ok (.ifCond .eq 13, 3) := by decide +kernel
theorem dX5_join_36 : decode cX5_join 36 = .ok (.new 65, 3) := by decide +kernel
theorem dX5_join_39 : decode cX5_join 39 = .ok (.dup, 1) := by decide +kernel
theorem dX5_join_40 : decode cX5_join 40 = .ok (.ldc 111, 2) := by decide +kernel
theorem dX5_join_42 : decode cX5_join 42 = .ok (.invokespecial 69, 3) := by decide +kernel
theorem dX5_join_45 : decode cX5_join 45 = .ok (.athrow, 1) := by decide +kernel
theorem dX5_join_46 : decode cX5_join 46 = .ok (.aload_n 0, 1) := by decide +kernel
theorem dX5_join_47 : decode cX5_join 47 = .ok (.getfield 33, 3) := by decide +kernel
theorem dX5_join_50 : decode cX5_join 50 = .ok (.iload_n 1, 1) := by decide +kernel
theorem dX5_join_51 : decode cX5_join 51 = .ok (.aload_n 0, 1) := by decide +kernel
theorem dX5_join_52 : decode cX5_join 52 = .ok (.getfield 9, 3) := by decide +kernel
theorem dX5_join_55 : decode cX5_join 55 = .ok (.invokevirtual 113, 3) := by decide +kernel
theorem dX5_join_58 : decode cX5_join 58 = .ok (.aload_n 0, 1) := by decide +kernel
theorem dX5_join_59 : decode cX5_join 59 = .ok (.getfield 33, 3) := by decide +kernel
theorem dX5_join_62 : decode cX5_join 62 = .ok (.invokevirtual 117, 3) := by decide +kernel
theorem dX5_join_65 : decode cX5_join 65 = .ok (.ireturn, 1) := by decide +kernel
set_option maxRecDepth 20000 in
theorem ggX5_quit_X5_needPerson : GoodIn wsX5_quit wsX5_needPerson := goodIn_ca (goodIn_r _ [7, 8, 9] (by decide +kernel) (by decide +kernel)) (goodIn_sub (fun _ h => List.mem_cons_of_mem _ (List.mem_append_right _ h)) (by decide +kernel))
set_option maxRecDepth 20000 in
theorem gX5_quit_X5_needPerson : GoodIn wsX5_quit (va_wsS RX5 100 yX5_needPerson wsX5_needPerson) := goodIn_app (goodIn_of _ (by decide +kernel)) ggX5_quit_X5_needPerson
set_option maxRecDepth 20000 in
theorem ggX5_quit_X2_isIn : GoodIn wsX5_quit wsX2_isIn := goodIn_r _ [13, 14, 31] (by decide +kernel) (by decide +kernel)
set_option maxRecDepth 20000 in
theorem gX5_quit_X2_isIn_n106 : GoodIn wsX5_quit (wsX2_isIn) := ggX5_quit_X2_isIn
set_option maxRecDepth 20000 in
theorem ggX5_quit_X2_leave : GoodIn wsX5_quit wsX2_leave := goodIn_r _ [17, 14, 31] (by decide +kernel) (by decide +kernel)
set_option maxRecDepth 20000 in
theorem gX5_quit_X2_leave_n123 : GoodIn wsX5_quit (wsX2_leave) := ggX5_quit_X2_leave
set_option maxRecDepth 20000 in
theorem ggX5_quit_X2_length : GoodIn wsX5_quit wsX2_length := goodIn_r _ [20, 21, 10, 12, 11, 13, 14, 31] (by decide +kernel) (by decide +kernel)
set_option maxRecDepth 20000 in
theorem gX5_quit_X2_length_n117 : GoodIn wsX5_quit (wsX2_length) := ggX5_quit_X2_length
theorem dX5_quit_0 : decode cX5_quit 0 = .ok (.iload_n 1, 1) := by decide +kernel
theorem dX5_quit_1 : decode cX5_quit 1 = .ok (.invokestatic 100, 3) := by decide +kernel
theorem dX5_quit_4 : decode cX5_quit 4 = .ok (.aload_n 0, 1) := by decide +kernel
theorem dX5_quit_5 : decode cX5_quit 5 = .ok (.getfield 33, 3) := by decide +kernel
theorem dX5_quit_8 : decode cX5_quit 8 = .ok (.iload_n 1, 1) := by decide +kernel
theorem dX5_quit_9 : decode cX5_quit 9 = .ok (.invokevirtual 106, 3) := by decide +kernel
theorem dX5_quit_12 : decode cX5_quit 12 = .ok (.ifCond .ne 13, 3) := by decide +kernel
theorem dX5_quit_15 : decode cX5_quit 15 = .ok (.new 65, 3) := by decide +kernel
theorem dX5_quit_18 : decode cX5_quit 18 = .ok (.dup, 1) := by decide +kernel
theorem dX5_quit_19 : decode cX5_quit 19 = .ok (.ldc 121, 2) := by decide +kernel
theorem dX5_quit_21 : decode cX5_quit 21 = .ok (.invokespecial 69, 3) := by decide +kernel
theorem dX5_quit_24 : decode cX5_quit 24 = .ok (.athrow, 1) := by decide +kernel
theorem dX5_quit_25 : decode cX5_quit 25 = .ok (.aload_n 0, 1) := by decide +kernel
theorem dX5_quit_26 : decode cX5_quit 26 = .ok (.getfield 33, 3) := by decide +kernel
theorem dX5_quit_29 : decode cX5_quit 29 = .ok (.iload_n 1, 1) := by decide +kernel
theorem dX5_quit_30 : decode cX5_quit 30 = .ok (.invokevirtual 123, 3) := by decide +kernel
theorem dX5_quit_33 : decode cX5_quit 33 = .ok (.aload_n 0, 1) := by decide +kernel
theorem dX5_quit_34 : decode cX5_quit 34 = .ok (.getfield 33, 3) := by decide +kernel
theorem dX5_quit_37 : decode cX5_quit 37 = .ok (.invokevirtual 117, 3) := by decide +kernel
theorem dX5_quit_40 : decode cX5_quit 40 = .ok (.ireturn, 1) := by decide +kernel
set_option maxRecDepth 20000 in
theorem ggX5_queueAt_X2_personAt : GoodIn wsX5_queueAt wsX2_personAt := goodIn_r _ [7, 8, 9, 10, 5, 11, 12, 13, 14, 15, 16, 17, 18, 19, 20, 30] (by decide +kernel) (by decide +kernel)
set_option maxRecDepth 20000 in
theorem gX5_queueAt_X2_personAt_n126 : GoodIn wsX5_queueAt (wsX2_personAt) := ggX5_queueAt_X2_personAt
theorem dX5_queueAt_0 : decode cX5_queueAt 0 = .ok (.aload_n 0, 1) := by decide +kernel
theorem dX5_queueAt_1 : decode cX5_queueAt 1 = .ok (.getfield 33, 3) := by decide +kernel
theorem dX5_queueAt_4 : decode cX5_queueAt 4 = .ok (.iload_n 1, 1) := by decide +kernel
theorem dX5_queueAt_5 : decode cX5_queueAt 5 = .ok (.invokevirtual 126, 3) := by decide +kernel
theorem dX5_queueAt_8 : decode cX5_queueAt 8 = .ok (.istore_n 2, 1) := by decide +kernel
theorem dX5_queueAt_9 : decode cX5_queueAt 9 = .ok (.iload_n 2, 1) := by decide +kernel
theorem dX5_queueAt_10 : decode cX5_queueAt 10 = .ok (.iconst (-1), 1) := by decide +kernel
theorem dX5_queueAt_11 : decode cX5_queueAt 11 = .ok (.if_icmp .ne 13, 3) := by decide +kernel
theorem dX5_queueAt_14 : decode cX5_queueAt 14 = .ok (.new 129, 3) := by decide +kernel
theorem dX5_queueAt_17 : decode cX5_queueAt 17 = .ok (.dup, 1) := by decide +kernel
theorem dX5_queueAt_18 : decode cX5_queueAt 18 = .ok (.ldc 131, 2) := by decide +kernel
theorem dX5_queueAt_20 : decode cX5_queueAt 20 = .ok (.invokespecial 133, 3) := by decide +kernel
theorem dX5_queueAt_23 : decode cX5_queueAt 23 = .ok (.athrow, 1) := by decide +kernel
theorem dX5_queueAt_24 : decode cX5_queueAt 24 = .ok (.iload_n 2, 1) := by decide +kernel
theorem dX5_queueAt_25 : decode cX5_queueAt 25 = .ok (.ireturn, 1) := by decide +kernel
set_option maxRecDepth 20000 in
theorem ggX5_served_X2_personAt : GoodIn wsX5_served wsX2_personAt := goodIn_r _ [6, 7, 8, 9, 4, 10, 11, 12, 13, 14, 15, 16, 17, 18, 19, 29] (by decide +kernel) (by decide +kernel)
set_option maxRecDepth 20000 in
theorem gX5_served_X2_personAt_n126 : GoodIn wsX5_served (wsX2_personAt) := ggX5_served_X2_personAt
theorem dX5_served_0 : decode cX5_served 0 = .ok (.aload_n 0, 1) := by decide +kernel
theorem dX5_served_1 : decode cX5_served 1 = .ok (.getfield 33, 3) := by decide +kernel
theorem dX5_served_4 : decode cX5_served 4 = .ok (.iconst 0, 1) := by decide +kernel
theorem dX5_served_5 : decode cX5_served 5 = .ok (.invokevirtual 126, 3) := by decide +kernel
theorem dX5_served_8 : decode cX5_served 8 = .ok (.istore_n 1, 1) := by decide +kernel
theorem dX5_served_9 : decode cX5_served 9 = .ok (.iload_n 1, 1) := by decide +kernel
theorem dX5_served_10 : decode cX5_served 10 = .ok (.iconst (-1), 1) := by decide +kernel
theorem dX5_served_11 : decode cX5_served 11 = .ok (.if_icmp .eq 19, 3) := by decide +kernel
theorem dX5_served_14 : decode cX5_served 14 = .ok (.aload_n 0, 1) := by decide +kernel
theorem dX5_served_15 : decode cX5_served 15 = .ok (.getfield 33, 3) := by decide +kernel
theorem dX5_served_18 : decode cX5_served 18 = .ok (.getfield 134, 3) := by decide +kernel
theorem dX5_served_21 : decode cX5_served 21 = .ok (.iload_n 1, 1) := by decide +kernel
theorem dX5_served_22 : decode cX5_served 22 = .ok (.iaload, 1) := by decide +kernel
theorem dX5_served_23 : decode cX5_served 23 = .ok (.aload_n 0, 1) := by decide +kernel
theorem dX5_served_24 : decode cX5_served 24 = .ok (.getfield 9, 3) := by decide +kernel
theorem dX5_served_27 : decode cX5_served 27 = .ok (.if_icmp .lt 5, 3) := by decide +kernel
theorem dX5_served_30 : decode cX5_served 30 = .ok (.iconst (-1), 1) := by decide +kernel
theorem dX5_served_31 : decode cX5_served 31 = .ok (.ireturn, 1) := by decide +kernel
theorem dX5_served_32 : decode cX5_served 32 = .ok (.iload_n 1, 1) := by decide +kernel
theorem dX5_served_33 : decode cX5_served 33 = .ok (.ireturn, 1) := by decide +kernel
set_option maxRecDepth 20000 in
theorem ggX5_hold_X5_needPerson : GoodIn wsX5_hold wsX5_needPerson := goodIn_ca (goodIn_r _ [15, 1, 2] (by decide +kernel) (by decide +kernel)) (goodIn_sub (fun _ h => List.mem_cons_of_mem _ (List.mem_append_left _ (List.mem_append_left _ (List.mem_append_right _ h)))) (by decide +kernel))
set_option maxRecDepth 20000 in
theorem gX5_hold_X5_needPerson : GoodIn wsX5_hold (va_wsS RX5 100 yX5_needPerson wsX5_needPerson) := goodIn_app (goodIn_of _ (by decide +kernel)) ggX5_hold_X5_needPerson
set_option maxRecDepth 20000 in
theorem ggX5_hold_X5_needRow : GoodIn wsX5_hold wsX5_needRow := goodIn_ca (goodIn_r _ [18, 1, 2] (by decide +kernel) (by decide +kernel)) (goodIn_sub (fun _ h => List.mem_cons_of_mem _ (List.mem_append_left _ (List.mem_append_left _ (List.mem_append_right _ h)))) (by decide +kernel))
set_option maxRecDepth 20000 in
theorem gX5_hold_X5_needRow : GoodIn wsX5_hold (va_wsS RX5 137 yX5_needRow wsX5_needRow) := goodIn_app (goodIn_of _ (by decide +kernel)) ggX5_hold_X5_needRow
set_option maxRecDepth 20000 in
theorem ggX5_hold_X5_needCode : GoodIn wsX5_hold wsX5_needCode := goodIn_ca (goodIn_r _ [22, 1, 2, 8, 100, 101, 102, 103, 104, 105, 106, 107, 108, 109, 110, 111, 112] (by decide +kernel) (by decide +kernel)) (goodIn_sub (fun _ h => List.mem_cons_of_mem _ (List.mem_append_left _ (List.mem_append_left _ (List.mem_append_right _ h)))) (by decide +kernel))
set_option maxRecDepth 20000 in
theorem gX5_hold_X5_needCode : GoodIn wsX5_hold (wsV RX5 96 RX5 yX5_needCode wsX5_needCode) := goodIn_app (goodIn_of _ (by decide +kernel)) ggX5_hold_X5_needCode
set_option maxRecDepth 20000 in
theorem ggX5_hold_X5_served : GoodIn wsX5_hold wsX5_served := goodIn_r _ [26, 7, 11, 27, 28, 29, 30, 31, 32, 33, 34, 35, 36, 37, 38, 39, 40, 41, 42, 43, 100, 101, 102, 103, 104, 105, 106, 107, 108, 113] (by decide +kernel) (by decide +kernel)
set_option maxRecDepth 20000 in
theorem gX5_hold_X5_served : GoodIn wsX5_hold (wsV RX5 144 RX5 yX5_served wsX5_served) := goodIn_app (goodIn_of _ (by decide +kernel)) ggX5_hold_X5_served
set_option maxRecDepth 20000 in
theorem ggX5_hold_X5_needSeatsFor : GoodIn wsX5_hold wsX5_needSeatsFor := goodIn_ca (goodIn_r _ [47, 5, 6, 9, 48, 49, 50, 51, 52, 53, 54, 55, 56, 57, 58, 59, 60, 61, 62, 100, 101, 102, 103, 104, 105, 106, 107, 108, 114, 115, 116, 117, 118] (by decide +kernel) (by decide +kernel)) (goodIn_sub (fun _ h => List.mem_cons_of_mem _ (List.mem_append_right _ h)) (by decide +kernel))
set_option maxRecDepth 20000 in
theorem gX5_hold_X5_needSeatsFor : GoodIn wsX5_hold (wsV RX5 149 RX5 yX5_needSeatsFor wsX5_needSeatsFor) := goodIn_app (goodIn_of _ (by decide +kernel)) ggX5_hold_X5_needSeatsFor
set_option maxRecDepth 20000 in
theorem ggX5_hold_X5_needRightFor : GoodIn wsX5_hold wsX5_needRightFor := goodIn_ca (goodIn_r _ [66, 5, 6, 11, 67, 8, 68, 69, 70, 71, 72, 73, 74, 75, 76, 77, 78, 100, 101, 102, 103, 104, 105, 106, 107, 108, 109, 110, 111, 112] (by decide +kernel) (by decide +kernel)) (goodIn_sub (fun _ h => List.mem_cons_of_mem _ (List.mem_append_right _ h)) (by decide +kernel))
set_option maxRecDepth 20000 in
theorem gX5_hold_X5_needRightFor : GoodIn wsX5_hold (wsV RX5 153 RX5 yX5_needRightFor wsX5_needRightFor) := goodIn_app (goodIn_of _ (by decide +kernel)) ggX5_hold_X5_needRightFor
set_option maxRecDepth 20000 in
theorem ggX5_hold_X2_leave : GoodIn wsX5_hold wsX2_leave := goodIn_r _ [81, 35, 113] (by decide +kernel) (by decide +kernel)
set_option maxRecDepth 20000 in
theorem gX5_hold_X2_leave_n123 : GoodIn wsX5_hold (wsX2_leave) := ggX5_hold_X2_leave
set_option maxRecDepth 20000 in
theorem ggX5_hold_X0_tally : GoodIn wsX5_hold wsX0_tally := goodIn_r _ [84, 78, 109, 110, 111, 112] (by decide +kernel) (by decide +kernel)
set_option maxRecDepth 20000 in
theorem gX5_hold_X0_tally_n157 : GoodIn wsX5_hold (wsX0_tally) := ggX5_hold_X0_tally
set_option maxRecDepth 20000 in
theorem ggX5_hold_X4_lock : GoodIn wsX5_hold wsX4_lock := goodIn_r _ [87, 56, 88, 114, 115, 116, 117, 118] (by decide +kernel) (by decide +kernel)
set_option maxRecDepth 20000 in
theorem gX5_hold_X4_lock_n160 : GoodIn wsX5_hold (wsX4_lock) := ggX5_hold_X4_lock
set_option maxRecDepth 20000 in
theorem ggX5_hold_X1_make : GoodIn wsX5_hold wsX1_make := goodIn_r _ [92, 93, 94, 95, 96, 97, 98, 99, 119, 120, 121, 122, 123, 124, 125] (by decide +kernel) (by decide +kernel)
set_option maxRecDepth 20000 in
theorem gX5_hold_X1_make_n163 : GoodIn wsX5_hold (wsX1_make) := ggX5_hold_X1_make
theorem dX5_hold_0 : decode cX5_hold 0 = .ok (.iload_n 1, 1) := by decide +kernel
theorem dX5_hold_1 : decode cX5_hold 1 = .ok (.invokestatic 100, 3) := by decide +kernel
theorem dX5_hold_4 : decode cX5_hold 4 = .ok (.iload_n 2, 1) := by decide +kernel
theorem dX5_hold_5 : decode cX5_hold 5 = .ok (.invokestatic 137, 3) := by decide +kernel
theorem dX5_hold_8 : decode cX5_hold 8 = .ok (.iload_n 3, 1) := by decide +kernel
theorem dX5_hold_9 : decode cX5_hold 9 = .ok (.ifCond .lt 9, 3) := by decide +kernel
theorem dX5_hold_12 : decode cX5_hold 12 = .ok (.iload_n 3, 1) := by decide +kernel
theorem dX5_hold_13 : decode cX5_hold 13 = .ok (.bipush 10, 2) := by decide +kernel
theorem dX5_hold_15 : decode cX5_hold 15 = .ok (.if_icmp .lt 13, 3) := by decide +kernel
theorem dX5_hold_18 : decode cX5_hold 18 = .ok (.new 129, 3) := by decide +kernel
theorem dX5_hold_21 : decode cX5_hold 21 = .ok (.dup, 1) := by decide +kernel
theorem dX5_hold_22 : decode cX5_hold 22 = .ok (.ldc 140, 2) := by decide +kernel
theorem dX5_hold_24 : decode cX5_hold 24 = .ok (.invokespecial 133, 3) := by decide +kernel
theorem dX5_hold_27 : decode cX5_hold 27 = .ok (.athrow, 1) := by decide +kernel
theorem dX5_hold_28 : decode cX5_hold 28 = .ok (.iload 5, 2) := by decide +kernel
theorem dX5_hold_30 : decode cX5_hold 30 = .ok (.iconst (-1), 1) := by decide +kernel
theorem dX5_hold_31 : decode cX5_hold 31 = .ok (.if_icmp .eq 9, 3) := by decide +kernel
theorem dX5_hold_34 : decode cX5_hold 34 = .ok (.aload_n 0, 1) := by decide +kernel
theorem dX5_hold_35 : decode cX5_hold 35 = .ok (.iload 5, 2) := by decide +kernel
theorem dX5_hold_37 : decode cX5_hold 37 = .ok (.invokevirtual 96, 3) := by decide +kernel
theorem dX5_hold_40 : decode cX5_hold 40 = .ok (.iload 4, 2) := by decide +kernel
theorem dX5_hold_42 : decode cX5_hold 42 = .ok (.iconst 1, 1) := by decide +kernel
theorem dX5_hold_43 : decode cX5_hold 43 = .ok (.if_icmp .lt 18, 3) := by decide +kernel
theorem dX5_hold_46 : decode cX5_hold 46 = .ok (.iload 4, 2) := by decide +kernel
theorem dX5_hold_48 : decode cX5_hold 48 = .ok (.iconst 4, 1) := by decide +kernel
theorem dX5_hold_49 : decode cX5_hold 49 = .ok (.if_icmp .gt 12, 3) := by decide +kernel
theorem dX5_hold_52 : decode cX5_hold 52 = .ok (.iload_n 3, 1) := by decide +kernel
theorem dX5_hold_53 : decode cX5_hold 53 = .ok (.iload 4, 2) := by decide +kernel
theorem dX5_hold_55 : decode cX5_hold 55 = .ok (.iadd, 1) := by decide +kernel
theorem dX5_hold_56 : decode cX5_hold 56 = .ok (.bipush 10, 2) := by decide +kernel
theorem dX5_hold_58 : decode cX5_hold 58 = .ok (.if_icmp .le 13, 3) := by decide +kernel
theorem dX5_hold_61 : decode cX5_hold 61 = .ok (.new 58, 3) := by decide +kernel
theorem dX5_hold_64 : decode cX5_hold 64 = .ok (.dup, 1) := by decide +kernel
theorem dX5_hold_65 : decode cX5_hold 65 = .ok (.ldc 142, 2) := by decide +kernel
theorem dX5_hold_67 : decode cX5_hold 67 = .ok (.invokespecial 62, 3) := by decide +kernel
theorem dX5_hold_70 : decode cX5_hold 70 = .ok (.athrow, 1) := by decide +kernel
theorem dX5_hold_71 : decode cX5_hold 71 = .ok (.aload_n 0, 1) := by decide +kernel
theorem dX5_hold_72 : decode cX5_hold 72 = .ok (.invokevirtual 144, 3) := by decide +kernel
theorem dX5_hold_75 : decode cX5_hold 75 = .ok (.iload_n 1, 1) := by decide +kernel
theorem dX5_hold_76 : decode cX5_hold 76 = .ok (.if_icmp .eq 13, 3) := by decide +kernel
theorem dX5_hold_79 : decode cX5_hold 79 = .ok (.new 65, 3) := by decide +kernel
theorem dX5_hold_82 : decode cX5_hold 82 = .ok (.dup, 1) := by decide +kernel
theorem dX5_hold_83 : decode cX5_hold 83 = .ok (.ldc 147, 2) := by decide +kernel
theorem dX5_hold_85 : decode cX5_hold 85 = .ok (.invokespecial 69, 3) := by decide +kernel
theorem dX5_hold_88 : decode cX5_hold 88 = .ok (.athrow, 1) := by decide +kernel
theorem dX5_hold_89 : decode cX5_hold 89 = .ok (.aload_n 0, 1) := by decide +kernel
theorem dX5_hold_90 : decode cX5_hold 90 = .ok (.iload_n 1, 1) := by decide +kernel
theorem dX5_hold_91 : decode cX5_hold 91 = .ok (.iload_n 2, 1) := by decide +kernel
theorem dX5_hold_92 : decode cX5_hold 92 = .ok (.iload_n 3, 1) := by decide +kernel
theorem dX5_hold_93 : decode cX5_hold 93 = .ok (.iload 4, 2) := by decide +kernel
theorem dX5_hold_95 : decode cX5_hold 95 = .ok (.invokevirtual 149, 3) := by decide +kernel
theorem dX5_hold_98 : decode cX5_hold 98 = .ok (.aload_n 0, 1) := by decide +kernel
theorem dX5_hold_99 : decode cX5_hold 99 = .ok (.iload_n 1, 1) := by decide +kernel
theorem dX5_hold_100 : decode cX5_hold 100 = .ok (.iload 4, 2) := by decide +kernel
theorem dX5_hold_102 : decode cX5_hold 102 = .ok (.iload 5, 2) := by decide +kernel
theorem dX5_hold_104 : decode cX5_hold 104 = .ok (.invokevirtual 153, 3) := by decide +kernel
theorem dX5_hold_107 : decode cX5_hold 107 = .ok (.aload_n 0, 1) := by decide +kernel
theorem dX5_hold_108 : decode cX5_hold 108 = .ok (.getfield 33, 3) := by decide +kernel
theorem dX5_hold_111 : decode cX5_hold 111 = .ok (.iload_n 1, 1) := by decide +kernel
theorem dX5_hold_112 : decode cX5_hold 112 = .ok (.invokevirtual 123, 3) := by decide +kernel
theorem dX5_hold_115 : decode cX5_hold 115 = .ok (.aload_n 0, 1) := by decide +kernel
theorem dX5_hold_116 : decode cX5_hold 116 = .ok (.getfield 26, 3) := by decide +kernel
theorem dX5_hold_119 : decode cX5_hold 119 = .ok (.iload 5, 2) := by decide +kernel
theorem dX5_hold_121 : decode cX5_hold 121 = .ok (.iload_n 1, 1) := by decide +kernel
theorem dX5_hold_122 : decode cX5_hold 122 = .ok (.iload 4, 2) := by decide +kernel
theorem dX5_hold_124 : decode cX5_hold 124 = .ok (.invokevirtual 157, 3) := by decide +kernel
theorem dX5_hold_127 : decode cX5_hold 127 = .ok (.bipush 10, 2) := by decide +kernel
theorem dX5_hold_129 : decode cX5_hold 129 = .ok (.iload_n 2, 1) := by decide +kernel
theorem dX5_hold_130 : decode cX5_hold 130 = .ok (.imul, 1) := by decide +kernel
theorem dX5_hold_131 : decode cX5_hold 131 = .ok (.iload_n 3, 1) := by decide +kernel
theorem dX5_hold_132 : decode cX5_hold 132 = .ok (.iadd, 1) := by decide +kernel
theorem dX5_hold_133 : decode cX5_hold 133 = .ok (.istore 6, 2) := by decide +kernel
theorem dX5_hold_135 : decode cX5_hold 135 = .ok (.aload_n 0, 1) := by decide +kernel
theorem dX5_hold_136 : decode cX5_hold 136 = .ok (.getfield 47, 3) := by decide +kernel
theorem dX5_hold_139 : decode cX5_hold 139 = .ok (.iload 6, 2) := by decide +kernel
theorem dX5_hold_141 : decode cX5_hold 141 = .ok (.iload 4, 2) := by decide +kernel
theorem dX5_hold_143 : decode cX5_hold 143 = .ok (.invokevirtual 160, 3) := by decide +kernel
theorem dX5_hold_146 : decode cX5_hold 146 = .ok (.istore 7, 2) := by decide +kernel
theorem dX5_hold_148 : decode cX5_hold 148 = .ok (.aload_n 0, 1) := by decide +kernel
theorem dX5_hold_149 : decode cX5_hold 149 = .ok (.getfield 40, 3) := by decide +kernel
theorem dX5_hold_152 : decode cX5_hold 152 = .ok (.iload_n 1, 1) := by decide +kernel
theorem dX5_hold_153 : decode cX5_hold 153 = .ok (.iload 6, 2) := by decide +kernel
theorem dX5_hold_155 : decode cX5_hold 155 = .ok (.iload 4, 2) := by decide +kernel
theorem dX5_hold_157 : decode cX5_hold 157 = .ok (.iload 5, 2) := by decide +kernel
theorem dX5_hold_159 : decode cX5_hold 159 = .ok (.iload 7, 2) := by decide +kernel
theorem dX5_hold_161 : decode cX5_hold 161 = .ok (.aload_n 0, 1) := by decide +kernel
theorem dX5_hold_162 : decode cX5_hold 162 = .ok (.getfield 9, 3) := by decide +kernel
theorem dX5_hold_165 : decode cX5_hold 165 = .ok (.invokevirtual 163, 3) := by decide +kernel
theorem dX5_hold_168 : decode cX5_hold 168 = .ok (.iload 7, 2) := by decide +kernel
theorem dX5_hold_170 : decode cX5_hold 170 = .ok (.ireturn, 1) := by decide +kernel
set_option maxRecDepth 20000 in
theorem ggX5_pay_X5_needPerson : GoodIn wsX5_pay wsX5_needPerson := goodIn_ca (goodIn_r _ [10, 11, 12] (by decide +kernel) (by decide +kernel)) (goodIn_sub (fun _ h => List.mem_cons_of_mem _ (List.mem_append_right _ h)) (by decide +kernel))
set_option maxRecDepth 20000 in
theorem gX5_pay_X5_needPerson : GoodIn wsX5_pay (va_wsS RX5 100 yX5_needPerson wsX5_needPerson) := goodIn_app (goodIn_of _ (by decide +kernel)) ggX5_pay_X5_needPerson
set_option maxRecDepth 20000 in
theorem ggX5_pay_X5_needHold : GoodIn wsX5_pay wsX5_needHold := goodIn_ca (goodIn_r _ [16, 3, 4, 5, 17, 18, 19, 20, 21, 63, 64, 65, 66, 67, 68, 69, 70, 71, 72, 73, 74, 75, 76, 77, 78] (by decide +kernel) (by decide +kernel)) (goodIn_sub (fun _ h => List.mem_cons_of_mem _ (List.mem_append_left _ (List.mem_append_right _ h))) (by decide +kernel))
set_option maxRecDepth 20000 in
theorem gX5_pay_X5_needHold : GoodIn wsX5_pay (wsV RX5 169 RX5 yX5_needHold wsX5_needHold) := goodIn_app (goodIn_of _ (by decide +kernel)) ggX5_pay_X5_needHold
set_option maxRecDepth 20000 in
theorem ggX5_pay_X1_left : GoodIn wsX5_pay wsX1_left := goodIn_r _ [24, 25, 26, 72, 73, 74, 75, 76, 77, 78] (by decide +kernel) (by decide +kernel)
set_option maxRecDepth 20000 in
theorem gX5_pay_X1_left_n172 : GoodIn wsX5_pay (wsX1_left) := ggX5_pay_X1_left
set_option maxRecDepth 20000 in
theorem ggX5_pay_X5_sell : GoodIn wsX5_pay wsX5_sell := goodIn_r _ [30, 5, 31, 32, 6, 33, 34, 35, 36, 37, 38, 39, 40, 41, 42, 43, 44, 45, 46, 47, 48, 49, 50, 51, 18, 52, 53, 21, 63, 64, 65, 66, 67, 68, 69, 70, 71, 72, 73, 74, 75, 76, 77, 78, 79, 80, 81, 82, 83, 84, 85, 86, 87] (by decide +kernel) (by decide +kernel)
set_option maxRecDepth 20000 in
theorem gX5_pay_X5_sell : GoodIn wsX5_pay (wsV RX5 180 RX5 yX5_sell wsX5_sell) := goodIn_app (goodIn_of _ (by decide +kernel)) ggX5_pay_X5_sell
set_option maxRecDepth 20000 in
theorem ggX5_pay_X1_prolong : GoodIn wsX5_pay wsX1_prolong := goodIn_r _ [56, 57, 58, 59, 60, 61, 62, 72, 73, 74, 75, 76, 77, 78] (by decide +kernel) (by decide +kernel)
set_option maxRecDepth 20000 in
theorem gX5_pay_X1_prolong_n183 : GoodIn wsX5_pay (wsX1_prolong) := ggX5_pay_X1_prolong
theorem dX5_pay_0 : decode cX5_pay 0 = .ok (.iload_n 1, 1) := by decide +kernel
theorem dX5_pay_1 : decode cX5_pay 1 = .ok (.invokestatic 100, 3) := by decide +kernel
theorem dX5_pay_4 : decode cX5_pay 4 = .ok (.iload_n 2, 1) := by decide +kernel
theorem dX5_pay_5 : decode cX5_pay 5 = .ok (.iconst 1, 1) := by decide +kernel
theorem dX5_pay_6 : decode cX5_pay 6 = .ok (.if_icmp .lt 10, 3) := by decide +kernel
theorem dX5_pay_9 : decode cX5_pay 9 = .ok (.iload_n 2, 1) := by decide +kernel
theorem dX5_pay_10 : decode cX5_pay 10 = .ok (.sipush 1000, 3) := by decide +kernel
theorem dX5_pay_13 : decode cX5_pay 13 = .ok (.if_icmp .le 13, 3) := by decide +kernel
theorem dX5_pay_16 : decode cX5_pay 16 = .ok (.new 58, 3) := by decide +kernel
theorem dX5_pay_19 : decode cX5_pay 19 = .ok (.dup, 1) := by decide +kernel
theorem dX5_pay_20 : decode cX5_pay 20 = .ok (.ldc 167, 2) := by decide +kernel
theorem dX5_pay_22 : decode cX5_pay 22 = .ok (.invokespecial 62, 3) := by decide +kernel
theorem dX5_pay_25 : decode cX5_pay 25 = .ok (.athrow, 1) := by decide +kernel
theorem dX5_pay_26 : decode cX5_pay 26 = .ok (.aload_n 0, 1) := by decide +kernel
theorem dX5_pay_27 : decode cX5_pay 27 = .ok (.iload_n 1, 1) := by decide +kernel
theorem dX5_pay_28 : decode cX5_pay 28 = .ok (.invokevirtual 169, 3) := by decide +kernel
theorem dX5_pay_31 : decode cX5_pay 31 = .ok (.iload_n 2, 1) := by decide +kernel
theorem dX5_pay_32 : decode cX5_pay 32 = .ok (.aload_n 0, 1) := by decide +kernel
theorem dX5_pay_33 : decode cX5_pay 33 = .ok (.getfield 40, 3) := by decide +kernel
theorem dX5_pay_36 : decode cX5_pay 36 = .ok (.iload_n 1, 1) := by decide +kernel
theorem dX5_pay_37 : decode cX5_pay 37 = .ok (.invokevirtual 172, 3) := by decide +kernel
theorem dX5_pay_40 : decode cX5_pay 40 = .ok (.if_icmp .le 13, 3) := by decide +kernel
theorem dX5_pay_43 : decode cX5_pay 43 = .ok (.new 65, 3) := by decide +kernel
theorem dX5_pay_46 : decode cX5_pay 46 = .ok (.dup, 1) := by decide +kernel
theorem dX5_pay_47 : decode cX5_pay 47 = .ok (.ldc 175, 2) := by decide +kernel
theorem dX5_pay_49 : decode cX5_pay 49 = .ok (.invokespecial 69, 3) := by decide +kernel
theorem dX5_pay_52 : decode cX5_pay 52 = .ok (.athrow, 1) := by decide +kernel
theorem dX5_pay_53 : decode cX5_pay 53 = .ok (.aload_n 0, 1) := by decide +kernel
theorem dX5_pay_54 : decode cX5_pay 54 = .ok (.getfield 19, 3) := by decide +kernel
theorem dX5_pay_57 : decode cX5_pay 57 = .ok (.iload_n 1, 1) := by decide +kernel
theorem dX5_pay_58 : decode cX5_pay 58 = .ok (.dup2, 1) := by decide +kernel
theorem dX5_pay_59 : decode cX5_pay 59 = .ok (.iaload, 1) := by decide +kernel
theorem dX5_pay_60 : decode cX5_pay 60 = .ok (.iload_n 2, 1) := by decide +kernel
theorem dX5_pay_61 : decode cX5_pay 61 = .ok (.iadd, 1) := by decide +kernel
theorem dX5_pay_62 : decode cX5_pay 62 = .ok (.iastore, 1) := by decide +kernel
theorem dX5_pay_63 : decode cX5_pay 63 = .ok (.aload_n 0, 1) := by decide +kernel
theorem dX5_pay_64 : decode cX5_pay 64 = .ok (.getfield 40, 3) := by decide +kernel
theorem dX5_pay_67 : decode cX5_pay 67 = .ok (.getfield 177, 3) := by decide +kernel
theorem dX5_pay_70 : decode cX5_pay 70 = .ok (.iload_n 1, 1) := by decide +kernel
theorem dX5_pay_71 : decode cX5_pay 71 = .ok (.dup2, 1) := by decide +kernel
theorem dX5_pay_72 : decode cX5_pay 72 = .ok (.iaload, 1) := by decide +kernel
theorem dX5_pay_73 : decode cX5_pay 73 = .ok (.iload_n 2, 1) := by decide +kernel
theorem dX5_pay_74 : decode cX5_pay 74 = .ok (.iadd, 1) := by decide +kernel
theorem dX5_pay_75 : decode cX5_pay 75 = .ok (.iastore, 1) := by decide +kernel
theorem dX5_pay_76 : decode cX5_pay 76 = .ok (.aload_n 0, 1) := by decide +kernel
theorem dX5_pay_77 : decode cX5_pay 77 = .ok (.getfield 40, 3) := by decide +kernel
theorem dX5_pay_80 : decode cX5_pay 80 = .ok (.iload_n 1, 1) := by decide +kernel
theorem dX5_pay_81 : decode cX5_pay 81 = .ok (.invokevirtual 172, 3) := by decide +kernel
theorem dX5_pay_84 : decode cX5_pay 84 = .ok (.istore_n 3, 1) := by decide +kernel
theorem dX5_pay_85 : decode cX5_pay 85 = .ok (.iload_n 3, 1) := by decide +kernel
theorem dX5_pay_86 : decode cX5_pay 86 = .ok (.ifCond .ne 11, 3) := by decide +kernel
theorem dX5_pay_89 : decode cX5_pay 89 = .ok (.aload_n 0, 1) := by decide +kernel
theorem dX5_pay_90 : decode cX5_pay 90 = .ok (.iload_n 1, 1) := by decide +kernel
theorem dX5_pay_91 : decode cX5_pay 91 = .ok (.invokevirtual 180, 3) := by decide +kernel
theorem dX5_pay_94 : decode cX5_pay 94 = .ok (.goto 11, 3) := by decide +kernel
theorem dX5_pay_97 : decode cX5_pay 97 = .ok (.aload_n 0, 1) := by decide +kernel
theorem dX5_pay_98 : decode cX5_pay 98 = .ok (.getfield 40, 3) := by decide +kernel
theorem dX5_pay_101 : decode cX5_pay 101 = .ok (.iload_n 1, 1) := by decide +kernel
theorem dX5_pay_102 : decode cX5_pay 102 = .ok (.invokevirtual 183, 3) := by decide +kernel
theorem dX5_pay_105 : decode cX5_pay 105 = .ok (.iload_n 3, 1) := by decide +kernel
theorem dX5_pay_106 : decode cX5_pay 106 = .ok (.ireturn, 1) := by decide +kernel
set_option maxRecDepth 20000 in
theorem ggX5_letGo_X5_needPerson : GoodIn wsX5_letGo wsX5_needPerson := goodIn_ca (goodIn_r _ [4, 5, 6] (by decide +kernel) (by decide +kernel)) (goodIn_sub (fun _ h => List.mem_cons_of_mem _ (List.mem_append_left _ (List.mem_append_right _ h))) (by decide +kernel))
set_option maxRecDepth 20000 in
theorem gX5_letGo_X5_needPerson : GoodIn wsX5_letGo (va_wsS RX5 100 yX5_needPerson wsX5_needPerson) := goodIn_app (goodIn_of _ (by decide +kernel)) ggX5_letGo_X5_needPerson
set_option maxRecDepth 20000 in
theorem ggX5_letGo_X5_needHold : GoodIn wsX5_letGo wsX5_needHold := goodIn_ca (goodIn_r _ [10, 11, 12, 13, 14, 15, 16, 17, 18, 39, 40, 41, 42, 43, 44, 45, 46, 47, 48, 49, 50, 51, 52, 53, 54] (by decide +kernel) (by decide +kernel)) (goodIn_sub (fun _ h => List.mem_cons_of_mem _ (List.mem_append_right _ h)) (by decide +kernel))
set_option maxRecDepth 20000 in
theorem gX5_letGo_X5_needHold : GoodIn wsX5_letGo (wsV RX5 169 RX5 yX5_needHold wsX5_needHold) := goodIn_app (goodIn_of _ (by decide +kernel)) ggX5_letGo_X5_needHold
set_option maxRecDepth 20000 in
theorem ggX5_letGo_X5_giveBack : GoodIn wsX5_letGo wsX5_giveBack := goodIn_r _ [22, 13, 23, 24, 25, 26, 27, 28, 29, 30, 31, 32, 33, 34, 35, 36, 15, 37, 38, 18, 39, 40, 41, 42, 43, 44, 45, 46, 47, 48, 49, 50, 51, 52, 53, 54, 55, 56, 57, 58, 59, 60, 61, 62, 63] (by decide +kernel) (by decide +kernel)
set_option maxRecDepth 20000 in
theorem gX5_letGo_X5_giveBack : GoodIn wsX5_letGo (wsV RX5 77 RX5 yX5_giveBack wsX5_giveBack) := goodIn_app (goodIn_of _ (by decide +kernel)) ggX5_letGo_X5_giveBack
theorem dX5_letGo_0 : decode cX5_letGo 0 = .ok (.iload_n 1, 1) := by decide +kernel
theorem dX5_letGo_1 : decode cX5_letGo 1 = .ok (.invokestatic 100, 3) := by decide +kernel
theorem dX5_letGo_4 : decode cX5_letGo 4 = .ok (.aload_n 0, 1) := by decide +kernel
theorem dX5_letGo_5 : decode cX5_letGo 5 = .ok (.iload_n 1, 1) := by decide +kernel
theorem dX5_letGo_6 : decode cX5_letGo 6 = .ok (.invokevirtual 169, 3) := by decide +kernel
theorem dX5_letGo_9 : decode cX5_letGo 9 = .ok (.aload_n 0, 1) := by decide +kernel
theorem dX5_letGo_10 : decode cX5_letGo 10 = .ok (.iload_n 1, 1) := by decide +kernel
theorem dX5_letGo_11 : decode cX5_letGo 11 = .ok (.invokevirtual 77, 3) := by decide +kernel
theorem dX5_letGo_14 : decode cX5_letGo 14 = .ok (.ireturn, 1) := by decide +kernel
set_option maxRecDepth 20000 in
theorem ggX5_lapses_X5_needPerson : GoodIn wsX5_lapses wsX5_needPerson := goodIn_ca (goodIn_r _ [5, 6, 7] (by decide +kernel) (by decide +kernel)) (goodIn_sub (fun _ h => List.mem_cons_of_mem _ (List.mem_append_right _ h)) (by decide +kernel))
set_option maxRecDepth 20000 in
theorem gX5_lapses_X5_needPerson : GoodIn wsX5_lapses (va_wsS RX5 100 yX5_needPerson wsX5_needPerson) := goodIn_app (goodIn_of _ (by decide +kernel)) ggX5_lapses_X5_needPerson
set_option maxRecDepth 20000 in
theorem ggX5_lapses_X1_isThere : GoodIn wsX5_lapses wsX1_isThere := goodIn_r _ [11, 12, 22, 23, 24, 25, 26, 27, 28] (by decide +kernel) (by decide +kernel)
set_option maxRecDepth 20000 in
theorem gX5_lapses_X1_isThere_n70 : GoodIn wsX5_lapses (wsX1_isThere) := ggX5_lapses_X1_isThere
theorem dX5_lapses_0 : decode cX5_lapses 0 = .ok (.iload_n 1, 1) := by decide +kernel
theorem dX5_lapses_1 : decode cX5_lapses 1 = .ok (.invokestatic 100, 3) := by decide +kernel
theorem dX5_lapses_4 : decode cX5_lapses 4 = .ok (.aload_n 0, 1) := by decide +kernel
theorem dX5_lapses_5 : decode cX5_lapses 5 = .ok (.getfield 40, 3) := by decide +kernel
theorem dX5_lapses_8 : decode cX5_lapses 8 = .ok (.iload_n 1, 1) := by decide +kernel
theorem dX5_lapses_9 : decode cX5_lapses 9 = .ok (.invokevirtual 70, 3) := by decide +kernel
theorem dX5_lapses_12 : decode cX5_lapses 12 = .ok (.ifCond .eq 15, 3) := by decide +kernel
theorem dX5_lapses_15 : decode cX5_lapses 15 = .ok (.aload_n 0, 1) := by decide +kernel
theorem dX5_lapses_16 : decode cX5_lapses 16 = .ok (.getfield 40, 3) := by decide +kernel
theorem dX5_lapses_19 : decode cX5_lapses 19 = .ok (.getfield 74, 3) := by decide +kernel
theorem dX5_lapses_22 : decode cX5_lapses 22 = .ok (.iload_n 1, 1) := by decide +kernel
theorem dX5_lapses_23 : decode cX5_lapses 23 = .ok (.iaload, 1) := by decide +kernel
theorem dX5_lapses_24 : decode cX5_lapses 24 = .ok (.goto 4, 3) := by decide +kernel
theorem dX5_lapses_27 : decode cX5_lapses 27 = .ok (.iconst (-1), 1) := by decide +kernel
theorem dX5_lapses_28 : decode cX5_lapses 28 = .ok (.ireturn, 1) := by decide +kernel
set_option maxRecDepth 20000 in
theorem ggX5_state_X5_needSeat : GoodIn wsX5_state wsX5_needSeat := goodIn_ca (goodIn_r _ [5, 6, 7] (by decide +kernel) (by decide +kernel)) (goodIn_sub (fun _ h => List.mem_cons_of_mem _ (List.mem_append_right _ h)) (by decide +kernel))
set_option maxRecDepth 20000 in
theorem gX5_state_X5_needSeat : GoodIn wsX5_state (va_wsS RX5 186 yX5_needSeat wsX5_needSeat) := goodIn_app (goodIn_of _ (by decide +kernel)) ggX5_state_X5_needSeat
set_option maxRecDepth 20000 in
theorem ggX5_state_X4_stateOf : GoodIn wsX5_state wsX4_stateOf := goodIn_r _ [11, 12, 13, 14, 24, 25, 26, 27, 28] (by decide +kernel) (by decide +kernel)
set_option maxRecDepth 20000 in
theorem gX5_state_X4_stateOf_n189 : GoodIn wsX5_state (wsX4_stateOf) := ggX5_state_X4_stateOf
theorem dX5_state_0 : decode cX5_state 0 = .ok (.iload_n 1, 1) := by decide +kernel
theorem dX5_state_1 : decode cX5_state 1 = .ok (.invokestatic 186, 3) := by decide +kernel
theorem dX5_state_4 : decode cX5_state 4 = .ok (.aload_n 0, 1) := by decide +kernel
theorem dX5_state_5 : decode cX5_state 5 = .ok (.getfield 47, 3) := by decide +kernel
theorem dX5_state_8 : decode cX5_state 8 = .ok (.iload_n 1, 1) := by decide +kernel
theorem dX5_state_9 : decode cX5_state 9 = .ok (.invokevirtual 189, 3) := by decide +kernel
theorem dX5_state_12 : decode cX5_state 12 = .ok (.ireturn, 1) := by decide +kernel
set_option maxRecDepth 20000 in
theorem ggX5_owner_X5_needSeat : GoodIn wsX5_owner wsX5_needSeat := goodIn_ca (goodIn_r _ [5, 6, 7] (by decide +kernel) (by decide +kernel)) (goodIn_sub (fun _ h => List.mem_cons_of_mem _ (List.mem_append_right _ h)) (by decide +kernel))
set_option maxRecDepth 20000 in
theorem gX5_owner_X5_needSeat : GoodIn wsX5_owner (va_wsS RX5 186 yX5_needSeat wsX5_needSeat) := goodIn_app (goodIn_of _ (by decide +kernel)) ggX5_owner_X5_needSeat
theorem dX5_owner_0 : decode cX5_owner 0 = .ok (.iload_n 1, 1) := by decide +kernel
theorem dX5_owner_1 : decode cX5_owner 1 = .ok (.invokestatic 186, 3) := by decide +kernel
theorem dX5_owner_4 : decode cX5_owner 4 = .ok (.aload_n 0, 1) := by decide +kernel
theorem dX5_owner_5 : decode cX5_owner 5 = .ok (.getfield 47, 3) := by decide +kernel
theorem dX5_owner_8 : decode cX5_owner 8 = .ok (.getfield 192, 3) := by decide +kernel
theorem dX5_owner_11 : decode cX5_owner 11 = .ok (.iload_n 1, 1) := by decide +kernel
theorem dX5_owner_12 : decode cX5_owner 12 = .ok (.iaload, 1) := by decide +kernel
theorem dX5_owner_13 : decode cX5_owner 13 = .ok (.ireturn, 1) := by decide +kernel
set_option maxRecDepth 20000 in
theorem ggX5_ownerBySales_X5_needSeat : GoodIn wsX5_ownerBySales wsX5_needSeat := goodIn_ca (goodIn_r _ [5, 6, 7] (by decide +kernel) (by decide +kernel)) (goodIn_sub (fun _ h => List.mem_cons_of_mem _ (List.mem_append_right _ h)) (by decide +kernel))
set_option maxRecDepth 20000 in
theorem gX5_ownerBySales_X5_needSeat : GoodIn wsX5_ownerBySales (va_wsS RX5 186 yX5_needSeat wsX5_needSeat) := goodIn_app (goodIn_of _ (by decide +kernel)) ggX5_ownerBySales_X5_needSeat
set_option maxRecDepth 20000 in
theorem ggX5_ownerBySales_X3_lastBuyerOf : GoodIn wsX5_ownerBySales wsX3_lastBuyerOf := goodIn_r _ [11, 12, 13, 14, 15, 25, 26, 27, 28] (by decide +kernel) (by decide +kernel)
set_option maxRecDepth 20000 in
theorem gX5_ownerBySales_X3_lastBuyerOf_n195 : GoodIn wsX5_ownerBySales (wsX3_lastBuyerOf) := ggX5_ownerBySales_X3_lastBuyerOf
theorem dX5_ownerBySales_0 : decode cX5_ownerBySales 0 = .ok (.iload_n 1, 1) := by decide +kernel
theorem dX5_ownerBySales_1 : decode cX5_ownerBySales 1 = .ok (.invokestatic 186, 3) := by decide +kernel
theorem dX5_ownerBySales_4 : decode cX5_ownerBySales 4 = .ok (.aload_n 0, 1) := by decide +kernel
theorem dX5_ownerBySales_5 : decode cX5_ownerBySales 5 = .ok (.getfield 54, 3) := by decide +kernel
theorem dX5_ownerBySales_8 : decode cX5_ownerBySales 8 = .ok (.iload_n 1, 1) := by decide +kernel
theorem dX5_ownerBySales_9 : decode cX5_ownerBySales 9 = .ok (.invokevirtual 195, 3) := by decide +kernel
theorem dX5_ownerBySales_12 : decode cX5_ownerBySales 12 = .ok (.ireturn, 1) := by decide +kernel
set_option maxRecDepth 20000 in
theorem ggX5_isSingle_X5_needSeat : GoodIn wsX5_isSingle wsX5_needSeat := goodIn_ca (goodIn_r _ [5, 6, 7] (by decide +kernel) (by decide +kernel)) (goodIn_sub (fun _ h => List.mem_cons_of_mem _ (List.mem_append_right _ h)) (by decide +kernel))
set_option maxRecDepth 20000 in
theorem gX5_isSingle_X5_needSeat : GoodIn wsX5_isSingle (va_wsS RX5 186 yX5_needSeat wsX5_needSeat) := goodIn_app (goodIn_of _ (by decide +kernel)) ggX5_isSingle_X5_needSeat
set_option maxRecDepth 20000 in
theorem ggX5_isSingle_X4_isOpen : GoodIn wsX5_isSingle wsX4_isOpen := goodIn_r _ [11, 12, 13, 14, 9, 15, 16, 17, 18, 28, 29, 30, 31, 32] (by decide +kernel) (by decide +kernel)
set_option maxRecDepth 20000 in
theorem gX5_isSingle_X4_isOpen_n198 : GoodIn wsX5_isSingle (wsX4_isOpen) := ggX5_isSingle_X4_isOpen
theorem dX5_isSingle_0 : decode cX5_isSingle 0 = .ok (.iload_n 1, 1) := by decide +kernel
theorem dX5_isSingle_1 : decode cX5_isSingle 1 = .ok (.invokestatic 186, 3) := by decide +kernel
theorem dX5_isSingle_4 : decode cX5_isSingle 4 = .ok (.iload_n 1, 1) := by decide +kernel
theorem dX5_isSingle_5 : decode cX5_isSingle 5 = .ok (.bipush 10, 2) := by decide +kernel
theorem dX5_isSingle_7 : decode cX5_isSingle 7 = .ok (.idiv, 1) := by decide +kernel
theorem dX5_isSingle_8 : decode cX5_isSingle 8 = .ok (.istore_n 2, 1) := by decide +kernel
theorem dX5_isSingle_9 : decode cX5_isSingle 9 = .ok (.iload_n 1, 1) := by decide +kernel
theorem dX5_isSingle_10 : decode cX5_isSingle 10 = .ok (.bipush 10, 2) := by decide +kernel
theorem dX5_isSingle_12 : decode cX5_isSingle 12 = .ok (.irem, 1) := by decide +kernel
theorem dX5_isSingle_13 : decode cX5_isSingle 13 = .ok (.istore_n 3, 1) := by decide +kernel
theorem dX5_isSingle_14 : decode cX5_isSingle 14 = .ok (.aload_n 0, 1) := by decide +kernel
theorem dX5_isSingle_15 : decode cX5_isSingle 15 = .ok (.getfield 47, 3) := by decide +kernel
theorem dX5_isSingle_18 : decode cX5_isSingle 18 = .ok (.iload_n 2, 1) := by decide +kernel
theorem dX5_isSingle_19 : decode cX5_isSingle 19 = .ok (.iload_n 3, 1) := by decide +kernel
theorem dX5_isSingle_20 : decode cX5_isSingle 20 = .ok (.invokevirtual 198, 3) := by decide +kernel
theorem dX5_isSingle_23 : decode cX5_isSingle 23 = .ok (.ifCond .eq 35, 3) := by decide +kernel
theorem dX5_isSingle_26 : decode cX5_isSingle 26 = .ok (.aload_n 0, 1) := by decide +kernel
theorem dX5_isSingle_27 : decode cX5_isSingle 27 = .ok (.getfield 47, 3) := by decide +kernel
theorem dX5_isSingle_30 : decode cX5_isSingle 30 = .ok (.iload_n 2, 1) := by decide +kernel
theorem dX5_isSingle_31 : decode cX5_isSingle 31 = .ok (.iload_n 3, 1) := by decide +kernel
theorem dX5_isSingle_32 : decode cX5_isSingle 32 = .ok (.iconst 1, 1) := by decide +kernel
theorem dX5_isSingle_33 : decode cX5_isSingle 33 = .ok (.isub, 1) := by decide +kernel
theorem dX5_isSingle_34 : decode cX5_isSingle 34 = .ok (.invokevirtual 198, 3) := by decide +kernel
theorem dX5_isSingle_37 : decode cX5_isSingle 37 = .ok (.ifCond .ne 21, 3) := by decide +kernel
theorem dX5_isSingle_40 : decode cX5_isSingle 40 = .ok (.aload_n 0, 1) := by decide +kernel
theorem dX5_isSingle_41 : decode cX5_isSingle 41 = .ok (.getfield 47, 3) := by decide +kernel
theorem dX5_isSingle_44 : decode cX5_isSingle 44 = .ok (.iload_n 2, 1) := by decide +kernel
theorem dX5_isSingle_45 : decode cX5_isSingle 45 = .ok (.iload_n 3, 1) := by decide +kernel
theorem dX5_isSingle_46 : decode cX5_isSingle 46 = .ok (.iconst 1, 1) := by decide +kernel
theorem dX5_isSingle_47 : decode cX5_isSingle 47 = .ok (.iadd, 1) := by decide +kernel
theorem dX5_isSingle_48 : decode cX5_isSingle 48 = .ok (.invokevirtual 198, 3) := by decide +kernel
theorem dX5_isSingle_51 : decode cX5_isSingle 51 = .ok (.ifCond .ne 7, 3) := by decide +kernel
theorem dX5_isSingle_54 : decode cX5_isSingle 54 = .ok (.iconst 1, 1) := by decide +kernel
theorem dX5_isSingle_55 : decode cX5_isSingle 55 = .ok (.goto 4, 3) := by decide +kernel
theorem dX5_isSingle_58 : decode cX5_isSingle 58 = .ok (.iconst 0, 1) := by decide +kernel
theorem dX5_isSingle_59 : decode cX5_isSingle 59 = .ok (.ireturn, 1) := by decide +kernel
set_option maxRecDepth 20000 in
theorem ggX5_firstOpen_X5_needRow : GoodIn wsX5_firstOpen wsX5_needRow := goodIn_ca (goodIn_r _ [7, 8, 9] (by decide +kernel) (by decide +kernel)) (goodIn_sub (fun _ h => List.mem_cons_of_mem _ (List.mem_append_right _ h)) (by decide +kernel))
set_option maxRecDepth 20000 in
theorem gX5_firstOpen_X5_needRow : GoodIn wsX5_firstOpen (va_wsS RX5 137 yX5_needRow wsX5_needRow) := goodIn_app (goodIn_of _ (by decide +kernel)) ggX5_firstOpen_X5_needRow
set_option maxRecDepth 20000 in
theorem ggX5_firstOpen_X4_isOpen : GoodIn wsX5_firstOpen wsX4_isOpen := goodIn_r _ [13, 14, 15, 16, 11, 17, 18, 19, 20, 30, 31, 32, 33, 34] (by decide +kernel) (by decide +kernel)
set_option maxRecDepth 20000 in
theorem gX5_firstOpen_X4_isOpen_n198 : GoodIn wsX5_firstOpen (wsX4_isOpen) := ggX5_firstOpen_X4_isOpen
theorem dX5_firstOpen_0 : decode cX5_firstOpen 0 = .ok (.iload_n 1, 1) := by decide +kernel
theorem dX5_firstOpen_1 : decode cX5_firstOpen 1 = .ok (.invokestatic 137, 3) := by decide +kernel
theorem dX5_firstOpen_4 : decode cX5_firstOpen 4 = .ok (.iload_n 2, 1) := by decide +kernel
theorem dX5_firstOpen_5 : decode cX5_firstOpen 5 = .ok (.iconst 1, 1) := by decide +kernel
theorem dX5_firstOpen_6 : decode cX5_firstOpen 6 = .ok (.if_icmp .lt 9, 3) := by decide +kernel
theorem dX5_firstOpen_9 : decode cX5_firstOpen 9 = .ok (.iload_n 2, 1) := by decide +kernel
theorem dX5_firstOpen_10 : decode cX5_firstOpen 10 = .ok (.bipush 10, 2) := by decide +kernel
theorem dX5_firstOpen_12 : decode cX5_firstOpen 12 = .ok (.if_icmp .le 13, 3) := by decide +kernel
theorem dX5_firstOpen_15 : decode cX5_firstOpen 15 = .ok (.new 58, 3) := by decide +kernel
theorem dX5_firstOpen_18 : decode cX5_firstOpen 18 = .ok (.dup, 1) := by decide +kernel
theorem dX5_firstOpen_19 : decode cX5_firstOpen 19 = .ok (.ldc 142, 2) := by decide +kernel
theorem dX5_firstOpen_21 : decode cX5_firstOpen 21 = .ok (.invokespecial 62, 3) := by decide +kernel
theorem dX5_firstOpen_24 : decode cX5_firstOpen 24 = .ok (.athrow, 1) := by decide +kernel
theorem dX5_firstOpen_25 : decode cX5_firstOpen 25 = .ok (.iconst 0, 1) := by decide +kernel
theorem dX5_firstOpen_26 : decode cX5_firstOpen 26 = .ok (.istore_n 3, 1) := by decide +kernel
theorem dX5_firstOpen_27 : decode cX5_firstOpen 27 = .ok (.iconst 0, 1) := by decide +kernel
theorem dX5_firstOpen_28 : decode cX5_firstOpen 28 = .ok (.istore 4, 2) := by decide +kernel
theorem dX5_firstOpen_30 : decode cX5_firstOpen 30 = .ok (.iload 4, 2) := by decide +kernel
theorem dX5_firstOpen_32 : decode cX5_firstOpen 32 = .ok (.bipush 10, 2) := by decide +kernel
theorem dX5_firstOpen_34 : decode cX5_firstOpen 34 = .ok (.if_icmp .ge 42, 3) := by decide +kernel
theorem dX5_firstOpen_37 : decode cX5_firstOpen 37 = .ok (.aload_n 0, 1) := by decide +kernel
theorem dX5_firstOpen_38 : decode cX5_firstOpen 38 = .ok (.getfield 47, 3) := by decide +kernel
theorem dX5_firstOpen_41 : decode cX5_firstOpen 41 = .ok (.iload_n 1, 1) := by decide +kernel
theorem dX5_firstOpen_42 : decode cX5_firstOpen 42 = .ok (.iload 4, 2) := by decide +kernel
theorem dX5_firstOpen_44 : decode cX5_firstOpen 44 = .ok (.invokevirtual 198, 3) := by decide +kernel
theorem dX5_firstOpen_47 : decode cX5_firstOpen 47 = .ok (.ifCond .eq 9, 3) := by decide +kernel
theorem dX5_firstOpen_50 : decode cX5_firstOpen 50 = .ok (.iload_n 3, 1) := by decide +kernel
theorem dX5_firstOpen_51 : decode cX5_firstOpen 51 = .ok (.iconst 1, 1) := by decide +kernel
theorem dX5_firstOpen_52 : decode cX5_firstOpen 52 = .ok (.iadd, 1) := by decide +kernel
theorem dX5_firstOpen_53 : decode cX5_firstOpen 53 = .ok (.goto 4, 3) := by decide +kernel
theorem dX5_firstOpen_56 : decode cX5_firstOpen 56 = .ok (.iconst 0, 1) := by decide +kernel
theorem dX5_firstOpen_57 : decode cX5_firstOpen 57 = .ok (.istore_n 3, 1) := by decide +kernel
theorem dX5_firstOpen_58 : decode cX5_firstOpen 58 = .ok (.iload_n 3, 1) := by decide +kernel
theorem dX5_firstOpen_59 : decode cX5_firstOpen 59 = .ok (.iload_n 2, 1) := by decide +kernel
theorem dX5_firstOpen_60 : decode cX5_firstOpen 60 = .ok (.if_icmp .ne 10, 3) := by decide +kernel
theorem dX5_firstOpen_63 : decode cX5_firstOpen 63 = .ok (.iload 4, 2) := by decide +kernel
theorem dX5_firstOpen_65 : decode cX5_firstOpen 65 = .ok (.iload_n 2, 1) := by decide +kernel
theorem dX5_firstOpen_66 : decode cX5_firstOpen 66 = .ok (.isub, 1) := by decide +kernel
theorem dX5_firstOpen_67 : decode cX5_firstOpen 67 = .ok (.iconst 1, 1) := by decide +kernel
theorem dX5_firstOpen_68 : decode cX5_firstOpen 68 = .ok (.iadd, 1) := by decide +kernel
theorem dX5_firstOpen_69 : decode cX5_firstOpen 69 = .ok (.ireturn, 1) := by decide +kernel
theorem dX5_firstOpen_70 : decode cX5_firstOpen 70 = .ok (.iinc 4 1, 3) := by decide +kernel
theorem dX5_firstOpen_73 : decode cX5_firstOpen 73 = .ok (.goto (-43), 3) := by decide +kernel
theorem dX5_firstOpen_76 : decode cX5_firstOpen 76 = .ok (.iconst (-1), 1) := by decide +kernel
theorem dX5_firstOpen_77 : decode cX5_firstOpen 77 = .ok (.ireturn, 1) := by decide +kernel
set_option maxRecDepth 20000 in
theorem ggX5_offer_X5_needPerson : GoodIn wsX5_offer wsX5_needPerson := goodIn_ca (goodIn_r _ [9, 10, 11] (by decide +kernel) (by decide +kernel)) (goodIn_sub (fun _ h => List.mem_cons_of_mem _ (List.mem_append_right _ h)) (by decide +kernel))
set_option maxRecDepth 20000 in
theorem gX5_offer_X5_needPerson : GoodIn wsX5_offer (va_wsS RX5 100 yX5_needPerson wsX5_needPerson) := goodIn_app (goodIn_of _ (by decide +kernel)) ggX5_offer_X5_needPerson
set_option maxRecDepth 20000 in
theorem ggX5_offer_X5_needSeat : GoodIn wsX5_offer wsX5_needSeat := goodIn_ca (goodIn_r _ [14, 10, 11] (by decide +kernel) (by decide +kernel)) (goodIn_sub (fun _ h => List.mem_cons_of_mem _ (List.mem_append_right _ h)) (by decide +kernel))
set_option maxRecDepth 20000 in
theorem gX5_offer_X5_needSeat : GoodIn wsX5_offer (va_wsS RX5 186 yX5_needSeat wsX5_needSeat) := goodIn_app (goodIn_of _ (by decide +kernel)) ggX5_offer_X5_needSeat
set_option maxRecDepth 20000 in
theorem ggX5_offer_X4_stateOf : GoodIn wsX5_offer wsX4_stateOf := goodIn_r _ [18, 19, 20, 21, 39, 40, 41, 42, 43] (by decide +kernel) (by decide +kernel)
set_option maxRecDepth 20000 in
theorem gX5_offer_X4_stateOf_n189 : GoodIn wsX5_offer (wsX4_stateOf) := ggX5_offer_X4_stateOf
set_option maxRecDepth 20000 in
theorem ggX5_offer_X4_ceilingOf : GoodIn wsX5_offer wsX4_ceilingOf := goodIn_r _ [24, 25, 39, 40, 41, 42, 43] (by decide +kernel) (by decide +kernel)
set_option maxRecDepth 20000 in
theorem gX5_offer_X4_ceilingOf_n208 : GoodIn wsX5_offer (wsX4_ceilingOf) := ggX5_offer_X4_ceilingOf
set_option maxRecDepth 20000 in
theorem ggX5_offer_X4_putUp : GoodIn wsX5_offer wsX4_putUp := goodIn_r _ [28, 21, 29, 39, 40, 41, 42, 43] (by decide +kernel) (by decide +kernel)
set_option maxRecDepth 20000 in
theorem gX5_offer_X4_putUp_n213 : GoodIn wsX5_offer (wsX4_putUp) := ggX5_offer_X4_putUp
theorem dX5_offer_0 : decode cX5_offer 0 = .ok (.iload_n 1, 1) := by decide +kernel
theorem dX5_offer_1 : decode cX5_offer 1 = .ok (.invokestatic 100, 3) := by decide +kernel
theorem dX5_offer_4 : decode cX5_offer 4 = .ok (.iload_n 2, 1) := by decide +kernel
theorem dX5_offer_5 : decode cX5_offer 5 = .ok (.invokestatic 186, 3) := by decide +kernel
theorem dX5_offer_8 : decode cX5_offer 8 = .ok (.iload_n 3, 1) := by decide +kernel
theorem dX5_offer_9 : decode cX5_offer 9 = .ok (.iconst 1, 1) := by decide +kernel
theorem dX5_offer_10 : decode cX5_offer 10 = .ok (.if_icmp .lt 10, 3) := by decide +kernel
theorem dX5_offer_13 : decode cX5_offer 13 = .ok (.iload_n 3, 1) := by decide +kernel
theorem dX5_offer_14 : decode cX5_offer 14 = .ok (.sipush 10000, 3) := by decide +kernel
theorem dX5_offer_17 : decode cX5_offer 17 = .ok (.if_icmp .le 13, 3) := by decide +kernel
theorem dX5_offer_20 : decode cX5_offer 20 = .ok (.new 58, 3) := by decide +kernel
theorem dX5_offer_23 : decode cX5_offer 23 = .ok (.dup, 1) := by decide +kernel
theorem dX5_offer_24 : decode cX5_offer 24 = .ok (.ldc 202, 2) := by decide +kernel
theorem dX5_offer_26 : decode cX5_offer 26 = .ok (.invokespecial 62, 3) := by decide +kernel
theorem dX5_offer_29 : decode cX5_offer 29 = .ok (.athrow, 1) := by decide +kernel
theorem dX5_offer_30 : decode cX5_offer 30 = .ok (.aload_n 0, 1) := by decide +kernel
theorem dX5_offer_31 : decode cX5_offer 31 = .ok (.getfield 47, 3) := by decide +kernel
theorem dX5_offer_34 : decode cX5_offer 34 = .ok (.iload_n 2, 1) := by decide +kernel
theorem dX5_offer_35 : decode cX5_offer 35 = .ok (.invokevirtual 189, 3) := by decide +kernel
theorem dX5_offer_38 : decode cX5_offer 38 = .ok (.iconst 2, 1) := by decide +kernel
theorem dX5_offer_39 : decode cX5_offer 39 = .ok (.if_icmp .eq 13, 3) := by decide +kernel
theorem dX5_offer_42 : decode cX5_offer 42 = .ok (.new 65, 3) := by decide +kernel
theorem dX5_offer_45 : decode cX5_offer 45 = .ok (.dup, 1) := by decide +kernel
theorem dX5_offer_46 : decode cX5_offer 46 = .ok (.ldc 204, 2) := by decide +kernel
theorem dX5_offer_48 : decode cX5_offer 48 = .ok (.invokespecial 69, 3) := by decide +kernel
theorem dX5_offer_51 : decode cX5_offer 51 = .ok (.athrow, 1) := by decide +kernel
theorem dX5_offer_52 : decode cX5_offer 52 = .ok (.aload_n 0, 1) := by decide +kernel
theorem dX5_offer_53 : decode cX5_offer 53 = .ok (.getfield 47, 3) := by decide +kernel
theorem dX5_offer_56 : decode cX5_offer 56 = .ok (.getfield 192, 3) := by decide +kernel
theorem dX5_offer_59 : decode cX5_offer 59 = .ok (.iload_n 2, 1) := by decide +kernel
theorem dX5_offer_60 : decode cX5_offer 60 = .ok (.iaload, 1) := by decide +kernel
theorem dX5_offer_61 : decode cX5_offer 61 = .ok (.iload_n 1, 1) := by decide +kernel
theorem dX5_offer_62 : decode cX5_offer 62 = .ok (.if_icmp .eq 13, 3) := by decide +kernel
theorem dX5_offer_65 : decode cX5_offer 65 = .ok (.new 65, 3) := by decide +kernel
theorem dX5_offer_68 : decode cX5_offer 68 = .ok (.dup, 1) := by decide +kernel
theorem dX5_offer_69 : decode cX5_offer 69 = .ok (.ldc 206, 2) := by decide +kernel
theorem dX5_offer_71 : decode cX5_offer 71 = .ok (.invokespecial 69, 3) := by decide +kernel
theorem dX5_offer_74 : decode cX5_offer 74 = .ok (.athrow, 1) := by decide +kernel
theorem dX5_offer_75 : decode cX5_offer 75 = .ok (.aload_n 0, 1) := by decide +kernel
theorem dX5_offer_76 : decode cX5_offer 76 = .ok (.getfield 47, 3) := by decide +kernel
theorem dX5_offer_79 : decode cX5_offer 79 = .ok (.iload_n 2, 1) := by decide +kernel
theorem dX5_offer_80 : decode cX5_offer 80 = .ok (.invokevirtual 208, 3) := by decide +kernel
theorem dX5_offer_83 : decode cX5_offer 83 = .ok (.istore 4, 2) := by decide +kernel
theorem dX5_offer_85 : decode cX5_offer 85 = .ok (.iload_n 3, 1) := by decide +kernel
theorem dX5_offer_86 : decode cX5_offer 86 = .ok (.iload 4, 2) := by decide +kernel
theorem dX5_offer_88 : decode cX5_offer 88 = .ok (.if_icmp .le 13, 3) := by decide +kernel
theorem dX5_offer_91 : decode cX5_offer 91 = .ok (.new 65, 3) := by decide +kernel
theorem dX5_offer_94 : decode cX5_offer 94 = .ok (.dup, 1) := by decide +kernel
theorem dX5_offer_95 : decode cX5_offer 95 = .ok (.ldc 211, 2) := by decide +kernel
theorem dX5_offer_97 : decode cX5_offer 97 = .ok (.invokespecial 69, 3) := by decide +kernel
theorem dX5_offer_100 : decode cX5_offer 100 = .ok (.athrow, 1) := by decide +kernel
theorem dX5_offer_101 : decode cX5_offer 101 = .ok (.aload_n 0, 1) := by decide +kernel
theorem dX5_offer_102 : decode cX5_offer 102 = .ok (.getfield 47, 3) := by decide +kernel
theorem dX5_offer_105 : decode cX5_offer 105 = .ok (.iload_n 2, 1) := by decide +kernel
theorem dX5_offer_106 : decode cX5_offer 106 = .ok (.iload_n 3, 1) := by decide +kernel
theorem dX5_offer_107 : decode cX5_offer 107 = .ok (.invokevirtual 213, 3) := by decide +kernel
theorem dX5_offer_110 : decode cX5_offer 110 = .ok (.iload 4, 2) := by decide +kernel
theorem dX5_offer_112 : decode cX5_offer 112 = .ok (.ireturn, 1) := by decide +kernel
set_option maxRecDepth 20000 in
theorem ggX5_retract_X5_needSeat : GoodIn wsX5_retract wsX5_needSeat := goodIn_ca (goodIn_r _ [7, 8, 9] (by decide +kernel) (by decide +kernel)) (goodIn_sub (fun _ h => List.mem_cons_of_mem _ (List.mem_append_right _ h)) (by decide +kernel))
set_option maxRecDepth 20000 in
theorem gX5_retract_X5_needSeat : GoodIn wsX5_retract (va_wsS RX5 186 yX5_needSeat wsX5_needSeat) := goodIn_app (goodIn_of _ (by decide +kernel)) ggX5_retract_X5_needSeat
set_option maxRecDepth 20000 in
theorem ggX5_retract_X4_stateOf : GoodIn wsX5_retract wsX4_stateOf := goodIn_r _ [13, 14, 15, 16, 26, 27, 28, 29, 30] (by decide +kernel) (by decide +kernel)
set_option maxRecDepth 20000 in
theorem gX5_retract_X4_stateOf_n189 : GoodIn wsX5_retract (wsX4_stateOf) := ggX5_retract_X4_stateOf
theorem dX5_retract_0 : decode cX5_retract 0 = .ok (.iload_n 1, 1) := by decide +kernel
theorem dX5_retract_1 : decode cX5_retract 1 = .ok (.invokestatic 186, 3) := by decide +kernel
theorem dX5_retract_4 : decode cX5_retract 4 = .ok (.aload_n 0, 1) := by decide +kernel
theorem dX5_retract_5 : decode cX5_retract 5 = .ok (.getfield 47, 3) := by decide +kernel
theorem dX5_retract_8 : decode cX5_retract 8 = .ok (.iload_n 1, 1) := by decide +kernel
theorem dX5_retract_9 : decode cX5_retract 9 = .ok (.invokevirtual 189, 3) := by decide +kernel
theorem dX5_retract_12 : decode cX5_retract 12 = .ok (.iconst 3, 1) := by decide +kernel
theorem dX5_retract_13 : decode cX5_retract 13 = .ok (.if_icmp .eq 13, 3) := by decide +kernel
theorem dX5_retract_16 : decode cX5_retract 16 = .ok (.new 65, 3) := by decide +kernel
theorem dX5_retract_19 : decode cX5_retract 19 = .ok (.dup, 1) := by decide +kernel
theorem dX5_retract_20 : decode cX5_retract 20 = .ok (.ldc 216, 2) := by decide +kernel
theorem dX5_retract_22 : decode cX5_retract 22 = .ok (.invokespecial 69, 3) := by decide +kernel
theorem dX5_retract_25 : decode cX5_retract 25 = .ok (.athrow, 1) := by decide +kernel
theorem dX5_retract_26 : decode cX5_retract 26 = .ok (.aload_n 0, 1) := by decide +kernel
theorem dX5_retract_27 : decode cX5_retract 27 = .ok (.getfield 47, 3) := by decide +kernel
theorem dX5_retract_30 : decode cX5_retract 30 = .ok (.getfield 218, 3) := by decide +kernel
theorem dX5_retract_33 : decode cX5_retract 33 = .ok (.iload_n 1, 1) := by decide +kernel
theorem dX5_retract_34 : decode cX5_retract 34 = .ok (.iconst 0, 1) := by decide +kernel
theorem dX5_retract_35 : decode cX5_retract 35 = .ok (.bastore, 1) := by decide +kernel
theorem dX5_retract_36 : decode cX5_retract 36 = .ok (.aload_n 0, 1) := by decide +kernel
theorem dX5_retract_37 : decode cX5_retract 37 = .ok (.getfield 47, 3) := by decide +kernel
theorem dX5_retract_40 : decode cX5_retract 40 = .ok (.getfield 222, 3) := by decide +kernel
theorem dX5_retract_43 : decode cX5_retract 43 = .ok (.iload_n 1, 1) := by decide +kernel
theorem dX5_retract_44 : decode cX5_retract 44 = .ok (.iaload, 1) := by decide +kernel
theorem dX5_retract_45 : decode cX5_retract 45 = .ok (.ireturn, 1) := by decide +kernel
set_option maxRecDepth 20000 in
theorem ggX5_spent_X5_needPerson : GoodIn wsX5_spent wsX5_needPerson := goodIn_ca (goodIn_r _ [5, 6, 7] (by decide +kernel) (by decide +kernel)) (goodIn_sub (fun _ h => List.mem_cons_of_mem _ (List.mem_append_right _ h)) (by decide +kernel))
set_option maxRecDepth 20000 in
theorem gX5_spent_X5_needPerson : GoodIn wsX5_spent (va_wsS RX5 100 yX5_needPerson wsX5_needPerson) := goodIn_app (goodIn_of _ (by decide +kernel)) ggX5_spent_X5_needPerson
theorem dX5_spent_0 : decode cX5_spent 0 = .ok (.iload_n 1, 1) := by decide +kernel
theorem dX5_spent_1 : decode cX5_spent 1 = .ok (.invokestatic 100, 3) := by decide +kernel
theorem dX5_spent_4 : decode cX5_spent 4 = .ok (.aload_n 0, 1) := by decide +kernel
theorem dX5_spent_5 : decode cX5_spent 5 = .ok (.getfield 19, 3) := by decide +kernel
theorem dX5_spent_8 : decode cX5_spent 8 = .ok (.iload_n 1, 1) := by decide +kernel
theorem dX5_spent_9 : decode cX5_spent 9 = .ok (.iaload, 1) := by decide +kernel
theorem dX5_spent_10 : decode cX5_spent 10 = .ok (.ireturn, 1) := by decide +kernel
theorem dX5_takings_0 : decode cX5_takings 0 = .ok (.aload_n 0, 1) := by decide +kernel
theorem dX5_takings_1 : decode cX5_takings 1 = .ok (.getfield 16, 3) := by decide +kernel
theorem dX5_takings_4 : decode cX5_takings 4 = .ok (.ireturn, 1) := by decide +kernel
theorem dX5_needPerson_0 : decode cX5_needPerson 0 = .ok (.iload_n 0, 1) := by decide +kernel
theorem dX5_needPerson_1 : decode cX5_needPerson 1 = .ok (.ifCond .lt 9, 3) := by decide +kernel
theorem dX5_needPerson_4 : decode cX5_needPerson 4 = .ok (.iload_n 0, 1) := by decide +kernel
theorem dX5_needPerson_5 : decode cX5_needPerson 5 = .ok (.bipush 8, 2) := by decide +kernel
theorem dX5_needPerson_7 : decode cX5_needPerson 7 = .ok (.if_icmp .lt 13, 3) := by decide +kernel
theorem dX5_needPerson_10 : decode cX5_needPerson 10 = .ok (.new 129, 3) := by decide +kernel
theorem dX5_needPerson_13 : decode cX5_needPerson 13 = .ok (.dup, 1) := by decide +kernel
theorem dX5_needPerson_14 : decode cX5_needPerson 14 = .ok (.ldc 225, 2) := by decide +kernel
theorem dX5_needPerson_16 : decode cX5_needPerson 16 = .ok (.invokespecial 133, 3) := by decide +kernel
theorem dX5_needPerson_19 : decode cX5_needPerson 19 = .ok (.athrow, 1) := by decide +kernel
theorem dX5_needPerson_20 : decode cX5_needPerson 20 = .ok (.return_, 1) := by decide +kernel
theorem dX5_needRow_0 : decode cX5_needRow 0 = .ok (.iload_n 0, 1) := by decide +kernel
theorem dX5_needRow_1 : decode cX5_needRow 1 = .ok (.ifCond .lt 9, 3) := by decide +kernel
theorem dX5_needRow_4 : decode cX5_needRow 4 = .ok (.iload_n 0, 1) := by decide +kernel
theorem dX5_needRow_5 : decode cX5_needRow 5 = .ok (.bipush 6, 2) := by decide +kernel
theorem dX5_needRow_7 : decode cX5_needRow 7 = .ok (.if_icmp .lt 13, 3) := by decide +kernel
theorem dX5_needRow_10 : decode cX5_needRow 10 = .ok (.new 129, 3) := by decide +kernel
theorem dX5_needRow_13 : decode cX5_needRow 13 = .ok (.dup, 1) := by decide +kernel
theorem dX5_needRow_14 : decode cX5_needRow 14 = .ok (.ldc 227, 2) := by decide +kernel
theorem dX5_needRow_16 : decode cX5_needRow 16 = .ok (.invokespecial 133, 3) := by decide +kernel
theorem dX5_needRow_19 : decode cX5_needRow 19 = .ok (.athrow, 1) := by decide +kernel
theorem dX5_needRow_20 : decode cX5_needRow 20 = .ok (.return_, 1) := by decide +kernel
theorem dX5_needSeat_0 : decode cX5_needSeat 0 = .ok (.iload_n 0, 1) := by decide +kernel
theorem dX5_needSeat_1 : decode cX5_needSeat 1 = .ok (.ifCond .lt 9, 3) := by decide +kernel
theorem dX5_needSeat_4 : decode cX5_needSeat 4 = .ok (.iload_n 0, 1) := by decide +kernel
theorem dX5_needSeat_5 : decode cX5_needSeat 5 = .ok (.bipush 60, 2) := by decide +kernel
theorem dX5_needSeat_7 : decode cX5_needSeat 7 = .ok (.if_icmp .lt 13, 3) := by decide +kernel
theorem dX5_needSeat_10 : decode cX5_needSeat 10 = .ok (.new 129, 3) := by decide +kernel
theorem dX5_needSeat_13 : decode cX5_needSeat 13 = .ok (.dup, 1) := by decide +kernel
theorem dX5_needSeat_14 : decode cX5_needSeat 14 = .ok (.ldc 229, 2) := by decide +kernel
theorem dX5_needSeat_16 : decode cX5_needSeat 16 = .ok (.invokespecial 133, 3) := by decide +kernel
theorem dX5_needSeat_19 : decode cX5_needSeat 19 = .ok (.athrow, 1) := by decide +kernel
theorem dX5_needSeat_20 : decode cX5_needSeat 20 = .ok (.return_, 1) := by decide +kernel
theorem dX5_needCode_0 : decode cX5_needCode 0 = .ok (.iload_n 1, 1) := by decide +kernel
theorem dX5_needCode_1 : decode cX5_needCode 1 = .ok (.ifCond .lt 14, 3) := by decide +kernel
theorem dX5_needCode_4 : decode cX5_needCode 4 = .ok (.iload_n 1, 1) := by decide +kernel
theorem dX5_needCode_5 : decode cX5_needCode 5 = .ok (.aload_n 0, 1) := by decide +kernel
theorem dX5_needCode_6 : decode cX5_needCode 6 = .ok (.getfield 26, 3) := by decide +kernel
theorem dX5_needCode_9 : decode cX5_needCode 9 = .ok (.getfield 87, 3) := by decide +kernel
theorem dX5_needCode_12 : decode cX5_needCode 12 = .ok (.if_icmp .lt 13, 3) := by decide +kernel
theorem dX5_needCode_15 : decode cX5_needCode 15 = .ok (.new 129, 3) := by decide +kernel
theorem dX5_needCode_18 : decode cX5_needCode 18 = .ok (.dup, 1) := by decide +kernel
theorem dX5_needCode_19 : decode cX5_needCode 19 = .ok (.ldc 231, 2) := by decide +kernel
theorem dX5_needCode_21 : decode cX5_needCode 21 = .ok (.invokespecial 133, 3) := by decide +kernel
theorem dX5_needCode_24 : decode cX5_needCode 24 = .ok (.athrow, 1) := by decide +kernel
theorem dX5_needCode_25 : decode cX5_needCode 25 = .ok (.return_, 1) := by decide +kernel
set_option maxRecDepth 20000 in
theorem ggX5_needHold_X1_isThere : GoodIn wsX5_needHold wsX1_isThere := goodIn_r _ [7, 8, 18, 19, 20, 21, 22, 23, 24] (by decide +kernel) (by decide +kernel)
set_option maxRecDepth 20000 in
theorem gX5_needHold_X1_isThere_n70 : GoodIn wsX5_needHold (wsX1_isThere) := ggX5_needHold_X1_isThere
theorem dX5_needHold_0 : decode cX5_needHold 0 = .ok (.aload_n 0, 1) := by decide +kernel
theorem dX5_needHold_1 : decode cX5_needHold 1 = .ok (.getfield 40, 3) := by decide +kernel
theorem dX5_needHold_4 : decode cX5_needHold 4 = .ok (.iload_n 1, 1) := by decide +kernel
theorem dX5_needHold_5 : decode cX5_needHold 5 = .ok (.invokevirtual 70, 3) := by decide +kernel
theorem dX5_needHold_8 : decode cX5_needHold 8 = .ok (.ifCond .ne 13, 3) := by decide +kernel
theorem dX5_needHold_11 : decode cX5_needHold 11 = .ok (.new 65, 3) := by decide +kernel
theorem dX5_needHold_14 : decode cX5_needHold 14 = .ok (.dup, 1) := by decide +kernel
theorem dX5_needHold_15 : decode cX5_needHold 15 = .ok (.ldc 233, 2) := by decide +kernel
theorem dX5_needHold_17 : decode cX5_needHold 17 = .ok (.invokespecial 69, 3) := by decide +kernel
theorem dX5_needHold_20 : decode cX5_needHold 20 = .ok (.athrow, 1) := by decide +kernel
theorem dX5_needHold_21 : decode cX5_needHold 21 = .ok (.return_, 1) := by decide +kernel
set_option maxRecDepth 20000 in
theorem ggX5_needSeatsFor_X4_isOpen : GoodIn wsX5_needSeatsFor wsX4_isOpen := goodIn_r _ [7, 8, 9, 10, 5, 11, 12, 13, 14, 28, 29, 30, 31, 32] (by decide +kernel) (by decide +kernel)
set_option maxRecDepth 20000 in
theorem gX5_needSeatsFor_X4_isOpen_n198 : GoodIn wsX5_needSeatsFor (wsX4_isOpen) := ggX5_needSeatsFor_X4_isOpen
set_option maxRecDepth 20000 in
theorem ggX5_needSeatsFor_X4_leavesSingle : GoodIn wsX5_needSeatsFor wsX4_leavesSingle := goodIn_r _ [17, 18, 4, 6, 5, 7, 8, 9, 10, 11, 12, 13, 14, 28, 29, 30, 31, 32] (by decide +kernel) (by decide +kernel)
set_option maxRecDepth 20000 in
theorem gX5_needSeatsFor_X4_leavesSingle_n239 : GoodIn wsX5_needSeatsFor (wsX4_leavesSingle) := ggX5_needSeatsFor_X4_leavesSingle
theorem dX5_needSeatsFor_0 : decode cX5_needSeatsFor 0 = .ok (.iload_n 3, 1) := by decide +kernel
theorem dX5_needSeatsFor_1 : decode cX5_needSeatsFor 1 = .ok (.istore 5, 2) := by decide +kernel
theorem dX5_needSeatsFor_3 : decode cX5_needSeatsFor 3 = .ok (.iload 5, 2) := by decide +kernel
theorem dX5_needSeatsFor_5 : decode cX5_needSeatsFor 5 = .ok (.iload_n 3, 1) := by decide +kernel
theorem dX5_needSeatsFor_6 : decode cX5_needSeatsFor 6 = .ok (.iload 4, 2) := by decide +kernel
theorem dX5_needSeatsFor_8 : decode cX5_needSeatsFor 8 = .ok (.iadd, 1) := by decide +kernel
theorem dX5_needSeatsFor_9 : decode cX5_needSeatsFor 9 = .ok (.if_icmp .ge 61, 3) := by decide +kernel
theorem dX5_needSeatsFor_12 : decode cX5_needSeatsFor 12 = .ok (.aload_n 0, 1) := by decide +kernel
theorem dX5_needSeatsFor_13 : decode cX5_needSeatsFor 13 = .ok (.getfield 47, 3) := by decide +kernel
theorem dX5_needSeatsFor_16 : decode cX5_needSeatsFor 16 = .ok (.iload_n 2, 1) := by decide +kernel
theorem dX5_needSeatsFor_17 : decode cX5_needSeatsFor 17 = .ok (.iload 5, 2) := by decide +kernel
theorem dX5_needSeatsFor_19 : decode cX5_needSeatsFor 19 = .ok (.invokevirtual 198, 3) := by decide +kernel
theorem dX5_needSeatsFor_22 : decode cX5_needSeatsFor 22 = .ok (.ifCond .ne 13, 3) := by decide +kernel
theorem dX5_needSeatsFor_25 : decode cX5_needSeatsFor 25 = .ok (.new 65, 3) := by decide +kernel
theorem dX5_needSeatsFor_28 : decode cX5_needSeatsFor 28 = .ok (.dup, 1) := by decide +kernel
theorem dX5_needSeatsFor_29 : decode cX5_needSeatsFor 29 = .ok (.ldc 235, 2) := by decide +kernel
theorem dX5_needSeatsFor_31 : decode cX5_needSeatsFor 31 = .ok (.invokespecial 69, 3) := by decide +kernel
theorem dX5_needSeatsFor_34 : decode cX5_needSeatsFor 34 = .ok (.athrow, 1) := by decide +kernel
theorem dX5_needSeatsFor_35 : decode cX5_needSeatsFor 35 = .ok (.aload_n 0, 1) := by decide +kernel
theorem dX5_needSeatsFor_36 : decode cX5_needSeatsFor 36 = .ok (.getfield 47, 3) := by decide +kernel
theorem dX5_needSeatsFor_39 : decode cX5_needSeatsFor 39 = .ok (.getfield 192, 3) := by decide +kernel
theorem dX5_needSeatsFor_42 : decode cX5_needSeatsFor 42 = .ok (.bipush 10, 2) := by decide +kernel
theorem dX5_needSeatsFor_44 : decode cX5_needSeatsFor 44 = .ok (.iload_n 2, 1) := by decide +kernel
theorem dX5_needSeatsFor_45 : decode cX5_needSeatsFor 45 = .ok (.imul, 1) := by decide +kernel
theorem dX5_needSeatsFor_46 : decode cX5_needSeatsFor 46 = .ok (.iload 5, 2) := by decide +kernel
theorem dX5_needSeatsFor_48 : decode cX5_needSeatsFor 48 = .ok (.iadd, 1) := by decide +kernel
theorem dX5_needSeatsFor_49 : decode cX5_needSeatsFor 49 = .ok (.iaload, 1) := by decide +kernel
theorem dX5_needSeatsFor_50 : decode cX5_needSeatsFor 50 = .ok (.iload_n 1, 1) := by decide +kernel
theorem dX5_needSeatsFor_51 : decode cX5_needSeatsFor 51 = .ok (.if_icmp .ne 13, 3) := by decide +kernel
theorem dX5_needSeatsFor_54 : decode cX5_needSeatsFor 54 = .ok (.new 65, 3) := by decide +kernel
theorem dX5_needSeatsFor_57 : decode cX5_needSeatsFor 57 = .ok (.dup, 1) := by decide +kernel
theorem dX5_needSeatsFor_58 : decode cX5_needSeatsFor 58 = .ok (.ldc 237, 2) := by decide +kernel
theorem dX5_needSeatsFor_60 : decode cX5_needSeatsFor 60 = .ok (.invokespecial 69, 3) := by decide +kernel
theorem dX5_needSeatsFor_63 : decode cX5_needSeatsFor 63 = .ok (.athrow, 1) := by decide +kernel
theorem dX5_needSeatsFor_64 : decode cX5_needSeatsFor 64 = .ok (.iinc 5 1, 3) := by decide +kernel
theorem dX5_needSeatsFor_67 : decode cX5_needSeatsFor 67 = .ok (.goto (-64), 3) := by decide +kernel
theorem dX5_needSeatsFor_70 : decode cX5_needSeatsFor 70 = .ok (.aload_n 0, 1) := by decide +kernel
theorem dX5_needSeatsFor_71 : decode cX5_needSeatsFor 71 = .ok (.getfield 47, 3) := by decide +kernel
theorem dX5_needSeatsFor_74 : decode cX5_needSeatsFor 74 = .ok (.iload_n 2, 1) := by decide +kernel
theorem dX5_needSeatsFor_75 : decode cX5_needSeatsFor 75 = .ok (.iload_n 3, 1) := by decide +kernel
theorem dX5_needSeatsFor_76 : decode cX5_needSeatsFor 76 = .ok (.iload 4, 2) := by decide +kernel
theorem dX5_needSeatsFor_78 : decode cX5_needSeatsFor 78 = .ok (.invokevirtual 239, 3) := by decide +kernel
theorem dX5_needSeatsFor_81 : decode cX5_needSeatsFor 81 = .ok (.ifCond .eq 13, 3) := by decide +kernel
theorem dX5_needSeatsFor_84 : decode cX5_needSeatsFor 84 = .ok (.new 65, 3) := by decide +kernel
theorem dX5_needSeatsFor_87 : decode cX5_needSeatsFor 87 = .ok (.dup, 1) := by decide +kernel
theorem dX5_needSeatsFor_88 : decode cX5_needSeatsFor 88 = .ok (.ldc 243, 2) := by decide +kernel
theorem dX5_needSeatsFor_90 : decode cX5_needSeatsFor 90 = .ok (.invokespecial 69, 3) := by decide +kernel
theorem dX5_needSeatsFor_93 : decode cX5_needSeatsFor 93 = .ok (.athrow, 1) := by decide +kernel
theorem dX5_needSeatsFor_94 : decode cX5_needSeatsFor 94 = .ok (.return_, 1) := by decide +kernel
set_option maxRecDepth 20000 in
theorem ggX5_needRightFor_X0_haveRoom : GoodIn wsX5_needRightFor wsX0_haveRoom := goodIn_r _ [9, 10, 11, 12, 13, 14, 7, 15, 16, 26, 27, 28, 29] (by decide +kernel) (by decide +kernel)
set_option maxRecDepth 20000 in
theorem gX5_needRightFor_X0_haveRoom_n247 : GoodIn wsX5_needRightFor (wsX0_haveRoom) := ggX5_needRightFor_X0_haveRoom
theorem dX5_needRightFor_0 : decode cX5_needRightFor 0 = .ok (.iload_n 3, 1) := by decide +kernel
theorem dX5_needRightFor_1 : decode cX5_needRightFor 1 = .ok (.iconst (-1), 1) := by decide +kernel
theorem dX5_needRightFor_2 : decode cX5_needRightFor 2 = .ok (.if_icmp .ne 24, 3) := by decide +kernel
theorem dX5_needRightFor_5 : decode cX5_needRightFor 5 = .ok (.aload_n 0, 1) := by decide +kernel
theorem dX5_needRightFor_6 : decode cX5_needRightFor 6 = .ok (.getfield 9, 3) := by decide +kernel
theorem dX5_needRightFor_9 : decode cX5_needRightFor 9 = .ok (.aload_n 0, 1) := by decide +kernel
theorem dX5_needRightFor_10 : decode cX5_needRightFor 10 = .ok (.getfield 13, 3) := by decide +kernel
theorem dX5_needRightFor_13 : decode cX5_needRightFor 13 = .ok (.if_icmp .ge 36, 3) := by decide +kernel
theorem dX5_needRightFor_16 : decode cX5_needRightFor 16 = .ok (.new 65, 3) := by decide +kernel
theorem dX5_needRightFor_19 : decode cX5_needRightFor 19 = .ok (.dup, 1) := by decide +kernel
theorem dX5_needRightFor_20 : decode cX5_needRightFor 20 = .ok (.ldc 245, 2) := by decide +kernel
theorem dX5_needRightFor_22 : decode cX5_needRightFor 22 = .ok (.invokespecial 69, 3) := by decide +kernel
theorem dX5_needRightFor_25 : decode cX5_needRightFor 25 = .ok (.athrow, 1) := by decide +kernel
theorem dX5_needRightFor_26 : decode cX5_needRightFor 26 = .ok (.aload_n 0, 1) := by decide +kernel
theorem dX5_needRightFor_27 : decode cX5_needRightFor 27 = .ok (.getfield 26, 3) := by decide +kernel
theorem dX5_needRightFor_30 : decode cX5_needRightFor 30 = .ok (.iload_n 3, 1) := by decide +kernel
theorem dX5_needRightFor_31 : decode cX5_needRightFor 31 = .ok (.iload_n 1, 1) := by decide +kernel
theorem dX5_needRightFor_32 : decode cX5_needRightFor 32 = .ok (.iload_n 2, 1) := by decide +kernel
theorem dX5_needRightFor_33 : decode cX5_needRightFor 33 = .ok (.invokevirtual 247, 3) := by decide +kernel
theorem dX5_needRightFor_36 : decode cX5_needRightFor 36 = .ok (.ifCond .ne 13, 3) := by decide +kernel
theorem dX5_needRightFor_39 : decode cX5_needRightFor 39 = .ok (.new 65, 3) := by decide +kernel
theorem dX5_needRightFor_42 : decode cX5_needRightFor 42 = .ok (.dup, 1) := by decide +kernel
theorem dX5_needRightFor_43 : decode cX5_needRightFor 43 = .ok (.ldc 250, 2) := by decide +kernel
theorem dX5_needRightFor_45 : decode cX5_needRightFor 45 = .ok (.invokespecial 69, 3) := by decide +kernel
theorem dX5_needRightFor_48 : decode cX5_needRightFor 48 = .ok (.athrow, 1) := by decide +kernel
theorem dX5_needRightFor_49 : decode cX5_needRightFor 49 = .ok (.return_, 1) := by decide +kernel
set_option maxRecDepth 20000 in
theorem ggX5_giveBack_X0_tally : GoodIn wsX5_giveBack wsX0_tally := goodIn_r _ [8, 9, 36, 37, 38, 39] (by decide +kernel) (by decide +kernel)
set_option maxRecDepth 20000 in
theorem gX5_giveBack_X0_tally_n157 : GoodIn wsX5_giveBack (wsX0_tally) := ggX5_giveBack_X0_tally
set_option maxRecDepth 20000 in
theorem ggX5_giveBack_X4_unlock : GoodIn wsX5_giveBack wsX4_unlock := goodIn_r _ [13, 14, 40, 41, 42, 43, 44] (by decide +kernel) (by decide +kernel)
set_option maxRecDepth 20000 in
theorem gX5_giveBack_X4_unlock_n261 : GoodIn wsX5_giveBack (wsX4_unlock) := ggX5_giveBack_X4_unlock
set_option maxRecDepth 20000 in
theorem ggX5_giveBack_X1_end : GoodIn wsX5_giveBack wsX1_end := goodIn_r _ [18, 19, 29, 30, 31, 32, 33, 34, 35] (by decide +kernel) (by decide +kernel)
set_option maxRecDepth 20000 in
theorem gX5_giveBack_X1_end_n264 : GoodIn wsX5_giveBack (wsX1_end) := ggX5_giveBack_X1_end
theorem dX5_giveBack_0 : decode cX5_giveBack 0 = .ok (.aload_n 0, 1) := by decide +kernel
theorem dX5_giveBack_1 : decode cX5_giveBack 1 = .ok (.getfield 40, 3) := by decide +kernel
theorem dX5_giveBack_4 : decode cX5_giveBack 4 = .ok (.getfield 177, 3) := by decide +kernel
theorem dX5_giveBack_7 : decode cX5_giveBack 7 = .ok (.iload_n 1, 1) := by decide +kernel
theorem dX5_giveBack_8 : decode cX5_giveBack 8 = .ok (.iaload, 1) := by decide +kernel
theorem dX5_giveBack_9 : decode cX5_giveBack 9 = .ok (.istore_n 2, 1) := by decide +kernel
theorem dX5_giveBack_10 : decode cX5_giveBack 10 = .ok (.aload_n 0, 1) := by decide +kernel
theorem dX5_giveBack_11 : decode cX5_giveBack 11 = .ok (.getfield 19, 3) := by decide +kernel
theorem dX5_giveBack_14 : decode cX5_giveBack 14 = .ok (.iload_n 1, 1) := by decide +kernel
theorem dX5_giveBack_15 : decode cX5_giveBack 15 = .ok (.dup2, 1) := by decide +kernel
theorem dX5_giveBack_16 : decode cX5_giveBack 16 = .ok (.iaload, 1) := by decide +kernel
theorem dX5_giveBack_17 : decode cX5_giveBack 17 = .ok (.iload_n 2, 1) := by decide +kernel
theorem dX5_giveBack_18 : decode cX5_giveBack 18 = .ok (.isub, 1) := by decide +kernel
theorem dX5_giveBack_19 : decode cX5_giveBack 19 = .ok (.iastore, 1) := by decide +kernel
theorem dX5_giveBack_20 : decode cX5_giveBack 20 = .ok (.aload_n 0, 1) := by decide +kernel
theorem dX5_giveBack_21 : decode cX5_giveBack 21 = .ok (.getfield 26, 3) := by decide +kernel
theorem dX5_giveBack_24 : decode cX5_giveBack 24 = .ok (.aload_n 0, 1) := by decide +kernel
theorem dX5_giveBack_25 : decode cX5_giveBack 25 = .ok (.getfield 40, 3) := by decide +kernel
theorem dX5_giveBack_28 : decode cX5_giveBack 28 = .ok (.getfield 252, 3) := by decide +kernel
theorem dX5_giveBack_31 : decode cX5_giveBack 31 = .ok (.iload_n 1, 1) := by decide +kernel
theorem dX5_giveBack_32 : decode cX5_giveBack 32 = .ok (.iaload, 1) := by decide +kernel
theorem dX5_giveBack_33 : decode cX5_giveBack 33 = .ok (.iload_n 1, 1) := by decide +kernel
theorem dX5_giveBack_34 : decode cX5_giveBack 34 = .ok (.aload_n 0, 1) := by decide +kernel
theorem dX5_giveBack_35 : decode cX5_giveBack 35 = .ok (.getfield 40, 3) := by decide +kernel
theorem dX5_giveBack_38 : decode cX5_giveBack 38 = .ok (.getfield 255, 3) := by decide +kernel
theorem dX5_giveBack_41 : decode cX5_giveBack 41 = .ok (.iload_n 1, 1) := by decide +kernel
theorem dX5_giveBack_42 : decode cX5_giveBack 42 = .ok (.iaload, 1) := by decide +kernel
theorem dX5_giveBack_43 : decode cX5_giveBack 43 = .ok (.ineg, 1) := by decide +kernel
theorem dX5_giveBack_44 : decode cX5_giveBack 44 = .ok (.invokevirtual 157, 3) := by decide +kernel
theorem dX5_giveBack_47 : decode cX5_giveBack 47 = .ok (.aload_n 0, 1) := by decide +kernel
theorem dX5_giveBack_48 : decode cX5_giveBack 48 = .ok (.getfield 47, 3) := by decide +kernel
theorem dX5_giveBack_51 : decode cX5_giveBack 51 = .ok (.aload_n 0, 1) := by decide +kernel
theorem dX5_giveBack_52 : decode cX5_giveBack 52 = .ok (.getfield 40, 3) := by decide +kernel
theorem dX5_giveBack_55 : decode cX5_giveBack 55 = .ok (.getfield 258, 3) := by decide +kernel
theorem dX5_giveBack_58 : decode cX5_giveBack 58 = .ok (.iload_n 1, 1) := by decide +kernel
theorem dX5_giveBack_59 : decode cX5_giveBack 59 = .ok (.iaload, 1) := by decide +kernel
theorem dX5_giveBack_60 : decode cX5_giveBack 60 = .ok (.aload_n 0, 1) := by decide +kernel
theorem dX5_giveBack_61 : decode cX5_giveBack 61 = .ok (.getfield 40, 3) := by decide +kernel
theorem dX5_giveBack_64 : decode cX5_giveBack 64 = .ok (.getfield 255, 3) := by decide +kernel
theorem dX5_giveBack_67 : decode cX5_giveBack 67 = .ok (.iload_n 1, 1) := by decide +kernel
theorem dX5_giveBack_68 : decode cX5_giveBack 68 = .ok (.iaload, 1) := by decide +kernel
theorem dX5_giveBack_69 : decode cX5_giveBack 69 = .ok (.invokevirtual 261, 3) := by decide +kernel
theorem dX5_giveBack_72 : decode cX5_giveBack 72 = .ok (.aload_n 0, 1) := by decide +kernel
theorem dX5_giveBack_73 : decode cX5_giveBack 73 = .ok (.getfield 40, 3) := by decide +kernel
theorem dX5_giveBack_76 : decode cX5_giveBack 76 = .ok (.iload_n 1, 1) := by decide +kernel
theorem dX5_giveBack_77 : decode cX5_giveBack 77 = .ok (.invokevirtual 264, 3) := by decide +kernel
theorem dX5_giveBack_80 : decode cX5_giveBack 80 = .ok (.iload_n 2, 1) := by decide +kernel
theorem dX5_giveBack_81 : decode cX5_giveBack 81 = .ok (.ireturn, 1) := by decide +kernel
set_option maxRecDepth 20000 in
theorem ggX5_sell_X4_giveTo : GoodIn wsX5_sell wsX4_giveTo := goodIn_r _ [9, 10, 11, 12, 13, 14, 44, 45, 46, 47, 48] (by decide +kernel) (by decide +kernel)
set_option maxRecDepth 20000 in
theorem gX5_sell_X4_giveTo_n267 : GoodIn wsX5_sell (wsX4_giveTo) := ggX5_sell_X4_giveTo
set_option maxRecDepth 20000 in
theorem ggX5_sell_X3_add : GoodIn wsX5_sell wsX3_add := goodIn_r _ [18, 19, 20, 21, 22, 49, 50, 51, 52] (by decide +kernel) (by decide +kernel)
set_option maxRecDepth 20000 in
theorem gX5_sell_X3_add_n270 : GoodIn wsX5_sell (wsX3_add) := ggX5_sell_X3_add
set_option maxRecDepth 20000 in
theorem ggX5_sell_X1_end : GoodIn wsX5_sell wsX1_end := goodIn_r _ [26, 27, 37, 38, 39, 40, 41, 42, 43] (by decide +kernel) (by decide +kernel)
set_option maxRecDepth 20000 in
theorem gX5_sell_X1_end_n264 : GoodIn wsX5_sell (wsX1_end) := ggX5_sell_X1_end
theorem dX5_sell_0 : decode cX5_sell 0 = .ok (.aload_n 0, 1) := by decide +kernel
theorem dX5_sell_1 : decode cX5_sell 1 = .ok (.getfield 40, 3) := by decide +kernel
theorem dX5_sell_4 : decode cX5_sell 4 = .ok (.getfield 258, 3) := by decide +kernel
theorem dX5_sell_7 : decode cX5_sell 7 = .ok (.iload_n 1, 1) := by decide +kernel
theorem dX5_sell_8 : decode cX5_sell 8 = .ok (.iaload, 1) := by decide +kernel
theorem dX5_sell_9 : decode cX5_sell 9 = .ok (.istore_n 2, 1) := by decide +kernel
theorem dX5_sell_10 : decode cX5_sell 10 = .ok (.aload_n 0, 1) := by decide +kernel
theorem dX5_sell_11 : decode cX5_sell 11 = .ok (.getfield 40, 3) := by decide +kernel
theorem dX5_sell_14 : decode cX5_sell 14 = .ok (.getfield 255, 3) := by decide +kernel
theorem dX5_sell_17 : decode cX5_sell 17 = .ok (.iload_n 1, 1) := by decide +kernel
theorem dX5_sell_18 : decode cX5_sell 18 = .ok (.iaload, 1) := by decide +kernel
theorem dX5_sell_19 : decode cX5_sell 19 = .ok (.istore_n 3, 1) := by decide +kernel
theorem dX5_sell_20 : decode cX5_sell 20 = .ok (.iload_n 2, 1) := by decide +kernel
theorem dX5_sell_21 : decode cX5_sell 21 = .ok (.istore 4, 2) := by decide +kernel
theorem dX5_sell_23 : decode cX5_sell 23 = .ok (.iload 4, 2) := by decide +kernel
theorem dX5_sell_25 : decode cX5_sell 25 = .ok (.iload_n 2, 1) := by decide +kernel
theorem dX5_sell_26 : decode cX5_sell 26 = .ok (.iload_n 3, 1) := by decide +kernel
theorem dX5_sell_27 : decode cX5_sell 27 = .ok (.iadd, 1) := by decide +kernel
theorem dX5_sell_28 : decode cX5_sell 28 = .ok (.if_icmp .ge 79, 3) := by decide +kernel
theorem dX5_sell_31 : decode cX5_sell 31 = .ok (.aload_n 0, 1) := by decide +kernel
theorem dX5_sell_32 : decode cX5_sell 32 = .ok (.getfield 47, 3) := by decide +kernel
theorem dX5_sell_35 : decode cX5_sell 35 = .ok (.getfield 192, 3) := by decide +kernel
theorem dX5_sell_38 : decode cX5_sell 38 = .ok (.iload 4, 2) := by decide +kernel
theorem dX5_sell_40 : decode cX5_sell 40 = .ok (.iaload, 1) := by decide +kernel
theorem dX5_sell_41 : decode cX5_sell 41 = .ok (.istore 5, 2) := by decide +kernel
theorem dX5_sell_43 : decode cX5_sell 43 = .ok (.iload 5, 2) := by decide +kernel
theorem dX5_sell_45 : decode cX5_sell 45 = .ok (.iconst (-1), 1) := by decide +kernel
theorem dX5_sell_46 : decode cX5_sell 46 = .ok (.if_icmp .ne 25, 3) := by decide +kernel
theorem dX5_sell_49 : decode cX5_sell 49 = .ok (.aload_n 0, 1) := by decide +kernel
theorem dX5_sell_50 : decode cX5_sell 50 = .ok (.dup, 1) := by decide +kernel
theorem dX5_sell_51 : decode cX5_sell 51 = .ok (.getfield 16, 3) := by decide +kernel
theorem dX5_sell_54 : decode cX5_sell 54 = .ok (.aload_n 0, 1) := by decide +kernel
theorem dX5_sell_55 : decode cX5_sell 55 = .ok (.getfield 47, 3) := by decide +kernel
theorem dX5_sell_58 : decode cX5_sell 58 = .ok (.getfield 222, 3) := by decide +kernel
theorem dX5_sell_61 : decode cX5_sell 61 = .ok (.iload 4, 2) := by decide +kernel
theorem dX5_sell_63 : decode cX5_sell 63 = .ok (.iaload, 1) := by decide +kernel
theorem dX5_sell_64 : decode cX5_sell 64 = .ok (.iadd, 1) := by decide +kernel
theorem dX5_sell_65 : decode cX5_sell 65 = .ok (.putfield 16, 3) := by decide +kernel
theorem dX5_sell_68 : decode cX5_sell 68 = .ok (.goto 23, 3) := by decide +kernel
theorem dX5_sell_71 : decode cX5_sell 71 = .ok (.aload_n 0, 1) := by decide +kernel
theorem dX5_sell_72 : decode cX5_sell 72 = .ok (.getfield 19, 3) := by decide +kernel
theorem dX5_sell_75 : decode cX5_sell 75 = .ok (.iload 5, 2) := by decide +kernel
theorem dX5_sell_77 : decode cX5_sell 77 = .ok (.dup2, 1) := by decide +kernel
theorem dX5_sell_78 : decode cX5_sell 78 = .ok (.iaload, 1) := by decide +kernel
theorem dX5_sell_79 : decode cX5_sell 79 = .ok (.aload_n 0, 1) := by decide +kernel
theorem dX5_sell_80 : decode cX5_sell 80 = .ok (.getfield 47, 3) := by decide +kernel
theorem dX5_sell_83 : decode cX5_sell 83 = .ok (.getfield 222, 3) := by decide +kernel
theorem dX5_sell_86 : decode cX5_sell 86 = .ok (.iload 4, 2) := by decide +kernel
theorem dX5_sell_88 : decode cX5_sell 88 = .ok (.iaload, 1) := by decide +kernel
theorem dX5_sell_89 : decode cX5_sell 89 = .ok (.isub, 1) := by decide +kernel
theorem dX5_sell_90 : decode cX5_sell 90 = .ok (.iastore, 1) := by decide +kernel
theorem dX5_sell_91 : decode cX5_sell 91 = .ok (.aload_n 0, 1) := by decide +kernel
theorem dX5_sell_92 : decode cX5_sell 92 = .ok (.getfield 47, 3) := by decide +kernel
theorem dX5_sell_95 : decode cX5_sell 95 = .ok (.iload 4, 2) := by decide +kernel
theorem dX5_sell_97 : decode cX5_sell 97 = .ok (.iload_n 1, 1) := by decide +kernel
theorem dX5_sell_98 : decode cX5_sell 98 = .ok (.invokevirtual 267, 3) := by decide +kernel
theorem dX5_sell_101 : decode cX5_sell 101 = .ok (.iinc 4 1, 3) := by decide +kernel
theorem dX5_sell_104 : decode cX5_sell 104 = .ok (.goto (-81), 3) := by decide +kernel
theorem dX5_sell_107 : decode cX5_sell 107 = .ok (.aload_n 0, 1) := by decide +kernel
theorem dX5_sell_108 : decode cX5_sell 108 = .ok (.getfield 54, 3) := by decide +kernel
theorem dX5_sell_111 : decode cX5_sell 111 = .ok (.iload_n 2, 1) := by decide +kernel
theorem dX5_sell_112 : decode cX5_sell 112 = .ok (.iload_n 3, 1) := by decide +kernel
theorem dX5_sell_113 : decode cX5_sell 113 = .ok (.iload_n 1, 1) := by decide +kernel
theorem dX5_sell_114 : decode cX5_sell 114 = .ok (.invokevirtual 270, 3) := by decide +kernel
theorem dX5_sell_117 : decode cX5_sell 117 = .ok (.aload_n 0, 1) := by decide +kernel
theorem dX5_sell_118 : decode cX5_sell 118 = .ok (.getfield 40, 3) := by decide +kernel
theorem dX5_sell_121 : decode cX5_sell 121 = .ok (.iload_n 1, 1) := by decide +kernel
theorem dX5_sell_122 : decode cX5_sell 122 = .ok (.invokevirtual 264, 3) := by decide +kernel
theorem dX5_sell_125 : decode cX5_sell 125 = .ok (.return_, 1) := by decide +kernel
theorem dJ9_min_7cf53_0 : decode cJ9_min_7cf53 0 = .ok (.iload_n 0, 1) := by decide +kernel
theorem dJ9_min_7cf53_1 : decode cJ9_min_7cf53 1 = .ok (.iload_n 1, 1) := by decide +kernel
theorem dJ9_min_7cf53_2 : decode cJ9_min_7cf53 2 = .ok (.if_icmp .gt 7, 3) := by decide +kernel
theorem dJ9_min_7cf53_5 : decode cJ9_min_7cf53 5 = .ok (.iload_n 0, 1) := by decide +kernel
theorem dJ9_min_7cf53_6 : decode cJ9_min_7cf53 6 = .ok (.goto 4, 3) := by decide +kernel
theorem dJ9_min_7cf53_9 : decode cJ9_min_7cf53 9 = .ok (.iload_n 1, 1) := by decide +kernel
theorem dJ9_min_7cf53_10 : decode cJ9_min_7cf53 10 = .ok (.ireturn, 1) := by decide +kernel
abbrev vwCl : List vw_C := [(RX0, TX0, 4), (RX1, TX1, 7), (RX2, TX2, 1), (RX3, TX3, 4), (RX4, TX4, 5), (RX5, TX5, 9)]
