abbrev cL_cell : ByteArray := method_2_code
def yL_cell : MethodName := ⟨RL, "cell", "([II)I"⟩
abbrev cL_low : ByteArray := method_3_code
def yL_low : MethodName := ⟨RL, "low", "(II)I"⟩
abbrev cL_pass : ByteArray := method_4_code
def yL_pass : MethodName := ⟨RL, "pass", "(LAuditoriumKeys;I)I"⟩
abbrev cL_setOpening : ByteArray := method_5_code
def yL_setOpening : MethodName := ⟨RL, "setOpening", "(LAuditoriumKeys;I)I"⟩
abbrev cL_code : ByteArray := method_6_code
def yL_code : MethodName := ⟨RL, "code", "(LAuditoriumKeys;II)I"⟩
abbrev cL_join : ByteArray := method_7_code
def yL_join : MethodName := ⟨RL, "join", "(LAuditoriumKeys;I)I"⟩
abbrev cL_quit : ByteArray := method_8_code
def yL_quit : MethodName := ⟨RL, "quit", "(LAuditoriumKeys;I)I"⟩
abbrev cL_hold : ByteArray := method_9_code
def yL_hold : MethodName := ⟨RL, "hold", "(LAuditoriumKeys;IIIII)I"⟩
abbrev cL_pay : ByteArray := method_10_code
def yL_pay : MethodName := ⟨RL, "pay", "(LAuditoriumKeys;II)I"⟩
abbrev cL_letGo : ByteArray := method_11_code
def yL_letGo : MethodName := ⟨RL, "letGo", "(LAuditoriumKeys;I)I"⟩
abbrev cL_offer : ByteArray := method_12_code
def yL_offer : MethodName := ⟨RL, "offer", "(LAuditoriumKeys;III)I"⟩
abbrev cL_retract : ByteArray := method_13_code
def yL_retract : MethodName := ⟨RL, "retract", "(LAuditoriumKeys;I)I"⟩
abbrev cL_queueAt : ByteArray := method_14_code
def yL_queueAt : MethodName := ⟨RL, "queueAt", "(LAuditoriumKeys;I)I"⟩
abbrev cL_act : ByteArray := method_15_code
def yL_act : MethodName := ⟨RL, "act", "(LAuditoriumKeys;I)I"⟩
abbrev cL_areAlike : ByteArray := method_16_code
def yL_areAlike : MethodName := ⟨RL, "areAlike", "(LAuditoriumKeys;LAuditoriumKeys;)Z"⟩
abbrev cL_areSeatsSo : ByteArray := method_17_code
def yL_areSeatsSo : MethodName := ⟨RL, "areSeatsSo", "(LAuditoriumKeys;I)Z"⟩
abbrev cL_isQueueSo : ByteArray := method_18_code
def yL_isQueueSo : MethodName := ⟨RL, "isQueueSo", "(LAuditoriumKeys;)Z"⟩
abbrev cL_law : ByteArray := code
def yL_law : MethodName := ⟨RL, "law", "([I)Z"⟩
def wsL_cell : List Cond := .code yL_cell cL_cell 2 (some .int) :: ([])
def wsL_low : List Cond := .code yL_low cL_low 2 (some .int) :: ([.constant RL 7 (2147483647)])
def wsL_pass_r1 : List Cond := [Cond.classLink RL 14 "java/lang/IllegalArgumentException", Cond.classLink RL 17 "java/lang/IllegalStateException", Cond.constant RL 16 (-99999), Cond.methodLink RL 8 yX5_pass, Cond.instanceMethod yX5_pass, Cond.selects RX5 yX5_pass yX5_pass, Cond.initialized RX5, Cond.code yX5_pass cX5_pass 4 (some .int), Cond.classLink RX5 58 "java/lang/IllegalArgumentException", Cond.initialized "java/lang/IllegalArgumentException", Cond.classLink RX5 65 "java/lang/IllegalStateException", Cond.initialized "java/lang/IllegalStateException", Cond.fieldLink RX5 9 "AuditoriumKeys" "now" "I", Cond.fieldLink RX5 40 "AuditoriumKeys" "holds" "LAuditoriumKeys$Holds;", Cond.instanceMethod yX1_isThere, Cond.initialized RX1, Cond.selects RX1 yX1_isThere yX1_isThere, Cond.code yX1_isThere cX1_isThere 2 (some .boolean), Cond.fieldLink RX1 15 "AuditoriumKeys$Holds" "many" "[I", Cond.methodLink RX5 77 yX5_giveBack, Cond.instanceMethod yX5_giveBack, Cond.selects RX5 yX5_giveBack yX5_giveBack, Cond.code yX5_giveBack cX5_giveBack 3 (some .int), Cond.fieldLink RX5 19 "AuditoriumKeys" "outlay" "[I"]
def wsL_pass_r2 : List Cond := [Cond.fieldLink RX5 26 "AuditoriumKeys" "codes" "LAuditoriumKeys$Codes;", Cond.fieldLink RX5 47 "AuditoriumKeys" "seats" "LAuditoriumKeys$Seats;", Cond.instanceMethod yX0_tally, Cond.initialized RX0, Cond.selects RX0 yX0_tally yX0_tally, Cond.code yX0_tally cX0_tally 4 none, Cond.fieldLink RX0 22 "AuditoriumKeys$Codes" "counted" "[I", Cond.instanceMethod yX4_unlock, Cond.initialized RX4, Cond.selects RX4 yX4_unlock yX4_unlock, Cond.code yX4_unlock cX4_unlock 4 none, Cond.fieldLink RX4 9 "AuditoriumKeys$Seats" "held" "[Z", Cond.instanceMethod yX1_end, Cond.selects RX1 yX1_end yX1_end, Cond.code yX1_end cX1_end 2 none]
def wsL_pass : List Cond := .codeWith yL_pass cL_pass 3 (some .int) [(0, 5, 6, 14), (0, 5, 10, 17)] :: ((wsL_pass_r1 ++ wsL_pass_r2) ++ wsX50 ++ wsX10 ++ wsX00 ++ wsX40 ++ (vx_atS RX5 62 "java/lang/IllegalArgumentException" ["java/lang/RuntimeException", "java/lang/Exception"]).filter goodWord ++ (vx_atS RX5 69 "java/lang/IllegalStateException" ["java/lang/RuntimeException", "java/lang/Exception"]).filter goodWord)
def wsL_setOpening : List Cond := .codeWith yL_setOpening cL_setOpening 3 (some .int) [(0, 5, 6, 14)] :: ([.classLink RL 14 "java/lang/IllegalArgumentException", .constant RL 16 (-99999), .methodLink RL 19 yX5_setOpening, .instanceMethod yX5_setOpening, .selects RX5 yX5_setOpening yX5_setOpening, .initialized RX5, .code yX5_setOpening cX5_setOpening 3 (some .int), .classLink RX5 58 "java/lang/IllegalArgumentException", .initialized "java/lang/IllegalArgumentException", .fieldLink RX5 13 "AuditoriumKeys" "opening" "I"] ++ wsX50 ++ (vx_atS RX5 62 "java/lang/IllegalArgumentException" ["java/lang/RuntimeException", "java/lang/Exception"]).filter goodWord)
def wsL_code : List Cond := .codeWith yL_code cL_code 4 (some .int) [(0, 6, 7, 14), (0, 6, 11, 17)] :: ([.classLink RL 14 "java/lang/IllegalArgumentException", .classLink RL 17 "java/lang/IllegalStateException", .constant RL 16 (-99999), .methodLink RL 22 yX5_code, .instanceMethod yX5_code, .selects RX5 yX5_code yX5_code, .initialized RX5, .code yX5_code cX5_code 3 (some .int), .classLink RX5 58 "java/lang/IllegalArgumentException", .initialized "java/lang/IllegalArgumentException", .classLink RX5 65 "java/lang/IllegalStateException", .initialized "java/lang/IllegalStateException", .fieldLink RX5 26 "AuditoriumKeys" "codes" "LAuditoriumKeys$Codes;", .instanceMethod yX0_add, .initialized RX0, .selects RX0 yX0_add yX0_add, .code yX0_add cX0_add 3 (some .int), .fieldLink RX0 15 "AuditoriumKeys$Codes" "ofPerson" "[I", .fieldLink RX0 9 "AuditoriumKeys$Codes" "count" "I", .fieldLink RX0 19 "AuditoriumKeys$Codes" "ofHousehold" "[I"] ++ wsX50 ++ wsX00 ++ (vx_atS RX5 62 "java/lang/IllegalArgumentException" ["java/lang/RuntimeException", "java/lang/Exception"]).filter goodWord ++ (vx_atS RX5 69 "java/lang/IllegalStateException" ["java/lang/RuntimeException", "java/lang/Exception"]).filter goodWord)
def wsL_join_r1 : List Cond := [Cond.classLink RL 29 "java/lang/IndexOutOfBoundsException", Cond.classLink RL 17 "java/lang/IllegalStateException", Cond.constant RL 16 (-99999), Cond.methodLink RL 26 yX5_join, Cond.instanceMethod yX5_join, Cond.selects RX5 yX5_join yX5_join, Cond.initialized RX5, Cond.code yX5_join cX5_join 2 (some .int), Cond.classLink RX5 65 "java/lang/IllegalStateException", Cond.initialized "java/lang/IllegalStateException", Cond.fieldLink RX5 33 "AuditoriumKeys" "line" "LAuditoriumKeys$Line;", Cond.fieldLink RX5 40 "AuditoriumKeys" "holds" "LAuditoriumKeys$Holds;", Cond.fieldLink RX5 9 "AuditoriumKeys" "now" "I", Cond.methodLink RX5 100 yX5_needPerson, Cond.static yX5_needPerson, Cond.code yX5_needPerson cX5_needPerson 1 none, Cond.classLink RX5 129 "java/lang/IndexOutOfBoundsException", Cond.initialized "java/lang/IndexOutOfBoundsException", Cond.instanceMethod yX2_isIn, Cond.initialized RX2, Cond.selects RX2 yX2_isIn yX2_isIn, Cond.code yX2_isIn cX2_isIn 2 (some .boolean), Cond.fieldLink RX2 9 "AuditoriumKeys$Line" "came" "[I", Cond.instanceMethod yX1_isThere]
def wsL_join_r2 : List Cond := [Cond.initialized RX1, Cond.selects RX1 yX1_isThere yX1_isThere, Cond.code yX1_isThere cX1_isThere 2 (some .boolean), Cond.fieldLink RX1 15 "AuditoriumKeys$Holds" "many" "[I", Cond.instanceMethod yX2_enter, Cond.selects RX2 yX2_enter yX2_enter, Cond.code yX2_enter cX2_enter 3 none, Cond.instanceMethod yX2_length, Cond.selects RX2 yX2_length yX2_length, Cond.code yX2_length cX2_length 3 (some .int), Cond.methodLink RX2 15 yX2_isIn]
def wsL_join : List Cond := .codeWith yL_join cL_join 3 (some .int) [(0, 5, 6, 29), (0, 5, 10, 17)] :: ((wsL_join_r1 ++ wsL_join_r2) ++ wsX50 ++ wsX20 ++ wsX10 ++ (vx_atS RX5 69 "java/lang/IllegalStateException" ["java/lang/RuntimeException", "java/lang/Exception"]).filter goodWord ++ (vx_atS RX5 133 "java/lang/IndexOutOfBoundsException" ["java/lang/RuntimeException", "java/lang/Exception"]).filter goodWord)
def wsL_quit_r1 : List Cond := [Cond.classLink RL 29 "java/lang/IndexOutOfBoundsException", Cond.classLink RL 17 "java/lang/IllegalStateException", Cond.constant RL 16 (-99999), Cond.methodLink RL 31 yX5_quit, Cond.instanceMethod yX5_quit, Cond.selects RX5 yX5_quit yX5_quit, Cond.initialized RX5, Cond.code yX5_quit cX5_quit 2 (some .int), Cond.classLink RX5 65 "java/lang/IllegalStateException", Cond.initialized "java/lang/IllegalStateException", Cond.fieldLink RX5 33 "AuditoriumKeys" "line" "LAuditoriumKeys$Line;", Cond.methodLink RX5 100 yX5_needPerson, Cond.static yX5_needPerson, Cond.code yX5_needPerson cX5_needPerson 1 none, Cond.classLink RX5 129 "java/lang/IndexOutOfBoundsException", Cond.initialized "java/lang/IndexOutOfBoundsException", Cond.instanceMethod yX2_isIn, Cond.initialized RX2, Cond.selects RX2 yX2_isIn yX2_isIn, Cond.code yX2_isIn cX2_isIn 2 (some .boolean), Cond.fieldLink RX2 9 "AuditoriumKeys$Line" "came" "[I", Cond.instanceMethod yX2_leave, Cond.selects RX2 yX2_leave yX2_leave, Cond.code yX2_leave cX2_leave 2 none]
def wsL_quit_r2 : List Cond := [Cond.instanceMethod yX2_length, Cond.selects RX2 yX2_length yX2_length, Cond.code yX2_length cX2_length 3 (some .int), Cond.methodLink RX2 15 yX2_isIn]
def wsL_quit : List Cond := .codeWith yL_quit cL_quit 3 (some .int) [(0, 5, 6, 29), (0, 5, 10, 17)] :: ((wsL_quit_r1 ++ wsL_quit_r2) ++ wsX50 ++ wsX20 ++ (vx_atS RX5 69 "java/lang/IllegalStateException" ["java/lang/RuntimeException", "java/lang/Exception"]).filter goodWord ++ (vx_atS RX5 133 "java/lang/IndexOutOfBoundsException" ["java/lang/RuntimeException", "java/lang/Exception"]).filter goodWord)
def wsL_hold_r1 : List Cond := [Cond.classLink RL 29 "java/lang/IndexOutOfBoundsException", Cond.classLink RL 14 "java/lang/IllegalArgumentException", Cond.classLink RL 17 "java/lang/IllegalStateException", Cond.constant RL 16 (-99999), Cond.methodLink RL 34 yX5_hold, Cond.instanceMethod yX5_hold, Cond.selects RX5 yX5_hold yX5_hold, Cond.initialized RX5, Cond.code yX5_hold cX5_hold 8 (some .int), Cond.classLink RX5 129 "java/lang/IndexOutOfBoundsException", Cond.initialized "java/lang/IndexOutOfBoundsException", Cond.classLink RX5 58 "java/lang/IllegalArgumentException", Cond.initialized "java/lang/IllegalArgumentException", Cond.classLink RX5 65 "java/lang/IllegalStateException", Cond.initialized "java/lang/IllegalStateException", Cond.fieldLink RX5 33 "AuditoriumKeys" "line" "LAuditoriumKeys$Line;", Cond.fieldLink RX5 26 "AuditoriumKeys" "codes" "LAuditoriumKeys$Codes;", Cond.fieldLink RX5 47 "AuditoriumKeys" "seats" "LAuditoriumKeys$Seats;", Cond.fieldLink RX5 40 "AuditoriumKeys" "holds" "LAuditoriumKeys$Holds;", Cond.fieldLink RX5 9 "AuditoriumKeys" "now" "I", Cond.methodLink RX5 100 yX5_needPerson, Cond.static yX5_needPerson, Cond.code yX5_needPerson cX5_needPerson 1 none, Cond.methodLink RX5 137 yX5_needRow]
def wsL_hold_r2 : List Cond := [Cond.static yX5_needRow, Cond.code yX5_needRow cX5_needRow 1 none, Cond.methodLink RX5 96 yX5_needCode, Cond.instanceMethod yX5_needCode, Cond.selects RX5 yX5_needCode yX5_needCode, Cond.code yX5_needCode cX5_needCode 2 none, Cond.methodLink RX5 144 yX5_served, Cond.instanceMethod yX5_served, Cond.selects RX5 yX5_served yX5_served, Cond.code yX5_served cX5_served 2 (some .int), Cond.instanceMethod yX2_personAt, Cond.initialized RX2, Cond.selects RX2 yX2_personAt yX2_personAt, Cond.code yX2_personAt cX2_personAt 3 (some .int), Cond.methodLink RX2 15 yX2_isIn, Cond.instanceMethod yX2_isIn, Cond.selects RX2 yX2_isIn yX2_isIn, Cond.code yX2_isIn cX2_isIn 2 (some .boolean), Cond.fieldLink RX2 9 "AuditoriumKeys$Line" "came" "[I", Cond.methodLink RX2 19 yX2_placeOf, Cond.instanceMethod yX2_placeOf, Cond.selects RX2 yX2_placeOf yX2_placeOf, Cond.code yX2_placeOf cX2_placeOf 4 (some .int), Cond.methodLink RX2 23 yX2_rank]
def wsL_hold_r3 : List Cond := [Cond.instanceMethod yX2_rank, Cond.selects RX2 yX2_rank yX2_rank, Cond.code yX2_rank cX2_rank 3 (some .int), Cond.methodLink RX5 149 yX5_needSeatsFor, Cond.instanceMethod yX5_needSeatsFor, Cond.selects RX5 yX5_needSeatsFor yX5_needSeatsFor, Cond.code yX5_needSeatsFor cX5_needSeatsFor 6 none, Cond.instanceMethod yX4_isOpen, Cond.initialized RX4, Cond.selects RX4 yX4_isOpen yX4_isOpen, Cond.code yX4_isOpen cX4_isOpen 4 (some .boolean), Cond.methodLink RX4 28 yX4_stateOf, Cond.instanceMethod yX4_stateOf, Cond.selects RX4 yX4_stateOf yX4_stateOf, Cond.code yX4_stateOf cX4_stateOf 2 (some .int), Cond.fieldLink RX4 9 "AuditoriumKeys$Seats" "held" "[Z", Cond.fieldLink RX4 18 "AuditoriumKeys$Seats" "owner" "[I", Cond.fieldLink RX4 15 "AuditoriumKeys$Seats" "offered" "[Z", Cond.instanceMethod yX4_leavesSingle, Cond.selects RX4 yX4_leavesSingle yX4_leavesSingle, Cond.code yX4_leavesSingle cX4_leavesSingle 5 (some .boolean), Cond.methodLink RX4 32 yX4_isOpen, Cond.methodLink RX5 153 yX5_needRightFor, Cond.instanceMethod yX5_needRightFor]
def wsL_hold_r4 : List Cond := [Cond.selects RX5 yX5_needRightFor yX5_needRightFor, Cond.code yX5_needRightFor cX5_needRightFor 4 none, Cond.fieldLink RX5 13 "AuditoriumKeys" "opening" "I", Cond.instanceMethod yX0_haveRoom, Cond.initialized RX0, Cond.selects RX0 yX0_haveRoom yX0_haveRoom, Cond.code yX0_haveRoom cX0_haveRoom 6 (some .boolean), Cond.fieldLink RX0 15 "AuditoriumKeys$Codes" "ofPerson" "[I", Cond.fieldLink RX0 19 "AuditoriumKeys$Codes" "ofHousehold" "[I", Cond.methodLink RX0 25 yX0_seatsOf, Cond.instanceMethod yX0_seatsOf, Cond.selects RX0 yX0_seatsOf yX0_seatsOf, Cond.code yX0_seatsOf cX0_seatsOf 3 (some .int), Cond.fieldLink RX0 22 "AuditoriumKeys$Codes" "counted" "[I", Cond.instanceMethod yX2_leave, Cond.selects RX2 yX2_leave yX2_leave, Cond.code yX2_leave cX2_leave 2 none, Cond.instanceMethod yX0_tally, Cond.selects RX0 yX0_tally yX0_tally, Cond.code yX0_tally cX0_tally 4 none, Cond.instanceMethod yX4_lock, Cond.selects RX4 yX4_lock yX4_lock, Cond.code yX4_lock cX4_lock 5 (some .int), Cond.fieldLink RX4 22 "AuditoriumKeys$Seats" "price" "[I"]
def wsL_hold_r5 : List Cond := [Cond.instanceMethod yX1_make, Cond.initialized RX1, Cond.selects RX1 yX1_make yX1_make, Cond.code yX1_make cX1_make 7 none, Cond.fieldLink RX1 9 "AuditoriumKeys$Holds" "first" "[I", Cond.fieldLink RX1 15 "AuditoriumKeys$Holds" "many" "[I", Cond.fieldLink RX1 18 "AuditoriumKeys$Holds" "code" "[I", Cond.fieldLink RX1 21 "AuditoriumKeys$Holds" "cost" "[I", Cond.fieldLink RX1 24 "AuditoriumKeys$Holds" "paid" "[I", Cond.fieldLink RX1 27 "AuditoriumKeys$Holds" "latest" "[I", Cond.fieldLink RX1 30 "AuditoriumKeys$Holds" "lapse" "[I"]
def wsL_hold : List Cond := .codeWith yL_hold cL_hold 7 (some .int) [(0, 11, 12, 29), (0, 11, 17, 14), (0, 11, 22, 17)] :: ((wsL_hold_r1 ++ (wsL_hold_r2 ++ (wsL_hold_r3 ++ (wsL_hold_r4 ++ wsL_hold_r5)))) ++ wsX50 ++ wsX00 ++ wsX20 ++ wsX40 ++ wsX10 ++ (vx_atS RX5 133 "java/lang/IndexOutOfBoundsException" ["java/lang/RuntimeException", "java/lang/Exception"]).filter goodWord ++ (vx_atS RX5 62 "java/lang/IllegalArgumentException" ["java/lang/RuntimeException", "java/lang/Exception"]).filter goodWord ++ (vx_atS RX5 69 "java/lang/IllegalStateException" ["java/lang/RuntimeException", "java/lang/Exception"]).filter goodWord)
def wsL_pay_r1 : List Cond := [Cond.classLink RL 29 "java/lang/IndexOutOfBoundsException", Cond.classLink RL 14 "java/lang/IllegalArgumentException", Cond.classLink RL 17 "java/lang/IllegalStateException", Cond.constant RL 16 (-99999), Cond.methodLink RL 38 yX5_pay, Cond.instanceMethod yX5_pay, Cond.selects RX5 yX5_pay yX5_pay, Cond.initialized RX5, Cond.code yX5_pay cX5_pay 4 (some .int), Cond.classLink RX5 58 "java/lang/IllegalArgumentException", Cond.initialized "java/lang/IllegalArgumentException", Cond.classLink RX5 65 "java/lang/IllegalStateException", Cond.initialized "java/lang/IllegalStateException", Cond.fieldLink RX5 40 "AuditoriumKeys" "holds" "LAuditoriumKeys$Holds;", Cond.fieldLink RX5 19 "AuditoriumKeys" "outlay" "[I", Cond.methodLink RX5 100 yX5_needPerson, Cond.static yX5_needPerson, Cond.code yX5_needPerson cX5_needPerson 1 none, Cond.classLink RX5 129 "java/lang/IndexOutOfBoundsException", Cond.initialized "java/lang/IndexOutOfBoundsException", Cond.methodLink RX5 169 yX5_needHold, Cond.instanceMethod yX5_needHold, Cond.selects RX5 yX5_needHold yX5_needHold, Cond.code yX5_needHold cX5_needHold 2 none]
def wsL_pay_r2 : List Cond := [Cond.instanceMethod yX1_isThere, Cond.initialized RX1, Cond.selects RX1 yX1_isThere yX1_isThere, Cond.code yX1_isThere cX1_isThere 2 (some .boolean), Cond.fieldLink RX1 15 "AuditoriumKeys$Holds" "many" "[I", Cond.instanceMethod yX1_left, Cond.selects RX1 yX1_left yX1_left, Cond.code yX1_left cX1_left 2 (some .int), Cond.fieldLink RX1 21 "AuditoriumKeys$Holds" "cost" "[I", Cond.fieldLink RX1 24 "AuditoriumKeys$Holds" "paid" "[I", Cond.methodLink RX5 180 yX5_sell, Cond.instanceMethod yX5_sell, Cond.selects RX5 yX5_sell yX5_sell, Cond.code yX5_sell cX5_sell 6 none, Cond.fieldLink RX5 47 "AuditoriumKeys" "seats" "LAuditoriumKeys$Seats;", Cond.fieldLink RX5 16 "AuditoriumKeys" "taken" "I", Cond.fieldLink RX5 54 "AuditoriumKeys" "sales" "LAuditoriumKeys$Sales;", Cond.instanceMethod yX4_giveTo, Cond.initialized RX4, Cond.selects RX4 yX4_giveTo yX4_giveTo, Cond.code yX4_giveTo cX4_giveTo 3 none, Cond.fieldLink RX4 9 "AuditoriumKeys$Seats" "held" "[Z", Cond.fieldLink RX4 15 "AuditoriumKeys$Seats" "offered" "[Z", Cond.fieldLink RX4 18 "AuditoriumKeys$Seats" "owner" "[I"]
def wsL_pay_r3 : List Cond := [Cond.fieldLink RX4 25 "AuditoriumKeys$Seats" "bought" "[I", Cond.fieldLink RX4 22 "AuditoriumKeys$Seats" "price" "[I", Cond.instanceMethod yX3_add, Cond.initialized RX3, Cond.selects RX3 yX3_add yX3_add, Cond.code yX3_add cX3_add 4 none, Cond.fieldLink RX3 9 "AuditoriumKeys$Sales" "count" "I", Cond.fieldLink RX3 15 "AuditoriumKeys$Sales" "first" "[I", Cond.fieldLink RX3 19 "AuditoriumKeys$Sales" "many" "[I", Cond.fieldLink RX3 22 "AuditoriumKeys$Sales" "buyer" "[I", Cond.instanceMethod yX1_end, Cond.selects RX1 yX1_end yX1_end, Cond.code yX1_end cX1_end 2 none, Cond.instanceMethod yX1_prolong, Cond.selects RX1 yX1_prolong yX1_prolong, Cond.code yX1_prolong cX1_prolong 2 none, Cond.fieldLink RX1 30 "AuditoriumKeys$Holds" "lapse" "[I", Cond.fieldLink RX1 27 "AuditoriumKeys$Holds" "latest" "[I", Cond.methodLink RX1 33 Lib.Math.min.name, Cond.static Lib.Math.min.name, Cond.initialized "java/lang/Math", Cond.code Lib.Math.min.name Lib.Math.min.code 2 (some .int)]
def wsL_pay : List Cond := .codeWith yL_pay cL_pay 4 (some .int) [(0, 6, 7, 29), (0, 6, 11, 14), (0, 6, 15, 17)] :: ((wsL_pay_r1 ++ (wsL_pay_r2 ++ wsL_pay_r3)) ++ wsX50 ++ wsX10 ++ wsX40 ++ wsX30 ++ (vx_atS RX5 62 "java/lang/IllegalArgumentException" ["java/lang/RuntimeException", "java/lang/Exception"]).filter goodWord ++ (vx_atS RX5 69 "java/lang/IllegalStateException" ["java/lang/RuntimeException", "java/lang/Exception"]).filter goodWord ++ (vx_atS RX5 133 "java/lang/IndexOutOfBoundsException" ["java/lang/RuntimeException", "java/lang/Exception"]).filter goodWord)
def wsL_letGo_r1 : List Cond := [Cond.classLink RL 29 "java/lang/IndexOutOfBoundsException", Cond.classLink RL 17 "java/lang/IllegalStateException", Cond.constant RL 16 (-99999), Cond.methodLink RL 41 yX5_letGo, Cond.instanceMethod yX5_letGo, Cond.selects RX5 yX5_letGo yX5_letGo, Cond.initialized RX5, Cond.code yX5_letGo cX5_letGo 2 (some .int), Cond.methodLink RX5 100 yX5_needPerson, Cond.static yX5_needPerson, Cond.code yX5_needPerson cX5_needPerson 1 none, Cond.classLink RX5 129 "java/lang/IndexOutOfBoundsException", Cond.initialized "java/lang/IndexOutOfBoundsException", Cond.methodLink RX5 169 yX5_needHold, Cond.instanceMethod yX5_needHold, Cond.selects RX5 yX5_needHold yX5_needHold, Cond.code yX5_needHold cX5_needHold 2 none, Cond.classLink RX5 65 "java/lang/IllegalStateException", Cond.initialized "java/lang/IllegalStateException", Cond.fieldLink RX5 40 "AuditoriumKeys" "holds" "LAuditoriumKeys$Holds;", Cond.instanceMethod yX1_isThere, Cond.initialized RX1, Cond.selects RX1 yX1_isThere yX1_isThere, Cond.code yX1_isThere cX1_isThere 2 (some .boolean)]
def wsL_letGo_r2 : List Cond := [Cond.fieldLink RX1 15 "AuditoriumKeys$Holds" "many" "[I", Cond.methodLink RX5 77 yX5_giveBack, Cond.instanceMethod yX5_giveBack, Cond.selects RX5 yX5_giveBack yX5_giveBack, Cond.code yX5_giveBack cX5_giveBack 3 (some .int), Cond.fieldLink RX5 19 "AuditoriumKeys" "outlay" "[I", Cond.fieldLink RX5 26 "AuditoriumKeys" "codes" "LAuditoriumKeys$Codes;", Cond.fieldLink RX5 47 "AuditoriumKeys" "seats" "LAuditoriumKeys$Seats;", Cond.instanceMethod yX0_tally, Cond.initialized RX0, Cond.selects RX0 yX0_tally yX0_tally, Cond.code yX0_tally cX0_tally 4 none, Cond.fieldLink RX0 22 "AuditoriumKeys$Codes" "counted" "[I", Cond.instanceMethod yX4_unlock, Cond.initialized RX4, Cond.selects RX4 yX4_unlock yX4_unlock, Cond.code yX4_unlock cX4_unlock 4 none, Cond.fieldLink RX4 9 "AuditoriumKeys$Seats" "held" "[Z", Cond.instanceMethod yX1_end, Cond.selects RX1 yX1_end yX1_end, Cond.code yX1_end cX1_end 2 none]
def wsL_letGo : List Cond := .codeWith yL_letGo cL_letGo 3 (some .int) [(0, 5, 6, 29), (0, 5, 10, 17)] :: ((wsL_letGo_r1 ++ wsL_letGo_r2) ++ wsX50 ++ wsX10 ++ wsX00 ++ wsX40 ++ (vx_atS RX5 133 "java/lang/IndexOutOfBoundsException" ["java/lang/RuntimeException", "java/lang/Exception"]).filter goodWord ++ (vx_atS RX5 69 "java/lang/IllegalStateException" ["java/lang/RuntimeException", "java/lang/Exception"]).filter goodWord)
def wsL_offer_r1 : List Cond := [Cond.classLink RL 29 "java/lang/IndexOutOfBoundsException", Cond.classLink RL 14 "java/lang/IllegalArgumentException", Cond.classLink RL 17 "java/lang/IllegalStateException", Cond.constant RL 16 (-99999), Cond.methodLink RL 44 yX5_offer, Cond.instanceMethod yX5_offer, Cond.selects RX5 yX5_offer yX5_offer, Cond.initialized RX5, Cond.code yX5_offer cX5_offer 5 (some .int), Cond.classLink RX5 58 "java/lang/IllegalArgumentException", Cond.initialized "java/lang/IllegalArgumentException", Cond.classLink RX5 65 "java/lang/IllegalStateException", Cond.initialized "java/lang/IllegalStateException", Cond.fieldLink RX5 47 "AuditoriumKeys" "seats" "LAuditoriumKeys$Seats;", Cond.methodLink RX5 100 yX5_needPerson, Cond.static yX5_needPerson, Cond.code yX5_needPerson cX5_needPerson 1 none, Cond.classLink RX5 129 "java/lang/IndexOutOfBoundsException", Cond.initialized "java/lang/IndexOutOfBoundsException", Cond.methodLink RX5 186 yX5_needSeat, Cond.static yX5_needSeat, Cond.code yX5_needSeat cX5_needSeat 1 none, Cond.instanceMethod yX4_stateOf, Cond.initialized RX4]
def wsL_offer_r2 : List Cond := [Cond.selects RX4 yX4_stateOf yX4_stateOf, Cond.code yX4_stateOf cX4_stateOf 2 (some .int), Cond.fieldLink RX4 9 "AuditoriumKeys$Seats" "held" "[Z", Cond.fieldLink RX4 18 "AuditoriumKeys$Seats" "owner" "[I", Cond.fieldLink RX4 15 "AuditoriumKeys$Seats" "offered" "[Z", Cond.instanceMethod yX4_ceilingOf, Cond.selects RX4 yX4_ceilingOf yX4_ceilingOf, Cond.code yX4_ceilingOf cX4_ceilingOf 2 (some .int), Cond.fieldLink RX4 25 "AuditoriumKeys$Seats" "bought" "[I", Cond.instanceMethod yX4_putUp, Cond.selects RX4 yX4_putUp yX4_putUp, Cond.code yX4_putUp cX4_putUp 3 none, Cond.fieldLink RX4 22 "AuditoriumKeys$Seats" "price" "[I"]
def wsL_offer : List Cond := .codeWith yL_offer cL_offer 5 (some .int) [(0, 7, 8, 29), (0, 7, 13, 14), (0, 7, 18, 17)] :: ((wsL_offer_r1 ++ wsL_offer_r2) ++ wsX50 ++ wsX40 ++ (vx_atS RX5 62 "java/lang/IllegalArgumentException" ["java/lang/RuntimeException", "java/lang/Exception"]).filter goodWord ++ (vx_atS RX5 69 "java/lang/IllegalStateException" ["java/lang/RuntimeException", "java/lang/Exception"]).filter goodWord ++ (vx_atS RX5 133 "java/lang/IndexOutOfBoundsException" ["java/lang/RuntimeException", "java/lang/Exception"]).filter goodWord)
def wsL_retract : List Cond := .codeWith yL_retract cL_retract 3 (some .int) [(0, 5, 6, 29), (0, 5, 10, 17)] :: ([.classLink RL 29 "java/lang/IndexOutOfBoundsException", .classLink RL 17 "java/lang/IllegalStateException", .constant RL 16 (-99999), .methodLink RL 48 yX5_retract, .instanceMethod yX5_retract, .selects RX5 yX5_retract yX5_retract, .initialized RX5, .code yX5_retract cX5_retract 2 (some .int), .classLink RX5 65 "java/lang/IllegalStateException", .initialized "java/lang/IllegalStateException", .fieldLink RX5 47 "AuditoriumKeys" "seats" "LAuditoriumKeys$Seats;", .methodLink RX5 186 yX5_needSeat, .static yX5_needSeat, .code yX5_needSeat cX5_needSeat 1 none, .classLink RX5 129 "java/lang/IndexOutOfBoundsException", .initialized "java/lang/IndexOutOfBoundsException", .instanceMethod yX4_stateOf, .initialized RX4, .selects RX4 yX4_stateOf yX4_stateOf, .code yX4_stateOf cX4_stateOf 2 (some .int), .fieldLink RX4 9 "AuditoriumKeys$Seats" "held" "[Z", .fieldLink RX4 18 "AuditoriumKeys$Seats" "owner" "[I", .fieldLink RX4 15 "AuditoriumKeys$Seats" "offered" "[Z"] ++ wsX50 ++ wsX40 ++ (vx_atS RX5 69 "java/lang/IllegalStateException" ["java/lang/RuntimeException", "java/lang/Exception"]).filter goodWord ++ (vx_atS RX5 133 "java/lang/IndexOutOfBoundsException" ["java/lang/RuntimeException", "java/lang/Exception"]).filter goodWord)
def wsL_queueAt_r1 : List Cond := [Cond.classLink RL 29 "java/lang/IndexOutOfBoundsException", Cond.methodLink RL 51 yX5_queueAt, Cond.instanceMethod yX5_queueAt, Cond.selects RX5 yX5_queueAt yX5_queueAt, Cond.initialized RX5, Cond.code yX5_queueAt cX5_queueAt 3 (some .int), Cond.classLink RX5 129 "java/lang/IndexOutOfBoundsException", Cond.initialized "java/lang/IndexOutOfBoundsException", Cond.fieldLink RX5 33 "AuditoriumKeys" "line" "LAuditoriumKeys$Line;", Cond.instanceMethod yX2_personAt, Cond.initialized RX2, Cond.selects RX2 yX2_personAt yX2_personAt, Cond.code yX2_personAt cX2_personAt 3 (some .int), Cond.methodLink RX2 15 yX2_isIn, Cond.instanceMethod yX2_isIn, Cond.selects RX2 yX2_isIn yX2_isIn, Cond.code yX2_isIn cX2_isIn 2 (some .boolean), Cond.fieldLink RX2 9 "AuditoriumKeys$Line" "came" "[I", Cond.methodLink RX2 19 yX2_placeOf, Cond.instanceMethod yX2_placeOf, Cond.selects RX2 yX2_placeOf yX2_placeOf, Cond.code yX2_placeOf cX2_placeOf 4 (some .int), Cond.methodLink RX2 23 yX2_rank, Cond.instanceMethod yX2_rank]
def wsL_queueAt_r2 : List Cond := [Cond.selects RX2 yX2_rank yX2_rank, Cond.code yX2_rank cX2_rank 3 (some .int)]
def wsL_queueAt : List Cond := .codeWith yL_queueAt cL_queueAt 3 (some .int) [(0, 5, 6, 29)] :: ((wsL_queueAt_r1 ++ wsL_queueAt_r2) ++ wsX50 ++ wsX20 ++ (vx_atS RX5 133 "java/lang/IndexOutOfBoundsException" ["java/lang/RuntimeException", "java/lang/Exception"]).filter goodWord)
def wsL_act_r1 : List Cond := [Cond.methodLink RL 54 yL_low, Cond.static yL_low, Cond.initialized RL, Cond.code yL_low cL_low 2 (some .int), Cond.constant RL 7 (2147483647), Cond.methodLink RL 59 yX5_served, Cond.instanceMethod yX5_served, Cond.selects RX5 yX5_served yX5_served, Cond.initialized RX5, Cond.code yX5_served cX5_served 2 (some .int), Cond.fieldLink RX5 33 "AuditoriumKeys" "line" "LAuditoriumKeys$Line;", Cond.fieldLink RX5 9 "AuditoriumKeys" "now" "I", Cond.instanceMethod yX2_personAt, Cond.initialized RX2, Cond.selects RX2 yX2_personAt yX2_personAt, Cond.code yX2_personAt cX2_personAt 3 (some .int), Cond.methodLink RX2 15 yX2_isIn, Cond.instanceMethod yX2_isIn, Cond.selects RX2 yX2_isIn yX2_isIn, Cond.code yX2_isIn cX2_isIn 2 (some .boolean), Cond.fieldLink RX2 9 "AuditoriumKeys$Line" "came" "[I", Cond.methodLink RX2 19 yX2_placeOf, Cond.instanceMethod yX2_placeOf, Cond.selects RX2 yX2_placeOf yX2_placeOf]
def wsL_act_r2 : List Cond := [Cond.code yX2_placeOf cX2_placeOf 4 (some .int), Cond.methodLink RX2 23 yX2_rank, Cond.instanceMethod yX2_rank, Cond.selects RX2 yX2_rank yX2_rank, Cond.code yX2_rank cX2_rank 3 (some .int), Cond.methodLink RL 63 yX5_owner, Cond.instanceMethod yX5_owner, Cond.selects RX5 yX5_owner yX5_owner, Cond.code yX5_owner cX5_owner 2 (some .int), Cond.fieldLink RX5 47 "AuditoriumKeys" "seats" "LAuditoriumKeys$Seats;", Cond.methodLink RX5 186 yX5_needSeat, Cond.static yX5_needSeat, Cond.code yX5_needSeat cX5_needSeat 1 none, Cond.classLink RX5 129 "java/lang/IndexOutOfBoundsException", Cond.initialized "java/lang/IndexOutOfBoundsException", Cond.methodLink RL 66 yL_setOpening, Cond.static yL_setOpening, Cond.codeWith yL_setOpening cL_setOpening 3 (some .int) [(0, 5, 6, 14)], Cond.classLink RL 14 "java/lang/IllegalArgumentException", Cond.constant RL 16 (-99999), Cond.methodLink RL 19 yX5_setOpening, Cond.instanceMethod yX5_setOpening, Cond.selects RX5 yX5_setOpening yX5_setOpening, Cond.code yX5_setOpening cX5_setOpening 3 (some .int)]
def wsL_act_r3 : List Cond := [Cond.classLink RX5 58 "java/lang/IllegalArgumentException", Cond.initialized "java/lang/IllegalArgumentException", Cond.fieldLink RX5 13 "AuditoriumKeys" "opening" "I", Cond.methodLink RL 69 yL_code, Cond.static yL_code, Cond.codeWith yL_code cL_code 4 (some .int) [(0, 6, 7, 14), (0, 6, 11, 17)], Cond.classLink RL 17 "java/lang/IllegalStateException", Cond.methodLink RL 22 yX5_code, Cond.instanceMethod yX5_code, Cond.selects RX5 yX5_code yX5_code, Cond.code yX5_code cX5_code 3 (some .int), Cond.classLink RX5 65 "java/lang/IllegalStateException", Cond.initialized "java/lang/IllegalStateException", Cond.fieldLink RX5 26 "AuditoriumKeys" "codes" "LAuditoriumKeys$Codes;", Cond.instanceMethod yX0_add, Cond.initialized RX0, Cond.selects RX0 yX0_add yX0_add, Cond.code yX0_add cX0_add 3 (some .int), Cond.fieldLink RX0 15 "AuditoriumKeys$Codes" "ofPerson" "[I", Cond.fieldLink RX0 9 "AuditoriumKeys$Codes" "count" "I", Cond.fieldLink RX0 19 "AuditoriumKeys$Codes" "ofHousehold" "[I", Cond.methodLink RL 72 yL_quit, Cond.static yL_quit, Cond.codeWith yL_quit cL_quit 3 (some .int) [(0, 5, 6, 29), (0, 5, 10, 17)]]
def wsL_act_r4 : List Cond := [Cond.classLink RL 29 "java/lang/IndexOutOfBoundsException", Cond.methodLink RL 31 yX5_quit, Cond.instanceMethod yX5_quit, Cond.selects RX5 yX5_quit yX5_quit, Cond.code yX5_quit cX5_quit 2 (some .int), Cond.methodLink RX5 100 yX5_needPerson, Cond.static yX5_needPerson, Cond.code yX5_needPerson cX5_needPerson 1 none, Cond.instanceMethod yX2_leave, Cond.selects RX2 yX2_leave yX2_leave, Cond.code yX2_leave cX2_leave 2 none, Cond.instanceMethod yX2_length, Cond.selects RX2 yX2_length yX2_length, Cond.code yX2_length cX2_length 3 (some .int), Cond.methodLink RL 74 yL_letGo, Cond.static yL_letGo, Cond.codeWith yL_letGo cL_letGo 3 (some .int) [(0, 5, 6, 29), (0, 5, 10, 17)], Cond.methodLink RL 41 yX5_letGo, Cond.instanceMethod yX5_letGo, Cond.selects RX5 yX5_letGo yX5_letGo, Cond.code yX5_letGo cX5_letGo 2 (some .int), Cond.methodLink RX5 169 yX5_needHold, Cond.instanceMethod yX5_needHold, Cond.selects RX5 yX5_needHold yX5_needHold]
def wsL_act_r5 : List Cond := [Cond.code yX5_needHold cX5_needHold 2 none, Cond.fieldLink RX5 40 "AuditoriumKeys" "holds" "LAuditoriumKeys$Holds;", Cond.instanceMethod yX1_isThere, Cond.initialized RX1, Cond.selects RX1 yX1_isThere yX1_isThere, Cond.code yX1_isThere cX1_isThere 2 (some .boolean), Cond.fieldLink RX1 15 "AuditoriumKeys$Holds" "many" "[I", Cond.methodLink RX5 77 yX5_giveBack, Cond.instanceMethod yX5_giveBack, Cond.selects RX5 yX5_giveBack yX5_giveBack, Cond.code yX5_giveBack cX5_giveBack 3 (some .int), Cond.fieldLink RX5 19 "AuditoriumKeys" "outlay" "[I", Cond.instanceMethod yX0_tally, Cond.selects RX0 yX0_tally yX0_tally, Cond.code yX0_tally cX0_tally 4 none, Cond.fieldLink RX0 22 "AuditoriumKeys$Codes" "counted" "[I", Cond.instanceMethod yX4_unlock, Cond.initialized RX4, Cond.selects RX4 yX4_unlock yX4_unlock, Cond.code yX4_unlock cX4_unlock 4 none, Cond.fieldLink RX4 9 "AuditoriumKeys$Seats" "held" "[Z", Cond.instanceMethod yX1_end, Cond.selects RX1 yX1_end yX1_end, Cond.code yX1_end cX1_end 2 none]
def wsL_act_r6 : List Cond := [Cond.methodLink RL 76 yL_join, Cond.static yL_join, Cond.codeWith yL_join cL_join 3 (some .int) [(0, 5, 6, 29), (0, 5, 10, 17)], Cond.methodLink RL 26 yX5_join, Cond.instanceMethod yX5_join, Cond.selects RX5 yX5_join yX5_join, Cond.code yX5_join cX5_join 2 (some .int), Cond.instanceMethod yX2_enter, Cond.selects RX2 yX2_enter yX2_enter, Cond.code yX2_enter cX2_enter 3 none, Cond.methodLink RL 78 yL_pass, Cond.static yL_pass, Cond.codeWith yL_pass cL_pass 3 (some .int) [(0, 5, 6, 14), (0, 5, 10, 17)], Cond.methodLink RL 8 yX5_pass, Cond.instanceMethod yX5_pass, Cond.selects RX5 yX5_pass yX5_pass, Cond.code yX5_pass cX5_pass 4 (some .int), Cond.methodLink RL 80 yL_pay, Cond.static yL_pay, Cond.codeWith yL_pay cL_pay 4 (some .int) [(0, 6, 7, 29), (0, 6, 11, 14), (0, 6, 15, 17)], Cond.methodLink RL 38 yX5_pay, Cond.instanceMethod yX5_pay, Cond.selects RX5 yX5_pay yX5_pay, Cond.code yX5_pay cX5_pay 4 (some .int)]
def wsL_act_r7 : List Cond := [Cond.instanceMethod yX1_left, Cond.selects RX1 yX1_left yX1_left, Cond.code yX1_left cX1_left 2 (some .int), Cond.fieldLink RX1 21 "AuditoriumKeys$Holds" "cost" "[I", Cond.fieldLink RX1 24 "AuditoriumKeys$Holds" "paid" "[I", Cond.methodLink RX5 180 yX5_sell, Cond.instanceMethod yX5_sell, Cond.selects RX5 yX5_sell yX5_sell, Cond.code yX5_sell cX5_sell 6 none, Cond.fieldLink RX5 16 "AuditoriumKeys" "taken" "I", Cond.fieldLink RX5 54 "AuditoriumKeys" "sales" "LAuditoriumKeys$Sales;", Cond.instanceMethod yX4_giveTo, Cond.selects RX4 yX4_giveTo yX4_giveTo, Cond.code yX4_giveTo cX4_giveTo 3 none, Cond.fieldLink RX4 15 "AuditoriumKeys$Seats" "offered" "[Z", Cond.fieldLink RX4 18 "AuditoriumKeys$Seats" "owner" "[I", Cond.fieldLink RX4 25 "AuditoriumKeys$Seats" "bought" "[I", Cond.fieldLink RX4 22 "AuditoriumKeys$Seats" "price" "[I", Cond.instanceMethod yX3_add, Cond.initialized RX3, Cond.selects RX3 yX3_add yX3_add, Cond.code yX3_add cX3_add 4 none, Cond.fieldLink RX3 9 "AuditoriumKeys$Sales" "count" "I", Cond.fieldLink RX3 15 "AuditoriumKeys$Sales" "first" "[I"]
def wsL_act_r8 : List Cond := [Cond.fieldLink RX3 19 "AuditoriumKeys$Sales" "many" "[I", Cond.fieldLink RX3 22 "AuditoriumKeys$Sales" "buyer" "[I", Cond.instanceMethod yX1_prolong, Cond.selects RX1 yX1_prolong yX1_prolong, Cond.code yX1_prolong cX1_prolong 2 none, Cond.fieldLink RX1 30 "AuditoriumKeys$Holds" "lapse" "[I", Cond.fieldLink RX1 27 "AuditoriumKeys$Holds" "latest" "[I", Cond.methodLink RX1 33 Lib.Math.min.name, Cond.static Lib.Math.min.name, Cond.initialized "java/lang/Math", Cond.code Lib.Math.min.name Lib.Math.min.code 2 (some .int), Cond.methodLink RL 82 yL_offer, Cond.static yL_offer, Cond.codeWith yL_offer cL_offer 5 (some .int) [(0, 7, 8, 29), (0, 7, 13, 14), (0, 7, 18, 17)], Cond.methodLink RL 44 yX5_offer, Cond.instanceMethod yX5_offer, Cond.selects RX5 yX5_offer yX5_offer, Cond.code yX5_offer cX5_offer 5 (some .int), Cond.instanceMethod yX4_stateOf, Cond.selects RX4 yX4_stateOf yX4_stateOf, Cond.code yX4_stateOf cX4_stateOf 2 (some .int), Cond.instanceMethod yX4_ceilingOf, Cond.selects RX4 yX4_ceilingOf yX4_ceilingOf, Cond.code yX4_ceilingOf cX4_ceilingOf 2 (some .int)]
def wsL_act_r9 : List Cond := [Cond.instanceMethod yX4_putUp, Cond.selects RX4 yX4_putUp yX4_putUp, Cond.code yX4_putUp cX4_putUp 3 none, Cond.methodLink RL 85 yL_retract, Cond.static yL_retract, Cond.codeWith yL_retract cL_retract 3 (some .int) [(0, 5, 6, 29), (0, 5, 10, 17)], Cond.methodLink RL 48 yX5_retract, Cond.instanceMethod yX5_retract, Cond.selects RX5 yX5_retract yX5_retract, Cond.code yX5_retract cX5_retract 2 (some .int), Cond.methodLink RL 87 yL_hold, Cond.static yL_hold, Cond.codeWith yL_hold cL_hold 7 (some .int) [(0, 11, 12, 29), (0, 11, 17, 14), (0, 11, 22, 17)], Cond.methodLink RL 34 yX5_hold, Cond.instanceMethod yX5_hold, Cond.selects RX5 yX5_hold yX5_hold, Cond.code yX5_hold cX5_hold 8 (some .int), Cond.methodLink RX5 137 yX5_needRow, Cond.static yX5_needRow, Cond.code yX5_needRow cX5_needRow 1 none, Cond.methodLink RX5 96 yX5_needCode, Cond.instanceMethod yX5_needCode, Cond.selects RX5 yX5_needCode yX5_needCode, Cond.code yX5_needCode cX5_needCode 2 none]
def wsL_act_r10 : List Cond := [Cond.methodLink RX5 144 yX5_served, Cond.methodLink RX5 149 yX5_needSeatsFor, Cond.instanceMethod yX5_needSeatsFor, Cond.selects RX5 yX5_needSeatsFor yX5_needSeatsFor, Cond.code yX5_needSeatsFor cX5_needSeatsFor 6 none, Cond.instanceMethod yX4_isOpen, Cond.selects RX4 yX4_isOpen yX4_isOpen, Cond.code yX4_isOpen cX4_isOpen 4 (some .boolean), Cond.methodLink RX4 28 yX4_stateOf, Cond.instanceMethod yX4_leavesSingle, Cond.selects RX4 yX4_leavesSingle yX4_leavesSingle, Cond.code yX4_leavesSingle cX4_leavesSingle 5 (some .boolean), Cond.methodLink RX4 32 yX4_isOpen, Cond.methodLink RX5 153 yX5_needRightFor, Cond.instanceMethod yX5_needRightFor, Cond.selects RX5 yX5_needRightFor yX5_needRightFor, Cond.code yX5_needRightFor cX5_needRightFor 4 none, Cond.instanceMethod yX0_haveRoom, Cond.selects RX0 yX0_haveRoom yX0_haveRoom, Cond.code yX0_haveRoom cX0_haveRoom 6 (some .boolean), Cond.methodLink RX0 25 yX0_seatsOf, Cond.instanceMethod yX0_seatsOf, Cond.selects RX0 yX0_seatsOf yX0_seatsOf, Cond.code yX0_seatsOf cX0_seatsOf 3 (some .int)]
def wsL_act_r11 : List Cond := [Cond.instanceMethod yX4_lock, Cond.selects RX4 yX4_lock yX4_lock, Cond.code yX4_lock cX4_lock 5 (some .int), Cond.instanceMethod yX1_make, Cond.selects RX1 yX1_make yX1_make, Cond.code yX1_make cX1_make 7 none, Cond.fieldLink RX1 9 "AuditoriumKeys$Holds" "first" "[I", Cond.fieldLink RX1 18 "AuditoriumKeys$Holds" "code" "[I"]
def wsL_act : List Cond := .code yL_act cL_act 10 (some .int) :: ((wsL_act_r1 ++ (wsL_act_r2 ++ (wsL_act_r3 ++ (wsL_act_r4 ++ (wsL_act_r5 ++ (wsL_act_r6 ++ (wsL_act_r7 ++ (wsL_act_r8 ++ (wsL_act_r9 ++ (wsL_act_r10 ++ wsL_act_r11)))))))))) ++ wsX50 ++ wsX20 ++ wsX40 ++ wsX00 ++ wsX10 ++ wsX30 ++ (vx_atS RX5 133 "java/lang/IndexOutOfBoundsException" ["java/lang/RuntimeException", "java/lang/Exception"]).filter goodWord ++ (vx_atS RX5 62 "java/lang/IllegalArgumentException" ["java/lang/RuntimeException", "java/lang/Exception"]).filter goodWord ++ (vx_atS RX5 69 "java/lang/IllegalStateException" ["java/lang/RuntimeException", "java/lang/Exception"]).filter goodWord)
def wsL_areAlike_r1 : List Cond := [Cond.methodLink RL 90 yX5_time, Cond.instanceMethod yX5_time, Cond.selects RX5 yX5_time yX5_time, Cond.initialized RX5, Cond.code yX5_time cX5_time 1 (some .int), Cond.fieldLink RX5 9 "AuditoriumKeys" "now" "I", Cond.methodLink RL 93 yX5_takings, Cond.instanceMethod yX5_takings, Cond.selects RX5 yX5_takings yX5_takings, Cond.code yX5_takings cX5_takings 1 (some .int), Cond.fieldLink RX5 16 "AuditoriumKeys" "taken" "I", Cond.methodLink RL 59 yX5_served, Cond.instanceMethod yX5_served, Cond.selects RX5 yX5_served yX5_served, Cond.code yX5_served cX5_served 2 (some .int), Cond.fieldLink RX5 33 "AuditoriumKeys" "line" "LAuditoriumKeys$Line;", Cond.instanceMethod yX2_personAt, Cond.initialized RX2, Cond.selects RX2 yX2_personAt yX2_personAt, Cond.code yX2_personAt cX2_personAt 3 (some .int), Cond.methodLink RX2 15 yX2_isIn, Cond.instanceMethod yX2_isIn, Cond.selects RX2 yX2_isIn yX2_isIn, Cond.code yX2_isIn cX2_isIn 2 (some .boolean)]
def wsL_areAlike_r2 : List Cond := [Cond.fieldLink RX2 9 "AuditoriumKeys$Line" "came" "[I", Cond.methodLink RX2 19 yX2_placeOf, Cond.instanceMethod yX2_placeOf, Cond.selects RX2 yX2_placeOf yX2_placeOf, Cond.code yX2_placeOf cX2_placeOf 4 (some .int), Cond.methodLink RX2 23 yX2_rank, Cond.instanceMethod yX2_rank, Cond.selects RX2 yX2_rank yX2_rank, Cond.code yX2_rank cX2_rank 3 (some .int), Cond.methodLink RL 96 yL_queueAt, Cond.static yL_queueAt, Cond.initialized RL, Cond.codeWith yL_queueAt cL_queueAt 3 (some .int) [(0, 5, 6, 29)], Cond.classLink RL 29 "java/lang/IndexOutOfBoundsException", Cond.methodLink RL 51 yX5_queueAt, Cond.instanceMethod yX5_queueAt, Cond.selects RX5 yX5_queueAt yX5_queueAt, Cond.code yX5_queueAt cX5_queueAt 3 (some .int), Cond.classLink RX5 129 "java/lang/IndexOutOfBoundsException", Cond.initialized "java/lang/IndexOutOfBoundsException", Cond.methodLink RL 98 yX5_spent, Cond.instanceMethod yX5_spent, Cond.selects RX5 yX5_spent yX5_spent, Cond.code yX5_spent cX5_spent 2 (some .int)]
def wsL_areAlike_r3 : List Cond := [Cond.fieldLink RX5 19 "AuditoriumKeys" "outlay" "[I", Cond.methodLink RX5 100 yX5_needPerson, Cond.static yX5_needPerson, Cond.code yX5_needPerson cX5_needPerson 1 none, Cond.methodLink RL 101 yX5_lapses, Cond.instanceMethod yX5_lapses, Cond.selects RX5 yX5_lapses yX5_lapses, Cond.code yX5_lapses cX5_lapses 2 (some .int), Cond.fieldLink RX5 40 "AuditoriumKeys" "holds" "LAuditoriumKeys$Holds;", Cond.instanceMethod yX1_isThere, Cond.initialized RX1, Cond.selects RX1 yX1_isThere yX1_isThere, Cond.code yX1_isThere cX1_isThere 2 (some .boolean), Cond.fieldLink RX1 15 "AuditoriumKeys$Holds" "many" "[I", Cond.methodLink RL 104 yX5_state, Cond.instanceMethod yX5_state, Cond.selects RX5 yX5_state yX5_state, Cond.code yX5_state cX5_state 2 (some .int), Cond.fieldLink RX5 47 "AuditoriumKeys" "seats" "LAuditoriumKeys$Seats;", Cond.methodLink RX5 186 yX5_needSeat, Cond.static yX5_needSeat, Cond.code yX5_needSeat cX5_needSeat 1 none, Cond.instanceMethod yX4_stateOf, Cond.initialized RX4]
def wsL_areAlike_r4 : List Cond := [Cond.selects RX4 yX4_stateOf yX4_stateOf, Cond.code yX4_stateOf cX4_stateOf 2 (some .int), Cond.fieldLink RX4 9 "AuditoriumKeys$Seats" "held" "[Z", Cond.fieldLink RX4 18 "AuditoriumKeys$Seats" "owner" "[I", Cond.fieldLink RX4 15 "AuditoriumKeys$Seats" "offered" "[Z", Cond.methodLink RL 63 yX5_owner, Cond.instanceMethod yX5_owner, Cond.selects RX5 yX5_owner yX5_owner, Cond.code yX5_owner cX5_owner 2 (some .int)]
def wsL_areAlike : List Cond := .code yL_areAlike cL_areAlike 4 (some .boolean) :: ((wsL_areAlike_r1 ++ (wsL_areAlike_r2 ++ (wsL_areAlike_r3 ++ wsL_areAlike_r4))) ++ wsX50 ++ wsX20 ++ wsX10 ++ wsX40 ++ (vx_atS RX5 133 "java/lang/IndexOutOfBoundsException" ["java/lang/RuntimeException", "java/lang/Exception"]).filter goodWord)
def wsL_areSeatsSo_r1 : List Cond := [Cond.methodLink RL 104 yX5_state, Cond.instanceMethod yX5_state, Cond.selects RX5 yX5_state yX5_state, Cond.initialized RX5, Cond.code yX5_state cX5_state 2 (some .int), Cond.fieldLink RX5 47 "AuditoriumKeys" "seats" "LAuditoriumKeys$Seats;", Cond.methodLink RX5 186 yX5_needSeat, Cond.static yX5_needSeat, Cond.code yX5_needSeat cX5_needSeat 1 none, Cond.classLink RX5 129 "java/lang/IndexOutOfBoundsException", Cond.initialized "java/lang/IndexOutOfBoundsException", Cond.instanceMethod yX4_stateOf, Cond.initialized RX4, Cond.selects RX4 yX4_stateOf yX4_stateOf, Cond.code yX4_stateOf cX4_stateOf 2 (some .int), Cond.fieldLink RX4 9 "AuditoriumKeys$Seats" "held" "[Z", Cond.fieldLink RX4 18 "AuditoriumKeys$Seats" "owner" "[I", Cond.fieldLink RX4 15 "AuditoriumKeys$Seats" "offered" "[Z", Cond.methodLink RL 63 yX5_owner, Cond.instanceMethod yX5_owner, Cond.selects RX5 yX5_owner yX5_owner, Cond.code yX5_owner cX5_owner 2 (some .int), Cond.methodLink RL 107 yX5_ownerBySales, Cond.instanceMethod yX5_ownerBySales]
def wsL_areSeatsSo_r2 : List Cond := [Cond.selects RX5 yX5_ownerBySales yX5_ownerBySales, Cond.code yX5_ownerBySales cX5_ownerBySales 2 (some .int), Cond.fieldLink RX5 54 "AuditoriumKeys" "sales" "LAuditoriumKeys$Sales;", Cond.instanceMethod yX3_lastBuyerOf, Cond.initialized RX3, Cond.selects RX3 yX3_lastBuyerOf yX3_lastBuyerOf, Cond.code yX3_lastBuyerOf cX3_lastBuyerOf 4 (some .int), Cond.fieldLink RX3 9 "AuditoriumKeys$Sales" "count" "I", Cond.fieldLink RX3 15 "AuditoriumKeys$Sales" "first" "[I", Cond.fieldLink RX3 19 "AuditoriumKeys$Sales" "many" "[I", Cond.fieldLink RX3 22 "AuditoriumKeys$Sales" "buyer" "[I", Cond.methodLink RL 110 yX5_isSingle, Cond.instanceMethod yX5_isSingle, Cond.selects RX5 yX5_isSingle yX5_isSingle, Cond.code yX5_isSingle cX5_isSingle 4 (some .boolean), Cond.instanceMethod yX4_isOpen, Cond.selects RX4 yX4_isOpen yX4_isOpen, Cond.code yX4_isOpen cX4_isOpen 4 (some .boolean), Cond.methodLink RX4 28 yX4_stateOf, Cond.methodLink RL 101 yX5_lapses, Cond.instanceMethod yX5_lapses, Cond.selects RX5 yX5_lapses yX5_lapses, Cond.code yX5_lapses cX5_lapses 2 (some .int), Cond.fieldLink RX5 40 "AuditoriumKeys" "holds" "LAuditoriumKeys$Holds;"]
def wsL_areSeatsSo_r3 : List Cond := [Cond.methodLink RX5 100 yX5_needPerson, Cond.static yX5_needPerson, Cond.code yX5_needPerson cX5_needPerson 1 none, Cond.instanceMethod yX1_isThere, Cond.initialized RX1, Cond.selects RX1 yX1_isThere yX1_isThere, Cond.code yX1_isThere cX1_isThere 2 (some .boolean), Cond.fieldLink RX1 15 "AuditoriumKeys$Holds" "many" "[I", Cond.methodLink RL 90 yX5_time, Cond.instanceMethod yX5_time, Cond.selects RX5 yX5_time yX5_time, Cond.code yX5_time cX5_time 1 (some .int), Cond.fieldLink RX5 9 "AuditoriumKeys" "now" "I", Cond.methodLink RL 114 yX5_firstOpen, Cond.instanceMethod yX5_firstOpen, Cond.selects RX5 yX5_firstOpen yX5_firstOpen, Cond.code yX5_firstOpen cX5_firstOpen 5 (some .int), Cond.classLink RX5 58 "java/lang/IllegalArgumentException", Cond.initialized "java/lang/IllegalArgumentException", Cond.methodLink RX5 137 yX5_needRow, Cond.static yX5_needRow, Cond.code yX5_needRow cX5_needRow 1 none]
def wsL_areSeatsSo : List Cond := .code yL_areSeatsSo cL_areSeatsSo 11 (some .boolean) :: ((wsL_areSeatsSo_r1 ++ (wsL_areSeatsSo_r2 ++ wsL_areSeatsSo_r3)) ++ wsX50 ++ wsX40 ++ wsX30 ++ wsX10 ++ (vx_atS RX5 133 "java/lang/IndexOutOfBoundsException" ["java/lang/RuntimeException", "java/lang/Exception"]).filter goodWord ++ (vx_atS RX5 62 "java/lang/IllegalArgumentException" ["java/lang/RuntimeException", "java/lang/Exception"]).filter goodWord)
def wsL_isQueueSo_r1 : List Cond := [Cond.methodLink RL 96 yL_queueAt, Cond.static yL_queueAt, Cond.initialized RL, Cond.codeWith yL_queueAt cL_queueAt 3 (some .int) [(0, 5, 6, 29)], Cond.classLink RL 29 "java/lang/IndexOutOfBoundsException", Cond.methodLink RL 51 yX5_queueAt, Cond.instanceMethod yX5_queueAt, Cond.selects RX5 yX5_queueAt yX5_queueAt, Cond.initialized RX5, Cond.code yX5_queueAt cX5_queueAt 3 (some .int), Cond.classLink RX5 129 "java/lang/IndexOutOfBoundsException", Cond.initialized "java/lang/IndexOutOfBoundsException", Cond.fieldLink RX5 33 "AuditoriumKeys" "line" "LAuditoriumKeys$Line;", Cond.instanceMethod yX2_personAt, Cond.initialized RX2, Cond.selects RX2 yX2_personAt yX2_personAt, Cond.code yX2_personAt cX2_personAt 3 (some .int), Cond.methodLink RX2 15 yX2_isIn, Cond.instanceMethod yX2_isIn, Cond.selects RX2 yX2_isIn yX2_isIn, Cond.code yX2_isIn cX2_isIn 2 (some .boolean), Cond.fieldLink RX2 9 "AuditoriumKeys$Line" "came" "[I", Cond.methodLink RX2 19 yX2_placeOf, Cond.instanceMethod yX2_placeOf]
def wsL_isQueueSo_r2 : List Cond := [Cond.selects RX2 yX2_placeOf yX2_placeOf, Cond.code yX2_placeOf cX2_placeOf 4 (some .int), Cond.methodLink RX2 23 yX2_rank, Cond.instanceMethod yX2_rank, Cond.selects RX2 yX2_rank yX2_rank, Cond.code yX2_rank cX2_rank 3 (some .int), Cond.methodLink RL 98 yX5_spent, Cond.instanceMethod yX5_spent, Cond.selects RX5 yX5_spent yX5_spent, Cond.code yX5_spent cX5_spent 2 (some .int), Cond.fieldLink RX5 19 "AuditoriumKeys" "outlay" "[I", Cond.methodLink RX5 100 yX5_needPerson, Cond.static yX5_needPerson, Cond.code yX5_needPerson cX5_needPerson 1 none, Cond.methodLink RL 101 yX5_lapses, Cond.instanceMethod yX5_lapses, Cond.selects RX5 yX5_lapses yX5_lapses, Cond.code yX5_lapses cX5_lapses 2 (some .int), Cond.fieldLink RX5 40 "AuditoriumKeys" "holds" "LAuditoriumKeys$Holds;", Cond.instanceMethod yX1_isThere, Cond.initialized RX1, Cond.selects RX1 yX1_isThere yX1_isThere, Cond.code yX1_isThere cX1_isThere 2 (some .boolean), Cond.fieldLink RX1 15 "AuditoriumKeys$Holds" "many" "[I"]
def wsL_isQueueSo_r3 : List Cond := [Cond.methodLink RL 59 yX5_served, Cond.instanceMethod yX5_served, Cond.selects RX5 yX5_served yX5_served, Cond.code yX5_served cX5_served 2 (some .int), Cond.fieldLink RX5 9 "AuditoriumKeys" "now" "I", Cond.methodLink RL 93 yX5_takings, Cond.instanceMethod yX5_takings, Cond.selects RX5 yX5_takings yX5_takings, Cond.code yX5_takings cX5_takings 1 (some .int), Cond.fieldLink RX5 16 "AuditoriumKeys" "taken" "I"]
def wsL_isQueueSo : List Cond := .code yL_isQueueSo cL_isQueueSo 5 (some .boolean) :: ((wsL_isQueueSo_r1 ++ (wsL_isQueueSo_r2 ++ wsL_isQueueSo_r3)) ++ wsX50 ++ wsX20 ++ wsX10 ++ (vx_atS RX5 133 "java/lang/IndexOutOfBoundsException" ["java/lang/RuntimeException", "java/lang/Exception"]).filter goodWord)
def wsL_law0_r1 : List Cond := [Cond.classLink RL 9 RX5, Cond.instantiable RX5 9, Cond.initialized RX5, Cond.constant RL 16 (-99999), Cond.methodLink RL 117 yX5_init, Cond.instanceMethod yX5_init, Cond.code yX5_init cX5_init 1 none, Cond.methodLink RX5 3 objectInit, Cond.instanceMethod objectInit, Cond.code objectInit ⟨#[0xb1]⟩ 1 none, Cond.fieldLink RX5 9 "AuditoriumKeys" "now" "I", Cond.fieldLink RX5 13 "AuditoriumKeys" "opening" "I", Cond.fieldLink RX5 16 "AuditoriumKeys" "taken" "I", Cond.arrayClass .int, Cond.fieldLink RX5 19 "AuditoriumKeys" "outlay" "[I", Cond.classLink RX5 23 RX0, Cond.instantiable RX0 4, Cond.initialized RX0, Cond.fieldLink RX5 26 "AuditoriumKeys" "codes" "LAuditoriumKeys$Codes;", Cond.classLink RX5 30 RX2, Cond.instantiable RX2 1, Cond.initialized RX2, Cond.fieldLink RX5 33 "AuditoriumKeys" "line" "LAuditoriumKeys$Line;", Cond.classLink RX5 37 RX1]
def wsL_law0_r2 : List Cond := [Cond.instantiable RX1 7, Cond.initialized RX1, Cond.fieldLink RX5 40 "AuditoriumKeys" "holds" "LAuditoriumKeys$Holds;", Cond.classLink RX5 44 RX4, Cond.instantiable RX4 5, Cond.initialized RX4, Cond.fieldLink RX5 47 "AuditoriumKeys" "seats" "LAuditoriumKeys$Seats;", Cond.classLink RX5 51 RX3, Cond.instantiable RX3 4, Cond.initialized RX3, Cond.fieldLink RX5 54 "AuditoriumKeys" "sales" "LAuditoriumKeys$Sales;", Cond.instanceMethod yX0_init, Cond.code yX0_init cX0_init 1 none, Cond.methodLink RX0 3 objectInit, Cond.fieldLink RX0 9 "AuditoriumKeys$Codes" "count" "I", Cond.fieldLink RX0 15 "AuditoriumKeys$Codes" "ofPerson" "[I", Cond.fieldLink RX0 19 "AuditoriumKeys$Codes" "ofHousehold" "[I", Cond.fieldLink RX0 22 "AuditoriumKeys$Codes" "counted" "[I", Cond.instanceMethod yX2_init, Cond.code yX2_init cX2_init 2 none, Cond.methodLink RX2 3 objectInit, Cond.fieldLink RX2 9 "AuditoriumKeys$Line" "came" "[I", Cond.instanceMethod yX1_init, Cond.code yX1_init cX1_init 1 none]
def wsL_law0_r3 : List Cond := [Cond.methodLink RX1 3 objectInit, Cond.fieldLink RX1 9 "AuditoriumKeys$Holds" "first" "[I", Cond.fieldLink RX1 15 "AuditoriumKeys$Holds" "many" "[I", Cond.fieldLink RX1 18 "AuditoriumKeys$Holds" "code" "[I", Cond.fieldLink RX1 21 "AuditoriumKeys$Holds" "cost" "[I", Cond.fieldLink RX1 24 "AuditoriumKeys$Holds" "paid" "[I", Cond.fieldLink RX1 27 "AuditoriumKeys$Holds" "latest" "[I", Cond.fieldLink RX1 30 "AuditoriumKeys$Holds" "lapse" "[I", Cond.instanceMethod yX4_init, Cond.code yX4_init cX4_init 2 none, Cond.methodLink RX4 3 objectInit, Cond.arrayClass .boolean, Cond.fieldLink RX4 9 "AuditoriumKeys$Seats" "held" "[Z", Cond.fieldLink RX4 15 "AuditoriumKeys$Seats" "offered" "[Z", Cond.fieldLink RX4 18 "AuditoriumKeys$Seats" "owner" "[I", Cond.fieldLink RX4 22 "AuditoriumKeys$Seats" "price" "[I", Cond.fieldLink RX4 25 "AuditoriumKeys$Seats" "bought" "[I", Cond.instanceMethod yX3_init, Cond.code yX3_init cX3_init 1 none, Cond.methodLink RX3 3 objectInit, Cond.fieldLink RX3 9 "AuditoriumKeys$Sales" "count" "I", Cond.fieldLink RX3 15 "AuditoriumKeys$Sales" "first" "[I", Cond.fieldLink RX3 19 "AuditoriumKeys$Sales" "many" "[I", Cond.fieldLink RX3 22 "AuditoriumKeys$Sales" "buyer" "[I"]
def wsL_law0_r4 : List Cond := [Cond.methodLink RL 118 yL_cell, Cond.static yL_cell, Cond.initialized RL, Cond.code yL_cell cL_cell 2 (some .int), Cond.methodLink RL 122 yL_act, Cond.static yL_act, Cond.code yL_act cL_act 10 (some .int), Cond.methodLink RL 54 yL_low, Cond.static yL_low, Cond.code yL_low cL_low 2 (some .int), Cond.constant RL 7 (2147483647), Cond.methodLink RL 59 yX5_served, Cond.instanceMethod yX5_served, Cond.selects RX5 yX5_served yX5_served, Cond.code yX5_served cX5_served 2 (some .int), Cond.instanceMethod yX2_personAt, Cond.selects RX2 yX2_personAt yX2_personAt, Cond.code yX2_personAt cX2_personAt 3 (some .int), Cond.methodLink RX2 15 yX2_isIn, Cond.instanceMethod yX2_isIn, Cond.selects RX2 yX2_isIn yX2_isIn, Cond.code yX2_isIn cX2_isIn 2 (some .boolean), Cond.methodLink RX2 19 yX2_placeOf, Cond.instanceMethod yX2_placeOf]
def wsL_law0_r5 : List Cond := [Cond.selects RX2 yX2_placeOf yX2_placeOf, Cond.code yX2_placeOf cX2_placeOf 4 (some .int), Cond.methodLink RX2 23 yX2_rank, Cond.instanceMethod yX2_rank, Cond.selects RX2 yX2_rank yX2_rank, Cond.code yX2_rank cX2_rank 3 (some .int), Cond.methodLink RL 63 yX5_owner, Cond.instanceMethod yX5_owner, Cond.selects RX5 yX5_owner yX5_owner, Cond.code yX5_owner cX5_owner 2 (some .int), Cond.methodLink RX5 186 yX5_needSeat, Cond.static yX5_needSeat, Cond.code yX5_needSeat cX5_needSeat 1 none, Cond.classLink RX5 129 "java/lang/IndexOutOfBoundsException", Cond.initialized "java/lang/IndexOutOfBoundsException", Cond.methodLink RL 66 yL_setOpening, Cond.static yL_setOpening, Cond.codeWith yL_setOpening cL_setOpening 3 (some .int) [(0, 5, 6, 14)], Cond.classLink RL 14 "java/lang/IllegalArgumentException", Cond.methodLink RL 19 yX5_setOpening, Cond.instanceMethod yX5_setOpening, Cond.selects RX5 yX5_setOpening yX5_setOpening, Cond.code yX5_setOpening cX5_setOpening 3 (some .int), Cond.classLink RX5 58 "java/lang/IllegalArgumentException"]
def wsL_law0_r6 : List Cond := [Cond.initialized "java/lang/IllegalArgumentException", Cond.methodLink RL 69 yL_code, Cond.static yL_code, Cond.codeWith yL_code cL_code 4 (some .int) [(0, 6, 7, 14), (0, 6, 11, 17)], Cond.classLink RL 17 "java/lang/IllegalStateException", Cond.methodLink RL 22 yX5_code, Cond.instanceMethod yX5_code, Cond.selects RX5 yX5_code yX5_code, Cond.code yX5_code cX5_code 3 (some .int), Cond.classLink RX5 65 "java/lang/IllegalStateException", Cond.initialized "java/lang/IllegalStateException", Cond.instanceMethod yX0_add, Cond.selects RX0 yX0_add yX0_add, Cond.code yX0_add cX0_add 3 (some .int), Cond.methodLink RL 72 yL_quit, Cond.static yL_quit, Cond.codeWith yL_quit cL_quit 3 (some .int) [(0, 5, 6, 29), (0, 5, 10, 17)], Cond.classLink RL 29 "java/lang/IndexOutOfBoundsException", Cond.methodLink RL 31 yX5_quit, Cond.instanceMethod yX5_quit, Cond.selects RX5 yX5_quit yX5_quit, Cond.code yX5_quit cX5_quit 2 (some .int), Cond.methodLink RX5 100 yX5_needPerson, Cond.static yX5_needPerson]
def wsL_law0_r7 : List Cond := [Cond.code yX5_needPerson cX5_needPerson 1 none, Cond.instanceMethod yX2_leave, Cond.selects RX2 yX2_leave yX2_leave, Cond.code yX2_leave cX2_leave 2 none, Cond.instanceMethod yX2_length, Cond.selects RX2 yX2_length yX2_length, Cond.code yX2_length cX2_length 3 (some .int), Cond.methodLink RL 74 yL_letGo, Cond.static yL_letGo, Cond.codeWith yL_letGo cL_letGo 3 (some .int) [(0, 5, 6, 29), (0, 5, 10, 17)], Cond.methodLink RL 41 yX5_letGo, Cond.instanceMethod yX5_letGo, Cond.selects RX5 yX5_letGo yX5_letGo, Cond.code yX5_letGo cX5_letGo 2 (some .int), Cond.methodLink RX5 169 yX5_needHold, Cond.instanceMethod yX5_needHold, Cond.selects RX5 yX5_needHold yX5_needHold, Cond.code yX5_needHold cX5_needHold 2 none, Cond.instanceMethod yX1_isThere, Cond.selects RX1 yX1_isThere yX1_isThere, Cond.code yX1_isThere cX1_isThere 2 (some .boolean), Cond.methodLink RX5 77 yX5_giveBack, Cond.instanceMethod yX5_giveBack, Cond.selects RX5 yX5_giveBack yX5_giveBack]
def wsL_law0_r8 : List Cond := [Cond.code yX5_giveBack cX5_giveBack 3 (some .int), Cond.instanceMethod yX0_tally, Cond.selects RX0 yX0_tally yX0_tally, Cond.code yX0_tally cX0_tally 4 none, Cond.instanceMethod yX4_unlock, Cond.selects RX4 yX4_unlock yX4_unlock, Cond.code yX4_unlock cX4_unlock 4 none, Cond.instanceMethod yX1_end, Cond.selects RX1 yX1_end yX1_end, Cond.code yX1_end cX1_end 2 none, Cond.methodLink RL 76 yL_join, Cond.static yL_join, Cond.codeWith yL_join cL_join 3 (some .int) [(0, 5, 6, 29), (0, 5, 10, 17)], Cond.methodLink RL 26 yX5_join, Cond.instanceMethod yX5_join, Cond.selects RX5 yX5_join yX5_join, Cond.code yX5_join cX5_join 2 (some .int), Cond.instanceMethod yX2_enter, Cond.selects RX2 yX2_enter yX2_enter, Cond.code yX2_enter cX2_enter 3 none, Cond.methodLink RL 78 yL_pass, Cond.static yL_pass, Cond.codeWith yL_pass cL_pass 3 (some .int) [(0, 5, 6, 14), (0, 5, 10, 17)], Cond.methodLink RL 8 yX5_pass]
def wsL_law0_r9 : List Cond := [Cond.instanceMethod yX5_pass, Cond.selects RX5 yX5_pass yX5_pass, Cond.code yX5_pass cX5_pass 4 (some .int), Cond.methodLink RL 80 yL_pay, Cond.static yL_pay, Cond.codeWith yL_pay cL_pay 4 (some .int) [(0, 6, 7, 29), (0, 6, 11, 14), (0, 6, 15, 17)], Cond.methodLink RL 38 yX5_pay, Cond.instanceMethod yX5_pay, Cond.selects RX5 yX5_pay yX5_pay, Cond.code yX5_pay cX5_pay 4 (some .int), Cond.instanceMethod yX1_left, Cond.selects RX1 yX1_left yX1_left, Cond.code yX1_left cX1_left 2 (some .int), Cond.methodLink RX5 180 yX5_sell, Cond.instanceMethod yX5_sell, Cond.selects RX5 yX5_sell yX5_sell, Cond.code yX5_sell cX5_sell 6 none, Cond.instanceMethod yX4_giveTo, Cond.selects RX4 yX4_giveTo yX4_giveTo, Cond.code yX4_giveTo cX4_giveTo 3 none, Cond.instanceMethod yX3_add, Cond.selects RX3 yX3_add yX3_add, Cond.code yX3_add cX3_add 4 none, Cond.instanceMethod yX1_prolong]
def wsL_law0_r10 : List Cond := [Cond.selects RX1 yX1_prolong yX1_prolong, Cond.code yX1_prolong cX1_prolong 2 none, Cond.methodLink RX1 33 Lib.Math.min.name, Cond.static Lib.Math.min.name, Cond.initialized "java/lang/Math", Cond.code Lib.Math.min.name Lib.Math.min.code 2 (some .int), Cond.methodLink RL 82 yL_offer, Cond.static yL_offer, Cond.codeWith yL_offer cL_offer 5 (some .int) [(0, 7, 8, 29), (0, 7, 13, 14), (0, 7, 18, 17)], Cond.methodLink RL 44 yX5_offer, Cond.instanceMethod yX5_offer, Cond.selects RX5 yX5_offer yX5_offer, Cond.code yX5_offer cX5_offer 5 (some .int), Cond.instanceMethod yX4_stateOf, Cond.selects RX4 yX4_stateOf yX4_stateOf, Cond.code yX4_stateOf cX4_stateOf 2 (some .int), Cond.instanceMethod yX4_ceilingOf, Cond.selects RX4 yX4_ceilingOf yX4_ceilingOf, Cond.code yX4_ceilingOf cX4_ceilingOf 2 (some .int), Cond.instanceMethod yX4_putUp, Cond.selects RX4 yX4_putUp yX4_putUp, Cond.code yX4_putUp cX4_putUp 3 none, Cond.methodLink RL 85 yL_retract, Cond.static yL_retract]
def wsL_law0_r11 : List Cond := [Cond.codeWith yL_retract cL_retract 3 (some .int) [(0, 5, 6, 29), (0, 5, 10, 17)], Cond.methodLink RL 48 yX5_retract, Cond.instanceMethod yX5_retract, Cond.selects RX5 yX5_retract yX5_retract, Cond.code yX5_retract cX5_retract 2 (some .int), Cond.methodLink RL 87 yL_hold, Cond.static yL_hold, Cond.codeWith yL_hold cL_hold 7 (some .int) [(0, 11, 12, 29), (0, 11, 17, 14), (0, 11, 22, 17)], Cond.methodLink RL 34 yX5_hold, Cond.instanceMethod yX5_hold, Cond.selects RX5 yX5_hold yX5_hold, Cond.code yX5_hold cX5_hold 8 (some .int), Cond.methodLink RX5 137 yX5_needRow, Cond.static yX5_needRow, Cond.code yX5_needRow cX5_needRow 1 none, Cond.methodLink RX5 96 yX5_needCode, Cond.instanceMethod yX5_needCode, Cond.selects RX5 yX5_needCode yX5_needCode, Cond.code yX5_needCode cX5_needCode 2 none, Cond.methodLink RX5 144 yX5_served, Cond.methodLink RX5 149 yX5_needSeatsFor, Cond.instanceMethod yX5_needSeatsFor, Cond.selects RX5 yX5_needSeatsFor yX5_needSeatsFor, Cond.code yX5_needSeatsFor cX5_needSeatsFor 6 none]
def wsL_law0_r12 : List Cond := [Cond.instanceMethod yX4_isOpen, Cond.selects RX4 yX4_isOpen yX4_isOpen, Cond.code yX4_isOpen cX4_isOpen 4 (some .boolean), Cond.methodLink RX4 28 yX4_stateOf, Cond.instanceMethod yX4_leavesSingle, Cond.selects RX4 yX4_leavesSingle yX4_leavesSingle, Cond.code yX4_leavesSingle cX4_leavesSingle 5 (some .boolean), Cond.methodLink RX4 32 yX4_isOpen, Cond.methodLink RX5 153 yX5_needRightFor, Cond.instanceMethod yX5_needRightFor, Cond.selects RX5 yX5_needRightFor yX5_needRightFor, Cond.code yX5_needRightFor cX5_needRightFor 4 none, Cond.instanceMethod yX0_haveRoom, Cond.selects RX0 yX0_haveRoom yX0_haveRoom, Cond.code yX0_haveRoom cX0_haveRoom 6 (some .boolean), Cond.methodLink RX0 25 yX0_seatsOf, Cond.instanceMethod yX0_seatsOf, Cond.selects RX0 yX0_seatsOf yX0_seatsOf, Cond.code yX0_seatsOf cX0_seatsOf 3 (some .int), Cond.instanceMethod yX4_lock, Cond.selects RX4 yX4_lock yX4_lock, Cond.code yX4_lock cX4_lock 5 (some .int), Cond.instanceMethod yX1_make, Cond.selects RX1 yX1_make yX1_make]
def wsL_law0_r13 : List Cond := [Cond.code yX1_make cX1_make 7 none, Cond.methodLink RL 125 yL_areAlike, Cond.static yL_areAlike, Cond.code yL_areAlike cL_areAlike 4 (some .boolean), Cond.methodLink RL 90 yX5_time, Cond.instanceMethod yX5_time, Cond.selects RX5 yX5_time yX5_time, Cond.code yX5_time cX5_time 1 (some .int), Cond.methodLink RL 93 yX5_takings, Cond.instanceMethod yX5_takings, Cond.selects RX5 yX5_takings yX5_takings, Cond.code yX5_takings cX5_takings 1 (some .int), Cond.methodLink RL 96 yL_queueAt, Cond.static yL_queueAt, Cond.codeWith yL_queueAt cL_queueAt 3 (some .int) [(0, 5, 6, 29)], Cond.methodLink RL 51 yX5_queueAt, Cond.instanceMethod yX5_queueAt, Cond.selects RX5 yX5_queueAt yX5_queueAt, Cond.code yX5_queueAt cX5_queueAt 3 (some .int), Cond.methodLink RL 98 yX5_spent, Cond.instanceMethod yX5_spent, Cond.selects RX5 yX5_spent yX5_spent, Cond.code yX5_spent cX5_spent 2 (some .int), Cond.methodLink RL 101 yX5_lapses]
def wsL_law0_r14 : List Cond := [Cond.instanceMethod yX5_lapses, Cond.selects RX5 yX5_lapses yX5_lapses, Cond.code yX5_lapses cX5_lapses 2 (some .int), Cond.methodLink RL 104 yX5_state, Cond.instanceMethod yX5_state, Cond.selects RX5 yX5_state yX5_state, Cond.code yX5_state cX5_state 2 (some .int), Cond.methodLink RL 129 yL_areSeatsSo, Cond.static yL_areSeatsSo, Cond.code yL_areSeatsSo cL_areSeatsSo 11 (some .boolean), Cond.methodLink RL 107 yX5_ownerBySales, Cond.instanceMethod yX5_ownerBySales, Cond.selects RX5 yX5_ownerBySales yX5_ownerBySales, Cond.code yX5_ownerBySales cX5_ownerBySales 2 (some .int), Cond.instanceMethod yX3_lastBuyerOf, Cond.selects RX3 yX3_lastBuyerOf yX3_lastBuyerOf, Cond.code yX3_lastBuyerOf cX3_lastBuyerOf 4 (some .int), Cond.methodLink RL 110 yX5_isSingle, Cond.instanceMethod yX5_isSingle, Cond.selects RX5 yX5_isSingle yX5_isSingle, Cond.code yX5_isSingle cX5_isSingle 4 (some .boolean), Cond.methodLink RL 114 yX5_firstOpen, Cond.instanceMethod yX5_firstOpen, Cond.selects RX5 yX5_firstOpen yX5_firstOpen]
def wsL_law0_r15 : List Cond := [Cond.code yX5_firstOpen cX5_firstOpen 5 (some .int), Cond.methodLink RL 133 yL_isQueueSo, Cond.static yL_isQueueSo, Cond.code yL_isQueueSo cL_isQueueSo 5 (some .boolean)]
def wsL_law0 : List Cond := (wsL_law0_r1 ++ (wsL_law0_r2 ++ (wsL_law0_r3 ++ (wsL_law0_r4 ++ (wsL_law0_r5 ++ (wsL_law0_r6 ++ (wsL_law0_r7 ++ (wsL_law0_r8 ++ (wsL_law0_r9 ++ (wsL_law0_r10 ++ (wsL_law0_r11 ++ (wsL_law0_r12 ++ (wsL_law0_r13 ++ (wsL_law0_r14 ++ wsL_law0_r15)))))))))))))) ++ wsX50 ++ wsX00 ++ wsX20 ++ wsX10 ++ wsX40 ++ wsX30 ++ ([] : List Cond)
def wsL_law : List Cond := wsL_law0 ++ (vx_atS RX5 133 "java/lang/IndexOutOfBoundsException" ["java/lang/RuntimeException", "java/lang/Exception"]).filter goodWord ++ (vx_atS RX5 62 "java/lang/IllegalArgumentException" ["java/lang/RuntimeException", "java/lang/Exception"]).filter goodWord ++ (vx_atS RX5 69 "java/lang/IllegalStateException" ["java/lang/RuntimeException", "java/lang/Exception"]).filter goodWord
set_option maxRecDepth 20000 in
theorem in0_wsL_law0_r1 : ∀ w ∈ wsL_law0_r1, w ∈ lw_tbl := fun w h => (goodIn_p wsL_law0_r1 [51, 54] (by decide +kernel) (by decide +kernel) w h).1
set_option maxRecDepth 20000 in
theorem in0_wsL_law0_r2 : ∀ w ∈ wsL_law0_r2, w ∈ lw_tbl := fun w h => (goodIn_p wsL_law0_r2 [59, 80, 91] (by decide +kernel) (by decide +kernel) w h).1
set_option maxRecDepth 20000 in
theorem in0_wsL_law0_r3 : ∀ w ∈ wsL_law0_r3, w ∈ lw_tbl := fun w h => (goodIn_p wsL_law0_r3 [124, 150] (by decide +kernel) (by decide +kernel) w h).1
set_option maxRecDepth 20000 in
theorem in0_wsL_law0_r4 : ∀ w ∈ wsL_law0_r4, w ∈ lw_tbl := fun w h => (goodIn_p wsL_law0_r4 [334, 341, 337, 345, 349, 353] (by decide +kernel) (by decide +kernel) w h).1
set_option maxRecDepth 20000 in
theorem in0_wsL_law0_r5 : ∀ w ∈ wsL_law0_r5, w ∈ lw_tbl := fun w h => (goodIn_p wsL_law0_r5 [357, 361, 365, 368, 377] (by decide +kernel) (by decide +kernel) w h).1
set_option maxRecDepth 20000 in
theorem in0_wsL_law0_r6 : ∀ w ∈ wsL_law0_r6, w ∈ lw_tbl := fun w h => (goodIn_p wsL_law0_r6 [387, 394, 402] (by decide +kernel) (by decide +kernel) w h).1
set_option maxRecDepth 20000 in
theorem in0_wsL_law0_r7 : ∀ w ∈ wsL_law0_r7, w ∈ lw_tbl := fun w h => (goodIn_p wsL_law0_r7 [311, 408, 412, 419, 423, 284] (by decide +kernel) (by decide +kernel) w h).1
set_option maxRecDepth 20000 in
theorem in0_wsL_law0_r8 : ∀ w ∈ wsL_law0_r8, w ∈ lw_tbl := fun w h => (goodIn_p wsL_law0_r8 [288, 292, 296, 300, 431, 437] (by decide +kernel) (by decide +kernel) w h).1
set_option maxRecDepth 20000 in
theorem in0_wsL_law0_r9 : ∀ w ∈ wsL_law0_r9, w ∈ lw_tbl := fun w h => (goodIn_p wsL_law0_r9 [196, 447, 452, 457, 461, 465] (by decide +kernel) (by decide +kernel) w h).1
set_option maxRecDepth 20000 in
theorem in0_wsL_law0_r10 : ∀ w ∈ wsL_law0_r10, w ∈ lw_tbl := fun w h => (goodIn_p wsL_law0_r10 [469, 472, 479, 484, 490, 495] (by decide +kernel) (by decide +kernel) w h).1
set_option maxRecDepth 20000 in
theorem in0_wsL_law0_r11 : ∀ w ∈ wsL_law0_r11, w ∈ lw_tbl := fun w h => (goodIn_p wsL_law0_r11 [502, 510, 513, 519, 527] (by decide +kernel) (by decide +kernel) w h).1
set_option maxRecDepth 20000 in
theorem in0_wsL_law0_r12 : ∀ w ∈ wsL_law0_r12, w ∈ lw_tbl := fun w h => (goodIn_p wsL_law0_r12 [531, 538, 544, 549, 553, 558] (by decide +kernel) (by decide +kernel) w h).1
set_option maxRecDepth 20000 in
theorem in0_wsL_law0_r13 : ∀ w ∈ wsL_law0_r13, w ∈ lw_tbl := fun w h => (goodIn_p wsL_law0_r13 [562, 565, 304, 331, 572, 308] (by decide +kernel) (by decide +kernel) w h).1
set_option maxRecDepth 20000 in
theorem in0_wsL_law0_r14 : ∀ w ∈ wsL_law0_r14, w ∈ lw_tbl := fun w h => (goodIn_p wsL_law0_r14 [577, 581, 584, 588, 592, 596] (by decide +kernel) (by decide +kernel) w h).1
set_option maxRecDepth 20000 in
theorem in0_wsL_law0_r15 : ∀ w ∈ wsL_law0_r15, w ∈ lw_tbl := fun w h => (goodIn_p wsL_law0_r15 [600, 603] (by decide +kernel) (by decide +kernel) w h).1
set_option maxRecDepth 20000 in
theorem in0_wsX50 : ∀ w ∈ wsX50, w ∈ lw_tbl := fun w h => (goodIn_p wsX50 [] (by decide +kernel) (by decide +kernel) w h).1
set_option maxRecDepth 20000 in
theorem in0_wsX00 : ∀ w ∈ wsX00, w ∈ lw_tbl := fun w h => (goodIn_p wsX00 [] (by decide +kernel) (by decide +kernel) w h).1
set_option maxRecDepth 20000 in
theorem in0_wsX20 : ∀ w ∈ wsX20, w ∈ lw_tbl := fun w h => (goodIn_p wsX20 [] (by decide +kernel) (by decide +kernel) w h).1
set_option maxRecDepth 20000 in
theorem in0_wsX10 : ∀ w ∈ wsX10, w ∈ lw_tbl := fun w h => (goodIn_p wsX10 [] (by decide +kernel) (by decide +kernel) w h).1
set_option maxRecDepth 20000 in
theorem in0_wsX40 : ∀ w ∈ wsX40, w ∈ lw_tbl := fun w h => (goodIn_p wsX40 [] (by decide +kernel) (by decide +kernel) w h).1
set_option maxRecDepth 20000 in
theorem in0_wsX30 : ∀ w ∈ wsX30, w ∈ lw_tbl := fun w h => (goodIn_p wsX30 [] (by decide +kernel) (by decide +kernel) w h).1
theorem wsL_law_in0 : ∀ w ∈ wsL_law0, w ∈ lw_tbl := List.forall_mem_append.mpr ⟨List.forall_mem_append.mpr ⟨List.forall_mem_append.mpr ⟨List.forall_mem_append.mpr ⟨List.forall_mem_append.mpr ⟨List.forall_mem_append.mpr ⟨List.forall_mem_append.mpr ⟨List.forall_mem_append.mpr ⟨in0_wsL_law0_r1, List.forall_mem_append.mpr ⟨in0_wsL_law0_r2, List.forall_mem_append.mpr ⟨in0_wsL_law0_r3, List.forall_mem_append.mpr ⟨in0_wsL_law0_r4, List.forall_mem_append.mpr ⟨in0_wsL_law0_r5, List.forall_mem_append.mpr ⟨in0_wsL_law0_r6, List.forall_mem_append.mpr ⟨in0_wsL_law0_r7, List.forall_mem_append.mpr ⟨in0_wsL_law0_r8, List.forall_mem_append.mpr ⟨in0_wsL_law0_r9, List.forall_mem_append.mpr ⟨in0_wsL_law0_r10, List.forall_mem_append.mpr ⟨in0_wsL_law0_r11, List.forall_mem_append.mpr ⟨in0_wsL_law0_r12, List.forall_mem_append.mpr ⟨in0_wsL_law0_r13, List.forall_mem_append.mpr ⟨in0_wsL_law0_r14, in0_wsL_law0_r15⟩⟩⟩⟩⟩⟩⟩⟩⟩⟩⟩⟩⟩⟩, in0_wsX50⟩, in0_wsX00⟩, in0_wsX20⟩, in0_wsX10⟩, in0_wsX40⟩, in0_wsX30⟩, (fun _ h => absurd h List.not_mem_nil)⟩
theorem wsL_law_x0 : ∀ w ∈ (vx_atS RX5 133 "java/lang/IndexOutOfBoundsException" ["java/lang/RuntimeException", "java/lang/Exception"]).filter goodWord, w ∈ lw_tbl := by decide +kernel
theorem wsL_law_x1 : ∀ w ∈ (vx_atS RX5 62 "java/lang/IllegalArgumentException" ["java/lang/RuntimeException", "java/lang/Exception"]).filter goodWord, w ∈ lw_tbl := by decide +kernel
theorem wsL_law_x2 : ∀ w ∈ (vx_atS RX5 69 "java/lang/IllegalStateException" ["java/lang/RuntimeException", "java/lang/Exception"]).filter goodWord, w ∈ lw_tbl := by decide +kernel
theorem wsL_law_in : ∀ w ∈ wsL_law, w ∈ lw_tbl := fun w h => (List.mem_append.mp h).elim (fun h => (List.mem_append.mp h).elim (fun h => (List.mem_append.mp h).elim (fun h => wsL_law_in0 w h) (fun h => wsL_law_x0 w h)) (fun h => wsL_law_x1 w h)) (fun h => wsL_law_x2 w h)
theorem inlX0 : ∀ w ∈ wsX00, w ∈ wsL_law := fun _ h => List.mem_append_left _ (List.mem_append_left _ (List.mem_append_left _ (List.mem_append_left _ (List.mem_append_left _ (List.mem_append_left _ (List.mem_append_left _ (List.mem_append_left _ (List.mem_append_right _ h))))))))
theorem inX0 : ∀ w ∈ wsX00, w ∈ lw_tbl := fun w h => wsL_law_in w (inlX0 w h)
theorem inlX1 : ∀ w ∈ wsX10, w ∈ wsL_law := fun _ h => List.mem_append_left _ (List.mem_append_left _ (List.mem_append_left _ (List.mem_append_left _ (List.mem_append_left _ (List.mem_append_left _ (List.mem_append_right _ h))))))
theorem inX1 : ∀ w ∈ wsX10, w ∈ lw_tbl := fun w h => wsL_law_in w (inlX1 w h)
theorem inlX2 : ∀ w ∈ wsX20, w ∈ wsL_law := fun _ h => List.mem_append_left _ (List.mem_append_left _ (List.mem_append_left _ (List.mem_append_left _ (List.mem_append_left _ (List.mem_append_left _ (List.mem_append_left _ (List.mem_append_right _ h)))))))
theorem inX2 : ∀ w ∈ wsX20, w ∈ lw_tbl := fun w h => wsL_law_in w (inlX2 w h)
theorem inlX3 : ∀ w ∈ wsX30, w ∈ wsL_law := fun _ h => List.mem_append_left _ (List.mem_append_left _ (List.mem_append_left _ (List.mem_append_left _ (List.mem_append_right _ h))))
theorem inX3 : ∀ w ∈ wsX30, w ∈ lw_tbl := fun w h => wsL_law_in w (inlX3 w h)
theorem inlX4 : ∀ w ∈ wsX40, w ∈ wsL_law := fun _ h => List.mem_append_left _ (List.mem_append_left _ (List.mem_append_left _ (List.mem_append_left _ (List.mem_append_left _ (List.mem_append_right _ h)))))
theorem inX4 : ∀ w ∈ wsX40, w ∈ lw_tbl := fun w h => wsL_law_in w (inlX4 w h)
theorem inlX5 : ∀ w ∈ wsX50, w ∈ wsL_law := fun _ h => List.mem_append_left _ (List.mem_append_left _ (List.mem_append_left _ (List.mem_append_left _ (List.mem_append_left _ (List.mem_append_left _ (List.mem_append_left _ (List.mem_append_left _ (List.mem_append_left _ (List.mem_append_right _ h)))))))))
theorem inX5 : ∀ w ∈ wsX50, w ∈ lw_tbl := fun w h => wsL_law_in w (inlX5 w h)
theorem inX6 : ∀ w ∈ wsX60, w ∈ lw_tbl := by decide +kernel
theorem inJ9 : ∀ w ∈ wsJ90, w ∈ lw_tbl := by decide +kernel
theorem inJ0 : ∀ w ∈ wsJ00, w ∈ lw_tbl := by decide +kernel
theorem dL_cell_0 : decode cL_cell 0 = .ok (.iload_n 1, 1) := by decide +kernel
theorem dL_cell_1 : decode cL_cell 1 = .ok (.aload_n 0, 1) := by decide +kernel
theorem dL_cell_2 : decode cL_cell 2 = .ok (.arraylength, 1) := by decide +kernel
theorem dL_cell_3 : decode cL_cell 3 = .ok (.if_icmp .ge 9, 3) := by decide +kernel
theorem dL_cell_6 : decode cL_cell 6 = .ok (.aload_n 0, 1) := by decide +kernel
theorem dL_cell_7 : decode cL_cell 7 = .ok (.iload_n 1, 1) := by decide +kernel
theorem dL_cell_8 : decode cL_cell 8 = .ok (.iaload, 1) := by decide +kernel
theorem dL_cell_9 : decode cL_cell 9 = .ok (.goto 18, 3) := by decide +kernel
theorem dL_cell_12 : decode cL_cell 12 = .ok (.sipush 7919, 3) := by decide +kernel
theorem dL_cell_15 : decode cL_cell 15 = .ok (.iload_n 1, 1) := by decide +kernel
theorem dL_cell_16 : decode cL_cell 16 = .ok (.sipush 1307, 3) := by decide +kernel
theorem dL_cell_19 : decode cL_cell 19 = .ok (.iadd, 1) := by decide +kernel
theorem dL_cell_20 : decode cL_cell 20 = .ok (.imul, 1) := by decide +kernel
theorem dL_cell_21 : decode cL_cell 21 = .ok (.iload_n 1, 1) := by decide +kernel
theorem dL_cell_22 : decode cL_cell 22 = .ok (.sipush 569, 3) := by decide +kernel
theorem dL_cell_25 : decode cL_cell 25 = .ok (.iadd, 1) := by decide +kernel
theorem dL_cell_26 : decode cL_cell 26 = .ok (.imul, 1) := by decide +kernel
theorem dL_cell_27 : decode cL_cell 27 = .ok (.ireturn, 1) := by decide +kernel
theorem dL_low_0 : decode cL_low 0 = .ok (.iload_n 0, 1) := by decide +kernel
theorem dL_low_1 : decode cL_low 1 = .ok (.ldc 7, 2) := by decide +kernel
theorem dL_low_3 : decode cL_low 3 = .ok (.iand, 1) := by decide +kernel
theorem dL_low_4 : decode cL_low 4 = .ok (.iload_n 1, 1) := by decide +kernel
theorem dL_low_5 : decode cL_low 5 = .ok (.irem, 1) := by decide +kernel
theorem dL_low_6 : decode cL_low 6 = .ok (.ireturn, 1) := by decide +kernel
set_option maxRecDepth 20000 in
theorem ggL_pass_X5_pass : GoodIn wsL_pass wsX5_pass := goodIn_ca (goodIn_ca (goodIn_r _ [8, 9, 10, 11, 12, 13, 14, 15, 16, 17, 18, 19, 20, 21, 22, 7, 23, 24, 25, 26, 27, 28, 29, 30, 31, 32, 33, 34, 35, 36, 37, 38, 39, 40, 41, 42, 43, 44, 45, 46, 47, 48, 49, 50, 51, 52, 53, 54, 55, 56, 57, 58, 59, 60, 61, 62, 63, 64] (by decide +kernel) (by decide +kernel)) (goodIn_sub (fun _ h => List.mem_cons_of_mem _ (List.mem_append_left _ (List.mem_append_right _ h))) (by decide +kernel))) (goodIn_sub (fun _ h => List.mem_cons_of_mem _ (List.mem_append_right _ h)) (by decide +kernel))
set_option maxRecDepth 20000 in
theorem gL_pass_X5_pass : GoodIn wsL_pass (wsV RL 8 RX5 yX5_pass wsX5_pass) := goodIn_app (goodIn_of _ (by decide +kernel)) ggL_pass_X5_pass
theorem dL_pass_0 : decode cL_pass 0 = .ok (.aload_n 0, 1) := by decide +kernel
theorem dL_pass_1 : decode cL_pass 1 = .ok (.iload_n 1, 1) := by decide +kernel
theorem dL_pass_2 : decode cL_pass 2 = .ok (.invokevirtual 8, 3) := by decide +kernel
theorem dL_pass_5 : decode cL_pass 5 = .ok (.ireturn, 1) := by decide +kernel
theorem dL_pass_6 : decode cL_pass 6 = .ok (.astore_n 2, 1) := by decide +kernel
theorem dL_pass_7 : decode cL_pass 7 = .ok (.ldc 16, 2) := by decide +kernel
theorem dL_pass_9 : decode cL_pass 9 = .ok (.ireturn, 1) := by decide +kernel
theorem dL_pass_10 : decode cL_pass 10 = .ok (.astore_n 2, 1) := by decide +kernel
theorem dL_pass_11 : decode cL_pass 11 = .ok (.ldc 16, 2) := by decide +kernel
theorem dL_pass_13 : decode cL_pass 13 = .ok (.ireturn, 1) := by decide +kernel
set_option maxRecDepth 20000 in
theorem ggL_setOpening_X5_setOpening : GoodIn wsL_setOpening wsX5_setOpening := goodIn_ca (goodIn_r _ [7, 8, 9, 10, 11, 12, 13, 14, 15, 16, 17, 18, 19] (by decide +kernel) (by decide +kernel)) (goodIn_sub (fun _ h => List.mem_cons_of_mem _ (List.mem_append_right _ h)) (by decide +kernel))
set_option maxRecDepth 20000 in
theorem gL_setOpening_X5_setOpening : GoodIn wsL_setOpening (wsV RL 19 RX5 yX5_setOpening wsX5_setOpening) := goodIn_app (goodIn_of _ (by decide +kernel)) ggL_setOpening_X5_setOpening
theorem dL_setOpening_0 : decode cL_setOpening 0 = .ok (.aload_n 0, 1) := by decide +kernel
theorem dL_setOpening_1 : decode cL_setOpening 1 = .ok (.iload_n 1, 1) := by decide +kernel
theorem dL_setOpening_2 : decode cL_setOpening 2 = .ok (.invokevirtual 19, 3) := by decide +kernel
theorem dL_setOpening_5 : decode cL_setOpening 5 = .ok (.ireturn, 1) := by decide +kernel
theorem dL_setOpening_6 : decode cL_setOpening 6 = .ok (.astore_n 2, 1) := by decide +kernel
theorem dL_setOpening_7 : decode cL_setOpening 7 = .ok (.ldc 16, 2) := by decide +kernel
theorem dL_setOpening_9 : decode cL_setOpening 9 = .ok (.ireturn, 1) := by decide +kernel
set_option maxRecDepth 20000 in
theorem ggL_code_X5_code : GoodIn wsL_code wsX5_code := goodIn_ca (goodIn_ca (goodIn_r _ [8, 9, 10, 11, 12, 13, 14, 15, 16, 17, 18, 19, 20, 21, 22, 23, 24, 25, 26, 27, 28, 29, 30, 31, 32, 33] (by decide +kernel) (by decide +kernel)) (goodIn_sub (fun _ h => List.mem_cons_of_mem _ (List.mem_append_left _ (List.mem_append_right _ h))) (by decide +kernel))) (goodIn_sub (fun _ h => List.mem_cons_of_mem _ (List.mem_append_right _ h)) (by decide +kernel))
set_option maxRecDepth 20000 in
theorem gL_code_X5_code : GoodIn wsL_code (wsV RL 22 RX5 yX5_code wsX5_code) := goodIn_app (goodIn_of _ (by decide +kernel)) ggL_code_X5_code
theorem dL_code_0 : decode cL_code 0 = .ok (.aload_n 0, 1) := by decide +kernel
theorem dL_code_1 : decode cL_code 1 = .ok (.iload_n 1, 1) := by decide +kernel
theorem dL_code_2 : decode cL_code 2 = .ok (.iload_n 2, 1) := by decide +kernel
theorem dL_code_3 : decode cL_code 3 = .ok (.invokevirtual 22, 3) := by decide +kernel
theorem dL_code_6 : decode cL_code 6 = .ok (.ireturn, 1) := by decide +kernel
theorem dL_code_7 : decode cL_code 7 = .ok (.astore_n 3, 1) := by decide +kernel
theorem dL_code_8 : decode cL_code 8 = .ok (.ldc 16, 2) := by decide +kernel
theorem dL_code_10 : decode cL_code 10 = .ok (.ireturn, 1) := by decide +kernel
theorem dL_code_11 : decode cL_code 11 = .ok (.astore_n 3, 1) := by decide +kernel
theorem dL_code_12 : decode cL_code 12 = .ok (.ldc 16, 2) := by decide +kernel
theorem dL_code_14 : decode cL_code 14 = .ok (.ireturn, 1) := by decide +kernel
set_option maxRecDepth 20000 in
theorem ggL_join_X5_join : GoodIn wsL_join wsX5_join := goodIn_ca (goodIn_ca (goodIn_r _ [8, 9, 10, 11, 12, 13, 14, 15, 7, 16, 17, 18, 19, 20, 21, 22, 23, 24, 25, 26, 27, 28, 29, 30, 31, 32, 33, 34, 35, 36, 37, 38, 39, 40, 41, 42, 43, 44, 45, 46, 47, 48, 49, 50, 51, 52] (by decide +kernel) (by decide +kernel)) (goodIn_sub (fun _ h => List.mem_cons_of_mem _ (List.mem_append_left _ (List.mem_append_right _ h))) (by decide +kernel))) (goodIn_sub (fun _ h => List.mem_cons_of_mem _ (List.mem_append_right _ h)) (by decide +kernel))
set_option maxRecDepth 20000 in
theorem gL_join_X5_join : GoodIn wsL_join (wsV RL 26 RX5 yX5_join wsX5_join) := goodIn_app (goodIn_of _ (by decide +kernel)) ggL_join_X5_join
theorem dL_join_0 : decode cL_join 0 = .ok (.aload_n 0, 1) := by decide +kernel
theorem dL_join_1 : decode cL_join 1 = .ok (.iload_n 1, 1) := by decide +kernel
theorem dL_join_2 : decode cL_join 2 = .ok (.invokevirtual 26, 3) := by decide +kernel
theorem dL_join_5 : decode cL_join 5 = .ok (.ireturn, 1) := by decide +kernel
theorem dL_join_6 : decode cL_join 6 = .ok (.astore_n 2, 1) := by decide +kernel
theorem dL_join_7 : decode cL_join 7 = .ok (.ldc 16, 2) := by decide +kernel
theorem dL_join_9 : decode cL_join 9 = .ok (.ireturn, 1) := by decide +kernel
theorem dL_join_10 : decode cL_join 10 = .ok (.astore_n 2, 1) := by decide +kernel
theorem dL_join_11 : decode cL_join 11 = .ok (.ldc 16, 2) := by decide +kernel
theorem dL_join_13 : decode cL_join 13 = .ok (.ireturn, 1) := by decide +kernel
set_option maxRecDepth 20000 in
theorem ggL_quit_X5_quit : GoodIn wsL_quit wsX5_quit := goodIn_ca (goodIn_ca (goodIn_r _ [8, 9, 10, 11, 12, 13, 7, 14, 15, 16, 17, 18, 19, 20, 21, 22, 23, 24, 25, 26, 27, 28, 29, 30, 31, 32, 33, 34, 35, 36, 37, 38] (by decide +kernel) (by decide +kernel)) (goodIn_sub (fun _ h => List.mem_cons_of_mem _ (List.mem_append_left _ (List.mem_append_right _ h))) (by decide +kernel))) (goodIn_sub (fun _ h => List.mem_cons_of_mem _ (List.mem_append_right _ h)) (by decide +kernel))
set_option maxRecDepth 20000 in
theorem gL_quit_X5_quit : GoodIn wsL_quit (wsV RL 31 RX5 yX5_quit wsX5_quit) := goodIn_app (goodIn_of _ (by decide +kernel)) ggL_quit_X5_quit
theorem dL_quit_0 : decode cL_quit 0 = .ok (.aload_n 0, 1) := by decide +kernel
theorem dL_quit_1 : decode cL_quit 1 = .ok (.iload_n 1, 1) := by decide +kernel
theorem dL_quit_2 : decode cL_quit 2 = .ok (.invokevirtual 31, 3) := by decide +kernel
theorem dL_quit_5 : decode cL_quit 5 = .ok (.ireturn, 1) := by decide +kernel
theorem dL_quit_6 : decode cL_quit 6 = .ok (.astore_n 2, 1) := by decide +kernel
theorem dL_quit_7 : decode cL_quit 7 = .ok (.ldc 16, 2) := by decide +kernel
theorem dL_quit_9 : decode cL_quit 9 = .ok (.ireturn, 1) := by decide +kernel
theorem dL_quit_10 : decode cL_quit 10 = .ok (.astore_n 2, 1) := by decide +kernel
theorem dL_quit_11 : decode cL_quit 11 = .ok (.ldc 16, 2) := by decide +kernel
theorem dL_quit_13 : decode cL_quit 13 = .ok (.ireturn, 1) := by decide +kernel
set_option maxRecDepth 20000 in
theorem ggL_hold_X5_hold : GoodIn wsL_hold wsX5_hold := goodIn_ca (goodIn_ca (goodIn_ca (goodIn_r _ [9, 10, 11, 12, 13, 14, 15, 16, 17, 18, 19, 20, 21, 22, 8, 23, 24, 25, 26, 27, 28, 29, 30, 31, 32, 33, 34, 35, 36, 37, 38, 39, 40, 41, 42, 43, 44, 45, 46, 47, 48, 49, 50, 51, 52, 53, 54, 55, 56, 57, 58, 59, 60, 61, 62, 63, 64, 65, 66, 67, 68, 69, 70, 71, 72, 73, 74, 75, 76, 77, 78, 79, 80, 81, 82, 83, 84, 85, 86, 87, 88, 89, 90, 91, 92, 93, 94, 95, 96, 97, 98, 99, 100, 101, 102, 103, 104, 105, 106, 107, 108, 109, 110, 111, 112, 113, 114, 115, 116, 117, 118, 119, 120, 121, 122, 123, 124, 125, 126, 127, 128, 129, 130, 131, 132, 133] (by decide +kernel) (by decide +kernel)) (goodIn_sub (fun _ h => List.mem_cons_of_mem _ (List.mem_append_left _ (List.mem_append_left _ (List.mem_append_right _ h)))) (by decide +kernel))) (goodIn_sub (fun _ h => List.mem_cons_of_mem _ (List.mem_append_left _ (List.mem_append_right _ h))) (by decide +kernel))) (goodIn_sub (fun _ h => List.mem_cons_of_mem _ (List.mem_append_right _ h)) (by decide +kernel))
set_option maxRecDepth 20000 in
theorem gL_hold_X5_hold : GoodIn wsL_hold (wsV RL 34 RX5 yX5_hold wsX5_hold) := goodIn_app (goodIn_of _ (by decide +kernel)) ggL_hold_X5_hold
theorem dL_hold_0 : decode cL_hold 0 = .ok (.aload_n 0, 1) := by decide +kernel
theorem dL_hold_1 : decode cL_hold 1 = .ok (.iload_n 1, 1) := by decide +kernel
theorem dL_hold_2 : decode cL_hold 2 = .ok (.iload_n 2, 1) := by decide +kernel
theorem dL_hold_3 : decode cL_hold 3 = .ok (.iload_n 3, 1) := by decide +kernel
theorem dL_hold_4 : decode cL_hold 4 = .ok (.iload 4, 2) := by decide +kernel
theorem dL_hold_6 : decode cL_hold 6 = .ok (.iload 5, 2) := by decide +kernel
theorem dL_hold_8 : decode cL_hold 8 = .ok (.invokevirtual 34, 3) := by decide +kernel
theorem dL_hold_11 : decode cL_hold 11 = .ok (.ireturn, 1) := by decide +kernel
theorem dL_hold_12 : decode cL_hold 12 = .ok (.astore 6, 2) := by decide +kernel
theorem dL_hold_14 : decode cL_hold 14 = .ok (.ldc 16, 2) := by decide +kernel
theorem dL_hold_16 : decode cL_hold 16 = .ok (.ireturn, 1) := by decide +kernel
theorem dL_hold_17 : decode cL_hold 17 = .ok (.astore 6, 2) := by decide +kernel
theorem dL_hold_19 : decode cL_hold 19 = .ok (.ldc 16, 2) := by decide +kernel
theorem dL_hold_21 : decode cL_hold 21 = .ok (.ireturn, 1) := by decide +kernel
theorem dL_hold_22 : decode cL_hold 22 = .ok (.astore 6, 2) := by decide +kernel
theorem dL_hold_24 : decode cL_hold 24 = .ok (.ldc 16, 2) := by decide +kernel
theorem dL_hold_26 : decode cL_hold 26 = .ok (.ireturn, 1) := by decide +kernel
set_option maxRecDepth 20000 in
theorem ggL_pay_X5_pay : GoodIn wsL_pay wsX5_pay := goodIn_ca (goodIn_ca (goodIn_ca (goodIn_r _ [9, 10, 11, 12, 13, 14, 15, 16, 17, 8, 18, 19, 20, 21, 22, 23, 24, 25, 26, 27, 28, 29, 30, 31, 32, 33, 34, 35, 36, 37, 38, 39, 40, 41, 42, 43, 44, 45, 46, 47, 48, 49, 50, 51, 52, 53, 54, 55, 56, 57, 58, 59, 60, 61, 62, 63, 64, 65, 66, 67, 68, 69, 70, 71, 72, 73, 74, 75, 76, 77, 78, 79, 80, 81, 82, 83, 84, 85, 86, 87, 88, 89, 90, 91, 92, 93, 94, 95] (by decide +kernel) (by decide +kernel)) (goodIn_sub (fun _ h => List.mem_cons_of_mem _ (List.mem_append_left _ (List.mem_append_left _ (List.mem_append_right _ h)))) (by decide +kernel))) (goodIn_sub (fun _ h => List.mem_cons_of_mem _ (List.mem_append_left _ (List.mem_append_right _ h))) (by decide +kernel))) (goodIn_sub (fun _ h => List.mem_cons_of_mem _ (List.mem_append_right _ h)) (by decide +kernel))
set_option maxRecDepth 20000 in
theorem gL_pay_X5_pay : GoodIn wsL_pay (wsV RL 38 RX5 yX5_pay wsX5_pay) := goodIn_app (goodIn_of _ (by decide +kernel)) ggL_pay_X5_pay
theorem dL_pay_0 : decode cL_pay 0 = .ok (.aload_n 0, 1) := by decide +kernel
theorem dL_pay_1 : decode cL_pay 1 = .ok (.iload_n 1, 1) := by decide +kernel
theorem dL_pay_2 : decode cL_pay 2 = .ok (.iload_n 2, 1) := by decide +kernel
theorem dL_pay_3 : decode cL_pay 3 = .ok (.invokevirtual 38, 3) := by decide +kernel
theorem dL_pay_6 : decode cL_pay 6 = .ok (.ireturn, 1) := by decide +kernel
theorem dL_pay_7 : decode cL_pay 7 = .ok (.astore_n 3, 1) := by decide +kernel
theorem dL_pay_8 : decode cL_pay 8 = .ok (.ldc 16, 2) := by decide +kernel
theorem dL_pay_10 : decode cL_pay 10 = .ok (.ireturn, 1) := by decide +kernel
theorem dL_pay_11 : decode cL_pay 11 = .ok (.astore_n 3, 1) := by decide +kernel
theorem dL_pay_12 : decode cL_pay 12 = .ok (.ldc 16, 2) := by decide +kernel
theorem dL_pay_14 : decode cL_pay 14 = .ok (.ireturn, 1) := by decide +kernel
theorem dL_pay_15 : decode cL_pay 15 = .ok (.astore_n 3, 1) := by decide +kernel
theorem dL_pay_16 : decode cL_pay 16 = .ok (.ldc 16, 2) := by decide +kernel
theorem dL_pay_18 : decode cL_pay 18 = .ok (.ireturn, 1) := by decide +kernel
set_option maxRecDepth 20000 in
theorem ggL_letGo_X5_letGo : GoodIn wsL_letGo wsX5_letGo := goodIn_ca (goodIn_ca (goodIn_r _ [8, 9, 10, 7, 11, 12, 13, 14, 15, 16, 17, 18, 19, 20, 21, 22, 23, 24, 25, 26, 27, 28, 29, 30, 31, 32, 33, 34, 35, 36, 37, 38, 39, 40, 41, 42, 43, 44, 45, 46, 47, 48, 49, 50, 51, 52, 53, 54, 55, 56, 57, 58, 59, 60, 61, 62, 63, 64, 65, 66, 67, 68, 69, 70] (by decide +kernel) (by decide +kernel)) (goodIn_sub (fun _ h => List.mem_cons_of_mem _ (List.mem_append_left _ (List.mem_append_right _ h))) (by decide +kernel))) (goodIn_sub (fun _ h => List.mem_cons_of_mem _ (List.mem_append_right _ h)) (by decide +kernel))
set_option maxRecDepth 20000 in
theorem gL_letGo_X5_letGo : GoodIn wsL_letGo (wsV RL 41 RX5 yX5_letGo wsX5_letGo) := goodIn_app (goodIn_of _ (by decide +kernel)) ggL_letGo_X5_letGo
theorem dL_letGo_0 : decode cL_letGo 0 = .ok (.aload_n 0, 1) := by decide +kernel
theorem dL_letGo_1 : decode cL_letGo 1 = .ok (.iload_n 1, 1) := by decide +kernel
theorem dL_letGo_2 : decode cL_letGo 2 = .ok (.invokevirtual 41, 3) := by decide +kernel
theorem dL_letGo_5 : decode cL_letGo 5 = .ok (.ireturn, 1) := by decide +kernel
theorem dL_letGo_6 : decode cL_letGo 6 = .ok (.astore_n 2, 1) := by decide +kernel
theorem dL_letGo_7 : decode cL_letGo 7 = .ok (.ldc 16, 2) := by decide +kernel
theorem dL_letGo_9 : decode cL_letGo 9 = .ok (.ireturn, 1) := by decide +kernel
theorem dL_letGo_10 : decode cL_letGo 10 = .ok (.astore_n 2, 1) := by decide +kernel
theorem dL_letGo_11 : decode cL_letGo 11 = .ok (.ldc 16, 2) := by decide +kernel
theorem dL_letGo_13 : decode cL_letGo 13 = .ok (.ireturn, 1) := by decide +kernel
set_option maxRecDepth 20000 in
theorem ggL_offer_X5_offer : GoodIn wsL_offer wsX5_offer := goodIn_ca (goodIn_ca (goodIn_ca (goodIn_r _ [9, 10, 11, 12, 13, 14, 15, 16, 8, 17, 18, 19, 20, 21, 22, 23, 24, 25, 26, 27, 28, 29, 30, 31, 32, 33, 34, 35, 36, 37, 38, 39, 40, 41, 42, 43, 44, 45, 46, 47, 48, 49, 50, 51] (by decide +kernel) (by decide +kernel)) (goodIn_sub (fun _ h => List.mem_cons_of_mem _ (List.mem_append_left _ (List.mem_append_left _ (List.mem_append_right _ h)))) (by decide +kernel))) (goodIn_sub (fun _ h => List.mem_cons_of_mem _ (List.mem_append_left _ (List.mem_append_right _ h))) (by decide +kernel))) (goodIn_sub (fun _ h => List.mem_cons_of_mem _ (List.mem_append_right _ h)) (by decide +kernel))
set_option maxRecDepth 20000 in
theorem gL_offer_X5_offer : GoodIn wsL_offer (wsV RL 44 RX5 yX5_offer wsX5_offer) := goodIn_app (goodIn_of _ (by decide +kernel)) ggL_offer_X5_offer
theorem dL_offer_0 : decode cL_offer 0 = .ok (.aload_n 0, 1) := by decide +kernel
theorem dL_offer_1 : decode cL_offer 1 = .ok (.iload_n 1, 1) := by decide +kernel
theorem dL_offer_2 : decode cL_offer 2 = .ok (.iload_n 2, 1) := by decide +kernel
theorem dL_offer_3 : decode cL_offer 3 = .ok (.iload_n 3, 1) := by decide +kernel
theorem dL_offer_4 : decode cL_offer 4 = .ok (.invokevirtual 44, 3) := by decide +kernel
theorem dL_offer_7 : decode cL_offer 7 = .ok (.ireturn, 1) := by decide +kernel
theorem dL_offer_8 : decode cL_offer 8 = .ok (.astore 4, 2) := by decide +kernel
theorem dL_offer_10 : decode cL_offer 10 = .ok (.ldc 16, 2) := by decide +kernel
theorem dL_offer_12 : decode cL_offer 12 = .ok (.ireturn, 1) := by decide +kernel
theorem dL_offer_13 : decode cL_offer 13 = .ok (.astore 4, 2) := by decide +kernel
theorem dL_offer_15 : decode cL_offer 15 = .ok (.ldc 16, 2) := by decide +kernel
theorem dL_offer_17 : decode cL_offer 17 = .ok (.ireturn, 1) := by decide +kernel
theorem dL_offer_18 : decode cL_offer 18 = .ok (.astore 4, 2) := by decide +kernel
theorem dL_offer_20 : decode cL_offer 20 = .ok (.ldc 16, 2) := by decide +kernel
theorem dL_offer_22 : decode cL_offer 22 = .ok (.ireturn, 1) := by decide +kernel
set_option maxRecDepth 20000 in
theorem ggL_retract_X5_retract : GoodIn wsL_retract wsX5_retract := goodIn_ca (goodIn_ca (goodIn_r _ [8, 9, 10, 11, 12, 13, 7, 14, 15, 16, 17, 18, 19, 20, 21, 22, 23, 24, 25, 26, 27, 28, 29, 30, 31, 32, 33, 34, 35, 36, 37] (by decide +kernel) (by decide +kernel)) (goodIn_sub (fun _ h => List.mem_cons_of_mem _ (List.mem_append_left _ (List.mem_append_right _ h))) (by decide +kernel))) (goodIn_sub (fun _ h => List.mem_cons_of_mem _ (List.mem_append_right _ h)) (by decide +kernel))
set_option maxRecDepth 20000 in
theorem gL_retract_X5_retract : GoodIn wsL_retract (wsV RL 48 RX5 yX5_retract wsX5_retract) := goodIn_app (goodIn_of _ (by decide +kernel)) ggL_retract_X5_retract
theorem dL_retract_0 : decode cL_retract 0 = .ok (.aload_n 0, 1) := by decide +kernel
theorem dL_retract_1 : decode cL_retract 1 = .ok (.iload_n 1, 1) := by decide +kernel
theorem dL_retract_2 : decode cL_retract 2 = .ok (.invokevirtual 48, 3) := by decide +kernel
theorem dL_retract_5 : decode cL_retract 5 = .ok (.ireturn, 1) := by decide +kernel
theorem dL_retract_6 : decode cL_retract 6 = .ok (.astore_n 2, 1) := by decide +kernel
theorem dL_retract_7 : decode cL_retract 7 = .ok (.ldc 16, 2) := by decide +kernel
theorem dL_retract_9 : decode cL_retract 9 = .ok (.ireturn, 1) := by decide +kernel
theorem dL_retract_10 : decode cL_retract 10 = .ok (.astore_n 2, 1) := by decide +kernel
theorem dL_retract_11 : decode cL_retract 11 = .ok (.ldc 16, 2) := by decide +kernel
theorem dL_retract_13 : decode cL_retract 13 = .ok (.ireturn, 1) := by decide +kernel
set_option maxRecDepth 20000 in
theorem ggL_queueAt_X5_queueAt : GoodIn wsL_queueAt wsX5_queueAt := goodIn_ca (goodIn_r _ [6, 7, 8, 9, 10, 11, 12, 13, 14, 15, 16, 17, 18, 19, 20, 21, 22, 23, 24, 25, 26, 27, 28, 29, 30, 31, 32, 33, 34, 35, 36] (by decide +kernel) (by decide +kernel)) (goodIn_sub (fun _ h => List.mem_cons_of_mem _ (List.mem_append_right _ h)) (by decide +kernel))
set_option maxRecDepth 20000 in
theorem gL_queueAt_X5_queueAt : GoodIn wsL_queueAt (wsV RL 51 RX5 yX5_queueAt wsX5_queueAt) := goodIn_app (goodIn_of _ (by decide +kernel)) ggL_queueAt_X5_queueAt
theorem dL_queueAt_0 : decode cL_queueAt 0 = .ok (.aload_n 0, 1) := by decide +kernel
theorem dL_queueAt_1 : decode cL_queueAt 1 = .ok (.iload_n 1, 1) := by decide +kernel
theorem dL_queueAt_2 : decode cL_queueAt 2 = .ok (.invokevirtual 51, 3) := by decide +kernel
theorem dL_queueAt_5 : decode cL_queueAt 5 = .ok (.ireturn, 1) := by decide +kernel
theorem dL_queueAt_6 : decode cL_queueAt 6 = .ok (.astore_n 2, 1) := by decide +kernel
theorem dL_queueAt_7 : decode cL_queueAt 7 = .ok (.iconst (-1), 1) := by decide +kernel
theorem dL_queueAt_8 : decode cL_queueAt 8 = .ok (.ireturn, 1) := by decide +kernel
set_option maxRecDepth 20000 in
theorem ggL_act_L_low : GoodIn wsL_act wsL_low := goodIn_r _ [4, 5] (by decide +kernel) (by decide +kernel)
set_option maxRecDepth 20000 in
theorem gL_act_L_low : GoodIn wsL_act (va_wsS RL 54 yL_low wsL_low) := goodIn_app (goodIn_of _ (by decide +kernel)) ggL_act_L_low
set_option maxRecDepth 20000 in
theorem ggL_act_X5_served : GoodIn wsL_act wsX5_served := goodIn_r _ [10, 11, 12, 13, 14, 15, 16, 17, 18, 19, 20, 21, 22, 23, 24, 25, 26, 27, 28, 29, 249, 250, 251, 252, 253, 254, 255, 256, 257, 258] (by decide +kernel) (by decide +kernel)
set_option maxRecDepth 20000 in
theorem gL_act_X5_served : GoodIn wsL_act (wsV RL 59 RX5 yX5_served wsX5_served) := goodIn_app (goodIn_of _ (by decide +kernel)) ggL_act_X5_served
set_option maxRecDepth 20000 in
theorem ggL_act_X5_owner : GoodIn wsL_act wsX5_owner := goodIn_ca (goodIn_r _ [33, 34, 35, 36, 9, 37, 38, 39, 249, 250, 251, 252, 253, 254, 255, 256, 257, 259, 260, 261, 262, 263] (by decide +kernel) (by decide +kernel)) (goodIn_sub (fun _ h => List.mem_cons_of_mem _ (List.mem_append_left _ (List.mem_append_left _ (List.mem_append_right _ h)))) (by decide +kernel))
set_option maxRecDepth 20000 in
theorem gL_act_X5_owner : GoodIn wsL_act (wsV RL 63 RX5 yX5_owner wsX5_owner) := goodIn_app (goodIn_of _ (by decide +kernel)) ggL_act_X5_owner
set_option maxRecDepth 20000 in
theorem ggL_act_L_setOpening : GoodIn wsL_act wsL_setOpening := goodIn_ca (goodIn_r _ [42, 43, 44, 45, 46, 47, 9, 48, 49, 50, 51, 249, 250, 251, 252, 253, 254, 255, 256, 257] (by decide +kernel) (by decide +kernel)) (goodIn_sub (fun _ h => List.mem_cons_of_mem _ (List.mem_append_left _ (List.mem_append_right _ h))) (by decide +kernel))
set_option maxRecDepth 20000 in
theorem gL_act_L_setOpening : GoodIn wsL_act (va_wsS RL 66 yL_setOpening wsL_setOpening) := goodIn_app (goodIn_of _ (by decide +kernel)) ggL_act_L_setOpening
set_option maxRecDepth 20000 in
theorem ggL_act_L_code : GoodIn wsL_act wsL_code := goodIn_ca (goodIn_ca (goodIn_r _ [54, 43, 55, 44, 56, 57, 58, 9, 59, 49, 50, 60, 61, 62, 63, 64, 65, 66, 67, 68, 69, 249, 250, 251, 252, 253, 254, 255, 256, 257, 264, 265, 266, 267] (by decide +kernel) (by decide +kernel)) (goodIn_sub (fun _ h => List.mem_cons_of_mem _ (List.mem_append_left _ (List.mem_append_right _ h))) (by decide +kernel))) (goodIn_sub (fun _ h => List.mem_cons_of_mem _ (List.mem_append_right _ h)) (by decide +kernel))
set_option maxRecDepth 20000 in
theorem gL_act_L_code : GoodIn wsL_act (va_wsS RL 69 yL_code wsL_code) := goodIn_app (goodIn_of _ (by decide +kernel)) ggL_act_L_code
set_option maxRecDepth 20000 in
theorem ggL_act_L_quit : GoodIn wsL_act wsL_quit := goodIn_ca (goodIn_ca (goodIn_r _ [72, 73, 55, 44, 74, 75, 76, 9, 77, 60, 61, 11, 78, 79, 80, 38, 39, 18, 14, 19, 20, 21, 81, 82, 83, 84, 85, 86, 17, 249, 250, 251, 252, 253, 254, 255, 256, 257, 258] (by decide +kernel) (by decide +kernel)) (goodIn_sub (fun _ h => List.mem_cons_of_mem _ (List.mem_append_right _ h)) (by decide +kernel))) (goodIn_sub (fun _ h => List.mem_cons_of_mem _ (List.mem_append_left _ (List.mem_append_left _ (List.mem_append_right _ h)))) (by decide +kernel))
set_option maxRecDepth 20000 in
theorem gL_act_L_quit : GoodIn wsL_act (va_wsS RL 72 yL_quit wsL_quit) := goodIn_app (goodIn_of _ (by decide +kernel)) ggL_act_L_quit
set_option maxRecDepth 20000 in
theorem ggL_act_L_letGo : GoodIn wsL_act wsL_letGo := goodIn_ca (goodIn_ca (goodIn_r _ [89, 73, 55, 44, 90, 91, 92, 9, 93, 78, 79, 80, 38, 39, 94, 95, 96, 97, 60, 61, 98, 99, 100, 101, 102, 103, 104, 105, 106, 107, 108, 62, 34, 109, 64, 110, 111, 112, 113, 114, 115, 116, 117, 118, 119, 120, 249, 250, 251, 252, 253, 254, 255, 256, 257, 268, 269, 270, 271, 272, 273, 274, 264, 265, 266, 267, 259, 260, 261, 262, 263] (by decide +kernel) (by decide +kernel)) (goodIn_sub (fun _ h => List.mem_cons_of_mem _ (List.mem_append_left _ (List.mem_append_left _ (List.mem_append_right _ h)))) (by decide +kernel))) (goodIn_sub (fun _ h => List.mem_cons_of_mem _ (List.mem_append_right _ h)) (by decide +kernel))
set_option maxRecDepth 20000 in
theorem gL_act_L_letGo : GoodIn wsL_act (va_wsS RL 74 yL_letGo wsL_letGo) := goodIn_app (goodIn_of _ (by decide +kernel)) ggL_act_L_letGo
set_option maxRecDepth 20000 in
theorem ggL_act_L_join : GoodIn wsL_act wsL_join := goodIn_ca (goodIn_ca (goodIn_r _ [123, 73, 55, 44, 124, 125, 126, 9, 127, 60, 61, 11, 98, 12, 78, 79, 80, 38, 39, 18, 14, 19, 20, 21, 99, 100, 101, 102, 103, 128, 129, 130, 84, 85, 86, 17, 249, 250, 251, 252, 253, 254, 255, 256, 257, 258, 268, 269, 270, 271, 272, 273, 274] (by decide +kernel) (by decide +kernel)) (goodIn_sub (fun _ h => List.mem_cons_of_mem _ (List.mem_append_right _ h)) (by decide +kernel))) (goodIn_sub (fun _ h => List.mem_cons_of_mem _ (List.mem_append_left _ (List.mem_append_left _ (List.mem_append_right _ h)))) (by decide +kernel))
set_option maxRecDepth 20000 in
theorem gL_act_L_join : GoodIn wsL_act (va_wsS RL 76 yL_join wsL_join) := goodIn_app (goodIn_of _ (by decide +kernel)) ggL_act_L_join
set_option maxRecDepth 20000 in
theorem ggL_act_L_pass : GoodIn wsL_act wsL_pass := goodIn_ca (goodIn_ca (goodIn_r _ [133, 43, 55, 44, 134, 135, 136, 9, 137, 49, 50, 60, 61, 12, 98, 99, 100, 101, 102, 103, 104, 105, 106, 107, 108, 62, 34, 109, 64, 110, 111, 112, 113, 114, 115, 116, 117, 118, 119, 120, 249, 250, 251, 252, 253, 254, 255, 256, 257, 268, 269, 270, 271, 272, 273, 274, 264, 265, 266, 267, 259, 260, 261, 262, 263] (by decide +kernel) (by decide +kernel)) (goodIn_sub (fun _ h => List.mem_cons_of_mem _ (List.mem_append_left _ (List.mem_append_right _ h))) (by decide +kernel))) (goodIn_sub (fun _ h => List.mem_cons_of_mem _ (List.mem_append_right _ h)) (by decide +kernel))
set_option maxRecDepth 20000 in
theorem gL_act_L_pass : GoodIn wsL_act (va_wsS RL 78 yL_pass wsL_pass) := goodIn_app (goodIn_of _ (by decide +kernel)) ggL_act_L_pass
set_option maxRecDepth 20000 in
theorem ggL_act_L_pay : GoodIn wsL_act wsL_pay := goodIn_ca (goodIn_ca (goodIn_ca (goodIn_r _ [140, 73, 43, 55, 44, 141, 142, 143, 9, 144, 49, 50, 60, 61, 98, 108, 78, 79, 80, 38, 39, 94, 95, 96, 97, 99, 100, 101, 102, 103, 145, 146, 147, 148, 149, 150, 151, 152, 153, 34, 154, 155, 156, 114, 157, 158, 117, 159, 160, 161, 162, 163, 164, 165, 166, 167, 168, 169, 170, 118, 119, 120, 171, 172, 173, 174, 175, 176, 177, 178, 179, 249, 250, 251, 252, 253, 254, 255, 256, 257, 268, 269, 270, 271, 272, 273, 274, 259, 260, 261, 262, 263, 275, 276, 277, 278] (by decide +kernel) (by decide +kernel)) (goodIn_sub (fun _ h => List.mem_cons_of_mem _ (List.mem_append_left _ (List.mem_append_right _ h))) (by decide +kernel))) (goodIn_sub (fun _ h => List.mem_cons_of_mem _ (List.mem_append_right _ h)) (by decide +kernel))) (goodIn_sub (fun _ h => List.mem_cons_of_mem _ (List.mem_append_left _ (List.mem_append_left _ (List.mem_append_right _ h)))) (by decide +kernel))
set_option maxRecDepth 20000 in
theorem gL_act_L_pay : GoodIn wsL_act (va_wsS RL 80 yL_pay wsL_pay) := goodIn_app (goodIn_of _ (by decide +kernel)) ggL_act_L_pay
set_option maxRecDepth 20000 in
theorem ggL_act_L_offer : GoodIn wsL_act wsL_offer := goodIn_ca (goodIn_ca (goodIn_ca (goodIn_r _ [182, 73, 43, 55, 44, 183, 184, 185, 9, 186, 49, 50, 60, 61, 34, 78, 79, 80, 38, 39, 35, 36, 37, 187, 114, 188, 189, 117, 160, 159, 190, 191, 192, 161, 193, 194, 195, 162, 249, 250, 251, 252, 253, 254, 255, 256, 257, 259, 260, 261, 262, 263] (by decide +kernel) (by decide +kernel)) (goodIn_sub (fun _ h => List.mem_cons_of_mem _ (List.mem_append_left _ (List.mem_append_right _ h))) (by decide +kernel))) (goodIn_sub (fun _ h => List.mem_cons_of_mem _ (List.mem_append_right _ h)) (by decide +kernel))) (goodIn_sub (fun _ h => List.mem_cons_of_mem _ (List.mem_append_left _ (List.mem_append_left _ (List.mem_append_right _ h)))) (by decide +kernel))
set_option maxRecDepth 20000 in
theorem gL_act_L_offer : GoodIn wsL_act (va_wsS RL 82 yL_offer wsL_offer) := goodIn_app (goodIn_of _ (by decide +kernel)) ggL_act_L_offer
set_option maxRecDepth 20000 in
theorem ggL_act_L_retract : GoodIn wsL_act wsL_retract := goodIn_ca (goodIn_ca (goodIn_r _ [198, 73, 55, 44, 199, 200, 201, 9, 202, 60, 61, 34, 35, 36, 37, 38, 39, 187, 114, 188, 189, 117, 160, 159, 249, 250, 251, 252, 253, 254, 255, 256, 257, 259, 260, 261, 262, 263] (by decide +kernel) (by decide +kernel)) (goodIn_sub (fun _ h => List.mem_cons_of_mem _ (List.mem_append_right _ h)) (by decide +kernel))) (goodIn_sub (fun _ h => List.mem_cons_of_mem _ (List.mem_append_left _ (List.mem_append_left _ (List.mem_append_right _ h)))) (by decide +kernel))
set_option maxRecDepth 20000 in
theorem gL_act_L_retract : GoodIn wsL_act (va_wsS RL 85 yL_retract wsL_retract) := goodIn_app (goodIn_of _ (by decide +kernel)) ggL_act_L_retract
set_option maxRecDepth 20000 in
theorem ggL_act_L_hold : GoodIn wsL_act wsL_hold := goodIn_ca (goodIn_ca (goodIn_ca (goodIn_r _ [205, 73, 43, 55, 44, 206, 207, 208, 9, 209, 38, 39, 49, 50, 60, 61, 11, 62, 34, 98, 12, 78, 79, 80, 210, 211, 212, 213, 214, 215, 216, 217, 7, 8, 10, 13, 14, 15, 16, 17, 18, 19, 20, 21, 22, 23, 24, 25, 26, 27, 28, 29, 218, 219, 220, 221, 222, 114, 223, 224, 225, 187, 188, 189, 117, 160, 159, 226, 227, 228, 229, 230, 231, 232, 233, 51, 234, 64, 235, 236, 67, 69, 237, 238, 239, 240, 112, 81, 82, 83, 109, 110, 111, 241, 242, 243, 162, 244, 100, 245, 246, 247, 103, 248, 148, 149, 175, 174, 249, 250, 251, 252, 253, 254, 255, 256, 257, 264, 265, 266, 267, 258, 259, 260, 261, 262, 263, 268, 269, 270, 271, 272, 273, 274] (by decide +kernel) (by decide +kernel)) (goodIn_sub (fun _ h => List.mem_cons_of_mem _ (List.mem_append_left _ (List.mem_append_left _ (List.mem_append_right _ h)))) (by decide +kernel))) (goodIn_sub (fun _ h => List.mem_cons_of_mem _ (List.mem_append_left _ (List.mem_append_right _ h))) (by decide +kernel))) (goodIn_sub (fun _ h => List.mem_cons_of_mem _ (List.mem_append_right _ h)) (by decide +kernel))
set_option maxRecDepth 20000 in
theorem gL_act_L_hold : GoodIn wsL_act (va_wsS RL 87 yL_hold wsL_hold) := goodIn_app (goodIn_of _ (by decide +kernel)) ggL_act_L_hold
theorem dL_act_0 : decode cL_act 0 = .ok (.iload_n 1, 1) := by decide +kernel
theorem dL_act_1 : decode cL_act 1 = .ok (.bipush 24, 2) := by decide +kernel
theorem dL_act_3 : decode cL_act 3 = .ok (.ishr, 1) := by decide +kernel
theorem dL_act_4 : decode cL_act 4 = .ok (.bipush 9, 2) := by decide +kernel
theorem dL_act_6 : decode cL_act 6 = .ok (.invokestatic 54, 3) := by decide +kernel
theorem dL_act_9 : decode cL_act 9 = .ok (.ifCond .ne 7, 3) := by decide +kernel
theorem dL_act_12 : decode cL_act 12 = .ok (.iconst 1, 1) := by decide +kernel
theorem dL_act_13 : decode cL_act 13 = .ok (.goto 4, 3) := by decide +kernel
theorem dL_act_16 : decode cL_act 16 = .ok (.iconst 0, 1) := by decide +kernel
theorem dL_act_17 : decode cL_act 17 = .ok (.istore_n 2, 1) := by decide +kernel
theorem dL_act_18 : decode cL_act 18 = .ok (.iload_n 2, 1) := by decide +kernel
theorem dL_act_19 : decode cL_act 19 = .ok (.ifCond .eq 16, 3) := by decide +kernel
theorem dL_act_22 : decode cL_act 22 = .ok (.iload_n 1, 1) := by decide +kernel
theorem dL_act_23 : decode cL_act 23 = .ok (.iconst 4, 1) := by decide +kernel
theorem dL_act_24 : decode cL_act 24 = .ok (.ishr, 1) := by decide +kernel
theorem dL_act_25 : decode cL_act 25 = .ok (.bipush 10, 2) := by decide +kernel
theorem dL_act_27 : decode cL_act 27 = .ok (.invokestatic 54, 3) := by decide +kernel
theorem dL_act_30 : decode cL_act 30 = .ok (.iconst 1, 1) := by decide +kernel
theorem dL_act_31 : decode cL_act 31 = .ok (.isub, 1) := by decide +kernel
theorem dL_act_32 : decode cL_act 32 = .ok (.goto 11, 3) := by decide +kernel
theorem dL_act_35 : decode cL_act 35 = .ok (.iload_n 1, 1) := by decide +kernel
theorem dL_act_36 : decode cL_act 36 = .ok (.iconst 4, 1) := by decide +kernel
theorem dL_act_37 : decode cL_act 37 = .ok (.ishr, 1) := by decide +kernel
theorem dL_act_38 : decode cL_act 38 = .ok (.bipush 8, 2) := by decide +kernel
theorem dL_act_40 : decode cL_act 40 = .ok (.invokestatic 54, 3) := by decide +kernel
theorem dL_act_43 : decode cL_act 43 = .ok (.istore_n 3, 1) := by decide +kernel
theorem dL_act_44 : decode cL_act 44 = .ok (.aload_n 0, 1) := by decide +kernel
theorem dL_act_45 : decode cL_act 45 = .ok (.invokevirtual 59, 3) := by decide +kernel
theorem dL_act_48 : decode cL_act 48 = .ok (.istore 4, 2) := by decide +kernel
theorem dL_act_50 : decode cL_act 50 = .ok (.iload_n 2, 1) := by decide +kernel
theorem dL_act_51 : decode cL_act 51 = .ok (.ifCond .ne 13, 3) := by decide +kernel
theorem dL_act_54 : decode cL_act 54 = .ok (.iload 4, 2) := by decide +kernel
theorem dL_act_56 : decode cL_act 56 = .ok (.ifCond .lt 8, 3) := by decide +kernel
theorem dL_act_59 : decode cL_act 59 = .ok (.iload 4, 2) := by decide +kernel
theorem dL_act_61 : decode cL_act 61 = .ok (.goto 4, 3) := by decide +kernel
theorem dL_act_64 : decode cL_act 64 = .ok (.iload_n 3, 1) := by decide +kernel
theorem dL_act_65 : decode cL_act 65 = .ok (.istore 5, 2) := by decide +kernel
theorem dL_act_67 : decode cL_act 67 = .ok (.iload_n 2, 1) := by decide +kernel
theorem dL_act_68 : decode cL_act 68 = .ok (.ifCond .eq 17, 3) := by decide +kernel
theorem dL_act_71 : decode cL_act 71 = .ok (.iload_n 1, 1) := by decide +kernel
theorem dL_act_72 : decode cL_act 72 = .ok (.bipush 7, 2) := by decide +kernel
theorem dL_act_74 : decode cL_act 74 = .ok (.ishr, 1) := by decide +kernel
theorem dL_act_75 : decode cL_act 75 = .ok (.bipush 8, 2) := by decide +kernel
theorem dL_act_77 : decode cL_act 77 = .ok (.invokestatic 54, 3) := by decide +kernel
theorem dL_act_80 : decode cL_act 80 = .ok (.iconst 1, 1) := by decide +kernel
theorem dL_act_81 : decode cL_act 81 = .ok (.isub, 1) := by decide +kernel
theorem dL_act_82 : decode cL_act 82 = .ok (.goto 11, 3) := by decide +kernel
theorem dL_act_85 : decode cL_act 85 = .ok (.iload_n 1, 1) := by decide +kernel
theorem dL_act_86 : decode cL_act 86 = .ok (.bipush 7, 2) := by decide +kernel
theorem dL_act_88 : decode cL_act 88 = .ok (.ishr, 1) := by decide +kernel
theorem dL_act_89 : decode cL_act 89 = .ok (.iconst 2, 1) := by decide +kernel
theorem dL_act_90 : decode cL_act 90 = .ok (.invokestatic 54, 3) := by decide +kernel
theorem dL_act_93 : decode cL_act 93 = .ok (.istore 6, 2) := by decide +kernel
theorem dL_act_95 : decode cL_act 95 = .ok (.iload_n 2, 1) := by decide +kernel
theorem dL_act_96 : decode cL_act 96 = .ok (.ifCond .eq 17, 3) := by decide +kernel
theorem dL_act_99 : decode cL_act 99 = .ok (.iload_n 1, 1) := by decide +kernel
theorem dL_act_100 : decode cL_act 100 = .ok (.bipush 10, 2) := by decide +kernel
theorem dL_act_102 : decode cL_act 102 = .ok (.ishr, 1) := by decide +kernel
theorem dL_act_103 : decode cL_act 103 = .ok (.bipush 12, 2) := by decide +kernel
theorem dL_act_105 : decode cL_act 105 = .ok (.invokestatic 54, 3) := by decide +kernel
theorem dL_act_108 : decode cL_act 108 = .ok (.iconst 1, 1) := by decide +kernel
theorem dL_act_109 : decode cL_act 109 = .ok (.isub, 1) := by decide +kernel
theorem dL_act_110 : decode cL_act 110 = .ok (.goto 12, 3) := by decide +kernel
theorem dL_act_113 : decode cL_act 113 = .ok (.iload_n 1, 1) := by decide +kernel
theorem dL_act_114 : decode cL_act 114 = .ok (.bipush 10, 2) := by decide +kernel
theorem dL_act_116 : decode cL_act 116 = .ok (.ishr, 1) := by decide +kernel
theorem dL_act_117 : decode cL_act 117 = .ok (.bipush 10, 2) := by decide +kernel
theorem dL_act_119 : decode cL_act 119 = .ok (.invokestatic 54, 3) := by decide +kernel
theorem dL_act_122 : decode cL_act 122 = .ok (.istore 7, 2) := by decide +kernel
theorem dL_act_124 : decode cL_act 124 = .ok (.iload_n 2, 1) := by decide +kernel
theorem dL_act_125 : decode cL_act 125 = .ok (.ifCond .eq 17, 3) := by decide +kernel
theorem dL_act_128 : decode cL_act 128 = .ok (.iload_n 1, 1) := by decide +kernel
theorem dL_act_129 : decode cL_act 129 = .ok (.bipush 7, 2) := by decide +kernel
theorem dL_act_131 : decode cL_act 131 = .ok (.ishr, 1) := by decide +kernel
theorem dL_act_132 : decode cL_act 132 = .ok (.bipush 62, 2) := by decide +kernel
theorem dL_act_134 : decode cL_act 134 = .ok (.invokestatic 54, 3) := by decide +kernel
theorem dL_act_137 : decode cL_act 137 = .ok (.iconst 1, 1) := by decide +kernel
theorem dL_act_138 : decode cL_act 138 = .ok (.isub, 1) := by decide +kernel
theorem dL_act_139 : decode cL_act 139 = .ok (.goto 11, 3) := by decide +kernel
theorem dL_act_142 : decode cL_act 142 = .ok (.bipush 10, 2) := by decide +kernel
theorem dL_act_144 : decode cL_act 144 = .ok (.iload 6, 2) := by decide +kernel
theorem dL_act_146 : decode cL_act 146 = .ok (.imul, 1) := by decide +kernel
theorem dL_act_147 : decode cL_act 147 = .ok (.iload 7, 2) := by decide +kernel
theorem dL_act_149 : decode cL_act 149 = .ok (.iadd, 1) := by decide +kernel
theorem dL_act_150 : decode cL_act 150 = .ok (.istore 8, 2) := by decide +kernel
theorem dL_act_152 : decode cL_act 152 = .ok (.iload_n 2, 1) := by decide +kernel
theorem dL_act_153 : decode cL_act 153 = .ok (.ifCond .ne 59, 3) := by decide +kernel
theorem dL_act_156 : decode cL_act 156 = .ok (.aload_n 0, 1) := by decide +kernel
theorem dL_act_157 : decode cL_act 157 = .ok (.bipush 10, 2) := by decide +kernel
theorem dL_act_159 : decode cL_act 159 = .ok (.iload_n 1, 1) := by decide +kernel
theorem dL_act_160 : decode cL_act 160 = .ok (.bipush 7, 2) := by decide +kernel
theorem dL_act_162 : decode cL_act 162 = .ok (.ishr, 1) := by decide +kernel
theorem dL_act_163 : decode cL_act 163 = .ok (.iconst 2, 1) := by decide +kernel
theorem dL_act_164 : decode cL_act 164 = .ok (.invokestatic 54, 3) := by decide +kernel
theorem dL_act_167 : decode cL_act 167 = .ok (.imul, 1) := by decide +kernel
theorem dL_act_168 : decode cL_act 168 = .ok (.iload_n 1, 1) := by decide +kernel
theorem dL_act_169 : decode cL_act 169 = .ok (.bipush 10, 2) := by decide +kernel
theorem dL_act_171 : decode cL_act 171 = .ok (.ishr, 1) := by decide +kernel
theorem dL_act_172 : decode cL_act 172 = .ok (.bipush 10, 2) := by decide +kernel
theorem dL_act_174 : decode cL_act 174 = .ok (.invokestatic 54, 3) := by decide +kernel
theorem dL_act_177 : decode cL_act 177 = .ok (.iadd, 1) := by decide +kernel
theorem dL_act_178 : decode cL_act 178 = .ok (.invokevirtual 63, 3) := by decide +kernel
theorem dL_act_181 : decode cL_act 181 = .ok (.ifCond .lt 31, 3) := by decide +kernel
theorem dL_act_184 : decode cL_act 184 = .ok (.aload_n 0, 1) := by decide +kernel
theorem dL_act_185 : decode cL_act 185 = .ok (.bipush 10, 2) := by decide +kernel
theorem dL_act_187 : decode cL_act 187 = .ok (.iload_n 1, 1) := by decide +kernel
theorem dL_act_188 : decode cL_act 188 = .ok (.bipush 7, 2) := by decide +kernel
theorem dL_act_190 : decode cL_act 190 = .ok (.ishr, 1) := by decide +kernel
theorem dL_act_191 : decode cL_act 191 = .ok (.iconst 2, 1) := by decide +kernel
theorem dL_act_192 : decode cL_act 192 = .ok (.invokestatic 54, 3) := by decide +kernel
theorem dL_act_195 : decode cL_act 195 = .ok (.imul, 1) := by decide +kernel
theorem dL_act_196 : decode cL_act 196 = .ok (.iload_n 1, 1) := by decide +kernel
theorem dL_act_197 : decode cL_act 197 = .ok (.bipush 10, 2) := by decide +kernel
theorem dL_act_199 : decode cL_act 199 = .ok (.ishr, 1) := by decide +kernel
theorem dL_act_200 : decode cL_act 200 = .ok (.bipush 10, 2) := by decide +kernel
theorem dL_act_202 : decode cL_act 202 = .ok (.invokestatic 54, 3) := by decide +kernel
theorem dL_act_205 : decode cL_act 205 = .ok (.iadd, 1) := by decide +kernel
theorem dL_act_206 : decode cL_act 206 = .ok (.invokevirtual 63, 3) := by decide +kernel
theorem dL_act_209 : decode cL_act 209 = .ok (.goto 4, 3) := by decide +kernel
theorem dL_act_212 : decode cL_act 212 = .ok (.iload_n 3, 1) := by decide +kernel
theorem dL_act_213 : decode cL_act 213 = .ok (.istore 9, 2) := by decide +kernel
theorem dL_act_215 : decode cL_act 215 = .ok (.iload_n 1, 1) := by decide +kernel
theorem dL_act_216 : decode cL_act 216 = .ok (.bipush 24, 2) := by decide +kernel
theorem dL_act_218 : decode cL_act 218 = .ok (.invokestatic 54, 3) := by decide +kernel
theorem dL_act_221 : decode cL_act 221 = .ok (.tableswitch 299 0 16 #[83, 114, 169, 175, 181, 181, 181, 187, 187, 187, 187, 217, 217, 217, 254, 254, 292], 83) := by decide +kernel
theorem dL_act_304 : decode cL_act 304 = .ok (.aload_n 0, 1) := by decide +kernel
theorem dL_act_305 : decode cL_act 305 = .ok (.iload_n 2, 1) := by decide +kernel
theorem dL_act_306 : decode cL_act 306 = .ok (.ifCond .eq 17, 3) := by decide +kernel
theorem dL_act_309 : decode cL_act 309 = .ok (.iload_n 1, 1) := by decide +kernel
theorem dL_act_310 : decode cL_act 310 = .ok (.iconst 4, 1) := by decide +kernel
theorem dL_act_311 : decode cL_act 311 = .ok (.ishr, 1) := by decide +kernel
theorem dL_act_312 : decode cL_act 312 = .ok (.sipush 10003, 3) := by decide +kernel
theorem dL_act_315 : decode cL_act 315 = .ok (.invokestatic 54, 3) := by decide +kernel
theorem dL_act_318 : decode cL_act 318 = .ok (.iconst 1, 1) := by decide +kernel
theorem dL_act_319 : decode cL_act 319 = .ok (.isub, 1) := by decide +kernel
theorem dL_act_320 : decode cL_act 320 = .ok (.goto 11, 3) := by decide +kernel
theorem dL_act_323 : decode cL_act 323 = .ok (.iload_n 1, 1) := by decide +kernel
theorem dL_act_324 : decode cL_act 324 = .ok (.iconst 4, 1) := by decide +kernel
theorem dL_act_325 : decode cL_act 325 = .ok (.ishr, 1) := by decide +kernel
theorem dL_act_326 : decode cL_act 326 = .ok (.bipush 60, 2) := by decide +kernel
theorem dL_act_328 : decode cL_act 328 = .ok (.invokestatic 54, 3) := by decide +kernel
theorem dL_act_331 : decode cL_act 331 = .ok (.invokestatic 66, 3) := by decide +kernel
theorem dL_act_334 : decode cL_act 334 = .ok (.ireturn, 1) := by decide +kernel
theorem dL_act_335 : decode cL_act 335 = .ok (.aload_n 0, 1) := by decide +kernel
theorem dL_act_336 : decode cL_act 336 = .ok (.iload_n 2, 1) := by decide +kernel
theorem dL_act_337 : decode cL_act 337 = .ok (.ifCond .eq 14, 3) := by decide +kernel
theorem dL_act_340 : decode cL_act 340 = .ok (.iload_n 1, 1) := by decide +kernel
theorem dL_act_341 : decode cL_act 341 = .ok (.iconst 4, 1) := by decide +kernel
theorem dL_act_342 : decode cL_act 342 = .ok (.ishr, 1) := by decide +kernel
theorem dL_act_343 : decode cL_act 343 = .ok (.bipush 13, 2) := by decide +kernel
theorem dL_act_345 : decode cL_act 345 = .ok (.invokestatic 54, 3) := by decide +kernel
theorem dL_act_348 : decode cL_act 348 = .ok (.goto 12, 3) := by decide +kernel
theorem dL_act_351 : decode cL_act 351 = .ok (.iconst 2, 1) := by decide +kernel
theorem dL_act_352 : decode cL_act 352 = .ok (.iload_n 1, 1) := by decide +kernel
theorem dL_act_353 : decode cL_act 353 = .ok (.iconst 4, 1) := by decide +kernel
theorem dL_act_354 : decode cL_act 354 = .ok (.ishr, 1) := by decide +kernel
theorem dL_act_355 : decode cL_act 355 = .ok (.iconst 4, 1) := by decide +kernel
theorem dL_act_356 : decode cL_act 356 = .ok (.invokestatic 54, 3) := by decide +kernel
theorem dL_act_359 : decode cL_act 359 = .ok (.iadd, 1) := by decide +kernel
theorem dL_act_360 : decode cL_act 360 = .ok (.iload_n 2, 1) := by decide +kernel
theorem dL_act_361 : decode cL_act 361 = .ok (.ifCond .eq 15, 3) := by decide +kernel
theorem dL_act_364 : decode cL_act 364 = .ok (.iload_n 1, 1) := by decide +kernel
theorem dL_act_365 : decode cL_act 365 = .ok (.bipush 9, 2) := by decide +kernel
theorem dL_act_367 : decode cL_act 367 = .ok (.ishr, 1) := by decide +kernel
theorem dL_act_368 : decode cL_act 368 = .ok (.bipush 23, 2) := by decide +kernel
theorem dL_act_370 : decode cL_act 370 = .ok (.invokestatic 54, 3) := by decide +kernel
theorem dL_act_373 : decode cL_act 373 = .ok (.goto 13, 3) := by decide +kernel
theorem dL_act_376 : decode cL_act 376 = .ok (.iconst 3, 1) := by decide +kernel
theorem dL_act_377 : decode cL_act 377 = .ok (.iload_n 1, 1) := by decide +kernel
theorem dL_act_378 : decode cL_act 378 = .ok (.bipush 9, 2) := by decide +kernel
theorem dL_act_380 : decode cL_act 380 = .ok (.ishr, 1) := by decide +kernel
theorem dL_act_381 : decode cL_act 381 = .ok (.iconst 5, 1) := by decide +kernel
theorem dL_act_382 : decode cL_act 382 = .ok (.invokestatic 54, 3) := by decide +kernel
theorem dL_act_385 : decode cL_act 385 = .ok (.iadd, 1) := by decide +kernel
theorem dL_act_386 : decode cL_act 386 = .ok (.invokestatic 69, 3) := by decide +kernel
theorem dL_act_389 : decode cL_act 389 = .ok (.ireturn, 1) := by decide +kernel
theorem dL_act_390 : decode cL_act 390 = .ok (.aload_n 0, 1) := by decide +kernel
theorem dL_act_391 : decode cL_act 391 = .ok (.iload_n 3, 1) := by decide +kernel
theorem dL_act_392 : decode cL_act 392 = .ok (.invokestatic 72, 3) := by decide +kernel
theorem dL_act_395 : decode cL_act 395 = .ok (.ireturn, 1) := by decide +kernel
theorem dL_act_396 : decode cL_act 396 = .ok (.aload_n 0, 1) := by decide +kernel
theorem dL_act_397 : decode cL_act 397 = .ok (.iload_n 3, 1) := by decide +kernel
theorem dL_act_398 : decode cL_act 398 = .ok (.invokestatic 74, 3) := by decide +kernel
theorem dL_act_401 : decode cL_act 401 = .ok (.ireturn, 1) := by decide +kernel
theorem dL_act_402 : decode cL_act 402 = .ok (.aload_n 0, 1) := by decide +kernel
theorem dL_act_403 : decode cL_act 403 = .ok (.iload_n 3, 1) := by decide +kernel
theorem dL_act_404 : decode cL_act 404 = .ok (.invokestatic 76, 3) := by decide +kernel
theorem dL_act_407 : decode cL_act 407 = .ok (.ireturn, 1) := by decide +kernel
theorem dL_act_408 : decode cL_act 408 = .ok (.aload_n 0, 1) := by decide +kernel
theorem dL_act_409 : decode cL_act 409 = .ok (.iload_n 2, 1) := by decide +kernel
theorem dL_act_410 : decode cL_act 410 = .ok (.ifCond .eq 15, 3) := by decide +kernel
theorem dL_act_413 : decode cL_act 413 = .ok (.iload_n 1, 1) := by decide +kernel
theorem dL_act_414 : decode cL_act 414 = .ok (.iconst 4, 1) := by decide +kernel
theorem dL_act_415 : decode cL_act 415 = .ok (.ishr, 1) := by decide +kernel
theorem dL_act_416 : decode cL_act 416 = .ok (.sipush 503, 3) := by decide +kernel
theorem dL_act_419 : decode cL_act 419 = .ok (.invokestatic 54, 3) := by decide +kernel
theorem dL_act_422 : decode cL_act 422 = .ok (.goto 12, 3) := by decide +kernel
theorem dL_act_425 : decode cL_act 425 = .ok (.iconst 1, 1) := by decide +kernel
theorem dL_act_426 : decode cL_act 426 = .ok (.iload_n 1, 1) := by decide +kernel
theorem dL_act_427 : decode cL_act 427 = .ok (.iconst 4, 1) := by decide +kernel
theorem dL_act_428 : decode cL_act 428 = .ok (.ishr, 1) := by decide +kernel
theorem dL_act_429 : decode cL_act 429 = .ok (.iconst 4, 1) := by decide +kernel
theorem dL_act_430 : decode cL_act 430 = .ok (.invokestatic 54, 3) := by decide +kernel
theorem dL_act_433 : decode cL_act 433 = .ok (.iadd, 1) := by decide +kernel
theorem dL_act_434 : decode cL_act 434 = .ok (.invokestatic 78, 3) := by decide +kernel
theorem dL_act_437 : decode cL_act 437 = .ok (.ireturn, 1) := by decide +kernel
theorem dL_act_438 : decode cL_act 438 = .ok (.aload_n 0, 1) := by decide +kernel
theorem dL_act_439 : decode cL_act 439 = .ok (.iload_n 3, 1) := by decide +kernel
theorem dL_act_440 : decode cL_act 440 = .ok (.iload_n 2, 1) := by decide +kernel
theorem dL_act_441 : decode cL_act 441 = .ok (.ifCond .eq 16, 3) := by decide +kernel
theorem dL_act_444 : decode cL_act 444 = .ok (.iload_n 1, 1) := by decide +kernel
theorem dL_act_445 : decode cL_act 445 = .ok (.bipush 7, 2) := by decide +kernel
theorem dL_act_447 : decode cL_act 447 = .ok (.ishr, 1) := by decide +kernel
theorem dL_act_448 : decode cL_act 448 = .ok (.sipush 1003, 3) := by decide +kernel
theorem dL_act_451 : decode cL_act 451 = .ok (.invokestatic 54, 3) := by decide +kernel
theorem dL_act_454 : decode cL_act 454 = .ok (.goto 17, 3) := by decide +kernel
theorem dL_act_457 : decode cL_act 457 = .ok (.bipush 10, 2) := by decide +kernel
theorem dL_act_459 : decode cL_act 459 = .ok (.iconst 1, 1) := by decide +kernel
theorem dL_act_460 : decode cL_act 460 = .ok (.iload_n 1, 1) := by decide +kernel
theorem dL_act_461 : decode cL_act 461 = .ok (.bipush 7, 2) := by decide +kernel
theorem dL_act_463 : decode cL_act 463 = .ok (.ishr, 1) := by decide +kernel
theorem dL_act_464 : decode cL_act 464 = .ok (.bipush 20, 2) := by decide +kernel
theorem dL_act_466 : decode cL_act 466 = .ok (.invokestatic 54, 3) := by decide +kernel
theorem dL_act_469 : decode cL_act 469 = .ok (.iadd, 1) := by decide +kernel
theorem dL_act_470 : decode cL_act 470 = .ok (.imul, 1) := by decide +kernel
theorem dL_act_471 : decode cL_act 471 = .ok (.invokestatic 80, 3) := by decide +kernel
theorem dL_act_474 : decode cL_act 474 = .ok (.ireturn, 1) := by decide +kernel
theorem dL_act_475 : decode cL_act 475 = .ok (.aload_n 0, 1) := by decide +kernel
theorem dL_act_476 : decode cL_act 476 = .ok (.iload 9, 2) := by decide +kernel
theorem dL_act_478 : decode cL_act 478 = .ok (.iload 8, 2) := by decide +kernel
theorem dL_act_480 : decode cL_act 480 = .ok (.iload_n 2, 1) := by decide +kernel
theorem dL_act_481 : decode cL_act 481 = .ok (.ifCond .eq 16, 3) := by decide +kernel
theorem dL_act_484 : decode cL_act 484 = .ok (.iload_n 1, 1) := by decide +kernel
theorem dL_act_485 : decode cL_act 485 = .ok (.bipush 13, 2) := by decide +kernel
theorem dL_act_487 : decode cL_act 487 = .ok (.ishr, 1) := by decide +kernel
theorem dL_act_488 : decode cL_act 488 = .ok (.sipush 10003, 3) := by decide +kernel
theorem dL_act_491 : decode cL_act 491 = .ok (.invokestatic 54, 3) := by decide +kernel
theorem dL_act_494 : decode cL_act 494 = .ok (.goto 15, 3) := by decide +kernel
theorem dL_act_497 : decode cL_act 497 = .ok (.bipush 50, 2) := by decide +kernel
theorem dL_act_499 : decode cL_act 499 = .ok (.iload_n 1, 1) := by decide +kernel
theorem dL_act_500 : decode cL_act 500 = .ok (.bipush 13, 2) := by decide +kernel
theorem dL_act_502 : decode cL_act 502 = .ok (.ishr, 1) := by decide +kernel
theorem dL_act_503 : decode cL_act 503 = .ok (.bipush 65, 2) := by decide +kernel
theorem dL_act_505 : decode cL_act 505 = .ok (.invokestatic 54, 3) := by decide +kernel
theorem dL_act_508 : decode cL_act 508 = .ok (.iadd, 1) := by decide +kernel
theorem dL_act_509 : decode cL_act 509 = .ok (.invokestatic 82, 3) := by decide +kernel
theorem dL_act_512 : decode cL_act 512 = .ok (.ireturn, 1) := by decide +kernel
theorem dL_act_513 : decode cL_act 513 = .ok (.aload_n 0, 1) := by decide +kernel
theorem dL_act_514 : decode cL_act 514 = .ok (.iload 8, 2) := by decide +kernel
theorem dL_act_516 : decode cL_act 516 = .ok (.invokestatic 85, 3) := by decide +kernel
theorem dL_act_519 : decode cL_act 519 = .ok (.ireturn, 1) := by decide +kernel
theorem dL_act_520 : decode cL_act 520 = .ok (.aload_n 0, 1) := by decide +kernel
theorem dL_act_521 : decode cL_act 521 = .ok (.iload 5, 2) := by decide +kernel
theorem dL_act_523 : decode cL_act 523 = .ok (.iload 6, 2) := by decide +kernel
theorem dL_act_525 : decode cL_act 525 = .ok (.iload 7, 2) := by decide +kernel
theorem dL_act_527 : decode cL_act 527 = .ok (.iload_n 2, 1) := by decide +kernel
theorem dL_act_528 : decode cL_act 528 = .ok (.ifCond .eq 15, 3) := by decide +kernel
theorem dL_act_531 : decode cL_act 531 = .ok (.iload_n 1, 1) := by decide +kernel
theorem dL_act_532 : decode cL_act 532 = .ok (.bipush 14, 2) := by decide +kernel
theorem dL_act_534 : decode cL_act 534 = .ok (.ishr, 1) := by decide +kernel
theorem dL_act_535 : decode cL_act 535 = .ok (.bipush 7, 2) := by decide +kernel
theorem dL_act_537 : decode cL_act 537 = .ok (.invokestatic 54, 3) := by decide +kernel
theorem dL_act_540 : decode cL_act 540 = .ok (.goto 13, 3) := by decide +kernel
theorem dL_act_543 : decode cL_act 543 = .ok (.iconst 1, 1) := by decide +kernel
theorem dL_act_544 : decode cL_act 544 = .ok (.iload_n 1, 1) := by decide +kernel
theorem dL_act_545 : decode cL_act 545 = .ok (.bipush 14, 2) := by decide +kernel
theorem dL_act_547 : decode cL_act 547 = .ok (.ishr, 1) := by decide +kernel
theorem dL_act_548 : decode cL_act 548 = .ok (.iconst 4, 1) := by decide +kernel
theorem dL_act_549 : decode cL_act 549 = .ok (.invokestatic 54, 3) := by decide +kernel
theorem dL_act_552 : decode cL_act 552 = .ok (.iadd, 1) := by decide +kernel
theorem dL_act_553 : decode cL_act 553 = .ok (.iload_n 1, 1) := by decide +kernel
theorem dL_act_554 : decode cL_act 554 = .ok (.bipush 17, 2) := by decide +kernel
theorem dL_act_556 : decode cL_act 556 = .ok (.ishr, 1) := by decide +kernel
theorem dL_act_557 : decode cL_act 557 = .ok (.iconst 3, 1) := by decide +kernel
theorem dL_act_558 : decode cL_act 558 = .ok (.invokestatic 54, 3) := by decide +kernel
theorem dL_act_561 : decode cL_act 561 = .ok (.ifCond .ne 7, 3) := by decide +kernel
theorem dL_act_564 : decode cL_act 564 = .ok (.iconst (-1), 1) := by decide +kernel
theorem dL_act_565 : decode cL_act 565 = .ok (.goto 20, 3) := by decide +kernel
theorem dL_act_568 : decode cL_act 568 = .ok (.iload_n 1, 1) := by decide +kernel
theorem dL_act_569 : decode cL_act 569 = .ok (.bipush 17, 2) := by decide +kernel
theorem dL_act_571 : decode cL_act 571 = .ok (.ishr, 1) := by decide +kernel
theorem dL_act_572 : decode cL_act 572 = .ok (.iload_n 2, 1) := by decide +kernel
theorem dL_act_573 : decode cL_act 573 = .ok (.ifCond .eq 8, 3) := by decide +kernel
theorem dL_act_576 : decode cL_act 576 = .ok (.bipush 12, 2) := by decide +kernel
theorem dL_act_578 : decode cL_act 578 = .ok (.goto 4, 3) := by decide +kernel
theorem dL_act_581 : decode cL_act 581 = .ok (.iconst 2, 1) := by decide +kernel
theorem dL_act_582 : decode cL_act 582 = .ok (.invokestatic 54, 3) := by decide +kernel
theorem dL_act_585 : decode cL_act 585 = .ok (.invokestatic 87, 3) := by decide +kernel
theorem dL_act_588 : decode cL_act 588 = .ok (.ireturn, 1) := by decide +kernel
set_option maxRecDepth 20000 in
theorem ggL_areAlike_X5_time : GoodIn wsL_areAlike wsX5_time := goodIn_r _ [5, 6, 82, 83, 84, 85, 86, 87, 88, 89, 90] (by decide +kernel) (by decide +kernel)
set_option maxRecDepth 20000 in
theorem gL_areAlike_X5_time : GoodIn wsL_areAlike (wsV RL 90 RX5 yX5_time wsX5_time) := goodIn_app (goodIn_of _ (by decide +kernel)) ggL_areAlike_X5_time
set_option maxRecDepth 20000 in
theorem ggL_areAlike_X5_takings : GoodIn wsL_areAlike wsX5_takings := goodIn_r _ [10, 11, 82, 83, 84, 85, 86, 87, 88, 89, 90] (by decide +kernel) (by decide +kernel)
set_option maxRecDepth 20000 in
theorem gL_areAlike_X5_takings : GoodIn wsL_areAlike (wsV RL 93 RX5 yX5_takings wsX5_takings) := goodIn_app (goodIn_of _ (by decide +kernel)) ggL_areAlike_X5_takings
set_option maxRecDepth 20000 in
theorem ggL_areAlike_X5_served : GoodIn wsL_areAlike wsX5_served := goodIn_r _ [15, 16, 6, 17, 18, 19, 20, 21, 22, 23, 24, 25, 26, 27, 28, 29, 30, 31, 32, 33, 82, 83, 84, 85, 86, 87, 88, 89, 90, 91] (by decide +kernel) (by decide +kernel)
set_option maxRecDepth 20000 in
theorem gL_areAlike_X5_served : GoodIn wsL_areAlike (wsV RL 59 RX5 yX5_served wsX5_served) := goodIn_app (goodIn_of _ (by decide +kernel)) ggL_areAlike_X5_served
set_option maxRecDepth 20000 in
theorem ggL_areAlike_L_queueAt : GoodIn wsL_areAlike wsL_queueAt := goodIn_ca (goodIn_r _ [37, 38, 39, 40, 41, 4, 42, 43, 44, 16, 17, 18, 19, 20, 21, 22, 23, 24, 25, 26, 27, 28, 29, 30, 31, 32, 33, 82, 83, 84, 85, 86, 87, 88, 89, 90, 91] (by decide +kernel) (by decide +kernel)) (goodIn_sub (fun _ h => List.mem_cons_of_mem _ (List.mem_append_right _ h)) (by decide +kernel))
set_option maxRecDepth 20000 in
theorem gL_areAlike_L_queueAt : GoodIn wsL_areAlike (va_wsS RL 96 yL_queueAt wsL_queueAt) := goodIn_app (goodIn_of _ (by decide +kernel)) ggL_areAlike_L_queueAt
set_option maxRecDepth 20000 in
theorem ggL_areAlike_X5_spent : GoodIn wsL_areAlike wsX5_spent := goodIn_ca (goodIn_r _ [48, 49, 50, 51, 4, 52, 43, 44, 82, 83, 84, 85, 86, 87, 88, 89, 90] (by decide +kernel) (by decide +kernel)) (goodIn_sub (fun _ h => List.mem_cons_of_mem _ (List.mem_append_right _ h)) (by decide +kernel))
set_option maxRecDepth 20000 in
theorem gL_areAlike_X5_spent : GoodIn wsL_areAlike (wsV RL 98 RX5 yX5_spent wsX5_spent) := goodIn_app (goodIn_of _ (by decide +kernel)) ggL_areAlike_X5_spent
set_option maxRecDepth 20000 in
theorem ggL_areAlike_X5_lapses : GoodIn wsL_areAlike wsX5_lapses := goodIn_ca (goodIn_r _ [56, 57, 50, 51, 4, 52, 43, 44, 58, 59, 60, 61, 62, 82, 83, 84, 85, 86, 87, 88, 89, 90, 92, 93, 94, 95, 96, 97, 98] (by decide +kernel) (by decide +kernel)) (goodIn_sub (fun _ h => List.mem_cons_of_mem _ (List.mem_append_right _ h)) (by decide +kernel))
set_option maxRecDepth 20000 in
theorem gL_areAlike_X5_lapses : GoodIn wsL_areAlike (wsV RL 101 RX5 yX5_lapses wsX5_lapses) := goodIn_app (goodIn_of _ (by decide +kernel)) ggL_areAlike_X5_lapses
set_option maxRecDepth 20000 in
theorem ggL_areAlike_X5_state : GoodIn wsL_areAlike wsX5_state := goodIn_ca (goodIn_r _ [66, 67, 68, 69, 4, 70, 43, 44, 71, 72, 73, 74, 75, 76, 77, 82, 83, 84, 85, 86, 87, 88, 89, 90, 99, 100, 101, 102, 103] (by decide +kernel) (by decide +kernel)) (goodIn_sub (fun _ h => List.mem_cons_of_mem _ (List.mem_append_right _ h)) (by decide +kernel))
set_option maxRecDepth 20000 in
theorem gL_areAlike_X5_state : GoodIn wsL_areAlike (wsV RL 104 RX5 yX5_state wsX5_state) := goodIn_app (goodIn_of _ (by decide +kernel)) ggL_areAlike_X5_state
set_option maxRecDepth 20000 in
theorem ggL_areAlike_X5_owner : GoodIn wsL_areAlike wsX5_owner := goodIn_ca (goodIn_r _ [81, 67, 68, 69, 4, 70, 43, 44, 82, 83, 84, 85, 86, 87, 88, 89, 90, 99, 100, 101, 102, 103] (by decide +kernel) (by decide +kernel)) (goodIn_sub (fun _ h => List.mem_cons_of_mem _ (List.mem_append_right _ h)) (by decide +kernel))
set_option maxRecDepth 20000 in
theorem gL_areAlike_X5_owner : GoodIn wsL_areAlike (wsV RL 63 RX5 yX5_owner wsX5_owner) := goodIn_app (goodIn_of _ (by decide +kernel)) ggL_areAlike_X5_owner
theorem dL_areAlike_0 : decode cL_areAlike 0 = .ok (.aload_n 0, 1) := by decide +kernel
theorem dL_areAlike_1 : decode cL_areAlike 1 = .ok (.invokevirtual 90, 3) := by decide +kernel
theorem dL_areAlike_4 : decode cL_areAlike 4 = .ok (.aload_n 1, 1) := by decide +kernel
theorem dL_areAlike_5 : decode cL_areAlike 5 = .ok (.invokevirtual 90, 3) := by decide +kernel
theorem dL_areAlike_8 : decode cL_areAlike 8 = .ok (.if_icmp .ne 55, 3) := by decide +kernel
theorem dL_areAlike_11 : decode cL_areAlike 11 = .ok (.aload_n 0, 1) := by decide +kernel
theorem dL_areAlike_12 : decode cL_areAlike 12 = .ok (.invokevirtual 93, 3) := by decide +kernel
theorem dL_areAlike_15 : decode cL_areAlike 15 = .ok (.aload_n 1, 1) := by decide +kernel
theorem dL_areAlike_16 : decode cL_areAlike 16 = .ok (.invokevirtual 93, 3) := by decide +kernel
theorem dL_areAlike_19 : decode cL_areAlike 19 = .ok (.if_icmp .ne 44, 3) := by decide +kernel
theorem dL_areAlike_22 : decode cL_areAlike 22 = .ok (.aload_n 0, 1) := by decide +kernel
theorem dL_areAlike_23 : decode cL_areAlike 23 = .ok (.invokevirtual 59, 3) := by decide +kernel
theorem dL_areAlike_26 : decode cL_areAlike 26 = .ok (.aload_n 1, 1) := by decide +kernel
theorem dL_areAlike_27 : decode cL_areAlike 27 = .ok (.invokevirtual 59, 3) := by decide +kernel
theorem dL_areAlike_30 : decode cL_areAlike 30 = .ok (.if_icmp .ne 33, 3) := by decide +kernel
theorem dL_areAlike_33 : decode cL_areAlike 33 = .ok (.aload_n 0, 1) := by decide +kernel
theorem dL_areAlike_34 : decode cL_areAlike 34 = .ok (.iconst 0, 1) := by decide +kernel
theorem dL_areAlike_35 : decode cL_areAlike 35 = .ok (.invokestatic 96, 3) := by decide +kernel
theorem dL_areAlike_38 : decode cL_areAlike 38 = .ok (.aload_n 1, 1) := by decide +kernel
theorem dL_areAlike_39 : decode cL_areAlike 39 = .ok (.iconst 0, 1) := by decide +kernel
theorem dL_areAlike_40 : decode cL_areAlike 40 = .ok (.invokestatic 96, 3) := by decide +kernel
theorem dL_areAlike_43 : decode cL_areAlike 43 = .ok (.if_icmp .ne 20, 3) := by decide +kernel
theorem dL_areAlike_46 : decode cL_areAlike 46 = .ok (.aload_n 0, 1) := by decide +kernel
theorem dL_areAlike_47 : decode cL_areAlike 47 = .ok (.iconst 2, 1) := by decide +kernel
theorem dL_areAlike_48 : decode cL_areAlike 48 = .ok (.invokestatic 96, 3) := by decide +kernel
theorem dL_areAlike_51 : decode cL_areAlike 51 = .ok (.aload_n 1, 1) := by decide +kernel
theorem dL_areAlike_52 : decode cL_areAlike 52 = .ok (.iconst 2, 1) := by decide +kernel
theorem dL_areAlike_53 : decode cL_areAlike 53 = .ok (.invokestatic 96, 3) := by decide +kernel
theorem dL_areAlike_56 : decode cL_areAlike 56 = .ok (.if_icmp .ne 7, 3) := by decide +kernel
theorem dL_areAlike_59 : decode cL_areAlike 59 = .ok (.iconst 1, 1) := by decide +kernel
theorem dL_areAlike_60 : decode cL_areAlike 60 = .ok (.goto 4, 3) := by decide +kernel
theorem dL_areAlike_63 : decode cL_areAlike 63 = .ok (.iconst 0, 1) := by decide +kernel
theorem dL_areAlike_64 : decode cL_areAlike 64 = .ok (.istore_n 2, 1) := by decide +kernel
theorem dL_areAlike_65 : decode cL_areAlike 65 = .ok (.iconst 0, 1) := by decide +kernel
theorem dL_areAlike_66 : decode cL_areAlike 66 = .ok (.istore_n 3, 1) := by decide +kernel
theorem dL_areAlike_67 : decode cL_areAlike 67 = .ok (.iload_n 3, 1) := by decide +kernel
theorem dL_areAlike_68 : decode cL_areAlike 68 = .ok (.bipush 8, 2) := by decide +kernel
theorem dL_areAlike_70 : decode cL_areAlike 70 = .ok (.if_icmp .ge 45, 3) := by decide +kernel
theorem dL_areAlike_73 : decode cL_areAlike 73 = .ok (.iload_n 2, 1) := by decide +kernel
theorem dL_areAlike_74 : decode cL_areAlike 74 = .ok (.ifCond .eq 41, 3) := by decide +kernel
theorem dL_areAlike_77 : decode cL_areAlike 77 = .ok (.aload_n 0, 1) := by decide +kernel
theorem dL_areAlike_78 : decode cL_areAlike 78 = .ok (.iload_n 3, 1) := by decide +kernel
theorem dL_areAlike_79 : decode cL_areAlike 79 = .ok (.invokevirtual 98, 3) := by decide +kernel
theorem dL_areAlike_82 : decode cL_areAlike 82 = .ok (.aload_n 1, 1) := by decide +kernel
theorem dL_areAlike_83 : decode cL_areAlike 83 = .ok (.iload_n 3, 1) := by decide +kernel
theorem dL_areAlike_84 : decode cL_areAlike 84 = .ok (.invokevirtual 98, 3) := by decide +kernel
theorem dL_areAlike_87 : decode cL_areAlike 87 = .ok (.if_icmp .ne 20, 3) := by decide +kernel
theorem dL_areAlike_90 : decode cL_areAlike 90 = .ok (.aload_n 0, 1) := by decide +kernel
theorem dL_areAlike_91 : decode cL_areAlike 91 = .ok (.iload_n 3, 1) := by decide +kernel
theorem dL_areAlike_92 : decode cL_areAlike 92 = .ok (.invokevirtual 101, 3) := by decide +kernel
theorem dL_areAlike_95 : decode cL_areAlike 95 = .ok (.aload_n 1, 1) := by decide +kernel
theorem dL_areAlike_96 : decode cL_areAlike 96 = .ok (.iload_n 3, 1) := by decide +kernel
theorem dL_areAlike_97 : decode cL_areAlike 97 = .ok (.invokevirtual 101, 3) := by decide +kernel
theorem dL_areAlike_100 : decode cL_areAlike 100 = .ok (.if_icmp .ne 7, 3) := by decide +kernel
theorem dL_areAlike_103 : decode cL_areAlike 103 = .ok (.iconst 1, 1) := by decide +kernel
theorem dL_areAlike_104 : decode cL_areAlike 104 = .ok (.goto 4, 3) := by decide +kernel
theorem dL_areAlike_107 : decode cL_areAlike 107 = .ok (.iconst 0, 1) := by decide +kernel
theorem dL_areAlike_108 : decode cL_areAlike 108 = .ok (.istore_n 2, 1) := by decide +kernel
theorem dL_areAlike_109 : decode cL_areAlike 109 = .ok (.iinc 3 1, 3) := by decide +kernel
theorem dL_areAlike_112 : decode cL_areAlike 112 = .ok (.goto (-45), 3) := by decide +kernel
theorem dL_areAlike_115 : decode cL_areAlike 115 = .ok (.iconst 0, 1) := by decide +kernel
theorem dL_areAlike_116 : decode cL_areAlike 116 = .ok (.istore_n 3, 1) := by decide +kernel
theorem dL_areAlike_117 : decode cL_areAlike 117 = .ok (.iload_n 3, 1) := by decide +kernel
theorem dL_areAlike_118 : decode cL_areAlike 118 = .ok (.bipush 60, 2) := by decide +kernel
theorem dL_areAlike_120 : decode cL_areAlike 120 = .ok (.if_icmp .ge 45, 3) := by decide +kernel
theorem dL_areAlike_123 : decode cL_areAlike 123 = .ok (.iload_n 2, 1) := by decide +kernel
theorem dL_areAlike_124 : decode cL_areAlike 124 = .ok (.ifCond .eq 41, 3) := by decide +kernel
theorem dL_areAlike_127 : decode cL_areAlike 127 = .ok (.aload_n 0, 1) := by decide +kernel
theorem dL_areAlike_128 : decode cL_areAlike 128 = .ok (.iload_n 3, 1) := by decide +kernel
theorem dL_areAlike_129 : decode cL_areAlike 129 = .ok (.invokevirtual 104, 3) := by decide +kernel
theorem dL_areAlike_132 : decode cL_areAlike 132 = .ok (.aload_n 1, 1) := by decide +kernel
theorem dL_areAlike_133 : decode cL_areAlike 133 = .ok (.iload_n 3, 1) := by decide +kernel
theorem dL_areAlike_134 : decode cL_areAlike 134 = .ok (.invokevirtual 104, 3) := by decide +kernel
theorem dL_areAlike_137 : decode cL_areAlike 137 = .ok (.if_icmp .ne 20, 3) := by decide +kernel
theorem dL_areAlike_140 : decode cL_areAlike 140 = .ok (.aload_n 0, 1) := by decide +kernel
theorem dL_areAlike_141 : decode cL_areAlike 141 = .ok (.iload_n 3, 1) := by decide +kernel
theorem dL_areAlike_142 : decode cL_areAlike 142 = .ok (.invokevirtual 63, 3) := by decide +kernel
theorem dL_areAlike_145 : decode cL_areAlike 145 = .ok (.aload_n 1, 1) := by decide +kernel
theorem dL_areAlike_146 : decode cL_areAlike 146 = .ok (.iload_n 3, 1) := by decide +kernel
theorem dL_areAlike_147 : decode cL_areAlike 147 = .ok (.invokevirtual 63, 3) := by decide +kernel
theorem dL_areAlike_150 : decode cL_areAlike 150 = .ok (.if_icmp .ne 7, 3) := by decide +kernel
theorem dL_areAlike_153 : decode cL_areAlike 153 = .ok (.iconst 1, 1) := by decide +kernel
theorem dL_areAlike_154 : decode cL_areAlike 154 = .ok (.goto 4, 3) := by decide +kernel
theorem dL_areAlike_157 : decode cL_areAlike 157 = .ok (.iconst 0, 1) := by decide +kernel
theorem dL_areAlike_158 : decode cL_areAlike 158 = .ok (.istore_n 2, 1) := by decide +kernel
theorem dL_areAlike_159 : decode cL_areAlike 159 = .ok (.iinc 3 1, 3) := by decide +kernel
theorem dL_areAlike_162 : decode cL_areAlike 162 = .ok (.goto (-45), 3) := by decide +kernel
theorem dL_areAlike_165 : decode cL_areAlike 165 = .ok (.iload_n 2, 1) := by decide +kernel
theorem dL_areAlike_166 : decode cL_areAlike 166 = .ok (.ireturn, 1) := by decide +kernel
set_option maxRecDepth 20000 in
theorem ggL_areSeatsSo_X5_state : GoodIn wsL_areSeatsSo wsX5_state := goodIn_ca (goodIn_r _ [5, 6, 7, 8, 4, 9, 10, 11, 12, 13, 14, 15, 16, 17, 18, 71, 72, 73, 74, 75, 76, 77, 78, 79, 80, 81, 82, 83, 84] (by decide +kernel) (by decide +kernel)) (goodIn_sub (fun _ h => List.mem_cons_of_mem _ (List.mem_append_left _ (List.mem_append_right _ h))) (by decide +kernel))
set_option maxRecDepth 20000 in
theorem gL_areSeatsSo_X5_state : GoodIn wsL_areSeatsSo (wsV RL 104 RX5 yX5_state wsX5_state) := goodIn_app (goodIn_of _ (by decide +kernel)) ggL_areSeatsSo_X5_state
set_option maxRecDepth 20000 in
theorem ggL_areSeatsSo_X5_owner : GoodIn wsL_areSeatsSo wsX5_owner := goodIn_ca (goodIn_r _ [22, 6, 7, 8, 4, 9, 10, 11, 71, 72, 73, 74, 75, 76, 77, 78, 79, 80, 81, 82, 83, 84] (by decide +kernel) (by decide +kernel)) (goodIn_sub (fun _ h => List.mem_cons_of_mem _ (List.mem_append_left _ (List.mem_append_right _ h))) (by decide +kernel))
set_option maxRecDepth 20000 in
theorem gL_areSeatsSo_X5_owner : GoodIn wsL_areSeatsSo (wsV RL 63 RX5 yX5_owner wsX5_owner) := goodIn_app (goodIn_of _ (by decide +kernel)) ggL_areSeatsSo_X5_owner
set_option maxRecDepth 20000 in
theorem ggL_areSeatsSo_X5_ownerBySales : GoodIn wsL_areSeatsSo wsX5_ownerBySales := goodIn_ca (goodIn_r _ [26, 27, 7, 8, 4, 9, 10, 11, 28, 29, 30, 31, 32, 33, 34, 35, 71, 72, 73, 74, 75, 76, 77, 78, 79, 85, 86, 87, 88] (by decide +kernel) (by decide +kernel)) (goodIn_sub (fun _ h => List.mem_cons_of_mem _ (List.mem_append_left _ (List.mem_append_right _ h))) (by decide +kernel))
set_option maxRecDepth 20000 in
theorem gL_areSeatsSo_X5_ownerBySales : GoodIn wsL_areSeatsSo (wsV RL 107 RX5 yX5_ownerBySales wsX5_ownerBySales) := goodIn_app (goodIn_of _ (by decide +kernel)) ggL_areSeatsSo_X5_ownerBySales
set_option maxRecDepth 20000 in
theorem ggL_areSeatsSo_X5_isSingle : GoodIn wsL_areSeatsSo wsX5_isSingle := goodIn_ca (goodIn_r _ [39, 6, 7, 8, 4, 9, 10, 11, 40, 13, 41, 42, 43, 12, 14, 15, 16, 17, 18, 71, 72, 73, 74, 75, 76, 77, 78, 79, 80, 81, 82, 83, 84] (by decide +kernel) (by decide +kernel)) (goodIn_sub (fun _ h => List.mem_cons_of_mem _ (List.mem_append_left _ (List.mem_append_right _ h))) (by decide +kernel))
set_option maxRecDepth 20000 in
theorem gL_areSeatsSo_X5_isSingle : GoodIn wsL_areSeatsSo (wsV RL 110 RX5 yX5_isSingle wsX5_isSingle) := goodIn_app (goodIn_of _ (by decide +kernel)) ggL_areSeatsSo_X5_isSingle
set_option maxRecDepth 20000 in
theorem ggL_areSeatsSo_X5_lapses : GoodIn wsL_areSeatsSo wsX5_lapses := goodIn_ca (goodIn_r _ [47, 48, 49, 50, 4, 51, 10, 11, 52, 53, 54, 55, 56, 71, 72, 73, 74, 75, 76, 77, 78, 79, 89, 90, 91, 92, 93, 94, 95] (by decide +kernel) (by decide +kernel)) (goodIn_sub (fun _ h => List.mem_cons_of_mem _ (List.mem_append_left _ (List.mem_append_right _ h))) (by decide +kernel))
set_option maxRecDepth 20000 in
theorem gL_areSeatsSo_X5_lapses : GoodIn wsL_areSeatsSo (wsV RL 101 RX5 yX5_lapses wsX5_lapses) := goodIn_app (goodIn_of _ (by decide +kernel)) ggL_areSeatsSo_X5_lapses
set_option maxRecDepth 20000 in
theorem ggL_areSeatsSo_X5_time : GoodIn wsL_areSeatsSo wsX5_time := goodIn_r _ [60, 61, 71, 72, 73, 74, 75, 76, 77, 78, 79] (by decide +kernel) (by decide +kernel)
set_option maxRecDepth 20000 in
theorem gL_areSeatsSo_X5_time : GoodIn wsL_areSeatsSo (wsV RL 90 RX5 yX5_time wsX5_time) := goodIn_app (goodIn_of _ (by decide +kernel)) ggL_areSeatsSo_X5_time
set_option maxRecDepth 20000 in
theorem ggL_areSeatsSo_X5_firstOpen : GoodIn wsL_areSeatsSo wsX5_firstOpen := goodIn_ca (goodIn_ca (goodIn_r _ [65, 66, 67, 6, 68, 69, 4, 70, 10, 11, 40, 13, 41, 42, 43, 12, 14, 15, 16, 17, 18, 71, 72, 73, 74, 75, 76, 77, 78, 79, 80, 81, 82, 83, 84] (by decide +kernel) (by decide +kernel)) (goodIn_sub (fun _ h => List.mem_cons_of_mem _ (List.mem_append_right _ h)) (by decide +kernel))) (goodIn_sub (fun _ h => List.mem_cons_of_mem _ (List.mem_append_left _ (List.mem_append_right _ h))) (by decide +kernel))
set_option maxRecDepth 20000 in
theorem gL_areSeatsSo_X5_firstOpen : GoodIn wsL_areSeatsSo (wsV RL 114 RX5 yX5_firstOpen wsX5_firstOpen) := goodIn_app (goodIn_of _ (by decide +kernel)) ggL_areSeatsSo_X5_firstOpen
theorem dL_areSeatsSo_0 : decode cL_areSeatsSo 0 = .ok (.iconst 0, 1) := by decide +kernel
theorem dL_areSeatsSo_1 : decode cL_areSeatsSo 1 = .ok (.istore_n 2, 1) := by decide +kernel
theorem dL_areSeatsSo_2 : decode cL_areSeatsSo 2 = .ok (.iconst 0, 1) := by decide +kernel
theorem dL_areSeatsSo_3 : decode cL_areSeatsSo 3 = .ok (.istore_n 3, 1) := by decide +kernel
theorem dL_areSeatsSo_4 : decode cL_areSeatsSo 4 = .ok (.iconst 0, 1) := by decide +kernel
theorem dL_areSeatsSo_5 : decode cL_areSeatsSo 5 = .ok (.istore 4, 2) := by decide +kernel
theorem dL_areSeatsSo_7 : decode cL_areSeatsSo 7 = .ok (.iload 4, 2) := by decide +kernel
theorem dL_areSeatsSo_9 : decode cL_areSeatsSo 9 = .ok (.bipush 60, 2) := by decide +kernel
theorem dL_areSeatsSo_11 : decode cL_areSeatsSo 11 = .ok (.if_icmp .ge 192, 3) := by decide +kernel
theorem dL_areSeatsSo_14 : decode cL_areSeatsSo 14 = .ok (.aload_n 0, 1) := by decide +kernel
theorem dL_areSeatsSo_15 : decode cL_areSeatsSo 15 = .ok (.iload 4, 2) := by decide +kernel
theorem dL_areSeatsSo_17 : decode cL_areSeatsSo 17 = .ok (.invokevirtual 104, 3) := by decide +kernel
theorem dL_areSeatsSo_20 : decode cL_areSeatsSo 20 = .ok (.istore 5, 2) := by decide +kernel
theorem dL_areSeatsSo_22 : decode cL_areSeatsSo 22 = .ok (.iload 4, 2) := by decide +kernel
theorem dL_areSeatsSo_24 : decode cL_areSeatsSo 24 = .ok (.bipush 10, 2) := by decide +kernel
theorem dL_areSeatsSo_26 : decode cL_areSeatsSo 26 = .ok (.irem, 1) := by decide +kernel
theorem dL_areSeatsSo_27 : decode cL_areSeatsSo 27 = .ok (.istore 6, 2) := by decide +kernel
theorem dL_areSeatsSo_29 : decode cL_areSeatsSo 29 = .ok (.iload 5, 2) := by decide +kernel
theorem dL_areSeatsSo_31 : decode cL_areSeatsSo 31 = .ok (.iconst 3, 1) := by decide +kernel
theorem dL_areSeatsSo_32 : decode cL_areSeatsSo 32 = .ok (.irem, 1) := by decide +kernel
theorem dL_areSeatsSo_33 : decode cL_areSeatsSo 33 = .ok (.ifCond .ne 7, 3) := by decide +kernel
theorem dL_areSeatsSo_36 : decode cL_areSeatsSo 36 = .ok (.iconst 1, 1) := by decide +kernel
theorem dL_areSeatsSo_37 : decode cL_areSeatsSo 37 = .ok (.goto 4, 3) := by decide +kernel
theorem dL_areSeatsSo_40 : decode cL_areSeatsSo 40 = .ok (.iconst 0, 1) := by decide +kernel
theorem dL_areSeatsSo_41 : decode cL_areSeatsSo 41 = .ok (.istore 7, 2) := by decide +kernel
theorem dL_areSeatsSo_43 : decode cL_areSeatsSo 43 = .ok (.iload 6, 2) := by decide +kernel
theorem dL_areSeatsSo_45 : decode cL_areSeatsSo 45 = .ok (.ifCond .le 20, 3) := by decide +kernel
theorem dL_areSeatsSo_48 : decode cL_areSeatsSo 48 = .ok (.aload_n 0, 1) := by decide +kernel
theorem dL_areSeatsSo_49 : decode cL_areSeatsSo 49 = .ok (.iload 4, 2) := by decide +kernel
theorem dL_areSeatsSo_51 : decode cL_areSeatsSo 51 = .ok (.iconst 1, 1) := by decide +kernel
theorem dL_areSeatsSo_52 : decode cL_areSeatsSo 52 = .ok (.isub, 1) := by decide +kernel
theorem dL_areSeatsSo_53 : decode cL_areSeatsSo 53 = .ok (.invokevirtual 104, 3) := by decide +kernel
theorem dL_areSeatsSo_56 : decode cL_areSeatsSo 56 = .ok (.iconst 3, 1) := by decide +kernel
theorem dL_areSeatsSo_57 : decode cL_areSeatsSo 57 = .ok (.irem, 1) := by decide +kernel
theorem dL_areSeatsSo_58 : decode cL_areSeatsSo 58 = .ok (.ifCond .ne 7, 3) := by decide +kernel
theorem dL_areSeatsSo_61 : decode cL_areSeatsSo 61 = .ok (.iconst 1, 1) := by decide +kernel
theorem dL_areSeatsSo_62 : decode cL_areSeatsSo 62 = .ok (.goto 4, 3) := by decide +kernel
theorem dL_areSeatsSo_65 : decode cL_areSeatsSo 65 = .ok (.iconst 0, 1) := by decide +kernel
theorem dL_areSeatsSo_66 : decode cL_areSeatsSo 66 = .ok (.istore 8, 2) := by decide +kernel
theorem dL_areSeatsSo_68 : decode cL_areSeatsSo 68 = .ok (.iload 6, 2) := by decide +kernel
theorem dL_areSeatsSo_70 : decode cL_areSeatsSo 70 = .ok (.bipush 9, 2) := by decide +kernel
theorem dL_areSeatsSo_72 : decode cL_areSeatsSo 72 = .ok (.if_icmp .ge 20, 3) := by decide +kernel
theorem dL_areSeatsSo_75 : decode cL_areSeatsSo 75 = .ok (.aload_n 0, 1) := by decide +kernel
theorem dL_areSeatsSo_76 : decode cL_areSeatsSo 76 = .ok (.iload 4, 2) := by decide +kernel
theorem dL_areSeatsSo_78 : decode cL_areSeatsSo 78 = .ok (.iconst 1, 1) := by decide +kernel
theorem dL_areSeatsSo_79 : decode cL_areSeatsSo 79 = .ok (.iadd, 1) := by decide +kernel
theorem dL_areSeatsSo_80 : decode cL_areSeatsSo 80 = .ok (.invokevirtual 104, 3) := by decide +kernel
theorem dL_areSeatsSo_83 : decode cL_areSeatsSo 83 = .ok (.iconst 3, 1) := by decide +kernel
theorem dL_areSeatsSo_84 : decode cL_areSeatsSo 84 = .ok (.irem, 1) := by decide +kernel
theorem dL_areSeatsSo_85 : decode cL_areSeatsSo 85 = .ok (.ifCond .ne 7, 3) := by decide +kernel
theorem dL_areSeatsSo_88 : decode cL_areSeatsSo 88 = .ok (.iconst 1, 1) := by decide +kernel
theorem dL_areSeatsSo_89 : decode cL_areSeatsSo 89 = .ok (.goto 4, 3) := by decide +kernel
theorem dL_areSeatsSo_92 : decode cL_areSeatsSo 92 = .ok (.iconst 0, 1) := by decide +kernel
theorem dL_areSeatsSo_93 : decode cL_areSeatsSo 93 = .ok (.istore 9, 2) := by decide +kernel
theorem dL_areSeatsSo_95 : decode cL_areSeatsSo 95 = .ok (.aload_n 0, 1) := by decide +kernel
theorem dL_areSeatsSo_96 : decode cL_areSeatsSo 96 = .ok (.iload 4, 2) := by decide +kernel
theorem dL_areSeatsSo_98 : decode cL_areSeatsSo 98 = .ok (.invokevirtual 63, 3) := by decide +kernel
theorem dL_areSeatsSo_101 : decode cL_areSeatsSo 101 = .ok (.aload_n 0, 1) := by decide +kernel
theorem dL_areSeatsSo_102 : decode cL_areSeatsSo 102 = .ok (.iload 4, 2) := by decide +kernel
theorem dL_areSeatsSo_104 : decode cL_areSeatsSo 104 = .ok (.invokevirtual 107, 3) := by decide +kernel
theorem dL_areSeatsSo_107 : decode cL_areSeatsSo 107 = .ok (.if_icmp .ne 66, 3) := by decide +kernel
theorem dL_areSeatsSo_110 : decode cL_areSeatsSo 110 = .ok (.iload 5, 2) := by decide +kernel
theorem dL_areSeatsSo_112 : decode cL_areSeatsSo 112 = .ok (.ifCond .ne 13, 3) := by decide +kernel
theorem dL_areSeatsSo_115 : decode cL_areSeatsSo 115 = .ok (.aload_n 0, 1) := by decide +kernel
theorem dL_areSeatsSo_116 : decode cL_areSeatsSo 116 = .ok (.iload 4, 2) := by decide +kernel
theorem dL_areSeatsSo_118 : decode cL_areSeatsSo 118 = .ok (.invokevirtual 63, 3) := by decide +kernel
theorem dL_areSeatsSo_121 : decode cL_areSeatsSo 121 = .ok (.iconst (-1), 1) := by decide +kernel
theorem dL_areSeatsSo_122 : decode cL_areSeatsSo 122 = .ok (.if_icmp .ne 51, 3) := by decide +kernel
theorem dL_areSeatsSo_125 : decode cL_areSeatsSo 125 = .ok (.iload 5, 2) := by decide +kernel
theorem dL_areSeatsSo_127 : decode cL_areSeatsSo 127 = .ok (.iconst 2, 1) := by decide +kernel
theorem dL_areSeatsSo_128 : decode cL_areSeatsSo 128 = .ok (.if_icmp .lt 12, 3) := by decide +kernel
theorem dL_areSeatsSo_131 : decode cL_areSeatsSo 131 = .ok (.aload_n 0, 1) := by decide +kernel
theorem dL_areSeatsSo_132 : decode cL_areSeatsSo 132 = .ok (.iload 4, 2) := by decide +kernel
theorem dL_areSeatsSo_134 : decode cL_areSeatsSo 134 = .ok (.invokevirtual 63, 3) := by decide +kernel
theorem dL_areSeatsSo_137 : decode cL_areSeatsSo 137 = .ok (.ifCond .lt 36, 3) := by decide +kernel
theorem dL_areSeatsSo_140 : decode cL_areSeatsSo 140 = .ok (.aload_n 0, 1) := by decide +kernel
theorem dL_areSeatsSo_141 : decode cL_areSeatsSo 141 = .ok (.iload 4, 2) := by decide +kernel
theorem dL_areSeatsSo_143 : decode cL_areSeatsSo 143 = .ok (.invokevirtual 110, 3) := by decide +kernel
theorem dL_areSeatsSo_146 : decode cL_areSeatsSo 146 = .ok (.iload 7, 2) := by decide +kernel
theorem dL_areSeatsSo_148 : decode cL_areSeatsSo 148 = .ok (.ifCond .eq 17, 3) := by decide +kernel
theorem dL_areSeatsSo_151 : decode cL_areSeatsSo 151 = .ok (.iload 8, 2) := by decide +kernel
theorem dL_areSeatsSo_153 : decode cL_areSeatsSo 153 = .ok (.ifCond .ne 12, 3) := by decide +kernel
theorem dL_areSeatsSo_156 : decode cL_areSeatsSo 156 = .ok (.iload 9, 2) := by decide +kernel
theorem dL_areSeatsSo_158 : decode cL_areSeatsSo 158 = .ok (.ifCond .ne 7, 3) := by decide +kernel
theorem dL_areSeatsSo_161 : decode cL_areSeatsSo 161 = .ok (.iconst 1, 1) := by decide +kernel
theorem dL_areSeatsSo_162 : decode cL_areSeatsSo 162 = .ok (.goto 4, 3) := by decide +kernel
theorem dL_areSeatsSo_165 : decode cL_areSeatsSo 165 = .ok (.iconst 0, 1) := by decide +kernel
theorem dL_areSeatsSo_166 : decode cL_areSeatsSo 166 = .ok (.if_icmp .ne 7, 3) := by decide +kernel
theorem dL_areSeatsSo_169 : decode cL_areSeatsSo 169 = .ok (.iconst 1, 1) := by decide +kernel
theorem dL_areSeatsSo_170 : decode cL_areSeatsSo 170 = .ok (.goto 4, 3) := by decide +kernel
theorem dL_areSeatsSo_173 : decode cL_areSeatsSo 173 = .ok (.iconst 0, 1) := by decide +kernel
theorem dL_areSeatsSo_174 : decode cL_areSeatsSo 174 = .ok (.istore 10, 2) := by decide +kernel
theorem dL_areSeatsSo_176 : decode cL_areSeatsSo 176 = .ok (.iload_n 2, 1) := by decide +kernel
theorem dL_areSeatsSo_177 : decode cL_areSeatsSo 177 = .ok (.iload 5, 2) := by decide +kernel
theorem dL_areSeatsSo_179 : decode cL_areSeatsSo 179 = .ok (.iconst 1, 1) := by decide +kernel
theorem dL_areSeatsSo_180 : decode cL_areSeatsSo 180 = .ok (.if_icmp .ne 7, 3) := by decide +kernel
theorem dL_areSeatsSo_183 : decode cL_areSeatsSo 183 = .ok (.iconst 1, 1) := by decide +kernel
theorem dL_areSeatsSo_184 : decode cL_areSeatsSo 184 = .ok (.goto 4, 3) := by decide +kernel
theorem dL_areSeatsSo_187 : decode cL_areSeatsSo 187 = .ok (.iconst 0, 1) := by decide +kernel
theorem dL_areSeatsSo_188 : decode cL_areSeatsSo 188 = .ok (.iadd, 1) := by decide +kernel
theorem dL_areSeatsSo_189 : decode cL_areSeatsSo 189 = .ok (.istore_n 2, 1) := by decide +kernel
theorem dL_areSeatsSo_190 : decode cL_areSeatsSo 190 = .ok (.iload 10, 2) := by decide +kernel
theorem dL_areSeatsSo_192 : decode cL_areSeatsSo 192 = .ok (.ifCond .ne 5, 3) := by decide +kernel
theorem dL_areSeatsSo_195 : decode cL_areSeatsSo 195 = .ok (.iconst 0, 1) := by decide +kernel
theorem dL_areSeatsSo_196 : decode cL_areSeatsSo 196 = .ok (.ireturn, 1) := by decide +kernel
theorem dL_areSeatsSo_197 : decode cL_areSeatsSo 197 = .ok (.iinc 4 1, 3) := by decide +kernel
theorem dL_areSeatsSo_200 : decode cL_areSeatsSo 200 = .ok (.goto (-193), 3) := by decide +kernel
theorem dL_areSeatsSo_203 : decode cL_areSeatsSo 203 = .ok (.iconst 0, 1) := by decide +kernel
theorem dL_areSeatsSo_204 : decode cL_areSeatsSo 204 = .ok (.istore 4, 2) := by decide +kernel
theorem dL_areSeatsSo_206 : decode cL_areSeatsSo 206 = .ok (.iload 4, 2) := by decide +kernel
theorem dL_areSeatsSo_208 : decode cL_areSeatsSo 208 = .ok (.bipush 8, 2) := by decide +kernel
theorem dL_areSeatsSo_210 : decode cL_areSeatsSo 210 = .ok (.if_icmp .ge 66, 3) := by decide +kernel
theorem dL_areSeatsSo_213 : decode cL_areSeatsSo 213 = .ok (.iload_n 3, 1) := by decide +kernel
theorem dL_areSeatsSo_214 : decode cL_areSeatsSo 214 = .ok (.aload_n 0, 1) := by decide +kernel
theorem dL_areSeatsSo_215 : decode cL_areSeatsSo 215 = .ok (.iload 4, 2) := by decide +kernel
theorem dL_areSeatsSo_217 : decode cL_areSeatsSo 217 = .ok (.invokevirtual 101, 3) := by decide +kernel
theorem dL_areSeatsSo_220 : decode cL_areSeatsSo 220 = .ok (.ifCond .lt 7, 3) := by decide +kernel
theorem dL_areSeatsSo_223 : decode cL_areSeatsSo 223 = .ok (.iconst 1, 1) := by decide +kernel
theorem dL_areSeatsSo_224 : decode cL_areSeatsSo 224 = .ok (.goto 4, 3) := by decide +kernel
theorem dL_areSeatsSo_227 : decode cL_areSeatsSo 227 = .ok (.iconst 0, 1) := by decide +kernel
theorem dL_areSeatsSo_228 : decode cL_areSeatsSo 228 = .ok (.iadd, 1) := by decide +kernel
theorem dL_areSeatsSo_229 : decode cL_areSeatsSo 229 = .ok (.istore_n 3, 1) := by decide +kernel
theorem dL_areSeatsSo_230 : decode cL_areSeatsSo 230 = .ok (.aload_n 0, 1) := by decide +kernel
theorem dL_areSeatsSo_231 : decode cL_areSeatsSo 231 = .ok (.iload 4, 2) := by decide +kernel
theorem dL_areSeatsSo_233 : decode cL_areSeatsSo 233 = .ok (.invokevirtual 101, 3) := by decide +kernel
theorem dL_areSeatsSo_236 : decode cL_areSeatsSo 236 = .ok (.ifCond .lt 34, 3) := by decide +kernel
theorem dL_areSeatsSo_239 : decode cL_areSeatsSo 239 = .ok (.aload_n 0, 1) := by decide +kernel
theorem dL_areSeatsSo_240 : decode cL_areSeatsSo 240 = .ok (.iload 4, 2) := by decide +kernel
theorem dL_areSeatsSo_242 : decode cL_areSeatsSo 242 = .ok (.invokevirtual 101, 3) := by decide +kernel
theorem dL_areSeatsSo_245 : decode cL_areSeatsSo 245 = .ok (.aload_n 0, 1) := by decide +kernel
theorem dL_areSeatsSo_246 : decode cL_areSeatsSo 246 = .ok (.invokevirtual 90, 3) := by decide +kernel
theorem dL_areSeatsSo_249 : decode cL_areSeatsSo 249 = .ok (.if_icmp .le 19, 3) := by decide +kernel
theorem dL_areSeatsSo_252 : decode cL_areSeatsSo 252 = .ok (.aload_n 0, 1) := by decide +kernel
theorem dL_areSeatsSo_253 : decode cL_areSeatsSo 253 = .ok (.iload 4, 2) := by decide +kernel
theorem dL_areSeatsSo_255 : decode cL_areSeatsSo 255 = .ok (.invokevirtual 101, 3) := by decide +kernel
theorem dL_areSeatsSo_258 : decode cL_areSeatsSo 258 = .ok (.aload_n 0, 1) := by decide +kernel
theorem dL_areSeatsSo_259 : decode cL_areSeatsSo 259 = .ok (.invokevirtual 90, 3) := by decide +kernel
theorem dL_areSeatsSo_262 : decode cL_areSeatsSo 262 = .ok (.bipush 30, 2) := by decide +kernel
theorem dL_areSeatsSo_264 : decode cL_areSeatsSo 264 = .ok (.iadd, 1) := by decide +kernel
theorem dL_areSeatsSo_265 : decode cL_areSeatsSo 265 = .ok (.if_icmp .le 5, 3) := by decide +kernel
theorem dL_areSeatsSo_268 : decode cL_areSeatsSo 268 = .ok (.iconst 0, 1) := by decide +kernel
theorem dL_areSeatsSo_269 : decode cL_areSeatsSo 269 = .ok (.ireturn, 1) := by decide +kernel
theorem dL_areSeatsSo_270 : decode cL_areSeatsSo 270 = .ok (.iinc 4 1, 3) := by decide +kernel
theorem dL_areSeatsSo_273 : decode cL_areSeatsSo 273 = .ok (.goto (-67), 3) := by decide +kernel
theorem dL_areSeatsSo_276 : decode cL_areSeatsSo 276 = .ok (.iconst 0, 1) := by decide +kernel
theorem dL_areSeatsSo_277 : decode cL_areSeatsSo 277 = .ok (.istore 4, 2) := by decide +kernel
theorem dL_areSeatsSo_279 : decode cL_areSeatsSo 279 = .ok (.iload 4, 2) := by decide +kernel
theorem dL_areSeatsSo_281 : decode cL_areSeatsSo 281 = .ok (.bipush 6, 2) := by decide +kernel
theorem dL_areSeatsSo_283 : decode cL_areSeatsSo 283 = .ok (.if_icmp .ge 123, 3) := by decide +kernel
theorem dL_areSeatsSo_286 : decode cL_areSeatsSo 286 = .ok (.aload_n 0, 1) := by decide +kernel
theorem dL_areSeatsSo_287 : decode cL_areSeatsSo 287 = .ok (.iload 4, 2) := by decide +kernel
theorem dL_areSeatsSo_289 : decode cL_areSeatsSo 289 = .ok (.iload_n 1, 1) := by decide +kernel
theorem dL_areSeatsSo_290 : decode cL_areSeatsSo 290 = .ok (.invokevirtual 114, 3) := by decide +kernel
theorem dL_areSeatsSo_293 : decode cL_areSeatsSo 293 = .ok (.istore 5, 2) := by decide +kernel
theorem dL_areSeatsSo_295 : decode cL_areSeatsSo 295 = .ok (.iload 5, 2) := by decide +kernel
theorem dL_areSeatsSo_297 : decode cL_areSeatsSo 297 = .ok (.iconst (-1), 1) := by decide +kernel
theorem dL_areSeatsSo_298 : decode cL_areSeatsSo 298 = .ok (.if_icmp .eq 12, 3) := by decide +kernel
theorem dL_areSeatsSo_301 : decode cL_areSeatsSo 301 = .ok (.iload 5, 2) := by decide +kernel
theorem dL_areSeatsSo_303 : decode cL_areSeatsSo 303 = .ok (.iload_n 1, 1) := by decide +kernel
theorem dL_areSeatsSo_304 : decode cL_areSeatsSo 304 = .ok (.iadd, 1) := by decide +kernel
theorem dL_areSeatsSo_305 : decode cL_areSeatsSo 305 = .ok (.bipush 10, 2) := by decide +kernel
theorem dL_areSeatsSo_307 : decode cL_areSeatsSo 307 = .ok (.if_icmp .gt 7, 3) := by decide +kernel
theorem dL_areSeatsSo_310 : decode cL_areSeatsSo 310 = .ok (.iconst 1, 1) := by decide +kernel
theorem dL_areSeatsSo_311 : decode cL_areSeatsSo 311 = .ok (.goto 4, 3) := by decide +kernel
theorem dL_areSeatsSo_314 : decode cL_areSeatsSo 314 = .ok (.iconst 0, 1) := by decide +kernel
theorem dL_areSeatsSo_315 : decode cL_areSeatsSo 315 = .ok (.istore 6, 2) := by decide +kernel
theorem dL_areSeatsSo_317 : decode cL_areSeatsSo 317 = .ok (.iconst 0, 1) := by decide +kernel
theorem dL_areSeatsSo_318 : decode cL_areSeatsSo 318 = .ok (.istore 7, 2) := by decide +kernel
theorem dL_areSeatsSo_320 : decode cL_areSeatsSo 320 = .ok (.iload 7, 2) := by decide +kernel
theorem dL_areSeatsSo_322 : decode cL_areSeatsSo 322 = .ok (.iload_n 1, 1) := by decide +kernel
theorem dL_areSeatsSo_323 : decode cL_areSeatsSo 323 = .ok (.if_icmp .ge 46, 3) := by decide +kernel
theorem dL_areSeatsSo_326 : decode cL_areSeatsSo 326 = .ok (.iload 5, 2) := by decide +kernel
theorem dL_areSeatsSo_328 : decode cL_areSeatsSo 328 = .ok (.ifCond .lt 41, 3) := by decide +kernel
theorem dL_areSeatsSo_331 : decode cL_areSeatsSo 331 = .ok (.iload 6, 2) := by decide +kernel
theorem dL_areSeatsSo_333 : decode cL_areSeatsSo 333 = .ok (.ifCond .eq 36, 3) := by decide +kernel
theorem dL_areSeatsSo_336 : decode cL_areSeatsSo 336 = .ok (.aload_n 0, 1) := by decide +kernel
theorem dL_areSeatsSo_337 : decode cL_areSeatsSo 337 = .ok (.bipush 10, 2) := by decide +kernel
theorem dL_areSeatsSo_339 : decode cL_areSeatsSo 339 = .ok (.iload 4, 2) := by decide +kernel
theorem dL_areSeatsSo_341 : decode cL_areSeatsSo 341 = .ok (.imul, 1) := by decide +kernel
theorem dL_areSeatsSo_342 : decode cL_areSeatsSo 342 = .ok (.iload 5, 2) := by decide +kernel
theorem dL_areSeatsSo_344 : decode cL_areSeatsSo 344 = .ok (.iadd, 1) := by decide +kernel
theorem dL_areSeatsSo_345 : decode cL_areSeatsSo 345 = .ok (.iload 7, 2) := by decide +kernel
theorem dL_areSeatsSo_347 : decode cL_areSeatsSo 347 = .ok (.iadd, 1) := by decide +kernel
theorem dL_areSeatsSo_348 : decode cL_areSeatsSo 348 = .ok (.invokevirtual 104, 3) := by decide +kernel
theorem dL_areSeatsSo_351 : decode cL_areSeatsSo 351 = .ok (.iconst 3, 1) := by decide +kernel
theorem dL_areSeatsSo_352 : decode cL_areSeatsSo 352 = .ok (.irem, 1) := by decide +kernel
theorem dL_areSeatsSo_353 : decode cL_areSeatsSo 353 = .ok (.ifCond .ne 7, 3) := by decide +kernel
theorem dL_areSeatsSo_356 : decode cL_areSeatsSo 356 = .ok (.iconst 1, 1) := by decide +kernel
theorem dL_areSeatsSo_357 : decode cL_areSeatsSo 357 = .ok (.goto 4, 3) := by decide +kernel
theorem dL_areSeatsSo_360 : decode cL_areSeatsSo 360 = .ok (.iconst 0, 1) := by decide +kernel
theorem dL_areSeatsSo_361 : decode cL_areSeatsSo 361 = .ok (.istore 6, 2) := by decide +kernel
theorem dL_areSeatsSo_363 : decode cL_areSeatsSo 363 = .ok (.iinc 7 1, 3) := by decide +kernel
theorem dL_areSeatsSo_366 : decode cL_areSeatsSo 366 = .ok (.goto (-46), 3) := by decide +kernel
theorem dL_areSeatsSo_369 : decode cL_areSeatsSo 369 = .ok (.iload 6, 2) := by decide +kernel
theorem dL_areSeatsSo_371 : decode cL_areSeatsSo 371 = .ok (.ifCond .eq 27, 3) := by decide +kernel
theorem dL_areSeatsSo_374 : decode cL_areSeatsSo 374 = .ok (.iload 5, 2) := by decide +kernel
theorem dL_areSeatsSo_376 : decode cL_areSeatsSo 376 = .ok (.ifCond .le 24, 3) := by decide +kernel
theorem dL_areSeatsSo_379 : decode cL_areSeatsSo 379 = .ok (.aload_n 0, 1) := by decide +kernel
theorem dL_areSeatsSo_380 : decode cL_areSeatsSo 380 = .ok (.bipush 10, 2) := by decide +kernel
theorem dL_areSeatsSo_382 : decode cL_areSeatsSo 382 = .ok (.iload 4, 2) := by decide +kernel
theorem dL_areSeatsSo_384 : decode cL_areSeatsSo 384 = .ok (.imul, 1) := by decide +kernel
theorem dL_areSeatsSo_385 : decode cL_areSeatsSo 385 = .ok (.iload 5, 2) := by decide +kernel
theorem dL_areSeatsSo_387 : decode cL_areSeatsSo 387 = .ok (.iadd, 1) := by decide +kernel
theorem dL_areSeatsSo_388 : decode cL_areSeatsSo 388 = .ok (.iconst 1, 1) := by decide +kernel
theorem dL_areSeatsSo_389 : decode cL_areSeatsSo 389 = .ok (.isub, 1) := by decide +kernel
theorem dL_areSeatsSo_390 : decode cL_areSeatsSo 390 = .ok (.invokevirtual 104, 3) := by decide +kernel
theorem dL_areSeatsSo_393 : decode cL_areSeatsSo 393 = .ok (.iconst 3, 1) := by decide +kernel
theorem dL_areSeatsSo_394 : decode cL_areSeatsSo 394 = .ok (.irem, 1) := by decide +kernel
theorem dL_areSeatsSo_395 : decode cL_areSeatsSo 395 = .ok (.ifCond .ne 5, 3) := by decide +kernel
theorem dL_areSeatsSo_398 : decode cL_areSeatsSo 398 = .ok (.iconst 0, 1) := by decide +kernel
theorem dL_areSeatsSo_399 : decode cL_areSeatsSo 399 = .ok (.ireturn, 1) := by decide +kernel
theorem dL_areSeatsSo_400 : decode cL_areSeatsSo 400 = .ok (.iinc 4 1, 3) := by decide +kernel
theorem dL_areSeatsSo_403 : decode cL_areSeatsSo 403 = .ok (.goto (-124), 3) := by decide +kernel
theorem dL_areSeatsSo_406 : decode cL_areSeatsSo 406 = .ok (.iload_n 2, 1) := by decide +kernel
theorem dL_areSeatsSo_407 : decode cL_areSeatsSo 407 = .ok (.iload_n 3, 1) := by decide +kernel
theorem dL_areSeatsSo_408 : decode cL_areSeatsSo 408 = .ok (.if_icmp .lt 14, 3) := by decide +kernel
theorem dL_areSeatsSo_411 : decode cL_areSeatsSo 411 = .ok (.iload_n 2, 1) := by decide +kernel
theorem dL_areSeatsSo_412 : decode cL_areSeatsSo 412 = .ok (.iconst 4, 1) := by decide +kernel
theorem dL_areSeatsSo_413 : decode cL_areSeatsSo 413 = .ok (.iload_n 3, 1) := by decide +kernel
theorem dL_areSeatsSo_414 : decode cL_areSeatsSo 414 = .ok (.imul, 1) := by decide +kernel
theorem dL_areSeatsSo_415 : decode cL_areSeatsSo 415 = .ok (.if_icmp .gt 7, 3) := by decide +kernel
theorem dL_areSeatsSo_418 : decode cL_areSeatsSo 418 = .ok (.iconst 1, 1) := by decide +kernel
theorem dL_areSeatsSo_419 : decode cL_areSeatsSo 419 = .ok (.goto 4, 3) := by decide +kernel
theorem dL_areSeatsSo_422 : decode cL_areSeatsSo 422 = .ok (.iconst 0, 1) := by decide +kernel
theorem dL_areSeatsSo_423 : decode cL_areSeatsSo 423 = .ok (.ireturn, 1) := by decide +kernel
set_option maxRecDepth 20000 in
theorem ggL_isQueueSo_L_queueAt : GoodIn wsL_isQueueSo wsL_queueAt := goodIn_ca (goodIn_r _ [4, 5, 6, 7, 8, 9, 10, 11, 12, 13, 14, 15, 16, 17, 18, 19, 20, 21, 22, 23, 24, 25, 26, 27, 28, 29, 30, 59, 60, 61, 62, 63, 64, 65, 66, 67, 68] (by decide +kernel) (by decide +kernel)) (goodIn_sub (fun _ h => List.mem_cons_of_mem _ (List.mem_append_right _ h)) (by decide +kernel))
set_option maxRecDepth 20000 in
theorem gL_isQueueSo_L_queueAt : GoodIn wsL_isQueueSo (va_wsS RL 96 yL_queueAt wsL_queueAt) := goodIn_app (goodIn_of _ (by decide +kernel)) ggL_isQueueSo_L_queueAt
set_option maxRecDepth 20000 in
theorem ggL_isQueueSo_X5_queueAt : GoodIn wsL_isQueueSo wsX5_queueAt := goodIn_ca (goodIn_r _ [10, 11, 12, 13, 14, 15, 16, 17, 18, 19, 20, 21, 22, 23, 24, 25, 26, 27, 28, 29, 30, 59, 60, 61, 62, 63, 64, 65, 66, 67, 68] (by decide +kernel) (by decide +kernel)) (goodIn_sub (fun _ h => List.mem_cons_of_mem _ (List.mem_append_right _ h)) (by decide +kernel))
set_option maxRecDepth 20000 in
theorem gL_isQueueSo_X5_queueAt : GoodIn wsL_isQueueSo (wsV RL 51 RX5 yX5_queueAt wsX5_queueAt) := goodIn_app (goodIn_of _ (by decide +kernel)) ggL_isQueueSo_X5_queueAt
set_option maxRecDepth 20000 in
theorem ggL_isQueueSo_X5_spent : GoodIn wsL_isQueueSo wsX5_spent := goodIn_ca (goodIn_r _ [34, 35, 36, 37, 9, 38, 11, 12, 59, 60, 61, 62, 63, 64, 65, 66, 67] (by decide +kernel) (by decide +kernel)) (goodIn_sub (fun _ h => List.mem_cons_of_mem _ (List.mem_append_right _ h)) (by decide +kernel))
set_option maxRecDepth 20000 in
theorem gL_isQueueSo_X5_spent : GoodIn wsL_isQueueSo (wsV RL 98 RX5 yX5_spent wsX5_spent) := goodIn_app (goodIn_of _ (by decide +kernel)) ggL_isQueueSo_X5_spent
set_option maxRecDepth 20000 in
theorem ggL_isQueueSo_X5_lapses : GoodIn wsL_isQueueSo wsX5_lapses := goodIn_ca (goodIn_r _ [42, 43, 36, 37, 9, 38, 11, 12, 44, 45, 46, 47, 48, 59, 60, 61, 62, 63, 64, 65, 66, 67, 69, 70, 71, 72, 73, 74, 75] (by decide +kernel) (by decide +kernel)) (goodIn_sub (fun _ h => List.mem_cons_of_mem _ (List.mem_append_right _ h)) (by decide +kernel))
set_option maxRecDepth 20000 in
theorem gL_isQueueSo_X5_lapses : GoodIn wsL_isQueueSo (wsV RL 101 RX5 yX5_lapses wsX5_lapses) := goodIn_app (goodIn_of _ (by decide +kernel)) ggL_isQueueSo_X5_lapses
set_option maxRecDepth 20000 in
theorem ggL_isQueueSo_X5_served : GoodIn wsL_isQueueSo wsX5_served := goodIn_r _ [52, 13, 53, 14, 15, 16, 17, 18, 19, 20, 21, 22, 23, 24, 25, 26, 27, 28, 29, 30, 59, 60, 61, 62, 63, 64, 65, 66, 67, 68] (by decide +kernel) (by decide +kernel)
set_option maxRecDepth 20000 in
theorem gL_isQueueSo_X5_served : GoodIn wsL_isQueueSo (wsV RL 59 RX5 yX5_served wsX5_served) := goodIn_app (goodIn_of _ (by decide +kernel)) ggL_isQueueSo_X5_served
set_option maxRecDepth 20000 in
theorem ggL_isQueueSo_X5_takings : GoodIn wsL_isQueueSo wsX5_takings := goodIn_r _ [57, 58, 59, 60, 61, 62, 63, 64, 65, 66, 67] (by decide +kernel) (by decide +kernel)
set_option maxRecDepth 20000 in
theorem gL_isQueueSo_X5_takings : GoodIn wsL_isQueueSo (wsV RL 93 RX5 yX5_takings wsX5_takings) := goodIn_app (goodIn_of _ (by decide +kernel)) ggL_isQueueSo_X5_takings
theorem dL_isQueueSo_0 : decode cL_isQueueSo 0 = .ok (.iconst 0, 1) := by decide +kernel
theorem dL_isQueueSo_1 : decode cL_isQueueSo 1 = .ok (.istore_n 1, 1) := by decide +kernel
theorem dL_isQueueSo_2 : decode cL_isQueueSo 2 = .ok (.iconst 0, 1) := by decide +kernel
theorem dL_isQueueSo_3 : decode cL_isQueueSo 3 = .ok (.istore_n 2, 1) := by decide +kernel
theorem dL_isQueueSo_4 : decode cL_isQueueSo 4 = .ok (.aload_n 0, 1) := by decide +kernel
theorem dL_isQueueSo_5 : decode cL_isQueueSo 5 = .ok (.iload_n 1, 1) := by decide +kernel
theorem dL_isQueueSo_6 : decode cL_isQueueSo 6 = .ok (.invokestatic 96, 3) := by decide +kernel
theorem dL_isQueueSo_9 : decode cL_isQueueSo 9 = .ok (.ifCond .lt 19, 3) := by decide +kernel
theorem dL_isQueueSo_12 : decode cL_isQueueSo 12 = .ok (.iload_n 2, 1) := by decide +kernel
theorem dL_isQueueSo_13 : decode cL_isQueueSo 13 = .ok (.iconst 1, 1) := by decide +kernel
theorem dL_isQueueSo_14 : decode cL_isQueueSo 14 = .ok (.aload_n 0, 1) := by decide +kernel
theorem dL_isQueueSo_15 : decode cL_isQueueSo 15 = .ok (.iload_n 1, 1) := by decide +kernel
theorem dL_isQueueSo_16 : decode cL_isQueueSo 16 = .ok (.invokevirtual 51, 3) := by decide +kernel
theorem dL_isQueueSo_19 : decode cL_isQueueSo 19 = .ok (.ishl, 1) := by decide +kernel
theorem dL_isQueueSo_20 : decode cL_isQueueSo 20 = .ok (.ior, 1) := by decide +kernel
theorem dL_isQueueSo_21 : decode cL_isQueueSo 21 = .ok (.istore_n 2, 1) := by decide +kernel
theorem dL_isQueueSo_22 : decode cL_isQueueSo 22 = .ok (.iinc 1 1, 3) := by decide +kernel
theorem dL_isQueueSo_25 : decode cL_isQueueSo 25 = .ok (.goto (-21), 3) := by decide +kernel
theorem dL_isQueueSo_28 : decode cL_isQueueSo 28 = .ok (.iconst 0, 1) := by decide +kernel
theorem dL_isQueueSo_29 : decode cL_isQueueSo 29 = .ok (.istore_n 3, 1) := by decide +kernel
theorem dL_isQueueSo_30 : decode cL_isQueueSo 30 = .ok (.iconst 0, 1) := by decide +kernel
theorem dL_isQueueSo_31 : decode cL_isQueueSo 31 = .ok (.istore 4, 2) := by decide +kernel
theorem dL_isQueueSo_33 : decode cL_isQueueSo 33 = .ok (.iload 4, 2) := by decide +kernel
theorem dL_isQueueSo_35 : decode cL_isQueueSo 35 = .ok (.bipush 8, 2) := by decide +kernel
theorem dL_isQueueSo_37 : decode cL_isQueueSo 37 = .ok (.if_icmp .ge 39, 3) := by decide +kernel
theorem dL_isQueueSo_40 : decode cL_isQueueSo 40 = .ok (.iload_n 3, 1) := by decide +kernel
theorem dL_isQueueSo_41 : decode cL_isQueueSo 41 = .ok (.aload_n 0, 1) := by decide +kernel
theorem dL_isQueueSo_42 : decode cL_isQueueSo 42 = .ok (.iload 4, 2) := by decide +kernel
theorem dL_isQueueSo_44 : decode cL_isQueueSo 44 = .ok (.invokevirtual 98, 3) := by decide +kernel
theorem dL_isQueueSo_47 : decode cL_isQueueSo 47 = .ok (.iadd, 1) := by decide +kernel
theorem dL_isQueueSo_48 : decode cL_isQueueSo 48 = .ok (.istore_n 3, 1) := by decide +kernel
theorem dL_isQueueSo_49 : decode cL_isQueueSo 49 = .ok (.iload_n 2, 1) := by decide +kernel
theorem dL_isQueueSo_50 : decode cL_isQueueSo 50 = .ok (.iload 4, 2) := by decide +kernel
theorem dL_isQueueSo_52 : decode cL_isQueueSo 52 = .ok (.ishr, 1) := by decide +kernel
theorem dL_isQueueSo_53 : decode cL_isQueueSo 53 = .ok (.iconst 1, 1) := by decide +kernel
theorem dL_isQueueSo_54 : decode cL_isQueueSo 54 = .ok (.iand, 1) := by decide +kernel
theorem dL_isQueueSo_55 : decode cL_isQueueSo 55 = .ok (.iconst 1, 1) := by decide +kernel
theorem dL_isQueueSo_56 : decode cL_isQueueSo 56 = .ok (.if_icmp .ne 14, 3) := by decide +kernel
theorem dL_isQueueSo_59 : decode cL_isQueueSo 59 = .ok (.aload_n 0, 1) := by decide +kernel
theorem dL_isQueueSo_60 : decode cL_isQueueSo 60 = .ok (.iload 4, 2) := by decide +kernel
theorem dL_isQueueSo_62 : decode cL_isQueueSo 62 = .ok (.invokevirtual 101, 3) := by decide +kernel
theorem dL_isQueueSo_65 : decode cL_isQueueSo 65 = .ok (.ifCond .lt 5, 3) := by decide +kernel
theorem dL_isQueueSo_68 : decode cL_isQueueSo 68 = .ok (.iconst 0, 1) := by decide +kernel
theorem dL_isQueueSo_69 : decode cL_isQueueSo 69 = .ok (.ireturn, 1) := by decide +kernel
theorem dL_isQueueSo_70 : decode cL_isQueueSo 70 = .ok (.iinc 4 1, 3) := by decide +kernel
theorem dL_isQueueSo_73 : decode cL_isQueueSo 73 = .ok (.goto (-40), 3) := by decide +kernel
theorem dL_isQueueSo_76 : decode cL_isQueueSo 76 = .ok (.aload_n 0, 1) := by decide +kernel
theorem dL_isQueueSo_77 : decode cL_isQueueSo 77 = .ok (.invokevirtual 59, 3) := by decide +kernel
theorem dL_isQueueSo_80 : decode cL_isQueueSo 80 = .ok (.istore 4, 2) := by decide +kernel
theorem dL_isQueueSo_82 : decode cL_isQueueSo 82 = .ok (.iload_n 1, 1) := by decide +kernel
theorem dL_isQueueSo_83 : decode cL_isQueueSo 83 = .ok (.bipush 8, 2) := by decide +kernel
theorem dL_isQueueSo_85 : decode cL_isQueueSo 85 = .ok (.if_icmp .gt 31, 3) := by decide +kernel
theorem dL_isQueueSo_88 : decode cL_isQueueSo 88 = .ok (.iload_n 3, 1) := by decide +kernel
theorem dL_isQueueSo_89 : decode cL_isQueueSo 89 = .ok (.aload_n 0, 1) := by decide +kernel
theorem dL_isQueueSo_90 : decode cL_isQueueSo 90 = .ok (.invokevirtual 93, 3) := by decide +kernel
theorem dL_isQueueSo_93 : decode cL_isQueueSo 93 = .ok (.if_icmp .lt 23, 3) := by decide +kernel
theorem dL_isQueueSo_96 : decode cL_isQueueSo 96 = .ok (.iload 4, 2) := by decide +kernel
theorem dL_isQueueSo_98 : decode cL_isQueueSo 98 = .ok (.iconst (-1), 1) := by decide +kernel
theorem dL_isQueueSo_99 : decode cL_isQueueSo 99 = .ok (.if_icmp .eq 13, 3) := by decide +kernel
theorem dL_isQueueSo_102 : decode cL_isQueueSo 102 = .ok (.iload 4, 2) := by decide +kernel
theorem dL_isQueueSo_104 : decode cL_isQueueSo 104 = .ok (.aload_n 0, 1) := by decide +kernel
theorem dL_isQueueSo_105 : decode cL_isQueueSo 105 = .ok (.iconst 0, 1) := by decide +kernel
theorem dL_isQueueSo_106 : decode cL_isQueueSo 106 = .ok (.invokevirtual 51, 3) := by decide +kernel
theorem dL_isQueueSo_109 : decode cL_isQueueSo 109 = .ok (.if_icmp .ne 7, 3) := by decide +kernel
theorem dL_isQueueSo_112 : decode cL_isQueueSo 112 = .ok (.iconst 1, 1) := by decide +kernel
theorem dL_isQueueSo_113 : decode cL_isQueueSo 113 = .ok (.goto 4, 3) := by decide +kernel
theorem dL_isQueueSo_116 : decode cL_isQueueSo 116 = .ok (.iconst 0, 1) := by decide +kernel
theorem dL_isQueueSo_117 : decode cL_isQueueSo 117 = .ok (.ireturn, 1) := by decide +kernel
