abbrev cL_pass : ByteArray := method_3_code
def yL_pass : MethodName := ⟨RL, "pass", "(LAuditoriumKeys;I[J)I"⟩
abbrev cL_setOpening : ByteArray := method_4_code
def yL_setOpening : MethodName := ⟨RL, "setOpening", "(LAuditoriumKeys;I[J)I"⟩
abbrev cL_code : ByteArray := method_5_code
def yL_code : MethodName := ⟨RL, "code", "(LAuditoriumKeys;II[J)I"⟩
abbrev cL_used : ByteArray := method_6_code
def yL_used : MethodName := ⟨RL, "used", "(LAuditoriumKeys;II[J)I"⟩
abbrev cL_join : ByteArray := method_7_code
def yL_join : MethodName := ⟨RL, "join", "(LAuditoriumKeys;I[J)I"⟩
abbrev cL_quit : ByteArray := method_8_code
def yL_quit : MethodName := ⟨RL, "quit", "(LAuditoriumKeys;I[J)I"⟩
abbrev cL_queueAt : ByteArray := method_9_code
def yL_queueAt : MethodName := ⟨RL, "queueAt", "(LAuditoriumKeys;I[J)I"⟩
abbrev cL_hold : ByteArray := method_10_code
def yL_hold : MethodName := ⟨RL, "hold", "(LAuditoriumKeys;IIIII[J)I"⟩
abbrev cL_pay : ByteArray := method_11_code
def yL_pay : MethodName := ⟨RL, "pay", "(LAuditoriumKeys;II[J)I"⟩
abbrev cL_letGo : ByteArray := method_12_code
def yL_letGo : MethodName := ⟨RL, "letGo", "(LAuditoriumKeys;I[J)I"⟩
abbrev cL_lapses : ByteArray := method_13_code
def yL_lapses : MethodName := ⟨RL, "lapses", "(LAuditoriumKeys;I[J)I"⟩
abbrev cL_state : ByteArray := method_14_code
def yL_state : MethodName := ⟨RL, "state", "(LAuditoriumKeys;I[J)I"⟩
abbrev cL_owner : ByteArray := method_15_code
def yL_owner : MethodName := ⟨RL, "owner", "(LAuditoriumKeys;I[J)I"⟩
abbrev cL_ownerBySales : ByteArray := method_16_code
def yL_ownerBySales : MethodName := ⟨RL, "ownerBySales", "(LAuditoriumKeys;I[J)I"⟩
abbrev cL_isSingle : ByteArray := method_17_code
def yL_isSingle : MethodName := ⟨RL, "isSingle", "(LAuditoriumKeys;I[J)I"⟩
abbrev cL_firstOpen : ByteArray := method_18_code
def yL_firstOpen : MethodName := ⟨RL, "firstOpen", "(LAuditoriumKeys;II[J)I"⟩
abbrev cL_offer : ByteArray := method_19_code
def yL_offer : MethodName := ⟨RL, "offer", "(LAuditoriumKeys;III[J)I"⟩
abbrev cL_retract : ByteArray := method_20_code
def yL_retract : MethodName := ⟨RL, "retract", "(LAuditoriumKeys;I[J)I"⟩
abbrev cL_spent : ByteArray := method_21_code
def yL_spent : MethodName := ⟨RL, "spent", "(LAuditoriumKeys;I[J)I"⟩
abbrev cL_law : ByteArray := code
def yL_law : MethodName := ⟨RL, "law", "([I)Z"⟩
def wsL_pass_r1 : List Cond := [Cond.classLink RL 13 "java/lang/IllegalArgumentException", Cond.classLink RL 15 "java/lang/IllegalStateException", Cond.methodLink RL 7 yX5_pass, Cond.instanceMethod yX5_pass, Cond.selects RX5 yX5_pass yX5_pass, Cond.initialized RX5, Cond.code yX5_pass cX5_pass 4 (some .int), Cond.classLink RX5 58 "java/lang/IllegalArgumentException", Cond.initialized "java/lang/IllegalArgumentException", Cond.classLink RX5 65 "java/lang/IllegalStateException", Cond.initialized "java/lang/IllegalStateException", Cond.fieldLink RX5 9 "AuditoriumKeys" "now" "I", Cond.fieldLink RX5 40 "AuditoriumKeys" "holds" "LAuditoriumKeys$Holds;", Cond.instanceMethod yX1_isThere, Cond.initialized RX1, Cond.selects RX1 yX1_isThere yX1_isThere, Cond.code yX1_isThere cX1_isThere 2 (some .boolean), Cond.fieldLink RX1 15 "AuditoriumKeys$Holds" "many" "[I", Cond.methodLink RX5 77 yX5_giveBack, Cond.instanceMethod yX5_giveBack, Cond.selects RX5 yX5_giveBack yX5_giveBack, Cond.code yX5_giveBack cX5_giveBack 3 (some .int), Cond.fieldLink RX5 19 "AuditoriumKeys" "outlay" "[I", Cond.fieldLink RX5 26 "AuditoriumKeys" "codes" "LAuditoriumKeys$Codes;"]
def wsL_pass_r2 : List Cond := [Cond.fieldLink RX5 47 "AuditoriumKeys" "seats" "LAuditoriumKeys$Seats;", Cond.instanceMethod yX0_tally, Cond.initialized RX0, Cond.selects RX0 yX0_tally yX0_tally, Cond.code yX0_tally cX0_tally 4 none, Cond.fieldLink RX0 22 "AuditoriumKeys$Codes" "counted" "[I", Cond.instanceMethod yX4_unlock, Cond.initialized RX4, Cond.selects RX4 yX4_unlock yX4_unlock, Cond.code yX4_unlock cX4_unlock 4 none, Cond.fieldLink RX4 9 "AuditoriumKeys$Seats" "held" "[Z", Cond.instanceMethod yX1_end, Cond.selects RX1 yX1_end yX1_end, Cond.code yX1_end cX1_end 2 none]
def wsL_pass : List Cond := .codeWith yL_pass cL_pass 4 (some .int) [(0, 9, 12, 13), (0, 9, 15, 15)] :: ((wsL_pass_r1 ++ wsL_pass_r2) ++ wsX50 ++ wsX10 ++ wsX00 ++ wsX40 ++ (vx_atS RX5 62 "java/lang/IllegalArgumentException" ["java/lang/RuntimeException", "java/lang/Exception"]).filter goodWord ++ (vx_atS RX5 69 "java/lang/IllegalStateException" ["java/lang/RuntimeException", "java/lang/Exception"]).filter goodWord)
def wsL_setOpening : List Cond := .codeWith yL_setOpening cL_setOpening 4 (some .int) [(0, 9, 12, 13)] :: ([.classLink RL 13 "java/lang/IllegalArgumentException", .methodLink RL 17 yX5_setOpening, .instanceMethod yX5_setOpening, .selects RX5 yX5_setOpening yX5_setOpening, .initialized RX5, .code yX5_setOpening cX5_setOpening 3 (some .int), .classLink RX5 58 "java/lang/IllegalArgumentException", .initialized "java/lang/IllegalArgumentException", .fieldLink RX5 13 "AuditoriumKeys" "opening" "I"] ++ wsX50 ++ (vx_atS RX5 62 "java/lang/IllegalArgumentException" ["java/lang/RuntimeException", "java/lang/Exception"]).filter goodWord)
def wsL_code : List Cond := .codeWith yL_code cL_code 5 (some .int) [(0, 10, 13, 13), (0, 10, 17, 15)] :: ([.classLink RL 13 "java/lang/IllegalArgumentException", .classLink RL 15 "java/lang/IllegalStateException", .methodLink RL 20 yX5_code, .instanceMethod yX5_code, .selects RX5 yX5_code yX5_code, .initialized RX5, .code yX5_code cX5_code 3 (some .int), .classLink RX5 58 "java/lang/IllegalArgumentException", .initialized "java/lang/IllegalArgumentException", .classLink RX5 65 "java/lang/IllegalStateException", .initialized "java/lang/IllegalStateException", .fieldLink RX5 26 "AuditoriumKeys" "codes" "LAuditoriumKeys$Codes;", .instanceMethod yX0_add, .initialized RX0, .selects RX0 yX0_add yX0_add, .code yX0_add cX0_add 3 (some .int), .fieldLink RX0 15 "AuditoriumKeys$Codes" "ofPerson" "[I", .fieldLink RX0 9 "AuditoriumKeys$Codes" "count" "I", .fieldLink RX0 19 "AuditoriumKeys$Codes" "ofHousehold" "[I"] ++ wsX50 ++ wsX00 ++ (vx_atS RX5 62 "java/lang/IllegalArgumentException" ["java/lang/RuntimeException", "java/lang/Exception"]).filter goodWord ++ (vx_atS RX5 69 "java/lang/IllegalStateException" ["java/lang/RuntimeException", "java/lang/Exception"]).filter goodWord)
def wsL_used : List Cond := .codeWith yL_used cL_used 5 (some .int) [(0, 10, 13, 27)] :: ([.classLink RL 27 "java/lang/IndexOutOfBoundsException", .methodLink RL 24 yX5_used, .instanceMethod yX5_used, .selects RX5 yX5_used yX5_used, .initialized RX5, .code yX5_used cX5_used 3 (some .int), .fieldLink RX5 26 "AuditoriumKeys" "codes" "LAuditoriumKeys$Codes;", .methodLink RX5 96 yX5_needCode, .instanceMethod yX5_needCode, .selects RX5 yX5_needCode yX5_needCode, .code yX5_needCode cX5_needCode 2 none, .classLink RX5 129 "java/lang/IndexOutOfBoundsException", .initialized "java/lang/IndexOutOfBoundsException", .methodLink RX5 100 yX5_needPerson, .static yX5_needPerson, .code yX5_needPerson cX5_needPerson 1 none, .instanceMethod yX0_seatsOf, .initialized RX0, .selects RX0 yX0_seatsOf yX0_seatsOf, .code yX0_seatsOf cX0_seatsOf 3 (some .int), .fieldLink RX0 22 "AuditoriumKeys$Codes" "counted" "[I"] ++ wsX50 ++ wsX00 ++ (vx_atS RX5 133 "java/lang/IndexOutOfBoundsException" ["java/lang/RuntimeException", "java/lang/Exception"]).filter goodWord)
def wsL_join_r1 : List Cond := [Cond.classLink RL 27 "java/lang/IndexOutOfBoundsException", Cond.classLink RL 15 "java/lang/IllegalStateException", Cond.methodLink RL 29 yX5_join, Cond.instanceMethod yX5_join, Cond.selects RX5 yX5_join yX5_join, Cond.initialized RX5, Cond.code yX5_join cX5_join 2 (some .int), Cond.classLink RX5 65 "java/lang/IllegalStateException", Cond.initialized "java/lang/IllegalStateException", Cond.fieldLink RX5 33 "AuditoriumKeys" "line" "LAuditoriumKeys$Line;", Cond.fieldLink RX5 40 "AuditoriumKeys" "holds" "LAuditoriumKeys$Holds;", Cond.fieldLink RX5 9 "AuditoriumKeys" "now" "I", Cond.methodLink RX5 100 yX5_needPerson, Cond.static yX5_needPerson, Cond.code yX5_needPerson cX5_needPerson 1 none, Cond.classLink RX5 129 "java/lang/IndexOutOfBoundsException", Cond.initialized "java/lang/IndexOutOfBoundsException", Cond.instanceMethod yX2_isIn, Cond.initialized RX2, Cond.selects RX2 yX2_isIn yX2_isIn, Cond.code yX2_isIn cX2_isIn 2 (some .boolean), Cond.fieldLink RX2 9 "AuditoriumKeys$Line" "came" "[I", Cond.instanceMethod yX1_isThere, Cond.initialized RX1]
def wsL_join_r2 : List Cond := [Cond.selects RX1 yX1_isThere yX1_isThere, Cond.code yX1_isThere cX1_isThere 2 (some .boolean), Cond.fieldLink RX1 15 "AuditoriumKeys$Holds" "many" "[I", Cond.instanceMethod yX2_enter, Cond.selects RX2 yX2_enter yX2_enter, Cond.code yX2_enter cX2_enter 3 none, Cond.instanceMethod yX2_length, Cond.selects RX2 yX2_length yX2_length, Cond.code yX2_length cX2_length 3 (some .int), Cond.methodLink RX2 15 yX2_isIn]
def wsL_join : List Cond := .codeWith yL_join cL_join 4 (some .int) [(0, 9, 12, 27), (0, 9, 15, 15)] :: ((wsL_join_r1 ++ wsL_join_r2) ++ wsX50 ++ wsX20 ++ wsX10 ++ (vx_atS RX5 69 "java/lang/IllegalStateException" ["java/lang/RuntimeException", "java/lang/Exception"]).filter goodWord ++ (vx_atS RX5 133 "java/lang/IndexOutOfBoundsException" ["java/lang/RuntimeException", "java/lang/Exception"]).filter goodWord)
def wsL_quit_r1 : List Cond := [Cond.classLink RL 27 "java/lang/IndexOutOfBoundsException", Cond.classLink RL 15 "java/lang/IllegalStateException", Cond.methodLink RL 32 yX5_quit, Cond.instanceMethod yX5_quit, Cond.selects RX5 yX5_quit yX5_quit, Cond.initialized RX5, Cond.code yX5_quit cX5_quit 2 (some .int), Cond.classLink RX5 65 "java/lang/IllegalStateException", Cond.initialized "java/lang/IllegalStateException", Cond.fieldLink RX5 33 "AuditoriumKeys" "line" "LAuditoriumKeys$Line;", Cond.methodLink RX5 100 yX5_needPerson, Cond.static yX5_needPerson, Cond.code yX5_needPerson cX5_needPerson 1 none, Cond.classLink RX5 129 "java/lang/IndexOutOfBoundsException", Cond.initialized "java/lang/IndexOutOfBoundsException", Cond.instanceMethod yX2_isIn, Cond.initialized RX2, Cond.selects RX2 yX2_isIn yX2_isIn, Cond.code yX2_isIn cX2_isIn 2 (some .boolean), Cond.fieldLink RX2 9 "AuditoriumKeys$Line" "came" "[I", Cond.instanceMethod yX2_leave, Cond.selects RX2 yX2_leave yX2_leave, Cond.code yX2_leave cX2_leave 2 none, Cond.instanceMethod yX2_length]
def wsL_quit_r2 : List Cond := [Cond.selects RX2 yX2_length yX2_length, Cond.code yX2_length cX2_length 3 (some .int), Cond.methodLink RX2 15 yX2_isIn]
def wsL_quit : List Cond := .codeWith yL_quit cL_quit 4 (some .int) [(0, 9, 12, 27), (0, 9, 15, 15)] :: ((wsL_quit_r1 ++ wsL_quit_r2) ++ wsX50 ++ wsX20 ++ (vx_atS RX5 69 "java/lang/IllegalStateException" ["java/lang/RuntimeException", "java/lang/Exception"]).filter goodWord ++ (vx_atS RX5 133 "java/lang/IndexOutOfBoundsException" ["java/lang/RuntimeException", "java/lang/Exception"]).filter goodWord)
def wsL_queueAt_r1 : List Cond := [Cond.classLink RL 27 "java/lang/IndexOutOfBoundsException", Cond.methodLink RL 35 yX5_queueAt, Cond.instanceMethod yX5_queueAt, Cond.selects RX5 yX5_queueAt yX5_queueAt, Cond.initialized RX5, Cond.code yX5_queueAt cX5_queueAt 3 (some .int), Cond.classLink RX5 129 "java/lang/IndexOutOfBoundsException", Cond.initialized "java/lang/IndexOutOfBoundsException", Cond.fieldLink RX5 33 "AuditoriumKeys" "line" "LAuditoriumKeys$Line;", Cond.instanceMethod yX2_personAt, Cond.initialized RX2, Cond.selects RX2 yX2_personAt yX2_personAt, Cond.code yX2_personAt cX2_personAt 3 (some .int), Cond.methodLink RX2 15 yX2_isIn, Cond.instanceMethod yX2_isIn, Cond.selects RX2 yX2_isIn yX2_isIn, Cond.code yX2_isIn cX2_isIn 2 (some .boolean), Cond.fieldLink RX2 9 "AuditoriumKeys$Line" "came" "[I", Cond.methodLink RX2 19 yX2_placeOf, Cond.instanceMethod yX2_placeOf, Cond.selects RX2 yX2_placeOf yX2_placeOf, Cond.code yX2_placeOf cX2_placeOf 4 (some .int), Cond.methodLink RX2 23 yX2_rank, Cond.instanceMethod yX2_rank]
def wsL_queueAt_r2 : List Cond := [Cond.selects RX2 yX2_rank yX2_rank, Cond.code yX2_rank cX2_rank 3 (some .int)]
def wsL_queueAt : List Cond := .codeWith yL_queueAt cL_queueAt 4 (some .int) [(0, 9, 12, 27)] :: ((wsL_queueAt_r1 ++ wsL_queueAt_r2) ++ wsX50 ++ wsX20 ++ (vx_atS RX5 133 "java/lang/IndexOutOfBoundsException" ["java/lang/RuntimeException", "java/lang/Exception"]).filter goodWord)
def wsL_hold_r1 : List Cond := [Cond.classLink RL 27 "java/lang/IndexOutOfBoundsException", Cond.classLink RL 13 "java/lang/IllegalArgumentException", Cond.classLink RL 15 "java/lang/IllegalStateException", Cond.methodLink RL 38 yX5_hold, Cond.instanceMethod yX5_hold, Cond.selects RX5 yX5_hold yX5_hold, Cond.initialized RX5, Cond.code yX5_hold cX5_hold 8 (some .int), Cond.classLink RX5 129 "java/lang/IndexOutOfBoundsException", Cond.initialized "java/lang/IndexOutOfBoundsException", Cond.classLink RX5 58 "java/lang/IllegalArgumentException", Cond.initialized "java/lang/IllegalArgumentException", Cond.classLink RX5 65 "java/lang/IllegalStateException", Cond.initialized "java/lang/IllegalStateException", Cond.fieldLink RX5 33 "AuditoriumKeys" "line" "LAuditoriumKeys$Line;", Cond.fieldLink RX5 26 "AuditoriumKeys" "codes" "LAuditoriumKeys$Codes;", Cond.fieldLink RX5 47 "AuditoriumKeys" "seats" "LAuditoriumKeys$Seats;", Cond.fieldLink RX5 40 "AuditoriumKeys" "holds" "LAuditoriumKeys$Holds;", Cond.fieldLink RX5 9 "AuditoriumKeys" "now" "I", Cond.methodLink RX5 100 yX5_needPerson, Cond.static yX5_needPerson, Cond.code yX5_needPerson cX5_needPerson 1 none, Cond.methodLink RX5 137 yX5_needRow, Cond.static yX5_needRow]
def wsL_hold_r2 : List Cond := [Cond.code yX5_needRow cX5_needRow 1 none, Cond.methodLink RX5 96 yX5_needCode, Cond.instanceMethod yX5_needCode, Cond.selects RX5 yX5_needCode yX5_needCode, Cond.code yX5_needCode cX5_needCode 2 none, Cond.methodLink RX5 144 yX5_served, Cond.instanceMethod yX5_served, Cond.selects RX5 yX5_served yX5_served, Cond.code yX5_served cX5_served 2 (some .int), Cond.instanceMethod yX2_personAt, Cond.initialized RX2, Cond.selects RX2 yX2_personAt yX2_personAt, Cond.code yX2_personAt cX2_personAt 3 (some .int), Cond.methodLink RX2 15 yX2_isIn, Cond.instanceMethod yX2_isIn, Cond.selects RX2 yX2_isIn yX2_isIn, Cond.code yX2_isIn cX2_isIn 2 (some .boolean), Cond.fieldLink RX2 9 "AuditoriumKeys$Line" "came" "[I", Cond.methodLink RX2 19 yX2_placeOf, Cond.instanceMethod yX2_placeOf, Cond.selects RX2 yX2_placeOf yX2_placeOf, Cond.code yX2_placeOf cX2_placeOf 4 (some .int), Cond.methodLink RX2 23 yX2_rank, Cond.instanceMethod yX2_rank]
def wsL_hold_r3 : List Cond := [Cond.selects RX2 yX2_rank yX2_rank, Cond.code yX2_rank cX2_rank 3 (some .int), Cond.methodLink RX5 149 yX5_needSeatsFor, Cond.instanceMethod yX5_needSeatsFor, Cond.selects RX5 yX5_needSeatsFor yX5_needSeatsFor, Cond.code yX5_needSeatsFor cX5_needSeatsFor 6 none, Cond.instanceMethod yX4_isOpen, Cond.initialized RX4, Cond.selects RX4 yX4_isOpen yX4_isOpen, Cond.code yX4_isOpen cX4_isOpen 4 (some .boolean), Cond.methodLink RX4 28 yX4_stateOf, Cond.instanceMethod yX4_stateOf, Cond.selects RX4 yX4_stateOf yX4_stateOf, Cond.code yX4_stateOf cX4_stateOf 2 (some .int), Cond.fieldLink RX4 9 "AuditoriumKeys$Seats" "held" "[Z", Cond.fieldLink RX4 18 "AuditoriumKeys$Seats" "owner" "[I", Cond.fieldLink RX4 15 "AuditoriumKeys$Seats" "offered" "[Z", Cond.instanceMethod yX4_leavesSingle, Cond.selects RX4 yX4_leavesSingle yX4_leavesSingle, Cond.code yX4_leavesSingle cX4_leavesSingle 5 (some .boolean), Cond.methodLink RX4 32 yX4_isOpen, Cond.methodLink RX5 153 yX5_needRightFor, Cond.instanceMethod yX5_needRightFor, Cond.selects RX5 yX5_needRightFor yX5_needRightFor]
def wsL_hold_r4 : List Cond := [Cond.code yX5_needRightFor cX5_needRightFor 4 none, Cond.fieldLink RX5 13 "AuditoriumKeys" "opening" "I", Cond.instanceMethod yX0_haveRoom, Cond.initialized RX0, Cond.selects RX0 yX0_haveRoom yX0_haveRoom, Cond.code yX0_haveRoom cX0_haveRoom 6 (some .boolean), Cond.fieldLink RX0 15 "AuditoriumKeys$Codes" "ofPerson" "[I", Cond.fieldLink RX0 19 "AuditoriumKeys$Codes" "ofHousehold" "[I", Cond.methodLink RX0 25 yX0_seatsOf, Cond.instanceMethod yX0_seatsOf, Cond.selects RX0 yX0_seatsOf yX0_seatsOf, Cond.code yX0_seatsOf cX0_seatsOf 3 (some .int), Cond.fieldLink RX0 22 "AuditoriumKeys$Codes" "counted" "[I", Cond.instanceMethod yX2_leave, Cond.selects RX2 yX2_leave yX2_leave, Cond.code yX2_leave cX2_leave 2 none, Cond.instanceMethod yX0_tally, Cond.selects RX0 yX0_tally yX0_tally, Cond.code yX0_tally cX0_tally 4 none, Cond.instanceMethod yX4_lock, Cond.selects RX4 yX4_lock yX4_lock, Cond.code yX4_lock cX4_lock 5 (some .int), Cond.fieldLink RX4 22 "AuditoriumKeys$Seats" "price" "[I", Cond.instanceMethod yX1_make]
def wsL_hold_r5 : List Cond := [Cond.initialized RX1, Cond.selects RX1 yX1_make yX1_make, Cond.code yX1_make cX1_make 7 none, Cond.fieldLink RX1 9 "AuditoriumKeys$Holds" "first" "[I", Cond.fieldLink RX1 15 "AuditoriumKeys$Holds" "many" "[I", Cond.fieldLink RX1 18 "AuditoriumKeys$Holds" "code" "[I", Cond.fieldLink RX1 21 "AuditoriumKeys$Holds" "cost" "[I", Cond.fieldLink RX1 24 "AuditoriumKeys$Holds" "paid" "[I", Cond.fieldLink RX1 27 "AuditoriumKeys$Holds" "latest" "[I", Cond.fieldLink RX1 30 "AuditoriumKeys$Holds" "lapse" "[I"]
def wsL_hold : List Cond := .codeWith yL_hold cL_hold 8 (some .int) [(0, 16, 19, 27), (0, 16, 23, 13), (0, 16, 27, 15)] :: ((wsL_hold_r1 ++ (wsL_hold_r2 ++ (wsL_hold_r3 ++ (wsL_hold_r4 ++ wsL_hold_r5)))) ++ wsX50 ++ wsX00 ++ wsX20 ++ wsX40 ++ wsX10 ++ (vx_atS RX5 133 "java/lang/IndexOutOfBoundsException" ["java/lang/RuntimeException", "java/lang/Exception"]).filter goodWord ++ (vx_atS RX5 62 "java/lang/IllegalArgumentException" ["java/lang/RuntimeException", "java/lang/Exception"]).filter goodWord ++ (vx_atS RX5 69 "java/lang/IllegalStateException" ["java/lang/RuntimeException", "java/lang/Exception"]).filter goodWord)
def wsL_pay_r1 : List Cond := [Cond.classLink RL 27 "java/lang/IndexOutOfBoundsException", Cond.classLink RL 13 "java/lang/IllegalArgumentException", Cond.classLink RL 15 "java/lang/IllegalStateException", Cond.methodLink RL 42 yX5_pay, Cond.instanceMethod yX5_pay, Cond.selects RX5 yX5_pay yX5_pay, Cond.initialized RX5, Cond.code yX5_pay cX5_pay 4 (some .int), Cond.classLink RX5 58 "java/lang/IllegalArgumentException", Cond.initialized "java/lang/IllegalArgumentException", Cond.classLink RX5 65 "java/lang/IllegalStateException", Cond.initialized "java/lang/IllegalStateException", Cond.fieldLink RX5 40 "AuditoriumKeys" "holds" "LAuditoriumKeys$Holds;", Cond.fieldLink RX5 19 "AuditoriumKeys" "outlay" "[I", Cond.methodLink RX5 100 yX5_needPerson, Cond.static yX5_needPerson, Cond.code yX5_needPerson cX5_needPerson 1 none, Cond.classLink RX5 129 "java/lang/IndexOutOfBoundsException", Cond.initialized "java/lang/IndexOutOfBoundsException", Cond.methodLink RX5 169 yX5_needHold, Cond.instanceMethod yX5_needHold, Cond.selects RX5 yX5_needHold yX5_needHold, Cond.code yX5_needHold cX5_needHold 2 none, Cond.instanceMethod yX1_isThere]
def wsL_pay_r2 : List Cond := [Cond.initialized RX1, Cond.selects RX1 yX1_isThere yX1_isThere, Cond.code yX1_isThere cX1_isThere 2 (some .boolean), Cond.fieldLink RX1 15 "AuditoriumKeys$Holds" "many" "[I", Cond.instanceMethod yX1_left, Cond.selects RX1 yX1_left yX1_left, Cond.code yX1_left cX1_left 2 (some .int), Cond.fieldLink RX1 21 "AuditoriumKeys$Holds" "cost" "[I", Cond.fieldLink RX1 24 "AuditoriumKeys$Holds" "paid" "[I", Cond.methodLink RX5 180 yX5_sell, Cond.instanceMethod yX5_sell, Cond.selects RX5 yX5_sell yX5_sell, Cond.code yX5_sell cX5_sell 6 none, Cond.fieldLink RX5 47 "AuditoriumKeys" "seats" "LAuditoriumKeys$Seats;", Cond.fieldLink RX5 16 "AuditoriumKeys" "taken" "I", Cond.fieldLink RX5 54 "AuditoriumKeys" "sales" "LAuditoriumKeys$Sales;", Cond.instanceMethod yX4_giveTo, Cond.initialized RX4, Cond.selects RX4 yX4_giveTo yX4_giveTo, Cond.code yX4_giveTo cX4_giveTo 3 none, Cond.fieldLink RX4 9 "AuditoriumKeys$Seats" "held" "[Z", Cond.fieldLink RX4 15 "AuditoriumKeys$Seats" "offered" "[Z", Cond.fieldLink RX4 18 "AuditoriumKeys$Seats" "owner" "[I", Cond.fieldLink RX4 25 "AuditoriumKeys$Seats" "bought" "[I"]
def wsL_pay_r3 : List Cond := [Cond.fieldLink RX4 22 "AuditoriumKeys$Seats" "price" "[I", Cond.instanceMethod yX3_add, Cond.initialized RX3, Cond.selects RX3 yX3_add yX3_add, Cond.code yX3_add cX3_add 4 none, Cond.fieldLink RX3 9 "AuditoriumKeys$Sales" "count" "I", Cond.fieldLink RX3 15 "AuditoriumKeys$Sales" "first" "[I", Cond.fieldLink RX3 19 "AuditoriumKeys$Sales" "many" "[I", Cond.fieldLink RX3 22 "AuditoriumKeys$Sales" "buyer" "[I", Cond.instanceMethod yX1_end, Cond.selects RX1 yX1_end yX1_end, Cond.code yX1_end cX1_end 2 none, Cond.instanceMethod yX1_prolong, Cond.selects RX1 yX1_prolong yX1_prolong, Cond.code yX1_prolong cX1_prolong 2 none, Cond.fieldLink RX1 30 "AuditoriumKeys$Holds" "lapse" "[I", Cond.fieldLink RX1 27 "AuditoriumKeys$Holds" "latest" "[I", Cond.methodLink RX1 33 Lib.Math.min.name, Cond.static Lib.Math.min.name, Cond.initialized "java/lang/Math", Cond.code Lib.Math.min.name Lib.Math.min.code 2 (some .int)]
def wsL_pay : List Cond := .codeWith yL_pay cL_pay 5 (some .int) [(0, 10, 13, 27), (0, 10, 17, 13), (0, 10, 21, 15)] :: ((wsL_pay_r1 ++ (wsL_pay_r2 ++ wsL_pay_r3)) ++ wsX50 ++ wsX10 ++ wsX40 ++ wsX30 ++ (vx_atS RX5 62 "java/lang/IllegalArgumentException" ["java/lang/RuntimeException", "java/lang/Exception"]).filter goodWord ++ (vx_atS RX5 69 "java/lang/IllegalStateException" ["java/lang/RuntimeException", "java/lang/Exception"]).filter goodWord ++ (vx_atS RX5 133 "java/lang/IndexOutOfBoundsException" ["java/lang/RuntimeException", "java/lang/Exception"]).filter goodWord)
def wsL_letGo_r1 : List Cond := [Cond.classLink RL 27 "java/lang/IndexOutOfBoundsException", Cond.classLink RL 15 "java/lang/IllegalStateException", Cond.methodLink RL 45 yX5_letGo, Cond.instanceMethod yX5_letGo, Cond.selects RX5 yX5_letGo yX5_letGo, Cond.initialized RX5, Cond.code yX5_letGo cX5_letGo 2 (some .int), Cond.methodLink RX5 100 yX5_needPerson, Cond.static yX5_needPerson, Cond.code yX5_needPerson cX5_needPerson 1 none, Cond.classLink RX5 129 "java/lang/IndexOutOfBoundsException", Cond.initialized "java/lang/IndexOutOfBoundsException", Cond.methodLink RX5 169 yX5_needHold, Cond.instanceMethod yX5_needHold, Cond.selects RX5 yX5_needHold yX5_needHold, Cond.code yX5_needHold cX5_needHold 2 none, Cond.classLink RX5 65 "java/lang/IllegalStateException", Cond.initialized "java/lang/IllegalStateException", Cond.fieldLink RX5 40 "AuditoriumKeys" "holds" "LAuditoriumKeys$Holds;", Cond.instanceMethod yX1_isThere, Cond.initialized RX1, Cond.selects RX1 yX1_isThere yX1_isThere, Cond.code yX1_isThere cX1_isThere 2 (some .boolean), Cond.fieldLink RX1 15 "AuditoriumKeys$Holds" "many" "[I"]
def wsL_letGo_r2 : List Cond := [Cond.methodLink RX5 77 yX5_giveBack, Cond.instanceMethod yX5_giveBack, Cond.selects RX5 yX5_giveBack yX5_giveBack, Cond.code yX5_giveBack cX5_giveBack 3 (some .int), Cond.fieldLink RX5 19 "AuditoriumKeys" "outlay" "[I", Cond.fieldLink RX5 26 "AuditoriumKeys" "codes" "LAuditoriumKeys$Codes;", Cond.fieldLink RX5 47 "AuditoriumKeys" "seats" "LAuditoriumKeys$Seats;", Cond.instanceMethod yX0_tally, Cond.initialized RX0, Cond.selects RX0 yX0_tally yX0_tally, Cond.code yX0_tally cX0_tally 4 none, Cond.fieldLink RX0 22 "AuditoriumKeys$Codes" "counted" "[I", Cond.instanceMethod yX4_unlock, Cond.initialized RX4, Cond.selects RX4 yX4_unlock yX4_unlock, Cond.code yX4_unlock cX4_unlock 4 none, Cond.fieldLink RX4 9 "AuditoriumKeys$Seats" "held" "[Z", Cond.instanceMethod yX1_end, Cond.selects RX1 yX1_end yX1_end, Cond.code yX1_end cX1_end 2 none]
def wsL_letGo : List Cond := .codeWith yL_letGo cL_letGo 4 (some .int) [(0, 9, 12, 27), (0, 9, 15, 15)] :: ((wsL_letGo_r1 ++ wsL_letGo_r2) ++ wsX50 ++ wsX10 ++ wsX00 ++ wsX40 ++ (vx_atS RX5 133 "java/lang/IndexOutOfBoundsException" ["java/lang/RuntimeException", "java/lang/Exception"]).filter goodWord ++ (vx_atS RX5 69 "java/lang/IllegalStateException" ["java/lang/RuntimeException", "java/lang/Exception"]).filter goodWord)
def wsL_lapses : List Cond := .codeWith yL_lapses cL_lapses 4 (some .int) [(0, 9, 12, 27)] :: ([.classLink RL 27 "java/lang/IndexOutOfBoundsException", .methodLink RL 48 yX5_lapses, .instanceMethod yX5_lapses, .selects RX5 yX5_lapses yX5_lapses, .initialized RX5, .code yX5_lapses cX5_lapses 2 (some .int), .fieldLink RX5 40 "AuditoriumKeys" "holds" "LAuditoriumKeys$Holds;", .methodLink RX5 100 yX5_needPerson, .static yX5_needPerson, .code yX5_needPerson cX5_needPerson 1 none, .classLink RX5 129 "java/lang/IndexOutOfBoundsException", .initialized "java/lang/IndexOutOfBoundsException", .instanceMethod yX1_isThere, .initialized RX1, .selects RX1 yX1_isThere yX1_isThere, .code yX1_isThere cX1_isThere 2 (some .boolean), .fieldLink RX1 15 "AuditoriumKeys$Holds" "many" "[I"] ++ wsX50 ++ wsX10 ++ (vx_atS RX5 133 "java/lang/IndexOutOfBoundsException" ["java/lang/RuntimeException", "java/lang/Exception"]).filter goodWord)
def wsL_state : List Cond := .codeWith yL_state cL_state 4 (some .int) [(0, 9, 12, 27)] :: ([.classLink RL 27 "java/lang/IndexOutOfBoundsException", .methodLink RL 51 yX5_state, .instanceMethod yX5_state, .selects RX5 yX5_state yX5_state, .initialized RX5, .code yX5_state cX5_state 2 (some .int), .fieldLink RX5 47 "AuditoriumKeys" "seats" "LAuditoriumKeys$Seats;", .methodLink RX5 186 yX5_needSeat, .static yX5_needSeat, .code yX5_needSeat cX5_needSeat 1 none, .classLink RX5 129 "java/lang/IndexOutOfBoundsException", .initialized "java/lang/IndexOutOfBoundsException", .instanceMethod yX4_stateOf, .initialized RX4, .selects RX4 yX4_stateOf yX4_stateOf, .code yX4_stateOf cX4_stateOf 2 (some .int), .fieldLink RX4 9 "AuditoriumKeys$Seats" "held" "[Z", .fieldLink RX4 18 "AuditoriumKeys$Seats" "owner" "[I", .fieldLink RX4 15 "AuditoriumKeys$Seats" "offered" "[Z"] ++ wsX50 ++ wsX40 ++ (vx_atS RX5 133 "java/lang/IndexOutOfBoundsException" ["java/lang/RuntimeException", "java/lang/Exception"]).filter goodWord)
def wsL_owner : List Cond := .codeWith yL_owner cL_owner 4 (some .int) [(0, 9, 12, 27)] :: ([.classLink RL 27 "java/lang/IndexOutOfBoundsException", .methodLink RL 54 yX5_owner, .instanceMethod yX5_owner, .selects RX5 yX5_owner yX5_owner, .initialized RX5, .code yX5_owner cX5_owner 2 (some .int), .fieldLink RX5 47 "AuditoriumKeys" "seats" "LAuditoriumKeys$Seats;", .methodLink RX5 186 yX5_needSeat, .static yX5_needSeat, .code yX5_needSeat cX5_needSeat 1 none, .classLink RX5 129 "java/lang/IndexOutOfBoundsException", .initialized "java/lang/IndexOutOfBoundsException"] ++ wsX50 ++ wsX40 ++ (vx_atS RX5 133 "java/lang/IndexOutOfBoundsException" ["java/lang/RuntimeException", "java/lang/Exception"]).filter goodWord)
def wsL_ownerBySales : List Cond := .codeWith yL_ownerBySales cL_ownerBySales 4 (some .int) [(0, 9, 12, 27)] :: ([.classLink RL 27 "java/lang/IndexOutOfBoundsException", .methodLink RL 57 yX5_ownerBySales, .instanceMethod yX5_ownerBySales, .selects RX5 yX5_ownerBySales yX5_ownerBySales, .initialized RX5, .code yX5_ownerBySales cX5_ownerBySales 2 (some .int), .fieldLink RX5 54 "AuditoriumKeys" "sales" "LAuditoriumKeys$Sales;", .methodLink RX5 186 yX5_needSeat, .static yX5_needSeat, .code yX5_needSeat cX5_needSeat 1 none, .classLink RX5 129 "java/lang/IndexOutOfBoundsException", .initialized "java/lang/IndexOutOfBoundsException", .instanceMethod yX3_lastBuyerOf, .initialized RX3, .selects RX3 yX3_lastBuyerOf yX3_lastBuyerOf, .code yX3_lastBuyerOf cX3_lastBuyerOf 4 (some .int), .fieldLink RX3 9 "AuditoriumKeys$Sales" "count" "I", .fieldLink RX3 15 "AuditoriumKeys$Sales" "first" "[I", .fieldLink RX3 19 "AuditoriumKeys$Sales" "many" "[I", .fieldLink RX3 22 "AuditoriumKeys$Sales" "buyer" "[I"] ++ wsX50 ++ wsX30 ++ (vx_atS RX5 133 "java/lang/IndexOutOfBoundsException" ["java/lang/RuntimeException", "java/lang/Exception"]).filter goodWord)
def wsL_isSingle : List Cond := .codeWith yL_isSingle cL_isSingle 4 (some .int) [(0, 16, 19, 27)] :: ([.classLink RL 27 "java/lang/IndexOutOfBoundsException", .methodLink RL 60 yX5_isSingle, .instanceMethod yX5_isSingle, .selects RX5 yX5_isSingle yX5_isSingle, .initialized RX5, .code yX5_isSingle cX5_isSingle 4 (some .boolean), .fieldLink RX5 47 "AuditoriumKeys" "seats" "LAuditoriumKeys$Seats;", .methodLink RX5 186 yX5_needSeat, .static yX5_needSeat, .code yX5_needSeat cX5_needSeat 1 none, .classLink RX5 129 "java/lang/IndexOutOfBoundsException", .initialized "java/lang/IndexOutOfBoundsException", .instanceMethod yX4_isOpen, .initialized RX4, .selects RX4 yX4_isOpen yX4_isOpen, .code yX4_isOpen cX4_isOpen 4 (some .boolean), .methodLink RX4 28 yX4_stateOf, .instanceMethod yX4_stateOf, .selects RX4 yX4_stateOf yX4_stateOf, .code yX4_stateOf cX4_stateOf 2 (some .int), .fieldLink RX4 9 "AuditoriumKeys$Seats" "held" "[Z", .fieldLink RX4 18 "AuditoriumKeys$Seats" "owner" "[I", .fieldLink RX4 15 "AuditoriumKeys$Seats" "offered" "[Z"] ++ wsX50 ++ wsX40 ++ (vx_atS RX5 133 "java/lang/IndexOutOfBoundsException" ["java/lang/RuntimeException", "java/lang/Exception"]).filter goodWord)
def wsL_firstOpen_r1 : List Cond := [Cond.classLink RL 27 "java/lang/IndexOutOfBoundsException", Cond.classLink RL 13 "java/lang/IllegalArgumentException", Cond.methodLink RL 64 yX5_firstOpen, Cond.instanceMethod yX5_firstOpen, Cond.selects RX5 yX5_firstOpen yX5_firstOpen, Cond.initialized RX5, Cond.code yX5_firstOpen cX5_firstOpen 5 (some .int), Cond.classLink RX5 58 "java/lang/IllegalArgumentException", Cond.initialized "java/lang/IllegalArgumentException", Cond.fieldLink RX5 47 "AuditoriumKeys" "seats" "LAuditoriumKeys$Seats;", Cond.methodLink RX5 137 yX5_needRow, Cond.static yX5_needRow, Cond.code yX5_needRow cX5_needRow 1 none, Cond.classLink RX5 129 "java/lang/IndexOutOfBoundsException", Cond.initialized "java/lang/IndexOutOfBoundsException", Cond.instanceMethod yX4_isOpen, Cond.initialized RX4, Cond.selects RX4 yX4_isOpen yX4_isOpen, Cond.code yX4_isOpen cX4_isOpen 4 (some .boolean), Cond.methodLink RX4 28 yX4_stateOf, Cond.instanceMethod yX4_stateOf, Cond.selects RX4 yX4_stateOf yX4_stateOf, Cond.code yX4_stateOf cX4_stateOf 2 (some .int), Cond.fieldLink RX4 9 "AuditoriumKeys$Seats" "held" "[Z"]
def wsL_firstOpen_r2 : List Cond := [Cond.fieldLink RX4 18 "AuditoriumKeys$Seats" "owner" "[I", Cond.fieldLink RX4 15 "AuditoriumKeys$Seats" "offered" "[Z"]
def wsL_firstOpen : List Cond := .codeWith yL_firstOpen cL_firstOpen 5 (some .int) [(0, 10, 13, 27), (0, 10, 17, 13)] :: ((wsL_firstOpen_r1 ++ wsL_firstOpen_r2) ++ wsX50 ++ wsX40 ++ (vx_atS RX5 62 "java/lang/IllegalArgumentException" ["java/lang/RuntimeException", "java/lang/Exception"]).filter goodWord ++ (vx_atS RX5 133 "java/lang/IndexOutOfBoundsException" ["java/lang/RuntimeException", "java/lang/Exception"]).filter goodWord)
def wsL_offer_r1 : List Cond := [Cond.classLink RL 27 "java/lang/IndexOutOfBoundsException", Cond.classLink RL 13 "java/lang/IllegalArgumentException", Cond.classLink RL 15 "java/lang/IllegalStateException", Cond.methodLink RL 67 yX5_offer, Cond.instanceMethod yX5_offer, Cond.selects RX5 yX5_offer yX5_offer, Cond.initialized RX5, Cond.code yX5_offer cX5_offer 5 (some .int), Cond.classLink RX5 58 "java/lang/IllegalArgumentException", Cond.initialized "java/lang/IllegalArgumentException", Cond.classLink RX5 65 "java/lang/IllegalStateException", Cond.initialized "java/lang/IllegalStateException", Cond.fieldLink RX5 47 "AuditoriumKeys" "seats" "LAuditoriumKeys$Seats;", Cond.methodLink RX5 100 yX5_needPerson, Cond.static yX5_needPerson, Cond.code yX5_needPerson cX5_needPerson 1 none, Cond.classLink RX5 129 "java/lang/IndexOutOfBoundsException", Cond.initialized "java/lang/IndexOutOfBoundsException", Cond.methodLink RX5 186 yX5_needSeat, Cond.static yX5_needSeat, Cond.code yX5_needSeat cX5_needSeat 1 none, Cond.instanceMethod yX4_stateOf, Cond.initialized RX4, Cond.selects RX4 yX4_stateOf yX4_stateOf]
def wsL_offer_r2 : List Cond := [Cond.code yX4_stateOf cX4_stateOf 2 (some .int), Cond.fieldLink RX4 9 "AuditoriumKeys$Seats" "held" "[Z", Cond.fieldLink RX4 18 "AuditoriumKeys$Seats" "owner" "[I", Cond.fieldLink RX4 15 "AuditoriumKeys$Seats" "offered" "[Z", Cond.instanceMethod yX4_ceilingOf, Cond.selects RX4 yX4_ceilingOf yX4_ceilingOf, Cond.code yX4_ceilingOf cX4_ceilingOf 2 (some .int), Cond.fieldLink RX4 25 "AuditoriumKeys$Seats" "bought" "[I", Cond.instanceMethod yX4_putUp, Cond.selects RX4 yX4_putUp yX4_putUp, Cond.code yX4_putUp cX4_putUp 3 none, Cond.fieldLink RX4 22 "AuditoriumKeys$Seats" "price" "[I"]
def wsL_offer : List Cond := .codeWith yL_offer cL_offer 6 (some .int) [(0, 12, 15, 27), (0, 12, 19, 13), (0, 12, 23, 15)] :: ((wsL_offer_r1 ++ wsL_offer_r2) ++ wsX50 ++ wsX40 ++ (vx_atS RX5 62 "java/lang/IllegalArgumentException" ["java/lang/RuntimeException", "java/lang/Exception"]).filter goodWord ++ (vx_atS RX5 69 "java/lang/IllegalStateException" ["java/lang/RuntimeException", "java/lang/Exception"]).filter goodWord ++ (vx_atS RX5 133 "java/lang/IndexOutOfBoundsException" ["java/lang/RuntimeException", "java/lang/Exception"]).filter goodWord)
def wsL_retract : List Cond := .codeWith yL_retract cL_retract 4 (some .int) [(0, 9, 12, 27), (0, 9, 15, 15)] :: ([.classLink RL 27 "java/lang/IndexOutOfBoundsException", .classLink RL 15 "java/lang/IllegalStateException", .methodLink RL 71 yX5_retract, .instanceMethod yX5_retract, .selects RX5 yX5_retract yX5_retract, .initialized RX5, .code yX5_retract cX5_retract 2 (some .int), .classLink RX5 65 "java/lang/IllegalStateException", .initialized "java/lang/IllegalStateException", .fieldLink RX5 47 "AuditoriumKeys" "seats" "LAuditoriumKeys$Seats;", .methodLink RX5 186 yX5_needSeat, .static yX5_needSeat, .code yX5_needSeat cX5_needSeat 1 none, .classLink RX5 129 "java/lang/IndexOutOfBoundsException", .initialized "java/lang/IndexOutOfBoundsException", .instanceMethod yX4_stateOf, .initialized RX4, .selects RX4 yX4_stateOf yX4_stateOf, .code yX4_stateOf cX4_stateOf 2 (some .int), .fieldLink RX4 9 "AuditoriumKeys$Seats" "held" "[Z", .fieldLink RX4 18 "AuditoriumKeys$Seats" "owner" "[I", .fieldLink RX4 15 "AuditoriumKeys$Seats" "offered" "[Z"] ++ wsX50 ++ wsX40 ++ (vx_atS RX5 69 "java/lang/IllegalStateException" ["java/lang/RuntimeException", "java/lang/Exception"]).filter goodWord ++ (vx_atS RX5 133 "java/lang/IndexOutOfBoundsException" ["java/lang/RuntimeException", "java/lang/Exception"]).filter goodWord)
def wsL_spent : List Cond := .codeWith yL_spent cL_spent 4 (some .int) [(0, 9, 12, 27)] :: ([.classLink RL 27 "java/lang/IndexOutOfBoundsException", .methodLink RL 74 yX5_spent, .instanceMethod yX5_spent, .selects RX5 yX5_spent yX5_spent, .initialized RX5, .code yX5_spent cX5_spent 2 (some .int), .fieldLink RX5 19 "AuditoriumKeys" "outlay" "[I", .methodLink RX5 100 yX5_needPerson, .static yX5_needPerson, .code yX5_needPerson cX5_needPerson 1 none, .classLink RX5 129 "java/lang/IndexOutOfBoundsException", .initialized "java/lang/IndexOutOfBoundsException"] ++ wsX50 ++ (vx_atS RX5 133 "java/lang/IndexOutOfBoundsException" ["java/lang/RuntimeException", "java/lang/Exception"]).filter goodWord)
def wsL_law0_r1 : List Cond := [Cond.classLink RL 8 RX5, Cond.instantiable RX5 9, Cond.initialized RX5, Cond.classLink RL 78 RX6, Cond.instantiable RX6 21, Cond.initialized RX6, Cond.arrayClass .long, Cond.methodLink RL 77 yX5_init, Cond.instanceMethod yX5_init, Cond.code yX5_init cX5_init 1 none, Cond.methodLink RX5 3 objectInit, Cond.instanceMethod objectInit, Cond.code objectInit ⟨#[0xb1]⟩ 1 none, Cond.fieldLink RX5 9 "AuditoriumKeys" "now" "I", Cond.fieldLink RX5 13 "AuditoriumKeys" "opening" "I", Cond.fieldLink RX5 16 "AuditoriumKeys" "taken" "I", Cond.arrayClass .int, Cond.fieldLink RX5 19 "AuditoriumKeys" "outlay" "[I", Cond.classLink RX5 23 RX0, Cond.instantiable RX0 4, Cond.initialized RX0, Cond.fieldLink RX5 26 "AuditoriumKeys" "codes" "LAuditoriumKeys$Codes;", Cond.classLink RX5 30 RX2, Cond.instantiable RX2 1]
def wsL_law0_r2 : List Cond := [Cond.initialized RX2, Cond.fieldLink RX5 33 "AuditoriumKeys" "line" "LAuditoriumKeys$Line;", Cond.classLink RX5 37 RX1, Cond.instantiable RX1 7, Cond.initialized RX1, Cond.fieldLink RX5 40 "AuditoriumKeys" "holds" "LAuditoriumKeys$Holds;", Cond.classLink RX5 44 RX4, Cond.instantiable RX4 5, Cond.initialized RX4, Cond.fieldLink RX5 47 "AuditoriumKeys" "seats" "LAuditoriumKeys$Seats;", Cond.classLink RX5 51 RX3, Cond.instantiable RX3 4, Cond.initialized RX3, Cond.fieldLink RX5 54 "AuditoriumKeys" "sales" "LAuditoriumKeys$Sales;", Cond.instanceMethod yX0_init, Cond.code yX0_init cX0_init 1 none, Cond.methodLink RX0 3 objectInit, Cond.fieldLink RX0 9 "AuditoriumKeys$Codes" "count" "I", Cond.fieldLink RX0 15 "AuditoriumKeys$Codes" "ofPerson" "[I", Cond.fieldLink RX0 19 "AuditoriumKeys$Codes" "ofHousehold" "[I", Cond.fieldLink RX0 22 "AuditoriumKeys$Codes" "counted" "[I", Cond.instanceMethod yX2_init, Cond.code yX2_init cX2_init 2 none, Cond.methodLink RX2 3 objectInit]
def wsL_law0_r3 : List Cond := [Cond.fieldLink RX2 9 "AuditoriumKeys$Line" "came" "[I", Cond.instanceMethod yX1_init, Cond.code yX1_init cX1_init 1 none, Cond.methodLink RX1 3 objectInit, Cond.fieldLink RX1 9 "AuditoriumKeys$Holds" "first" "[I", Cond.fieldLink RX1 15 "AuditoriumKeys$Holds" "many" "[I", Cond.fieldLink RX1 18 "AuditoriumKeys$Holds" "code" "[I", Cond.fieldLink RX1 21 "AuditoriumKeys$Holds" "cost" "[I", Cond.fieldLink RX1 24 "AuditoriumKeys$Holds" "paid" "[I", Cond.fieldLink RX1 27 "AuditoriumKeys$Holds" "latest" "[I", Cond.fieldLink RX1 30 "AuditoriumKeys$Holds" "lapse" "[I", Cond.instanceMethod yX4_init, Cond.code yX4_init cX4_init 2 none, Cond.methodLink RX4 3 objectInit, Cond.arrayClass .boolean, Cond.fieldLink RX4 9 "AuditoriumKeys$Seats" "held" "[Z", Cond.fieldLink RX4 15 "AuditoriumKeys$Seats" "offered" "[Z", Cond.fieldLink RX4 18 "AuditoriumKeys$Seats" "owner" "[I", Cond.fieldLink RX4 22 "AuditoriumKeys$Seats" "price" "[I", Cond.fieldLink RX4 25 "AuditoriumKeys$Seats" "bought" "[I", Cond.instanceMethod yX3_init, Cond.code yX3_init cX3_init 1 none, Cond.methodLink RX3 3 objectInit, Cond.fieldLink RX3 9 "AuditoriumKeys$Sales" "count" "I"]
def wsL_law0_r4 : List Cond := [Cond.fieldLink RX3 15 "AuditoriumKeys$Sales" "first" "[I", Cond.fieldLink RX3 19 "AuditoriumKeys$Sales" "many" "[I", Cond.fieldLink RX3 22 "AuditoriumKeys$Sales" "buyer" "[I", Cond.methodLink RL 80 yX6_init, Cond.instanceMethod yX6_init, Cond.code yX6_init cX6_init 2 none, Cond.methodLink RX6 1 objectInit, Cond.fieldLink RX6 7 "AuditoriumKeysModel" "opening" "I", Cond.fieldLink RX6 13 "AuditoriumKeysModel" "ofPerson" "[I", Cond.fieldLink RX6 17 "AuditoriumKeysModel" "ofHousehold" "[I", Cond.fieldLink RX6 20 "AuditoriumKeysModel" "used" "[I", Cond.fieldLink RX6 23 "AuditoriumKeysModel" "cameAt" "[I", Cond.fieldLink RX6 26 "AuditoriumKeysModel" "firsts" "[I", Cond.fieldLink RX6 29 "AuditoriumKeysModel" "manies" "[I", Cond.fieldLink RX6 32 "AuditoriumKeysModel" "byCode" "[I", Cond.fieldLink RX6 35 "AuditoriumKeysModel" "costs" "[I", Cond.fieldLink RX6 38 "AuditoriumKeysModel" "paid" "[I", Cond.fieldLink RX6 41 "AuditoriumKeysModel" "madeAt" "[I", Cond.fieldLink RX6 44 "AuditoriumKeysModel" "lapsesAt" "[I", Cond.fieldLink RX6 47 "AuditoriumKeysModel" "spent" "[I", Cond.fieldLink RX6 50 "AuditoriumKeysModel" "owners" "[I", Cond.fieldLink RX6 53 "AuditoriumKeysModel" "worth" "[I", Cond.fieldLink RX6 56 "AuditoriumKeysModel" "offered" "[I", Cond.fieldLink RX6 59 "AuditoriumKeysModel" "wasSingle" "[Z"]
def wsL_law0_r5 : List Cond := [Cond.methodLink RL 81 yL_pass, Cond.static yL_pass, Cond.initialized RL, Cond.codeWith yL_pass cL_pass 4 (some .int) [(0, 9, 12, 13), (0, 9, 15, 15)], Cond.classLink RL 13 "java/lang/IllegalArgumentException", Cond.classLink RL 15 "java/lang/IllegalStateException", Cond.methodLink RL 7 yX5_pass, Cond.instanceMethod yX5_pass, Cond.selects RX5 yX5_pass yX5_pass, Cond.code yX5_pass cX5_pass 4 (some .int), Cond.classLink RX5 58 "java/lang/IllegalArgumentException", Cond.initialized "java/lang/IllegalArgumentException", Cond.classLink RX5 65 "java/lang/IllegalStateException", Cond.initialized "java/lang/IllegalStateException", Cond.instanceMethod yX1_isThere, Cond.selects RX1 yX1_isThere yX1_isThere, Cond.code yX1_isThere cX1_isThere 2 (some .boolean), Cond.methodLink RX5 77 yX5_giveBack, Cond.instanceMethod yX5_giveBack, Cond.selects RX5 yX5_giveBack yX5_giveBack, Cond.code yX5_giveBack cX5_giveBack 3 (some .int), Cond.instanceMethod yX0_tally, Cond.selects RX0 yX0_tally yX0_tally, Cond.code yX0_tally cX0_tally 4 none]
def wsL_law0_r6 : List Cond := [Cond.instanceMethod yX4_unlock, Cond.selects RX4 yX4_unlock yX4_unlock, Cond.code yX4_unlock cX4_unlock 4 none, Cond.instanceMethod yX1_end, Cond.selects RX1 yX1_end yX1_end, Cond.code yX1_end cX1_end 2 none, Cond.methodLink RL 86 yX6_pass, Cond.instanceMethod yX6_pass, Cond.selects RX6 yX6_pass yX6_pass, Cond.code yX6_pass cX6_pass 5 (some .int), Cond.fieldLink RX6 80 "AuditoriumKeysModel" "time" "I", Cond.methodLink RX6 66 yX6_in, Cond.static yX6_in, Cond.code yX6_in cX6_in 3 (some .boolean), Cond.methodLink RX6 83 yX6_goesWell, Cond.instanceMethod yX6_goesWell, Cond.selects RX6 yX6_goesWell yX6_goesWell, Cond.code yX6_goesWell cX6_goesWell 2 (some .boolean), Cond.fieldLink RX6 63 "AuditoriumKeysModel" "thrown" "I", Cond.methodLink RX6 86 yX6_dropHold, Cond.instanceMethod yX6_dropHold, Cond.selects RX6 yX6_dropHold yX6_dropHold, Cond.code yX6_dropHold cX6_dropHold 2 none, Cond.methodLink RL 87 yX6_thrown]
def wsL_law0_r7 : List Cond := [Cond.instanceMethod yX6_thrown, Cond.selects RX6 yX6_thrown yX6_thrown, Cond.code yX6_thrown cX6_thrown 1 (some .int), Cond.methodLink RL 91 yX5_time, Cond.instanceMethod yX5_time, Cond.selects RX5 yX5_time yX5_time, Cond.code yX5_time cX5_time 1 (some .int), Cond.methodLink RL 94 yX6_time, Cond.instanceMethod yX6_time, Cond.selects RX6 yX6_time yX6_time, Cond.code yX6_time cX6_time 1 (some .int), Cond.methodLink RL 95 yL_setOpening, Cond.static yL_setOpening, Cond.codeWith yL_setOpening cL_setOpening 4 (some .int) [(0, 9, 12, 13)], Cond.methodLink RL 17 yX5_setOpening, Cond.instanceMethod yX5_setOpening, Cond.selects RX5 yX5_setOpening yX5_setOpening, Cond.code yX5_setOpening cX5_setOpening 3 (some .int), Cond.methodLink RL 97 yX6_setOpening, Cond.instanceMethod yX6_setOpening, Cond.selects RX6 yX6_setOpening yX6_setOpening, Cond.code yX6_setOpening cX6_setOpening 3 (some .int), Cond.methodLink RL 98 yL_code, Cond.static yL_code]
def wsL_law0_r8 : List Cond := [Cond.codeWith yL_code cL_code 5 (some .int) [(0, 10, 13, 13), (0, 10, 17, 15)], Cond.methodLink RL 20 yX5_code, Cond.instanceMethod yX5_code, Cond.selects RX5 yX5_code yX5_code, Cond.code yX5_code cX5_code 3 (some .int), Cond.instanceMethod yX0_add, Cond.selects RX0 yX0_add yX0_add, Cond.code yX0_add cX0_add 3 (some .int), Cond.methodLink RL 101 yX6_code, Cond.instanceMethod yX6_code, Cond.selects RX6 yX6_code yX6_code, Cond.code yX6_code cX6_code 4 (some .int), Cond.fieldLink RX6 70 "AuditoriumKeysModel" "codes" "I", Cond.methodLink RL 102 yL_used, Cond.static yL_used, Cond.codeWith yL_used cL_used 5 (some .int) [(0, 10, 13, 27)], Cond.classLink RL 27 "java/lang/IndexOutOfBoundsException", Cond.methodLink RL 24 yX5_used, Cond.instanceMethod yX5_used, Cond.selects RX5 yX5_used yX5_used, Cond.code yX5_used cX5_used 3 (some .int), Cond.methodLink RX5 96 yX5_needCode, Cond.instanceMethod yX5_needCode, Cond.selects RX5 yX5_needCode yX5_needCode]
def wsL_law0_r9 : List Cond := [Cond.code yX5_needCode cX5_needCode 2 none, Cond.classLink RX5 129 "java/lang/IndexOutOfBoundsException", Cond.initialized "java/lang/IndexOutOfBoundsException", Cond.methodLink RX5 100 yX5_needPerson, Cond.static yX5_needPerson, Cond.code yX5_needPerson cX5_needPerson 1 none, Cond.instanceMethod yX0_seatsOf, Cond.selects RX0 yX0_seatsOf yX0_seatsOf, Cond.code yX0_seatsOf cX0_seatsOf 3 (some .int), Cond.methodLink RL 104 yX6_used, Cond.instanceMethod yX6_used, Cond.selects RX6 yX6_used yX6_used, Cond.code yX6_used cX6_used 3 (some .int), Cond.methodLink RX6 90 yX6_isCode, Cond.instanceMethod yX6_isCode, Cond.selects RX6 yX6_isCode yX6_isCode, Cond.code yX6_isCode cX6_isCode 2 (some .boolean), Cond.methodLink RX6 93 yX6_isPerson, Cond.static yX6_isPerson, Cond.code yX6_isPerson cX6_isPerson 1 (some .boolean), Cond.methodLink RX6 96 yX6_usedBy, Cond.instanceMethod yX6_usedBy, Cond.selects RX6 yX6_usedBy yX6_usedBy, Cond.code yX6_usedBy cX6_usedBy 4 (some .int)]
def wsL_law0_r10 : List Cond := [Cond.methodLink RL 105 yL_join, Cond.static yL_join, Cond.codeWith yL_join cL_join 4 (some .int) [(0, 9, 12, 27), (0, 9, 15, 15)], Cond.methodLink RL 29 yX5_join, Cond.instanceMethod yX5_join, Cond.selects RX5 yX5_join yX5_join, Cond.code yX5_join cX5_join 2 (some .int), Cond.instanceMethod yX2_isIn, Cond.selects RX2 yX2_isIn yX2_isIn, Cond.code yX2_isIn cX2_isIn 2 (some .boolean), Cond.instanceMethod yX2_enter, Cond.selects RX2 yX2_enter yX2_enter, Cond.code yX2_enter cX2_enter 3 none, Cond.instanceMethod yX2_length, Cond.selects RX2 yX2_length yX2_length, Cond.code yX2_length cX2_length 3 (some .int), Cond.methodLink RX2 15 yX2_isIn, Cond.methodLink RL 107 yX6_join, Cond.instanceMethod yX6_join, Cond.selects RX6 yX6_join yX6_join, Cond.code yX6_join cX6_join 3 (some .int), Cond.methodLink RX6 104 yX6_countQueue, Cond.instanceMethod yX6_countQueue, Cond.selects RX6 yX6_countQueue yX6_countQueue]
def wsL_law0_r11 : List Cond := [Cond.code yX6_countQueue cX6_countQueue 3 (some .int), Cond.methodLink RL 108 yL_quit, Cond.static yL_quit, Cond.codeWith yL_quit cL_quit 4 (some .int) [(0, 9, 12, 27), (0, 9, 15, 15)], Cond.methodLink RL 32 yX5_quit, Cond.instanceMethod yX5_quit, Cond.selects RX5 yX5_quit yX5_quit, Cond.code yX5_quit cX5_quit 2 (some .int), Cond.instanceMethod yX2_leave, Cond.selects RX2 yX2_leave yX2_leave, Cond.code yX2_leave cX2_leave 2 none, Cond.methodLink RL 110 yX6_quit, Cond.instanceMethod yX6_quit, Cond.selects RX6 yX6_quit yX6_quit, Cond.code yX6_quit cX6_quit 3 (some .int), Cond.methodLink RL 111 yL_queueAt, Cond.static yL_queueAt, Cond.codeWith yL_queueAt cL_queueAt 4 (some .int) [(0, 9, 12, 27)], Cond.methodLink RL 35 yX5_queueAt, Cond.instanceMethod yX5_queueAt, Cond.selects RX5 yX5_queueAt yX5_queueAt, Cond.code yX5_queueAt cX5_queueAt 3 (some .int), Cond.instanceMethod yX2_personAt, Cond.selects RX2 yX2_personAt yX2_personAt]
def wsL_law0_r12 : List Cond := [Cond.code yX2_personAt cX2_personAt 3 (some .int), Cond.methodLink RX2 19 yX2_placeOf, Cond.instanceMethod yX2_placeOf, Cond.selects RX2 yX2_placeOf yX2_placeOf, Cond.code yX2_placeOf cX2_placeOf 4 (some .int), Cond.methodLink RX2 23 yX2_rank, Cond.instanceMethod yX2_rank, Cond.selects RX2 yX2_rank yX2_rank, Cond.code yX2_rank cX2_rank 3 (some .int), Cond.methodLink RL 113 yX6_queueAt, Cond.instanceMethod yX6_queueAt, Cond.selects RX6 yX6_queueAt yX6_queueAt, Cond.code yX6_queueAt cX6_queueAt 2 (some .int), Cond.methodLink RX6 108 yX6_placeAt, Cond.instanceMethod yX6_placeAt, Cond.selects RX6 yX6_placeAt yX6_placeAt, Cond.code yX6_placeAt cX6_placeAt 5 (some .int), Cond.methodLink RX6 100 yX6_isAhead, Cond.instanceMethod yX6_isAhead, Cond.selects RX6 yX6_isAhead yX6_isAhead, Cond.code yX6_isAhead cX6_isAhead 5 (some .boolean), Cond.methodLink RL 114 yX5_served, Cond.instanceMethod yX5_served, Cond.selects RX5 yX5_served yX5_served]
def wsL_law0_r13 : List Cond := [Cond.code yX5_served cX5_served 2 (some .int), Cond.methodLink RL 117 yX6_served, Cond.instanceMethod yX6_served, Cond.selects RX6 yX6_served yX6_served, Cond.code yX6_served cX6_served 1 (some .int), Cond.methodLink RX6 112 yX6_servedNow, Cond.instanceMethod yX6_servedNow, Cond.selects RX6 yX6_servedNow yX6_servedNow, Cond.code yX6_servedNow cX6_servedNow 2 (some .int), Cond.methodLink RL 118 yL_hold, Cond.static yL_hold, Cond.codeWith yL_hold cL_hold 8 (some .int) [(0, 16, 19, 27), (0, 16, 23, 13), (0, 16, 27, 15)], Cond.methodLink RL 38 yX5_hold, Cond.instanceMethod yX5_hold, Cond.selects RX5 yX5_hold yX5_hold, Cond.code yX5_hold cX5_hold 8 (some .int), Cond.methodLink RX5 137 yX5_needRow, Cond.static yX5_needRow, Cond.code yX5_needRow cX5_needRow 1 none, Cond.methodLink RX5 144 yX5_served, Cond.methodLink RX5 149 yX5_needSeatsFor, Cond.instanceMethod yX5_needSeatsFor, Cond.selects RX5 yX5_needSeatsFor yX5_needSeatsFor, Cond.code yX5_needSeatsFor cX5_needSeatsFor 6 none]
def wsL_law0_r14 : List Cond := [Cond.instanceMethod yX4_isOpen, Cond.selects RX4 yX4_isOpen yX4_isOpen, Cond.code yX4_isOpen cX4_isOpen 4 (some .boolean), Cond.methodLink RX4 28 yX4_stateOf, Cond.instanceMethod yX4_stateOf, Cond.selects RX4 yX4_stateOf yX4_stateOf, Cond.code yX4_stateOf cX4_stateOf 2 (some .int), Cond.instanceMethod yX4_leavesSingle, Cond.selects RX4 yX4_leavesSingle yX4_leavesSingle, Cond.code yX4_leavesSingle cX4_leavesSingle 5 (some .boolean), Cond.methodLink RX4 32 yX4_isOpen, Cond.methodLink RX5 153 yX5_needRightFor, Cond.instanceMethod yX5_needRightFor, Cond.selects RX5 yX5_needRightFor yX5_needRightFor, Cond.code yX5_needRightFor cX5_needRightFor 4 none, Cond.instanceMethod yX0_haveRoom, Cond.selects RX0 yX0_haveRoom yX0_haveRoom, Cond.code yX0_haveRoom cX0_haveRoom 6 (some .boolean), Cond.methodLink RX0 25 yX0_seatsOf, Cond.instanceMethod yX4_lock, Cond.selects RX4 yX4_lock yX4_lock, Cond.code yX4_lock cX4_lock 5 (some .int), Cond.instanceMethod yX1_make, Cond.selects RX1 yX1_make yX1_make]
def wsL_law0_r15 : List Cond := [Cond.code yX1_make cX1_make 7 none, Cond.methodLink RL 121 yX6_hold, Cond.instanceMethod yX6_hold, Cond.selects RX6 yX6_hold yX6_hold, Cond.code yX6_hold cX6_hold 12 (some .int), Cond.methodLink RX6 118 yX6_isRow, Cond.static yX6_isRow, Cond.code yX6_isRow cX6_isRow 1 (some .boolean), Cond.methodLink RX6 121 yX6_areOpen, Cond.instanceMethod yX6_areOpen, Cond.selects RX6 yX6_areOpen yX6_areOpen, Cond.code yX6_areOpen cX6_areOpen 6 (some .boolean), Cond.methodLink RX6 77 yX6_isOpen, Cond.instanceMethod yX6_isOpen, Cond.selects RX6 yX6_isOpen yX6_isOpen, Cond.code yX6_isOpen cX6_isOpen 2 (some .boolean), Cond.methodLink RX6 73 yX6_isHeld, Cond.instanceMethod yX6_isHeld, Cond.selects RX6 yX6_isHeld yX6_isHeld, Cond.code yX6_isHeld cX6_isHeld 4 (some .boolean), Cond.methodLink RX6 124 yX6_isWithin, Cond.instanceMethod yX6_isWithin, Cond.selects RX6 yX6_isWithin yX6_isWithin, Cond.code yX6_isWithin cX6_isWithin 6 (some .boolean)]
def wsL_law0_r16 : List Cond := [Cond.methodLink RX6 127 yX6_leavesSingle, Cond.instanceMethod yX6_leavesSingle, Cond.selects RX6 yX6_leavesSingle yX6_leavesSingle, Cond.code yX6_leavesSingle cX6_leavesSingle 6 (some .boolean), Cond.methodLink RX6 115 yX6_isAlone, Cond.instanceMethod yX6_isAlone, Cond.selects RX6 yX6_isAlone yX6_isAlone, Cond.code yX6_isAlone cX6_isAlone 5 (some .boolean), Cond.methodLink RX6 130 yX6_priceOf, Cond.instanceMethod yX6_priceOf, Cond.selects RX6 yX6_priceOf yX6_priceOf, Cond.code yX6_priceOf cX6_priceOf 2 (some .int), Cond.methodLink RL 122 yL_pay, Cond.static yL_pay, Cond.codeWith yL_pay cL_pay 5 (some .int) [(0, 10, 13, 27), (0, 10, 17, 13), (0, 10, 21, 15)], Cond.methodLink RL 42 yX5_pay, Cond.instanceMethod yX5_pay, Cond.selects RX5 yX5_pay yX5_pay, Cond.code yX5_pay cX5_pay 4 (some .int), Cond.methodLink RX5 169 yX5_needHold, Cond.instanceMethod yX5_needHold, Cond.selects RX5 yX5_needHold yX5_needHold, Cond.code yX5_needHold cX5_needHold 2 none, Cond.instanceMethod yX1_left]
def wsL_law0_r17 : List Cond := [Cond.selects RX1 yX1_left yX1_left, Cond.code yX1_left cX1_left 2 (some .int), Cond.methodLink RX5 180 yX5_sell, Cond.instanceMethod yX5_sell, Cond.selects RX5 yX5_sell yX5_sell, Cond.code yX5_sell cX5_sell 6 none, Cond.instanceMethod yX4_giveTo, Cond.selects RX4 yX4_giveTo yX4_giveTo, Cond.code yX4_giveTo cX4_giveTo 3 none, Cond.instanceMethod yX3_add, Cond.selects RX3 yX3_add yX3_add, Cond.code yX3_add cX3_add 4 none, Cond.instanceMethod yX1_prolong, Cond.selects RX1 yX1_prolong yX1_prolong, Cond.code yX1_prolong cX1_prolong 2 none, Cond.methodLink RX1 33 Lib.Math.min.name, Cond.static Lib.Math.min.name, Cond.initialized "java/lang/Math", Cond.code Lib.Math.min.name Lib.Math.min.code 2 (some .int), Cond.methodLink RL 124 yX6_pay, Cond.instanceMethod yX6_pay, Cond.selects RX6 yX6_pay yX6_pay, Cond.code yX6_pay cX6_pay 8 (some .int), Cond.methodLink RX6 136 yX6_sell]
def wsL_law0_r18 : List Cond := [Cond.instanceMethod yX6_sell, Cond.selects RX6 yX6_sell yX6_sell, Cond.code yX6_sell cX6_sell 5 none, Cond.fieldLink RX6 133 "AuditoriumKeysModel" "takings" "I", Cond.methodLink RL 125 yL_letGo, Cond.static yL_letGo, Cond.codeWith yL_letGo cL_letGo 4 (some .int) [(0, 9, 12, 27), (0, 9, 15, 15)], Cond.methodLink RL 45 yX5_letGo, Cond.instanceMethod yX5_letGo, Cond.selects RX5 yX5_letGo yX5_letGo, Cond.code yX5_letGo cX5_letGo 2 (some .int), Cond.methodLink RL 127 yX6_letGo, Cond.instanceMethod yX6_letGo, Cond.selects RX6 yX6_letGo yX6_letGo, Cond.code yX6_letGo cX6_letGo 3 (some .int), Cond.methodLink RL 128 yL_lapses, Cond.static yL_lapses, Cond.codeWith yL_lapses cL_lapses 4 (some .int) [(0, 9, 12, 27)], Cond.methodLink RL 48 yX5_lapses, Cond.instanceMethod yX5_lapses, Cond.selects RX5 yX5_lapses yX5_lapses, Cond.code yX5_lapses cX5_lapses 2 (some .int), Cond.methodLink RL 130 yX6_lapses, Cond.instanceMethod yX6_lapses]
def wsL_law0_r19 : List Cond := [Cond.selects RX6 yX6_lapses yX6_lapses, Cond.code yX6_lapses cX6_lapses 2 (some .int), Cond.methodLink RL 131 yL_state, Cond.static yL_state, Cond.codeWith yL_state cL_state 4 (some .int) [(0, 9, 12, 27)], Cond.methodLink RL 51 yX5_state, Cond.instanceMethod yX5_state, Cond.selects RX5 yX5_state yX5_state, Cond.code yX5_state cX5_state 2 (some .int), Cond.methodLink RX5 186 yX5_needSeat, Cond.static yX5_needSeat, Cond.code yX5_needSeat cX5_needSeat 1 none, Cond.methodLink RL 133 yX6_state, Cond.instanceMethod yX6_state, Cond.selects RX6 yX6_state yX6_state, Cond.code yX6_state cX6_state 2 (some .int), Cond.methodLink RX6 139 yX6_isSeat, Cond.static yX6_isSeat, Cond.code yX6_isSeat cX6_isSeat 1 (some .boolean), Cond.methodLink RX6 142 yX6_stateOf, Cond.instanceMethod yX6_stateOf, Cond.selects RX6 yX6_stateOf yX6_stateOf, Cond.code yX6_stateOf cX6_stateOf 2 (some .int), Cond.methodLink RL 134 yL_owner]
def wsL_law0_r20 : List Cond := [Cond.static yL_owner, Cond.codeWith yL_owner cL_owner 4 (some .int) [(0, 9, 12, 27)], Cond.methodLink RL 54 yX5_owner, Cond.instanceMethod yX5_owner, Cond.selects RX5 yX5_owner yX5_owner, Cond.code yX5_owner cX5_owner 2 (some .int), Cond.methodLink RL 136 yX6_owner, Cond.instanceMethod yX6_owner, Cond.selects RX6 yX6_owner yX6_owner, Cond.code yX6_owner cX6_owner 2 (some .int), Cond.methodLink RX6 145 yX6_ownerBySales, Cond.instanceMethod yX6_ownerBySales, Cond.selects RX6 yX6_ownerBySales yX6_ownerBySales, Cond.code yX6_ownerBySales cX6_ownerBySales 2 (some .int), Cond.methodLink RL 137 yL_ownerBySales, Cond.static yL_ownerBySales, Cond.codeWith yL_ownerBySales cL_ownerBySales 4 (some .int) [(0, 9, 12, 27)], Cond.methodLink RL 57 yX5_ownerBySales, Cond.instanceMethod yX5_ownerBySales, Cond.selects RX5 yX5_ownerBySales yX5_ownerBySales, Cond.code yX5_ownerBySales cX5_ownerBySales 2 (some .int), Cond.instanceMethod yX3_lastBuyerOf, Cond.selects RX3 yX3_lastBuyerOf yX3_lastBuyerOf, Cond.code yX3_lastBuyerOf cX3_lastBuyerOf 4 (some .int)]
def wsL_law0_r21 : List Cond := [Cond.methodLink RL 139 yX6_ownerBySales, Cond.methodLink RL 140 yL_isSingle, Cond.static yL_isSingle, Cond.codeWith yL_isSingle cL_isSingle 4 (some .int) [(0, 16, 19, 27)], Cond.methodLink RL 60 yX5_isSingle, Cond.instanceMethod yX5_isSingle, Cond.selects RX5 yX5_isSingle yX5_isSingle, Cond.code yX5_isSingle cX5_isSingle 4 (some .boolean), Cond.methodLink RL 142 yX6_isSingle, Cond.instanceMethod yX6_isSingle, Cond.selects RX6 yX6_isSingle yX6_isSingle, Cond.code yX6_isSingle cX6_isSingle 2 (some .boolean), Cond.methodLink RL 143 yL_firstOpen, Cond.static yL_firstOpen, Cond.codeWith yL_firstOpen cL_firstOpen 5 (some .int) [(0, 10, 13, 27), (0, 10, 17, 13)], Cond.methodLink RL 64 yX5_firstOpen, Cond.instanceMethod yX5_firstOpen, Cond.selects RX5 yX5_firstOpen yX5_firstOpen, Cond.code yX5_firstOpen cX5_firstOpen 5 (some .int), Cond.methodLink RL 145 yX6_firstOpen, Cond.instanceMethod yX6_firstOpen, Cond.selects RX6 yX6_firstOpen yX6_firstOpen, Cond.code yX6_firstOpen cX6_firstOpen 6 (some .int), Cond.methodLink RL 146 yL_offer]
def wsL_law0_r22 : List Cond := [Cond.static yL_offer, Cond.codeWith yL_offer cL_offer 6 (some .int) [(0, 12, 15, 27), (0, 12, 19, 13), (0, 12, 23, 15)], Cond.methodLink RL 67 yX5_offer, Cond.instanceMethod yX5_offer, Cond.selects RX5 yX5_offer yX5_offer, Cond.code yX5_offer cX5_offer 5 (some .int), Cond.instanceMethod yX4_ceilingOf, Cond.selects RX4 yX4_ceilingOf yX4_ceilingOf, Cond.code yX4_ceilingOf cX4_ceilingOf 2 (some .int), Cond.instanceMethod yX4_putUp, Cond.selects RX4 yX4_putUp yX4_putUp, Cond.code yX4_putUp cX4_putUp 3 none, Cond.methodLink RL 149 yX6_offer, Cond.instanceMethod yX6_offer, Cond.selects RX6 yX6_offer yX6_offer, Cond.code yX6_offer cX6_offer 8 (some .int), Cond.methodLink RL 150 yL_retract, Cond.static yL_retract, Cond.codeWith yL_retract cL_retract 4 (some .int) [(0, 9, 12, 27), (0, 9, 15, 15)], Cond.methodLink RL 71 yX5_retract, Cond.instanceMethod yX5_retract, Cond.selects RX5 yX5_retract yX5_retract, Cond.code yX5_retract cX5_retract 2 (some .int), Cond.methodLink RL 152 yX6_retract]
def wsL_law0_r23 : List Cond := [Cond.instanceMethod yX6_retract, Cond.selects RX6 yX6_retract yX6_retract, Cond.code yX6_retract cX6_retract 4 (some .int), Cond.methodLink RL 153 yL_spent, Cond.static yL_spent, Cond.codeWith yL_spent cL_spent 4 (some .int) [(0, 9, 12, 27)], Cond.methodLink RL 74 yX5_spent, Cond.instanceMethod yX5_spent, Cond.selects RX5 yX5_spent yX5_spent, Cond.code yX5_spent cX5_spent 2 (some .int), Cond.methodLink RL 155 yX6_spent, Cond.instanceMethod yX6_spent, Cond.selects RX6 yX6_spent yX6_spent, Cond.code yX6_spent cX6_spent 2 (some .int), Cond.methodLink RL 156 yX5_takings, Cond.instanceMethod yX5_takings, Cond.selects RX5 yX5_takings yX5_takings, Cond.code yX5_takings cX5_takings 1 (some .int), Cond.methodLink RL 159 yX6_takings, Cond.instanceMethod yX6_takings, Cond.selects RX6 yX6_takings yX6_takings, Cond.code yX6_takings cX6_takings 1 (some .int)]
def wsL_law0 : List Cond := (wsL_law0_r1 ++ (wsL_law0_r2 ++ (wsL_law0_r3 ++ (wsL_law0_r4 ++ (wsL_law0_r5 ++ (wsL_law0_r6 ++ (wsL_law0_r7 ++ (wsL_law0_r8 ++ (wsL_law0_r9 ++ (wsL_law0_r10 ++ (wsL_law0_r11 ++ (wsL_law0_r12 ++ (wsL_law0_r13 ++ (wsL_law0_r14 ++ (wsL_law0_r15 ++ (wsL_law0_r16 ++ (wsL_law0_r17 ++ (wsL_law0_r18 ++ (wsL_law0_r19 ++ (wsL_law0_r20 ++ (wsL_law0_r21 ++ (wsL_law0_r22 ++ wsL_law0_r23)))))))))))))))))))))) ++ wsX50 ++ wsX60 ++ wsX00 ++ wsX20 ++ wsX10 ++ wsX40 ++ wsX30 ++ ([] : List Cond)
def wsL_law : List Cond := wsL_law0 ++ (vx_atS RX5 62 "java/lang/IllegalArgumentException" ["java/lang/RuntimeException", "java/lang/Exception"]).filter goodWord ++ (vx_atS RX5 69 "java/lang/IllegalStateException" ["java/lang/RuntimeException", "java/lang/Exception"]).filter goodWord ++ (vx_atS RX5 133 "java/lang/IndexOutOfBoundsException" ["java/lang/RuntimeException", "java/lang/Exception"]).filter goodWord
set_option maxRecDepth 20000 in
theorem in0_wsL_law0_r1 : ∀ w ∈ wsL_law0_r1, w ∈ lw_tbl := fun w h => (goodIn_p wsL_law0_r1 [69, 72] (by decide +kernel) (by decide +kernel) w h).1
set_option maxRecDepth 20000 in
theorem in0_wsL_law0_r2 : ∀ w ∈ wsL_law0_r2, w ∈ lw_tbl := fun w h => (goodIn_p wsL_law0_r2 [77, 98] (by decide +kernel) (by decide +kernel) w h).1
set_option maxRecDepth 20000 in
theorem in0_wsL_law0_r3 : ∀ w ∈ wsL_law0_r3, w ∈ lw_tbl := fun w h => (goodIn_p wsL_law0_r3 [109, 142, 168] (by decide +kernel) (by decide +kernel) w h).1
set_option maxRecDepth 20000 in
theorem in0_wsL_law0_r4 : ∀ w ∈ wsL_law0_r4, w ∈ lw_tbl := fun w h => (goodIn_p wsL_law0_r4 [635] (by decide +kernel) (by decide +kernel) w h).1
set_option maxRecDepth 20000 in
theorem in0_wsL_law0_r5 : ∀ w ∈ wsL_law0_r5, w ∈ lw_tbl := fun w h => (goodIn_p wsL_law0_r5 [247, 335, 339, 343] (by decide +kernel) (by decide +kernel) w h).1
set_option maxRecDepth 20000 in
theorem in0_wsL_law0_r6 : ∀ w ∈ wsL_law0_r6, w ∈ lw_tbl := fun w h => (goodIn_p wsL_law0_r6 [347, 351, 708, 711, 715, 719] (by decide +kernel) (by decide +kernel) w h).1
set_option maxRecDepth 20000 in
theorem in0_wsL_law0_r7 : ∀ w ∈ wsL_law0_r7, w ∈ lw_tbl := fun w h => (goodIn_p wsL_law0_r7 [704, 214, 723, 358, 727] (by decide +kernel) (by decide +kernel) w h).1
set_option maxRecDepth 20000 in
theorem in0_wsL_law0_r8 : ∀ w ∈ wsL_law0_r8, w ∈ lw_tbl := fun w h => (goodIn_p wsL_law0_r8 [366, 373, 731, 381] (by decide +kernel) (by decide +kernel) w h).1
set_option maxRecDepth 20000 in
theorem in0_wsL_law0_r9 : ∀ w ∈ wsL_law0_r9, w ∈ lw_tbl := fun w h => (goodIn_p wsL_law0_r9 [385, 404, 409, 735, 739, 742, 746] (by decide +kernel) (by decide +kernel) w h).1
set_option maxRecDepth 20000 in
theorem in0_wsL_law0_r10 : ∀ w ∈ wsL_law0_r10, w ∈ lw_tbl := fun w h => (goodIn_p wsL_law0_r10 [416, 226, 423, 427, 750] (by decide +kernel) (by decide +kernel) w h).1
set_option maxRecDepth 20000 in
theorem in0_wsL_law0_r11 : ∀ w ∈ wsL_law0_r11, w ∈ lw_tbl := fun w h => (goodIn_p wsL_law0_r11 [754, 434, 439, 758, 446] (by decide +kernel) (by decide +kernel) w h).1
set_option maxRecDepth 20000 in
theorem in0_wsL_law0_r12 : ∀ w ∈ wsL_law0_r12, w ∈ lw_tbl := fun w h => (goodIn_p wsL_law0_r12 [222, 230, 234, 762, 766, 770] (by decide +kernel) (by decide +kernel) w h).1
set_option maxRecDepth 20000 in
theorem in0_wsL_law0_r13 : ∀ w ∈ wsL_law0_r13, w ∈ lw_tbl := fun w h => (goodIn_p wsL_law0_r13 [218, 774, 778, 454, 457, 466] (by decide +kernel) (by decide +kernel) w h).1
set_option maxRecDepth 20000 in
theorem in0_wsL_law0_r14 : ∀ w ∈ wsL_law0_r14, w ∈ lw_tbl := fun w h => (goodIn_p wsL_law0_r14 [470, 474, 480, 486, 491, 497] (by decide +kernel) (by decide +kernel) w h).1
set_option maxRecDepth 20000 in
theorem in0_wsL_law0_r15 : ∀ w ∈ wsL_law0_r15, w ∈ lw_tbl := fun w h => (goodIn_p wsL_law0_r15 [501, 782, 785, 789, 793, 797, 801] (by decide +kernel) (by decide +kernel) w h).1
set_option maxRecDepth 20000 in
theorem in0_wsL_law0_r16 : ∀ w ∈ wsL_law0_r16, w ∈ lw_tbl := fun w h => (goodIn_p wsL_law0_r16 [805, 809, 813, 508, 513] (by decide +kernel) (by decide +kernel) w h).1
set_option maxRecDepth 20000 in
theorem in0_wsL_law0_r17 : ∀ w ∈ wsL_law0_r17, w ∈ lw_tbl := fun w h => (goodIn_p wsL_law0_r17 [518, 523, 527, 531, 535, 538, 817] (by decide +kernel) (by decide +kernel) w h).1
set_option maxRecDepth 20000 in
theorem in0_wsL_law0_r18 : ∀ w ∈ wsL_law0_r18, w ∈ lw_tbl := fun w h => (goodIn_p wsL_law0_r18 [821, 545, 825, 552] (by decide +kernel) (by decide +kernel) w h).1
set_option maxRecDepth 20000 in
theorem in0_wsL_law0_r19 : ∀ w ∈ wsL_law0_r19, w ∈ lw_tbl := fun w h => (goodIn_p wsL_law0_r19 [829, 559, 562, 833, 836, 840] (by decide +kernel) (by decide +kernel) w h).1
set_option maxRecDepth 20000 in
theorem in0_wsL_law0_r20 : ∀ w ∈ wsL_law0_r20, w ∈ lw_tbl := fun w h => (goodIn_p wsL_law0_r20 [571, 844, 848, 578, 582] (by decide +kernel) (by decide +kernel) w h).1
set_option maxRecDepth 20000 in
theorem in0_wsL_law0_r21 : ∀ w ∈ wsL_law0_r21, w ∈ lw_tbl := fun w h => (goodIn_p wsL_law0_r21 [589, 853, 596, 857] (by decide +kernel) (by decide +kernel) w h).1
set_option maxRecDepth 20000 in
theorem in0_wsL_law0_r22 : ∀ w ∈ wsL_law0_r22, w ∈ lw_tbl := fun w h => (goodIn_p wsL_law0_r22 [603, 610, 615, 861, 622] (by decide +kernel) (by decide +kernel) w h).1
set_option maxRecDepth 20000 in
theorem in0_wsL_law0_r23 : ∀ w ∈ wsL_law0_r23, w ∈ lw_tbl := fun w h => (goodIn_p wsL_law0_r23 [865, 630, 869, 238, 873] (by decide +kernel) (by decide +kernel) w h).1
set_option maxRecDepth 20000 in
theorem in0_wsX50 : ∀ w ∈ wsX50, w ∈ lw_tbl := fun w h => (goodIn_p wsX50 [] (by decide +kernel) (by decide +kernel) w h).1
set_option maxRecDepth 20000 in
theorem in0_wsX60 : ∀ w ∈ wsX60, w ∈ lw_tbl := fun w h => (goodIn_p wsX60 [] (by decide +kernel) (by decide +kernel) w h).1
set_option maxRecDepth 20000 in
theorem in0_wsX00 : ∀ w ∈ wsX00, w ∈ lw_tbl := fun w h => (goodIn_p wsX00 [] (by decide +kernel) (by decide +kernel) w h).1
set_option maxRecDepth 20000 in
theorem in0_wsX20 : ∀ w ∈ wsX20, w ∈ lw_tbl := fun w h => (goodIn_p wsX20 [] (by decide +kernel) (by decide +kernel) w h).1
set_option maxRecDepth 20000 in
theorem in0_wsX10 : ∀ w ∈ wsX10, w ∈ lw_tbl := fun w h => (goodIn_p wsX10 [] (by decide +kernel) (by decide +kernel) w h).1
set_option maxRecDepth 20000 in
theorem in0_wsX40 : ∀ w ∈ wsX40, w ∈ lw_tbl := fun w h => (goodIn_p wsX40 [] (by decide +kernel) (by decide +kernel) w h).1
set_option maxRecDepth 20000 in
theorem in0_wsX30 : ∀ w ∈ wsX30, w ∈ lw_tbl := fun w h => (goodIn_p wsX30 [] (by decide +kernel) (by decide +kernel) w h).1
theorem wsL_law_in0 : ∀ w ∈ wsL_law0, w ∈ lw_tbl := List.forall_mem_append.mpr ⟨List.forall_mem_append.mpr ⟨List.forall_mem_append.mpr ⟨List.forall_mem_append.mpr ⟨List.forall_mem_append.mpr ⟨List.forall_mem_append.mpr ⟨List.forall_mem_append.mpr ⟨List.forall_mem_append.mpr ⟨List.forall_mem_append.mpr ⟨in0_wsL_law0_r1, List.forall_mem_append.mpr ⟨in0_wsL_law0_r2, List.forall_mem_append.mpr ⟨in0_wsL_law0_r3, List.forall_mem_append.mpr ⟨in0_wsL_law0_r4, List.forall_mem_append.mpr ⟨in0_wsL_law0_r5, List.forall_mem_append.mpr ⟨in0_wsL_law0_r6, List.forall_mem_append.mpr ⟨in0_wsL_law0_r7, List.forall_mem_append.mpr ⟨in0_wsL_law0_r8, List.forall_mem_append.mpr ⟨in0_wsL_law0_r9, List.forall_mem_append.mpr ⟨in0_wsL_law0_r10, List.forall_mem_append.mpr ⟨in0_wsL_law0_r11, List.forall_mem_append.mpr ⟨in0_wsL_law0_r12, List.forall_mem_append.mpr ⟨in0_wsL_law0_r13, List.forall_mem_append.mpr ⟨in0_wsL_law0_r14, List.forall_mem_append.mpr ⟨in0_wsL_law0_r15, List.forall_mem_append.mpr ⟨in0_wsL_law0_r16, List.forall_mem_append.mpr ⟨in0_wsL_law0_r17, List.forall_mem_append.mpr ⟨in0_wsL_law0_r18, List.forall_mem_append.mpr ⟨in0_wsL_law0_r19, List.forall_mem_append.mpr ⟨in0_wsL_law0_r20, List.forall_mem_append.mpr ⟨in0_wsL_law0_r21, List.forall_mem_append.mpr ⟨in0_wsL_law0_r22, in0_wsL_law0_r23⟩⟩⟩⟩⟩⟩⟩⟩⟩⟩⟩⟩⟩⟩⟩⟩⟩⟩⟩⟩⟩⟩, in0_wsX50⟩, in0_wsX60⟩, in0_wsX00⟩, in0_wsX20⟩, in0_wsX10⟩, in0_wsX40⟩, in0_wsX30⟩, (fun _ h => absurd h List.not_mem_nil)⟩
theorem wsL_law_x0 : ∀ w ∈ (vx_atS RX5 62 "java/lang/IllegalArgumentException" ["java/lang/RuntimeException", "java/lang/Exception"]).filter goodWord, w ∈ lw_tbl := by decide +kernel
theorem wsL_law_x1 : ∀ w ∈ (vx_atS RX5 69 "java/lang/IllegalStateException" ["java/lang/RuntimeException", "java/lang/Exception"]).filter goodWord, w ∈ lw_tbl := by decide +kernel
theorem wsL_law_x2 : ∀ w ∈ (vx_atS RX5 133 "java/lang/IndexOutOfBoundsException" ["java/lang/RuntimeException", "java/lang/Exception"]).filter goodWord, w ∈ lw_tbl := by decide +kernel
theorem wsL_law_in : ∀ w ∈ wsL_law, w ∈ lw_tbl := fun w h => (List.mem_append.mp h).elim (fun h => (List.mem_append.mp h).elim (fun h => (List.mem_append.mp h).elim (fun h => wsL_law_in0 w h) (fun h => wsL_law_x0 w h)) (fun h => wsL_law_x1 w h)) (fun h => wsL_law_x2 w h)
set_option maxRecDepth 20000 in
theorem ggL_pass_X5_pass : GoodIn wsL_pass wsX5_pass := goodIn_ca (goodIn_ca (goodIn_r _ [7, 8, 9, 10, 11, 12, 13, 14, 15, 16, 17, 18, 19, 20, 21, 6, 22, 23, 24, 25, 26, 27, 28, 29, 30, 31, 32, 33, 34, 35, 36, 37, 38, 39, 40, 41, 42, 43, 44, 45, 46, 47, 48, 49, 50, 51, 52, 53, 54, 55, 56, 57, 58, 59, 60, 61, 62, 63] (by decide +kernel) (by decide +kernel)) (goodIn_sub (fun _ h => List.mem_cons_of_mem _ (List.mem_append_left _ (List.mem_append_right _ h))) (by decide +kernel))) (goodIn_sub (fun _ h => List.mem_cons_of_mem _ (List.mem_append_right _ h)) (by decide +kernel))
set_option maxRecDepth 20000 in
theorem gL_pass_X5_pass : GoodIn wsL_pass (wsV RL 7 RX5 yX5_pass wsX5_pass) := goodIn_app (goodIn_of _ (by decide +kernel)) ggL_pass_X5_pass
theorem dL_pass_0 : decode cL_pass 0 = .ok (.aload_n 2, 1) := by decide +kernel
theorem dL_pass_1 : decode cL_pass 1 = .ok (.iconst 0, 1) := by decide +kernel
theorem dL_pass_2 : decode cL_pass 2 = .ok (.aload_n 0, 1) := by decide +kernel
theorem dL_pass_3 : decode cL_pass 3 = .ok (.iload_n 1, 1) := by decide +kernel
theorem dL_pass_4 : decode cL_pass 4 = .ok (.invokevirtual 7, 3) := by decide +kernel
theorem dL_pass_7 : decode cL_pass 7 = .ok (.i2l, 1) := by decide +kernel
theorem dL_pass_8 : decode cL_pass 8 = .ok (.lastore, 1) := by decide +kernel
theorem dL_pass_9 : decode cL_pass 9 = .ok (.goto 9, 3) := by decide +kernel
theorem dL_pass_12 : decode cL_pass 12 = .ok (.astore_n 3, 1) := by decide +kernel
theorem dL_pass_13 : decode cL_pass 13 = .ok (.iconst 1, 1) := by decide +kernel
theorem dL_pass_14 : decode cL_pass 14 = .ok (.ireturn, 1) := by decide +kernel
theorem dL_pass_15 : decode cL_pass 15 = .ok (.astore_n 3, 1) := by decide +kernel
theorem dL_pass_16 : decode cL_pass 16 = .ok (.iconst 2, 1) := by decide +kernel
theorem dL_pass_17 : decode cL_pass 17 = .ok (.ireturn, 1) := by decide +kernel
theorem dL_pass_18 : decode cL_pass 18 = .ok (.iconst 0, 1) := by decide +kernel
theorem dL_pass_19 : decode cL_pass 19 = .ok (.ireturn, 1) := by decide +kernel
set_option maxRecDepth 20000 in
theorem ggL_setOpening_X5_setOpening : GoodIn wsL_setOpening wsX5_setOpening := goodIn_ca (goodIn_r _ [6, 7, 8, 9, 10, 11, 12, 13, 14, 15, 16, 17, 18] (by decide +kernel) (by decide +kernel)) (goodIn_sub (fun _ h => List.mem_cons_of_mem _ (List.mem_append_right _ h)) (by decide +kernel))
set_option maxRecDepth 20000 in
theorem gL_setOpening_X5_setOpening : GoodIn wsL_setOpening (wsV RL 17 RX5 yX5_setOpening wsX5_setOpening) := goodIn_app (goodIn_of _ (by decide +kernel)) ggL_setOpening_X5_setOpening
theorem dL_setOpening_0 : decode cL_setOpening 0 = .ok (.aload_n 2, 1) := by decide +kernel
theorem dL_setOpening_1 : decode cL_setOpening 1 = .ok (.iconst 0, 1) := by decide +kernel
theorem dL_setOpening_2 : decode cL_setOpening 2 = .ok (.aload_n 0, 1) := by decide +kernel
theorem dL_setOpening_3 : decode cL_setOpening 3 = .ok (.iload_n 1, 1) := by decide +kernel
theorem dL_setOpening_4 : decode cL_setOpening 4 = .ok (.invokevirtual 17, 3) := by decide +kernel
theorem dL_setOpening_7 : decode cL_setOpening 7 = .ok (.i2l, 1) := by decide +kernel
theorem dL_setOpening_8 : decode cL_setOpening 8 = .ok (.lastore, 1) := by decide +kernel
theorem dL_setOpening_9 : decode cL_setOpening 9 = .ok (.goto 6, 3) := by decide +kernel
theorem dL_setOpening_12 : decode cL_setOpening 12 = .ok (.astore_n 3, 1) := by decide +kernel
theorem dL_setOpening_13 : decode cL_setOpening 13 = .ok (.iconst 1, 1) := by decide +kernel
theorem dL_setOpening_14 : decode cL_setOpening 14 = .ok (.ireturn, 1) := by decide +kernel
theorem dL_setOpening_15 : decode cL_setOpening 15 = .ok (.iconst 0, 1) := by decide +kernel
theorem dL_setOpening_16 : decode cL_setOpening 16 = .ok (.ireturn, 1) := by decide +kernel
set_option maxRecDepth 20000 in
theorem ggL_code_X5_code : GoodIn wsL_code wsX5_code := goodIn_ca (goodIn_ca (goodIn_r _ [7, 8, 9, 10, 11, 12, 13, 14, 15, 16, 17, 18, 19, 20, 21, 22, 23, 24, 25, 26, 27, 28, 29, 30, 31, 32] (by decide +kernel) (by decide +kernel)) (goodIn_sub (fun _ h => List.mem_cons_of_mem _ (List.mem_append_left _ (List.mem_append_right _ h))) (by decide +kernel))) (goodIn_sub (fun _ h => List.mem_cons_of_mem _ (List.mem_append_right _ h)) (by decide +kernel))
set_option maxRecDepth 20000 in
theorem gL_code_X5_code : GoodIn wsL_code (wsV RL 20 RX5 yX5_code wsX5_code) := goodIn_app (goodIn_of _ (by decide +kernel)) ggL_code_X5_code
theorem dL_code_0 : decode cL_code 0 = .ok (.aload_n 3, 1) := by decide +kernel
theorem dL_code_1 : decode cL_code 1 = .ok (.iconst 0, 1) := by decide +kernel
theorem dL_code_2 : decode cL_code 2 = .ok (.aload_n 0, 1) := by decide +kernel
theorem dL_code_3 : decode cL_code 3 = .ok (.iload_n 1, 1) := by decide +kernel
theorem dL_code_4 : decode cL_code 4 = .ok (.iload_n 2, 1) := by decide +kernel
theorem dL_code_5 : decode cL_code 5 = .ok (.invokevirtual 20, 3) := by decide +kernel
theorem dL_code_8 : decode cL_code 8 = .ok (.i2l, 1) := by decide +kernel
theorem dL_code_9 : decode cL_code 9 = .ok (.lastore, 1) := by decide +kernel
theorem dL_code_10 : decode cL_code 10 = .ok (.goto 11, 3) := by decide +kernel
theorem dL_code_13 : decode cL_code 13 = .ok (.astore 4, 2) := by decide +kernel
theorem dL_code_15 : decode cL_code 15 = .ok (.iconst 1, 1) := by decide +kernel
theorem dL_code_16 : decode cL_code 16 = .ok (.ireturn, 1) := by decide +kernel
theorem dL_code_17 : decode cL_code 17 = .ok (.astore 4, 2) := by decide +kernel
theorem dL_code_19 : decode cL_code 19 = .ok (.iconst 2, 1) := by decide +kernel
theorem dL_code_20 : decode cL_code 20 = .ok (.ireturn, 1) := by decide +kernel
theorem dL_code_21 : decode cL_code 21 = .ok (.iconst 0, 1) := by decide +kernel
theorem dL_code_22 : decode cL_code 22 = .ok (.ireturn, 1) := by decide +kernel
set_option maxRecDepth 20000 in
theorem ggL_used_X5_used : GoodIn wsL_used wsX5_used := goodIn_ca (goodIn_r _ [6, 7, 8, 9, 10, 5, 11, 12, 13, 14, 15, 16, 17, 18, 19, 20, 21, 22, 23, 24, 25, 26, 27, 28, 29, 30, 31, 32, 33, 34] (by decide +kernel) (by decide +kernel)) (goodIn_sub (fun _ h => List.mem_cons_of_mem _ (List.mem_append_right _ h)) (by decide +kernel))
set_option maxRecDepth 20000 in
theorem gL_used_X5_used : GoodIn wsL_used (wsV RL 24 RX5 yX5_used wsX5_used) := goodIn_app (goodIn_of _ (by decide +kernel)) ggL_used_X5_used
theorem dL_used_0 : decode cL_used 0 = .ok (.aload_n 3, 1) := by decide +kernel
theorem dL_used_1 : decode cL_used 1 = .ok (.iconst 0, 1) := by decide +kernel
theorem dL_used_2 : decode cL_used 2 = .ok (.aload_n 0, 1) := by decide +kernel
theorem dL_used_3 : decode cL_used 3 = .ok (.iload_n 1, 1) := by decide +kernel
theorem dL_used_4 : decode cL_used 4 = .ok (.iload_n 2, 1) := by decide +kernel
theorem dL_used_5 : decode cL_used 5 = .ok (.invokevirtual 24, 3) := by decide +kernel
theorem dL_used_8 : decode cL_used 8 = .ok (.i2l, 1) := by decide +kernel
theorem dL_used_9 : decode cL_used 9 = .ok (.lastore, 1) := by decide +kernel
theorem dL_used_10 : decode cL_used 10 = .ok (.goto 7, 3) := by decide +kernel
theorem dL_used_13 : decode cL_used 13 = .ok (.astore 4, 2) := by decide +kernel
theorem dL_used_15 : decode cL_used 15 = .ok (.iconst 1, 1) := by decide +kernel
theorem dL_used_16 : decode cL_used 16 = .ok (.ireturn, 1) := by decide +kernel
theorem dL_used_17 : decode cL_used 17 = .ok (.iconst 0, 1) := by decide +kernel
theorem dL_used_18 : decode cL_used 18 = .ok (.ireturn, 1) := by decide +kernel
set_option maxRecDepth 20000 in
theorem ggL_join_X5_join : GoodIn wsL_join wsX5_join := goodIn_ca (goodIn_ca (goodIn_r _ [7, 8, 9, 10, 11, 12, 13, 14, 6, 15, 16, 17, 18, 19, 20, 21, 22, 23, 24, 25, 26, 27, 28, 29, 30, 31, 32, 33, 34, 35, 36, 37, 38, 39, 40, 41, 42, 43, 44, 45, 46, 47, 48, 49, 50, 51] (by decide +kernel) (by decide +kernel)) (goodIn_sub (fun _ h => List.mem_cons_of_mem _ (List.mem_append_left _ (List.mem_append_right _ h))) (by decide +kernel))) (goodIn_sub (fun _ h => List.mem_cons_of_mem _ (List.mem_append_right _ h)) (by decide +kernel))
set_option maxRecDepth 20000 in
theorem gL_join_X5_join : GoodIn wsL_join (wsV RL 29 RX5 yX5_join wsX5_join) := goodIn_app (goodIn_of _ (by decide +kernel)) ggL_join_X5_join
theorem dL_join_0 : decode cL_join 0 = .ok (.aload_n 2, 1) := by decide +kernel
theorem dL_join_1 : decode cL_join 1 = .ok (.iconst 0, 1) := by decide +kernel
theorem dL_join_2 : decode cL_join 2 = .ok (.aload_n 0, 1) := by decide +kernel
theorem dL_join_3 : decode cL_join 3 = .ok (.iload_n 1, 1) := by decide +kernel
theorem dL_join_4 : decode cL_join 4 = .ok (.invokevirtual 29, 3) := by decide +kernel
theorem dL_join_7 : decode cL_join 7 = .ok (.i2l, 1) := by decide +kernel
theorem dL_join_8 : decode cL_join 8 = .ok (.lastore, 1) := by decide +kernel
theorem dL_join_9 : decode cL_join 9 = .ok (.goto 9, 3) := by decide +kernel
theorem dL_join_12 : decode cL_join 12 = .ok (.astore_n 3, 1) := by decide +kernel
theorem dL_join_13 : decode cL_join 13 = .ok (.iconst 1, 1) := by decide +kernel
theorem dL_join_14 : decode cL_join 14 = .ok (.ireturn, 1) := by decide +kernel
theorem dL_join_15 : decode cL_join 15 = .ok (.astore_n 3, 1) := by decide +kernel
theorem dL_join_16 : decode cL_join 16 = .ok (.iconst 2, 1) := by decide +kernel
theorem dL_join_17 : decode cL_join 17 = .ok (.ireturn, 1) := by decide +kernel
theorem dL_join_18 : decode cL_join 18 = .ok (.iconst 0, 1) := by decide +kernel
theorem dL_join_19 : decode cL_join 19 = .ok (.ireturn, 1) := by decide +kernel
set_option maxRecDepth 20000 in
theorem ggL_quit_X5_quit : GoodIn wsL_quit wsX5_quit := goodIn_ca (goodIn_ca (goodIn_r _ [7, 8, 9, 10, 11, 12, 6, 13, 14, 15, 16, 17, 18, 19, 20, 21, 22, 23, 24, 25, 26, 27, 28, 29, 30, 31, 32, 33, 34, 35, 36, 37] (by decide +kernel) (by decide +kernel)) (goodIn_sub (fun _ h => List.mem_cons_of_mem _ (List.mem_append_left _ (List.mem_append_right _ h))) (by decide +kernel))) (goodIn_sub (fun _ h => List.mem_cons_of_mem _ (List.mem_append_right _ h)) (by decide +kernel))
set_option maxRecDepth 20000 in
theorem gL_quit_X5_quit : GoodIn wsL_quit (wsV RL 32 RX5 yX5_quit wsX5_quit) := goodIn_app (goodIn_of _ (by decide +kernel)) ggL_quit_X5_quit
theorem dL_quit_0 : decode cL_quit 0 = .ok (.aload_n 2, 1) := by decide +kernel
theorem dL_quit_1 : decode cL_quit 1 = .ok (.iconst 0, 1) := by decide +kernel
theorem dL_quit_2 : decode cL_quit 2 = .ok (.aload_n 0, 1) := by decide +kernel
theorem dL_quit_3 : decode cL_quit 3 = .ok (.iload_n 1, 1) := by decide +kernel
theorem dL_quit_4 : decode cL_quit 4 = .ok (.invokevirtual 32, 3) := by decide +kernel
theorem dL_quit_7 : decode cL_quit 7 = .ok (.i2l, 1) := by decide +kernel
theorem dL_quit_8 : decode cL_quit 8 = .ok (.lastore, 1) := by decide +kernel
theorem dL_quit_9 : decode cL_quit 9 = .ok (.goto 9, 3) := by decide +kernel
theorem dL_quit_12 : decode cL_quit 12 = .ok (.astore_n 3, 1) := by decide +kernel
theorem dL_quit_13 : decode cL_quit 13 = .ok (.iconst 1, 1) := by decide +kernel
theorem dL_quit_14 : decode cL_quit 14 = .ok (.ireturn, 1) := by decide +kernel
theorem dL_quit_15 : decode cL_quit 15 = .ok (.astore_n 3, 1) := by decide +kernel
theorem dL_quit_16 : decode cL_quit 16 = .ok (.iconst 2, 1) := by decide +kernel
theorem dL_quit_17 : decode cL_quit 17 = .ok (.ireturn, 1) := by decide +kernel
theorem dL_quit_18 : decode cL_quit 18 = .ok (.iconst 0, 1) := by decide +kernel
theorem dL_quit_19 : decode cL_quit 19 = .ok (.ireturn, 1) := by decide +kernel
set_option maxRecDepth 20000 in
theorem ggL_queueAt_X5_queueAt : GoodIn wsL_queueAt wsX5_queueAt := goodIn_ca (goodIn_r _ [6, 7, 8, 9, 10, 11, 12, 13, 14, 15, 16, 17, 18, 19, 20, 21, 22, 23, 24, 25, 26, 27, 28, 29, 30, 31, 32, 33, 34, 35, 36] (by decide +kernel) (by decide +kernel)) (goodIn_sub (fun _ h => List.mem_cons_of_mem _ (List.mem_append_right _ h)) (by decide +kernel))
set_option maxRecDepth 20000 in
theorem gL_queueAt_X5_queueAt : GoodIn wsL_queueAt (wsV RL 35 RX5 yX5_queueAt wsX5_queueAt) := goodIn_app (goodIn_of _ (by decide +kernel)) ggL_queueAt_X5_queueAt
theorem dL_queueAt_0 : decode cL_queueAt 0 = .ok (.aload_n 2, 1) := by decide +kernel
theorem dL_queueAt_1 : decode cL_queueAt 1 = .ok (.iconst 0, 1) := by decide +kernel
theorem dL_queueAt_2 : decode cL_queueAt 2 = .ok (.aload_n 0, 1) := by decide +kernel
theorem dL_queueAt_3 : decode cL_queueAt 3 = .ok (.iload_n 1, 1) := by decide +kernel
theorem dL_queueAt_4 : decode cL_queueAt 4 = .ok (.invokevirtual 35, 3) := by decide +kernel
theorem dL_queueAt_7 : decode cL_queueAt 7 = .ok (.i2l, 1) := by decide +kernel
theorem dL_queueAt_8 : decode cL_queueAt 8 = .ok (.lastore, 1) := by decide +kernel
theorem dL_queueAt_9 : decode cL_queueAt 9 = .ok (.goto 6, 3) := by decide +kernel
theorem dL_queueAt_12 : decode cL_queueAt 12 = .ok (.astore_n 3, 1) := by decide +kernel
theorem dL_queueAt_13 : decode cL_queueAt 13 = .ok (.iconst 1, 1) := by decide +kernel
theorem dL_queueAt_14 : decode cL_queueAt 14 = .ok (.ireturn, 1) := by decide +kernel
theorem dL_queueAt_15 : decode cL_queueAt 15 = .ok (.iconst 0, 1) := by decide +kernel
theorem dL_queueAt_16 : decode cL_queueAt 16 = .ok (.ireturn, 1) := by decide +kernel
set_option maxRecDepth 20000 in
theorem ggL_hold_X5_hold : GoodIn wsL_hold wsX5_hold := goodIn_ca (goodIn_ca (goodIn_ca (goodIn_r _ [8, 9, 10, 11, 12, 13, 14, 15, 16, 17, 18, 19, 20, 21, 7, 22, 23, 24, 25, 26, 27, 28, 29, 30, 31, 32, 33, 34, 35, 36, 37, 38, 39, 40, 41, 42, 43, 44, 45, 46, 47, 48, 49, 50, 51, 52, 53, 54, 55, 56, 57, 58, 59, 60, 61, 62, 63, 64, 65, 66, 67, 68, 69, 70, 71, 72, 73, 74, 75, 76, 77, 78, 79, 80, 81, 82, 83, 84, 85, 86, 87, 88, 89, 90, 91, 92, 93, 94, 95, 96, 97, 98, 99, 100, 101, 102, 103, 104, 105, 106, 107, 108, 109, 110, 111, 112, 113, 114, 115, 116, 117, 118, 119, 120, 121, 122, 123, 124, 125, 126, 127, 128, 129, 130, 131, 132] (by decide +kernel) (by decide +kernel)) (goodIn_sub (fun _ h => List.mem_cons_of_mem _ (List.mem_append_left _ (List.mem_append_left _ (List.mem_append_right _ h)))) (by decide +kernel))) (goodIn_sub (fun _ h => List.mem_cons_of_mem _ (List.mem_append_left _ (List.mem_append_right _ h))) (by decide +kernel))) (goodIn_sub (fun _ h => List.mem_cons_of_mem _ (List.mem_append_right _ h)) (by decide +kernel))
set_option maxRecDepth 20000 in
theorem gL_hold_X5_hold : GoodIn wsL_hold (wsV RL 38 RX5 yX5_hold wsX5_hold) := goodIn_app (goodIn_of _ (by decide +kernel)) ggL_hold_X5_hold
theorem dL_hold_0 : decode cL_hold 0 = .ok (.aload 6, 2) := by decide +kernel
theorem dL_hold_2 : decode cL_hold 2 = .ok (.iconst 0, 1) := by decide +kernel
theorem dL_hold_3 : decode cL_hold 3 = .ok (.aload_n 0, 1) := by decide +kernel
theorem dL_hold_4 : decode cL_hold 4 = .ok (.iload_n 1, 1) := by decide +kernel
theorem dL_hold_5 : decode cL_hold 5 = .ok (.iload_n 2, 1) := by decide +kernel
theorem dL_hold_6 : decode cL_hold 6 = .ok (.iload_n 3, 1) := by decide +kernel
theorem dL_hold_7 : decode cL_hold 7 = .ok (.iload 4, 2) := by decide +kernel
theorem dL_hold_9 : decode cL_hold 9 = .ok (.iload 5, 2) := by decide +kernel
theorem dL_hold_11 : decode cL_hold 11 = .ok (.invokevirtual 38, 3) := by decide +kernel
theorem dL_hold_14 : decode cL_hold 14 = .ok (.i2l, 1) := by decide +kernel
theorem dL_hold_15 : decode cL_hold 15 = .ok (.lastore, 1) := by decide +kernel
theorem dL_hold_16 : decode cL_hold 16 = .ok (.goto 15, 3) := by decide +kernel
theorem dL_hold_19 : decode cL_hold 19 = .ok (.astore 7, 2) := by decide +kernel
theorem dL_hold_21 : decode cL_hold 21 = .ok (.iconst 1, 1) := by decide +kernel
theorem dL_hold_22 : decode cL_hold 22 = .ok (.ireturn, 1) := by decide +kernel
theorem dL_hold_23 : decode cL_hold 23 = .ok (.astore 7, 2) := by decide +kernel
theorem dL_hold_25 : decode cL_hold 25 = .ok (.iconst 2, 1) := by decide +kernel
theorem dL_hold_26 : decode cL_hold 26 = .ok (.ireturn, 1) := by decide +kernel
theorem dL_hold_27 : decode cL_hold 27 = .ok (.astore 7, 2) := by decide +kernel
theorem dL_hold_29 : decode cL_hold 29 = .ok (.iconst 3, 1) := by decide +kernel
theorem dL_hold_30 : decode cL_hold 30 = .ok (.ireturn, 1) := by decide +kernel
theorem dL_hold_31 : decode cL_hold 31 = .ok (.iconst 0, 1) := by decide +kernel
theorem dL_hold_32 : decode cL_hold 32 = .ok (.ireturn, 1) := by decide +kernel
set_option maxRecDepth 20000 in
theorem ggL_pay_X5_pay : GoodIn wsL_pay wsX5_pay := goodIn_ca (goodIn_ca (goodIn_ca (goodIn_r _ [8, 9, 10, 11, 12, 13, 14, 15, 16, 7, 17, 18, 19, 20, 21, 22, 23, 24, 25, 26, 27, 28, 29, 30, 31, 32, 33, 34, 35, 36, 37, 38, 39, 40, 41, 42, 43, 44, 45, 46, 47, 48, 49, 50, 51, 52, 53, 54, 55, 56, 57, 58, 59, 60, 61, 62, 63, 64, 65, 66, 67, 68, 69, 70, 71, 72, 73, 74, 75, 76, 77, 78, 79, 80, 81, 82, 83, 84, 85, 86, 87, 88, 89, 90, 91, 92, 93, 94] (by decide +kernel) (by decide +kernel)) (goodIn_sub (fun _ h => List.mem_cons_of_mem _ (List.mem_append_left _ (List.mem_append_left _ (List.mem_append_right _ h)))) (by decide +kernel))) (goodIn_sub (fun _ h => List.mem_cons_of_mem _ (List.mem_append_left _ (List.mem_append_right _ h))) (by decide +kernel))) (goodIn_sub (fun _ h => List.mem_cons_of_mem _ (List.mem_append_right _ h)) (by decide +kernel))
set_option maxRecDepth 20000 in
theorem gL_pay_X5_pay : GoodIn wsL_pay (wsV RL 42 RX5 yX5_pay wsX5_pay) := goodIn_app (goodIn_of _ (by decide +kernel)) ggL_pay_X5_pay
theorem dL_pay_0 : decode cL_pay 0 = .ok (.aload_n 3, 1) := by decide +kernel
theorem dL_pay_1 : decode cL_pay 1 = .ok (.iconst 0, 1) := by decide +kernel
theorem dL_pay_2 : decode cL_pay 2 = .ok (.aload_n 0, 1) := by decide +kernel
theorem dL_pay_3 : decode cL_pay 3 = .ok (.iload_n 1, 1) := by decide +kernel
theorem dL_pay_4 : decode cL_pay 4 = .ok (.iload_n 2, 1) := by decide +kernel
theorem dL_pay_5 : decode cL_pay 5 = .ok (.invokevirtual 42, 3) := by decide +kernel
theorem dL_pay_8 : decode cL_pay 8 = .ok (.i2l, 1) := by decide +kernel
theorem dL_pay_9 : decode cL_pay 9 = .ok (.lastore, 1) := by decide +kernel
theorem dL_pay_10 : decode cL_pay 10 = .ok (.goto 15, 3) := by decide +kernel
theorem dL_pay_13 : decode cL_pay 13 = .ok (.astore 4, 2) := by decide +kernel
theorem dL_pay_15 : decode cL_pay 15 = .ok (.iconst 1, 1) := by decide +kernel
theorem dL_pay_16 : decode cL_pay 16 = .ok (.ireturn, 1) := by decide +kernel
theorem dL_pay_17 : decode cL_pay 17 = .ok (.astore 4, 2) := by decide +kernel
theorem dL_pay_19 : decode cL_pay 19 = .ok (.iconst 2, 1) := by decide +kernel
theorem dL_pay_20 : decode cL_pay 20 = .ok (.ireturn, 1) := by decide +kernel
theorem dL_pay_21 : decode cL_pay 21 = .ok (.astore 4, 2) := by decide +kernel
theorem dL_pay_23 : decode cL_pay 23 = .ok (.iconst 3, 1) := by decide +kernel
theorem dL_pay_24 : decode cL_pay 24 = .ok (.ireturn, 1) := by decide +kernel
theorem dL_pay_25 : decode cL_pay 25 = .ok (.iconst 0, 1) := by decide +kernel
theorem dL_pay_26 : decode cL_pay 26 = .ok (.ireturn, 1) := by decide +kernel
set_option maxRecDepth 20000 in
theorem ggL_letGo_X5_letGo : GoodIn wsL_letGo wsX5_letGo := goodIn_ca (goodIn_ca (goodIn_r _ [7, 8, 9, 6, 10, 11, 12, 13, 14, 15, 16, 17, 18, 19, 20, 21, 22, 23, 24, 25, 26, 27, 28, 29, 30, 31, 32, 33, 34, 35, 36, 37, 38, 39, 40, 41, 42, 43, 44, 45, 46, 47, 48, 49, 50, 51, 52, 53, 54, 55, 56, 57, 58, 59, 60, 61, 62, 63, 64, 65, 66, 67, 68, 69] (by decide +kernel) (by decide +kernel)) (goodIn_sub (fun _ h => List.mem_cons_of_mem _ (List.mem_append_left _ (List.mem_append_right _ h))) (by decide +kernel))) (goodIn_sub (fun _ h => List.mem_cons_of_mem _ (List.mem_append_right _ h)) (by decide +kernel))
set_option maxRecDepth 20000 in
theorem gL_letGo_X5_letGo : GoodIn wsL_letGo (wsV RL 45 RX5 yX5_letGo wsX5_letGo) := goodIn_app (goodIn_of _ (by decide +kernel)) ggL_letGo_X5_letGo
theorem dL_letGo_0 : decode cL_letGo 0 = .ok (.aload_n 2, 1) := by decide +kernel
theorem dL_letGo_1 : decode cL_letGo 1 = .ok (.iconst 0, 1) := by decide +kernel
theorem dL_letGo_2 : decode cL_letGo 2 = .ok (.aload_n 0, 1) := by decide +kernel
theorem dL_letGo_3 : decode cL_letGo 3 = .ok (.iload_n 1, 1) := by decide +kernel
theorem dL_letGo_4 : decode cL_letGo 4 = .ok (.invokevirtual 45, 3) := by decide +kernel
theorem dL_letGo_7 : decode cL_letGo 7 = .ok (.i2l, 1) := by decide +kernel
theorem dL_letGo_8 : decode cL_letGo 8 = .ok (.lastore, 1) := by decide +kernel
theorem dL_letGo_9 : decode cL_letGo 9 = .ok (.goto 9, 3) := by decide +kernel
theorem dL_letGo_12 : decode cL_letGo 12 = .ok (.astore_n 3, 1) := by decide +kernel
theorem dL_letGo_13 : decode cL_letGo 13 = .ok (.iconst 1, 1) := by decide +kernel
theorem dL_letGo_14 : decode cL_letGo 14 = .ok (.ireturn, 1) := by decide +kernel
theorem dL_letGo_15 : decode cL_letGo 15 = .ok (.astore_n 3, 1) := by decide +kernel
theorem dL_letGo_16 : decode cL_letGo 16 = .ok (.iconst 2, 1) := by decide +kernel
theorem dL_letGo_17 : decode cL_letGo 17 = .ok (.ireturn, 1) := by decide +kernel
theorem dL_letGo_18 : decode cL_letGo 18 = .ok (.iconst 0, 1) := by decide +kernel
theorem dL_letGo_19 : decode cL_letGo 19 = .ok (.ireturn, 1) := by decide +kernel
set_option maxRecDepth 20000 in
theorem ggL_lapses_X5_lapses : GoodIn wsL_lapses wsX5_lapses := goodIn_ca (goodIn_r _ [6, 7, 8, 9, 5, 10, 11, 12, 13, 14, 15, 16, 17, 18, 19, 20, 21, 22, 23, 24, 25, 26, 27, 28, 29, 30, 31, 32, 33] (by decide +kernel) (by decide +kernel)) (goodIn_sub (fun _ h => List.mem_cons_of_mem _ (List.mem_append_right _ h)) (by decide +kernel))
set_option maxRecDepth 20000 in
theorem gL_lapses_X5_lapses : GoodIn wsL_lapses (wsV RL 48 RX5 yX5_lapses wsX5_lapses) := goodIn_app (goodIn_of _ (by decide +kernel)) ggL_lapses_X5_lapses
theorem dL_lapses_0 : decode cL_lapses 0 = .ok (.aload_n 2, 1) := by decide +kernel
theorem dL_lapses_1 : decode cL_lapses 1 = .ok (.iconst 0, 1) := by decide +kernel
theorem dL_lapses_2 : decode cL_lapses 2 = .ok (.aload_n 0, 1) := by decide +kernel
theorem dL_lapses_3 : decode cL_lapses 3 = .ok (.iload_n 1, 1) := by decide +kernel
theorem dL_lapses_4 : decode cL_lapses 4 = .ok (.invokevirtual 48, 3) := by decide +kernel
theorem dL_lapses_7 : decode cL_lapses 7 = .ok (.i2l, 1) := by decide +kernel
theorem dL_lapses_8 : decode cL_lapses 8 = .ok (.lastore, 1) := by decide +kernel
theorem dL_lapses_9 : decode cL_lapses 9 = .ok (.goto 6, 3) := by decide +kernel
theorem dL_lapses_12 : decode cL_lapses 12 = .ok (.astore_n 3, 1) := by decide +kernel
theorem dL_lapses_13 : decode cL_lapses 13 = .ok (.iconst 1, 1) := by decide +kernel
theorem dL_lapses_14 : decode cL_lapses 14 = .ok (.ireturn, 1) := by decide +kernel
theorem dL_lapses_15 : decode cL_lapses 15 = .ok (.iconst 0, 1) := by decide +kernel
theorem dL_lapses_16 : decode cL_lapses 16 = .ok (.ireturn, 1) := by decide +kernel
set_option maxRecDepth 20000 in
theorem ggL_state_X5_state : GoodIn wsL_state wsX5_state := goodIn_ca (goodIn_r _ [6, 7, 8, 9, 5, 10, 11, 12, 13, 14, 15, 16, 17, 18, 19, 20, 21, 22, 23, 24, 25, 26, 27, 28, 29, 30, 31, 32, 33] (by decide +kernel) (by decide +kernel)) (goodIn_sub (fun _ h => List.mem_cons_of_mem _ (List.mem_append_right _ h)) (by decide +kernel))
set_option maxRecDepth 20000 in
theorem gL_state_X5_state : GoodIn wsL_state (wsV RL 51 RX5 yX5_state wsX5_state) := goodIn_app (goodIn_of _ (by decide +kernel)) ggL_state_X5_state
theorem dL_state_0 : decode cL_state 0 = .ok (.aload_n 2, 1) := by decide +kernel
theorem dL_state_1 : decode cL_state 1 = .ok (.iconst 0, 1) := by decide +kernel
theorem dL_state_2 : decode cL_state 2 = .ok (.aload_n 0, 1) := by decide +kernel
theorem dL_state_3 : decode cL_state 3 = .ok (.iload_n 1, 1) := by decide +kernel
theorem dL_state_4 : decode cL_state 4 = .ok (.invokevirtual 51, 3) := by decide +kernel
theorem dL_state_7 : decode cL_state 7 = .ok (.i2l, 1) := by decide +kernel
theorem dL_state_8 : decode cL_state 8 = .ok (.lastore, 1) := by decide +kernel
theorem dL_state_9 : decode cL_state 9 = .ok (.goto 6, 3) := by decide +kernel
theorem dL_state_12 : decode cL_state 12 = .ok (.astore_n 3, 1) := by decide +kernel
theorem dL_state_13 : decode cL_state 13 = .ok (.iconst 1, 1) := by decide +kernel
theorem dL_state_14 : decode cL_state 14 = .ok (.ireturn, 1) := by decide +kernel
theorem dL_state_15 : decode cL_state 15 = .ok (.iconst 0, 1) := by decide +kernel
theorem dL_state_16 : decode cL_state 16 = .ok (.ireturn, 1) := by decide +kernel
set_option maxRecDepth 20000 in
theorem ggL_owner_X5_owner : GoodIn wsL_owner wsX5_owner := goodIn_ca (goodIn_r _ [6, 7, 8, 9, 5, 10, 11, 12, 13, 14, 15, 16, 17, 18, 19, 20, 21, 22, 23, 24, 25, 26] (by decide +kernel) (by decide +kernel)) (goodIn_sub (fun _ h => List.mem_cons_of_mem _ (List.mem_append_right _ h)) (by decide +kernel))
set_option maxRecDepth 20000 in
theorem gL_owner_X5_owner : GoodIn wsL_owner (wsV RL 54 RX5 yX5_owner wsX5_owner) := goodIn_app (goodIn_of _ (by decide +kernel)) ggL_owner_X5_owner
theorem dL_owner_0 : decode cL_owner 0 = .ok (.aload_n 2, 1) := by decide +kernel
theorem dL_owner_1 : decode cL_owner 1 = .ok (.iconst 0, 1) := by decide +kernel
theorem dL_owner_2 : decode cL_owner 2 = .ok (.aload_n 0, 1) := by decide +kernel
theorem dL_owner_3 : decode cL_owner 3 = .ok (.iload_n 1, 1) := by decide +kernel
theorem dL_owner_4 : decode cL_owner 4 = .ok (.invokevirtual 54, 3) := by decide +kernel
theorem dL_owner_7 : decode cL_owner 7 = .ok (.i2l, 1) := by decide +kernel
theorem dL_owner_8 : decode cL_owner 8 = .ok (.lastore, 1) := by decide +kernel
theorem dL_owner_9 : decode cL_owner 9 = .ok (.goto 6, 3) := by decide +kernel
theorem dL_owner_12 : decode cL_owner 12 = .ok (.astore_n 3, 1) := by decide +kernel
theorem dL_owner_13 : decode cL_owner 13 = .ok (.iconst 1, 1) := by decide +kernel
theorem dL_owner_14 : decode cL_owner 14 = .ok (.ireturn, 1) := by decide +kernel
theorem dL_owner_15 : decode cL_owner 15 = .ok (.iconst 0, 1) := by decide +kernel
theorem dL_owner_16 : decode cL_owner 16 = .ok (.ireturn, 1) := by decide +kernel
set_option maxRecDepth 20000 in
theorem ggL_ownerBySales_X5_ownerBySales : GoodIn wsL_ownerBySales wsX5_ownerBySales := goodIn_ca (goodIn_r _ [6, 7, 8, 9, 5, 10, 11, 12, 13, 14, 15, 16, 17, 18, 19, 20, 21, 22, 23, 24, 25, 26, 27, 28, 29, 30, 31, 32, 33] (by decide +kernel) (by decide +kernel)) (goodIn_sub (fun _ h => List.mem_cons_of_mem _ (List.mem_append_right _ h)) (by decide +kernel))
set_option maxRecDepth 20000 in
theorem gL_ownerBySales_X5_ownerBySales : GoodIn wsL_ownerBySales (wsV RL 57 RX5 yX5_ownerBySales wsX5_ownerBySales) := goodIn_app (goodIn_of _ (by decide +kernel)) ggL_ownerBySales_X5_ownerBySales
theorem dL_ownerBySales_0 : decode cL_ownerBySales 0 = .ok (.aload_n 2, 1) := by decide +kernel
theorem dL_ownerBySales_1 : decode cL_ownerBySales 1 = .ok (.iconst 0, 1) := by decide +kernel
theorem dL_ownerBySales_2 : decode cL_ownerBySales 2 = .ok (.aload_n 0, 1) := by decide +kernel
theorem dL_ownerBySales_3 : decode cL_ownerBySales 3 = .ok (.iload_n 1, 1) := by decide +kernel
theorem dL_ownerBySales_4 : decode cL_ownerBySales 4 = .ok (.invokevirtual 57, 3) := by decide +kernel
theorem dL_ownerBySales_7 : decode cL_ownerBySales 7 = .ok (.i2l, 1) := by decide +kernel
theorem dL_ownerBySales_8 : decode cL_ownerBySales 8 = .ok (.lastore, 1) := by decide +kernel
theorem dL_ownerBySales_9 : decode cL_ownerBySales 9 = .ok (.goto 6, 3) := by decide +kernel
theorem dL_ownerBySales_12 : decode cL_ownerBySales 12 = .ok (.astore_n 3, 1) := by decide +kernel
theorem dL_ownerBySales_13 : decode cL_ownerBySales 13 = .ok (.iconst 1, 1) := by decide +kernel
theorem dL_ownerBySales_14 : decode cL_ownerBySales 14 = .ok (.ireturn, 1) := by decide +kernel
theorem dL_ownerBySales_15 : decode cL_ownerBySales 15 = .ok (.iconst 0, 1) := by decide +kernel
theorem dL_ownerBySales_16 : decode cL_ownerBySales 16 = .ok (.ireturn, 1) := by decide +kernel
set_option maxRecDepth 20000 in
theorem ggL_isSingle_X5_isSingle : GoodIn wsL_isSingle wsX5_isSingle := goodIn_ca (goodIn_r _ [6, 7, 8, 9, 5, 10, 11, 12, 13, 14, 15, 16, 17, 18, 19, 20, 21, 22, 23, 24, 25, 26, 27, 28, 29, 30, 31, 32, 33, 34, 35, 36, 37] (by decide +kernel) (by decide +kernel)) (goodIn_sub (fun _ h => List.mem_cons_of_mem _ (List.mem_append_right _ h)) (by decide +kernel))
set_option maxRecDepth 20000 in
theorem gL_isSingle_X5_isSingle : GoodIn wsL_isSingle (wsV RL 60 RX5 yX5_isSingle wsX5_isSingle) := goodIn_app (goodIn_of _ (by decide +kernel)) ggL_isSingle_X5_isSingle
theorem dL_isSingle_0 : decode cL_isSingle 0 = .ok (.aload_n 2, 1) := by decide +kernel
theorem dL_isSingle_1 : decode cL_isSingle 1 = .ok (.iconst 0, 1) := by decide +kernel
theorem dL_isSingle_2 : decode cL_isSingle 2 = .ok (.aload_n 0, 1) := by decide +kernel
theorem dL_isSingle_3 : decode cL_isSingle 3 = .ok (.iload_n 1, 1) := by decide +kernel
theorem dL_isSingle_4 : decode cL_isSingle 4 = .ok (.invokevirtual 60, 3) := by decide +kernel
theorem dL_isSingle_7 : decode cL_isSingle 7 = .ok (.ifCond .eq 7, 3) := by decide +kernel
theorem dL_isSingle_10 : decode cL_isSingle 10 = .ok (.lconst 1, 1) := by decide +kernel
theorem dL_isSingle_11 : decode cL_isSingle 11 = .ok (.goto 4, 3) := by decide +kernel
theorem dL_isSingle_14 : decode cL_isSingle 14 = .ok (.lconst 0, 1) := by decide +kernel
theorem dL_isSingle_15 : decode cL_isSingle 15 = .ok (.lastore, 1) := by decide +kernel
theorem dL_isSingle_16 : decode cL_isSingle 16 = .ok (.goto 6, 3) := by decide +kernel
theorem dL_isSingle_19 : decode cL_isSingle 19 = .ok (.astore_n 3, 1) := by decide +kernel
theorem dL_isSingle_20 : decode cL_isSingle 20 = .ok (.iconst 1, 1) := by decide +kernel
theorem dL_isSingle_21 : decode cL_isSingle 21 = .ok (.ireturn, 1) := by decide +kernel
theorem dL_isSingle_22 : decode cL_isSingle 22 = .ok (.iconst 0, 1) := by decide +kernel
theorem dL_isSingle_23 : decode cL_isSingle 23 = .ok (.ireturn, 1) := by decide +kernel
set_option maxRecDepth 20000 in
theorem ggL_firstOpen_X5_firstOpen : GoodIn wsL_firstOpen wsX5_firstOpen := goodIn_ca (goodIn_ca (goodIn_r _ [7, 8, 9, 10, 11, 12, 6, 13, 14, 15, 16, 17, 18, 19, 20, 21, 22, 23, 24, 25, 26, 27, 28, 29, 30, 31, 32, 33, 34, 35, 36, 37, 38, 39, 40] (by decide +kernel) (by decide +kernel)) (goodIn_sub (fun _ h => List.mem_cons_of_mem _ (List.mem_append_left _ (List.mem_append_right _ h))) (by decide +kernel))) (goodIn_sub (fun _ h => List.mem_cons_of_mem _ (List.mem_append_right _ h)) (by decide +kernel))
set_option maxRecDepth 20000 in
theorem gL_firstOpen_X5_firstOpen : GoodIn wsL_firstOpen (wsV RL 64 RX5 yX5_firstOpen wsX5_firstOpen) := goodIn_app (goodIn_of _ (by decide +kernel)) ggL_firstOpen_X5_firstOpen
theorem dL_firstOpen_0 : decode cL_firstOpen 0 = .ok (.aload_n 3, 1) := by decide +kernel
theorem dL_firstOpen_1 : decode cL_firstOpen 1 = .ok (.iconst 0, 1) := by decide +kernel
theorem dL_firstOpen_2 : decode cL_firstOpen 2 = .ok (.aload_n 0, 1) := by decide +kernel
theorem dL_firstOpen_3 : decode cL_firstOpen 3 = .ok (.iload_n 1, 1) := by decide +kernel
theorem dL_firstOpen_4 : decode cL_firstOpen 4 = .ok (.iload_n 2, 1) := by decide +kernel
theorem dL_firstOpen_5 : decode cL_firstOpen 5 = .ok (.invokevirtual 64, 3) := by decide +kernel
theorem dL_firstOpen_8 : decode cL_firstOpen 8 = .ok (.i2l, 1) := by decide +kernel
theorem dL_firstOpen_9 : decode cL_firstOpen 9 = .ok (.lastore, 1) := by decide +kernel
theorem dL_firstOpen_10 : decode cL_firstOpen 10 = .ok (.goto 11, 3) := by decide +kernel
theorem dL_firstOpen_13 : decode cL_firstOpen 13 = .ok (.astore 4, 2) := by decide +kernel
theorem dL_firstOpen_15 : decode cL_firstOpen 15 = .ok (.iconst 1, 1) := by decide +kernel
theorem dL_firstOpen_16 : decode cL_firstOpen 16 = .ok (.ireturn, 1) := by decide +kernel
theorem dL_firstOpen_17 : decode cL_firstOpen 17 = .ok (.astore 4, 2) := by decide +kernel
theorem dL_firstOpen_19 : decode cL_firstOpen 19 = .ok (.iconst 2, 1) := by decide +kernel
theorem dL_firstOpen_20 : decode cL_firstOpen 20 = .ok (.ireturn, 1) := by decide +kernel
theorem dL_firstOpen_21 : decode cL_firstOpen 21 = .ok (.iconst 0, 1) := by decide +kernel
theorem dL_firstOpen_22 : decode cL_firstOpen 22 = .ok (.ireturn, 1) := by decide +kernel
set_option maxRecDepth 20000 in
theorem ggL_offer_X5_offer : GoodIn wsL_offer wsX5_offer := goodIn_ca (goodIn_ca (goodIn_ca (goodIn_r _ [8, 9, 10, 11, 12, 13, 14, 15, 7, 16, 17, 18, 19, 20, 21, 22, 23, 24, 25, 26, 27, 28, 29, 30, 31, 32, 33, 34, 35, 36, 37, 38, 39, 40, 41, 42, 43, 44, 45, 46, 47, 48, 49, 50] (by decide +kernel) (by decide +kernel)) (goodIn_sub (fun _ h => List.mem_cons_of_mem _ (List.mem_append_left _ (List.mem_append_left _ (List.mem_append_right _ h)))) (by decide +kernel))) (goodIn_sub (fun _ h => List.mem_cons_of_mem _ (List.mem_append_left _ (List.mem_append_right _ h))) (by decide +kernel))) (goodIn_sub (fun _ h => List.mem_cons_of_mem _ (List.mem_append_right _ h)) (by decide +kernel))
set_option maxRecDepth 20000 in
theorem gL_offer_X5_offer : GoodIn wsL_offer (wsV RL 67 RX5 yX5_offer wsX5_offer) := goodIn_app (goodIn_of _ (by decide +kernel)) ggL_offer_X5_offer
theorem dL_offer_0 : decode cL_offer 0 = .ok (.aload 4, 2) := by decide +kernel
theorem dL_offer_2 : decode cL_offer 2 = .ok (.iconst 0, 1) := by decide +kernel
theorem dL_offer_3 : decode cL_offer 3 = .ok (.aload_n 0, 1) := by decide +kernel
theorem dL_offer_4 : decode cL_offer 4 = .ok (.iload_n 1, 1) := by decide +kernel
theorem dL_offer_5 : decode cL_offer 5 = .ok (.iload_n 2, 1) := by decide +kernel
theorem dL_offer_6 : decode cL_offer 6 = .ok (.iload_n 3, 1) := by decide +kernel
theorem dL_offer_7 : decode cL_offer 7 = .ok (.invokevirtual 67, 3) := by decide +kernel
theorem dL_offer_10 : decode cL_offer 10 = .ok (.i2l, 1) := by decide +kernel
theorem dL_offer_11 : decode cL_offer 11 = .ok (.lastore, 1) := by decide +kernel
theorem dL_offer_12 : decode cL_offer 12 = .ok (.goto 15, 3) := by decide +kernel
theorem dL_offer_15 : decode cL_offer 15 = .ok (.astore 5, 2) := by decide +kernel
theorem dL_offer_17 : decode cL_offer 17 = .ok (.iconst 1, 1) := by decide +kernel
theorem dL_offer_18 : decode cL_offer 18 = .ok (.ireturn, 1) := by decide +kernel
theorem dL_offer_19 : decode cL_offer 19 = .ok (.astore 5, 2) := by decide +kernel
theorem dL_offer_21 : decode cL_offer 21 = .ok (.iconst 2, 1) := by decide +kernel
theorem dL_offer_22 : decode cL_offer 22 = .ok (.ireturn, 1) := by decide +kernel
theorem dL_offer_23 : decode cL_offer 23 = .ok (.astore 5, 2) := by decide +kernel
theorem dL_offer_25 : decode cL_offer 25 = .ok (.iconst 3, 1) := by decide +kernel
theorem dL_offer_26 : decode cL_offer 26 = .ok (.ireturn, 1) := by decide +kernel
theorem dL_offer_27 : decode cL_offer 27 = .ok (.iconst 0, 1) := by decide +kernel
theorem dL_offer_28 : decode cL_offer 28 = .ok (.ireturn, 1) := by decide +kernel
set_option maxRecDepth 20000 in
theorem ggL_retract_X5_retract : GoodIn wsL_retract wsX5_retract := goodIn_ca (goodIn_ca (goodIn_r _ [7, 8, 9, 10, 11, 12, 6, 13, 14, 15, 16, 17, 18, 19, 20, 21, 22, 23, 24, 25, 26, 27, 28, 29, 30, 31, 32, 33, 34, 35, 36] (by decide +kernel) (by decide +kernel)) (goodIn_sub (fun _ h => List.mem_cons_of_mem _ (List.mem_append_left _ (List.mem_append_right _ h))) (by decide +kernel))) (goodIn_sub (fun _ h => List.mem_cons_of_mem _ (List.mem_append_right _ h)) (by decide +kernel))
set_option maxRecDepth 20000 in
theorem gL_retract_X5_retract : GoodIn wsL_retract (wsV RL 71 RX5 yX5_retract wsX5_retract) := goodIn_app (goodIn_of _ (by decide +kernel)) ggL_retract_X5_retract
theorem dL_retract_0 : decode cL_retract 0 = .ok (.aload_n 2, 1) := by decide +kernel
theorem dL_retract_1 : decode cL_retract 1 = .ok (.iconst 0, 1) := by decide +kernel
theorem dL_retract_2 : decode cL_retract 2 = .ok (.aload_n 0, 1) := by decide +kernel
theorem dL_retract_3 : decode cL_retract 3 = .ok (.iload_n 1, 1) := by decide +kernel
theorem dL_retract_4 : decode cL_retract 4 = .ok (.invokevirtual 71, 3) := by decide +kernel
theorem dL_retract_7 : decode cL_retract 7 = .ok (.i2l, 1) := by decide +kernel
theorem dL_retract_8 : decode cL_retract 8 = .ok (.lastore, 1) := by decide +kernel
theorem dL_retract_9 : decode cL_retract 9 = .ok (.goto 9, 3) := by decide +kernel
theorem dL_retract_12 : decode cL_retract 12 = .ok (.astore_n 3, 1) := by decide +kernel
theorem dL_retract_13 : decode cL_retract 13 = .ok (.iconst 1, 1) := by decide +kernel
theorem dL_retract_14 : decode cL_retract 14 = .ok (.ireturn, 1) := by decide +kernel
theorem dL_retract_15 : decode cL_retract 15 = .ok (.astore_n 3, 1) := by decide +kernel
theorem dL_retract_16 : decode cL_retract 16 = .ok (.iconst 2, 1) := by decide +kernel
theorem dL_retract_17 : decode cL_retract 17 = .ok (.ireturn, 1) := by decide +kernel
theorem dL_retract_18 : decode cL_retract 18 = .ok (.iconst 0, 1) := by decide +kernel
theorem dL_retract_19 : decode cL_retract 19 = .ok (.ireturn, 1) := by decide +kernel
set_option maxRecDepth 20000 in
theorem ggL_spent_X5_spent : GoodIn wsL_spent wsX5_spent := goodIn_ca (goodIn_r _ [6, 7, 8, 9, 5, 10, 11, 12, 13, 14, 15, 16, 17, 18, 19, 20, 21] (by decide +kernel) (by decide +kernel)) (goodIn_sub (fun _ h => List.mem_cons_of_mem _ (List.mem_append_right _ h)) (by decide +kernel))
set_option maxRecDepth 20000 in
theorem gL_spent_X5_spent : GoodIn wsL_spent (wsV RL 74 RX5 yX5_spent wsX5_spent) := goodIn_app (goodIn_of _ (by decide +kernel)) ggL_spent_X5_spent
theorem dL_spent_0 : decode cL_spent 0 = .ok (.aload_n 2, 1) := by decide +kernel
theorem dL_spent_1 : decode cL_spent 1 = .ok (.iconst 0, 1) := by decide +kernel
theorem dL_spent_2 : decode cL_spent 2 = .ok (.aload_n 0, 1) := by decide +kernel
theorem dL_spent_3 : decode cL_spent 3 = .ok (.iload_n 1, 1) := by decide +kernel
theorem dL_spent_4 : decode cL_spent 4 = .ok (.invokevirtual 74, 3) := by decide +kernel
theorem dL_spent_7 : decode cL_spent 7 = .ok (.i2l, 1) := by decide +kernel
theorem dL_spent_8 : decode cL_spent 8 = .ok (.lastore, 1) := by decide +kernel
theorem dL_spent_9 : decode cL_spent 9 = .ok (.goto 6, 3) := by decide +kernel
theorem dL_spent_12 : decode cL_spent 12 = .ok (.astore_n 3, 1) := by decide +kernel
theorem dL_spent_13 : decode cL_spent 13 = .ok (.iconst 1, 1) := by decide +kernel
theorem dL_spent_14 : decode cL_spent 14 = .ok (.ireturn, 1) := by decide +kernel
theorem dL_spent_15 : decode cL_spent 15 = .ok (.iconst 0, 1) := by decide +kernel
theorem dL_spent_16 : decode cL_spent 16 = .ok (.ireturn, 1) := by decide +kernel
set_option maxRecDepth 20000 in
theorem ggL_law_X5_init : GoodIn wsL_law wsX5_init := goodIn_r _ [9, 10, 11, 12, 13, 14, 15, 16, 17, 18, 19, 20, 21, 22, 23, 24, 25, 26, 27, 28, 29, 30, 31, 32, 33, 34, 35, 36, 37, 38, 39, 40, 41, 42, 43, 44, 45, 46, 47, 48, 49, 50, 51, 52, 53, 54, 55, 56, 57, 58, 59, 60, 61, 62, 63, 64, 65, 66, 67, 68, 69, 70, 71, 72, 73, 74, 550, 551, 552, 553, 554, 555, 556, 557, 558, 580, 581, 582, 583, 584, 585, 586, 587, 588, 589, 590, 591, 592, 593, 594, 595, 596, 597, 598, 599, 600] (by decide +kernel) (by decide +kernel)
set_option maxRecDepth 20000 in
theorem gL_law_X5_init : GoodIn wsL_law (wsX5_init) := ggL_law_X5_init
set_option maxRecDepth 20000 in
theorem ggL_law_X6_init : GoodIn wsL_law wsX6_init := goodIn_r _ [77, 78, 11, 12, 79, 16, 80, 81, 82, 83, 84, 85, 86, 87, 88, 89, 90, 91, 92, 93, 94, 62, 95, 559, 560, 561, 562, 563, 564, 565, 566, 567, 568, 569, 570, 571, 572, 573, 574, 575, 576, 577, 578, 579] (by decide +kernel) (by decide +kernel)
set_option maxRecDepth 20000 in
theorem gL_law_X6_init : GoodIn wsL_law (wsX6_init) := ggL_law_X6_init
set_option maxRecDepth 20000 in
theorem ggL_law_L_pass : GoodIn wsL_law wsL_pass := goodIn_ca (goodIn_ca (goodIn_r _ [99, 100, 101, 102, 103, 104, 2, 105, 106, 107, 108, 109, 13, 29, 110, 28, 111, 112, 53, 113, 114, 115, 116, 17, 21, 33, 117, 20, 118, 119, 44, 120, 32, 121, 122, 63, 123, 124, 125, 550, 551, 552, 553, 554, 555, 556, 557, 558, 585, 586, 587, 588, 589, 590, 591, 580, 581, 582, 583, 592, 593, 594, 595, 596] (by decide +kernel) (by decide +kernel)) (goodIn_sub (fun _ h => List.mem_append_left _ (List.mem_append_left _ (List.mem_append_right _ h))) (by decide +kernel))) (goodIn_sub (fun _ h => List.mem_append_left _ (List.mem_append_right _ h)) (by decide +kernel))
set_option maxRecDepth 20000 in
theorem gL_law_L_pass : GoodIn wsL_law (va_wsS RL 81 yL_pass wsL_pass) := goodIn_app (goodIn_of _ (by decide +kernel)) ggL_law_L_pass
set_option maxRecDepth 20000 in
theorem ggL_law_X6_pass : GoodIn wsL_law wsX6_pass := goodIn_r _ [129, 130, 84, 90, 131, 132, 5, 133, 134, 135, 136, 137, 138, 139, 140, 141, 142, 91, 88, 559, 560, 561, 562, 563, 564, 565, 566, 567, 568, 569, 570, 571, 572, 573, 574, 575, 576, 577, 578, 579] (by decide +kernel) (by decide +kernel)
set_option maxRecDepth 20000 in
theorem gL_law_X6_pass : GoodIn wsL_law (wsV RL 86 RX6 yX6_pass wsX6_pass) := goodIn_app (goodIn_of _ (by decide +kernel)) ggL_law_X6_pass
set_option maxRecDepth 20000 in
theorem ggL_law_X6_thrown : GoodIn wsL_law wsX6_thrown := goodIn_r _ [146, 138, 559, 560, 561, 562, 563, 564, 565, 566, 567, 568, 569, 570, 571, 572, 573, 574, 575, 576, 577, 578, 579] (by decide +kernel) (by decide +kernel)
set_option maxRecDepth 20000 in
theorem gL_law_X6_thrown : GoodIn wsL_law (wsV RL 87 RX6 yX6_thrown wsX6_thrown) := goodIn_app (goodIn_of _ (by decide +kernel)) ggL_law_X6_thrown
set_option maxRecDepth 20000 in
theorem ggL_law_X5_time : GoodIn wsL_law wsX5_time := goodIn_r _ [150, 13, 550, 551, 552, 553, 554, 555, 556, 557, 558] (by decide +kernel) (by decide +kernel)
set_option maxRecDepth 20000 in
theorem gL_law_X5_time : GoodIn wsL_law (wsV RL 91 RX5 yX5_time wsX5_time) := goodIn_app (goodIn_of _ (by decide +kernel)) ggL_law_X5_time
set_option maxRecDepth 20000 in
theorem ggL_law_X6_time : GoodIn wsL_law wsX6_time := goodIn_r _ [154, 138, 130, 559, 560, 561, 562, 563, 564, 565, 566, 567, 568, 569, 570, 571, 572, 573, 574, 575, 576, 577, 578, 579] (by decide +kernel) (by decide +kernel)
set_option maxRecDepth 20000 in
theorem gL_law_X6_time : GoodIn wsL_law (wsV RL 94 RX6 yX6_time wsX6_time) := goodIn_app (goodIn_of _ (by decide +kernel)) ggL_law_X6_time
set_option maxRecDepth 20000 in
theorem ggL_law_L_setOpening : GoodIn wsL_law wsL_setOpening := goodIn_ca (goodIn_r _ [157, 100, 158, 159, 160, 2, 161, 106, 107, 14, 550, 551, 552, 553, 554, 555, 556, 557, 558] (by decide +kernel) (by decide +kernel)) (goodIn_sub (fun _ h => List.mem_append_left _ (List.mem_append_left _ (List.mem_append_right _ h))) (by decide +kernel))
set_option maxRecDepth 20000 in
theorem gL_law_L_setOpening : GoodIn wsL_law (va_wsS RL 95 yL_setOpening wsL_setOpening) := goodIn_app (goodIn_of _ (by decide +kernel)) ggL_law_L_setOpening
set_option maxRecDepth 20000 in
theorem ggL_law_X6_setOpening : GoodIn wsL_law wsX6_setOpening := goodIn_r _ [165, 79, 131, 132, 5, 133, 134, 135, 136, 137, 138, 559, 560, 561, 562, 563, 564, 565, 566, 567, 568, 569, 570, 571, 572, 573, 574, 575, 576, 577, 578, 579] (by decide +kernel) (by decide +kernel)
set_option maxRecDepth 20000 in
theorem gL_law_X6_setOpening : GoodIn wsL_law (wsV RL 97 RX6 yX6_setOpening wsX6_setOpening) := goodIn_app (goodIn_of _ (by decide +kernel)) ggL_law_X6_setOpening
set_option maxRecDepth 20000 in
theorem ggL_law_L_code : GoodIn wsL_law wsL_code := goodIn_ca (goodIn_ca (goodIn_r _ [168, 100, 101, 169, 170, 171, 2, 172, 106, 107, 108, 109, 21, 173, 20, 174, 175, 42, 41, 43, 550, 551, 552, 553, 554, 555, 556, 557, 558, 580, 581, 582, 583] (by decide +kernel) (by decide +kernel)) (goodIn_sub (fun _ h => List.mem_append_left _ (List.mem_append_left _ (List.mem_append_right _ h))) (by decide +kernel))) (goodIn_sub (fun _ h => List.mem_append_left _ (List.mem_append_right _ h)) (by decide +kernel))
set_option maxRecDepth 20000 in
theorem gL_law_L_code : GoodIn wsL_law (va_wsS RL 98 yL_code wsL_code) := goodIn_app (goodIn_of _ (by decide +kernel)) ggL_law_L_code
set_option maxRecDepth 20000 in
theorem ggL_law_X6_code : GoodIn wsL_law wsX6_code := goodIn_r _ [179, 180, 80, 81, 131, 132, 5, 133, 134, 135, 136, 137, 138, 559, 560, 561, 562, 563, 564, 565, 566, 567, 568, 569, 570, 571, 572, 573, 574, 575, 576, 577, 578, 579] (by decide +kernel) (by decide +kernel)
set_option maxRecDepth 20000 in
theorem gL_law_X6_code : GoodIn wsL_law (wsV RL 101 RX6 yX6_code wsX6_code) := goodIn_app (goodIn_of _ (by decide +kernel)) ggL_law_X6_code
set_option maxRecDepth 20000 in
theorem ggL_law_L_used : GoodIn wsL_law wsL_used := goodIn_ca (goodIn_r _ [183, 184, 185, 186, 187, 2, 188, 21, 189, 190, 191, 192, 193, 194, 195, 196, 197, 198, 20, 199, 200, 44, 550, 551, 552, 553, 554, 555, 556, 557, 558, 580, 581, 582, 583] (by decide +kernel) (by decide +kernel)) (goodIn_sub (fun _ h => List.mem_append_right _ h) (by decide +kernel))
set_option maxRecDepth 20000 in
theorem gL_law_L_used : GoodIn wsL_law (va_wsS RL 102 yL_used wsL_used) := goodIn_app (goodIn_of _ (by decide +kernel)) ggL_law_L_used
set_option maxRecDepth 20000 in
theorem ggL_law_X6_used : GoodIn wsL_law wsX6_used := goodIn_r _ [204, 205, 206, 207, 5, 208, 180, 131, 132, 133, 209, 210, 211, 134, 135, 136, 137, 138, 212, 213, 214, 215, 84, 86, 85, 82, 559, 560, 561, 562, 563, 564, 565, 566, 567, 568, 569, 570, 571, 572, 573, 574, 575, 576, 577, 578, 579] (by decide +kernel) (by decide +kernel)
set_option maxRecDepth 20000 in
theorem gL_law_X6_used : GoodIn wsL_law (wsV RL 104 RX6 yX6_used wsX6_used) := goodIn_app (goodIn_of _ (by decide +kernel)) ggL_law_X6_used
set_option maxRecDepth 20000 in
theorem ggL_law_L_join : GoodIn wsL_law wsL_join := goodIn_ca (goodIn_ca (goodIn_r _ [218, 184, 101, 219, 220, 221, 2, 222, 108, 109, 25, 29, 13, 195, 196, 197, 193, 194, 223, 24, 224, 225, 48, 110, 28, 111, 112, 53, 226, 227, 228, 229, 230, 231, 232, 550, 551, 552, 553, 554, 555, 556, 557, 558, 584, 585, 586, 587, 588, 589, 590, 591] (by decide +kernel) (by decide +kernel)) (goodIn_sub (fun _ h => List.mem_append_left _ (List.mem_append_right _ h)) (by decide +kernel))) (goodIn_sub (fun _ h => List.mem_append_right _ h) (by decide +kernel))
set_option maxRecDepth 20000 in
theorem gL_law_L_join : GoodIn wsL_law (va_wsS RL 105 yL_join wsL_join) := goodIn_app (goodIn_of _ (by decide +kernel)) ggL_law_L_join
set_option maxRecDepth 20000 in
theorem ggL_law_X6_join : GoodIn wsL_law wsX6_join := goodIn_r _ [236, 83, 84, 130, 209, 210, 5, 211, 131, 132, 133, 134, 135, 136, 137, 138, 237, 238, 239, 240, 559, 560, 561, 562, 563, 564, 565, 566, 567, 568, 569, 570, 571, 572, 573, 574, 575, 576, 577, 578, 579] (by decide +kernel) (by decide +kernel)
set_option maxRecDepth 20000 in
theorem gL_law_X6_join : GoodIn wsL_law (wsV RL 107 RX6 yX6_join wsX6_join) := goodIn_app (goodIn_of _ (by decide +kernel)) ggL_law_X6_join
set_option maxRecDepth 20000 in
theorem ggL_law_L_quit : GoodIn wsL_law wsL_quit := goodIn_ca (goodIn_ca (goodIn_r _ [243, 184, 101, 244, 245, 246, 2, 247, 108, 109, 25, 195, 196, 197, 193, 194, 223, 24, 224, 225, 48, 248, 249, 250, 229, 230, 231, 232, 550, 551, 552, 553, 554, 555, 556, 557, 558, 584] (by decide +kernel) (by decide +kernel)) (goodIn_sub (fun _ h => List.mem_append_left _ (List.mem_append_right _ h)) (by decide +kernel))) (goodIn_sub (fun _ h => List.mem_append_right _ h) (by decide +kernel))
set_option maxRecDepth 20000 in
theorem gL_law_L_quit : GoodIn wsL_law (va_wsS RL 108 yL_quit wsL_quit) := goodIn_app (goodIn_of _ (by decide +kernel)) ggL_law_L_quit
set_option maxRecDepth 20000 in
theorem ggL_law_X6_quit : GoodIn wsL_law wsX6_quit := goodIn_r _ [254, 83, 209, 210, 5, 211, 131, 132, 133, 134, 135, 136, 137, 138, 237, 238, 239, 240, 559, 560, 561, 562, 563, 564, 565, 566, 567, 568, 569, 570, 571, 572, 573, 574, 575, 576, 577, 578, 579] (by decide +kernel) (by decide +kernel)
set_option maxRecDepth 20000 in
theorem gL_law_X6_quit : GoodIn wsL_law (wsV RL 110 RX6 yX6_quit wsX6_quit) := goodIn_app (goodIn_of _ (by decide +kernel)) ggL_law_X6_quit
set_option maxRecDepth 20000 in
theorem ggL_law_L_queueAt : GoodIn wsL_law wsL_queueAt := goodIn_ca (goodIn_r _ [257, 184, 258, 259, 260, 2, 261, 193, 194, 25, 262, 24, 263, 264, 232, 223, 224, 225, 48, 265, 266, 267, 268, 269, 270, 271, 272, 550, 551, 552, 553, 554, 555, 556, 557, 558, 584] (by decide +kernel) (by decide +kernel)) (goodIn_sub (fun _ h => List.mem_append_right _ h) (by decide +kernel))
set_option maxRecDepth 20000 in
theorem gL_law_L_queueAt : GoodIn wsL_law (va_wsS RL 111 yL_queueAt wsL_queueAt) := goodIn_app (goodIn_of _ (by decide +kernel)) ggL_law_L_queueAt
set_option maxRecDepth 20000 in
theorem ggL_law_X6_queueAt : GoodIn wsL_law wsX6_queueAt := goodIn_r _ [276, 237, 238, 239, 5, 240, 83, 131, 132, 133, 134, 135, 136, 137, 138, 277, 278, 279, 280, 281, 282, 283, 284, 559, 560, 561, 562, 563, 564, 565, 566, 567, 568, 569, 570, 571, 572, 573, 574, 575, 576, 577, 578, 579] (by decide +kernel) (by decide +kernel)
set_option maxRecDepth 20000 in
theorem gL_law_X6_queueAt : GoodIn wsL_law (wsV RL 113 RX6 yX6_queueAt wsX6_queueAt) := goodIn_app (goodIn_of _ (by decide +kernel)) ggL_law_X6_queueAt
set_option maxRecDepth 20000 in
theorem ggL_law_X5_served : GoodIn wsL_law wsX5_served := goodIn_r _ [288, 25, 13, 262, 24, 263, 264, 232, 223, 224, 225, 48, 265, 266, 267, 268, 269, 270, 271, 272, 550, 551, 552, 553, 554, 555, 556, 557, 558, 584] (by decide +kernel) (by decide +kernel)
set_option maxRecDepth 20000 in
theorem gL_law_X5_served : GoodIn wsL_law (wsV RL 114 RX5 yX5_served wsX5_served) := goodIn_app (goodIn_of _ (by decide +kernel)) ggL_law_X5_served
set_option maxRecDepth 20000 in
theorem ggL_law_X6_served : GoodIn wsL_law wsX6_served := goodIn_r _ [292, 138, 293, 294, 295, 5, 296, 83, 130, 277, 278, 279, 280, 281, 282, 283, 284, 559, 560, 561, 562, 563, 564, 565, 566, 567, 568, 569, 570, 571, 572, 573, 574, 575, 576, 577, 578, 579] (by decide +kernel) (by decide +kernel)
set_option maxRecDepth 20000 in
theorem gL_law_X6_served : GoodIn wsL_law (wsV RL 117 RX6 yX6_served wsX6_served) := goodIn_app (goodIn_of _ (by decide +kernel)) ggL_law_X6_served
set_option maxRecDepth 20000 in
theorem ggL_law_L_hold : GoodIn wsL_law wsL_hold := goodIn_ca (goodIn_ca (goodIn_ca (goodIn_r _ [299, 184, 100, 101, 300, 301, 302, 2, 303, 193, 194, 106, 107, 108, 109, 25, 21, 33, 29, 13, 195, 196, 197, 304, 305, 306, 189, 190, 191, 192, 307, 286, 287, 288, 262, 24, 263, 264, 232, 223, 224, 225, 48, 265, 266, 267, 268, 269, 270, 271, 272, 308, 309, 310, 311, 312, 32, 313, 314, 315, 316, 317, 318, 63, 65, 64, 319, 320, 321, 322, 323, 324, 325, 326, 14, 327, 20, 328, 329, 42, 43, 330, 198, 199, 200, 44, 248, 249, 250, 117, 118, 119, 331, 332, 333, 66, 334, 28, 335, 336, 52, 53, 54, 55, 56, 57, 58, 550, 551, 552, 553, 554, 555, 556, 557, 558, 580, 581, 582, 583, 584, 592, 593, 594, 595, 596, 585, 586, 587, 588, 589, 590, 591] (by decide +kernel) (by decide +kernel)) (goodIn_sub (fun _ h => List.mem_append_right _ h) (by decide +kernel))) (goodIn_sub (fun _ h => List.mem_append_left _ (List.mem_append_left _ (List.mem_append_right _ h))) (by decide +kernel))) (goodIn_sub (fun _ h => List.mem_append_left _ (List.mem_append_right _ h)) (by decide +kernel))
set_option maxRecDepth 20000 in
theorem gL_law_L_hold : GoodIn wsL_law (va_wsS RL 118 yL_hold wsL_hold) := goodIn_app (goodIn_of _ (by decide +kernel)) ggL_law_L_hold
set_option maxRecDepth 20000 in
theorem ggL_law_X6_hold : GoodIn wsL_law wsX6_hold := goodIn_r _ [340, 83, 84, 85, 86, 87, 88, 89, 130, 90, 209, 210, 5, 211, 131, 132, 133, 341, 342, 343, 205, 206, 207, 208, 180, 293, 294, 295, 296, 277, 278, 279, 280, 281, 282, 283, 284, 344, 345, 346, 347, 92, 348, 349, 350, 351, 94, 352, 353, 354, 355, 356, 357, 358, 359, 79, 80, 81, 212, 213, 214, 215, 82, 360, 361, 362, 363, 95, 364, 365, 366, 367, 134, 135, 136, 137, 138, 368, 369, 370, 371, 559, 560, 561, 562, 563, 564, 565, 566, 567, 568, 569, 570, 571, 572, 573, 574, 575, 576, 577, 578, 579] (by decide +kernel) (by decide +kernel)
set_option maxRecDepth 20000 in
theorem gL_law_X6_hold : GoodIn wsL_law (wsV RL 121 RX6 yX6_hold wsX6_hold) := goodIn_app (goodIn_of _ (by decide +kernel)) ggL_law_X6_hold
set_option maxRecDepth 20000 in
theorem ggL_law_L_pay : GoodIn wsL_law wsL_pay := goodIn_ca (goodIn_ca (goodIn_ca (goodIn_r _ [374, 184, 100, 101, 375, 376, 377, 2, 378, 106, 107, 108, 109, 29, 17, 195, 196, 197, 193, 194, 379, 380, 381, 382, 110, 28, 111, 112, 53, 383, 384, 385, 55, 56, 386, 387, 388, 389, 33, 15, 37, 390, 32, 391, 392, 63, 64, 65, 67, 66, 393, 36, 394, 395, 71, 72, 73, 74, 123, 124, 125, 396, 397, 398, 58, 57, 399, 400, 401, 402, 550, 551, 552, 553, 554, 555, 556, 557, 558, 585, 586, 587, 588, 589, 590, 591, 592, 593, 594, 595, 596, 597, 598, 599, 600] (by decide +kernel) (by decide +kernel)) (goodIn_sub (fun _ h => List.mem_append_left _ (List.mem_append_left _ (List.mem_append_right _ h))) (by decide +kernel))) (goodIn_sub (fun _ h => List.mem_append_left _ (List.mem_append_right _ h)) (by decide +kernel))) (goodIn_sub (fun _ h => List.mem_append_right _ h) (by decide +kernel))
set_option maxRecDepth 20000 in
theorem gL_law_L_pay : GoodIn wsL_law (va_wsS RL 122 yL_pay wsL_pay) := goodIn_app (goodIn_of _ (by decide +kernel)) ggL_law_L_pay
set_option maxRecDepth 20000 in
theorem ggL_law_X6_pay : GoodIn wsL_law wsX6_pay := goodIn_r _ [406, 84, 87, 88, 91, 90, 89, 209, 210, 5, 211, 131, 132, 133, 134, 135, 136, 137, 138, 407, 408, 409, 410, 85, 92, 411, 93, 94, 86, 82, 368, 369, 370, 371, 559, 560, 561, 562, 563, 564, 565, 566, 567, 568, 569, 570, 571, 572, 573, 574, 575, 576, 577, 578, 579] (by decide +kernel) (by decide +kernel)
set_option maxRecDepth 20000 in
theorem gL_law_X6_pay : GoodIn wsL_law (wsV RL 124 RX6 yX6_pay wsX6_pay) := goodIn_app (goodIn_of _ (by decide +kernel)) ggL_law_X6_pay
set_option maxRecDepth 20000 in
theorem ggL_law_L_letGo : GoodIn wsL_law wsL_letGo := goodIn_ca (goodIn_ca (goodIn_r _ [414, 184, 101, 415, 416, 417, 2, 418, 195, 196, 197, 193, 194, 379, 380, 381, 382, 108, 109, 29, 110, 28, 111, 112, 53, 113, 114, 115, 116, 17, 21, 33, 117, 20, 118, 119, 44, 120, 32, 121, 122, 63, 123, 124, 125, 550, 551, 552, 553, 554, 555, 556, 557, 558, 585, 586, 587, 588, 589, 590, 591, 580, 581, 582, 583, 592, 593, 594, 595, 596] (by decide +kernel) (by decide +kernel)) (goodIn_sub (fun _ h => List.mem_append_right _ h) (by decide +kernel))) (goodIn_sub (fun _ h => List.mem_append_left _ (List.mem_append_right _ h)) (by decide +kernel))
set_option maxRecDepth 20000 in
theorem gL_law_L_letGo : GoodIn wsL_law (va_wsS RL 125 yL_letGo wsL_letGo) := goodIn_app (goodIn_of _ (by decide +kernel)) ggL_law_L_letGo
set_option maxRecDepth 20000 in
theorem ggL_law_X6_letGo : GoodIn wsL_law wsX6_letGo := goodIn_r _ [422, 84, 88, 209, 210, 5, 211, 131, 132, 133, 134, 135, 136, 137, 138, 139, 140, 141, 142, 91, 559, 560, 561, 562, 563, 564, 565, 566, 567, 568, 569, 570, 571, 572, 573, 574, 575, 576, 577, 578, 579] (by decide +kernel) (by decide +kernel)
set_option maxRecDepth 20000 in
theorem gL_law_X6_letGo : GoodIn wsL_law (wsV RL 127 RX6 yX6_letGo wsX6_letGo) := goodIn_app (goodIn_of _ (by decide +kernel)) ggL_law_X6_letGo
set_option maxRecDepth 20000 in
theorem ggL_law_L_lapses : GoodIn wsL_law wsL_lapses := goodIn_ca (goodIn_r _ [425, 184, 426, 427, 428, 2, 429, 29, 195, 196, 197, 193, 194, 110, 28, 111, 112, 53, 550, 551, 552, 553, 554, 555, 556, 557, 558, 585, 586, 587, 588, 589, 590, 591] (by decide +kernel) (by decide +kernel)) (goodIn_sub (fun _ h => List.mem_append_right _ h) (by decide +kernel))
set_option maxRecDepth 20000 in
theorem gL_law_L_lapses : GoodIn wsL_law (va_wsS RL 128 yL_lapses wsL_lapses) := goodIn_app (goodIn_of _ (by decide +kernel)) ggL_law_L_lapses
set_option maxRecDepth 20000 in
theorem ggL_law_X6_lapses : GoodIn wsL_law wsX6_lapses := goodIn_r _ [433, 84, 90, 209, 210, 5, 211, 131, 132, 133, 134, 135, 136, 137, 138, 559, 560, 561, 562, 563, 564, 565, 566, 567, 568, 569, 570, 571, 572, 573, 574, 575, 576, 577, 578, 579] (by decide +kernel) (by decide +kernel)
set_option maxRecDepth 20000 in
theorem gL_law_X6_lapses : GoodIn wsL_law (wsV RL 130 RX6 yX6_lapses wsX6_lapses) := goodIn_app (goodIn_of _ (by decide +kernel)) ggL_law_X6_lapses
set_option maxRecDepth 20000 in
theorem ggL_law_L_state : GoodIn wsL_law wsL_state := goodIn_ca (goodIn_r _ [436, 184, 437, 438, 439, 2, 440, 33, 441, 442, 443, 193, 194, 316, 32, 317, 318, 63, 65, 64, 550, 551, 552, 553, 554, 555, 556, 557, 558, 592, 593, 594, 595, 596] (by decide +kernel) (by decide +kernel)) (goodIn_sub (fun _ h => List.mem_append_right _ h) (by decide +kernel))
set_option maxRecDepth 20000 in
theorem gL_law_L_state : GoodIn wsL_law (va_wsS RL 131 yL_state wsL_state) := goodIn_app (goodIn_of _ (by decide +kernel)) ggL_law_L_state
set_option maxRecDepth 20000 in
theorem ggL_law_X6_state : GoodIn wsL_law wsX6_state := goodIn_r _ [447, 448, 449, 5, 450, 131, 132, 133, 134, 135, 136, 137, 138, 451, 452, 453, 454, 92, 94, 352, 353, 354, 355, 84, 85, 559, 560, 561, 562, 563, 564, 565, 566, 567, 568, 569, 570, 571, 572, 573, 574, 575, 576, 577, 578, 579] (by decide +kernel) (by decide +kernel)
set_option maxRecDepth 20000 in
theorem gL_law_X6_state : GoodIn wsL_law (wsV RL 133 RX6 yX6_state wsX6_state) := goodIn_app (goodIn_of _ (by decide +kernel)) ggL_law_X6_state
set_option maxRecDepth 20000 in
theorem ggL_law_L_owner : GoodIn wsL_law wsL_owner := goodIn_ca (goodIn_r _ [457, 184, 458, 459, 460, 2, 461, 33, 441, 442, 443, 193, 194, 550, 551, 552, 553, 554, 555, 556, 557, 558, 592, 593, 594, 595, 596] (by decide +kernel) (by decide +kernel)) (goodIn_sub (fun _ h => List.mem_append_right _ h) (by decide +kernel))
set_option maxRecDepth 20000 in
theorem gL_law_L_owner : GoodIn wsL_law (va_wsS RL 134 yL_owner wsL_owner) := goodIn_app (goodIn_of _ (by decide +kernel)) ggL_law_L_owner
set_option maxRecDepth 20000 in
theorem ggL_law_X6_owner : GoodIn wsL_law wsX6_owner := goodIn_r _ [465, 466, 467, 468, 5, 469, 92, 448, 449, 450, 131, 132, 133, 134, 135, 136, 137, 138, 559, 560, 561, 562, 563, 564, 565, 566, 567, 568, 569, 570, 571, 572, 573, 574, 575, 576, 577, 578, 579] (by decide +kernel) (by decide +kernel)
set_option maxRecDepth 20000 in
theorem gL_law_X6_owner : GoodIn wsL_law (wsV RL 136 RX6 yX6_owner wsX6_owner) := goodIn_app (goodIn_of _ (by decide +kernel)) ggL_law_X6_owner
set_option maxRecDepth 20000 in
theorem ggL_law_L_ownerBySales : GoodIn wsL_law wsL_ownerBySales := goodIn_ca (goodIn_r _ [472, 184, 473, 474, 475, 2, 476, 37, 441, 442, 443, 193, 194, 477, 36, 478, 479, 71, 72, 73, 74, 550, 551, 552, 553, 554, 555, 556, 557, 558, 597, 598, 599, 600] (by decide +kernel) (by decide +kernel)) (goodIn_sub (fun _ h => List.mem_append_right _ h) (by decide +kernel))
set_option maxRecDepth 20000 in
theorem gL_law_L_ownerBySales : GoodIn wsL_law (va_wsS RL 137 yL_ownerBySales wsL_ownerBySales) := goodIn_app (goodIn_of _ (by decide +kernel)) ggL_law_L_ownerBySales
set_option maxRecDepth 20000 in
theorem ggL_law_X6_ownerBySales : GoodIn wsL_law wsX6_ownerBySales := goodIn_r _ [469, 92, 448, 449, 5, 450, 131, 132, 133, 134, 135, 136, 137, 138, 559, 560, 561, 562, 563, 564, 565, 566, 567, 568, 569, 570, 571, 572, 573, 574, 575, 576, 577, 578, 579] (by decide +kernel) (by decide +kernel)
set_option maxRecDepth 20000 in
theorem gL_law_X6_ownerBySales : GoodIn wsL_law (wsV RL 139 RX6 yX6_ownerBySales wsX6_ownerBySales) := goodIn_app (goodIn_of _ (by decide +kernel)) ggL_law_X6_ownerBySales
set_option maxRecDepth 20000 in
theorem ggL_law_L_isSingle : GoodIn wsL_law wsL_isSingle := goodIn_ca (goodIn_r _ [483, 184, 484, 485, 486, 2, 487, 33, 441, 442, 443, 193, 194, 312, 32, 313, 314, 315, 316, 317, 318, 63, 65, 64, 550, 551, 552, 553, 554, 555, 556, 557, 558, 592, 593, 594, 595, 596] (by decide +kernel) (by decide +kernel)) (goodIn_sub (fun _ h => List.mem_append_right _ h) (by decide +kernel))
set_option maxRecDepth 20000 in
theorem gL_law_L_isSingle : GoodIn wsL_law (va_wsS RL 140 yL_isSingle wsL_isSingle) := goodIn_app (goodIn_of _ (by decide +kernel)) ggL_law_L_isSingle
set_option maxRecDepth 20000 in
theorem ggL_law_X6_isSingle : GoodIn wsL_law wsX6_isSingle := goodIn_r _ [491, 448, 449, 5, 450, 131, 132, 133, 134, 135, 136, 137, 138, 364, 365, 366, 367, 348, 349, 350, 351, 92, 94, 352, 353, 354, 355, 84, 85, 559, 560, 561, 562, 563, 564, 565, 566, 567, 568, 569, 570, 571, 572, 573, 574, 575, 576, 577, 578, 579] (by decide +kernel) (by decide +kernel)
set_option maxRecDepth 20000 in
theorem gL_law_X6_isSingle : GoodIn wsL_law (wsV RL 142 RX6 yX6_isSingle wsX6_isSingle) := goodIn_app (goodIn_of _ (by decide +kernel)) ggL_law_X6_isSingle
set_option maxRecDepth 20000 in
theorem ggL_law_L_firstOpen : GoodIn wsL_law wsL_firstOpen := goodIn_ca (goodIn_ca (goodIn_r _ [494, 184, 100, 495, 496, 497, 2, 498, 106, 107, 33, 304, 305, 306, 193, 194, 312, 32, 313, 314, 315, 316, 317, 318, 63, 65, 64, 550, 551, 552, 553, 554, 555, 556, 557, 558, 592, 593, 594, 595, 596] (by decide +kernel) (by decide +kernel)) (goodIn_sub (fun _ h => List.mem_append_left _ (List.mem_append_left _ (List.mem_append_right _ h))) (by decide +kernel))) (goodIn_sub (fun _ h => List.mem_append_right _ h) (by decide +kernel))
set_option maxRecDepth 20000 in
theorem gL_law_L_firstOpen : GoodIn wsL_law (va_wsS RL 143 yL_firstOpen wsL_firstOpen) := goodIn_app (goodIn_of _ (by decide +kernel)) ggL_law_L_firstOpen
set_option maxRecDepth 20000 in
theorem ggL_law_X6_firstOpen : GoodIn wsL_law wsX6_firstOpen := goodIn_r _ [502, 341, 342, 5, 343, 131, 132, 133, 134, 135, 136, 137, 138, 348, 349, 350, 351, 92, 94, 352, 353, 354, 355, 84, 85, 559, 560, 561, 562, 563, 564, 565, 566, 567, 568, 569, 570, 571, 572, 573, 574, 575, 576, 577, 578, 579] (by decide +kernel) (by decide +kernel)
set_option maxRecDepth 20000 in
theorem gL_law_X6_firstOpen : GoodIn wsL_law (wsV RL 145 RX6 yX6_firstOpen wsX6_firstOpen) := goodIn_app (goodIn_of _ (by decide +kernel)) ggL_law_X6_firstOpen
set_option maxRecDepth 20000 in
theorem ggL_law_L_offer : GoodIn wsL_law wsL_offer := goodIn_ca (goodIn_ca (goodIn_ca (goodIn_r _ [505, 184, 100, 101, 506, 507, 508, 2, 509, 106, 107, 108, 109, 33, 195, 196, 197, 193, 194, 441, 442, 443, 316, 32, 317, 318, 63, 65, 64, 510, 511, 512, 67, 513, 514, 515, 66, 550, 551, 552, 553, 554, 555, 556, 557, 558, 592, 593, 594, 595, 596] (by decide +kernel) (by decide +kernel)) (goodIn_sub (fun _ h => List.mem_append_left _ (List.mem_append_left _ (List.mem_append_right _ h))) (by decide +kernel))) (goodIn_sub (fun _ h => List.mem_append_left _ (List.mem_append_right _ h)) (by decide +kernel))) (goodIn_sub (fun _ h => List.mem_append_right _ h) (by decide +kernel))
set_option maxRecDepth 20000 in
theorem gL_law_L_offer : GoodIn wsL_law (va_wsS RL 146 yL_offer wsL_offer) := goodIn_app (goodIn_of _ (by decide +kernel)) ggL_law_L_offer
set_option maxRecDepth 20000 in
theorem ggL_law_X6_offer : GoodIn wsL_law wsX6_offer := goodIn_r _ [519, 93, 92, 94, 209, 210, 5, 211, 131, 132, 133, 448, 449, 450, 451, 452, 453, 454, 352, 353, 354, 355, 84, 85, 134, 135, 136, 137, 138, 559, 560, 561, 562, 563, 564, 565, 566, 567, 568, 569, 570, 571, 572, 573, 574, 575, 576, 577, 578, 579] (by decide +kernel) (by decide +kernel)
set_option maxRecDepth 20000 in
theorem gL_law_X6_offer : GoodIn wsL_law (wsV RL 149 RX6 yX6_offer wsX6_offer) := goodIn_app (goodIn_of _ (by decide +kernel)) ggL_law_X6_offer
set_option maxRecDepth 20000 in
theorem ggL_law_L_retract : GoodIn wsL_law wsL_retract := goodIn_ca (goodIn_ca (goodIn_r _ [522, 184, 101, 523, 524, 525, 2, 526, 108, 109, 33, 441, 442, 443, 193, 194, 316, 32, 317, 318, 63, 65, 64, 550, 551, 552, 553, 554, 555, 556, 557, 558, 592, 593, 594, 595, 596] (by decide +kernel) (by decide +kernel)) (goodIn_sub (fun _ h => List.mem_append_left _ (List.mem_append_right _ h)) (by decide +kernel))) (goodIn_sub (fun _ h => List.mem_append_right _ h) (by decide +kernel))
set_option maxRecDepth 20000 in
theorem gL_law_L_retract : GoodIn wsL_law (va_wsS RL 150 yL_retract wsL_retract) := goodIn_app (goodIn_of _ (by decide +kernel)) ggL_law_L_retract
set_option maxRecDepth 20000 in
theorem ggL_law_X6_retract : GoodIn wsL_law wsX6_retract := goodIn_r _ [530, 94, 448, 449, 5, 450, 131, 132, 133, 451, 452, 453, 454, 92, 352, 353, 354, 355, 84, 85, 134, 135, 136, 137, 138, 559, 560, 561, 562, 563, 564, 565, 566, 567, 568, 569, 570, 571, 572, 573, 574, 575, 576, 577, 578, 579] (by decide +kernel) (by decide +kernel)
set_option maxRecDepth 20000 in
theorem gL_law_X6_retract : GoodIn wsL_law (wsV RL 152 RX6 yX6_retract wsX6_retract) := goodIn_app (goodIn_of _ (by decide +kernel)) ggL_law_X6_retract
set_option maxRecDepth 20000 in
theorem ggL_law_L_spent : GoodIn wsL_law wsL_spent := goodIn_ca (goodIn_r _ [533, 184, 534, 535, 536, 2, 537, 17, 195, 196, 197, 193, 194, 550, 551, 552, 553, 554, 555, 556, 557, 558] (by decide +kernel) (by decide +kernel)) (goodIn_sub (fun _ h => List.mem_append_right _ h) (by decide +kernel))
set_option maxRecDepth 20000 in
theorem gL_law_L_spent : GoodIn wsL_law (va_wsS RL 153 yL_spent wsL_spent) := goodIn_app (goodIn_of _ (by decide +kernel)) ggL_law_L_spent
set_option maxRecDepth 20000 in
theorem ggL_law_X6_spent : GoodIn wsL_law wsX6_spent := goodIn_r _ [541, 91, 209, 210, 5, 211, 131, 132, 133, 134, 135, 136, 137, 138, 559, 560, 561, 562, 563, 564, 565, 566, 567, 568, 569, 570, 571, 572, 573, 574, 575, 576, 577, 578, 579] (by decide +kernel) (by decide +kernel)
set_option maxRecDepth 20000 in
theorem gL_law_X6_spent : GoodIn wsL_law (wsV RL 155 RX6 yX6_spent wsX6_spent) := goodIn_app (goodIn_of _ (by decide +kernel)) ggL_law_X6_spent
set_option maxRecDepth 20000 in
theorem ggL_law_X5_takings : GoodIn wsL_law wsX5_takings := goodIn_r _ [545, 15, 550, 551, 552, 553, 554, 555, 556, 557, 558] (by decide +kernel) (by decide +kernel)
set_option maxRecDepth 20000 in
theorem gL_law_X5_takings : GoodIn wsL_law (wsV RL 156 RX5 yX5_takings wsX5_takings) := goodIn_app (goodIn_of _ (by decide +kernel)) ggL_law_X5_takings
set_option maxRecDepth 20000 in
theorem ggL_law_X6_takings : GoodIn wsL_law wsX6_takings := goodIn_r _ [549, 138, 411, 559, 560, 561, 562, 563, 564, 565, 566, 567, 568, 569, 570, 571, 572, 573, 574, 575, 576, 577, 578, 579] (by decide +kernel) (by decide +kernel)
set_option maxRecDepth 20000 in
theorem gL_law_X6_takings : GoodIn wsL_law (wsV RL 159 RX6 yX6_takings wsX6_takings) := goodIn_app (goodIn_of _ (by decide +kernel)) ggL_law_X6_takings
theorem dL_law_0 : decode cL_law 0 = .ok (.new 8, 3) := by decide +kernel
theorem dL_law_3 : decode cL_law 3 = .ok (.dup, 1) := by decide +kernel
theorem dL_law_4 : decode cL_law 4 = .ok (.invokespecial 77, 3) := by decide +kernel
theorem dL_law_7 : decode cL_law 7 = .ok (.astore_n 1, 1) := by decide +kernel
theorem dL_law_8 : decode cL_law 8 = .ok (.new 78, 3) := by decide +kernel
theorem dL_law_11 : decode cL_law 11 = .ok (.dup, 1) := by decide +kernel
theorem dL_law_12 : decode cL_law 12 = .ok (.invokespecial 80, 3) := by decide +kernel
theorem dL_law_15 : decode cL_law 15 = .ok (.astore_n 2, 1) := by decide +kernel
theorem dL_law_16 : decode cL_law 16 = .ok (.iconst 1, 1) := by decide +kernel
theorem dL_law_17 : decode cL_law 17 = .ok (.newarray .long, 2) := by decide +kernel
theorem dL_law_19 : decode cL_law 19 = .ok (.astore_n 3, 1) := by decide +kernel
theorem dL_law_20 : decode cL_law 20 = .ok (.iconst 0, 1) := by decide +kernel
theorem dL_law_21 : decode cL_law 21 = .ok (.istore 4, 2) := by decide +kernel
theorem dL_law_23 : decode cL_law 23 = .ok (.iload 4, 2) := by decide +kernel
theorem dL_law_25 : decode cL_law 25 = .ok (.aload_n 0, 1) := by decide +kernel
theorem dL_law_26 : decode cL_law 26 = .ok (.arraylength, 1) := by decide +kernel
theorem dL_law_27 : decode cL_law 27 = .ok (.bipush 6, 2) := by decide +kernel
theorem dL_law_29 : decode cL_law 29 = .ok (.isub, 1) := by decide +kernel
theorem dL_law_30 : decode cL_law 30 = .ok (.if_icmp .gt 1350, 3) := by decide +kernel
theorem dL_law_33 : decode cL_law 33 = .ok (.aload_n 0, 1) := by decide +kernel
theorem dL_law_34 : decode cL_law 34 = .ok (.iload 4, 2) := by decide +kernel
theorem dL_law_36 : decode cL_law 36 = .ok (.iaload, 1) := by decide +kernel
theorem dL_law_37 : decode cL_law 37 = .ok (.bipush 31, 2) := by decide +kernel
theorem dL_law_39 : decode cL_law 39 = .ok (.iand, 1) := by decide +kernel
theorem dL_law_40 : decode cL_law 40 = .ok (.tableswitch 1334 0 21 #[104, 160, 173, 229, 297, 365, 421, 477, 533, 546, 650, 718, 774, 830, 886, 942, 998, 1061, 1129, 1209, 1265, 1321], 104) := by decide +kernel
theorem dL_law_144 : decode cL_law 144 = .ok (.aload_n 1, 1) := by decide +kernel
theorem dL_law_145 : decode cL_law 145 = .ok (.aload_n 0, 1) := by decide +kernel
theorem dL_law_146 : decode cL_law 146 = .ok (.iload 4, 2) := by decide +kernel
theorem dL_law_148 : decode cL_law 148 = .ok (.iconst 1, 1) := by decide +kernel
theorem dL_law_149 : decode cL_law 149 = .ok (.iadd, 1) := by decide +kernel
theorem dL_law_150 : decode cL_law 150 = .ok (.iaload, 1) := by decide +kernel
theorem dL_law_151 : decode cL_law 151 = .ok (.aload_n 3, 1) := by decide +kernel
theorem dL_law_152 : decode cL_law 152 = .ok (.invokestatic 81, 3) := by decide +kernel
theorem dL_law_155 : decode cL_law 155 = .ok (.istore 5, 2) := by decide +kernel
theorem dL_law_157 : decode cL_law 157 = .ok (.aload_n 2, 1) := by decide +kernel
theorem dL_law_158 : decode cL_law 158 = .ok (.aload_n 0, 1) := by decide +kernel
theorem dL_law_159 : decode cL_law 159 = .ok (.iload 4, 2) := by decide +kernel
theorem dL_law_161 : decode cL_law 161 = .ok (.iconst 1, 1) := by decide +kernel
theorem dL_law_162 : decode cL_law 162 = .ok (.iadd, 1) := by decide +kernel
theorem dL_law_163 : decode cL_law 163 = .ok (.iaload, 1) := by decide +kernel
theorem dL_law_164 : decode cL_law 164 = .ok (.invokevirtual 86, 3) := by decide +kernel
theorem dL_law_167 : decode cL_law 167 = .ok (.istore 6, 2) := by decide +kernel
theorem dL_law_169 : decode cL_law 169 = .ok (.aload_n 2, 1) := by decide +kernel
theorem dL_law_170 : decode cL_law 170 = .ok (.invokevirtual 87, 3) := by decide +kernel
theorem dL_law_173 : decode cL_law 173 = .ok (.iload 5, 2) := by decide +kernel
theorem dL_law_175 : decode cL_law 175 = .ok (.if_icmp .eq 5, 3) := by decide +kernel
theorem dL_law_178 : decode cL_law 178 = .ok (.iconst 0, 1) := by decide +kernel
theorem dL_law_179 : decode cL_law 179 = .ok (.ireturn, 1) := by decide +kernel
theorem dL_law_180 : decode cL_law 180 = .ok (.iload 5, 2) := by decide +kernel
theorem dL_law_182 : decode cL_law 182 = .ok (.ifCond .ne 15, 3) := by decide +kernel
theorem dL_law_185 : decode cL_law 185 = .ok (.aload_n 3, 1) := by decide +kernel
theorem dL_law_186 : decode cL_law 186 = .ok (.iconst 0, 1) := by decide +kernel
theorem dL_law_187 : decode cL_law 187 = .ok (.laload, 1) := by decide +kernel
theorem dL_law_188 : decode cL_law 188 = .ok (.iload 6, 2) := by decide +kernel
theorem dL_law_190 : decode cL_law 190 = .ok (.i2l, 1) := by decide +kernel
theorem dL_law_191 : decode cL_law 191 = .ok (.lcmp, 1) := by decide +kernel
theorem dL_law_192 : decode cL_law 192 = .ok (.ifCond .eq 5, 3) := by decide +kernel
theorem dL_law_195 : decode cL_law 195 = .ok (.iconst 0, 1) := by decide +kernel
theorem dL_law_196 : decode cL_law 196 = .ok (.ireturn, 1) := by decide +kernel
theorem dL_law_197 : decode cL_law 197 = .ok (.goto 1177, 3) := by decide +kernel
theorem dL_law_200 : decode cL_law 200 = .ok (.aload_n 1, 1) := by decide +kernel
theorem dL_law_201 : decode cL_law 201 = .ok (.invokevirtual 91, 3) := by decide +kernel
theorem dL_law_204 : decode cL_law 204 = .ok (.aload_n 2, 1) := by decide +kernel
theorem dL_law_205 : decode cL_law 205 = .ok (.invokevirtual 94, 3) := by decide +kernel
theorem dL_law_208 : decode cL_law 208 = .ok (.if_icmp .eq 1166, 3) := by decide +kernel
theorem dL_law_211 : decode cL_law 211 = .ok (.iconst 0, 1) := by decide +kernel
theorem dL_law_212 : decode cL_law 212 = .ok (.ireturn, 1) := by decide +kernel
theorem dL_law_213 : decode cL_law 213 = .ok (.aload_n 1, 1) := by decide +kernel
theorem dL_law_214 : decode cL_law 214 = .ok (.aload_n 0, 1) := by decide +kernel
theorem dL_law_215 : decode cL_law 215 = .ok (.iload 4, 2) := by decide +kernel
theorem dL_law_217 : decode cL_law 217 = .ok (.iconst 1, 1) := by decide +kernel
theorem dL_law_218 : decode cL_law 218 = .ok (.iadd, 1) := by decide +kernel
theorem dL_law_219 : decode cL_law 219 = .ok (.iaload, 1) := by decide +kernel
theorem dL_law_220 : decode cL_law 220 = .ok (.aload_n 3, 1) := by decide +kernel
theorem dL_law_221 : decode cL_law 221 = .ok (.invokestatic 95, 3) := by decide +kernel
theorem dL_law_224 : decode cL_law 224 = .ok (.istore 5, 2) := by decide +kernel
theorem dL_law_226 : decode cL_law 226 = .ok (.aload_n 2, 1) := by decide +kernel
theorem dL_law_227 : decode cL_law 227 = .ok (.aload_n 0, 1) := by decide +kernel
theorem dL_law_228 : decode cL_law 228 = .ok (.iload 4, 2) := by decide +kernel
theorem dL_law_230 : decode cL_law 230 = .ok (.iconst 1, 1) := by decide +kernel
theorem dL_law_231 : decode cL_law 231 = .ok (.iadd, 1) := by decide +kernel
theorem dL_law_232 : decode cL_law 232 = .ok (.iaload, 1) := by decide +kernel
theorem dL_law_233 : decode cL_law 233 = .ok (.invokevirtual 97, 3) := by decide +kernel
theorem dL_law_236 : decode cL_law 236 = .ok (.istore 6, 2) := by decide +kernel
theorem dL_law_238 : decode cL_law 238 = .ok (.aload_n 2, 1) := by decide +kernel
theorem dL_law_239 : decode cL_law 239 = .ok (.invokevirtual 87, 3) := by decide +kernel
theorem dL_law_242 : decode cL_law 242 = .ok (.iload 5, 2) := by decide +kernel
theorem dL_law_244 : decode cL_law 244 = .ok (.if_icmp .eq 5, 3) := by decide +kernel
theorem dL_law_247 : decode cL_law 247 = .ok (.iconst 0, 1) := by decide +kernel
theorem dL_law_248 : decode cL_law 248 = .ok (.ireturn, 1) := by decide +kernel
theorem dL_law_249 : decode cL_law 249 = .ok (.iload 5, 2) := by decide +kernel
theorem dL_law_251 : decode cL_law 251 = .ok (.ifCond .ne 15, 3) := by decide +kernel
theorem dL_law_254 : decode cL_law 254 = .ok (.aload_n 3, 1) := by decide +kernel
theorem dL_law_255 : decode cL_law 255 = .ok (.iconst 0, 1) := by decide +kernel
theorem dL_law_256 : decode cL_law 256 = .ok (.laload, 1) := by decide +kernel
theorem dL_law_257 : decode cL_law 257 = .ok (.iload 6, 2) := by decide +kernel
theorem dL_law_259 : decode cL_law 259 = .ok (.i2l, 1) := by decide +kernel
theorem dL_law_260 : decode cL_law 260 = .ok (.lcmp, 1) := by decide +kernel
theorem dL_law_261 : decode cL_law 261 = .ok (.ifCond .eq 5, 3) := by decide +kernel
theorem dL_law_264 : decode cL_law 264 = .ok (.iconst 0, 1) := by decide +kernel
theorem dL_law_265 : decode cL_law 265 = .ok (.ireturn, 1) := by decide +kernel
theorem dL_law_266 : decode cL_law 266 = .ok (.goto 1108, 3) := by decide +kernel
theorem dL_law_269 : decode cL_law 269 = .ok (.aload_n 1, 1) := by decide +kernel
theorem dL_law_270 : decode cL_law 270 = .ok (.aload_n 0, 1) := by decide +kernel
theorem dL_law_271 : decode cL_law 271 = .ok (.iload 4, 2) := by decide +kernel
theorem dL_law_273 : decode cL_law 273 = .ok (.iconst 1, 1) := by decide +kernel
theorem dL_law_274 : decode cL_law 274 = .ok (.iadd, 1) := by decide +kernel
theorem dL_law_275 : decode cL_law 275 = .ok (.iaload, 1) := by decide +kernel
theorem dL_law_276 : decode cL_law 276 = .ok (.aload_n 0, 1) := by decide +kernel
theorem dL_law_277 : decode cL_law 277 = .ok (.iload 4, 2) := by decide +kernel
theorem dL_law_279 : decode cL_law 279 = .ok (.iconst 2, 1) := by decide +kernel
theorem dL_law_280 : decode cL_law 280 = .ok (.iadd, 1) := by decide +kernel
theorem dL_law_281 : decode cL_law 281 = .ok (.iaload, 1) := by decide +kernel
theorem dL_law_282 : decode cL_law 282 = .ok (.aload_n 3, 1) := by decide +kernel
theorem dL_law_283 : decode cL_law 283 = .ok (.invokestatic 98, 3) := by decide +kernel
theorem dL_law_286 : decode cL_law 286 = .ok (.istore 5, 2) := by decide +kernel
theorem dL_law_288 : decode cL_law 288 = .ok (.aload_n 2, 1) := by decide +kernel
theorem dL_law_289 : decode cL_law 289 = .ok (.aload_n 0, 1) := by decide +kernel
theorem dL_law_290 : decode cL_law 290 = .ok (.iload 4, 2) := by decide +kernel
theorem dL_law_292 : decode cL_law 292 = .ok (.iconst 1, 1) := by decide +kernel
theorem dL_law_293 : decode cL_law 293 = .ok (.iadd, 1) := by decide +kernel
theorem dL_law_294 : decode cL_law 294 = .ok (.iaload, 1) := by decide +kernel
theorem dL_law_295 : decode cL_law 295 = .ok (.aload_n 0, 1) := by decide +kernel
theorem dL_law_296 : decode cL_law 296 = .ok (.iload 4, 2) := by decide +kernel
theorem dL_law_298 : decode cL_law 298 = .ok (.iconst 2, 1) := by decide +kernel
theorem dL_law_299 : decode cL_law 299 = .ok (.iadd, 1) := by decide +kernel
theorem dL_law_300 : decode cL_law 300 = .ok (.iaload, 1) := by decide +kernel
theorem dL_law_301 : decode cL_law 301 = .ok (.invokevirtual 101, 3) := by decide +kernel
theorem dL_law_304 : decode cL_law 304 = .ok (.istore 6, 2) := by decide +kernel
theorem dL_law_306 : decode cL_law 306 = .ok (.aload_n 2, 1) := by decide +kernel
theorem dL_law_307 : decode cL_law 307 = .ok (.invokevirtual 87, 3) := by decide +kernel
theorem dL_law_310 : decode cL_law 310 = .ok (.iload 5, 2) := by decide +kernel
theorem dL_law_312 : decode cL_law 312 = .ok (.if_icmp .eq 5, 3) := by decide +kernel
theorem dL_law_315 : decode cL_law 315 = .ok (.iconst 0, 1) := by decide +kernel
theorem dL_law_316 : decode cL_law 316 = .ok (.ireturn, 1) := by decide +kernel
theorem dL_law_317 : decode cL_law 317 = .ok (.iload 5, 2) := by decide +kernel
theorem dL_law_319 : decode cL_law 319 = .ok (.ifCond .ne 15, 3) := by decide +kernel
theorem dL_law_322 : decode cL_law 322 = .ok (.aload_n 3, 1) := by decide +kernel
theorem dL_law_323 : decode cL_law 323 = .ok (.iconst 0, 1) := by decide +kernel
theorem dL_law_324 : decode cL_law 324 = .ok (.laload, 1) := by decide +kernel
theorem dL_law_325 : decode cL_law 325 = .ok (.iload 6, 2) := by decide +kernel
theorem dL_law_327 : decode cL_law 327 = .ok (.i2l, 1) := by decide +kernel
theorem dL_law_328 : decode cL_law 328 = .ok (.lcmp, 1) := by decide +kernel
theorem dL_law_329 : decode cL_law 329 = .ok (.ifCond .eq 5, 3) := by decide +kernel
theorem dL_law_332 : decode cL_law 332 = .ok (.iconst 0, 1) := by decide +kernel
theorem dL_law_333 : decode cL_law 333 = .ok (.ireturn, 1) := by decide +kernel
theorem dL_law_334 : decode cL_law 334 = .ok (.goto 1040, 3) := by decide +kernel
theorem dL_law_337 : decode cL_law 337 = .ok (.aload_n 1, 1) := by decide +kernel
theorem dL_law_338 : decode cL_law 338 = .ok (.aload_n 0, 1) := by decide +kernel
theorem dL_law_339 : decode cL_law 339 = .ok (.iload 4, 2) := by decide +kernel
theorem dL_law_341 : decode cL_law 341 = .ok (.iconst 1, 1) := by decide +kernel
theorem dL_law_342 : decode cL_law 342 = .ok (.iadd, 1) := by decide +kernel
theorem dL_law_343 : decode cL_law 343 = .ok (.iaload, 1) := by decide +kernel
theorem dL_law_344 : decode cL_law 344 = .ok (.aload_n 0, 1) := by decide +kernel
theorem dL_law_345 : decode cL_law 345 = .ok (.iload 4, 2) := by decide +kernel
theorem dL_law_347 : decode cL_law 347 = .ok (.iconst 2, 1) := by decide +kernel
theorem dL_law_348 : decode cL_law 348 = .ok (.iadd, 1) := by decide +kernel
theorem dL_law_349 : decode cL_law 349 = .ok (.iaload, 1) := by decide +kernel
theorem dL_law_350 : decode cL_law 350 = .ok (.aload_n 3, 1) := by decide +kernel
theorem dL_law_351 : decode cL_law 351 = .ok (.invokestatic 102, 3) := by decide +kernel
theorem dL_law_354 : decode cL_law 354 = .ok (.istore 5, 2) := by decide +kernel
theorem dL_law_356 : decode cL_law 356 = .ok (.aload_n 2, 1) := by decide +kernel
theorem dL_law_357 : decode cL_law 357 = .ok (.aload_n 0, 1) := by decide +kernel
theorem dL_law_358 : decode cL_law 358 = .ok (.iload 4, 2) := by decide +kernel
theorem dL_law_360 : decode cL_law 360 = .ok (.iconst 1, 1) := by decide +kernel
theorem dL_law_361 : decode cL_law 361 = .ok (.iadd, 1) := by decide +kernel
theorem dL_law_362 : decode cL_law 362 = .ok (.iaload, 1) := by decide +kernel
theorem dL_law_363 : decode cL_law 363 = .ok (.aload_n 0, 1) := by decide +kernel
theorem dL_law_364 : decode cL_law 364 = .ok (.iload 4, 2) := by decide +kernel
theorem dL_law_366 : decode cL_law 366 = .ok (.iconst 2, 1) := by decide +kernel
theorem dL_law_367 : decode cL_law 367 = .ok (.iadd, 1) := by decide +kernel
theorem dL_law_368 : decode cL_law 368 = .ok (.iaload, 1) := by decide +kernel
theorem dL_law_369 : decode cL_law 369 = .ok (.invokevirtual 104, 3) := by decide +kernel
theorem dL_law_372 : decode cL_law 372 = .ok (.istore 6, 2) := by decide +kernel
theorem dL_law_374 : decode cL_law 374 = .ok (.aload_n 2, 1) := by decide +kernel
theorem dL_law_375 : decode cL_law 375 = .ok (.invokevirtual 87, 3) := by decide +kernel
theorem dL_law_378 : decode cL_law 378 = .ok (.iload 5, 2) := by decide +kernel
theorem dL_law_380 : decode cL_law 380 = .ok (.if_icmp .eq 5, 3) := by decide +kernel
theorem dL_law_383 : decode cL_law 383 = .ok (.iconst 0, 1) := by decide +kernel
theorem dL_law_384 : decode cL_law 384 = .ok (.ireturn, 1) := by decide +kernel
theorem dL_law_385 : decode cL_law 385 = .ok (.iload 5, 2) := by decide +kernel
theorem dL_law_387 : decode cL_law 387 = .ok (.ifCond .ne 15, 3) := by decide +kernel
theorem dL_law_390 : decode cL_law 390 = .ok (.aload_n 3, 1) := by decide +kernel
theorem dL_law_391 : decode cL_law 391 = .ok (.iconst 0, 1) := by decide +kernel
theorem dL_law_392 : decode cL_law 392 = .ok (.laload, 1) := by decide +kernel
theorem dL_law_393 : decode cL_law 393 = .ok (.iload 6, 2) := by decide +kernel
theorem dL_law_395 : decode cL_law 395 = .ok (.i2l, 1) := by decide +kernel
theorem dL_law_396 : decode cL_law 396 = .ok (.lcmp, 1) := by decide +kernel
theorem dL_law_397 : decode cL_law 397 = .ok (.ifCond .eq 5, 3) := by decide +kernel
theorem dL_law_400 : decode cL_law 400 = .ok (.iconst 0, 1) := by decide +kernel
theorem dL_law_401 : decode cL_law 401 = .ok (.ireturn, 1) := by decide +kernel
theorem dL_law_402 : decode cL_law 402 = .ok (.goto 972, 3) := by decide +kernel
theorem dL_law_405 : decode cL_law 405 = .ok (.aload_n 1, 1) := by decide +kernel
theorem dL_law_406 : decode cL_law 406 = .ok (.aload_n 0, 1) := by decide +kernel
theorem dL_law_407 : decode cL_law 407 = .ok (.iload 4, 2) := by decide +kernel
theorem dL_law_409 : decode cL_law 409 = .ok (.iconst 1, 1) := by decide +kernel
theorem dL_law_410 : decode cL_law 410 = .ok (.iadd, 1) := by decide +kernel
theorem dL_law_411 : decode cL_law 411 = .ok (.iaload, 1) := by decide +kernel
theorem dL_law_412 : decode cL_law 412 = .ok (.aload_n 3, 1) := by decide +kernel
theorem dL_law_413 : decode cL_law 413 = .ok (.invokestatic 105, 3) := by decide +kernel
theorem dL_law_416 : decode cL_law 416 = .ok (.istore 5, 2) := by decide +kernel
theorem dL_law_418 : decode cL_law 418 = .ok (.aload_n 2, 1) := by decide +kernel
theorem dL_law_419 : decode cL_law 419 = .ok (.aload_n 0, 1) := by decide +kernel
theorem dL_law_420 : decode cL_law 420 = .ok (.iload 4, 2) := by decide +kernel
theorem dL_law_422 : decode cL_law 422 = .ok (.iconst 1, 1) := by decide +kernel
theorem dL_law_423 : decode cL_law 423 = .ok (.iadd, 1) := by decide +kernel
theorem dL_law_424 : decode cL_law 424 = .ok (.iaload, 1) := by decide +kernel
theorem dL_law_425 : decode cL_law 425 = .ok (.invokevirtual 107, 3) := by decide +kernel
theorem dL_law_428 : decode cL_law 428 = .ok (.istore 6, 2) := by decide +kernel
theorem dL_law_430 : decode cL_law 430 = .ok (.aload_n 2, 1) := by decide +kernel
theorem dL_law_431 : decode cL_law 431 = .ok (.invokevirtual 87, 3) := by decide +kernel
theorem dL_law_434 : decode cL_law 434 = .ok (.iload 5, 2) := by decide +kernel
theorem dL_law_436 : decode cL_law 436 = .ok (.if_icmp .eq 5, 3) := by decide +kernel
theorem dL_law_439 : decode cL_law 439 = .ok (.iconst 0, 1) := by decide +kernel
theorem dL_law_440 : decode cL_law 440 = .ok (.ireturn, 1) := by decide +kernel
theorem dL_law_441 : decode cL_law 441 = .ok (.iload 5, 2) := by decide +kernel
theorem dL_law_443 : decode cL_law 443 = .ok (.ifCond .ne 15, 3) := by decide +kernel
theorem dL_law_446 : decode cL_law 446 = .ok (.aload_n 3, 1) := by decide +kernel
theorem dL_law_447 : decode cL_law 447 = .ok (.iconst 0, 1) := by decide +kernel
theorem dL_law_448 : decode cL_law 448 = .ok (.laload, 1) := by decide +kernel
theorem dL_law_449 : decode cL_law 449 = .ok (.iload 6, 2) := by decide +kernel
theorem dL_law_451 : decode cL_law 451 = .ok (.i2l, 1) := by decide +kernel
theorem dL_law_452 : decode cL_law 452 = .ok (.lcmp, 1) := by decide +kernel
theorem dL_law_453 : decode cL_law 453 = .ok (.ifCond .eq 5, 3) := by decide +kernel
theorem dL_law_456 : decode cL_law 456 = .ok (.iconst 0, 1) := by decide +kernel
theorem dL_law_457 : decode cL_law 457 = .ok (.ireturn, 1) := by decide +kernel
theorem dL_law_458 : decode cL_law 458 = .ok (.goto 916, 3) := by decide +kernel
theorem dL_law_461 : decode cL_law 461 = .ok (.aload_n 1, 1) := by decide +kernel
theorem dL_law_462 : decode cL_law 462 = .ok (.aload_n 0, 1) := by decide +kernel
theorem dL_law_463 : decode cL_law 463 = .ok (.iload 4, 2) := by decide +kernel
theorem dL_law_465 : decode cL_law 465 = .ok (.iconst 1, 1) := by decide +kernel
theorem dL_law_466 : decode cL_law 466 = .ok (.iadd, 1) := by decide +kernel
theorem dL_law_467 : decode cL_law 467 = .ok (.iaload, 1) := by decide +kernel
theorem dL_law_468 : decode cL_law 468 = .ok (.aload_n 3, 1) := by decide +kernel
theorem dL_law_469 : decode cL_law 469 = .ok (.invokestatic 108, 3) := by decide +kernel
theorem dL_law_472 : decode cL_law 472 = .ok (.istore 5, 2) := by decide +kernel
theorem dL_law_474 : decode cL_law 474 = .ok (.aload_n 2, 1) := by decide +kernel
theorem dL_law_475 : decode cL_law 475 = .ok (.aload_n 0, 1) := by decide +kernel
theorem dL_law_476 : decode cL_law 476 = .ok (.iload 4, 2) := by decide +kernel
theorem dL_law_478 : decode cL_law 478 = .ok (.iconst 1, 1) := by decide +kernel
theorem dL_law_479 : decode cL_law 479 = .ok (.iadd, 1) := by decide +kernel
theorem dL_law_480 : decode cL_law 480 = .ok (.iaload, 1) := by decide +kernel
theorem dL_law_481 : decode cL_law 481 = .ok (.invokevirtual 110, 3) := by decide +kernel
theorem dL_law_484 : decode cL_law 484 = .ok (.istore 6, 2) := by decide +kernel
theorem dL_law_486 : decode cL_law 486 = .ok (.aload_n 2, 1) := by decide +kernel
theorem dL_law_487 : decode cL_law 487 = .ok (.invokevirtual 87, 3) := by decide +kernel
theorem dL_law_490 : decode cL_law 490 = .ok (.iload 5, 2) := by decide +kernel
theorem dL_law_492 : decode cL_law 492 = .ok (.if_icmp .eq 5, 3) := by decide +kernel
theorem dL_law_495 : decode cL_law 495 = .ok (.iconst 0, 1) := by decide +kernel
theorem dL_law_496 : decode cL_law 496 = .ok (.ireturn, 1) := by decide +kernel
theorem dL_law_497 : decode cL_law 497 = .ok (.iload 5, 2) := by decide +kernel
theorem dL_law_499 : decode cL_law 499 = .ok (.ifCond .ne 15, 3) := by decide +kernel
theorem dL_law_502 : decode cL_law 502 = .ok (.aload_n 3, 1) := by decide +kernel
theorem dL_law_503 : decode cL_law 503 = .ok (.iconst 0, 1) := by decide +kernel
theorem dL_law_504 : decode cL_law 504 = .ok (.laload, 1) := by decide +kernel
theorem dL_law_505 : decode cL_law 505 = .ok (.iload 6, 2) := by decide +kernel
theorem dL_law_507 : decode cL_law 507 = .ok (.i2l, 1) := by decide +kernel
theorem dL_law_508 : decode cL_law 508 = .ok (.lcmp, 1) := by decide +kernel
theorem dL_law_509 : decode cL_law 509 = .ok (.ifCond .eq 5, 3) := by decide +kernel
theorem dL_law_512 : decode cL_law 512 = .ok (.iconst 0, 1) := by decide +kernel
theorem dL_law_513 : decode cL_law 513 = .ok (.ireturn, 1) := by decide +kernel
theorem dL_law_514 : decode cL_law 514 = .ok (.goto 860, 3) := by decide +kernel
theorem dL_law_517 : decode cL_law 517 = .ok (.aload_n 1, 1) := by decide +kernel
theorem dL_law_518 : decode cL_law 518 = .ok (.aload_n 0, 1) := by decide +kernel
theorem dL_law_519 : decode cL_law 519 = .ok (.iload 4, 2) := by decide +kernel
theorem dL_law_521 : decode cL_law 521 = .ok (.iconst 1, 1) := by decide +kernel
theorem dL_law_522 : decode cL_law 522 = .ok (.iadd, 1) := by decide +kernel
theorem dL_law_523 : decode cL_law 523 = .ok (.iaload, 1) := by decide +kernel
theorem dL_law_524 : decode cL_law 524 = .ok (.aload_n 3, 1) := by decide +kernel
theorem dL_law_525 : decode cL_law 525 = .ok (.invokestatic 111, 3) := by decide +kernel
theorem dL_law_528 : decode cL_law 528 = .ok (.istore 5, 2) := by decide +kernel
theorem dL_law_530 : decode cL_law 530 = .ok (.aload_n 2, 1) := by decide +kernel
theorem dL_law_531 : decode cL_law 531 = .ok (.aload_n 0, 1) := by decide +kernel
theorem dL_law_532 : decode cL_law 532 = .ok (.iload 4, 2) := by decide +kernel
theorem dL_law_534 : decode cL_law 534 = .ok (.iconst 1, 1) := by decide +kernel
theorem dL_law_535 : decode cL_law 535 = .ok (.iadd, 1) := by decide +kernel
theorem dL_law_536 : decode cL_law 536 = .ok (.iaload, 1) := by decide +kernel
theorem dL_law_537 : decode cL_law 537 = .ok (.invokevirtual 113, 3) := by decide +kernel
theorem dL_law_540 : decode cL_law 540 = .ok (.istore 6, 2) := by decide +kernel
theorem dL_law_542 : decode cL_law 542 = .ok (.aload_n 2, 1) := by decide +kernel
theorem dL_law_543 : decode cL_law 543 = .ok (.invokevirtual 87, 3) := by decide +kernel
theorem dL_law_546 : decode cL_law 546 = .ok (.iload 5, 2) := by decide +kernel
theorem dL_law_548 : decode cL_law 548 = .ok (.if_icmp .eq 5, 3) := by decide +kernel
theorem dL_law_551 : decode cL_law 551 = .ok (.iconst 0, 1) := by decide +kernel
theorem dL_law_552 : decode cL_law 552 = .ok (.ireturn, 1) := by decide +kernel
theorem dL_law_553 : decode cL_law 553 = .ok (.iload 5, 2) := by decide +kernel
theorem dL_law_555 : decode cL_law 555 = .ok (.ifCond .ne 15, 3) := by decide +kernel
theorem dL_law_558 : decode cL_law 558 = .ok (.aload_n 3, 1) := by decide +kernel
theorem dL_law_559 : decode cL_law 559 = .ok (.iconst 0, 1) := by decide +kernel
theorem dL_law_560 : decode cL_law 560 = .ok (.laload, 1) := by decide +kernel
theorem dL_law_561 : decode cL_law 561 = .ok (.iload 6, 2) := by decide +kernel
theorem dL_law_563 : decode cL_law 563 = .ok (.i2l, 1) := by decide +kernel
theorem dL_law_564 : decode cL_law 564 = .ok (.lcmp, 1) := by decide +kernel
theorem dL_law_565 : decode cL_law 565 = .ok (.ifCond .eq 5, 3) := by decide +kernel
theorem dL_law_568 : decode cL_law 568 = .ok (.iconst 0, 1) := by decide +kernel
theorem dL_law_569 : decode cL_law 569 = .ok (.ireturn, 1) := by decide +kernel
theorem dL_law_570 : decode cL_law 570 = .ok (.goto 804, 3) := by decide +kernel
theorem dL_law_573 : decode cL_law 573 = .ok (.aload_n 1, 1) := by decide +kernel
theorem dL_law_574 : decode cL_law 574 = .ok (.invokevirtual 114, 3) := by decide +kernel
theorem dL_law_577 : decode cL_law 577 = .ok (.aload_n 2, 1) := by decide +kernel
theorem dL_law_578 : decode cL_law 578 = .ok (.invokevirtual 117, 3) := by decide +kernel
theorem dL_law_581 : decode cL_law 581 = .ok (.if_icmp .eq 793, 3) := by decide +kernel
theorem dL_law_584 : decode cL_law 584 = .ok (.iconst 0, 1) := by decide +kernel
theorem dL_law_585 : decode cL_law 585 = .ok (.ireturn, 1) := by decide +kernel
theorem dL_law_586 : decode cL_law 586 = .ok (.aload_n 1, 1) := by decide +kernel
theorem dL_law_587 : decode cL_law 587 = .ok (.aload_n 0, 1) := by decide +kernel
theorem dL_law_588 : decode cL_law 588 = .ok (.iload 4, 2) := by decide +kernel
theorem dL_law_590 : decode cL_law 590 = .ok (.iconst 1, 1) := by decide +kernel
theorem dL_law_591 : decode cL_law 591 = .ok (.iadd, 1) := by decide +kernel
theorem dL_law_592 : decode cL_law 592 = .ok (.iaload, 1) := by decide +kernel
theorem dL_law_593 : decode cL_law 593 = .ok (.aload_n 0, 1) := by decide +kernel
theorem dL_law_594 : decode cL_law 594 = .ok (.iload 4, 2) := by decide +kernel
theorem dL_law_596 : decode cL_law 596 = .ok (.iconst 2, 1) := by decide +kernel
theorem dL_law_597 : decode cL_law 597 = .ok (.iadd, 1) := by decide +kernel
theorem dL_law_598 : decode cL_law 598 = .ok (.iaload, 1) := by decide +kernel
theorem dL_law_599 : decode cL_law 599 = .ok (.aload_n 0, 1) := by decide +kernel
theorem dL_law_600 : decode cL_law 600 = .ok (.iload 4, 2) := by decide +kernel
theorem dL_law_602 : decode cL_law 602 = .ok (.iconst 3, 1) := by decide +kernel
theorem dL_law_603 : decode cL_law 603 = .ok (.iadd, 1) := by decide +kernel
theorem dL_law_604 : decode cL_law 604 = .ok (.iaload, 1) := by decide +kernel
theorem dL_law_605 : decode cL_law 605 = .ok (.aload_n 0, 1) := by decide +kernel
theorem dL_law_606 : decode cL_law 606 = .ok (.iload 4, 2) := by decide +kernel
theorem dL_law_608 : decode cL_law 608 = .ok (.iconst 4, 1) := by decide +kernel
theorem dL_law_609 : decode cL_law 609 = .ok (.iadd, 1) := by decide +kernel
theorem dL_law_610 : decode cL_law 610 = .ok (.iaload, 1) := by decide +kernel
theorem dL_law_611 : decode cL_law 611 = .ok (.aload_n 0, 1) := by decide +kernel
theorem dL_law_612 : decode cL_law 612 = .ok (.iload 4, 2) := by decide +kernel
theorem dL_law_614 : decode cL_law 614 = .ok (.iconst 5, 1) := by decide +kernel
theorem dL_law_615 : decode cL_law 615 = .ok (.iadd, 1) := by decide +kernel
theorem dL_law_616 : decode cL_law 616 = .ok (.iaload, 1) := by decide +kernel
theorem dL_law_617 : decode cL_law 617 = .ok (.aload_n 3, 1) := by decide +kernel
theorem dL_law_618 : decode cL_law 618 = .ok (.invokestatic 118, 3) := by decide +kernel
theorem dL_law_621 : decode cL_law 621 = .ok (.istore 5, 2) := by decide +kernel
theorem dL_law_623 : decode cL_law 623 = .ok (.aload_n 2, 1) := by decide +kernel
theorem dL_law_624 : decode cL_law 624 = .ok (.aload_n 0, 1) := by decide +kernel
theorem dL_law_625 : decode cL_law 625 = .ok (.iload 4, 2) := by decide +kernel
theorem dL_law_627 : decode cL_law 627 = .ok (.iconst 1, 1) := by decide +kernel
theorem dL_law_628 : decode cL_law 628 = .ok (.iadd, 1) := by decide +kernel
theorem dL_law_629 : decode cL_law 629 = .ok (.iaload, 1) := by decide +kernel
theorem dL_law_630 : decode cL_law 630 = .ok (.aload_n 0, 1) := by decide +kernel
theorem dL_law_631 : decode cL_law 631 = .ok (.iload 4, 2) := by decide +kernel
theorem dL_law_633 : decode cL_law 633 = .ok (.iconst 2, 1) := by decide +kernel
theorem dL_law_634 : decode cL_law 634 = .ok (.iadd, 1) := by decide +kernel
theorem dL_law_635 : decode cL_law 635 = .ok (.iaload, 1) := by decide +kernel
theorem dL_law_636 : decode cL_law 636 = .ok (.aload_n 0, 1) := by decide +kernel
theorem dL_law_637 : decode cL_law 637 = .ok (.iload 4, 2) := by decide +kernel
theorem dL_law_639 : decode cL_law 639 = .ok (.iconst 3, 1) := by decide +kernel
theorem dL_law_640 : decode cL_law 640 = .ok (.iadd, 1) := by decide +kernel
theorem dL_law_641 : decode cL_law 641 = .ok (.iaload, 1) := by decide +kernel
theorem dL_law_642 : decode cL_law 642 = .ok (.aload_n 0, 1) := by decide +kernel
theorem dL_law_643 : decode cL_law 643 = .ok (.iload 4, 2) := by decide +kernel
theorem dL_law_645 : decode cL_law 645 = .ok (.iconst 4, 1) := by decide +kernel
theorem dL_law_646 : decode cL_law 646 = .ok (.iadd, 1) := by decide +kernel
theorem dL_law_647 : decode cL_law 647 = .ok (.iaload, 1) := by decide +kernel
theorem dL_law_648 : decode cL_law 648 = .ok (.aload_n 0, 1) := by decide +kernel
theorem dL_law_649 : decode cL_law 649 = .ok (.iload 4, 2) := by decide +kernel
theorem dL_law_651 : decode cL_law 651 = .ok (.iconst 5, 1) := by decide +kernel
theorem dL_law_652 : decode cL_law 652 = .ok (.iadd, 1) := by decide +kernel
theorem dL_law_653 : decode cL_law 653 = .ok (.iaload, 1) := by decide +kernel
theorem dL_law_654 : decode cL_law 654 = .ok (.invokevirtual 121, 3) := by decide +kernel
theorem dL_law_657 : decode cL_law 657 = .ok (.istore 6, 2) := by decide +kernel
theorem dL_law_659 : decode cL_law 659 = .ok (.aload_n 2, 1) := by decide +kernel
theorem dL_law_660 : decode cL_law 660 = .ok (.invokevirtual 87, 3) := by decide +kernel
theorem dL_law_663 : decode cL_law 663 = .ok (.iload 5, 2) := by decide +kernel
theorem dL_law_665 : decode cL_law 665 = .ok (.if_icmp .eq 5, 3) := by decide +kernel
theorem dL_law_668 : decode cL_law 668 = .ok (.iconst 0, 1) := by decide +kernel
theorem dL_law_669 : decode cL_law 669 = .ok (.ireturn, 1) := by decide +kernel
theorem dL_law_670 : decode cL_law 670 = .ok (.iload 5, 2) := by decide +kernel
theorem dL_law_672 : decode cL_law 672 = .ok (.ifCond .ne 15, 3) := by decide +kernel
theorem dL_law_675 : decode cL_law 675 = .ok (.aload_n 3, 1) := by decide +kernel
theorem dL_law_676 : decode cL_law 676 = .ok (.iconst 0, 1) := by decide +kernel
theorem dL_law_677 : decode cL_law 677 = .ok (.laload, 1) := by decide +kernel
theorem dL_law_678 : decode cL_law 678 = .ok (.iload 6, 2) := by decide +kernel
theorem dL_law_680 : decode cL_law 680 = .ok (.i2l, 1) := by decide +kernel
theorem dL_law_681 : decode cL_law 681 = .ok (.lcmp, 1) := by decide +kernel
theorem dL_law_682 : decode cL_law 682 = .ok (.ifCond .eq 5, 3) := by decide +kernel
theorem dL_law_685 : decode cL_law 685 = .ok (.iconst 0, 1) := by decide +kernel
theorem dL_law_686 : decode cL_law 686 = .ok (.ireturn, 1) := by decide +kernel
theorem dL_law_687 : decode cL_law 687 = .ok (.goto 687, 3) := by decide +kernel
theorem dL_law_690 : decode cL_law 690 = .ok (.aload_n 1, 1) := by decide +kernel
theorem dL_law_691 : decode cL_law 691 = .ok (.aload_n 0, 1) := by decide +kernel
theorem dL_law_692 : decode cL_law 692 = .ok (.iload 4, 2) := by decide +kernel
theorem dL_law_694 : decode cL_law 694 = .ok (.iconst 1, 1) := by decide +kernel
theorem dL_law_695 : decode cL_law 695 = .ok (.iadd, 1) := by decide +kernel
theorem dL_law_696 : decode cL_law 696 = .ok (.iaload, 1) := by decide +kernel
theorem dL_law_697 : decode cL_law 697 = .ok (.aload_n 0, 1) := by decide +kernel
theorem dL_law_698 : decode cL_law 698 = .ok (.iload 4, 2) := by decide +kernel
theorem dL_law_700 : decode cL_law 700 = .ok (.iconst 2, 1) := by decide +kernel
theorem dL_law_701 : decode cL_law 701 = .ok (.iadd, 1) := by decide +kernel
theorem dL_law_702 : decode cL_law 702 = .ok (.iaload, 1) := by decide +kernel
theorem dL_law_703 : decode cL_law 703 = .ok (.aload_n 3, 1) := by decide +kernel
theorem dL_law_704 : decode cL_law 704 = .ok (.invokestatic 122, 3) := by decide +kernel
theorem dL_law_707 : decode cL_law 707 = .ok (.istore 5, 2) := by decide +kernel
theorem dL_law_709 : decode cL_law 709 = .ok (.aload_n 2, 1) := by decide +kernel
theorem dL_law_710 : decode cL_law 710 = .ok (.aload_n 0, 1) := by decide +kernel
theorem dL_law_711 : decode cL_law 711 = .ok (.iload 4, 2) := by decide +kernel
theorem dL_law_713 : decode cL_law 713 = .ok (.iconst 1, 1) := by decide +kernel
theorem dL_law_714 : decode cL_law 714 = .ok (.iadd, 1) := by decide +kernel
theorem dL_law_715 : decode cL_law 715 = .ok (.iaload, 1) := by decide +kernel
theorem dL_law_716 : decode cL_law 716 = .ok (.aload_n 0, 1) := by decide +kernel
theorem dL_law_717 : decode cL_law 717 = .ok (.iload 4, 2) := by decide +kernel
theorem dL_law_719 : decode cL_law 719 = .ok (.iconst 2, 1) := by decide +kernel
theorem dL_law_720 : decode cL_law 720 = .ok (.iadd, 1) := by decide +kernel
theorem dL_law_721 : decode cL_law 721 = .ok (.iaload, 1) := by decide +kernel
theorem dL_law_722 : decode cL_law 722 = .ok (.invokevirtual 124, 3) := by decide +kernel
theorem dL_law_725 : decode cL_law 725 = .ok (.istore 6, 2) := by decide +kernel
theorem dL_law_727 : decode cL_law 727 = .ok (.aload_n 2, 1) := by decide +kernel
theorem dL_law_728 : decode cL_law 728 = .ok (.invokevirtual 87, 3) := by decide +kernel
theorem dL_law_731 : decode cL_law 731 = .ok (.iload 5, 2) := by decide +kernel
theorem dL_law_733 : decode cL_law 733 = .ok (.if_icmp .eq 5, 3) := by decide +kernel
theorem dL_law_736 : decode cL_law 736 = .ok (.iconst 0, 1) := by decide +kernel
theorem dL_law_737 : decode cL_law 737 = .ok (.ireturn, 1) := by decide +kernel
theorem dL_law_738 : decode cL_law 738 = .ok (.iload 5, 2) := by decide +kernel
theorem dL_law_740 : decode cL_law 740 = .ok (.ifCond .ne 15, 3) := by decide +kernel
theorem dL_law_743 : decode cL_law 743 = .ok (.aload_n 3, 1) := by decide +kernel
theorem dL_law_744 : decode cL_law 744 = .ok (.iconst 0, 1) := by decide +kernel
theorem dL_law_745 : decode cL_law 745 = .ok (.laload, 1) := by decide +kernel
theorem dL_law_746 : decode cL_law 746 = .ok (.iload 6, 2) := by decide +kernel
theorem dL_law_748 : decode cL_law 748 = .ok (.i2l, 1) := by decide +kernel
theorem dL_law_749 : decode cL_law 749 = .ok (.lcmp, 1) := by decide +kernel
theorem dL_law_750 : decode cL_law 750 = .ok (.ifCond .eq 5, 3) := by decide +kernel
theorem dL_law_753 : decode cL_law 753 = .ok (.iconst 0, 1) := by decide +kernel
theorem dL_law_754 : decode cL_law 754 = .ok (.ireturn, 1) := by decide +kernel
theorem dL_law_755 : decode cL_law 755 = .ok (.goto 619, 3) := by decide +kernel
theorem dL_law_758 : decode cL_law 758 = .ok (.aload_n 1, 1) := by decide +kernel
theorem dL_law_759 : decode cL_law 759 = .ok (.aload_n 0, 1) := by decide +kernel
theorem dL_law_760 : decode cL_law 760 = .ok (.iload 4, 2) := by decide +kernel
theorem dL_law_762 : decode cL_law 762 = .ok (.iconst 1, 1) := by decide +kernel
theorem dL_law_763 : decode cL_law 763 = .ok (.iadd, 1) := by decide +kernel
theorem dL_law_764 : decode cL_law 764 = .ok (.iaload, 1) := by decide +kernel
theorem dL_law_765 : decode cL_law 765 = .ok (.aload_n 3, 1) := by decide +kernel
theorem dL_law_766 : decode cL_law 766 = .ok (.invokestatic 125, 3) := by decide +kernel
theorem dL_law_769 : decode cL_law 769 = .ok (.istore 5, 2) := by decide +kernel
theorem dL_law_771 : decode cL_law 771 = .ok (.aload_n 2, 1) := by decide +kernel
theorem dL_law_772 : decode cL_law 772 = .ok (.aload_n 0, 1) := by decide +kernel
theorem dL_law_773 : decode cL_law 773 = .ok (.iload 4, 2) := by decide +kernel
theorem dL_law_775 : decode cL_law 775 = .ok (.iconst 1, 1) := by decide +kernel
theorem dL_law_776 : decode cL_law 776 = .ok (.iadd, 1) := by decide +kernel
theorem dL_law_777 : decode cL_law 777 = .ok (.iaload, 1) := by decide +kernel
theorem dL_law_778 : decode cL_law 778 = .ok (.invokevirtual 127, 3) := by decide +kernel
theorem dL_law_781 : decode cL_law 781 = .ok (.istore 6, 2) := by decide +kernel
theorem dL_law_783 : decode cL_law 783 = .ok (.aload_n 2, 1) := by decide +kernel
theorem dL_law_784 : decode cL_law 784 = .ok (.invokevirtual 87, 3) := by decide +kernel
theorem dL_law_787 : decode cL_law 787 = .ok (.iload 5, 2) := by decide +kernel
theorem dL_law_789 : decode cL_law 789 = .ok (.if_icmp .eq 5, 3) := by decide +kernel
theorem dL_law_792 : decode cL_law 792 = .ok (.iconst 0, 1) := by decide +kernel
theorem dL_law_793 : decode cL_law 793 = .ok (.ireturn, 1) := by decide +kernel
theorem dL_law_794 : decode cL_law 794 = .ok (.iload 5, 2) := by decide +kernel
theorem dL_law_796 : decode cL_law 796 = .ok (.ifCond .ne 15, 3) := by decide +kernel
theorem dL_law_799 : decode cL_law 799 = .ok (.aload_n 3, 1) := by decide +kernel
theorem dL_law_800 : decode cL_law 800 = .ok (.iconst 0, 1) := by decide +kernel
theorem dL_law_801 : decode cL_law 801 = .ok (.laload, 1) := by decide +kernel
theorem dL_law_802 : decode cL_law 802 = .ok (.iload 6, 2) := by decide +kernel
theorem dL_law_804 : decode cL_law 804 = .ok (.i2l, 1) := by decide +kernel
theorem dL_law_805 : decode cL_law 805 = .ok (.lcmp, 1) := by decide +kernel
theorem dL_law_806 : decode cL_law 806 = .ok (.ifCond .eq 5, 3) := by decide +kernel
theorem dL_law_809 : decode cL_law 809 = .ok (.iconst 0, 1) := by decide +kernel
theorem dL_law_810 : decode cL_law 810 = .ok (.ireturn, 1) := by decide +kernel
theorem dL_law_811 : decode cL_law 811 = .ok (.goto 563, 3) := by decide +kernel
theorem dL_law_814 : decode cL_law 814 = .ok (.aload_n 1, 1) := by decide +kernel
theorem dL_law_815 : decode cL_law 815 = .ok (.aload_n 0, 1) := by decide +kernel
theorem dL_law_816 : decode cL_law 816 = .ok (.iload 4, 2) := by decide +kernel
theorem dL_law_818 : decode cL_law 818 = .ok (.iconst 1, 1) := by decide +kernel
theorem dL_law_819 : decode cL_law 819 = .ok (.iadd, 1) := by decide +kernel
theorem dL_law_820 : decode cL_law 820 = .ok (.iaload, 1) := by decide +kernel
theorem dL_law_821 : decode cL_law 821 = .ok (.aload_n 3, 1) := by decide +kernel
theorem dL_law_822 : decode cL_law 822 = .ok (.invokestatic 128, 3) := by decide +kernel
theorem dL_law_825 : decode cL_law 825 = .ok (.istore 5, 2) := by decide +kernel
theorem dL_law_827 : decode cL_law 827 = .ok (.aload_n 2, 1) := by decide +kernel
theorem dL_law_828 : decode cL_law 828 = .ok (.aload_n 0, 1) := by decide +kernel
theorem dL_law_829 : decode cL_law 829 = .ok (.iload 4, 2) := by decide +kernel
theorem dL_law_831 : decode cL_law 831 = .ok (.iconst 1, 1) := by decide +kernel
theorem dL_law_832 : decode cL_law 832 = .ok (.iadd, 1) := by decide +kernel
theorem dL_law_833 : decode cL_law 833 = .ok (.iaload, 1) := by decide +kernel
theorem dL_law_834 : decode cL_law 834 = .ok (.invokevirtual 130, 3) := by decide +kernel
theorem dL_law_837 : decode cL_law 837 = .ok (.istore 6, 2) := by decide +kernel
theorem dL_law_839 : decode cL_law 839 = .ok (.aload_n 2, 1) := by decide +kernel
theorem dL_law_840 : decode cL_law 840 = .ok (.invokevirtual 87, 3) := by decide +kernel
theorem dL_law_843 : decode cL_law 843 = .ok (.iload 5, 2) := by decide +kernel
theorem dL_law_845 : decode cL_law 845 = .ok (.if_icmp .eq 5, 3) := by decide +kernel
theorem dL_law_848 : decode cL_law 848 = .ok (.iconst 0, 1) := by decide +kernel
theorem dL_law_849 : decode cL_law 849 = .ok (.ireturn, 1) := by decide +kernel
theorem dL_law_850 : decode cL_law 850 = .ok (.iload 5, 2) := by decide +kernel
theorem dL_law_852 : decode cL_law 852 = .ok (.ifCond .ne 15, 3) := by decide +kernel
theorem dL_law_855 : decode cL_law 855 = .ok (.aload_n 3, 1) := by decide +kernel
theorem dL_law_856 : decode cL_law 856 = .ok (.iconst 0, 1) := by decide +kernel
theorem dL_law_857 : decode cL_law 857 = .ok (.laload, 1) := by decide +kernel
theorem dL_law_858 : decode cL_law 858 = .ok (.iload 6, 2) := by decide +kernel
theorem dL_law_860 : decode cL_law 860 = .ok (.i2l, 1) := by decide +kernel
theorem dL_law_861 : decode cL_law 861 = .ok (.lcmp, 1) := by decide +kernel
theorem dL_law_862 : decode cL_law 862 = .ok (.ifCond .eq 5, 3) := by decide +kernel
theorem dL_law_865 : decode cL_law 865 = .ok (.iconst 0, 1) := by decide +kernel
theorem dL_law_866 : decode cL_law 866 = .ok (.ireturn, 1) := by decide +kernel
theorem dL_law_867 : decode cL_law 867 = .ok (.goto 507, 3) := by decide +kernel
theorem dL_law_870 : decode cL_law 870 = .ok (.aload_n 1, 1) := by decide +kernel
theorem dL_law_871 : decode cL_law 871 = .ok (.aload_n 0, 1) := by decide +kernel
theorem dL_law_872 : decode cL_law 872 = .ok (.iload 4, 2) := by decide +kernel
theorem dL_law_874 : decode cL_law 874 = .ok (.iconst 1, 1) := by decide +kernel
theorem dL_law_875 : decode cL_law 875 = .ok (.iadd, 1) := by decide +kernel
theorem dL_law_876 : decode cL_law 876 = .ok (.iaload, 1) := by decide +kernel
theorem dL_law_877 : decode cL_law 877 = .ok (.aload_n 3, 1) := by decide +kernel
theorem dL_law_878 : decode cL_law 878 = .ok (.invokestatic 131, 3) := by decide +kernel
theorem dL_law_881 : decode cL_law 881 = .ok (.istore 5, 2) := by decide +kernel
theorem dL_law_883 : decode cL_law 883 = .ok (.aload_n 2, 1) := by decide +kernel
theorem dL_law_884 : decode cL_law 884 = .ok (.aload_n 0, 1) := by decide +kernel
theorem dL_law_885 : decode cL_law 885 = .ok (.iload 4, 2) := by decide +kernel
theorem dL_law_887 : decode cL_law 887 = .ok (.iconst 1, 1) := by decide +kernel
theorem dL_law_888 : decode cL_law 888 = .ok (.iadd, 1) := by decide +kernel
theorem dL_law_889 : decode cL_law 889 = .ok (.iaload, 1) := by decide +kernel
theorem dL_law_890 : decode cL_law 890 = .ok (.invokevirtual 133, 3) := by decide +kernel
theorem dL_law_893 : decode cL_law 893 = .ok (.istore 6, 2) := by decide +kernel
theorem dL_law_895 : decode cL_law 895 = .ok (.aload_n 2, 1) := by decide +kernel
theorem dL_law_896 : decode cL_law 896 = .ok (.invokevirtual 87, 3) := by decide +kernel
theorem dL_law_899 : decode cL_law 899 = .ok (.iload 5, 2) := by decide +kernel
theorem dL_law_901 : decode cL_law 901 = .ok (.if_icmp .eq 5, 3) := by decide +kernel
theorem dL_law_904 : decode cL_law 904 = .ok (.iconst 0, 1) := by decide +kernel
theorem dL_law_905 : decode cL_law 905 = .ok (.ireturn, 1) := by decide +kernel
theorem dL_law_906 : decode cL_law 906 = .ok (.iload 5, 2) := by decide +kernel
theorem dL_law_908 : decode cL_law 908 = .ok (.ifCond .ne 15, 3) := by decide +kernel
theorem dL_law_911 : decode cL_law 911 = .ok (.aload_n 3, 1) := by decide +kernel
theorem dL_law_912 : decode cL_law 912 = .ok (.iconst 0, 1) := by decide +kernel
theorem dL_law_913 : decode cL_law 913 = .ok (.laload, 1) := by decide +kernel
theorem dL_law_914 : decode cL_law 914 = .ok (.iload 6, 2) := by decide +kernel
theorem dL_law_916 : decode cL_law 916 = .ok (.i2l, 1) := by decide +kernel
theorem dL_law_917 : decode cL_law 917 = .ok (.lcmp, 1) := by decide +kernel
theorem dL_law_918 : decode cL_law 918 = .ok (.ifCond .eq 5, 3) := by decide +kernel
theorem dL_law_921 : decode cL_law 921 = .ok (.iconst 0, 1) := by decide +kernel
theorem dL_law_922 : decode cL_law 922 = .ok (.ireturn, 1) := by decide +kernel
theorem dL_law_923 : decode cL_law 923 = .ok (.goto 451, 3) := by decide +kernel
theorem dL_law_926 : decode cL_law 926 = .ok (.aload_n 1, 1) := by decide +kernel
theorem dL_law_927 : decode cL_law 927 = .ok (.aload_n 0, 1) := by decide +kernel
theorem dL_law_928 : decode cL_law 928 = .ok (.iload 4, 2) := by decide +kernel
theorem dL_law_930 : decode cL_law 930 = .ok (.iconst 1, 1) := by decide +kernel
theorem dL_law_931 : decode cL_law 931 = .ok (.iadd, 1) := by decide +kernel
theorem dL_law_932 : decode cL_law 932 = .ok (.iaload, 1) := by decide +kernel
theorem dL_law_933 : decode cL_law 933 = .ok (.aload_n 3, 1) := by decide +kernel
theorem dL_law_934 : decode cL_law 934 = .ok (.invokestatic 134, 3) := by decide +kernel
theorem dL_law_937 : decode cL_law 937 = .ok (.istore 5, 2) := by decide +kernel
theorem dL_law_939 : decode cL_law 939 = .ok (.aload_n 2, 1) := by decide +kernel
theorem dL_law_940 : decode cL_law 940 = .ok (.aload_n 0, 1) := by decide +kernel
theorem dL_law_941 : decode cL_law 941 = .ok (.iload 4, 2) := by decide +kernel
theorem dL_law_943 : decode cL_law 943 = .ok (.iconst 1, 1) := by decide +kernel
theorem dL_law_944 : decode cL_law 944 = .ok (.iadd, 1) := by decide +kernel
theorem dL_law_945 : decode cL_law 945 = .ok (.iaload, 1) := by decide +kernel
theorem dL_law_946 : decode cL_law 946 = .ok (.invokevirtual 136, 3) := by decide +kernel
theorem dL_law_949 : decode cL_law 949 = .ok (.istore 6, 2) := by decide +kernel
theorem dL_law_951 : decode cL_law 951 = .ok (.aload_n 2, 1) := by decide +kernel
theorem dL_law_952 : decode cL_law 952 = .ok (.invokevirtual 87, 3) := by decide +kernel
theorem dL_law_955 : decode cL_law 955 = .ok (.iload 5, 2) := by decide +kernel
theorem dL_law_957 : decode cL_law 957 = .ok (.if_icmp .eq 5, 3) := by decide +kernel
theorem dL_law_960 : decode cL_law 960 = .ok (.iconst 0, 1) := by decide +kernel
theorem dL_law_961 : decode cL_law 961 = .ok (.ireturn, 1) := by decide +kernel
theorem dL_law_962 : decode cL_law 962 = .ok (.iload 5, 2) := by decide +kernel
theorem dL_law_964 : decode cL_law 964 = .ok (.ifCond .ne 15, 3) := by decide +kernel
theorem dL_law_967 : decode cL_law 967 = .ok (.aload_n 3, 1) := by decide +kernel
theorem dL_law_968 : decode cL_law 968 = .ok (.iconst 0, 1) := by decide +kernel
theorem dL_law_969 : decode cL_law 969 = .ok (.laload, 1) := by decide +kernel
theorem dL_law_970 : decode cL_law 970 = .ok (.iload 6, 2) := by decide +kernel
theorem dL_law_972 : decode cL_law 972 = .ok (.i2l, 1) := by decide +kernel
theorem dL_law_973 : decode cL_law 973 = .ok (.lcmp, 1) := by decide +kernel
theorem dL_law_974 : decode cL_law 974 = .ok (.ifCond .eq 5, 3) := by decide +kernel
theorem dL_law_977 : decode cL_law 977 = .ok (.iconst 0, 1) := by decide +kernel
theorem dL_law_978 : decode cL_law 978 = .ok (.ireturn, 1) := by decide +kernel
theorem dL_law_979 : decode cL_law 979 = .ok (.goto 395, 3) := by decide +kernel
theorem dL_law_982 : decode cL_law 982 = .ok (.aload_n 1, 1) := by decide +kernel
theorem dL_law_983 : decode cL_law 983 = .ok (.aload_n 0, 1) := by decide +kernel
theorem dL_law_984 : decode cL_law 984 = .ok (.iload 4, 2) := by decide +kernel
theorem dL_law_986 : decode cL_law 986 = .ok (.iconst 1, 1) := by decide +kernel
theorem dL_law_987 : decode cL_law 987 = .ok (.iadd, 1) := by decide +kernel
theorem dL_law_988 : decode cL_law 988 = .ok (.iaload, 1) := by decide +kernel
theorem dL_law_989 : decode cL_law 989 = .ok (.aload_n 3, 1) := by decide +kernel
theorem dL_law_990 : decode cL_law 990 = .ok (.invokestatic 137, 3) := by decide +kernel
theorem dL_law_993 : decode cL_law 993 = .ok (.istore 5, 2) := by decide +kernel
theorem dL_law_995 : decode cL_law 995 = .ok (.aload_n 2, 1) := by decide +kernel
theorem dL_law_996 : decode cL_law 996 = .ok (.aload_n 0, 1) := by decide +kernel
theorem dL_law_997 : decode cL_law 997 = .ok (.iload 4, 2) := by decide +kernel
theorem dL_law_999 : decode cL_law 999 = .ok (.iconst 1, 1) := by decide +kernel
theorem dL_law_1000 : decode cL_law 1000 = .ok (.iadd, 1) := by decide +kernel
theorem dL_law_1001 : decode cL_law 1001 = .ok (.iaload, 1) := by decide +kernel
theorem dL_law_1002 : decode cL_law 1002 = .ok (.invokevirtual 139, 3) := by decide +kernel
theorem dL_law_1005 : decode cL_law 1005 = .ok (.istore 6, 2) := by decide +kernel
theorem dL_law_1007 : decode cL_law 1007 = .ok (.aload_n 2, 1) := by decide +kernel
theorem dL_law_1008 : decode cL_law 1008 = .ok (.invokevirtual 87, 3) := by decide +kernel
theorem dL_law_1011 : decode cL_law 1011 = .ok (.iload 5, 2) := by decide +kernel
theorem dL_law_1013 : decode cL_law 1013 = .ok (.if_icmp .eq 5, 3) := by decide +kernel
theorem dL_law_1016 : decode cL_law 1016 = .ok (.iconst 0, 1) := by decide +kernel
theorem dL_law_1017 : decode cL_law 1017 = .ok (.ireturn, 1) := by decide +kernel
theorem dL_law_1018 : decode cL_law 1018 = .ok (.iload 5, 2) := by decide +kernel
theorem dL_law_1020 : decode cL_law 1020 = .ok (.ifCond .ne 15, 3) := by decide +kernel
theorem dL_law_1023 : decode cL_law 1023 = .ok (.aload_n 3, 1) := by decide +kernel
theorem dL_law_1024 : decode cL_law 1024 = .ok (.iconst 0, 1) := by decide +kernel
theorem dL_law_1025 : decode cL_law 1025 = .ok (.laload, 1) := by decide +kernel
theorem dL_law_1026 : decode cL_law 1026 = .ok (.iload 6, 2) := by decide +kernel
theorem dL_law_1028 : decode cL_law 1028 = .ok (.i2l, 1) := by decide +kernel
theorem dL_law_1029 : decode cL_law 1029 = .ok (.lcmp, 1) := by decide +kernel
theorem dL_law_1030 : decode cL_law 1030 = .ok (.ifCond .eq 5, 3) := by decide +kernel
theorem dL_law_1033 : decode cL_law 1033 = .ok (.iconst 0, 1) := by decide +kernel
theorem dL_law_1034 : decode cL_law 1034 = .ok (.ireturn, 1) := by decide +kernel
theorem dL_law_1035 : decode cL_law 1035 = .ok (.goto 339, 3) := by decide +kernel
theorem dL_law_1038 : decode cL_law 1038 = .ok (.aload_n 1, 1) := by decide +kernel
theorem dL_law_1039 : decode cL_law 1039 = .ok (.aload_n 0, 1) := by decide +kernel
theorem dL_law_1040 : decode cL_law 1040 = .ok (.iload 4, 2) := by decide +kernel
theorem dL_law_1042 : decode cL_law 1042 = .ok (.iconst 1, 1) := by decide +kernel
theorem dL_law_1043 : decode cL_law 1043 = .ok (.iadd, 1) := by decide +kernel
theorem dL_law_1044 : decode cL_law 1044 = .ok (.iaload, 1) := by decide +kernel
theorem dL_law_1045 : decode cL_law 1045 = .ok (.aload_n 3, 1) := by decide +kernel
theorem dL_law_1046 : decode cL_law 1046 = .ok (.invokestatic 140, 3) := by decide +kernel
theorem dL_law_1049 : decode cL_law 1049 = .ok (.istore 5, 2) := by decide +kernel
theorem dL_law_1051 : decode cL_law 1051 = .ok (.aload_n 2, 1) := by decide +kernel
theorem dL_law_1052 : decode cL_law 1052 = .ok (.aload_n 0, 1) := by decide +kernel
theorem dL_law_1053 : decode cL_law 1053 = .ok (.iload 4, 2) := by decide +kernel
theorem dL_law_1055 : decode cL_law 1055 = .ok (.iconst 1, 1) := by decide +kernel
theorem dL_law_1056 : decode cL_law 1056 = .ok (.iadd, 1) := by decide +kernel
theorem dL_law_1057 : decode cL_law 1057 = .ok (.iaload, 1) := by decide +kernel
theorem dL_law_1058 : decode cL_law 1058 = .ok (.invokevirtual 142, 3) := by decide +kernel
theorem dL_law_1061 : decode cL_law 1061 = .ok (.istore 6, 2) := by decide +kernel
theorem dL_law_1063 : decode cL_law 1063 = .ok (.aload_n 2, 1) := by decide +kernel
theorem dL_law_1064 : decode cL_law 1064 = .ok (.invokevirtual 87, 3) := by decide +kernel
theorem dL_law_1067 : decode cL_law 1067 = .ok (.iload 5, 2) := by decide +kernel
theorem dL_law_1069 : decode cL_law 1069 = .ok (.if_icmp .eq 5, 3) := by decide +kernel
theorem dL_law_1072 : decode cL_law 1072 = .ok (.iconst 0, 1) := by decide +kernel
theorem dL_law_1073 : decode cL_law 1073 = .ok (.ireturn, 1) := by decide +kernel
theorem dL_law_1074 : decode cL_law 1074 = .ok (.iload 5, 2) := by decide +kernel
theorem dL_law_1076 : decode cL_law 1076 = .ok (.ifCond .ne 22, 3) := by decide +kernel
theorem dL_law_1079 : decode cL_law 1079 = .ok (.aload_n 3, 1) := by decide +kernel
theorem dL_law_1080 : decode cL_law 1080 = .ok (.iconst 0, 1) := by decide +kernel
theorem dL_law_1081 : decode cL_law 1081 = .ok (.laload, 1) := by decide +kernel
theorem dL_law_1082 : decode cL_law 1082 = .ok (.iload 6, 2) := by decide +kernel
theorem dL_law_1084 : decode cL_law 1084 = .ok (.ifCond .eq 7, 3) := by decide +kernel
theorem dL_law_1087 : decode cL_law 1087 = .ok (.lconst 1, 1) := by decide +kernel
theorem dL_law_1088 : decode cL_law 1088 = .ok (.goto 4, 3) := by decide +kernel
theorem dL_law_1091 : decode cL_law 1091 = .ok (.lconst 0, 1) := by decide +kernel
theorem dL_law_1092 : decode cL_law 1092 = .ok (.lcmp, 1) := by decide +kernel
theorem dL_law_1093 : decode cL_law 1093 = .ok (.ifCond .eq 5, 3) := by decide +kernel
theorem dL_law_1096 : decode cL_law 1096 = .ok (.iconst 0, 1) := by decide +kernel
theorem dL_law_1097 : decode cL_law 1097 = .ok (.ireturn, 1) := by decide +kernel
theorem dL_law_1098 : decode cL_law 1098 = .ok (.goto 276, 3) := by decide +kernel
theorem dL_law_1101 : decode cL_law 1101 = .ok (.aload_n 1, 1) := by decide +kernel
theorem dL_law_1102 : decode cL_law 1102 = .ok (.aload_n 0, 1) := by decide +kernel
theorem dL_law_1103 : decode cL_law 1103 = .ok (.iload 4, 2) := by decide +kernel
theorem dL_law_1105 : decode cL_law 1105 = .ok (.iconst 1, 1) := by decide +kernel
theorem dL_law_1106 : decode cL_law 1106 = .ok (.iadd, 1) := by decide +kernel
theorem dL_law_1107 : decode cL_law 1107 = .ok (.iaload, 1) := by decide +kernel
theorem dL_law_1108 : decode cL_law 1108 = .ok (.aload_n 0, 1) := by decide +kernel
theorem dL_law_1109 : decode cL_law 1109 = .ok (.iload 4, 2) := by decide +kernel
theorem dL_law_1111 : decode cL_law 1111 = .ok (.iconst 2, 1) := by decide +kernel
theorem dL_law_1112 : decode cL_law 1112 = .ok (.iadd, 1) := by decide +kernel
theorem dL_law_1113 : decode cL_law 1113 = .ok (.iaload, 1) := by decide +kernel
theorem dL_law_1114 : decode cL_law 1114 = .ok (.aload_n 3, 1) := by decide +kernel
theorem dL_law_1115 : decode cL_law 1115 = .ok (.invokestatic 143, 3) := by decide +kernel
theorem dL_law_1118 : decode cL_law 1118 = .ok (.istore 5, 2) := by decide +kernel
theorem dL_law_1120 : decode cL_law 1120 = .ok (.aload_n 2, 1) := by decide +kernel
theorem dL_law_1121 : decode cL_law 1121 = .ok (.aload_n 0, 1) := by decide +kernel
theorem dL_law_1122 : decode cL_law 1122 = .ok (.iload 4, 2) := by decide +kernel
theorem dL_law_1124 : decode cL_law 1124 = .ok (.iconst 1, 1) := by decide +kernel
theorem dL_law_1125 : decode cL_law 1125 = .ok (.iadd, 1) := by decide +kernel
theorem dL_law_1126 : decode cL_law 1126 = .ok (.iaload, 1) := by decide +kernel
theorem dL_law_1127 : decode cL_law 1127 = .ok (.aload_n 0, 1) := by decide +kernel
theorem dL_law_1128 : decode cL_law 1128 = .ok (.iload 4, 2) := by decide +kernel
theorem dL_law_1130 : decode cL_law 1130 = .ok (.iconst 2, 1) := by decide +kernel
theorem dL_law_1131 : decode cL_law 1131 = .ok (.iadd, 1) := by decide +kernel
theorem dL_law_1132 : decode cL_law 1132 = .ok (.iaload, 1) := by decide +kernel
theorem dL_law_1133 : decode cL_law 1133 = .ok (.invokevirtual 145, 3) := by decide +kernel
theorem dL_law_1136 : decode cL_law 1136 = .ok (.istore 6, 2) := by decide +kernel
theorem dL_law_1138 : decode cL_law 1138 = .ok (.aload_n 2, 1) := by decide +kernel
theorem dL_law_1139 : decode cL_law 1139 = .ok (.invokevirtual 87, 3) := by decide +kernel
theorem dL_law_1142 : decode cL_law 1142 = .ok (.iload 5, 2) := by decide +kernel
theorem dL_law_1144 : decode cL_law 1144 = .ok (.if_icmp .eq 5, 3) := by decide +kernel
theorem dL_law_1147 : decode cL_law 1147 = .ok (.iconst 0, 1) := by decide +kernel
theorem dL_law_1148 : decode cL_law 1148 = .ok (.ireturn, 1) := by decide +kernel
theorem dL_law_1149 : decode cL_law 1149 = .ok (.iload 5, 2) := by decide +kernel
theorem dL_law_1151 : decode cL_law 1151 = .ok (.ifCond .ne 15, 3) := by decide +kernel
theorem dL_law_1154 : decode cL_law 1154 = .ok (.aload_n 3, 1) := by decide +kernel
theorem dL_law_1155 : decode cL_law 1155 = .ok (.iconst 0, 1) := by decide +kernel
theorem dL_law_1156 : decode cL_law 1156 = .ok (.laload, 1) := by decide +kernel
theorem dL_law_1157 : decode cL_law 1157 = .ok (.iload 6, 2) := by decide +kernel
theorem dL_law_1159 : decode cL_law 1159 = .ok (.i2l, 1) := by decide +kernel
theorem dL_law_1160 : decode cL_law 1160 = .ok (.lcmp, 1) := by decide +kernel
theorem dL_law_1161 : decode cL_law 1161 = .ok (.ifCond .eq 5, 3) := by decide +kernel
theorem dL_law_1164 : decode cL_law 1164 = .ok (.iconst 0, 1) := by decide +kernel
theorem dL_law_1165 : decode cL_law 1165 = .ok (.ireturn, 1) := by decide +kernel
theorem dL_law_1166 : decode cL_law 1166 = .ok (.goto 208, 3) := by decide +kernel
theorem dL_law_1169 : decode cL_law 1169 = .ok (.aload_n 1, 1) := by decide +kernel
theorem dL_law_1170 : decode cL_law 1170 = .ok (.aload_n 0, 1) := by decide +kernel
theorem dL_law_1171 : decode cL_law 1171 = .ok (.iload 4, 2) := by decide +kernel
theorem dL_law_1173 : decode cL_law 1173 = .ok (.iconst 1, 1) := by decide +kernel
theorem dL_law_1174 : decode cL_law 1174 = .ok (.iadd, 1) := by decide +kernel
theorem dL_law_1175 : decode cL_law 1175 = .ok (.iaload, 1) := by decide +kernel
theorem dL_law_1176 : decode cL_law 1176 = .ok (.aload_n 0, 1) := by decide +kernel
theorem dL_law_1177 : decode cL_law 1177 = .ok (.iload 4, 2) := by decide +kernel
theorem dL_law_1179 : decode cL_law 1179 = .ok (.iconst 2, 1) := by decide +kernel
theorem dL_law_1180 : decode cL_law 1180 = .ok (.iadd, 1) := by decide +kernel
theorem dL_law_1181 : decode cL_law 1181 = .ok (.iaload, 1) := by decide +kernel
theorem dL_law_1182 : decode cL_law 1182 = .ok (.aload_n 0, 1) := by decide +kernel
theorem dL_law_1183 : decode cL_law 1183 = .ok (.iload 4, 2) := by decide +kernel
theorem dL_law_1185 : decode cL_law 1185 = .ok (.iconst 3, 1) := by decide +kernel
theorem dL_law_1186 : decode cL_law 1186 = .ok (.iadd, 1) := by decide +kernel
theorem dL_law_1187 : decode cL_law 1187 = .ok (.iaload, 1) := by decide +kernel
theorem dL_law_1188 : decode cL_law 1188 = .ok (.aload_n 3, 1) := by decide +kernel
theorem dL_law_1189 : decode cL_law 1189 = .ok (.invokestatic 146, 3) := by decide +kernel
theorem dL_law_1192 : decode cL_law 1192 = .ok (.istore 5, 2) := by decide +kernel
theorem dL_law_1194 : decode cL_law 1194 = .ok (.aload_n 2, 1) := by decide +kernel
theorem dL_law_1195 : decode cL_law 1195 = .ok (.aload_n 0, 1) := by decide +kernel
theorem dL_law_1196 : decode cL_law 1196 = .ok (.iload 4, 2) := by decide +kernel
theorem dL_law_1198 : decode cL_law 1198 = .ok (.iconst 1, 1) := by decide +kernel
theorem dL_law_1199 : decode cL_law 1199 = .ok (.iadd, 1) := by decide +kernel
theorem dL_law_1200 : decode cL_law 1200 = .ok (.iaload, 1) := by decide +kernel
theorem dL_law_1201 : decode cL_law 1201 = .ok (.aload_n 0, 1) := by decide +kernel
theorem dL_law_1202 : decode cL_law 1202 = .ok (.iload 4, 2) := by decide +kernel
theorem dL_law_1204 : decode cL_law 1204 = .ok (.iconst 2, 1) := by decide +kernel
theorem dL_law_1205 : decode cL_law 1205 = .ok (.iadd, 1) := by decide +kernel
theorem dL_law_1206 : decode cL_law 1206 = .ok (.iaload, 1) := by decide +kernel
theorem dL_law_1207 : decode cL_law 1207 = .ok (.aload_n 0, 1) := by decide +kernel
theorem dL_law_1208 : decode cL_law 1208 = .ok (.iload 4, 2) := by decide +kernel
theorem dL_law_1210 : decode cL_law 1210 = .ok (.iconst 3, 1) := by decide +kernel
theorem dL_law_1211 : decode cL_law 1211 = .ok (.iadd, 1) := by decide +kernel
theorem dL_law_1212 : decode cL_law 1212 = .ok (.iaload, 1) := by decide +kernel
theorem dL_law_1213 : decode cL_law 1213 = .ok (.invokevirtual 149, 3) := by decide +kernel
theorem dL_law_1216 : decode cL_law 1216 = .ok (.istore 6, 2) := by decide +kernel
theorem dL_law_1218 : decode cL_law 1218 = .ok (.aload_n 2, 1) := by decide +kernel
theorem dL_law_1219 : decode cL_law 1219 = .ok (.invokevirtual 87, 3) := by decide +kernel
theorem dL_law_1222 : decode cL_law 1222 = .ok (.iload 5, 2) := by decide +kernel
theorem dL_law_1224 : decode cL_law 1224 = .ok (.if_icmp .eq 5, 3) := by decide +kernel
theorem dL_law_1227 : decode cL_law 1227 = .ok (.iconst 0, 1) := by decide +kernel
theorem dL_law_1228 : decode cL_law 1228 = .ok (.ireturn, 1) := by decide +kernel
theorem dL_law_1229 : decode cL_law 1229 = .ok (.iload 5, 2) := by decide +kernel
theorem dL_law_1231 : decode cL_law 1231 = .ok (.ifCond .ne 15, 3) := by decide +kernel
theorem dL_law_1234 : decode cL_law 1234 = .ok (.aload_n 3, 1) := by decide +kernel
theorem dL_law_1235 : decode cL_law 1235 = .ok (.iconst 0, 1) := by decide +kernel
theorem dL_law_1236 : decode cL_law 1236 = .ok (.laload, 1) := by decide +kernel
theorem dL_law_1237 : decode cL_law 1237 = .ok (.iload 6, 2) := by decide +kernel
theorem dL_law_1239 : decode cL_law 1239 = .ok (.i2l, 1) := by decide +kernel
theorem dL_law_1240 : decode cL_law 1240 = .ok (.lcmp, 1) := by decide +kernel
theorem dL_law_1241 : decode cL_law 1241 = .ok (.ifCond .eq 5, 3) := by decide +kernel
theorem dL_law_1244 : decode cL_law 1244 = .ok (.iconst 0, 1) := by decide +kernel
theorem dL_law_1245 : decode cL_law 1245 = .ok (.ireturn, 1) := by decide +kernel
theorem dL_law_1246 : decode cL_law 1246 = .ok (.goto 128, 3) := by decide +kernel
theorem dL_law_1249 : decode cL_law 1249 = .ok (.aload_n 1, 1) := by decide +kernel
theorem dL_law_1250 : decode cL_law 1250 = .ok (.aload_n 0, 1) := by decide +kernel
theorem dL_law_1251 : decode cL_law 1251 = .ok (.iload 4, 2) := by decide +kernel
theorem dL_law_1253 : decode cL_law 1253 = .ok (.iconst 1, 1) := by decide +kernel
theorem dL_law_1254 : decode cL_law 1254 = .ok (.iadd, 1) := by decide +kernel
theorem dL_law_1255 : decode cL_law 1255 = .ok (.iaload, 1) := by decide +kernel
theorem dL_law_1256 : decode cL_law 1256 = .ok (.aload_n 3, 1) := by decide +kernel
theorem dL_law_1257 : decode cL_law 1257 = .ok (.invokestatic 150, 3) := by decide +kernel
theorem dL_law_1260 : decode cL_law 1260 = .ok (.istore 5, 2) := by decide +kernel
theorem dL_law_1262 : decode cL_law 1262 = .ok (.aload_n 2, 1) := by decide +kernel
theorem dL_law_1263 : decode cL_law 1263 = .ok (.aload_n 0, 1) := by decide +kernel
theorem dL_law_1264 : decode cL_law 1264 = .ok (.iload 4, 2) := by decide +kernel
theorem dL_law_1266 : decode cL_law 1266 = .ok (.iconst 1, 1) := by decide +kernel
theorem dL_law_1267 : decode cL_law 1267 = .ok (.iadd, 1) := by decide +kernel
theorem dL_law_1268 : decode cL_law 1268 = .ok (.iaload, 1) := by decide +kernel
theorem dL_law_1269 : decode cL_law 1269 = .ok (.invokevirtual 152, 3) := by decide +kernel
theorem dL_law_1272 : decode cL_law 1272 = .ok (.istore 6, 2) := by decide +kernel
theorem dL_law_1274 : decode cL_law 1274 = .ok (.aload_n 2, 1) := by decide +kernel
theorem dL_law_1275 : decode cL_law 1275 = .ok (.invokevirtual 87, 3) := by decide +kernel
theorem dL_law_1278 : decode cL_law 1278 = .ok (.iload 5, 2) := by decide +kernel
theorem dL_law_1280 : decode cL_law 1280 = .ok (.if_icmp .eq 5, 3) := by decide +kernel
theorem dL_law_1283 : decode cL_law 1283 = .ok (.iconst 0, 1) := by decide +kernel
theorem dL_law_1284 : decode cL_law 1284 = .ok (.ireturn, 1) := by decide +kernel
theorem dL_law_1285 : decode cL_law 1285 = .ok (.iload 5, 2) := by decide +kernel
theorem dL_law_1287 : decode cL_law 1287 = .ok (.ifCond .ne 15, 3) := by decide +kernel
theorem dL_law_1290 : decode cL_law 1290 = .ok (.aload_n 3, 1) := by decide +kernel
theorem dL_law_1291 : decode cL_law 1291 = .ok (.iconst 0, 1) := by decide +kernel
theorem dL_law_1292 : decode cL_law 1292 = .ok (.laload, 1) := by decide +kernel
theorem dL_law_1293 : decode cL_law 1293 = .ok (.iload 6, 2) := by decide +kernel
theorem dL_law_1295 : decode cL_law 1295 = .ok (.i2l, 1) := by decide +kernel
theorem dL_law_1296 : decode cL_law 1296 = .ok (.lcmp, 1) := by decide +kernel
theorem dL_law_1297 : decode cL_law 1297 = .ok (.ifCond .eq 5, 3) := by decide +kernel
theorem dL_law_1300 : decode cL_law 1300 = .ok (.iconst 0, 1) := by decide +kernel
theorem dL_law_1301 : decode cL_law 1301 = .ok (.ireturn, 1) := by decide +kernel
theorem dL_law_1302 : decode cL_law 1302 = .ok (.goto 72, 3) := by decide +kernel
theorem dL_law_1305 : decode cL_law 1305 = .ok (.aload_n 1, 1) := by decide +kernel
theorem dL_law_1306 : decode cL_law 1306 = .ok (.aload_n 0, 1) := by decide +kernel
theorem dL_law_1307 : decode cL_law 1307 = .ok (.iload 4, 2) := by decide +kernel
theorem dL_law_1309 : decode cL_law 1309 = .ok (.iconst 1, 1) := by decide +kernel
theorem dL_law_1310 : decode cL_law 1310 = .ok (.iadd, 1) := by decide +kernel
theorem dL_law_1311 : decode cL_law 1311 = .ok (.iaload, 1) := by decide +kernel
theorem dL_law_1312 : decode cL_law 1312 = .ok (.aload_n 3, 1) := by decide +kernel
theorem dL_law_1313 : decode cL_law 1313 = .ok (.invokestatic 153, 3) := by decide +kernel
theorem dL_law_1316 : decode cL_law 1316 = .ok (.istore 5, 2) := by decide +kernel
theorem dL_law_1318 : decode cL_law 1318 = .ok (.aload_n 2, 1) := by decide +kernel
theorem dL_law_1319 : decode cL_law 1319 = .ok (.aload_n 0, 1) := by decide +kernel
theorem dL_law_1320 : decode cL_law 1320 = .ok (.iload 4, 2) := by decide +kernel
theorem dL_law_1322 : decode cL_law 1322 = .ok (.iconst 1, 1) := by decide +kernel
theorem dL_law_1323 : decode cL_law 1323 = .ok (.iadd, 1) := by decide +kernel
theorem dL_law_1324 : decode cL_law 1324 = .ok (.iaload, 1) := by decide +kernel
theorem dL_law_1325 : decode cL_law 1325 = .ok (.invokevirtual 155, 3) := by decide +kernel
theorem dL_law_1328 : decode cL_law 1328 = .ok (.istore 6, 2) := by decide +kernel
theorem dL_law_1330 : decode cL_law 1330 = .ok (.aload_n 2, 1) := by decide +kernel
theorem dL_law_1331 : decode cL_law 1331 = .ok (.invokevirtual 87, 3) := by decide +kernel
theorem dL_law_1334 : decode cL_law 1334 = .ok (.iload 5, 2) := by decide +kernel
theorem dL_law_1336 : decode cL_law 1336 = .ok (.if_icmp .eq 5, 3) := by decide +kernel
theorem dL_law_1339 : decode cL_law 1339 = .ok (.iconst 0, 1) := by decide +kernel
theorem dL_law_1340 : decode cL_law 1340 = .ok (.ireturn, 1) := by decide +kernel
theorem dL_law_1341 : decode cL_law 1341 = .ok (.iload 5, 2) := by decide +kernel
theorem dL_law_1343 : decode cL_law 1343 = .ok (.ifCond .ne 15, 3) := by decide +kernel
theorem dL_law_1346 : decode cL_law 1346 = .ok (.aload_n 3, 1) := by decide +kernel
theorem dL_law_1347 : decode cL_law 1347 = .ok (.iconst 0, 1) := by decide +kernel
theorem dL_law_1348 : decode cL_law 1348 = .ok (.laload, 1) := by decide +kernel
theorem dL_law_1349 : decode cL_law 1349 = .ok (.iload 6, 2) := by decide +kernel
theorem dL_law_1351 : decode cL_law 1351 = .ok (.i2l, 1) := by decide +kernel
theorem dL_law_1352 : decode cL_law 1352 = .ok (.lcmp, 1) := by decide +kernel
theorem dL_law_1353 : decode cL_law 1353 = .ok (.ifCond .eq 5, 3) := by decide +kernel
theorem dL_law_1356 : decode cL_law 1356 = .ok (.iconst 0, 1) := by decide +kernel
theorem dL_law_1357 : decode cL_law 1357 = .ok (.ireturn, 1) := by decide +kernel
theorem dL_law_1358 : decode cL_law 1358 = .ok (.goto 16, 3) := by decide +kernel
theorem dL_law_1361 : decode cL_law 1361 = .ok (.aload_n 1, 1) := by decide +kernel
theorem dL_law_1362 : decode cL_law 1362 = .ok (.invokevirtual 156, 3) := by decide +kernel
theorem dL_law_1365 : decode cL_law 1365 = .ok (.aload_n 2, 1) := by decide +kernel
theorem dL_law_1366 : decode cL_law 1366 = .ok (.invokevirtual 159, 3) := by decide +kernel
theorem dL_law_1369 : decode cL_law 1369 = .ok (.if_icmp .eq 5, 3) := by decide +kernel
theorem dL_law_1372 : decode cL_law 1372 = .ok (.iconst 0, 1) := by decide +kernel
theorem dL_law_1373 : decode cL_law 1373 = .ok (.ireturn, 1) := by decide +kernel
theorem dL_law_1374 : decode cL_law 1374 = .ok (.iinc 4 6, 3) := by decide +kernel
theorem dL_law_1377 : decode cL_law 1377 = .ok (.goto (-1354), 3) := by decide +kernel
theorem dL_law_1380 : decode cL_law 1380 = .ok (.iconst 1, 1) := by decide +kernel
theorem dL_law_1381 : decode cL_law 1381 = .ok (.ireturn, 1) := by decide +kernel
theorem inlX0 : ∀ w ∈ wsX00, w ∈ wsL_law := fun _ h => List.mem_append_left _ (List.mem_append_left _ (List.mem_append_left _ (List.mem_append_left _ (List.mem_append_left _ (List.mem_append_left _ (List.mem_append_left _ (List.mem_append_left _ (List.mem_append_right _ h))))))))
theorem inX0 : ∀ w ∈ wsX00, w ∈ lw_tbl := fun w h => wsL_law_in w (inlX0 w h)
theorem inlX1 : ∀ w ∈ wsX10, w ∈ wsL_law := fun _ h => List.mem_append_left _ (List.mem_append_left _ (List.mem_append_left _ (List.mem_append_left _ (List.mem_append_left _ (List.mem_append_left _ (List.mem_append_right _ h))))))
theorem inX1 : ∀ w ∈ wsX10, w ∈ lw_tbl := fun w h => wsL_law_in w (inlX1 w h)
theorem inlX2 : ∀ w ∈ wsX20, w ∈ wsL_law := fun _ h => List.mem_append_left _ (List.mem_append_left _ (List.mem_append_left _ (List.mem_append_left _ (List.mem_append_left _ (List.mem_append_left _ (List.mem_append_left _ (List.mem_append_right _ h)))))))
theorem inX2 : ∀ w ∈ wsX20, w ∈ lw_tbl := fun w h => wsL_law_in w (inlX2 w h)
theorem inlX3 : ∀ w ∈ wsX30, w ∈ wsL_law := fun _ h => List.mem_append_left _ (List.mem_append_left _ (List.mem_append_left _ (List.mem_append_left _ (List.mem_append_right _ h))))
theorem inX3 : ∀ w ∈ wsX30, w ∈ lw_tbl := fun w h => wsL_law_in w (inlX3 w h)
theorem inlX4 : ∀ w ∈ wsX40, w ∈ wsL_law := fun _ h => List.mem_append_left _ (List.mem_append_left _ (List.mem_append_left _ (List.mem_append_left _ (List.mem_append_left _ (List.mem_append_right _ h)))))
theorem inX4 : ∀ w ∈ wsX40, w ∈ lw_tbl := fun w h => wsL_law_in w (inlX4 w h)
theorem inlX5 : ∀ w ∈ wsX50, w ∈ wsL_law := fun _ h => List.mem_append_left _ (List.mem_append_left _ (List.mem_append_left _ (List.mem_append_left _ (List.mem_append_left _ (List.mem_append_left _ (List.mem_append_left _ (List.mem_append_left _ (List.mem_append_left _ (List.mem_append_left _ (List.mem_append_right _ h))))))))))
theorem inX5 : ∀ w ∈ wsX50, w ∈ lw_tbl := fun w h => wsL_law_in w (inlX5 w h)
theorem inlX6 : ∀ w ∈ wsX60, w ∈ wsL_law := fun _ h => List.mem_append_left _ (List.mem_append_left _ (List.mem_append_left _ (List.mem_append_left _ (List.mem_append_left _ (List.mem_append_left _ (List.mem_append_left _ (List.mem_append_left _ (List.mem_append_left _ (List.mem_append_right _ h)))))))))
theorem inX6 : ∀ w ∈ wsX60, w ∈ lw_tbl := fun w h => wsL_law_in w (inlX6 w h)
theorem inJ9 : ∀ w ∈ wsJ90, w ∈ lw_tbl := by decide +kernel
theorem inJ0 : ∀ w ∈ wsJ00, w ∈ lw_tbl := by decide +kernel
