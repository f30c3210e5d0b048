section
-- ===== PART A: goes FIRST, ahead of the names: the tables' words, and 'selects' of the private methods out of them =====
/-- a private method of a class that the tables say can be made, by its rows of tables_1 -/
def lw_okq (q : MethodName × Nat) : Prop := (q.1.cls ≠ "java/lang/invoke/MethodHandle" ∧ q.1.cls ≠ "java/lang/invoke/VarHandle") ∧ Cond.instantiable q.1.cls q.2 ∈ tables_1 ∧ Cond.privateMethod q.1 ∈ tables_1 ∧ Cond.instanceMethod q.1 ∈ tables_1
theorem lw_p0 : lw_okq (⟨"AuditoriumKeys$Line", "personAt", "(I)I"⟩, 1) := ⟨⟨by decide +kernel, by decide +kernel⟩, List.mem_of_getElem? (i := 45) (by decide +kernel), List.mem_of_getElem? (i := 170) (by decide +kernel), List.mem_of_getElem? (i := 171) (by decide +kernel)⟩
theorem lw_p1 : lw_okq (⟨"AuditoriumKeys$Line", "isIn", "(I)Z"⟩, 1) := ⟨⟨by decide +kernel, by decide +kernel⟩, List.mem_of_getElem? (i := 45) (by decide +kernel), List.mem_of_getElem? (i := 174) (by decide +kernel), List.mem_of_getElem? (i := 175) (by decide +kernel)⟩
theorem lw_p2 : lw_okq (⟨"AuditoriumKeys$Line", "placeOf", "(I)I"⟩, 1) := ⟨⟨by decide +kernel, by decide +kernel⟩, List.mem_of_getElem? (i := 45) (by decide +kernel), List.mem_of_getElem? (i := 178) (by decide +kernel), List.mem_of_getElem? (i := 179) (by decide +kernel)⟩
theorem lw_p3 : lw_okq (⟨"AuditoriumKeys$Line", "rank", "(I)I"⟩, 1) := ⟨⟨by decide +kernel, by decide +kernel⟩, List.mem_of_getElem? (i := 45) (by decide +kernel), List.mem_of_getElem? (i := 182) (by decide +kernel), List.mem_of_getElem? (i := 183) (by decide +kernel)⟩
theorem lw_p4 : lw_okq (⟨"java/lang/Throwable", "fillInStackTrace", "(I)Ljava/lang/Throwable;"⟩, 6) := ⟨⟨by decide +kernel, by decide +kernel⟩, List.mem_of_getElem? (i := 237) (by decide +kernel), List.mem_of_getElem? (i := 235) (by decide +kernel), List.mem_of_getElem? (i := 236) (by decide +kernel)⟩
theorem lw_p5 : lw_okq (⟨"AuditoriumKeys$Holds", "isThere", "(I)Z"⟩, 7) := ⟨⟨by decide +kernel, by decide +kernel⟩, List.mem_of_getElem? (i := 56) (by decide +kernel), List.mem_of_getElem? (i := 283) (by decide +kernel), List.mem_of_getElem? (i := 284) (by decide +kernel)⟩
theorem lw_p6 : lw_okq (⟨"AuditoriumKeys", "giveBack", "(I)I"⟩, 9) := ⟨⟨by decide +kernel, by decide +kernel⟩, List.mem_of_getElem? (i := 16) (by decide +kernel), List.mem_of_getElem? (i := 287) (by decide +kernel), List.mem_of_getElem? (i := 288) (by decide +kernel)⟩
theorem lw_p7 : lw_okq (⟨"AuditoriumKeys$Codes", "tally", "(III)V"⟩, 4) := ⟨⟨by decide +kernel, by decide +kernel⟩, List.mem_of_getElem? (i := 24) (by decide +kernel), List.mem_of_getElem? (i := 291) (by decide +kernel), List.mem_of_getElem? (i := 292) (by decide +kernel)⟩
theorem lw_p8 : lw_okq (⟨"AuditoriumKeys$Seats", "unlock", "(II)V"⟩, 5) := ⟨⟨by decide +kernel, by decide +kernel⟩, List.mem_of_getElem? (i := 89) (by decide +kernel), List.mem_of_getElem? (i := 295) (by decide +kernel), List.mem_of_getElem? (i := 296) (by decide +kernel)⟩
theorem lw_p9 : lw_okq (⟨"AuditoriumKeys$Holds", "end", "(I)V"⟩, 7) := ⟨⟨by decide +kernel, by decide +kernel⟩, List.mem_of_getElem? (i := 56) (by decide +kernel), List.mem_of_getElem? (i := 299) (by decide +kernel), List.mem_of_getElem? (i := 300) (by decide +kernel)⟩
theorem lw_p10 : lw_okq (⟨"AuditoriumKeys$Codes", "add", "(II)I"⟩, 4) := ⟨⟨by decide +kernel, by decide +kernel⟩, List.mem_of_getElem? (i := 24) (by decide +kernel), List.mem_of_getElem? (i := 321) (by decide +kernel), List.mem_of_getElem? (i := 322) (by decide +kernel)⟩
theorem lw_p11 : lw_okq (⟨"AuditoriumKeys", "needCode", "(I)V"⟩, 9) := ⟨⟨by decide +kernel, by decide +kernel⟩, List.mem_of_getElem? (i := 16) (by decide +kernel), List.mem_of_getElem? (i := 333) (by decide +kernel), List.mem_of_getElem? (i := 334) (by decide +kernel)⟩
theorem lw_p12 : lw_okq (⟨"AuditoriumKeys$Codes", "seatsOf", "(II)I"⟩, 4) := ⟨⟨by decide +kernel, by decide +kernel⟩, List.mem_of_getElem? (i := 24) (by decide +kernel), List.mem_of_getElem? (i := 357) (by decide +kernel), List.mem_of_getElem? (i := 358) (by decide +kernel)⟩
theorem lw_p13 : lw_okq (⟨"AuditoriumKeys$Line", "enter", "(II)V"⟩, 1) := ⟨⟨by decide +kernel, by decide +kernel⟩, List.mem_of_getElem? (i := 45) (by decide +kernel), List.mem_of_getElem? (i := 371) (by decide +kernel), List.mem_of_getElem? (i := 372) (by decide +kernel)⟩
theorem lw_p14 : lw_okq (⟨"AuditoriumKeys$Line", "length", "()I"⟩, 1) := ⟨⟨by decide +kernel, by decide +kernel⟩, List.mem_of_getElem? (i := 45) (by decide +kernel), List.mem_of_getElem? (i := 375) (by decide +kernel), List.mem_of_getElem? (i := 376) (by decide +kernel)⟩
theorem lw_p15 : lw_okq (⟨"AuditoriumKeys$Line", "leave", "(I)V"⟩, 1) := ⟨⟨by decide +kernel, by decide +kernel⟩, List.mem_of_getElem? (i := 45) (by decide +kernel), List.mem_of_getElem? (i := 387) (by decide +kernel), List.mem_of_getElem? (i := 388) (by decide +kernel)⟩
def lw_privs_1 : List (MethodName × Nat) := [(⟨"AuditoriumKeys$Line", "personAt", "(I)I"⟩, 1), (⟨"AuditoriumKeys$Line", "isIn", "(I)Z"⟩, 1), (⟨"AuditoriumKeys$Line", "placeOf", "(I)I"⟩, 1), (⟨"AuditoriumKeys$Line", "rank", "(I)I"⟩, 1), (⟨"java/lang/Throwable", "fillInStackTrace", "(I)Ljava/lang/Throwable;"⟩, 6), (⟨"AuditoriumKeys$Holds", "isThere", "(I)Z"⟩, 7), (⟨"AuditoriumKeys", "giveBack", "(I)I"⟩, 9), (⟨"AuditoriumKeys$Codes", "tally", "(III)V"⟩, 4), (⟨"AuditoriumKeys$Seats", "unlock", "(II)V"⟩, 5), (⟨"AuditoriumKeys$Holds", "end", "(I)V"⟩, 7), (⟨"AuditoriumKeys$Codes", "add", "(II)I"⟩, 4), (⟨"AuditoriumKeys", "needCode", "(I)V"⟩, 9), (⟨"AuditoriumKeys$Codes", "seatsOf", "(II)I"⟩, 4), (⟨"AuditoriumKeys$Line", "enter", "(II)V"⟩, 1), (⟨"AuditoriumKeys$Line", "length", "()I"⟩, 1), (⟨"AuditoriumKeys$Line", "leave", "(I)V"⟩, 1)]
theorem lw_r1 : ∀ q ∈ lw_privs_1, lw_okq q := List.forall_mem_cons.mpr ⟨lw_p0, List.forall_mem_cons.mpr ⟨lw_p1, List.forall_mem_cons.mpr ⟨lw_p2, List.forall_mem_cons.mpr ⟨lw_p3, List.forall_mem_cons.mpr ⟨lw_p4, List.forall_mem_cons.mpr ⟨lw_p5, List.forall_mem_cons.mpr ⟨lw_p6, List.forall_mem_cons.mpr ⟨lw_p7, List.forall_mem_cons.mpr ⟨lw_p8, List.forall_mem_cons.mpr ⟨lw_p9, List.forall_mem_cons.mpr ⟨lw_p10, List.forall_mem_cons.mpr ⟨lw_p11, List.forall_mem_cons.mpr ⟨lw_p12, List.forall_mem_cons.mpr ⟨lw_p13, List.forall_mem_cons.mpr ⟨lw_p14, List.forall_mem_cons.mpr ⟨lw_p15, fun _ h => absurd h List.not_mem_nil⟩⟩⟩⟩⟩⟩⟩⟩⟩⟩⟩⟩⟩⟩⟩⟩
theorem lw_p16 : lw_okq (⟨"AuditoriumKeys", "needSeatsFor", "(IIII)V"⟩, 9) := ⟨⟨by decide +kernel, by decide +kernel⟩, List.mem_of_getElem? (i := 16) (by decide +kernel), List.mem_of_getElem? (i := 414) (by decide +kernel), List.mem_of_getElem? (i := 415) (by decide +kernel)⟩
theorem lw_p17 : lw_okq (⟨"AuditoriumKeys$Seats", "isOpen", "(II)Z"⟩, 5) := ⟨⟨by decide +kernel, by decide +kernel⟩, List.mem_of_getElem? (i := 89) (by decide +kernel), List.mem_of_getElem? (i := 418) (by decide +kernel), List.mem_of_getElem? (i := 419) (by decide +kernel)⟩
theorem lw_p18 : lw_okq (⟨"AuditoriumKeys$Seats", "stateOf", "(I)I"⟩, 5) := ⟨⟨by decide +kernel, by decide +kernel⟩, List.mem_of_getElem? (i := 89) (by decide +kernel), List.mem_of_getElem? (i := 422) (by decide +kernel), List.mem_of_getElem? (i := 423) (by decide +kernel)⟩
theorem lw_p19 : lw_okq (⟨"AuditoriumKeys$Seats", "leavesSingle", "(III)Z"⟩, 5) := ⟨⟨by decide +kernel, by decide +kernel⟩, List.mem_of_getElem? (i := 89) (by decide +kernel), List.mem_of_getElem? (i := 428) (by decide +kernel), List.mem_of_getElem? (i := 429) (by decide +kernel)⟩
theorem lw_p20 : lw_okq (⟨"AuditoriumKeys", "needRightFor", "(III)V"⟩, 9) := ⟨⟨by decide +kernel, by decide +kernel⟩, List.mem_of_getElem? (i := 16) (by decide +kernel), List.mem_of_getElem? (i := 434) (by decide +kernel), List.mem_of_getElem? (i := 435) (by decide +kernel)⟩
theorem lw_p21 : lw_okq (⟨"AuditoriumKeys$Codes", "haveRoom", "(III)Z"⟩, 4) := ⟨⟨by decide +kernel, by decide +kernel⟩, List.mem_of_getElem? (i := 24) (by decide +kernel), List.mem_of_getElem? (i := 439) (by decide +kernel), List.mem_of_getElem? (i := 440) (by decide +kernel)⟩
theorem lw_p22 : lw_okq (⟨"AuditoriumKeys$Seats", "lock", "(II)I"⟩, 5) := ⟨⟨by decide +kernel, by decide +kernel⟩, List.mem_of_getElem? (i := 89) (by decide +kernel), List.mem_of_getElem? (i := 445) (by decide +kernel), List.mem_of_getElem? (i := 446) (by decide +kernel)⟩
theorem lw_p23 : lw_okq (⟨"AuditoriumKeys$Holds", "make", "(IIIIII)V"⟩, 7) := ⟨⟨by decide +kernel, by decide +kernel⟩, List.mem_of_getElem? (i := 56) (by decide +kernel), List.mem_of_getElem? (i := 449) (by decide +kernel), List.mem_of_getElem? (i := 450) (by decide +kernel)⟩
theorem lw_p24 : lw_okq (⟨"AuditoriumKeys", "needHold", "(I)V"⟩, 9) := ⟨⟨by decide +kernel, by decide +kernel⟩, List.mem_of_getElem? (i := 16) (by decide +kernel), List.mem_of_getElem? (i := 461) (by decide +kernel), List.mem_of_getElem? (i := 462) (by decide +kernel)⟩
theorem lw_p25 : lw_okq (⟨"AuditoriumKeys$Holds", "left", "(I)I"⟩, 7) := ⟨⟨by decide +kernel, by decide +kernel⟩, List.mem_of_getElem? (i := 56) (by decide +kernel), List.mem_of_getElem? (i := 466) (by decide +kernel), List.mem_of_getElem? (i := 467) (by decide +kernel)⟩
theorem lw_p26 : lw_okq (⟨"AuditoriumKeys", "sell", "(I)V"⟩, 9) := ⟨⟨by decide +kernel, by decide +kernel⟩, List.mem_of_getElem? (i := 16) (by decide +kernel), List.mem_of_getElem? (i := 471) (by decide +kernel), List.mem_of_getElem? (i := 472) (by decide +kernel)⟩
theorem lw_p27 : lw_okq (⟨"AuditoriumKeys$Seats", "giveTo", "(II)V"⟩, 5) := ⟨⟨by decide +kernel, by decide +kernel⟩, List.mem_of_getElem? (i := 89) (by decide +kernel), List.mem_of_getElem? (i := 475) (by decide +kernel), List.mem_of_getElem? (i := 476) (by decide +kernel)⟩
theorem lw_p28 : lw_okq (⟨"AuditoriumKeys$Sales", "add", "(III)V"⟩, 4) := ⟨⟨by decide +kernel, by decide +kernel⟩, List.mem_of_getElem? (i := 115) (by decide +kernel), List.mem_of_getElem? (i := 479) (by decide +kernel), List.mem_of_getElem? (i := 480) (by decide +kernel)⟩
theorem lw_p29 : lw_okq (⟨"AuditoriumKeys$Holds", "prolong", "(I)V"⟩, 7) := ⟨⟨by decide +kernel, by decide +kernel⟩, List.mem_of_getElem? (i := 56) (by decide +kernel), List.mem_of_getElem? (i := 483) (by decide +kernel), List.mem_of_getElem? (i := 484) (by decide +kernel)⟩
theorem lw_p30 : lw_okq (⟨"AuditoriumKeys$Sales", "lastBuyerOf", "(I)I"⟩, 4) := ⟨⟨by decide +kernel, by decide +kernel⟩, List.mem_of_getElem? (i := 115) (by decide +kernel), List.mem_of_getElem? (i := 530) (by decide +kernel), List.mem_of_getElem? (i := 531) (by decide +kernel)⟩
theorem lw_p31 : lw_okq (⟨"AuditoriumKeys$Seats", "ceilingOf", "(I)I"⟩, 5) := ⟨⟨by decide +kernel, by decide +kernel⟩, List.mem_of_getElem? (i := 89) (by decide +kernel), List.mem_of_getElem? (i := 558) (by decide +kernel), List.mem_of_getElem? (i := 559) (by decide +kernel)⟩
def lw_privs_2 : List (MethodName × Nat) := [(⟨"AuditoriumKeys", "needSeatsFor", "(IIII)V"⟩, 9), (⟨"AuditoriumKeys$Seats", "isOpen", "(II)Z"⟩, 5), (⟨"AuditoriumKeys$Seats", "stateOf", "(I)I"⟩, 5), (⟨"AuditoriumKeys$Seats", "leavesSingle", "(III)Z"⟩, 5), (⟨"AuditoriumKeys", "needRightFor", "(III)V"⟩, 9), (⟨"AuditoriumKeys$Codes", "haveRoom", "(III)Z"⟩, 4), (⟨"AuditoriumKeys$Seats", "lock", "(II)I"⟩, 5), (⟨"AuditoriumKeys$Holds", "make", "(IIIIII)V"⟩, 7), (⟨"AuditoriumKeys", "needHold", "(I)V"⟩, 9), (⟨"AuditoriumKeys$Holds", "left", "(I)I"⟩, 7), (⟨"AuditoriumKeys", "sell", "(I)V"⟩, 9), (⟨"AuditoriumKeys$Seats", "giveTo", "(II)V"⟩, 5), (⟨"AuditoriumKeys$Sales", "add", "(III)V"⟩, 4), (⟨"AuditoriumKeys$Holds", "prolong", "(I)V"⟩, 7), (⟨"AuditoriumKeys$Sales", "lastBuyerOf", "(I)I"⟩, 4), (⟨"AuditoriumKeys$Seats", "ceilingOf", "(I)I"⟩, 5)]
theorem lw_r2 : ∀ q ∈ lw_privs_2, lw_okq q := List.forall_mem_cons.mpr ⟨lw_p16, List.forall_mem_cons.mpr ⟨lw_p17, List.forall_mem_cons.mpr ⟨lw_p18, List.forall_mem_cons.mpr ⟨lw_p19, List.forall_mem_cons.mpr ⟨lw_p20, List.forall_mem_cons.mpr ⟨lw_p21, List.forall_mem_cons.mpr ⟨lw_p22, List.forall_mem_cons.mpr ⟨lw_p23, List.forall_mem_cons.mpr ⟨lw_p24, List.forall_mem_cons.mpr ⟨lw_p25, List.forall_mem_cons.mpr ⟨lw_p26, List.forall_mem_cons.mpr ⟨lw_p27, List.forall_mem_cons.mpr ⟨lw_p28, List.forall_mem_cons.mpr ⟨lw_p29, List.forall_mem_cons.mpr ⟨lw_p30, List.forall_mem_cons.mpr ⟨lw_p31, fun _ h => absurd h List.not_mem_nil⟩⟩⟩⟩⟩⟩⟩⟩⟩⟩⟩⟩⟩⟩⟩⟩
theorem lw_p32 : lw_okq (⟨"AuditoriumKeys$Seats", "putUp", "(II)V"⟩, 5) := ⟨⟨by decide +kernel, by decide +kernel⟩, List.mem_of_getElem? (i := 89) (by decide +kernel), List.mem_of_getElem? (i := 563) (by decide +kernel), List.mem_of_getElem? (i := 564) (by decide +kernel)⟩
theorem lw_p33 : lw_okq (⟨"AuditoriumKeysModel", "goesWell", "(I)Z"⟩, 21) := ⟨⟨by decide +kernel, by decide +kernel⟩, List.mem_of_getElem? (i := 582) (by decide +kernel), List.mem_of_getElem? (i := 663) (by decide +kernel), List.mem_of_getElem? (i := 664) (by decide +kernel)⟩
theorem lw_p34 : lw_okq (⟨"AuditoriumKeysModel", "dropHold", "(I)V"⟩, 21) := ⟨⟨by decide +kernel, by decide +kernel⟩, List.mem_of_getElem? (i := 582) (by decide +kernel), List.mem_of_getElem? (i := 667) (by decide +kernel), List.mem_of_getElem? (i := 668) (by decide +kernel)⟩
theorem lw_p35 : lw_okq (⟨"AuditoriumKeysModel", "isCode", "(I)Z"⟩, 21) := ⟨⟨by decide +kernel, by decide +kernel⟩, List.mem_of_getElem? (i := 582) (by decide +kernel), List.mem_of_getElem? (i := 687) (by decide +kernel), List.mem_of_getElem? (i := 688) (by decide +kernel)⟩
theorem lw_p36 : lw_okq (⟨"AuditoriumKeysModel", "usedBy", "(II)I"⟩, 21) := ⟨⟨by decide +kernel, by decide +kernel⟩, List.mem_of_getElem? (i := 582) (by decide +kernel), List.mem_of_getElem? (i := 694) (by decide +kernel), List.mem_of_getElem? (i := 695) (by decide +kernel)⟩
theorem lw_p37 : lw_okq (⟨"AuditoriumKeysModel", "countQueue", "()I"⟩, 21) := ⟨⟨by decide +kernel, by decide +kernel⟩, List.mem_of_getElem? (i := 582) (by decide +kernel), List.mem_of_getElem? (i := 702) (by decide +kernel), List.mem_of_getElem? (i := 703) (by decide +kernel)⟩
theorem lw_p38 : lw_okq (⟨"AuditoriumKeysModel", "placeAt", "(I)I"⟩, 21) := ⟨⟨by decide +kernel, by decide +kernel⟩, List.mem_of_getElem? (i := 582) (by decide +kernel), List.mem_of_getElem? (i := 714) (by decide +kernel), List.mem_of_getElem? (i := 715) (by decide +kernel)⟩
theorem lw_p39 : lw_okq (⟨"AuditoriumKeysModel", "isAhead", "(II)Z"⟩, 21) := ⟨⟨by decide +kernel, by decide +kernel⟩, List.mem_of_getElem? (i := 582) (by decide +kernel), List.mem_of_getElem? (i := 718) (by decide +kernel), List.mem_of_getElem? (i := 719) (by decide +kernel)⟩
theorem lw_p40 : lw_okq (⟨"AuditoriumKeysModel", "servedNow", "()I"⟩, 21) := ⟨⟨by decide +kernel, by decide +kernel⟩, List.mem_of_getElem? (i := 582) (by decide +kernel), List.mem_of_getElem? (i := 726) (by decide +kernel), List.mem_of_getElem? (i := 727) (by decide +kernel)⟩
theorem lw_p41 : lw_okq (⟨"AuditoriumKeysModel", "areOpen", "(III)Z"⟩, 21) := ⟨⟨by decide +kernel, by decide +kernel⟩, List.mem_of_getElem? (i := 582) (by decide +kernel), List.mem_of_getElem? (i := 737) (by decide +kernel), List.mem_of_getElem? (i := 738) (by decide +kernel)⟩
theorem lw_p42 : lw_okq (⟨"AuditoriumKeysModel", "isOpen", "(I)Z"⟩, 21) := ⟨⟨by decide +kernel, by decide +kernel⟩, List.mem_of_getElem? (i := 582) (by decide +kernel), List.mem_of_getElem? (i := 741) (by decide +kernel), List.mem_of_getElem? (i := 742) (by decide +kernel)⟩
theorem lw_p43 : lw_okq (⟨"AuditoriumKeysModel", "isHeld", "(I)Z"⟩, 21) := ⟨⟨by decide +kernel, by decide +kernel⟩, List.mem_of_getElem? (i := 582) (by decide +kernel), List.mem_of_getElem? (i := 745) (by decide +kernel), List.mem_of_getElem? (i := 746) (by decide +kernel)⟩
theorem lw_p44 : lw_okq (⟨"AuditoriumKeysModel", "isWithin", "(III)Z"⟩, 21) := ⟨⟨by decide +kernel, by decide +kernel⟩, List.mem_of_getElem? (i := 582) (by decide +kernel), List.mem_of_getElem? (i := 749) (by decide +kernel), List.mem_of_getElem? (i := 750) (by decide +kernel)⟩
theorem lw_p45 : lw_okq (⟨"AuditoriumKeysModel", "leavesSingle", "(III)Z"⟩, 21) := ⟨⟨by decide +kernel, by decide +kernel⟩, List.mem_of_getElem? (i := 582) (by decide +kernel), List.mem_of_getElem? (i := 753) (by decide +kernel), List.mem_of_getElem? (i := 754) (by decide +kernel)⟩
theorem lw_p46 : lw_okq (⟨"AuditoriumKeysModel", "isAlone", "(I)Z"⟩, 21) := ⟨⟨by decide +kernel, by decide +kernel⟩, List.mem_of_getElem? (i := 582) (by decide +kernel), List.mem_of_getElem? (i := 757) (by decide +kernel), List.mem_of_getElem? (i := 758) (by decide +kernel)⟩
theorem lw_p47 : lw_okq (⟨"AuditoriumKeysModel", "priceOf", "(I)I"⟩, 21) := ⟨⟨by decide +kernel, by decide +kernel⟩, List.mem_of_getElem? (i := 582) (by decide +kernel), List.mem_of_getElem? (i := 761) (by decide +kernel), List.mem_of_getElem? (i := 762) (by decide +kernel)⟩
def lw_privs_3 : List (MethodName × Nat) := [(⟨"AuditoriumKeys$Seats", "putUp", "(II)V"⟩, 5), (⟨"AuditoriumKeysModel", "goesWell", "(I)Z"⟩, 21), (⟨"AuditoriumKeysModel", "dropHold", "(I)V"⟩, 21), (⟨"AuditoriumKeysModel", "isCode", "(I)Z"⟩, 21), (⟨"AuditoriumKeysModel", "usedBy", "(II)I"⟩, 21), (⟨"AuditoriumKeysModel", "countQueue", "()I"⟩, 21), (⟨"AuditoriumKeysModel", "placeAt", "(I)I"⟩, 21), (⟨"AuditoriumKeysModel", "isAhead", "(II)Z"⟩, 21), (⟨"AuditoriumKeysModel", "servedNow", "()I"⟩, 21), (⟨"AuditoriumKeysModel", "areOpen", "(III)Z"⟩, 21), (⟨"AuditoriumKeysModel", "isOpen", "(I)Z"⟩, 21), (⟨"AuditoriumKeysModel", "isHeld", "(I)Z"⟩, 21), (⟨"AuditoriumKeysModel", "isWithin", "(III)Z"⟩, 21), (⟨"AuditoriumKeysModel", "leavesSingle", "(III)Z"⟩, 21), (⟨"AuditoriumKeysModel", "isAlone", "(I)Z"⟩, 21), (⟨"AuditoriumKeysModel", "priceOf", "(I)I"⟩, 21)]
theorem lw_r3 : ∀ q ∈ lw_privs_3, lw_okq q := List.forall_mem_cons.mpr ⟨lw_p32, List.forall_mem_cons.mpr ⟨lw_p33, List.forall_mem_cons.mpr ⟨lw_p34, List.forall_mem_cons.mpr ⟨lw_p35, List.forall_mem_cons.mpr ⟨lw_p36, List.forall_mem_cons.mpr ⟨lw_p37, List.forall_mem_cons.mpr ⟨lw_p38, List.forall_mem_cons.mpr ⟨lw_p39, List.forall_mem_cons.mpr ⟨lw_p40, List.forall_mem_cons.mpr ⟨lw_p41, List.forall_mem_cons.mpr ⟨lw_p42, List.forall_mem_cons.mpr ⟨lw_p43, List.forall_mem_cons.mpr ⟨lw_p44, List.forall_mem_cons.mpr ⟨lw_p45, List.forall_mem_cons.mpr ⟨lw_p46, List.forall_mem_cons.mpr ⟨lw_p47, fun _ h => absurd h List.not_mem_nil⟩⟩⟩⟩⟩⟩⟩⟩⟩⟩⟩⟩⟩⟩⟩⟩
theorem lw_p48 : lw_okq (⟨"AuditoriumKeysModel", "sell", "(I)V"⟩, 21) := ⟨⟨by decide +kernel, by decide +kernel⟩, List.mem_of_getElem? (i := 582) (by decide +kernel), List.mem_of_getElem? (i := 769) (by decide +kernel), List.mem_of_getElem? (i := 770) (by decide +kernel)⟩
theorem lw_p49 : lw_okq (⟨"AuditoriumKeysModel", "stateOf", "(I)I"⟩, 21) := ⟨⟨by decide +kernel, by decide +kernel⟩, List.mem_of_getElem? (i := 582) (by decide +kernel), List.mem_of_getElem? (i := 788) (by decide +kernel), List.mem_of_getElem? (i := 789) (by decide +kernel)⟩
def lw_privs_4 : List (MethodName × Nat) := [(⟨"AuditoriumKeysModel", "sell", "(I)V"⟩, 21), (⟨"AuditoriumKeysModel", "stateOf", "(I)I"⟩, 21)]
theorem lw_r4 : ∀ q ∈ lw_privs_4, lw_okq q := List.forall_mem_cons.mpr ⟨lw_p48, List.forall_mem_cons.mpr ⟨lw_p49, fun _ h => absurd h List.not_mem_nil⟩⟩
def lw_privs : List (MethodName × Nat) := lw_privs_1 ++ (lw_privs_2 ++ (lw_privs_3 ++ (lw_privs_4)))
def lw_tbl : List Cond := k2_sels lw_privs ++ tables_1
theorem lw_privs_ok : ∀ q ∈ lw_privs, lw_okq q := by
  show ∀ q ∈ lw_privs_1 ++ (lw_privs_2 ++ (lw_privs_3 ++ (lw_privs_4))), lw_okq q
  exact List.forall_mem_append.mpr ⟨lw_r1, List.forall_mem_append.mpr ⟨lw_r2, List.forall_mem_append.mpr ⟨lw_r3, lw_r4⟩⟩⟩
/-! ===== BEGIN words of one list among another's, by their places ===== -/
theorem goodIn_r {big : List Cond} (ws : List Cond) (ps : List Nat) (hp : ws = ps.filterMap (fun i => big[i]?)) (h : ws.all goodWord = true) : GoodIn big ws := by
  intro w hw
  have h1 := List.all_eq_true.mp h w hw
  rw [hp] at hw
  obtain ⟨i, -, hi⟩ := List.mem_filterMap.mp hw
  have hm : w ∈ big := by first | exact List.mem_of_getElem? hi | exact List.getElem?_mem hi
  exact ⟨hm, good_of_word h1⟩
theorem goodIn_app {big a b : List Cond} (ha : GoodIn big a) (hb : GoodIn big b) : GoodIn big (a ++ b) := fun w h => (List.mem_append.mp h).elim (ha w) (hb w)
theorem goodIn_ca {big a b : List Cond} {c : Cond} (ha : GoodIn big (c :: a)) (hb : GoodIn big b) : GoodIn big (c :: (a ++ b)) := fun w h => (List.mem_cons.mp h).elim (fun e => ha w (List.mem_cons.mpr (Or.inl e))) (fun h => (List.mem_append.mp h).elim (fun h => ha w (List.mem_cons.mpr (Or.inr h))) (hb w))
theorem goodIn_sub {big ws : List Cond} (hm : ∀ w ∈ ws, w ∈ big) (h : ws.all goodWord = true) : GoodIn big ws := fun w hw => ⟨hm w hw, good_of_word (List.all_eq_true.mp h w hw)⟩
/-! ===== END ===== -/

/-! ===== BEGIN exceptions that leave a method, and their catching by the caller (launches without stack traces) ===== -/
section VXA
/-! The laws vx_back, vx_callV, vx_callS, vx_callSW, vx_throw0, vx_throwS follow proofs of the library, with one case more: JvmDerived/Free/Laws.lean (Back.of_free), Shelf42/LK1.lean (callV, callS), Shelf/KitTraced.lean (throwNew0V, throwNewS). -/
/-- where a method has thrown q: the class by its name, the cell, what was written, the world -/
def vx_T (XC : String → State → State → Prop) (st : State) (q : Addr) (t : State) (mc ms : Nat) (free : Addr → Prop) : Prop :=
  ∃ (E : String) (ce : Cell) (L : List Loc), XC E st t ∧ t.heap[q]? = some ce ∧ ce.vm = .none ∧ st.vm.findClass E = some ce.cls ∧ st.WarmedH t.vm ∧ st.sameButNew ({ t with vm := st.vm } : State) L mc ms ∧ ∀ z ∈ L, free z.base
def vx_Q (Qc : Array Value → State → Outcome → State → Prop) (XC : String → State → State → Prop) (mc ms : Nat) (free : Addr → Prop) : Array Value → State → Outcome → State → Prop := fun a st o t =>
  (Qc a st o t ∧ ∃ L, FrameEnd st o t L mc ms ∧ ∀ q ∈ L, free q.base) ∨ ∃ q, o = .threw q ∧ vx_T XC st q t mc ms free
/-- a callee that returns or throws -/
def vx_Met (l : Launch) (y : MethodName) (ws : List Cond) (rm : Room) (Pc : Array Value → State → Prop) (Qc : Array Value → State → Outcome → State → Prop) (XC : String → State → State → Prop) (mc ms : Nat) (free : Addr → Prop) : Prop :=
  MetFree l y (headSpec ws rm) Pc (fun _ _ _ _ _ => True) (vx_Q Qc XC mc ms free)
def vx_Post (XC : String → State → State → Prop) (mc ms : Nat) (free : Addr → Prop) : Pt → Array Value → Addr → Pt → Prop := fun A a q B =>
  ∃ (g : JFrame) (mk : MethodId) (t : State) (L : List Loc) (E : String) (ce : Cell), B.U.heap = t.heap ∧ B.U.vm = t.vm ∧ XC E (A.U.calling g mk a) t ∧ t.heap[q]? = some ce ∧ ce.vm = .none ∧ A.U.vm.findClass E = some ce.cls ∧ B.locs = A.locs ++ L ∧ (∀ z ∈ L, free z.base) ∧ B.cells = A.cells + mc ∧ B.slots = A.slots + ms
def vx_Back (l : Launch) (R : Room) (p : Program) (e : Env) (below : List Frame) (s : State) (sargs : Array Value) (y : MethodName) (len W9 : Nat)
    (Pre : Pt → Array Value → Prop) (Post : Pt → Array Value → Option Value → Pt → Prop) (PostX : Pt → Array Value → Addr → Pt → Prop) : Prop :=
  ∀ (m : MethodId) (meth : Method) (c : Code) (A : Pt) (g : JFrame) (ig : Instr) (mk : MethodId) (a : Array Value),
    Stand p l e R s m sargs below meth c A.U A.locs A.cells A.slots → g.method = m → g.locals.size = c.maxLocals → decode c.code g.pc = .ok (ig, len) →
    2 * g.monitorRoom + (g.stack.map fun v => v.category).sum ≤ W9 → A.U.methodNamed? y = some mk → Pre A a →
    (∃ (v : Option Value) (B : Pt), Stand p l e R s m sargs below meth c B.U B.locs B.cells B.slots ∧ Post A a v B ∧
      Steps p.tables e below (doInvoke e (A.U.setTop g) [] mk a).1 (B.U.setTop { g with pc := g.pc + len, stack := v.toList ++ g.stack })) ∨
    (∃ (q : Addr) (B : Pt), Stand p l e R s m sargs below meth c B.U B.locs B.cells B.slots ∧ PostX A a q B ∧
      Steps p.tables e below (doInvoke e (A.U.setTop g) [] mk a).1 ((B.U.setTop g).pushFrame (.throwing q)))
section Payer
variable {l : Launch} {R : Room} {p : Program} {e : Env} {below : List Frame} {s : State} {sargs : Array Value} {y : MethodName} {len W9 : Nat}
theorem vx_back {ws : List Cond} {rm : Room} {Pc : Array Value → State → Prop} {Qc : Array Value → State → Outcome → State → Prop} {XC : String → State → State → Prop} {mc ms : Nat} {free : Addr → Prop} {bytes : ByteArray} {maxL : Nat} {ret : Option FieldType}
    (hM : vx_Met l y ws rm Pc Qc XC mc ms free) (hblind : FrameBlind Pc) (hrc : rm.cells = mc) (hrs : rm.slots = ms)
    (hframes : rm.frames + 1 ≤ R.frames) (hlocals : W9 + (maxL + 11) + rm.locals ≤ R.locals)
    (hws : ∀ w ∈ ws, ∀ a' U, s.WarmedH U.vm → w.before a' U = true) (hcode : Cond.code y bytes maxL ret ∈ ws) (hinit : ∀ a' U, s.WarmedH U.vm → (Cond.initialized y.cls).before a' U = true) :
    vx_Back l R p e below s sargs y len W9 (PreOf R mc ms Pc) (PostOf Qc mc ms free) (vx_Post XC mc ms free) := by
  intro m meth c A g ig mk a X hg hsize hdg hW hn hp
  have h1 : (headSpec ws rm).pre.before a A.U = true := atoms_intro fun w hw => hws w hw _ _ X.warmed
  have h2 : (Cond.code y bytes maxL ret).before a A.U = true := hws _ hcode _ _ X.warmed
  have h3 : (Cond.initialized y.cls).before a A.U = true := hinit _ _ X.warmed
  have h4 : A.cells + (headSpec ws rm).room.cells ≤ R.cells := by rw [show (headSpec ws rm).room.cells = mc from hrc]; exact hp.1
  have h5 : A.slots + (headSpec ws rm).room.slots ≤ R.slots := by rw [show (headSpec ws rm).room.slots = ms from hrs]; exact hp.2.1
  have hPc : Pc a (A.U.calling g mk a) := hblind _ _ _ _ hp.2.2
  obtain ⟨U, Ls, c0, s0⟩ := A
  dsimp only [Pt.U, Pt.locs, Pt.cells, Pt.slots] at h1 h2 h3 h4 h5 X hn hPc ⊢
  obtain ⟨methY, cY, hmY, hcY, -, hlY, -, -, -, -⟩ := Cond.code_spec hn h2
  obtain ⟨kY, hkY, -⟩ := className_of_methodNamed hn
  have hinitY : kY.init = .initialized := Cond.initialized_spec (findClass_of_methodNamed hn) hkY h3
  have h : At U g.method c below := by rw [hg]; exact X.here
  have hlocals9 : W9 + (maxL + 11) + (headSpec ws rm).room.locals ≤ R.locals := hlocals
  have happ : (headSpec ws rm).appliesLoose y e.platform (U.calling g mk a) = true :=
    Spec.appliesLoose_calling (g := g) h hdg hn hkY hinitY
      (X.room_calling (g := g) (R' := (headSpec ws rm).room) hsize hmY hcY hframes (by rw [hlY]; omega) h4 h5) h1
  obtain ⟨mid, hmid⟩ := h.above
  have hfr : (U.setTop g).frames = (.java g :: mid) ++ below := by rw [State.frames_setTop' g h.top, hmid]; rfl
  obtain ⟨o, s₂, hsteps, -, hend, hq⟩ := Steps.callFree hM p X.admits X.cas X.clock (acts := []) hfr happ hPc trivial
  have hq' : vx_Q Qc XC mc ms free a (U.calling g mk a) o s₂ := hq
  rw [State.frames_setTop' g h.top] at hend
  obtain ⟨g₀, hg0⟩ := Option.isSome_iff_exists.mp h.top
  obtain ⟨r, hr⟩ := State.topJava?_eq_some.mp hg0
  have hr' : (({ U with heap := s₂.heap, slotsUsed := s₂.slotsUsed } : State).setVm s₂.vm).frames = .java g₀ :: r := hr
  rcases hq' with ⟨hqc, L, hfe, hL⟩ | ⟨q, rfl, E, ce, L, hx, hce, hcv, hcl, hW₂, hsm, hL⟩
  · obtain ⟨⟨v, rfl⟩, hW₂, e2, q2, q3, q4, q5, q6⟩ := id hfe
    have e3 : s₂ = ({ (U.calling g mk a).setFrames s₂.frames with heap := s₂.heap, slotsUsed := s₂.slotsUsed } : State).setVm s₂.vm := by
      have : s₂ = ({ s₂ with vm := (U.calling g mk a).vm } : State).setVm s₂.vm := rfl
      rw [e2] at this
      exact this
    obtain ⟨c₂, i₂, len₂, hc₂, hd₂, hf₂⟩ := hend
    have hW' : U.WarmedH s₂.vm := hW₂
    have hcc : c₂ = c := by
      have h1 : s₂.code? g.method = U.code? g.method := by
        rw [State.code?_eq, State.code?_eq, hW'.alike.method?]
      exact Option.some.inj (hc₂.symm.trans (h1.trans h.code))
    subst hcc
    have hlen : len₂ = len := by rw [hdg] at hd₂; cases hd₂; rfl
    subst hlen
    have hs₂ : s₂ = (({ U with heap := s₂.heap, slotsUsed := s₂.slotsUsed } : State).setVm s₂.vm).setTop { g with pc := g.pc + len₂, stack := v.toList ++ g.stack } := by
      refine e3.trans ?_
      rw [hf₂, State.calling_eq h.top, State.setFrames_setFrames, State.setTop_of_frames _ hr', hr]
      rfl
    have hsame : U.sameButNew ({ U with heap := s₂.heap, slotsUsed := s₂.slotsUsed } : State) L mc ms := by
      refine ⟨?_, q2, q3, q4, q5, q6⟩
      obtain ⟨t, ht, -⟩ := State.frames_cons hr
      show ({ U with heap := s₂.heap, slotsUsed := s₂.slotsUsed } : State) = { U.setFrames U.frames with heap := s₂.heap, slotsUsed := s₂.slotsUsed }
      rw [State.setFrames_self ht]
    subst hg
    refine Or.inl ⟨v, ⟨(({ U with heap := s₂.heap, slotsUsed := s₂.slotsUsed } : State).setVm s₂.vm), Ls ++ L, c0 + mc, s0 + ms⟩,
      ⟨X.admits, X.cas, X.clock, X.frames, X.room, X.hears, X.method, X.code, (X.here.setHeapUsed s₂.heap s₂.slotsUsed).setVm hW'.alike, X.tail, State.WarmedH.trans X.warmed hW', X.limits, X.bytes, X.same.trans (hsame.setVm s.vm)⟩,
      ⟨g, mk, s₂, L, rfl, rfl, hqc, rfl, hL, rfl, rfl⟩, ?_⟩
    show Steps p.tables e below _ ((({ U with heap := s₂.heap, slotsUsed := s₂.slotsUsed } : State).setVm s₂.vm).setTop { g with pc := g.pc + len₂, stack := v.toList ++ g.stack })
    rw [← hs₂]
    exact hsteps
  · obtain ⟨e2, q2, q3, q4, q5, q6⟩ := id hsm
    have e3 : s₂ = ({ (U.calling g mk a).setFrames s₂.frames with heap := s₂.heap, slotsUsed := s₂.slotsUsed } : State).setVm s₂.vm := by
      have : s₂ = ({ s₂ with vm := (U.calling g mk a).vm } : State).setVm s₂.vm := rfl
      rw [e2] at this
      exact this
    have hf₂ : s₂.frames = .throwing q :: .java g :: U.frames.tail := hend
    have hW' : U.WarmedH s₂.vm := hW₂
    have hs₂ : s₂ = ((({ U with heap := s₂.heap, slotsUsed := s₂.slotsUsed } : State).setVm s₂.vm).setTop g).pushFrame (.throwing q) := by
      refine e3.trans ?_
      rw [hf₂, State.calling_eq h.top, State.setFrames_setFrames, State.pushFrame, State.frames_setTop _ hr', State.setTop_of_frames _ hr', State.setFrames_setFrames, hr]
      rfl
    have hsame : U.sameButNew ({ U with heap := s₂.heap, slotsUsed := s₂.slotsUsed } : State) L mc ms := by
      refine ⟨?_, q2, q3, q4, q5, q6⟩
      obtain ⟨t, ht, -⟩ := State.frames_cons hr
      show ({ U with heap := s₂.heap, slotsUsed := s₂.slotsUsed } : State) = { U.setFrames U.frames with heap := s₂.heap, slotsUsed := s₂.slotsUsed }
      rw [State.setFrames_self ht]
    subst hg
    refine Or.inr ⟨q, ⟨(({ U with heap := s₂.heap, slotsUsed := s₂.slotsUsed } : State).setVm s₂.vm), Ls ++ L, c0 + mc, s0 + ms⟩,
      ⟨X.admits, X.cas, X.clock, X.frames, X.room, X.hears, X.method, X.code, (X.here.setHeapUsed s₂.heap s₂.slotsUsed).setVm hW'.alike, X.tail, State.WarmedH.trans X.warmed hW', X.limits, X.bytes, X.same.trans (hsame.setVm s.vm)⟩,
      ⟨g, mk, s₂, L, E, ce, rfl, rfl, hx, hce, hcv, hcl, rfl, hL, rfl, rfl⟩, ?_⟩
    show Steps p.tables e below _ (((({ U with heap := s₂.heap, slotsUsed := s₂.slotsUsed } : State).setVm s₂.vm).setTop g).pushFrame (.throwing q))
    rw [← hs₂]
    exact hsteps
end Payer
section Calls
variable {p : Program} {l : Launch} {e : Env} {R : Room} {s : State} {m : MethodId} {args : Array Value} {below : List Frame} {meth : Method} {c : Code} {T : State} {locs : List Loc} {cells slots : Nat}
theorem vx_callV (X : Stand p l e R s m args below meth c T locs cells slots) (hexec : p.tables.exec = Jvm.exec) {own C : String} {index : Nat} {y : MethodName} {bytes : ByteArray} {maxL : Nat} {ret : Option FieldType}
    (hown : s.vm.findClass own = some m.cls) (hlink : (Cond.methodLink own index y).before args s = true) (hinst : (Cond.instanceMethod y).before args s = true) (hsel : (Cond.selects C y y).before args s = true)
    (hcode : (Cond.code y bytes maxL ret).before args s = true) (hy : y.cls ≠ "java/lang/invoke/MethodHandle" ∧ y.cls ≠ "java/lang/invoke/VarHandle")
    {W9 : Nat} {Pre : Pt → Array Value → Prop} {Post : Pt → Array Value → Option Value → Pt → Prop} {PostX : Pt → Array Value → Addr → Pt → Prop} (hK : vx_Back l R p e below s args y 3 W9 Pre Post PostX)
    {b : Addr} {cellB : Cell} (hcell : T.heap[b]? = some cellB) (hobj : cellB.vm.isStatics = false) (hcls : s.vm.findClass C = some cellB.cls)
    {g : JFrame} (hg : g.method = m) (hsize : g.locals.size = c.maxLocals) {argsL rest : List Value} (hlen : ∀ sig, parseMethodDescriptor y.desc = some sig → argsL.length = sig.parameters.length)
    (hstack : g.stack = argsL.reverse ++ .ref b :: rest) (hW : 2 * g.monitorRoom + (rest.map fun v => v.category).sum ≤ W9) (hdg : decode c.code g.pc = .ok (.invokevirtual index, 3))
    (hpre : ∀ vm₁, s.WarmedH vm₁ → Pre ⟨T.setVm vm₁, locs, cells, slots⟩ (Value.ref b :: argsL).toArray) :
    (∃ (v : Option Value) (vm₁ : Vm) (B : Pt), s.WarmedH vm₁ ∧ Stand p l e R s m args below meth c B.U B.locs B.cells B.slots ∧ Post ⟨T.setVm vm₁, locs, cells, slots⟩ (Value.ref b :: argsL).toArray v B ∧
      ∀ target, Steps p.tables e below (B.U.setTop { g with pc := g.pc + 3, stack := v.toList ++ rest }) target → Steps p.tables e below (T.setTop g) target) ∨
    (∃ (q : Addr) (vm₁ : Vm) (B : Pt), s.WarmedH vm₁ ∧ Stand p l e R s m args below meth c B.U B.locs B.cells B.slots ∧ PostX ⟨T.setVm vm₁, locs, cells, slots⟩ (Value.ref b :: argsL).toArray q B ∧
      Steps p.tables e below (T.setTop g) ((B.U.setTop { g with stack := rest }).pushFrame (.throwing q))) := by
  obtain ⟨mk, methM, hnamed, hmethM, hstM, habM⟩ := Cond.instanceMethod_spec hinst
  obtain ⟨methM', cM, hmethM', -, -, -, -, -, -, hsigM⟩ := Cond.code_spec hnamed hcode
  cases hmethM.symm.trans hmethM'
  obtain ⟨c2, r2, m2, q1, q2, q3, q4, kP, hkP, hkPi⟩ := Cond.selects_spec hsel
  cases hcls.symm.trans q1
  cases (State.methodFound?_of_named hnamed hy).symm.trans q2
  cases hnamed.symm.trans q3
  have hselP : selectMethod e.platform s.vm cellB.cls mk = .method mk := by rw [Launch.admits_selectMethod X.admits]; exact q4
  obtain ⟨vm₁, X₁, hstep₁⟩ := X.invokevirtual hexec hown hlink hnamed hmethM hstM hkP hkPi hy (a := b) (cell := cellB) hcell
    (fun z h => by rw [h] at hobj; cases hobj) hselP hmethM habM hkP hkPi (g := g) hg (argsL := argsL) (rest := rest) (hlen _ hsigM) hstack hdg
  rcases hK m meth c ⟨T.setVm vm₁, locs, cells, slots⟩ { g with stack := rest } (.invokevirtual index) mk (Value.ref b :: argsL).toArray X₁ hg hsize hdg hW (X₁.named hnamed) (hpre vm₁ X₁.warmed) with ⟨v, B, X', hpost, hsteps⟩ | ⟨q, B, X', hpost, hsteps⟩
  · exact Or.inl ⟨v, vm₁, B, X₁.warmed, X', hpost, fun target h => hstep₁ _ fun acts => by rw [doInvoke_state]; exact hsteps.trans h⟩
  · exact Or.inr ⟨q, vm₁, B, X₁.warmed, X', hpost, hstep₁ _ fun acts => by rw [doInvoke_state]; exact hsteps⟩
theorem vx_callS (X : Stand p l e R s m args below meth c T locs cells slots) (hexec : p.tables.exec = Jvm.exec) {own : String} {index : Nat} {y : MethodName} {bytes : ByteArray} {maxL : Nat} {ret : Option FieldType}
    (hown : s.vm.findClass own = some m.cls) (hlink : (Cond.methodLink own index y).before args s = true) (hstat : (Cond.static y).before args s = true) (hinit : (Cond.initialized y.cls).before args s = true)
    (hcode : (Cond.code y bytes maxL ret).before args s = true) (hy : y.cls ≠ "java/lang/invoke/MethodHandle" ∧ y.cls ≠ "java/lang/invoke/VarHandle")
    {W9 : Nat} {Pre : Pt → Array Value → Prop} {Post : Pt → Array Value → Option Value → Pt → Prop} {PostX : Pt → Array Value → Addr → Pt → Prop} (hK : vx_Back l R p e below s args y 3 W9 Pre Post PostX)
    {g : JFrame} (hg : g.method = m) (hsize : g.locals.size = c.maxLocals) {argsL rest : List Value} (hlen : ∀ sig, parseMethodDescriptor y.desc = some sig → argsL.length = sig.parameters.length)
    (hstack : g.stack = argsL.reverse ++ rest) (hW : 2 * g.monitorRoom + (rest.map fun v => v.category).sum ≤ W9) (hdg : decode c.code g.pc = .ok (.invokestatic index, 3))
    (hpre : ∀ vm₁, s.WarmedH vm₁ → Pre ⟨T.setVm vm₁, locs, cells, slots⟩ argsL.toArray) :
    (∃ (v : Option Value) (vm₁ : Vm) (B : Pt), s.WarmedH vm₁ ∧ Stand p l e R s m args below meth c B.U B.locs B.cells B.slots ∧ Post ⟨T.setVm vm₁, locs, cells, slots⟩ argsL.toArray v B ∧
      ∀ target, Steps p.tables e below (B.U.setTop { g with pc := g.pc + 3, stack := v.toList ++ rest }) target → Steps p.tables e below (T.setTop g) target) ∨
    (∃ (q : Addr) (vm₁ : Vm) (B : Pt), s.WarmedH vm₁ ∧ Stand p l e R s m args below meth c B.U B.locs B.cells B.slots ∧ PostX ⟨T.setVm vm₁, locs, cells, slots⟩ argsL.toArray q B ∧
      Steps p.tables e below (T.setTop g) ((B.U.setTop { g with stack := rest }).pushFrame (.throwing q))) := by
  obtain ⟨mk, hnamed⟩ := Cond.code_named hcode
  obtain ⟨methM, cM, hmethM, -, -, -, -, -, -, hsigM⟩ := Cond.code_spec hnamed hcode
  have hstatic : methM.isStatic = true := Cond.static_spec hnamed hmethM hstat
  obtain ⟨kP, hkP, -⟩ := className_of_methodNamed hnamed
  have hinitP : kP.init = .initialized := Cond.initialized_spec (findClass_of_methodNamed hnamed) hkP hinit
  obtain ⟨vm₁, X₁, hstep₁⟩ := X.invokestatic hexec hown hlink hnamed hmethM hstatic hkP hinitP hy (g := g) hg (argsL := argsL) (rest := rest) (hlen _ hsigM) hstack hdg
  rcases hK m meth c ⟨T.setVm vm₁, locs, cells, slots⟩ { g with stack := rest } (.invokestatic index) mk argsL.toArray X₁ hg hsize hdg hW (X₁.named hnamed) (hpre vm₁ X₁.warmed) with ⟨v, B, X', hpost, hsteps⟩ | ⟨q, B, X', hpost, hsteps⟩
  · exact Or.inl ⟨v, vm₁, B, X₁.warmed, X', hpost, fun target h => hstep₁ _ fun acts => by rw [doInvoke_state]; exact hsteps.trans h⟩
  · exact Or.inr ⟨q, vm₁, B, X₁.warmed, X', hpost, hstep₁ _ fun acts => by rw [doInvoke_state]; exact hsteps⟩
end Calls
theorem vx_cls {s : State} {T : State} {vm₁ : Vm} {E : String} {k : ClassId} (hW : s.WarmedH vm₁) (h : (T.setVm vm₁).vm.findClass E = some k) : s.vm.findClass E = some k := by
  have h1 : vm₁.findClass E = some k := h
  rw [hW.alike.findClass] at h1
  exact h1
/-- the method's frame g, with q thrown over it -/
def vx_W (p : Program) (l : Launch) (e : Env) (R : Room) (s : State) (m : MethodId) (args : Array Value) (below : List Frame) (meth : Method) (c : Code) (H : Heap) (locs : List Loc) (cells slots : Nat) (Q : State → Prop) (g : JFrame) (q : Addr) : Prop :=
  ∀ T : State, T.heap = H → Stand p l e R s m args below meth c T locs cells slots → ∃ t, Steps p.tables e below ((T.setTop g).pushFrame (.throwing q)) t ∧ Q t
def vx_Run (p : Program) (l : Launch) (e : Env) (R : Room) (s : State) (m : MethodId) (args : Array Value) (below : List Frame) (meth : Method) (c : Code) (H : Heap) (locs : List Loc) (cells slots mc ms : Nat) (g : JFrame) (rest : List Value) (Qa : State → Outcome → State → Prop) (XC : String → State → State → Prop) (free : Addr → Prop) : Prop :=
  ∀ T : State, T.heap = H → Stand p l e R s m args below meth c T locs cells slots →
    (∃ (v : Option Value) (st₀ t T' : State) (L : List Loc), st₀.heap = H ∧ Stand p l e R s m args below meth c T' (locs ++ L) (cells + mc) (slots + ms) ∧ (∀ q ∈ L, free q.base) ∧ T'.heap = t.heap ∧ T'.vm = t.vm ∧ Qa st₀ (.returned v) t ∧
      Goes p e below T g T' { g with pc := g.pc + 3, stack := v.toList ++ rest }) ∨
    (∃ (q : Addr) (st₀ t T' : State) (L : List Loc) (E : String) (ce : Cell), st₀.heap = H ∧ Stand p l e R s m args below meth c T' (locs ++ L) (cells + mc) (slots + ms) ∧ (∀ z ∈ L, free z.base) ∧ T'.heap = t.heap ∧ T'.vm = t.vm ∧ XC E st₀ t ∧ t.heap[q]? = some ce ∧ ce.vm = .none ∧ s.vm.findClass E = some ce.cls ∧
      Steps p.tables e below (T.setTop g) ((T'.setTop { g with stack := rest }).pushFrame (.throwing q)))
def vx_X {S : Type} (px : S → Prop) (B : String → S → State → Prop) (A : Nat → Prop) : String → State → State → Prop := fun E st t => ∃ u : S, px u ∧ B E u t ∧ va_F A st t
section Runs
variable {p : Program} {l : Launch} {e : Env} {R : Room} {s : State} {m : MethodId} {args : Array Value} {below : List Frame} {meth : Method} {c : Code} {H : Heap} {locs : List Loc} {cells slots : Nat}
variable {y : MethodName} {bytes cc : ByteArray} {maxL nL mc ms n index : Nat} {ret : Option FieldType} {ws : List Cond} {rm : Room} {Pc : Array Value → State → Prop} {Qc : Array Value → State → Outcome → State → Prop} {XC : String → State → State → Prop} {free : Addr → Prop} {Ts : List Cond} {own C : String} {b : Addr} {As rest : List Value} {g : JFrame}
theorem vx_callBack (cb : CallB R s args own index y bytes maxL ret ws rm mc ms n) (hM : vx_Met l y ws rm Pc Qc XC mc ms free) (hbl : FrameBlind Pc) : vx_Back l R p e below s args y 3 8 (PreOf R mc ms Pc) (PostOf Qc mc ms free) (vx_Post XC mc ms free) := by
  obtain ⟨hrc, hrs, hfr, hlo, hws, hcw, -, hini, -⟩ := cb
  exact vx_back (bytes := bytes) (maxL := maxL) (ret := ret) hM hbl hrc hrs hfr hlo hws hcw (fun a' U hW => word_at hW (Or.inl (by first | rfl | simp [Cond.onTables, Cond.keeps, Cond.steady])) hini)
theorem vx_runV (S : CallFix p m c cc nL s args Ts own) (hM : vx_Met l y ws rm Pc Qc XC mc ms free) (cw : CallW R s args own C index y bytes maxL ret ws rm mc ms n) (hp : PreV s H C b Pc As)
    (hg : g.method = m) (hn : As.length = n) (hsize : g.locals.size = nL) (hstack : g.stack = As.reverse ++ .ref b :: rest) (hW : 2 * g.monitorRoom + (rest.map fun v => v.category).sum ≤ 8) (hdg : decode cc g.pc = .ok (.invokevirtual index, 3)) (hf : cells + mc ≤ R.cells ∧ slots + ms ≤ R.slots) :
    vx_Run p l e R s m args below meth c H locs cells slots mc ms g rest (Qc (Value.ref b :: As).toArray) XC free := by
  have hK : vx_Back l R p e below s args y 3 8 (PreOf R mc ms Pc) (PostOf Qc mc ms free) (vx_Post XC mc ms free) := vx_callBack cw.1 hM hp.1
  obtain ⟨⟨-, -, -, -, -, -, hcode, -, hy, hlen, hl⟩, hin, hse⟩ := cw
  obtain ⟨hx, hb, hml, ho, -⟩ := S
  obtain ⟨-, ⟨cellB, hcB, hoB, hclB⟩, hPc⟩ := hp
  intro T hT X
  rcases vx_callV X hx (C := C) (bytes := bytes) (maxL := maxL) (ret := ret) ho hl hin hse hcode hy hK (by rw [hT]; exact hcB) hoB hclB hg (hsize.trans hml.symm) (argsL := As) (rest := rest) (fun sig h => hn.trans (hlen sig h)) hstack hW (by rw [hb]; exact hdg)
    (fun vm₁ hW₁ => ⟨hf.1, hf.2, hPc (T.setVm vm₁) hT hW₁⟩) with ⟨v, vm₁, ⟨U', l2, c2, s2⟩, hW₁, X', ⟨g', mk, t, L, e1, e2, hq, h1, hL, h2, h3⟩, st⟩ | ⟨q, vm₁, ⟨U', l2, c2, s2⟩, hW₁, X', ⟨g', mk, t, L, E, ce, e1, e2, hq, hce, hcv, hcl, h1, hL, h2, h3⟩, st⟩
  · dsimp only [Pt.U, Pt.locs, Pt.cells, Pt.slots] at X' e1 e2 h1 h2 h3 st
    subst h1; subst h2; subst h3
    exact Or.inl ⟨v, (T.setVm vm₁).calling g' mk (Value.ref b :: As).toArray, t, U', L, hT, X', hL, e1, e2, hq, st⟩
  · dsimp only [Pt.U, Pt.locs, Pt.cells, Pt.slots] at X' e1 e2 h1 h2 h3 st hcl
    subst h1; subst h2; subst h3
    exact Or.inr ⟨q, (T.setVm vm₁).calling g' mk (Value.ref b :: As).toArray, t, U', L, E, ce, hT, X', hL, e1, e2, hq, hce, hcv, vx_cls hW₁ hcl, st⟩
theorem vx_runS (S : CallFix p m c cc nL s args Ts own) (hM : vx_Met l y ws rm Pc Qc XC mc ms free) (cw : CallB R s args own index y bytes maxL ret ws rm mc ms n ∧ (Cond.static y).before args s = true) (hp : PreS s H Pc As)
    (hg : g.method = m) (hn : As.length = n) (hsize : g.locals.size = nL) (hstack : g.stack = As.reverse ++ rest) (hW : 2 * g.monitorRoom + (rest.map fun v => v.category).sum ≤ 8) (hdg : decode cc g.pc = .ok (.invokestatic index, 3)) (hf : cells + mc ≤ R.cells ∧ slots + ms ≤ R.slots) :
    vx_Run p l e R s m args below meth c H locs cells slots mc ms g rest (Qc As.toArray) XC free := by
  have hK : vx_Back l R p e below s args y 3 8 (PreOf R mc ms Pc) (PostOf Qc mc ms free) (vx_Post XC mc ms free) := vx_callBack cw.1 hM hp.1
  obtain ⟨⟨-, -, -, -, -, -, hcode, hini, hy, hlen, hl⟩, hstt⟩ := cw
  obtain ⟨hx, hb, hml, ho, -⟩ := S
  intro T hT X
  rcases vx_callS X hx (bytes := bytes) (maxL := maxL) (ret := ret) ho hl hstt hini hcode hy hK hg (hsize.trans hml.symm) (argsL := As) (rest := rest) (fun sig h => hn.trans (hlen sig h)) hstack hW (by rw [hb]; exact hdg)
    (fun vm₁ hW₁ => ⟨hf.1, hf.2, hp.2 (T.setVm vm₁) hT hW₁⟩) with ⟨v, vm₁, ⟨U', l2, c2, s2⟩, hW₁, X', ⟨g', mk, t, L, e1, e2, hq, h1, hL, h2, h3⟩, st⟩ | ⟨q, vm₁, ⟨U', l2, c2, s2⟩, hW₁, X', ⟨g', mk, t, L, E, ce, e1, e2, hq, hce, hcv, hcl, h1, hL, h2, h3⟩, st⟩
  · dsimp only [Pt.U, Pt.locs, Pt.cells, Pt.slots] at X' e1 e2 h1 h2 h3 st
    subst h1; subst h2; subst h3
    exact Or.inl ⟨v, (T.setVm vm₁).calling g' mk As.toArray, t, U', L, hT, X', hL, e1, e2, hq, st⟩
  · dsimp only [Pt.U, Pt.locs, Pt.cells, Pt.slots] at X' e1 e2 h1 h2 h3 st hcl
    subst h1; subst h2; subst h3
    exact Or.inr ⟨q, (T.setVm vm₁).calling g' mk As.toArray, t, U', L, E, ce, hT, X', hL, e1, e2, hq, hce, hcv, vx_cls hW₁ hcl, st⟩
end Runs
section Rows
variable {p : Program} {l : Launch} {e : Env} {R : Room} {s : State} {m : MethodId} {args : Array Value} {below : List Frame} {meth : Method} {c : Code} {H : Heap} {locs : List Loc} {cells slots : Nat} {Q : State → Prop}
variable {mc ms : Nat} {free : Addr → Prop} {A0 A1 : Nat → Prop} {H0 : Heap} {a : Array Value} {pc : Nat} {ls : Array Slot} {st0 rest : List Value}
theorem vx_keep {st₀ t T' : State} {L : List Loc} (h0 : st₀.heap = H) (e1 : T'.heap = t.heap) (hS : va_S A0 H0 H locs) (hA : ∀ q, q < H.size → A1 q → A0 q) (hf : ∀ q, free q → A0 q) (hL : ∀ q ∈ L, free q.base) (hF : va_F A1 st₀ t) :
    H.size ≤ T'.heap.size ∧ (∀ q : Nat, q < H.size → ¬ A1 q → T'.heap[q]? = H[q]?) ∧ va_S A0 H0 T'.heap (locs ++ L) := by
  obtain ⟨hz, hk⟩ := hF
  rw [h0] at hz hk
  exact ⟨by rw [e1]; exact hz, fun q h1 h2 => by rw [e1]; exact hk q h1 h2,
    ⟨Nat.le_trans hS.1 (by rw [e1]; exact hz), fun q h1 h2 => by rw [e1, hk q (Nat.lt_of_lt_of_le h1 hS.1) (fun z => h2 (hA q (Nat.lt_of_lt_of_le h1 hS.1) z))]; exact hS.2.1 q h1 h2, fun q hq => by
      rcases List.mem_append.mp hq with h | h
      · exact hS.2.2 q h
      · exact hf _ (hL q h)⟩⟩
theorem vx_calli {S SX : Type} {post : Int32 → S → Prop} {px : SX → Prop} {B : S → State → Prop} {BX : String → SX → State → Prop} {AX : Nat → Prop} (hr : vx_Run p l e R s m args below meth c H locs cells slots mc ms (F0 m pc ls st0) rest (va_Qi post B A1 a) (vx_X px BX AX) free) (hS : va_S A0 H0 H locs) (hA : ∀ q, q < H.size → A1 q → A0 q) (hf : ∀ q, free q → A0 q) (hAX : ∀ q, q < H.size → AX q → A0 q)
    (kx : ∀ (E : String) (ce : Cell) (q9 : Addr) (u : SX) (t : State) (H1 : Heap) (locs1 : List Loc), t.heap = H1 → s.vm.Alike t.vm → px u → BX E u t → H.size ≤ H1.size → (∀ q : Nat, q < H.size → ¬ AX q → H1[q]? = H[q]?) → va_S A0 H0 H1 locs1 → H1[q9]? = some ce → ce.vm = .none → s.vm.findClass E = some ce.cls → vx_W p l e R s m args below meth c H1 locs1 (cells + mc) (slots + ms) Q (F0 m pc ls rest) q9)
    (kk : ∀ (r : Int32) (u : S) (t : State) (H1 : Heap) (locs1 : List Loc), t.heap = H1 → s.vm.Alike t.vm → post r u → B u t → H.size ≤ H1.size → (∀ q : Nat, q < H.size → ¬ A1 q → H1[q]? = H[q]?) → va_S A0 H0 H1 locs1 → W p l e R s m args below meth c H1 locs1 (cells + mc) (slots + ms) Q (F0 m (pc + 3) ls (.int r :: rest))) : W p l e R s m args below meth c H locs cells slots Q (F0 m pc ls st0) := by
  intro T hT X
  rcases hr T hT X with ⟨v, st₀, t, T', L, h0, X', hL, e1, e2, ⟨⟨r, u, hv, hp, hb⟩, hF⟩, st⟩ | ⟨q, st₀, t, T', L, E, ce, h0, X', hL, e1, e2, ⟨u, hp, hb, hF⟩, hce, hcv, hcl, st⟩
  · cases hv
    obtain ⟨k1, k2, k3⟩ := vx_keep h0 e1 hS hA hf hL hF
    obtain ⟨t2, a1, b1⟩ := kk r u t T'.heap (locs ++ L) e1.symm (by rw [← e2]; exact X'.warmed.alike) hp hb k1 k2 k3 T' rfl X'
    exact ⟨t2, st t2 a1, b1⟩
  · obtain ⟨k1, k2, k3⟩ := vx_keep h0 e1 hS hAX hf hL hF
    obtain ⟨t2, a1, b1⟩ := kx E ce q u t T'.heap (locs ++ L) e1.symm (by rw [← e2]; exact X'.warmed.alike) hp hb k1 k2 k3 (by rw [e1]; exact hce) hcv hcl T' rfl X'
    exact ⟨t2, st.trans a1, b1⟩
theorem vx_calll {S SX : Type} {post : Int64 → S → Prop} {px : SX → Prop} {B : S → State → Prop} {BX : String → SX → State → Prop} {AX : Nat → Prop} (hr : vx_Run p l e R s m args below meth c H locs cells slots mc ms (F0 m pc ls st0) rest (va_Ql post B A1 a) (vx_X px BX AX) free) (hS : va_S A0 H0 H locs) (hA : ∀ q, q < H.size → A1 q → A0 q) (hf : ∀ q, free q → A0 q) (hAX : ∀ q, q < H.size → AX q → A0 q)
    (kx : ∀ (E : String) (ce : Cell) (q9 : Addr) (u : SX) (t : State) (H1 : Heap) (locs1 : List Loc), t.heap = H1 → s.vm.Alike t.vm → px u → BX E u t → H.size ≤ H1.size → (∀ q : Nat, q < H.size → ¬ AX q → H1[q]? = H[q]?) → va_S A0 H0 H1 locs1 → H1[q9]? = some ce → ce.vm = .none → s.vm.findClass E = some ce.cls → vx_W p l e R s m args below meth c H1 locs1 (cells + mc) (slots + ms) Q (F0 m pc ls rest) q9)
    (kk : ∀ (r : Int64) (u : S) (t : State) (H1 : Heap) (locs1 : List Loc), t.heap = H1 → s.vm.Alike t.vm → post r u → B u t → H.size ≤ H1.size → (∀ q : Nat, q < H.size → ¬ A1 q → H1[q]? = H[q]?) → va_S A0 H0 H1 locs1 → W p l e R s m args below meth c H1 locs1 (cells + mc) (slots + ms) Q (F0 m (pc + 3) ls (.long r :: rest))) : W p l e R s m args below meth c H locs cells slots Q (F0 m pc ls st0) := by
  intro T hT X
  rcases hr T hT X with ⟨v, st₀, t, T', L, h0, X', hL, e1, e2, ⟨⟨r, u, hv, hp, hb⟩, hF⟩, st⟩ | ⟨q, st₀, t, T', L, E, ce, h0, X', hL, e1, e2, ⟨u, hp, hb, hF⟩, hce, hcv, hcl, st⟩
  · cases hv
    obtain ⟨k1, k2, k3⟩ := vx_keep h0 e1 hS hA hf hL hF
    obtain ⟨t2, a1, b1⟩ := kk r u t T'.heap (locs ++ L) e1.symm (by rw [← e2]; exact X'.warmed.alike) hp hb k1 k2 k3 T' rfl X'
    exact ⟨t2, st t2 a1, b1⟩
  · obtain ⟨k1, k2, k3⟩ := vx_keep h0 e1 hS hAX hf hL hF
    obtain ⟨t2, a1, b1⟩ := kx E ce q u t T'.heap (locs ++ L) e1.symm (by rw [← e2]; exact X'.warmed.alike) hp hb k1 k2 k3 (by rw [e1]; exact hce) hcv hcl T' rfl X'
    exact ⟨t2, st.trans a1, b1⟩
theorem vx_callf {S SX : Type} {post : UInt32 → S → Prop} {px : SX → Prop} {B : S → State → Prop} {BX : String → SX → State → Prop} {AX : Nat → Prop} (hr : vx_Run p l e R s m args below meth c H locs cells slots mc ms (F0 m pc ls st0) rest (va_Qf post B A1 a) (vx_X px BX AX) free) (hS : va_S A0 H0 H locs) (hA : ∀ q, q < H.size → A1 q → A0 q) (hf : ∀ q, free q → A0 q) (hAX : ∀ q, q < H.size → AX q → A0 q)
    (kx : ∀ (E : String) (ce : Cell) (q9 : Addr) (u : SX) (t : State) (H1 : Heap) (locs1 : List Loc), t.heap = H1 → s.vm.Alike t.vm → px u → BX E u t → H.size ≤ H1.size → (∀ q : Nat, q < H.size → ¬ AX q → H1[q]? = H[q]?) → va_S A0 H0 H1 locs1 → H1[q9]? = some ce → ce.vm = .none → s.vm.findClass E = some ce.cls → vx_W p l e R s m args below meth c H1 locs1 (cells + mc) (slots + ms) Q (F0 m pc ls rest) q9)
    (kk : ∀ (r : UInt32) (u : S) (t : State) (H1 : Heap) (locs1 : List Loc), t.heap = H1 → s.vm.Alike t.vm → post r u → B u t → H.size ≤ H1.size → (∀ q : Nat, q < H.size → ¬ A1 q → H1[q]? = H[q]?) → va_S A0 H0 H1 locs1 → W p l e R s m args below meth c H1 locs1 (cells + mc) (slots + ms) Q (F0 m (pc + 3) ls (.float r :: rest))) : W p l e R s m args below meth c H locs cells slots Q (F0 m pc ls st0) := by
  intro T hT X
  rcases hr T hT X with ⟨v, st₀, t, T', L, h0, X', hL, e1, e2, ⟨⟨r, u, hv, hp, hb⟩, hF⟩, st⟩ | ⟨q, st₀, t, T', L, E, ce, h0, X', hL, e1, e2, ⟨u, hp, hb, hF⟩, hce, hcv, hcl, st⟩
  · cases hv
    obtain ⟨k1, k2, k3⟩ := vx_keep h0 e1 hS hA hf hL hF
    obtain ⟨t2, a1, b1⟩ := kk r u t T'.heap (locs ++ L) e1.symm (by rw [← e2]; exact X'.warmed.alike) hp hb k1 k2 k3 T' rfl X'
    exact ⟨t2, st t2 a1, b1⟩
  · obtain ⟨k1, k2, k3⟩ := vx_keep h0 e1 hS hAX hf hL hF
    obtain ⟨t2, a1, b1⟩ := kx E ce q u t T'.heap (locs ++ L) e1.symm (by rw [← e2]; exact X'.warmed.alike) hp hb k1 k2 k3 (by rw [e1]; exact hce) hcv hcl T' rfl X'
    exact ⟨t2, st.trans a1, b1⟩
theorem vx_calld {S SX : Type} {post : UInt64 → S → Prop} {px : SX → Prop} {B : S → State → Prop} {BX : String → SX → State → Prop} {AX : Nat → Prop} (hr : vx_Run p l e R s m args below meth c H locs cells slots mc ms (F0 m pc ls st0) rest (va_Qd post B A1 a) (vx_X px BX AX) free) (hS : va_S A0 H0 H locs) (hA : ∀ q, q < H.size → A1 q → A0 q) (hf : ∀ q, free q → A0 q) (hAX : ∀ q, q < H.size → AX q → A0 q)
    (kx : ∀ (E : String) (ce : Cell) (q9 : Addr) (u : SX) (t : State) (H1 : Heap) (locs1 : List Loc), t.heap = H1 → s.vm.Alike t.vm → px u → BX E u t → H.size ≤ H1.size → (∀ q : Nat, q < H.size → ¬ AX q → H1[q]? = H[q]?) → va_S A0 H0 H1 locs1 → H1[q9]? = some ce → ce.vm = .none → s.vm.findClass E = some ce.cls → vx_W p l e R s m args below meth c H1 locs1 (cells + mc) (slots + ms) Q (F0 m pc ls rest) q9)
    (kk : ∀ (r : UInt64) (u : S) (t : State) (H1 : Heap) (locs1 : List Loc), t.heap = H1 → s.vm.Alike t.vm → post r u → B u t → H.size ≤ H1.size → (∀ q : Nat, q < H.size → ¬ A1 q → H1[q]? = H[q]?) → va_S A0 H0 H1 locs1 → W p l e R s m args below meth c H1 locs1 (cells + mc) (slots + ms) Q (F0 m (pc + 3) ls (.double r :: rest))) : W p l e R s m args below meth c H locs cells slots Q (F0 m pc ls st0) := by
  intro T hT X
  rcases hr T hT X with ⟨v, st₀, t, T', L, h0, X', hL, e1, e2, ⟨⟨r, u, hv, hp, hb⟩, hF⟩, st⟩ | ⟨q, st₀, t, T', L, E, ce, h0, X', hL, e1, e2, ⟨u, hp, hb, hF⟩, hce, hcv, hcl, st⟩
  · cases hv
    obtain ⟨k1, k2, k3⟩ := vx_keep h0 e1 hS hA hf hL hF
    obtain ⟨t2, a1, b1⟩ := kk r u t T'.heap (locs ++ L) e1.symm (by rw [← e2]; exact X'.warmed.alike) hp hb k1 k2 k3 T' rfl X'
    exact ⟨t2, st t2 a1, b1⟩
  · obtain ⟨k1, k2, k3⟩ := vx_keep h0 e1 hS hAX hf hL hF
    obtain ⟨t2, a1, b1⟩ := kx E ce q u t T'.heap (locs ++ L) e1.symm (by rw [← e2]; exact X'.warmed.alike) hp hb k1 k2 k3 (by rw [e1]; exact hce) hcv hcl T' rfl X'
    exact ⟨t2, st.trans a1, b1⟩
theorem vx_callv {S SX : Type} {post : S → Prop} {px : SX → Prop} {B : S → State → Prop} {BX : String → SX → State → Prop} {AX : Nat → Prop} (hr : vx_Run p l e R s m args below meth c H locs cells slots mc ms (F0 m pc ls st0) rest (va_Qv post B A1 a) (vx_X px BX AX) free) (hS : va_S A0 H0 H locs) (hA : ∀ q, q < H.size → A1 q → A0 q) (hf : ∀ q, free q → A0 q) (hAX : ∀ q, q < H.size → AX q → A0 q)
    (kx : ∀ (E : String) (ce : Cell) (q9 : Addr) (u : SX) (t : State) (H1 : Heap) (locs1 : List Loc), t.heap = H1 → s.vm.Alike t.vm → px u → BX E u t → H.size ≤ H1.size → (∀ q : Nat, q < H.size → ¬ AX q → H1[q]? = H[q]?) → va_S A0 H0 H1 locs1 → H1[q9]? = some ce → ce.vm = .none → s.vm.findClass E = some ce.cls → vx_W p l e R s m args below meth c H1 locs1 (cells + mc) (slots + ms) Q (F0 m pc ls rest) q9)
    (kk : ∀ (u : S) (t : State) (H1 : Heap) (locs1 : List Loc), t.heap = H1 → s.vm.Alike t.vm → post u → B u t → H.size ≤ H1.size → (∀ q : Nat, q < H.size → ¬ A1 q → H1[q]? = H[q]?) → va_S A0 H0 H1 locs1 → W p l e R s m args below meth c H1 locs1 (cells + mc) (slots + ms) Q (F0 m (pc + 3) ls (rest))) : W p l e R s m args below meth c H locs cells slots Q (F0 m pc ls st0) := by
  intro T hT X
  rcases hr T hT X with ⟨v, st₀, t, T', L, h0, X', hL, e1, e2, ⟨⟨u, hv, hp, hb⟩, hF⟩, st⟩ | ⟨q, st₀, t, T', L, E, ce, h0, X', hL, e1, e2, ⟨u, hp, hb, hF⟩, hce, hcv, hcl, st⟩
  · cases hv
    obtain ⟨k1, k2, k3⟩ := vx_keep h0 e1 hS hA hf hL hF
    obtain ⟨t2, a1, b1⟩ := kk u t T'.heap (locs ++ L) e1.symm (by rw [← e2]; exact X'.warmed.alike) hp hb k1 k2 k3 T' rfl X'
    exact ⟨t2, st t2 a1, b1⟩
  · obtain ⟨k1, k2, k3⟩ := vx_keep h0 e1 hS hAX hf hL hF
    obtain ⟨t2, a1, b1⟩ := kx E ce q u t T'.heap (locs ++ L) e1.symm (by rw [← e2]; exact X'.warmed.alike) hp hb k1 k2 k3 (by rw [e1]; exact hce) hcv hcl T' rfl X'
    exact ⟨t2, st.trans a1, b1⟩
/-- caught by the row x of this method's table; the rows ahead don't take it -/
theorem vx_catch {own name : String} {E : String} {ce : Cell} {q : Addr} (hown : s.vm.findClass own = some m.cls) (pre : List ExceptionTableEntry) (x : ExceptionTableEntry) (suf : List ExceptionTableEntry) (hsplit : c.exceptionTable.toList = pre ++ x :: suf)
    (hpass : ∀ z ∈ pre, covers z pc = false ∨ (z.catchType ≠ 0 ∧ ∃ nm : String, (Cond.classLink own z.catchType nm).before args s = true ∧ va_Nc E nm s)) (hx : covers x pc = true) (h0 : x.catchType ≠ 0)
    (hlink : (Cond.classLink own x.catchType name).before args s = true) (hcast : (Cond.castable E name).before args s = true) (hcell : H[q]? = some ce) (hv : ce.vm = .none) (hcl : s.vm.findClass E = some ce.cls)
    (kk : W p l e R s m args below meth c H locs cells slots Q (F0 m x.handlerPc ls [.ref q])) : vx_W p l e R s m args below meth c H locs cells slots Q (F0 m pc ls rest) q := by
  intro T hT X
  have hpl : e.platform.magicAccessors = ({} : Platform).magicAccessors := by rw [X.admits.platform]
  obtain ⟨c3, c4, hc3, hc4, hasg⟩ := Cond.castable_spec hcast
  cases Option.some.inj (hc3.symm.trans hcl)
  obtain ⟨c5, hc5, hcl5⟩ := Cond.classLink_spec hown hlink e.platform hpl
  cases Option.some.inj (hc4.symm.trans hc5)
  obtain ⟨vm', X', st⟩ := X.thenCaughtThrough q (g := F0 m pc ls rest) rfl (Steps.refl _) (by rw [hT]; exact hcell) (by rw [hv]; rfl) (by obtain ⟨k9, h9, -⟩ := Vm.findClass_spec hcl; exact ⟨k9, h9⟩) pre x suf hsplit
    (fun z hz => by
      rcases hpass z hz with h | ⟨hz0, nm, hl1, hn1⟩
      · exact Or.inl h
      · obtain ⟨c6, hc6, hcl6⟩ := Cond.classLink_spec hown hl1 e.platform hpl
        obtain ⟨a8, b8, h1, h2, h3⟩ := hn1
        cases Option.some.inj (h1.symm.trans hcl)
        cases Option.some.inj (h2.symm.trans hc6)
        exact Or.inr ⟨hz0, _, hcl6, h3⟩) hx (Or.inr ⟨h0, c4, hcl5, hasg⟩)
  obtain ⟨t, a1, b1⟩ := kk (T.setVm vm') hT X'
  exact ⟨t, st.trans a1, b1⟩
end Rows
section Ends
variable {p : Program} {l : Launch} {e : Env} {R : Room} {s : State} {m : MethodId} {args : Array Value} {below : List Frame} {meth : Method} {c : Code} {H : Heap} {locs : List Loc} {cells slots : Nat} {Q : State → Prop}
variable {mc ms : Nat} {free : Addr → Prop} {A0 A1 : Nat → Prop} {H0 : Heap} {a : Array Value} {ls : Array Slot} {st0 rest : List Value}
variable {Qc : Array Value → State → Outcome → State → Prop} {XC : String → State → State → Prop}
/-- what a body that may throw owes at its end -/
def vx_MQ (below : List Frame) (Qc : Array Value → State → Outcome → State → Prop) (XC : String → State → State → Prop) (a : Array Value) (s : State) (mc ms : Nat) (free : Addr → Prop) : State → Prop := fun t =>
  ∃ o, t.status = .running ∧ Ended t below o ∧ vx_Q Qc XC mc ms free a s o t
theorem vx_ret {g : JFrame} {mc ms : Nat} (k : W p l e R s m args below meth c H locs cells slots (MQ below Qc args s mc ms free) g) : W p l e R s m args below meth c H locs cells slots (vx_MQ below Qc XC args s mc ms free) g := by
  intro T hT X
  obtain ⟨t, a1, o, b1, b2, b3, b4⟩ := k T hT X
  exact ⟨t, a1, o, b1, b2, Or.inl ⟨b3, b4⟩⟩
/-- not caught here: it goes on to the caller -/
theorem vx_widen {g : JFrame} {q : Addr} {k n : Nat} (h1 : cells ≤ k) (h2 : slots ≤ n) (kk : vx_W p l e R s m args below meth c H locs k n Q g q) : vx_W p l e R s m args below meth c H locs cells slots Q g q := fun T hT X => kk T hT (stand_widen X h1 h2)
theorem vx_out {pc : Nat} {E : String} {ce : Cell} {q : Addr} {mc ms : Nat} (hout : ∀ x ∈ c.exceptionTable.toList, covers x pc = false) (hlocks : meth.locks = false) (hcell : H[q]? = some ce) (hv : ce.vm = .none) (hcl : s.vm.findClass E = some ce.cls)
    (hx : ∀ t : State, t.heap = H → s.vm.Alike t.vm → XC E s t) (hf : ∀ z ∈ locs, free z.base) (hc : cells ≤ mc) (hs : slots ≤ ms) :
    vx_W p l e R s m args below meth c H locs cells slots (vx_MQ below Qc XC args s mc ms free) (F0 m pc ls rest) q := by
  intro T hT X
  obtain ⟨st1, hrun, hend, hW, hsm⟩ := X.leaveThrown q (g := F0 m pc ls rest) rfl rfl rfl hout hlocks
  have hcell9 : (T.setFrames (.throwing q :: below)).heap[q]? = some ce := by
    show T.heap[q]? = some ce
    rw [hT]; exact hcell
  exact ⟨_, st1, .threw q, hrun, hend, Or.inr ⟨q, rfl, E, ce, locs, hx _ hT hW.alike, hcell9, hv, hcl, hW, hsm.mono hc hs, hf⟩⟩
theorem vx_frame {U : State} {k n : Nat} (h : s.sameButNew ({ U with vm := s.vm } : State) locs k n) : s.heap.size ≤ U.heap.size ∧ ∀ q : Nat, q < s.heap.size → (∀ z ∈ locs, z.base ≠ q) → U.heap[q]? = s.heap[q]? := by
  obtain ⟨-, h2, -, -, -, h6⟩ := h
  refine ⟨h2, fun q hq hz => ?_⟩
  obtain ⟨c9, e1, e2, e3, e4⟩ := h6 q _ (Array.getElem?_eq_getElem hq)
  have hs : c9.slots = (s.heap[q]).slots := Array.ext_getElem? fun i => e4 i fun hm => hz _ hm rfl
  have h9 : c9 = s.heap[q] := by
    rw [hs] at e2
    exact e2
  have e5 : U.heap[q]? = some c9 := e1
  rw [e5, h9, Array.getElem?_eq_getElem hq]
/-- the words of a throw but the four that speak of the heap -/
def vx_no (w : Cond) : Bool := decide (w ≠ .isRef (.static Bundle.tN "UNASSIGNED_STACK" Bundle.steD)) && decide (w ≠ .isRef (.static Bundle.tN "SUPPRESSED_SENTINEL" Bundle.listD)) && decide (w ≠ .laysStatic Bundle.tN "UNASSIGNED_STACK" Bundle.steD) && decide (w ≠ .laysStatic Bundle.tN "SUPPRESSED_SENTINEL" Bundle.listD)
def vx_at0 (own : String) (ic : Nat) (X : String) (names : List String) : List Cond := (Bundle.ownAtoms0 own ic X names).filter vx_no
def vx_atS (own : String) (ic : Nat) (X : String) (names : List String) : List Cond := (Bundle.ownAtoms own ic X names).filter vx_no
/-- a word that the tables alone decide, or a good one -/
def vx_ot (w : Cond) : Bool := w.onTables || goodWord w
theorem vx_ot_at {args a' : Array Value} {s U : State} {w : Cond} (hW : s.WarmedH U.vm) (hvm : s.vm = U.vm) (hg : vx_ot w = true) (h : w.before args s = true) : w.before a' U = true := by
  simp only [vx_ot, Bool.or_eq_true] at hg
  rcases hg with hg | hg
  · exact va_tabs hg hvm h
  · exact word_at hW (good_of_word hg) h
/-- a list's words: the good ones out of the method's own list, the others by premises of their own -/
theorem vx_hat {args : Array Value} {s : State} {L B : List Cond} (h1 : ∀ w ∈ L.filter goodWord, w.before args s = true) (h2 : ∀ w ∈ L.filter (fun w => !goodWord w), w ∈ B) (h3 : ∀ w ∈ B, w.before args s = true) : ∀ w ∈ L, w.before args s = true := by
  intro w hw
  by_cases g : goodWord w = true
  · exact h1 w (List.mem_filter.mpr ⟨hw, g⟩)
  · refine h3 w (h2 w (List.mem_filter.mpr ⟨hw, ?_⟩))
    show (!goodWord w) = true
    cases hgw : goodWord w
    · rfl
    · exact absurd hgw g
theorem vx_c {args : Array Value} {s : State} {w : Cond} {B : List Cond} (h : w.before args s = true) (t : ∀ w ∈ B, w.before args s = true) : ∀ w' ∈ w :: B, w'.before args s = true := fun w' h' => (List.mem_cons.mp h').elim (fun e => by rw [e]; exact h) (t w')
theorem vx_n {args : Array Value} {s : State} : ∀ w ∈ ([] : List Cond), w.before args s = true := fun _ h => nomatch h
theorem vx_own {args : Array Value} {s : State} {L : List Cond} (h1 : ∀ w ∈ L.filter vx_no, w.before args s = true)
    (hU : (Cond.isRef (.static Bundle.tN "UNASSIGNED_STACK" Bundle.steD)).before args s = true) (hN : (Cond.isRef (.static Bundle.tN "SUPPRESSED_SENTINEL" Bundle.listD)).before args s = true)
    (lU : (Cond.laysStatic Bundle.tN "UNASSIGNED_STACK" Bundle.steD).before args s = true) (lN : (Cond.laysStatic Bundle.tN "SUPPRESSED_SENTINEL" Bundle.listD).before args s = true) : ∀ w ∈ L, w.before args s = true := by
  intro w hw
  by_cases e1 : w = .isRef (.static Bundle.tN "UNASSIGNED_STACK" Bundle.steD)
  · rw [e1]; exact hU
  · by_cases e2 : w = .isRef (.static Bundle.tN "SUPPRESSED_SENTINEL" Bundle.listD)
    · rw [e2]; exact hN
    · by_cases e3 : w = .laysStatic Bundle.tN "UNASSIGNED_STACK" Bundle.steD
      · rw [e3]; exact lU
      · by_cases e4 : w = .laysStatic Bundle.tN "SUPPRESSED_SENTINEL" Bundle.listD
        · rw [e4]; exact lN
        · exact h1 w (List.mem_filter.mpr ⟨hw, by unfold vx_no; rw [decide_eq_true e1, decide_eq_true e2, decide_eq_true e3, decide_eq_true e4]; rfl⟩)
/-- where a static field lies, its class's statics cell in H -/
def vx_L (C n d : String) (A : Nat → Prop) (U : State) (H : Heap) : Prop := ∃ (c : ClassId) (k : Class) (i : Nat) (f : Field) (a : Nat) (cell : Cell), U.vm.findClass C = some c ∧ U.fieldFound? C n d = some (c, k, i, f) ∧ f.isStatic = true ∧ k.statics = some a ∧ H[a]? = some cell ∧ cell.vm.isStatics = true ∧ cell.cls = c ∧ f.slot < cell.slots.size ∧ k.staticTypes[f.slot]? = some f.type ∧ ¬ A a
theorem vx_L.moved {C n d : String} {A : Nat → Prop} {u U : State} {H : Heap} (hvm : u.vm.Alike U.vm) (h : vx_L C n d A u H) : vx_L C n d A U H := by
  obtain ⟨c, k, i, f, a, cell, h1, h2, h3, h4, h5, h6, h7, h8, h9, h10⟩ := h
  obtain ⟨k', hi', he⟩ := State.fieldFound?_setVm hvm h2
  exact ⟨c, k', i, f, a, cell, by rw [hvm.findClass]; exact h1, hi', h3, by rw [he]; exact h4, h5, h6, h7, h8, by rw [he]; exact h9, h10⟩
theorem vx_L.kept {C n d : String} {A : Nat → Prop} {U : State} {H H1 : Heap} (h : vx_L C n d A U H) (hq : ∀ a : Nat, a < H.size → ¬ A a → H1[a]? = H[a]?) : vx_L C n d A U H1 := by
  obtain ⟨c, k, i, f, a, cell, h1, h2, h3, h4, h5, h6, h7, h8, h9, h10⟩ := h
  exact ⟨c, k, i, f, a, cell, h1, h2, h3, h4, by rw [hq a (Array.getElem?_eq_some_iff.mp h5).1 h10]; exact h5, h6, h7, h8, h9, h10⟩
theorem vx_L.narrow {C n d : String} {A B : Nat → Prop} {U : State} {H : Heap} (h : vx_L C n d A U H) (hAB : ∀ q, B q → A q) : vx_L C n d B U H := by
  obtain ⟨c, k, i, f, a, cell, h1, h2, h3, h4, h5, h6, h7, h8, h9, h10⟩ := h
  exact ⟨c, k, i, f, a, cell, h1, h2, h3, h4, h5, h6, h7, h8, h9, fun z => h10 (hAB _ z)⟩
theorem vx_L.word {C n d : String} {A : Nat → Prop} {s : State} {args : Array Value} (h : vx_L C n d A s s.heap) : (Cond.laysStatic C n d).before args s = true := by
  obtain ⟨c, k, i, f, a, cell, h1, h2, h3, h4, h5, h6, h7, h8, h9, -⟩ := h
  show (Cond.laysStatic C n d).holds args s none s [] = true
  exact Cond.laysStatic_of h1 h2 h3 h4 h5 h6 h7 h8 h9
/-- .. and what it holds: null or some reference -/
def vx_Zq (C n d : String) (A : Nat → Prop) (U : State) (H : Heap) : Prop := va_Zq C n d A U H ∧ vx_L C n d A U H
theorem vx_Zq.moved {C n d : String} {A : Nat → Prop} {u U : State} {H : Heap} (hvm : u.vm.Alike U.vm) (h : vx_Zq C n d A u H) : vx_Zq C n d A U H := ⟨va_Zq.moved hvm h.1, vx_L.moved hvm h.2⟩
theorem vx_Zq.kept {C n d : String} {A : Nat → Prop} {U : State} {H H1 : Heap} (h : vx_Zq C n d A U H) (hq : ∀ a : Nat, a < H.size → ¬ A a → H1[a]? = H[a]?) : vx_Zq C n d A U H1 := ⟨va_Zq.kept h.1 hq, vx_L.kept h.2 hq⟩
theorem vx_Zq.narrow {C n d : String} {A B : Nat → Prop} {U : State} {H : Heap} (h : vx_Zq C n d A U H) (hAB : ∀ q, B q → A q) : vx_Zq C n d B U H := ⟨va_Zq.narrow h.1 hAB, vx_L.narrow h.2 hAB⟩
theorem vx_Zqof {args : Array Value} {s : State} {C n d : String} {A : Nat → Prop} (hl : (Cond.laysStatic C n d).before args s = true) (hini : (Cond.initialized C).before args s = true) (h : (Cond.isRef (.static C n d)).before args s = true) (hA : ∀ a : Nat, a < s.heap.size → ¬ A a) : vx_Zq C n d A s s.heap := by
  refine ⟨va_Zqof hl hini h hA, ?_⟩
  obtain ⟨c, k, i, f, a, cell, h1, h2, h3, h4, h5, h6, h7, h8, h9⟩ := Cond.laysStatic_spec hl
  exact ⟨c, k, i, f, a, cell, h1, h2, h3, h4, h5, h6, h7, h8, h9, hA a (Array.getElem?_eq_some_iff.mp h5).1⟩
theorem vx_isRef {C n d : String} {v : Value} {A : Nat → Prop} {s : State} {args : Array Value} (h : va_Z C n d v A s s.heap) (hv : v.isRef = true) : (Cond.isRef (.static C n d)).before args s = true := by
  obtain ⟨cf, kf, fi, f, a, cell, h1, h2, h3, h4, h5, h6, h7, -⟩ := h
  have he : (Term.static C n d).eval args s none [] s = some v := by
    simp [Term.eval, State.fieldNamed?, h1, h2, h4, h5, h6, h7]
  simp only [Cond.before, Cond.holds, Cond.value, he]
  cases v <;> simp_all [Value.isRef]
theorem vx_isRefq {C n d : String} {A : Nat → Prop} {s : State} {args : Array Value} (h : va_Zq C n d A s s.heap) : (Cond.isRef (.static C n d)).before args s = true := by
  rcases h with h | ⟨t, h⟩
  · exact vx_isRef h rfl
  · exact vx_isRef h rfl
/-- the same frame, seen from here: as if the method were called anew in this heap -/
theorem vx_rebase {T : State} (X : Stand p l e R s m args below meth c T locs cells slots) {R' : Room} (hf : R'.frames ≤ R.frames) (hl : R'.locals ≤ R.locals) (hc : cells + R'.cells ≤ R.cells) (hs : slots + R'.slots ≤ R.slots) :
    Stand p l e R' ((T.setVm s.vm).setFrames (.invoking m args :: below)) m args below meth c T [] 0 0 := by
  have htop : (T.setVm s.vm).topJava?.isSome := X.here.top
  have hF : ((T.setVm s.vm).setFrames (.invoking m args :: below)).frames = .invoking m args :: below := State.frames_setFrames _ (State.cur_lt_of_top htop)
  obtain ⟨g₀, hg0⟩ := Option.isSome_iff_exists.mp htop
  obtain ⟨r, hr⟩ := State.topJava?_eq_some.mp hg0
  have hl9 : e.platform.stackLimits (T.setVm s.vm).me = e.platform.stackLimits s.me := X.limits
  have hb9 : (T.setVm s.vm).me.stackBytes = s.me.stackBytes := X.bytes
  refine ⟨X.admits, X.cas, X.clock, hF, ?_, X.hears, X.method, X.code, X.here, X.tail, X.warmed, ?_, ?_, ?_⟩
  · have h := X.room
    have hU : ((T.setVm s.vm).setFrames (.invoking m args :: below)).localsInUse = s.localsInUse := by
      rw [State.localsInUse_invoking hF (meth := meth) (c := c) X.method X.code, State.localsInUse_invoking X.frames X.method X.code]
    simp only [State.hasRoom, Bool.and_eq_true, decide_eq_true_eq] at h ⊢
    obtain ⟨⟨⟨⟨h1, h2, h3, h4, h5, h6⟩, h7⟩, h8⟩, h9⟩ := h
    rw [X.frames, List.length_cons] at h2 h3
    have q1 := X.heapSize
    have q2 := X.used
    simp only [hF, hU, List.length_cons, State.stackLimits_setFrames, State.stackBytes_setFrames, hl9, hb9]
    refine ⟨⟨⟨⟨by omega, by omega, by omega, by omega, by omega, h6⟩, ?_⟩, ?_⟩, X.book⟩
    · show T.heap.size + R'.cells ≤ e.platform.maxCells
      omega
    · show T.slotsUsed + R'.slots ≤ e.platform.maxSlots
      omega
  · rw [State.stackLimits_setFrames]; rfl
  · rw [State.stackBytes_setFrames]; rfl
  · refine ⟨?_, Nat.le_refl _, Nat.le_refl _, ?_, ?_, fun a c9 h9 => ⟨c9, h9, rfl, rfl, fun _ _ => rfl⟩⟩
    · obtain ⟨t, ht, -⟩ := State.frames_cons hr
      show T.setVm s.vm = { ((T.setVm s.vm).setFrames (.invoking m args :: below)).setFrames (T.setVm s.vm).frames with heap := T.heap, slotsUsed := T.slotsUsed }
      rw [State.setFrames_setFrames, State.setFrames_self ht]
      rfl
    · show T.slotsUsed = T.slotsUsed + ((T.heap.toList.drop T.heap.size).map (·.slots.size)).sum
      rw [List.drop_eq_nil_of_le (Nat.le_of_eq Array.length_toList)]
      rfl
    · show ((T.heap.toList.drop T.heap.size).map (·.slots.size)).sum ≤ 0
      rw [List.drop_eq_nil_of_le (Nat.le_of_eq Array.length_toList)]
      exact Nat.le_refl _
/-- 'throw new E()': new; dup; invokespecial; athrow -/
theorem vx_throw0 {cc : ByteArray} {pc : Nat} (hexec : p.tables.exec = Jvm.exec) (hb : c.code = cc) (hl : l.stackTraces = false) {own cls : String} {names : List String} {ik ic mc ms : Nat} {A : Nat → Prop}
    (hown : s.vm.findClass own = some m.cls) (hcls : Bundle.fit cls = true) (hnames : ∀ n ∈ names, Bundle.fit n = true)
    (hk : (Cond.classLink own ik cls).before args s = true) (hini : (Cond.initialized cls).before args s = true) (hat : ∀ w ∈ vx_at0 own ic cls names, w.before args s = true)
    (hgood : ∀ w ∈ Cond.classLink own ik cls :: Cond.initialized cls :: vx_at0 own ic cls names, vx_ot w = true)
    (hU : vx_Zq Bundle.tN "UNASSIGNED_STACK" Bundle.steD A s s.heap) (hN : vx_Zq Bundle.tN "SUPPRESSED_SENTINEL" Bundle.listD A s s.heap) (hS : va_S A s.heap H locs) (hsize : ls.size = c.maxLocals)
    (d0 : decode cc pc = .ok (.new ik, 3)) (d3 : decode cc (pc + 3) = .ok (.dup, 1)) (d4 : decode cc (pc + 4) = .ok (.invokespecial ic, 3)) (d7 : decode cc (pc + 7) = .ok (.athrow, 1))
    (hout : ∀ x ∈ c.exceptionTable.toList, covers x (pc + 7) = false)
    (hRframes : names.length + 3 < R.frames) (hRlocals : (rest.map fun v => v.category).sum + (13 * (names.length + 1) + 42) ≤ R.locals) (hRcells : cells + 1 ≤ R.cells) (hRslots : slots + 6 ≤ R.slots) (hlocks : meth.locks = false)
    (hx : ∀ t : State, s.vm.Alike t.vm → H.size ≤ t.heap.size → (∀ q : Nat, q < H.size → t.heap[q]? = H[q]?) → XC cls s t)
    (hf : ∀ z ∈ locs, free z.base) (hc : cells + 1 ≤ mc) (hs : slots + 6 ≤ ms) :
    W p l e R s m args below meth c H locs cells slots (vx_MQ below Qc XC args s mc ms free) (F0 m pc ls rest) := by
  intro T hT X
  have htr : e.platform.stackTraces = false := (show e.platform.stackTraces = l.stackTraces by rw [X.admits.platform]).trans hl
  have Y := vx_rebase X (R' := { frames := R.frames, locals := R.locals, cells := 1, slots := 6 }) (Nat.le_refl _) (Nat.le_refl _) hRcells hRslots
  obtain ⟨s', hA⟩ : ∃ z, z = (T.setVm s.vm).setFrames (.invoking m args :: below) := ⟨_, rfl⟩
  rw [← hA] at Y
  have hvm : s'.vm = s.vm := by rw [hA]; rfl
  have hhp : s'.heap = H := by rw [hA]; exact hT
  have hW0 : s.WarmedH s'.vm := by rw [hvm]; exact State.WarmedH.refl s
  have hat' : ∀ w ∈ vx_at0 own ic cls names, w.before args s' = true := fun w hw => vx_ot_at hW0 hvm.symm (hgood w (List.mem_cons_of_mem _ (List.mem_cons_of_mem _ hw))) (hat w hw)
  have hk' : (Cond.classLink own ik cls).before args s' = true := vx_ot_at hW0 hvm.symm (hgood _ List.mem_cons_self) hk
  have hini' : (Cond.initialized cls).before args s' = true := vx_ot_at hW0 hvm.symm (hgood _ (List.mem_cons_of_mem _ List.mem_cons_self)) hini
  have hU' : vx_Zq Bundle.tN "UNASSIGNED_STACK" Bundle.steD A s' s'.heap := by rw [hhp]; exact vx_Zq.moved hW0.alike (hU.kept hS.2.1)
  have hN' : vx_Zq Bundle.tN "SUPPRESSED_SENTINEL" Bundle.listD A s' s'.heap := by rw [hhp]; exact vx_Zq.moved hW0.alike (hN.kept hS.2.1)
  have h : ∀ w ∈ Bundle.ownAtoms0 own ic cls names, w.before args s' = true := vx_own hat' (vx_isRefq hU'.1) (vx_isRefq hN'.1) hU'.2.word hN'.2.word
  have hown' : s'.vm.findClass own = some m.cls := by rw [hvm]; exact hown
  have hins : (Cond.instantiable cls 6).before args s' = true := h _ (by simp [Bundle.ownAtoms0])
  obtain ⟨vm₁, cX, kX, hfX, hkX, -, -, X₁, st1⟩ := Y.newCold hexec (own := own) (C := cls) (index := ik) (n := 6) hown' hk' hins hini'
    (g := F0 m pc ls rest) rfl (by rw [hb]; exact d0) (Nat.le_refl _) (Nat.le_refl _)
  generalize hT1 : (T.setVm vm₁).pushCell { cls := cX, slots := kX.instanceTypes.map defaultValue, vm := .none } = T1 at X₁ st1
  have hcat : (Value.ref T.heap.size).category = 1 := rfl
  have hcellA : T1.heap[T.heap.size]? = some (freshCell cX kX) := by rw [← hT1]; exact State.heap_pushCell_size _ _
  have d3' : decode c.code (pc + 3) = .ok (.dup, 1) := by rw [hb]; exact d3
  obtain ⟨U, hsteps, hrun, hend, hW, hsame, ce, hce, hO⟩ := X₁.ctorThrow0 hexec htr (own := own) (cls := cls) (names := names) (ic := ic) hown' hcls hnames h (fun x hx => nomatch hx) hfX hkX hcellA (by rw [hhp, hT]; exact Nat.le_refl _)
    (g := { method := m, pc := pc + 4, locals := ls, stack := .ref T.heap.size :: .ref T.heap.size :: rest, locked := none }) rfl hsize rfl rfl (rest := rest) rfl
    (by rw [hb]; exact d4) (by rw [hb]; exact d7) hout hRframes (by simp only [List.map_cons, List.sum_cons, hcat]; omega) hlocks
  obtain ⟨f1, f2⟩ := vx_frame hsame
  rw [hhp] at f1 f2
  have hWs : s.WarmedH U.vm := State.WarmedH.trans hW0 hW
  have hcl : s.vm.findClass cls = some ce.cls := by
    have h9 := hO.cls
    rw [hvm] at h9
    exact h9
  have hall : s.sameButNew ({ U with vm := s.vm } : State) locs mc ms := by
    subst hA
    obtain ⟨e1, e2⟩ := hsame
    rw [State.setFrames_setFrames] at e1
    have h2 : (T.setVm s.vm).sameButNew ({ U with vm := s.vm } : State) [] (0 + 1) (0 + 6) := ⟨e1, e2⟩
    have h3 := X.same.trans h2
    rw [List.append_nil] at h3
    exact h3.mono hc hs
  refine ⟨U, ?_, .threw T.heap.size, hrun, hend, Or.inr ⟨T.heap.size, rfl, cls, ce, locs, hx U hWs.alike f1 (fun q hq => f2 q hq (fun z hz => nomatch hz)), hce, hO.vm, hcl, hWs, hall, hf⟩⟩
  refine st1 _ ?_
  show Steps p.tables e below (T1.setTop { method := m, pc := pc + 3, locals := ls, stack := .ref T.heap.size :: rest, locked := none }) _
  jvm_step X₁.here [X₁.here.top, hexec, d3', Value.category]
  exact hsteps
/-- 'throw new E("text")': new; dup; ldc; invokespecial; athrow -/
theorem vx_throwS {cc : ByteArray} {pc : Nat} (hexec : p.tables.exec = Jvm.exec) (hb : c.code = cc) (hl : l.stackTraces = false) {own cls text : String} {names : List String} {ik is ic mc ms sa : Nat} {A : Nat → Prop}
    (hown : s.vm.findClass own = some m.cls) (hcls : Bundle.fit cls = true) (hnames : ∀ n ∈ names, Bundle.fit n = true)
    (hk : (Cond.classLink own ik cls).before args s = true) (hini : (Cond.initialized cls).before args s = true) (hstr : vk_R own is text sa s) (hat : ∀ w ∈ vx_atS own ic cls names, w.before args s = true)
    (hgood : ∀ w ∈ Cond.classLink own ik cls :: Cond.initialized cls :: vx_atS own ic cls names, vx_ot w = true)
    (hU : vx_Zq Bundle.tN "UNASSIGNED_STACK" Bundle.steD A s s.heap) (hN : vx_Zq Bundle.tN "SUPPRESSED_SENTINEL" Bundle.listD A s s.heap) (hS : va_S A s.heap H locs) (hsize : ls.size = c.maxLocals)
    (d0 : decode cc pc = .ok (.new ik, 3)) (d3 : decode cc (pc + 3) = .ok (.dup, 1)) (d4 : decode cc (pc + 4) = .ok (.ldc is, 2)) (d6 : decode cc (pc + 6) = .ok (.invokespecial ic, 3)) (d9 : decode cc (pc + 9) = .ok (.athrow, 1))
    (hout : ∀ x ∈ c.exceptionTable.toList, covers x (pc + 9) = false)
    (hRframes : names.length + 3 < R.frames) (hRlocals : (rest.map fun v => v.category).sum + (13 * (names.length + 1) + 43) ≤ R.locals) (hRcells : cells + 1 ≤ R.cells) (hRslots : slots + 6 ≤ R.slots) (hlocks : meth.locks = false)
    (hx : ∀ t : State, s.vm.Alike t.vm → H.size ≤ t.heap.size → (∀ q : Nat, q < H.size → t.heap[q]? = H[q]?) → XC cls s t)
    (hf : ∀ z ∈ locs, free z.base) (hc : cells + 1 ≤ mc) (hs : slots + 6 ≤ ms) :
    W p l e R s m args below meth c H locs cells slots (vx_MQ below Qc XC args s mc ms free) (F0 m pc ls rest) := by
  intro T hT X
  have htr : e.platform.stackTraces = false := (show e.platform.stackTraces = l.stackTraces by rw [X.admits.platform]).trans hl
  have Y := vx_rebase X (R' := { frames := R.frames, locals := R.locals, cells := 1, slots := 6 }) (Nat.le_refl _) (Nat.le_refl _) hRcells hRslots
  obtain ⟨s', hA⟩ : ∃ z, z = (T.setVm s.vm).setFrames (.invoking m args :: below) := ⟨_, rfl⟩
  rw [← hA] at Y
  have hvm : s'.vm = s.vm := by rw [hA]; rfl
  have hhp : s'.heap = H := by rw [hA]; exact hT
  have hW0 : s.WarmedH s'.vm := by rw [hvm]; exact State.WarmedH.refl s
  have hat' : ∀ w ∈ vx_atS own ic cls names, w.before args s' = true := fun w hw => vx_ot_at hW0 hvm.symm (hgood w (List.mem_cons_of_mem _ (List.mem_cons_of_mem _ hw))) (hat w hw)
  have hk' : (Cond.classLink own ik cls).before args s' = true := vx_ot_at hW0 hvm.symm (hgood _ List.mem_cons_self) hk
  have hini' : (Cond.initialized cls).before args s' = true := vx_ot_at hW0 hvm.symm (hgood _ (List.mem_cons_of_mem _ List.mem_cons_self)) hini
  have hU' : vx_Zq Bundle.tN "UNASSIGNED_STACK" Bundle.steD A s' s'.heap := by rw [hhp]; exact vx_Zq.moved hW0.alike (hU.kept hS.2.1)
  have hN' : vx_Zq Bundle.tN "SUPPRESSED_SENTINEL" Bundle.listD A s' s'.heap := by rw [hhp]; exact vx_Zq.moved hW0.alike (hN.kept hS.2.1)
  have h : ∀ w ∈ Bundle.ownAtoms own ic cls names, w.before args s' = true := vx_own hat' (vx_isRefq hU'.1) (vx_isRefq hN'.1) hU'.2.word hN'.2.word
  have hown' : s'.vm.findClass own = some m.cls := by rw [hvm]; exact hown
  have hins : (Cond.instantiable cls 6).before args s' = true := h _ (by simp [Bundle.ownAtoms])
  obtain ⟨vm₁, cX, kX, hfX, hkX, -, -, X₁, st1⟩ := Y.newCold hexec (own := own) (C := cls) (index := ik) (n := 6) hown' hk' hins hini'
    (g := F0 m pc ls rest) rfl (by rw [hb]; exact d0) (Nat.le_refl _) (Nat.le_refl _)
  generalize hT1 : (T.setVm vm₁).pushCell { cls := cX, slots := kX.instanceTypes.map defaultValue, vm := .none } = T1 at X₁ st1
  have hcat : (Value.ref T.heap.size).category = 1 := rfl
  have hcellA : T1.heap[T.heap.size]? = some (freshCell cX kX) := by rw [← hT1]; exact State.heap_pushCell_size _ _
  have d3' : decode c.code (pc + 3) = .ok (.dup, 1) := by rw [hb]; exact d3
  have d4' : decode c.code (pc + 4) = .ok (.ldc is, 2) := by rw [hb]; exact d4
  have hstr' : vk_R own is text sa s' := vk_R.warm hW0 hstr
  obtain ⟨U, hsteps, hrun, hend, hW, hsame, ce, hce, hO⟩ := X₁.ctorThrowS hexec htr (own := own) (cls := cls) (names := names) (ic := ic) hown' hcls hnames h (fun x hx => nomatch hx) hfX hkX hcellA (by rw [hhp, hT]; exact Nat.le_refl _) (msg := .ref sa) rfl
    (g := { method := m, pc := pc + 6, locals := ls, stack := .ref sa :: .ref T.heap.size :: .ref T.heap.size :: rest, locked := none }) rfl hsize rfl rfl (rest := rest) rfl
    (by rw [hb]; exact d6) (by rw [hb]; exact d9) hout hRframes (by simp only [List.map_cons, List.sum_cons, hcat]; omega) hlocks
  obtain ⟨f1, f2⟩ := vx_frame hsame
  rw [hhp] at f1 f2
  have hWs : s.WarmedH U.vm := State.WarmedH.trans hW0 hW
  have hcl : s.vm.findClass cls = some ce.cls := by
    have h9 := hO.cls
    rw [hvm] at h9
    exact h9
  have hall : s.sameButNew ({ U with vm := s.vm } : State) locs mc ms := by
    subst hA
    obtain ⟨e1, e2⟩ := hsame
    rw [State.setFrames_setFrames] at e1
    have h2 : (T.setVm s.vm).sameButNew ({ U with vm := s.vm } : State) [] (0 + 1) (0 + 6) := ⟨e1, e2⟩
    have h3 := X.same.trans h2
    rw [List.append_nil] at h3
    exact h3.mono hc hs
  refine ⟨U, ?_, .threw T.heap.size, hrun, hend, Or.inr ⟨T.heap.size, rfl, cls, ce, locs, hx U hWs.alike f1 (fun q hq => f2 q hq (fun z hz => nomatch hz)), hce, hO.vm, hcl, hWs, hall, hf⟩⟩
  refine st1 _ ?_
  show Steps p.tables e below (T1.setTop { method := m, pc := pc + 3, locals := ls, stack := .ref T.heap.size :: rest, locked := none }) _
  jvm_step X₁.here [X₁.here.top, hexec, d3', Value.category]
  exact X₁.ldcString hexec (own := own) (text := text) (index := is) (a := sa) hown' hstr'.1 hstr'.2
    (g := { method := m, pc := pc + 4, locals := ls, stack := .ref T.heap.size :: .ref T.heap.size :: rest, locked := none }) rfl d4' _ hsteps
/-- 'throw new E("text")', the text by a wide index -/
theorem vx_throwSW {cc : ByteArray} {pc : Nat} (hexec : p.tables.exec = Jvm.exec) (hb : c.code = cc) (hl : l.stackTraces = false) {own cls text : String} {names : List String} {ik is ic mc ms sa : Nat} {A : Nat → Prop}
    (hown : s.vm.findClass own = some m.cls) (hcls : Bundle.fit cls = true) (hnames : ∀ n ∈ names, Bundle.fit n = true)
    (hk : (Cond.classLink own ik cls).before args s = true) (hini : (Cond.initialized cls).before args s = true) (hstr : vk_R own is text sa s) (hat : ∀ w ∈ vx_atS own ic cls names, w.before args s = true)
    (hgood : ∀ w ∈ Cond.classLink own ik cls :: Cond.initialized cls :: vx_atS own ic cls names, vx_ot w = true)
    (hU : vx_Zq Bundle.tN "UNASSIGNED_STACK" Bundle.steD A s s.heap) (hN : vx_Zq Bundle.tN "SUPPRESSED_SENTINEL" Bundle.listD A s s.heap) (hS : va_S A s.heap H locs) (hsize : ls.size = c.maxLocals)
    (d0 : decode cc pc = .ok (.new ik, 3)) (d3 : decode cc (pc + 3) = .ok (.dup, 1)) (d4 : decode cc (pc + 4) = .ok (.ldc_w is, 3)) (d7 : decode cc (pc + 7) = .ok (.invokespecial ic, 3)) (d10 : decode cc (pc + 10) = .ok (.athrow, 1))
    (hout : ∀ x ∈ c.exceptionTable.toList, covers x (pc + 10) = false)
    (hRframes : names.length + 3 < R.frames) (hRlocals : (rest.map fun v => v.category).sum + (13 * (names.length + 1) + 43) ≤ R.locals) (hRcells : cells + 1 ≤ R.cells) (hRslots : slots + 6 ≤ R.slots) (hlocks : meth.locks = false)
    (hx : ∀ t : State, s.vm.Alike t.vm → H.size ≤ t.heap.size → (∀ q : Nat, q < H.size → t.heap[q]? = H[q]?) → XC cls s t)
    (hf : ∀ z ∈ locs, free z.base) (hc : cells + 1 ≤ mc) (hs : slots + 6 ≤ ms) :
    W p l e R s m args below meth c H locs cells slots (vx_MQ below Qc XC args s mc ms free) (F0 m pc ls rest) := by
  intro T hT X
  have htr : e.platform.stackTraces = false := (show e.platform.stackTraces = l.stackTraces by rw [X.admits.platform]).trans hl
  have Y := vx_rebase X (R' := { frames := R.frames, locals := R.locals, cells := 1, slots := 6 }) (Nat.le_refl _) (Nat.le_refl _) hRcells hRslots
  obtain ⟨s', hA⟩ : ∃ z, z = (T.setVm s.vm).setFrames (.invoking m args :: below) := ⟨_, rfl⟩
  rw [← hA] at Y
  have hvm : s'.vm = s.vm := by rw [hA]; rfl
  have hhp : s'.heap = H := by rw [hA]; exact hT
  have hW0 : s.WarmedH s'.vm := by rw [hvm]; exact State.WarmedH.refl s
  have hat' : ∀ w ∈ vx_atS own ic cls names, w.before args s' = true := fun w hw => vx_ot_at hW0 hvm.symm (hgood w (List.mem_cons_of_mem _ (List.mem_cons_of_mem _ hw))) (hat w hw)
  have hk' : (Cond.classLink own ik cls).before args s' = true := vx_ot_at hW0 hvm.symm (hgood _ List.mem_cons_self) hk
  have hini' : (Cond.initialized cls).before args s' = true := vx_ot_at hW0 hvm.symm (hgood _ (List.mem_cons_of_mem _ List.mem_cons_self)) hini
  have hU' : vx_Zq Bundle.tN "UNASSIGNED_STACK" Bundle.steD A s' s'.heap := by rw [hhp]; exact vx_Zq.moved hW0.alike (hU.kept hS.2.1)
  have hN' : vx_Zq Bundle.tN "SUPPRESSED_SENTINEL" Bundle.listD A s' s'.heap := by rw [hhp]; exact vx_Zq.moved hW0.alike (hN.kept hS.2.1)
  have h : ∀ w ∈ Bundle.ownAtoms own ic cls names, w.before args s' = true := vx_own hat' (vx_isRefq hU'.1) (vx_isRefq hN'.1) hU'.2.word hN'.2.word
  have hown' : s'.vm.findClass own = some m.cls := by rw [hvm]; exact hown
  have hins : (Cond.instantiable cls 6).before args s' = true := h _ (by simp [Bundle.ownAtoms])
  obtain ⟨vm₁, cX, kX, hfX, hkX, -, -, X₁, st1⟩ := Y.newCold hexec (own := own) (C := cls) (index := ik) (n := 6) hown' hk' hins hini'
    (g := F0 m pc ls rest) rfl (by rw [hb]; exact d0) (Nat.le_refl _) (Nat.le_refl _)
  generalize hT1 : (T.setVm vm₁).pushCell { cls := cX, slots := kX.instanceTypes.map defaultValue, vm := .none } = T1 at X₁ st1
  have hcat : (Value.ref T.heap.size).category = 1 := rfl
  have hcellA : T1.heap[T.heap.size]? = some (freshCell cX kX) := by rw [← hT1]; exact State.heap_pushCell_size _ _
  have d3' : decode c.code (pc + 3) = .ok (.dup, 1) := by rw [hb]; exact d3
  have d4' : decode c.code (pc + 4) = .ok (.ldc_w is, 3) := by rw [hb]; exact d4
  have hstr' : vk_R own is text sa s' := vk_R.warm hW0 hstr
  obtain ⟨U, hsteps, hrun, hend, hW, hsame, ce, hce, hO⟩ := X₁.ctorThrowS hexec htr (own := own) (cls := cls) (names := names) (ic := ic) hown' hcls hnames h (fun x hx => nomatch hx) hfX hkX hcellA (by rw [hhp, hT]; exact Nat.le_refl _) (msg := .ref sa) rfl
    (g := { method := m, pc := pc + 7, locals := ls, stack := .ref sa :: .ref T.heap.size :: .ref T.heap.size :: rest, locked := none }) rfl hsize rfl rfl (rest := rest) rfl
    (by rw [hb]; exact d7) (by rw [hb]; exact d10) hout hRframes (by simp only [List.map_cons, List.sum_cons, hcat]; omega) hlocks
  obtain ⟨f1, f2⟩ := vx_frame hsame
  rw [hhp] at f1 f2
  have hWs : s.WarmedH U.vm := State.WarmedH.trans hW0 hW
  have hcl : s.vm.findClass cls = some ce.cls := by
    have h9 := hO.cls
    rw [hvm] at h9
    exact h9
  have hall : s.sameButNew ({ U with vm := s.vm } : State) locs mc ms := by
    subst hA
    obtain ⟨e1, e2⟩ := hsame
    rw [State.setFrames_setFrames] at e1
    have h2 : (T.setVm s.vm).sameButNew ({ U with vm := s.vm } : State) [] (0 + 1) (0 + 6) := ⟨e1, e2⟩
    have h3 := X.same.trans h2
    rw [List.append_nil] at h3
    exact h3.mono hc hs
  refine ⟨U, ?_, .threw T.heap.size, hrun, hend, Or.inr ⟨T.heap.size, rfl, cls, ce, locs, hx U hWs.alike f1 (fun q hq => f2 q hq (fun z hz => nomatch hz)), hce, hO.vm, hcl, hWs, hall, hf⟩⟩
  refine st1 _ ?_
  show Steps p.tables e below (T1.setTop { method := m, pc := pc + 3, locals := ls, stack := .ref T.heap.size :: rest, locked := none }) _
  jvm_step X₁.here [X₁.here.top, hexec, d3', Value.category]
  exact X₁.ldcStringW hexec (own := own) (text := text) (index := is) (a := sa) hown' hstr'.1 hstr'.2
    (g := { method := m, pc := pc + 4, locals := ls, stack := .ref T.heap.size :: .ref T.heap.size :: rest, locked := none }) rfl d4' _ hsteps
end Ends
section Bodies
variable {l : Launch}
theorem vx_ofW {y : MethodName} {ws ws' : List Cond} {rm : Room} {Pc : Array Value → State → Prop} {Qc : Array Value → State → Outcome → State → Prop} {XC : String → State → State → Prop} {mc ms : Nat} {free : Addr → Prop} {cc : ByteArray} {maxL : Nat} {ret : Option FieldType}
    (hy : plainName y.cls = true) (hw : ws = Cond.code y cc maxL ret :: ws')
    (body : ∀ p e s m args below meth c s₁, BodyLoose p l y (headSpec ws rm) cc maxL ret e s m args below meth c s₁ → c.maxLocals = maxL → (∀ x ∈ c.exceptionTable.toList, False) → Pc args s →
      W p l e (headSpec ws rm).room s m args below meth c s.heap [] 0 0 (vx_MQ below Qc XC args s mc ms free) (entryFrame m args maxL)) : vx_Met l y ws rm Pc Qc XC mc ms free := by
  refine MetFree.of_bodyS (code := cc) (maxLocals := maxL) (ret := ret) hy ?_ ?_
  · intro args s m h hn
    obtain ⟨meth, c, h1, h2, h3, h4, h5, h6, -, -⟩ := Cond.code_spec hn (atoms_spec (ws := ws) h _ (by rw [hw]; exact List.mem_cons_self))
    exact ⟨meth, c, h1, h2, h3, h4, h5, h6⟩
  · intro p e s m args below meth c s₁ B hml hP _
    have hh0 : s₁.heap = s.heap := by rw [B.state]; rfl
    have ht : ∀ x ∈ c.exceptionTable.toList, False := by
      obtain ⟨meth9, c9, h1, h2, -, -, -, -, h7, -⟩ := Cond.code_spec B.named (atoms_spec (ws := ws) B.pre _ (by rw [hw]; exact List.mem_cons_self))
      cases Option.some.inj (h1.symm.trans B.method)
      cases Option.some.inj (h2.symm.trans (Stand.of_body B).code)
      intro x hx
      rw [Array.isEmpty_iff.mp h7] at hx
      cases hx
    obtain ⟨t, a1, o, b1, b2, b3⟩ := body p e s m args below meth c s₁ B hml ht hP s₁ hh0 (Stand.of_body B)
    exact ⟨t, o, a1, b1, b2, b3⟩
/-- the table of a body with handlers -/
theorem vx_table {p : Program} {x y : MethodName} {S : Spec} {cc bytes : ByteArray} {maxL maxL' : Nat} {ret ret' : Option FieldType} {e : Env} {s s₁ : State} {m : MethodId} {args : Array Value} {below : List Frame} {meth : Method} {c : Code} {hh : List (Nat × Nat × Nat × Nat)}
    (B : BodyLoose p l y S cc maxL ret e s m args below meth c s₁) (h : (Cond.codeWith y bytes maxL' ret' hh).before args s = true) : c.exceptionTable.toList = tableOf hh := by
  obtain ⟨m9, meth9, c9, hn9, h1, h2, -, -, h6, -⟩ := Cond.codeWith_spec h
  cases Option.some.inj (hn9.symm.trans B.named)
  cases Option.some.inj (h1.symm.trans B.method)
  cases Option.some.inj (h2.symm.trans (Stand.of_body B).code)
  rw [← h6, table_eq]
end Bodies
end VXA
/-! ===== END ===== -/
/-! ===== BEGIN a static call of a method with an exception table ===== -/
section VXS
variable {p : Program} {l : Launch} {e : Env} {R : Room} {s : State} {m : MethodId} {args : Array Value} {below : List Frame} {meth : Method} {c : Code} {T : State} {H : Heap} {locs : List Loc} {cells slots : Nat}
abbrev vx_CSW (R : Room) (s : State) (args : Array Value) (own : String) (index : Nat) (y : MethodName) (bytes : ByteArray) (maxL : Nat) (ret : Option FieldType) (hh : List (Nat × Nat × Nat × Nat)) (ws : List Cond) (rm : Room) (mc ms n : Nat) : Prop :=
  (rm.cells = mc ∧ rm.slots = ms ∧ rm.frames + 1 ≤ R.frames ∧ 8 + (maxL + 11) + rm.locals ≤ R.locals ∧ (∀ w ∈ ws, ∀ (a' : Array Value) (U : State), s.WarmedH U.vm → w.before a' U = true) ∧ Cond.codeWith y bytes maxL ret hh ∈ ws) ∧
  (Cond.codeWith y bytes maxL ret hh).before args s = true ∧ (Cond.initialized y.cls).before args s = true ∧ (y.cls ≠ "java/lang/invoke/MethodHandle" ∧ y.cls ≠ "java/lang/invoke/VarHandle") ∧
  (∀ sig, parseMethodDescriptor y.desc = some sig → n = sig.parameters.length) ∧ (Cond.methodLink own index y).before args s = true ∧ (Cond.static y).before args s = true
theorem vx_cwSW {own : String} {index maxL mc ms : Nat} {y : MethodName} {bytes : ByteArray} {ret : Option FieldType} {hh : List (Nat × Nat × Nat × Nat)} {Ts ws ws' : List Cond} {rm : Room} (n : Nat) (ht : ∀ w ∈ Ts, w.before args s = true) (hT : GoodIn Ts (va_wsS own index y ws)) (hw : ws = Cond.codeWith y bytes maxL ret hh :: ws') (hrc : rm.cells = mc) (hrs : rm.slots = ms)
    (hd : y.cls ≠ "java/lang/invoke/MethodHandle" ∧ y.cls ≠ "java/lang/invoke/VarHandle" ∧ (parseMethodDescriptor y.desc).map (fun d => d.parameters.length) = some n) (hR : rm.frames + 1 ≤ R.frames ∧ 8 + (maxL + 11) + rm.locals ≤ R.locals) :
    vx_CSW R s args own index y bytes maxL ret hh ws rm mc ms n := by
  have ok : ∀ w ∈ va_wsS own index y ws, w.before args s = true := fun w h => ht w (hT w h).1
  have hG : GoodIn Ts ws := fun w h => hT w (by unfold va_wsS; exact List.mem_append_right _ h)
  have hc : Cond.codeWith y bytes maxL ret hh ∈ ws := by rw [hw]; exact List.mem_cons_self
  refine ⟨⟨hrc, hrs, hR.1, hR.2, pay_in ht hG, hc⟩, ht _ (hG _ hc).1, ok _ (by simp [va_wsS]), ⟨hd.1, hd.2.1⟩, fun sig h => ?_, ok _ (by simp [va_wsS]), ok _ (by simp [va_wsS])⟩
  have h2 := hd.2.2
  rw [h] at h2
  exact (Option.some.inj h2).symm
theorem vx_callSW (X : Stand p l e R s m args below meth c T locs cells slots) (hexec : p.tables.exec = Jvm.exec) {own : String} {index : Nat} {y : MethodName} {bytes : ByteArray} {maxL : Nat} {ret : Option FieldType} {hh : List (Nat × Nat × Nat × Nat)}
    (hown : s.vm.findClass own = some m.cls) (hlink : (Cond.methodLink own index y).before args s = true) (hstat : (Cond.static y).before args s = true) (hinit : (Cond.initialized y.cls).before args s = true)
    (hcode : (Cond.codeWith y bytes maxL ret hh).before args s = true) (hy : y.cls ≠ "java/lang/invoke/MethodHandle" ∧ y.cls ≠ "java/lang/invoke/VarHandle")
    {W9 : Nat} {Pre : Pt → Array Value → Prop} {Post : Pt → Array Value → Option Value → Pt → Prop} (hK : Back l R p e below s args y 3 W9 Pre Post)
    {g : JFrame} (hg : g.method = m) (hsize : g.locals.size = c.maxLocals) {argsL rest : List Value} (hlen : ∀ sig, parseMethodDescriptor y.desc = some sig → argsL.length = sig.parameters.length)
    (hstack : g.stack = argsL.reverse ++ rest) (hW : 2 * g.monitorRoom + (rest.map fun v => v.category).sum ≤ W9) (hdg : decode c.code g.pc = .ok (.invokestatic index, 3))
    (hpre : ∀ vm₁, s.WarmedH vm₁ → Pre ⟨T.setVm vm₁, locs, cells, slots⟩ argsL.toArray) :
    ∃ (v : Option Value) (vm₁ : Vm) (B : Pt), s.WarmedH vm₁ ∧ Stand p l e R s m args below meth c B.U B.locs B.cells B.slots ∧ Post ⟨T.setVm vm₁, locs, cells, slots⟩ argsL.toArray v B ∧
      ∀ target, Steps p.tables e below (B.U.setTop { g with pc := g.pc + 3, stack := v.toList ++ rest }) target → Steps p.tables e below (T.setTop g) target := by
  obtain ⟨mk, methM, cM, hnamed, hmethM, -, -, -, -, -, -, hsigM⟩ := Cond.codeWith_spec hcode
  have hstatic : methM.isStatic = true := Cond.static_spec hnamed hmethM hstat
  obtain ⟨kP, hkP, -⟩ := className_of_methodNamed hnamed
  have hinitP : kP.init = .initialized := Cond.initialized_spec (findClass_of_methodNamed hnamed) hkP hinit
  obtain ⟨vm₁, X₁, hstep₁⟩ := X.invokestatic hexec hown hlink hnamed hmethM hstatic hkP hinitP hy (g := g) hg (argsL := argsL) (rest := rest) (hlen _ hsigM) hstack hdg
  obtain ⟨v, B, X', hpost, hsteps⟩ := hK m meth c ⟨T.setVm vm₁, locs, cells, slots⟩ { g with stack := rest } (.invokestatic index) mk argsL.toArray X₁ hg hsize hdg hW (X₁.named hnamed) (hpre vm₁ X₁.warmed)
  exact ⟨v, vm₁, B, X₁.warmed, X', hpost, fun target h => hstep₁ _ fun acts => by rw [doInvoke_state]; exact hsteps.trans h⟩
theorem vx_runSW {y : MethodName} {bytes cc : ByteArray} {maxL nL mc ms n index : Nat} {ret : Option FieldType} {hh : List (Nat × Nat × Nat × Nat)} {ws : List Cond} {rm : Room} {Pc : Array Value → State → Prop} {Qc : Array Value → State → Outcome → State → Prop} {free : Addr → Prop} {Ts : List Cond} {own : String} {As rest : List Value} {g : JFrame}
    (S : CallFix p m c cc nL s args Ts own) (hM : Met l y ws rm Pc Qc mc ms free) (cw : vx_CSW R s args own index y bytes maxL ret hh ws rm mc ms n) (hp : PreS s H Pc As)
    (hg : g.method = m) (hn : As.length = n) (hsize : g.locals.size = nL) (hstack : g.stack = As.reverse ++ rest) (hW : 2 * g.monitorRoom + (rest.map fun v => v.category).sum ≤ 8) (hdg : decode cc g.pc = .ok (.invokestatic index, 3)) (hf : cells + mc ≤ R.cells ∧ slots + ms ≤ R.slots) :
    va_Run p l e R s m args below meth c H locs cells slots mc ms g rest (Qc As.toArray) (free) := by
  obtain ⟨⟨hrc, hrs, hfr, hlo, hws, hcw⟩, hcode, hini, hy, hlen, hl, hstt⟩ := cw
  have hK : Back l R p e below s args y 3 8 (PreOf R mc ms Pc) (PostOf Qc mc ms free) := va_backW (hh := hh) (bytes := bytes) (maxL := maxL) (ret := ret) hM hp.1 hrc hrs hfr hlo hws hcw (fun a' U hW => word_at hW (Or.inl (by first | rfl | simp [Cond.onTables, Cond.keeps, Cond.steady])) hini)
  obtain ⟨hx, hb, hml, ho, -⟩ := S
  intro T hT X
  obtain ⟨v, vm₁, ⟨U', l2, c2, s2⟩, hW₁, X', ⟨g', mk, t, L, e1, e2, hq, h1, hL, h2, h3⟩, st⟩ := vx_callSW X hx (hh := hh) (bytes := bytes) (maxL := maxL) (ret := ret) ho hl hstt hini hcode hy hK hg (hsize.trans hml.symm) (argsL := As) (rest := rest) (fun sig h => hn.trans (hlen sig h)) hstack hW (by rw [hb]; exact hdg)
    (fun vm₁ hW₁ => ⟨hf.1, hf.2, hp.2 (T.setVm vm₁) hT hW₁⟩)
  dsimp only [Pt.U, Pt.locs, Pt.cells, Pt.slots] at X' e1 e2 h1 h2 h3 st
  subst h1; subst h2; subst h3
  exact ⟨v, (T.setVm vm₁).calling g' mk As.toArray, t, U', L, hT, X', hL, e1, e2, hq, st⟩
/-- not caught here, past rows that name other classes: it goes on to the caller -/
theorem vx_outP {p : Program} {l : Launch} {e : Env} {R : Room} {s : State} {m : MethodId} {args : Array Value} {below : List Frame} {meth : Method} {c : Code} {H : Heap} {locs : List Loc} {cells slots : Nat} {free : Addr → Prop} {ls : Array Slot} {rest : List Value} {Qc : Array Value → State → Outcome → State → Prop} {XC : String → State → State → Prop}
    {pc : Nat} {own E : String} {ce : Cell} {q : Addr} {mc ms : Nat} (hown : s.vm.findClass own = some m.cls) (hlocks : meth.locks = false)
    (hpass : ∀ z ∈ c.exceptionTable.toList, covers z pc = false ∨ (z.catchType ≠ 0 ∧ ∃ nm : String, (Cond.classLink own z.catchType nm).before args s = true ∧ va_Nc E nm s)) (hcell : H[q]? = some ce) (hv : ce.vm = .none) (hcl : s.vm.findClass E = some ce.cls)
    (hx : ∀ t : State, t.heap = H → s.vm.Alike t.vm → XC E s t) (hf : ∀ z ∈ locs, free z.base) (hc : cells ≤ mc) (hs : slots ≤ ms) :
    vx_W p l e R s m args below meth c H locs cells slots (vx_MQ below Qc XC args s mc ms free) (F0 m pc ls rest) q := by
  intro T hT X
  have hpl : e.platform.magicAccessors = ({} : Platform).magicAccessors := by rw [X.admits.platform]
  obtain ⟨vm', hW', X', st⟩ := X.outThrough hlocks q (g := F0 m pc ls rest) rfl rfl rfl (cell := ce) (by rw [hT]; exact hcell) (by rw [hv]; rfl)
    (by obtain ⟨k9, h9, -⟩ := Vm.findClass_spec hcl; exact ⟨k9, h9⟩) (fun z hz => by
      rcases hpass z hz with h | ⟨hz0, nm, hl1, hn1⟩
      · exact Or.inl h
      · obtain ⟨c6, hc6, hcl6⟩ := Cond.classLink_spec hown hl1 e.platform hpl
        obtain ⟨a8, b8, h1, h2, h3⟩ := hn1
        cases Option.some.inj (h1.symm.trans hcl)
        cases Option.some.inj (h2.symm.trans hc6)
        exact Or.inr ⟨hz0, _, hcl6, h3⟩)
  obtain ⟨g₀, hfr⟩ := X'.frames_eq
  have hcell9 : ((T.setVm vm').setFrames (.throwing q :: below)).heap[q]? = some ce := by
    show T.heap[q]? = some ce
    rw [hT]; exact hcell
  have hend : Ended ((T.setVm vm').setFrames (.throwing q :: below)) below (.threw q) := State.frames_setFrames _ (State.cur_lt_of_frames hfr)
  refine ⟨(T.setVm vm').setFrames (.throwing q :: below), ?_, .threw q, X'.here.running, hend, Or.inr ⟨q, rfl, E, ce, locs, hx _ hT (X'.ends _).1.alike, hcell9, hv, hcl, (X'.ends _).1, (X'.ends _).2.mono hc hs, hf⟩⟩
  rw [X.pushThrowing_eq]
  exact st
/-- a thing of a world lies in the heap -/
theorem vx_lt {D : va_G} {cl : List vw_C} {ws : va_W} {H1 : Heap} (h : va_P D cl ws H1) {k : Nat} {q : Nat × va_E} (hk : ws[k]? = some q) : q.1 < H1.size := (h k q hk).lt
end VXS
/-! ===== END ===== -/
/-! ===== BEGIN methods with a table of their own: called by a name, returning or throwing ===== -/
section VXH
/-! vx_backW, vx_callVX, vx_callSX, vx_callVW, vx_runVW, vx_runVX, vx_runSX, vx_ofWH follow the same proofs as their sisters above (Free/Laws.lean, Shelf42/LK1.lean); vx_outP calls Shelf42/NT130.lean (outThrough). -/
section
variable {l : Launch} {R : Room} {p : Program} {e : Env} {below : List Frame} {s : State} {sargs : Array Value} {y : MethodName} {len W9 : Nat}
theorem vx_backW {ws : List Cond} {rm : Room} {Pc : Array Value → State → Prop} {Qc : Array Value → State → Outcome → State → Prop} {XC : String → State → State → Prop} {mc ms : Nat} {free : Addr → Prop} {bytes : ByteArray} {maxL : Nat} {ret : Option FieldType} {hh : List (Nat × Nat × Nat × Nat)}
    (hM : vx_Met l y ws rm Pc Qc XC mc ms free) (hblind : FrameBlind Pc) (hrc : rm.cells = mc) (hrs : rm.slots = ms)
    (hframes : rm.frames + 1 ≤ R.frames) (hlocals : W9 + (maxL + 11) + rm.locals ≤ R.locals)
    (hws : ∀ w ∈ ws, ∀ a' U, s.WarmedH U.vm → w.before a' U = true) (hcode : Cond.codeWith y bytes maxL ret hh ∈ ws) (hinit : ∀ a' U, s.WarmedH U.vm → (Cond.initialized y.cls).before a' U = true) :
    vx_Back l R p e below s sargs y len W9 (PreOf R mc ms Pc) (PostOf Qc mc ms free) (vx_Post XC mc ms free) := by
  intro m meth c A g ig mk a X hg hsize hdg hW hn hp
  have h1 : (headSpec ws rm).pre.before a A.U = true := atoms_intro fun w hw => hws w hw _ _ X.warmed
  have h2 : (Cond.codeWith y bytes maxL ret hh).before a A.U = true := hws _ hcode _ _ X.warmed
  have h3 : (Cond.initialized y.cls).before a A.U = true := hinit _ _ X.warmed
  have h4 : A.cells + (headSpec ws rm).room.cells ≤ R.cells := by rw [show (headSpec ws rm).room.cells = mc from hrc]; exact hp.1
  have h5 : A.slots + (headSpec ws rm).room.slots ≤ R.slots := by rw [show (headSpec ws rm).room.slots = ms from hrs]; exact hp.2.1
  have hPc : Pc a (A.U.calling g mk a) := hblind _ _ _ _ hp.2.2
  obtain ⟨U, Ls, c0, s0⟩ := A
  dsimp only [Pt.U, Pt.locs, Pt.cells, Pt.slots] at h1 h2 h3 h4 h5 X hn hPc ⊢
  obtain ⟨m9, methY, cY, hn9, hmY, hcY, -, hlY, -⟩ := Cond.codeWith_spec h2
  cases Option.some.inj (hn9.symm.trans hn)
  obtain ⟨kY, hkY, -⟩ := className_of_methodNamed hn
  have hinitY : kY.init = .initialized := Cond.initialized_spec (findClass_of_methodNamed hn) hkY h3
  have h : At U g.method c below := by rw [hg]; exact X.here
  have hlocals9 : W9 + (maxL + 11) + (headSpec ws rm).room.locals ≤ R.locals := hlocals
  have happ : (headSpec ws rm).appliesLoose y e.platform (U.calling g mk a) = true :=
    Spec.appliesLoose_calling (g := g) h hdg hn hkY hinitY
      (X.room_calling (g := g) (R' := (headSpec ws rm).room) hsize hmY hcY hframes (by rw [hlY]; omega) h4 h5) h1
  obtain ⟨mid, hmid⟩ := h.above
  have hfr : (U.setTop g).frames = (.java g :: mid) ++ below := by rw [State.frames_setTop' g h.top, hmid]; rfl
  obtain ⟨o, s₂, hsteps, -, hend, hq⟩ := Steps.callFree hM p X.admits X.cas X.clock (acts := []) hfr happ hPc trivial
  have hq' : vx_Q Qc XC mc ms free a (U.calling g mk a) o s₂ := hq
  rw [State.frames_setTop' g h.top] at hend
  obtain ⟨g₀, hg0⟩ := Option.isSome_iff_exists.mp h.top
  obtain ⟨r, hr⟩ := State.topJava?_eq_some.mp hg0
  have hr' : (({ U with heap := s₂.heap, slotsUsed := s₂.slotsUsed } : State).setVm s₂.vm).frames = .java g₀ :: r := hr
  rcases hq' with ⟨hqc, L, hfe, hL⟩ | ⟨q, rfl, E, ce, L, hx, hce, hcv, hcl, hW₂, hsm, hL⟩
  · obtain ⟨⟨v, rfl⟩, hW₂, e2, q2, q3, q4, q5, q6⟩ := id hfe
    have e3 : s₂ = ({ (U.calling g mk a).setFrames s₂.frames with heap := s₂.heap, slotsUsed := s₂.slotsUsed } : State).setVm s₂.vm := by
      have : s₂ = ({ s₂ with vm := (U.calling g mk a).vm } : State).setVm s₂.vm := rfl
      rw [e2] at this
      exact this
    obtain ⟨c₂, i₂, len₂, hc₂, hd₂, hf₂⟩ := hend
    have hW' : U.WarmedH s₂.vm := hW₂
    have hcc : c₂ = c := by
      have h1 : s₂.code? g.method = U.code? g.method := by
        rw [State.code?_eq, State.code?_eq, hW'.alike.method?]
      exact Option.some.inj (hc₂.symm.trans (h1.trans h.code))
    subst hcc
    have hlen : len₂ = len := by rw [hdg] at hd₂; cases hd₂; rfl
    subst hlen
    have hs₂ : s₂ = (({ U with heap := s₂.heap, slotsUsed := s₂.slotsUsed } : State).setVm s₂.vm).setTop { g with pc := g.pc + len₂, stack := v.toList ++ g.stack } := by
      refine e3.trans ?_
      rw [hf₂, State.calling_eq h.top, State.setFrames_setFrames, State.setTop_of_frames _ hr', hr]
      rfl
    have hsame : U.sameButNew ({ U with heap := s₂.heap, slotsUsed := s₂.slotsUsed } : State) L mc ms := by
      refine ⟨?_, q2, q3, q4, q5, q6⟩
      obtain ⟨t, ht, -⟩ := State.frames_cons hr
      show ({ U with heap := s₂.heap, slotsUsed := s₂.slotsUsed } : State) = { U.setFrames U.frames with heap := s₂.heap, slotsUsed := s₂.slotsUsed }
      rw [State.setFrames_self ht]
    subst hg
    refine Or.inl ⟨v, ⟨(({ U with heap := s₂.heap, slotsUsed := s₂.slotsUsed } : State).setVm s₂.vm), Ls ++ L, c0 + mc, s0 + ms⟩,
      ⟨X.admits, X.cas, X.clock, X.frames, X.room, X.hears, X.method, X.code, (X.here.setHeapUsed s₂.heap s₂.slotsUsed).setVm hW'.alike, X.tail, State.WarmedH.trans X.warmed hW', X.limits, X.bytes, X.same.trans (hsame.setVm s.vm)⟩,
      ⟨g, mk, s₂, L, rfl, rfl, hqc, rfl, hL, rfl, rfl⟩, ?_⟩
    show Steps p.tables e below _ ((({ U with heap := s₂.heap, slotsUsed := s₂.slotsUsed } : State).setVm s₂.vm).setTop { g with pc := g.pc + len₂, stack := v.toList ++ g.stack })
    rw [← hs₂]
    exact hsteps
  · obtain ⟨e2, q2, q3, q4, q5, q6⟩ := id hsm
    have e3 : s₂ = ({ (U.calling g mk a).setFrames s₂.frames with heap := s₂.heap, slotsUsed := s₂.slotsUsed } : State).setVm s₂.vm := by
      have : s₂ = ({ s₂ with vm := (U.calling g mk a).vm } : State).setVm s₂.vm := rfl
      rw [e2] at this
      exact this
    have hf₂ : s₂.frames = .throwing q :: .java g :: U.frames.tail := hend
    have hW' : U.WarmedH s₂.vm := hW₂
    have hs₂ : s₂ = ((({ U with heap := s₂.heap, slotsUsed := s₂.slotsUsed } : State).setVm s₂.vm).setTop g).pushFrame (.throwing q) := by
      refine e3.trans ?_
      rw [hf₂, State.calling_eq h.top, State.setFrames_setFrames, State.pushFrame, State.frames_setTop _ hr', State.setTop_of_frames _ hr', State.setFrames_setFrames, hr]
      rfl
    have hsame : U.sameButNew ({ U with heap := s₂.heap, slotsUsed := s₂.slotsUsed } : State) L mc ms := by
      refine ⟨?_, q2, q3, q4, q5, q6⟩
      obtain ⟨t, ht, -⟩ := State.frames_cons hr
      show ({ U with heap := s₂.heap, slotsUsed := s₂.slotsUsed } : State) = { U.setFrames U.frames with heap := s₂.heap, slotsUsed := s₂.slotsUsed }
      rw [State.setFrames_self ht]
    subst hg
    refine Or.inr ⟨q, ⟨(({ U with heap := s₂.heap, slotsUsed := s₂.slotsUsed } : State).setVm s₂.vm), Ls ++ L, c0 + mc, s0 + ms⟩,
      ⟨X.admits, X.cas, X.clock, X.frames, X.room, X.hears, X.method, X.code, (X.here.setHeapUsed s₂.heap s₂.slotsUsed).setVm hW'.alike, X.tail, State.WarmedH.trans X.warmed hW', X.limits, X.bytes, X.same.trans (hsame.setVm s.vm)⟩,
      ⟨g, mk, s₂, L, E, ce, rfl, rfl, hx, hce, hcv, hcl, rfl, hL, rfl, rfl⟩, ?_⟩
    show Steps p.tables e below _ (((({ U with heap := s₂.heap, slotsUsed := s₂.slotsUsed } : State).setVm s₂.vm).setTop g).pushFrame (.throwing q))
    rw [← hs₂]
    exact hsteps
end
variable {p : Program} {l : Launch} {e : Env} {R : Room} {s : State} {m : MethodId} {args : Array Value} {below : List Frame} {meth : Method} {c : Code} {T : State} {H : Heap} {locs : List Loc} {cells slots : Nat}
theorem vx_callVX (X : Stand p l e R s m args below meth c T locs cells slots) (hexec : p.tables.exec = Jvm.exec) {own C : String} {index : Nat} {y : MethodName} {bytes : ByteArray} {maxL : Nat} {ret : Option FieldType} {hh : List (Nat × Nat × Nat × Nat)}
    (hown : s.vm.findClass own = some m.cls) (hlink : (Cond.methodLink own index y).before args s = true) (hinst : (Cond.instanceMethod y).before args s = true) (hsel : (Cond.selects C y y).before args s = true)
    (hcode : (Cond.codeWith y bytes maxL ret hh).before args s = true) (hy : y.cls ≠ "java/lang/invoke/MethodHandle" ∧ y.cls ≠ "java/lang/invoke/VarHandle")
    {W9 : Nat} {Pre : Pt → Array Value → Prop} {Post : Pt → Array Value → Option Value → Pt → Prop} {PostX : Pt → Array Value → Addr → Pt → Prop} (hK : vx_Back l R p e below s args y 3 W9 Pre Post PostX)
    {b : Addr} {cellB : Cell} (hcell : T.heap[b]? = some cellB) (hobj : cellB.vm.isStatics = false) (hcls : s.vm.findClass C = some cellB.cls)
    {g : JFrame} (hg : g.method = m) (hsize : g.locals.size = c.maxLocals) {argsL rest : List Value} (hlen : ∀ sig, parseMethodDescriptor y.desc = some sig → argsL.length = sig.parameters.length)
    (hstack : g.stack = argsL.reverse ++ .ref b :: rest) (hW : 2 * g.monitorRoom + (rest.map fun v => v.category).sum ≤ W9) (hdg : decode c.code g.pc = .ok (.invokevirtual index, 3))
    (hpre : ∀ vm₁, s.WarmedH vm₁ → Pre ⟨T.setVm vm₁, locs, cells, slots⟩ (Value.ref b :: argsL).toArray) :
    (∃ (v : Option Value) (vm₁ : Vm) (B : Pt), s.WarmedH vm₁ ∧ Stand p l e R s m args below meth c B.U B.locs B.cells B.slots ∧ Post ⟨T.setVm vm₁, locs, cells, slots⟩ (Value.ref b :: argsL).toArray v B ∧
      ∀ target, Steps p.tables e below (B.U.setTop { g with pc := g.pc + 3, stack := v.toList ++ rest }) target → Steps p.tables e below (T.setTop g) target) ∨
    (∃ (q : Addr) (vm₁ : Vm) (B : Pt), s.WarmedH vm₁ ∧ Stand p l e R s m args below meth c B.U B.locs B.cells B.slots ∧ PostX ⟨T.setVm vm₁, locs, cells, slots⟩ (Value.ref b :: argsL).toArray q B ∧
      Steps p.tables e below (T.setTop g) ((B.U.setTop { g with stack := rest }).pushFrame (.throwing q))) := by
  obtain ⟨mk, methM, hnamed, hmethM, hstM, habM⟩ := Cond.instanceMethod_spec hinst
  obtain ⟨m8, methM', cM, hn8, hmethM', -, -, -, -, -, -, hsigM⟩ := Cond.codeWith_spec hcode
  cases Option.some.inj (hn8.symm.trans hnamed)
  cases hmethM.symm.trans hmethM'
  obtain ⟨c2, r2, m2, q1, q2, q3, q4, kP, hkP, hkPi⟩ := Cond.selects_spec hsel
  cases hcls.symm.trans q1
  cases (State.methodFound?_of_named hnamed hy).symm.trans q2
  cases hnamed.symm.trans q3
  have hselP : selectMethod e.platform s.vm cellB.cls mk = .method mk := by rw [Launch.admits_selectMethod X.admits]; exact q4
  obtain ⟨vm₁, X₁, hstep₁⟩ := X.invokevirtual hexec hown hlink hnamed hmethM hstM hkP hkPi hy (a := b) (cell := cellB) hcell
    (fun z h => by rw [h] at hobj; cases hobj) hselP hmethM habM hkP hkPi (g := g) hg (argsL := argsL) (rest := rest) (hlen _ hsigM) hstack hdg
  rcases hK m meth c ⟨T.setVm vm₁, locs, cells, slots⟩ { g with stack := rest } (.invokevirtual index) mk (Value.ref b :: argsL).toArray X₁ hg hsize hdg hW (X₁.named hnamed) (hpre vm₁ X₁.warmed) with ⟨v, B, X', hpost, hsteps⟩ | ⟨q, B, X', hpost, hsteps⟩
  · exact Or.inl ⟨v, vm₁, B, X₁.warmed, X', hpost, fun target h => hstep₁ _ fun acts => by rw [doInvoke_state]; exact hsteps.trans h⟩
  · exact Or.inr ⟨q, vm₁, B, X₁.warmed, X', hpost, hstep₁ _ fun acts => by rw [doInvoke_state]; exact hsteps⟩
theorem vx_callSX (X : Stand p l e R s m args below meth c T locs cells slots) (hexec : p.tables.exec = Jvm.exec) {own : String} {index : Nat} {y : MethodName} {bytes : ByteArray} {maxL : Nat} {ret : Option FieldType} {hh : List (Nat × Nat × Nat × Nat)}
    (hown : s.vm.findClass own = some m.cls) (hlink : (Cond.methodLink own index y).before args s = true) (hstat : (Cond.static y).before args s = true) (hinit : (Cond.initialized y.cls).before args s = true)
    (hcode : (Cond.codeWith y bytes maxL ret hh).before args s = true) (hy : y.cls ≠ "java/lang/invoke/MethodHandle" ∧ y.cls ≠ "java/lang/invoke/VarHandle")
    {W9 : Nat} {Pre : Pt → Array Value → Prop} {Post : Pt → Array Value → Option Value → Pt → Prop} {PostX : Pt → Array Value → Addr → Pt → Prop} (hK : vx_Back l R p e below s args y 3 W9 Pre Post PostX)
    {g : JFrame} (hg : g.method = m) (hsize : g.locals.size = c.maxLocals) {argsL rest : List Value} (hlen : ∀ sig, parseMethodDescriptor y.desc = some sig → argsL.length = sig.parameters.length)
    (hstack : g.stack = argsL.reverse ++ rest) (hW : 2 * g.monitorRoom + (rest.map fun v => v.category).sum ≤ W9) (hdg : decode c.code g.pc = .ok (.invokestatic index, 3))
    (hpre : ∀ vm₁, s.WarmedH vm₁ → Pre ⟨T.setVm vm₁, locs, cells, slots⟩ argsL.toArray) :
    (∃ (v : Option Value) (vm₁ : Vm) (B : Pt), s.WarmedH vm₁ ∧ Stand p l e R s m args below meth c B.U B.locs B.cells B.slots ∧ Post ⟨T.setVm vm₁, locs, cells, slots⟩ argsL.toArray v B ∧
      ∀ target, Steps p.tables e below (B.U.setTop { g with pc := g.pc + 3, stack := v.toList ++ rest }) target → Steps p.tables e below (T.setTop g) target) ∨
    (∃ (q : Addr) (vm₁ : Vm) (B : Pt), s.WarmedH vm₁ ∧ Stand p l e R s m args below meth c B.U B.locs B.cells B.slots ∧ PostX ⟨T.setVm vm₁, locs, cells, slots⟩ argsL.toArray q B ∧
      Steps p.tables e below (T.setTop g) ((B.U.setTop { g with stack := rest }).pushFrame (.throwing q))) := by
  obtain ⟨mk, methM, cM, hnamed, hmethM, -, -, -, -, -, -, hsigM⟩ := Cond.codeWith_spec hcode
  have hstatic : methM.isStatic = true := Cond.static_spec hnamed hmethM hstat
  obtain ⟨kP, hkP, -⟩ := className_of_methodNamed hnamed
  have hinitP : kP.init = .initialized := Cond.initialized_spec (findClass_of_methodNamed hnamed) hkP hinit
  obtain ⟨vm₁, X₁, hstep₁⟩ := X.invokestatic hexec hown hlink hnamed hmethM hstatic hkP hinitP hy (g := g) hg (argsL := argsL) (rest := rest) (hlen _ hsigM) hstack hdg
  rcases hK m meth c ⟨T.setVm vm₁, locs, cells, slots⟩ { g with stack := rest } (.invokestatic index) mk argsL.toArray X₁ hg hsize hdg hW (X₁.named hnamed) (hpre vm₁ X₁.warmed) with ⟨v, B, X', hpost, hsteps⟩ | ⟨q, B, X', hpost, hsteps⟩
  · exact Or.inl ⟨v, vm₁, B, X₁.warmed, X', hpost, fun target h => hstep₁ _ fun acts => by rw [doInvoke_state]; exact hsteps.trans h⟩
  · exact Or.inr ⟨q, vm₁, B, X₁.warmed, X', hpost, hstep₁ _ fun acts => by rw [doInvoke_state]; exact hsteps⟩
theorem vx_callVW (X : Stand p l e R s m args below meth c T locs cells slots) (hexec : p.tables.exec = Jvm.exec) {own C : String} {index : Nat} {y : MethodName} {bytes : ByteArray} {maxL : Nat} {ret : Option FieldType} {hh : List (Nat × Nat × Nat × Nat)}
    (hown : s.vm.findClass own = some m.cls) (hlink : (Cond.methodLink own index y).before args s = true) (hinst : (Cond.instanceMethod y).before args s = true) (hsel : (Cond.selects C y y).before args s = true)
    (hcode : (Cond.codeWith y bytes maxL ret hh).before args s = true) (hy : y.cls ≠ "java/lang/invoke/MethodHandle" ∧ y.cls ≠ "java/lang/invoke/VarHandle")
    {W9 : Nat} {Pre : Pt → Array Value → Prop} {Post : Pt → Array Value → Option Value → Pt → Prop} (hK : Back l R p e below s args y 3 W9 Pre Post)
    {b : Addr} {cellB : Cell} (hcell : T.heap[b]? = some cellB) (hobj : cellB.vm.isStatics = false) (hcls : s.vm.findClass C = some cellB.cls)
    {g : JFrame} (hg : g.method = m) (hsize : g.locals.size = c.maxLocals) {argsL rest : List Value} (hlen : ∀ sig, parseMethodDescriptor y.desc = some sig → argsL.length = sig.parameters.length)
    (hstack : g.stack = argsL.reverse ++ .ref b :: rest) (hW : 2 * g.monitorRoom + (rest.map fun v => v.category).sum ≤ W9) (hdg : decode c.code g.pc = .ok (.invokevirtual index, 3))
    (hpre : ∀ vm₁, s.WarmedH vm₁ → Pre ⟨T.setVm vm₁, locs, cells, slots⟩ (Value.ref b :: argsL).toArray) :
    ∃ (v : Option Value) (vm₁ : Vm) (B : Pt), s.WarmedH vm₁ ∧ Stand p l e R s m args below meth c B.U B.locs B.cells B.slots ∧ Post ⟨T.setVm vm₁, locs, cells, slots⟩ (Value.ref b :: argsL).toArray v B ∧
      ∀ target, Steps p.tables e below (B.U.setTop { g with pc := g.pc + 3, stack := v.toList ++ rest }) target → Steps p.tables e below (T.setTop g) target := by
  obtain ⟨mk, methM, hnamed, hmethM, hstM, habM⟩ := Cond.instanceMethod_spec hinst
  obtain ⟨m8, methM', cM, hn8, hmethM', -, -, -, -, -, -, hsigM⟩ := Cond.codeWith_spec hcode
  cases Option.some.inj (hn8.symm.trans hnamed)
  cases hmethM.symm.trans hmethM'
  obtain ⟨c2, r2, m2, q1, q2, q3, q4, kP, hkP, hkPi⟩ := Cond.selects_spec hsel
  cases hcls.symm.trans q1
  cases (State.methodFound?_of_named hnamed hy).symm.trans q2
  cases hnamed.symm.trans q3
  have hselP : selectMethod e.platform s.vm cellB.cls mk = .method mk := by rw [Launch.admits_selectMethod X.admits]; exact q4
  obtain ⟨vm₁, X₁, hstep₁⟩ := X.invokevirtual hexec hown hlink hnamed hmethM hstM hkP hkPi hy (a := b) (cell := cellB) hcell
    (fun z h => by rw [h] at hobj; cases hobj) hselP hmethM habM hkP hkPi (g := g) hg (argsL := argsL) (rest := rest) (hlen _ hsigM) hstack hdg
  obtain ⟨v, B, X', hpost, hsteps⟩ := hK m meth c ⟨T.setVm vm₁, locs, cells, slots⟩ { g with stack := rest } (.invokevirtual index) mk (Value.ref b :: argsL).toArray X₁ hg hsize hdg hW (X₁.named hnamed) (hpre vm₁ X₁.warmed)
  exact ⟨v, vm₁, B, X₁.warmed, X', hpost, fun target h => hstep₁ _ fun acts => by rw [doInvoke_state]; exact hsteps.trans h⟩
abbrev vx_CVW (R : Room) (s : State) (args : Array Value) (own C : String) (index : Nat) (y : MethodName) (bytes : ByteArray) (maxL : Nat) (ret : Option FieldType) (hh : List (Nat × Nat × Nat × Nat)) (ws : List Cond) (rm : Room) (mc ms n : Nat) : Prop :=
  (rm.cells = mc ∧ rm.slots = ms ∧ rm.frames + 1 ≤ R.frames ∧ 8 + (maxL + 11) + rm.locals ≤ R.locals ∧ (∀ w ∈ ws, ∀ (a' : Array Value) (U : State), s.WarmedH U.vm → w.before a' U = true) ∧ Cond.codeWith y bytes maxL ret hh ∈ ws) ∧
  (Cond.codeWith y bytes maxL ret hh).before args s = true ∧ (Cond.initialized y.cls).before args s = true ∧ (y.cls ≠ "java/lang/invoke/MethodHandle" ∧ y.cls ≠ "java/lang/invoke/VarHandle") ∧
  (∀ sig, parseMethodDescriptor y.desc = some sig → n = sig.parameters.length) ∧ (Cond.methodLink own index y).before args s = true ∧ (Cond.instanceMethod y).before args s = true ∧ (Cond.selects C y y).before args s = true
theorem vx_cwVW {own C : String} {index maxL mc ms : Nat} {y : MethodName} {bytes : ByteArray} {ret : Option FieldType} {hh : List (Nat × Nat × Nat × Nat)} {Ts ws ws' : List Cond} {rm : Room} (n : Nat) (ht : ∀ w ∈ Ts, w.before args s = true) (hT : GoodIn Ts (wsV own index C y ws)) (hw : ws = Cond.codeWith y bytes maxL ret hh :: ws') (hrc : rm.cells = mc) (hrs : rm.slots = ms)
    (hd : y.cls = C ∧ y.cls ≠ "java/lang/invoke/MethodHandle" ∧ y.cls ≠ "java/lang/invoke/VarHandle" ∧ (parseMethodDescriptor y.desc).map (fun d => d.parameters.length) = some n) (hR : rm.frames + 1 ≤ R.frames ∧ 8 + (maxL + 11) + rm.locals ≤ R.locals) :
    vx_CVW R s args own C index y bytes maxL ret hh ws rm mc ms n := by
  obtain ⟨hC, hd⟩ := hd
  subst hC
  have ok : ∀ w ∈ wsV own index y.cls y ws, w.before args s = true := fun w h => ht w (hT w h).1
  have hG : GoodIn Ts ws := fun w h => hT w (by unfold wsV; exact List.mem_append_right _ h)
  have hc : Cond.codeWith y bytes maxL ret hh ∈ ws := by rw [hw]; exact List.mem_cons_self
  refine ⟨⟨hrc, hrs, hR.1, hR.2, pay_in ht hG, hc⟩, ht _ (hG _ hc).1, ok _ (by simp [wsV]), ⟨hd.1, hd.2.1⟩, fun sig h => ?_, ok _ (by simp [wsV]), ok _ (by simp [wsV]), ok _ (by simp [wsV])⟩
  have h2 := hd.2.2
  rw [h] at h2
  exact (Option.some.inj h2).symm
theorem vx_runVW {y : MethodName} {bytes cc : ByteArray} {maxL nL mc ms n index : Nat} {ret : Option FieldType} {hh : List (Nat × Nat × Nat × Nat)} {ws : List Cond} {rm : Room} {Pc : Array Value → State → Prop} {Qc : Array Value → State → Outcome → State → Prop} {free : Addr → Prop} {Ts : List Cond} {own C : String} {b : Addr} {As rest : List Value} {g : JFrame}
    (S : CallFix p m c cc nL s args Ts own) (hM : Met l y ws rm Pc Qc mc ms free) (cw : vx_CVW R s args own C index y bytes maxL ret hh ws rm mc ms n) (hp : PreV s H C b Pc As)
    (hg : g.method = m) (hn : As.length = n) (hsize : g.locals.size = nL) (hstack : g.stack = As.reverse ++ .ref b :: rest) (hW : 2 * g.monitorRoom + (rest.map fun v => v.category).sum ≤ 8) (hdg : decode cc g.pc = .ok (.invokevirtual index, 3)) (hf : cells + mc ≤ R.cells ∧ slots + ms ≤ R.slots) :
    va_Run p l e R s m args below meth c H locs cells slots mc ms g rest (Qc (Value.ref b :: As).toArray) free := by
  obtain ⟨⟨hrc, hrs, hfr, hlo, hws, hcw⟩, hcode, hini, hy, hlen, hl, hin, hse⟩ := cw
  have hK : Back l R p e below s args y 3 8 (PreOf R mc ms Pc) (PostOf Qc mc ms free) := va_backW (hh := hh) (bytes := bytes) (maxL := maxL) (ret := ret) hM hp.1 hrc hrs hfr hlo hws hcw (fun a' U hW => word_at hW (Or.inl (by first | rfl | simp [Cond.onTables, Cond.keeps, Cond.steady])) hini)
  obtain ⟨hx, hb, hml, ho, -⟩ := S
  obtain ⟨-, ⟨cellB, hcB, hoB, hclB⟩, hPc⟩ := hp
  intro T hT X
  obtain ⟨v, vm₁, ⟨U', l2, c2, s2⟩, hW₁, X', ⟨g', mk, t, L, e1, e2, hq, h1, hL, h2, h3⟩, st⟩ := vx_callVW X hx (C := C) (hh := hh) (bytes := bytes) (maxL := maxL) (ret := ret) ho hl hin hse hcode hy hK (by rw [hT]; exact hcB) hoB hclB hg (hsize.trans hml.symm) (argsL := As) (rest := rest) (fun sig h => hn.trans (hlen sig h)) hstack hW (by rw [hb]; exact hdg)
    (fun vm₁ hW₁ => ⟨hf.1, hf.2, hPc (T.setVm vm₁) hT hW₁⟩)
  dsimp only [Pt.U, Pt.locs, Pt.cells, Pt.slots] at X' e1 e2 h1 h2 h3 st
  subst h1; subst h2; subst h3
  exact ⟨v, (T.setVm vm₁).calling g' mk (Value.ref b :: As).toArray, t, U', L, hT, X', hL, e1, e2, hq, st⟩
section
variable {y : MethodName} {bytes cc : ByteArray} {maxL nL mc ms n index : Nat} {ret : Option FieldType} {ws : List Cond} {rm : Room} {Pc : Array Value → State → Prop} {Qc : Array Value → State → Outcome → State → Prop} {XC : String → State → State → Prop} {free : Addr → Prop} {Ts : List Cond} {own C : String} {b : Addr} {As rest : List Value} {g : JFrame}
theorem vx_runVX {hh : List (Nat × Nat × Nat × Nat)} (S : CallFix p m c cc nL s args Ts own) (hM : vx_Met l y ws rm Pc Qc XC mc ms free) (cw : vx_CVW R s args own C index y bytes maxL ret hh ws rm mc ms n) (hp : PreV s H C b Pc As)
    (hg : g.method = m) (hn : As.length = n) (hsize : g.locals.size = nL) (hstack : g.stack = As.reverse ++ .ref b :: rest) (hW : 2 * g.monitorRoom + (rest.map fun v => v.category).sum ≤ 8) (hdg : decode cc g.pc = .ok (.invokevirtual index, 3)) (hf : cells + mc ≤ R.cells ∧ slots + ms ≤ R.slots) :
    vx_Run p l e R s m args below meth c H locs cells slots mc ms g rest (Qc (Value.ref b :: As).toArray) XC free := by
  obtain ⟨⟨hrc, hrs, hfr, hlo, hws, hcw⟩, hcode, hini, hy, hlen, hl, hin, hse⟩ := cw
  have hK : vx_Back l R p e below s args y 3 8 (PreOf R mc ms Pc) (PostOf Qc mc ms free) (vx_Post XC mc ms free) := vx_backW (hh := hh) (bytes := bytes) (maxL := maxL) (ret := ret) hM hp.1 hrc hrs hfr hlo hws hcw (fun a' U hW => word_at hW (Or.inl (by first | rfl | simp [Cond.onTables, Cond.keeps, Cond.steady])) hini)
  obtain ⟨hx, hb, hml, ho, -⟩ := S
  obtain ⟨-, ⟨cellB, hcB, hoB, hclB⟩, hPc⟩ := hp
  intro T hT X
  rcases vx_callVX X hx (C := C) (hh := hh) (bytes := bytes) (maxL := maxL) (ret := ret) ho hl hin hse hcode hy hK (by rw [hT]; exact hcB) hoB hclB hg (hsize.trans hml.symm) (argsL := As) (rest := rest) (fun sig h => hn.trans (hlen sig h)) hstack hW (by rw [hb]; exact hdg)
    (fun vm₁ hW₁ => ⟨hf.1, hf.2, hPc (T.setVm vm₁) hT hW₁⟩) with ⟨v, vm₁, ⟨U', l2, c2, s2⟩, hW₁, X', ⟨g', mk, t, L, e1, e2, hq, h1, hL, h2, h3⟩, st⟩ | ⟨q, vm₁, ⟨U', l2, c2, s2⟩, hW₁, X', ⟨g', mk, t, L, E, ce, e1, e2, hq, hce, hcv, hcl, h1, hL, h2, h3⟩, st⟩
  · dsimp only [Pt.U, Pt.locs, Pt.cells, Pt.slots] at X' e1 e2 h1 h2 h3 st
    subst h1; subst h2; subst h3
    exact Or.inl ⟨v, (T.setVm vm₁).calling g' mk (Value.ref b :: As).toArray, t, U', L, hT, X', hL, e1, e2, hq, st⟩
  · dsimp only [Pt.U, Pt.locs, Pt.cells, Pt.slots] at X' e1 e2 h1 h2 h3 st hcl
    subst h1; subst h2; subst h3
    exact Or.inr ⟨q, (T.setVm vm₁).calling g' mk (Value.ref b :: As).toArray, t, U', L, E, ce, hT, X', hL, e1, e2, hq, hce, hcv, vx_cls hW₁ hcl, st⟩
theorem vx_runSX {hh : List (Nat × Nat × Nat × Nat)} (S : CallFix p m c cc nL s args Ts own) (hM : vx_Met l y ws rm Pc Qc XC mc ms free) (cw : vx_CSW R s args own index y bytes maxL ret hh ws rm mc ms n) (hp : PreS s H Pc As)
    (hg : g.method = m) (hn : As.length = n) (hsize : g.locals.size = nL) (hstack : g.stack = As.reverse ++ rest) (hW : 2 * g.monitorRoom + (rest.map fun v => v.category).sum ≤ 8) (hdg : decode cc g.pc = .ok (.invokestatic index, 3)) (hf : cells + mc ≤ R.cells ∧ slots + ms ≤ R.slots) :
    vx_Run p l e R s m args below meth c H locs cells slots mc ms g rest (Qc As.toArray) XC free := by
  obtain ⟨⟨hrc, hrs, hfr, hlo, hws, hcw⟩, hcode, hini, hy, hlen, hl, hstt⟩ := cw
  have hK : vx_Back l R p e below s args y 3 8 (PreOf R mc ms Pc) (PostOf Qc mc ms free) (vx_Post XC mc ms free) := vx_backW (hh := hh) (bytes := bytes) (maxL := maxL) (ret := ret) hM hp.1 hrc hrs hfr hlo hws hcw (fun a' U hW => word_at hW (Or.inl (by first | rfl | simp [Cond.onTables, Cond.keeps, Cond.steady])) hini)
  obtain ⟨hx, hb, hml, ho, -⟩ := S
  intro T hT X
  rcases vx_callSX X hx (hh := hh) (bytes := bytes) (maxL := maxL) (ret := ret) ho hl hstt hini hcode hy hK hg (hsize.trans hml.symm) (argsL := As) (rest := rest) (fun sig h => hn.trans (hlen sig h)) hstack hW (by rw [hb]; exact hdg)
    (fun vm₁ hW₁ => ⟨hf.1, hf.2, hp.2 (T.setVm vm₁) hT hW₁⟩) with ⟨v, vm₁, ⟨U', l2, c2, s2⟩, hW₁, X', ⟨g', mk, t, L, e1, e2, hq, h1, hL, h2, h3⟩, st⟩ | ⟨q, vm₁, ⟨U', l2, c2, s2⟩, hW₁, X', ⟨g', mk, t, L, E, ce, e1, e2, hq, hce, hcv, hcl, h1, hL, h2, h3⟩, st⟩
  · dsimp only [Pt.U, Pt.locs, Pt.cells, Pt.slots] at X' e1 e2 h1 h2 h3 st
    subst h1; subst h2; subst h3
    exact Or.inl ⟨v, (T.setVm vm₁).calling g' mk As.toArray, t, U', L, hT, X', hL, e1, e2, hq, st⟩
  · dsimp only [Pt.U, Pt.locs, Pt.cells, Pt.slots] at X' e1 e2 h1 h2 h3 st hcl
    subst h1; subst h2; subst h3
    exact Or.inr ⟨q, (T.setVm vm₁).calling g' mk As.toArray, t, U', L, E, ce, hT, X', hL, e1, e2, hq, hce, hcv, vx_cls hW₁ hcl, st⟩
end
end VXH
theorem vx_ofWH {l : Launch} {y : MethodName} {ws ws' : List Cond} {rm : Room} {Pc : Array Value → State → Prop} {Qc : Array Value → State → Outcome → State → Prop} {XC : String → State → State → Prop} {mc ms : Nat} {free : Addr → Prop} {cc : ByteArray} {maxL : Nat} {ret : Option FieldType} {hh : List (Nat × Nat × Nat × Nat)}
    (hy : plainName y.cls = true) (hw : ws = Cond.codeWith y cc maxL ret hh :: ws')
    (body : ∀ p e s m args below meth c s₁, BodyLoose p l y (headSpec ws rm) cc maxL ret e s m args below meth c s₁ → c.maxLocals = maxL → Pc args s →
      W p l e (headSpec ws rm).room s m args below meth c s.heap [] 0 0 (vx_MQ below Qc XC args s mc ms free) (entryFrame m args maxL)) : vx_Met l y ws rm Pc Qc XC mc ms free := by
  refine MetFree.of_bodyS (code := cc) (maxLocals := maxL) (ret := ret) hy ?_ ?_
  · intro args s m h hn
    obtain ⟨m9, meth, c, hn9, h1, h2, h3, h4, -, h5, h6, -⟩ := Cond.codeWith_spec (atoms_spec (ws := ws) h _ (by rw [hw]; exact List.mem_cons_self))
    cases hn.symm.trans hn9
    exact ⟨meth, c, h1, h2, h3, h4, h5, h6⟩
  · intro p e s m args below meth c s₁ B hml hP _
    have hh0 : s₁.heap = s.heap := by rw [B.state]; rfl
    obtain ⟨t, a1, o, b1, b2, b3⟩ := body p e s m args below meth c s₁ B hml hP s₁ hh0 (Stand.of_body B)
    exact ⟨t, o, a1, b1, b2, b3⟩
/-! ===== END ===== -/
end
section
/-! ===== BEGIN printed: names, fields, word lists, decode rows ===== -/
def RX0 : String := "AuditoriumKeys$Codes"
def TX0 : u_T := fun k => match k with
  | 0 => ("AuditoriumKeys$Codes", "count", "I", false)
  | 1 => ("AuditoriumKeys$Codes", "ofPerson", "[I", true)
  | 2 => ("AuditoriumKeys$Codes", "ofHousehold", "[I", true)
  | _ => ("AuditoriumKeys$Codes", "counted", "[I", true)
def tyX0 : Nat → FieldType := fun k => match k with
  | 0 => .int
  | 1 => .array .int
  | 2 => .array .int
  | _ => .array .int
abbrev wsX00 : List Cond := u_ws RX0 TX0 4
theorem nmX0 : ∀ a, a < 4 → ∀ b, b < 4 → a ≠ b → (TX0 a).2.1 ≠ (TX0 b).2.1 := by decide +kernel
theorem tyX0_ok : ∀ k, k < 4 → parseFieldDescriptor (TX0 k).2.2.1 = some (tyX0 k) := by decide +kernel
abbrev cX0_init : ByteArray := prog_2_method_1_code
def yX0_init : MethodName := ⟨RX0, "<init>", "()V"⟩
abbrev cX0_add : ByteArray := prog_2_method_2_code
def yX0_add : MethodName := ⟨RX0, "add", "(II)I"⟩
abbrev cX0_seatsOf : ByteArray := prog_2_method_3_code
def yX0_seatsOf : MethodName := ⟨RX0, "seatsOf", "(II)I"⟩
abbrev cX0_haveRoom : ByteArray := prog_2_method_4_code
def yX0_haveRoom : MethodName := ⟨RX0, "haveRoom", "(III)Z"⟩
abbrev cX0_tally : ByteArray := prog_2_method_5_code
def yX0_tally : MethodName := ⟨RX0, "tally", "(III)V"⟩
def RX1 : String := "AuditoriumKeys$Holds"
def TX1 : u_T := fun k => match k with
  | 0 => ("AuditoriumKeys$Holds", "first", "[I", true)
  | 1 => ("AuditoriumKeys$Holds", "many", "[I", true)
  | 2 => ("AuditoriumKeys$Holds", "code", "[I", true)
  | 3 => ("AuditoriumKeys$Holds", "cost", "[I", true)
  | 4 => ("AuditoriumKeys$Holds", "paid", "[I", true)
  | 5 => ("AuditoriumKeys$Holds", "latest", "[I", true)
  | _ => ("AuditoriumKeys$Holds", "lapse", "[I", true)
def tyX1 : Nat → FieldType := fun k => match k with
  | 0 => .array .int
  | 1 => .array .int
  | 2 => .array .int
  | 3 => .array .int
  | 4 => .array .int
  | 5 => .array .int
  | _ => .array .int
abbrev wsX10 : List Cond := u_ws RX1 TX1 7
theorem nmX1 : ∀ a, a < 7 → ∀ b, b < 7 → a ≠ b → (TX1 a).2.1 ≠ (TX1 b).2.1 := by decide +kernel
theorem tyX1_ok : ∀ k, k < 7 → parseFieldDescriptor (TX1 k).2.2.1 = some (tyX1 k) := by decide +kernel
abbrev cX1_init : ByteArray := prog_3_method_1_code
def yX1_init : MethodName := ⟨RX1, "<init>", "()V"⟩
abbrev cX1_isThere : ByteArray := prog_3_method_2_code
def yX1_isThere : MethodName := ⟨RX1, "isThere", "(I)Z"⟩
abbrev cX1_left : ByteArray := prog_3_method_3_code
def yX1_left : MethodName := ⟨RX1, "left", "(I)I"⟩
abbrev cX1_make : ByteArray := prog_3_method_4_code
def yX1_make : MethodName := ⟨RX1, "make", "(IIIIII)V"⟩
abbrev cX1_prolong : ByteArray := prog_3_method_5_code
def yX1_prolong : MethodName := ⟨RX1, "prolong", "(I)V"⟩
abbrev cX1_end : ByteArray := prog_3_method_6_code
def yX1_end : MethodName := ⟨RX1, "end", "(I)V"⟩
def RX2 : String := "AuditoriumKeys$Line"
def TX2 : u_T := fun k => match k with
  | _ => ("AuditoriumKeys$Line", "came", "[I", true)
def tyX2 : Nat → FieldType := fun k => match k with
  | _ => .array .int
abbrev wsX20 : List Cond := u_ws RX2 TX2 1
theorem nmX2 : ∀ a, a < 1 → ∀ b, b < 1 → a ≠ b → (TX2 a).2.1 ≠ (TX2 b).2.1 := by decide +kernel
theorem tyX2_ok : ∀ k, k < 1 → parseFieldDescriptor (TX2 k).2.2.1 = some (tyX2 k) := by decide +kernel
abbrev cX2_init : ByteArray := prog_4_method_1_code
def yX2_init : MethodName := ⟨RX2, "<init>", "()V"⟩
abbrev cX2_isIn : ByteArray := prog_4_method_2_code
def yX2_isIn : MethodName := ⟨RX2, "isIn", "(I)Z"⟩
abbrev cX2_enter : ByteArray := prog_4_method_3_code
def yX2_enter : MethodName := ⟨RX2, "enter", "(II)V"⟩
abbrev cX2_leave : ByteArray := prog_4_method_4_code
def yX2_leave : MethodName := ⟨RX2, "leave", "(I)V"⟩
abbrev cX2_length : ByteArray := prog_4_method_5_code
def yX2_length : MethodName := ⟨RX2, "length", "()I"⟩
abbrev cX2_personAt : ByteArray := prog_4_method_6_code
def yX2_personAt : MethodName := ⟨RX2, "personAt", "(I)I"⟩
abbrev cX2_placeOf : ByteArray := prog_4_method_7_code
def yX2_placeOf : MethodName := ⟨RX2, "placeOf", "(I)I"⟩
abbrev cX2_rank : ByteArray := prog_4_method_8_code
def yX2_rank : MethodName := ⟨RX2, "rank", "(I)I"⟩
def RX3 : String := "AuditoriumKeys$Sales"
def TX3 : u_T := fun k => match k with
  | 0 => ("AuditoriumKeys$Sales", "count", "I", false)
  | 1 => ("AuditoriumKeys$Sales", "first", "[I", true)
  | 2 => ("AuditoriumKeys$Sales", "many", "[I", true)
  | _ => ("AuditoriumKeys$Sales", "buyer", "[I", true)
def tyX3 : Nat → FieldType := fun k => match k with
  | 0 => .int
  | 1 => .array .int
  | 2 => .array .int
  | _ => .array .int
abbrev wsX30 : List Cond := u_ws RX3 TX3 4
theorem nmX3 : ∀ a, a < 4 → ∀ b, b < 4 → a ≠ b → (TX3 a).2.1 ≠ (TX3 b).2.1 := by decide +kernel
theorem tyX3_ok : ∀ k, k < 4 → parseFieldDescriptor (TX3 k).2.2.1 = some (tyX3 k) := by decide +kernel
abbrev cX3_init : ByteArray := prog_5_method_1_code
def yX3_init : MethodName := ⟨RX3, "<init>", "()V"⟩
abbrev cX3_add : ByteArray := prog_5_method_2_code
def yX3_add : MethodName := ⟨RX3, "add", "(III)V"⟩
abbrev cX3_lastBuyerOf : ByteArray := prog_5_method_3_code
def yX3_lastBuyerOf : MethodName := ⟨RX3, "lastBuyerOf", "(I)I"⟩
def RX4 : String := "AuditoriumKeys$Seats"
def TX4 : u_T := fun k => match k with
  | 0 => ("AuditoriumKeys$Seats", "held", "[Z", true)
  | 1 => ("AuditoriumKeys$Seats", "offered", "[Z", true)
  | 2 => ("AuditoriumKeys$Seats", "owner", "[I", true)
  | 3 => ("AuditoriumKeys$Seats", "price", "[I", true)
  | _ => ("AuditoriumKeys$Seats", "bought", "[I", true)
def tyX4 : Nat → FieldType := fun k => match k with
  | 0 => .array .boolean
  | 1 => .array .boolean
  | 2 => .array .int
  | 3 => .array .int
  | _ => .array .int
abbrev wsX40 : List Cond := u_ws RX4 TX4 5
theorem nmX4 : ∀ a, a < 5 → ∀ b, b < 5 → a ≠ b → (TX4 a).2.1 ≠ (TX4 b).2.1 := by decide +kernel
theorem tyX4_ok : ∀ k, k < 5 → parseFieldDescriptor (TX4 k).2.2.1 = some (tyX4 k) := by decide +kernel
abbrev cX4_init : ByteArray := prog_6_method_1_code
def yX4_init : MethodName := ⟨RX4, "<init>", "()V"⟩
abbrev cX4_stateOf : ByteArray := prog_6_method_2_code
def yX4_stateOf : MethodName := ⟨RX4, "stateOf", "(I)I"⟩
abbrev cX4_isOpen : ByteArray := prog_6_method_3_code
def yX4_isOpen : MethodName := ⟨RX4, "isOpen", "(II)Z"⟩
abbrev cX4_leavesSingle : ByteArray := prog_6_method_4_code
def yX4_leavesSingle : MethodName := ⟨RX4, "leavesSingle", "(III)Z"⟩
abbrev cX4_lock : ByteArray := prog_6_method_5_code
def yX4_lock : MethodName := ⟨RX4, "lock", "(II)I"⟩
abbrev cX4_unlock : ByteArray := prog_6_method_6_code
def yX4_unlock : MethodName := ⟨RX4, "unlock", "(II)V"⟩
abbrev cX4_giveTo : ByteArray := prog_6_method_7_code
def yX4_giveTo : MethodName := ⟨RX4, "giveTo", "(II)V"⟩
abbrev cX4_ceilingOf : ByteArray := prog_6_method_8_code
def yX4_ceilingOf : MethodName := ⟨RX4, "ceilingOf", "(I)I"⟩
abbrev cX4_putUp : ByteArray := prog_6_method_9_code
def yX4_putUp : MethodName := ⟨RX4, "putUp", "(II)V"⟩
def RX5 : String := "AuditoriumKeys"
def TX5 : u_T := fun k => match k with
  | 0 => ("AuditoriumKeys", "now", "I", false)
  | 1 => ("AuditoriumKeys", "opening", "I", false)
  | 2 => ("AuditoriumKeys", "taken", "I", false)
  | 3 => ("AuditoriumKeys", "outlay", "[I", true)
  | 4 => ("AuditoriumKeys", "codes", "LAuditoriumKeys$Codes;", true)
  | 5 => ("AuditoriumKeys", "line", "LAuditoriumKeys$Line;", true)
  | 6 => ("AuditoriumKeys", "holds", "LAuditoriumKeys$Holds;", true)
  | 7 => ("AuditoriumKeys", "seats", "LAuditoriumKeys$Seats;", true)
  | _ => ("AuditoriumKeys", "sales", "LAuditoriumKeys$Sales;", true)
def tyX5 : Nat → FieldType := fun k => match k with
  | 0 => .int
  | 1 => .int
  | 2 => .int
  | 3 => .array .int
  | 4 => .object "AuditoriumKeys$Codes"
  | 5 => .object "AuditoriumKeys$Line"
  | 6 => .object "AuditoriumKeys$Holds"
  | 7 => .object "AuditoriumKeys$Seats"
  | _ => .object "AuditoriumKeys$Sales"
abbrev wsX50 : List Cond := u_ws RX5 TX5 9
theorem nmX5 : ∀ a, a < 9 → ∀ b, b < 9 → a ≠ b → (TX5 a).2.1 ≠ (TX5 b).2.1 := by decide +kernel
theorem tyX5_ok : ∀ k, k < 9 → parseFieldDescriptor (TX5 k).2.2.1 = some (tyX5 k) := by decide +kernel
abbrev cX5_init : ByteArray := prog_1_method_1_code
def yX5_init : MethodName := ⟨RX5, "<init>", "()V"⟩
abbrev cX5_pass : ByteArray := prog_1_method_2_code
def yX5_pass : MethodName := ⟨RX5, "pass", "(I)I"⟩
abbrev cX5_time : ByteArray := prog_1_method_3_code
def yX5_time : MethodName := ⟨RX5, "time", "()I"⟩
abbrev cX5_setOpening : ByteArray := prog_1_method_4_code
def yX5_setOpening : MethodName := ⟨RX5, "setOpening", "(I)I"⟩
abbrev cX5_code : ByteArray := prog_1_method_5_code
def yX5_code : MethodName := ⟨RX5, "code", "(II)I"⟩
abbrev cX5_used : ByteArray := prog_1_method_6_code
def yX5_used : MethodName := ⟨RX5, "used", "(II)I"⟩
abbrev cX5_join : ByteArray := prog_1_method_7_code
def yX5_join : MethodName := ⟨RX5, "join", "(I)I"⟩
abbrev cX5_quit : ByteArray := prog_1_method_8_code
def yX5_quit : MethodName := ⟨RX5, "quit", "(I)I"⟩
abbrev cX5_queueAt : ByteArray := prog_1_method_9_code
def yX5_queueAt : MethodName := ⟨RX5, "queueAt", "(I)I"⟩
abbrev cX5_served : ByteArray := prog_1_method_10_code
def yX5_served : MethodName := ⟨RX5, "served", "()I"⟩
abbrev cX5_hold : ByteArray := prog_1_method_11_code
def yX5_hold : MethodName := ⟨RX5, "hold", "(IIIII)I"⟩
abbrev cX5_pay : ByteArray := prog_1_method_12_code
def yX5_pay : MethodName := ⟨RX5, "pay", "(II)I"⟩
abbrev cX5_letGo : ByteArray := prog_1_method_13_code
def yX5_letGo : MethodName := ⟨RX5, "letGo", "(I)I"⟩
abbrev cX5_lapses : ByteArray := prog_1_method_14_code
def yX5_lapses : MethodName := ⟨RX5, "lapses", "(I)I"⟩
abbrev cX5_state : ByteArray := prog_1_method_15_code
def yX5_state : MethodName := ⟨RX5, "state", "(I)I"⟩
abbrev cX5_owner : ByteArray := prog_1_method_16_code
def yX5_owner : MethodName := ⟨RX5, "owner", "(I)I"⟩
abbrev cX5_ownerBySales : ByteArray := prog_1_method_17_code
def yX5_ownerBySales : MethodName := ⟨RX5, "ownerBySales", "(I)I"⟩
abbrev cX5_isSingle : ByteArray := prog_1_method_18_code
def yX5_isSingle : MethodName := ⟨RX5, "isSingle", "(I)Z"⟩
abbrev cX5_firstOpen : ByteArray := prog_1_method_19_code
def yX5_firstOpen : MethodName := ⟨RX5, "firstOpen", "(II)I"⟩
abbrev cX5_offer : ByteArray := prog_1_method_20_code
def yX5_offer : MethodName := ⟨RX5, "offer", "(III)I"⟩
abbrev cX5_retract : ByteArray := prog_1_method_21_code
def yX5_retract : MethodName := ⟨RX5, "retract", "(I)I"⟩
abbrev cX5_spent : ByteArray := prog_1_method_22_code
def yX5_spent : MethodName := ⟨RX5, "spent", "(I)I"⟩
abbrev cX5_takings : ByteArray := prog_1_method_23_code
def yX5_takings : MethodName := ⟨RX5, "takings", "()I"⟩
abbrev cX5_needPerson : ByteArray := prog_1_method_24_code
def yX5_needPerson : MethodName := ⟨RX5, "needPerson", "(I)V"⟩
abbrev cX5_needRow : ByteArray := prog_1_method_25_code
def yX5_needRow : MethodName := ⟨RX5, "needRow", "(I)V"⟩
abbrev cX5_needSeat : ByteArray := prog_1_method_26_code
def yX5_needSeat : MethodName := ⟨RX5, "needSeat", "(I)V"⟩
abbrev cX5_needCode : ByteArray := prog_1_method_27_code
def yX5_needCode : MethodName := ⟨RX5, "needCode", "(I)V"⟩
abbrev cX5_needHold : ByteArray := prog_1_method_28_code
def yX5_needHold : MethodName := ⟨RX5, "needHold", "(I)V"⟩
abbrev cX5_needSeatsFor : ByteArray := prog_1_method_29_code
def yX5_needSeatsFor : MethodName := ⟨RX5, "needSeatsFor", "(IIII)V"⟩
abbrev cX5_needRightFor : ByteArray := prog_1_method_30_code
def yX5_needRightFor : MethodName := ⟨RX5, "needRightFor", "(III)V"⟩
abbrev cX5_giveBack : ByteArray := prog_1_method_31_code
def yX5_giveBack : MethodName := ⟨RX5, "giveBack", "(I)I"⟩
abbrev cX5_sell : ByteArray := prog_1_method_32_code
def yX5_sell : MethodName := ⟨RX5, "sell", "(I)V"⟩
def RX6 : String := "AuditoriumKeysModel"
def TX6 : u_T := fun k => match k with
  | 0 => ("AuditoriumKeysModel", "thrown", "I", false)
  | 1 => ("AuditoriumKeysModel", "time", "I", false)
  | 2 => ("AuditoriumKeysModel", "opening", "I", false)
  | 3 => ("AuditoriumKeysModel", "codes", "I", false)
  | 4 => ("AuditoriumKeysModel", "ofPerson", "[I", true)
  | 5 => ("AuditoriumKeysModel", "ofHousehold", "[I", true)
  | 6 => ("AuditoriumKeysModel", "used", "[I", true)
  | 7 => ("AuditoriumKeysModel", "cameAt", "[I", true)
  | 8 => ("AuditoriumKeysModel", "firsts", "[I", true)
  | 9 => ("AuditoriumKeysModel", "manies", "[I", true)
  | 10 => ("AuditoriumKeysModel", "byCode", "[I", true)
  | 11 => ("AuditoriumKeysModel", "costs", "[I", true)
  | 12 => ("AuditoriumKeysModel", "paid", "[I", true)
  | 13 => ("AuditoriumKeysModel", "madeAt", "[I", true)
  | 14 => ("AuditoriumKeysModel", "lapsesAt", "[I", true)
  | 15 => ("AuditoriumKeysModel", "spent", "[I", true)
  | 16 => ("AuditoriumKeysModel", "owners", "[I", true)
  | 17 => ("AuditoriumKeysModel", "worth", "[I", true)
  | 18 => ("AuditoriumKeysModel", "offered", "[I", true)
  | 19 => ("AuditoriumKeysModel", "wasSingle", "[Z", true)
  | _ => ("AuditoriumKeysModel", "takings", "I", false)
def tyX6 : Nat → FieldType := fun k => match k with
  | 0 => .int
  | 1 => .int
  | 2 => .int
  | 3 => .int
  | 4 => .array .int
  | 5 => .array .int
  | 6 => .array .int
  | 7 => .array .int
  | 8 => .array .int
  | 9 => .array .int
  | 10 => .array .int
  | 11 => .array .int
  | 12 => .array .int
  | 13 => .array .int
  | 14 => .array .int
  | 15 => .array .int
  | 16 => .array .int
  | 17 => .array .int
  | 18 => .array .int
  | 19 => .array .boolean
  | _ => .int
abbrev wsX60 : List Cond := u_ws RX6 TX6 21
theorem nmX6 : ∀ a, a < 21 → ∀ b, b < 21 → a ≠ b → (TX6 a).2.1 ≠ (TX6 b).2.1 := by decide +kernel
theorem tyX6_ok : ∀ k, k < 21 → parseFieldDescriptor (TX6 k).2.2.1 = some (tyX6 k) := by decide +kernel
abbrev cX6_init : ByteArray := prog_8_method_1_code
def yX6_init : MethodName := ⟨RX6, "<init>", "()V"⟩
abbrev cX6_thrown : ByteArray := prog_8_method_2_code
def yX6_thrown : MethodName := ⟨RX6, "thrown", "()I"⟩
abbrev cX6_goesWell : ByteArray := prog_8_method_3_code
def yX6_goesWell : MethodName := ⟨RX6, "goesWell", "(I)Z"⟩
abbrev cX6_in : ByteArray := prog_8_method_4_code
def yX6_in : MethodName := ⟨RX6, "in", "(III)Z"⟩
abbrev cX6_isPerson : ByteArray := prog_8_method_5_code
def yX6_isPerson : MethodName := ⟨RX6, "isPerson", "(I)Z"⟩
abbrev cX6_isSeat : ByteArray := prog_8_method_6_code
def yX6_isSeat : MethodName := ⟨RX6, "isSeat", "(I)Z"⟩
abbrev cX6_isRow : ByteArray := prog_8_method_7_code
def yX6_isRow : MethodName := ⟨RX6, "isRow", "(I)Z"⟩
abbrev cX6_isCode : ByteArray := prog_8_method_8_code
def yX6_isCode : MethodName := ⟨RX6, "isCode", "(I)Z"⟩
abbrev cX6_isHeld : ByteArray := prog_8_method_9_code
def yX6_isHeld : MethodName := ⟨RX6, "isHeld", "(I)Z"⟩
abbrev cX6_stateOf : ByteArray := prog_8_method_10_code
def yX6_stateOf : MethodName := ⟨RX6, "stateOf", "(I)I"⟩
abbrev cX6_isOpen : ByteArray := prog_8_method_11_code
def yX6_isOpen : MethodName := ⟨RX6, "isOpen", "(I)Z"⟩
abbrev cX6_isAlone : ByteArray := prog_8_method_12_code
def yX6_isAlone : MethodName := ⟨RX6, "isAlone", "(I)Z"⟩
abbrev cX6_priceOf : ByteArray := prog_8_method_13_code
def yX6_priceOf : MethodName := ⟨RX6, "priceOf", "(I)I"⟩
abbrev cX6_dropHold : ByteArray := prog_8_method_14_code
def yX6_dropHold : MethodName := ⟨RX6, "dropHold", "(I)V"⟩
abbrev cX6_pass : ByteArray := prog_8_method_15_code
def yX6_pass : MethodName := ⟨RX6, "pass", "(I)I"⟩
abbrev cX6_time : ByteArray := prog_8_method_16_code
def yX6_time : MethodName := ⟨RX6, "time", "()I"⟩
abbrev cX6_setOpening : ByteArray := prog_8_method_17_code
def yX6_setOpening : MethodName := ⟨RX6, "setOpening", "(I)I"⟩
abbrev cX6_code : ByteArray := prog_8_method_18_code
def yX6_code : MethodName := ⟨RX6, "code", "(II)I"⟩
abbrev cX6_usedBy : ByteArray := prog_8_method_19_code
def yX6_usedBy : MethodName := ⟨RX6, "usedBy", "(II)I"⟩
abbrev cX6_used : ByteArray := prog_8_method_20_code
def yX6_used : MethodName := ⟨RX6, "used", "(II)I"⟩
abbrev cX6_countQueue : ByteArray := prog_8_method_21_code
def yX6_countQueue : MethodName := ⟨RX6, "countQueue", "()I"⟩
abbrev cX6_isAhead : ByteArray := prog_8_method_22_code
def yX6_isAhead : MethodName := ⟨RX6, "isAhead", "(II)Z"⟩
abbrev cX6_placeAt : ByteArray := prog_8_method_23_code
def yX6_placeAt : MethodName := ⟨RX6, "placeAt", "(I)I"⟩
abbrev cX6_join : ByteArray := prog_8_method_24_code
def yX6_join : MethodName := ⟨RX6, "join", "(I)I"⟩
abbrev cX6_quit : ByteArray := prog_8_method_25_code
def yX6_quit : MethodName := ⟨RX6, "quit", "(I)I"⟩
abbrev cX6_queueAt : ByteArray := prog_8_method_26_code
def yX6_queueAt : MethodName := ⟨RX6, "queueAt", "(I)I"⟩
abbrev cX6_servedNow : ByteArray := prog_8_method_27_code
def yX6_servedNow : MethodName := ⟨RX6, "servedNow", "()I"⟩
abbrev cX6_served : ByteArray := prog_8_method_28_code
def yX6_served : MethodName := ⟨RX6, "served", "()I"⟩
abbrev cX6_areOpen : ByteArray := prog_8_method_29_code
def yX6_areOpen : MethodName := ⟨RX6, "areOpen", "(III)Z"⟩
abbrev cX6_isWithin : ByteArray := prog_8_method_30_code
def yX6_isWithin : MethodName := ⟨RX6, "isWithin", "(III)Z"⟩
abbrev cX6_leavesSingle : ByteArray := prog_8_method_31_code
def yX6_leavesSingle : MethodName := ⟨RX6, "leavesSingle", "(III)Z"⟩
abbrev cX6_hold : ByteArray := prog_8_method_32_code
def yX6_hold : MethodName := ⟨RX6, "hold", "(IIIII)I"⟩
abbrev cX6_sell : ByteArray := prog_8_method_33_code
def yX6_sell : MethodName := ⟨RX6, "sell", "(I)V"⟩
abbrev cX6_pay : ByteArray := prog_8_method_34_code
def yX6_pay : MethodName := ⟨RX6, "pay", "(II)I"⟩
abbrev cX6_letGo : ByteArray := prog_8_method_35_code
def yX6_letGo : MethodName := ⟨RX6, "letGo", "(I)I"⟩
abbrev cX6_lapses : ByteArray := prog_8_method_36_code
def yX6_lapses : MethodName := ⟨RX6, "lapses", "(I)I"⟩
abbrev cX6_state : ByteArray := prog_8_method_37_code
def yX6_state : MethodName := ⟨RX6, "state", "(I)I"⟩
abbrev cX6_owner : ByteArray := prog_8_method_38_code
def yX6_owner : MethodName := ⟨RX6, "owner", "(I)I"⟩
abbrev cX6_ownerBySales : ByteArray := prog_8_method_39_code
def yX6_ownerBySales : MethodName := ⟨RX6, "ownerBySales", "(I)I"⟩
abbrev cX6_isSingle : ByteArray := prog_8_method_40_code
def yX6_isSingle : MethodName := ⟨RX6, "isSingle", "(I)Z"⟩
abbrev cX6_firstOpen : ByteArray := prog_8_method_41_code
def yX6_firstOpen : MethodName := ⟨RX6, "firstOpen", "(II)I"⟩
abbrev cX6_offer : ByteArray := prog_8_method_42_code
def yX6_offer : MethodName := ⟨RX6, "offer", "(III)I"⟩
abbrev cX6_retract : ByteArray := prog_8_method_43_code
def yX6_retract : MethodName := ⟨RX6, "retract", "(I)I"⟩
abbrev cX6_spent : ByteArray := prog_8_method_44_code
def yX6_spent : MethodName := ⟨RX6, "spent", "(I)I"⟩
abbrev cX6_takings : ByteArray := prog_8_method_45_code
def yX6_takings : MethodName := ⟨RX6, "takings", "()I"⟩
def RJ9 : String := "java/lang/Math"
def TJ9 : u_T := fun k => match k with
  | _ => ("", "", "", false)
def tyJ9 : Nat → FieldType := fun k => match k with
  | _ => .int
abbrev wsJ90 : List Cond := u_ws RJ9 TJ9 0
theorem nmJ9 : ∀ a, a < 0 → ∀ b, b < 0 → a ≠ b → (TJ9 a).2.1 ≠ (TJ9 b).2.1 := by decide +kernel
theorem tyJ9_ok : ∀ k, k < 0 → parseFieldDescriptor (TJ9 k).2.2.1 = some (tyJ9 k) := by decide +kernel
abbrev cJ9_min_7cf53 : ByteArray := prog_13_method_69_code
def yJ9_min_7cf53 : MethodName := ⟨RJ9, "min", "(II)I"⟩
def RJ0 : String := "java/lang/String"
def TJ0 : u_T := fun k => match k with
  | _ => ("", "", "", false)
def tyJ0 : Nat → FieldType := fun k => match k with
  | _ => .int
abbrev wsJ00 : List Cond := u_ws RJ0 TJ0 0
theorem nmJ0 : ∀ a, a < 0 → ∀ b, b < 0 → a ≠ b → (TJ0 a).2.1 ≠ (TJ0 b).2.1 := by decide +kernel
theorem tyJ0_ok : ∀ k, k < 0 → parseFieldDescriptor (TJ0 k).2.2.1 = some (tyJ0 k) := by decide +kernel
def RL : String := "AuditoriumKeysLaw"
def wsX0_init : List Cond := .code yX0_init cX0_init 1 none :: ([.methodLink RX0 3 objectInit, .instanceMethod objectInit, .code objectInit ⟨#[0xb1]⟩ 1 none, .fieldLink RX0 9 "AuditoriumKeys$Codes" "count" "I", .arrayClass .int, .fieldLink RX0 15 "AuditoriumKeys$Codes" "ofPerson" "[I", .fieldLink RX0 19 "AuditoriumKeys$Codes" "ofHousehold" "[I", .fieldLink RX0 22 "AuditoriumKeys$Codes" "counted" "[I"] ++ wsX00)
def wsX0_add : List Cond := .code yX0_add cX0_add 3 (some .int) :: ([.fieldLink RX0 15 "AuditoriumKeys$Codes" "ofPerson" "[I", .fieldLink RX0 9 "AuditoriumKeys$Codes" "count" "I", .fieldLink RX0 19 "AuditoriumKeys$Codes" "ofHousehold" "[I"] ++ wsX00)
def wsX0_seatsOf : List Cond := .code yX0_seatsOf cX0_seatsOf 3 (some .int) :: ([.fieldLink RX0 22 "AuditoriumKeys$Codes" "counted" "[I"] ++ wsX00)
def wsX0_haveRoom : List Cond := .code yX0_haveRoom cX0_haveRoom 6 (some .boolean) :: ([.fieldLink RX0 15 "AuditoriumKeys$Codes" "ofPerson" "[I", .fieldLink RX0 19 "AuditoriumKeys$Codes" "ofHousehold" "[I", .methodLink RX0 25 yX0_seatsOf, .instanceMethod yX0_seatsOf, .selects RX0 yX0_seatsOf yX0_seatsOf, .initialized RX0, .code yX0_seatsOf cX0_seatsOf 3 (some .int), .fieldLink RX0 22 "AuditoriumKeys$Codes" "counted" "[I"] ++ wsX00)
def wsX0_tally : List Cond := .code yX0_tally cX0_tally 4 none :: ([.fieldLink RX0 22 "AuditoriumKeys$Codes" "counted" "[I"] ++ wsX00)
def wsX1_init : List Cond := .code yX1_init cX1_init 1 none :: ([.methodLink RX1 3 objectInit, .instanceMethod objectInit, .code objectInit ⟨#[0xb1]⟩ 1 none, .arrayClass .int, .fieldLink RX1 9 "AuditoriumKeys$Holds" "first" "[I", .fieldLink RX1 15 "AuditoriumKeys$Holds" "many" "[I", .fieldLink RX1 18 "AuditoriumKeys$Holds" "code" "[I", .fieldLink RX1 21 "AuditoriumKeys$Holds" "cost" "[I", .fieldLink RX1 24 "AuditoriumKeys$Holds" "paid" "[I", .fieldLink RX1 27 "AuditoriumKeys$Holds" "latest" "[I", .fieldLink RX1 30 "AuditoriumKeys$Holds" "lapse" "[I"] ++ wsX10)
def wsX1_isThere : List Cond := .code yX1_isThere cX1_isThere 2 (some .boolean) :: ([.fieldLink RX1 15 "AuditoriumKeys$Holds" "many" "[I"] ++ wsX10)
def wsX1_left : List Cond := .code yX1_left cX1_left 2 (some .int) :: ([.fieldLink RX1 21 "AuditoriumKeys$Holds" "cost" "[I", .fieldLink RX1 24 "AuditoriumKeys$Holds" "paid" "[I"] ++ wsX10)
def wsX1_make : List Cond := .code yX1_make cX1_make 7 none :: ([.fieldLink RX1 9 "AuditoriumKeys$Holds" "first" "[I", .fieldLink RX1 15 "AuditoriumKeys$Holds" "many" "[I", .fieldLink RX1 18 "AuditoriumKeys$Holds" "code" "[I", .fieldLink RX1 21 "AuditoriumKeys$Holds" "cost" "[I", .fieldLink RX1 24 "AuditoriumKeys$Holds" "paid" "[I", .fieldLink RX1 27 "AuditoriumKeys$Holds" "latest" "[I", .fieldLink RX1 30 "AuditoriumKeys$Holds" "lapse" "[I"] ++ wsX10)
def wsX1_prolong : List Cond := .code yX1_prolong cX1_prolong 2 none :: ([.fieldLink RX1 30 "AuditoriumKeys$Holds" "lapse" "[I", .fieldLink RX1 27 "AuditoriumKeys$Holds" "latest" "[I", .methodLink RX1 33 Lib.Math.min.name, .static Lib.Math.min.name, .initialized "java/lang/Math", .code Lib.Math.min.name Lib.Math.min.code 2 (some .int)] ++ wsX10)
def wsX1_end : List Cond := .code yX1_end cX1_end 2 none :: ([.fieldLink RX1 15 "AuditoriumKeys$Holds" "many" "[I"] ++ wsX10)
def wsX2_init : List Cond := .code yX2_init cX2_init 2 none :: ([.methodLink RX2 3 objectInit, .instanceMethod objectInit, .code objectInit ⟨#[0xb1]⟩ 1 none, .arrayClass .int, .fieldLink RX2 9 "AuditoriumKeys$Line" "came" "[I"] ++ wsX20)
def wsX2_isIn : List Cond := .code yX2_isIn cX2_isIn 2 (some .boolean) :: ([.fieldLink RX2 9 "AuditoriumKeys$Line" "came" "[I"] ++ wsX20)
def wsX2_enter : List Cond := .code yX2_enter cX2_enter 3 none :: ([.fieldLink RX2 9 "AuditoriumKeys$Line" "came" "[I"] ++ wsX20)
def wsX2_leave : List Cond := .code yX2_leave cX2_leave 2 none :: ([.fieldLink RX2 9 "AuditoriumKeys$Line" "came" "[I"] ++ wsX20)
def wsX2_length : List Cond := .code yX2_length cX2_length 3 (some .int) :: ([.methodLink RX2 15 yX2_isIn, .instanceMethod yX2_isIn, .selects RX2 yX2_isIn yX2_isIn, .initialized RX2, .code yX2_isIn cX2_isIn 2 (some .boolean), .fieldLink RX2 9 "AuditoriumKeys$Line" "came" "[I"] ++ wsX20)
def wsX2_rank : List Cond := .code yX2_rank cX2_rank 3 (some .int) :: ([.fieldLink RX2 9 "AuditoriumKeys$Line" "came" "[I"] ++ wsX20)
def wsX2_placeOf : List Cond := .code yX2_placeOf cX2_placeOf 4 (some .int) :: ([.methodLink RX2 15 yX2_isIn, .instanceMethod yX2_isIn, .selects RX2 yX2_isIn yX2_isIn, .initialized RX2, .code yX2_isIn cX2_isIn 2 (some .boolean), .fieldLink RX2 9 "AuditoriumKeys$Line" "came" "[I", .methodLink RX2 23 yX2_rank, .instanceMethod yX2_rank, .selects RX2 yX2_rank yX2_rank, .code yX2_rank cX2_rank 3 (some .int)] ++ wsX20)
def wsX2_personAt : List Cond := .code yX2_personAt cX2_personAt 3 (some .int) :: ([.methodLink RX2 15 yX2_isIn, .instanceMethod yX2_isIn, .selects RX2 yX2_isIn yX2_isIn, .initialized RX2, .code yX2_isIn cX2_isIn 2 (some .boolean), .fieldLink RX2 9 "AuditoriumKeys$Line" "came" "[I", .methodLink RX2 19 yX2_placeOf, .instanceMethod yX2_placeOf, .selects RX2 yX2_placeOf yX2_placeOf, .code yX2_placeOf cX2_placeOf 4 (some .int), .methodLink RX2 23 yX2_rank, .instanceMethod yX2_rank, .selects RX2 yX2_rank yX2_rank, .code yX2_rank cX2_rank 3 (some .int)] ++ wsX20)
def wsX3_init : List Cond := .code yX3_init cX3_init 1 none :: ([.methodLink RX3 3 objectInit, .instanceMethod objectInit, .code objectInit ⟨#[0xb1]⟩ 1 none, .fieldLink RX3 9 "AuditoriumKeys$Sales" "count" "I", .arrayClass .int, .fieldLink RX3 15 "AuditoriumKeys$Sales" "first" "[I", .fieldLink RX3 19 "AuditoriumKeys$Sales" "many" "[I", .fieldLink RX3 22 "AuditoriumKeys$Sales" "buyer" "[I"] ++ wsX30)
def wsX3_add : List Cond := .code yX3_add cX3_add 4 none :: ([.fieldLink RX3 9 "AuditoriumKeys$Sales" "count" "I", .fieldLink RX3 15 "AuditoriumKeys$Sales" "first" "[I", .fieldLink RX3 19 "AuditoriumKeys$Sales" "many" "[I", .fieldLink RX3 22 "AuditoriumKeys$Sales" "buyer" "[I"] ++ wsX30)
def wsX3_lastBuyerOf : List Cond := .code yX3_lastBuyerOf cX3_lastBuyerOf 4 (some .int) :: ([.fieldLink RX3 9 "AuditoriumKeys$Sales" "count" "I", .fieldLink RX3 15 "AuditoriumKeys$Sales" "first" "[I", .fieldLink RX3 19 "AuditoriumKeys$Sales" "many" "[I", .fieldLink RX3 22 "AuditoriumKeys$Sales" "buyer" "[I"] ++ wsX30)
def wsX4_init : List Cond := .code yX4_init cX4_init 2 none :: ([.methodLink RX4 3 objectInit, .instanceMethod objectInit, .code objectInit ⟨#[0xb1]⟩ 1 none, .arrayClass .boolean, .fieldLink RX4 9 "AuditoriumKeys$Seats" "held" "[Z", .fieldLink RX4 15 "AuditoriumKeys$Seats" "offered" "[Z", .arrayClass .int, .fieldLink RX4 18 "AuditoriumKeys$Seats" "owner" "[I", .fieldLink RX4 22 "AuditoriumKeys$Seats" "price" "[I", .fieldLink RX4 25 "AuditoriumKeys$Seats" "bought" "[I"] ++ wsX40)
def wsX4_stateOf : List Cond := .code yX4_stateOf cX4_stateOf 2 (some .int) :: ([.fieldLink RX4 9 "AuditoriumKeys$Seats" "held" "[Z", .fieldLink RX4 18 "AuditoriumKeys$Seats" "owner" "[I", .fieldLink RX4 15 "AuditoriumKeys$Seats" "offered" "[Z"] ++ wsX40)
def wsX4_isOpen : List Cond := .code yX4_isOpen cX4_isOpen 4 (some .boolean) :: ([.methodLink RX4 28 yX4_stateOf, .instanceMethod yX4_stateOf, .selects RX4 yX4_stateOf yX4_stateOf, .initialized RX4, .code yX4_stateOf cX4_stateOf 2 (some .int), .fieldLink RX4 9 "AuditoriumKeys$Seats" "held" "[Z", .fieldLink RX4 18 "AuditoriumKeys$Seats" "owner" "[I", .fieldLink RX4 15 "AuditoriumKeys$Seats" "offered" "[Z"] ++ wsX40)
def wsX4_leavesSingle : List Cond := .code yX4_leavesSingle cX4_leavesSingle 5 (some .boolean) :: ([.methodLink RX4 32 yX4_isOpen, .instanceMethod yX4_isOpen, .selects RX4 yX4_isOpen yX4_isOpen, .initialized RX4, .code yX4_isOpen cX4_isOpen 4 (some .boolean), .methodLink RX4 28 yX4_stateOf, .instanceMethod yX4_stateOf, .selects RX4 yX4_stateOf yX4_stateOf, .code yX4_stateOf cX4_stateOf 2 (some .int), .fieldLink RX4 9 "AuditoriumKeys$Seats" "held" "[Z", .fieldLink RX4 18 "AuditoriumKeys$Seats" "owner" "[I", .fieldLink RX4 15 "AuditoriumKeys$Seats" "offered" "[Z"] ++ wsX40)
def wsX4_lock : List Cond := .code yX4_lock cX4_lock 5 (some .int) :: ([.fieldLink RX4 9 "AuditoriumKeys$Seats" "held" "[Z", .fieldLink RX4 22 "AuditoriumKeys$Seats" "price" "[I"] ++ wsX40)
def wsX4_unlock : List Cond := .code yX4_unlock cX4_unlock 4 none :: ([.fieldLink RX4 9 "AuditoriumKeys$Seats" "held" "[Z"] ++ wsX40)
def wsX4_giveTo : List Cond := .code yX4_giveTo cX4_giveTo 3 none :: ([.fieldLink RX4 9 "AuditoriumKeys$Seats" "held" "[Z", .fieldLink RX4 15 "AuditoriumKeys$Seats" "offered" "[Z", .fieldLink RX4 18 "AuditoriumKeys$Seats" "owner" "[I", .fieldLink RX4 25 "AuditoriumKeys$Seats" "bought" "[I", .fieldLink RX4 22 "AuditoriumKeys$Seats" "price" "[I"] ++ wsX40)
def wsX4_ceilingOf : List Cond := .code yX4_ceilingOf cX4_ceilingOf 2 (some .int) :: ([.fieldLink RX4 25 "AuditoriumKeys$Seats" "bought" "[I"] ++ wsX40)
def wsX4_putUp : List Cond := .code yX4_putUp cX4_putUp 3 none :: ([.fieldLink RX4 15 "AuditoriumKeys$Seats" "offered" "[Z", .fieldLink RX4 22 "AuditoriumKeys$Seats" "price" "[I"] ++ wsX40)
def wsX5_init_r1 : List Cond := [Cond.methodLink RX5 3 objectInit, Cond.instanceMethod objectInit, Cond.code objectInit ⟨#[0xb1]⟩ 1 none, Cond.fieldLink RX5 9 "AuditoriumKeys" "now" "I", Cond.fieldLink RX5 13 "AuditoriumKeys" "opening" "I", Cond.fieldLink RX5 16 "AuditoriumKeys" "taken" "I", Cond.arrayClass .int, Cond.fieldLink RX5 19 "AuditoriumKeys" "outlay" "[I", Cond.classLink RX5 23 RX0, Cond.instantiable RX0 4, Cond.initialized RX0, Cond.fieldLink RX5 26 "AuditoriumKeys" "codes" "LAuditoriumKeys$Codes;", Cond.classLink RX5 30 RX2, Cond.instantiable RX2 1, Cond.initialized RX2, Cond.fieldLink RX5 33 "AuditoriumKeys" "line" "LAuditoriumKeys$Line;", Cond.classLink RX5 37 RX1, Cond.instantiable RX1 7, Cond.initialized RX1, Cond.fieldLink RX5 40 "AuditoriumKeys" "holds" "LAuditoriumKeys$Holds;", Cond.classLink RX5 44 RX4, Cond.instantiable RX4 5, Cond.initialized RX4, Cond.fieldLink RX5 47 "AuditoriumKeys" "seats" "LAuditoriumKeys$Seats;"]
def wsX5_init_r2 : List Cond := [Cond.classLink RX5 51 RX3, Cond.instantiable RX3 4, Cond.initialized RX3, Cond.fieldLink RX5 54 "AuditoriumKeys" "sales" "LAuditoriumKeys$Sales;", Cond.instanceMethod yX0_init, Cond.code yX0_init cX0_init 1 none, Cond.methodLink RX0 3 objectInit, Cond.fieldLink RX0 9 "AuditoriumKeys$Codes" "count" "I", Cond.fieldLink RX0 15 "AuditoriumKeys$Codes" "ofPerson" "[I", Cond.fieldLink RX0 19 "AuditoriumKeys$Codes" "ofHousehold" "[I", Cond.fieldLink RX0 22 "AuditoriumKeys$Codes" "counted" "[I", Cond.instanceMethod yX2_init, Cond.code yX2_init cX2_init 2 none, Cond.methodLink RX2 3 objectInit, Cond.fieldLink RX2 9 "AuditoriumKeys$Line" "came" "[I", Cond.instanceMethod yX1_init, Cond.code yX1_init cX1_init 1 none, Cond.methodLink RX1 3 objectInit, Cond.fieldLink RX1 9 "AuditoriumKeys$Holds" "first" "[I", Cond.fieldLink RX1 15 "AuditoriumKeys$Holds" "many" "[I", Cond.fieldLink RX1 18 "AuditoriumKeys$Holds" "code" "[I", Cond.fieldLink RX1 21 "AuditoriumKeys$Holds" "cost" "[I", Cond.fieldLink RX1 24 "AuditoriumKeys$Holds" "paid" "[I", Cond.fieldLink RX1 27 "AuditoriumKeys$Holds" "latest" "[I"]
def wsX5_init_r3 : List Cond := [Cond.fieldLink RX1 30 "AuditoriumKeys$Holds" "lapse" "[I", Cond.instanceMethod yX4_init, Cond.code yX4_init cX4_init 2 none, Cond.methodLink RX4 3 objectInit, Cond.arrayClass .boolean, Cond.fieldLink RX4 9 "AuditoriumKeys$Seats" "held" "[Z", Cond.fieldLink RX4 15 "AuditoriumKeys$Seats" "offered" "[Z", Cond.fieldLink RX4 18 "AuditoriumKeys$Seats" "owner" "[I", Cond.fieldLink RX4 22 "AuditoriumKeys$Seats" "price" "[I", Cond.fieldLink RX4 25 "AuditoriumKeys$Seats" "bought" "[I", Cond.instanceMethod yX3_init, Cond.code yX3_init cX3_init 1 none, Cond.methodLink RX3 3 objectInit, Cond.fieldLink RX3 9 "AuditoriumKeys$Sales" "count" "I", Cond.fieldLink RX3 15 "AuditoriumKeys$Sales" "first" "[I", Cond.fieldLink RX3 19 "AuditoriumKeys$Sales" "many" "[I", Cond.fieldLink RX3 22 "AuditoriumKeys$Sales" "buyer" "[I"]
def wsX5_init : List Cond := .code yX5_init cX5_init 1 none :: ((wsX5_init_r1 ++ (wsX5_init_r2 ++ wsX5_init_r3)) ++ wsX50 ++ wsX00 ++ wsX20 ++ wsX10 ++ wsX40 ++ wsX30)
def wsX5_giveBack : List Cond := .code yX5_giveBack cX5_giveBack 3 (some .int) :: ([.fieldLink RX5 40 "AuditoriumKeys" "holds" "LAuditoriumKeys$Holds;", .fieldLink RX5 19 "AuditoriumKeys" "outlay" "[I", .fieldLink RX5 26 "AuditoriumKeys" "codes" "LAuditoriumKeys$Codes;", .fieldLink RX5 47 "AuditoriumKeys" "seats" "LAuditoriumKeys$Seats;", .instanceMethod yX0_tally, .initialized RX0, .selects RX0 yX0_tally yX0_tally, .code yX0_tally cX0_tally 4 none, .fieldLink RX0 22 "AuditoriumKeys$Codes" "counted" "[I", .instanceMethod yX4_unlock, .initialized RX4, .selects RX4 yX4_unlock yX4_unlock, .code yX4_unlock cX4_unlock 4 none, .fieldLink RX4 9 "AuditoriumKeys$Seats" "held" "[Z", .instanceMethod yX1_end, .initialized RX1, .selects RX1 yX1_end yX1_end, .code yX1_end cX1_end 2 none, .fieldLink RX1 15 "AuditoriumKeys$Holds" "many" "[I"] ++ wsX50 ++ wsX10 ++ wsX00 ++ wsX40)
def wsX5_pass_r1 : List Cond := [Cond.classLink RX5 58 "java/lang/IllegalArgumentException", Cond.initialized "java/lang/IllegalArgumentException", Cond.classLink RX5 65 "java/lang/IllegalStateException", Cond.initialized "java/lang/IllegalStateException", Cond.fieldLink RX5 9 "AuditoriumKeys" "now" "I", Cond.fieldLink RX5 40 "AuditoriumKeys" "holds" "LAuditoriumKeys$Holds;", Cond.instanceMethod yX1_isThere, Cond.initialized RX1, Cond.selects RX1 yX1_isThere yX1_isThere, Cond.code yX1_isThere cX1_isThere 2 (some .boolean), Cond.fieldLink RX1 15 "AuditoriumKeys$Holds" "many" "[I", Cond.methodLink RX5 77 yX5_giveBack, Cond.instanceMethod yX5_giveBack, Cond.selects RX5 yX5_giveBack yX5_giveBack, Cond.initialized RX5, Cond.code yX5_giveBack cX5_giveBack 3 (some .int), Cond.fieldLink RX5 19 "AuditoriumKeys" "outlay" "[I", Cond.fieldLink RX5 26 "AuditoriumKeys" "codes" "LAuditoriumKeys$Codes;", Cond.fieldLink RX5 47 "AuditoriumKeys" "seats" "LAuditoriumKeys$Seats;", Cond.instanceMethod yX0_tally, Cond.initialized RX0, Cond.selects RX0 yX0_tally yX0_tally, Cond.code yX0_tally cX0_tally 4 none, Cond.fieldLink RX0 22 "AuditoriumKeys$Codes" "counted" "[I"]
def wsX5_pass_r2 : List Cond := [Cond.instanceMethod yX4_unlock, Cond.initialized RX4, Cond.selects RX4 yX4_unlock yX4_unlock, Cond.code yX4_unlock cX4_unlock 4 none, Cond.fieldLink RX4 9 "AuditoriumKeys$Seats" "held" "[Z", Cond.instanceMethod yX1_end, Cond.selects RX1 yX1_end yX1_end, Cond.code yX1_end cX1_end 2 none]
def wsX5_pass : List Cond := .code yX5_pass cX5_pass 4 (some .int) :: ((wsX5_pass_r1 ++ wsX5_pass_r2) ++ wsX50 ++ wsX10 ++ wsX00 ++ wsX40 ++ (vx_atS RX5 62 "java/lang/IllegalArgumentException" ["java/lang/RuntimeException", "java/lang/Exception"]).filter goodWord ++ (vx_atS RX5 69 "java/lang/IllegalStateException" ["java/lang/RuntimeException", "java/lang/Exception"]).filter goodWord)
def wsX5_time : List Cond := .code yX5_time cX5_time 1 (some .int) :: ([.fieldLink RX5 9 "AuditoriumKeys" "now" "I"] ++ wsX50)
def wsX5_setOpening : List Cond := .code yX5_setOpening cX5_setOpening 3 (some .int) :: ([.classLink RX5 58 "java/lang/IllegalArgumentException", .initialized "java/lang/IllegalArgumentException", .fieldLink RX5 13 "AuditoriumKeys" "opening" "I"] ++ wsX50 ++ (vx_atS RX5 62 "java/lang/IllegalArgumentException" ["java/lang/RuntimeException", "java/lang/Exception"]).filter goodWord)
def wsX5_code : List Cond := .code yX5_code cX5_code 3 (some .int) :: ([.classLink RX5 58 "java/lang/IllegalArgumentException", .initialized "java/lang/IllegalArgumentException", .classLink RX5 65 "java/lang/IllegalStateException", .initialized "java/lang/IllegalStateException", .fieldLink RX5 26 "AuditoriumKeys" "codes" "LAuditoriumKeys$Codes;", .instanceMethod yX0_add, .initialized RX0, .selects RX0 yX0_add yX0_add, .code yX0_add cX0_add 3 (some .int), .fieldLink RX0 15 "AuditoriumKeys$Codes" "ofPerson" "[I", .fieldLink RX0 9 "AuditoriumKeys$Codes" "count" "I", .fieldLink RX0 19 "AuditoriumKeys$Codes" "ofHousehold" "[I"] ++ wsX50 ++ wsX00 ++ (vx_atS RX5 62 "java/lang/IllegalArgumentException" ["java/lang/RuntimeException", "java/lang/Exception"]).filter goodWord ++ (vx_atS RX5 69 "java/lang/IllegalStateException" ["java/lang/RuntimeException", "java/lang/Exception"]).filter goodWord)
def wsX5_needCode : List Cond := .code yX5_needCode cX5_needCode 2 none :: ([.classLink RX5 129 "java/lang/IndexOutOfBoundsException", .initialized "java/lang/IndexOutOfBoundsException", .fieldLink RX5 26 "AuditoriumKeys" "codes" "LAuditoriumKeys$Codes;"] ++ wsX50 ++ wsX00 ++ (vx_atS RX5 133 "java/lang/IndexOutOfBoundsException" ["java/lang/RuntimeException", "java/lang/Exception"]).filter goodWord)
def wsX5_needPerson : List Cond := .code yX5_needPerson cX5_needPerson 1 none :: ([.classLink RX5 129 "java/lang/IndexOutOfBoundsException", .initialized "java/lang/IndexOutOfBoundsException"] ++ (vx_atS RX5 133 "java/lang/IndexOutOfBoundsException" ["java/lang/RuntimeException", "java/lang/Exception"]).filter goodWord)
def wsX5_used : List Cond := .code yX5_used cX5_used 3 (some .int) :: ([.fieldLink RX5 26 "AuditoriumKeys" "codes" "LAuditoriumKeys$Codes;", .methodLink RX5 96 yX5_needCode, .instanceMethod yX5_needCode, .selects RX5 yX5_needCode yX5_needCode, .initialized RX5, .code yX5_needCode cX5_needCode 2 none, .classLink RX5 129 "java/lang/IndexOutOfBoundsException", .initialized "java/lang/IndexOutOfBoundsException", .methodLink RX5 100 yX5_needPerson, .static yX5_needPerson, .code yX5_needPerson cX5_needPerson 1 none, .instanceMethod yX0_seatsOf, .initialized RX0, .selects RX0 yX0_seatsOf yX0_seatsOf, .code yX0_seatsOf cX0_seatsOf 3 (some .int), .fieldLink RX0 22 "AuditoriumKeys$Codes" "counted" "[I"] ++ wsX50 ++ wsX00 ++ (vx_atS RX5 133 "java/lang/IndexOutOfBoundsException" ["java/lang/RuntimeException", "java/lang/Exception"]).filter goodWord)
def wsX5_join_r1 : List Cond := [Cond.classLink RX5 65 "java/lang/IllegalStateException", Cond.initialized "java/lang/IllegalStateException", Cond.fieldLink RX5 33 "AuditoriumKeys" "line" "LAuditoriumKeys$Line;", Cond.fieldLink RX5 40 "AuditoriumKeys" "holds" "LAuditoriumKeys$Holds;", Cond.fieldLink RX5 9 "AuditoriumKeys" "now" "I", Cond.methodLink RX5 100 yX5_needPerson, Cond.static yX5_needPerson, Cond.initialized RX5, Cond.code yX5_needPerson cX5_needPerson 1 none, Cond.classLink RX5 129 "java/lang/IndexOutOfBoundsException", Cond.initialized "java/lang/IndexOutOfBoundsException", Cond.instanceMethod yX2_isIn, Cond.initialized RX2, Cond.selects RX2 yX2_isIn yX2_isIn, Cond.code yX2_isIn cX2_isIn 2 (some .boolean), Cond.fieldLink RX2 9 "AuditoriumKeys$Line" "came" "[I", Cond.instanceMethod yX1_isThere, Cond.initialized RX1, Cond.selects RX1 yX1_isThere yX1_isThere, Cond.code yX1_isThere cX1_isThere 2 (some .boolean), Cond.fieldLink RX1 15 "AuditoriumKeys$Holds" "many" "[I", Cond.instanceMethod yX2_enter, Cond.selects RX2 yX2_enter yX2_enter, Cond.code yX2_enter cX2_enter 3 none]
def wsX5_join_r2 : List Cond := [Cond.instanceMethod yX2_length, Cond.selects RX2 yX2_length yX2_length, Cond.code yX2_length cX2_length 3 (some .int), Cond.methodLink RX2 15 yX2_isIn]
def wsX5_join : List Cond := .code yX5_join cX5_join 2 (some .int) :: ((wsX5_join_r1 ++ wsX5_join_r2) ++ wsX50 ++ wsX20 ++ wsX10 ++ (vx_atS RX5 69 "java/lang/IllegalStateException" ["java/lang/RuntimeException", "java/lang/Exception"]).filter goodWord ++ (vx_atS RX5 133 "java/lang/IndexOutOfBoundsException" ["java/lang/RuntimeException", "java/lang/Exception"]).filter goodWord)
def wsX5_quit : List Cond := .code yX5_quit cX5_quit 2 (some .int) :: ([.classLink RX5 65 "java/lang/IllegalStateException", .initialized "java/lang/IllegalStateException", .fieldLink RX5 33 "AuditoriumKeys" "line" "LAuditoriumKeys$Line;", .methodLink RX5 100 yX5_needPerson, .static yX5_needPerson, .initialized RX5, .code yX5_needPerson cX5_needPerson 1 none, .classLink RX5 129 "java/lang/IndexOutOfBoundsException", .initialized "java/lang/IndexOutOfBoundsException", .instanceMethod yX2_isIn, .initialized RX2, .selects RX2 yX2_isIn yX2_isIn, .code yX2_isIn cX2_isIn 2 (some .boolean), .fieldLink RX2 9 "AuditoriumKeys$Line" "came" "[I", .instanceMethod yX2_leave, .selects RX2 yX2_leave yX2_leave, .code yX2_leave cX2_leave 2 none, .instanceMethod yX2_length, .selects RX2 yX2_length yX2_length, .code yX2_length cX2_length 3 (some .int), .methodLink RX2 15 yX2_isIn] ++ wsX50 ++ wsX20 ++ (vx_atS RX5 69 "java/lang/IllegalStateException" ["java/lang/RuntimeException", "java/lang/Exception"]).filter goodWord ++ (vx_atS RX5 133 "java/lang/IndexOutOfBoundsException" ["java/lang/RuntimeException", "java/lang/Exception"]).filter goodWord)
def wsX5_queueAt : List Cond := .code yX5_queueAt cX5_queueAt 3 (some .int) :: ([.classLink RX5 129 "java/lang/IndexOutOfBoundsException", .initialized "java/lang/IndexOutOfBoundsException", .fieldLink RX5 33 "AuditoriumKeys" "line" "LAuditoriumKeys$Line;", .instanceMethod yX2_personAt, .initialized RX2, .selects RX2 yX2_personAt yX2_personAt, .code yX2_personAt cX2_personAt 3 (some .int), .methodLink RX2 15 yX2_isIn, .instanceMethod yX2_isIn, .selects RX2 yX2_isIn yX2_isIn, .code yX2_isIn cX2_isIn 2 (some .boolean), .fieldLink RX2 9 "AuditoriumKeys$Line" "came" "[I", .methodLink RX2 19 yX2_placeOf, .instanceMethod yX2_placeOf, .selects RX2 yX2_placeOf yX2_placeOf, .code yX2_placeOf cX2_placeOf 4 (some .int), .methodLink RX2 23 yX2_rank, .instanceMethod yX2_rank, .selects RX2 yX2_rank yX2_rank, .code yX2_rank cX2_rank 3 (some .int)] ++ wsX50 ++ wsX20 ++ (vx_atS RX5 133 "java/lang/IndexOutOfBoundsException" ["java/lang/RuntimeException", "java/lang/Exception"]).filter goodWord)
def wsX5_served : List Cond := .code yX5_served cX5_served 2 (some .int) :: ([.fieldLink RX5 33 "AuditoriumKeys" "line" "LAuditoriumKeys$Line;", .fieldLink RX5 9 "AuditoriumKeys" "now" "I", .instanceMethod yX2_personAt, .initialized RX2, .selects RX2 yX2_personAt yX2_personAt, .code yX2_personAt cX2_personAt 3 (some .int), .methodLink RX2 15 yX2_isIn, .instanceMethod yX2_isIn, .selects RX2 yX2_isIn yX2_isIn, .code yX2_isIn cX2_isIn 2 (some .boolean), .fieldLink RX2 9 "AuditoriumKeys$Line" "came" "[I", .methodLink RX2 19 yX2_placeOf, .instanceMethod yX2_placeOf, .selects RX2 yX2_placeOf yX2_placeOf, .code yX2_placeOf cX2_placeOf 4 (some .int), .methodLink RX2 23 yX2_rank, .instanceMethod yX2_rank, .selects RX2 yX2_rank yX2_rank, .code yX2_rank cX2_rank 3 (some .int)] ++ wsX50 ++ wsX20)
def wsX5_needRow : List Cond := .code yX5_needRow cX5_needRow 1 none :: ([.classLink RX5 129 "java/lang/IndexOutOfBoundsException", .initialized "java/lang/IndexOutOfBoundsException"] ++ (vx_atS RX5 133 "java/lang/IndexOutOfBoundsException" ["java/lang/RuntimeException", "java/lang/Exception"]).filter goodWord)
def wsX5_needSeatsFor : List Cond := .code yX5_needSeatsFor cX5_needSeatsFor 6 none :: ([.classLink RX5 65 "java/lang/IllegalStateException", .initialized "java/lang/IllegalStateException", .fieldLink RX5 47 "AuditoriumKeys" "seats" "LAuditoriumKeys$Seats;", .instanceMethod yX4_isOpen, .initialized RX4, .selects RX4 yX4_isOpen yX4_isOpen, .code yX4_isOpen cX4_isOpen 4 (some .boolean), .methodLink RX4 28 yX4_stateOf, .instanceMethod yX4_stateOf, .selects RX4 yX4_stateOf yX4_stateOf, .code yX4_stateOf cX4_stateOf 2 (some .int), .fieldLink RX4 9 "AuditoriumKeys$Seats" "held" "[Z", .fieldLink RX4 18 "AuditoriumKeys$Seats" "owner" "[I", .fieldLink RX4 15 "AuditoriumKeys$Seats" "offered" "[Z", .instanceMethod yX4_leavesSingle, .selects RX4 yX4_leavesSingle yX4_leavesSingle, .code yX4_leavesSingle cX4_leavesSingle 5 (some .boolean), .methodLink RX4 32 yX4_isOpen] ++ wsX50 ++ wsX40 ++ (vx_atS RX5 69 "java/lang/IllegalStateException" ["java/lang/RuntimeException", "java/lang/Exception"]).filter goodWord)
def wsX5_needRightFor : List Cond := .code yX5_needRightFor cX5_needRightFor 4 none :: ([.classLink RX5 65 "java/lang/IllegalStateException", .initialized "java/lang/IllegalStateException", .fieldLink RX5 9 "AuditoriumKeys" "now" "I", .fieldLink RX5 13 "AuditoriumKeys" "opening" "I", .fieldLink RX5 26 "AuditoriumKeys" "codes" "LAuditoriumKeys$Codes;", .instanceMethod yX0_haveRoom, .initialized RX0, .selects RX0 yX0_haveRoom yX0_haveRoom, .code yX0_haveRoom cX0_haveRoom 6 (some .boolean), .fieldLink RX0 15 "AuditoriumKeys$Codes" "ofPerson" "[I", .fieldLink RX0 19 "AuditoriumKeys$Codes" "ofHousehold" "[I", .methodLink RX0 25 yX0_seatsOf, .instanceMethod yX0_seatsOf, .selects RX0 yX0_seatsOf yX0_seatsOf, .code yX0_seatsOf cX0_seatsOf 3 (some .int), .fieldLink RX0 22 "AuditoriumKeys$Codes" "counted" "[I"] ++ wsX50 ++ wsX00 ++ (vx_atS RX5 69 "java/lang/IllegalStateException" ["java/lang/RuntimeException", "java/lang/Exception"]).filter goodWord)
def wsX5_hold_r1 : List Cond := [Cond.classLink RX5 129 "java/lang/IndexOutOfBoundsException", Cond.initialized "java/lang/IndexOutOfBoundsException", Cond.classLink RX5 58 "java/lang/IllegalArgumentException", Cond.initialized "java/lang/IllegalArgumentException", Cond.classLink RX5 65 "java/lang/IllegalStateException", Cond.initialized "java/lang/IllegalStateException", Cond.fieldLink RX5 33 "AuditoriumKeys" "line" "LAuditoriumKeys$Line;", Cond.fieldLink RX5 26 "AuditoriumKeys" "codes" "LAuditoriumKeys$Codes;", Cond.fieldLink RX5 47 "AuditoriumKeys" "seats" "LAuditoriumKeys$Seats;", Cond.fieldLink RX5 40 "AuditoriumKeys" "holds" "LAuditoriumKeys$Holds;", Cond.fieldLink RX5 9 "AuditoriumKeys" "now" "I", Cond.methodLink RX5 100 yX5_needPerson, Cond.static yX5_needPerson, Cond.initialized RX5, Cond.code yX5_needPerson cX5_needPerson 1 none, Cond.methodLink RX5 137 yX5_needRow, Cond.static yX5_needRow, Cond.code yX5_needRow cX5_needRow 1 none, Cond.methodLink RX5 96 yX5_needCode, Cond.instanceMethod yX5_needCode, Cond.selects RX5 yX5_needCode yX5_needCode, Cond.code yX5_needCode cX5_needCode 2 none, Cond.methodLink RX5 144 yX5_served, Cond.instanceMethod yX5_served]
def wsX5_hold_r2 : List Cond := [Cond.selects RX5 yX5_served yX5_served, Cond.code yX5_served cX5_served 2 (some .int), Cond.instanceMethod yX2_personAt, Cond.initialized RX2, Cond.selects RX2 yX2_personAt yX2_personAt, Cond.code yX2_personAt cX2_personAt 3 (some .int), Cond.methodLink RX2 15 yX2_isIn, Cond.instanceMethod yX2_isIn, Cond.selects RX2 yX2_isIn yX2_isIn, Cond.code yX2_isIn cX2_isIn 2 (some .boolean), Cond.fieldLink RX2 9 "AuditoriumKeys$Line" "came" "[I", Cond.methodLink RX2 19 yX2_placeOf, Cond.instanceMethod yX2_placeOf, Cond.selects RX2 yX2_placeOf yX2_placeOf, Cond.code yX2_placeOf cX2_placeOf 4 (some .int), Cond.methodLink RX2 23 yX2_rank, Cond.instanceMethod yX2_rank, Cond.selects RX2 yX2_rank yX2_rank, Cond.code yX2_rank cX2_rank 3 (some .int), Cond.methodLink RX5 149 yX5_needSeatsFor, Cond.instanceMethod yX5_needSeatsFor, Cond.selects RX5 yX5_needSeatsFor yX5_needSeatsFor, Cond.code yX5_needSeatsFor cX5_needSeatsFor 6 none, Cond.instanceMethod yX4_isOpen]
def wsX5_hold_r3 : List Cond := [Cond.initialized RX4, Cond.selects RX4 yX4_isOpen yX4_isOpen, Cond.code yX4_isOpen cX4_isOpen 4 (some .boolean), Cond.methodLink RX4 28 yX4_stateOf, Cond.instanceMethod yX4_stateOf, Cond.selects RX4 yX4_stateOf yX4_stateOf, Cond.code yX4_stateOf cX4_stateOf 2 (some .int), Cond.fieldLink RX4 9 "AuditoriumKeys$Seats" "held" "[Z", Cond.fieldLink RX4 18 "AuditoriumKeys$Seats" "owner" "[I", Cond.fieldLink RX4 15 "AuditoriumKeys$Seats" "offered" "[Z", Cond.instanceMethod yX4_leavesSingle, Cond.selects RX4 yX4_leavesSingle yX4_leavesSingle, Cond.code yX4_leavesSingle cX4_leavesSingle 5 (some .boolean), Cond.methodLink RX4 32 yX4_isOpen, Cond.methodLink RX5 153 yX5_needRightFor, Cond.instanceMethod yX5_needRightFor, Cond.selects RX5 yX5_needRightFor yX5_needRightFor, Cond.code yX5_needRightFor cX5_needRightFor 4 none, Cond.fieldLink RX5 13 "AuditoriumKeys" "opening" "I", Cond.instanceMethod yX0_haveRoom, Cond.initialized RX0, Cond.selects RX0 yX0_haveRoom yX0_haveRoom, Cond.code yX0_haveRoom cX0_haveRoom 6 (some .boolean), Cond.fieldLink RX0 15 "AuditoriumKeys$Codes" "ofPerson" "[I"]
def wsX5_hold_r4 : List Cond := [Cond.fieldLink RX0 19 "AuditoriumKeys$Codes" "ofHousehold" "[I", Cond.methodLink RX0 25 yX0_seatsOf, Cond.instanceMethod yX0_seatsOf, Cond.selects RX0 yX0_seatsOf yX0_seatsOf, Cond.code yX0_seatsOf cX0_seatsOf 3 (some .int), Cond.fieldLink RX0 22 "AuditoriumKeys$Codes" "counted" "[I", Cond.instanceMethod yX2_leave, Cond.selects RX2 yX2_leave yX2_leave, Cond.code yX2_leave cX2_leave 2 none, Cond.instanceMethod yX0_tally, Cond.selects RX0 yX0_tally yX0_tally, Cond.code yX0_tally cX0_tally 4 none, Cond.instanceMethod yX4_lock, Cond.selects RX4 yX4_lock yX4_lock, Cond.code yX4_lock cX4_lock 5 (some .int), Cond.fieldLink RX4 22 "AuditoriumKeys$Seats" "price" "[I", Cond.instanceMethod yX1_make, Cond.initialized RX1, Cond.selects RX1 yX1_make yX1_make, Cond.code yX1_make cX1_make 7 none, Cond.fieldLink RX1 9 "AuditoriumKeys$Holds" "first" "[I", Cond.fieldLink RX1 15 "AuditoriumKeys$Holds" "many" "[I", Cond.fieldLink RX1 18 "AuditoriumKeys$Holds" "code" "[I", Cond.fieldLink RX1 21 "AuditoriumKeys$Holds" "cost" "[I"]
def wsX5_hold_r5 : List Cond := [Cond.fieldLink RX1 24 "AuditoriumKeys$Holds" "paid" "[I", Cond.fieldLink RX1 27 "AuditoriumKeys$Holds" "latest" "[I", Cond.fieldLink RX1 30 "AuditoriumKeys$Holds" "lapse" "[I"]
def wsX5_hold : List Cond := .code yX5_hold cX5_hold 8 (some .int) :: ((wsX5_hold_r1 ++ (wsX5_hold_r2 ++ (wsX5_hold_r3 ++ (wsX5_hold_r4 ++ wsX5_hold_r5)))) ++ wsX50 ++ wsX00 ++ wsX20 ++ wsX40 ++ wsX10 ++ (vx_atS RX5 133 "java/lang/IndexOutOfBoundsException" ["java/lang/RuntimeException", "java/lang/Exception"]).filter goodWord ++ (vx_atS RX5 62 "java/lang/IllegalArgumentException" ["java/lang/RuntimeException", "java/lang/Exception"]).filter goodWord ++ (vx_atS RX5 69 "java/lang/IllegalStateException" ["java/lang/RuntimeException", "java/lang/Exception"]).filter goodWord)
def wsX5_needHold : List Cond := .code yX5_needHold cX5_needHold 2 none :: ([.classLink RX5 65 "java/lang/IllegalStateException", .initialized "java/lang/IllegalStateException", .fieldLink RX5 40 "AuditoriumKeys" "holds" "LAuditoriumKeys$Holds;", .instanceMethod yX1_isThere, .initialized RX1, .selects RX1 yX1_isThere yX1_isThere, .code yX1_isThere cX1_isThere 2 (some .boolean), .fieldLink RX1 15 "AuditoriumKeys$Holds" "many" "[I"] ++ wsX50 ++ wsX10 ++ (vx_atS RX5 69 "java/lang/IllegalStateException" ["java/lang/RuntimeException", "java/lang/Exception"]).filter goodWord)
def wsX5_sell_r1 : List Cond := [Cond.fieldLink RX5 40 "AuditoriumKeys" "holds" "LAuditoriumKeys$Holds;", Cond.fieldLink RX5 47 "AuditoriumKeys" "seats" "LAuditoriumKeys$Seats;", Cond.fieldLink RX5 16 "AuditoriumKeys" "taken" "I", Cond.fieldLink RX5 19 "AuditoriumKeys" "outlay" "[I", Cond.fieldLink RX5 54 "AuditoriumKeys" "sales" "LAuditoriumKeys$Sales;", Cond.instanceMethod yX4_giveTo, Cond.initialized RX4, Cond.selects RX4 yX4_giveTo yX4_giveTo, Cond.code yX4_giveTo cX4_giveTo 3 none, Cond.fieldLink RX4 9 "AuditoriumKeys$Seats" "held" "[Z", Cond.fieldLink RX4 15 "AuditoriumKeys$Seats" "offered" "[Z", Cond.fieldLink RX4 18 "AuditoriumKeys$Seats" "owner" "[I", Cond.fieldLink RX4 25 "AuditoriumKeys$Seats" "bought" "[I", Cond.fieldLink RX4 22 "AuditoriumKeys$Seats" "price" "[I", Cond.instanceMethod yX3_add, Cond.initialized RX3, Cond.selects RX3 yX3_add yX3_add, Cond.code yX3_add cX3_add 4 none, Cond.fieldLink RX3 9 "AuditoriumKeys$Sales" "count" "I", Cond.fieldLink RX3 15 "AuditoriumKeys$Sales" "first" "[I", Cond.fieldLink RX3 19 "AuditoriumKeys$Sales" "many" "[I", Cond.fieldLink RX3 22 "AuditoriumKeys$Sales" "buyer" "[I", Cond.instanceMethod yX1_end, Cond.initialized RX1]
def wsX5_sell_r2 : List Cond := [Cond.selects RX1 yX1_end yX1_end, Cond.code yX1_end cX1_end 2 none, Cond.fieldLink RX1 15 "AuditoriumKeys$Holds" "many" "[I"]
def wsX5_sell : List Cond := .code yX5_sell cX5_sell 6 none :: ((wsX5_sell_r1 ++ wsX5_sell_r2) ++ wsX50 ++ wsX10 ++ wsX40 ++ wsX30)
def wsX5_pay_r1 : List Cond := [Cond.classLink RX5 58 "java/lang/IllegalArgumentException", Cond.initialized "java/lang/IllegalArgumentException", Cond.classLink RX5 65 "java/lang/IllegalStateException", Cond.initialized "java/lang/IllegalStateException", Cond.fieldLink RX5 40 "AuditoriumKeys" "holds" "LAuditoriumKeys$Holds;", Cond.fieldLink RX5 19 "AuditoriumKeys" "outlay" "[I", Cond.methodLink RX5 100 yX5_needPerson, Cond.static yX5_needPerson, Cond.initialized RX5, Cond.code yX5_needPerson cX5_needPerson 1 none, Cond.classLink RX5 129 "java/lang/IndexOutOfBoundsException", Cond.initialized "java/lang/IndexOutOfBoundsException", Cond.methodLink RX5 169 yX5_needHold, Cond.instanceMethod yX5_needHold, Cond.selects RX5 yX5_needHold yX5_needHold, Cond.code yX5_needHold cX5_needHold 2 none, Cond.instanceMethod yX1_isThere, Cond.initialized RX1, Cond.selects RX1 yX1_isThere yX1_isThere, Cond.code yX1_isThere cX1_isThere 2 (some .boolean), Cond.fieldLink RX1 15 "AuditoriumKeys$Holds" "many" "[I", Cond.instanceMethod yX1_left, Cond.selects RX1 yX1_left yX1_left, Cond.code yX1_left cX1_left 2 (some .int)]
def wsX5_pay_r2 : List Cond := [Cond.fieldLink RX1 21 "AuditoriumKeys$Holds" "cost" "[I", Cond.fieldLink RX1 24 "AuditoriumKeys$Holds" "paid" "[I", Cond.methodLink RX5 180 yX5_sell, Cond.instanceMethod yX5_sell, Cond.selects RX5 yX5_sell yX5_sell, Cond.code yX5_sell cX5_sell 6 none, Cond.fieldLink RX5 47 "AuditoriumKeys" "seats" "LAuditoriumKeys$Seats;", Cond.fieldLink RX5 16 "AuditoriumKeys" "taken" "I", Cond.fieldLink RX5 54 "AuditoriumKeys" "sales" "LAuditoriumKeys$Sales;", Cond.instanceMethod yX4_giveTo, Cond.initialized RX4, Cond.selects RX4 yX4_giveTo yX4_giveTo, Cond.code yX4_giveTo cX4_giveTo 3 none, Cond.fieldLink RX4 9 "AuditoriumKeys$Seats" "held" "[Z", Cond.fieldLink RX4 15 "AuditoriumKeys$Seats" "offered" "[Z", Cond.fieldLink RX4 18 "AuditoriumKeys$Seats" "owner" "[I", Cond.fieldLink RX4 25 "AuditoriumKeys$Seats" "bought" "[I", Cond.fieldLink RX4 22 "AuditoriumKeys$Seats" "price" "[I", Cond.instanceMethod yX3_add, Cond.initialized RX3, Cond.selects RX3 yX3_add yX3_add, Cond.code yX3_add cX3_add 4 none, Cond.fieldLink RX3 9 "AuditoriumKeys$Sales" "count" "I", Cond.fieldLink RX3 15 "AuditoriumKeys$Sales" "first" "[I"]
def wsX5_pay_r3 : List Cond := [Cond.fieldLink RX3 19 "AuditoriumKeys$Sales" "many" "[I", Cond.fieldLink RX3 22 "AuditoriumKeys$Sales" "buyer" "[I", Cond.instanceMethod yX1_end, Cond.selects RX1 yX1_end yX1_end, Cond.code yX1_end cX1_end 2 none, Cond.instanceMethod yX1_prolong, Cond.selects RX1 yX1_prolong yX1_prolong, Cond.code yX1_prolong cX1_prolong 2 none, Cond.fieldLink RX1 30 "AuditoriumKeys$Holds" "lapse" "[I", Cond.fieldLink RX1 27 "AuditoriumKeys$Holds" "latest" "[I", Cond.methodLink RX1 33 Lib.Math.min.name, Cond.static Lib.Math.min.name, Cond.initialized "java/lang/Math", Cond.code Lib.Math.min.name Lib.Math.min.code 2 (some .int)]
def wsX5_pay : List Cond := .code yX5_pay cX5_pay 4 (some .int) :: ((wsX5_pay_r1 ++ (wsX5_pay_r2 ++ wsX5_pay_r3)) ++ wsX50 ++ wsX10 ++ wsX40 ++ wsX30 ++ (vx_atS RX5 62 "java/lang/IllegalArgumentException" ["java/lang/RuntimeException", "java/lang/Exception"]).filter goodWord ++ (vx_atS RX5 69 "java/lang/IllegalStateException" ["java/lang/RuntimeException", "java/lang/Exception"]).filter goodWord ++ (vx_atS RX5 133 "java/lang/IndexOutOfBoundsException" ["java/lang/RuntimeException", "java/lang/Exception"]).filter goodWord)
def wsX5_letGo_r1 : List Cond := [Cond.methodLink RX5 100 yX5_needPerson, Cond.static yX5_needPerson, Cond.initialized RX5, Cond.code yX5_needPerson cX5_needPerson 1 none, Cond.classLink RX5 129 "java/lang/IndexOutOfBoundsException", Cond.initialized "java/lang/IndexOutOfBoundsException", Cond.methodLink RX5 169 yX5_needHold, Cond.instanceMethod yX5_needHold, Cond.selects RX5 yX5_needHold yX5_needHold, Cond.code yX5_needHold cX5_needHold 2 none, Cond.classLink RX5 65 "java/lang/IllegalStateException", Cond.initialized "java/lang/IllegalStateException", Cond.fieldLink RX5 40 "AuditoriumKeys" "holds" "LAuditoriumKeys$Holds;", Cond.instanceMethod yX1_isThere, Cond.initialized RX1, Cond.selects RX1 yX1_isThere yX1_isThere, Cond.code yX1_isThere cX1_isThere 2 (some .boolean), Cond.fieldLink RX1 15 "AuditoriumKeys$Holds" "many" "[I", Cond.methodLink RX5 77 yX5_giveBack, Cond.instanceMethod yX5_giveBack, Cond.selects RX5 yX5_giveBack yX5_giveBack, Cond.code yX5_giveBack cX5_giveBack 3 (some .int), Cond.fieldLink RX5 19 "AuditoriumKeys" "outlay" "[I", Cond.fieldLink RX5 26 "AuditoriumKeys" "codes" "LAuditoriumKeys$Codes;"]
def wsX5_letGo_r2 : List Cond := [Cond.fieldLink RX5 47 "AuditoriumKeys" "seats" "LAuditoriumKeys$Seats;", Cond.instanceMethod yX0_tally, Cond.initialized RX0, Cond.selects RX0 yX0_tally yX0_tally, Cond.code yX0_tally cX0_tally 4 none, Cond.fieldLink RX0 22 "AuditoriumKeys$Codes" "counted" "[I", Cond.instanceMethod yX4_unlock, Cond.initialized RX4, Cond.selects RX4 yX4_unlock yX4_unlock, Cond.code yX4_unlock cX4_unlock 4 none, Cond.fieldLink RX4 9 "AuditoriumKeys$Seats" "held" "[Z", Cond.instanceMethod yX1_end, Cond.selects RX1 yX1_end yX1_end, Cond.code yX1_end cX1_end 2 none]
def wsX5_letGo : List Cond := .code yX5_letGo cX5_letGo 2 (some .int) :: ((wsX5_letGo_r1 ++ wsX5_letGo_r2) ++ wsX50 ++ wsX10 ++ wsX00 ++ wsX40 ++ (vx_atS RX5 133 "java/lang/IndexOutOfBoundsException" ["java/lang/RuntimeException", "java/lang/Exception"]).filter goodWord ++ (vx_atS RX5 69 "java/lang/IllegalStateException" ["java/lang/RuntimeException", "java/lang/Exception"]).filter goodWord)
def wsX5_lapses : List Cond := .code yX5_lapses cX5_lapses 2 (some .int) :: ([.fieldLink RX5 40 "AuditoriumKeys" "holds" "LAuditoriumKeys$Holds;", .methodLink RX5 100 yX5_needPerson, .static yX5_needPerson, .initialized RX5, .code yX5_needPerson cX5_needPerson 1 none, .classLink RX5 129 "java/lang/IndexOutOfBoundsException", .initialized "java/lang/IndexOutOfBoundsException", .instanceMethod yX1_isThere, .initialized RX1, .selects RX1 yX1_isThere yX1_isThere, .code yX1_isThere cX1_isThere 2 (some .boolean), .fieldLink RX1 15 "AuditoriumKeys$Holds" "many" "[I"] ++ wsX50 ++ wsX10 ++ (vx_atS RX5 133 "java/lang/IndexOutOfBoundsException" ["java/lang/RuntimeException", "java/lang/Exception"]).filter goodWord)
def wsX5_needSeat : List Cond := .code yX5_needSeat cX5_needSeat 1 none :: ([.classLink RX5 129 "java/lang/IndexOutOfBoundsException", .initialized "java/lang/IndexOutOfBoundsException"] ++ (vx_atS RX5 133 "java/lang/IndexOutOfBoundsException" ["java/lang/RuntimeException", "java/lang/Exception"]).filter goodWord)
def wsX5_state : List Cond := .code yX5_state cX5_state 2 (some .int) :: ([.fieldLink RX5 47 "AuditoriumKeys" "seats" "LAuditoriumKeys$Seats;", .methodLink RX5 186 yX5_needSeat, .static yX5_needSeat, .initialized RX5, .code yX5_needSeat cX5_needSeat 1 none, .classLink RX5 129 "java/lang/IndexOutOfBoundsException", .initialized "java/lang/IndexOutOfBoundsException", .instanceMethod yX4_stateOf, .initialized RX4, .selects RX4 yX4_stateOf yX4_stateOf, .code yX4_stateOf cX4_stateOf 2 (some .int), .fieldLink RX4 9 "AuditoriumKeys$Seats" "held" "[Z", .fieldLink RX4 18 "AuditoriumKeys$Seats" "owner" "[I", .fieldLink RX4 15 "AuditoriumKeys$Seats" "offered" "[Z"] ++ wsX50 ++ wsX40 ++ (vx_atS RX5 133 "java/lang/IndexOutOfBoundsException" ["java/lang/RuntimeException", "java/lang/Exception"]).filter goodWord)
def wsX5_owner : List Cond := .code yX5_owner cX5_owner 2 (some .int) :: ([.fieldLink RX5 47 "AuditoriumKeys" "seats" "LAuditoriumKeys$Seats;", .methodLink RX5 186 yX5_needSeat, .static yX5_needSeat, .initialized RX5, .code yX5_needSeat cX5_needSeat 1 none, .classLink RX5 129 "java/lang/IndexOutOfBoundsException", .initialized "java/lang/IndexOutOfBoundsException"] ++ wsX50 ++ wsX40 ++ (vx_atS RX5 133 "java/lang/IndexOutOfBoundsException" ["java/lang/RuntimeException", "java/lang/Exception"]).filter goodWord)
def wsX5_ownerBySales : List Cond := .code yX5_ownerBySales cX5_ownerBySales 2 (some .int) :: ([.fieldLink RX5 54 "AuditoriumKeys" "sales" "LAuditoriumKeys$Sales;", .methodLink RX5 186 yX5_needSeat, .static yX5_needSeat, .initialized RX5, .code yX5_needSeat cX5_needSeat 1 none, .classLink RX5 129 "java/lang/IndexOutOfBoundsException", .initialized "java/lang/IndexOutOfBoundsException", .instanceMethod yX3_lastBuyerOf, .initialized RX3, .selects RX3 yX3_lastBuyerOf yX3_lastBuyerOf, .code yX3_lastBuyerOf cX3_lastBuyerOf 4 (some .int), .fieldLink RX3 9 "AuditoriumKeys$Sales" "count" "I", .fieldLink RX3 15 "AuditoriumKeys$Sales" "first" "[I", .fieldLink RX3 19 "AuditoriumKeys$Sales" "many" "[I", .fieldLink RX3 22 "AuditoriumKeys$Sales" "buyer" "[I"] ++ wsX50 ++ wsX30 ++ (vx_atS RX5 133 "java/lang/IndexOutOfBoundsException" ["java/lang/RuntimeException", "java/lang/Exception"]).filter goodWord)
def wsX5_isSingle : List Cond := .code yX5_isSingle cX5_isSingle 4 (some .boolean) :: ([.fieldLink RX5 47 "AuditoriumKeys" "seats" "LAuditoriumKeys$Seats;", .methodLink RX5 186 yX5_needSeat, .static yX5_needSeat, .initialized RX5, .code yX5_needSeat cX5_needSeat 1 none, .classLink RX5 129 "java/lang/IndexOutOfBoundsException", .initialized "java/lang/IndexOutOfBoundsException", .instanceMethod yX4_isOpen, .initialized RX4, .selects RX4 yX4_isOpen yX4_isOpen, .code yX4_isOpen cX4_isOpen 4 (some .boolean), .methodLink RX4 28 yX4_stateOf, .instanceMethod yX4_stateOf, .selects RX4 yX4_stateOf yX4_stateOf, .code yX4_stateOf cX4_stateOf 2 (some .int), .fieldLink RX4 9 "AuditoriumKeys$Seats" "held" "[Z", .fieldLink RX4 18 "AuditoriumKeys$Seats" "owner" "[I", .fieldLink RX4 15 "AuditoriumKeys$Seats" "offered" "[Z"] ++ wsX50 ++ wsX40 ++ (vx_atS RX5 133 "java/lang/IndexOutOfBoundsException" ["java/lang/RuntimeException", "java/lang/Exception"]).filter goodWord)
def wsX5_firstOpen : List Cond := .code yX5_firstOpen cX5_firstOpen 5 (some .int) :: ([.classLink RX5 58 "java/lang/IllegalArgumentException", .initialized "java/lang/IllegalArgumentException", .fieldLink RX5 47 "AuditoriumKeys" "seats" "LAuditoriumKeys$Seats;", .methodLink RX5 137 yX5_needRow, .static yX5_needRow, .initialized RX5, .code yX5_needRow cX5_needRow 1 none, .classLink RX5 129 "java/lang/IndexOutOfBoundsException", .initialized "java/lang/IndexOutOfBoundsException", .instanceMethod yX4_isOpen, .initialized RX4, .selects RX4 yX4_isOpen yX4_isOpen, .code yX4_isOpen cX4_isOpen 4 (some .boolean), .methodLink RX4 28 yX4_stateOf, .instanceMethod yX4_stateOf, .selects RX4 yX4_stateOf yX4_stateOf, .code yX4_stateOf cX4_stateOf 2 (some .int), .fieldLink RX4 9 "AuditoriumKeys$Seats" "held" "[Z", .fieldLink RX4 18 "AuditoriumKeys$Seats" "owner" "[I", .fieldLink RX4 15 "AuditoriumKeys$Seats" "offered" "[Z"] ++ wsX50 ++ wsX40 ++ (vx_atS RX5 62 "java/lang/IllegalArgumentException" ["java/lang/RuntimeException", "java/lang/Exception"]).filter goodWord ++ (vx_atS RX5 133 "java/lang/IndexOutOfBoundsException" ["java/lang/RuntimeException", "java/lang/Exception"]).filter goodWord)
def wsX5_offer_r1 : List Cond := [Cond.classLink RX5 58 "java/lang/IllegalArgumentException", Cond.initialized "java/lang/IllegalArgumentException", Cond.classLink RX5 65 "java/lang/IllegalStateException", Cond.initialized "java/lang/IllegalStateException", Cond.fieldLink RX5 47 "AuditoriumKeys" "seats" "LAuditoriumKeys$Seats;", Cond.methodLink RX5 100 yX5_needPerson, Cond.static yX5_needPerson, Cond.initialized RX5, Cond.code yX5_needPerson cX5_needPerson 1 none, Cond.classLink RX5 129 "java/lang/IndexOutOfBoundsException", Cond.initialized "java/lang/IndexOutOfBoundsException", Cond.methodLink RX5 186 yX5_needSeat, Cond.static yX5_needSeat, Cond.code yX5_needSeat cX5_needSeat 1 none, Cond.instanceMethod yX4_stateOf, Cond.initialized RX4, Cond.selects RX4 yX4_stateOf yX4_stateOf, Cond.code yX4_stateOf cX4_stateOf 2 (some .int), Cond.fieldLink RX4 9 "AuditoriumKeys$Seats" "held" "[Z", Cond.fieldLink RX4 18 "AuditoriumKeys$Seats" "owner" "[I", Cond.fieldLink RX4 15 "AuditoriumKeys$Seats" "offered" "[Z", Cond.instanceMethod yX4_ceilingOf, Cond.selects RX4 yX4_ceilingOf yX4_ceilingOf, Cond.code yX4_ceilingOf cX4_ceilingOf 2 (some .int)]
def wsX5_offer_r2 : List Cond := [Cond.fieldLink RX4 25 "AuditoriumKeys$Seats" "bought" "[I", Cond.instanceMethod yX4_putUp, Cond.selects RX4 yX4_putUp yX4_putUp, Cond.code yX4_putUp cX4_putUp 3 none, Cond.fieldLink RX4 22 "AuditoriumKeys$Seats" "price" "[I"]
def wsX5_offer : List Cond := .code yX5_offer cX5_offer 5 (some .int) :: ((wsX5_offer_r1 ++ wsX5_offer_r2) ++ wsX50 ++ wsX40 ++ (vx_atS RX5 62 "java/lang/IllegalArgumentException" ["java/lang/RuntimeException", "java/lang/Exception"]).filter goodWord ++ (vx_atS RX5 69 "java/lang/IllegalStateException" ["java/lang/RuntimeException", "java/lang/Exception"]).filter goodWord ++ (vx_atS RX5 133 "java/lang/IndexOutOfBoundsException" ["java/lang/RuntimeException", "java/lang/Exception"]).filter goodWord)
def wsX5_retract : List Cond := .code yX5_retract cX5_retract 2 (some .int) :: ([.classLink RX5 65 "java/lang/IllegalStateException", .initialized "java/lang/IllegalStateException", .fieldLink RX5 47 "AuditoriumKeys" "seats" "LAuditoriumKeys$Seats;", .methodLink RX5 186 yX5_needSeat, .static yX5_needSeat, .initialized RX5, .code yX5_needSeat cX5_needSeat 1 none, .classLink RX5 129 "java/lang/IndexOutOfBoundsException", .initialized "java/lang/IndexOutOfBoundsException", .instanceMethod yX4_stateOf, .initialized RX4, .selects RX4 yX4_stateOf yX4_stateOf, .code yX4_stateOf cX4_stateOf 2 (some .int), .fieldLink RX4 9 "AuditoriumKeys$Seats" "held" "[Z", .fieldLink RX4 18 "AuditoriumKeys$Seats" "owner" "[I", .fieldLink RX4 15 "AuditoriumKeys$Seats" "offered" "[Z"] ++ wsX50 ++ wsX40 ++ (vx_atS RX5 69 "java/lang/IllegalStateException" ["java/lang/RuntimeException", "java/lang/Exception"]).filter goodWord ++ (vx_atS RX5 133 "java/lang/IndexOutOfBoundsException" ["java/lang/RuntimeException", "java/lang/Exception"]).filter goodWord)
def wsX5_spent : List Cond := .code yX5_spent cX5_spent 2 (some .int) :: ([.fieldLink RX5 19 "AuditoriumKeys" "outlay" "[I", .methodLink RX5 100 yX5_needPerson, .static yX5_needPerson, .initialized RX5, .code yX5_needPerson cX5_needPerson 1 none, .classLink RX5 129 "java/lang/IndexOutOfBoundsException", .initialized "java/lang/IndexOutOfBoundsException"] ++ wsX50 ++ (vx_atS RX5 133 "java/lang/IndexOutOfBoundsException" ["java/lang/RuntimeException", "java/lang/Exception"]).filter goodWord)
def wsX5_takings : List Cond := .code yX5_takings cX5_takings 1 (some .int) :: ([.fieldLink RX5 16 "AuditoriumKeys" "taken" "I"] ++ wsX50)
def wsX6_init : List Cond := .code yX6_init cX6_init 2 none :: ([.methodLink RX6 1 objectInit, .instanceMethod objectInit, .code objectInit ⟨#[0xb1]⟩ 1 none, .fieldLink RX6 7 "AuditoriumKeysModel" "opening" "I", .arrayClass .int, .fieldLink RX6 13 "AuditoriumKeysModel" "ofPerson" "[I", .fieldLink RX6 17 "AuditoriumKeysModel" "ofHousehold" "[I", .fieldLink RX6 20 "AuditoriumKeysModel" "used" "[I", .fieldLink RX6 23 "AuditoriumKeysModel" "cameAt" "[I", .fieldLink RX6 26 "AuditoriumKeysModel" "firsts" "[I", .fieldLink RX6 29 "AuditoriumKeysModel" "manies" "[I", .fieldLink RX6 32 "AuditoriumKeysModel" "byCode" "[I", .fieldLink RX6 35 "AuditoriumKeysModel" "costs" "[I", .fieldLink RX6 38 "AuditoriumKeysModel" "paid" "[I", .fieldLink RX6 41 "AuditoriumKeysModel" "madeAt" "[I", .fieldLink RX6 44 "AuditoriumKeysModel" "lapsesAt" "[I", .fieldLink RX6 47 "AuditoriumKeysModel" "spent" "[I", .fieldLink RX6 50 "AuditoriumKeysModel" "owners" "[I", .fieldLink RX6 53 "AuditoriumKeysModel" "worth" "[I", .fieldLink RX6 56 "AuditoriumKeysModel" "offered" "[I", .arrayClass .boolean, .fieldLink RX6 59 "AuditoriumKeysModel" "wasSingle" "[Z"] ++ wsX60)
def wsX6_thrown : List Cond := .code yX6_thrown cX6_thrown 1 (some .int) :: ([.fieldLink RX6 63 "AuditoriumKeysModel" "thrown" "I"] ++ wsX60)
def wsX6_goesWell : List Cond := .code yX6_goesWell cX6_goesWell 2 (some .boolean) :: ([.fieldLink RX6 63 "AuditoriumKeysModel" "thrown" "I"] ++ wsX60)
def wsX6_in : List Cond := .code yX6_in cX6_in 3 (some .boolean) :: ([])
def wsX6_isPerson : List Cond := .code yX6_isPerson cX6_isPerson 1 (some .boolean) :: ([.methodLink RX6 66 yX6_in, .static yX6_in, .initialized RX6, .code yX6_in cX6_in 3 (some .boolean)])
def wsX6_isSeat : List Cond := .code yX6_isSeat cX6_isSeat 1 (some .boolean) :: ([.methodLink RX6 66 yX6_in, .static yX6_in, .initialized RX6, .code yX6_in cX6_in 3 (some .boolean)])
def wsX6_isRow : List Cond := .code yX6_isRow cX6_isRow 1 (some .boolean) :: ([.methodLink RX6 66 yX6_in, .static yX6_in, .initialized RX6, .code yX6_in cX6_in 3 (some .boolean)])
def wsX6_isCode : List Cond := .code yX6_isCode cX6_isCode 2 (some .boolean) :: ([.fieldLink RX6 70 "AuditoriumKeysModel" "codes" "I", .methodLink RX6 66 yX6_in, .static yX6_in, .initialized RX6, .code yX6_in cX6_in 3 (some .boolean)] ++ wsX60)
def wsX6_isHeld : List Cond := .code yX6_isHeld cX6_isHeld 4 (some .boolean) :: ([.fieldLink RX6 26 "AuditoriumKeysModel" "firsts" "[I", .fieldLink RX6 29 "AuditoriumKeysModel" "manies" "[I", .methodLink RX6 66 yX6_in, .static yX6_in, .initialized RX6, .code yX6_in cX6_in 3 (some .boolean)] ++ wsX60)
def wsX6_stateOf : List Cond := .code yX6_stateOf cX6_stateOf 2 (some .int) :: ([.fieldLink RX6 50 "AuditoriumKeysModel" "owners" "[I", .fieldLink RX6 56 "AuditoriumKeysModel" "offered" "[I", .methodLink RX6 73 yX6_isHeld, .instanceMethod yX6_isHeld, .selects RX6 yX6_isHeld yX6_isHeld, .initialized RX6, .code yX6_isHeld cX6_isHeld 4 (some .boolean), .fieldLink RX6 26 "AuditoriumKeysModel" "firsts" "[I", .fieldLink RX6 29 "AuditoriumKeysModel" "manies" "[I", .methodLink RX6 66 yX6_in, .static yX6_in, .code yX6_in cX6_in 3 (some .boolean)] ++ wsX60)
def wsX6_isOpen : List Cond := .code yX6_isOpen cX6_isOpen 2 (some .boolean) :: ([.fieldLink RX6 50 "AuditoriumKeysModel" "owners" "[I", .fieldLink RX6 56 "AuditoriumKeysModel" "offered" "[I", .methodLink RX6 73 yX6_isHeld, .instanceMethod yX6_isHeld, .selects RX6 yX6_isHeld yX6_isHeld, .initialized RX6, .code yX6_isHeld cX6_isHeld 4 (some .boolean), .fieldLink RX6 26 "AuditoriumKeysModel" "firsts" "[I", .fieldLink RX6 29 "AuditoriumKeysModel" "manies" "[I", .methodLink RX6 66 yX6_in, .static yX6_in, .code yX6_in cX6_in 3 (some .boolean)] ++ wsX60)
def wsX6_isAlone : List Cond := .code yX6_isAlone cX6_isAlone 5 (some .boolean) :: ([.methodLink RX6 77 yX6_isOpen, .instanceMethod yX6_isOpen, .selects RX6 yX6_isOpen yX6_isOpen, .initialized RX6, .code yX6_isOpen cX6_isOpen 2 (some .boolean), .fieldLink RX6 50 "AuditoriumKeysModel" "owners" "[I", .fieldLink RX6 56 "AuditoriumKeysModel" "offered" "[I", .methodLink RX6 73 yX6_isHeld, .instanceMethod yX6_isHeld, .selects RX6 yX6_isHeld yX6_isHeld, .code yX6_isHeld cX6_isHeld 4 (some .boolean), .fieldLink RX6 26 "AuditoriumKeysModel" "firsts" "[I", .fieldLink RX6 29 "AuditoriumKeysModel" "manies" "[I", .methodLink RX6 66 yX6_in, .static yX6_in, .code yX6_in cX6_in 3 (some .boolean)] ++ wsX60)
def wsX6_priceOf : List Cond := .code yX6_priceOf cX6_priceOf 2 (some .int) :: ([.fieldLink RX6 50 "AuditoriumKeysModel" "owners" "[I", .fieldLink RX6 56 "AuditoriumKeysModel" "offered" "[I"] ++ wsX60)
def wsX6_dropHold : List Cond := .code yX6_dropHold cX6_dropHold 2 none :: ([.fieldLink RX6 26 "AuditoriumKeysModel" "firsts" "[I", .fieldLink RX6 47 "AuditoriumKeysModel" "spent" "[I", .fieldLink RX6 38 "AuditoriumKeysModel" "paid" "[I"] ++ wsX60)
def wsX6_pass : List Cond := .code yX6_pass cX6_pass 5 (some .int) :: ([.fieldLink RX6 80 "AuditoriumKeysModel" "time" "I", .fieldLink RX6 26 "AuditoriumKeysModel" "firsts" "[I", .fieldLink RX6 44 "AuditoriumKeysModel" "lapsesAt" "[I", .methodLink RX6 66 yX6_in, .static yX6_in, .initialized RX6, .code yX6_in cX6_in 3 (some .boolean), .methodLink RX6 83 yX6_goesWell, .instanceMethod yX6_goesWell, .selects RX6 yX6_goesWell yX6_goesWell, .code yX6_goesWell cX6_goesWell 2 (some .boolean), .fieldLink RX6 63 "AuditoriumKeysModel" "thrown" "I", .methodLink RX6 86 yX6_dropHold, .instanceMethod yX6_dropHold, .selects RX6 yX6_dropHold yX6_dropHold, .code yX6_dropHold cX6_dropHold 2 none, .fieldLink RX6 47 "AuditoriumKeysModel" "spent" "[I", .fieldLink RX6 38 "AuditoriumKeysModel" "paid" "[I"] ++ wsX60)
def wsX6_time : List Cond := .code yX6_time cX6_time 1 (some .int) :: ([.fieldLink RX6 63 "AuditoriumKeysModel" "thrown" "I", .fieldLink RX6 80 "AuditoriumKeysModel" "time" "I"] ++ wsX60)
def wsX6_setOpening : List Cond := .code yX6_setOpening cX6_setOpening 3 (some .int) :: ([.fieldLink RX6 7 "AuditoriumKeysModel" "opening" "I", .methodLink RX6 66 yX6_in, .static yX6_in, .initialized RX6, .code yX6_in cX6_in 3 (some .boolean), .methodLink RX6 83 yX6_goesWell, .instanceMethod yX6_goesWell, .selects RX6 yX6_goesWell yX6_goesWell, .code yX6_goesWell cX6_goesWell 2 (some .boolean), .fieldLink RX6 63 "AuditoriumKeysModel" "thrown" "I"] ++ wsX60)
def wsX6_code : List Cond := .code yX6_code cX6_code 4 (some .int) :: ([.fieldLink RX6 70 "AuditoriumKeysModel" "codes" "I", .fieldLink RX6 13 "AuditoriumKeysModel" "ofPerson" "[I", .fieldLink RX6 17 "AuditoriumKeysModel" "ofHousehold" "[I", .methodLink RX6 66 yX6_in, .static yX6_in, .initialized RX6, .code yX6_in cX6_in 3 (some .boolean), .methodLink RX6 83 yX6_goesWell, .instanceMethod yX6_goesWell, .selects RX6 yX6_goesWell yX6_goesWell, .code yX6_goesWell cX6_goesWell 2 (some .boolean), .fieldLink RX6 63 "AuditoriumKeysModel" "thrown" "I"] ++ wsX60)
def wsX6_usedBy : List Cond := .code yX6_usedBy cX6_usedBy 4 (some .int) :: ([.fieldLink RX6 26 "AuditoriumKeysModel" "firsts" "[I", .fieldLink RX6 32 "AuditoriumKeysModel" "byCode" "[I", .fieldLink RX6 29 "AuditoriumKeysModel" "manies" "[I", .fieldLink RX6 20 "AuditoriumKeysModel" "used" "[I"] ++ wsX60)
def wsX6_used_r1 : List Cond := [Cond.methodLink RX6 90 yX6_isCode, Cond.instanceMethod yX6_isCode, Cond.selects RX6 yX6_isCode yX6_isCode, Cond.initialized RX6, Cond.code yX6_isCode cX6_isCode 2 (some .boolean), Cond.fieldLink RX6 70 "AuditoriumKeysModel" "codes" "I", Cond.methodLink RX6 66 yX6_in, Cond.static yX6_in, Cond.code yX6_in cX6_in 3 (some .boolean), Cond.methodLink RX6 93 yX6_isPerson, Cond.static yX6_isPerson, Cond.code yX6_isPerson cX6_isPerson 1 (some .boolean), Cond.methodLink RX6 83 yX6_goesWell, Cond.instanceMethod yX6_goesWell, Cond.selects RX6 yX6_goesWell yX6_goesWell, Cond.code yX6_goesWell cX6_goesWell 2 (some .boolean), Cond.fieldLink RX6 63 "AuditoriumKeysModel" "thrown" "I", Cond.methodLink RX6 96 yX6_usedBy, Cond.instanceMethod yX6_usedBy, Cond.selects RX6 yX6_usedBy yX6_usedBy, Cond.code yX6_usedBy cX6_usedBy 4 (some .int), Cond.fieldLink RX6 26 "AuditoriumKeysModel" "firsts" "[I", Cond.fieldLink RX6 32 "AuditoriumKeysModel" "byCode" "[I", Cond.fieldLink RX6 29 "AuditoriumKeysModel" "manies" "[I"]
def wsX6_used_r2 : List Cond := [Cond.fieldLink RX6 20 "AuditoriumKeysModel" "used" "[I"]
def wsX6_used : List Cond := .code yX6_used cX6_used 3 (some .int) :: ((wsX6_used_r1 ++ wsX6_used_r2) ++ wsX60)
def wsX6_countQueue : List Cond := .code yX6_countQueue cX6_countQueue 3 (some .int) :: ([.fieldLink RX6 23 "AuditoriumKeysModel" "cameAt" "[I"] ++ wsX60)
def wsX6_isAhead : List Cond := .code yX6_isAhead cX6_isAhead 5 (some .boolean) :: ([.fieldLink RX6 23 "AuditoriumKeysModel" "cameAt" "[I"] ++ wsX60)
def wsX6_placeAt : List Cond := .code yX6_placeAt cX6_placeAt 5 (some .int) :: ([.fieldLink RX6 23 "AuditoriumKeysModel" "cameAt" "[I", .methodLink RX6 100 yX6_isAhead, .instanceMethod yX6_isAhead, .selects RX6 yX6_isAhead yX6_isAhead, .initialized RX6, .code yX6_isAhead cX6_isAhead 5 (some .boolean)] ++ wsX60)
def wsX6_join : List Cond := .code yX6_join cX6_join 3 (some .int) :: ([.fieldLink RX6 23 "AuditoriumKeysModel" "cameAt" "[I", .fieldLink RX6 26 "AuditoriumKeysModel" "firsts" "[I", .fieldLink RX6 80 "AuditoriumKeysModel" "time" "I", .methodLink RX6 93 yX6_isPerson, .static yX6_isPerson, .initialized RX6, .code yX6_isPerson cX6_isPerson 1 (some .boolean), .methodLink RX6 66 yX6_in, .static yX6_in, .code yX6_in cX6_in 3 (some .boolean), .methodLink RX6 83 yX6_goesWell, .instanceMethod yX6_goesWell, .selects RX6 yX6_goesWell yX6_goesWell, .code yX6_goesWell cX6_goesWell 2 (some .boolean), .fieldLink RX6 63 "AuditoriumKeysModel" "thrown" "I", .methodLink RX6 104 yX6_countQueue, .instanceMethod yX6_countQueue, .selects RX6 yX6_countQueue yX6_countQueue, .code yX6_countQueue cX6_countQueue 3 (some .int)] ++ wsX60)
def wsX6_quit : List Cond := .code yX6_quit cX6_quit 3 (some .int) :: ([.fieldLink RX6 23 "AuditoriumKeysModel" "cameAt" "[I", .methodLink RX6 93 yX6_isPerson, .static yX6_isPerson, .initialized RX6, .code yX6_isPerson cX6_isPerson 1 (some .boolean), .methodLink RX6 66 yX6_in, .static yX6_in, .code yX6_in cX6_in 3 (some .boolean), .methodLink RX6 83 yX6_goesWell, .instanceMethod yX6_goesWell, .selects RX6 yX6_goesWell yX6_goesWell, .code yX6_goesWell cX6_goesWell 2 (some .boolean), .fieldLink RX6 63 "AuditoriumKeysModel" "thrown" "I", .methodLink RX6 104 yX6_countQueue, .instanceMethod yX6_countQueue, .selects RX6 yX6_countQueue yX6_countQueue, .code yX6_countQueue cX6_countQueue 3 (some .int)] ++ wsX60)
def wsX6_queueAt : List Cond := .code yX6_queueAt cX6_queueAt 2 (some .int) :: ([.methodLink RX6 104 yX6_countQueue, .instanceMethod yX6_countQueue, .selects RX6 yX6_countQueue yX6_countQueue, .initialized RX6, .code yX6_countQueue cX6_countQueue 3 (some .int), .fieldLink RX6 23 "AuditoriumKeysModel" "cameAt" "[I", .methodLink RX6 66 yX6_in, .static yX6_in, .code yX6_in cX6_in 3 (some .boolean), .methodLink RX6 83 yX6_goesWell, .instanceMethod yX6_goesWell, .selects RX6 yX6_goesWell yX6_goesWell, .code yX6_goesWell cX6_goesWell 2 (some .boolean), .fieldLink RX6 63 "AuditoriumKeysModel" "thrown" "I", .methodLink RX6 108 yX6_placeAt, .instanceMethod yX6_placeAt, .selects RX6 yX6_placeAt yX6_placeAt, .code yX6_placeAt cX6_placeAt 5 (some .int), .methodLink RX6 100 yX6_isAhead, .instanceMethod yX6_isAhead, .selects RX6 yX6_isAhead yX6_isAhead, .code yX6_isAhead cX6_isAhead 5 (some .boolean)] ++ wsX60)
def wsX6_servedNow : List Cond := .code yX6_servedNow cX6_servedNow 2 (some .int) :: ([.fieldLink RX6 23 "AuditoriumKeysModel" "cameAt" "[I", .fieldLink RX6 80 "AuditoriumKeysModel" "time" "I", .methodLink RX6 108 yX6_placeAt, .instanceMethod yX6_placeAt, .selects RX6 yX6_placeAt yX6_placeAt, .initialized RX6, .code yX6_placeAt cX6_placeAt 5 (some .int), .methodLink RX6 100 yX6_isAhead, .instanceMethod yX6_isAhead, .selects RX6 yX6_isAhead yX6_isAhead, .code yX6_isAhead cX6_isAhead 5 (some .boolean)] ++ wsX60)
def wsX6_served : List Cond := .code yX6_served cX6_served 1 (some .int) :: ([.fieldLink RX6 63 "AuditoriumKeysModel" "thrown" "I", .methodLink RX6 112 yX6_servedNow, .instanceMethod yX6_servedNow, .selects RX6 yX6_servedNow yX6_servedNow, .initialized RX6, .code yX6_servedNow cX6_servedNow 2 (some .int), .fieldLink RX6 23 "AuditoriumKeysModel" "cameAt" "[I", .fieldLink RX6 80 "AuditoriumKeysModel" "time" "I", .methodLink RX6 108 yX6_placeAt, .instanceMethod yX6_placeAt, .selects RX6 yX6_placeAt yX6_placeAt, .code yX6_placeAt cX6_placeAt 5 (some .int), .methodLink RX6 100 yX6_isAhead, .instanceMethod yX6_isAhead, .selects RX6 yX6_isAhead yX6_isAhead, .code yX6_isAhead cX6_isAhead 5 (some .boolean)] ++ wsX60)
def wsX6_areOpen : List Cond := .code yX6_areOpen cX6_areOpen 6 (some .boolean) :: ([.fieldLink RX6 50 "AuditoriumKeysModel" "owners" "[I", .methodLink RX6 77 yX6_isOpen, .instanceMethod yX6_isOpen, .selects RX6 yX6_isOpen yX6_isOpen, .initialized RX6, .code yX6_isOpen cX6_isOpen 2 (some .boolean), .fieldLink RX6 56 "AuditoriumKeysModel" "offered" "[I", .methodLink RX6 73 yX6_isHeld, .instanceMethod yX6_isHeld, .selects RX6 yX6_isHeld yX6_isHeld, .code yX6_isHeld cX6_isHeld 4 (some .boolean), .fieldLink RX6 26 "AuditoriumKeysModel" "firsts" "[I", .fieldLink RX6 29 "AuditoriumKeysModel" "manies" "[I", .methodLink RX6 66 yX6_in, .static yX6_in, .code yX6_in cX6_in 3 (some .boolean)] ++ wsX60)
def wsX6_isWithin : List Cond := .code yX6_isWithin cX6_isWithin 6 (some .boolean) :: ([.fieldLink RX6 80 "AuditoriumKeysModel" "time" "I", .fieldLink RX6 7 "AuditoriumKeysModel" "opening" "I", .fieldLink RX6 13 "AuditoriumKeysModel" "ofPerson" "[I", .fieldLink RX6 17 "AuditoriumKeysModel" "ofHousehold" "[I", .methodLink RX6 96 yX6_usedBy, .instanceMethod yX6_usedBy, .selects RX6 yX6_usedBy yX6_usedBy, .initialized RX6, .code yX6_usedBy cX6_usedBy 4 (some .int), .fieldLink RX6 26 "AuditoriumKeysModel" "firsts" "[I", .fieldLink RX6 32 "AuditoriumKeysModel" "byCode" "[I", .fieldLink RX6 29 "AuditoriumKeysModel" "manies" "[I", .fieldLink RX6 20 "AuditoriumKeysModel" "used" "[I"] ++ wsX60)
def wsX6_leavesSingle : List Cond := .code yX6_leavesSingle cX6_leavesSingle 6 (some .boolean) :: ([.fieldLink RX6 59 "AuditoriumKeysModel" "wasSingle" "[Z", .fieldLink RX6 26 "AuditoriumKeysModel" "firsts" "[I", .fieldLink RX6 29 "AuditoriumKeysModel" "manies" "[I", .methodLink RX6 115 yX6_isAlone, .instanceMethod yX6_isAlone, .selects RX6 yX6_isAlone yX6_isAlone, .initialized RX6, .code yX6_isAlone cX6_isAlone 5 (some .boolean), .methodLink RX6 77 yX6_isOpen, .instanceMethod yX6_isOpen, .selects RX6 yX6_isOpen yX6_isOpen, .code yX6_isOpen cX6_isOpen 2 (some .boolean), .fieldLink RX6 50 "AuditoriumKeysModel" "owners" "[I", .fieldLink RX6 56 "AuditoriumKeysModel" "offered" "[I", .methodLink RX6 73 yX6_isHeld, .instanceMethod yX6_isHeld, .selects RX6 yX6_isHeld yX6_isHeld, .code yX6_isHeld cX6_isHeld 4 (some .boolean), .methodLink RX6 66 yX6_in, .static yX6_in, .code yX6_in cX6_in 3 (some .boolean)] ++ wsX60)
def wsX6_hold_r1 : List Cond := [Cond.fieldLink RX6 23 "AuditoriumKeysModel" "cameAt" "[I", Cond.fieldLink RX6 26 "AuditoriumKeysModel" "firsts" "[I", Cond.fieldLink RX6 29 "AuditoriumKeysModel" "manies" "[I", Cond.fieldLink RX6 32 "AuditoriumKeysModel" "byCode" "[I", Cond.fieldLink RX6 35 "AuditoriumKeysModel" "costs" "[I", Cond.fieldLink RX6 38 "AuditoriumKeysModel" "paid" "[I", Cond.fieldLink RX6 41 "AuditoriumKeysModel" "madeAt" "[I", Cond.fieldLink RX6 80 "AuditoriumKeysModel" "time" "I", Cond.fieldLink RX6 44 "AuditoriumKeysModel" "lapsesAt" "[I", Cond.methodLink RX6 93 yX6_isPerson, Cond.static yX6_isPerson, Cond.initialized RX6, Cond.code yX6_isPerson cX6_isPerson 1 (some .boolean), Cond.methodLink RX6 66 yX6_in, Cond.static yX6_in, Cond.code yX6_in cX6_in 3 (some .boolean), Cond.methodLink RX6 118 yX6_isRow, Cond.static yX6_isRow, Cond.code yX6_isRow cX6_isRow 1 (some .boolean), Cond.methodLink RX6 90 yX6_isCode, Cond.instanceMethod yX6_isCode, Cond.selects RX6 yX6_isCode yX6_isCode, Cond.code yX6_isCode cX6_isCode 2 (some .boolean), Cond.fieldLink RX6 70 "AuditoriumKeysModel" "codes" "I"]
def wsX6_hold_r2 : List Cond := [Cond.methodLink RX6 112 yX6_servedNow, Cond.instanceMethod yX6_servedNow, Cond.selects RX6 yX6_servedNow yX6_servedNow, Cond.code yX6_servedNow cX6_servedNow 2 (some .int), Cond.methodLink RX6 108 yX6_placeAt, Cond.instanceMethod yX6_placeAt, Cond.selects RX6 yX6_placeAt yX6_placeAt, Cond.code yX6_placeAt cX6_placeAt 5 (some .int), Cond.methodLink RX6 100 yX6_isAhead, Cond.instanceMethod yX6_isAhead, Cond.selects RX6 yX6_isAhead yX6_isAhead, Cond.code yX6_isAhead cX6_isAhead 5 (some .boolean), Cond.methodLink RX6 121 yX6_areOpen, Cond.instanceMethod yX6_areOpen, Cond.selects RX6 yX6_areOpen yX6_areOpen, Cond.code yX6_areOpen cX6_areOpen 6 (some .boolean), Cond.fieldLink RX6 50 "AuditoriumKeysModel" "owners" "[I", Cond.methodLink RX6 77 yX6_isOpen, Cond.instanceMethod yX6_isOpen, Cond.selects RX6 yX6_isOpen yX6_isOpen, Cond.code yX6_isOpen cX6_isOpen 2 (some .boolean), Cond.fieldLink RX6 56 "AuditoriumKeysModel" "offered" "[I", Cond.methodLink RX6 73 yX6_isHeld, Cond.instanceMethod yX6_isHeld]
def wsX6_hold_r3 : List Cond := [Cond.selects RX6 yX6_isHeld yX6_isHeld, Cond.code yX6_isHeld cX6_isHeld 4 (some .boolean), Cond.methodLink RX6 124 yX6_isWithin, Cond.instanceMethod yX6_isWithin, Cond.selects RX6 yX6_isWithin yX6_isWithin, Cond.code yX6_isWithin cX6_isWithin 6 (some .boolean), Cond.fieldLink RX6 7 "AuditoriumKeysModel" "opening" "I", Cond.fieldLink RX6 13 "AuditoriumKeysModel" "ofPerson" "[I", Cond.fieldLink RX6 17 "AuditoriumKeysModel" "ofHousehold" "[I", Cond.methodLink RX6 96 yX6_usedBy, Cond.instanceMethod yX6_usedBy, Cond.selects RX6 yX6_usedBy yX6_usedBy, Cond.code yX6_usedBy cX6_usedBy 4 (some .int), Cond.fieldLink RX6 20 "AuditoriumKeysModel" "used" "[I", Cond.methodLink RX6 127 yX6_leavesSingle, Cond.instanceMethod yX6_leavesSingle, Cond.selects RX6 yX6_leavesSingle yX6_leavesSingle, Cond.code yX6_leavesSingle cX6_leavesSingle 6 (some .boolean), Cond.fieldLink RX6 59 "AuditoriumKeysModel" "wasSingle" "[Z", Cond.methodLink RX6 115 yX6_isAlone, Cond.instanceMethod yX6_isAlone, Cond.selects RX6 yX6_isAlone yX6_isAlone, Cond.code yX6_isAlone cX6_isAlone 5 (some .boolean), Cond.methodLink RX6 83 yX6_goesWell]
def wsX6_hold_r4 : List Cond := [Cond.instanceMethod yX6_goesWell, Cond.selects RX6 yX6_goesWell yX6_goesWell, Cond.code yX6_goesWell cX6_goesWell 2 (some .boolean), Cond.fieldLink RX6 63 "AuditoriumKeysModel" "thrown" "I", Cond.methodLink RX6 130 yX6_priceOf, Cond.instanceMethod yX6_priceOf, Cond.selects RX6 yX6_priceOf yX6_priceOf, Cond.code yX6_priceOf cX6_priceOf 2 (some .int)]
def wsX6_hold : List Cond := .code yX6_hold cX6_hold 12 (some .int) :: ((wsX6_hold_r1 ++ (wsX6_hold_r2 ++ (wsX6_hold_r3 ++ wsX6_hold_r4))) ++ wsX60)
def wsX6_sell : List Cond := .code yX6_sell cX6_sell 5 none :: ([.fieldLink RX6 26 "AuditoriumKeysModel" "firsts" "[I", .fieldLink RX6 29 "AuditoriumKeysModel" "manies" "[I", .fieldLink RX6 50 "AuditoriumKeysModel" "owners" "[I", .fieldLink RX6 133 "AuditoriumKeysModel" "takings" "I", .fieldLink RX6 47 "AuditoriumKeysModel" "spent" "[I", .fieldLink RX6 53 "AuditoriumKeysModel" "worth" "[I", .fieldLink RX6 56 "AuditoriumKeysModel" "offered" "[I", .fieldLink RX6 32 "AuditoriumKeysModel" "byCode" "[I", .fieldLink RX6 20 "AuditoriumKeysModel" "used" "[I", .methodLink RX6 130 yX6_priceOf, .instanceMethod yX6_priceOf, .selects RX6 yX6_priceOf yX6_priceOf, .initialized RX6, .code yX6_priceOf cX6_priceOf 2 (some .int)] ++ wsX60)
def wsX6_pay_r1 : List Cond := [Cond.fieldLink RX6 26 "AuditoriumKeysModel" "firsts" "[I", Cond.fieldLink RX6 35 "AuditoriumKeysModel" "costs" "[I", Cond.fieldLink RX6 38 "AuditoriumKeysModel" "paid" "[I", Cond.fieldLink RX6 47 "AuditoriumKeysModel" "spent" "[I", Cond.fieldLink RX6 44 "AuditoriumKeysModel" "lapsesAt" "[I", Cond.fieldLink RX6 41 "AuditoriumKeysModel" "madeAt" "[I", Cond.methodLink RX6 93 yX6_isPerson, Cond.static yX6_isPerson, Cond.initialized RX6, Cond.code yX6_isPerson cX6_isPerson 1 (some .boolean), Cond.methodLink RX6 66 yX6_in, Cond.static yX6_in, Cond.code yX6_in cX6_in 3 (some .boolean), Cond.methodLink RX6 83 yX6_goesWell, Cond.instanceMethod yX6_goesWell, Cond.selects RX6 yX6_goesWell yX6_goesWell, Cond.code yX6_goesWell cX6_goesWell 2 (some .boolean), Cond.fieldLink RX6 63 "AuditoriumKeysModel" "thrown" "I", Cond.methodLink RX6 136 yX6_sell, Cond.instanceMethod yX6_sell, Cond.selects RX6 yX6_sell yX6_sell, Cond.code yX6_sell cX6_sell 5 none, Cond.fieldLink RX6 29 "AuditoriumKeysModel" "manies" "[I", Cond.fieldLink RX6 50 "AuditoriumKeysModel" "owners" "[I"]
def wsX6_pay_r2 : List Cond := [Cond.fieldLink RX6 133 "AuditoriumKeysModel" "takings" "I", Cond.fieldLink RX6 53 "AuditoriumKeysModel" "worth" "[I", Cond.fieldLink RX6 56 "AuditoriumKeysModel" "offered" "[I", Cond.fieldLink RX6 32 "AuditoriumKeysModel" "byCode" "[I", Cond.fieldLink RX6 20 "AuditoriumKeysModel" "used" "[I", Cond.methodLink RX6 130 yX6_priceOf, Cond.instanceMethod yX6_priceOf, Cond.selects RX6 yX6_priceOf yX6_priceOf, Cond.code yX6_priceOf cX6_priceOf 2 (some .int)]
def wsX6_pay : List Cond := .code yX6_pay cX6_pay 8 (some .int) :: ((wsX6_pay_r1 ++ wsX6_pay_r2) ++ wsX60)
def wsX6_letGo : List Cond := .code yX6_letGo cX6_letGo 3 (some .int) :: ([.fieldLink RX6 26 "AuditoriumKeysModel" "firsts" "[I", .fieldLink RX6 38 "AuditoriumKeysModel" "paid" "[I", .methodLink RX6 93 yX6_isPerson, .static yX6_isPerson, .initialized RX6, .code yX6_isPerson cX6_isPerson 1 (some .boolean), .methodLink RX6 66 yX6_in, .static yX6_in, .code yX6_in cX6_in 3 (some .boolean), .methodLink RX6 83 yX6_goesWell, .instanceMethod yX6_goesWell, .selects RX6 yX6_goesWell yX6_goesWell, .code yX6_goesWell cX6_goesWell 2 (some .boolean), .fieldLink RX6 63 "AuditoriumKeysModel" "thrown" "I", .methodLink RX6 86 yX6_dropHold, .instanceMethod yX6_dropHold, .selects RX6 yX6_dropHold yX6_dropHold, .code yX6_dropHold cX6_dropHold 2 none, .fieldLink RX6 47 "AuditoriumKeysModel" "spent" "[I"] ++ wsX60)
def wsX6_lapses : List Cond := .code yX6_lapses cX6_lapses 2 (some .int) :: ([.fieldLink RX6 26 "AuditoriumKeysModel" "firsts" "[I", .fieldLink RX6 44 "AuditoriumKeysModel" "lapsesAt" "[I", .methodLink RX6 93 yX6_isPerson, .static yX6_isPerson, .initialized RX6, .code yX6_isPerson cX6_isPerson 1 (some .boolean), .methodLink RX6 66 yX6_in, .static yX6_in, .code yX6_in cX6_in 3 (some .boolean), .methodLink RX6 83 yX6_goesWell, .instanceMethod yX6_goesWell, .selects RX6 yX6_goesWell yX6_goesWell, .code yX6_goesWell cX6_goesWell 2 (some .boolean), .fieldLink RX6 63 "AuditoriumKeysModel" "thrown" "I"] ++ wsX60)
def wsX6_state : List Cond := .code yX6_state cX6_state 2 (some .int) :: ([.methodLink RX6 139 yX6_isSeat, .static yX6_isSeat, .initialized RX6, .code yX6_isSeat cX6_isSeat 1 (some .boolean), .methodLink RX6 66 yX6_in, .static yX6_in, .code yX6_in cX6_in 3 (some .boolean), .methodLink RX6 83 yX6_goesWell, .instanceMethod yX6_goesWell, .selects RX6 yX6_goesWell yX6_goesWell, .code yX6_goesWell cX6_goesWell 2 (some .boolean), .fieldLink RX6 63 "AuditoriumKeysModel" "thrown" "I", .methodLink RX6 142 yX6_stateOf, .instanceMethod yX6_stateOf, .selects RX6 yX6_stateOf yX6_stateOf, .code yX6_stateOf cX6_stateOf 2 (some .int), .fieldLink RX6 50 "AuditoriumKeysModel" "owners" "[I", .fieldLink RX6 56 "AuditoriumKeysModel" "offered" "[I", .methodLink RX6 73 yX6_isHeld, .instanceMethod yX6_isHeld, .selects RX6 yX6_isHeld yX6_isHeld, .code yX6_isHeld cX6_isHeld 4 (some .boolean), .fieldLink RX6 26 "AuditoriumKeysModel" "firsts" "[I", .fieldLink RX6 29 "AuditoriumKeysModel" "manies" "[I"] ++ wsX60)
def wsX6_ownerBySales : List Cond := .code yX6_ownerBySales cX6_ownerBySales 2 (some .int) :: ([.fieldLink RX6 50 "AuditoriumKeysModel" "owners" "[I", .methodLink RX6 139 yX6_isSeat, .static yX6_isSeat, .initialized RX6, .code yX6_isSeat cX6_isSeat 1 (some .boolean), .methodLink RX6 66 yX6_in, .static yX6_in, .code yX6_in cX6_in 3 (some .boolean), .methodLink RX6 83 yX6_goesWell, .instanceMethod yX6_goesWell, .selects RX6 yX6_goesWell yX6_goesWell, .code yX6_goesWell cX6_goesWell 2 (some .boolean), .fieldLink RX6 63 "AuditoriumKeysModel" "thrown" "I"] ++ wsX60)
def wsX6_owner : List Cond := .code yX6_owner cX6_owner 2 (some .int) :: ([.methodLink RX6 145 yX6_ownerBySales, .instanceMethod yX6_ownerBySales, .selects RX6 yX6_ownerBySales yX6_ownerBySales, .initialized RX6, .code yX6_ownerBySales cX6_ownerBySales 2 (some .int), .fieldLink RX6 50 "AuditoriumKeysModel" "owners" "[I", .methodLink RX6 139 yX6_isSeat, .static yX6_isSeat, .code yX6_isSeat cX6_isSeat 1 (some .boolean), .methodLink RX6 66 yX6_in, .static yX6_in, .code yX6_in cX6_in 3 (some .boolean), .methodLink RX6 83 yX6_goesWell, .instanceMethod yX6_goesWell, .selects RX6 yX6_goesWell yX6_goesWell, .code yX6_goesWell cX6_goesWell 2 (some .boolean), .fieldLink RX6 63 "AuditoriumKeysModel" "thrown" "I"] ++ wsX60)
def wsX6_isSingle_r1 : List Cond := [Cond.methodLink RX6 139 yX6_isSeat, Cond.static yX6_isSeat, Cond.initialized RX6, Cond.code yX6_isSeat cX6_isSeat 1 (some .boolean), Cond.methodLink RX6 66 yX6_in, Cond.static yX6_in, Cond.code yX6_in cX6_in 3 (some .boolean), Cond.methodLink RX6 83 yX6_goesWell, Cond.instanceMethod yX6_goesWell, Cond.selects RX6 yX6_goesWell yX6_goesWell, Cond.code yX6_goesWell cX6_goesWell 2 (some .boolean), Cond.fieldLink RX6 63 "AuditoriumKeysModel" "thrown" "I", Cond.methodLink RX6 115 yX6_isAlone, Cond.instanceMethod yX6_isAlone, Cond.selects RX6 yX6_isAlone yX6_isAlone, Cond.code yX6_isAlone cX6_isAlone 5 (some .boolean), Cond.methodLink RX6 77 yX6_isOpen, Cond.instanceMethod yX6_isOpen, Cond.selects RX6 yX6_isOpen yX6_isOpen, Cond.code yX6_isOpen cX6_isOpen 2 (some .boolean), Cond.fieldLink RX6 50 "AuditoriumKeysModel" "owners" "[I", Cond.fieldLink RX6 56 "AuditoriumKeysModel" "offered" "[I", Cond.methodLink RX6 73 yX6_isHeld, Cond.instanceMethod yX6_isHeld]
def wsX6_isSingle_r2 : List Cond := [Cond.selects RX6 yX6_isHeld yX6_isHeld, Cond.code yX6_isHeld cX6_isHeld 4 (some .boolean), Cond.fieldLink RX6 26 "AuditoriumKeysModel" "firsts" "[I", Cond.fieldLink RX6 29 "AuditoriumKeysModel" "manies" "[I"]
def wsX6_isSingle : List Cond := .code yX6_isSingle cX6_isSingle 2 (some .boolean) :: ((wsX6_isSingle_r1 ++ wsX6_isSingle_r2) ++ wsX60)
def wsX6_firstOpen : List Cond := .code yX6_firstOpen cX6_firstOpen 6 (some .int) :: ([.methodLink RX6 118 yX6_isRow, .static yX6_isRow, .initialized RX6, .code yX6_isRow cX6_isRow 1 (some .boolean), .methodLink RX6 66 yX6_in, .static yX6_in, .code yX6_in cX6_in 3 (some .boolean), .methodLink RX6 83 yX6_goesWell, .instanceMethod yX6_goesWell, .selects RX6 yX6_goesWell yX6_goesWell, .code yX6_goesWell cX6_goesWell 2 (some .boolean), .fieldLink RX6 63 "AuditoriumKeysModel" "thrown" "I", .methodLink RX6 77 yX6_isOpen, .instanceMethod yX6_isOpen, .selects RX6 yX6_isOpen yX6_isOpen, .code yX6_isOpen cX6_isOpen 2 (some .boolean), .fieldLink RX6 50 "AuditoriumKeysModel" "owners" "[I", .fieldLink RX6 56 "AuditoriumKeysModel" "offered" "[I", .methodLink RX6 73 yX6_isHeld, .instanceMethod yX6_isHeld, .selects RX6 yX6_isHeld yX6_isHeld, .code yX6_isHeld cX6_isHeld 4 (some .boolean), .fieldLink RX6 26 "AuditoriumKeysModel" "firsts" "[I", .fieldLink RX6 29 "AuditoriumKeysModel" "manies" "[I"] ++ wsX60)
def wsX6_offer_r1 : List Cond := [Cond.fieldLink RX6 53 "AuditoriumKeysModel" "worth" "[I", Cond.fieldLink RX6 50 "AuditoriumKeysModel" "owners" "[I", Cond.fieldLink RX6 56 "AuditoriumKeysModel" "offered" "[I", Cond.methodLink RX6 93 yX6_isPerson, Cond.static yX6_isPerson, Cond.initialized RX6, Cond.code yX6_isPerson cX6_isPerson 1 (some .boolean), Cond.methodLink RX6 66 yX6_in, Cond.static yX6_in, Cond.code yX6_in cX6_in 3 (some .boolean), Cond.methodLink RX6 139 yX6_isSeat, Cond.static yX6_isSeat, Cond.code yX6_isSeat cX6_isSeat 1 (some .boolean), Cond.methodLink RX6 142 yX6_stateOf, Cond.instanceMethod yX6_stateOf, Cond.selects RX6 yX6_stateOf yX6_stateOf, Cond.code yX6_stateOf cX6_stateOf 2 (some .int), Cond.methodLink RX6 73 yX6_isHeld, Cond.instanceMethod yX6_isHeld, Cond.selects RX6 yX6_isHeld yX6_isHeld, Cond.code yX6_isHeld cX6_isHeld 4 (some .boolean), Cond.fieldLink RX6 26 "AuditoriumKeysModel" "firsts" "[I", Cond.fieldLink RX6 29 "AuditoriumKeysModel" "manies" "[I", Cond.methodLink RX6 83 yX6_goesWell]
def wsX6_offer_r2 : List Cond := [Cond.instanceMethod yX6_goesWell, Cond.selects RX6 yX6_goesWell yX6_goesWell, Cond.code yX6_goesWell cX6_goesWell 2 (some .boolean), Cond.fieldLink RX6 63 "AuditoriumKeysModel" "thrown" "I"]
def wsX6_offer : List Cond := .code yX6_offer cX6_offer 8 (some .int) :: ((wsX6_offer_r1 ++ wsX6_offer_r2) ++ wsX60)
def wsX6_retract : List Cond := .code yX6_retract cX6_retract 4 (some .int) :: ([.fieldLink RX6 56 "AuditoriumKeysModel" "offered" "[I", .methodLink RX6 139 yX6_isSeat, .static yX6_isSeat, .initialized RX6, .code yX6_isSeat cX6_isSeat 1 (some .boolean), .methodLink RX6 66 yX6_in, .static yX6_in, .code yX6_in cX6_in 3 (some .boolean), .methodLink RX6 142 yX6_stateOf, .instanceMethod yX6_stateOf, .selects RX6 yX6_stateOf yX6_stateOf, .code yX6_stateOf cX6_stateOf 2 (some .int), .fieldLink RX6 50 "AuditoriumKeysModel" "owners" "[I", .methodLink RX6 73 yX6_isHeld, .instanceMethod yX6_isHeld, .selects RX6 yX6_isHeld yX6_isHeld, .code yX6_isHeld cX6_isHeld 4 (some .boolean), .fieldLink RX6 26 "AuditoriumKeysModel" "firsts" "[I", .fieldLink RX6 29 "AuditoriumKeysModel" "manies" "[I", .methodLink RX6 83 yX6_goesWell, .instanceMethod yX6_goesWell, .selects RX6 yX6_goesWell yX6_goesWell, .code yX6_goesWell cX6_goesWell 2 (some .boolean), .fieldLink RX6 63 "AuditoriumKeysModel" "thrown" "I"] ++ wsX60)
def wsX6_spent : List Cond := .code yX6_spent cX6_spent 2 (some .int) :: ([.fieldLink RX6 47 "AuditoriumKeysModel" "spent" "[I", .methodLink RX6 93 yX6_isPerson, .static yX6_isPerson, .initialized RX6, .code yX6_isPerson cX6_isPerson 1 (some .boolean), .methodLink RX6 66 yX6_in, .static yX6_in, .code yX6_in cX6_in 3 (some .boolean), .methodLink RX6 83 yX6_goesWell, .instanceMethod yX6_goesWell, .selects RX6 yX6_goesWell yX6_goesWell, .code yX6_goesWell cX6_goesWell 2 (some .boolean), .fieldLink RX6 63 "AuditoriumKeysModel" "thrown" "I"] ++ wsX60)
def wsX6_takings : List Cond := .code yX6_takings cX6_takings 1 (some .int) :: ([.fieldLink RX6 63 "AuditoriumKeysModel" "thrown" "I", .fieldLink RX6 133 "AuditoriumKeysModel" "takings" "I"] ++ wsX60)
def wsJ9_min_7cf53 : List Cond := .code yJ9_min_7cf53 cJ9_min_7cf53 2 (some .int) :: ([])
theorem dX0_init_0 : decode cX0_init 0 = .ok (.aload_n 0, 1) := by decide +kernel
theorem dX0_init_1 : decode cX0_init 1 = .ok (.invokespecial 3, 3) := by decide +kernel
theorem dX0_init_4 : decode cX0_init 4 = .ok (.aload_n 0, 1) := by decide +kernel
theorem dX0_init_5 : decode cX0_init 5 = .ok (.iconst 0, 1) := by decide +kernel
theorem dX0_init_6 : decode cX0_init 6 = .ok (.putfield 9, 3) := by decide +kernel
theorem dX0_init_9 : decode cX0_init 9 = .ok (.aload_n 0, 1) := by decide +kernel
theorem dX0_init_10 : decode cX0_init 10 = .ok (.bipush 10, 2) := by decide +kernel
theorem dX0_init_12 : decode cX0_init 12 = .ok (.newarray .int, 2) := by decide +kernel
theorem dX0_init_14 : decode cX0_init 14 = .ok (.putfield 15, 3) := by decide +kernel
theorem dX0_init_17 : decode cX0_init 17 = .ok (.aload_n 0, 1) := by decide +kernel
theorem dX0_init_18 : decode cX0_init 18 = .ok (.bipush 10, 2) := by decide +kernel
theorem dX0_init_20 : decode cX0_init 20 = .ok (.newarray .int, 2) := by decide +kernel
theorem dX0_init_22 : decode cX0_init 22 = .ok (.putfield 19, 3) := by decide +kernel
theorem dX0_init_25 : decode cX0_init 25 = .ok (.aload_n 0, 1) := by decide +kernel
theorem dX0_init_26 : decode cX0_init 26 = .ok (.bipush 80, 2) := by decide +kernel
theorem dX0_init_28 : decode cX0_init 28 = .ok (.newarray .int, 2) := by decide +kernel
theorem dX0_init_30 : decode cX0_init 30 = .ok (.putfield 22, 3) := by decide +kernel
theorem dX0_init_33 : decode cX0_init 33 = .ok (.return_, 1) := by decide +kernel
theorem dX0_add_0 : decode cX0_add 0 = .ok (.aload_n 0, 1) := by decide +kernel
theorem dX0_add_1 : decode cX0_add 1 = .ok (.getfield 15, 3) := by decide +kernel
theorem dX0_add_4 : decode cX0_add 4 = .ok (.aload_n 0, 1) := by decide +kernel
theorem dX0_add_5 : decode cX0_add 5 = .ok (.getfield 9, 3) := by decide +kernel
theorem dX0_add_8 : decode cX0_add 8 = .ok (.iload_n 1, 1) := by decide +kernel
theorem dX0_add_9 : decode cX0_add 9 = .ok (.iastore, 1) := by decide +kernel
theorem dX0_add_10 : decode cX0_add 10 = .ok (.aload_n 0, 1) := by decide +kernel
theorem dX0_add_11 : decode cX0_add 11 = .ok (.getfield 19, 3) := by decide +kernel
theorem dX0_add_14 : decode cX0_add 14 = .ok (.aload_n 0, 1) := by decide +kernel
theorem dX0_add_15 : decode cX0_add 15 = .ok (.getfield 9, 3) := by decide +kernel
theorem dX0_add_18 : decode cX0_add 18 = .ok (.iload_n 2, 1) := by decide +kernel
theorem dX0_add_19 : decode cX0_add 19 = .ok (.iastore, 1) := by decide +kernel
theorem dX0_add_20 : decode cX0_add 20 = .ok (.aload_n 0, 1) := by decide +kernel
theorem dX0_add_21 : decode cX0_add 21 = .ok (.dup, 1) := by decide +kernel
theorem dX0_add_22 : decode cX0_add 22 = .ok (.getfield 9, 3) := by decide +kernel
theorem dX0_add_25 : decode cX0_add 25 = .ok (.iconst 1, 1) := by decide +kernel
theorem dX0_add_26 : decode cX0_add 26 = .ok (.iadd, 1) := by decide +kernel
theorem dX0_add_27 : decode cX0_add 27 = .ok (.putfield 9, 3) := by decide +kernel
theorem dX0_add_30 : decode cX0_add 30 = .ok (.aload_n 0, 1) := by decide +kernel
theorem dX0_add_31 : decode cX0_add 31 = .ok (.getfield 9, 3) := by decide +kernel
theorem dX0_add_34 : decode cX0_add 34 = .ok (.iconst 1, 1) := by decide +kernel
theorem dX0_add_35 : decode cX0_add 35 = .ok (.isub, 1) := by decide +kernel
theorem dX0_add_36 : decode cX0_add 36 = .ok (.ireturn, 1) := by decide +kernel
theorem dX0_seatsOf_0 : decode cX0_seatsOf 0 = .ok (.aload_n 0, 1) := by decide +kernel
theorem dX0_seatsOf_1 : decode cX0_seatsOf 1 = .ok (.getfield 22, 3) := by decide +kernel
theorem dX0_seatsOf_4 : decode cX0_seatsOf 4 = .ok (.bipush 8, 2) := by decide +kernel
theorem dX0_seatsOf_6 : decode cX0_seatsOf 6 = .ok (.iload_n 1, 1) := by decide +kernel
theorem dX0_seatsOf_7 : decode cX0_seatsOf 7 = .ok (.imul, 1) := by decide +kernel
theorem dX0_seatsOf_8 : decode cX0_seatsOf 8 = .ok (.iload_n 2, 1) := by decide +kernel
theorem dX0_seatsOf_9 : decode cX0_seatsOf 9 = .ok (.iadd, 1) := by decide +kernel
theorem dX0_seatsOf_10 : decode cX0_seatsOf 10 = .ok (.iaload, 1) := by decide +kernel
theorem dX0_seatsOf_11 : decode cX0_seatsOf 11 = .ok (.ireturn, 1) := by decide +kernel
set_option maxRecDepth 20000 in
theorem ggX0_haveRoom_X0_seatsOf : GoodIn wsX0_haveRoom wsX0_seatsOf := goodIn_r _ [7, 8, 9, 10, 11, 12] (by decide +kernel) (by decide +kernel)
set_option maxRecDepth 20000 in
theorem gX0_haveRoom_X0_seatsOf : GoodIn wsX0_haveRoom (wsV RX0 25 RX0 yX0_seatsOf wsX0_seatsOf) := goodIn_app (goodIn_of _ (by decide +kernel)) ggX0_haveRoom_X0_seatsOf
theorem dX0_haveRoom_0 : decode cX0_haveRoom 0 = .ok (.iload_n 2, 1) := by decide +kernel
theorem dX0_haveRoom_1 : decode cX0_haveRoom 1 = .ok (.iconst 1, 1) := by decide +kernel
theorem dX0_haveRoom_2 : decode cX0_haveRoom 2 = .ok (.ixor, 1) := by decide +kernel
theorem dX0_haveRoom_3 : decode cX0_haveRoom 3 = .ok (.istore 4, 2) := by decide +kernel
theorem dX0_haveRoom_5 : decode cX0_haveRoom 5 = .ok (.aload_n 0, 1) := by decide +kernel
theorem dX0_haveRoom_6 : decode cX0_haveRoom 6 = .ok (.iload_n 1, 1) := by decide +kernel
theorem dX0_haveRoom_7 : decode cX0_haveRoom 7 = .ok (.iload_n 2, 1) := by decide +kernel
theorem dX0_haveRoom_8 : decode cX0_haveRoom 8 = .ok (.invokevirtual 25, 3) := by decide +kernel
theorem dX0_haveRoom_11 : decode cX0_haveRoom 11 = .ok (.iload_n 3, 1) := by decide +kernel
theorem dX0_haveRoom_12 : decode cX0_haveRoom 12 = .ok (.iadd, 1) := by decide +kernel
theorem dX0_haveRoom_13 : decode cX0_haveRoom 13 = .ok (.istore 5, 2) := by decide +kernel
theorem dX0_haveRoom_15 : decode cX0_haveRoom 15 = .ok (.iload 5, 2) := by decide +kernel
theorem dX0_haveRoom_17 : decode cX0_haveRoom 17 = .ok (.aload_n 0, 1) := by decide +kernel
theorem dX0_haveRoom_18 : decode cX0_haveRoom 18 = .ok (.getfield 15, 3) := by decide +kernel
theorem dX0_haveRoom_21 : decode cX0_haveRoom 21 = .ok (.iload_n 1, 1) := by decide +kernel
theorem dX0_haveRoom_22 : decode cX0_haveRoom 22 = .ok (.iaload, 1) := by decide +kernel
theorem dX0_haveRoom_23 : decode cX0_haveRoom 23 = .ok (.if_icmp .gt 26, 3) := by decide +kernel
theorem dX0_haveRoom_26 : decode cX0_haveRoom 26 = .ok (.iload 5, 2) := by decide +kernel
theorem dX0_haveRoom_28 : decode cX0_haveRoom 28 = .ok (.aload_n 0, 1) := by decide +kernel
theorem dX0_haveRoom_29 : decode cX0_haveRoom 29 = .ok (.iload_n 1, 1) := by decide +kernel
theorem dX0_haveRoom_30 : decode cX0_haveRoom 30 = .ok (.iload 4, 2) := by decide +kernel
theorem dX0_haveRoom_32 : decode cX0_haveRoom 32 = .ok (.invokevirtual 25, 3) := by decide +kernel
theorem dX0_haveRoom_35 : decode cX0_haveRoom 35 = .ok (.iadd, 1) := by decide +kernel
theorem dX0_haveRoom_36 : decode cX0_haveRoom 36 = .ok (.aload_n 0, 1) := by decide +kernel
theorem dX0_haveRoom_37 : decode cX0_haveRoom 37 = .ok (.getfield 19, 3) := by decide +kernel
theorem dX0_haveRoom_40 : decode cX0_haveRoom 40 = .ok (.iload_n 1, 1) := by decide +kernel
theorem dX0_haveRoom_41 : decode cX0_haveRoom 41 = .ok (.iaload, 1) := by decide +kernel
theorem dX0_haveRoom_42 : decode cX0_haveRoom 42 = .ok (.if_icmp .gt 7, 3) := by decide +kernel
theorem dX0_haveRoom_45 : decode cX0_haveRoom 45 = .ok (.iconst 1, 1) := by decide +kernel
theorem dX0_haveRoom_46 : decode cX0_haveRoom 46 = .ok (.goto 4, 3) := by decide +kernel
theorem dX0_haveRoom_49 : decode cX0_haveRoom 49 = .ok (.iconst 0, 1) := by decide +kernel
theorem dX0_haveRoom_50 : decode cX0_haveRoom 50 = .ok (.ireturn, 1) := by decide +kernel
theorem dX0_tally_0 : decode cX0_tally 0 = .ok (.iload_n 1, 1) := by decide +kernel
theorem dX0_tally_1 : decode cX0_tally 1 = .ok (.iconst (-1), 1) := by decide +kernel
theorem dX0_tally_2 : decode cX0_tally 2 = .ok (.if_icmp .eq 18, 3) := by decide +kernel
theorem dX0_tally_5 : decode cX0_tally 5 = .ok (.aload_n 0, 1) := by decide +kernel
theorem dX0_tally_6 : decode cX0_tally 6 = .ok (.getfield 22, 3) := by decide +kernel
theorem dX0_tally_9 : decode cX0_tally 9 = .ok (.bipush 8, 2) := by decide +kernel
theorem dX0_tally_11 : decode cX0_tally 11 = .ok (.iload_n 1, 1) := by decide +kernel
theorem dX0_tally_12 : decode cX0_tally 12 = .ok (.imul, 1) := by decide +kernel
theorem dX0_tally_13 : decode cX0_tally 13 = .ok (.iload_n 2, 1) := by decide +kernel
theorem dX0_tally_14 : decode cX0_tally 14 = .ok (.iadd, 1) := by decide +kernel
theorem dX0_tally_15 : decode cX0_tally 15 = .ok (.dup2, 1) := by decide +kernel
theorem dX0_tally_16 : decode cX0_tally 16 = .ok (.iaload, 1) := by decide +kernel
theorem dX0_tally_17 : decode cX0_tally 17 = .ok (.iload_n 3, 1) := by decide +kernel
theorem dX0_tally_18 : decode cX0_tally 18 = .ok (.iadd, 1) := by decide +kernel
theorem dX0_tally_19 : decode cX0_tally 19 = .ok (.iastore, 1) := by decide +kernel
theorem dX0_tally_20 : decode cX0_tally 20 = .ok (.return_, 1) := by decide +kernel
theorem dX1_init_0 : decode cX1_init 0 = .ok (.aload_n 0, 1) := by decide +kernel
theorem dX1_init_1 : decode cX1_init 1 = .ok (.invokespecial 3, 3) := by decide +kernel
theorem dX1_init_4 : decode cX1_init 4 = .ok (.aload_n 0, 1) := by decide +kernel
theorem dX1_init_5 : decode cX1_init 5 = .ok (.bipush 8, 2) := by decide +kernel
theorem dX1_init_7 : decode cX1_init 7 = .ok (.newarray .int, 2) := by decide +kernel
theorem dX1_init_9 : decode cX1_init 9 = .ok (.putfield 9, 3) := by decide +kernel
theorem dX1_init_12 : decode cX1_init 12 = .ok (.aload_n 0, 1) := by decide +kernel
theorem dX1_init_13 : decode cX1_init 13 = .ok (.bipush 8, 2) := by decide +kernel
theorem dX1_init_15 : decode cX1_init 15 = .ok (.newarray .int, 2) := by decide +kernel
theorem dX1_init_17 : decode cX1_init 17 = .ok (.putfield 15, 3) := by decide +kernel
theorem dX1_init_20 : decode cX1_init 20 = .ok (.aload_n 0, 1) := by decide +kernel
theorem dX1_init_21 : decode cX1_init 21 = .ok (.bipush 8, 2) := by decide +kernel
theorem dX1_init_23 : decode cX1_init 23 = .ok (.newarray .int, 2) := by decide +kernel
theorem dX1_init_25 : decode cX1_init 25 = .ok (.putfield 18, 3) := by decide +kernel
theorem dX1_init_28 : decode cX1_init 28 = .ok (.aload_n 0, 1) := by decide +kernel
theorem dX1_init_29 : decode cX1_init 29 = .ok (.bipush 8, 2) := by decide +kernel
theorem dX1_init_31 : decode cX1_init 31 = .ok (.newarray .int, 2) := by decide +kernel
theorem dX1_init_33 : decode cX1_init 33 = .ok (.putfield 21, 3) := by decide +kernel
theorem dX1_init_36 : decode cX1_init 36 = .ok (.aload_n 0, 1) := by decide +kernel
theorem dX1_init_37 : decode cX1_init 37 = .ok (.bipush 8, 2) := by decide +kernel
theorem dX1_init_39 : decode cX1_init 39 = .ok (.newarray .int, 2) := by decide +kernel
theorem dX1_init_41 : decode cX1_init 41 = .ok (.putfield 24, 3) := by decide +kernel
theorem dX1_init_44 : decode cX1_init 44 = .ok (.aload_n 0, 1) := by decide +kernel
theorem dX1_init_45 : decode cX1_init 45 = .ok (.bipush 8, 2) := by decide +kernel
theorem dX1_init_47 : decode cX1_init 47 = .ok (.newarray .int, 2) := by decide +kernel
theorem dX1_init_49 : decode cX1_init 49 = .ok (.putfield 27, 3) := by decide +kernel
theorem dX1_init_52 : decode cX1_init 52 = .ok (.aload_n 0, 1) := by decide +kernel
theorem dX1_init_53 : decode cX1_init 53 = .ok (.bipush 8, 2) := by decide +kernel
theorem dX1_init_55 : decode cX1_init 55 = .ok (.newarray .int, 2) := by decide +kernel
theorem dX1_init_57 : decode cX1_init 57 = .ok (.putfield 30, 3) := by decide +kernel
theorem dX1_init_60 : decode cX1_init 60 = .ok (.return_, 1) := by decide +kernel
theorem dX1_isThere_0 : decode cX1_isThere 0 = .ok (.aload_n 0, 1) := by decide +kernel
theorem dX1_isThere_1 : decode cX1_isThere 1 = .ok (.getfield 15, 3) := by decide +kernel
theorem dX1_isThere_4 : decode cX1_isThere 4 = .ok (.iload_n 1, 1) := by decide +kernel
theorem dX1_isThere_5 : decode cX1_isThere 5 = .ok (.iaload, 1) := by decide +kernel
theorem dX1_isThere_6 : decode cX1_isThere 6 = .ok (.ifCond .le 7, 3) := by decide +kernel
theorem dX1_isThere_9 : decode cX1_isThere 9 = .ok (.iconst 1, 1) := by decide +kernel
theorem dX1_isThere_10 : decode cX1_isThere 10 = .ok (.goto 4, 3) := by decide +kernel
theorem dX1_isThere_13 : decode cX1_isThere 13 = .ok (.iconst 0, 1) := by decide +kernel
theorem dX1_isThere_14 : decode cX1_isThere 14 = .ok (.ireturn, 1) := by decide +kernel
theorem dX1_left_0 : decode cX1_left 0 = .ok (.aload_n 0, 1) := by decide +kernel
theorem dX1_left_1 : decode cX1_left 1 = .ok (.getfield 21, 3) := by decide +kernel
theorem dX1_left_4 : decode cX1_left 4 = .ok (.iload_n 1, 1) := by decide +kernel
theorem dX1_left_5 : decode cX1_left 5 = .ok (.iaload, 1) := by decide +kernel
theorem dX1_left_6 : decode cX1_left 6 = .ok (.aload_n 0, 1) := by decide +kernel
theorem dX1_left_7 : decode cX1_left 7 = .ok (.getfield 24, 3) := by decide +kernel
theorem dX1_left_10 : decode cX1_left 10 = .ok (.iload_n 1, 1) := by decide +kernel
theorem dX1_left_11 : decode cX1_left 11 = .ok (.iaload, 1) := by decide +kernel
theorem dX1_left_12 : decode cX1_left 12 = .ok (.isub, 1) := by decide +kernel
theorem dX1_left_13 : decode cX1_left 13 = .ok (.ireturn, 1) := by decide +kernel
theorem dX1_make_0 : decode cX1_make 0 = .ok (.aload_n 0, 1) := by decide +kernel
theorem dX1_make_1 : decode cX1_make 1 = .ok (.getfield 9, 3) := by decide +kernel
theorem dX1_make_4 : decode cX1_make 4 = .ok (.iload_n 1, 1) := by decide +kernel
theorem dX1_make_5 : decode cX1_make 5 = .ok (.iload_n 2, 1) := by decide +kernel
theorem dX1_make_6 : decode cX1_make 6 = .ok (.iastore, 1) := by decide +kernel
theorem dX1_make_7 : decode cX1_make 7 = .ok (.aload_n 0, 1) := by decide +kernel
theorem dX1_make_8 : decode cX1_make 8 = .ok (.getfield 15, 3) := by decide +kernel
theorem dX1_make_11 : decode cX1_make 11 = .ok (.iload_n 1, 1) := by decide +kernel
theorem dX1_make_12 : decode cX1_make 12 = .ok (.iload_n 3, 1) := by decide +kernel
theorem dX1_make_13 : decode cX1_make 13 = .ok (.iastore, 1) := by decide +kernel
theorem dX1_make_14 : decode cX1_make 14 = .ok (.aload_n 0, 1) := by decide +kernel
theorem dX1_make_15 : decode cX1_make 15 = .ok (.getfield 18, 3) := by decide +kernel
theorem dX1_make_18 : decode cX1_make 18 = .ok (.iload_n 1, 1) := by decide +kernel
theorem dX1_make_19 : decode cX1_make 19 = .ok (.iload 4, 2) := by decide +kernel
theorem dX1_make_21 : decode cX1_make 21 = .ok (.iastore, 1) := by decide +kernel
theorem dX1_make_22 : decode cX1_make 22 = .ok (.aload_n 0, 1) := by decide +kernel
theorem dX1_make_23 : decode cX1_make 23 = .ok (.getfield 21, 3) := by decide +kernel
theorem dX1_make_26 : decode cX1_make 26 = .ok (.iload_n 1, 1) := by decide +kernel
theorem dX1_make_27 : decode cX1_make 27 = .ok (.iload 5, 2) := by decide +kernel
theorem dX1_make_29 : decode cX1_make 29 = .ok (.iastore, 1) := by decide +kernel
theorem dX1_make_30 : decode cX1_make 30 = .ok (.aload_n 0, 1) := by decide +kernel
theorem dX1_make_31 : decode cX1_make 31 = .ok (.getfield 24, 3) := by decide +kernel
theorem dX1_make_34 : decode cX1_make 34 = .ok (.iload_n 1, 1) := by decide +kernel
theorem dX1_make_35 : decode cX1_make 35 = .ok (.iconst 0, 1) := by decide +kernel
theorem dX1_make_36 : decode cX1_make 36 = .ok (.iastore, 1) := by decide +kernel
theorem dX1_make_37 : decode cX1_make 37 = .ok (.aload_n 0, 1) := by decide +kernel
theorem dX1_make_38 : decode cX1_make 38 = .ok (.getfield 27, 3) := by decide +kernel
theorem dX1_make_41 : decode cX1_make 41 = .ok (.iload_n 1, 1) := by decide +kernel
theorem dX1_make_42 : decode cX1_make 42 = .ok (.iload 6, 2) := by decide +kernel
theorem dX1_make_44 : decode cX1_make 44 = .ok (.bipush 30, 2) := by decide +kernel
theorem dX1_make_46 : decode cX1_make 46 = .ok (.iadd, 1) := by decide +kernel
theorem dX1_make_47 : decode cX1_make 47 = .ok (.iastore, 1) := by decide +kernel
theorem dX1_make_48 : decode cX1_make 48 = .ok (.aload_n 0, 1) := by decide +kernel
theorem dX1_make_49 : decode cX1_make 49 = .ok (.getfield 30, 3) := by decide +kernel
theorem dX1_make_52 : decode cX1_make 52 = .ok (.iload_n 1, 1) := by decide +kernel
theorem dX1_make_53 : decode cX1_make 53 = .ok (.iload 6, 2) := by decide +kernel
theorem dX1_make_55 : decode cX1_make 55 = .ok (.bipush 10, 2) := by decide +kernel
theorem dX1_make_57 : decode cX1_make 57 = .ok (.iadd, 1) := by decide +kernel
theorem dX1_make_58 : decode cX1_make 58 = .ok (.iastore, 1) := by decide +kernel
theorem dX1_make_59 : decode cX1_make 59 = .ok (.return_, 1) := by decide +kernel
theorem dX1_prolong_0 : decode cX1_prolong 0 = .ok (.aload_n 0, 1) := by decide +kernel
theorem dX1_prolong_1 : decode cX1_prolong 1 = .ok (.getfield 30, 3) := by decide +kernel
theorem dX1_prolong_4 : decode cX1_prolong 4 = .ok (.iload_n 1, 1) := by decide +kernel
theorem dX1_prolong_5 : decode cX1_prolong 5 = .ok (.aload_n 0, 1) := by decide +kernel
theorem dX1_prolong_6 : decode cX1_prolong 6 = .ok (.getfield 30, 3) := by decide +kernel
theorem dX1_prolong_9 : decode cX1_prolong 9 = .ok (.iload_n 1, 1) := by decide +kernel
theorem dX1_prolong_10 : decode cX1_prolong 10 = .ok (.iaload, 1) := by decide +kernel
theorem dX1_prolong_11 : decode cX1_prolong 11 = .ok (.iconst 5, 1) := by decide +kernel
theorem dX1_prolong_12 : decode cX1_prolong 12 = .ok (.iadd, 1) := by decide +kernel
theorem dX1_prolong_13 : decode cX1_prolong 13 = .ok (.aload_n 0, 1) := by decide +kernel
theorem dX1_prolong_14 : decode cX1_prolong 14 = .ok (.getfield 27, 3) := by decide +kernel
theorem dX1_prolong_17 : decode cX1_prolong 17 = .ok (.iload_n 1, 1) := by decide +kernel
theorem dX1_prolong_18 : decode cX1_prolong 18 = .ok (.iaload, 1) := by decide +kernel
theorem dX1_prolong_19 : decode cX1_prolong 19 = .ok (.invokestatic 33, 3) := by decide +kernel
theorem dX1_prolong_22 : decode cX1_prolong 22 = .ok (.iastore, 1) := by decide +kernel
theorem dX1_prolong_23 : decode cX1_prolong 23 = .ok (.return_, 1) := by decide +kernel
theorem dX1_end_0 : decode cX1_end 0 = .ok (.aload_n 0, 1) := by decide +kernel
theorem dX1_end_1 : decode cX1_end 1 = .ok (.getfield 15, 3) := by decide +kernel
theorem dX1_end_4 : decode cX1_end 4 = .ok (.iload_n 1, 1) := by decide +kernel
theorem dX1_end_5 : decode cX1_end 5 = .ok (.iconst 0, 1) := by decide +kernel
theorem dX1_end_6 : decode cX1_end 6 = .ok (.iastore, 1) := by decide +kernel
theorem dX1_end_7 : decode cX1_end 7 = .ok (.return_, 1) := by decide +kernel
theorem dX2_init_0 : decode cX2_init 0 = .ok (.aload_n 0, 1) := by decide +kernel
theorem dX2_init_1 : decode cX2_init 1 = .ok (.invokespecial 3, 3) := by decide +kernel
theorem dX2_init_4 : decode cX2_init 4 = .ok (.aload_n 0, 1) := by decide +kernel
theorem dX2_init_5 : decode cX2_init 5 = .ok (.bipush 8, 2) := by decide +kernel
theorem dX2_init_7 : decode cX2_init 7 = .ok (.newarray .int, 2) := by decide +kernel
theorem dX2_init_9 : decode cX2_init 9 = .ok (.putfield 9, 3) := by decide +kernel
theorem dX2_init_12 : decode cX2_init 12 = .ok (.iconst 0, 1) := by decide +kernel
theorem dX2_init_13 : decode cX2_init 13 = .ok (.istore_n 1, 1) := by decide +kernel
theorem dX2_init_14 : decode cX2_init 14 = .ok (.iload_n 1, 1) := by decide +kernel
theorem dX2_init_15 : decode cX2_init 15 = .ok (.bipush 8, 2) := by decide +kernel
theorem dX2_init_17 : decode cX2_init 17 = .ok (.if_icmp .ge 16, 3) := by decide +kernel
theorem dX2_init_20 : decode cX2_init 20 = .ok (.aload_n 0, 1) := by decide +kernel
theorem dX2_init_21 : decode cX2_init 21 = .ok (.getfield 9, 3) := by decide +kernel
theorem dX2_init_24 : decode cX2_init 24 = .ok (.iload_n 1, 1) := by decide +kernel
theorem dX2_init_25 : decode cX2_init 25 = .ok (.iconst (-1), 1) := by decide +kernel
theorem dX2_init_26 : decode cX2_init 26 = .ok (.iastore, 1) := by decide +kernel
theorem dX2_init_27 : decode cX2_init 27 = .ok (.iinc 1 1, 3) := by decide +kernel
theorem dX2_init_30 : decode cX2_init 30 = .ok (.goto (-16), 3) := by decide +kernel
theorem dX2_init_33 : decode cX2_init 33 = .ok (.return_, 1) := by decide +kernel
theorem dX2_isIn_0 : decode cX2_isIn 0 = .ok (.aload_n 0, 1) := by decide +kernel
theorem dX2_isIn_1 : decode cX2_isIn 1 = .ok (.getfield 9, 3) := by decide +kernel
theorem dX2_isIn_4 : decode cX2_isIn 4 = .ok (.iload_n 1, 1) := by decide +kernel
theorem dX2_isIn_5 : decode cX2_isIn 5 = .ok (.iaload, 1) := by decide +kernel
theorem dX2_isIn_6 : decode cX2_isIn 6 = .ok (.iconst (-1), 1) := by decide +kernel
theorem dX2_isIn_7 : decode cX2_isIn 7 = .ok (.if_icmp .eq 7, 3) := by decide +kernel
theorem dX2_isIn_10 : decode cX2_isIn 10 = .ok (.iconst 1, 1) := by decide +kernel
theorem dX2_isIn_11 : decode cX2_isIn 11 = .ok (.goto 4, 3) := by decide +kernel
theorem dX2_isIn_14 : decode cX2_isIn 14 = .ok (.iconst 0, 1) := by decide +kernel
theorem dX2_isIn_15 : decode cX2_isIn 15 = .ok (.ireturn, 1) := by decide +kernel
theorem dX2_enter_0 : decode cX2_enter 0 = .ok (.aload_n 0, 1) := by decide +kernel
theorem dX2_enter_1 : decode cX2_enter 1 = .ok (.getfield 9, 3) := by decide +kernel
theorem dX2_enter_4 : decode cX2_enter 4 = .ok (.iload_n 1, 1) := by decide +kernel
theorem dX2_enter_5 : decode cX2_enter 5 = .ok (.iload_n 2, 1) := by decide +kernel
theorem dX2_enter_6 : decode cX2_enter 6 = .ok (.iastore, 1) := by decide +kernel
theorem dX2_enter_7 : decode cX2_enter 7 = .ok (.return_, 1) := by decide +kernel
theorem dX2_leave_0 : decode cX2_leave 0 = .ok (.aload_n 0, 1) := by decide +kernel
theorem dX2_leave_1 : decode cX2_leave 1 = .ok (.getfield 9, 3) := by decide +kernel
theorem dX2_leave_4 : decode cX2_leave 4 = .ok (.iload_n 1, 1) := by decide +kernel
theorem dX2_leave_5 : decode cX2_leave 5 = .ok (.iconst (-1), 1) := by decide +kernel
theorem dX2_leave_6 : decode cX2_leave 6 = .ok (.iastore, 1) := by decide +kernel
theorem dX2_leave_7 : decode cX2_leave 7 = .ok (.return_, 1) := by decide +kernel
set_option maxRecDepth 20000 in
theorem ggX2_length_X2_isIn : GoodIn wsX2_length wsX2_isIn := goodIn_r _ [5, 6, 7] (by decide +kernel) (by decide +kernel)
set_option maxRecDepth 20000 in
theorem gX2_length_X2_isIn : GoodIn wsX2_length (wsV RX2 15 RX2 yX2_isIn wsX2_isIn) := goodIn_app (goodIn_of _ (by decide +kernel)) ggX2_length_X2_isIn
theorem dX2_length_0 : decode cX2_length 0 = .ok (.iconst 0, 1) := by decide +kernel
theorem dX2_length_1 : decode cX2_length 1 = .ok (.istore_n 1, 1) := by decide +kernel
theorem dX2_length_2 : decode cX2_length 2 = .ok (.iconst 0, 1) := by decide +kernel
theorem dX2_length_3 : decode cX2_length 3 = .ok (.istore_n 2, 1) := by decide +kernel
theorem dX2_length_4 : decode cX2_length 4 = .ok (.iload_n 2, 1) := by decide +kernel
theorem dX2_length_5 : decode cX2_length 5 = .ok (.bipush 8, 2) := by decide +kernel
theorem dX2_length_7 : decode cX2_length 7 = .ok (.if_icmp .ge 20, 3) := by decide +kernel
theorem dX2_length_10 : decode cX2_length 10 = .ok (.aload_n 0, 1) := by decide +kernel
theorem dX2_length_11 : decode cX2_length 11 = .ok (.iload_n 2, 1) := by decide +kernel
theorem dX2_length_12 : decode cX2_length 12 = .ok (.invokevirtual 15, 3) := by decide +kernel
theorem dX2_length_15 : decode cX2_length 15 = .ok (.ifCond .eq 6, 3) := by decide +kernel
theorem dX2_length_18 : decode cX2_length 18 = .ok (.iinc 1 1, 3) := by decide +kernel
theorem dX2_length_21 : decode cX2_length 21 = .ok (.iinc 2 1, 3) := by decide +kernel
theorem dX2_length_24 : decode cX2_length 24 = .ok (.goto (-20), 3) := by decide +kernel
theorem dX2_length_27 : decode cX2_length 27 = .ok (.iload_n 1, 1) := by decide +kernel
theorem dX2_length_28 : decode cX2_length 28 = .ok (.ireturn, 1) := by decide +kernel
set_option maxRecDepth 20000 in
theorem ggX2_personAt_X2_isIn : GoodIn wsX2_personAt wsX2_isIn := goodIn_r _ [5, 6, 15] (by decide +kernel) (by decide +kernel)
set_option maxRecDepth 20000 in
theorem gX2_personAt_X2_isIn : GoodIn wsX2_personAt (wsV RX2 15 RX2 yX2_isIn wsX2_isIn) := goodIn_app (goodIn_of _ (by decide +kernel)) ggX2_personAt_X2_isIn
set_option maxRecDepth 20000 in
theorem ggX2_personAt_X2_placeOf : GoodIn wsX2_personAt wsX2_placeOf := goodIn_r _ [10, 1, 2, 3, 4, 5, 6, 11, 12, 13, 14, 15] (by decide +kernel) (by decide +kernel)
set_option maxRecDepth 20000 in
theorem gX2_personAt_X2_placeOf : GoodIn wsX2_personAt (wsV RX2 19 RX2 yX2_placeOf wsX2_placeOf) := goodIn_app (goodIn_of _ (by decide +kernel)) ggX2_personAt_X2_placeOf
theorem dX2_personAt_0 : decode cX2_personAt 0 = .ok (.iconst 0, 1) := by decide +kernel
theorem dX2_personAt_1 : decode cX2_personAt 1 = .ok (.istore_n 2, 1) := by decide +kernel
theorem dX2_personAt_2 : decode cX2_personAt 2 = .ok (.iload_n 2, 1) := by decide +kernel
theorem dX2_personAt_3 : decode cX2_personAt 3 = .ok (.bipush 8, 2) := by decide +kernel
theorem dX2_personAt_5 : decode cX2_personAt 5 = .ok (.if_icmp .ge 28, 3) := by decide +kernel
theorem dX2_personAt_8 : decode cX2_personAt 8 = .ok (.aload_n 0, 1) := by decide +kernel
theorem dX2_personAt_9 : decode cX2_personAt 9 = .ok (.iload_n 2, 1) := by decide +kernel
theorem dX2_personAt_10 : decode cX2_personAt 10 = .ok (.invokevirtual 15, 3) := by decide +kernel
theorem dX2_personAt_13 : decode cX2_personAt 13 = .ok (.ifCond .eq 14, 3) := by decide +kernel
theorem dX2_personAt_16 : decode cX2_personAt 16 = .ok (.aload_n 0, 1) := by decide +kernel
theorem dX2_personAt_17 : decode cX2_personAt 17 = .ok (.iload_n 2, 1) := by decide +kernel
theorem dX2_personAt_18 : decode cX2_personAt 18 = .ok (.invokevirtual 19, 3) := by decide +kernel
theorem dX2_personAt_21 : decode cX2_personAt 21 = .ok (.iload_n 1, 1) := by decide +kernel
theorem dX2_personAt_22 : decode cX2_personAt 22 = .ok (.if_icmp .ne 5, 3) := by decide +kernel
theorem dX2_personAt_25 : decode cX2_personAt 25 = .ok (.iload_n 2, 1) := by decide +kernel
theorem dX2_personAt_26 : decode cX2_personAt 26 = .ok (.ireturn, 1) := by decide +kernel
theorem dX2_personAt_27 : decode cX2_personAt 27 = .ok (.iinc 2 1, 3) := by decide +kernel
theorem dX2_personAt_30 : decode cX2_personAt 30 = .ok (.goto (-28), 3) := by decide +kernel
theorem dX2_personAt_33 : decode cX2_personAt 33 = .ok (.iconst (-1), 1) := by decide +kernel
theorem dX2_personAt_34 : decode cX2_personAt 34 = .ok (.ireturn, 1) := by decide +kernel
set_option maxRecDepth 20000 in
theorem ggX2_placeOf_X2_isIn : GoodIn wsX2_placeOf wsX2_isIn := goodIn_r _ [5, 6, 11] (by decide +kernel) (by decide +kernel)
set_option maxRecDepth 20000 in
theorem gX2_placeOf_X2_isIn : GoodIn wsX2_placeOf (wsV RX2 15 RX2 yX2_isIn wsX2_isIn) := goodIn_app (goodIn_of _ (by decide +kernel)) ggX2_placeOf_X2_isIn
set_option maxRecDepth 20000 in
theorem ggX2_placeOf_X2_rank : GoodIn wsX2_placeOf wsX2_rank := goodIn_r _ [10, 6, 11] (by decide +kernel) (by decide +kernel)
set_option maxRecDepth 20000 in
theorem gX2_placeOf_X2_rank : GoodIn wsX2_placeOf (wsV RX2 23 RX2 yX2_rank wsX2_rank) := goodIn_app (goodIn_of _ (by decide +kernel)) ggX2_placeOf_X2_rank
theorem dX2_placeOf_0 : decode cX2_placeOf 0 = .ok (.iconst 0, 1) := by decide +kernel
theorem dX2_placeOf_1 : decode cX2_placeOf 1 = .ok (.istore_n 2, 1) := by decide +kernel
theorem dX2_placeOf_2 : decode cX2_placeOf 2 = .ok (.iconst 0, 1) := by decide +kernel
theorem dX2_placeOf_3 : decode cX2_placeOf 3 = .ok (.istore_n 3, 1) := by decide +kernel
theorem dX2_placeOf_4 : decode cX2_placeOf 4 = .ok (.iload_n 3, 1) := by decide +kernel
theorem dX2_placeOf_5 : decode cX2_placeOf 5 = .ok (.bipush 8, 2) := by decide +kernel
theorem dX2_placeOf_7 : decode cX2_placeOf 7 = .ok (.if_icmp .ge 33, 3) := by decide +kernel
theorem dX2_placeOf_10 : decode cX2_placeOf 10 = .ok (.aload_n 0, 1) := by decide +kernel
theorem dX2_placeOf_11 : decode cX2_placeOf 11 = .ok (.iload_n 3, 1) := by decide +kernel
theorem dX2_placeOf_12 : decode cX2_placeOf 12 = .ok (.invokevirtual 15, 3) := by decide +kernel
theorem dX2_placeOf_15 : decode cX2_placeOf 15 = .ok (.ifCond .eq 19, 3) := by decide +kernel
theorem dX2_placeOf_18 : decode cX2_placeOf 18 = .ok (.aload_n 0, 1) := by decide +kernel
theorem dX2_placeOf_19 : decode cX2_placeOf 19 = .ok (.iload_n 3, 1) := by decide +kernel
theorem dX2_placeOf_20 : decode cX2_placeOf 20 = .ok (.invokevirtual 23, 3) := by decide +kernel
theorem dX2_placeOf_23 : decode cX2_placeOf 23 = .ok (.aload_n 0, 1) := by decide +kernel
theorem dX2_placeOf_24 : decode cX2_placeOf 24 = .ok (.iload_n 1, 1) := by decide +kernel
theorem dX2_placeOf_25 : decode cX2_placeOf 25 = .ok (.invokevirtual 23, 3) := by decide +kernel
theorem dX2_placeOf_28 : decode cX2_placeOf 28 = .ok (.if_icmp .ge 6, 3) := by decide +kernel
theorem dX2_placeOf_31 : decode cX2_placeOf 31 = .ok (.iinc 2 1, 3) := by decide +kernel
theorem dX2_placeOf_34 : decode cX2_placeOf 34 = .ok (.iinc 3 1, 3) := by decide +kernel
theorem dX2_placeOf_37 : decode cX2_placeOf 37 = .ok (.goto (-33), 3) := by decide +kernel
theorem dX2_placeOf_40 : decode cX2_placeOf 40 = .ok (.iload_n 2, 1) := by decide +kernel
theorem dX2_placeOf_41 : decode cX2_placeOf 41 = .ok (.ireturn, 1) := by decide +kernel
theorem dX2_rank_0 : decode cX2_rank 0 = .ok (.aload_n 0, 1) := by decide +kernel
theorem dX2_rank_1 : decode cX2_rank 1 = .ok (.getfield 9, 3) := by decide +kernel
theorem dX2_rank_4 : decode cX2_rank 4 = .ok (.iload_n 1, 1) := by decide +kernel
theorem dX2_rank_5 : decode cX2_rank 5 = .ok (.iaload, 1) := by decide +kernel
theorem dX2_rank_6 : decode cX2_rank 6 = .ok (.istore_n 2, 1) := by decide +kernel
theorem dX2_rank_7 : decode cX2_rank 7 = .ok (.bipush 8, 2) := by decide +kernel
theorem dX2_rank_9 : decode cX2_rank 9 = .ok (.iload_n 2, 1) := by decide +kernel
theorem dX2_rank_10 : decode cX2_rank 10 = .ok (.imul, 1) := by decide +kernel
theorem dX2_rank_11 : decode cX2_rank 11 = .ok (.iconst 5, 1) := by decide +kernel
theorem dX2_rank_12 : decode cX2_rank 12 = .ok (.iload_n 1, 1) := by decide +kernel
theorem dX2_rank_13 : decode cX2_rank 13 = .ok (.imul, 1) := by decide +kernel
theorem dX2_rank_14 : decode cX2_rank 14 = .ok (.iconst 3, 1) := by decide +kernel
theorem dX2_rank_15 : decode cX2_rank 15 = .ok (.iload_n 2, 1) := by decide +kernel
theorem dX2_rank_16 : decode cX2_rank 16 = .ok (.imul, 1) := by decide +kernel
theorem dX2_rank_17 : decode cX2_rank 17 = .ok (.iadd, 1) := by decide +kernel
theorem dX2_rank_18 : decode cX2_rank 18 = .ok (.bipush 8, 2) := by decide +kernel
theorem dX2_rank_20 : decode cX2_rank 20 = .ok (.irem, 1) := by decide +kernel
theorem dX2_rank_21 : decode cX2_rank 21 = .ok (.iadd, 1) := by decide +kernel
theorem dX2_rank_22 : decode cX2_rank 22 = .ok (.ireturn, 1) := by decide +kernel
theorem dX3_init_0 : decode cX3_init 0 = .ok (.aload_n 0, 1) := by decide +kernel
theorem dX3_init_1 : decode cX3_init 1 = .ok (.invokespecial 3, 3) := by decide +kernel
theorem dX3_init_4 : decode cX3_init 4 = .ok (.aload_n 0, 1) := by decide +kernel
theorem dX3_init_5 : decode cX3_init 5 = .ok (.iconst 0, 1) := by decide +kernel
theorem dX3_init_6 : decode cX3_init 6 = .ok (.putfield 9, 3) := by decide +kernel
theorem dX3_init_9 : decode cX3_init 9 = .ok (.aload_n 0, 1) := by decide +kernel
theorem dX3_init_10 : decode cX3_init 10 = .ok (.sipush 170, 3) := by decide +kernel
theorem dX3_init_13 : decode cX3_init 13 = .ok (.newarray .int, 2) := by decide +kernel
theorem dX3_init_15 : decode cX3_init 15 = .ok (.putfield 15, 3) := by decide +kernel
theorem dX3_init_18 : decode cX3_init 18 = .ok (.aload_n 0, 1) := by decide +kernel
theorem dX3_init_19 : decode cX3_init 19 = .ok (.sipush 170, 3) := by decide +kernel
theorem dX3_init_22 : decode cX3_init 22 = .ok (.newarray .int, 2) := by decide +kernel
theorem dX3_init_24 : decode cX3_init 24 = .ok (.putfield 19, 3) := by decide +kernel
theorem dX3_init_27 : decode cX3_init 27 = .ok (.aload_n 0, 1) := by decide +kernel
theorem dX3_init_28 : decode cX3_init 28 = .ok (.sipush 170, 3) := by decide +kernel
theorem dX3_init_31 : decode cX3_init 31 = .ok (.newarray .int, 2) := by decide +kernel
theorem dX3_init_33 : decode cX3_init 33 = .ok (.putfield 22, 3) := by decide +kernel
theorem dX3_init_36 : decode cX3_init 36 = .ok (.return_, 1) := by decide +kernel
theorem dX3_add_0 : decode cX3_add 0 = .ok (.aload_n 0, 1) := by decide +kernel
theorem dX3_add_1 : decode cX3_add 1 = .ok (.getfield 9, 3) := by decide +kernel
theorem dX3_add_4 : decode cX3_add 4 = .ok (.sipush 170, 3) := by decide +kernel
theorem dX3_add_7 : decode cX3_add 7 = .ok (.if_icmp .lt 4, 3) := by decide +kernel
theorem dX3_add_10 : decode cX3_add 10 = .ok (.return_, 1) := by decide +kernel
theorem dX3_add_11 : decode cX3_add 11 = .ok (.aload_n 0, 1) := by decide +kernel
theorem dX3_add_12 : decode cX3_add 12 = .ok (.getfield 15, 3) := by decide +kernel
theorem dX3_add_15 : decode cX3_add 15 = .ok (.aload_n 0, 1) := by decide +kernel
theorem dX3_add_16 : decode cX3_add 16 = .ok (.getfield 9, 3) := by decide +kernel
theorem dX3_add_19 : decode cX3_add 19 = .ok (.iload_n 1, 1) := by decide +kernel
theorem dX3_add_20 : decode cX3_add 20 = .ok (.iastore, 1) := by decide +kernel
theorem dX3_add_21 : decode cX3_add 21 = .ok (.aload_n 0, 1) := by decide +kernel
theorem dX3_add_22 : decode cX3_add 22 = .ok (.getfield 19, 3) := by decide +kernel
theorem dX3_add_25 : decode cX3_add 25 = .ok (.aload_n 0, 1) := by decide +kernel
theorem dX3_add_26 : decode cX3_add 26 = .ok (.getfield 9, 3) := by decide +kernel
theorem dX3_add_29 : decode cX3_add 29 = .ok (.iload_n 2, 1) := by decide +kernel
theorem dX3_add_30 : decode cX3_add 30 = .ok (.iastore, 1) := by decide +kernel
theorem dX3_add_31 : decode cX3_add 31 = .ok (.aload_n 0, 1) := by decide +kernel
theorem dX3_add_32 : decode cX3_add 32 = .ok (.getfield 22, 3) := by decide +kernel
theorem dX3_add_35 : decode cX3_add 35 = .ok (.aload_n 0, 1) := by decide +kernel
theorem dX3_add_36 : decode cX3_add 36 = .ok (.getfield 9, 3) := by decide +kernel
theorem dX3_add_39 : decode cX3_add 39 = .ok (.iload_n 3, 1) := by decide +kernel
theorem dX3_add_40 : decode cX3_add 40 = .ok (.iastore, 1) := by decide +kernel
theorem dX3_add_41 : decode cX3_add 41 = .ok (.aload_n 0, 1) := by decide +kernel
theorem dX3_add_42 : decode cX3_add 42 = .ok (.dup, 1) := by decide +kernel
theorem dX3_add_43 : decode cX3_add 43 = .ok (.getfield 9, 3) := by decide +kernel
theorem dX3_add_46 : decode cX3_add 46 = .ok (.iconst 1, 1) := by decide +kernel
theorem dX3_add_47 : decode cX3_add 47 = .ok (.iadd, 1) := by decide +kernel
theorem dX3_add_48 : decode cX3_add 48 = .ok (.putfield 9, 3) := by decide +kernel
theorem dX3_add_51 : decode cX3_add 51 = .ok (.return_, 1) := by decide +kernel
theorem dX3_lastBuyerOf_0 : decode cX3_lastBuyerOf 0 = .ok (.iconst (-1), 1) := by decide +kernel
theorem dX3_lastBuyerOf_1 : decode cX3_lastBuyerOf 1 = .ok (.istore_n 2, 1) := by decide +kernel
theorem dX3_lastBuyerOf_2 : decode cX3_lastBuyerOf 2 = .ok (.iconst 0, 1) := by decide +kernel
theorem dX3_lastBuyerOf_3 : decode cX3_lastBuyerOf 3 = .ok (.istore_n 3, 1) := by decide +kernel
theorem dX3_lastBuyerOf_4 : decode cX3_lastBuyerOf 4 = .ok (.iload_n 3, 1) := by decide +kernel
theorem dX3_lastBuyerOf_5 : decode cX3_lastBuyerOf 5 = .ok (.aload_n 0, 1) := by decide +kernel
theorem dX3_lastBuyerOf_6 : decode cX3_lastBuyerOf 6 = .ok (.getfield 9, 3) := by decide +kernel
theorem dX3_lastBuyerOf_9 : decode cX3_lastBuyerOf 9 = .ok (.if_icmp .ge 43, 3) := by decide +kernel
theorem dX3_lastBuyerOf_12 : decode cX3_lastBuyerOf 12 = .ok (.aload_n 0, 1) := by decide +kernel
theorem dX3_lastBuyerOf_13 : decode cX3_lastBuyerOf 13 = .ok (.getfield 15, 3) := by decide +kernel
theorem dX3_lastBuyerOf_16 : decode cX3_lastBuyerOf 16 = .ok (.iload_n 3, 1) := by decide +kernel
theorem dX3_lastBuyerOf_17 : decode cX3_lastBuyerOf 17 = .ok (.iaload, 1) := by decide +kernel
theorem dX3_lastBuyerOf_18 : decode cX3_lastBuyerOf 18 = .ok (.iload_n 1, 1) := by decide +kernel
theorem dX3_lastBuyerOf_19 : decode cX3_lastBuyerOf 19 = .ok (.if_icmp .gt 27, 3) := by decide +kernel
theorem dX3_lastBuyerOf_22 : decode cX3_lastBuyerOf 22 = .ok (.iload_n 1, 1) := by decide +kernel
theorem dX3_lastBuyerOf_23 : decode cX3_lastBuyerOf 23 = .ok (.aload_n 0, 1) := by decide +kernel
theorem dX3_lastBuyerOf_24 : decode cX3_lastBuyerOf 24 = .ok (.getfield 15, 3) := by decide +kernel
theorem dX3_lastBuyerOf_27 : decode cX3_lastBuyerOf 27 = .ok (.iload_n 3, 1) := by decide +kernel
theorem dX3_lastBuyerOf_28 : decode cX3_lastBuyerOf 28 = .ok (.iaload, 1) := by decide +kernel
theorem dX3_lastBuyerOf_29 : decode cX3_lastBuyerOf 29 = .ok (.aload_n 0, 1) := by decide +kernel
theorem dX3_lastBuyerOf_30 : decode cX3_lastBuyerOf 30 = .ok (.getfield 19, 3) := by decide +kernel
theorem dX3_lastBuyerOf_33 : decode cX3_lastBuyerOf 33 = .ok (.iload_n 3, 1) := by decide +kernel
theorem dX3_lastBuyerOf_34 : decode cX3_lastBuyerOf 34 = .ok (.iaload, 1) := by decide +kernel
theorem dX3_lastBuyerOf_35 : decode cX3_lastBuyerOf 35 = .ok (.iadd, 1) := by decide +kernel
theorem dX3_lastBuyerOf_36 : decode cX3_lastBuyerOf 36 = .ok (.if_icmp .ge 10, 3) := by decide +kernel
theorem dX3_lastBuyerOf_39 : decode cX3_lastBuyerOf 39 = .ok (.aload_n 0, 1) := by decide +kernel
theorem dX3_lastBuyerOf_40 : decode cX3_lastBuyerOf 40 = .ok (.getfield 22, 3) := by decide +kernel
theorem dX3_lastBuyerOf_43 : decode cX3_lastBuyerOf 43 = .ok (.iload_n 3, 1) := by decide +kernel
theorem dX3_lastBuyerOf_44 : decode cX3_lastBuyerOf 44 = .ok (.iaload, 1) := by decide +kernel
theorem dX3_lastBuyerOf_45 : decode cX3_lastBuyerOf 45 = .ok (.istore_n 2, 1) := by decide +kernel
theorem dX3_lastBuyerOf_46 : decode cX3_lastBuyerOf 46 = .ok (.iinc 3 1, 3) := by decide +kernel
theorem dX3_lastBuyerOf_49 : decode cX3_lastBuyerOf 49 = .ok (.goto (-45), 3) := by decide +kernel
theorem dX3_lastBuyerOf_52 : decode cX3_lastBuyerOf 52 = .ok (.iload_n 2, 1) := by decide +kernel
theorem dX3_lastBuyerOf_53 : decode cX3_lastBuyerOf 53 = .ok (.ireturn, 1) := by decide +kernel
theorem dX4_init_0 : decode cX4_init 0 = .ok (.aload_n 0, 1) := by decide +kernel
theorem dX4_init_1 : decode cX4_init 1 = .ok (.invokespecial 3, 3) := by decide +kernel
theorem dX4_init_4 : decode cX4_init 4 = .ok (.aload_n 0, 1) := by decide +kernel
theorem dX4_init_5 : decode cX4_init 5 = .ok (.bipush 60, 2) := by decide +kernel
theorem dX4_init_7 : decode cX4_init 7 = .ok (.newarray .boolean, 2) := by decide +kernel
theorem dX4_init_9 : decode cX4_init 9 = .ok (.putfield 9, 3) := by decide +kernel
theorem dX4_init_12 : decode cX4_init 12 = .ok (.aload_n 0, 1) := by decide +kernel
theorem dX4_init_13 : decode cX4_init 13 = .ok (.bipush 60, 2) := by decide +kernel
theorem dX4_init_15 : decode cX4_init 15 = .ok (.newarray .boolean, 2) := by decide +kernel
theorem dX4_init_17 : decode cX4_init 17 = .ok (.putfield 15, 3) := by decide +kernel
theorem dX4_init_20 : decode cX4_init 20 = .ok (.aload_n 0, 1) := by decide +kernel
theorem dX4_init_21 : decode cX4_init 21 = .ok (.bipush 60, 2) := by decide +kernel
theorem dX4_init_23 : decode cX4_init 23 = .ok (.newarray .int, 2) := by decide +kernel
theorem dX4_init_25 : decode cX4_init 25 = .ok (.putfield 18, 3) := by decide +kernel
theorem dX4_init_28 : decode cX4_init 28 = .ok (.aload_n 0, 1) := by decide +kernel
theorem dX4_init_29 : decode cX4_init 29 = .ok (.bipush 60, 2) := by decide +kernel
theorem dX4_init_31 : decode cX4_init 31 = .ok (.newarray .int, 2) := by decide +kernel
theorem dX4_init_33 : decode cX4_init 33 = .ok (.putfield 22, 3) := by decide +kernel
theorem dX4_init_36 : decode cX4_init 36 = .ok (.aload_n 0, 1) := by decide +kernel
theorem dX4_init_37 : decode cX4_init 37 = .ok (.bipush 60, 2) := by decide +kernel
theorem dX4_init_39 : decode cX4_init 39 = .ok (.newarray .int, 2) := by decide +kernel
theorem dX4_init_41 : decode cX4_init 41 = .ok (.putfield 25, 3) := by decide +kernel
theorem dX4_init_44 : decode cX4_init 44 = .ok (.iconst 0, 1) := by decide +kernel
theorem dX4_init_45 : decode cX4_init 45 = .ok (.istore_n 1, 1) := by decide +kernel
theorem dX4_init_46 : decode cX4_init 46 = .ok (.iload_n 1, 1) := by decide +kernel
theorem dX4_init_47 : decode cX4_init 47 = .ok (.bipush 60, 2) := by decide +kernel
theorem dX4_init_49 : decode cX4_init 49 = .ok (.if_icmp .ge 32, 3) := by decide +kernel
theorem dX4_init_52 : decode cX4_init 52 = .ok (.aload_n 0, 1) := by decide +kernel
theorem dX4_init_53 : decode cX4_init 53 = .ok (.getfield 18, 3) := by decide +kernel
theorem dX4_init_56 : decode cX4_init 56 = .ok (.iload_n 1, 1) := by decide +kernel
theorem dX4_init_57 : decode cX4_init 57 = .ok (.iconst (-1), 1) := by decide +kernel
theorem dX4_init_58 : decode cX4_init 58 = .ok (.iastore, 1) := by decide +kernel
theorem dX4_init_59 : decode cX4_init 59 = .ok (.aload_n 0, 1) := by decide +kernel
theorem dX4_init_60 : decode cX4_init 60 = .ok (.getfield 22, 3) := by decide +kernel
theorem dX4_init_63 : decode cX4_init 63 = .ok (.iload_n 1, 1) := by decide +kernel
theorem dX4_init_64 : decode cX4_init 64 = .ok (.bipush 100, 2) := by decide +kernel
theorem dX4_init_66 : decode cX4_init 66 = .ok (.bipush 10, 2) := by decide +kernel
theorem dX4_init_68 : decode cX4_init 68 = .ok (.iload_n 1, 1) := by decide +kernel
theorem dX4_init_69 : decode cX4_init 69 = .ok (.bipush 10, 2) := by decide +kernel
theorem dX4_init_71 : decode cX4_init 71 = .ok (.idiv, 1) := by decide +kernel
theorem dX4_init_72 : decode cX4_init 72 = .ok (.imul, 1) := by decide +kernel
theorem dX4_init_73 : decode cX4_init 73 = .ok (.isub, 1) := by decide +kernel
theorem dX4_init_74 : decode cX4_init 74 = .ok (.iastore, 1) := by decide +kernel
theorem dX4_init_75 : decode cX4_init 75 = .ok (.iinc 1 1, 3) := by decide +kernel
theorem dX4_init_78 : decode cX4_init 78 = .ok (.goto (-32), 3) := by decide +kernel
theorem dX4_init_81 : decode cX4_init 81 = .ok (.return_, 1) := by decide +kernel
theorem dX4_stateOf_0 : decode cX4_stateOf 0 = .ok (.aload_n 0, 1) := by decide +kernel
theorem dX4_stateOf_1 : decode cX4_stateOf 1 = .ok (.getfield 9, 3) := by decide +kernel
theorem dX4_stateOf_4 : decode cX4_stateOf 4 = .ok (.iload_n 1, 1) := by decide +kernel
theorem dX4_stateOf_5 : decode cX4_stateOf 5 = .ok (.baload, 1) := by decide +kernel
theorem dX4_stateOf_6 : decode cX4_stateOf 6 = .ok (.ifCond .eq 5, 3) := by decide +kernel
theorem dX4_stateOf_9 : decode cX4_stateOf 9 = .ok (.iconst 1, 1) := by decide +kernel
theorem dX4_stateOf_10 : decode cX4_stateOf 10 = .ok (.ireturn, 1) := by decide +kernel
theorem dX4_stateOf_11 : decode cX4_stateOf 11 = .ok (.aload_n 0, 1) := by decide +kernel
theorem dX4_stateOf_12 : decode cX4_stateOf 12 = .ok (.getfield 18, 3) := by decide +kernel
theorem dX4_stateOf_15 : decode cX4_stateOf 15 = .ok (.iload_n 1, 1) := by decide +kernel
theorem dX4_stateOf_16 : decode cX4_stateOf 16 = .ok (.iaload, 1) := by decide +kernel
theorem dX4_stateOf_17 : decode cX4_stateOf 17 = .ok (.iconst (-1), 1) := by decide +kernel
theorem dX4_stateOf_18 : decode cX4_stateOf 18 = .ok (.if_icmp .ne 5, 3) := by decide +kernel
theorem dX4_stateOf_21 : decode cX4_stateOf 21 = .ok (.iconst 0, 1) := by decide +kernel
theorem dX4_stateOf_22 : decode cX4_stateOf 22 = .ok (.ireturn, 1) := by decide +kernel
theorem dX4_stateOf_23 : decode cX4_stateOf 23 = .ok (.aload_n 0, 1) := by decide +kernel
theorem dX4_stateOf_24 : decode cX4_stateOf 24 = .ok (.getfield 15, 3) := by decide +kernel
theorem dX4_stateOf_27 : decode cX4_stateOf 27 = .ok (.iload_n 1, 1) := by decide +kernel
theorem dX4_stateOf_28 : decode cX4_stateOf 28 = .ok (.baload, 1) := by decide +kernel
theorem dX4_stateOf_29 : decode cX4_stateOf 29 = .ok (.ifCond .eq 7, 3) := by decide +kernel
theorem dX4_stateOf_32 : decode cX4_stateOf 32 = .ok (.iconst 3, 1) := by decide +kernel
theorem dX4_stateOf_33 : decode cX4_stateOf 33 = .ok (.goto 4, 3) := by decide +kernel
theorem dX4_stateOf_36 : decode cX4_stateOf 36 = .ok (.iconst 2, 1) := by decide +kernel
theorem dX4_stateOf_37 : decode cX4_stateOf 37 = .ok (.ireturn, 1) := by decide +kernel
set_option maxRecDepth 20000 in
theorem ggX4_isOpen_X4_stateOf : GoodIn wsX4_isOpen wsX4_stateOf := goodIn_r _ [5, 6, 7, 8, 9, 10, 11, 12, 13] (by decide +kernel) (by decide +kernel)
set_option maxRecDepth 20000 in
theorem gX4_isOpen_X4_stateOf : GoodIn wsX4_isOpen (wsV RX4 28 RX4 yX4_stateOf wsX4_stateOf) := goodIn_app (goodIn_of _ (by decide +kernel)) ggX4_isOpen_X4_stateOf
theorem dX4_isOpen_0 : decode cX4_isOpen 0 = .ok (.iload_n 2, 1) := by decide +kernel
theorem dX4_isOpen_1 : decode cX4_isOpen 1 = .ok (.ifCond .lt 9, 3) := by decide +kernel
theorem dX4_isOpen_4 : decode cX4_isOpen 4 = .ok (.iload_n 2, 1) := by decide +kernel
theorem dX4_isOpen_5 : decode cX4_isOpen 5 = .ok (.bipush 10, 2) := by decide +kernel
theorem dX4_isOpen_7 : decode cX4_isOpen 7 = .ok (.if_icmp .lt 5, 3) := by decide +kernel
theorem dX4_isOpen_10 : decode cX4_isOpen 10 = .ok (.iconst 0, 1) := by decide +kernel
theorem dX4_isOpen_11 : decode cX4_isOpen 11 = .ok (.ireturn, 1) := by decide +kernel
theorem dX4_isOpen_12 : decode cX4_isOpen 12 = .ok (.aload_n 0, 1) := by decide +kernel
theorem dX4_isOpen_13 : decode cX4_isOpen 13 = .ok (.bipush 10, 2) := by decide +kernel
theorem dX4_isOpen_15 : decode cX4_isOpen 15 = .ok (.iload_n 1, 1) := by decide +kernel
theorem dX4_isOpen_16 : decode cX4_isOpen 16 = .ok (.imul, 1) := by decide +kernel
theorem dX4_isOpen_17 : decode cX4_isOpen 17 = .ok (.iload_n 2, 1) := by decide +kernel
theorem dX4_isOpen_18 : decode cX4_isOpen 18 = .ok (.iadd, 1) := by decide +kernel
theorem dX4_isOpen_19 : decode cX4_isOpen 19 = .ok (.invokevirtual 28, 3) := by decide +kernel
theorem dX4_isOpen_22 : decode cX4_isOpen 22 = .ok (.istore_n 3, 1) := by decide +kernel
theorem dX4_isOpen_23 : decode cX4_isOpen 23 = .ok (.iload_n 3, 1) := by decide +kernel
theorem dX4_isOpen_24 : decode cX4_isOpen 24 = .ok (.ifCond .eq 8, 3) := by decide +kernel
theorem dX4_isOpen_27 : decode cX4_isOpen 27 = .ok (.iload_n 3, 1) := by decide +kernel
theorem dX4_isOpen_28 : decode cX4_isOpen 28 = .ok (.iconst 3, 1) := by decide +kernel
theorem dX4_isOpen_29 : decode cX4_isOpen 29 = .ok (.if_icmp .ne 7, 3) := by decide +kernel
theorem dX4_isOpen_32 : decode cX4_isOpen 32 = .ok (.iconst 1, 1) := by decide +kernel
theorem dX4_isOpen_33 : decode cX4_isOpen 33 = .ok (.goto 4, 3) := by decide +kernel
theorem dX4_isOpen_36 : decode cX4_isOpen 36 = .ok (.iconst 0, 1) := by decide +kernel
theorem dX4_isOpen_37 : decode cX4_isOpen 37 = .ok (.ireturn, 1) := by decide +kernel
set_option maxRecDepth 20000 in
theorem ggX4_leavesSingle_X4_isOpen : GoodIn wsX4_leavesSingle wsX4_isOpen := goodIn_r _ [5, 6, 7, 8, 4, 9, 10, 11, 12, 13, 14, 15, 16, 17] (by decide +kernel) (by decide +kernel)
set_option maxRecDepth 20000 in
theorem gX4_leavesSingle_X4_isOpen : GoodIn wsX4_leavesSingle (wsV RX4 32 RX4 yX4_isOpen wsX4_isOpen) := goodIn_app (goodIn_of _ (by decide +kernel)) ggX4_leavesSingle_X4_isOpen
theorem dX4_leavesSingle_0 : decode cX4_leavesSingle 0 = .ok (.iload_n 2, 1) := by decide +kernel
theorem dX4_leavesSingle_1 : decode cX4_leavesSingle 1 = .ok (.iload_n 3, 1) := by decide +kernel
theorem dX4_leavesSingle_2 : decode cX4_leavesSingle 2 = .ok (.iadd, 1) := by decide +kernel
theorem dX4_leavesSingle_3 : decode cX4_leavesSingle 3 = .ok (.istore 4, 2) := by decide +kernel
theorem dX4_leavesSingle_5 : decode cX4_leavesSingle 5 = .ok (.aload_n 0, 1) := by decide +kernel
theorem dX4_leavesSingle_6 : decode cX4_leavesSingle 6 = .ok (.iload_n 1, 1) := by decide +kernel
theorem dX4_leavesSingle_7 : decode cX4_leavesSingle 7 = .ok (.iload_n 2, 1) := by decide +kernel
theorem dX4_leavesSingle_8 : decode cX4_leavesSingle 8 = .ok (.iconst 1, 1) := by decide +kernel
theorem dX4_leavesSingle_9 : decode cX4_leavesSingle 9 = .ok (.isub, 1) := by decide +kernel
theorem dX4_leavesSingle_10 : decode cX4_leavesSingle 10 = .ok (.invokevirtual 32, 3) := by decide +kernel
theorem dX4_leavesSingle_13 : decode cX4_leavesSingle 13 = .ok (.ifCond .eq 14, 3) := by decide +kernel
theorem dX4_leavesSingle_16 : decode cX4_leavesSingle 16 = .ok (.aload_n 0, 1) := by decide +kernel
theorem dX4_leavesSingle_17 : decode cX4_leavesSingle 17 = .ok (.iload_n 1, 1) := by decide +kernel
theorem dX4_leavesSingle_18 : decode cX4_leavesSingle 18 = .ok (.iload_n 2, 1) := by decide +kernel
theorem dX4_leavesSingle_19 : decode cX4_leavesSingle 19 = .ok (.iconst 2, 1) := by decide +kernel
theorem dX4_leavesSingle_20 : decode cX4_leavesSingle 20 = .ok (.isub, 1) := by decide +kernel
theorem dX4_leavesSingle_21 : decode cX4_leavesSingle 21 = .ok (.invokevirtual 32, 3) := by decide +kernel
theorem dX4_leavesSingle_24 : decode cX4_leavesSingle 24 = .ok (.ifCond .eq 25, 3) := by decide +kernel
theorem dX4_leavesSingle_27 : decode cX4_leavesSingle 27 = .ok (.aload_n 0, 1) := by decide +kernel
theorem dX4_leavesSingle_28 : decode cX4_leavesSingle 28 = .ok (.iload_n 1, 1) := by decide +kernel
theorem dX4_leavesSingle_29 : decode cX4_leavesSingle 29 = .ok (.iload 4, 2) := by decide +kernel
theorem dX4_leavesSingle_31 : decode cX4_leavesSingle 31 = .ok (.invokevirtual 32, 3) := by decide +kernel
theorem dX4_leavesSingle_34 : decode cX4_leavesSingle 34 = .ok (.ifCond .eq 19, 3) := by decide +kernel
theorem dX4_leavesSingle_37 : decode cX4_leavesSingle 37 = .ok (.aload_n 0, 1) := by decide +kernel
theorem dX4_leavesSingle_38 : decode cX4_leavesSingle 38 = .ok (.iload_n 1, 1) := by decide +kernel
theorem dX4_leavesSingle_39 : decode cX4_leavesSingle 39 = .ok (.iload 4, 2) := by decide +kernel
theorem dX4_leavesSingle_41 : decode cX4_leavesSingle 41 = .ok (.iconst 1, 1) := by decide +kernel
theorem dX4_leavesSingle_42 : decode cX4_leavesSingle 42 = .ok (.iadd, 1) := by decide +kernel
theorem dX4_leavesSingle_43 : decode cX4_leavesSingle 43 = .ok (.invokevirtual 32, 3) := by decide +kernel
theorem dX4_leavesSingle_46 : decode cX4_leavesSingle 46 = .ok (.ifCond .ne 7, 3) := by decide +kernel
theorem dX4_leavesSingle_49 : decode cX4_leavesSingle 49 = .ok (.iconst 1, 1) := by decide +kernel
theorem dX4_leavesSingle_50 : decode cX4_leavesSingle 50 = .ok (.goto 4, 3) := by decide +kernel
theorem dX4_leavesSingle_53 : decode cX4_leavesSingle 53 = .ok (.iconst 0, 1) := by decide +kernel
theorem dX4_leavesSingle_54 : decode cX4_leavesSingle 54 = .ok (.ireturn, 1) := by decide +kernel
theorem dX4_lock_0 : decode cX4_lock 0 = .ok (.iconst 0, 1) := by decide +kernel
theorem dX4_lock_1 : decode cX4_lock 1 = .ok (.istore_n 3, 1) := by decide +kernel
theorem dX4_lock_2 : decode cX4_lock 2 = .ok (.iload_n 1, 1) := by decide +kernel
theorem dX4_lock_3 : decode cX4_lock 3 = .ok (.istore 4, 2) := by decide +kernel
theorem dX4_lock_5 : decode cX4_lock 5 = .ok (.iload 4, 2) := by decide +kernel
theorem dX4_lock_7 : decode cX4_lock 7 = .ok (.iload_n 1, 1) := by decide +kernel
theorem dX4_lock_8 : decode cX4_lock 8 = .ok (.iload_n 2, 1) := by decide +kernel
theorem dX4_lock_9 : decode cX4_lock 9 = .ok (.iadd, 1) := by decide +kernel
theorem dX4_lock_10 : decode cX4_lock 10 = .ok (.if_icmp .ge 27, 3) := by decide +kernel
theorem dX4_lock_13 : decode cX4_lock 13 = .ok (.aload_n 0, 1) := by decide +kernel
theorem dX4_lock_14 : decode cX4_lock 14 = .ok (.getfield 9, 3) := by decide +kernel
theorem dX4_lock_17 : decode cX4_lock 17 = .ok (.iload 4, 2) := by decide +kernel
theorem dX4_lock_19 : decode cX4_lock 19 = .ok (.iconst 1, 1) := by decide +kernel
theorem dX4_lock_20 : decode cX4_lock 20 = .ok (.bastore, 1) := by decide +kernel
theorem dX4_lock_21 : decode cX4_lock 21 = .ok (.iload_n 3, 1) := by decide +kernel
theorem dX4_lock_22 : decode cX4_lock 22 = .ok (.aload_n 0, 1) := by decide +kernel
theorem dX4_lock_23 : decode cX4_lock 23 = .ok (.getfield 22, 3) := by decide +kernel
theorem dX4_lock_26 : decode cX4_lock 26 = .ok (.iload 4, 2) := by decide +kernel
theorem dX4_lock_28 : decode cX4_lock 28 = .ok (.iaload, 1) := by decide +kernel
theorem dX4_lock_29 : decode cX4_lock 29 = .ok (.iadd, 1) := by decide +kernel
theorem dX4_lock_30 : decode cX4_lock 30 = .ok (.istore_n 3, 1) := by decide +kernel
theorem dX4_lock_31 : decode cX4_lock 31 = .ok (.iinc 4 1, 3) := by decide +kernel
theorem dX4_lock_34 : decode cX4_lock 34 = .ok (.goto (-29), 3) := by decide +kernel
theorem dX4_lock_37 : decode cX4_lock 37 = .ok (.iload_n 3, 1) := by decide +kernel
theorem dX4_lock_38 : decode cX4_lock 38 = .ok (.ireturn, 1) := by decide +kernel
theorem dX4_unlock_0 : decode cX4_unlock 0 = .ok (.iload_n 1, 1) := by decide +kernel
theorem dX4_unlock_1 : decode cX4_unlock 1 = .ok (.istore_n 3, 1) := by decide +kernel
theorem dX4_unlock_2 : decode cX4_unlock 2 = .ok (.iload_n 3, 1) := by decide +kernel
theorem dX4_unlock_3 : decode cX4_unlock 3 = .ok (.iload_n 1, 1) := by decide +kernel
theorem dX4_unlock_4 : decode cX4_unlock 4 = .ok (.iload_n 2, 1) := by decide +kernel
theorem dX4_unlock_5 : decode cX4_unlock 5 = .ok (.iadd, 1) := by decide +kernel
theorem dX4_unlock_6 : decode cX4_unlock 6 = .ok (.if_icmp .ge 16, 3) := by decide +kernel
theorem dX4_unlock_9 : decode cX4_unlock 9 = .ok (.aload_n 0, 1) := by decide +kernel
theorem dX4_unlock_10 : decode cX4_unlock 10 = .ok (.getfield 9, 3) := by decide +kernel
theorem dX4_unlock_13 : decode cX4_unlock 13 = .ok (.iload_n 3, 1) := by decide +kernel
theorem dX4_unlock_14 : decode cX4_unlock 14 = .ok (.iconst 0, 1) := by decide +kernel
theorem dX4_unlock_15 : decode cX4_unlock 15 = .ok (.bastore, 1) := by decide +kernel
theorem dX4_unlock_16 : decode cX4_unlock 16 = .ok (.iinc 3 1, 3) := by decide +kernel
theorem dX4_unlock_19 : decode cX4_unlock 19 = .ok (.goto (-17), 3) := by decide +kernel
theorem dX4_unlock_22 : decode cX4_unlock 22 = .ok (.return_, 1) := by decide +kernel
theorem dX4_giveTo_0 : decode cX4_giveTo 0 = .ok (.aload_n 0, 1) := by decide +kernel
theorem dX4_giveTo_1 : decode cX4_giveTo 1 = .ok (.getfield 9, 3) := by decide +kernel
theorem dX4_giveTo_4 : decode cX4_giveTo 4 = .ok (.iload_n 1, 1) := by decide +kernel
theorem dX4_giveTo_5 : decode cX4_giveTo 5 = .ok (.iconst 0, 1) := by decide +kernel
theorem dX4_giveTo_6 : decode cX4_giveTo 6 = .ok (.bastore, 1) := by decide +kernel
theorem dX4_giveTo_7 : decode cX4_giveTo 7 = .ok (.aload_n 0, 1) := by decide +kernel
theorem dX4_giveTo_8 : decode cX4_giveTo 8 = .ok (.getfield 15, 3) := by decide +kernel
theorem dX4_giveTo_11 : decode cX4_giveTo 11 = .ok (.iload_n 1, 1) := by decide +kernel
theorem dX4_giveTo_12 : decode cX4_giveTo 12 = .ok (.iconst 0, 1) := by decide +kernel
theorem dX4_giveTo_13 : decode cX4_giveTo 13 = .ok (.bastore, 1) := by decide +kernel
theorem dX4_giveTo_14 : decode cX4_giveTo 14 = .ok (.aload_n 0, 1) := by decide +kernel
theorem dX4_giveTo_15 : decode cX4_giveTo 15 = .ok (.getfield 18, 3) := by decide +kernel
theorem dX4_giveTo_18 : decode cX4_giveTo 18 = .ok (.iload_n 1, 1) := by decide +kernel
theorem dX4_giveTo_19 : decode cX4_giveTo 19 = .ok (.iload_n 2, 1) := by decide +kernel
theorem dX4_giveTo_20 : decode cX4_giveTo 20 = .ok (.iastore, 1) := by decide +kernel
theorem dX4_giveTo_21 : decode cX4_giveTo 21 = .ok (.aload_n 0, 1) := by decide +kernel
theorem dX4_giveTo_22 : decode cX4_giveTo 22 = .ok (.getfield 25, 3) := by decide +kernel
theorem dX4_giveTo_25 : decode cX4_giveTo 25 = .ok (.iload_n 1, 1) := by decide +kernel
theorem dX4_giveTo_26 : decode cX4_giveTo 26 = .ok (.aload_n 0, 1) := by decide +kernel
theorem dX4_giveTo_27 : decode cX4_giveTo 27 = .ok (.getfield 22, 3) := by decide +kernel
theorem dX4_giveTo_30 : decode cX4_giveTo 30 = .ok (.iload_n 1, 1) := by decide +kernel
theorem dX4_giveTo_31 : decode cX4_giveTo 31 = .ok (.iaload, 1) := by decide +kernel
theorem dX4_giveTo_32 : decode cX4_giveTo 32 = .ok (.iastore, 1) := by decide +kernel
theorem dX4_giveTo_33 : decode cX4_giveTo 33 = .ok (.return_, 1) := by decide +kernel
theorem dX4_ceilingOf_0 : decode cX4_ceilingOf 0 = .ok (.aload_n 0, 1) := by decide +kernel
theorem dX4_ceilingOf_1 : decode cX4_ceilingOf 1 = .ok (.getfield 25, 3) := by decide +kernel
theorem dX4_ceilingOf_4 : decode cX4_ceilingOf 4 = .ok (.iload_n 1, 1) := by decide +kernel
theorem dX4_ceilingOf_5 : decode cX4_ceilingOf 5 = .ok (.iaload, 1) := by decide +kernel
theorem dX4_ceilingOf_6 : decode cX4_ceilingOf 6 = .ok (.bipush 11, 2) := by decide +kernel
theorem dX4_ceilingOf_8 : decode cX4_ceilingOf 8 = .ok (.imul, 1) := by decide +kernel
theorem dX4_ceilingOf_9 : decode cX4_ceilingOf 9 = .ok (.bipush 10, 2) := by decide +kernel
theorem dX4_ceilingOf_11 : decode cX4_ceilingOf 11 = .ok (.idiv, 1) := by decide +kernel
theorem dX4_ceilingOf_12 : decode cX4_ceilingOf 12 = .ok (.ireturn, 1) := by decide +kernel
theorem dX4_putUp_0 : decode cX4_putUp 0 = .ok (.aload_n 0, 1) := by decide +kernel
theorem dX4_putUp_1 : decode cX4_putUp 1 = .ok (.getfield 15, 3) := by decide +kernel
theorem dX4_putUp_4 : decode cX4_putUp 4 = .ok (.iload_n 1, 1) := by decide +kernel
theorem dX4_putUp_5 : decode cX4_putUp 5 = .ok (.iconst 1, 1) := by decide +kernel
theorem dX4_putUp_6 : decode cX4_putUp 6 = .ok (.bastore, 1) := by decide +kernel
theorem dX4_putUp_7 : decode cX4_putUp 7 = .ok (.aload_n 0, 1) := by decide +kernel
theorem dX4_putUp_8 : decode cX4_putUp 8 = .ok (.getfield 22, 3) := by decide +kernel
theorem dX4_putUp_11 : decode cX4_putUp 11 = .ok (.iload_n 1, 1) := by decide +kernel
theorem dX4_putUp_12 : decode cX4_putUp 12 = .ok (.iload_n 2, 1) := by decide +kernel
theorem dX4_putUp_13 : decode cX4_putUp 13 = .ok (.iastore, 1) := by decide +kernel
theorem dX4_putUp_14 : decode cX4_putUp 14 = .ok (.return_, 1) := by decide +kernel
set_option maxRecDepth 20000 in
theorem ggX5_init_X0_init : GoodIn wsX5_init wsX0_init := goodIn_r _ [30, 31, 2, 3, 32, 7, 33, 34, 35, 75, 76, 77, 78] (by decide +kernel) (by decide +kernel)
set_option maxRecDepth 20000 in
theorem gX5_init_X0_init_n25 : GoodIn wsX5_init (wsX0_init) := ggX5_init_X0_init
set_option maxRecDepth 20000 in
theorem ggX5_init_X2_init : GoodIn wsX5_init wsX2_init := goodIn_r _ [37, 38, 2, 3, 7, 39, 79] (by decide +kernel) (by decide +kernel)
set_option maxRecDepth 20000 in
theorem gX5_init_X2_init_n32 : GoodIn wsX5_init (wsX2_init) := ggX5_init_X2_init
set_option maxRecDepth 20000 in
theorem ggX5_init_X1_init : GoodIn wsX5_init wsX1_init := goodIn_r _ [41, 42, 2, 3, 7, 43, 44, 45, 46, 47, 48, 49, 80, 81, 82, 83, 84, 85, 86] (by decide +kernel) (by decide +kernel)
set_option maxRecDepth 20000 in
theorem gX5_init_X1_init_n39 : GoodIn wsX5_init (wsX1_init) := ggX5_init_X1_init
set_option maxRecDepth 20000 in
theorem ggX5_init_X4_init : GoodIn wsX5_init wsX4_init := goodIn_r _ [51, 52, 2, 3, 53, 54, 55, 7, 56, 57, 58, 87, 88, 89, 90, 91] (by decide +kernel) (by decide +kernel)
set_option maxRecDepth 20000 in
theorem gX5_init_X4_init_n46 : GoodIn wsX5_init (wsX4_init) := ggX5_init_X4_init
set_option maxRecDepth 20000 in
theorem ggX5_init_X3_init : GoodIn wsX5_init wsX3_init := goodIn_r _ [60, 61, 2, 3, 62, 7, 63, 64, 65, 92, 93, 94, 95] (by decide +kernel) (by decide +kernel)
set_option maxRecDepth 20000 in
theorem gX5_init_X3_init_n53 : GoodIn wsX5_init (wsX3_init) := ggX5_init_X3_init
theorem dX5_init_0 : decode cX5_init 0 = .ok (.aload_n 0, 1) := by decide +kernel
theorem dX5_init_1 : decode cX5_init 1 = .ok (.invokespecial 3, 3) := by decide +kernel
theorem dX5_init_4 : decode cX5_init 4 = .ok (.aload_n 0, 1) := by decide +kernel
theorem dX5_init_5 : decode cX5_init 5 = .ok (.iconst 0, 1) := by decide +kernel
theorem dX5_init_6 : decode cX5_init 6 = .ok (.putfield 9, 3) := by decide +kernel
theorem dX5_init_9 : decode cX5_init 9 = .ok (.aload_n 0, 1) := by decide +kernel
theorem dX5_init_10 : decode cX5_init 10 = .ok (.bipush 100, 2) := by decide +kernel
theorem dX5_init_12 : decode cX5_init 12 = .ok (.putfield 13, 3) := by decide +kernel
theorem dX5_init_15 : decode cX5_init 15 = .ok (.aload_n 0, 1) := by decide +kernel
theorem dX5_init_16 : decode cX5_init 16 = .ok (.iconst 0, 1) := by decide +kernel
theorem dX5_init_17 : decode cX5_init 17 = .ok (.putfield 16, 3) := by decide +kernel
theorem dX5_init_20 : decode cX5_init 20 = .ok (.aload_n 0, 1) := by decide +kernel
theorem dX5_init_21 : decode cX5_init 21 = .ok (.bipush 8, 2) := by decide +kernel
theorem dX5_init_23 : decode cX5_init 23 = .ok (.newarray .int, 2) := by decide +kernel
theorem dX5_init_25 : decode cX5_init 25 = .ok (.putfield 19, 3) := by decide +kernel
theorem dX5_init_28 : decode cX5_init 28 = .ok (.aload_n 0, 1) := by decide +kernel
theorem dX5_init_29 : decode cX5_init 29 = .ok (.new 23, 3) := by decide +kernel
theorem dX5_init_32 : decode cX5_init 32 = .ok (.dup, 1) := by decide +kernel
theorem dX5_init_33 : decode cX5_init 33 = .ok (.invokespecial 25, 3) := by decide +kernel
theorem dX5_init_36 : decode cX5_init 36 = .ok (.putfield 26, 3) := by decide +kernel
theorem dX5_init_39 : decode cX5_init 39 = .ok (.aload_n 0, 1) := by decide +kernel
theorem dX5_init_40 : decode cX5_init 40 = .ok (.new 30, 3) := by decide +kernel
theorem dX5_init_43 : decode cX5_init 43 = .ok (.dup, 1) := by decide +kernel
theorem dX5_init_44 : decode cX5_init 44 = .ok (.invokespecial 32, 3) := by decide +kernel
theorem dX5_init_47 : decode cX5_init 47 = .ok (.putfield 33, 3) := by decide +kernel
theorem dX5_init_50 : decode cX5_init 50 = .ok (.aload_n 0, 1) := by decide +kernel
theorem dX5_init_51 : decode cX5_init 51 = .ok (.new 37, 3) := by decide +kernel
theorem dX5_init_54 : decode cX5_init 54 = .ok (.dup, 1) := by decide +kernel
theorem dX5_init_55 : decode cX5_init 55 = .ok (.invokespecial 39, 3) := by decide +kernel
theorem dX5_init_58 : decode cX5_init 58 = .ok (.putfield 40, 3) := by decide +kernel
theorem dX5_init_61 : decode cX5_init 61 = .ok (.aload_n 0, 1) := by decide +kernel
theorem dX5_init_62 : decode cX5_init 62 = .ok (.new 44, 3) := by decide +kernel
theorem dX5_init_65 : decode cX5_init 65 = .ok (.dup, 1) := by decide +kernel
theorem dX5_init_66 : decode cX5_init 66 = .ok (.invokespecial 46, 3) := by decide +kernel
theorem dX5_init_69 : decode cX5_init 69 = .ok (.putfield 47, 3) := by decide +kernel
theorem dX5_init_72 : decode cX5_init 72 = .ok (.aload_n 0, 1) := by decide +kernel
theorem dX5_init_73 : decode cX5_init 73 = .ok (.new 51, 3) := by decide +kernel
theorem dX5_init_76 : decode cX5_init 76 = .ok (.dup, 1) := by decide +kernel
theorem dX5_init_77 : decode cX5_init 77 = .ok (.invokespecial 53, 3) := by decide +kernel
theorem dX5_init_80 : decode cX5_init 80 = .ok (.putfield 54, 3) := by decide +kernel
theorem dX5_init_83 : decode cX5_init 83 = .ok (.return_, 1) := by decide +kernel
set_option maxRecDepth 20000 in
theorem ggX5_pass_X1_isThere : GoodIn wsX5_pass wsX1_isThere := goodIn_r _ [10, 11, 42, 43, 44, 45, 46, 47, 48] (by decide +kernel) (by decide +kernel)
set_option maxRecDepth 20000 in
theorem gX5_pass_X1_isThere_n70 : GoodIn wsX5_pass (wsX1_isThere) := ggX5_pass_X1_isThere
set_option maxRecDepth 20000 in
theorem ggX5_pass_X5_giveBack : GoodIn wsX5_pass wsX5_giveBack := goodIn_r _ [16, 6, 17, 18, 19, 20, 21, 22, 23, 24, 25, 26, 27, 28, 29, 30, 8, 31, 32, 11, 33, 34, 35, 36, 37, 38, 39, 40, 41, 42, 43, 44, 45, 46, 47, 48, 49, 50, 51, 52, 53, 54, 55, 56, 57] (by decide +kernel) (by decide +kernel)
set_option maxRecDepth 20000 in
theorem gX5_pass_X5_giveBack : GoodIn wsX5_pass (wsV RX5 77 RX5 yX5_giveBack wsX5_giveBack) := goodIn_app (goodIn_of _ (by decide +kernel)) ggX5_pass_X5_giveBack
theorem dX5_pass_0 : decode cX5_pass 0 = .ok (.iload_n 1, 1) := by decide +kernel
theorem dX5_pass_1 : decode cX5_pass 1 = .ok (.iconst 1, 1) := by decide +kernel
theorem dX5_pass_2 : decode cX5_pass 2 = .ok (.if_icmp .lt 10, 3) := by decide +kernel
theorem dX5_pass_5 : decode cX5_pass 5 = .ok (.iload_n 1, 1) := by decide +kernel
theorem dX5_pass_6 : decode cX5_pass 6 = .ok (.sipush 500, 3) := by decide +kernel
theorem dX5_pass_9 : decode cX5_pass 9 = .ok (.if_icmp .le 13, 3) := by decide +kernel
theorem dX5_pass_12 : decode cX5_pass 12 = .ok (.new 58, 3) := by decide +kernel
theorem dX5_pass_15 : decode cX5_pass 15 = .ok (.dup, 1) := by decide +kernel
theorem dX5_pass_16 : decode cX5_pass 16 = .ok (.ldc 60, 2) := by decide +kernel
theorem dX5_pass_18 : decode cX5_pass 18 = .ok (.invokespecial 62, 3) := by decide +kernel
theorem dX5_pass_21 : decode cX5_pass 21 = .ok (.athrow, 1) := by decide +kernel
theorem dX5_pass_22 : decode cX5_pass 22 = .ok (.aload_n 0, 1) := by decide +kernel
theorem dX5_pass_23 : decode cX5_pass 23 = .ok (.getfield 9, 3) := by decide +kernel
theorem dX5_pass_26 : decode cX5_pass 26 = .ok (.iload_n 1, 1) := by decide +kernel
theorem dX5_pass_27 : decode cX5_pass 27 = .ok (.iadd, 1) := by decide +kernel
theorem dX5_pass_28 : decode cX5_pass 28 = .ok (.sipush 10000, 3) := by decide +kernel
theorem dX5_pass_31 : decode cX5_pass 31 = .ok (.if_icmp .le 13, 3) := by decide +kernel
theorem dX5_pass_34 : decode cX5_pass 34 = .ok (.new 65, 3) := by decide +kernel
theorem dX5_pass_37 : decode cX5_pass 37 = .ok (.dup, 1) := by decide +kernel
theorem dX5_pass_38 : decode cX5_pass 38 = .ok (.ldc 67, 2) := by decide +kernel
theorem dX5_pass_40 : decode cX5_pass 40 = .ok (.invokespecial 69, 3) := by decide +kernel
theorem dX5_pass_43 : decode cX5_pass 43 = .ok (.athrow, 1) := by decide +kernel
theorem dX5_pass_44 : decode cX5_pass 44 = .ok (.aload_n 0, 1) := by decide +kernel
theorem dX5_pass_45 : decode cX5_pass 45 = .ok (.dup, 1) := by decide +kernel
theorem dX5_pass_46 : decode cX5_pass 46 = .ok (.getfield 9, 3) := by decide +kernel
theorem dX5_pass_49 : decode cX5_pass 49 = .ok (.iload_n 1, 1) := by decide +kernel
theorem dX5_pass_50 : decode cX5_pass 50 = .ok (.iadd, 1) := by decide +kernel
theorem dX5_pass_51 : decode cX5_pass 51 = .ok (.putfield 9, 3) := by decide +kernel
theorem dX5_pass_54 : decode cX5_pass 54 = .ok (.iconst 0, 1) := by decide +kernel
theorem dX5_pass_55 : decode cX5_pass 55 = .ok (.istore_n 2, 1) := by decide +kernel
theorem dX5_pass_56 : decode cX5_pass 56 = .ok (.iconst 0, 1) := by decide +kernel
theorem dX5_pass_57 : decode cX5_pass 57 = .ok (.istore_n 3, 1) := by decide +kernel
theorem dX5_pass_58 : decode cX5_pass 58 = .ok (.iload_n 3, 1) := by decide +kernel
theorem dX5_pass_59 : decode cX5_pass 59 = .ok (.bipush 8, 2) := by decide +kernel
theorem dX5_pass_61 : decode cX5_pass 61 = .ok (.if_icmp .ge 45, 3) := by decide +kernel
theorem dX5_pass_64 : decode cX5_pass 64 = .ok (.aload_n 0, 1) := by decide +kernel
theorem dX5_pass_65 : decode cX5_pass 65 = .ok (.getfield 40, 3) := by decide +kernel
theorem dX5_pass_68 : decode cX5_pass 68 = .ok (.iload_n 3, 1) := by decide +kernel
theorem dX5_pass_69 : decode cX5_pass 69 = .ok (.invokevirtual 70, 3) := by decide +kernel
theorem dX5_pass_72 : decode cX5_pass 72 = .ok (.ifCond .eq 28, 3) := by decide +kernel
theorem dX5_pass_75 : decode cX5_pass 75 = .ok (.aload_n 0, 1) := by decide +kernel
theorem dX5_pass_76 : decode cX5_pass 76 = .ok (.getfield 40, 3) := by decide +kernel
theorem dX5_pass_79 : decode cX5_pass 79 = .ok (.getfield 74, 3) := by decide +kernel
theorem dX5_pass_82 : decode cX5_pass 82 = .ok (.iload_n 3, 1) := by decide +kernel
theorem dX5_pass_83 : decode cX5_pass 83 = .ok (.iaload, 1) := by decide +kernel
theorem dX5_pass_84 : decode cX5_pass 84 = .ok (.aload_n 0, 1) := by decide +kernel
theorem dX5_pass_85 : decode cX5_pass 85 = .ok (.getfield 9, 3) := by decide +kernel
theorem dX5_pass_88 : decode cX5_pass 88 = .ok (.if_icmp .gt 12, 3) := by decide +kernel
theorem dX5_pass_91 : decode cX5_pass 91 = .ok (.aload_n 0, 1) := by decide +kernel
theorem dX5_pass_92 : decode cX5_pass 92 = .ok (.iload_n 3, 1) := by decide +kernel
theorem dX5_pass_93 : decode cX5_pass 93 = .ok (.invokevirtual 77, 3) := by decide +kernel
theorem dX5_pass_96 : decode cX5_pass 96 = .ok (.pop, 1) := by decide +kernel
theorem dX5_pass_97 : decode cX5_pass 97 = .ok (.iinc 2 1, 3) := by decide +kernel
theorem dX5_pass_100 : decode cX5_pass 100 = .ok (.iinc 3 1, 3) := by decide +kernel
theorem dX5_pass_103 : decode cX5_pass 103 = .ok (.goto (-45), 3) := by decide +kernel
theorem dX5_pass_106 : decode cX5_pass 106 = .ok (.iload_n 2, 1) := by decide +kernel
theorem dX5_pass_107 : decode cX5_pass 107 = .ok (.ireturn, 1) := by decide +kernel
theorem dX5_time_0 : decode cX5_time 0 = .ok (.aload_n 0, 1) := by decide +kernel
theorem dX5_time_1 : decode cX5_time 1 = .ok (.getfield 9, 3) := by decide +kernel
theorem dX5_time_4 : decode cX5_time 4 = .ok (.ireturn, 1) := by decide +kernel
theorem dX5_setOpening_0 : decode cX5_setOpening 0 = .ok (.iload_n 1, 1) := by decide +kernel
theorem dX5_setOpening_1 : decode cX5_setOpening 1 = .ok (.ifCond .lt 10, 3) := by decide +kernel
theorem dX5_setOpening_4 : decode cX5_setOpening 4 = .ok (.iload_n 1, 1) := by decide +kernel
theorem dX5_setOpening_5 : decode cX5_setOpening 5 = .ok (.sipush 10000, 3) := by decide +kernel
theorem dX5_setOpening_8 : decode cX5_setOpening 8 = .ok (.if_icmp .le 13, 3) := by decide +kernel
theorem dX5_setOpening_11 : decode cX5_setOpening 11 = .ok (.new 58, 3) := by decide +kernel
theorem dX5_setOpening_14 : decode cX5_setOpening 14 = .ok (.dup, 1) := by decide +kernel
theorem dX5_setOpening_15 : decode cX5_setOpening 15 = .ok (.ldc 81, 2) := by decide +kernel
theorem dX5_setOpening_17 : decode cX5_setOpening 17 = .ok (.invokespecial 62, 3) := by decide +kernel
theorem dX5_setOpening_20 : decode cX5_setOpening 20 = .ok (.athrow, 1) := by decide +kernel
theorem dX5_setOpening_21 : decode cX5_setOpening 21 = .ok (.aload_n 0, 1) := by decide +kernel
theorem dX5_setOpening_22 : decode cX5_setOpening 22 = .ok (.getfield 13, 3) := by decide +kernel
theorem dX5_setOpening_25 : decode cX5_setOpening 25 = .ok (.istore_n 2, 1) := by decide +kernel
theorem dX5_setOpening_26 : decode cX5_setOpening 26 = .ok (.aload_n 0, 1) := by decide +kernel
theorem dX5_setOpening_27 : decode cX5_setOpening 27 = .ok (.iload_n 1, 1) := by decide +kernel
theorem dX5_setOpening_28 : decode cX5_setOpening 28 = .ok (.putfield 13, 3) := by decide +kernel
theorem dX5_setOpening_31 : decode cX5_setOpening 31 = .ok (.iload_n 2, 1) := by decide +kernel
theorem dX5_setOpening_32 : decode cX5_setOpening 32 = .ok (.ireturn, 1) := by decide +kernel
set_option maxRecDepth 20000 in
theorem ggX5_code_X0_add : GoodIn wsX5_code wsX0_add := goodIn_r _ [9, 10, 11, 12, 22, 23, 24, 25] (by decide +kernel) (by decide +kernel)
set_option maxRecDepth 20000 in
theorem gX5_code_X0_add_n92 : GoodIn wsX5_code (wsX0_add) := ggX5_code_X0_add
theorem dX5_code_0 : decode cX5_code 0 = .ok (.iload_n 1, 1) := by decide +kernel
theorem dX5_code_1 : decode cX5_code 1 = .ok (.iconst 1, 1) := by decide +kernel
theorem dX5_code_2 : decode cX5_code 2 = .ok (.if_icmp .lt 9, 3) := by decide +kernel
theorem dX5_code_5 : decode cX5_code 5 = .ok (.iload_n 1, 1) := by decide +kernel
theorem dX5_code_6 : decode cX5_code 6 = .ok (.bipush 10, 2) := by decide +kernel
theorem dX5_code_8 : decode cX5_code 8 = .ok (.if_icmp .le 13, 3) := by decide +kernel
theorem dX5_code_11 : decode cX5_code 11 = .ok (.new 58, 3) := by decide +kernel
theorem dX5_code_14 : decode cX5_code 14 = .ok (.dup, 1) := by decide +kernel
theorem dX5_code_15 : decode cX5_code 15 = .ok (.ldc 83, 2) := by decide +kernel
theorem dX5_code_17 : decode cX5_code 17 = .ok (.invokespecial 62, 3) := by decide +kernel
theorem dX5_code_20 : decode cX5_code 20 = .ok (.athrow, 1) := by decide +kernel
theorem dX5_code_21 : decode cX5_code 21 = .ok (.iload_n 2, 1) := by decide +kernel
theorem dX5_code_22 : decode cX5_code 22 = .ok (.iconst 1, 1) := by decide +kernel
theorem dX5_code_23 : decode cX5_code 23 = .ok (.if_icmp .lt 9, 3) := by decide +kernel
theorem dX5_code_26 : decode cX5_code 26 = .ok (.iload_n 2, 1) := by decide +kernel
theorem dX5_code_27 : decode cX5_code 27 = .ok (.bipush 20, 2) := by decide +kernel
theorem dX5_code_29 : decode cX5_code 29 = .ok (.if_icmp .le 13, 3) := by decide +kernel
theorem dX5_code_32 : decode cX5_code 32 = .ok (.new 58, 3) := by decide +kernel
theorem dX5_code_35 : decode cX5_code 35 = .ok (.dup, 1) := by decide +kernel
theorem dX5_code_36 : decode cX5_code 36 = .ok (.ldc 85, 2) := by decide +kernel
theorem dX5_code_38 : decode cX5_code 38 = .ok (.invokespecial 62, 3) := by decide +kernel
theorem dX5_code_41 : decode cX5_code 41 = .ok (.athrow, 1) := by decide +kernel
theorem dX5_code_42 : decode cX5_code 42 = .ok (.aload_n 0, 1) := by decide +kernel
theorem dX5_code_43 : decode cX5_code 43 = .ok (.getfield 26, 3) := by decide +kernel
theorem dX5_code_46 : decode cX5_code 46 = .ok (.getfield 87, 3) := by decide +kernel
theorem dX5_code_49 : decode cX5_code 49 = .ok (.bipush 10, 2) := by decide +kernel
theorem dX5_code_51 : decode cX5_code 51 = .ok (.if_icmp .lt 13, 3) := by decide +kernel
theorem dX5_code_54 : decode cX5_code 54 = .ok (.new 65, 3) := by decide +kernel
theorem dX5_code_57 : decode cX5_code 57 = .ok (.dup, 1) := by decide +kernel
theorem dX5_code_58 : decode cX5_code 58 = .ok (.ldc 90, 2) := by decide +kernel
theorem dX5_code_60 : decode cX5_code 60 = .ok (.invokespecial 69, 3) := by decide +kernel
theorem dX5_code_63 : decode cX5_code 63 = .ok (.athrow, 1) := by decide +kernel
theorem dX5_code_64 : decode cX5_code 64 = .ok (.aload_n 0, 1) := by decide +kernel
theorem dX5_code_65 : decode cX5_code 65 = .ok (.getfield 26, 3) := by decide +kernel
theorem dX5_code_68 : decode cX5_code 68 = .ok (.iload_n 1, 1) := by decide +kernel
theorem dX5_code_69 : decode cX5_code 69 = .ok (.iload_n 2, 1) := by decide +kernel
theorem dX5_code_70 : decode cX5_code 70 = .ok (.invokevirtual 92, 3) := by decide +kernel
theorem dX5_code_73 : decode cX5_code 73 = .ok (.ireturn, 1) := by decide +kernel
set_option maxRecDepth 20000 in
theorem ggX5_used_X5_needCode : GoodIn wsX5_used wsX5_needCode := goodIn_ca (goodIn_r _ [6, 7, 8, 1, 17, 18, 19, 20, 21, 22, 23, 24, 25, 26, 27, 28, 29] (by decide +kernel) (by decide +kernel)) (goodIn_sub (fun _ h => List.mem_cons_of_mem _ (List.mem_append_right _ h)) (by decide +kernel))
set_option maxRecDepth 20000 in
theorem gX5_used_X5_needCode : GoodIn wsX5_used (wsV RX5 96 RX5 yX5_needCode wsX5_needCode) := goodIn_app (goodIn_of _ (by decide +kernel)) ggX5_used_X5_needCode
set_option maxRecDepth 20000 in
theorem ggX5_used_X5_needPerson : GoodIn wsX5_used wsX5_needPerson := goodIn_ca (goodIn_r _ [11, 7, 8] (by decide +kernel) (by decide +kernel)) (goodIn_sub (fun _ h => List.mem_cons_of_mem _ (List.mem_append_right _ h)) (by decide +kernel))
set_option maxRecDepth 20000 in
theorem gX5_used_X5_needPerson : GoodIn wsX5_used (va_wsS RX5 100 yX5_needPerson wsX5_needPerson) := goodIn_app (goodIn_of _ (by decide +kernel)) ggX5_used_X5_needPerson
set_option maxRecDepth 20000 in
theorem ggX5_used_X0_seatsOf : GoodIn wsX5_used wsX0_seatsOf := goodIn_r _ [15, 16, 26, 27, 28, 29] (by decide +kernel) (by decide +kernel)
set_option maxRecDepth 20000 in
theorem gX5_used_X0_seatsOf_n103 : GoodIn wsX5_used (wsX0_seatsOf) := ggX5_used_X0_seatsOf
theorem dX5_used_0 : decode cX5_used 0 = .ok (.aload_n 0, 1) := by decide +kernel
theorem dX5_used_1 : decode cX5_used 1 = .ok (.iload_n 1, 1) := by decide +kernel
theorem dX5_used_2 : decode cX5_used 2 = .ok (.invokevirtual 96, 3) := by decide +kernel
theorem dX5_used_5 : decode cX5_used 5 = .ok (.iload_n 2, 1) := by decide +kernel
theorem dX5_used_6 : decode cX5_used 6 = .ok (.invokestatic 100, 3) := by decide +kernel
theorem dX5_used_9 : decode cX5_used 9 = .ok (.aload_n 0, 1) := by decide +kernel
theorem dX5_used_10 : decode cX5_used 10 = .ok (.getfield 26, 3) := by decide +kernel
theorem dX5_used_13 : decode cX5_used 13 = .ok (.iload_n 1, 1) := by decide +kernel
theorem dX5_used_14 : decode cX5_used 14 = .ok (.iload_n 2, 1) := by decide +kernel
theorem dX5_used_15 : decode cX5_used 15 = .ok (.invokevirtual 103, 3) := by decide +kernel
theorem dX5_used_18 : decode cX5_used 18 = .ok (.ireturn, 1) := by decide +kernel
set_option maxRecDepth 20000 in
theorem ggX5_join_X5_needPerson : GoodIn wsX5_join wsX5_needPerson := goodIn_ca (goodIn_r _ [9, 10, 11] (by decide +kernel) (by decide +kernel)) (goodIn_sub (fun _ h => List.mem_cons_of_mem _ (List.mem_append_right _ h)) (by decide +kernel))
set_option maxRecDepth 20000 in
theorem gX5_join_X5_needPerson : GoodIn wsX5_join (va_wsS RX5 100 yX5_needPerson wsX5_needPerson) := goodIn_app (goodIn_of _ (by decide +kernel)) ggX5_join_X5_needPerson
set_option maxRecDepth 20000 in
theorem ggX5_join_X2_isIn : GoodIn wsX5_join wsX2_isIn := goodIn_r _ [15, 16, 38] (by decide +kernel) (by decide +kernel)
set_option maxRecDepth 20000 in
theorem gX5_join_X2_isIn_n106 : GoodIn wsX5_join (wsX2_isIn) := ggX5_join_X2_isIn
set_option maxRecDepth 20000 in
theorem ggX5_join_X1_isThere : GoodIn wsX5_join wsX1_isThere := goodIn_r _ [20, 21, 39, 40, 41, 42, 43, 44, 45] (by decide +kernel) (by decide +kernel)
set_option maxRecDepth 20000 in
theorem gX5_join_X1_isThere_n70 : GoodIn wsX5_join (wsX1_isThere) := ggX5_join_X1_isThere
set_option maxRecDepth 20000 in
theorem ggX5_join_X2_enter : GoodIn wsX5_join wsX2_enter := goodIn_r _ [24, 16, 38] (by decide +kernel) (by decide +kernel)
set_option maxRecDepth 20000 in
theorem gX5_join_X2_enter_n113 : GoodIn wsX5_join (wsX2_enter) := ggX5_join_X2_enter
set_option maxRecDepth 20000 in
theorem ggX5_join_X2_length : GoodIn wsX5_join wsX2_length := goodIn_r _ [27, 28, 12, 14, 13, 15, 16, 38] (by decide +kernel) (by decide +kernel)
set_option maxRecDepth 20000 in
theorem gX5_join_X2_length_n117 : GoodIn wsX5_join (wsX2_length) := ggX5_join_X2_length
theorem dX5_join_0 : decode cX5_join 0 = .ok (.iload_n 1, 1) := by decide +kernel
theorem dX5_join_1 : decode cX5_join 1 = .ok (.invokestatic 100, 3) := by decide +kernel
theorem dX5_join_4 : decode cX5_join 4 = .ok (.aload_n 0, 1) := by decide +kernel
theorem dX5_join_5 : decode cX5_join 5 = .ok (.getfield 33, 3) := by decide +kernel
theorem dX5_join_8 : decode cX5_join 8 = .ok (.iload_n 1, 1) := by decide +kernel
theorem dX5_join_9 : decode cX5_join 9 = .ok (.invokevirtual 106, 3) := by decide +kernel
theorem dX5_join_12 : decode cX5_join 12 = .ok (.ifCond .eq 13, 3) := by decide +kernel
theorem dX5_join_15 : decode cX5_join 15 = .ok (.new 65, 3) := by decide +kernel
theorem dX5_join_18 : decode cX5_join 18 = .ok (.dup, 1) := by decide +kernel
theorem dX5_join_19 : decode cX5_join 19 = .ok (.ldc 109, 2) := by decide +kernel
theorem dX5_join_21 : decode cX5_join 21 = .ok (.invokespecial 69, 3) := by decide +kernel
theorem dX5_join_24 : decode cX5_join 24 = .ok (.athrow, 1) := by decide +kernel
theorem dX5_join_25 : decode cX5_join 25 = .ok (.aload_n 0, 1) := by decide +kernel
theorem dX5_join_26 : decode cX5_join 26 = .ok (.getfield 40, 3) := by decide +kernel
theorem dX5_join_29 : decode cX5_join 29 = .ok (.iload_n 1, 1) := by decide +kernel
theorem dX5_join_30 : decode cX5_join 30 = .ok (.invokevirtual 70, 3) := by decide +kernel
theorem dX5_join_33 : decode cX5_join 33 = .ok (.ifCond .eq 13, 3) := by decide +kernel
theorem dX5_join_36 : decode cX5_join 36 = .ok (.new 65, 3) := by decide +kernel
theorem dX5_join_39 : decode cX5_join 39 = .ok (.dup, 1) := by decide +kernel
theorem dX5_join_40 : decode cX5_join 40 = .ok (.ldc 111, 2) := by decide +kernel
theorem dX5_join_42 : decode cX5_join 42 = .ok (.invokespecial 69, 3) := by decide +kernel
theorem dX5_join_45 : decode cX5_join 45 = .ok (.athrow, 1) := by decide +kernel
theorem dX5_join_46 : decode cX5_join 46 = .ok (.aload_n 0, 1) := by decide +kernel
theorem dX5_join_47 : decode cX5_join 47 = .ok (.getfield 33, 3) := by decide +kernel
theorem dX5_join_50 : decode cX5_join 50 = .ok (.iload_n 1, 1) := by decide +kernel
theorem dX5_join_51 : decode cX5_join 51 = .ok (.aload_n 0, 1) := by decide +kernel
theorem dX5_join_52 : decode cX5_join 52 = .ok (.getfield 9, 3) := by decide +kernel
theorem dX5_join_55 : decode cX5_join 55 = .ok (.invokevirtual 113, 3) := by decide +kernel
theorem dX5_join_58 : decode cX5_join 58 = .ok (.aload_n 0, 1) := by decide +kernel
theorem dX5_join_59 : decode cX5_join 59 = .ok (.getfield 33, 3) := by decide +kernel
theorem dX5_join_62 : decode cX5_join 62 = .ok (.invokevirtual 117, 3) := by decide +kernel
theorem dX5_join_65 : decode cX5_join 65 = .ok (.ireturn, 1) := by decide +kernel
set_option maxRecDepth 20000 in
theorem ggX5_quit_X5_needPerson : GoodIn wsX5_quit wsX5_needPerson := goodIn_ca (goodIn_r _ [7, 8, 9] (by decide +kernel) (by decide +kernel)) (goodIn_sub (fun _ h => List.mem_cons_of_mem _ (List.mem_append_right _ h)) (by decide +kernel))
set_option maxRecDepth 20000 in
theorem gX5_quit_X5_needPerson : GoodIn wsX5_quit (va_wsS RX5 100 yX5_needPerson wsX5_needPerson) := goodIn_app (goodIn_of _ (by decide +kernel)) ggX5_quit_X5_needPerson
set_option maxRecDepth 20000 in
theorem ggX5_quit_X2_isIn : GoodIn wsX5_quit wsX2_isIn := goodIn_r _ [13, 14, 31] (by decide +kernel) (by decide +kernel)
set_option maxRecDepth 20000 in
theorem gX5_quit_X2_isIn_n106 : GoodIn wsX5_quit (wsX2_isIn) := ggX5_quit_X2_isIn
set_option maxRecDepth 20000 in
theorem ggX5_quit_X2_leave : GoodIn wsX5_quit wsX2_leave := goodIn_r _ [17, 14, 31] (by decide +kernel) (by decide +kernel)
set_option maxRecDepth 20000 in
theorem gX5_quit_X2_leave_n123 : GoodIn wsX5_quit (wsX2_leave) := ggX5_quit_X2_leave
set_option maxRecDepth 20000 in
theorem ggX5_quit_X2_length : GoodIn wsX5_quit wsX2_length := goodIn_r _ [20, 21, 10, 12, 11, 13, 14, 31] (by decide +kernel) (by decide +kernel)
set_option maxRecDepth 20000 in
theorem gX5_quit_X2_length_n117 : GoodIn wsX5_quit (wsX2_length) := ggX5_quit_X2_length
theorem dX5_quit_0 : decode cX5_quit 0 = .ok (.iload_n 1, 1) := by decide +kernel
theorem dX5_quit_1 : decode cX5_quit 1 = .ok (.invokestatic 100, 3) := by decide +kernel
theorem dX5_quit_4 : decode cX5_quit 4 = .ok (.aload_n 0, 1) := by decide +kernel
theorem dX5_quit_5 : decode cX5_quit 5 = .ok (.getfield 33, 3) := by decide +kernel
theorem dX5_quit_8 : decode cX5_quit 8 = .ok (.iload_n 1, 1) := by decide +kernel
theorem dX5_quit_9 : decode cX5_quit 9 = .ok (.invokevirtual 106, 3) := by decide +kernel
theorem dX5_quit_12 : decode cX5_quit 12 = .ok (.ifCond .ne 13, 3) := by decide +kernel
theorem dX5_quit_15 : decode cX5_quit 15 = .ok (.new 65, 3) := by decide +kernel
theorem dX5_quit_18 : decode cX5_quit 18 = .ok (.dup, 1) := by decide +kernel
theorem dX5_quit_19 : decode cX5_quit 19 = .ok (.ldc 121, 2) := by decide +kernel
theorem dX5_quit_21 : decode cX5_quit 21 = .ok (.invokespecial 69, 3) := by decide +kernel
theorem dX5_quit_24 : decode cX5_quit 24 = .ok (.athrow, 1) := by decide +kernel
theorem dX5_quit_25 : decode cX5_quit 25 = .ok (.aload_n 0, 1) := by decide +kernel
theorem dX5_quit_26 : decode cX5_quit 26 = .ok (.getfield 33, 3) := by decide +kernel
theorem dX5_quit_29 : decode cX5_quit 29 = .ok (.iload_n 1, 1) := by decide +kernel
theorem dX5_quit_30 : decode cX5_quit 30 = .ok (.invokevirtual 123, 3) := by decide +kernel
theorem dX5_quit_33 : decode cX5_quit 33 = .ok (.aload_n 0, 1) := by decide +kernel
theorem dX5_quit_34 : decode cX5_quit 34 = .ok (.getfield 33, 3) := by decide +kernel
theorem dX5_quit_37 : decode cX5_quit 37 = .ok (.invokevirtual 117, 3) := by decide +kernel
theorem dX5_quit_40 : decode cX5_quit 40 = .ok (.ireturn, 1) := by decide +kernel
set_option maxRecDepth 20000 in
theorem ggX5_queueAt_X2_personAt : GoodIn wsX5_queueAt wsX2_personAt := goodIn_r _ [7, 8, 9, 10, 5, 11, 12, 13, 14, 15, 16, 17, 18, 19, 20, 30] (by decide +kernel) (by decide +kernel)
set_option maxRecDepth 20000 in
theorem gX5_queueAt_X2_personAt_n126 : GoodIn wsX5_queueAt (wsX2_personAt) := ggX5_queueAt_X2_personAt
theorem dX5_queueAt_0 : decode cX5_queueAt 0 = .ok (.aload_n 0, 1) := by decide +kernel
theorem dX5_queueAt_1 : decode cX5_queueAt 1 = .ok (.getfield 33, 3) := by decide +kernel
theorem dX5_queueAt_4 : decode cX5_queueAt 4 = .ok (.iload_n 1, 1) := by decide +kernel
theorem dX5_queueAt_5 : decode cX5_queueAt 5 = .ok (.invokevirtual 126, 3) := by decide +kernel
theorem dX5_queueAt_8 : decode cX5_queueAt 8 = .ok (.istore_n 2, 1) := by decide +kernel
theorem dX5_queueAt_9 : decode cX5_queueAt 9 = .ok (.iload_n 2, 1) := by decide +kernel
theorem dX5_queueAt_10 : decode cX5_queueAt 10 = .ok (.iconst (-1), 1) := by decide +kernel
theorem dX5_queueAt_11 : decode cX5_queueAt 11 = .ok (.if_icmp .ne 13, 3) := by decide +kernel
theorem dX5_queueAt_14 : decode cX5_queueAt 14 = .ok (.new 129, 3) := by decide +kernel
theorem dX5_queueAt_17 : decode cX5_queueAt 17 = .ok (.dup, 1) := by decide +kernel
theorem dX5_queueAt_18 : decode cX5_queueAt 18 = .ok (.ldc 131, 2) := by decide +kernel
theorem dX5_queueAt_20 : decode cX5_queueAt 20 = .ok (.invokespecial 133, 3) := by decide +kernel
theorem dX5_queueAt_23 : decode cX5_queueAt 23 = .ok (.athrow, 1) := by decide +kernel
theorem dX5_queueAt_24 : decode cX5_queueAt 24 = .ok (.iload_n 2, 1) := by decide +kernel
theorem dX5_queueAt_25 : decode cX5_queueAt 25 = .ok (.ireturn, 1) := by decide +kernel
set_option maxRecDepth 20000 in
theorem ggX5_served_X2_personAt : GoodIn wsX5_served wsX2_personAt := goodIn_r _ [6, 7, 8, 9, 4, 10, 11, 12, 13, 14, 15, 16, 17, 18, 19, 29] (by decide +kernel) (by decide +kernel)
set_option maxRecDepth 20000 in
theorem gX5_served_X2_personAt_n126 : GoodIn wsX5_served (wsX2_personAt) := ggX5_served_X2_personAt
theorem dX5_served_0 : decode cX5_served 0 = .ok (.aload_n 0, 1) := by decide +kernel
theorem dX5_served_1 : decode cX5_served 1 = .ok (.getfield 33, 3) := by decide +kernel
theorem dX5_served_4 : decode cX5_served 4 = .ok (.iconst 0, 1) := by decide +kernel
theorem dX5_served_5 : decode cX5_served 5 = .ok (.invokevirtual 126, 3) := by decide +kernel
theorem dX5_served_8 : decode cX5_served 8 = .ok (.istore_n 1, 1) := by decide +kernel
theorem dX5_served_9 : decode cX5_served 9 = .ok (.iload_n 1, 1) := by decide +kernel
theorem dX5_served_10 : decode cX5_served 10 = .ok (.iconst (-1), 1) := by decide +kernel
theorem dX5_served_11 : decode cX5_served 11 = .ok (.if_icmp .eq 19, 3) := by decide +kernel
theorem dX5_served_14 : decode cX5_served 14 = .ok (.aload_n 0, 1) := by decide +kernel
theorem dX5_served_15 : decode cX5_served 15 = .ok (.getfield 33, 3) := by decide +kernel
theorem dX5_served_18 : decode cX5_served 18 = .ok (.getfield 134, 3) := by decide +kernel
theorem dX5_served_21 : decode cX5_served 21 = .ok (.iload_n 1, 1) := by decide +kernel
theorem dX5_served_22 : decode cX5_served 22 = .ok (.iaload, 1) := by decide +kernel
theorem dX5_served_23 : decode cX5_served 23 = .ok (.aload_n 0, 1) := by decide +kernel
theorem dX5_served_24 : decode cX5_served 24 = .ok (.getfield 9, 3) := by decide +kernel
theorem dX5_served_27 : decode cX5_served 27 = .ok (.if_icmp .lt 5, 3) := by decide +kernel
theorem dX5_served_30 : decode cX5_served 30 = .ok (.iconst (-1), 1) := by decide +kernel
theorem dX5_served_31 : decode cX5_served 31 = .ok (.ireturn, 1) := by decide +kernel
theorem dX5_served_32 : decode cX5_served 32 = .ok (.iload_n 1, 1) := by decide +kernel
theorem dX5_served_33 : decode cX5_served 33 = .ok (.ireturn, 1) := by decide +kernel
set_option maxRecDepth 20000 in
theorem ggX5_hold_X5_needPerson : GoodIn wsX5_hold wsX5_needPerson := goodIn_ca (goodIn_r _ [15, 1, 2] (by decide +kernel) (by decide +kernel)) (goodIn_sub (fun _ h => List.mem_cons_of_mem _ (List.mem_append_left _ (List.mem_append_left _ (List.mem_append_right _ h)))) (by decide +kernel))
set_option maxRecDepth 20000 in
theorem gX5_hold_X5_needPerson : GoodIn wsX5_hold (va_wsS RX5 100 yX5_needPerson wsX5_needPerson) := goodIn_app (goodIn_of _ (by decide +kernel)) ggX5_hold_X5_needPerson
set_option maxRecDepth 20000 in
theorem ggX5_hold_X5_needRow : GoodIn wsX5_hold wsX5_needRow := goodIn_ca (goodIn_r _ [18, 1, 2] (by decide +kernel) (by decide +kernel)) (goodIn_sub (fun _ h => List.mem_cons_of_mem _ (List.mem_append_left _ (List.mem_append_left _ (List.mem_append_right _ h)))) (by decide +kernel))
set_option maxRecDepth 20000 in
theorem gX5_hold_X5_needRow : GoodIn wsX5_hold (va_wsS RX5 137 yX5_needRow wsX5_needRow) := goodIn_app (goodIn_of _ (by decide +kernel)) ggX5_hold_X5_needRow
set_option maxRecDepth 20000 in
theorem ggX5_hold_X5_needCode : GoodIn wsX5_hold wsX5_needCode := goodIn_ca (goodIn_r _ [22, 1, 2, 8, 100, 101, 102, 103, 104, 105, 106, 107, 108, 109, 110, 111, 112] (by decide +kernel) (by decide +kernel)) (goodIn_sub (fun _ h => List.mem_cons_of_mem _ (List.mem_append_left _ (List.mem_append_left _ (List.mem_append_right _ h)))) (by decide +kernel))
set_option maxRecDepth 20000 in
theorem gX5_hold_X5_needCode : GoodIn wsX5_hold (wsV RX5 96 RX5 yX5_needCode wsX5_needCode) := goodIn_app (goodIn_of _ (by decide +kernel)) ggX5_hold_X5_needCode
set_option maxRecDepth 20000 in
theorem ggX5_hold_X5_served : GoodIn wsX5_hold wsX5_served := goodIn_r _ [26, 7, 11, 27, 28, 29, 30, 31, 32, 33, 34, 35, 36, 37, 38, 39, 40, 41, 42, 43, 100, 101, 102, 103, 104, 105, 106, 107, 108, 113] (by decide +kernel) (by decide +kernel)
set_option maxRecDepth 20000 in
theorem gX5_hold_X5_served : GoodIn wsX5_hold (wsV RX5 144 RX5 yX5_served wsX5_served) := goodIn_app (goodIn_of _ (by decide +kernel)) ggX5_hold_X5_served
set_option maxRecDepth 20000 in
theorem ggX5_hold_X5_needSeatsFor : GoodIn wsX5_hold wsX5_needSeatsFor := goodIn_ca (goodIn_r _ [47, 5, 6, 9, 48, 49, 50, 51, 52, 53, 54, 55, 56, 57, 58, 59, 60, 61, 62, 100, 101, 102, 103, 104, 105, 106, 107, 108, 114, 115, 116, 117, 118] (by decide +kernel) (by decide +kernel)) (goodIn_sub (fun _ h => List.mem_cons_of_mem _ (List.mem_append_right _ h)) (by decide +kernel))
set_option maxRecDepth 20000 in
theorem gX5_hold_X5_needSeatsFor : GoodIn wsX5_hold (wsV RX5 149 RX5 yX5_needSeatsFor wsX5_needSeatsFor) := goodIn_app (goodIn_of _ (by decide +kernel)) ggX5_hold_X5_needSeatsFor
set_option maxRecDepth 20000 in
theorem ggX5_hold_X5_needRightFor : GoodIn wsX5_hold wsX5_needRightFor := goodIn_ca (goodIn_r _ [66, 5, 6, 11, 67, 8, 68, 69, 70, 71, 72, 73, 74, 75, 76, 77, 78, 100, 101, 102, 103, 104, 105, 106, 107, 108, 109, 110, 111, 112] (by decide +kernel) (by decide +kernel)) (goodIn_sub (fun _ h => List.mem_cons_of_mem _ (List.mem_append_right _ h)) (by decide +kernel))
set_option maxRecDepth 20000 in
theorem gX5_hold_X5_needRightFor : GoodIn wsX5_hold (wsV RX5 153 RX5 yX5_needRightFor wsX5_needRightFor) := goodIn_app (goodIn_of _ (by decide +kernel)) ggX5_hold_X5_needRightFor
set_option maxRecDepth 20000 in
theorem ggX5_hold_X2_leave : GoodIn wsX5_hold wsX2_leave := goodIn_r _ [81, 35, 113] (by decide +kernel) (by decide +kernel)
set_option maxRecDepth 20000 in
theorem gX5_hold_X2_leave_n123 : GoodIn wsX5_hold (wsX2_leave) := ggX5_hold_X2_leave
set_option maxRecDepth 20000 in
theorem ggX5_hold_X0_tally : GoodIn wsX5_hold wsX0_tally := goodIn_r _ [84, 78, 109, 110, 111, 112] (by decide +kernel) (by decide +kernel)
set_option maxRecDepth 20000 in
theorem gX5_hold_X0_tally_n157 : GoodIn wsX5_hold (wsX0_tally) := ggX5_hold_X0_tally
set_option maxRecDepth 20000 in
theorem ggX5_hold_X4_lock : GoodIn wsX5_hold wsX4_lock := goodIn_r _ [87, 56, 88, 114, 115, 116, 117, 118] (by decide +kernel) (by decide +kernel)
set_option maxRecDepth 20000 in
theorem gX5_hold_X4_lock_n160 : GoodIn wsX5_hold (wsX4_lock) := ggX5_hold_X4_lock
set_option maxRecDepth 20000 in
theorem ggX5_hold_X1_make : GoodIn wsX5_hold wsX1_make := goodIn_r _ [92, 93, 94, 95, 96, 97, 98, 99, 119, 120, 121, 122, 123, 124, 125] (by decide +kernel) (by decide +kernel)
set_option maxRecDepth 20000 in
theorem gX5_hold_X1_make_n163 : GoodIn wsX5_hold (wsX1_make) := ggX5_hold_X1_make
theorem dX5_hold_0 : decode cX5_hold 0 = .ok (.iload_n 1, 1) := by decide +kernel
theorem dX5_hold_1 : decode cX5_hold 1 = .ok (.invokestatic 100, 3) := by decide +kernel
theorem dX5_hold_4 : decode cX5_hold 4 = .ok (.iload_n 2, 1) := by decide +kernel
theorem dX5_hold_5 : decode cX5_hold 5 = .ok (.invokestatic 137, 3) := by decide +kernel
theorem dX5_hold_8 : decode cX5_hold 8 = .ok (.iload_n 3, 1) := by decide +kernel
theorem dX5_hold_9 : decode cX5_hold 9 = .ok (.ifCond .lt 9, 3) := by decide +kernel
theorem dX5_hold_12 : decode cX5_hold 12 = .ok (.iload_n 3, 1) := by decide +kernel
theorem dX5_hold_13 : decode cX5_hold 13 = .ok (.bipush 10, 2) := by decide +kernel
theorem dX5_hold_15 : decode cX5_hold 15 = .ok (.if_icmp .lt 13, 3) := by decide +kernel
theorem dX5_hold_18 : decode cX5_hold 18 = .ok (.new 129, 3) := by decide +kernel
theorem dX5_hold_21 : decode cX5_hold 21 = .ok (.dup, 1) := by decide +kernel
theorem dX5_hold_22 : decode cX5_hold 22 = .ok (.ldc 140, 2) := by decide +kernel
theorem dX5_hold_24 : decode cX5_hold 24 = .ok (.invokespecial 133, 3) := by decide +kernel
theorem dX5_hold_27 : decode cX5_hold 27 = .ok (.athrow, 1) := by decide +kernel
theorem dX5_hold_28 : decode cX5_hold 28 = .ok (.iload 5, 2) := by decide +kernel
theorem dX5_hold_30 : decode cX5_hold 30 = .ok (.iconst (-1), 1) := by decide +kernel
theorem dX5_hold_31 : decode cX5_hold 31 = .ok (.if_icmp .eq 9, 3) := by decide +kernel
theorem dX5_hold_34 : decode cX5_hold 34 = .ok (.aload_n 0, 1) := by decide +kernel
theorem dX5_hold_35 : decode cX5_hold 35 = .ok (.iload 5, 2) := by decide +kernel
theorem dX5_hold_37 : decode cX5_hold 37 = .ok (.invokevirtual 96, 3) := by decide +kernel
theorem dX5_hold_40 : decode cX5_hold 40 = .ok (.iload 4, 2) := by decide +kernel
theorem dX5_hold_42 : decode cX5_hold 42 = .ok (.iconst 1, 1) := by decide +kernel
theorem dX5_hold_43 : decode cX5_hold 43 = .ok (.if_icmp .lt 18, 3) := by decide +kernel
theorem dX5_hold_46 : decode cX5_hold 46 = .ok (.iload 4, 2) := by decide +kernel
theorem dX5_hold_48 : decode cX5_hold 48 = .ok (.iconst 4, 1) := by decide +kernel
theorem dX5_hold_49 : decode cX5_hold 49 = .ok (.if_icmp .gt 12, 3) := by decide +kernel
theorem dX5_hold_52 : decode cX5_hold 52 = .ok (.iload_n 3, 1) := by decide +kernel
theorem dX5_hold_53 : decode cX5_hold 53 = .ok (.iload 4, 2) := by decide +kernel
theorem dX5_hold_55 : decode cX5_hold 55 = .ok (.iadd, 1) := by decide +kernel
theorem dX5_hold_56 : decode cX5_hold 56 = .ok (.bipush 10, 2) := by decide +kernel
theorem dX5_hold_58 : decode cX5_hold 58 = .ok (.if_icmp .le 13, 3) := by decide +kernel
theorem dX5_hold_61 : decode cX5_hold 61 = .ok (.new 58, 3) := by decide +kernel
theorem dX5_hold_64 : decode cX5_hold 64 = .ok (.dup, 1) := by decide +kernel
theorem dX5_hold_65 : decode cX5_hold 65 = .ok (.ldc 142, 2) := by decide +kernel
theorem dX5_hold_67 : decode cX5_hold 67 = .ok (.invokespecial 62, 3) := by decide +kernel
theorem dX5_hold_70 : decode cX5_hold 70 = .ok (.athrow, 1) := by decide +kernel
theorem dX5_hold_71 : decode cX5_hold 71 = .ok (.aload_n 0, 1) := by decide +kernel
theorem dX5_hold_72 : decode cX5_hold 72 = .ok (.invokevirtual 144, 3) := by decide +kernel
theorem dX5_hold_75 : decode cX5_hold 75 = .ok (.iload_n 1, 1) := by decide +kernel
theorem dX5_hold_76 : decode cX5_hold 76 = .ok (.if_icmp .eq 13, 3) := by decide +kernel
theorem dX5_hold_79 : decode cX5_hold 79 = .ok (.new 65, 3) := by decide +kernel
theorem dX5_hold_82 : decode cX5_hold 82 = .ok (.dup, 1) := by decide +kernel
theorem dX5_hold_83 : decode cX5_hold 83 = .ok (.ldc 147, 2) := by decide +kernel
theorem dX5_hold_85 : decode cX5_hold 85 = .ok (.invokespecial 69, 3) := by decide +kernel
theorem dX5_hold_88 : decode cX5_hold 88 = .ok (.athrow, 1) := by decide +kernel
theorem dX5_hold_89 : decode cX5_hold 89 = .ok (.aload_n 0, 1) := by decide +kernel
theorem dX5_hold_90 : decode cX5_hold 90 = .ok (.iload_n 1, 1) := by decide +kernel
theorem dX5_hold_91 : decode cX5_hold 91 = .ok (.iload_n 2, 1) := by decide +kernel
theorem dX5_hold_92 : decode cX5_hold 92 = .ok (.iload_n 3, 1) := by decide +kernel
theorem dX5_hold_93 : decode cX5_hold 93 = .ok (.iload 4, 2) := by decide +kernel
theorem dX5_hold_95 : decode cX5_hold 95 = .ok (.invokevirtual 149, 3) := by decide +kernel
theorem dX5_hold_98 : decode cX5_hold 98 = .ok (.aload_n 0, 1) := by decide +kernel
theorem dX5_hold_99 : decode cX5_hold 99 = .ok (.iload_n 1, 1) := by decide +kernel
theorem dX5_hold_100 : decode cX5_hold 100 = .ok (.iload 4, 2) := by decide +kernel
theorem dX5_hold_102 : decode cX5_hold 102 = .ok (.iload 5, 2) := by decide +kernel
theorem dX5_hold_104 : decode cX5_hold 104 = .ok (.invokevirtual 153, 3) := by decide +kernel
theorem dX5_hold_107 : decode cX5_hold 107 = .ok (.aload_n 0, 1) := by decide +kernel
theorem dX5_hold_108 : decode cX5_hold 108 = .ok (.getfield 33, 3) := by decide +kernel
theorem dX5_hold_111 : decode cX5_hold 111 = .ok (.iload_n 1, 1) := by decide +kernel
theorem dX5_hold_112 : decode cX5_hold 112 = .ok (.invokevirtual 123, 3) := by decide +kernel
theorem dX5_hold_115 : decode cX5_hold 115 = .ok (.aload_n 0, 1) := by decide +kernel
theorem dX5_hold_116 : decode cX5_hold 116 = .ok (.getfield 26, 3) := by decide +kernel
theorem dX5_hold_119 : decode cX5_hold 119 = .ok (.iload 5, 2) := by decide +kernel
theorem dX5_hold_121 : decode cX5_hold 121 = .ok (.iload_n 1, 1) := by decide +kernel
theorem dX5_hold_122 : decode cX5_hold 122 = .ok (.iload 4, 2) := by decide +kernel
theorem dX5_hold_124 : decode cX5_hold 124 = .ok (.invokevirtual 157, 3) := by decide +kernel
theorem dX5_hold_127 : decode cX5_hold 127 = .ok (.bipush 10, 2) := by decide +kernel
theorem dX5_hold_129 : decode cX5_hold 129 = .ok (.iload_n 2, 1) := by decide +kernel
theorem dX5_hold_130 : decode cX5_hold 130 = .ok (.imul, 1) := by decide +kernel
theorem dX5_hold_131 : decode cX5_hold 131 = .ok (.iload_n 3, 1) := by decide +kernel
theorem dX5_hold_132 : decode cX5_hold 132 = .ok (.iadd, 1) := by decide +kernel
theorem dX5_hold_133 : decode cX5_hold 133 = .ok (.istore 6, 2) := by decide +kernel
theorem dX5_hold_135 : decode cX5_hold 135 = .ok (.aload_n 0, 1) := by decide +kernel
theorem dX5_hold_136 : decode cX5_hold 136 = .ok (.getfield 47, 3) := by decide +kernel
theorem dX5_hold_139 : decode cX5_hold 139 = .ok (.iload 6, 2) := by decide +kernel
theorem dX5_hold_141 : decode cX5_hold 141 = .ok (.iload 4, 2) := by decide +kernel
theorem dX5_hold_143 : decode cX5_hold 143 = .ok (.invokevirtual 160, 3) := by decide +kernel
theorem dX5_hold_146 : decode cX5_hold 146 = .ok (.istore 7, 2) := by decide +kernel
theorem dX5_hold_148 : decode cX5_hold 148 = .ok (.aload_n 0, 1) := by decide +kernel
theorem dX5_hold_149 : decode cX5_hold 149 = .ok (.getfield 40, 3) := by decide +kernel
theorem dX5_hold_152 : decode cX5_hold 152 = .ok (.iload_n 1, 1) := by decide +kernel
theorem dX5_hold_153 : decode cX5_hold 153 = .ok (.iload 6, 2) := by decide +kernel
theorem dX5_hold_155 : decode cX5_hold 155 = .ok (.iload 4, 2) := by decide +kernel
theorem dX5_hold_157 : decode cX5_hold 157 = .ok (.iload 5, 2) := by decide +kernel
theorem dX5_hold_159 : decode cX5_hold 159 = .ok (.iload 7, 2) := by decide +kernel
theorem dX5_hold_161 : decode cX5_hold 161 = .ok (.aload_n 0, 1) := by decide +kernel
theorem dX5_hold_162 : decode cX5_hold 162 = .ok (.getfield 9, 3) := by decide +kernel
theorem dX5_hold_165 : decode cX5_hold 165 = .ok (.invokevirtual 163, 3) := by decide +kernel
theorem dX5_hold_168 : decode cX5_hold 168 = .ok (.iload 7, 2) := by decide +kernel
theorem dX5_hold_170 : decode cX5_hold 170 = .ok (.ireturn, 1) := by decide +kernel
set_option maxRecDepth 20000 in
theorem ggX5_pay_X5_needPerson : GoodIn wsX5_pay wsX5_needPerson := goodIn_ca (goodIn_r _ [10, 11, 12] (by decide +kernel) (by decide +kernel)) (goodIn_sub (fun _ h => List.mem_cons_of_mem _ (List.mem_append_right _ h)) (by decide +kernel))
set_option maxRecDepth 20000 in
theorem gX5_pay_X5_needPerson : GoodIn wsX5_pay (va_wsS RX5 100 yX5_needPerson wsX5_needPerson) := goodIn_app (goodIn_of _ (by decide +kernel)) ggX5_pay_X5_needPerson
set_option maxRecDepth 20000 in
theorem ggX5_pay_X5_needHold : GoodIn wsX5_pay wsX5_needHold := goodIn_ca (goodIn_r _ [16, 3, 4, 5, 17, 18, 19, 20, 21, 63, 64, 65, 66, 67, 68, 69, 70, 71, 72, 73, 74, 75, 76, 77, 78] (by decide +kernel) (by decide +kernel)) (goodIn_sub (fun _ h => List.mem_cons_of_mem _ (List.mem_append_left _ (List.mem_append_right _ h))) (by decide +kernel))
set_option maxRecDepth 20000 in
theorem gX5_pay_X5_needHold : GoodIn wsX5_pay (wsV RX5 169 RX5 yX5_needHold wsX5_needHold) := goodIn_app (goodIn_of _ (by decide +kernel)) ggX5_pay_X5_needHold
set_option maxRecDepth 20000 in
theorem ggX5_pay_X1_left : GoodIn wsX5_pay wsX1_left := goodIn_r _ [24, 25, 26, 72, 73, 74, 75, 76, 77, 78] (by decide +kernel) (by decide +kernel)
set_option maxRecDepth 20000 in
theorem gX5_pay_X1_left_n172 : GoodIn wsX5_pay (wsX1_left) := ggX5_pay_X1_left
set_option maxRecDepth 20000 in
theorem ggX5_pay_X5_sell : GoodIn wsX5_pay wsX5_sell := goodIn_r _ [30, 5, 31, 32, 6, 33, 34, 35, 36, 37, 38, 39, 40, 41, 42, 43, 44, 45, 46, 47, 48, 49, 50, 51, 18, 52, 53, 21, 63, 64, 65, 66, 67, 68, 69, 70, 71, 72, 73, 74, 75, 76, 77, 78, 79, 80, 81, 82, 83, 84, 85, 86, 87] (by decide +kernel) (by decide +kernel)
set_option maxRecDepth 20000 in
theorem gX5_pay_X5_sell : GoodIn wsX5_pay (wsV RX5 180 RX5 yX5_sell wsX5_sell) := goodIn_app (goodIn_of _ (by decide +kernel)) ggX5_pay_X5_sell
set_option maxRecDepth 20000 in
theorem ggX5_pay_X1_prolong : GoodIn wsX5_pay wsX1_prolong := goodIn_r _ [56, 57, 58, 59, 60, 61, 62, 72, 73, 74, 75, 76, 77, 78] (by decide +kernel) (by decide +kernel)
set_option maxRecDepth 20000 in
theorem gX5_pay_X1_prolong_n183 : GoodIn wsX5_pay (wsX1_prolong) := ggX5_pay_X1_prolong
theorem dX5_pay_0 : decode cX5_pay 0 = .ok (.iload_n 1, 1) := by decide +kernel
theorem dX5_pay_1 : decode cX5_pay 1 = .ok (.invokestatic 100, 3) := by decide +kernel
theorem dX5_pay_4 : decode cX5_pay 4 = .ok (.iload_n 2, 1) := by decide +kernel
theorem dX5_pay_5 : decode cX5_pay 5 = .ok (.iconst 1, 1) := by decide +kernel
theorem dX5_pay_6 : decode cX5_pay 6 = .ok (.if_icmp .lt 10, 3) := by decide +kernel
theorem dX5_pay_9 : decode cX5_pay 9 = .ok (.iload_n 2, 1) := by decide +kernel
theorem dX5_pay_10 : decode cX5_pay 10 = .ok (.sipush 1000, 3) := by decide +kernel
theorem dX5_pay_13 : decode cX5_pay 13 = .ok (.if_icmp .le 13, 3) := by decide +kernel
theorem dX5_pay_16 : decode cX5_pay 16 = .ok (.new 58, 3) := by decide +kernel
theorem dX5_pay_19 : decode cX5_pay 19 = .ok (.dup, 1) := by decide +kernel
theorem dX5_pay_20 : decode cX5_pay 20 = .ok (.ldc 167, 2) := by decide +kernel
theorem dX5_pay_22 : decode cX5_pay 22 = .ok (.invokespecial 62, 3) := by decide +kernel
theorem dX5_pay_25 : decode cX5_pay 25 = .ok (.athrow, 1) := by decide +kernel
theorem dX5_pay_26 : decode cX5_pay 26 = .ok (.aload_n 0, 1) := by decide +kernel
theorem dX5_pay_27 : decode cX5_pay 27 = .ok (.iload_n 1, 1) := by decide +kernel
theorem dX5_pay_28 : decode cX5_pay 28 = .ok (.invokevirtual 169, 3) := by decide +kernel
theorem dX5_pay_31 : decode cX5_pay 31 = .ok (.iload_n 2, 1) := by decide +kernel
theorem dX5_pay_32 : decode cX5_pay 32 = .ok (.aload_n 0, 1) := by decide +kernel
theorem dX5_pay_33 : decode cX5_pay 33 = .ok (.getfield 40, 3) := by decide +kernel
theorem dX5_pay_36 : decode cX5_pay 36 = .ok (.iload_n 1, 1) := by decide +kernel
theorem dX5_pay_37 : decode cX5_pay 37 = .ok (.invokevirtual 172, 3) := by decide +kernel
theorem dX5_pay_40 : decode cX5_pay 40 = .ok (.if_icmp .le 13, 3) := by decide +kernel
theorem dX5_pay_43 : decode cX5_pay 43 = .ok (.new 65, 3) := by decide +kernel
theorem dX5_pay_46 : decode cX5_pay 46 = .ok (.dup, 1) := by decide +kernel
theorem dX5_pay_47 : decode cX5_pay 47 = .ok (.ldc 175, 2) := by decide +kernel
theorem dX5_pay_49 : decode cX5_pay 49 = .ok (.invokespecial 69, 3) := by decide +kernel
theorem dX5_pay_52 : decode cX5_pay 52 = .ok (.athrow, 1) := by decide +kernel
theorem dX5_pay_53 : decode cX5_pay 53 = .ok (.aload_n 0, 1) := by decide +kernel
theorem dX5_pay_54 : decode cX5_pay 54 = .ok (.getfield 19, 3) := by decide +kernel
theorem dX5_pay_57 : decode cX5_pay 57 = .ok (.iload_n 1, 1) := by decide +kernel
theorem dX5_pay_58 : decode cX5_pay 58 = .ok (.dup2, 1) := by decide +kernel
theorem dX5_pay_59 : decode cX5_pay 59 = .ok (.iaload, 1) := by decide +kernel
theorem dX5_pay_60 : decode cX5_pay 60 = .ok (.iload_n 2, 1) := by decide +kernel
theorem dX5_pay_61 : decode cX5_pay 61 = .ok (.iadd, 1) := by decide +kernel
theorem dX5_pay_62 : decode cX5_pay 62 = .ok (.iastore, 1) := by decide +kernel
theorem dX5_pay_63 : decode cX5_pay 63 = .ok (.aload_n 0, 1) := by decide +kernel
theorem dX5_pay_64 : decode cX5_pay 64 = .ok (.getfield 40, 3) := by decide +kernel
theorem dX5_pay_67 : decode cX5_pay 67 = .ok (.getfield 177, 3) := by decide +kernel
theorem dX5_pay_70 : decode cX5_pay 70 = .ok (.iload_n 1, 1) := by decide +kernel
theorem dX5_pay_71 : decode cX5_pay 71 = .ok (.dup2, 1) := by decide +kernel
theorem dX5_pay_72 : decode cX5_pay 72 = .ok (.iaload, 1) := by decide +kernel
theorem dX5_pay_73 : decode cX5_pay 73 = .ok (.iload_n 2, 1) := by decide +kernel
theorem dX5_pay_74 : decode cX5_pay 74 = .ok (.iadd, 1) := by decide +kernel
theorem dX5_pay_75 : decode cX5_pay 75 = .ok (.iastore, 1) := by decide +kernel
theorem dX5_pay_76 : decode cX5_pay 76 = .ok (.aload_n 0, 1) := by decide +kernel
theorem dX5_pay_77 : decode cX5_pay 77 = .ok (.getfield 40, 3) := by decide +kernel
theorem dX5_pay_80 : decode cX5_pay 80 = .ok (.iload_n 1, 1) := by decide +kernel
theorem dX5_pay_81 : decode cX5_pay 81 = .ok (.invokevirtual 172, 3) := by decide +kernel
theorem dX5_pay_84 : decode cX5_pay 84 = .ok (.istore_n 3, 1) := by decide +kernel
theorem dX5_pay_85 : decode cX5_pay 85 = .ok (.iload_n 3, 1) := by decide +kernel
theorem dX5_pay_86 : decode cX5_pay 86 = .ok (.ifCond .ne 11, 3) := by decide +kernel
theorem dX5_pay_89 : decode cX5_pay 89 = .ok (.aload_n 0, 1) := by decide +kernel
theorem dX5_pay_90 : decode cX5_pay 90 = .ok (.iload_n 1, 1) := by decide +kernel
theorem dX5_pay_91 : decode cX5_pay 91 = .ok (.invokevirtual 180, 3) := by decide +kernel
theorem dX5_pay_94 : decode cX5_pay 94 = .ok (.goto 11, 3) := by decide +kernel
theorem dX5_pay_97 : decode cX5_pay 97 = .ok (.aload_n 0, 1) := by decide +kernel
theorem dX5_pay_98 : decode cX5_pay 98 = .ok (.getfield 40, 3) := by decide +kernel
theorem dX5_pay_101 : decode cX5_pay 101 = .ok (.iload_n 1, 1) := by decide +kernel
theorem dX5_pay_102 : decode cX5_pay 102 = .ok (.invokevirtual 183, 3) := by decide +kernel
theorem dX5_pay_105 : decode cX5_pay 105 = .ok (.iload_n 3, 1) := by decide +kernel
theorem dX5_pay_106 : decode cX5_pay 106 = .ok (.ireturn, 1) := by decide +kernel
set_option maxRecDepth 20000 in
theorem ggX5_letGo_X5_needPerson : GoodIn wsX5_letGo wsX5_needPerson := goodIn_ca (goodIn_r _ [4, 5, 6] (by decide +kernel) (by decide +kernel)) (goodIn_sub (fun _ h => List.mem_cons_of_mem _ (List.mem_append_left _ (List.mem_append_right _ h))) (by decide +kernel))
set_option maxRecDepth 20000 in
theorem gX5_letGo_X5_needPerson : GoodIn wsX5_letGo (va_wsS RX5 100 yX5_needPerson wsX5_needPerson) := goodIn_app (goodIn_of _ (by decide +kernel)) ggX5_letGo_X5_needPerson
set_option maxRecDepth 20000 in
theorem ggX5_letGo_X5_needHold : GoodIn wsX5_letGo wsX5_needHold := goodIn_ca (goodIn_r _ [10, 11, 12, 13, 14, 15, 16, 17, 18, 39, 40, 41, 42, 43, 44, 45, 46, 47, 48, 49, 50, 51, 52, 53, 54] (by decide +kernel) (by decide +kernel)) (goodIn_sub (fun _ h => List.mem_cons_of_mem _ (List.mem_append_right _ h)) (by decide +kernel))
set_option maxRecDepth 20000 in
theorem gX5_letGo_X5_needHold : GoodIn wsX5_letGo (wsV RX5 169 RX5 yX5_needHold wsX5_needHold) := goodIn_app (goodIn_of _ (by decide +kernel)) ggX5_letGo_X5_needHold
set_option maxRecDepth 20000 in
theorem ggX5_letGo_X5_giveBack : GoodIn wsX5_letGo wsX5_giveBack := goodIn_r _ [22, 13, 23, 24, 25, 26, 27, 28, 29, 30, 31, 32, 33, 34, 35, 36, 15, 37, 38, 18, 39, 40, 41, 42, 43, 44, 45, 46, 47, 48, 49, 50, 51, 52, 53, 54, 55, 56, 57, 58, 59, 60, 61, 62, 63] (by decide +kernel) (by decide +kernel)
set_option maxRecDepth 20000 in
theorem gX5_letGo_X5_giveBack : GoodIn wsX5_letGo (wsV RX5 77 RX5 yX5_giveBack wsX5_giveBack) := goodIn_app (goodIn_of _ (by decide +kernel)) ggX5_letGo_X5_giveBack
theorem dX5_letGo_0 : decode cX5_letGo 0 = .ok (.iload_n 1, 1) := by decide +kernel
theorem dX5_letGo_1 : decode cX5_letGo 1 = .ok (.invokestatic 100, 3) := by decide +kernel
theorem dX5_letGo_4 : decode cX5_letGo 4 = .ok (.aload_n 0, 1) := by decide +kernel
theorem dX5_letGo_5 : decode cX5_letGo 5 = .ok (.iload_n 1, 1) := by decide +kernel
theorem dX5_letGo_6 : decode cX5_letGo 6 = .ok (.invokevirtual 169, 3) := by decide +kernel
theorem dX5_letGo_9 : decode cX5_letGo 9 = .ok (.aload_n 0, 1) := by decide +kernel
theorem dX5_letGo_10 : decode cX5_letGo 10 = .ok (.iload_n 1, 1) := by decide +kernel
theorem dX5_letGo_11 : decode cX5_letGo 11 = .ok (.invokevirtual 77, 3) := by decide +kernel
theorem dX5_letGo_14 : decode cX5_letGo 14 = .ok (.ireturn, 1) := by decide +kernel
set_option maxRecDepth 20000 in
theorem ggX5_lapses_X5_needPerson : GoodIn wsX5_lapses wsX5_needPerson := goodIn_ca (goodIn_r _ [5, 6, 7] (by decide +kernel) (by decide +kernel)) (goodIn_sub (fun _ h => List.mem_cons_of_mem _ (List.mem_append_right _ h)) (by decide +kernel))
set_option maxRecDepth 20000 in
theorem gX5_lapses_X5_needPerson : GoodIn wsX5_lapses (va_wsS RX5 100 yX5_needPerson wsX5_needPerson) := goodIn_app (goodIn_of _ (by decide +kernel)) ggX5_lapses_X5_needPerson
set_option maxRecDepth 20000 in
theorem ggX5_lapses_X1_isThere : GoodIn wsX5_lapses wsX1_isThere := goodIn_r _ [11, 12, 22, 23, 24, 25, 26, 27, 28] (by decide +kernel) (by decide +kernel)
set_option maxRecDepth 20000 in
theorem gX5_lapses_X1_isThere_n70 : GoodIn wsX5_lapses (wsX1_isThere) := ggX5_lapses_X1_isThere
theorem dX5_lapses_0 : decode cX5_lapses 0 = .ok (.iload_n 1, 1) := by decide +kernel
theorem dX5_lapses_1 : decode cX5_lapses 1 = .ok (.invokestatic 100, 3) := by decide +kernel
theorem dX5_lapses_4 : decode cX5_lapses 4 = .ok (.aload_n 0, 1) := by decide +kernel
theorem dX5_lapses_5 : decode cX5_lapses 5 = .ok (.getfield 40, 3) := by decide +kernel
theorem dX5_lapses_8 : decode cX5_lapses 8 = .ok (.iload_n 1, 1) := by decide +kernel
theorem dX5_lapses_9 : decode cX5_lapses 9 = .ok (.invokevirtual 70, 3) := by decide +kernel
theorem dX5_lapses_12 : decode cX5_lapses 12 = .ok (.ifCond .eq 15, 3) := by decide +kernel
theorem dX5_lapses_15 : decode cX5_lapses 15 = .ok (.aload_n 0, 1) := by decide +kernel
theorem dX5_lapses_16 : decode cX5_lapses 16 = .ok (.getfield 40, 3) := by decide +kernel
theorem dX5_lapses_19 : decode cX5_lapses 19 = .ok (.getfield 74, 3) := by decide +kernel
theorem dX5_lapses_22 : decode cX5_lapses 22 = .ok (.iload_n 1, 1) := by decide +kernel
theorem dX5_lapses_23 : decode cX5_lapses 23 = .ok (.iaload, 1) := by decide +kernel
theorem dX5_lapses_24 : decode cX5_lapses 24 = .ok (.goto 4, 3) := by decide +kernel
theorem dX5_lapses_27 : decode cX5_lapses 27 = .ok (.iconst (-1), 1) := by decide +kernel
theorem dX5_lapses_28 : decode cX5_lapses 28 = .ok (.ireturn, 1) := by decide +kernel
set_option maxRecDepth 20000 in
theorem ggX5_state_X5_needSeat : GoodIn wsX5_state wsX5_needSeat := goodIn_ca (goodIn_r _ [5, 6, 7] (by decide +kernel) (by decide +kernel)) (goodIn_sub (fun _ h => List.mem_cons_of_mem _ (List.mem_append_right _ h)) (by decide +kernel))
set_option maxRecDepth 20000 in
theorem gX5_state_X5_needSeat : GoodIn wsX5_state (va_wsS RX5 186 yX5_needSeat wsX5_needSeat) := goodIn_app (goodIn_of _ (by decide +kernel)) ggX5_state_X5_needSeat
set_option maxRecDepth 20000 in
theorem ggX5_state_X4_stateOf : GoodIn wsX5_state wsX4_stateOf := goodIn_r _ [11, 12, 13, 14, 24, 25, 26, 27, 28] (by decide +kernel) (by decide +kernel)
set_option maxRecDepth 20000 in
theorem gX5_state_X4_stateOf_n189 : GoodIn wsX5_state (wsX4_stateOf) := ggX5_state_X4_stateOf
theorem dX5_state_0 : decode cX5_state 0 = .ok (.iload_n 1, 1) := by decide +kernel
theorem dX5_state_1 : decode cX5_state 1 = .ok (.invokestatic 186, 3) := by decide +kernel
theorem dX5_state_4 : decode cX5_state 4 = .ok (.aload_n 0, 1) := by decide +kernel
theorem dX5_state_5 : decode cX5_state 5 = .ok (.getfield 47, 3) := by decide +kernel
theorem dX5_state_8 : decode cX5_state 8 = .ok (.iload_n 1, 1) := by decide +kernel
theorem dX5_state_9 : decode cX5_state 9 = .ok (.invokevirtual 189, 3) := by decide +kernel
theorem dX5_state_12 : decode cX5_state 12 = .ok (.ireturn, 1) := by decide +kernel
set_option maxRecDepth 20000 in
theorem ggX5_owner_X5_needSeat : GoodIn wsX5_owner wsX5_needSeat := goodIn_ca (goodIn_r _ [5, 6, 7] (by decide +kernel) (by decide +kernel)) (goodIn_sub (fun _ h => List.mem_cons_of_mem _ (List.mem_append_right _ h)) (by decide +kernel))
set_option maxRecDepth 20000 in
theorem gX5_owner_X5_needSeat : GoodIn wsX5_owner (va_wsS RX5 186 yX5_needSeat wsX5_needSeat) := goodIn_app (goodIn_of _ (by decide +kernel)) ggX5_owner_X5_needSeat
theorem dX5_owner_0 : decode cX5_owner 0 = .ok (.iload_n 1, 1) := by decide +kernel
theorem dX5_owner_1 : decode cX5_owner 1 = .ok (.invokestatic 186, 3) := by decide +kernel
theorem dX5_owner_4 : decode cX5_owner 4 = .ok (.aload_n 0, 1) := by decide +kernel
theorem dX5_owner_5 : decode cX5_owner 5 = .ok (.getfield 47, 3) := by decide +kernel
theorem dX5_owner_8 : decode cX5_owner 8 = .ok (.getfield 192, 3) := by decide +kernel
theorem dX5_owner_11 : decode cX5_owner 11 = .ok (.iload_n 1, 1) := by decide +kernel
theorem dX5_owner_12 : decode cX5_owner 12 = .ok (.iaload, 1) := by decide +kernel
theorem dX5_owner_13 : decode cX5_owner 13 = .ok (.ireturn, 1) := by decide +kernel
set_option maxRecDepth 20000 in
theorem ggX5_ownerBySales_X5_needSeat : GoodIn wsX5_ownerBySales wsX5_needSeat := goodIn_ca (goodIn_r _ [5, 6, 7] (by decide +kernel) (by decide +kernel)) (goodIn_sub (fun _ h => List.mem_cons_of_mem _ (List.mem_append_right _ h)) (by decide +kernel))
set_option maxRecDepth 20000 in
theorem gX5_ownerBySales_X5_needSeat : GoodIn wsX5_ownerBySales (va_wsS RX5 186 yX5_needSeat wsX5_needSeat) := goodIn_app (goodIn_of _ (by decide +kernel)) ggX5_ownerBySales_X5_needSeat
set_option maxRecDepth 20000 in
theorem ggX5_ownerBySales_X3_lastBuyerOf : GoodIn wsX5_ownerBySales wsX3_lastBuyerOf := goodIn_r _ [11, 12, 13, 14, 15, 25, 26, 27, 28] (by decide +kernel) (by decide +kernel)
set_option maxRecDepth 20000 in
theorem gX5_ownerBySales_X3_lastBuyerOf_n195 : GoodIn wsX5_ownerBySales (wsX3_lastBuyerOf) := ggX5_ownerBySales_X3_lastBuyerOf
theorem dX5_ownerBySales_0 : decode cX5_ownerBySales 0 = .ok (.iload_n 1, 1) := by decide +kernel
theorem dX5_ownerBySales_1 : decode cX5_ownerBySales 1 = .ok (.invokestatic 186, 3) := by decide +kernel
theorem dX5_ownerBySales_4 : decode cX5_ownerBySales 4 = .ok (.aload_n 0, 1) := by decide +kernel
theorem dX5_ownerBySales_5 : decode cX5_ownerBySales 5 = .ok (.getfield 54, 3) := by decide +kernel
theorem dX5_ownerBySales_8 : decode cX5_ownerBySales 8 = .ok (.iload_n 1, 1) := by decide +kernel
theorem dX5_ownerBySales_9 : decode cX5_ownerBySales 9 = .ok (.invokevirtual 195, 3) := by decide +kernel
theorem dX5_ownerBySales_12 : decode cX5_ownerBySales 12 = .ok (.ireturn, 1) := by decide +kernel
set_option maxRecDepth 20000 in
theorem ggX5_isSingle_X5_needSeat : GoodIn wsX5_isSingle wsX5_needSeat := goodIn_ca (goodIn_r _ [5, 6, 7] (by decide +kernel) (by decide +kernel)) (goodIn_sub (fun _ h => List.mem_cons_of_mem _ (List.mem_append_right _ h)) (by decide +kernel))
set_option maxRecDepth 20000 in
theorem gX5_isSingle_X5_needSeat : GoodIn wsX5_isSingle (va_wsS RX5 186 yX5_needSeat wsX5_needSeat) := goodIn_app (goodIn_of _ (by decide +kernel)) ggX5_isSingle_X5_needSeat
set_option maxRecDepth 20000 in
theorem ggX5_isSingle_X4_isOpen : GoodIn wsX5_isSingle wsX4_isOpen := goodIn_r _ [11, 12, 13, 14, 9, 15, 16, 17, 18, 28, 29, 30, 31, 32] (by decide +kernel) (by decide +kernel)
set_option maxRecDepth 20000 in
theorem gX5_isSingle_X4_isOpen_n198 : GoodIn wsX5_isSingle (wsX4_isOpen) := ggX5_isSingle_X4_isOpen
theorem dX5_isSingle_0 : decode cX5_isSingle 0 = .ok (.iload_n 1, 1) := by decide +kernel
theorem dX5_isSingle_1 : decode cX5_isSingle 1 = .ok (.invokestatic 186, 3) := by decide +kernel
theorem dX5_isSingle_4 : decode cX5_isSingle 4 = .ok (.iload_n 1, 1) := by decide +kernel
theorem dX5_isSingle_5 : decode cX5_isSingle 5 = .ok (.bipush 10, 2) := by decide +kernel
theorem dX5_isSingle_7 : decode cX5_isSingle 7 = .ok (.idiv, 1) := by decide +kernel
theorem dX5_isSingle_8 : decode cX5_isSingle 8 = .ok (.istore_n 2, 1) := by decide +kernel
theorem dX5_isSingle_9 : decode cX5_isSingle 9 = .ok (.iload_n 1, 1) := by decide +kernel
theorem dX5_isSingle_10 : decode cX5_isSingle 10 = .ok (.bipush 10, 2) := by decide +kernel
theorem dX5_isSingle_12 : decode cX5_isSingle 12 = .ok (.irem, 1) := by decide +kernel
theorem dX5_isSingle_13 : decode cX5_isSingle 13 = .ok (.istore_n 3, 1) := by decide +kernel
theorem dX5_isSingle_14 : decode cX5_isSingle 14 = .ok (.aload_n 0, 1) := by decide +kernel
theorem dX5_isSingle_15 : decode cX5_isSingle 15 = .ok (.getfield 47, 3) := by decide +kernel
theorem dX5_isSingle_18 : decode cX5_isSingle 18 = .ok (.iload_n 2, 1) := by decide +kernel
theorem dX5_isSingle_19 : decode cX5_isSingle 19 = .ok (.iload_n 3, 1) := by decide +kernel
theorem dX5_isSingle_20 : decode cX5_isSingle 20 = .ok (.invokevirtual 198, 3) := by decide +kernel
theorem dX5_isSingle_23 : decode cX5_isSingle 23 = .ok (.ifCond .eq 35, 3) := by decide +kernel
theorem dX5_isSingle_26 : decode cX5_isSingle 26 = .ok (.aload_n 0, 1) := by decide +kernel
theorem dX5_isSingle_27 : decode cX5_isSingle 27 = .ok (.getfield 47, 3) := by decide +kernel
theorem dX5_isSingle_30 : decode cX5_isSingle 30 = .ok (.iload_n 2, 1) := by decide +kernel
theorem dX5_isSingle_31 : decode cX5_isSingle 31 = .ok (.iload_n 3, 1) := by decide +kernel
theorem dX5_isSingle_32 : decode cX5_isSingle 32 = .ok (.iconst 1, 1) := by decide +kernel
theorem dX5_isSingle_33 : decode cX5_isSingle 33 = .ok (.isub, 1) := by decide +kernel
theorem dX5_isSingle_34 : decode cX5_isSingle 34 = .ok (.invokevirtual 198, 3) := by decide +kernel
theorem dX5_isSingle_37 : decode cX5_isSingle 37 = .ok (.ifCond .ne 21, 3) := by decide +kernel
theorem dX5_isSingle_40 : decode cX5_isSingle 40 = .ok (.aload_n 0, 1) := by decide +kernel
theorem dX5_isSingle_41 : decode cX5_isSingle 41 = .ok (.getfield 47, 3) := by decide +kernel
theorem dX5_isSingle_44 : decode cX5_isSingle 44 = .ok (.iload_n 2, 1) := by decide +kernel
theorem dX5_isSingle_45 : decode cX5_isSingle 45 = .ok (.iload_n 3, 1) := by decide +kernel
theorem dX5_isSingle_46 : decode cX5_isSingle 46 = .ok (.iconst 1, 1) := by decide +kernel
theorem dX5_isSingle_47 : decode cX5_isSingle 47 = .ok (.iadd, 1) := by decide +kernel
theorem dX5_isSingle_48 : decode cX5_isSingle 48 = .ok (.invokevirtual 198, 3) := by decide +kernel
theorem dX5_isSingle_51 : decode cX5_isSingle 51 = .ok (.ifCond .ne 7, 3) := by decide +kernel
theorem dX5_isSingle_54 : decode cX5_isSingle 54 = .ok (.iconst 1, 1) := by decide +kernel
theorem dX5_isSingle_55 : decode cX5_isSingle 55 = .ok (.goto 4, 3) := by decide +kernel
theorem dX5_isSingle_58 : decode cX5_isSingle 58 = .ok (.iconst 0, 1) := by decide +kernel
theorem dX5_isSingle_59 : decode cX5_isSingle 59 = .ok (.ireturn, 1) := by decide +kernel
set_option maxRecDepth 20000 in
theorem ggX5_firstOpen_X5_needRow : GoodIn wsX5_firstOpen wsX5_needRow := goodIn_ca (goodIn_r _ [7, 8, 9] (by decide +kernel) (by decide +kernel)) (goodIn_sub (fun _ h => List.mem_cons_of_mem _ (List.mem_append_right _ h)) (by decide +kernel))
set_option maxRecDepth 20000 in
theorem gX5_firstOpen_X5_needRow : GoodIn wsX5_firstOpen (va_wsS RX5 137 yX5_needRow wsX5_needRow) := goodIn_app (goodIn_of _ (by decide +kernel)) ggX5_firstOpen_X5_needRow
set_option maxRecDepth 20000 in
theorem ggX5_firstOpen_X4_isOpen : GoodIn wsX5_firstOpen wsX4_isOpen := goodIn_r _ [13, 14, 15, 16, 11, 17, 18, 19, 20, 30, 31, 32, 33, 34] (by decide +kernel) (by decide +kernel)
set_option maxRecDepth 20000 in
theorem gX5_firstOpen_X4_isOpen_n198 : GoodIn wsX5_firstOpen (wsX4_isOpen) := ggX5_firstOpen_X4_isOpen
theorem dX5_firstOpen_0 : decode cX5_firstOpen 0 = .ok (.iload_n 1, 1) := by decide +kernel
theorem dX5_firstOpen_1 : decode cX5_firstOpen 1 = .ok (.invokestatic 137, 3) := by decide +kernel
theorem dX5_firstOpen_4 : decode cX5_firstOpen 4 = .ok (.iload_n 2, 1) := by decide +kernel
theorem dX5_firstOpen_5 : decode cX5_firstOpen 5 = .ok (.iconst 1, 1) := by decide +kernel
theorem dX5_firstOpen_6 : decode cX5_firstOpen 6 = .ok (.if_icmp .lt 9, 3) := by decide +kernel
theorem dX5_firstOpen_9 : decode cX5_firstOpen 9 = .ok (.iload_n 2, 1) := by decide +kernel
theorem dX5_firstOpen_10 : decode cX5_firstOpen 10 = .ok (.bipush 10, 2) := by decide +kernel
theorem dX5_firstOpen_12 : decode cX5_firstOpen 12 = .ok (.if_icmp .le 13, 3) := by decide +kernel
theorem dX5_firstOpen_15 : decode cX5_firstOpen 15 = .ok (.new 58, 3) := by decide +kernel
theorem dX5_firstOpen_18 : decode cX5_firstOpen 18 = .ok (.dup, 1) := by decide +kernel
theorem dX5_firstOpen_19 : decode cX5_firstOpen 19 = .ok (.ldc 142, 2) := by decide +kernel
theorem dX5_firstOpen_21 : decode cX5_firstOpen 21 = .ok (.invokespecial 62, 3) := by decide +kernel
theorem dX5_firstOpen_24 : decode cX5_firstOpen 24 = .ok (.athrow, 1) := by decide +kernel
theorem dX5_firstOpen_25 : decode cX5_firstOpen 25 = .ok (.iconst 0, 1) := by decide +kernel
theorem dX5_firstOpen_26 : decode cX5_firstOpen 26 = .ok (.istore_n 3, 1) := by decide +kernel
theorem dX5_firstOpen_27 : decode cX5_firstOpen 27 = .ok (.iconst 0, 1) := by decide +kernel
theorem dX5_firstOpen_28 : decode cX5_firstOpen 28 = .ok (.istore 4, 2) := by decide +kernel
theorem dX5_firstOpen_30 : decode cX5_firstOpen 30 = .ok (.iload 4, 2) := by decide +kernel
theorem dX5_firstOpen_32 : decode cX5_firstOpen 32 = .ok (.bipush 10, 2) := by decide +kernel
theorem dX5_firstOpen_34 : decode cX5_firstOpen 34 = .ok (.if_icmp .ge 42, 3) := by decide +kernel
theorem dX5_firstOpen_37 : decode cX5_firstOpen 37 = .ok (.aload_n 0, 1) := by decide +kernel
theorem dX5_firstOpen_38 : decode cX5_firstOpen 38 = .ok (.getfield 47, 3) := by decide +kernel
theorem dX5_firstOpen_41 : decode cX5_firstOpen 41 = .ok (.iload_n 1, 1) := by decide +kernel
theorem dX5_firstOpen_42 : decode cX5_firstOpen 42 = .ok (.iload 4, 2) := by decide +kernel
theorem dX5_firstOpen_44 : decode cX5_firstOpen 44 = .ok (.invokevirtual 198, 3) := by decide +kernel
theorem dX5_firstOpen_47 : decode cX5_firstOpen 47 = .ok (.ifCond .eq 9, 3) := by decide +kernel
theorem dX5_firstOpen_50 : decode cX5_firstOpen 50 = .ok (.iload_n 3, 1) := by decide +kernel
theorem dX5_firstOpen_51 : decode cX5_firstOpen 51 = .ok (.iconst 1, 1) := by decide +kernel
theorem dX5_firstOpen_52 : decode cX5_firstOpen 52 = .ok (.iadd, 1) := by decide +kernel
theorem dX5_firstOpen_53 : decode cX5_firstOpen 53 = .ok (.goto 4, 3) := by decide +kernel
theorem dX5_firstOpen_56 : decode cX5_firstOpen 56 = .ok (.iconst 0, 1) := by decide +kernel
theorem dX5_firstOpen_57 : decode cX5_firstOpen 57 = .ok (.istore_n 3, 1) := by decide +kernel
theorem dX5_firstOpen_58 : decode cX5_firstOpen 58 = .ok (.iload_n 3, 1) := by decide +kernel
theorem dX5_firstOpen_59 : decode cX5_firstOpen 59 = .ok (.iload_n 2, 1) := by decide +kernel
theorem dX5_firstOpen_60 : decode cX5_firstOpen 60 = .ok (.if_icmp .ne 10, 3) := by decide +kernel
theorem dX5_firstOpen_63 : decode cX5_firstOpen 63 = .ok (.iload 4, 2) := by decide +kernel
theorem dX5_firstOpen_65 : decode cX5_firstOpen 65 = .ok (.iload_n 2, 1) := by decide +kernel
theorem dX5_firstOpen_66 : decode cX5_firstOpen 66 = .ok (.isub, 1) := by decide +kernel
theorem dX5_firstOpen_67 : decode cX5_firstOpen 67 = .ok (.iconst 1, 1) := by decide +kernel
theorem dX5_firstOpen_68 : decode cX5_firstOpen 68 = .ok (.iadd, 1) := by decide +kernel
theorem dX5_firstOpen_69 : decode cX5_firstOpen 69 = .ok (.ireturn, 1) := by decide +kernel
theorem dX5_firstOpen_70 : decode cX5_firstOpen 70 = .ok (.iinc 4 1, 3) := by decide +kernel
theorem dX5_firstOpen_73 : decode cX5_firstOpen 73 = .ok (.goto (-43), 3) := by decide +kernel
theorem dX5_firstOpen_76 : decode cX5_firstOpen 76 = .ok (.iconst (-1), 1) := by decide +kernel
theorem dX5_firstOpen_77 : decode cX5_firstOpen 77 = .ok (.ireturn, 1) := by decide +kernel
set_option maxRecDepth 20000 in
theorem ggX5_offer_X5_needPerson : GoodIn wsX5_offer wsX5_needPerson := goodIn_ca (goodIn_r _ [9, 10, 11] (by decide +kernel) (by decide +kernel)) (goodIn_sub (fun _ h => List.mem_cons_of_mem _ (List.mem_append_right _ h)) (by decide +kernel))
set_option maxRecDepth 20000 in
theorem gX5_offer_X5_needPerson : GoodIn wsX5_offer (va_wsS RX5 100 yX5_needPerson wsX5_needPerson) := goodIn_app (goodIn_of _ (by decide +kernel)) ggX5_offer_X5_needPerson
set_option maxRecDepth 20000 in
theorem ggX5_offer_X5_needSeat : GoodIn wsX5_offer wsX5_needSeat := goodIn_ca (goodIn_r _ [14, 10, 11] (by decide +kernel) (by decide +kernel)) (goodIn_sub (fun _ h => List.mem_cons_of_mem _ (List.mem_append_right _ h)) (by decide +kernel))
set_option maxRecDepth 20000 in
theorem gX5_offer_X5_needSeat : GoodIn wsX5_offer (va_wsS RX5 186 yX5_needSeat wsX5_needSeat) := goodIn_app (goodIn_of _ (by decide +kernel)) ggX5_offer_X5_needSeat
set_option maxRecDepth 20000 in
theorem ggX5_offer_X4_stateOf : GoodIn wsX5_offer wsX4_stateOf := goodIn_r _ [18, 19, 20, 21, 39, 40, 41, 42, 43] (by decide +kernel) (by decide +kernel)
set_option maxRecDepth 20000 in
theorem gX5_offer_X4_stateOf_n189 : GoodIn wsX5_offer (wsX4_stateOf) := ggX5_offer_X4_stateOf
set_option maxRecDepth 20000 in
theorem ggX5_offer_X4_ceilingOf : GoodIn wsX5_offer wsX4_ceilingOf := goodIn_r _ [24, 25, 39, 40, 41, 42, 43] (by decide +kernel) (by decide +kernel)
set_option maxRecDepth 20000 in
theorem gX5_offer_X4_ceilingOf_n208 : GoodIn wsX5_offer (wsX4_ceilingOf) := ggX5_offer_X4_ceilingOf
set_option maxRecDepth 20000 in
theorem ggX5_offer_X4_putUp : GoodIn wsX5_offer wsX4_putUp := goodIn_r _ [28, 21, 29, 39, 40, 41, 42, 43] (by decide +kernel) (by decide +kernel)
set_option maxRecDepth 20000 in
theorem gX5_offer_X4_putUp_n213 : GoodIn wsX5_offer (wsX4_putUp) := ggX5_offer_X4_putUp
theorem dX5_offer_0 : decode cX5_offer 0 = .ok (.iload_n 1, 1) := by decide +kernel
theorem dX5_offer_1 : decode cX5_offer 1 = .ok (.invokestatic 100, 3) := by decide +kernel
theorem dX5_offer_4 : decode cX5_offer 4 = .ok (.iload_n 2, 1) := by decide +kernel
theorem dX5_offer_5 : decode cX5_offer 5 = .ok (.invokestatic 186, 3) := by decide +kernel
theorem dX5_offer_8 : decode cX5_offer 8 = .ok (.iload_n 3, 1) := by decide +kernel
theorem dX5_offer_9 : decode cX5_offer 9 = .ok (.iconst 1, 1) := by decide +kernel
theorem dX5_offer_10 : decode cX5_offer 10 = .ok (.if_icmp .lt 10, 3) := by decide +kernel
theorem dX5_offer_13 : decode cX5_offer 13 = .ok (.iload_n 3, 1) := by decide +kernel
theorem dX5_offer_14 : decode cX5_offer 14 = .ok (.sipush 10000, 3) := by decide +kernel
theorem dX5_offer_17 : decode cX5_offer 17 = .ok (.if_icmp .le 13, 3) := by decide +kernel
theorem dX5_offer_20 : decode cX5_offer 20 = .ok (.new 58, 3) := by decide +kernel
theorem dX5_offer_23 : decode cX5_offer 23 = .ok (.dup, 1) := by decide +kernel
theorem dX5_offer_24 : decode cX5_offer 24 = .ok (.ldc 202, 2) := by decide +kernel
theorem dX5_offer_26 : decode cX5_offer 26 = .ok (.invokespecial 62, 3) := by decide +kernel
theorem dX5_offer_29 : decode cX5_offer 29 = .ok (.athrow, 1) := by decide +kernel
theorem dX5_offer_30 : decode cX5_offer 30 = .ok (.aload_n 0, 1) := by decide +kernel
theorem dX5_offer_31 : decode cX5_offer 31 = .ok (.getfield 47, 3) := by decide +kernel
theorem dX5_offer_34 : decode cX5_offer 34 = .ok (.iload_n 2, 1) := by decide +kernel
theorem dX5_offer_35 : decode cX5_offer 35 = .ok (.invokevirtual 189, 3) := by decide +kernel
theorem dX5_offer_38 : decode cX5_offer 38 = .ok (.iconst 2, 1) := by decide +kernel
theorem dX5_offer_39 : decode cX5_offer 39 = .ok (.if_icmp .eq 13, 3) := by decide +kernel
theorem dX5_offer_42 : decode cX5_offer 42 = .ok (.new 65, 3) := by decide +kernel
theorem dX5_offer_45 : decode cX5_offer 45 = .ok (.dup, 1) := by decide +kernel
theorem dX5_offer_46 : decode cX5_offer 46 = .ok (.ldc 204, 2) := by decide +kernel
theorem dX5_offer_48 : decode cX5_offer 48 = .ok (.invokespecial 69, 3) := by decide +kernel
theorem dX5_offer_51 : decode cX5_offer 51 = .ok (.athrow, 1) := by decide +kernel
theorem dX5_offer_52 : decode cX5_offer 52 = .ok (.aload_n 0, 1) := by decide +kernel
theorem dX5_offer_53 : decode cX5_offer 53 = .ok (.getfield 47, 3) := by decide +kernel
theorem dX5_offer_56 : decode cX5_offer 56 = .ok (.getfield 192, 3) := by decide +kernel
theorem dX5_offer_59 : decode cX5_offer 59 = .ok (.iload_n 2, 1) := by decide +kernel
theorem dX5_offer_60 : decode cX5_offer 60 = .ok (.iaload, 1) := by decide +kernel
theorem dX5_offer_61 : decode cX5_offer 61 = .ok (.iload_n 1, 1) := by decide +kernel
theorem dX5_offer_62 : decode cX5_offer 62 = .ok (.if_icmp .eq 13, 3) := by decide +kernel
theorem dX5_offer_65 : decode cX5_offer 65 = .ok (.new 65, 3) := by decide +kernel
theorem dX5_offer_68 : decode cX5_offer 68 = .ok (.dup, 1) := by decide +kernel
theorem dX5_offer_69 : decode cX5_offer 69 = .ok (.ldc 206, 2) := by decide +kernel
theorem dX5_offer_71 : decode cX5_offer 71 = .ok (.invokespecial 69, 3) := by decide +kernel
theorem dX5_offer_74 : decode cX5_offer 74 = .ok (.athrow, 1) := by decide +kernel
theorem dX5_offer_75 : decode cX5_offer 75 = .ok (.aload_n 0, 1) := by decide +kernel
theorem dX5_offer_76 : decode cX5_offer 76 = .ok (.getfield 47, 3) := by decide +kernel
theorem dX5_offer_79 : decode cX5_offer 79 = .ok (.iload_n 2, 1) := by decide +kernel
theorem dX5_offer_80 : decode cX5_offer 80 = .ok (.invokevirtual 208, 3) := by decide +kernel
theorem dX5_offer_83 : decode cX5_offer 83 = .ok (.istore 4, 2) := by decide +kernel
theorem dX5_offer_85 : decode cX5_offer 85 = .ok (.iload_n 3, 1) := by decide +kernel
theorem dX5_offer_86 : decode cX5_offer 86 = .ok (.iload 4, 2) := by decide +kernel
theorem dX5_offer_88 : decode cX5_offer 88 = .ok (.if_icmp .le 13, 3) := by decide +kernel
theorem dX5_offer_91 : decode cX5_offer 91 = .ok (.new 65, 3) := by decide +kernel
theorem dX5_offer_94 : decode cX5_offer 94 = .ok (.dup, 1) := by decide +kernel
theorem dX5_offer_95 : decode cX5_offer 95 = .ok (.ldc 211, 2) := by decide +kernel
theorem dX5_offer_97 : decode cX5_offer 97 = .ok (.invokespecial 69, 3) := by decide +kernel
theorem dX5_offer_100 : decode cX5_offer 100 = .ok (.athrow, 1) := by decide +kernel
theorem dX5_offer_101 : decode cX5_offer 101 = .ok (.aload_n 0, 1) := by decide +kernel
theorem dX5_offer_102 : decode cX5_offer 102 = .ok (.getfield 47, 3) := by decide +kernel
theorem dX5_offer_105 : decode cX5_offer 105 = .ok (.iload_n 2, 1) := by decide +kernel
theorem dX5_offer_106 : decode cX5_offer 106 = .ok (.iload_n 3, 1) := by decide +kernel
theorem dX5_offer_107 : decode cX5_offer 107 = .ok (.invokevirtual 213, 3) := by decide +kernel
theorem dX5_offer_110 : decode cX5_offer 110 = .ok (.iload 4, 2) := by decide +kernel
theorem dX5_offer_112 : decode cX5_offer 112 = .ok (.ireturn, 1) := by decide +kernel
set_option maxRecDepth 20000 in
theorem ggX5_retract_X5_needSeat : GoodIn wsX5_retract wsX5_needSeat := goodIn_ca (goodIn_r _ [7, 8, 9] (by decide +kernel) (by decide +kernel)) (goodIn_sub (fun _ h => List.mem_cons_of_mem _ (List.mem_append_right _ h)) (by decide +kernel))
set_option maxRecDepth 20000 in
theorem gX5_retract_X5_needSeat : GoodIn wsX5_retract (va_wsS RX5 186 yX5_needSeat wsX5_needSeat) := goodIn_app (goodIn_of _ (by decide +kernel)) ggX5_retract_X5_needSeat
set_option maxRecDepth 20000 in
theorem ggX5_retract_X4_stateOf : GoodIn wsX5_retract wsX4_stateOf := goodIn_r _ [13, 14, 15, 16, 26, 27, 28, 29, 30] (by decide +kernel) (by decide +kernel)
set_option maxRecDepth 20000 in
theorem gX5_retract_X4_stateOf_n189 : GoodIn wsX5_retract (wsX4_stateOf) := ggX5_retract_X4_stateOf
theorem dX5_retract_0 : decode cX5_retract 0 = .ok (.iload_n 1, 1) := by decide +kernel
theorem dX5_retract_1 : decode cX5_retract 1 = .ok (.invokestatic 186, 3) := by decide +kernel
theorem dX5_retract_4 : decode cX5_retract 4 = .ok (.aload_n 0, 1) := by decide +kernel
theorem dX5_retract_5 : decode cX5_retract 5 = .ok (.getfield 47, 3) := by decide +kernel
theorem dX5_retract_8 : decode cX5_retract 8 = .ok (.iload_n 1, 1) := by decide +kernel
theorem dX5_retract_9 : decode cX5_retract 9 = .ok (.invokevirtual 189, 3) := by decide +kernel
theorem dX5_retract_12 : decode cX5_retract 12 = .ok (.iconst 3, 1) := by decide +kernel
theorem dX5_retract_13 : decode cX5_retract 13 = .ok (.if_icmp .eq 13, 3) := by decide +kernel
theorem dX5_retract_16 : decode cX5_retract 16 = .ok (.new 65, 3) := by decide +kernel
theorem dX5_retract_19 : decode cX5_retract 19 = .ok (.dup, 1) := by decide +kernel
theorem dX5_retract_20 : decode cX5_retract 20 = .ok (.ldc 216, 2) := by decide +kernel
theorem dX5_retract_22 : decode cX5_retract 22 = .ok (.invokespecial 69, 3) := by decide +kernel
theorem dX5_retract_25 : decode cX5_retract 25 = .ok (.athrow, 1) := by decide +kernel
theorem dX5_retract_26 : decode cX5_retract 26 = .ok (.aload_n 0, 1) := by decide +kernel
theorem dX5_retract_27 : decode cX5_retract 27 = .ok (.getfield 47, 3) := by decide +kernel
theorem dX5_retract_30 : decode cX5_retract 30 = .ok (.getfield 218, 3) := by decide +kernel
theorem dX5_retract_33 : decode cX5_retract 33 = .ok (.iload_n 1, 1) := by decide +kernel
theorem dX5_retract_34 : decode cX5_retract 34 = .ok (.iconst 0, 1) := by decide +kernel
theorem dX5_retract_35 : decode cX5_retract 35 = .ok (.bastore, 1) := by decide +kernel
theorem dX5_retract_36 : decode cX5_retract 36 = .ok (.aload_n 0, 1) := by decide +kernel
theorem dX5_retract_37 : decode cX5_retract 37 = .ok (.getfield 47, 3) := by decide +kernel
theorem dX5_retract_40 : decode cX5_retract 40 = .ok (.getfield 222, 3) := by decide +kernel
theorem dX5_retract_43 : decode cX5_retract 43 = .ok (.iload_n 1, 1) := by decide +kernel
theorem dX5_retract_44 : decode cX5_retract 44 = .ok (.iaload, 1) := by decide +kernel
theorem dX5_retract_45 : decode cX5_retract 45 = .ok (.ireturn, 1) := by decide +kernel
set_option maxRecDepth 20000 in
theorem ggX5_spent_X5_needPerson : GoodIn wsX5_spent wsX5_needPerson := goodIn_ca (goodIn_r _ [5, 6, 7] (by decide +kernel) (by decide +kernel)) (goodIn_sub (fun _ h => List.mem_cons_of_mem _ (List.mem_append_right _ h)) (by decide +kernel))
set_option maxRecDepth 20000 in
theorem gX5_spent_X5_needPerson : GoodIn wsX5_spent (va_wsS RX5 100 yX5_needPerson wsX5_needPerson) := goodIn_app (goodIn_of _ (by decide +kernel)) ggX5_spent_X5_needPerson
theorem dX5_spent_0 : decode cX5_spent 0 = .ok (.iload_n 1, 1) := by decide +kernel
theorem dX5_spent_1 : decode cX5_spent 1 = .ok (.invokestatic 100, 3) := by decide +kernel
theorem dX5_spent_4 : decode cX5_spent 4 = .ok (.aload_n 0, 1) := by decide +kernel
theorem dX5_spent_5 : decode cX5_spent 5 = .ok (.getfield 19, 3) := by decide +kernel
theorem dX5_spent_8 : decode cX5_spent 8 = .ok (.iload_n 1, 1) := by decide +kernel
theorem dX5_spent_9 : decode cX5_spent 9 = .ok (.iaload, 1) := by decide +kernel
theorem dX5_spent_10 : decode cX5_spent 10 = .ok (.ireturn, 1) := by decide +kernel
theorem dX5_takings_0 : decode cX5_takings 0 = .ok (.aload_n 0, 1) := by decide +kernel
theorem dX5_takings_1 : decode cX5_takings 1 = .ok (.getfield 16, 3) := by decide +kernel
theorem dX5_takings_4 : decode cX5_takings 4 = .ok (.ireturn, 1) := by decide +kernel
theorem dX5_needPerson_0 : decode cX5_needPerson 0 = .ok (.iload_n 0, 1) := by decide +kernel
theorem dX5_needPerson_1 : decode cX5_needPerson 1 = .ok (.ifCond .lt 9, 3) := by decide +kernel
theorem dX5_needPerson_4 : decode cX5_needPerson 4 = .ok (.iload_n 0, 1) := by decide +kernel
theorem dX5_needPerson_5 : decode cX5_needPerson 5 = .ok (.bipush 8, 2) := by decide +kernel
theorem dX5_needPerson_7 : decode cX5_needPerson 7 = .ok (.if_icmp .lt 13, 3) := by decide +kernel
theorem dX5_needPerson_10 : decode cX5_needPerson 10 = .ok (.new 129, 3) := by decide +kernel
theorem dX5_needPerson_13 : decode cX5_needPerson 13 = .ok (.dup, 1) := by decide +kernel
theorem dX5_needPerson_14 : decode cX5_needPerson 14 = .ok (.ldc 225, 2) := by decide +kernel
theorem dX5_needPerson_16 : decode cX5_needPerson 16 = .ok (.invokespecial 133, 3) := by decide +kernel
theorem dX5_needPerson_19 : decode cX5_needPerson 19 = .ok (.athrow, 1) := by decide +kernel
theorem dX5_needPerson_20 : decode cX5_needPerson 20 = .ok (.return_, 1) := by decide +kernel
theorem dX5_needRow_0 : decode cX5_needRow 0 = .ok (.iload_n 0, 1) := by decide +kernel
theorem dX5_needRow_1 : decode cX5_needRow 1 = .ok (.ifCond .lt 9, 3) := by decide +kernel
theorem dX5_needRow_4 : decode cX5_needRow 4 = .ok (.iload_n 0, 1) := by decide +kernel
theorem dX5_needRow_5 : decode cX5_needRow 5 = .ok (.bipush 6, 2) := by decide +kernel
theorem dX5_needRow_7 : decode cX5_needRow 7 = .ok (.if_icmp .lt 13, 3) := by decide +kernel
theorem dX5_needRow_10 : decode cX5_needRow 10 = .ok (.new 129, 3) := by decide +kernel
theorem dX5_needRow_13 : decode cX5_needRow 13 = .ok (.dup, 1) := by decide +kernel
theorem dX5_needRow_14 : decode cX5_needRow 14 = .ok (.ldc 227, 2) := by decide +kernel
theorem dX5_needRow_16 : decode cX5_needRow 16 = .ok (.invokespecial 133, 3) := by decide +kernel
theorem dX5_needRow_19 : decode cX5_needRow 19 = .ok (.athrow, 1) := by decide +kernel
theorem dX5_needRow_20 : decode cX5_needRow 20 = .ok (.return_, 1) := by decide +kernel
theorem dX5_needSeat_0 : decode cX5_needSeat 0 = .ok (.iload_n 0, 1) := by decide +kernel
theorem dX5_needSeat_1 : decode cX5_needSeat 1 = .ok (.ifCond .lt 9, 3) := by decide +kernel
theorem dX5_needSeat_4 : decode cX5_needSeat 4 = .ok (.iload_n 0, 1) := by decide +kernel
theorem dX5_needSeat_5 : decode cX5_needSeat 5 = .ok (.bipush 60, 2) := by decide +kernel
theorem dX5_needSeat_7 : decode cX5_needSeat 7 = .ok (.if_icmp .lt 13, 3) := by decide +kernel
theorem dX5_needSeat_10 : decode cX5_needSeat 10 = .ok (.new 129, 3) := by decide +kernel
theorem dX5_needSeat_13 : decode cX5_needSeat 13 = .ok (.dup, 1) := by decide +kernel
theorem dX5_needSeat_14 : decode cX5_needSeat 14 = .ok (.ldc 229, 2) := by decide +kernel
theorem dX5_needSeat_16 : decode cX5_needSeat 16 = .ok (.invokespecial 133, 3) := by decide +kernel
theorem dX5_needSeat_19 : decode cX5_needSeat 19 = .ok (.athrow, 1) := by decide +kernel
theorem dX5_needSeat_20 : decode cX5_needSeat 20 = .ok (.return_, 1) := by decide +kernel
theorem dX5_needCode_0 : decode cX5_needCode 0 = .ok (.iload_n 1, 1) := by decide +kernel
theorem dX5_needCode_1 : decode cX5_needCode 1 = .ok (.ifCond .lt 14, 3) := by decide +kernel
theorem dX5_needCode_4 : decode cX5_needCode 4 = .ok (.iload_n 1, 1) := by decide +kernel
theorem dX5_needCode_5 : decode cX5_needCode 5 = .ok (.aload_n 0, 1) := by decide +kernel
theorem dX5_needCode_6 : decode cX5_needCode 6 = .ok (.getfield 26, 3) := by decide +kernel
theorem dX5_needCode_9 : decode cX5_needCode 9 = .ok (.getfield 87, 3) := by decide +kernel
theorem dX5_needCode_12 : decode cX5_needCode 12 = .ok (.if_icmp .lt 13, 3) := by decide +kernel
theorem dX5_needCode_15 : decode cX5_needCode 15 = .ok (.new 129, 3) := by decide +kernel
theorem dX5_needCode_18 : decode cX5_needCode 18 = .ok (.dup, 1) := by decide +kernel
theorem dX5_needCode_19 : decode cX5_needCode 19 = .ok (.ldc 231, 2) := by decide +kernel
theorem dX5_needCode_21 : decode cX5_needCode 21 = .ok (.invokespecial 133, 3) := by decide +kernel
theorem dX5_needCode_24 : decode cX5_needCode 24 = .ok (.athrow, 1) := by decide +kernel
theorem dX5_needCode_25 : decode cX5_needCode 25 = .ok (.return_, 1) := by decide +kernel
set_option maxRecDepth 20000 in
theorem ggX5_needHold_X1_isThere : GoodIn wsX5_needHold wsX1_isThere := goodIn_r _ [7, 8, 18, 19, 20, 21, 22, 23, 24] (by decide +kernel) (by decide +kernel)
set_option maxRecDepth 20000 in
theorem gX5_needHold_X1_isThere_n70 : GoodIn wsX5_needHold (wsX1_isThere) := ggX5_needHold_X1_isThere
theorem dX5_needHold_0 : decode cX5_needHold 0 = .ok (.aload_n 0, 1) := by decide +kernel
theorem dX5_needHold_1 : decode cX5_needHold 1 = .ok (.getfield 40, 3) := by decide +kernel
theorem dX5_needHold_4 : decode cX5_needHold 4 = .ok (.iload_n 1, 1) := by decide +kernel
theorem dX5_needHold_5 : decode cX5_needHold 5 = .ok (.invokevirtual 70, 3) := by decide +kernel
theorem dX5_needHold_8 : decode cX5_needHold 8 = .ok (.ifCond .ne 13, 3) := by decide +kernel
theorem dX5_needHold_11 : decode cX5_needHold 11 = .ok (.new 65, 3) := by decide +kernel
theorem dX5_needHold_14 : decode cX5_needHold 14 = .ok (.dup, 1) := by decide +kernel
theorem dX5_needHold_15 : decode cX5_needHold 15 = .ok (.ldc 233, 2) := by decide +kernel
theorem dX5_needHold_17 : decode cX5_needHold 17 = .ok (.invokespecial 69, 3) := by decide +kernel
theorem dX5_needHold_20 : decode cX5_needHold 20 = .ok (.athrow, 1) := by decide +kernel
theorem dX5_needHold_21 : decode cX5_needHold 21 = .ok (.return_, 1) := by decide +kernel
set_option maxRecDepth 20000 in
theorem ggX5_needSeatsFor_X4_isOpen : GoodIn wsX5_needSeatsFor wsX4_isOpen := goodIn_r _ [7, 8, 9, 10, 5, 11, 12, 13, 14, 28, 29, 30, 31, 32] (by decide +kernel) (by decide +kernel)
set_option maxRecDepth 20000 in
theorem gX5_needSeatsFor_X4_isOpen_n198 : GoodIn wsX5_needSeatsFor (wsX4_isOpen) := ggX5_needSeatsFor_X4_isOpen
set_option maxRecDepth 20000 in
theorem ggX5_needSeatsFor_X4_leavesSingle : GoodIn wsX5_needSeatsFor wsX4_leavesSingle := goodIn_r _ [17, 18, 4, 6, 5, 7, 8, 9, 10, 11, 12, 13, 14, 28, 29, 30, 31, 32] (by decide +kernel) (by decide +kernel)
set_option maxRecDepth 20000 in
theorem gX5_needSeatsFor_X4_leavesSingle_n239 : GoodIn wsX5_needSeatsFor (wsX4_leavesSingle) := ggX5_needSeatsFor_X4_leavesSingle
theorem dX5_needSeatsFor_0 : decode cX5_needSeatsFor 0 = .ok (.iload_n 3, 1) := by decide +kernel
theorem dX5_needSeatsFor_1 : decode cX5_needSeatsFor 1 = .ok (.istore 5, 2) := by decide +kernel
theorem dX5_needSeatsFor_3 : decode cX5_needSeatsFor 3 = .ok (.iload 5, 2) := by decide +kernel
theorem dX5_needSeatsFor_5 : decode cX5_needSeatsFor 5 = .ok (.iload_n 3, 1) := by decide +kernel
theorem dX5_needSeatsFor_6 : decode cX5_needSeatsFor 6 = .ok (.iload 4, 2) := by decide +kernel
theorem dX5_needSeatsFor_8 : decode cX5_needSeatsFor 8 = .ok (.iadd, 1) := by decide +kernel
theorem dX5_needSeatsFor_9 : decode cX5_needSeatsFor 9 = .ok (.if_icmp .ge 61, 3) := by decide +kernel
theorem dX5_needSeatsFor_12 : decode cX5_needSeatsFor 12 = .ok (.aload_n 0, 1) := by decide +kernel
theorem dX5_needSeatsFor_13 : decode cX5_needSeatsFor 13 = .ok (.getfield 47, 3) := by decide +kernel
theorem dX5_needSeatsFor_16 : decode cX5_needSeatsFor 16 = .ok (.iload_n 2, 1) := by decide +kernel
theorem dX5_needSeatsFor_17 : decode cX5_needSeatsFor 17 = .ok (.iload 5, 2) := by decide +kernel
theorem dX5_needSeatsFor_19 : decode cX5_needSeatsFor 19 = .ok (.invokevirtual 198, 3) := by decide +kernel
theorem dX5_needSeatsFor_22 : decode cX5_needSeatsFor 22 = .ok (.ifCond .ne 13, 3) := by decide +kernel
theorem dX5_needSeatsFor_25 : decode cX5_needSeatsFor 25 = .ok (.new 65, 3) := by decide +kernel
theorem dX5_needSeatsFor_28 : decode cX5_needSeatsFor 28 = .ok (.dup, 1) := by decide +kernel
theorem dX5_needSeatsFor_29 : decode cX5_needSeatsFor 29 = .ok (.ldc 235, 2) := by decide +kernel
theorem dX5_needSeatsFor_31 : decode cX5_needSeatsFor 31 = .ok (.invokespecial 69, 3) := by decide +kernel
theorem dX5_needSeatsFor_34 : decode cX5_needSeatsFor 34 = .ok (.athrow, 1) := by decide +kernel
theorem dX5_needSeatsFor_35 : decode cX5_needSeatsFor 35 = .ok (.aload_n 0, 1) := by decide +kernel
theorem dX5_needSeatsFor_36 : decode cX5_needSeatsFor 36 = .ok (.getfield 47, 3) := by decide +kernel
theorem dX5_needSeatsFor_39 : decode cX5_needSeatsFor 39 = .ok (.getfield 192, 3) := by decide +kernel
theorem dX5_needSeatsFor_42 : decode cX5_needSeatsFor 42 = .ok (.bipush 10, 2) := by decide +kernel
theorem dX5_needSeatsFor_44 : decode cX5_needSeatsFor 44 = .ok (.iload_n 2, 1) := by decide +kernel
theorem dX5_needSeatsFor_45 : decode cX5_needSeatsFor 45 = .ok (.imul, 1) := by decide +kernel
theorem dX5_needSeatsFor_46 : decode cX5_needSeatsFor 46 = .ok (.iload 5, 2) := by decide +kernel
theorem dX5_needSeatsFor_48 : decode cX5_needSeatsFor 48 = .ok (.iadd, 1) := by decide +kernel
theorem dX5_needSeatsFor_49 : decode cX5_needSeatsFor 49 = .ok (.iaload, 1) := by decide +kernel
theorem dX5_needSeatsFor_50 : decode cX5_needSeatsFor 50 = .ok (.iload_n 1, 1) := by decide +kernel
theorem dX5_needSeatsFor_51 : decode cX5_needSeatsFor 51 = .ok (.if_icmp .ne 13, 3) := by decide +kernel
theorem dX5_needSeatsFor_54 : decode cX5_needSeatsFor 54 = .ok (.new 65, 3) := by decide +kernel
theorem dX5_needSeatsFor_57 : decode cX5_needSeatsFor 57 = .ok (.dup, 1) := by decide +kernel
theorem dX5_needSeatsFor_58 : decode cX5_needSeatsFor 58 = .ok (.ldc 237, 2) := by decide +kernel
theorem dX5_needSeatsFor_60 : decode cX5_needSeatsFor 60 = .ok (.invokespecial 69, 3) := by decide +kernel
theorem dX5_needSeatsFor_63 : decode cX5_needSeatsFor 63 = .ok (.athrow, 1) := by decide +kernel
theorem dX5_needSeatsFor_64 : decode cX5_needSeatsFor 64 = .ok (.iinc 5 1, 3) := by decide +kernel
theorem dX5_needSeatsFor_67 : decode cX5_needSeatsFor 67 = .ok (.goto (-64), 3) := by decide +kernel
theorem dX5_needSeatsFor_70 : decode cX5_needSeatsFor 70 = .ok (.aload_n 0, 1) := by decide +kernel
theorem dX5_needSeatsFor_71 : decode cX5_needSeatsFor 71 = .ok (.getfield 47, 3) := by decide +kernel
theorem dX5_needSeatsFor_74 : decode cX5_needSeatsFor 74 = .ok (.iload_n 2, 1) := by decide +kernel
theorem dX5_needSeatsFor_75 : decode cX5_needSeatsFor 75 = .ok (.iload_n 3, 1) := by decide +kernel
theorem dX5_needSeatsFor_76 : decode cX5_needSeatsFor 76 = .ok (.iload 4, 2) := by decide +kernel
theorem dX5_needSeatsFor_78 : decode cX5_needSeatsFor 78 = .ok (.invokevirtual 239, 3) := by decide +kernel
theorem dX5_needSeatsFor_81 : decode cX5_needSeatsFor 81 = .ok (.ifCond .eq 13, 3) := by decide +kernel
theorem dX5_needSeatsFor_84 : decode cX5_needSeatsFor 84 = .ok (.new 65, 3) := by decide +kernel
theorem dX5_needSeatsFor_87 : decode cX5_needSeatsFor 87 = .ok (.dup, 1) := by decide +kernel
theorem dX5_needSeatsFor_88 : decode cX5_needSeatsFor 88 = .ok (.ldc 243, 2) := by decide +kernel
theorem dX5_needSeatsFor_90 : decode cX5_needSeatsFor 90 = .ok (.invokespecial 69, 3) := by decide +kernel
theorem dX5_needSeatsFor_93 : decode cX5_needSeatsFor 93 = .ok (.athrow, 1) := by decide +kernel
theorem dX5_needSeatsFor_94 : decode cX5_needSeatsFor 94 = .ok (.return_, 1) := by decide +kernel
set_option maxRecDepth 20000 in
theorem ggX5_needRightFor_X0_haveRoom : GoodIn wsX5_needRightFor wsX0_haveRoom := goodIn_r _ [9, 10, 11, 12, 13, 14, 7, 15, 16, 26, 27, 28, 29] (by decide +kernel) (by decide +kernel)
set_option maxRecDepth 20000 in
theorem gX5_needRightFor_X0_haveRoom_n247 : GoodIn wsX5_needRightFor (wsX0_haveRoom) := ggX5_needRightFor_X0_haveRoom
theorem dX5_needRightFor_0 : decode cX5_needRightFor 0 = .ok (.iload_n 3, 1) := by decide +kernel
theorem dX5_needRightFor_1 : decode cX5_needRightFor 1 = .ok (.iconst (-1), 1) := by decide +kernel
theorem dX5_needRightFor_2 : decode cX5_needRightFor 2 = .ok (.if_icmp .ne 24, 3) := by decide +kernel
theorem dX5_needRightFor_5 : decode cX5_needRightFor 5 = .ok (.aload_n 0, 1) := by decide +kernel
theorem dX5_needRightFor_6 : decode cX5_needRightFor 6 = .ok (.getfield 9, 3) := by decide +kernel
theorem dX5_needRightFor_9 : decode cX5_needRightFor 9 = .ok (.aload_n 0, 1) := by decide +kernel
theorem dX5_needRightFor_10 : decode cX5_needRightFor 10 = .ok (.getfield 13, 3) := by decide +kernel
theorem dX5_needRightFor_13 : decode cX5_needRightFor 13 = .ok (.if_icmp .ge 36, 3) := by decide +kernel
theorem dX5_needRightFor_16 : decode cX5_needRightFor 16 = .ok (.new 65, 3) := by decide +kernel
theorem dX5_needRightFor_19 : decode cX5_needRightFor 19 = .ok (.dup, 1) := by decide +kernel
theorem dX5_needRightFor_20 : decode cX5_needRightFor 20 = .ok (.ldc 245, 2) := by decide +kernel
theorem dX5_needRightFor_22 : decode cX5_needRightFor 22 = .ok (.invokespecial 69, 3) := by decide +kernel
theorem dX5_needRightFor_25 : decode cX5_needRightFor 25 = .ok (.athrow, 1) := by decide +kernel
theorem dX5_needRightFor_26 : decode cX5_needRightFor 26 = .ok (.aload_n 0, 1) := by decide +kernel
theorem dX5_needRightFor_27 : decode cX5_needRightFor 27 = .ok (.getfield 26, 3) := by decide +kernel
theorem dX5_needRightFor_30 : decode cX5_needRightFor 30 = .ok (.iload_n 3, 1) := by decide +kernel
theorem dX5_needRightFor_31 : decode cX5_needRightFor 31 = .ok (.iload_n 1, 1) := by decide +kernel
theorem dX5_needRightFor_32 : decode cX5_needRightFor 32 = .ok (.iload_n 2, 1) := by decide +kernel
theorem dX5_needRightFor_33 : decode cX5_needRightFor 33 = .ok (.invokevirtual 247, 3) := by decide +kernel
theorem dX5_needRightFor_36 : decode cX5_needRightFor 36 = .ok (.ifCond .ne 13, 3) := by decide +kernel
theorem dX5_needRightFor_39 : decode cX5_needRightFor 39 = .ok (.new 65, 3) := by decide +kernel
theorem dX5_needRightFor_42 : decode cX5_needRightFor 42 = .ok (.dup, 1) := by decide +kernel
theorem dX5_needRightFor_43 : decode cX5_needRightFor 43 = .ok (.ldc 250, 2) := by decide +kernel
theorem dX5_needRightFor_45 : decode cX5_needRightFor 45 = .ok (.invokespecial 69, 3) := by decide +kernel
theorem dX5_needRightFor_48 : decode cX5_needRightFor 48 = .ok (.athrow, 1) := by decide +kernel
theorem dX5_needRightFor_49 : decode cX5_needRightFor 49 = .ok (.return_, 1) := by decide +kernel
set_option maxRecDepth 20000 in
theorem ggX5_giveBack_X0_tally : GoodIn wsX5_giveBack wsX0_tally := goodIn_r _ [8, 9, 36, 37, 38, 39] (by decide +kernel) (by decide +kernel)
set_option maxRecDepth 20000 in
theorem gX5_giveBack_X0_tally_n157 : GoodIn wsX5_giveBack (wsX0_tally) := ggX5_giveBack_X0_tally
set_option maxRecDepth 20000 in
theorem ggX5_giveBack_X4_unlock : GoodIn wsX5_giveBack wsX4_unlock := goodIn_r _ [13, 14, 40, 41, 42, 43, 44] (by decide +kernel) (by decide +kernel)
set_option maxRecDepth 20000 in
theorem gX5_giveBack_X4_unlock_n261 : GoodIn wsX5_giveBack (wsX4_unlock) := ggX5_giveBack_X4_unlock
set_option maxRecDepth 20000 in
theorem ggX5_giveBack_X1_end : GoodIn wsX5_giveBack wsX1_end := goodIn_r _ [18, 19, 29, 30, 31, 32, 33, 34, 35] (by decide +kernel) (by decide +kernel)
set_option maxRecDepth 20000 in
theorem gX5_giveBack_X1_end_n264 : GoodIn wsX5_giveBack (wsX1_end) := ggX5_giveBack_X1_end
theorem dX5_giveBack_0 : decode cX5_giveBack 0 = .ok (.aload_n 0, 1) := by decide +kernel
theorem dX5_giveBack_1 : decode cX5_giveBack 1 = .ok (.getfield 40, 3) := by decide +kernel
theorem dX5_giveBack_4 : decode cX5_giveBack 4 = .ok (.getfield 177, 3) := by decide +kernel
theorem dX5_giveBack_7 : decode cX5_giveBack 7 = .ok (.iload_n 1, 1) := by decide +kernel
theorem dX5_giveBack_8 : decode cX5_giveBack 8 = .ok (.iaload, 1) := by decide +kernel
theorem dX5_giveBack_9 : decode cX5_giveBack 9 = .ok (.istore_n 2, 1) := by decide +kernel
theorem dX5_giveBack_10 : decode cX5_giveBack 10 = .ok (.aload_n 0, 1) := by decide +kernel
theorem dX5_giveBack_11 : decode cX5_giveBack 11 = .ok (.getfield 19, 3) := by decide +kernel
theorem dX5_giveBack_14 : decode cX5_giveBack 14 = .ok (.iload_n 1, 1) := by decide +kernel
theorem dX5_giveBack_15 : decode cX5_giveBack 15 = .ok (.dup2, 1) := by decide +kernel
theorem dX5_giveBack_16 : decode cX5_giveBack 16 = .ok (.iaload, 1) := by decide +kernel
theorem dX5_giveBack_17 : decode cX5_giveBack 17 = .ok (.iload_n 2, 1) := by decide +kernel
theorem dX5_giveBack_18 : decode cX5_giveBack 18 = .ok (.isub, 1) := by decide +kernel
theorem dX5_giveBack_19 : decode cX5_giveBack 19 = .ok (.iastore, 1) := by decide +kernel
theorem dX5_giveBack_20 : decode cX5_giveBack 20 = .ok (.aload_n 0, 1) := by decide +kernel
theorem dX5_giveBack_21 : decode cX5_giveBack 21 = .ok (.getfield 26, 3) := by decide +kernel
theorem dX5_giveBack_24 : decode cX5_giveBack 24 = .ok (.aload_n 0, 1) := by decide +kernel
theorem dX5_giveBack_25 : decode cX5_giveBack 25 = .ok (.getfield 40, 3) := by decide +kernel
theorem dX5_giveBack_28 : decode cX5_giveBack 28 = .ok (.getfield 252, 3) := by decide +kernel
theorem dX5_giveBack_31 : decode cX5_giveBack 31 = .ok (.iload_n 1, 1) := by decide +kernel
theorem dX5_giveBack_32 : decode cX5_giveBack 32 = .ok (.iaload, 1) := by decide +kernel
theorem dX5_giveBack_33 : decode cX5_giveBack 33 = .ok (.iload_n 1, 1) := by decide +kernel
theorem dX5_giveBack_34 : decode cX5_giveBack 34 = .ok (.aload_n 0, 1) := by decide +kernel
theorem dX5_giveBack_35 : decode cX5_giveBack 35 = .ok (.getfield 40, 3) := by decide +kernel
theorem dX5_giveBack_38 : decode cX5_giveBack 38 = .ok (.getfield 255, 3) := by decide +kernel
theorem dX5_giveBack_41 : decode cX5_giveBack 41 = .ok (.iload_n 1, 1) := by decide +kernel
theorem dX5_giveBack_42 : decode cX5_giveBack 42 = .ok (.iaload, 1) := by decide +kernel
theorem dX5_giveBack_43 : decode cX5_giveBack 43 = .ok (.ineg, 1) := by decide +kernel
theorem dX5_giveBack_44 : decode cX5_giveBack 44 = .ok (.invokevirtual 157, 3) := by decide +kernel
theorem dX5_giveBack_47 : decode cX5_giveBack 47 = .ok (.aload_n 0, 1) := by decide +kernel
theorem dX5_giveBack_48 : decode cX5_giveBack 48 = .ok (.getfield 47, 3) := by decide +kernel
theorem dX5_giveBack_51 : decode cX5_giveBack 51 = .ok (.aload_n 0, 1) := by decide +kernel
theorem dX5_giveBack_52 : decode cX5_giveBack 52 = .ok (.getfield 40, 3) := by decide +kernel
theorem dX5_giveBack_55 : decode cX5_giveBack 55 = .ok (.getfield 258, 3) := by decide +kernel
theorem dX5_giveBack_58 : decode cX5_giveBack 58 = .ok (.iload_n 1, 1) := by decide +kernel
theorem dX5_giveBack_59 : decode cX5_giveBack 59 = .ok (.iaload, 1) := by decide +kernel
theorem dX5_giveBack_60 : decode cX5_giveBack 60 = .ok (.aload_n 0, 1) := by decide +kernel
theorem dX5_giveBack_61 : decode cX5_giveBack 61 = .ok (.getfield 40, 3) := by decide +kernel
theorem dX5_giveBack_64 : decode cX5_giveBack 64 = .ok (.getfield 255, 3) := by decide +kernel
theorem dX5_giveBack_67 : decode cX5_giveBack 67 = .ok (.iload_n 1, 1) := by decide +kernel
theorem dX5_giveBack_68 : decode cX5_giveBack 68 = .ok (.iaload, 1) := by decide +kernel
theorem dX5_giveBack_69 : decode cX5_giveBack 69 = .ok (.invokevirtual 261, 3) := by decide +kernel
theorem dX5_giveBack_72 : decode cX5_giveBack 72 = .ok (.aload_n 0, 1) := by decide +kernel
theorem dX5_giveBack_73 : decode cX5_giveBack 73 = .ok (.getfield 40, 3) := by decide +kernel
theorem dX5_giveBack_76 : decode cX5_giveBack 76 = .ok (.iload_n 1, 1) := by decide +kernel
theorem dX5_giveBack_77 : decode cX5_giveBack 77 = .ok (.invokevirtual 264, 3) := by decide +kernel
theorem dX5_giveBack_80 : decode cX5_giveBack 80 = .ok (.iload_n 2, 1) := by decide +kernel
theorem dX5_giveBack_81 : decode cX5_giveBack 81 = .ok (.ireturn, 1) := by decide +kernel
set_option maxRecDepth 20000 in
theorem ggX5_sell_X4_giveTo : GoodIn wsX5_sell wsX4_giveTo := goodIn_r _ [9, 10, 11, 12, 13, 14, 44, 45, 46, 47, 48] (by decide +kernel) (by decide +kernel)
set_option maxRecDepth 20000 in
theorem gX5_sell_X4_giveTo_n267 : GoodIn wsX5_sell (wsX4_giveTo) := ggX5_sell_X4_giveTo
set_option maxRecDepth 20000 in
theorem ggX5_sell_X3_add : GoodIn wsX5_sell wsX3_add := goodIn_r _ [18, 19, 20, 21, 22, 49, 50, 51, 52] (by decide +kernel) (by decide +kernel)
set_option maxRecDepth 20000 in
theorem gX5_sell_X3_add_n270 : GoodIn wsX5_sell (wsX3_add) := ggX5_sell_X3_add
set_option maxRecDepth 20000 in
theorem ggX5_sell_X1_end : GoodIn wsX5_sell wsX1_end := goodIn_r _ [26, 27, 37, 38, 39, 40, 41, 42, 43] (by decide +kernel) (by decide +kernel)
set_option maxRecDepth 20000 in
theorem gX5_sell_X1_end_n264 : GoodIn wsX5_sell (wsX1_end) := ggX5_sell_X1_end
theorem dX5_sell_0 : decode cX5_sell 0 = .ok (.aload_n 0, 1) := by decide +kernel
theorem dX5_sell_1 : decode cX5_sell 1 = .ok (.getfield 40, 3) := by decide +kernel
theorem dX5_sell_4 : decode cX5_sell 4 = .ok (.getfield 258, 3) := by decide +kernel
theorem dX5_sell_7 : decode cX5_sell 7 = .ok (.iload_n 1, 1) := by decide +kernel
theorem dX5_sell_8 : decode cX5_sell 8 = .ok (.iaload, 1) := by decide +kernel
theorem dX5_sell_9 : decode cX5_sell 9 = .ok (.istore_n 2, 1) := by decide +kernel
theorem dX5_sell_10 : decode cX5_sell 10 = .ok (.aload_n 0, 1) := by decide +kernel
theorem dX5_sell_11 : decode cX5_sell 11 = .ok (.getfield 40, 3) := by decide +kernel
theorem dX5_sell_14 : decode cX5_sell 14 = .ok (.getfield 255, 3) := by decide +kernel
theorem dX5_sell_17 : decode cX5_sell 17 = .ok (.iload_n 1, 1) := by decide +kernel
theorem dX5_sell_18 : decode cX5_sell 18 = .ok (.iaload, 1) := by decide +kernel
theorem dX5_sell_19 : decode cX5_sell 19 = .ok (.istore_n 3, 1) := by decide +kernel
theorem dX5_sell_20 : decode cX5_sell 20 = .ok (.iload_n 2, 1) := by decide +kernel
theorem dX5_sell_21 : decode cX5_sell 21 = .ok (.istore 4, 2) := by decide +kernel
theorem dX5_sell_23 : decode cX5_sell 23 = .ok (.iload 4, 2) := by decide +kernel
theorem dX5_sell_25 : decode cX5_sell 25 = .ok (.iload_n 2, 1) := by decide +kernel
theorem dX5_sell_26 : decode cX5_sell 26 = .ok (.iload_n 3, 1) := by decide +kernel
theorem dX5_sell_27 : decode cX5_sell 27 = .ok (.iadd, 1) := by decide +kernel
theorem dX5_sell_28 : decode cX5_sell 28 = .ok (.if_icmp .ge 79, 3) := by decide +kernel
theorem dX5_sell_31 : decode cX5_sell 31 = .ok (.aload_n 0, 1) := by decide +kernel
theorem dX5_sell_32 : decode cX5_sell 32 = .ok (.getfield 47, 3) := by decide +kernel
theorem dX5_sell_35 : decode cX5_sell 35 = .ok (.getfield 192, 3) := by decide +kernel
theorem dX5_sell_38 : decode cX5_sell 38 = .ok (.iload 4, 2) := by decide +kernel
theorem dX5_sell_40 : decode cX5_sell 40 = .ok (.iaload, 1) := by decide +kernel
theorem dX5_sell_41 : decode cX5_sell 41 = .ok (.istore 5, 2) := by decide +kernel
theorem dX5_sell_43 : decode cX5_sell 43 = .ok (.iload 5, 2) := by decide +kernel
theorem dX5_sell_45 : decode cX5_sell 45 = .ok (.iconst (-1), 1) := by decide +kernel
theorem dX5_sell_46 : decode cX5_sell 46 = .ok (.if_icmp .ne 25, 3) := by decide +kernel
theorem dX5_sell_49 : decode cX5_sell 49 = .ok (.aload_n 0, 1) := by decide +kernel
theorem dX5_sell_50 : decode cX5_sell 50 = .ok (.dup, 1) := by decide +kernel
theorem dX5_sell_51 : decode cX5_sell 51 = .ok (.getfield 16, 3) := by decide +kernel
theorem dX5_sell_54 : decode cX5_sell 54 = .ok (.aload_n 0, 1) := by decide +kernel
theorem dX5_sell_55 : decode cX5_sell 55 = .ok (.getfield 47, 3) := by decide +kernel
theorem dX5_sell_58 : decode cX5_sell 58 = .ok (.getfield 222, 3) := by decide +kernel
theorem dX5_sell_61 : decode cX5_sell 61 = .ok (.iload 4, 2) := by decide +kernel
theorem dX5_sell_63 : decode cX5_sell 63 = .ok (.iaload, 1) := by decide +kernel
theorem dX5_sell_64 : decode cX5_sell 64 = .ok (.iadd, 1) := by decide +kernel
theorem dX5_sell_65 : decode cX5_sell 65 = .ok (.putfield 16, 3) := by decide +kernel
theorem dX5_sell_68 : decode cX5_sell 68 = .ok (.goto 23, 3) := by decide +kernel
theorem dX5_sell_71 : decode cX5_sell 71 = .ok (.aload_n 0, 1) := by decide +kernel
theorem dX5_sell_72 : decode cX5_sell 72 = .ok (.getfield 19, 3) := by decide +kernel
theorem dX5_sell_75 : decode cX5_sell 75 = .ok (.iload 5, 2) := by decide +kernel
theorem dX5_sell_77 : decode cX5_sell 77 = .ok (.dup2, 1) := by decide +kernel
theorem dX5_sell_78 : decode cX5_sell 78 = .ok (.iaload, 1) := by decide +kernel
theorem dX5_sell_79 : decode cX5_sell 79 = .ok (.aload_n 0, 1) := by decide +kernel
theorem dX5_sell_80 : decode cX5_sell 80 = .ok (.getfield 47, 3) := by decide +kernel
theorem dX5_sell_83 : decode cX5_sell 83 = .ok (.getfield 222, 3) := by decide +kernel
theorem dX5_sell_86 : decode cX5_sell 86 = .ok (.iload 4, 2) := by decide +kernel
theorem dX5_sell_88 : decode cX5_sell 88 = .ok (.iaload, 1) := by decide +kernel
theorem dX5_sell_89 : decode cX5_sell 89 = .ok (.isub, 1) := by decide +kernel
theorem dX5_sell_90 : decode cX5_sell 90 = .ok (.iastore, 1) := by decide +kernel
theorem dX5_sell_91 : decode cX5_sell 91 = .ok (.aload_n 0, 1) := by decide +kernel
theorem dX5_sell_92 : decode cX5_sell 92 = .ok (.getfield 47, 3) := by decide +kernel
theorem dX5_sell_95 : decode cX5_sell 95 = .ok (.iload 4, 2) := by decide +kernel
theorem dX5_sell_97 : decode cX5_sell 97 = .ok (.iload_n 1, 1) := by decide +kernel
theorem dX5_sell_98 : decode cX5_sell 98 = .ok (.invokevirtual 267, 3) := by decide +kernel
theorem dX5_sell_101 : decode cX5_sell 101 = .ok (.iinc 4 1, 3) := by decide +kernel
theorem dX5_sell_104 : decode cX5_sell 104 = .ok (.goto (-81), 3) := by decide +kernel
theorem dX5_sell_107 : decode cX5_sell 107 = .ok (.aload_n 0, 1) := by decide +kernel
theorem dX5_sell_108 : decode cX5_sell 108 = .ok (.getfield 54, 3) := by decide +kernel
theorem dX5_sell_111 : decode cX5_sell 111 = .ok (.iload_n 2, 1) := by decide +kernel
theorem dX5_sell_112 : decode cX5_sell 112 = .ok (.iload_n 3, 1) := by decide +kernel
theorem dX5_sell_113 : decode cX5_sell 113 = .ok (.iload_n 1, 1) := by decide +kernel
theorem dX5_sell_114 : decode cX5_sell 114 = .ok (.invokevirtual 270, 3) := by decide +kernel
theorem dX5_sell_117 : decode cX5_sell 117 = .ok (.aload_n 0, 1) := by decide +kernel
theorem dX5_sell_118 : decode cX5_sell 118 = .ok (.getfield 40, 3) := by decide +kernel
theorem dX5_sell_121 : decode cX5_sell 121 = .ok (.iload_n 1, 1) := by decide +kernel
theorem dX5_sell_122 : decode cX5_sell 122 = .ok (.invokevirtual 264, 3) := by decide +kernel
theorem dX5_sell_125 : decode cX5_sell 125 = .ok (.return_, 1) := by decide +kernel
theorem dX6_init_0 : decode cX6_init 0 = .ok (.aload_n 0, 1) := by decide +kernel
theorem dX6_init_1 : decode cX6_init 1 = .ok (.invokespecial 1, 3) := by decide +kernel
theorem dX6_init_4 : decode cX6_init 4 = .ok (.aload_n 0, 1) := by decide +kernel
theorem dX6_init_5 : decode cX6_init 5 = .ok (.bipush 100, 2) := by decide +kernel
theorem dX6_init_7 : decode cX6_init 7 = .ok (.putfield 7, 3) := by decide +kernel
theorem dX6_init_10 : decode cX6_init 10 = .ok (.aload_n 0, 1) := by decide +kernel
theorem dX6_init_11 : decode cX6_init 11 = .ok (.bipush 10, 2) := by decide +kernel
theorem dX6_init_13 : decode cX6_init 13 = .ok (.newarray .int, 2) := by decide +kernel
theorem dX6_init_15 : decode cX6_init 15 = .ok (.putfield 13, 3) := by decide +kernel
theorem dX6_init_18 : decode cX6_init 18 = .ok (.aload_n 0, 1) := by decide +kernel
theorem dX6_init_19 : decode cX6_init 19 = .ok (.bipush 10, 2) := by decide +kernel
theorem dX6_init_21 : decode cX6_init 21 = .ok (.newarray .int, 2) := by decide +kernel
theorem dX6_init_23 : decode cX6_init 23 = .ok (.putfield 17, 3) := by decide +kernel
theorem dX6_init_26 : decode cX6_init 26 = .ok (.aload_n 0, 1) := by decide +kernel
theorem dX6_init_27 : decode cX6_init 27 = .ok (.bipush 80, 2) := by decide +kernel
theorem dX6_init_29 : decode cX6_init 29 = .ok (.newarray .int, 2) := by decide +kernel
theorem dX6_init_31 : decode cX6_init 31 = .ok (.putfield 20, 3) := by decide +kernel
theorem dX6_init_34 : decode cX6_init 34 = .ok (.aload_n 0, 1) := by decide +kernel
theorem dX6_init_35 : decode cX6_init 35 = .ok (.bipush 8, 2) := by decide +kernel
theorem dX6_init_37 : decode cX6_init 37 = .ok (.newarray .int, 2) := by decide +kernel
theorem dX6_init_39 : decode cX6_init 39 = .ok (.dup, 1) := by decide +kernel
theorem dX6_init_40 : decode cX6_init 40 = .ok (.iconst 0, 1) := by decide +kernel
theorem dX6_init_41 : decode cX6_init 41 = .ok (.iconst (-1), 1) := by decide +kernel
theorem dX6_init_42 : decode cX6_init 42 = .ok (.iastore, 1) := by decide +kernel
theorem dX6_init_43 : decode cX6_init 43 = .ok (.dup, 1) := by decide +kernel
theorem dX6_init_44 : decode cX6_init 44 = .ok (.iconst 1, 1) := by decide +kernel
theorem dX6_init_45 : decode cX6_init 45 = .ok (.iconst (-1), 1) := by decide +kernel
theorem dX6_init_46 : decode cX6_init 46 = .ok (.iastore, 1) := by decide +kernel
theorem dX6_init_47 : decode cX6_init 47 = .ok (.dup, 1) := by decide +kernel
theorem dX6_init_48 : decode cX6_init 48 = .ok (.iconst 2, 1) := by decide +kernel
theorem dX6_init_49 : decode cX6_init 49 = .ok (.iconst (-1), 1) := by decide +kernel
theorem dX6_init_50 : decode cX6_init 50 = .ok (.iastore, 1) := by decide +kernel
theorem dX6_init_51 : decode cX6_init 51 = .ok (.dup, 1) := by decide +kernel
theorem dX6_init_52 : decode cX6_init 52 = .ok (.iconst 3, 1) := by decide +kernel
theorem dX6_init_53 : decode cX6_init 53 = .ok (.iconst (-1), 1) := by decide +kernel
theorem dX6_init_54 : decode cX6_init 54 = .ok (.iastore, 1) := by decide +kernel
theorem dX6_init_55 : decode cX6_init 55 = .ok (.dup, 1) := by decide +kernel
theorem dX6_init_56 : decode cX6_init 56 = .ok (.iconst 4, 1) := by decide +kernel
theorem dX6_init_57 : decode cX6_init 57 = .ok (.iconst (-1), 1) := by decide +kernel
theorem dX6_init_58 : decode cX6_init 58 = .ok (.iastore, 1) := by decide +kernel
theorem dX6_init_59 : decode cX6_init 59 = .ok (.dup, 1) := by decide +kernel
theorem dX6_init_60 : decode cX6_init 60 = .ok (.iconst 5, 1) := by decide +kernel
theorem dX6_init_61 : decode cX6_init 61 = .ok (.iconst (-1), 1) := by decide +kernel
theorem dX6_init_62 : decode cX6_init 62 = .ok (.iastore, 1) := by decide +kernel
theorem dX6_init_63 : decode cX6_init 63 = .ok (.dup, 1) := by decide +kernel
theorem dX6_init_64 : decode cX6_init 64 = .ok (.bipush 6, 2) := by decide +kernel
theorem dX6_init_66 : decode cX6_init 66 = .ok (.iconst (-1), 1) := by decide +kernel
theorem dX6_init_67 : decode cX6_init 67 = .ok (.iastore, 1) := by decide +kernel
theorem dX6_init_68 : decode cX6_init 68 = .ok (.dup, 1) := by decide +kernel
theorem dX6_init_69 : decode cX6_init 69 = .ok (.bipush 7, 2) := by decide +kernel
theorem dX6_init_71 : decode cX6_init 71 = .ok (.iconst (-1), 1) := by decide +kernel
theorem dX6_init_72 : decode cX6_init 72 = .ok (.iastore, 1) := by decide +kernel
theorem dX6_init_73 : decode cX6_init 73 = .ok (.putfield 23, 3) := by decide +kernel
theorem dX6_init_76 : decode cX6_init 76 = .ok (.aload_n 0, 1) := by decide +kernel
theorem dX6_init_77 : decode cX6_init 77 = .ok (.bipush 8, 2) := by decide +kernel
theorem dX6_init_79 : decode cX6_init 79 = .ok (.newarray .int, 2) := by decide +kernel
theorem dX6_init_81 : decode cX6_init 81 = .ok (.dup, 1) := by decide +kernel
theorem dX6_init_82 : decode cX6_init 82 = .ok (.iconst 0, 1) := by decide +kernel
theorem dX6_init_83 : decode cX6_init 83 = .ok (.iconst (-1), 1) := by decide +kernel
theorem dX6_init_84 : decode cX6_init 84 = .ok (.iastore, 1) := by decide +kernel
theorem dX6_init_85 : decode cX6_init 85 = .ok (.dup, 1) := by decide +kernel
theorem dX6_init_86 : decode cX6_init 86 = .ok (.iconst 1, 1) := by decide +kernel
theorem dX6_init_87 : decode cX6_init 87 = .ok (.iconst (-1), 1) := by decide +kernel
theorem dX6_init_88 : decode cX6_init 88 = .ok (.iastore, 1) := by decide +kernel
theorem dX6_init_89 : decode cX6_init 89 = .ok (.dup, 1) := by decide +kernel
theorem dX6_init_90 : decode cX6_init 90 = .ok (.iconst 2, 1) := by decide +kernel
theorem dX6_init_91 : decode cX6_init 91 = .ok (.iconst (-1), 1) := by decide +kernel
theorem dX6_init_92 : decode cX6_init 92 = .ok (.iastore, 1) := by decide +kernel
theorem dX6_init_93 : decode cX6_init 93 = .ok (.dup, 1) := by decide +kernel
theorem dX6_init_94 : decode cX6_init 94 = .ok (.iconst 3, 1) := by decide +kernel
theorem dX6_init_95 : decode cX6_init 95 = .ok (.iconst (-1), 1) := by decide +kernel
theorem dX6_init_96 : decode cX6_init 96 = .ok (.iastore, 1) := by decide +kernel
theorem dX6_init_97 : decode cX6_init 97 = .ok (.dup, 1) := by decide +kernel
theorem dX6_init_98 : decode cX6_init 98 = .ok (.iconst 4, 1) := by decide +kernel
theorem dX6_init_99 : decode cX6_init 99 = .ok (.iconst (-1), 1) := by decide +kernel
theorem dX6_init_100 : decode cX6_init 100 = .ok (.iastore, 1) := by decide +kernel
theorem dX6_init_101 : decode cX6_init 101 = .ok (.dup, 1) := by decide +kernel
theorem dX6_init_102 : decode cX6_init 102 = .ok (.iconst 5, 1) := by decide +kernel
theorem dX6_init_103 : decode cX6_init 103 = .ok (.iconst (-1), 1) := by decide +kernel
theorem dX6_init_104 : decode cX6_init 104 = .ok (.iastore, 1) := by decide +kernel
theorem dX6_init_105 : decode cX6_init 105 = .ok (.dup, 1) := by decide +kernel
theorem dX6_init_106 : decode cX6_init 106 = .ok (.bipush 6, 2) := by decide +kernel
theorem dX6_init_108 : decode cX6_init 108 = .ok (.iconst (-1), 1) := by decide +kernel
theorem dX6_init_109 : decode cX6_init 109 = .ok (.iastore, 1) := by decide +kernel
theorem dX6_init_110 : decode cX6_init 110 = .ok (.dup, 1) := by decide +kernel
theorem dX6_init_111 : decode cX6_init 111 = .ok (.bipush 7, 2) := by decide +kernel
theorem dX6_init_113 : decode cX6_init 113 = .ok (.iconst (-1), 1) := by decide +kernel
theorem dX6_init_114 : decode cX6_init 114 = .ok (.iastore, 1) := by decide +kernel
theorem dX6_init_115 : decode cX6_init 115 = .ok (.putfield 26, 3) := by decide +kernel
theorem dX6_init_118 : decode cX6_init 118 = .ok (.aload_n 0, 1) := by decide +kernel
theorem dX6_init_119 : decode cX6_init 119 = .ok (.bipush 8, 2) := by decide +kernel
theorem dX6_init_121 : decode cX6_init 121 = .ok (.newarray .int, 2) := by decide +kernel
theorem dX6_init_123 : decode cX6_init 123 = .ok (.putfield 29, 3) := by decide +kernel
theorem dX6_init_126 : decode cX6_init 126 = .ok (.aload_n 0, 1) := by decide +kernel
theorem dX6_init_127 : decode cX6_init 127 = .ok (.bipush 8, 2) := by decide +kernel
theorem dX6_init_129 : decode cX6_init 129 = .ok (.newarray .int, 2) := by decide +kernel
theorem dX6_init_131 : decode cX6_init 131 = .ok (.putfield 32, 3) := by decide +kernel
theorem dX6_init_134 : decode cX6_init 134 = .ok (.aload_n 0, 1) := by decide +kernel
theorem dX6_init_135 : decode cX6_init 135 = .ok (.bipush 8, 2) := by decide +kernel
theorem dX6_init_137 : decode cX6_init 137 = .ok (.newarray .int, 2) := by decide +kernel
theorem dX6_init_139 : decode cX6_init 139 = .ok (.putfield 35, 3) := by decide +kernel
theorem dX6_init_142 : decode cX6_init 142 = .ok (.aload_n 0, 1) := by decide +kernel
theorem dX6_init_143 : decode cX6_init 143 = .ok (.bipush 8, 2) := by decide +kernel
theorem dX6_init_145 : decode cX6_init 145 = .ok (.newarray .int, 2) := by decide +kernel
theorem dX6_init_147 : decode cX6_init 147 = .ok (.putfield 38, 3) := by decide +kernel
theorem dX6_init_150 : decode cX6_init 150 = .ok (.aload_n 0, 1) := by decide +kernel
theorem dX6_init_151 : decode cX6_init 151 = .ok (.bipush 8, 2) := by decide +kernel
theorem dX6_init_153 : decode cX6_init 153 = .ok (.newarray .int, 2) := by decide +kernel
theorem dX6_init_155 : decode cX6_init 155 = .ok (.putfield 41, 3) := by decide +kernel
theorem dX6_init_158 : decode cX6_init 158 = .ok (.aload_n 0, 1) := by decide +kernel
theorem dX6_init_159 : decode cX6_init 159 = .ok (.bipush 8, 2) := by decide +kernel
theorem dX6_init_161 : decode cX6_init 161 = .ok (.newarray .int, 2) := by decide +kernel
theorem dX6_init_163 : decode cX6_init 163 = .ok (.putfield 44, 3) := by decide +kernel
theorem dX6_init_166 : decode cX6_init 166 = .ok (.aload_n 0, 1) := by decide +kernel
theorem dX6_init_167 : decode cX6_init 167 = .ok (.bipush 8, 2) := by decide +kernel
theorem dX6_init_169 : decode cX6_init 169 = .ok (.newarray .int, 2) := by decide +kernel
theorem dX6_init_171 : decode cX6_init 171 = .ok (.putfield 47, 3) := by decide +kernel
theorem dX6_init_174 : decode cX6_init 174 = .ok (.aload_n 0, 1) := by decide +kernel
theorem dX6_init_175 : decode cX6_init 175 = .ok (.bipush 60, 2) := by decide +kernel
theorem dX6_init_177 : decode cX6_init 177 = .ok (.newarray .int, 2) := by decide +kernel
theorem dX6_init_179 : decode cX6_init 179 = .ok (.putfield 50, 3) := by decide +kernel
theorem dX6_init_182 : decode cX6_init 182 = .ok (.aload_n 0, 1) := by decide +kernel
theorem dX6_init_183 : decode cX6_init 183 = .ok (.bipush 60, 2) := by decide +kernel
theorem dX6_init_185 : decode cX6_init 185 = .ok (.newarray .int, 2) := by decide +kernel
theorem dX6_init_187 : decode cX6_init 187 = .ok (.putfield 53, 3) := by decide +kernel
theorem dX6_init_190 : decode cX6_init 190 = .ok (.aload_n 0, 1) := by decide +kernel
theorem dX6_init_191 : decode cX6_init 191 = .ok (.bipush 60, 2) := by decide +kernel
theorem dX6_init_193 : decode cX6_init 193 = .ok (.newarray .int, 2) := by decide +kernel
theorem dX6_init_195 : decode cX6_init 195 = .ok (.putfield 56, 3) := by decide +kernel
theorem dX6_init_198 : decode cX6_init 198 = .ok (.aload_n 0, 1) := by decide +kernel
theorem dX6_init_199 : decode cX6_init 199 = .ok (.bipush 60, 2) := by decide +kernel
theorem dX6_init_201 : decode cX6_init 201 = .ok (.newarray .boolean, 2) := by decide +kernel
theorem dX6_init_203 : decode cX6_init 203 = .ok (.putfield 59, 3) := by decide +kernel
theorem dX6_init_206 : decode cX6_init 206 = .ok (.iconst 0, 1) := by decide +kernel
theorem dX6_init_207 : decode cX6_init 207 = .ok (.istore_n 1, 1) := by decide +kernel
theorem dX6_init_208 : decode cX6_init 208 = .ok (.iload_n 1, 1) := by decide +kernel
theorem dX6_init_209 : decode cX6_init 209 = .ok (.bipush 60, 2) := by decide +kernel
theorem dX6_init_211 : decode cX6_init 211 = .ok (.if_icmp .ge 23, 3) := by decide +kernel
theorem dX6_init_214 : decode cX6_init 214 = .ok (.aload_n 0, 1) := by decide +kernel
theorem dX6_init_215 : decode cX6_init 215 = .ok (.getfield 50, 3) := by decide +kernel
theorem dX6_init_218 : decode cX6_init 218 = .ok (.iload_n 1, 1) := by decide +kernel
theorem dX6_init_219 : decode cX6_init 219 = .ok (.iconst (-1), 1) := by decide +kernel
theorem dX6_init_220 : decode cX6_init 220 = .ok (.iastore, 1) := by decide +kernel
theorem dX6_init_221 : decode cX6_init 221 = .ok (.aload_n 0, 1) := by decide +kernel
theorem dX6_init_222 : decode cX6_init 222 = .ok (.getfield 56, 3) := by decide +kernel
theorem dX6_init_225 : decode cX6_init 225 = .ok (.iload_n 1, 1) := by decide +kernel
theorem dX6_init_226 : decode cX6_init 226 = .ok (.iconst (-1), 1) := by decide +kernel
theorem dX6_init_227 : decode cX6_init 227 = .ok (.iastore, 1) := by decide +kernel
theorem dX6_init_228 : decode cX6_init 228 = .ok (.iinc 1 1, 3) := by decide +kernel
theorem dX6_init_231 : decode cX6_init 231 = .ok (.goto (-23), 3) := by decide +kernel
theorem dX6_init_234 : decode cX6_init 234 = .ok (.return_, 1) := by decide +kernel
theorem dX6_thrown_0 : decode cX6_thrown 0 = .ok (.aload_n 0, 1) := by decide +kernel
theorem dX6_thrown_1 : decode cX6_thrown 1 = .ok (.getfield 63, 3) := by decide +kernel
theorem dX6_thrown_4 : decode cX6_thrown 4 = .ok (.ireturn, 1) := by decide +kernel
theorem dX6_goesWell_0 : decode cX6_goesWell 0 = .ok (.aload_n 0, 1) := by decide +kernel
theorem dX6_goesWell_1 : decode cX6_goesWell 1 = .ok (.iload_n 1, 1) := by decide +kernel
theorem dX6_goesWell_2 : decode cX6_goesWell 2 = .ok (.putfield 63, 3) := by decide +kernel
theorem dX6_goesWell_5 : decode cX6_goesWell 5 = .ok (.iload_n 1, 1) := by decide +kernel
theorem dX6_goesWell_6 : decode cX6_goesWell 6 = .ok (.ifCond .ne 7, 3) := by decide +kernel
theorem dX6_goesWell_9 : decode cX6_goesWell 9 = .ok (.iconst 1, 1) := by decide +kernel
theorem dX6_goesWell_10 : decode cX6_goesWell 10 = .ok (.goto 4, 3) := by decide +kernel
theorem dX6_goesWell_13 : decode cX6_goesWell 13 = .ok (.iconst 0, 1) := by decide +kernel
theorem dX6_goesWell_14 : decode cX6_goesWell 14 = .ok (.ireturn, 1) := by decide +kernel
theorem dX6_in_0 : decode cX6_in 0 = .ok (.iload_n 0, 1) := by decide +kernel
theorem dX6_in_1 : decode cX6_in 1 = .ok (.iload_n 1, 1) := by decide +kernel
theorem dX6_in_2 : decode cX6_in 2 = .ok (.if_icmp .lt 12, 3) := by decide +kernel
theorem dX6_in_5 : decode cX6_in 5 = .ok (.iload_n 0, 1) := by decide +kernel
theorem dX6_in_6 : decode cX6_in 6 = .ok (.iload_n 2, 1) := by decide +kernel
theorem dX6_in_7 : decode cX6_in 7 = .ok (.if_icmp .gt 7, 3) := by decide +kernel
theorem dX6_in_10 : decode cX6_in 10 = .ok (.iconst 1, 1) := by decide +kernel
theorem dX6_in_11 : decode cX6_in 11 = .ok (.goto 4, 3) := by decide +kernel
theorem dX6_in_14 : decode cX6_in 14 = .ok (.iconst 0, 1) := by decide +kernel
theorem dX6_in_15 : decode cX6_in 15 = .ok (.ireturn, 1) := by decide +kernel
set_option maxRecDepth 20000 in
theorem ggX6_isPerson_X6_in : GoodIn wsX6_isPerson wsX6_in := goodIn_r _ [4] (by decide +kernel) (by decide +kernel)
set_option maxRecDepth 20000 in
theorem gX6_isPerson_X6_in : GoodIn wsX6_isPerson (va_wsS RX6 66 yX6_in wsX6_in) := goodIn_app (goodIn_of _ (by decide +kernel)) ggX6_isPerson_X6_in
theorem dX6_isPerson_0 : decode cX6_isPerson 0 = .ok (.iload_n 0, 1) := by decide +kernel
theorem dX6_isPerson_1 : decode cX6_isPerson 1 = .ok (.iconst 0, 1) := by decide +kernel
theorem dX6_isPerson_2 : decode cX6_isPerson 2 = .ok (.bipush 7, 2) := by decide +kernel
theorem dX6_isPerson_4 : decode cX6_isPerson 4 = .ok (.invokestatic 66, 3) := by decide +kernel
theorem dX6_isPerson_7 : decode cX6_isPerson 7 = .ok (.ireturn, 1) := by decide +kernel
set_option maxRecDepth 20000 in
theorem ggX6_isSeat_X6_in : GoodIn wsX6_isSeat wsX6_in := goodIn_r _ [4] (by decide +kernel) (by decide +kernel)
set_option maxRecDepth 20000 in
theorem gX6_isSeat_X6_in : GoodIn wsX6_isSeat (va_wsS RX6 66 yX6_in wsX6_in) := goodIn_app (goodIn_of _ (by decide +kernel)) ggX6_isSeat_X6_in
theorem dX6_isSeat_0 : decode cX6_isSeat 0 = .ok (.iload_n 0, 1) := by decide +kernel
theorem dX6_isSeat_1 : decode cX6_isSeat 1 = .ok (.iconst 0, 1) := by decide +kernel
theorem dX6_isSeat_2 : decode cX6_isSeat 2 = .ok (.bipush 59, 2) := by decide +kernel
theorem dX6_isSeat_4 : decode cX6_isSeat 4 = .ok (.invokestatic 66, 3) := by decide +kernel
theorem dX6_isSeat_7 : decode cX6_isSeat 7 = .ok (.ireturn, 1) := by decide +kernel
set_option maxRecDepth 20000 in
theorem ggX6_isRow_X6_in : GoodIn wsX6_isRow wsX6_in := goodIn_r _ [4] (by decide +kernel) (by decide +kernel)
set_option maxRecDepth 20000 in
theorem gX6_isRow_X6_in : GoodIn wsX6_isRow (va_wsS RX6 66 yX6_in wsX6_in) := goodIn_app (goodIn_of _ (by decide +kernel)) ggX6_isRow_X6_in
theorem dX6_isRow_0 : decode cX6_isRow 0 = .ok (.iload_n 0, 1) := by decide +kernel
theorem dX6_isRow_1 : decode cX6_isRow 1 = .ok (.iconst 0, 1) := by decide +kernel
theorem dX6_isRow_2 : decode cX6_isRow 2 = .ok (.iconst 5, 1) := by decide +kernel
theorem dX6_isRow_3 : decode cX6_isRow 3 = .ok (.invokestatic 66, 3) := by decide +kernel
theorem dX6_isRow_6 : decode cX6_isRow 6 = .ok (.ireturn, 1) := by decide +kernel
set_option maxRecDepth 20000 in
theorem ggX6_isCode_X6_in : GoodIn wsX6_isCode wsX6_in := goodIn_r _ [5] (by decide +kernel) (by decide +kernel)
set_option maxRecDepth 20000 in
theorem gX6_isCode_X6_in : GoodIn wsX6_isCode (va_wsS RX6 66 yX6_in wsX6_in) := goodIn_app (goodIn_of _ (by decide +kernel)) ggX6_isCode_X6_in
theorem dX6_isCode_0 : decode cX6_isCode 0 = .ok (.iload_n 1, 1) := by decide +kernel
theorem dX6_isCode_1 : decode cX6_isCode 1 = .ok (.iconst 0, 1) := by decide +kernel
theorem dX6_isCode_2 : decode cX6_isCode 2 = .ok (.aload_n 0, 1) := by decide +kernel
theorem dX6_isCode_3 : decode cX6_isCode 3 = .ok (.getfield 70, 3) := by decide +kernel
theorem dX6_isCode_6 : decode cX6_isCode 6 = .ok (.iconst 1, 1) := by decide +kernel
theorem dX6_isCode_7 : decode cX6_isCode 7 = .ok (.isub, 1) := by decide +kernel
theorem dX6_isCode_8 : decode cX6_isCode 8 = .ok (.invokestatic 66, 3) := by decide +kernel
theorem dX6_isCode_11 : decode cX6_isCode 11 = .ok (.ireturn, 1) := by decide +kernel
set_option maxRecDepth 20000 in
theorem ggX6_isHeld_X6_in : GoodIn wsX6_isHeld wsX6_in := goodIn_r _ [6] (by decide +kernel) (by decide +kernel)
set_option maxRecDepth 20000 in
theorem gX6_isHeld_X6_in : GoodIn wsX6_isHeld (va_wsS RX6 66 yX6_in wsX6_in) := goodIn_app (goodIn_of _ (by decide +kernel)) ggX6_isHeld_X6_in
theorem dX6_isHeld_0 : decode cX6_isHeld 0 = .ok (.iconst 0, 1) := by decide +kernel
theorem dX6_isHeld_1 : decode cX6_isHeld 1 = .ok (.istore_n 2, 1) := by decide +kernel
theorem dX6_isHeld_2 : decode cX6_isHeld 2 = .ok (.iconst 0, 1) := by decide +kernel
theorem dX6_isHeld_3 : decode cX6_isHeld 3 = .ok (.istore_n 3, 1) := by decide +kernel
theorem dX6_isHeld_4 : decode cX6_isHeld 4 = .ok (.iload_n 3, 1) := by decide +kernel
theorem dX6_isHeld_5 : decode cX6_isHeld 5 = .ok (.bipush 8, 2) := by decide +kernel
theorem dX6_isHeld_7 : decode cX6_isHeld 7 = .ok (.if_icmp .ge 57, 3) := by decide +kernel
theorem dX6_isHeld_10 : decode cX6_isHeld 10 = .ok (.iload_n 2, 1) := by decide +kernel
theorem dX6_isHeld_11 : decode cX6_isHeld 11 = .ok (.ifCond .ne 41, 3) := by decide +kernel
theorem dX6_isHeld_14 : decode cX6_isHeld 14 = .ok (.aload_n 0, 1) := by decide +kernel
theorem dX6_isHeld_15 : decode cX6_isHeld 15 = .ok (.getfield 26, 3) := by decide +kernel
theorem dX6_isHeld_18 : decode cX6_isHeld 18 = .ok (.iload_n 3, 1) := by decide +kernel
theorem dX6_isHeld_19 : decode cX6_isHeld 19 = .ok (.iaload, 1) := by decide +kernel
theorem dX6_isHeld_20 : decode cX6_isHeld 20 = .ok (.iconst (-1), 1) := by decide +kernel
theorem dX6_isHeld_21 : decode cX6_isHeld 21 = .ok (.if_icmp .eq 35, 3) := by decide +kernel
theorem dX6_isHeld_24 : decode cX6_isHeld 24 = .ok (.iload_n 1, 1) := by decide +kernel
theorem dX6_isHeld_25 : decode cX6_isHeld 25 = .ok (.aload_n 0, 1) := by decide +kernel
theorem dX6_isHeld_26 : decode cX6_isHeld 26 = .ok (.getfield 26, 3) := by decide +kernel
theorem dX6_isHeld_29 : decode cX6_isHeld 29 = .ok (.iload_n 3, 1) := by decide +kernel
theorem dX6_isHeld_30 : decode cX6_isHeld 30 = .ok (.iaload, 1) := by decide +kernel
theorem dX6_isHeld_31 : decode cX6_isHeld 31 = .ok (.aload_n 0, 1) := by decide +kernel
theorem dX6_isHeld_32 : decode cX6_isHeld 32 = .ok (.getfield 26, 3) := by decide +kernel
theorem dX6_isHeld_35 : decode cX6_isHeld 35 = .ok (.iload_n 3, 1) := by decide +kernel
theorem dX6_isHeld_36 : decode cX6_isHeld 36 = .ok (.iaload, 1) := by decide +kernel
theorem dX6_isHeld_37 : decode cX6_isHeld 37 = .ok (.aload_n 0, 1) := by decide +kernel
theorem dX6_isHeld_38 : decode cX6_isHeld 38 = .ok (.getfield 29, 3) := by decide +kernel
theorem dX6_isHeld_41 : decode cX6_isHeld 41 = .ok (.iload_n 3, 1) := by decide +kernel
theorem dX6_isHeld_42 : decode cX6_isHeld 42 = .ok (.iaload, 1) := by decide +kernel
theorem dX6_isHeld_43 : decode cX6_isHeld 43 = .ok (.iadd, 1) := by decide +kernel
theorem dX6_isHeld_44 : decode cX6_isHeld 44 = .ok (.iconst 1, 1) := by decide +kernel
theorem dX6_isHeld_45 : decode cX6_isHeld 45 = .ok (.isub, 1) := by decide +kernel
theorem dX6_isHeld_46 : decode cX6_isHeld 46 = .ok (.invokestatic 66, 3) := by decide +kernel
theorem dX6_isHeld_49 : decode cX6_isHeld 49 = .ok (.ifCond .eq 7, 3) := by decide +kernel
theorem dX6_isHeld_52 : decode cX6_isHeld 52 = .ok (.iconst 1, 1) := by decide +kernel
theorem dX6_isHeld_53 : decode cX6_isHeld 53 = .ok (.goto 4, 3) := by decide +kernel
theorem dX6_isHeld_56 : decode cX6_isHeld 56 = .ok (.iconst 0, 1) := by decide +kernel
theorem dX6_isHeld_57 : decode cX6_isHeld 57 = .ok (.istore_n 2, 1) := by decide +kernel
theorem dX6_isHeld_58 : decode cX6_isHeld 58 = .ok (.iinc 3 1, 3) := by decide +kernel
theorem dX6_isHeld_61 : decode cX6_isHeld 61 = .ok (.goto (-57), 3) := by decide +kernel
theorem dX6_isHeld_64 : decode cX6_isHeld 64 = .ok (.iload_n 2, 1) := by decide +kernel
theorem dX6_isHeld_65 : decode cX6_isHeld 65 = .ok (.ireturn, 1) := by decide +kernel
set_option maxRecDepth 20000 in
theorem ggX6_stateOf_X6_isHeld : GoodIn wsX6_stateOf wsX6_isHeld := goodIn_r _ [7, 8, 9, 10, 11, 6, 12, 13, 14, 15, 16, 17, 18, 19, 20, 21, 22, 23, 24, 25, 26, 27, 28, 29, 30, 31, 32, 33] (by decide +kernel) (by decide +kernel)
set_option maxRecDepth 20000 in
theorem gX6_stateOf_X6_isHeld : GoodIn wsX6_stateOf (wsV RX6 73 RX6 yX6_isHeld wsX6_isHeld) := goodIn_app (goodIn_of _ (by decide +kernel)) ggX6_stateOf_X6_isHeld
theorem dX6_stateOf_0 : decode cX6_stateOf 0 = .ok (.aload_n 0, 1) := by decide +kernel
theorem dX6_stateOf_1 : decode cX6_stateOf 1 = .ok (.iload_n 1, 1) := by decide +kernel
theorem dX6_stateOf_2 : decode cX6_stateOf 2 = .ok (.invokevirtual 73, 3) := by decide +kernel
theorem dX6_stateOf_5 : decode cX6_stateOf 5 = .ok (.ifCond .eq 5, 3) := by decide +kernel
theorem dX6_stateOf_8 : decode cX6_stateOf 8 = .ok (.iconst 1, 1) := by decide +kernel
theorem dX6_stateOf_9 : decode cX6_stateOf 9 = .ok (.ireturn, 1) := by decide +kernel
theorem dX6_stateOf_10 : decode cX6_stateOf 10 = .ok (.aload_n 0, 1) := by decide +kernel
theorem dX6_stateOf_11 : decode cX6_stateOf 11 = .ok (.getfield 50, 3) := by decide +kernel
theorem dX6_stateOf_14 : decode cX6_stateOf 14 = .ok (.iload_n 1, 1) := by decide +kernel
theorem dX6_stateOf_15 : decode cX6_stateOf 15 = .ok (.iaload, 1) := by decide +kernel
theorem dX6_stateOf_16 : decode cX6_stateOf 16 = .ok (.iconst (-1), 1) := by decide +kernel
theorem dX6_stateOf_17 : decode cX6_stateOf 17 = .ok (.if_icmp .ne 7, 3) := by decide +kernel
theorem dX6_stateOf_20 : decode cX6_stateOf 20 = .ok (.iconst 0, 1) := by decide +kernel
theorem dX6_stateOf_21 : decode cX6_stateOf 21 = .ok (.goto 18, 3) := by decide +kernel
theorem dX6_stateOf_24 : decode cX6_stateOf 24 = .ok (.aload_n 0, 1) := by decide +kernel
theorem dX6_stateOf_25 : decode cX6_stateOf 25 = .ok (.getfield 56, 3) := by decide +kernel
theorem dX6_stateOf_28 : decode cX6_stateOf 28 = .ok (.iload_n 1, 1) := by decide +kernel
theorem dX6_stateOf_29 : decode cX6_stateOf 29 = .ok (.iaload, 1) := by decide +kernel
theorem dX6_stateOf_30 : decode cX6_stateOf 30 = .ok (.iconst (-1), 1) := by decide +kernel
theorem dX6_stateOf_31 : decode cX6_stateOf 31 = .ok (.if_icmp .ne 7, 3) := by decide +kernel
theorem dX6_stateOf_34 : decode cX6_stateOf 34 = .ok (.iconst 2, 1) := by decide +kernel
theorem dX6_stateOf_35 : decode cX6_stateOf 35 = .ok (.goto 4, 3) := by decide +kernel
theorem dX6_stateOf_38 : decode cX6_stateOf 38 = .ok (.iconst 3, 1) := by decide +kernel
theorem dX6_stateOf_39 : decode cX6_stateOf 39 = .ok (.ireturn, 1) := by decide +kernel
set_option maxRecDepth 20000 in
theorem ggX6_isOpen_X6_isHeld : GoodIn wsX6_isOpen wsX6_isHeld := goodIn_r _ [7, 8, 9, 10, 11, 6, 12, 13, 14, 15, 16, 17, 18, 19, 20, 21, 22, 23, 24, 25, 26, 27, 28, 29, 30, 31, 32, 33] (by decide +kernel) (by decide +kernel)
set_option maxRecDepth 20000 in
theorem gX6_isOpen_X6_isHeld : GoodIn wsX6_isOpen (wsV RX6 73 RX6 yX6_isHeld wsX6_isHeld) := goodIn_app (goodIn_of _ (by decide +kernel)) ggX6_isOpen_X6_isHeld
theorem dX6_isOpen_0 : decode cX6_isOpen 0 = .ok (.aload_n 0, 1) := by decide +kernel
theorem dX6_isOpen_1 : decode cX6_isOpen 1 = .ok (.iload_n 1, 1) := by decide +kernel
theorem dX6_isOpen_2 : decode cX6_isOpen 2 = .ok (.invokevirtual 73, 3) := by decide +kernel
theorem dX6_isOpen_5 : decode cX6_isOpen 5 = .ok (.ifCond .ne 27, 3) := by decide +kernel
theorem dX6_isOpen_8 : decode cX6_isOpen 8 = .ok (.aload_n 0, 1) := by decide +kernel
theorem dX6_isOpen_9 : decode cX6_isOpen 9 = .ok (.getfield 50, 3) := by decide +kernel
theorem dX6_isOpen_12 : decode cX6_isOpen 12 = .ok (.iload_n 1, 1) := by decide +kernel
theorem dX6_isOpen_13 : decode cX6_isOpen 13 = .ok (.iaload, 1) := by decide +kernel
theorem dX6_isOpen_14 : decode cX6_isOpen 14 = .ok (.iconst (-1), 1) := by decide +kernel
theorem dX6_isOpen_15 : decode cX6_isOpen 15 = .ok (.if_icmp .eq 13, 3) := by decide +kernel
theorem dX6_isOpen_18 : decode cX6_isOpen 18 = .ok (.aload_n 0, 1) := by decide +kernel
theorem dX6_isOpen_19 : decode cX6_isOpen 19 = .ok (.getfield 56, 3) := by decide +kernel
theorem dX6_isOpen_22 : decode cX6_isOpen 22 = .ok (.iload_n 1, 1) := by decide +kernel
theorem dX6_isOpen_23 : decode cX6_isOpen 23 = .ok (.iaload, 1) := by decide +kernel
theorem dX6_isOpen_24 : decode cX6_isOpen 24 = .ok (.iconst (-1), 1) := by decide +kernel
theorem dX6_isOpen_25 : decode cX6_isOpen 25 = .ok (.if_icmp .eq 7, 3) := by decide +kernel
theorem dX6_isOpen_28 : decode cX6_isOpen 28 = .ok (.iconst 1, 1) := by decide +kernel
theorem dX6_isOpen_29 : decode cX6_isOpen 29 = .ok (.goto 4, 3) := by decide +kernel
theorem dX6_isOpen_32 : decode cX6_isOpen 32 = .ok (.iconst 0, 1) := by decide +kernel
theorem dX6_isOpen_33 : decode cX6_isOpen 33 = .ok (.ireturn, 1) := by decide +kernel
set_option maxRecDepth 20000 in
theorem ggX6_isAlone_X6_isOpen : GoodIn wsX6_isAlone wsX6_isOpen := goodIn_r _ [5, 6, 7, 8, 9, 10, 4, 11, 12, 13, 14, 15, 16, 17, 18, 19, 20, 21, 22, 23, 24, 25, 26, 27, 28, 29, 30, 31, 32, 33, 34, 35, 36, 37] (by decide +kernel) (by decide +kernel)
set_option maxRecDepth 20000 in
theorem gX6_isAlone_X6_isOpen : GoodIn wsX6_isAlone (wsV RX6 77 RX6 yX6_isOpen wsX6_isOpen) := goodIn_app (goodIn_of _ (by decide +kernel)) ggX6_isAlone_X6_isOpen
theorem dX6_isAlone_0 : decode cX6_isAlone 0 = .ok (.iload_n 1, 1) := by decide +kernel
theorem dX6_isAlone_1 : decode cX6_isAlone 1 = .ok (.bipush 10, 2) := by decide +kernel
theorem dX6_isAlone_3 : decode cX6_isAlone 3 = .ok (.irem, 1) := by decide +kernel
theorem dX6_isAlone_4 : decode cX6_isAlone 4 = .ok (.istore_n 2, 1) := by decide +kernel
theorem dX6_isAlone_5 : decode cX6_isAlone 5 = .ok (.iload_n 2, 1) := by decide +kernel
theorem dX6_isAlone_6 : decode cX6_isAlone 6 = .ok (.ifCond .le 17, 3) := by decide +kernel
theorem dX6_isAlone_9 : decode cX6_isAlone 9 = .ok (.aload_n 0, 1) := by decide +kernel
theorem dX6_isAlone_10 : decode cX6_isAlone 10 = .ok (.iload_n 1, 1) := by decide +kernel
theorem dX6_isAlone_11 : decode cX6_isAlone 11 = .ok (.iconst 1, 1) := by decide +kernel
theorem dX6_isAlone_12 : decode cX6_isAlone 12 = .ok (.isub, 1) := by decide +kernel
theorem dX6_isAlone_13 : decode cX6_isAlone 13 = .ok (.invokevirtual 77, 3) := by decide +kernel
theorem dX6_isAlone_16 : decode cX6_isAlone 16 = .ok (.ifCond .eq 7, 3) := by decide +kernel
theorem dX6_isAlone_19 : decode cX6_isAlone 19 = .ok (.iconst 1, 1) := by decide +kernel
theorem dX6_isAlone_20 : decode cX6_isAlone 20 = .ok (.goto 4, 3) := by decide +kernel
theorem dX6_isAlone_23 : decode cX6_isAlone 23 = .ok (.iconst 0, 1) := by decide +kernel
theorem dX6_isAlone_24 : decode cX6_isAlone 24 = .ok (.istore_n 3, 1) := by decide +kernel
theorem dX6_isAlone_25 : decode cX6_isAlone 25 = .ok (.iload_n 2, 1) := by decide +kernel
theorem dX6_isAlone_26 : decode cX6_isAlone 26 = .ok (.bipush 9, 2) := by decide +kernel
theorem dX6_isAlone_28 : decode cX6_isAlone 28 = .ok (.if_icmp .ge 17, 3) := by decide +kernel
theorem dX6_isAlone_31 : decode cX6_isAlone 31 = .ok (.aload_n 0, 1) := by decide +kernel
theorem dX6_isAlone_32 : decode cX6_isAlone 32 = .ok (.iload_n 1, 1) := by decide +kernel
theorem dX6_isAlone_33 : decode cX6_isAlone 33 = .ok (.iconst 1, 1) := by decide +kernel
theorem dX6_isAlone_34 : decode cX6_isAlone 34 = .ok (.iadd, 1) := by decide +kernel
theorem dX6_isAlone_35 : decode cX6_isAlone 35 = .ok (.invokevirtual 77, 3) := by decide +kernel
theorem dX6_isAlone_38 : decode cX6_isAlone 38 = .ok (.ifCond .eq 7, 3) := by decide +kernel
theorem dX6_isAlone_41 : decode cX6_isAlone 41 = .ok (.iconst 1, 1) := by decide +kernel
theorem dX6_isAlone_42 : decode cX6_isAlone 42 = .ok (.goto 4, 3) := by decide +kernel
theorem dX6_isAlone_45 : decode cX6_isAlone 45 = .ok (.iconst 0, 1) := by decide +kernel
theorem dX6_isAlone_46 : decode cX6_isAlone 46 = .ok (.istore 4, 2) := by decide +kernel
theorem dX6_isAlone_48 : decode cX6_isAlone 48 = .ok (.aload_n 0, 1) := by decide +kernel
theorem dX6_isAlone_49 : decode cX6_isAlone 49 = .ok (.iload_n 1, 1) := by decide +kernel
theorem dX6_isAlone_50 : decode cX6_isAlone 50 = .ok (.invokevirtual 77, 3) := by decide +kernel
theorem dX6_isAlone_53 : decode cX6_isAlone 53 = .ok (.ifCond .eq 16, 3) := by decide +kernel
theorem dX6_isAlone_56 : decode cX6_isAlone 56 = .ok (.iload_n 3, 1) := by decide +kernel
theorem dX6_isAlone_57 : decode cX6_isAlone 57 = .ok (.ifCond .ne 12, 3) := by decide +kernel
theorem dX6_isAlone_60 : decode cX6_isAlone 60 = .ok (.iload 4, 2) := by decide +kernel
theorem dX6_isAlone_62 : decode cX6_isAlone 62 = .ok (.ifCond .ne 7, 3) := by decide +kernel
theorem dX6_isAlone_65 : decode cX6_isAlone 65 = .ok (.iconst 1, 1) := by decide +kernel
theorem dX6_isAlone_66 : decode cX6_isAlone 66 = .ok (.goto 4, 3) := by decide +kernel
theorem dX6_isAlone_69 : decode cX6_isAlone 69 = .ok (.iconst 0, 1) := by decide +kernel
theorem dX6_isAlone_70 : decode cX6_isAlone 70 = .ok (.ireturn, 1) := by decide +kernel
theorem dX6_priceOf_0 : decode cX6_priceOf 0 = .ok (.aload_n 0, 1) := by decide +kernel
theorem dX6_priceOf_1 : decode cX6_priceOf 1 = .ok (.getfield 50, 3) := by decide +kernel
theorem dX6_priceOf_4 : decode cX6_priceOf 4 = .ok (.iload_n 1, 1) := by decide +kernel
theorem dX6_priceOf_5 : decode cX6_priceOf 5 = .ok (.iaload, 1) := by decide +kernel
theorem dX6_priceOf_6 : decode cX6_priceOf 6 = .ok (.iconst (-1), 1) := by decide +kernel
theorem dX6_priceOf_7 : decode cX6_priceOf 7 = .ok (.if_icmp .ne 16, 3) := by decide +kernel
theorem dX6_priceOf_10 : decode cX6_priceOf 10 = .ok (.bipush 100, 2) := by decide +kernel
theorem dX6_priceOf_12 : decode cX6_priceOf 12 = .ok (.bipush 10, 2) := by decide +kernel
theorem dX6_priceOf_14 : decode cX6_priceOf 14 = .ok (.iload_n 1, 1) := by decide +kernel
theorem dX6_priceOf_15 : decode cX6_priceOf 15 = .ok (.bipush 10, 2) := by decide +kernel
theorem dX6_priceOf_17 : decode cX6_priceOf 17 = .ok (.idiv, 1) := by decide +kernel
theorem dX6_priceOf_18 : decode cX6_priceOf 18 = .ok (.imul, 1) := by decide +kernel
theorem dX6_priceOf_19 : decode cX6_priceOf 19 = .ok (.isub, 1) := by decide +kernel
theorem dX6_priceOf_20 : decode cX6_priceOf 20 = .ok (.goto 9, 3) := by decide +kernel
theorem dX6_priceOf_23 : decode cX6_priceOf 23 = .ok (.aload_n 0, 1) := by decide +kernel
theorem dX6_priceOf_24 : decode cX6_priceOf 24 = .ok (.getfield 56, 3) := by decide +kernel
theorem dX6_priceOf_27 : decode cX6_priceOf 27 = .ok (.iload_n 1, 1) := by decide +kernel
theorem dX6_priceOf_28 : decode cX6_priceOf 28 = .ok (.iaload, 1) := by decide +kernel
theorem dX6_priceOf_29 : decode cX6_priceOf 29 = .ok (.ireturn, 1) := by decide +kernel
theorem dX6_dropHold_0 : decode cX6_dropHold 0 = .ok (.aload_n 0, 1) := by decide +kernel
theorem dX6_dropHold_1 : decode cX6_dropHold 1 = .ok (.getfield 26, 3) := by decide +kernel
theorem dX6_dropHold_4 : decode cX6_dropHold 4 = .ok (.iload_n 1, 1) := by decide +kernel
theorem dX6_dropHold_5 : decode cX6_dropHold 5 = .ok (.iconst (-1), 1) := by decide +kernel
theorem dX6_dropHold_6 : decode cX6_dropHold 6 = .ok (.iastore, 1) := by decide +kernel
theorem dX6_dropHold_7 : decode cX6_dropHold 7 = .ok (.aload_n 0, 1) := by decide +kernel
theorem dX6_dropHold_8 : decode cX6_dropHold 8 = .ok (.getfield 47, 3) := by decide +kernel
theorem dX6_dropHold_11 : decode cX6_dropHold 11 = .ok (.iload_n 1, 1) := by decide +kernel
theorem dX6_dropHold_12 : decode cX6_dropHold 12 = .ok (.dup2, 1) := by decide +kernel
theorem dX6_dropHold_13 : decode cX6_dropHold 13 = .ok (.iaload, 1) := by decide +kernel
theorem dX6_dropHold_14 : decode cX6_dropHold 14 = .ok (.aload_n 0, 1) := by decide +kernel
theorem dX6_dropHold_15 : decode cX6_dropHold 15 = .ok (.getfield 38, 3) := by decide +kernel
theorem dX6_dropHold_18 : decode cX6_dropHold 18 = .ok (.iload_n 1, 1) := by decide +kernel
theorem dX6_dropHold_19 : decode cX6_dropHold 19 = .ok (.iaload, 1) := by decide +kernel
theorem dX6_dropHold_20 : decode cX6_dropHold 20 = .ok (.isub, 1) := by decide +kernel
theorem dX6_dropHold_21 : decode cX6_dropHold 21 = .ok (.iastore, 1) := by decide +kernel
theorem dX6_dropHold_22 : decode cX6_dropHold 22 = .ok (.return_, 1) := by decide +kernel
set_option maxRecDepth 20000 in
theorem ggX6_pass_X6_in : GoodIn wsX6_pass wsX6_in := goodIn_r _ [7] (by decide +kernel) (by decide +kernel)
set_option maxRecDepth 20000 in
theorem gX6_pass_X6_in : GoodIn wsX6_pass (va_wsS RX6 66 yX6_in wsX6_in) := goodIn_app (goodIn_of _ (by decide +kernel)) ggX6_pass_X6_in
set_option maxRecDepth 20000 in
theorem ggX6_pass_X6_goesWell : GoodIn wsX6_pass wsX6_goesWell := goodIn_r _ [11, 12, 19, 20, 21, 22, 23, 24, 25, 26, 27, 28, 29, 30, 31, 32, 33, 34, 35, 36, 37, 38, 39] (by decide +kernel) (by decide +kernel)
set_option maxRecDepth 20000 in
theorem gX6_pass_X6_goesWell : GoodIn wsX6_pass (wsV RX6 83 RX6 yX6_goesWell wsX6_goesWell) := goodIn_app (goodIn_of _ (by decide +kernel)) ggX6_pass_X6_goesWell
set_option maxRecDepth 20000 in
theorem ggX6_pass_X6_dropHold : GoodIn wsX6_pass wsX6_dropHold := goodIn_r _ [16, 2, 17, 18, 19, 20, 21, 22, 23, 24, 25, 26, 27, 28, 29, 30, 31, 32, 33, 34, 35, 36, 37, 38, 39] (by decide +kernel) (by decide +kernel)
set_option maxRecDepth 20000 in
theorem gX6_pass_X6_dropHold : GoodIn wsX6_pass (wsV RX6 86 RX6 yX6_dropHold wsX6_dropHold) := goodIn_app (goodIn_of _ (by decide +kernel)) ggX6_pass_X6_dropHold
theorem dX6_pass_0 : decode cX6_pass 0 = .ok (.iload_n 1, 1) := by decide +kernel
theorem dX6_pass_1 : decode cX6_pass 1 = .ok (.iconst 1, 1) := by decide +kernel
theorem dX6_pass_2 : decode cX6_pass 2 = .ok (.sipush 500, 3) := by decide +kernel
theorem dX6_pass_5 : decode cX6_pass 5 = .ok (.invokestatic 66, 3) := by decide +kernel
theorem dX6_pass_8 : decode cX6_pass 8 = .ok (.istore_n 2, 1) := by decide +kernel
theorem dX6_pass_9 : decode cX6_pass 9 = .ok (.aload_n 0, 1) := by decide +kernel
theorem dX6_pass_10 : decode cX6_pass 10 = .ok (.iload_n 2, 1) := by decide +kernel
theorem dX6_pass_11 : decode cX6_pass 11 = .ok (.ifCond .ne 7, 3) := by decide +kernel
theorem dX6_pass_14 : decode cX6_pass 14 = .ok (.iconst 1, 1) := by decide +kernel
theorem dX6_pass_15 : decode cX6_pass 15 = .ok (.goto 20, 3) := by decide +kernel
theorem dX6_pass_18 : decode cX6_pass 18 = .ok (.aload_n 0, 1) := by decide +kernel
theorem dX6_pass_19 : decode cX6_pass 19 = .ok (.getfield 80, 3) := by decide +kernel
theorem dX6_pass_22 : decode cX6_pass 22 = .ok (.iload_n 1, 1) := by decide +kernel
theorem dX6_pass_23 : decode cX6_pass 23 = .ok (.iadd, 1) := by decide +kernel
theorem dX6_pass_24 : decode cX6_pass 24 = .ok (.sipush 10000, 3) := by decide +kernel
theorem dX6_pass_27 : decode cX6_pass 27 = .ok (.if_icmp .le 7, 3) := by decide +kernel
theorem dX6_pass_30 : decode cX6_pass 30 = .ok (.iconst 2, 1) := by decide +kernel
theorem dX6_pass_31 : decode cX6_pass 31 = .ok (.goto 4, 3) := by decide +kernel
theorem dX6_pass_34 : decode cX6_pass 34 = .ok (.iconst 0, 1) := by decide +kernel
theorem dX6_pass_35 : decode cX6_pass 35 = .ok (.invokevirtual 83, 3) := by decide +kernel
theorem dX6_pass_38 : decode cX6_pass 38 = .ok (.ifCond .ne 5, 3) := by decide +kernel
theorem dX6_pass_41 : decode cX6_pass 41 = .ok (.iconst 0, 1) := by decide +kernel
theorem dX6_pass_42 : decode cX6_pass 42 = .ok (.ireturn, 1) := by decide +kernel
theorem dX6_pass_43 : decode cX6_pass 43 = .ok (.aload_n 0, 1) := by decide +kernel
theorem dX6_pass_44 : decode cX6_pass 44 = .ok (.dup, 1) := by decide +kernel
theorem dX6_pass_45 : decode cX6_pass 45 = .ok (.getfield 80, 3) := by decide +kernel
theorem dX6_pass_48 : decode cX6_pass 48 = .ok (.iload_n 1, 1) := by decide +kernel
theorem dX6_pass_49 : decode cX6_pass 49 = .ok (.iadd, 1) := by decide +kernel
theorem dX6_pass_50 : decode cX6_pass 50 = .ok (.putfield 80, 3) := by decide +kernel
theorem dX6_pass_53 : decode cX6_pass 53 = .ok (.iconst 0, 1) := by decide +kernel
theorem dX6_pass_54 : decode cX6_pass 54 = .ok (.istore_n 3, 1) := by decide +kernel
theorem dX6_pass_55 : decode cX6_pass 55 = .ok (.iconst 0, 1) := by decide +kernel
theorem dX6_pass_56 : decode cX6_pass 56 = .ok (.istore 4, 2) := by decide +kernel
theorem dX6_pass_58 : decode cX6_pass 58 = .ok (.iload 4, 2) := by decide +kernel
theorem dX6_pass_60 : decode cX6_pass 60 = .ok (.bipush 8, 2) := by decide +kernel
theorem dX6_pass_62 : decode cX6_pass 62 = .ok (.if_icmp .ge 43, 3) := by decide +kernel
theorem dX6_pass_65 : decode cX6_pass 65 = .ok (.aload_n 0, 1) := by decide +kernel
theorem dX6_pass_66 : decode cX6_pass 66 = .ok (.getfield 26, 3) := by decide +kernel
theorem dX6_pass_69 : decode cX6_pass 69 = .ok (.iload 4, 2) := by decide +kernel
theorem dX6_pass_71 : decode cX6_pass 71 = .ok (.iaload, 1) := by decide +kernel
theorem dX6_pass_72 : decode cX6_pass 72 = .ok (.iconst (-1), 1) := by decide +kernel
theorem dX6_pass_73 : decode cX6_pass 73 = .ok (.if_icmp .eq 26, 3) := by decide +kernel
theorem dX6_pass_76 : decode cX6_pass 76 = .ok (.aload_n 0, 1) := by decide +kernel
theorem dX6_pass_77 : decode cX6_pass 77 = .ok (.getfield 44, 3) := by decide +kernel
theorem dX6_pass_80 : decode cX6_pass 80 = .ok (.iload 4, 2) := by decide +kernel
theorem dX6_pass_82 : decode cX6_pass 82 = .ok (.iaload, 1) := by decide +kernel
theorem dX6_pass_83 : decode cX6_pass 83 = .ok (.aload_n 0, 1) := by decide +kernel
theorem dX6_pass_84 : decode cX6_pass 84 = .ok (.getfield 80, 3) := by decide +kernel
theorem dX6_pass_87 : decode cX6_pass 87 = .ok (.if_icmp .gt 12, 3) := by decide +kernel
theorem dX6_pass_90 : decode cX6_pass 90 = .ok (.aload_n 0, 1) := by decide +kernel
theorem dX6_pass_91 : decode cX6_pass 91 = .ok (.iload 4, 2) := by decide +kernel
theorem dX6_pass_93 : decode cX6_pass 93 = .ok (.invokevirtual 86, 3) := by decide +kernel
theorem dX6_pass_96 : decode cX6_pass 96 = .ok (.iinc 3 1, 3) := by decide +kernel
theorem dX6_pass_99 : decode cX6_pass 99 = .ok (.iinc 4 1, 3) := by decide +kernel
theorem dX6_pass_102 : decode cX6_pass 102 = .ok (.goto (-44), 3) := by decide +kernel
theorem dX6_pass_105 : decode cX6_pass 105 = .ok (.iload_n 3, 1) := by decide +kernel
theorem dX6_pass_106 : decode cX6_pass 106 = .ok (.ireturn, 1) := by decide +kernel
theorem dX6_time_0 : decode cX6_time 0 = .ok (.aload_n 0, 1) := by decide +kernel
theorem dX6_time_1 : decode cX6_time 1 = .ok (.iconst 0, 1) := by decide +kernel
theorem dX6_time_2 : decode cX6_time 2 = .ok (.putfield 63, 3) := by decide +kernel
theorem dX6_time_5 : decode cX6_time 5 = .ok (.aload_n 0, 1) := by decide +kernel
theorem dX6_time_6 : decode cX6_time 6 = .ok (.getfield 80, 3) := by decide +kernel
theorem dX6_time_9 : decode cX6_time 9 = .ok (.ireturn, 1) := by decide +kernel
set_option maxRecDepth 20000 in
theorem ggX6_setOpening_X6_in : GoodIn wsX6_setOpening wsX6_in := goodIn_r _ [5] (by decide +kernel) (by decide +kernel)
set_option maxRecDepth 20000 in
theorem gX6_setOpening_X6_in : GoodIn wsX6_setOpening (va_wsS RX6 66 yX6_in wsX6_in) := goodIn_app (goodIn_of _ (by decide +kernel)) ggX6_setOpening_X6_in
set_option maxRecDepth 20000 in
theorem ggX6_setOpening_X6_goesWell : GoodIn wsX6_setOpening wsX6_goesWell := goodIn_r _ [9, 10, 11, 12, 13, 14, 15, 16, 17, 18, 19, 20, 21, 22, 23, 24, 25, 26, 27, 28, 29, 30, 31] (by decide +kernel) (by decide +kernel)
set_option maxRecDepth 20000 in
theorem gX6_setOpening_X6_goesWell : GoodIn wsX6_setOpening (wsV RX6 83 RX6 yX6_goesWell wsX6_goesWell) := goodIn_app (goodIn_of _ (by decide +kernel)) ggX6_setOpening_X6_goesWell
theorem dX6_setOpening_0 : decode cX6_setOpening 0 = .ok (.aload_n 0, 1) := by decide +kernel
theorem dX6_setOpening_1 : decode cX6_setOpening 1 = .ok (.iload_n 1, 1) := by decide +kernel
theorem dX6_setOpening_2 : decode cX6_setOpening 2 = .ok (.iconst 0, 1) := by decide +kernel
theorem dX6_setOpening_3 : decode cX6_setOpening 3 = .ok (.sipush 10000, 3) := by decide +kernel
theorem dX6_setOpening_6 : decode cX6_setOpening 6 = .ok (.invokestatic 66, 3) := by decide +kernel
theorem dX6_setOpening_9 : decode cX6_setOpening 9 = .ok (.ifCond .eq 7, 3) := by decide +kernel
theorem dX6_setOpening_12 : decode cX6_setOpening 12 = .ok (.iconst 0, 1) := by decide +kernel
theorem dX6_setOpening_13 : decode cX6_setOpening 13 = .ok (.goto 4, 3) := by decide +kernel
theorem dX6_setOpening_16 : decode cX6_setOpening 16 = .ok (.iconst 1, 1) := by decide +kernel
theorem dX6_setOpening_17 : decode cX6_setOpening 17 = .ok (.invokevirtual 83, 3) := by decide +kernel
theorem dX6_setOpening_20 : decode cX6_setOpening 20 = .ok (.ifCond .ne 5, 3) := by decide +kernel
theorem dX6_setOpening_23 : decode cX6_setOpening 23 = .ok (.iconst 0, 1) := by decide +kernel
theorem dX6_setOpening_24 : decode cX6_setOpening 24 = .ok (.ireturn, 1) := by decide +kernel
theorem dX6_setOpening_25 : decode cX6_setOpening 25 = .ok (.aload_n 0, 1) := by decide +kernel
theorem dX6_setOpening_26 : decode cX6_setOpening 26 = .ok (.getfield 7, 3) := by decide +kernel
theorem dX6_setOpening_29 : decode cX6_setOpening 29 = .ok (.istore_n 2, 1) := by decide +kernel
theorem dX6_setOpening_30 : decode cX6_setOpening 30 = .ok (.aload_n 0, 1) := by decide +kernel
theorem dX6_setOpening_31 : decode cX6_setOpening 31 = .ok (.iload_n 1, 1) := by decide +kernel
theorem dX6_setOpening_32 : decode cX6_setOpening 32 = .ok (.putfield 7, 3) := by decide +kernel
theorem dX6_setOpening_35 : decode cX6_setOpening 35 = .ok (.iload_n 2, 1) := by decide +kernel
theorem dX6_setOpening_36 : decode cX6_setOpening 36 = .ok (.ireturn, 1) := by decide +kernel
set_option maxRecDepth 20000 in
theorem ggX6_code_X6_in : GoodIn wsX6_code wsX6_in := goodIn_r _ [7] (by decide +kernel) (by decide +kernel)
set_option maxRecDepth 20000 in
theorem gX6_code_X6_in : GoodIn wsX6_code (va_wsS RX6 66 yX6_in wsX6_in) := goodIn_app (goodIn_of _ (by decide +kernel)) ggX6_code_X6_in
set_option maxRecDepth 20000 in
theorem ggX6_code_X6_goesWell : GoodIn wsX6_code wsX6_goesWell := goodIn_r _ [11, 12, 13, 14, 15, 16, 17, 18, 19, 20, 21, 22, 23, 24, 25, 26, 27, 28, 29, 30, 31, 32, 33] (by decide +kernel) (by decide +kernel)
set_option maxRecDepth 20000 in
theorem gX6_code_X6_goesWell : GoodIn wsX6_code (wsV RX6 83 RX6 yX6_goesWell wsX6_goesWell) := goodIn_app (goodIn_of _ (by decide +kernel)) ggX6_code_X6_goesWell
theorem dX6_code_0 : decode cX6_code 0 = .ok (.iload_n 1, 1) := by decide +kernel
theorem dX6_code_1 : decode cX6_code 1 = .ok (.iconst 1, 1) := by decide +kernel
theorem dX6_code_2 : decode cX6_code 2 = .ok (.bipush 10, 2) := by decide +kernel
theorem dX6_code_4 : decode cX6_code 4 = .ok (.invokestatic 66, 3) := by decide +kernel
theorem dX6_code_7 : decode cX6_code 7 = .ok (.ifCond .eq 17, 3) := by decide +kernel
theorem dX6_code_10 : decode cX6_code 10 = .ok (.iload_n 2, 1) := by decide +kernel
theorem dX6_code_11 : decode cX6_code 11 = .ok (.iconst 1, 1) := by decide +kernel
theorem dX6_code_12 : decode cX6_code 12 = .ok (.bipush 20, 2) := by decide +kernel
theorem dX6_code_14 : decode cX6_code 14 = .ok (.invokestatic 66, 3) := by decide +kernel
theorem dX6_code_17 : decode cX6_code 17 = .ok (.ifCond .eq 7, 3) := by decide +kernel
theorem dX6_code_20 : decode cX6_code 20 = .ok (.iconst 1, 1) := by decide +kernel
theorem dX6_code_21 : decode cX6_code 21 = .ok (.goto 4, 3) := by decide +kernel
theorem dX6_code_24 : decode cX6_code 24 = .ok (.iconst 0, 1) := by decide +kernel
theorem dX6_code_25 : decode cX6_code 25 = .ok (.istore_n 3, 1) := by decide +kernel
theorem dX6_code_26 : decode cX6_code 26 = .ok (.aload_n 0, 1) := by decide +kernel
theorem dX6_code_27 : decode cX6_code 27 = .ok (.iload_n 3, 1) := by decide +kernel
theorem dX6_code_28 : decode cX6_code 28 = .ok (.ifCond .ne 7, 3) := by decide +kernel
theorem dX6_code_31 : decode cX6_code 31 = .ok (.iconst 1, 1) := by decide +kernel
theorem dX6_code_32 : decode cX6_code 32 = .ok (.goto 17, 3) := by decide +kernel
theorem dX6_code_35 : decode cX6_code 35 = .ok (.aload_n 0, 1) := by decide +kernel
theorem dX6_code_36 : decode cX6_code 36 = .ok (.getfield 70, 3) := by decide +kernel
theorem dX6_code_39 : decode cX6_code 39 = .ok (.bipush 10, 2) := by decide +kernel
theorem dX6_code_41 : decode cX6_code 41 = .ok (.if_icmp .ne 7, 3) := by decide +kernel
theorem dX6_code_44 : decode cX6_code 44 = .ok (.iconst 2, 1) := by decide +kernel
theorem dX6_code_45 : decode cX6_code 45 = .ok (.goto 4, 3) := by decide +kernel
theorem dX6_code_48 : decode cX6_code 48 = .ok (.iconst 0, 1) := by decide +kernel
theorem dX6_code_49 : decode cX6_code 49 = .ok (.invokevirtual 83, 3) := by decide +kernel
theorem dX6_code_52 : decode cX6_code 52 = .ok (.ifCond .ne 5, 3) := by decide +kernel
theorem dX6_code_55 : decode cX6_code 55 = .ok (.iconst 0, 1) := by decide +kernel
theorem dX6_code_56 : decode cX6_code 56 = .ok (.ireturn, 1) := by decide +kernel
theorem dX6_code_57 : decode cX6_code 57 = .ok (.aload_n 0, 1) := by decide +kernel
theorem dX6_code_58 : decode cX6_code 58 = .ok (.getfield 13, 3) := by decide +kernel
theorem dX6_code_61 : decode cX6_code 61 = .ok (.aload_n 0, 1) := by decide +kernel
theorem dX6_code_62 : decode cX6_code 62 = .ok (.getfield 70, 3) := by decide +kernel
theorem dX6_code_65 : decode cX6_code 65 = .ok (.iload_n 1, 1) := by decide +kernel
theorem dX6_code_66 : decode cX6_code 66 = .ok (.iastore, 1) := by decide +kernel
theorem dX6_code_67 : decode cX6_code 67 = .ok (.aload_n 0, 1) := by decide +kernel
theorem dX6_code_68 : decode cX6_code 68 = .ok (.getfield 17, 3) := by decide +kernel
theorem dX6_code_71 : decode cX6_code 71 = .ok (.aload_n 0, 1) := by decide +kernel
theorem dX6_code_72 : decode cX6_code 72 = .ok (.getfield 70, 3) := by decide +kernel
theorem dX6_code_75 : decode cX6_code 75 = .ok (.iload_n 2, 1) := by decide +kernel
theorem dX6_code_76 : decode cX6_code 76 = .ok (.iastore, 1) := by decide +kernel
theorem dX6_code_77 : decode cX6_code 77 = .ok (.aload_n 0, 1) := by decide +kernel
theorem dX6_code_78 : decode cX6_code 78 = .ok (.dup, 1) := by decide +kernel
theorem dX6_code_79 : decode cX6_code 79 = .ok (.getfield 70, 3) := by decide +kernel
theorem dX6_code_82 : decode cX6_code 82 = .ok (.iconst 1, 1) := by decide +kernel
theorem dX6_code_83 : decode cX6_code 83 = .ok (.iadd, 1) := by decide +kernel
theorem dX6_code_84 : decode cX6_code 84 = .ok (.putfield 70, 3) := by decide +kernel
theorem dX6_code_87 : decode cX6_code 87 = .ok (.aload_n 0, 1) := by decide +kernel
theorem dX6_code_88 : decode cX6_code 88 = .ok (.getfield 70, 3) := by decide +kernel
theorem dX6_code_91 : decode cX6_code 91 = .ok (.iconst 1, 1) := by decide +kernel
theorem dX6_code_92 : decode cX6_code 92 = .ok (.isub, 1) := by decide +kernel
theorem dX6_code_93 : decode cX6_code 93 = .ok (.ireturn, 1) := by decide +kernel
theorem dX6_usedBy_0 : decode cX6_usedBy 0 = .ok (.aload_n 0, 1) := by decide +kernel
theorem dX6_usedBy_1 : decode cX6_usedBy 1 = .ok (.getfield 26, 3) := by decide +kernel
theorem dX6_usedBy_4 : decode cX6_usedBy 4 = .ok (.iload_n 2, 1) := by decide +kernel
theorem dX6_usedBy_5 : decode cX6_usedBy 5 = .ok (.iaload, 1) := by decide +kernel
theorem dX6_usedBy_6 : decode cX6_usedBy 6 = .ok (.iconst (-1), 1) := by decide +kernel
theorem dX6_usedBy_7 : decode cX6_usedBy 7 = .ok (.if_icmp .eq 22, 3) := by decide +kernel
theorem dX6_usedBy_10 : decode cX6_usedBy 10 = .ok (.aload_n 0, 1) := by decide +kernel
theorem dX6_usedBy_11 : decode cX6_usedBy 11 = .ok (.getfield 32, 3) := by decide +kernel
theorem dX6_usedBy_14 : decode cX6_usedBy 14 = .ok (.iload_n 2, 1) := by decide +kernel
theorem dX6_usedBy_15 : decode cX6_usedBy 15 = .ok (.iaload, 1) := by decide +kernel
theorem dX6_usedBy_16 : decode cX6_usedBy 16 = .ok (.iload_n 1, 1) := by decide +kernel
theorem dX6_usedBy_17 : decode cX6_usedBy 17 = .ok (.if_icmp .ne 12, 3) := by decide +kernel
theorem dX6_usedBy_20 : decode cX6_usedBy 20 = .ok (.aload_n 0, 1) := by decide +kernel
theorem dX6_usedBy_21 : decode cX6_usedBy 21 = .ok (.getfield 29, 3) := by decide +kernel
theorem dX6_usedBy_24 : decode cX6_usedBy 24 = .ok (.iload_n 2, 1) := by decide +kernel
theorem dX6_usedBy_25 : decode cX6_usedBy 25 = .ok (.iaload, 1) := by decide +kernel
theorem dX6_usedBy_26 : decode cX6_usedBy 26 = .ok (.goto 4, 3) := by decide +kernel
theorem dX6_usedBy_29 : decode cX6_usedBy 29 = .ok (.iconst 0, 1) := by decide +kernel
theorem dX6_usedBy_30 : decode cX6_usedBy 30 = .ok (.istore_n 3, 1) := by decide +kernel
theorem dX6_usedBy_31 : decode cX6_usedBy 31 = .ok (.aload_n 0, 1) := by decide +kernel
theorem dX6_usedBy_32 : decode cX6_usedBy 32 = .ok (.getfield 20, 3) := by decide +kernel
theorem dX6_usedBy_35 : decode cX6_usedBy 35 = .ok (.bipush 8, 2) := by decide +kernel
theorem dX6_usedBy_37 : decode cX6_usedBy 37 = .ok (.iload_n 1, 1) := by decide +kernel
theorem dX6_usedBy_38 : decode cX6_usedBy 38 = .ok (.imul, 1) := by decide +kernel
theorem dX6_usedBy_39 : decode cX6_usedBy 39 = .ok (.iload_n 2, 1) := by decide +kernel
theorem dX6_usedBy_40 : decode cX6_usedBy 40 = .ok (.iadd, 1) := by decide +kernel
theorem dX6_usedBy_41 : decode cX6_usedBy 41 = .ok (.iaload, 1) := by decide +kernel
theorem dX6_usedBy_42 : decode cX6_usedBy 42 = .ok (.iload_n 3, 1) := by decide +kernel
theorem dX6_usedBy_43 : decode cX6_usedBy 43 = .ok (.iadd, 1) := by decide +kernel
theorem dX6_usedBy_44 : decode cX6_usedBy 44 = .ok (.ireturn, 1) := by decide +kernel
set_option maxRecDepth 20000 in
theorem ggX6_used_X6_isCode : GoodIn wsX6_used wsX6_isCode := goodIn_r _ [5, 6, 7, 8, 4, 9, 26, 27, 28, 29, 30, 31, 32, 33, 34, 35, 36, 37, 38, 39, 40, 41, 42, 43, 44, 45, 46] (by decide +kernel) (by decide +kernel)
set_option maxRecDepth 20000 in
theorem gX6_used_X6_isCode : GoodIn wsX6_used (wsV RX6 90 RX6 yX6_isCode wsX6_isCode) := goodIn_app (goodIn_of _ (by decide +kernel)) ggX6_used_X6_isCode
set_option maxRecDepth 20000 in
theorem ggX6_used_X6_isPerson : GoodIn wsX6_used wsX6_isPerson := goodIn_r _ [12, 7, 8, 4, 9] (by decide +kernel) (by decide +kernel)
set_option maxRecDepth 20000 in
theorem gX6_used_X6_isPerson : GoodIn wsX6_used (va_wsS RX6 93 yX6_isPerson wsX6_isPerson) := goodIn_app (goodIn_of _ (by decide +kernel)) ggX6_used_X6_isPerson
set_option maxRecDepth 20000 in
theorem ggX6_used_X6_goesWell : GoodIn wsX6_used wsX6_goesWell := goodIn_r _ [16, 17, 26, 27, 28, 29, 30, 31, 32, 33, 34, 35, 36, 37, 38, 39, 40, 41, 42, 43, 44, 45, 46] (by decide +kernel) (by decide +kernel)
set_option maxRecDepth 20000 in
theorem gX6_used_X6_goesWell : GoodIn wsX6_used (wsV RX6 83 RX6 yX6_goesWell wsX6_goesWell) := goodIn_app (goodIn_of _ (by decide +kernel)) ggX6_used_X6_goesWell
set_option maxRecDepth 20000 in
theorem ggX6_used_X6_usedBy : GoodIn wsX6_used wsX6_usedBy := goodIn_r _ [21, 22, 23, 24, 25, 26, 27, 28, 29, 30, 31, 32, 33, 34, 35, 36, 37, 38, 39, 40, 41, 42, 43, 44, 45, 46] (by decide +kernel) (by decide +kernel)
set_option maxRecDepth 20000 in
theorem gX6_used_X6_usedBy : GoodIn wsX6_used (wsV RX6 96 RX6 yX6_usedBy wsX6_usedBy) := goodIn_app (goodIn_of _ (by decide +kernel)) ggX6_used_X6_usedBy
theorem dX6_used_0 : decode cX6_used 0 = .ok (.aload_n 0, 1) := by decide +kernel
theorem dX6_used_1 : decode cX6_used 1 = .ok (.aload_n 0, 1) := by decide +kernel
theorem dX6_used_2 : decode cX6_used 2 = .ok (.iload_n 1, 1) := by decide +kernel
theorem dX6_used_3 : decode cX6_used 3 = .ok (.invokevirtual 90, 3) := by decide +kernel
theorem dX6_used_6 : decode cX6_used 6 = .ok (.ifCond .eq 14, 3) := by decide +kernel
theorem dX6_used_9 : decode cX6_used 9 = .ok (.iload_n 2, 1) := by decide +kernel
theorem dX6_used_10 : decode cX6_used 10 = .ok (.invokestatic 93, 3) := by decide +kernel
theorem dX6_used_13 : decode cX6_used 13 = .ok (.ifCond .eq 7, 3) := by decide +kernel
theorem dX6_used_16 : decode cX6_used 16 = .ok (.iconst 0, 1) := by decide +kernel
theorem dX6_used_17 : decode cX6_used 17 = .ok (.goto 4, 3) := by decide +kernel
theorem dX6_used_20 : decode cX6_used 20 = .ok (.iconst 1, 1) := by decide +kernel
theorem dX6_used_21 : decode cX6_used 21 = .ok (.invokevirtual 83, 3) := by decide +kernel
theorem dX6_used_24 : decode cX6_used 24 = .ok (.ifCond .eq 12, 3) := by decide +kernel
theorem dX6_used_27 : decode cX6_used 27 = .ok (.aload_n 0, 1) := by decide +kernel
theorem dX6_used_28 : decode cX6_used 28 = .ok (.iload_n 1, 1) := by decide +kernel
theorem dX6_used_29 : decode cX6_used 29 = .ok (.iload_n 2, 1) := by decide +kernel
theorem dX6_used_30 : decode cX6_used 30 = .ok (.invokevirtual 96, 3) := by decide +kernel
theorem dX6_used_33 : decode cX6_used 33 = .ok (.goto 4, 3) := by decide +kernel
theorem dX6_used_36 : decode cX6_used 36 = .ok (.iconst 0, 1) := by decide +kernel
theorem dX6_used_37 : decode cX6_used 37 = .ok (.ireturn, 1) := by decide +kernel
theorem dX6_countQueue_0 : decode cX6_countQueue 0 = .ok (.iconst 0, 1) := by decide +kernel
theorem dX6_countQueue_1 : decode cX6_countQueue 1 = .ok (.istore_n 1, 1) := by decide +kernel
theorem dX6_countQueue_2 : decode cX6_countQueue 2 = .ok (.iconst 0, 1) := by decide +kernel
theorem dX6_countQueue_3 : decode cX6_countQueue 3 = .ok (.istore_n 2, 1) := by decide +kernel
theorem dX6_countQueue_4 : decode cX6_countQueue 4 = .ok (.iload_n 2, 1) := by decide +kernel
theorem dX6_countQueue_5 : decode cX6_countQueue 5 = .ok (.bipush 8, 2) := by decide +kernel
theorem dX6_countQueue_7 : decode cX6_countQueue 7 = .ok (.if_icmp .ge 27, 3) := by decide +kernel
theorem dX6_countQueue_10 : decode cX6_countQueue 10 = .ok (.iload_n 1, 1) := by decide +kernel
theorem dX6_countQueue_11 : decode cX6_countQueue 11 = .ok (.aload_n 0, 1) := by decide +kernel
theorem dX6_countQueue_12 : decode cX6_countQueue 12 = .ok (.getfield 23, 3) := by decide +kernel
theorem dX6_countQueue_15 : decode cX6_countQueue 15 = .ok (.iload_n 2, 1) := by decide +kernel
theorem dX6_countQueue_16 : decode cX6_countQueue 16 = .ok (.iaload, 1) := by decide +kernel
theorem dX6_countQueue_17 : decode cX6_countQueue 17 = .ok (.iconst (-1), 1) := by decide +kernel
theorem dX6_countQueue_18 : decode cX6_countQueue 18 = .ok (.if_icmp .eq 7, 3) := by decide +kernel
theorem dX6_countQueue_21 : decode cX6_countQueue 21 = .ok (.iconst 1, 1) := by decide +kernel
theorem dX6_countQueue_22 : decode cX6_countQueue 22 = .ok (.goto 4, 3) := by decide +kernel
theorem dX6_countQueue_25 : decode cX6_countQueue 25 = .ok (.iconst 0, 1) := by decide +kernel
theorem dX6_countQueue_26 : decode cX6_countQueue 26 = .ok (.iadd, 1) := by decide +kernel
theorem dX6_countQueue_27 : decode cX6_countQueue 27 = .ok (.istore_n 1, 1) := by decide +kernel
theorem dX6_countQueue_28 : decode cX6_countQueue 28 = .ok (.iinc 2 1, 3) := by decide +kernel
theorem dX6_countQueue_31 : decode cX6_countQueue 31 = .ok (.goto (-27), 3) := by decide +kernel
theorem dX6_countQueue_34 : decode cX6_countQueue 34 = .ok (.iload_n 1, 1) := by decide +kernel
theorem dX6_countQueue_35 : decode cX6_countQueue 35 = .ok (.ireturn, 1) := by decide +kernel
theorem dX6_isAhead_0 : decode cX6_isAhead 0 = .ok (.iconst 5, 1) := by decide +kernel
theorem dX6_isAhead_1 : decode cX6_isAhead 1 = .ok (.iload_n 1, 1) := by decide +kernel
theorem dX6_isAhead_2 : decode cX6_isAhead 2 = .ok (.imul, 1) := by decide +kernel
theorem dX6_isAhead_3 : decode cX6_isAhead 3 = .ok (.iconst 3, 1) := by decide +kernel
theorem dX6_isAhead_4 : decode cX6_isAhead 4 = .ok (.aload_n 0, 1) := by decide +kernel
theorem dX6_isAhead_5 : decode cX6_isAhead 5 = .ok (.getfield 23, 3) := by decide +kernel
theorem dX6_isAhead_8 : decode cX6_isAhead 8 = .ok (.iload_n 1, 1) := by decide +kernel
theorem dX6_isAhead_9 : decode cX6_isAhead 9 = .ok (.iaload, 1) := by decide +kernel
theorem dX6_isAhead_10 : decode cX6_isAhead 10 = .ok (.imul, 1) := by decide +kernel
theorem dX6_isAhead_11 : decode cX6_isAhead 11 = .ok (.iadd, 1) := by decide +kernel
theorem dX6_isAhead_12 : decode cX6_isAhead 12 = .ok (.bipush 8, 2) := by decide +kernel
theorem dX6_isAhead_14 : decode cX6_isAhead 14 = .ok (.irem, 1) := by decide +kernel
theorem dX6_isAhead_15 : decode cX6_isAhead 15 = .ok (.istore_n 3, 1) := by decide +kernel
theorem dX6_isAhead_16 : decode cX6_isAhead 16 = .ok (.iconst 5, 1) := by decide +kernel
theorem dX6_isAhead_17 : decode cX6_isAhead 17 = .ok (.iload_n 2, 1) := by decide +kernel
theorem dX6_isAhead_18 : decode cX6_isAhead 18 = .ok (.imul, 1) := by decide +kernel
theorem dX6_isAhead_19 : decode cX6_isAhead 19 = .ok (.iconst 3, 1) := by decide +kernel
theorem dX6_isAhead_20 : decode cX6_isAhead 20 = .ok (.aload_n 0, 1) := by decide +kernel
theorem dX6_isAhead_21 : decode cX6_isAhead 21 = .ok (.getfield 23, 3) := by decide +kernel
theorem dX6_isAhead_24 : decode cX6_isAhead 24 = .ok (.iload_n 2, 1) := by decide +kernel
theorem dX6_isAhead_25 : decode cX6_isAhead 25 = .ok (.iaload, 1) := by decide +kernel
theorem dX6_isAhead_26 : decode cX6_isAhead 26 = .ok (.imul, 1) := by decide +kernel
theorem dX6_isAhead_27 : decode cX6_isAhead 27 = .ok (.iadd, 1) := by decide +kernel
theorem dX6_isAhead_28 : decode cX6_isAhead 28 = .ok (.bipush 8, 2) := by decide +kernel
theorem dX6_isAhead_30 : decode cX6_isAhead 30 = .ok (.irem, 1) := by decide +kernel
theorem dX6_isAhead_31 : decode cX6_isAhead 31 = .ok (.istore 4, 2) := by decide +kernel
theorem dX6_isAhead_33 : decode cX6_isAhead 33 = .ok (.aload_n 0, 1) := by decide +kernel
theorem dX6_isAhead_34 : decode cX6_isAhead 34 = .ok (.getfield 23, 3) := by decide +kernel
theorem dX6_isAhead_37 : decode cX6_isAhead 37 = .ok (.iload_n 1, 1) := by decide +kernel
theorem dX6_isAhead_38 : decode cX6_isAhead 38 = .ok (.iaload, 1) := by decide +kernel
theorem dX6_isAhead_39 : decode cX6_isAhead 39 = .ok (.aload_n 0, 1) := by decide +kernel
theorem dX6_isAhead_40 : decode cX6_isAhead 40 = .ok (.getfield 23, 3) := by decide +kernel
theorem dX6_isAhead_43 : decode cX6_isAhead 43 = .ok (.iload_n 2, 1) := by decide +kernel
theorem dX6_isAhead_44 : decode cX6_isAhead 44 = .ok (.iaload, 1) := by decide +kernel
theorem dX6_isAhead_45 : decode cX6_isAhead 45 = .ok (.if_icmp .lt 24, 3) := by decide +kernel
theorem dX6_isAhead_48 : decode cX6_isAhead 48 = .ok (.aload_n 0, 1) := by decide +kernel
theorem dX6_isAhead_49 : decode cX6_isAhead 49 = .ok (.getfield 23, 3) := by decide +kernel
theorem dX6_isAhead_52 : decode cX6_isAhead 52 = .ok (.iload_n 1, 1) := by decide +kernel
theorem dX6_isAhead_53 : decode cX6_isAhead 53 = .ok (.iaload, 1) := by decide +kernel
theorem dX6_isAhead_54 : decode cX6_isAhead 54 = .ok (.aload_n 0, 1) := by decide +kernel
theorem dX6_isAhead_55 : decode cX6_isAhead 55 = .ok (.getfield 23, 3) := by decide +kernel
theorem dX6_isAhead_58 : decode cX6_isAhead 58 = .ok (.iload_n 2, 1) := by decide +kernel
theorem dX6_isAhead_59 : decode cX6_isAhead 59 = .ok (.iaload, 1) := by decide +kernel
theorem dX6_isAhead_60 : decode cX6_isAhead 60 = .ok (.if_icmp .ne 13, 3) := by decide +kernel
theorem dX6_isAhead_63 : decode cX6_isAhead 63 = .ok (.iload_n 3, 1) := by decide +kernel
theorem dX6_isAhead_64 : decode cX6_isAhead 64 = .ok (.iload 4, 2) := by decide +kernel
theorem dX6_isAhead_66 : decode cX6_isAhead 66 = .ok (.if_icmp .ge 7, 3) := by decide +kernel
theorem dX6_isAhead_69 : decode cX6_isAhead 69 = .ok (.iconst 1, 1) := by decide +kernel
theorem dX6_isAhead_70 : decode cX6_isAhead 70 = .ok (.goto 4, 3) := by decide +kernel
theorem dX6_isAhead_73 : decode cX6_isAhead 73 = .ok (.iconst 0, 1) := by decide +kernel
theorem dX6_isAhead_74 : decode cX6_isAhead 74 = .ok (.ireturn, 1) := by decide +kernel
set_option maxRecDepth 20000 in
theorem ggX6_placeAt_X6_isAhead : GoodIn wsX6_placeAt wsX6_isAhead := goodIn_r _ [6, 1, 7, 8, 9, 10, 11, 12, 13, 14, 15, 16, 17, 18, 19, 20, 21, 22, 23, 24, 25, 26, 27] (by decide +kernel) (by decide +kernel)
set_option maxRecDepth 20000 in
theorem gX6_placeAt_X6_isAhead : GoodIn wsX6_placeAt (wsV RX6 100 RX6 yX6_isAhead wsX6_isAhead) := goodIn_app (goodIn_of _ (by decide +kernel)) ggX6_placeAt_X6_isAhead
theorem dX6_placeAt_0 : decode cX6_placeAt 0 = .ok (.iconst 0, 1) := by decide +kernel
theorem dX6_placeAt_1 : decode cX6_placeAt 1 = .ok (.istore_n 2, 1) := by decide +kernel
theorem dX6_placeAt_2 : decode cX6_placeAt 2 = .ok (.iload_n 2, 1) := by decide +kernel
theorem dX6_placeAt_3 : decode cX6_placeAt 3 = .ok (.bipush 8, 2) := by decide +kernel
theorem dX6_placeAt_5 : decode cX6_placeAt 5 = .ok (.if_icmp .ge 73, 3) := by decide +kernel
theorem dX6_placeAt_8 : decode cX6_placeAt 8 = .ok (.iconst 0, 1) := by decide +kernel
theorem dX6_placeAt_9 : decode cX6_placeAt 9 = .ok (.istore_n 3, 1) := by decide +kernel
theorem dX6_placeAt_10 : decode cX6_placeAt 10 = .ok (.iconst 0, 1) := by decide +kernel
theorem dX6_placeAt_11 : decode cX6_placeAt 11 = .ok (.istore 4, 2) := by decide +kernel
theorem dX6_placeAt_13 : decode cX6_placeAt 13 = .ok (.iload 4, 2) := by decide +kernel
theorem dX6_placeAt_15 : decode cX6_placeAt 15 = .ok (.bipush 8, 2) := by decide +kernel
theorem dX6_placeAt_17 : decode cX6_placeAt 17 = .ok (.if_icmp .ge 38, 3) := by decide +kernel
theorem dX6_placeAt_20 : decode cX6_placeAt 20 = .ok (.iload_n 3, 1) := by decide +kernel
theorem dX6_placeAt_21 : decode cX6_placeAt 21 = .ok (.aload_n 0, 1) := by decide +kernel
theorem dX6_placeAt_22 : decode cX6_placeAt 22 = .ok (.getfield 23, 3) := by decide +kernel
theorem dX6_placeAt_25 : decode cX6_placeAt 25 = .ok (.iload 4, 2) := by decide +kernel
theorem dX6_placeAt_27 : decode cX6_placeAt 27 = .ok (.iaload, 1) := by decide +kernel
theorem dX6_placeAt_28 : decode cX6_placeAt 28 = .ok (.iconst (-1), 1) := by decide +kernel
theorem dX6_placeAt_29 : decode cX6_placeAt 29 = .ok (.if_icmp .eq 17, 3) := by decide +kernel
theorem dX6_placeAt_32 : decode cX6_placeAt 32 = .ok (.aload_n 0, 1) := by decide +kernel
theorem dX6_placeAt_33 : decode cX6_placeAt 33 = .ok (.iload 4, 2) := by decide +kernel
theorem dX6_placeAt_35 : decode cX6_placeAt 35 = .ok (.iload_n 2, 1) := by decide +kernel
theorem dX6_placeAt_36 : decode cX6_placeAt 36 = .ok (.invokevirtual 100, 3) := by decide +kernel
theorem dX6_placeAt_39 : decode cX6_placeAt 39 = .ok (.ifCond .eq 7, 3) := by decide +kernel
theorem dX6_placeAt_42 : decode cX6_placeAt 42 = .ok (.iconst 1, 1) := by decide +kernel
theorem dX6_placeAt_43 : decode cX6_placeAt 43 = .ok (.goto 4, 3) := by decide +kernel
theorem dX6_placeAt_46 : decode cX6_placeAt 46 = .ok (.iconst 0, 1) := by decide +kernel
theorem dX6_placeAt_47 : decode cX6_placeAt 47 = .ok (.iadd, 1) := by decide +kernel
theorem dX6_placeAt_48 : decode cX6_placeAt 48 = .ok (.istore_n 3, 1) := by decide +kernel
theorem dX6_placeAt_49 : decode cX6_placeAt 49 = .ok (.iinc 4 1, 3) := by decide +kernel
theorem dX6_placeAt_52 : decode cX6_placeAt 52 = .ok (.goto (-39), 3) := by decide +kernel
theorem dX6_placeAt_55 : decode cX6_placeAt 55 = .ok (.aload_n 0, 1) := by decide +kernel
theorem dX6_placeAt_56 : decode cX6_placeAt 56 = .ok (.getfield 23, 3) := by decide +kernel
theorem dX6_placeAt_59 : decode cX6_placeAt 59 = .ok (.iload_n 2, 1) := by decide +kernel
theorem dX6_placeAt_60 : decode cX6_placeAt 60 = .ok (.iaload, 1) := by decide +kernel
theorem dX6_placeAt_61 : decode cX6_placeAt 61 = .ok (.iconst (-1), 1) := by decide +kernel
theorem dX6_placeAt_62 : decode cX6_placeAt 62 = .ok (.if_icmp .eq 10, 3) := by decide +kernel
theorem dX6_placeAt_65 : decode cX6_placeAt 65 = .ok (.iload_n 3, 1) := by decide +kernel
theorem dX6_placeAt_66 : decode cX6_placeAt 66 = .ok (.iload_n 1, 1) := by decide +kernel
theorem dX6_placeAt_67 : decode cX6_placeAt 67 = .ok (.if_icmp .ne 5, 3) := by decide +kernel
theorem dX6_placeAt_70 : decode cX6_placeAt 70 = .ok (.iload_n 2, 1) := by decide +kernel
theorem dX6_placeAt_71 : decode cX6_placeAt 71 = .ok (.ireturn, 1) := by decide +kernel
theorem dX6_placeAt_72 : decode cX6_placeAt 72 = .ok (.iinc 2 1, 3) := by decide +kernel
theorem dX6_placeAt_75 : decode cX6_placeAt 75 = .ok (.goto (-73), 3) := by decide +kernel
theorem dX6_placeAt_78 : decode cX6_placeAt 78 = .ok (.iconst (-1), 1) := by decide +kernel
theorem dX6_placeAt_79 : decode cX6_placeAt 79 = .ok (.ireturn, 1) := by decide +kernel
set_option maxRecDepth 20000 in
theorem ggX6_join_X6_isPerson : GoodIn wsX6_join wsX6_isPerson := goodIn_r _ [7, 8, 9, 6, 10] (by decide +kernel) (by decide +kernel)
set_option maxRecDepth 20000 in
theorem gX6_join_X6_isPerson : GoodIn wsX6_join (va_wsS RX6 93 yX6_isPerson wsX6_isPerson) := goodIn_app (goodIn_of _ (by decide +kernel)) ggX6_join_X6_isPerson
set_option maxRecDepth 20000 in
theorem ggX6_join_X6_goesWell : GoodIn wsX6_join wsX6_goesWell := goodIn_r _ [14, 15, 20, 21, 22, 23, 24, 25, 26, 27, 28, 29, 30, 31, 32, 33, 34, 35, 36, 37, 38, 39, 40] (by decide +kernel) (by decide +kernel)
set_option maxRecDepth 20000 in
theorem gX6_join_X6_goesWell : GoodIn wsX6_join (wsV RX6 83 RX6 yX6_goesWell wsX6_goesWell) := goodIn_app (goodIn_of _ (by decide +kernel)) ggX6_join_X6_goesWell
set_option maxRecDepth 20000 in
theorem ggX6_join_X6_countQueue : GoodIn wsX6_join wsX6_countQueue := goodIn_r _ [19, 1, 20, 21, 22, 23, 24, 25, 26, 27, 28, 29, 30, 31, 32, 33, 34, 35, 36, 37, 38, 39, 40] (by decide +kernel) (by decide +kernel)
set_option maxRecDepth 20000 in
theorem gX6_join_X6_countQueue : GoodIn wsX6_join (wsV RX6 104 RX6 yX6_countQueue wsX6_countQueue) := goodIn_app (goodIn_of _ (by decide +kernel)) ggX6_join_X6_countQueue
theorem dX6_join_0 : decode cX6_join 0 = .ok (.iload_n 1, 1) := by decide +kernel
theorem dX6_join_1 : decode cX6_join 1 = .ok (.invokestatic 93, 3) := by decide +kernel
theorem dX6_join_4 : decode cX6_join 4 = .ok (.istore_n 2, 1) := by decide +kernel
theorem dX6_join_5 : decode cX6_join 5 = .ok (.aload_n 0, 1) := by decide +kernel
theorem dX6_join_6 : decode cX6_join 6 = .ok (.iload_n 2, 1) := by decide +kernel
theorem dX6_join_7 : decode cX6_join 7 = .ok (.ifCond .ne 7, 3) := by decide +kernel
theorem dX6_join_10 : decode cX6_join 10 = .ok (.iconst 1, 1) := by decide +kernel
theorem dX6_join_11 : decode cX6_join 11 = .ok (.goto 28, 3) := by decide +kernel
theorem dX6_join_14 : decode cX6_join 14 = .ok (.aload_n 0, 1) := by decide +kernel
theorem dX6_join_15 : decode cX6_join 15 = .ok (.getfield 23, 3) := by decide +kernel
theorem dX6_join_18 : decode cX6_join 18 = .ok (.iload_n 1, 1) := by decide +kernel
theorem dX6_join_19 : decode cX6_join 19 = .ok (.iaload, 1) := by decide +kernel
theorem dX6_join_20 : decode cX6_join 20 = .ok (.iconst (-1), 1) := by decide +kernel
theorem dX6_join_21 : decode cX6_join 21 = .ok (.if_icmp .ne 13, 3) := by decide +kernel
theorem dX6_join_24 : decode cX6_join 24 = .ok (.aload_n 0, 1) := by decide +kernel
theorem dX6_join_25 : decode cX6_join 25 = .ok (.getfield 26, 3) := by decide +kernel
theorem dX6_join_28 : decode cX6_join 28 = .ok (.iload_n 1, 1) := by decide +kernel
theorem dX6_join_29 : decode cX6_join 29 = .ok (.iaload, 1) := by decide +kernel
theorem dX6_join_30 : decode cX6_join 30 = .ok (.iconst (-1), 1) := by decide +kernel
theorem dX6_join_31 : decode cX6_join 31 = .ok (.if_icmp .eq 7, 3) := by decide +kernel
theorem dX6_join_34 : decode cX6_join 34 = .ok (.iconst 2, 1) := by decide +kernel
theorem dX6_join_35 : decode cX6_join 35 = .ok (.goto 4, 3) := by decide +kernel
theorem dX6_join_38 : decode cX6_join 38 = .ok (.iconst 0, 1) := by decide +kernel
theorem dX6_join_39 : decode cX6_join 39 = .ok (.invokevirtual 83, 3) := by decide +kernel
theorem dX6_join_42 : decode cX6_join 42 = .ok (.ifCond .ne 5, 3) := by decide +kernel
theorem dX6_join_45 : decode cX6_join 45 = .ok (.iconst 0, 1) := by decide +kernel
theorem dX6_join_46 : decode cX6_join 46 = .ok (.ireturn, 1) := by decide +kernel
theorem dX6_join_47 : decode cX6_join 47 = .ok (.aload_n 0, 1) := by decide +kernel
theorem dX6_join_48 : decode cX6_join 48 = .ok (.getfield 23, 3) := by decide +kernel
theorem dX6_join_51 : decode cX6_join 51 = .ok (.iload_n 1, 1) := by decide +kernel
theorem dX6_join_52 : decode cX6_join 52 = .ok (.aload_n 0, 1) := by decide +kernel
theorem dX6_join_53 : decode cX6_join 53 = .ok (.getfield 80, 3) := by decide +kernel
theorem dX6_join_56 : decode cX6_join 56 = .ok (.iastore, 1) := by decide +kernel
theorem dX6_join_57 : decode cX6_join 57 = .ok (.aload_n 0, 1) := by decide +kernel
theorem dX6_join_58 : decode cX6_join 58 = .ok (.invokevirtual 104, 3) := by decide +kernel
theorem dX6_join_61 : decode cX6_join 61 = .ok (.ireturn, 1) := by decide +kernel
set_option maxRecDepth 20000 in
theorem ggX6_quit_X6_isPerson : GoodIn wsX6_quit wsX6_isPerson := goodIn_r _ [5, 6, 7, 4, 8] (by decide +kernel) (by decide +kernel)
set_option maxRecDepth 20000 in
theorem gX6_quit_X6_isPerson : GoodIn wsX6_quit (va_wsS RX6 93 yX6_isPerson wsX6_isPerson) := goodIn_app (goodIn_of _ (by decide +kernel)) ggX6_quit_X6_isPerson
set_option maxRecDepth 20000 in
theorem ggX6_quit_X6_goesWell : GoodIn wsX6_quit wsX6_goesWell := goodIn_r _ [12, 13, 18, 19, 20, 21, 22, 23, 24, 25, 26, 27, 28, 29, 30, 31, 32, 33, 34, 35, 36, 37, 38] (by decide +kernel) (by decide +kernel)
set_option maxRecDepth 20000 in
theorem gX6_quit_X6_goesWell : GoodIn wsX6_quit (wsV RX6 83 RX6 yX6_goesWell wsX6_goesWell) := goodIn_app (goodIn_of _ (by decide +kernel)) ggX6_quit_X6_goesWell
set_option maxRecDepth 20000 in
theorem ggX6_quit_X6_countQueue : GoodIn wsX6_quit wsX6_countQueue := goodIn_r _ [17, 1, 18, 19, 20, 21, 22, 23, 24, 25, 26, 27, 28, 29, 30, 31, 32, 33, 34, 35, 36, 37, 38] (by decide +kernel) (by decide +kernel)
set_option maxRecDepth 20000 in
theorem gX6_quit_X6_countQueue : GoodIn wsX6_quit (wsV RX6 104 RX6 yX6_countQueue wsX6_countQueue) := goodIn_app (goodIn_of _ (by decide +kernel)) ggX6_quit_X6_countQueue
theorem dX6_quit_0 : decode cX6_quit 0 = .ok (.iload_n 1, 1) := by decide +kernel
theorem dX6_quit_1 : decode cX6_quit 1 = .ok (.invokestatic 93, 3) := by decide +kernel
theorem dX6_quit_4 : decode cX6_quit 4 = .ok (.istore_n 2, 1) := by decide +kernel
theorem dX6_quit_5 : decode cX6_quit 5 = .ok (.aload_n 0, 1) := by decide +kernel
theorem dX6_quit_6 : decode cX6_quit 6 = .ok (.iload_n 2, 1) := by decide +kernel
theorem dX6_quit_7 : decode cX6_quit 7 = .ok (.ifCond .ne 7, 3) := by decide +kernel
theorem dX6_quit_10 : decode cX6_quit 10 = .ok (.iconst 1, 1) := by decide +kernel
theorem dX6_quit_11 : decode cX6_quit 11 = .ok (.goto 18, 3) := by decide +kernel
theorem dX6_quit_14 : decode cX6_quit 14 = .ok (.aload_n 0, 1) := by decide +kernel
theorem dX6_quit_15 : decode cX6_quit 15 = .ok (.getfield 23, 3) := by decide +kernel
theorem dX6_quit_18 : decode cX6_quit 18 = .ok (.iload_n 1, 1) := by decide +kernel
theorem dX6_quit_19 : decode cX6_quit 19 = .ok (.iaload, 1) := by decide +kernel
theorem dX6_quit_20 : decode cX6_quit 20 = .ok (.iconst (-1), 1) := by decide +kernel
theorem dX6_quit_21 : decode cX6_quit 21 = .ok (.if_icmp .ne 7, 3) := by decide +kernel
theorem dX6_quit_24 : decode cX6_quit 24 = .ok (.iconst 2, 1) := by decide +kernel
theorem dX6_quit_25 : decode cX6_quit 25 = .ok (.goto 4, 3) := by decide +kernel
theorem dX6_quit_28 : decode cX6_quit 28 = .ok (.iconst 0, 1) := by decide +kernel
theorem dX6_quit_29 : decode cX6_quit 29 = .ok (.invokevirtual 83, 3) := by decide +kernel
theorem dX6_quit_32 : decode cX6_quit 32 = .ok (.ifCond .ne 5, 3) := by decide +kernel
theorem dX6_quit_35 : decode cX6_quit 35 = .ok (.iconst 0, 1) := by decide +kernel
theorem dX6_quit_36 : decode cX6_quit 36 = .ok (.ireturn, 1) := by decide +kernel
theorem dX6_quit_37 : decode cX6_quit 37 = .ok (.aload_n 0, 1) := by decide +kernel
theorem dX6_quit_38 : decode cX6_quit 38 = .ok (.getfield 23, 3) := by decide +kernel
theorem dX6_quit_41 : decode cX6_quit 41 = .ok (.iload_n 1, 1) := by decide +kernel
theorem dX6_quit_42 : decode cX6_quit 42 = .ok (.iconst (-1), 1) := by decide +kernel
theorem dX6_quit_43 : decode cX6_quit 43 = .ok (.iastore, 1) := by decide +kernel
theorem dX6_quit_44 : decode cX6_quit 44 = .ok (.aload_n 0, 1) := by decide +kernel
theorem dX6_quit_45 : decode cX6_quit 45 = .ok (.invokevirtual 104, 3) := by decide +kernel
theorem dX6_quit_48 : decode cX6_quit 48 = .ok (.ireturn, 1) := by decide +kernel
set_option maxRecDepth 20000 in
theorem ggX6_queueAt_X6_countQueue : GoodIn wsX6_queueAt wsX6_countQueue := goodIn_r _ [5, 6, 23, 24, 25, 26, 27, 28, 29, 30, 31, 32, 33, 34, 35, 36, 37, 38, 39, 40, 41, 42, 43] (by decide +kernel) (by decide +kernel)
set_option maxRecDepth 20000 in
theorem gX6_queueAt_X6_countQueue : GoodIn wsX6_queueAt (wsV RX6 104 RX6 yX6_countQueue wsX6_countQueue) := goodIn_app (goodIn_of _ (by decide +kernel)) ggX6_queueAt_X6_countQueue
set_option maxRecDepth 20000 in
theorem ggX6_queueAt_X6_in : GoodIn wsX6_queueAt wsX6_in := goodIn_r _ [9] (by decide +kernel) (by decide +kernel)
set_option maxRecDepth 20000 in
theorem gX6_queueAt_X6_in : GoodIn wsX6_queueAt (va_wsS RX6 66 yX6_in wsX6_in) := goodIn_app (goodIn_of _ (by decide +kernel)) ggX6_queueAt_X6_in
set_option maxRecDepth 20000 in
theorem ggX6_queueAt_X6_goesWell : GoodIn wsX6_queueAt wsX6_goesWell := goodIn_r _ [13, 14, 23, 24, 25, 26, 27, 28, 29, 30, 31, 32, 33, 34, 35, 36, 37, 38, 39, 40, 41, 42, 43] (by decide +kernel) (by decide +kernel)
set_option maxRecDepth 20000 in
theorem gX6_queueAt_X6_goesWell : GoodIn wsX6_queueAt (wsV RX6 83 RX6 yX6_goesWell wsX6_goesWell) := goodIn_app (goodIn_of _ (by decide +kernel)) ggX6_queueAt_X6_goesWell
set_option maxRecDepth 20000 in
theorem ggX6_queueAt_X6_placeAt : GoodIn wsX6_queueAt wsX6_placeAt := goodIn_r _ [18, 6, 19, 20, 21, 4, 22, 23, 24, 25, 26, 27, 28, 29, 30, 31, 32, 33, 34, 35, 36, 37, 38, 39, 40, 41, 42, 43] (by decide +kernel) (by decide +kernel)
set_option maxRecDepth 20000 in
theorem gX6_queueAt_X6_placeAt : GoodIn wsX6_queueAt (wsV RX6 108 RX6 yX6_placeAt wsX6_placeAt) := goodIn_app (goodIn_of _ (by decide +kernel)) ggX6_queueAt_X6_placeAt
theorem dX6_queueAt_0 : decode cX6_queueAt 0 = .ok (.aload_n 0, 1) := by decide +kernel
theorem dX6_queueAt_1 : decode cX6_queueAt 1 = .ok (.iload_n 1, 1) := by decide +kernel
theorem dX6_queueAt_2 : decode cX6_queueAt 2 = .ok (.iconst 0, 1) := by decide +kernel
theorem dX6_queueAt_3 : decode cX6_queueAt 3 = .ok (.aload_n 0, 1) := by decide +kernel
theorem dX6_queueAt_4 : decode cX6_queueAt 4 = .ok (.invokevirtual 104, 3) := by decide +kernel
theorem dX6_queueAt_7 : decode cX6_queueAt 7 = .ok (.iconst 1, 1) := by decide +kernel
theorem dX6_queueAt_8 : decode cX6_queueAt 8 = .ok (.isub, 1) := by decide +kernel
theorem dX6_queueAt_9 : decode cX6_queueAt 9 = .ok (.invokestatic 66, 3) := by decide +kernel
theorem dX6_queueAt_12 : decode cX6_queueAt 12 = .ok (.ifCond .eq 7, 3) := by decide +kernel
theorem dX6_queueAt_15 : decode cX6_queueAt 15 = .ok (.iconst 0, 1) := by decide +kernel
theorem dX6_queueAt_16 : decode cX6_queueAt 16 = .ok (.goto 4, 3) := by decide +kernel
theorem dX6_queueAt_19 : decode cX6_queueAt 19 = .ok (.iconst 1, 1) := by decide +kernel
theorem dX6_queueAt_20 : decode cX6_queueAt 20 = .ok (.invokevirtual 83, 3) := by decide +kernel
theorem dX6_queueAt_23 : decode cX6_queueAt 23 = .ok (.ifCond .eq 11, 3) := by decide +kernel
theorem dX6_queueAt_26 : decode cX6_queueAt 26 = .ok (.aload_n 0, 1) := by decide +kernel
theorem dX6_queueAt_27 : decode cX6_queueAt 27 = .ok (.iload_n 1, 1) := by decide +kernel
theorem dX6_queueAt_28 : decode cX6_queueAt 28 = .ok (.invokevirtual 108, 3) := by decide +kernel
theorem dX6_queueAt_31 : decode cX6_queueAt 31 = .ok (.goto 4, 3) := by decide +kernel
theorem dX6_queueAt_34 : decode cX6_queueAt 34 = .ok (.iconst 0, 1) := by decide +kernel
theorem dX6_queueAt_35 : decode cX6_queueAt 35 = .ok (.ireturn, 1) := by decide +kernel
set_option maxRecDepth 20000 in
theorem ggX6_servedNow_X6_placeAt : GoodIn wsX6_servedNow wsX6_placeAt := goodIn_r _ [7, 1, 8, 9, 10, 6, 11, 12, 13, 14, 15, 16, 17, 18, 19, 20, 21, 22, 23, 24, 25, 26, 27, 28, 29, 30, 31, 32] (by decide +kernel) (by decide +kernel)
set_option maxRecDepth 20000 in
theorem gX6_servedNow_X6_placeAt : GoodIn wsX6_servedNow (wsV RX6 108 RX6 yX6_placeAt wsX6_placeAt) := goodIn_app (goodIn_of _ (by decide +kernel)) ggX6_servedNow_X6_placeAt
theorem dX6_servedNow_0 : decode cX6_servedNow 0 = .ok (.aload_n 0, 1) := by decide +kernel
theorem dX6_servedNow_1 : decode cX6_servedNow 1 = .ok (.iconst 0, 1) := by decide +kernel
theorem dX6_servedNow_2 : decode cX6_servedNow 2 = .ok (.invokevirtual 108, 3) := by decide +kernel
theorem dX6_servedNow_5 : decode cX6_servedNow 5 = .ok (.istore_n 1, 1) := by decide +kernel
theorem dX6_servedNow_6 : decode cX6_servedNow 6 = .ok (.iload_n 1, 1) := by decide +kernel
theorem dX6_servedNow_7 : decode cX6_servedNow 7 = .ok (.iconst (-1), 1) := by decide +kernel
theorem dX6_servedNow_8 : decode cX6_servedNow 8 = .ok (.if_icmp .eq 20, 3) := by decide +kernel
theorem dX6_servedNow_11 : decode cX6_servedNow 11 = .ok (.aload_n 0, 1) := by decide +kernel
theorem dX6_servedNow_12 : decode cX6_servedNow 12 = .ok (.getfield 23, 3) := by decide +kernel
theorem dX6_servedNow_15 : decode cX6_servedNow 15 = .ok (.iload_n 1, 1) := by decide +kernel
theorem dX6_servedNow_16 : decode cX6_servedNow 16 = .ok (.iaload, 1) := by decide +kernel
theorem dX6_servedNow_17 : decode cX6_servedNow 17 = .ok (.aload_n 0, 1) := by decide +kernel
theorem dX6_servedNow_18 : decode cX6_servedNow 18 = .ok (.getfield 80, 3) := by decide +kernel
theorem dX6_servedNow_21 : decode cX6_servedNow 21 = .ok (.if_icmp .ge 7, 3) := by decide +kernel
theorem dX6_servedNow_24 : decode cX6_servedNow 24 = .ok (.iload_n 1, 1) := by decide +kernel
theorem dX6_servedNow_25 : decode cX6_servedNow 25 = .ok (.goto 4, 3) := by decide +kernel
theorem dX6_servedNow_28 : decode cX6_servedNow 28 = .ok (.iconst (-1), 1) := by decide +kernel
theorem dX6_servedNow_29 : decode cX6_servedNow 29 = .ok (.ireturn, 1) := by decide +kernel
set_option maxRecDepth 20000 in
theorem ggX6_served_X6_servedNow : GoodIn wsX6_served wsX6_servedNow := goodIn_r _ [6, 7, 8, 9, 10, 11, 5, 12, 13, 14, 15, 16, 17, 18, 19, 20, 21, 22, 23, 24, 25, 26, 27, 28, 29, 30, 31, 32, 33, 34, 35, 36, 37] (by decide +kernel) (by decide +kernel)
set_option maxRecDepth 20000 in
theorem gX6_served_X6_servedNow : GoodIn wsX6_served (wsV RX6 112 RX6 yX6_servedNow wsX6_servedNow) := goodIn_app (goodIn_of _ (by decide +kernel)) ggX6_served_X6_servedNow
theorem dX6_served_0 : decode cX6_served 0 = .ok (.aload_n 0, 1) := by decide +kernel
theorem dX6_served_1 : decode cX6_served 1 = .ok (.iconst 0, 1) := by decide +kernel
theorem dX6_served_2 : decode cX6_served 2 = .ok (.putfield 63, 3) := by decide +kernel
theorem dX6_served_5 : decode cX6_served 5 = .ok (.aload_n 0, 1) := by decide +kernel
theorem dX6_served_6 : decode cX6_served 6 = .ok (.invokevirtual 112, 3) := by decide +kernel
theorem dX6_served_9 : decode cX6_served 9 = .ok (.ireturn, 1) := by decide +kernel
set_option maxRecDepth 20000 in
theorem ggX6_areOpen_X6_isOpen : GoodIn wsX6_areOpen wsX6_isOpen := goodIn_r _ [6, 1, 7, 8, 9, 10, 5, 11, 12, 13, 14, 15, 16, 17, 18, 19, 20, 21, 22, 23, 24, 25, 26, 27, 28, 29, 30, 31, 32, 33, 34, 35, 36, 37] (by decide +kernel) (by decide +kernel)
set_option maxRecDepth 20000 in
theorem gX6_areOpen_X6_isOpen : GoodIn wsX6_areOpen (wsV RX6 77 RX6 yX6_isOpen wsX6_isOpen) := goodIn_app (goodIn_of _ (by decide +kernel)) ggX6_areOpen_X6_isOpen
theorem dX6_areOpen_0 : decode cX6_areOpen 0 = .ok (.iconst 1, 1) := by decide +kernel
theorem dX6_areOpen_1 : decode cX6_areOpen 1 = .ok (.istore 4, 2) := by decide +kernel
theorem dX6_areOpen_3 : decode cX6_areOpen 3 = .ok (.iload_n 2, 1) := by decide +kernel
theorem dX6_areOpen_4 : decode cX6_areOpen 4 = .ok (.istore 5, 2) := by decide +kernel
theorem dX6_areOpen_6 : decode cX6_areOpen 6 = .ok (.iload 5, 2) := by decide +kernel
theorem dX6_areOpen_8 : decode cX6_areOpen 8 = .ok (.iload_n 2, 1) := by decide +kernel
theorem dX6_areOpen_9 : decode cX6_areOpen 9 = .ok (.iload_n 3, 1) := by decide +kernel
theorem dX6_areOpen_10 : decode cX6_areOpen 10 = .ok (.iadd, 1) := by decide +kernel
theorem dX6_areOpen_11 : decode cX6_areOpen 11 = .ok (.if_icmp .ge 41, 3) := by decide +kernel
theorem dX6_areOpen_14 : decode cX6_areOpen 14 = .ok (.iload 4, 2) := by decide +kernel
theorem dX6_areOpen_16 : decode cX6_areOpen 16 = .ok (.ifCond .eq 27, 3) := by decide +kernel
theorem dX6_areOpen_19 : decode cX6_areOpen 19 = .ok (.aload_n 0, 1) := by decide +kernel
theorem dX6_areOpen_20 : decode cX6_areOpen 20 = .ok (.iload 5, 2) := by decide +kernel
theorem dX6_areOpen_22 : decode cX6_areOpen 22 = .ok (.invokevirtual 77, 3) := by decide +kernel
theorem dX6_areOpen_25 : decode cX6_areOpen 25 = .ok (.ifCond .eq 18, 3) := by decide +kernel
theorem dX6_areOpen_28 : decode cX6_areOpen 28 = .ok (.aload_n 0, 1) := by decide +kernel
theorem dX6_areOpen_29 : decode cX6_areOpen 29 = .ok (.getfield 50, 3) := by decide +kernel
theorem dX6_areOpen_32 : decode cX6_areOpen 32 = .ok (.iload 5, 2) := by decide +kernel
theorem dX6_areOpen_34 : decode cX6_areOpen 34 = .ok (.iaload, 1) := by decide +kernel
theorem dX6_areOpen_35 : decode cX6_areOpen 35 = .ok (.iload_n 1, 1) := by decide +kernel
theorem dX6_areOpen_36 : decode cX6_areOpen 36 = .ok (.if_icmp .eq 7, 3) := by decide +kernel
theorem dX6_areOpen_39 : decode cX6_areOpen 39 = .ok (.iconst 1, 1) := by decide +kernel
theorem dX6_areOpen_40 : decode cX6_areOpen 40 = .ok (.goto 4, 3) := by decide +kernel
theorem dX6_areOpen_43 : decode cX6_areOpen 43 = .ok (.iconst 0, 1) := by decide +kernel
theorem dX6_areOpen_44 : decode cX6_areOpen 44 = .ok (.istore 4, 2) := by decide +kernel
theorem dX6_areOpen_46 : decode cX6_areOpen 46 = .ok (.iinc 5 1, 3) := by decide +kernel
theorem dX6_areOpen_49 : decode cX6_areOpen 49 = .ok (.goto (-43), 3) := by decide +kernel
theorem dX6_areOpen_52 : decode cX6_areOpen 52 = .ok (.iload 4, 2) := by decide +kernel
theorem dX6_areOpen_54 : decode cX6_areOpen 54 = .ok (.ireturn, 1) := by decide +kernel
set_option maxRecDepth 20000 in
theorem ggX6_isWithin_X6_usedBy : GoodIn wsX6_isWithin wsX6_usedBy := goodIn_r _ [9, 10, 11, 12, 13, 14, 15, 16, 17, 18, 19, 20, 21, 22, 23, 24, 25, 26, 27, 28, 29, 30, 31, 32, 33, 34] (by decide +kernel) (by decide +kernel)
set_option maxRecDepth 20000 in
theorem gX6_isWithin_X6_usedBy : GoodIn wsX6_isWithin (wsV RX6 96 RX6 yX6_usedBy wsX6_usedBy) := goodIn_app (goodIn_of _ (by decide +kernel)) ggX6_isWithin_X6_usedBy
theorem dX6_isWithin_0 : decode cX6_isWithin 0 = .ok (.iload_n 1, 1) := by decide +kernel
theorem dX6_isWithin_1 : decode cX6_isWithin 1 = .ok (.iconst (-1), 1) := by decide +kernel
theorem dX6_isWithin_2 : decode cX6_isWithin 2 = .ok (.if_icmp .ne 20, 3) := by decide +kernel
theorem dX6_isWithin_5 : decode cX6_isWithin 5 = .ok (.aload_n 0, 1) := by decide +kernel
theorem dX6_isWithin_6 : decode cX6_isWithin 6 = .ok (.getfield 80, 3) := by decide +kernel
theorem dX6_isWithin_9 : decode cX6_isWithin 9 = .ok (.aload_n 0, 1) := by decide +kernel
theorem dX6_isWithin_10 : decode cX6_isWithin 10 = .ok (.getfield 7, 3) := by decide +kernel
theorem dX6_isWithin_13 : decode cX6_isWithin 13 = .ok (.if_icmp .lt 7, 3) := by decide +kernel
theorem dX6_isWithin_16 : decode cX6_isWithin 16 = .ok (.iconst 1, 1) := by decide +kernel
theorem dX6_isWithin_17 : decode cX6_isWithin 17 = .ok (.goto 4, 3) := by decide +kernel
theorem dX6_isWithin_20 : decode cX6_isWithin 20 = .ok (.iconst 0, 1) := by decide +kernel
theorem dX6_isWithin_21 : decode cX6_isWithin 21 = .ok (.ireturn, 1) := by decide +kernel
theorem dX6_isWithin_22 : decode cX6_isWithin 22 = .ok (.iload_n 2, 1) := by decide +kernel
theorem dX6_isWithin_23 : decode cX6_isWithin 23 = .ok (.iconst 2, 1) := by decide +kernel
theorem dX6_isWithin_24 : decode cX6_isWithin 24 = .ok (.irem, 1) := by decide +kernel
theorem dX6_isWithin_25 : decode cX6_isWithin 25 = .ok (.ifCond .ne 9, 3) := by decide +kernel
theorem dX6_isWithin_28 : decode cX6_isWithin 28 = .ok (.iload_n 2, 1) := by decide +kernel
theorem dX6_isWithin_29 : decode cX6_isWithin 29 = .ok (.iconst 1, 1) := by decide +kernel
theorem dX6_isWithin_30 : decode cX6_isWithin 30 = .ok (.iadd, 1) := by decide +kernel
theorem dX6_isWithin_31 : decode cX6_isWithin 31 = .ok (.goto 6, 3) := by decide +kernel
theorem dX6_isWithin_34 : decode cX6_isWithin 34 = .ok (.iload_n 2, 1) := by decide +kernel
theorem dX6_isWithin_35 : decode cX6_isWithin 35 = .ok (.iconst 1, 1) := by decide +kernel
theorem dX6_isWithin_36 : decode cX6_isWithin 36 = .ok (.isub, 1) := by decide +kernel
theorem dX6_isWithin_37 : decode cX6_isWithin 37 = .ok (.istore 4, 2) := by decide +kernel
theorem dX6_isWithin_39 : decode cX6_isWithin 39 = .ok (.aload_n 0, 1) := by decide +kernel
theorem dX6_isWithin_40 : decode cX6_isWithin 40 = .ok (.iload_n 1, 1) := by decide +kernel
theorem dX6_isWithin_41 : decode cX6_isWithin 41 = .ok (.iload_n 2, 1) := by decide +kernel
theorem dX6_isWithin_42 : decode cX6_isWithin 42 = .ok (.invokevirtual 96, 3) := by decide +kernel
theorem dX6_isWithin_45 : decode cX6_isWithin 45 = .ok (.iload_n 3, 1) := by decide +kernel
theorem dX6_isWithin_46 : decode cX6_isWithin 46 = .ok (.iadd, 1) := by decide +kernel
theorem dX6_isWithin_47 : decode cX6_isWithin 47 = .ok (.istore 5, 2) := by decide +kernel
theorem dX6_isWithin_49 : decode cX6_isWithin 49 = .ok (.iload 5, 2) := by decide +kernel
theorem dX6_isWithin_51 : decode cX6_isWithin 51 = .ok (.aload_n 0, 1) := by decide +kernel
theorem dX6_isWithin_52 : decode cX6_isWithin 52 = .ok (.getfield 13, 3) := by decide +kernel
theorem dX6_isWithin_55 : decode cX6_isWithin 55 = .ok (.iload_n 1, 1) := by decide +kernel
theorem dX6_isWithin_56 : decode cX6_isWithin 56 = .ok (.iaload, 1) := by decide +kernel
theorem dX6_isWithin_57 : decode cX6_isWithin 57 = .ok (.if_icmp .gt 26, 3) := by decide +kernel
theorem dX6_isWithin_60 : decode cX6_isWithin 60 = .ok (.iload 5, 2) := by decide +kernel
theorem dX6_isWithin_62 : decode cX6_isWithin 62 = .ok (.aload_n 0, 1) := by decide +kernel
theorem dX6_isWithin_63 : decode cX6_isWithin 63 = .ok (.iload_n 1, 1) := by decide +kernel
theorem dX6_isWithin_64 : decode cX6_isWithin 64 = .ok (.iload 4, 2) := by decide +kernel
theorem dX6_isWithin_66 : decode cX6_isWithin 66 = .ok (.invokevirtual 96, 3) := by decide +kernel
theorem dX6_isWithin_69 : decode cX6_isWithin 69 = .ok (.iadd, 1) := by decide +kernel
theorem dX6_isWithin_70 : decode cX6_isWithin 70 = .ok (.aload_n 0, 1) := by decide +kernel
theorem dX6_isWithin_71 : decode cX6_isWithin 71 = .ok (.getfield 17, 3) := by decide +kernel
theorem dX6_isWithin_74 : decode cX6_isWithin 74 = .ok (.iload_n 1, 1) := by decide +kernel
theorem dX6_isWithin_75 : decode cX6_isWithin 75 = .ok (.iaload, 1) := by decide +kernel
theorem dX6_isWithin_76 : decode cX6_isWithin 76 = .ok (.if_icmp .gt 7, 3) := by decide +kernel
theorem dX6_isWithin_79 : decode cX6_isWithin 79 = .ok (.iconst 1, 1) := by decide +kernel
theorem dX6_isWithin_80 : decode cX6_isWithin 80 = .ok (.goto 4, 3) := by decide +kernel
theorem dX6_isWithin_83 : decode cX6_isWithin 83 = .ok (.iconst 0, 1) := by decide +kernel
theorem dX6_isWithin_84 : decode cX6_isWithin 84 = .ok (.ireturn, 1) := by decide +kernel
set_option maxRecDepth 20000 in
theorem ggX6_leavesSingle_X6_isAlone : GoodIn wsX6_leavesSingle wsX6_isAlone := goodIn_r _ [8, 9, 10, 11, 7, 12, 13, 14, 15, 16, 17, 18, 2, 3, 19, 20, 21, 22, 23, 24, 25, 26, 27, 28, 29, 30, 31, 32, 33, 34, 35, 36, 37, 38, 39, 40, 41, 42] (by decide +kernel) (by decide +kernel)
set_option maxRecDepth 20000 in
theorem gX6_leavesSingle_X6_isAlone : GoodIn wsX6_leavesSingle (wsV RX6 115 RX6 yX6_isAlone wsX6_isAlone) := goodIn_app (goodIn_of _ (by decide +kernel)) ggX6_leavesSingle_X6_isAlone
theorem dX6_leavesSingle_0 : decode cX6_leavesSingle 0 = .ok (.iconst 0, 1) := by decide +kernel
theorem dX6_leavesSingle_1 : decode cX6_leavesSingle 1 = .ok (.istore 4, 2) := by decide +kernel
theorem dX6_leavesSingle_3 : decode cX6_leavesSingle 3 = .ok (.iload 4, 2) := by decide +kernel
theorem dX6_leavesSingle_5 : decode cX6_leavesSingle 5 = .ok (.bipush 60, 2) := by decide +kernel
theorem dX6_leavesSingle_7 : decode cX6_leavesSingle 7 = .ok (.if_icmp .ge 22, 3) := by decide +kernel
theorem dX6_leavesSingle_10 : decode cX6_leavesSingle 10 = .ok (.aload_n 0, 1) := by decide +kernel
theorem dX6_leavesSingle_11 : decode cX6_leavesSingle 11 = .ok (.getfield 59, 3) := by decide +kernel
theorem dX6_leavesSingle_14 : decode cX6_leavesSingle 14 = .ok (.iload 4, 2) := by decide +kernel
theorem dX6_leavesSingle_16 : decode cX6_leavesSingle 16 = .ok (.aload_n 0, 1) := by decide +kernel
theorem dX6_leavesSingle_17 : decode cX6_leavesSingle 17 = .ok (.iload 4, 2) := by decide +kernel
theorem dX6_leavesSingle_19 : decode cX6_leavesSingle 19 = .ok (.invokevirtual 115, 3) := by decide +kernel
theorem dX6_leavesSingle_22 : decode cX6_leavesSingle 22 = .ok (.bastore, 1) := by decide +kernel
theorem dX6_leavesSingle_23 : decode cX6_leavesSingle 23 = .ok (.iinc 4 1, 3) := by decide +kernel
theorem dX6_leavesSingle_26 : decode cX6_leavesSingle 26 = .ok (.goto (-23), 3) := by decide +kernel
theorem dX6_leavesSingle_29 : decode cX6_leavesSingle 29 = .ok (.iconst 0, 1) := by decide +kernel
theorem dX6_leavesSingle_30 : decode cX6_leavesSingle 30 = .ok (.istore 4, 2) := by decide +kernel
theorem dX6_leavesSingle_32 : decode cX6_leavesSingle 32 = .ok (.aload_n 0, 1) := by decide +kernel
theorem dX6_leavesSingle_33 : decode cX6_leavesSingle 33 = .ok (.getfield 26, 3) := by decide +kernel
theorem dX6_leavesSingle_36 : decode cX6_leavesSingle 36 = .ok (.iload_n 1, 1) := by decide +kernel
theorem dX6_leavesSingle_37 : decode cX6_leavesSingle 37 = .ok (.iload_n 2, 1) := by decide +kernel
theorem dX6_leavesSingle_38 : decode cX6_leavesSingle 38 = .ok (.iastore, 1) := by decide +kernel
theorem dX6_leavesSingle_39 : decode cX6_leavesSingle 39 = .ok (.aload_n 0, 1) := by decide +kernel
theorem dX6_leavesSingle_40 : decode cX6_leavesSingle 40 = .ok (.getfield 29, 3) := by decide +kernel
theorem dX6_leavesSingle_43 : decode cX6_leavesSingle 43 = .ok (.iload_n 1, 1) := by decide +kernel
theorem dX6_leavesSingle_44 : decode cX6_leavesSingle 44 = .ok (.iload_n 3, 1) := by decide +kernel
theorem dX6_leavesSingle_45 : decode cX6_leavesSingle 45 = .ok (.iastore, 1) := by decide +kernel
theorem dX6_leavesSingle_46 : decode cX6_leavesSingle 46 = .ok (.iconst 0, 1) := by decide +kernel
theorem dX6_leavesSingle_47 : decode cX6_leavesSingle 47 = .ok (.istore 5, 2) := by decide +kernel
theorem dX6_leavesSingle_49 : decode cX6_leavesSingle 49 = .ok (.iload 5, 2) := by decide +kernel
theorem dX6_leavesSingle_51 : decode cX6_leavesSingle 51 = .ok (.bipush 60, 2) := by decide +kernel
theorem dX6_leavesSingle_53 : decode cX6_leavesSingle 53 = .ok (.if_icmp .ge 40, 3) := by decide +kernel
theorem dX6_leavesSingle_56 : decode cX6_leavesSingle 56 = .ok (.iload 4, 2) := by decide +kernel
theorem dX6_leavesSingle_58 : decode cX6_leavesSingle 58 = .ok (.ifCond .ne 22, 3) := by decide +kernel
theorem dX6_leavesSingle_61 : decode cX6_leavesSingle 61 = .ok (.aload_n 0, 1) := by decide +kernel
theorem dX6_leavesSingle_62 : decode cX6_leavesSingle 62 = .ok (.iload 5, 2) := by decide +kernel
theorem dX6_leavesSingle_64 : decode cX6_leavesSingle 64 = .ok (.invokevirtual 115, 3) := by decide +kernel
theorem dX6_leavesSingle_67 : decode cX6_leavesSingle 67 = .ok (.ifCond .eq 17, 3) := by decide +kernel
theorem dX6_leavesSingle_70 : decode cX6_leavesSingle 70 = .ok (.aload_n 0, 1) := by decide +kernel
theorem dX6_leavesSingle_71 : decode cX6_leavesSingle 71 = .ok (.getfield 59, 3) := by decide +kernel
theorem dX6_leavesSingle_74 : decode cX6_leavesSingle 74 = .ok (.iload 5, 2) := by decide +kernel
theorem dX6_leavesSingle_76 : decode cX6_leavesSingle 76 = .ok (.baload, 1) := by decide +kernel
theorem dX6_leavesSingle_77 : decode cX6_leavesSingle 77 = .ok (.ifCond .ne 7, 3) := by decide +kernel
theorem dX6_leavesSingle_80 : decode cX6_leavesSingle 80 = .ok (.iconst 1, 1) := by decide +kernel
theorem dX6_leavesSingle_81 : decode cX6_leavesSingle 81 = .ok (.goto 4, 3) := by decide +kernel
theorem dX6_leavesSingle_84 : decode cX6_leavesSingle 84 = .ok (.iconst 0, 1) := by decide +kernel
theorem dX6_leavesSingle_85 : decode cX6_leavesSingle 85 = .ok (.istore 4, 2) := by decide +kernel
theorem dX6_leavesSingle_87 : decode cX6_leavesSingle 87 = .ok (.iinc 5 1, 3) := by decide +kernel
theorem dX6_leavesSingle_90 : decode cX6_leavesSingle 90 = .ok (.goto (-41), 3) := by decide +kernel
theorem dX6_leavesSingle_93 : decode cX6_leavesSingle 93 = .ok (.aload_n 0, 1) := by decide +kernel
theorem dX6_leavesSingle_94 : decode cX6_leavesSingle 94 = .ok (.getfield 26, 3) := by decide +kernel
theorem dX6_leavesSingle_97 : decode cX6_leavesSingle 97 = .ok (.iload_n 1, 1) := by decide +kernel
theorem dX6_leavesSingle_98 : decode cX6_leavesSingle 98 = .ok (.iconst (-1), 1) := by decide +kernel
theorem dX6_leavesSingle_99 : decode cX6_leavesSingle 99 = .ok (.iastore, 1) := by decide +kernel
theorem dX6_leavesSingle_100 : decode cX6_leavesSingle 100 = .ok (.iload 4, 2) := by decide +kernel
theorem dX6_leavesSingle_102 : decode cX6_leavesSingle 102 = .ok (.ireturn, 1) := by decide +kernel
set_option maxRecDepth 20000 in
theorem ggX6_hold_X6_isPerson : GoodIn wsX6_hold wsX6_isPerson := goodIn_r _ [13, 14, 15, 12, 16] (by decide +kernel) (by decide +kernel)
set_option maxRecDepth 20000 in
theorem gX6_hold_X6_isPerson : GoodIn wsX6_hold (va_wsS RX6 93 yX6_isPerson wsX6_isPerson) := goodIn_app (goodIn_of _ (by decide +kernel)) ggX6_hold_X6_isPerson
set_option maxRecDepth 20000 in
theorem ggX6_hold_X6_isRow : GoodIn wsX6_hold wsX6_isRow := goodIn_r _ [19, 14, 15, 12, 16] (by decide +kernel) (by decide +kernel)
set_option maxRecDepth 20000 in
theorem gX6_hold_X6_isRow : GoodIn wsX6_hold (va_wsS RX6 118 yX6_isRow wsX6_isRow) := goodIn_app (goodIn_of _ (by decide +kernel)) ggX6_hold_X6_isRow
set_option maxRecDepth 20000 in
theorem ggX6_hold_X6_in : GoodIn wsX6_hold wsX6_in := goodIn_r _ [16] (by decide +kernel) (by decide +kernel)
set_option maxRecDepth 20000 in
theorem gX6_hold_X6_in : GoodIn wsX6_hold (va_wsS RX6 66 yX6_in wsX6_in) := goodIn_app (goodIn_of _ (by decide +kernel)) ggX6_hold_X6_in
set_option maxRecDepth 20000 in
theorem ggX6_hold_X6_isCode : GoodIn wsX6_hold wsX6_isCode := goodIn_r _ [23, 24, 14, 15, 12, 16, 81, 82, 83, 84, 85, 86, 87, 88, 89, 90, 91, 92, 93, 94, 95, 96, 97, 98, 99, 100, 101] (by decide +kernel) (by decide +kernel)
set_option maxRecDepth 20000 in
theorem gX6_hold_X6_isCode : GoodIn wsX6_hold (wsV RX6 90 RX6 yX6_isCode wsX6_isCode) := goodIn_app (goodIn_of _ (by decide +kernel)) ggX6_hold_X6_isCode
set_option maxRecDepth 20000 in
theorem ggX6_hold_X6_servedNow : GoodIn wsX6_hold wsX6_servedNow := goodIn_r _ [28, 1, 8, 29, 30, 31, 12, 32, 33, 34, 35, 36, 81, 82, 83, 84, 85, 86, 87, 88, 89, 90, 91, 92, 93, 94, 95, 96, 97, 98, 99, 100, 101] (by decide +kernel) (by decide +kernel)
set_option maxRecDepth 20000 in
theorem gX6_hold_X6_servedNow : GoodIn wsX6_hold (wsV RX6 112 RX6 yX6_servedNow wsX6_servedNow) := goodIn_app (goodIn_of _ (by decide +kernel)) ggX6_hold_X6_servedNow
set_option maxRecDepth 20000 in
theorem ggX6_hold_X6_areOpen : GoodIn wsX6_hold wsX6_areOpen := goodIn_r _ [40, 41, 42, 43, 44, 12, 45, 46, 47, 48, 49, 50, 2, 3, 14, 15, 16, 81, 82, 83, 84, 85, 86, 87, 88, 89, 90, 91, 92, 93, 94, 95, 96, 97, 98, 99, 100, 101] (by decide +kernel) (by decide +kernel)
set_option maxRecDepth 20000 in
theorem gX6_hold_X6_areOpen : GoodIn wsX6_hold (wsV RX6 121 RX6 yX6_areOpen wsX6_areOpen) := goodIn_app (goodIn_of _ (by decide +kernel)) ggX6_hold_X6_areOpen
set_option maxRecDepth 20000 in
theorem ggX6_hold_X6_isWithin : GoodIn wsX6_hold wsX6_isWithin := goodIn_r _ [54, 8, 55, 56, 57, 58, 59, 60, 12, 61, 2, 4, 3, 62, 81, 82, 83, 84, 85, 86, 87, 88, 89, 90, 91, 92, 93, 94, 95, 96, 97, 98, 99, 100, 101] (by decide +kernel) (by decide +kernel)
set_option maxRecDepth 20000 in
theorem gX6_hold_X6_isWithin : GoodIn wsX6_hold (wsV RX6 124 RX6 yX6_isWithin wsX6_isWithin) := goodIn_app (goodIn_of _ (by decide +kernel)) ggX6_hold_X6_isWithin
set_option maxRecDepth 20000 in
theorem ggX6_hold_X6_leavesSingle : GoodIn wsX6_hold wsX6_leavesSingle := goodIn_r _ [66, 67, 2, 3, 68, 69, 70, 12, 71, 42, 43, 44, 45, 41, 46, 47, 48, 49, 50, 14, 15, 16, 81, 82, 83, 84, 85, 86, 87, 88, 89, 90, 91, 92, 93, 94, 95, 96, 97, 98, 99, 100, 101] (by decide +kernel) (by decide +kernel)
set_option maxRecDepth 20000 in
theorem gX6_hold_X6_leavesSingle : GoodIn wsX6_hold (wsV RX6 127 RX6 yX6_leavesSingle wsX6_leavesSingle) := goodIn_app (goodIn_of _ (by decide +kernel)) ggX6_hold_X6_leavesSingle
set_option maxRecDepth 20000 in
theorem ggX6_hold_X6_goesWell : GoodIn wsX6_hold wsX6_goesWell := goodIn_r _ [75, 76, 81, 82, 83, 84, 85, 86, 87, 88, 89, 90, 91, 92, 93, 94, 95, 96, 97, 98, 99, 100, 101] (by decide +kernel) (by decide +kernel)
set_option maxRecDepth 20000 in
theorem gX6_hold_X6_goesWell : GoodIn wsX6_hold (wsV RX6 83 RX6 yX6_goesWell wsX6_goesWell) := goodIn_app (goodIn_of _ (by decide +kernel)) ggX6_hold_X6_goesWell
set_option maxRecDepth 20000 in
theorem ggX6_hold_X6_priceOf : GoodIn wsX6_hold wsX6_priceOf := goodIn_r _ [80, 41, 46, 81, 82, 83, 84, 85, 86, 87, 88, 89, 90, 91, 92, 93, 94, 95, 96, 97, 98, 99, 100, 101] (by decide +kernel) (by decide +kernel)
set_option maxRecDepth 20000 in
theorem gX6_hold_X6_priceOf : GoodIn wsX6_hold (wsV RX6 130 RX6 yX6_priceOf wsX6_priceOf) := goodIn_app (goodIn_of _ (by decide +kernel)) ggX6_hold_X6_priceOf
theorem dX6_hold_0 : decode cX6_hold 0 = .ok (.iload_n 1, 1) := by decide +kernel
theorem dX6_hold_1 : decode cX6_hold 1 = .ok (.invokestatic 93, 3) := by decide +kernel
theorem dX6_hold_4 : decode cX6_hold 4 = .ok (.ifCond .eq 39, 3) := by decide +kernel
theorem dX6_hold_7 : decode cX6_hold 7 = .ok (.iload_n 2, 1) := by decide +kernel
theorem dX6_hold_8 : decode cX6_hold 8 = .ok (.invokestatic 118, 3) := by decide +kernel
theorem dX6_hold_11 : decode cX6_hold 11 = .ok (.ifCond .eq 32, 3) := by decide +kernel
theorem dX6_hold_14 : decode cX6_hold 14 = .ok (.iload_n 3, 1) := by decide +kernel
theorem dX6_hold_15 : decode cX6_hold 15 = .ok (.iconst 0, 1) := by decide +kernel
theorem dX6_hold_16 : decode cX6_hold 16 = .ok (.bipush 9, 2) := by decide +kernel
theorem dX6_hold_18 : decode cX6_hold 18 = .ok (.invokestatic 66, 3) := by decide +kernel
theorem dX6_hold_21 : decode cX6_hold 21 = .ok (.ifCond .eq 22, 3) := by decide +kernel
theorem dX6_hold_24 : decode cX6_hold 24 = .ok (.iload 5, 2) := by decide +kernel
theorem dX6_hold_26 : decode cX6_hold 26 = .ok (.iconst (-1), 1) := by decide +kernel
theorem dX6_hold_27 : decode cX6_hold 27 = .ok (.if_icmp .eq 12, 3) := by decide +kernel
theorem dX6_hold_30 : decode cX6_hold 30 = .ok (.aload_n 0, 1) := by decide +kernel
theorem dX6_hold_31 : decode cX6_hold 31 = .ok (.iload 5, 2) := by decide +kernel
theorem dX6_hold_33 : decode cX6_hold 33 = .ok (.invokevirtual 90, 3) := by decide +kernel
theorem dX6_hold_36 : decode cX6_hold 36 = .ok (.ifCond .eq 7, 3) := by decide +kernel
theorem dX6_hold_39 : decode cX6_hold 39 = .ok (.iconst 1, 1) := by decide +kernel
theorem dX6_hold_40 : decode cX6_hold 40 = .ok (.goto 4, 3) := by decide +kernel
theorem dX6_hold_43 : decode cX6_hold 43 = .ok (.iconst 0, 1) := by decide +kernel
theorem dX6_hold_44 : decode cX6_hold 44 = .ok (.istore 6, 2) := by decide +kernel
theorem dX6_hold_46 : decode cX6_hold 46 = .ok (.iload 4, 2) := by decide +kernel
theorem dX6_hold_48 : decode cX6_hold 48 = .ok (.iconst 1, 1) := by decide +kernel
theorem dX6_hold_49 : decode cX6_hold 49 = .ok (.iconst 4, 1) := by decide +kernel
theorem dX6_hold_50 : decode cX6_hold 50 = .ok (.invokestatic 66, 3) := by decide +kernel
theorem dX6_hold_53 : decode cX6_hold 53 = .ok (.ifCond .eq 16, 3) := by decide +kernel
theorem dX6_hold_56 : decode cX6_hold 56 = .ok (.iload_n 3, 1) := by decide +kernel
theorem dX6_hold_57 : decode cX6_hold 57 = .ok (.iload 4, 2) := by decide +kernel
theorem dX6_hold_59 : decode cX6_hold 59 = .ok (.iadd, 1) := by decide +kernel
theorem dX6_hold_60 : decode cX6_hold 60 = .ok (.bipush 10, 2) := by decide +kernel
theorem dX6_hold_62 : decode cX6_hold 62 = .ok (.if_icmp .gt 7, 3) := by decide +kernel
theorem dX6_hold_65 : decode cX6_hold 65 = .ok (.iconst 1, 1) := by decide +kernel
theorem dX6_hold_66 : decode cX6_hold 66 = .ok (.goto 4, 3) := by decide +kernel
theorem dX6_hold_69 : decode cX6_hold 69 = .ok (.iconst 0, 1) := by decide +kernel
theorem dX6_hold_70 : decode cX6_hold 70 = .ok (.istore 7, 2) := by decide +kernel
theorem dX6_hold_72 : decode cX6_hold 72 = .ok (.iload 6, 2) := by decide +kernel
theorem dX6_hold_74 : decode cX6_hold 74 = .ok (.ifCond .eq 12, 3) := by decide +kernel
theorem dX6_hold_77 : decode cX6_hold 77 = .ok (.bipush 10, 2) := by decide +kernel
theorem dX6_hold_79 : decode cX6_hold 79 = .ok (.iload_n 2, 1) := by decide +kernel
theorem dX6_hold_80 : decode cX6_hold 80 = .ok (.imul, 1) := by decide +kernel
theorem dX6_hold_81 : decode cX6_hold 81 = .ok (.iload_n 3, 1) := by decide +kernel
theorem dX6_hold_82 : decode cX6_hold 82 = .ok (.iadd, 1) := by decide +kernel
theorem dX6_hold_83 : decode cX6_hold 83 = .ok (.goto 4, 3) := by decide +kernel
theorem dX6_hold_86 : decode cX6_hold 86 = .ok (.iconst 0, 1) := by decide +kernel
theorem dX6_hold_87 : decode cX6_hold 87 = .ok (.istore 8, 2) := by decide +kernel
theorem dX6_hold_89 : decode cX6_hold 89 = .ok (.iload 6, 2) := by decide +kernel
theorem dX6_hold_91 : decode cX6_hold 91 = .ok (.ifCond .eq 32, 3) := by decide +kernel
theorem dX6_hold_94 : decode cX6_hold 94 = .ok (.iload 7, 2) := by decide +kernel
theorem dX6_hold_96 : decode cX6_hold 96 = .ok (.ifCond .eq 27, 3) := by decide +kernel
theorem dX6_hold_99 : decode cX6_hold 99 = .ok (.aload_n 0, 1) := by decide +kernel
theorem dX6_hold_100 : decode cX6_hold 100 = .ok (.invokevirtual 112, 3) := by decide +kernel
theorem dX6_hold_103 : decode cX6_hold 103 = .ok (.iload_n 1, 1) := by decide +kernel
theorem dX6_hold_104 : decode cX6_hold 104 = .ok (.if_icmp .ne 19, 3) := by decide +kernel
theorem dX6_hold_107 : decode cX6_hold 107 = .ok (.aload_n 0, 1) := by decide +kernel
theorem dX6_hold_108 : decode cX6_hold 108 = .ok (.iload_n 1, 1) := by decide +kernel
theorem dX6_hold_109 : decode cX6_hold 109 = .ok (.iload 8, 2) := by decide +kernel
theorem dX6_hold_111 : decode cX6_hold 111 = .ok (.iload 4, 2) := by decide +kernel
theorem dX6_hold_113 : decode cX6_hold 113 = .ok (.invokevirtual 121, 3) := by decide +kernel
theorem dX6_hold_116 : decode cX6_hold 116 = .ok (.ifCond .eq 7, 3) := by decide +kernel
theorem dX6_hold_119 : decode cX6_hold 119 = .ok (.iconst 1, 1) := by decide +kernel
theorem dX6_hold_120 : decode cX6_hold 120 = .ok (.goto 4, 3) := by decide +kernel
theorem dX6_hold_123 : decode cX6_hold 123 = .ok (.iconst 0, 1) := by decide +kernel
theorem dX6_hold_124 : decode cX6_hold 124 = .ok (.istore 9, 2) := by decide +kernel
theorem dX6_hold_126 : decode cX6_hold 126 = .ok (.iload 9, 2) := by decide +kernel
theorem dX6_hold_128 : decode cX6_hold 128 = .ok (.ifCond .eq 31, 3) := by decide +kernel
theorem dX6_hold_131 : decode cX6_hold 131 = .ok (.aload_n 0, 1) := by decide +kernel
theorem dX6_hold_132 : decode cX6_hold 132 = .ok (.iload 5, 2) := by decide +kernel
theorem dX6_hold_134 : decode cX6_hold 134 = .ok (.iload_n 1, 1) := by decide +kernel
theorem dX6_hold_135 : decode cX6_hold 135 = .ok (.iload 4, 2) := by decide +kernel
theorem dX6_hold_137 : decode cX6_hold 137 = .ok (.invokevirtual 124, 3) := by decide +kernel
theorem dX6_hold_140 : decode cX6_hold 140 = .ok (.ifCond .eq 19, 3) := by decide +kernel
theorem dX6_hold_143 : decode cX6_hold 143 = .ok (.aload_n 0, 1) := by decide +kernel
theorem dX6_hold_144 : decode cX6_hold 144 = .ok (.iload_n 1, 1) := by decide +kernel
theorem dX6_hold_145 : decode cX6_hold 145 = .ok (.iload 8, 2) := by decide +kernel
theorem dX6_hold_147 : decode cX6_hold 147 = .ok (.iload 4, 2) := by decide +kernel
theorem dX6_hold_149 : decode cX6_hold 149 = .ok (.invokevirtual 127, 3) := by decide +kernel
theorem dX6_hold_152 : decode cX6_hold 152 = .ok (.ifCond .ne 7, 3) := by decide +kernel
theorem dX6_hold_155 : decode cX6_hold 155 = .ok (.iconst 1, 1) := by decide +kernel
theorem dX6_hold_156 : decode cX6_hold 156 = .ok (.goto 4, 3) := by decide +kernel
theorem dX6_hold_159 : decode cX6_hold 159 = .ok (.iconst 0, 1) := by decide +kernel
theorem dX6_hold_160 : decode cX6_hold 160 = .ok (.istore 9, 2) := by decide +kernel
theorem dX6_hold_162 : decode cX6_hold 162 = .ok (.aload_n 0, 1) := by decide +kernel
theorem dX6_hold_163 : decode cX6_hold 163 = .ok (.iload 6, 2) := by decide +kernel
theorem dX6_hold_165 : decode cX6_hold 165 = .ok (.ifCond .ne 7, 3) := by decide +kernel
theorem dX6_hold_168 : decode cX6_hold 168 = .ok (.iconst 1, 1) := by decide +kernel
theorem dX6_hold_169 : decode cX6_hold 169 = .ok (.goto 22, 3) := by decide +kernel
theorem dX6_hold_172 : decode cX6_hold 172 = .ok (.iload 7, 2) := by decide +kernel
theorem dX6_hold_174 : decode cX6_hold 174 = .ok (.ifCond .ne 7, 3) := by decide +kernel
theorem dX6_hold_177 : decode cX6_hold 177 = .ok (.iconst 2, 1) := by decide +kernel
theorem dX6_hold_178 : decode cX6_hold 178 = .ok (.goto 13, 3) := by decide +kernel
theorem dX6_hold_181 : decode cX6_hold 181 = .ok (.iload 9, 2) := by decide +kernel
theorem dX6_hold_183 : decode cX6_hold 183 = .ok (.ifCond .eq 7, 3) := by decide +kernel
theorem dX6_hold_186 : decode cX6_hold 186 = .ok (.iconst 0, 1) := by decide +kernel
theorem dX6_hold_187 : decode cX6_hold 187 = .ok (.goto 4, 3) := by decide +kernel
theorem dX6_hold_190 : decode cX6_hold 190 = .ok (.iconst 3, 1) := by decide +kernel
theorem dX6_hold_191 : decode cX6_hold 191 = .ok (.invokevirtual 83, 3) := by decide +kernel
theorem dX6_hold_194 : decode cX6_hold 194 = .ok (.ifCond .ne 5, 3) := by decide +kernel
theorem dX6_hold_197 : decode cX6_hold 197 = .ok (.iconst 0, 1) := by decide +kernel
theorem dX6_hold_198 : decode cX6_hold 198 = .ok (.ireturn, 1) := by decide +kernel
theorem dX6_hold_199 : decode cX6_hold 199 = .ok (.iconst 0, 1) := by decide +kernel
theorem dX6_hold_200 : decode cX6_hold 200 = .ok (.istore 10, 2) := by decide +kernel
theorem dX6_hold_202 : decode cX6_hold 202 = .ok (.iload 8, 2) := by decide +kernel
theorem dX6_hold_204 : decode cX6_hold 204 = .ok (.istore 11, 2) := by decide +kernel
theorem dX6_hold_206 : decode cX6_hold 206 = .ok (.iload 11, 2) := by decide +kernel
theorem dX6_hold_208 : decode cX6_hold 208 = .ok (.iload 8, 2) := by decide +kernel
theorem dX6_hold_210 : decode cX6_hold 210 = .ok (.iload 4, 2) := by decide +kernel
theorem dX6_hold_212 : decode cX6_hold 212 = .ok (.iadd, 1) := by decide +kernel
theorem dX6_hold_213 : decode cX6_hold 213 = .ok (.if_icmp .ge 20, 3) := by decide +kernel
theorem dX6_hold_216 : decode cX6_hold 216 = .ok (.iload 10, 2) := by decide +kernel
theorem dX6_hold_218 : decode cX6_hold 218 = .ok (.aload_n 0, 1) := by decide +kernel
theorem dX6_hold_219 : decode cX6_hold 219 = .ok (.iload 11, 2) := by decide +kernel
theorem dX6_hold_221 : decode cX6_hold 221 = .ok (.invokevirtual 130, 3) := by decide +kernel
theorem dX6_hold_224 : decode cX6_hold 224 = .ok (.iadd, 1) := by decide +kernel
theorem dX6_hold_225 : decode cX6_hold 225 = .ok (.istore 10, 2) := by decide +kernel
theorem dX6_hold_227 : decode cX6_hold 227 = .ok (.iinc 11 1, 3) := by decide +kernel
theorem dX6_hold_230 : decode cX6_hold 230 = .ok (.goto (-24), 3) := by decide +kernel
theorem dX6_hold_233 : decode cX6_hold 233 = .ok (.aload_n 0, 1) := by decide +kernel
theorem dX6_hold_234 : decode cX6_hold 234 = .ok (.getfield 23, 3) := by decide +kernel
theorem dX6_hold_237 : decode cX6_hold 237 = .ok (.iload_n 1, 1) := by decide +kernel
theorem dX6_hold_238 : decode cX6_hold 238 = .ok (.iconst (-1), 1) := by decide +kernel
theorem dX6_hold_239 : decode cX6_hold 239 = .ok (.iastore, 1) := by decide +kernel
theorem dX6_hold_240 : decode cX6_hold 240 = .ok (.aload_n 0, 1) := by decide +kernel
theorem dX6_hold_241 : decode cX6_hold 241 = .ok (.getfield 26, 3) := by decide +kernel
theorem dX6_hold_244 : decode cX6_hold 244 = .ok (.iload_n 1, 1) := by decide +kernel
theorem dX6_hold_245 : decode cX6_hold 245 = .ok (.iload 8, 2) := by decide +kernel
theorem dX6_hold_247 : decode cX6_hold 247 = .ok (.iastore, 1) := by decide +kernel
theorem dX6_hold_248 : decode cX6_hold 248 = .ok (.aload_n 0, 1) := by decide +kernel
theorem dX6_hold_249 : decode cX6_hold 249 = .ok (.getfield 29, 3) := by decide +kernel
theorem dX6_hold_252 : decode cX6_hold 252 = .ok (.iload_n 1, 1) := by decide +kernel
theorem dX6_hold_253 : decode cX6_hold 253 = .ok (.iload 4, 2) := by decide +kernel
theorem dX6_hold_255 : decode cX6_hold 255 = .ok (.iastore, 1) := by decide +kernel
theorem dX6_hold_256 : decode cX6_hold 256 = .ok (.aload_n 0, 1) := by decide +kernel
theorem dX6_hold_257 : decode cX6_hold 257 = .ok (.getfield 32, 3) := by decide +kernel
theorem dX6_hold_260 : decode cX6_hold 260 = .ok (.iload_n 1, 1) := by decide +kernel
theorem dX6_hold_261 : decode cX6_hold 261 = .ok (.iload 5, 2) := by decide +kernel
theorem dX6_hold_263 : decode cX6_hold 263 = .ok (.iastore, 1) := by decide +kernel
theorem dX6_hold_264 : decode cX6_hold 264 = .ok (.aload_n 0, 1) := by decide +kernel
theorem dX6_hold_265 : decode cX6_hold 265 = .ok (.getfield 35, 3) := by decide +kernel
theorem dX6_hold_268 : decode cX6_hold 268 = .ok (.iload_n 1, 1) := by decide +kernel
theorem dX6_hold_269 : decode cX6_hold 269 = .ok (.iload 10, 2) := by decide +kernel
theorem dX6_hold_271 : decode cX6_hold 271 = .ok (.iastore, 1) := by decide +kernel
theorem dX6_hold_272 : decode cX6_hold 272 = .ok (.aload_n 0, 1) := by decide +kernel
theorem dX6_hold_273 : decode cX6_hold 273 = .ok (.getfield 38, 3) := by decide +kernel
theorem dX6_hold_276 : decode cX6_hold 276 = .ok (.iload_n 1, 1) := by decide +kernel
theorem dX6_hold_277 : decode cX6_hold 277 = .ok (.iconst 0, 1) := by decide +kernel
theorem dX6_hold_278 : decode cX6_hold 278 = .ok (.iastore, 1) := by decide +kernel
theorem dX6_hold_279 : decode cX6_hold 279 = .ok (.aload_n 0, 1) := by decide +kernel
theorem dX6_hold_280 : decode cX6_hold 280 = .ok (.getfield 41, 3) := by decide +kernel
theorem dX6_hold_283 : decode cX6_hold 283 = .ok (.iload_n 1, 1) := by decide +kernel
theorem dX6_hold_284 : decode cX6_hold 284 = .ok (.aload_n 0, 1) := by decide +kernel
theorem dX6_hold_285 : decode cX6_hold 285 = .ok (.getfield 80, 3) := by decide +kernel
theorem dX6_hold_288 : decode cX6_hold 288 = .ok (.iastore, 1) := by decide +kernel
theorem dX6_hold_289 : decode cX6_hold 289 = .ok (.aload_n 0, 1) := by decide +kernel
theorem dX6_hold_290 : decode cX6_hold 290 = .ok (.getfield 44, 3) := by decide +kernel
theorem dX6_hold_293 : decode cX6_hold 293 = .ok (.iload_n 1, 1) := by decide +kernel
theorem dX6_hold_294 : decode cX6_hold 294 = .ok (.aload_n 0, 1) := by decide +kernel
theorem dX6_hold_295 : decode cX6_hold 295 = .ok (.getfield 80, 3) := by decide +kernel
theorem dX6_hold_298 : decode cX6_hold 298 = .ok (.bipush 10, 2) := by decide +kernel
theorem dX6_hold_300 : decode cX6_hold 300 = .ok (.iadd, 1) := by decide +kernel
theorem dX6_hold_301 : decode cX6_hold 301 = .ok (.iastore, 1) := by decide +kernel
theorem dX6_hold_302 : decode cX6_hold 302 = .ok (.iload 10, 2) := by decide +kernel
theorem dX6_hold_304 : decode cX6_hold 304 = .ok (.ireturn, 1) := by decide +kernel
set_option maxRecDepth 20000 in
theorem ggX6_sell_X6_priceOf : GoodIn wsX6_sell wsX6_priceOf := goodIn_r _ [14, 3, 7, 15, 16, 17, 18, 19, 20, 21, 22, 23, 24, 25, 26, 27, 28, 29, 30, 31, 32, 33, 34, 35] (by decide +kernel) (by decide +kernel)
set_option maxRecDepth 20000 in
theorem gX6_sell_X6_priceOf : GoodIn wsX6_sell (wsV RX6 130 RX6 yX6_priceOf wsX6_priceOf) := goodIn_app (goodIn_of _ (by decide +kernel)) ggX6_sell_X6_priceOf
theorem dX6_sell_0 : decode cX6_sell 0 = .ok (.aload_n 0, 1) := by decide +kernel
theorem dX6_sell_1 : decode cX6_sell 1 = .ok (.getfield 26, 3) := by decide +kernel
theorem dX6_sell_4 : decode cX6_sell 4 = .ok (.iload_n 1, 1) := by decide +kernel
theorem dX6_sell_5 : decode cX6_sell 5 = .ok (.iaload, 1) := by decide +kernel
theorem dX6_sell_6 : decode cX6_sell 6 = .ok (.istore_n 2, 1) := by decide +kernel
theorem dX6_sell_7 : decode cX6_sell 7 = .ok (.aload_n 0, 1) := by decide +kernel
theorem dX6_sell_8 : decode cX6_sell 8 = .ok (.getfield 26, 3) := by decide +kernel
theorem dX6_sell_11 : decode cX6_sell 11 = .ok (.iload_n 1, 1) := by decide +kernel
theorem dX6_sell_12 : decode cX6_sell 12 = .ok (.iconst (-1), 1) := by decide +kernel
theorem dX6_sell_13 : decode cX6_sell 13 = .ok (.iastore, 1) := by decide +kernel
theorem dX6_sell_14 : decode cX6_sell 14 = .ok (.iload_n 2, 1) := by decide +kernel
theorem dX6_sell_15 : decode cX6_sell 15 = .ok (.istore_n 3, 1) := by decide +kernel
theorem dX6_sell_16 : decode cX6_sell 16 = .ok (.iload_n 3, 1) := by decide +kernel
theorem dX6_sell_17 : decode cX6_sell 17 = .ok (.iload_n 2, 1) := by decide +kernel
theorem dX6_sell_18 : decode cX6_sell 18 = .ok (.aload_n 0, 1) := by decide +kernel
theorem dX6_sell_19 : decode cX6_sell 19 = .ok (.getfield 29, 3) := by decide +kernel
theorem dX6_sell_22 : decode cX6_sell 22 = .ok (.iload_n 1, 1) := by decide +kernel
theorem dX6_sell_23 : decode cX6_sell 23 = .ok (.iaload, 1) := by decide +kernel
theorem dX6_sell_24 : decode cX6_sell 24 = .ok (.iadd, 1) := by decide +kernel
theorem dX6_sell_25 : decode cX6_sell 25 = .ok (.if_icmp .ge 78, 3) := by decide +kernel
theorem dX6_sell_28 : decode cX6_sell 28 = .ok (.aload_n 0, 1) := by decide +kernel
theorem dX6_sell_29 : decode cX6_sell 29 = .ok (.iload_n 3, 1) := by decide +kernel
theorem dX6_sell_30 : decode cX6_sell 30 = .ok (.invokevirtual 130, 3) := by decide +kernel
theorem dX6_sell_33 : decode cX6_sell 33 = .ok (.istore 4, 2) := by decide +kernel
theorem dX6_sell_35 : decode cX6_sell 35 = .ok (.aload_n 0, 1) := by decide +kernel
theorem dX6_sell_36 : decode cX6_sell 36 = .ok (.getfield 50, 3) := by decide +kernel
theorem dX6_sell_39 : decode cX6_sell 39 = .ok (.iload_n 3, 1) := by decide +kernel
theorem dX6_sell_40 : decode cX6_sell 40 = .ok (.iaload, 1) := by decide +kernel
theorem dX6_sell_41 : decode cX6_sell 41 = .ok (.iconst (-1), 1) := by decide +kernel
theorem dX6_sell_42 : decode cX6_sell 42 = .ok (.if_icmp .ne 17, 3) := by decide +kernel
theorem dX6_sell_45 : decode cX6_sell 45 = .ok (.aload_n 0, 1) := by decide +kernel
theorem dX6_sell_46 : decode cX6_sell 46 = .ok (.dup, 1) := by decide +kernel
theorem dX6_sell_47 : decode cX6_sell 47 = .ok (.getfield 133, 3) := by decide +kernel
theorem dX6_sell_50 : decode cX6_sell 50 = .ok (.iload 4, 2) := by decide +kernel
theorem dX6_sell_52 : decode cX6_sell 52 = .ok (.iadd, 1) := by decide +kernel
theorem dX6_sell_53 : decode cX6_sell 53 = .ok (.putfield 133, 3) := by decide +kernel
theorem dX6_sell_56 : decode cX6_sell 56 = .ok (.goto 19, 3) := by decide +kernel
theorem dX6_sell_59 : decode cX6_sell 59 = .ok (.aload_n 0, 1) := by decide +kernel
theorem dX6_sell_60 : decode cX6_sell 60 = .ok (.getfield 47, 3) := by decide +kernel
theorem dX6_sell_63 : decode cX6_sell 63 = .ok (.aload_n 0, 1) := by decide +kernel
theorem dX6_sell_64 : decode cX6_sell 64 = .ok (.getfield 50, 3) := by decide +kernel
theorem dX6_sell_67 : decode cX6_sell 67 = .ok (.iload_n 3, 1) := by decide +kernel
theorem dX6_sell_68 : decode cX6_sell 68 = .ok (.iaload, 1) := by decide +kernel
theorem dX6_sell_69 : decode cX6_sell 69 = .ok (.dup2, 1) := by decide +kernel
theorem dX6_sell_70 : decode cX6_sell 70 = .ok (.iaload, 1) := by decide +kernel
theorem dX6_sell_71 : decode cX6_sell 71 = .ok (.iload 4, 2) := by decide +kernel
theorem dX6_sell_73 : decode cX6_sell 73 = .ok (.isub, 1) := by decide +kernel
theorem dX6_sell_74 : decode cX6_sell 74 = .ok (.iastore, 1) := by decide +kernel
theorem dX6_sell_75 : decode cX6_sell 75 = .ok (.aload_n 0, 1) := by decide +kernel
theorem dX6_sell_76 : decode cX6_sell 76 = .ok (.getfield 50, 3) := by decide +kernel
theorem dX6_sell_79 : decode cX6_sell 79 = .ok (.iload_n 3, 1) := by decide +kernel
theorem dX6_sell_80 : decode cX6_sell 80 = .ok (.iload_n 1, 1) := by decide +kernel
theorem dX6_sell_81 : decode cX6_sell 81 = .ok (.iastore, 1) := by decide +kernel
theorem dX6_sell_82 : decode cX6_sell 82 = .ok (.aload_n 0, 1) := by decide +kernel
theorem dX6_sell_83 : decode cX6_sell 83 = .ok (.getfield 53, 3) := by decide +kernel
theorem dX6_sell_86 : decode cX6_sell 86 = .ok (.iload_n 3, 1) := by decide +kernel
theorem dX6_sell_87 : decode cX6_sell 87 = .ok (.iload 4, 2) := by decide +kernel
theorem dX6_sell_89 : decode cX6_sell 89 = .ok (.iastore, 1) := by decide +kernel
theorem dX6_sell_90 : decode cX6_sell 90 = .ok (.aload_n 0, 1) := by decide +kernel
theorem dX6_sell_91 : decode cX6_sell 91 = .ok (.getfield 56, 3) := by decide +kernel
theorem dX6_sell_94 : decode cX6_sell 94 = .ok (.iload_n 3, 1) := by decide +kernel
theorem dX6_sell_95 : decode cX6_sell 95 = .ok (.iconst (-1), 1) := by decide +kernel
theorem dX6_sell_96 : decode cX6_sell 96 = .ok (.iastore, 1) := by decide +kernel
theorem dX6_sell_97 : decode cX6_sell 97 = .ok (.iinc 3 1, 3) := by decide +kernel
theorem dX6_sell_100 : decode cX6_sell 100 = .ok (.goto (-84), 3) := by decide +kernel
theorem dX6_sell_103 : decode cX6_sell 103 = .ok (.aload_n 0, 1) := by decide +kernel
theorem dX6_sell_104 : decode cX6_sell 104 = .ok (.getfield 32, 3) := by decide +kernel
theorem dX6_sell_107 : decode cX6_sell 107 = .ok (.iload_n 1, 1) := by decide +kernel
theorem dX6_sell_108 : decode cX6_sell 108 = .ok (.iaload, 1) := by decide +kernel
theorem dX6_sell_109 : decode cX6_sell 109 = .ok (.iconst (-1), 1) := by decide +kernel
theorem dX6_sell_110 : decode cX6_sell 110 = .ok (.if_icmp .eq 28, 3) := by decide +kernel
theorem dX6_sell_113 : decode cX6_sell 113 = .ok (.aload_n 0, 1) := by decide +kernel
theorem dX6_sell_114 : decode cX6_sell 114 = .ok (.getfield 20, 3) := by decide +kernel
theorem dX6_sell_117 : decode cX6_sell 117 = .ok (.bipush 8, 2) := by decide +kernel
theorem dX6_sell_119 : decode cX6_sell 119 = .ok (.aload_n 0, 1) := by decide +kernel
theorem dX6_sell_120 : decode cX6_sell 120 = .ok (.getfield 32, 3) := by decide +kernel
theorem dX6_sell_123 : decode cX6_sell 123 = .ok (.iload_n 1, 1) := by decide +kernel
theorem dX6_sell_124 : decode cX6_sell 124 = .ok (.iaload, 1) := by decide +kernel
theorem dX6_sell_125 : decode cX6_sell 125 = .ok (.imul, 1) := by decide +kernel
theorem dX6_sell_126 : decode cX6_sell 126 = .ok (.iload_n 1, 1) := by decide +kernel
theorem dX6_sell_127 : decode cX6_sell 127 = .ok (.iadd, 1) := by decide +kernel
theorem dX6_sell_128 : decode cX6_sell 128 = .ok (.dup2, 1) := by decide +kernel
theorem dX6_sell_129 : decode cX6_sell 129 = .ok (.iaload, 1) := by decide +kernel
theorem dX6_sell_130 : decode cX6_sell 130 = .ok (.aload_n 0, 1) := by decide +kernel
theorem dX6_sell_131 : decode cX6_sell 131 = .ok (.getfield 29, 3) := by decide +kernel
theorem dX6_sell_134 : decode cX6_sell 134 = .ok (.iload_n 1, 1) := by decide +kernel
theorem dX6_sell_135 : decode cX6_sell 135 = .ok (.iaload, 1) := by decide +kernel
theorem dX6_sell_136 : decode cX6_sell 136 = .ok (.iadd, 1) := by decide +kernel
theorem dX6_sell_137 : decode cX6_sell 137 = .ok (.iastore, 1) := by decide +kernel
theorem dX6_sell_138 : decode cX6_sell 138 = .ok (.return_, 1) := by decide +kernel
set_option maxRecDepth 20000 in
theorem ggX6_pay_X6_isPerson : GoodIn wsX6_pay wsX6_isPerson := goodIn_r _ [10, 11, 12, 9, 13] (by decide +kernel) (by decide +kernel)
set_option maxRecDepth 20000 in
theorem gX6_pay_X6_isPerson : GoodIn wsX6_pay (va_wsS RX6 93 yX6_isPerson wsX6_isPerson) := goodIn_app (goodIn_of _ (by decide +kernel)) ggX6_pay_X6_isPerson
set_option maxRecDepth 20000 in
theorem ggX6_pay_X6_in : GoodIn wsX6_pay wsX6_in := goodIn_r _ [13] (by decide +kernel) (by decide +kernel)
set_option maxRecDepth 20000 in
theorem gX6_pay_X6_in : GoodIn wsX6_pay (va_wsS RX6 66 yX6_in wsX6_in) := goodIn_app (goodIn_of _ (by decide +kernel)) ggX6_pay_X6_in
set_option maxRecDepth 20000 in
theorem ggX6_pay_X6_goesWell : GoodIn wsX6_pay wsX6_goesWell := goodIn_r _ [17, 18, 34, 35, 36, 37, 38, 39, 40, 41, 42, 43, 44, 45, 46, 47, 48, 49, 50, 51, 52, 53, 54] (by decide +kernel) (by decide +kernel)
set_option maxRecDepth 20000 in
theorem gX6_pay_X6_goesWell : GoodIn wsX6_pay (wsV RX6 83 RX6 yX6_goesWell wsX6_goesWell) := goodIn_app (goodIn_of _ (by decide +kernel)) ggX6_pay_X6_goesWell
set_option maxRecDepth 20000 in
theorem ggX6_pay_X6_sell : GoodIn wsX6_pay wsX6_sell := goodIn_r _ [22, 1, 23, 24, 25, 4, 26, 27, 28, 29, 30, 31, 32, 9, 33, 34, 35, 36, 37, 38, 39, 40, 41, 42, 43, 44, 45, 46, 47, 48, 49, 50, 51, 52, 53, 54] (by decide +kernel) (by decide +kernel)
set_option maxRecDepth 20000 in
theorem gX6_pay_X6_sell : GoodIn wsX6_pay (wsV RX6 136 RX6 yX6_sell wsX6_sell) := goodIn_app (goodIn_of _ (by decide +kernel)) ggX6_pay_X6_sell
theorem dX6_pay_0 : decode cX6_pay 0 = .ok (.iload_n 1, 1) := by decide +kernel
theorem dX6_pay_1 : decode cX6_pay 1 = .ok (.invokestatic 93, 3) := by decide +kernel
theorem dX6_pay_4 : decode cX6_pay 4 = .ok (.istore_n 3, 1) := by decide +kernel
theorem dX6_pay_5 : decode cX6_pay 5 = .ok (.iload_n 2, 1) := by decide +kernel
theorem dX6_pay_6 : decode cX6_pay 6 = .ok (.iconst 1, 1) := by decide +kernel
theorem dX6_pay_7 : decode cX6_pay 7 = .ok (.sipush 1000, 3) := by decide +kernel
theorem dX6_pay_10 : decode cX6_pay 10 = .ok (.invokestatic 66, 3) := by decide +kernel
theorem dX6_pay_13 : decode cX6_pay 13 = .ok (.istore 4, 2) := by decide +kernel
theorem dX6_pay_15 : decode cX6_pay 15 = .ok (.iload_n 3, 1) := by decide +kernel
theorem dX6_pay_16 : decode cX6_pay 16 = .ok (.ifCond .eq 39, 3) := by decide +kernel
theorem dX6_pay_19 : decode cX6_pay 19 = .ok (.iload 4, 2) := by decide +kernel
theorem dX6_pay_21 : decode cX6_pay 21 = .ok (.ifCond .eq 34, 3) := by decide +kernel
theorem dX6_pay_24 : decode cX6_pay 24 = .ok (.aload_n 0, 1) := by decide +kernel
theorem dX6_pay_25 : decode cX6_pay 25 = .ok (.getfield 26, 3) := by decide +kernel
theorem dX6_pay_28 : decode cX6_pay 28 = .ok (.iload_n 1, 1) := by decide +kernel
theorem dX6_pay_29 : decode cX6_pay 29 = .ok (.iaload, 1) := by decide +kernel
theorem dX6_pay_30 : decode cX6_pay 30 = .ok (.iconst (-1), 1) := by decide +kernel
theorem dX6_pay_31 : decode cX6_pay 31 = .ok (.if_icmp .eq 24, 3) := by decide +kernel
theorem dX6_pay_34 : decode cX6_pay 34 = .ok (.iload_n 2, 1) := by decide +kernel
theorem dX6_pay_35 : decode cX6_pay 35 = .ok (.aload_n 0, 1) := by decide +kernel
theorem dX6_pay_36 : decode cX6_pay 36 = .ok (.getfield 35, 3) := by decide +kernel
theorem dX6_pay_39 : decode cX6_pay 39 = .ok (.iload_n 1, 1) := by decide +kernel
theorem dX6_pay_40 : decode cX6_pay 40 = .ok (.iaload, 1) := by decide +kernel
theorem dX6_pay_41 : decode cX6_pay 41 = .ok (.aload_n 0, 1) := by decide +kernel
theorem dX6_pay_42 : decode cX6_pay 42 = .ok (.getfield 38, 3) := by decide +kernel
theorem dX6_pay_45 : decode cX6_pay 45 = .ok (.iload_n 1, 1) := by decide +kernel
theorem dX6_pay_46 : decode cX6_pay 46 = .ok (.iaload, 1) := by decide +kernel
theorem dX6_pay_47 : decode cX6_pay 47 = .ok (.isub, 1) := by decide +kernel
theorem dX6_pay_48 : decode cX6_pay 48 = .ok (.if_icmp .gt 7, 3) := by decide +kernel
theorem dX6_pay_51 : decode cX6_pay 51 = .ok (.iconst 1, 1) := by decide +kernel
theorem dX6_pay_52 : decode cX6_pay 52 = .ok (.goto 4, 3) := by decide +kernel
theorem dX6_pay_55 : decode cX6_pay 55 = .ok (.iconst 0, 1) := by decide +kernel
theorem dX6_pay_56 : decode cX6_pay 56 = .ok (.istore 5, 2) := by decide +kernel
theorem dX6_pay_58 : decode cX6_pay 58 = .ok (.aload_n 0, 1) := by decide +kernel
theorem dX6_pay_59 : decode cX6_pay 59 = .ok (.iload_n 3, 1) := by decide +kernel
theorem dX6_pay_60 : decode cX6_pay 60 = .ok (.ifCond .ne 7, 3) := by decide +kernel
theorem dX6_pay_63 : decode cX6_pay 63 = .ok (.iconst 1, 1) := by decide +kernel
theorem dX6_pay_64 : decode cX6_pay 64 = .ok (.goto 22, 3) := by decide +kernel
theorem dX6_pay_67 : decode cX6_pay 67 = .ok (.iload 4, 2) := by decide +kernel
theorem dX6_pay_69 : decode cX6_pay 69 = .ok (.ifCond .ne 7, 3) := by decide +kernel
theorem dX6_pay_72 : decode cX6_pay 72 = .ok (.iconst 2, 1) := by decide +kernel
theorem dX6_pay_73 : decode cX6_pay 73 = .ok (.goto 13, 3) := by decide +kernel
theorem dX6_pay_76 : decode cX6_pay 76 = .ok (.iload 5, 2) := by decide +kernel
theorem dX6_pay_78 : decode cX6_pay 78 = .ok (.ifCond .eq 7, 3) := by decide +kernel
theorem dX6_pay_81 : decode cX6_pay 81 = .ok (.iconst 0, 1) := by decide +kernel
theorem dX6_pay_82 : decode cX6_pay 82 = .ok (.goto 4, 3) := by decide +kernel
theorem dX6_pay_85 : decode cX6_pay 85 = .ok (.iconst 3, 1) := by decide +kernel
theorem dX6_pay_86 : decode cX6_pay 86 = .ok (.invokevirtual 83, 3) := by decide +kernel
theorem dX6_pay_89 : decode cX6_pay 89 = .ok (.ifCond .ne 5, 3) := by decide +kernel
theorem dX6_pay_92 : decode cX6_pay 92 = .ok (.iconst 0, 1) := by decide +kernel
theorem dX6_pay_93 : decode cX6_pay 93 = .ok (.ireturn, 1) := by decide +kernel
theorem dX6_pay_94 : decode cX6_pay 94 = .ok (.aload_n 0, 1) := by decide +kernel
theorem dX6_pay_95 : decode cX6_pay 95 = .ok (.getfield 38, 3) := by decide +kernel
theorem dX6_pay_98 : decode cX6_pay 98 = .ok (.iload_n 1, 1) := by decide +kernel
theorem dX6_pay_99 : decode cX6_pay 99 = .ok (.dup2, 1) := by decide +kernel
theorem dX6_pay_100 : decode cX6_pay 100 = .ok (.iaload, 1) := by decide +kernel
theorem dX6_pay_101 : decode cX6_pay 101 = .ok (.iload_n 2, 1) := by decide +kernel
theorem dX6_pay_102 : decode cX6_pay 102 = .ok (.iadd, 1) := by decide +kernel
theorem dX6_pay_103 : decode cX6_pay 103 = .ok (.iastore, 1) := by decide +kernel
theorem dX6_pay_104 : decode cX6_pay 104 = .ok (.aload_n 0, 1) := by decide +kernel
theorem dX6_pay_105 : decode cX6_pay 105 = .ok (.getfield 47, 3) := by decide +kernel
theorem dX6_pay_108 : decode cX6_pay 108 = .ok (.iload_n 1, 1) := by decide +kernel
theorem dX6_pay_109 : decode cX6_pay 109 = .ok (.dup2, 1) := by decide +kernel
theorem dX6_pay_110 : decode cX6_pay 110 = .ok (.iaload, 1) := by decide +kernel
theorem dX6_pay_111 : decode cX6_pay 111 = .ok (.iload_n 2, 1) := by decide +kernel
theorem dX6_pay_112 : decode cX6_pay 112 = .ok (.iadd, 1) := by decide +kernel
theorem dX6_pay_113 : decode cX6_pay 113 = .ok (.iastore, 1) := by decide +kernel
theorem dX6_pay_114 : decode cX6_pay 114 = .ok (.aload_n 0, 1) := by decide +kernel
theorem dX6_pay_115 : decode cX6_pay 115 = .ok (.getfield 35, 3) := by decide +kernel
theorem dX6_pay_118 : decode cX6_pay 118 = .ok (.iload_n 1, 1) := by decide +kernel
theorem dX6_pay_119 : decode cX6_pay 119 = .ok (.iaload, 1) := by decide +kernel
theorem dX6_pay_120 : decode cX6_pay 120 = .ok (.aload_n 0, 1) := by decide +kernel
theorem dX6_pay_121 : decode cX6_pay 121 = .ok (.getfield 38, 3) := by decide +kernel
theorem dX6_pay_124 : decode cX6_pay 124 = .ok (.iload_n 1, 1) := by decide +kernel
theorem dX6_pay_125 : decode cX6_pay 125 = .ok (.iaload, 1) := by decide +kernel
theorem dX6_pay_126 : decode cX6_pay 126 = .ok (.isub, 1) := by decide +kernel
theorem dX6_pay_127 : decode cX6_pay 127 = .ok (.istore 6, 2) := by decide +kernel
theorem dX6_pay_129 : decode cX6_pay 129 = .ok (.iload 6, 2) := by decide +kernel
theorem dX6_pay_131 : decode cX6_pay 131 = .ok (.ifCond .ne 11, 3) := by decide +kernel
theorem dX6_pay_134 : decode cX6_pay 134 = .ok (.aload_n 0, 1) := by decide +kernel
theorem dX6_pay_135 : decode cX6_pay 135 = .ok (.iload_n 1, 1) := by decide +kernel
theorem dX6_pay_136 : decode cX6_pay 136 = .ok (.invokevirtual 136, 3) := by decide +kernel
theorem dX6_pay_139 : decode cX6_pay 139 = .ok (.goto 47, 3) := by decide +kernel
theorem dX6_pay_142 : decode cX6_pay 142 = .ok (.aload_n 0, 1) := by decide +kernel
theorem dX6_pay_143 : decode cX6_pay 143 = .ok (.getfield 44, 3) := by decide +kernel
theorem dX6_pay_146 : decode cX6_pay 146 = .ok (.iload_n 1, 1) := by decide +kernel
theorem dX6_pay_147 : decode cX6_pay 147 = .ok (.iaload, 1) := by decide +kernel
theorem dX6_pay_148 : decode cX6_pay 148 = .ok (.iconst 5, 1) := by decide +kernel
theorem dX6_pay_149 : decode cX6_pay 149 = .ok (.iadd, 1) := by decide +kernel
theorem dX6_pay_150 : decode cX6_pay 150 = .ok (.istore 7, 2) := by decide +kernel
theorem dX6_pay_152 : decode cX6_pay 152 = .ok (.aload_n 0, 1) := by decide +kernel
theorem dX6_pay_153 : decode cX6_pay 153 = .ok (.getfield 44, 3) := by decide +kernel
theorem dX6_pay_156 : decode cX6_pay 156 = .ok (.iload_n 1, 1) := by decide +kernel
theorem dX6_pay_157 : decode cX6_pay 157 = .ok (.iload 7, 2) := by decide +kernel
theorem dX6_pay_159 : decode cX6_pay 159 = .ok (.aload_n 0, 1) := by decide +kernel
theorem dX6_pay_160 : decode cX6_pay 160 = .ok (.getfield 41, 3) := by decide +kernel
theorem dX6_pay_163 : decode cX6_pay 163 = .ok (.iload_n 1, 1) := by decide +kernel
theorem dX6_pay_164 : decode cX6_pay 164 = .ok (.iaload, 1) := by decide +kernel
theorem dX6_pay_165 : decode cX6_pay 165 = .ok (.bipush 30, 2) := by decide +kernel
theorem dX6_pay_167 : decode cX6_pay 167 = .ok (.iadd, 1) := by decide +kernel
theorem dX6_pay_168 : decode cX6_pay 168 = .ok (.if_icmp .le 15, 3) := by decide +kernel
theorem dX6_pay_171 : decode cX6_pay 171 = .ok (.aload_n 0, 1) := by decide +kernel
theorem dX6_pay_172 : decode cX6_pay 172 = .ok (.getfield 41, 3) := by decide +kernel
theorem dX6_pay_175 : decode cX6_pay 175 = .ok (.iload_n 1, 1) := by decide +kernel
theorem dX6_pay_176 : decode cX6_pay 176 = .ok (.iaload, 1) := by decide +kernel
theorem dX6_pay_177 : decode cX6_pay 177 = .ok (.bipush 30, 2) := by decide +kernel
theorem dX6_pay_179 : decode cX6_pay 179 = .ok (.iadd, 1) := by decide +kernel
theorem dX6_pay_180 : decode cX6_pay 180 = .ok (.goto 5, 3) := by decide +kernel
theorem dX6_pay_183 : decode cX6_pay 183 = .ok (.iload 7, 2) := by decide +kernel
theorem dX6_pay_185 : decode cX6_pay 185 = .ok (.iastore, 1) := by decide +kernel
theorem dX6_pay_186 : decode cX6_pay 186 = .ok (.iload 6, 2) := by decide +kernel
theorem dX6_pay_188 : decode cX6_pay 188 = .ok (.ireturn, 1) := by decide +kernel
set_option maxRecDepth 20000 in
theorem ggX6_letGo_X6_isPerson : GoodIn wsX6_letGo wsX6_isPerson := goodIn_r _ [6, 7, 8, 5, 9] (by decide +kernel) (by decide +kernel)
set_option maxRecDepth 20000 in
theorem gX6_letGo_X6_isPerson : GoodIn wsX6_letGo (va_wsS RX6 93 yX6_isPerson wsX6_isPerson) := goodIn_app (goodIn_of _ (by decide +kernel)) ggX6_letGo_X6_isPerson
set_option maxRecDepth 20000 in
theorem ggX6_letGo_X6_goesWell : GoodIn wsX6_letGo wsX6_goesWell := goodIn_r _ [13, 14, 20, 21, 22, 23, 24, 25, 26, 27, 28, 29, 30, 31, 32, 33, 34, 35, 36, 37, 38, 39, 40] (by decide +kernel) (by decide +kernel)
set_option maxRecDepth 20000 in
theorem gX6_letGo_X6_goesWell : GoodIn wsX6_letGo (wsV RX6 83 RX6 yX6_goesWell wsX6_goesWell) := goodIn_app (goodIn_of _ (by decide +kernel)) ggX6_letGo_X6_goesWell
set_option maxRecDepth 20000 in
theorem ggX6_letGo_X6_dropHold : GoodIn wsX6_letGo wsX6_dropHold := goodIn_r _ [18, 1, 19, 2, 20, 21, 22, 23, 24, 25, 26, 27, 28, 29, 30, 31, 32, 33, 34, 35, 36, 37, 38, 39, 40] (by decide +kernel) (by decide +kernel)
set_option maxRecDepth 20000 in
theorem gX6_letGo_X6_dropHold : GoodIn wsX6_letGo (wsV RX6 86 RX6 yX6_dropHold wsX6_dropHold) := goodIn_app (goodIn_of _ (by decide +kernel)) ggX6_letGo_X6_dropHold
theorem dX6_letGo_0 : decode cX6_letGo 0 = .ok (.iload_n 1, 1) := by decide +kernel
theorem dX6_letGo_1 : decode cX6_letGo 1 = .ok (.invokestatic 93, 3) := by decide +kernel
theorem dX6_letGo_4 : decode cX6_letGo 4 = .ok (.istore_n 2, 1) := by decide +kernel
theorem dX6_letGo_5 : decode cX6_letGo 5 = .ok (.aload_n 0, 1) := by decide +kernel
theorem dX6_letGo_6 : decode cX6_letGo 6 = .ok (.iload_n 2, 1) := by decide +kernel
theorem dX6_letGo_7 : decode cX6_letGo 7 = .ok (.ifCond .ne 7, 3) := by decide +kernel
theorem dX6_letGo_10 : decode cX6_letGo 10 = .ok (.iconst 1, 1) := by decide +kernel
theorem dX6_letGo_11 : decode cX6_letGo 11 = .ok (.goto 18, 3) := by decide +kernel
theorem dX6_letGo_14 : decode cX6_letGo 14 = .ok (.aload_n 0, 1) := by decide +kernel
theorem dX6_letGo_15 : decode cX6_letGo 15 = .ok (.getfield 26, 3) := by decide +kernel
theorem dX6_letGo_18 : decode cX6_letGo 18 = .ok (.iload_n 1, 1) := by decide +kernel
theorem dX6_letGo_19 : decode cX6_letGo 19 = .ok (.iaload, 1) := by decide +kernel
theorem dX6_letGo_20 : decode cX6_letGo 20 = .ok (.iconst (-1), 1) := by decide +kernel
theorem dX6_letGo_21 : decode cX6_letGo 21 = .ok (.if_icmp .ne 7, 3) := by decide +kernel
theorem dX6_letGo_24 : decode cX6_letGo 24 = .ok (.iconst 2, 1) := by decide +kernel
theorem dX6_letGo_25 : decode cX6_letGo 25 = .ok (.goto 4, 3) := by decide +kernel
theorem dX6_letGo_28 : decode cX6_letGo 28 = .ok (.iconst 0, 1) := by decide +kernel
theorem dX6_letGo_29 : decode cX6_letGo 29 = .ok (.invokevirtual 83, 3) := by decide +kernel
theorem dX6_letGo_32 : decode cX6_letGo 32 = .ok (.ifCond .ne 5, 3) := by decide +kernel
theorem dX6_letGo_35 : decode cX6_letGo 35 = .ok (.iconst 0, 1) := by decide +kernel
theorem dX6_letGo_36 : decode cX6_letGo 36 = .ok (.ireturn, 1) := by decide +kernel
theorem dX6_letGo_37 : decode cX6_letGo 37 = .ok (.aload_n 0, 1) := by decide +kernel
theorem dX6_letGo_38 : decode cX6_letGo 38 = .ok (.iload_n 1, 1) := by decide +kernel
theorem dX6_letGo_39 : decode cX6_letGo 39 = .ok (.invokevirtual 86, 3) := by decide +kernel
theorem dX6_letGo_42 : decode cX6_letGo 42 = .ok (.aload_n 0, 1) := by decide +kernel
theorem dX6_letGo_43 : decode cX6_letGo 43 = .ok (.getfield 38, 3) := by decide +kernel
theorem dX6_letGo_46 : decode cX6_letGo 46 = .ok (.iload_n 1, 1) := by decide +kernel
theorem dX6_letGo_47 : decode cX6_letGo 47 = .ok (.iaload, 1) := by decide +kernel
theorem dX6_letGo_48 : decode cX6_letGo 48 = .ok (.ireturn, 1) := by decide +kernel
set_option maxRecDepth 20000 in
theorem ggX6_lapses_X6_isPerson : GoodIn wsX6_lapses wsX6_isPerson := goodIn_r _ [6, 7, 8, 5, 9] (by decide +kernel) (by decide +kernel)
set_option maxRecDepth 20000 in
theorem gX6_lapses_X6_isPerson : GoodIn wsX6_lapses (va_wsS RX6 93 yX6_isPerson wsX6_isPerson) := goodIn_app (goodIn_of _ (by decide +kernel)) ggX6_lapses_X6_isPerson
set_option maxRecDepth 20000 in
theorem ggX6_lapses_X6_goesWell : GoodIn wsX6_lapses wsX6_goesWell := goodIn_r _ [13, 14, 15, 16, 17, 18, 19, 20, 21, 22, 23, 24, 25, 26, 27, 28, 29, 30, 31, 32, 33, 34, 35] (by decide +kernel) (by decide +kernel)
set_option maxRecDepth 20000 in
theorem gX6_lapses_X6_goesWell : GoodIn wsX6_lapses (wsV RX6 83 RX6 yX6_goesWell wsX6_goesWell) := goodIn_app (goodIn_of _ (by decide +kernel)) ggX6_lapses_X6_goesWell
theorem dX6_lapses_0 : decode cX6_lapses 0 = .ok (.aload_n 0, 1) := by decide +kernel
theorem dX6_lapses_1 : decode cX6_lapses 1 = .ok (.iload_n 1, 1) := by decide +kernel
theorem dX6_lapses_2 : decode cX6_lapses 2 = .ok (.invokestatic 93, 3) := by decide +kernel
theorem dX6_lapses_5 : decode cX6_lapses 5 = .ok (.ifCond .eq 7, 3) := by decide +kernel
theorem dX6_lapses_8 : decode cX6_lapses 8 = .ok (.iconst 0, 1) := by decide +kernel
theorem dX6_lapses_9 : decode cX6_lapses 9 = .ok (.goto 4, 3) := by decide +kernel
theorem dX6_lapses_12 : decode cX6_lapses 12 = .ok (.iconst 1, 1) := by decide +kernel
theorem dX6_lapses_13 : decode cX6_lapses 13 = .ok (.invokevirtual 83, 3) := by decide +kernel
theorem dX6_lapses_16 : decode cX6_lapses 16 = .ok (.ifCond .ne 5, 3) := by decide +kernel
theorem dX6_lapses_19 : decode cX6_lapses 19 = .ok (.iconst 0, 1) := by decide +kernel
theorem dX6_lapses_20 : decode cX6_lapses 20 = .ok (.ireturn, 1) := by decide +kernel
theorem dX6_lapses_21 : decode cX6_lapses 21 = .ok (.aload_n 0, 1) := by decide +kernel
theorem dX6_lapses_22 : decode cX6_lapses 22 = .ok (.getfield 26, 3) := by decide +kernel
theorem dX6_lapses_25 : decode cX6_lapses 25 = .ok (.iload_n 1, 1) := by decide +kernel
theorem dX6_lapses_26 : decode cX6_lapses 26 = .ok (.iaload, 1) := by decide +kernel
theorem dX6_lapses_27 : decode cX6_lapses 27 = .ok (.iconst (-1), 1) := by decide +kernel
theorem dX6_lapses_28 : decode cX6_lapses 28 = .ok (.if_icmp .ne 7, 3) := by decide +kernel
theorem dX6_lapses_31 : decode cX6_lapses 31 = .ok (.iconst (-1), 1) := by decide +kernel
theorem dX6_lapses_32 : decode cX6_lapses 32 = .ok (.goto 9, 3) := by decide +kernel
theorem dX6_lapses_35 : decode cX6_lapses 35 = .ok (.aload_n 0, 1) := by decide +kernel
theorem dX6_lapses_36 : decode cX6_lapses 36 = .ok (.getfield 44, 3) := by decide +kernel
theorem dX6_lapses_39 : decode cX6_lapses 39 = .ok (.iload_n 1, 1) := by decide +kernel
theorem dX6_lapses_40 : decode cX6_lapses 40 = .ok (.iaload, 1) := by decide +kernel
theorem dX6_lapses_41 : decode cX6_lapses 41 = .ok (.ireturn, 1) := by decide +kernel
set_option maxRecDepth 20000 in
theorem ggX6_state_X6_isSeat : GoodIn wsX6_state wsX6_isSeat := goodIn_r _ [4, 5, 6, 3, 7] (by decide +kernel) (by decide +kernel)
set_option maxRecDepth 20000 in
theorem gX6_state_X6_isSeat : GoodIn wsX6_state (va_wsS RX6 139 yX6_isSeat wsX6_isSeat) := goodIn_app (goodIn_of _ (by decide +kernel)) ggX6_state_X6_isSeat
set_option maxRecDepth 20000 in
theorem ggX6_state_X6_goesWell : GoodIn wsX6_state wsX6_goesWell := goodIn_r _ [11, 12, 25, 26, 27, 28, 29, 30, 31, 32, 33, 34, 35, 36, 37, 38, 39, 40, 41, 42, 43, 44, 45] (by decide +kernel) (by decide +kernel)
set_option maxRecDepth 20000 in
theorem gX6_state_X6_goesWell : GoodIn wsX6_state (wsV RX6 83 RX6 yX6_goesWell wsX6_goesWell) := goodIn_app (goodIn_of _ (by decide +kernel)) ggX6_state_X6_goesWell
set_option maxRecDepth 20000 in
theorem ggX6_state_X6_stateOf : GoodIn wsX6_state wsX6_stateOf := goodIn_r _ [16, 17, 18, 19, 20, 21, 3, 22, 23, 24, 5, 6, 7, 25, 26, 27, 28, 29, 30, 31, 32, 33, 34, 35, 36, 37, 38, 39, 40, 41, 42, 43, 44, 45] (by decide +kernel) (by decide +kernel)
set_option maxRecDepth 20000 in
theorem gX6_state_X6_stateOf : GoodIn wsX6_state (wsV RX6 142 RX6 yX6_stateOf wsX6_stateOf) := goodIn_app (goodIn_of _ (by decide +kernel)) ggX6_state_X6_stateOf
theorem dX6_state_0 : decode cX6_state 0 = .ok (.aload_n 0, 1) := by decide +kernel
theorem dX6_state_1 : decode cX6_state 1 = .ok (.iload_n 1, 1) := by decide +kernel
theorem dX6_state_2 : decode cX6_state 2 = .ok (.invokestatic 139, 3) := by decide +kernel
theorem dX6_state_5 : decode cX6_state 5 = .ok (.ifCond .eq 7, 3) := by decide +kernel
theorem dX6_state_8 : decode cX6_state 8 = .ok (.iconst 0, 1) := by decide +kernel
theorem dX6_state_9 : decode cX6_state 9 = .ok (.goto 4, 3) := by decide +kernel
theorem dX6_state_12 : decode cX6_state 12 = .ok (.iconst 1, 1) := by decide +kernel
theorem dX6_state_13 : decode cX6_state 13 = .ok (.invokevirtual 83, 3) := by decide +kernel
theorem dX6_state_16 : decode cX6_state 16 = .ok (.ifCond .eq 11, 3) := by decide +kernel
theorem dX6_state_19 : decode cX6_state 19 = .ok (.aload_n 0, 1) := by decide +kernel
theorem dX6_state_20 : decode cX6_state 20 = .ok (.iload_n 1, 1) := by decide +kernel
theorem dX6_state_21 : decode cX6_state 21 = .ok (.invokevirtual 142, 3) := by decide +kernel
theorem dX6_state_24 : decode cX6_state 24 = .ok (.goto 4, 3) := by decide +kernel
theorem dX6_state_27 : decode cX6_state 27 = .ok (.iconst 0, 1) := by decide +kernel
theorem dX6_state_28 : decode cX6_state 28 = .ok (.ireturn, 1) := by decide +kernel
set_option maxRecDepth 20000 in
theorem ggX6_owner_X6_ownerBySales : GoodIn wsX6_owner wsX6_ownerBySales := goodIn_r _ [5, 6, 7, 8, 4, 9, 10, 11, 12, 13, 14, 15, 16, 17, 18, 19, 20, 21, 22, 23, 24, 25, 26, 27, 28, 29, 30, 31, 32, 33, 34, 35, 36, 37, 38] (by decide +kernel) (by decide +kernel)
set_option maxRecDepth 20000 in
theorem gX6_owner_X6_ownerBySales : GoodIn wsX6_owner (wsV RX6 145 RX6 yX6_ownerBySales wsX6_ownerBySales) := goodIn_app (goodIn_of _ (by decide +kernel)) ggX6_owner_X6_ownerBySales
theorem dX6_owner_0 : decode cX6_owner 0 = .ok (.aload_n 0, 1) := by decide +kernel
theorem dX6_owner_1 : decode cX6_owner 1 = .ok (.iload_n 1, 1) := by decide +kernel
theorem dX6_owner_2 : decode cX6_owner 2 = .ok (.invokevirtual 145, 3) := by decide +kernel
theorem dX6_owner_5 : decode cX6_owner 5 = .ok (.ireturn, 1) := by decide +kernel
set_option maxRecDepth 20000 in
theorem ggX6_ownerBySales_X6_isSeat : GoodIn wsX6_ownerBySales wsX6_isSeat := goodIn_r _ [5, 6, 7, 4, 8] (by decide +kernel) (by decide +kernel)
set_option maxRecDepth 20000 in
theorem gX6_ownerBySales_X6_isSeat : GoodIn wsX6_ownerBySales (va_wsS RX6 139 yX6_isSeat wsX6_isSeat) := goodIn_app (goodIn_of _ (by decide +kernel)) ggX6_ownerBySales_X6_isSeat
set_option maxRecDepth 20000 in
theorem ggX6_ownerBySales_X6_goesWell : GoodIn wsX6_ownerBySales wsX6_goesWell := goodIn_r _ [12, 13, 14, 15, 16, 17, 18, 19, 20, 21, 22, 23, 24, 25, 26, 27, 28, 29, 30, 31, 32, 33, 34] (by decide +kernel) (by decide +kernel)
set_option maxRecDepth 20000 in
theorem gX6_ownerBySales_X6_goesWell : GoodIn wsX6_ownerBySales (wsV RX6 83 RX6 yX6_goesWell wsX6_goesWell) := goodIn_app (goodIn_of _ (by decide +kernel)) ggX6_ownerBySales_X6_goesWell
theorem dX6_ownerBySales_0 : decode cX6_ownerBySales 0 = .ok (.aload_n 0, 1) := by decide +kernel
theorem dX6_ownerBySales_1 : decode cX6_ownerBySales 1 = .ok (.iload_n 1, 1) := by decide +kernel
theorem dX6_ownerBySales_2 : decode cX6_ownerBySales 2 = .ok (.invokestatic 139, 3) := by decide +kernel
theorem dX6_ownerBySales_5 : decode cX6_ownerBySales 5 = .ok (.ifCond .eq 7, 3) := by decide +kernel
theorem dX6_ownerBySales_8 : decode cX6_ownerBySales 8 = .ok (.iconst 0, 1) := by decide +kernel
theorem dX6_ownerBySales_9 : decode cX6_ownerBySales 9 = .ok (.goto 4, 3) := by decide +kernel
theorem dX6_ownerBySales_12 : decode cX6_ownerBySales 12 = .ok (.iconst 1, 1) := by decide +kernel
theorem dX6_ownerBySales_13 : decode cX6_ownerBySales 13 = .ok (.invokevirtual 83, 3) := by decide +kernel
theorem dX6_ownerBySales_16 : decode cX6_ownerBySales 16 = .ok (.ifCond .eq 12, 3) := by decide +kernel
theorem dX6_ownerBySales_19 : decode cX6_ownerBySales 19 = .ok (.aload_n 0, 1) := by decide +kernel
theorem dX6_ownerBySales_20 : decode cX6_ownerBySales 20 = .ok (.getfield 50, 3) := by decide +kernel
theorem dX6_ownerBySales_23 : decode cX6_ownerBySales 23 = .ok (.iload_n 1, 1) := by decide +kernel
theorem dX6_ownerBySales_24 : decode cX6_ownerBySales 24 = .ok (.iaload, 1) := by decide +kernel
theorem dX6_ownerBySales_25 : decode cX6_ownerBySales 25 = .ok (.goto 4, 3) := by decide +kernel
theorem dX6_ownerBySales_28 : decode cX6_ownerBySales 28 = .ok (.iconst 0, 1) := by decide +kernel
theorem dX6_ownerBySales_29 : decode cX6_ownerBySales 29 = .ok (.ireturn, 1) := by decide +kernel
set_option maxRecDepth 20000 in
theorem ggX6_isSingle_X6_isSeat : GoodIn wsX6_isSingle wsX6_isSeat := goodIn_r _ [4, 5, 6, 3, 7] (by decide +kernel) (by decide +kernel)
set_option maxRecDepth 20000 in
theorem gX6_isSingle_X6_isSeat : GoodIn wsX6_isSingle (va_wsS RX6 139 yX6_isSeat wsX6_isSeat) := goodIn_app (goodIn_of _ (by decide +kernel)) ggX6_isSingle_X6_isSeat
set_option maxRecDepth 20000 in
theorem ggX6_isSingle_X6_goesWell : GoodIn wsX6_isSingle wsX6_goesWell := goodIn_r _ [11, 12, 29, 30, 31, 32, 33, 34, 35, 36, 37, 38, 39, 40, 41, 42, 43, 44, 45, 46, 47, 48, 49] (by decide +kernel) (by decide +kernel)
set_option maxRecDepth 20000 in
theorem gX6_isSingle_X6_goesWell : GoodIn wsX6_isSingle (wsV RX6 83 RX6 yX6_goesWell wsX6_goesWell) := goodIn_app (goodIn_of _ (by decide +kernel)) ggX6_isSingle_X6_goesWell
set_option maxRecDepth 20000 in
theorem ggX6_isSingle_X6_isAlone : GoodIn wsX6_isSingle wsX6_isAlone := goodIn_r _ [16, 17, 18, 19, 3, 20, 21, 22, 23, 24, 25, 26, 27, 28, 5, 6, 7, 29, 30, 31, 32, 33, 34, 35, 36, 37, 38, 39, 40, 41, 42, 43, 44, 45, 46, 47, 48, 49] (by decide +kernel) (by decide +kernel)
set_option maxRecDepth 20000 in
theorem gX6_isSingle_X6_isAlone : GoodIn wsX6_isSingle (wsV RX6 115 RX6 yX6_isAlone wsX6_isAlone) := goodIn_app (goodIn_of _ (by decide +kernel)) ggX6_isSingle_X6_isAlone
theorem dX6_isSingle_0 : decode cX6_isSingle 0 = .ok (.aload_n 0, 1) := by decide +kernel
theorem dX6_isSingle_1 : decode cX6_isSingle 1 = .ok (.iload_n 1, 1) := by decide +kernel
theorem dX6_isSingle_2 : decode cX6_isSingle 2 = .ok (.invokestatic 139, 3) := by decide +kernel
theorem dX6_isSingle_5 : decode cX6_isSingle 5 = .ok (.ifCond .eq 7, 3) := by decide +kernel
theorem dX6_isSingle_8 : decode cX6_isSingle 8 = .ok (.iconst 0, 1) := by decide +kernel
theorem dX6_isSingle_9 : decode cX6_isSingle 9 = .ok (.goto 4, 3) := by decide +kernel
theorem dX6_isSingle_12 : decode cX6_isSingle 12 = .ok (.iconst 1, 1) := by decide +kernel
theorem dX6_isSingle_13 : decode cX6_isSingle 13 = .ok (.invokevirtual 83, 3) := by decide +kernel
theorem dX6_isSingle_16 : decode cX6_isSingle 16 = .ok (.ifCond .eq 15, 3) := by decide +kernel
theorem dX6_isSingle_19 : decode cX6_isSingle 19 = .ok (.aload_n 0, 1) := by decide +kernel
theorem dX6_isSingle_20 : decode cX6_isSingle 20 = .ok (.iload_n 1, 1) := by decide +kernel
theorem dX6_isSingle_21 : decode cX6_isSingle 21 = .ok (.invokevirtual 115, 3) := by decide +kernel
theorem dX6_isSingle_24 : decode cX6_isSingle 24 = .ok (.ifCond .eq 7, 3) := by decide +kernel
theorem dX6_isSingle_27 : decode cX6_isSingle 27 = .ok (.iconst 1, 1) := by decide +kernel
theorem dX6_isSingle_28 : decode cX6_isSingle 28 = .ok (.goto 4, 3) := by decide +kernel
theorem dX6_isSingle_31 : decode cX6_isSingle 31 = .ok (.iconst 0, 1) := by decide +kernel
theorem dX6_isSingle_32 : decode cX6_isSingle 32 = .ok (.ireturn, 1) := by decide +kernel
set_option maxRecDepth 20000 in
theorem ggX6_firstOpen_X6_isRow : GoodIn wsX6_firstOpen wsX6_isRow := goodIn_r _ [4, 5, 6, 3, 7] (by decide +kernel) (by decide +kernel)
set_option maxRecDepth 20000 in
theorem gX6_firstOpen_X6_isRow : GoodIn wsX6_firstOpen (va_wsS RX6 118 yX6_isRow wsX6_isRow) := goodIn_app (goodIn_of _ (by decide +kernel)) ggX6_firstOpen_X6_isRow
set_option maxRecDepth 20000 in
theorem ggX6_firstOpen_X6_in : GoodIn wsX6_firstOpen wsX6_in := goodIn_r _ [7] (by decide +kernel) (by decide +kernel)
set_option maxRecDepth 20000 in
theorem gX6_firstOpen_X6_in : GoodIn wsX6_firstOpen (va_wsS RX6 66 yX6_in wsX6_in) := goodIn_app (goodIn_of _ (by decide +kernel)) ggX6_firstOpen_X6_in
set_option maxRecDepth 20000 in
theorem ggX6_firstOpen_X6_goesWell : GoodIn wsX6_firstOpen wsX6_goesWell := goodIn_r _ [11, 12, 25, 26, 27, 28, 29, 30, 31, 32, 33, 34, 35, 36, 37, 38, 39, 40, 41, 42, 43, 44, 45] (by decide +kernel) (by decide +kernel)
set_option maxRecDepth 20000 in
theorem gX6_firstOpen_X6_goesWell : GoodIn wsX6_firstOpen (wsV RX6 83 RX6 yX6_goesWell wsX6_goesWell) := goodIn_app (goodIn_of _ (by decide +kernel)) ggX6_firstOpen_X6_goesWell
set_option maxRecDepth 20000 in
theorem ggX6_firstOpen_X6_isOpen : GoodIn wsX6_firstOpen wsX6_isOpen := goodIn_r _ [16, 17, 18, 19, 20, 21, 3, 22, 23, 24, 5, 6, 7, 25, 26, 27, 28, 29, 30, 31, 32, 33, 34, 35, 36, 37, 38, 39, 40, 41, 42, 43, 44, 45] (by decide +kernel) (by decide +kernel)
set_option maxRecDepth 20000 in
theorem gX6_firstOpen_X6_isOpen : GoodIn wsX6_firstOpen (wsV RX6 77 RX6 yX6_isOpen wsX6_isOpen) := goodIn_app (goodIn_of _ (by decide +kernel)) ggX6_firstOpen_X6_isOpen
theorem dX6_firstOpen_0 : decode cX6_firstOpen 0 = .ok (.iload_n 1, 1) := by decide +kernel
theorem dX6_firstOpen_1 : decode cX6_firstOpen 1 = .ok (.invokestatic 118, 3) := by decide +kernel
theorem dX6_firstOpen_4 : decode cX6_firstOpen 4 = .ok (.istore_n 3, 1) := by decide +kernel
theorem dX6_firstOpen_5 : decode cX6_firstOpen 5 = .ok (.aload_n 0, 1) := by decide +kernel
theorem dX6_firstOpen_6 : decode cX6_firstOpen 6 = .ok (.iload_n 3, 1) := by decide +kernel
theorem dX6_firstOpen_7 : decode cX6_firstOpen 7 = .ok (.ifCond .ne 7, 3) := by decide +kernel
theorem dX6_firstOpen_10 : decode cX6_firstOpen 10 = .ok (.iconst 1, 1) := by decide +kernel
theorem dX6_firstOpen_11 : decode cX6_firstOpen 11 = .ok (.goto 18, 3) := by decide +kernel
theorem dX6_firstOpen_14 : decode cX6_firstOpen 14 = .ok (.iload_n 2, 1) := by decide +kernel
theorem dX6_firstOpen_15 : decode cX6_firstOpen 15 = .ok (.iconst 1, 1) := by decide +kernel
theorem dX6_firstOpen_16 : decode cX6_firstOpen 16 = .ok (.bipush 10, 2) := by decide +kernel
theorem dX6_firstOpen_18 : decode cX6_firstOpen 18 = .ok (.invokestatic 66, 3) := by decide +kernel
theorem dX6_firstOpen_21 : decode cX6_firstOpen 21 = .ok (.ifCond .eq 7, 3) := by decide +kernel
theorem dX6_firstOpen_24 : decode cX6_firstOpen 24 = .ok (.iconst 0, 1) := by decide +kernel
theorem dX6_firstOpen_25 : decode cX6_firstOpen 25 = .ok (.goto 4, 3) := by decide +kernel
theorem dX6_firstOpen_28 : decode cX6_firstOpen 28 = .ok (.iconst 2, 1) := by decide +kernel
theorem dX6_firstOpen_29 : decode cX6_firstOpen 29 = .ok (.invokevirtual 83, 3) := by decide +kernel
theorem dX6_firstOpen_32 : decode cX6_firstOpen 32 = .ok (.ifCond .ne 5, 3) := by decide +kernel
theorem dX6_firstOpen_35 : decode cX6_firstOpen 35 = .ok (.iconst 0, 1) := by decide +kernel
theorem dX6_firstOpen_36 : decode cX6_firstOpen 36 = .ok (.ireturn, 1) := by decide +kernel
theorem dX6_firstOpen_37 : decode cX6_firstOpen 37 = .ok (.iconst 0, 1) := by decide +kernel
theorem dX6_firstOpen_38 : decode cX6_firstOpen 38 = .ok (.istore 4, 2) := by decide +kernel
theorem dX6_firstOpen_40 : decode cX6_firstOpen 40 = .ok (.iconst 0, 1) := by decide +kernel
theorem dX6_firstOpen_41 : decode cX6_firstOpen 41 = .ok (.istore 5, 2) := by decide +kernel
theorem dX6_firstOpen_43 : decode cX6_firstOpen 43 = .ok (.iload 5, 2) := by decide +kernel
theorem dX6_firstOpen_45 : decode cX6_firstOpen 45 = .ok (.bipush 10, 2) := by decide +kernel
theorem dX6_firstOpen_47 : decode cX6_firstOpen 47 = .ok (.if_icmp .ge 46, 3) := by decide +kernel
theorem dX6_firstOpen_50 : decode cX6_firstOpen 50 = .ok (.aload_n 0, 1) := by decide +kernel
theorem dX6_firstOpen_51 : decode cX6_firstOpen 51 = .ok (.bipush 10, 2) := by decide +kernel
theorem dX6_firstOpen_53 : decode cX6_firstOpen 53 = .ok (.iload_n 1, 1) := by decide +kernel
theorem dX6_firstOpen_54 : decode cX6_firstOpen 54 = .ok (.imul, 1) := by decide +kernel
theorem dX6_firstOpen_55 : decode cX6_firstOpen 55 = .ok (.iload 5, 2) := by decide +kernel
theorem dX6_firstOpen_57 : decode cX6_firstOpen 57 = .ok (.iadd, 1) := by decide +kernel
theorem dX6_firstOpen_58 : decode cX6_firstOpen 58 = .ok (.invokevirtual 77, 3) := by decide +kernel
theorem dX6_firstOpen_61 : decode cX6_firstOpen 61 = .ok (.ifCond .eq 10, 3) := by decide +kernel
theorem dX6_firstOpen_64 : decode cX6_firstOpen 64 = .ok (.iload 4, 2) := by decide +kernel
theorem dX6_firstOpen_66 : decode cX6_firstOpen 66 = .ok (.iconst 1, 1) := by decide +kernel
theorem dX6_firstOpen_67 : decode cX6_firstOpen 67 = .ok (.iadd, 1) := by decide +kernel
theorem dX6_firstOpen_68 : decode cX6_firstOpen 68 = .ok (.goto 4, 3) := by decide +kernel
theorem dX6_firstOpen_71 : decode cX6_firstOpen 71 = .ok (.iconst 0, 1) := by decide +kernel
theorem dX6_firstOpen_72 : decode cX6_firstOpen 72 = .ok (.istore 4, 2) := by decide +kernel
theorem dX6_firstOpen_74 : decode cX6_firstOpen 74 = .ok (.iload 4, 2) := by decide +kernel
theorem dX6_firstOpen_76 : decode cX6_firstOpen 76 = .ok (.iload_n 2, 1) := by decide +kernel
theorem dX6_firstOpen_77 : decode cX6_firstOpen 77 = .ok (.if_icmp .ne 10, 3) := by decide +kernel
theorem dX6_firstOpen_80 : decode cX6_firstOpen 80 = .ok (.iload 5, 2) := by decide +kernel
theorem dX6_firstOpen_82 : decode cX6_firstOpen 82 = .ok (.iload_n 2, 1) := by decide +kernel
theorem dX6_firstOpen_83 : decode cX6_firstOpen 83 = .ok (.isub, 1) := by decide +kernel
theorem dX6_firstOpen_84 : decode cX6_firstOpen 84 = .ok (.iconst 1, 1) := by decide +kernel
theorem dX6_firstOpen_85 : decode cX6_firstOpen 85 = .ok (.iadd, 1) := by decide +kernel
theorem dX6_firstOpen_86 : decode cX6_firstOpen 86 = .ok (.ireturn, 1) := by decide +kernel
theorem dX6_firstOpen_87 : decode cX6_firstOpen 87 = .ok (.iinc 5 1, 3) := by decide +kernel
theorem dX6_firstOpen_90 : decode cX6_firstOpen 90 = .ok (.goto (-47), 3) := by decide +kernel
theorem dX6_firstOpen_93 : decode cX6_firstOpen 93 = .ok (.iconst (-1), 1) := by decide +kernel
theorem dX6_firstOpen_94 : decode cX6_firstOpen 94 = .ok (.ireturn, 1) := by decide +kernel
set_option maxRecDepth 20000 in
theorem ggX6_offer_X6_isPerson : GoodIn wsX6_offer wsX6_isPerson := goodIn_r _ [7, 8, 9, 6, 10] (by decide +kernel) (by decide +kernel)
set_option maxRecDepth 20000 in
theorem gX6_offer_X6_isPerson : GoodIn wsX6_offer (va_wsS RX6 93 yX6_isPerson wsX6_isPerson) := goodIn_app (goodIn_of _ (by decide +kernel)) ggX6_offer_X6_isPerson
set_option maxRecDepth 20000 in
theorem ggX6_offer_X6_isSeat : GoodIn wsX6_offer wsX6_isSeat := goodIn_r _ [13, 8, 9, 6, 10] (by decide +kernel) (by decide +kernel)
set_option maxRecDepth 20000 in
theorem gX6_offer_X6_isSeat : GoodIn wsX6_offer (va_wsS RX6 139 yX6_isSeat wsX6_isSeat) := goodIn_app (goodIn_of _ (by decide +kernel)) ggX6_offer_X6_isSeat
set_option maxRecDepth 20000 in
theorem ggX6_offer_X6_in : GoodIn wsX6_offer wsX6_in := goodIn_r _ [10] (by decide +kernel) (by decide +kernel)
set_option maxRecDepth 20000 in
theorem gX6_offer_X6_in : GoodIn wsX6_offer (va_wsS RX6 66 yX6_in wsX6_in) := goodIn_app (goodIn_of _ (by decide +kernel)) ggX6_offer_X6_in
set_option maxRecDepth 20000 in
theorem ggX6_offer_X6_stateOf : GoodIn wsX6_offer wsX6_stateOf := goodIn_r _ [17, 2, 3, 18, 19, 20, 6, 21, 22, 23, 8, 9, 10, 29, 30, 31, 32, 33, 34, 35, 36, 37, 38, 39, 40, 41, 42, 43, 44, 45, 46, 47, 48, 49] (by decide +kernel) (by decide +kernel)
set_option maxRecDepth 20000 in
theorem gX6_offer_X6_stateOf : GoodIn wsX6_offer (wsV RX6 142 RX6 yX6_stateOf wsX6_stateOf) := goodIn_app (goodIn_of _ (by decide +kernel)) ggX6_offer_X6_stateOf
set_option maxRecDepth 20000 in
theorem ggX6_offer_X6_goesWell : GoodIn wsX6_offer wsX6_goesWell := goodIn_r _ [27, 28, 29, 30, 31, 32, 33, 34, 35, 36, 37, 38, 39, 40, 41, 42, 43, 44, 45, 46, 47, 48, 49] (by decide +kernel) (by decide +kernel)
set_option maxRecDepth 20000 in
theorem gX6_offer_X6_goesWell : GoodIn wsX6_offer (wsV RX6 83 RX6 yX6_goesWell wsX6_goesWell) := goodIn_app (goodIn_of _ (by decide +kernel)) ggX6_offer_X6_goesWell
theorem dX6_offer_0 : decode cX6_offer 0 = .ok (.iload_n 1, 1) := by decide +kernel
theorem dX6_offer_1 : decode cX6_offer 1 = .ok (.invokestatic 93, 3) := by decide +kernel
theorem dX6_offer_4 : decode cX6_offer 4 = .ok (.ifCond .eq 14, 3) := by decide +kernel
theorem dX6_offer_7 : decode cX6_offer 7 = .ok (.iload_n 2, 1) := by decide +kernel
theorem dX6_offer_8 : decode cX6_offer 8 = .ok (.invokestatic 139, 3) := by decide +kernel
theorem dX6_offer_11 : decode cX6_offer 11 = .ok (.ifCond .eq 7, 3) := by decide +kernel
theorem dX6_offer_14 : decode cX6_offer 14 = .ok (.iconst 1, 1) := by decide +kernel
theorem dX6_offer_15 : decode cX6_offer 15 = .ok (.goto 4, 3) := by decide +kernel
theorem dX6_offer_18 : decode cX6_offer 18 = .ok (.iconst 0, 1) := by decide +kernel
theorem dX6_offer_19 : decode cX6_offer 19 = .ok (.istore 4, 2) := by decide +kernel
theorem dX6_offer_21 : decode cX6_offer 21 = .ok (.iload_n 3, 1) := by decide +kernel
theorem dX6_offer_22 : decode cX6_offer 22 = .ok (.iconst 1, 1) := by decide +kernel
theorem dX6_offer_23 : decode cX6_offer 23 = .ok (.sipush 10000, 3) := by decide +kernel
theorem dX6_offer_26 : decode cX6_offer 26 = .ok (.invokestatic 66, 3) := by decide +kernel
theorem dX6_offer_29 : decode cX6_offer 29 = .ok (.istore 5, 2) := by decide +kernel
theorem dX6_offer_31 : decode cX6_offer 31 = .ok (.iload 4, 2) := by decide +kernel
theorem dX6_offer_33 : decode cX6_offer 33 = .ok (.ifCond .eq 18, 3) := by decide +kernel
theorem dX6_offer_36 : decode cX6_offer 36 = .ok (.aload_n 0, 1) := by decide +kernel
theorem dX6_offer_37 : decode cX6_offer 37 = .ok (.getfield 53, 3) := by decide +kernel
theorem dX6_offer_40 : decode cX6_offer 40 = .ok (.iload_n 2, 1) := by decide +kernel
theorem dX6_offer_41 : decode cX6_offer 41 = .ok (.iaload, 1) := by decide +kernel
theorem dX6_offer_42 : decode cX6_offer 42 = .ok (.bipush 11, 2) := by decide +kernel
theorem dX6_offer_44 : decode cX6_offer 44 = .ok (.imul, 1) := by decide +kernel
theorem dX6_offer_45 : decode cX6_offer 45 = .ok (.bipush 10, 2) := by decide +kernel
theorem dX6_offer_47 : decode cX6_offer 47 = .ok (.idiv, 1) := by decide +kernel
theorem dX6_offer_48 : decode cX6_offer 48 = .ok (.goto 4, 3) := by decide +kernel
theorem dX6_offer_51 : decode cX6_offer 51 = .ok (.iconst 0, 1) := by decide +kernel
theorem dX6_offer_52 : decode cX6_offer 52 = .ok (.istore 6, 2) := by decide +kernel
theorem dX6_offer_54 : decode cX6_offer 54 = .ok (.iload 4, 2) := by decide +kernel
theorem dX6_offer_56 : decode cX6_offer 56 = .ok (.ifCond .eq 37, 3) := by decide +kernel
theorem dX6_offer_59 : decode cX6_offer 59 = .ok (.iload 5, 2) := by decide +kernel
theorem dX6_offer_61 : decode cX6_offer 61 = .ok (.ifCond .eq 32, 3) := by decide +kernel
theorem dX6_offer_64 : decode cX6_offer 64 = .ok (.aload_n 0, 1) := by decide +kernel
theorem dX6_offer_65 : decode cX6_offer 65 = .ok (.iload_n 2, 1) := by decide +kernel
theorem dX6_offer_66 : decode cX6_offer 66 = .ok (.invokevirtual 142, 3) := by decide +kernel
theorem dX6_offer_69 : decode cX6_offer 69 = .ok (.iconst 2, 1) := by decide +kernel
theorem dX6_offer_70 : decode cX6_offer 70 = .ok (.if_icmp .ne 23, 3) := by decide +kernel
theorem dX6_offer_73 : decode cX6_offer 73 = .ok (.aload_n 0, 1) := by decide +kernel
theorem dX6_offer_74 : decode cX6_offer 74 = .ok (.getfield 50, 3) := by decide +kernel
theorem dX6_offer_77 : decode cX6_offer 77 = .ok (.iload_n 2, 1) := by decide +kernel
theorem dX6_offer_78 : decode cX6_offer 78 = .ok (.iaload, 1) := by decide +kernel
theorem dX6_offer_79 : decode cX6_offer 79 = .ok (.iload_n 1, 1) := by decide +kernel
theorem dX6_offer_80 : decode cX6_offer 80 = .ok (.if_icmp .ne 13, 3) := by decide +kernel
theorem dX6_offer_83 : decode cX6_offer 83 = .ok (.iload_n 3, 1) := by decide +kernel
theorem dX6_offer_84 : decode cX6_offer 84 = .ok (.iload 6, 2) := by decide +kernel
theorem dX6_offer_86 : decode cX6_offer 86 = .ok (.if_icmp .gt 7, 3) := by decide +kernel
theorem dX6_offer_89 : decode cX6_offer 89 = .ok (.iconst 1, 1) := by decide +kernel
theorem dX6_offer_90 : decode cX6_offer 90 = .ok (.goto 4, 3) := by decide +kernel
theorem dX6_offer_93 : decode cX6_offer 93 = .ok (.iconst 0, 1) := by decide +kernel
theorem dX6_offer_94 : decode cX6_offer 94 = .ok (.istore 7, 2) := by decide +kernel
theorem dX6_offer_96 : decode cX6_offer 96 = .ok (.aload_n 0, 1) := by decide +kernel
theorem dX6_offer_97 : decode cX6_offer 97 = .ok (.iload 4, 2) := by decide +kernel
theorem dX6_offer_99 : decode cX6_offer 99 = .ok (.ifCond .ne 7, 3) := by decide +kernel
theorem dX6_offer_102 : decode cX6_offer 102 = .ok (.iconst 1, 1) := by decide +kernel
theorem dX6_offer_103 : decode cX6_offer 103 = .ok (.goto 22, 3) := by decide +kernel
theorem dX6_offer_106 : decode cX6_offer 106 = .ok (.iload 5, 2) := by decide +kernel
theorem dX6_offer_108 : decode cX6_offer 108 = .ok (.ifCond .ne 7, 3) := by decide +kernel
theorem dX6_offer_111 : decode cX6_offer 111 = .ok (.iconst 2, 1) := by decide +kernel
theorem dX6_offer_112 : decode cX6_offer 112 = .ok (.goto 13, 3) := by decide +kernel
theorem dX6_offer_115 : decode cX6_offer 115 = .ok (.iload 7, 2) := by decide +kernel
theorem dX6_offer_117 : decode cX6_offer 117 = .ok (.ifCond .eq 7, 3) := by decide +kernel
theorem dX6_offer_120 : decode cX6_offer 120 = .ok (.iconst 0, 1) := by decide +kernel
theorem dX6_offer_121 : decode cX6_offer 121 = .ok (.goto 4, 3) := by decide +kernel
theorem dX6_offer_124 : decode cX6_offer 124 = .ok (.iconst 3, 1) := by decide +kernel
theorem dX6_offer_125 : decode cX6_offer 125 = .ok (.invokevirtual 83, 3) := by decide +kernel
theorem dX6_offer_128 : decode cX6_offer 128 = .ok (.ifCond .ne 5, 3) := by decide +kernel
theorem dX6_offer_131 : decode cX6_offer 131 = .ok (.iconst 0, 1) := by decide +kernel
theorem dX6_offer_132 : decode cX6_offer 132 = .ok (.ireturn, 1) := by decide +kernel
theorem dX6_offer_133 : decode cX6_offer 133 = .ok (.aload_n 0, 1) := by decide +kernel
theorem dX6_offer_134 : decode cX6_offer 134 = .ok (.getfield 56, 3) := by decide +kernel
theorem dX6_offer_137 : decode cX6_offer 137 = .ok (.iload_n 2, 1) := by decide +kernel
theorem dX6_offer_138 : decode cX6_offer 138 = .ok (.iload_n 3, 1) := by decide +kernel
theorem dX6_offer_139 : decode cX6_offer 139 = .ok (.iastore, 1) := by decide +kernel
theorem dX6_offer_140 : decode cX6_offer 140 = .ok (.iload 6, 2) := by decide +kernel
theorem dX6_offer_142 : decode cX6_offer 142 = .ok (.ireturn, 1) := by decide +kernel
set_option maxRecDepth 20000 in
theorem ggX6_retract_X6_isSeat : GoodIn wsX6_retract wsX6_isSeat := goodIn_r _ [5, 6, 7, 4, 8] (by decide +kernel) (by decide +kernel)
set_option maxRecDepth 20000 in
theorem gX6_retract_X6_isSeat : GoodIn wsX6_retract (va_wsS RX6 139 yX6_isSeat wsX6_isSeat) := goodIn_app (goodIn_of _ (by decide +kernel)) ggX6_retract_X6_isSeat
set_option maxRecDepth 20000 in
theorem ggX6_retract_X6_stateOf : GoodIn wsX6_retract wsX6_stateOf := goodIn_r _ [12, 13, 1, 14, 15, 16, 4, 17, 18, 19, 6, 7, 8, 25, 26, 27, 28, 29, 30, 31, 32, 33, 34, 35, 36, 37, 38, 39, 40, 41, 42, 43, 44, 45] (by decide +kernel) (by decide +kernel)
set_option maxRecDepth 20000 in
theorem gX6_retract_X6_stateOf : GoodIn wsX6_retract (wsV RX6 142 RX6 yX6_stateOf wsX6_stateOf) := goodIn_app (goodIn_of _ (by decide +kernel)) ggX6_retract_X6_stateOf
set_option maxRecDepth 20000 in
theorem ggX6_retract_X6_goesWell : GoodIn wsX6_retract wsX6_goesWell := goodIn_r _ [23, 24, 25, 26, 27, 28, 29, 30, 31, 32, 33, 34, 35, 36, 37, 38, 39, 40, 41, 42, 43, 44, 45] (by decide +kernel) (by decide +kernel)
set_option maxRecDepth 20000 in
theorem gX6_retract_X6_goesWell : GoodIn wsX6_retract (wsV RX6 83 RX6 yX6_goesWell wsX6_goesWell) := goodIn_app (goodIn_of _ (by decide +kernel)) ggX6_retract_X6_goesWell
theorem dX6_retract_0 : decode cX6_retract 0 = .ok (.iload_n 1, 1) := by decide +kernel
theorem dX6_retract_1 : decode cX6_retract 1 = .ok (.invokestatic 139, 3) := by decide +kernel
theorem dX6_retract_4 : decode cX6_retract 4 = .ok (.istore_n 2, 1) := by decide +kernel
theorem dX6_retract_5 : decode cX6_retract 5 = .ok (.aload_n 0, 1) := by decide +kernel
theorem dX6_retract_6 : decode cX6_retract 6 = .ok (.iload_n 2, 1) := by decide +kernel
theorem dX6_retract_7 : decode cX6_retract 7 = .ok (.ifCond .ne 7, 3) := by decide +kernel
theorem dX6_retract_10 : decode cX6_retract 10 = .ok (.iconst 1, 1) := by decide +kernel
theorem dX6_retract_11 : decode cX6_retract 11 = .ok (.goto 17, 3) := by decide +kernel
theorem dX6_retract_14 : decode cX6_retract 14 = .ok (.aload_n 0, 1) := by decide +kernel
theorem dX6_retract_15 : decode cX6_retract 15 = .ok (.iload_n 1, 1) := by decide +kernel
theorem dX6_retract_16 : decode cX6_retract 16 = .ok (.invokevirtual 142, 3) := by decide +kernel
theorem dX6_retract_19 : decode cX6_retract 19 = .ok (.iconst 3, 1) := by decide +kernel
theorem dX6_retract_20 : decode cX6_retract 20 = .ok (.if_icmp .ne 7, 3) := by decide +kernel
theorem dX6_retract_23 : decode cX6_retract 23 = .ok (.iconst 0, 1) := by decide +kernel
theorem dX6_retract_24 : decode cX6_retract 24 = .ok (.goto 4, 3) := by decide +kernel
theorem dX6_retract_27 : decode cX6_retract 27 = .ok (.iconst 2, 1) := by decide +kernel
theorem dX6_retract_28 : decode cX6_retract 28 = .ok (.invokevirtual 83, 3) := by decide +kernel
theorem dX6_retract_31 : decode cX6_retract 31 = .ok (.ifCond .ne 5, 3) := by decide +kernel
theorem dX6_retract_34 : decode cX6_retract 34 = .ok (.iconst 0, 1) := by decide +kernel
theorem dX6_retract_35 : decode cX6_retract 35 = .ok (.ireturn, 1) := by decide +kernel
theorem dX6_retract_36 : decode cX6_retract 36 = .ok (.aload_n 0, 1) := by decide +kernel
theorem dX6_retract_37 : decode cX6_retract 37 = .ok (.getfield 56, 3) := by decide +kernel
theorem dX6_retract_40 : decode cX6_retract 40 = .ok (.iload_n 1, 1) := by decide +kernel
theorem dX6_retract_41 : decode cX6_retract 41 = .ok (.iaload, 1) := by decide +kernel
theorem dX6_retract_42 : decode cX6_retract 42 = .ok (.istore_n 3, 1) := by decide +kernel
theorem dX6_retract_43 : decode cX6_retract 43 = .ok (.aload_n 0, 1) := by decide +kernel
theorem dX6_retract_44 : decode cX6_retract 44 = .ok (.getfield 56, 3) := by decide +kernel
theorem dX6_retract_47 : decode cX6_retract 47 = .ok (.iload_n 1, 1) := by decide +kernel
theorem dX6_retract_48 : decode cX6_retract 48 = .ok (.iconst (-1), 1) := by decide +kernel
theorem dX6_retract_49 : decode cX6_retract 49 = .ok (.iastore, 1) := by decide +kernel
theorem dX6_retract_50 : decode cX6_retract 50 = .ok (.iload_n 3, 1) := by decide +kernel
theorem dX6_retract_51 : decode cX6_retract 51 = .ok (.ireturn, 1) := by decide +kernel
set_option maxRecDepth 20000 in
theorem ggX6_spent_X6_isPerson : GoodIn wsX6_spent wsX6_isPerson := goodIn_r _ [5, 6, 7, 4, 8] (by decide +kernel) (by decide +kernel)
set_option maxRecDepth 20000 in
theorem gX6_spent_X6_isPerson : GoodIn wsX6_spent (va_wsS RX6 93 yX6_isPerson wsX6_isPerson) := goodIn_app (goodIn_of _ (by decide +kernel)) ggX6_spent_X6_isPerson
set_option maxRecDepth 20000 in
theorem ggX6_spent_X6_goesWell : GoodIn wsX6_spent wsX6_goesWell := goodIn_r _ [12, 13, 14, 15, 16, 17, 18, 19, 20, 21, 22, 23, 24, 25, 26, 27, 28, 29, 30, 31, 32, 33, 34] (by decide +kernel) (by decide +kernel)
set_option maxRecDepth 20000 in
theorem gX6_spent_X6_goesWell : GoodIn wsX6_spent (wsV RX6 83 RX6 yX6_goesWell wsX6_goesWell) := goodIn_app (goodIn_of _ (by decide +kernel)) ggX6_spent_X6_goesWell
theorem dX6_spent_0 : decode cX6_spent 0 = .ok (.aload_n 0, 1) := by decide +kernel
theorem dX6_spent_1 : decode cX6_spent 1 = .ok (.iload_n 1, 1) := by decide +kernel
theorem dX6_spent_2 : decode cX6_spent 2 = .ok (.invokestatic 93, 3) := by decide +kernel
theorem dX6_spent_5 : decode cX6_spent 5 = .ok (.ifCond .eq 7, 3) := by decide +kernel
theorem dX6_spent_8 : decode cX6_spent 8 = .ok (.iconst 0, 1) := by decide +kernel
theorem dX6_spent_9 : decode cX6_spent 9 = .ok (.goto 4, 3) := by decide +kernel
theorem dX6_spent_12 : decode cX6_spent 12 = .ok (.iconst 1, 1) := by decide +kernel
theorem dX6_spent_13 : decode cX6_spent 13 = .ok (.invokevirtual 83, 3) := by decide +kernel
theorem dX6_spent_16 : decode cX6_spent 16 = .ok (.ifCond .eq 12, 3) := by decide +kernel
theorem dX6_spent_19 : decode cX6_spent 19 = .ok (.aload_n 0, 1) := by decide +kernel
theorem dX6_spent_20 : decode cX6_spent 20 = .ok (.getfield 47, 3) := by decide +kernel
theorem dX6_spent_23 : decode cX6_spent 23 = .ok (.iload_n 1, 1) := by decide +kernel
theorem dX6_spent_24 : decode cX6_spent 24 = .ok (.iaload, 1) := by decide +kernel
theorem dX6_spent_25 : decode cX6_spent 25 = .ok (.goto 4, 3) := by decide +kernel
theorem dX6_spent_28 : decode cX6_spent 28 = .ok (.iconst 0, 1) := by decide +kernel
theorem dX6_spent_29 : decode cX6_spent 29 = .ok (.ireturn, 1) := by decide +kernel
theorem dX6_takings_0 : decode cX6_takings 0 = .ok (.aload_n 0, 1) := by decide +kernel
theorem dX6_takings_1 : decode cX6_takings 1 = .ok (.iconst 0, 1) := by decide +kernel
theorem dX6_takings_2 : decode cX6_takings 2 = .ok (.putfield 63, 3) := by decide +kernel
theorem dX6_takings_5 : decode cX6_takings 5 = .ok (.aload_n 0, 1) := by decide +kernel
theorem dX6_takings_6 : decode cX6_takings 6 = .ok (.getfield 133, 3) := by decide +kernel
theorem dX6_takings_9 : decode cX6_takings 9 = .ok (.ireturn, 1) := by decide +kernel
theorem dJ9_min_7cf53_0 : decode cJ9_min_7cf53 0 = .ok (.iload_n 0, 1) := by decide +kernel
theorem dJ9_min_7cf53_1 : decode cJ9_min_7cf53 1 = .ok (.iload_n 1, 1) := by decide +kernel
theorem dJ9_min_7cf53_2 : decode cJ9_min_7cf53 2 = .ok (.if_icmp .gt 7, 3) := by decide +kernel
theorem dJ9_min_7cf53_5 : decode cJ9_min_7cf53 5 = .ok (.iload_n 0, 1) := by decide +kernel
theorem dJ9_min_7cf53_6 : decode cJ9_min_7cf53 6 = .ok (.goto 4, 3) := by decide +kernel
theorem dJ9_min_7cf53_9 : decode cJ9_min_7cf53 9 = .ok (.iload_n 1, 1) := by decide +kernel
theorem dJ9_min_7cf53_10 : decode cJ9_min_7cf53 10 = .ok (.ireturn, 1) := by decide +kernel
abbrev vwCl : List vw_C := [(RX0, TX0, 4), (RX1, TX1, 7), (RX2, TX2, 1), (RX3, TX3, 4), (RX4, TX4, 5), (RX5, TX5, 9), (RX6, TX6, 21)]
end
section
/-! small rows of our own over the kit's -/
abbrev kS : Type := Nat → Nat → Int32
def setA (K : kS) (i : Nat) (g : Nat → Int32) : kS := fun a => bif Nat.beq a i then g else K a
theorem setA_eq (K : kS) (i : Nat) (g : Nat → Int32) : setA K i g i = g := by simp [setA]
theorem setA_ne (K : kS) {i j : Nat} (g : Nat → Int32) (h : j ≠ i) : setA K i g j = K j := by
  have h2 : Nat.beq j i = false := by
    cases hb : Nat.beq j i with
    | true => exact absurd (Nat.eq_of_beq_eq_true hb) h
    | false => rfl
  simp [setA, h2]
theorem setA_same (K : kS) (i : Nat) : setA K i (K i) = K := by
  funext a
  by_cases h : a = i
  · rw [h, setA_eq]
  · rw [setA_ne K (K i) h]
def zb (b : Bool) : Int32 := if b then nI 1 else nI 0
theorem zb_f {b : Bool} (h : zb b = 0) : b = false := by
  cases b with
  | false => rfl
  | true => exact absurd h (by decide)
theorem zb_t {b : Bool} (h : ¬ zb b = 0) : b = true := by
  cases b with
  | true => rfl
  | false => exact absurd (by decide) h
theorem zb_nar (b : Bool) : narrow .boolean (.int (zb b)) = .int (zb b) := by cases b <;> rfl
theorem zb_vnar (b : Bool) : vp_nar .boolean (zb b) = zb b := by cases b <;> rfl
def zcnt (b : Nat → Bool) : Nat → Nat
  | 0 => 0
  | n + 1 => if b n then zcnt b n + 1 else zcnt b n
theorem zcnt_le (b : Nat → Bool) : ∀ n, zcnt b n ≤ n
  | 0 => Nat.le_refl 0
  | n + 1 => by
    have h := zcnt_le b n
    simp only [zcnt]
    split <;> omega
def zfnd (b : Nat → Bool) (x : Nat) : Nat → Int32
  | 0 => -1
  | k + 1 => if b (x - (k + 1)) then nI (x - (k + 1)) else zfnd b x k
def zfind (b : Nat → Bool) (n : Nat) : Int32 := zfnd b n n
theorem zfnd_skip (b : Nat → Bool) (n : Nat) : ∀ i, i ≤ n → (∀ j, j < i → b j = false) → zfnd b n n = zfnd b n (n - i) := by
  intro i
  induction i with
  | zero => intro _ _; rfl
  | succ i ih =>
    intro hi h
    rw [ih (by omega) (fun j hj => h j (by omega))]
    have e : n - i = (n - (i + 1)) + 1 := by omega
    rw [e]
    have e2 : n - (n - (i + 1) + 1) = i := by omega
    simp only [zfnd, e2, h i (by omega)]
    rfl
theorem zfind_at {b : Nat → Bool} {n i : Nat} (hi : i < n) (h : ∀ j, j < i → b j = false) (hb : b i = true) : zfind b n = nI i := by
  unfold zfind
  rw [zfnd_skip b n i (by omega) h]
  have e : n - i = (n - (i + 1)) + 1 := by omega
  rw [e]
  have e2 : n - (n - (i + 1) + 1) = i := by omega
  simp only [zfnd, e2, hb]
  rfl
theorem zfind_no {b : Nat → Bool} {n : Nat} (h : ∀ j, j < n → b j = false) : zfind b n = -1 := by
  unfold zfind
  rw [zfnd_skip b n n (Nat.le_refl n) h, Nat.sub_self]
  rfl
theorem zfnd_cong {b d : Nat → Bool} (n : Nat) : ∀ k, k ≤ n → (∀ j, j < n → b j = d j) → zfnd b n k = zfnd d n k := by
  intro k
  induction k with
  | zero => intro _ _; rfl
  | succ k ih =>
    intro hk h
    simp only [zfnd]
    rw [h (n - (k + 1)) (by omega), ih (by omega) h]
theorem zfind_cong {b d : Nat → Bool} {n : Nat} (h : ∀ j, j < n → b j = d j) : zfind b n = zfind d n := zfnd_cong n n (Nat.le_refl n) h
theorem lt_succ_all {P : Nat → Prop} {i : Nat} (h : ∀ j, j < i → P j) (hi : P i) : ∀ j, j < i + 1 → P j := fun j hj => by
  rcases Nat.lt_or_ge j i with q | q
  · exact h j q
  · have e : j = i := by omega
    rw [e]; exact hi
abbrev zTy (cI cZ : ClassId) : List (ClassId × FieldType) := [(cI, .int), (cZ, .boolean)]
/-- a reader's start -/
abbrev zRd (D : va_G) (tys : List (ClassId × FieldType)) (w : va_W) : State → Prop := fun U => va_P D vwCl w U.heap ∧ va_K D vwCl tys U
theorem zRd_blind (av : List Value) (D : va_G) (tys : List (ClassId × FieldType)) (w : va_W) : FrameBlind (va_Pc av (zRd D tys w)) := fun a U g mk q => by
  obtain ⟨q0, qP, qK⟩ := q
  exact ⟨q0, qP, va_K.moved (u := U) (U := U.calling g mk a) (Vm.Alike.refl U.vm) qK⟩
/-- a writer's start and end -/
abbrev zPr (D : va_G) (tys : List (ClassId × FieldType)) (w : va_W) (sz : Nat) : State → Prop := fun U => U.heap.size = sz ∧ va_P D vwCl w U.heap ∧ va_K D vwCl tys U ∧ va_D (fun _ => True) w
abbrev zPo (D : va_G) (tys : List (ClassId × FieldType)) (A : Nat → Prop) (w : va_W) : State → Prop := fun t => va_P D vwCl w t.heap ∧ va_K D vwCl tys t ∧ va_D A w
theorem zPr_blind (av : List Value) (D : va_G) (tys : List (ClassId × FieldType)) (w : va_W) (sz : Nat) : FrameBlind (va_Pc av (zPr D tys w sz)) := fun a U g mk q => by
  obtain ⟨q0, q1, qP, qK, qD⟩ := q
  exact ⟨q0, q1, qP, va_K.moved (u := U) (U := U.calling g mk a) (Vm.Alike.refl U.vm) qK, qD⟩
theorem zTrue_blind (av : List Value) : FrameBlind (va_Pc av (fun _ => True)) := fun a U g mk q => q
section ZZ
variable {p : Program} {l : Launch} {e : Env} {R : Room} {s : State} {m : MethodId} {args : Array Value} {below : List Frame} {meth : Method} {c : Code} {H H0 : Heap} {locs : List Loc} {cells slots : Nat} {Q : State → Prop}
variable {D : va_G} {cl : List vw_C} {tys : List (ClassId × FieldType)} {ws : va_W} {a pc : Nat} {cc : ByteArray} {ls : Array Slot} {rest : List Value} {A : Nat → Prop}
theorem zz_top {x y : Int32} (h : x = y) (k : W p l e R s m args below meth c H locs cells slots Q (F0 m pc ls (.int y :: rest))) : W p l e R s m args below meth c H locs cells slots Q (F0 m pc ls (.int x :: rest)) := h ▸ k
theorem zz_iald (hexec : p.tables.exec = Jvm.exec) (hb : c.code = cc) (hK : va_K D cl tys s) (hP : va_P D cl ws H) (q0 t0 : Nat) {cA : ClassId} {n : Nat} {f : Nat → Int32} (ha : ws[q0]? = some (a, .inl (cA, n, .inl f))) (ht : tys[t0]? = some (cA, .int)) (j : Nat) (hj : j < n) (hn : n < 2 ^ 31) (hdg : decode cc pc = .ok (.iaload, 1))
    (kk : W p l e R s m args below meth c H locs cells slots Q (F0 m (pc + 1) ls (.int (f j) :: rest))) : W p l e R s m args below meth c H locs cells slots Q (F0 m pc ls (.int (nI j) :: .ref a :: rest)) := by
  refine va_iald hexec hb hK hP q0 t0 ha ht (vp_in_nI hj hn) hdg ?_
  rw [nI_clamp (by omega)]; exact kk
theorem zz_zald (hexec : p.tables.exec = Jvm.exec) (hb : c.code = cc) (hK : va_K D cl tys s) (hP : va_P D cl ws H) (q0 t0 : Nat) {cA : ClassId} {n : Nat} {f : Nat → Int32} (ha : ws[q0]? = some (a, .inl (cA, n, .inl f))) (ht : tys[t0]? = some (cA, .boolean)) (j : Nat) (hj : j < n) (hn : n < 2 ^ 31) (hdg : decode cc pc = .ok (.baload, 1))
    (kk : W p l e R s m args below meth c H locs cells slots Q (F0 m (pc + 1) ls (.int (f j) :: rest))) : W p l e R s m args below meth c H locs cells slots Q (F0 m pc ls (.int (nI j) :: .ref a :: rest)) := by
  refine va_zald hexec hb hK hP q0 t0 ha ht (vp_in_nI hj hn) hdg ?_
  rw [nI_clamp (by omega)]; exact kk
theorem zz_iast (hexec : p.tables.exec = Jvm.exec) (hb : c.code = cc) (hK : va_K D cl tys s) (hP : va_P D cl ws H) (hD : va_D A ws) (hS : va_S A H0 H locs) (q0 t0 : Nat) {cA : ClassId} {n : Nat} {f : Nat → Int32} (ha : ws[q0]? = some (a, .inl (cA, n, .inl f))) (ht : tys[t0]? = some (cA, .int)) (j : Nat) {x : Int32} (hj : j < n) (hn : n < 2 ^ 31) (hdg : decode cc pc = .ok (.iastore, 1))
    (kk : ∀ (H1 : Heap) (locs1 : List Loc), va_P D cl (ws.set q0 (a, .inl (cA, n, .inl (upd f j x)))) H1 → va_D A (ws.set q0 (a, .inl (cA, n, .inl (upd f j x)))) → va_S A H0 H1 locs1 → W p l e R s m args below meth c H1 locs1 cells slots Q (F0 m (pc + 1) ls rest)) : W p l e R s m args below meth c H locs cells slots Q (F0 m pc ls (.int x :: .int (nI j) :: .ref a :: rest)) := by
  refine va_iast hexec hb hK hP hD hS q0 t0 ha ht (vp_in_nI hj hn) hdg ?_
  rw [nI_clamp (by omega)]; exact kk
theorem zz_zast (hexec : p.tables.exec = Jvm.exec) (hb : c.code = cc) (hK : va_K D cl tys s) (hP : va_P D cl ws H) (hD : va_D A ws) (hS : va_S A H0 H locs) (q0 t0 : Nat) {cA : ClassId} {n : Nat} {f : Nat → Int32} (ha : ws[q0]? = some (a, .inl (cA, n, .inl f))) (ht : tys[t0]? = some (cA, .boolean)) (j : Nat) {x : Int32} (hv : vp_nar .boolean x = x) (hj : j < n) (hn : n < 2 ^ 31) (hdg : decode cc pc = .ok (.bastore, 1))
    (kk : ∀ (H1 : Heap) (locs1 : List Loc), va_P D cl (ws.set q0 (a, .inl (cA, n, .inl (upd f j x)))) H1 → va_D A (ws.set q0 (a, .inl (cA, n, .inl (upd f j x)))) → va_S A H0 H1 locs1 → W p l e R s m args below meth c H1 locs1 cells slots Q (F0 m (pc + 1) ls rest)) : W p l e R s m args below meth c H locs cells slots Q (F0 m pc ls (.int x :: .int (nI j) :: .ref a :: rest)) := by
  refine va_zast hexec hb hK hP hD hS q0 t0 ha ht (vp_in_nI hj hn) hdg ?_
  rw [nI_clamp (by omega), hv]; exact kk
variable {y : MethodName} {wsl Ts : List Cond} {rm : Room} {b : Addr} {As : List Value} {rv : Int32} {own C host : String} {index maxL nL n : Nat} {bytes : ByteArray} {ret : Option FieldType} {st0 : List Value} {wc wr w1 : va_W}
/-- a call that reads -/
theorem zc_rV (S : CallFix p m c cc nL s args Ts own) (hM : Met l y wsl rm (va_Pc (.ref b :: As) (zRd D tys wc)) (vp_Si (fun r => r = rv)) 0 0 (fun _ => False)) (cw : CallW R s args own C index y bytes maxL ret wsl rm 0 0 n) (hK : va_K D vwCl tys s) (hPc : va_P D vwCl wc H) {q0 ci : Nat} {q : vw_C} {fs : List Value} (hcl : vwCl[ci]? = some q) (hC : q.1 = C) (he : wc[q0]? = some (b, .inr (ci, fs)))
    (hn : As.length = n) (hsize : ls.size = nL) (hst : st0 = As.reverse ++ .ref b :: rest) (hW : (rest.map fun v => v.category).sum ≤ 8) (hdg : decode cc pc = .ok (.invokevirtual index, 3)) (hf : cells ≤ R.cells ∧ slots ≤ R.slots)
    (kk : W p l e R s m args below meth c H locs cells slots Q (F0 m (pc + 3) ls (.int rv :: rest))) : W p l e R s m args below meth c H locs cells slots Q (F0 m pc ls st0) := by
  refine vp_callSi (va_runV (g := F0 m pc ls st0) S hM cw ⟨zRd_blind _ _ _ _, by have h := va_recv hK hPc hcl he; rw [hC] at h; exact h, fun U hU hW => ⟨rfl, by rw [hU]; exact hPc, va_K.moved hW.alike hK⟩⟩ rfl hn hsize hst (lv_room hW) hdg hf).run (fun r hr => ?_)
  subst hr; exact kk
theorem zc_rVN (S : CallFix p m c cc nL s args Ts own) (hM : Met l y wsl rm (va_Pc (.ref b :: As) (zRd D tys wc)) (vp_Si (fun r => r = rv)) 0 0 (fun _ => False)) (cw : va_CN R s args own index y host bytes maxL ret wsl rm 0 0 n ∧ (Cond.instanceMethod y).before args s = true ∧ (Cond.selects C y y).before args s = true) (hK : va_K D vwCl tys s) (hPc : va_P D vwCl wc H) {q0 ci : Nat} {q : vw_C} {fs : List Value} (hcl : vwCl[ci]? = some q) (hC : q.1 = C) (he : wc[q0]? = some (b, .inr (ci, fs)))
    (hn : As.length = n) (hsize : ls.size = nL) (hst : st0 = As.reverse ++ .ref b :: rest) (hW : (rest.map fun v => v.category).sum ≤ 8) (hdg : decode cc pc = .ok (.invokevirtual index, 3)) (hf : cells ≤ R.cells ∧ slots ≤ R.slots)
    (kk : W p l e R s m args below meth c H locs cells slots Q (F0 m (pc + 3) ls (.int rv :: rest))) : W p l e R s m args below meth c H locs cells slots Q (F0 m pc ls st0) := by
  refine vp_callSi (va_runVN (g := F0 m pc ls st0) S hM cw ⟨zRd_blind _ _ _ _, by have h := va_recv hK hPc hcl he; rw [hC] at h; exact h, fun U hU hW => ⟨rfl, by rw [hU]; exact hPc, va_K.moved hW.alike hK⟩⟩ rfl hn hsize hst (lv_room hW) hdg hf).run (fun r hr => ?_)
  subst hr; exact kk
theorem zc_rS (S : CallFix p m c cc nL s args Ts own) (hM : Met l y wsl rm (va_Pc As (fun _ => True)) (vp_Si (fun r => r = rv)) 0 0 (fun _ => False)) (cw : CallB R s args own index y bytes maxL ret wsl rm 0 0 n ∧ (Cond.static y).before args s = true)
    (hn : As.length = n) (hsize : ls.size = nL) (hst : st0 = As.reverse ++ rest) (hW : (rest.map fun v => v.category).sum ≤ 8) (hdg : decode cc pc = .ok (.invokestatic index, 3)) (hf : cells ≤ R.cells ∧ slots ≤ R.slots)
    (kk : W p l e R s m args below meth c H locs cells slots Q (F0 m (pc + 3) ls (.int rv :: rest))) : W p l e R s m args below meth c H locs cells slots Q (F0 m pc ls st0) := by
  refine vp_callSi (va_runS (g := F0 m pc ls st0) S hM cw ⟨zTrue_blind _, fun U hU hW => ⟨rfl, trivial⟩⟩ rfl hn hsize hst (lv_room hW) hdg hf).run (fun r hr => ?_)
  subst hr; exact kk
/-- a call that writes, an int comes back -/
theorem zc_wVi (S : CallFix p m c cc nL s args Ts own) (hM : Met l y wsl rm (va_Pc (.ref b :: As) (zPr D tys wc H.size)) (va_Qi (fun r (_ : Unit) => r = rv) (fun _ => zPo D tys (va_A wc H.size) w1) (va_A wc H.size)) 0 0 (va_A wc H.size)) (cw : CallW R s args own C index y bytes maxL ret wsl rm 0 0 n) (hK : va_K D vwCl tys s) (hP : va_P D vwCl ws H) (hD : va_D A ws) (hS : va_S A H0 H locs) (hA : ∀ q : Nat, H0.size ≤ q → A q) (isC isR : List Nat) (hC : isC.map (fun i => ws[i]?) = wc.map some) (hC2 : isC.filterMap (fun i => ws[i]?) = wc) (hnC : va_nd isC = true) (hR : isR.map (fun i => ws[i]?) = wr.map some) (hnR : va_nd isR = true) (hdis : ∀ i ∈ isR, i ∉ isC) {q0 ci : Nat} {q : vw_C} {fs : List Value} (hcl : vwCl[ci]? = some q) (hCl : q.1 = C) (he : wc[q0]? = some (b, .inr (ci, fs)))
    (hn : As.length = n) (hsize : ls.size = nL) (hst : st0 = As.reverse ++ .ref b :: rest) (hW : (rest.map fun v => v.category).sum ≤ 8) (hdg : decode cc pc = .ok (.invokevirtual index, 3)) (hf : cells ≤ R.cells ∧ slots ≤ R.slots)
    (kk : ∀ (H1 : Heap) (locs1 : List Loc), va_P D vwCl (wr ++ w1) H1 → va_D A (wr ++ w1) → va_S A H0 H1 locs1 → W p l e R s m args below meth c H1 locs1 cells slots Q (F0 m (pc + 3) ls (.int rv :: rest))) : W p l e R s m args below meth c H locs cells slots Q (F0 m pc ls st0) := by
  have hPc := hP.sub isC hC2
  have hDc := hD.sub isC hnC hC
  have hFc := va_free (wc := wc) hD hS hA isC hC
  refine va_calli (va_runV (g := F0 m pc ls st0) S hM cw ⟨zPr_blind _ _ _ _ _, by have h := va_recv hK hPc hcl he; rw [hCl] at h; exact h, fun U hU hW => ⟨rfl, by rw [hU], by rw [hU]; exact hPc, va_K.moved hW.alike hK, hDc.weaken (fun _ _ _ _ => trivial)⟩⟩ rfl hn hsize hst (lv_room hW) hdg hf) hS (fun q _ h => hFc q h) hFc (fun r u t H1 locs1 ht hvm hw hB hz1 hk1 hS1 => ?_)
  obtain ⟨hP1, hK1, hD1⟩ := hB
  rw [ht] at hP1
  obtain ⟨hP2, hD2⟩ := va_join (wr := wr) (w1 := w1) hP hD isC isR hC hR hnR hdis hk1 hFc hP1 hD1
  subst hw
  exact kk H1 locs1 hP2 hD2 hS1
theorem zc_wVNi (S : CallFix p m c cc nL s args Ts own) (hM : Met l y wsl rm (va_Pc (.ref b :: As) (zPr D tys wc H.size)) (va_Qi (fun r (_ : Unit) => r = rv) (fun _ => zPo D tys (va_A wc H.size) w1) (va_A wc H.size)) 0 0 (va_A wc H.size)) (cw : va_CN R s args own index y host bytes maxL ret wsl rm 0 0 n ∧ (Cond.instanceMethod y).before args s = true ∧ (Cond.selects C y y).before args s = true) (hK : va_K D vwCl tys s) (hP : va_P D vwCl ws H) (hD : va_D A ws) (hS : va_S A H0 H locs) (hA : ∀ q : Nat, H0.size ≤ q → A q) (isC isR : List Nat) (hC : isC.map (fun i => ws[i]?) = wc.map some) (hC2 : isC.filterMap (fun i => ws[i]?) = wc) (hnC : va_nd isC = true) (hR : isR.map (fun i => ws[i]?) = wr.map some) (hnR : va_nd isR = true) (hdis : ∀ i ∈ isR, i ∉ isC) {q0 ci : Nat} {q : vw_C} {fs : List Value} (hcl : vwCl[ci]? = some q) (hCl : q.1 = C) (he : wc[q0]? = some (b, .inr (ci, fs)))
    (hn : As.length = n) (hsize : ls.size = nL) (hst : st0 = As.reverse ++ .ref b :: rest) (hW : (rest.map fun v => v.category).sum ≤ 8) (hdg : decode cc pc = .ok (.invokevirtual index, 3)) (hf : cells ≤ R.cells ∧ slots ≤ R.slots)
    (kk : ∀ (H1 : Heap) (locs1 : List Loc), va_P D vwCl (wr ++ w1) H1 → va_D A (wr ++ w1) → va_S A H0 H1 locs1 → W p l e R s m args below meth c H1 locs1 cells slots Q (F0 m (pc + 3) ls (.int rv :: rest))) : W p l e R s m args below meth c H locs cells slots Q (F0 m pc ls st0) := by
  have hPc := hP.sub isC hC2
  have hDc := hD.sub isC hnC hC
  have hFc := va_free (wc := wc) hD hS hA isC hC
  refine va_calli (va_runVN (g := F0 m pc ls st0) S hM cw ⟨zPr_blind _ _ _ _ _, by have h := va_recv hK hPc hcl he; rw [hCl] at h; exact h, fun U hU hW => ⟨rfl, by rw [hU], by rw [hU]; exact hPc, va_K.moved hW.alike hK, hDc.weaken (fun _ _ _ _ => trivial)⟩⟩ rfl hn hsize hst (lv_room hW) hdg hf) hS (fun q _ h => hFc q h) hFc (fun r u t H1 locs1 ht hvm hw hB hz1 hk1 hS1 => ?_)
  obtain ⟨hP1, hK1, hD1⟩ := hB
  rw [ht] at hP1
  obtain ⟨hP2, hD2⟩ := va_join (wr := wr) (w1 := w1) hP hD isC isR hC hR hnR hdis hk1 hFc hP1 hD1
  subst hw
  exact kk H1 locs1 hP2 hD2 hS1
/-- .. nothing comes back -/
theorem zc_wVv (S : CallFix p m c cc nL s args Ts own) (hM : Met l y wsl rm (va_Pc (.ref b :: As) (zPr D tys wc H.size)) (va_Qv (fun _ : Unit => True) (fun _ => zPo D tys (va_A wc H.size) w1) (va_A wc H.size)) 0 0 (va_A wc H.size)) (cw : CallW R s args own C index y bytes maxL ret wsl rm 0 0 n) (hK : va_K D vwCl tys s) (hP : va_P D vwCl ws H) (hD : va_D A ws) (hS : va_S A H0 H locs) (hA : ∀ q : Nat, H0.size ≤ q → A q) (isC isR : List Nat) (hC : isC.map (fun i => ws[i]?) = wc.map some) (hC2 : isC.filterMap (fun i => ws[i]?) = wc) (hnC : va_nd isC = true) (hR : isR.map (fun i => ws[i]?) = wr.map some) (hnR : va_nd isR = true) (hdis : ∀ i ∈ isR, i ∉ isC) {q0 ci : Nat} {q : vw_C} {fs : List Value} (hcl : vwCl[ci]? = some q) (hCl : q.1 = C) (he : wc[q0]? = some (b, .inr (ci, fs)))
    (hn : As.length = n) (hsize : ls.size = nL) (hst : st0 = As.reverse ++ .ref b :: rest) (hW : (rest.map fun v => v.category).sum ≤ 8) (hdg : decode cc pc = .ok (.invokevirtual index, 3)) (hf : cells ≤ R.cells ∧ slots ≤ R.slots)
    (kk : ∀ (H1 : Heap) (locs1 : List Loc), va_P D vwCl (wr ++ w1) H1 → va_D A (wr ++ w1) → va_S A H0 H1 locs1 → W p l e R s m args below meth c H1 locs1 cells slots Q (F0 m (pc + 3) ls rest)) : W p l e R s m args below meth c H locs cells slots Q (F0 m pc ls st0) := by
  have hPc := hP.sub isC hC2
  have hDc := hD.sub isC hnC hC
  have hFc := va_free (wc := wc) hD hS hA isC hC
  refine va_callv (va_runV (g := F0 m pc ls st0) S hM cw ⟨zPr_blind _ _ _ _ _, by have h := va_recv hK hPc hcl he; rw [hCl] at h; exact h, fun U hU hW => ⟨rfl, by rw [hU], by rw [hU]; exact hPc, va_K.moved hW.alike hK, hDc.weaken (fun _ _ _ _ => trivial)⟩⟩ rfl hn hsize hst (lv_room hW) hdg hf) hS (fun q _ h => hFc q h) hFc (fun u t H1 locs1 ht hvm hw hB hz1 hk1 hS1 => ?_)
  obtain ⟨hP1, hK1, hD1⟩ := hB
  rw [ht] at hP1
  obtain ⟨hP2, hD2⟩ := va_join (wr := wr) (w1 := w1) hP hD isC isR hC hR hnR hdis hk1 hFc hP1 hD1
  exact kk H1 locs1 hP2 hD2 hS1
theorem zc_wVNv (S : CallFix p m c cc nL s args Ts own) (hM : Met l y wsl rm (va_Pc (.ref b :: As) (zPr D tys wc H.size)) (va_Qv (fun _ : Unit => True) (fun _ => zPo D tys (va_A wc H.size) w1) (va_A wc H.size)) 0 0 (va_A wc H.size)) (cw : va_CN R s args own index y host bytes maxL ret wsl rm 0 0 n ∧ (Cond.instanceMethod y).before args s = true ∧ (Cond.selects C y y).before args s = true) (hK : va_K D vwCl tys s) (hP : va_P D vwCl ws H) (hD : va_D A ws) (hS : va_S A H0 H locs) (hA : ∀ q : Nat, H0.size ≤ q → A q) (isC isR : List Nat) (hC : isC.map (fun i => ws[i]?) = wc.map some) (hC2 : isC.filterMap (fun i => ws[i]?) = wc) (hnC : va_nd isC = true) (hR : isR.map (fun i => ws[i]?) = wr.map some) (hnR : va_nd isR = true) (hdis : ∀ i ∈ isR, i ∉ isC) {q0 ci : Nat} {q : vw_C} {fs : List Value} (hcl : vwCl[ci]? = some q) (hCl : q.1 = C) (he : wc[q0]? = some (b, .inr (ci, fs)))
    (hn : As.length = n) (hsize : ls.size = nL) (hst : st0 = As.reverse ++ .ref b :: rest) (hW : (rest.map fun v => v.category).sum ≤ 8) (hdg : decode cc pc = .ok (.invokevirtual index, 3)) (hf : cells ≤ R.cells ∧ slots ≤ R.slots)
    (kk : ∀ (H1 : Heap) (locs1 : List Loc), va_P D vwCl (wr ++ w1) H1 → va_D A (wr ++ w1) → va_S A H0 H1 locs1 → W p l e R s m args below meth c H1 locs1 cells slots Q (F0 m (pc + 3) ls rest)) : W p l e R s m args below meth c H locs cells slots Q (F0 m pc ls st0) := by
  have hPc := hP.sub isC hC2
  have hDc := hD.sub isC hnC hC
  have hFc := va_free (wc := wc) hD hS hA isC hC
  refine va_callv (va_runVN (g := F0 m pc ls st0) S hM cw ⟨zPr_blind _ _ _ _ _, by have h := va_recv hK hPc hcl he; rw [hCl] at h; exact h, fun U hU hW => ⟨rfl, by rw [hU], by rw [hU]; exact hPc, va_K.moved hW.alike hK, hDc.weaken (fun _ _ _ _ => trivial)⟩⟩ rfl hn hsize hst (lv_room hW) hdg hf) hS (fun q _ h => hFc q h) hFc (fun u t H1 locs1 ht hvm hw hB hz1 hk1 hS1 => ?_)
  obtain ⟨hP1, hK1, hD1⟩ := hB
  rw [ht] at hP1
  obtain ⟨hP2, hD2⟩ := va_join (wr := wr) (w1 := w1) hP hD isC isR hC hR hnR hdis hk1 hFc hP1 hD1
  exact kk H1 locs1 hP2 hD2 hS1
end ZZ
/-! the cells of the class -/
section KC
variable (ad : Nat → Nat) (cI cZ : ClassId) (K : kS)
abbrev kc0 : Nat × va_E := (ad 0, .inr (5, [.int (K 0 0), .int (K 0 1), .int (K 0 2), .ref (ad 1), .ref (ad 2), .ref (ad 6), .ref (ad 8), .ref (ad 16), .ref (ad 22)]))
abbrev kc1 : Nat × va_E := (ad 1, .inl (cI, 8, .inl (K 1)))
abbrev kc2 : Nat × va_E := (ad 2, .inr (0, [.int (K 2 0), .ref (ad 3), .ref (ad 4), .ref (ad 5)]))
abbrev kc3 : Nat × va_E := (ad 3, .inl (cI, 10, .inl (K 3)))
abbrev kc4 : Nat × va_E := (ad 4, .inl (cI, 10, .inl (K 4)))
abbrev kc5 : Nat × va_E := (ad 5, .inl (cI, 80, .inl (K 5)))
abbrev kc6 : Nat × va_E := (ad 6, .inr (2, [.ref (ad 7)]))
abbrev kc7 : Nat × va_E := (ad 7, .inl (cI, 8, .inl (K 7)))
abbrev kc8 : Nat × va_E := (ad 8, .inr (1, [.ref (ad 9), .ref (ad 10), .ref (ad 11), .ref (ad 12), .ref (ad 13), .ref (ad 14), .ref (ad 15)]))
abbrev kc9 : Nat × va_E := (ad 9, .inl (cI, 8, .inl (K 9)))
abbrev kc10 : Nat × va_E := (ad 10, .inl (cI, 8, .inl (K 10)))
abbrev kc11 : Nat × va_E := (ad 11, .inl (cI, 8, .inl (K 11)))
abbrev kc12 : Nat × va_E := (ad 12, .inl (cI, 8, .inl (K 12)))
abbrev kc13 : Nat × va_E := (ad 13, .inl (cI, 8, .inl (K 13)))
abbrev kc14 : Nat × va_E := (ad 14, .inl (cI, 8, .inl (K 14)))
abbrev kc15 : Nat × va_E := (ad 15, .inl (cI, 8, .inl (K 15)))
abbrev kc16 : Nat × va_E := (ad 16, .inr (4, [.ref (ad 17), .ref (ad 18), .ref (ad 19), .ref (ad 20), .ref (ad 21)]))
abbrev kc17 : Nat × va_E := (ad 17, .inl (cZ, 60, .inl (K 17)))
abbrev kc18 : Nat × va_E := (ad 18, .inl (cZ, 60, .inl (K 18)))
abbrev kc19 : Nat × va_E := (ad 19, .inl (cI, 60, .inl (K 19)))
abbrev kc20 : Nat × va_E := (ad 20, .inl (cI, 60, .inl (K 20)))
abbrev kc21 : Nat × va_E := (ad 21, .inl (cI, 60, .inl (K 21)))
abbrev kc22 : Nat × va_E := (ad 22, .inr (3, [.int (K 22 0), .ref (ad 23), .ref (ad 24), .ref (ad 25)]))
abbrev kc23 : Nat × va_E := (ad 23, .inl (cI, 170, .inl (K 23)))
abbrev kc24 : Nat × va_E := (ad 24, .inl (cI, 170, .inl (K 24)))
abbrev kc25 : Nat × va_E := (ad 25, .inl (cI, 170, .inl (K 25)))
abbrev kwC : va_W := [kc2 ad K, kc3 ad cI K, kc4 ad cI K, kc5 ad cI K]
abbrev kwL : va_W := [kc6 ad, kc7 ad cI K]
abbrev kwH : va_W := [kc8 ad, kc9 ad cI K, kc10 ad cI K, kc11 ad cI K, kc12 ad cI K, kc13 ad cI K, kc14 ad cI K, kc15 ad cI K]
abbrev kwS : va_W := [kc16 ad, kc17 ad cZ K, kc18 ad cZ K, kc19 ad cI K, kc20 ad cI K, kc21 ad cI K]
abbrev kwT : va_W := [kc22 ad K, kc23 ad cI K, kc24 ad cI K, kc25 ad cI K]
abbrev kwA : va_W := [kc0 ad K, kc1 ad cI K, kc2 ad K, kc3 ad cI K, kc4 ad cI K, kc5 ad cI K, kc6 ad, kc7 ad cI K, kc8 ad, kc9 ad cI K, kc10 ad cI K, kc11 ad cI K, kc12 ad cI K, kc13 ad cI K, kc14 ad cI K, kc15 ad cI K, kc16 ad, kc17 ad cZ K, kc18 ad cZ K, kc19 ad cI K, kc20 ad cI K, kc21 ad cI K, kc22 ad K, kc23 ad cI K, kc24 ad cI K, kc25 ad cI K]
end KC
end
section
/-! what the small classes do, in pure words: K holds all arrays of the class by their cells -/
def zsm (g : Nat → Int32) : Nat → Int32
  | 0 => nI 0
  | n + 1 => zsm g n + g n
def zfill (g : Nat → Int32) (f k : Nat) (v : Int32) : Nat → Int32 := fun j => if f ≤ j ∧ j < f + k then v else g j
theorem zfill_0 (g : Nat → Int32) (f : Nat) (v : Int32) : zfill g f 0 v = g := by
  funext j
  simp only [zfill]
  rw [if_neg (by omega)]
theorem zfill_s (g : Nat → Int32) (f k : Nat) (v : Int32) : upd (zfill g f k v) (f + k) v = zfill g f (k + 1) v := by
  funext j
  simp only [zfill, upd]
  by_cases h : j = f + k
  · rw [if_pos h, if_pos (by omega)]
  · rw [if_neg h]
    by_cases h2 : f ≤ j ∧ j < f + k
    · rw [if_pos h2, if_pos (by omega)]
    · rw [if_neg h2, if_neg (by omega)]
theorem zn_of {x : Int32} {n : Nat} (hn : n < 2 ^ 31) (h1 : ¬ x < 0) (h2 : x < nI n) : ∃ q, q < n ∧ x = nI q ∧ x.toNatClampNeg = q := by
  obtain ⟨j, hj, e⟩ := nI_of h1
  subst e
  exact ⟨j, (nI_ltI hj hn).mp h2, rfl, nI_clamp hj⟩
def zmate (p : Nat) : Nat := if p % 2 = 0 then p + 1 else p - 1
theorem zmate_x : ∀ p, p < 8 → nI p ^^^ nI 1 = nI (zmate p) := by decide +kernel
theorem zmate_lt : ∀ p, p < 8 → zmate p < 8 := by decide +kernel
-- the queue
def lIsIn (K : kS) (p : Nat) : Bool := decide (¬ K 7 p = (-1))
def zrem (x y : Int32) : Int32 := x - x / y * y
def lRank (K : kS) (p : Nat) : Int32 := nI 8 * K 7 p + ((nI (5 * p)) + (nI 3 * K 7 p) - ((nI (5 * p)) + (nI 3 * K 7 p)) / nI 8 * nI 8)
def lPlace (K : kS) (p : Nat) : Nat := zcnt (fun j => lIsIn K j && decide (¬ lRank K p ≤ lRank K j)) 8
def lLen (K : kS) : Nat := zcnt (fun j => lIsIn K j) 8
def lAt (K : kS) (x : Int32) : Int32 := zfind (fun j => lIsIn K j && decide (nI (lPlace K j) = x)) 8
def kEnter (K : kS) (p : Nat) (x : Int32) : kS := setA K 7 (upd (K 7) p x)
def kLeave (K : kS) (p : Nat) : kS := setA K 7 (upd (K 7) p (-1))
-- the holds
def hThere (K : kS) (p : Nat) : Bool := decide (¬ K 10 p ≤ 0)
def hLeft (K : kS) (p : Nat) : Int32 := K 12 p - K 13 p
def kMake (K : kS) (p f m : Nat) (c w n : Int32) : kS := setA (setA (setA (setA (setA (setA (setA K 9 (upd (K 9) p (nI f))) 10 (upd (K 10) p (nI m))) 11 (upd (K 11) p c)) 12 (upd (K 12) p w)) 13 (upd (K 13) p (nI 0))) 14 (upd (K 14) p (n + nI 30))) 15 (upd (K 15) p (n + nI 10))
def kProl (K : kS) (p : Nat) : kS := setA K 15 (upd (K 15) p (if K 14 p < K 15 p + nI 5 then K 14 p else K 15 p + nI 5))
def kEnd (K : kS) (p : Nat) : kS := setA K 10 (upd (K 10) p (nI 0))
-- the codes
def kCode (K : kS) (n : Nat) (a b : Int32) : kS := setA (setA (setA K 3 (upd (K 3) n a)) 4 (upd (K 4) n b)) 2 (upd (K 2) 0 (nI (n + 1)))
def cOf (K : kS) (c p : Nat) : Int32 := K 5 (8 * c + p)
def cRoom (K : kS) (c p : Nat) (m : Int32) : Bool := decide (¬ K 3 c < cOf K c p + m) && decide (¬ K 4 c < cOf K c p + m + cOf K c (zmate p))
def kTally (K : kS) (c : Int32) (p : Nat) (m : Int32) : kS := setA K 5 (if c = (-1) then K 5 else upd (K 5) (8 * c.toNatClampNeg + p) (K 5 (8 * c.toNatClampNeg + p) + m))
-- the sales
def kSale (K : kS) (n : Nat) (a b c : Int32) : kS := setA (setA (setA (setA K 23 (upd (K 23) n a)) 24 (upd (K 24) n b)) 25 (upd (K 25) n c)) 22 (upd (K 22) 0 (nI (n + 1)))
def tLast (K : kS) (x : Int32) : Nat → Int32
  | 0 => -1
  | i + 1 => if x < K 23 i then tLast K x i else if K 23 i + K 24 i ≤ x then tLast K x i else K 25 i
-- the seats
def sState (K : kS) (s : Nat) : Int32 := if K 17 s = 0 then (if K 19 s = (-1) then nI 0 else if K 18 s = 0 then nI 2 else nI 3) else nI 1
def sOpen (K : kS) (r : Nat) (x : Int32) : Bool := if x < 0 then false else if x < nI 10 then decide (sState K (10 * r + x.toNatClampNeg) = 0) || decide (sState K (10 * r + x.toNatClampNeg) = nI 3) else false
def sLeaves (K : kS) (r q m : Nat) : Bool := (sOpen K r (nI q - nI 1) && !sOpen K r (nI q - nI 2)) || (sOpen K r (nI (q + m)) && !sOpen K r (nI (q + m + 1)))
def kLock (K : kS) (f m : Nat) : kS := setA K 17 (zfill (K 17) f m (nI 1))
def kUnlock (K : kS) (f m : Nat) : kS := setA K 17 (zfill (K 17) f m (nI 0))
def kGive (K : kS) (s : Nat) (p : Int32) : kS := setA (setA (setA (setA K 17 (upd (K 17) s (nI 0))) 18 (upd (K 18) s (nI 0))) 19 (upd (K 19) s p)) 21 (upd (K 21) s (K 20 s))
def sCeil (K : kS) (s : Nat) : Int32 := K 21 s * nI 11 / nI 10
def kPut (K : kS) (s : Nat) (x : Int32) : kS := setA (setA K 18 (upd (K 18) s (nI 1))) 20 (upd (K 20) s x)
end
section
set_option maxHeartbeats 4000000 in
set_option maxRecDepth 100000 in
theorem kX2_isIn (l : Launch) (D : va_G) (cI cZ : ClassId) (ad : Nat → Nat) (K : kS) (p : Nat) (hp : p < 8) : Met l yX2_isIn wsX2_isIn ({ frames := 0, cells := 0, slots := 0, locals := 0 }) (va_Pc [.ref (ad 6), .int (nI p)] (zRd D (zTy cI cZ) (kwL ad cI K))) (vp_Si (fun r => r = zb (lIsIn K p))) 0 0 (fun _ => False) := by
  refine Met.ofW (cc := cX2_isIn) (maxL := 2) (ret := (some .boolean)) (by decide) rfl ?_
  intro pP e s m args below meth c s₁ B hml hv
  obtain ⟨rfl, hP, hK⟩ := hv
  have hx := B.exec
  have hb := B.bytes
  have hr := B.returns
  have hts := atoms_spec (ws := wsX2_isIn) B.pre
  have hown : s.vm.findClass RX2 = some m.cls := findClass_of_methodNamed B.named
  have hlocks := B.notSynchronized
  have hinX2 : ∀ w ∈ u_ws RX2 TX2 1, w ∈ wsX2_isIn := by decide +kernel
  have hl := lv_entry ([.ref (ad 6), .int (nI p)]) (n := 2) (Nat.le_of_ble_eq_true rfl)
  rw [lg_entry_eq]
  generalize (lg_sl ([.ref (ad 6), .int (nI p)]) ++ List.replicate (2 - (lg_sl ([.ref (ad 6), .int (nI p)])).length) Slot.unset).toArray = ls at hl ⊢
  have hl : lv_has ls 2 [(0, .ref (ad 6)), (1, .int (nI p))] := hl
  refine lv_aload_n hx hb dX2_isIn_0 rfl (lv_at hl 0 rfl) ?_
  refine va_get (D := D) (ci := 2) (v := .ref (ad 7)) (C := RX2) (T := TX2) (N := 1) hx hb hts hinX2 hown hK hP 0 rfl rfl 0 (by decide) (hts (.fieldLink RX2 9 "AuditoriumKeys$Line" "came" "[I") (List.mem_of_getElem? (i := 1) rfl)) (fun _ h9 => h9) rfl dX2_isIn_1 ?_
  refine lv_iload_n hx hb dX2_isIn_4 rfl (lv_at hl 1 rfl) ?_
  refine zz_iald hx hb hK hP 1 0 rfl rfl p (by omega) (by decide) dX2_isIn_5 ?_
  refine lv_iconst (v := (-1)) hx hb dX2_isIn_6 (by decide) ?_
  refine lv_icmp_eq (tgt := 14) hx hb dX2_isIn_7 (by decide) (fun c_1 => ?_) (fun c_1 => ?_)
  · skip
    have c_1 : K 7 p = (-1) := c_1
    refine lv_iconst (v := nI 0) hx hb dX2_isIn_14 (by decide) ?_
    exact W.zret (v := nI 0) hx hb hr rfl (fun t ht hW => ⟨_, rfl, (by simp [lIsIn, zb, eq_true c_1]), ht⟩) (fun _ h => nomatch h) dX2_isIn_15
  · skip
    have c_1 : ¬ K 7 p = (-1) := c_1
    refine lv_iconst (v := nI 1) hx hb dX2_isIn_10 (by decide) ?_
    refine lv_goto (tgt := 15) hx hb dX2_isIn_11 (by decide) ?_
    exact W.zret (v := nI 1) hx hb hr rfl (fun t ht hW => ⟨_, rfl, (by simp [lIsIn, zb, c_1]), ht⟩) (fun _ h => nomatch h) dX2_isIn_15
set_option maxHeartbeats 4000000 in
set_option maxRecDepth 100000 in
theorem kX2_rank (l : Launch) (D : va_G) (cI cZ : ClassId) (ad : Nat → Nat) (K : kS) (p : Nat) (hp : p < 8) : Met l yX2_rank wsX2_rank ({ frames := 0, cells := 0, slots := 0, locals := 0 }) (va_Pc [.ref (ad 6), .int (nI p)] (zRd D (zTy cI cZ) (kwL ad cI K))) (vp_Si (fun r => r = lRank K p)) 0 0 (fun _ => False) := by
  refine Met.ofW (cc := cX2_rank) (maxL := 3) (ret := (some .int)) (by decide) rfl ?_
  intro pP e s m args below meth c s₁ B hml hv
  obtain ⟨rfl, hP, hK⟩ := hv
  have hx := B.exec
  have hb := B.bytes
  have hr := B.returns
  have hts := atoms_spec (ws := wsX2_rank) B.pre
  have hown : s.vm.findClass RX2 = some m.cls := findClass_of_methodNamed B.named
  have hlocks := B.notSynchronized
  have hinX2 : ∀ w ∈ u_ws RX2 TX2 1, w ∈ wsX2_rank := by decide +kernel
  have hl := lv_entry ([.ref (ad 6), .int (nI p)]) (n := 3) (Nat.le_of_ble_eq_true rfl)
  rw [lg_entry_eq]
  generalize (lg_sl ([.ref (ad 6), .int (nI p)]) ++ List.replicate (3 - (lg_sl ([.ref (ad 6), .int (nI p)])).length) Slot.unset).toArray = ls at hl ⊢
  have hl : lv_has ls 3 [(0, .ref (ad 6)), (1, .int (nI p))] := hl
  refine lv_aload_n hx hb dX2_rank_0 rfl (lv_at hl 0 rfl) ?_
  refine va_get (D := D) (ci := 2) (v := .ref (ad 7)) (C := RX2) (T := TX2) (N := 1) hx hb hts hinX2 hown hK hP 0 rfl rfl 0 (by decide) (hts (.fieldLink RX2 9 "AuditoriumKeys$Line" "came" "[I") (List.mem_of_getElem? (i := 1) rfl)) (fun _ h9 => h9) rfl dX2_rank_1 ?_
  refine lv_iload_n hx hb dX2_rank_4 rfl (lv_at hl 1 rfl) ?_
  refine zz_iald hx hb hK hP 1 0 rfl rfl p (by omega) (by decide) dX2_rank_5 ?_
  refine lv_istore_n (lv' := [(2, .int (K 7 p)), (0, .ref (ad 6)), (1, .int (nI p))]) hx hb dX2_rank_6 rfl hl (by decide) rfl (fun ls hl => ?_)
  refine lv_bipush (v := nI 8) hx hb dX2_rank_7 (by decide) ?_
  refine lv_iload_n hx hb dX2_rank_9 rfl (lv_at hl 0 rfl) ?_
  refine lv_imul hx hb dX2_rank_10 ?_
  refine lv_iconst (v := nI 5) hx hb dX2_rank_11 (by decide) ?_
  refine lv_iload_n hx hb dX2_rank_12 rfl (lv_at hl 2 rfl) ?_
  refine lv_imul hx hb dX2_rank_13 ?_
  refine zz_top (y := nI (5 * p)) ((pk_mul 5 p).trans (congrArg nI (by first | rfl | omega | exact Nat.mul_comm _ _))) ?_
  refine lv_iconst (v := nI 3) hx hb dX2_rank_14 (by decide) ?_
  refine lv_iload_n hx hb dX2_rank_15 rfl (lv_at hl 0 rfl) ?_
  refine lv_imul hx hb dX2_rank_16 ?_
  refine lv_iadd hx hb dX2_rank_17 ?_
  refine lv_bipush (v := nI 8) hx hb dX2_rank_18 (by decide) ?_
  refine lv_irem hx hb dX2_rank_20 (by decide) ?_
  refine lv_iadd hx hb dX2_rank_21 ?_
  exact W.iret (v := ((nI 8) * (K 7 p)) + (((nI (5 * p)) + ((nI 3) * (K 7 p))) - ((nI (5 * p)) + ((nI 3) * (K 7 p))) / (nI 8) * (nI 8))) hx hb hr (fun t ht hW => ⟨_, rfl, rfl, ht⟩) (fun _ h => nomatch h) dX2_rank_22
set_option maxHeartbeats 4000000 in
set_option maxRecDepth 100000 in
theorem kX2_length (l : Launch) (D : va_G) (cI cZ : ClassId) (ad : Nat → Nat) (K : kS)   : Met l yX2_length wsX2_length ({ frames := 1, cells := 0, slots := 0, locals := 21 }) (va_Pc [.ref (ad 6)] (zRd D (zTy cI cZ) (kwL ad cI K))) (vp_Si (fun r => r = nI (lLen K))) 0 0 (fun _ => False) := by
  refine Met.ofW (cc := cX2_length) (maxL := 3) (ret := (some .int)) (by decide) rfl ?_
  intro pP e s m args below meth c s₁ B hml hv
  obtain ⟨rfl, hP, hK⟩ := hv
  have hx := B.exec
  have hb := B.bytes
  have hr := B.returns
  have hts := atoms_spec (ws := wsX2_length) B.pre
  have hown : s.vm.findClass RX2 = some m.cls := findClass_of_methodNamed B.named
  have hlocks := B.notSynchronized
  have hl := lv_entry ([.ref (ad 6)]) (n := 3) (Nat.le_of_ble_eq_true rfl)
  rw [lg_entry_eq]
  generalize (lg_sl ([.ref (ad 6)]) ++ List.replicate (3 - (lg_sl ([.ref (ad 6)])).length) Slot.unset).toArray = ls at hl ⊢
  have hl : lv_has ls 3 [(0, .ref (ad 6))] := hl
  refine lv_iconst (v := nI 0) hx hb dX2_length_0 (by decide) ?_
  refine lv_istore_n (lv' := [(1, .int (nI 0)), (0, .ref (ad 6))]) hx hb dX2_length_1 rfl hl (by decide) rfl (fun ls hl => ?_)
  refine lv_iconst (v := nI 0) hx hb dX2_length_2 (by decide) ?_
  refine lv_istore_n (lv' := [(2, .int (nI 0)), (1, .int (nI 0)), (0, .ref (ad 6))]) hx hb dX2_length_3 rfl hl (by decide) rfl (fun ls hl => ?_)
  have lp_a : ∀ (n i : Nat), 0 ≤ i → i ≤ 8 → 8 - i < n → ∀ ls : Array Slot, lv_has ls 3 [(2, .int (nI i)), (1, .int (nI (zcnt (fun j => lIsIn K j) i))), (0, .ref (ad 6))] → W pP l e ({ frames := 1, cells := 0, slots := 0, locals := 21 } : Room) s m ([.ref (ad 6)] : List Value).toArray below meth c s.heap [] 0 0 (MQ below (vp_Si (fun r => r = nI (lLen K))) ([.ref (ad 6)] : List Value).toArray s 0 0 (fun _ => False)) (F0 m 4 ls []) := by
    intro n
    induction n with
    | zero => intro i _ _ h; exact absurd h (Nat.not_lt_zero _)
    | succ n ih_a =>
      intro i hlo_a hin_a hdn_a  ls hl
      refine lv_iload_n hx hb dX2_length_4 rfl (lv_at hl 0 rfl) ?_
      refine lv_bipush (v := nI 8) hx hb dX2_length_5 (by decide) ?_
      refine lv_icmp_ge (tgt := 27) hx hb dX2_length_7 (by decide) (fun c_1 => ?_) (fun c_1 => ?_)
      · skip
        have c_1 := (nI_leI (a := 8) (b := i) (by omega) (by omega)).mp c_1
        have hi8 : i = 8 := by omega
        refine lv_iload_n hx hb dX2_length_27 rfl (lv_at hl 1 rfl) ?_
        exact W.iret (v := nI (zcnt (fun j => lIsIn K j) i)) hx hb hr (fun t ht hW => ⟨_, rfl, (by rw [hi8]; rfl), ht⟩) (fun _ h => nomatch h) dX2_length_28
      · skip
        have c_1 : ¬ 8 ≤ i := fun h => c_1 ((nI_leI (a := 8) (b := i) (by omega) (by omega)).mpr h)
        refine lv_aload_n hx hb dX2_length_10 rfl (lv_at hl 2 rfl) ?_
        refine lv_iload_n hx hb dX2_length_11 rfl (lv_at hl 0 rfl) ?_
        refine zc_rV (As := [.int (nI i)]) (rest := []) ⟨hx, hb, hml, hown, hts⟩ (kX2_isIn l D cI cZ ad K i (by omega)) (cwV 1 hts gX2_length_X2_isIn rfl rfl rfl (by decide +kernel) ⟨(Nat.le_of_ble_eq_true rfl), (Nat.le_of_ble_eq_true rfl)⟩) hK hP (ci := 2) (q0 := 0) rfl rfl rfl rfl hl.1 rfl (Nat.le_of_ble_eq_true rfl) dX2_length_12 ⟨Nat.zero_le _, Nat.zero_le _⟩ ?_
        refine lv_if_eq (tgt := 21) hx hb dX2_length_15 (by decide) (fun c_2 => ?_) (fun c_2 => ?_)
        · skip
          have c_2 := zb_f c_2
          refine lv_iinc (v := nI (i + 1)) (lv' := [(2, .int (nI (i + 1))), (1, .int (nI (zcnt (fun j => lIsIn K j) i))), (0, .ref (ad 6))]) hx hb dX2_length_21 hl (k := 0) rfl ((show nI i + Int32.ofInt 1 = nI i + nI 1 from rfl).trans (nI_add _ _)) (by decide) rfl (fun ls hl => ?_)
          refine lv_goto (tgt := 4) hx hb dX2_length_24 (by decide) ?_
          have es_3 : nI (zcnt (fun j => lIsIn K j) (i + 1)) = nI (zcnt (fun j => lIsIn K j) i) := (by simp [zcnt, c_2])
          exact ih_a (i + 1) (by omega) (by omega) (by omega)  ls (by rw [es_3]; exact lv_sub hl [0, 1, 2] rfl)
        · skip
          have c_2 := zb_t c_2
          refine lv_iinc (v := nI ((zcnt (fun j => lIsIn K j) i) + 1)) (lv' := [(1, .int (nI ((zcnt (fun j => lIsIn K j) i) + 1))), (2, .int (nI i)), (0, .ref (ad 6))]) hx hb dX2_length_18 hl (k := 1) rfl ((show nI (zcnt (fun j => lIsIn K j) i) + Int32.ofInt 1 = nI (zcnt (fun j => lIsIn K j) i) + nI 1 from rfl).trans (nI_add _ _)) (by decide) rfl (fun ls hl => ?_)
          refine lv_iinc (v := nI (i + 1)) (lv' := [(2, .int (nI (i + 1))), (1, .int (nI ((zcnt (fun j => lIsIn K j) i) + 1))), (0, .ref (ad 6))]) hx hb dX2_length_21 hl (k := 1) rfl ((show nI i + Int32.ofInt 1 = nI i + nI 1 from rfl).trans (nI_add _ _)) (by decide) rfl (fun ls hl => ?_)
          refine lv_goto (tgt := 4) hx hb dX2_length_24 (by decide) ?_
          have es_4 : nI (zcnt (fun j => lIsIn K j) (i + 1)) = nI ((zcnt (fun j => lIsIn K j) i) + 1) := (by simp [zcnt, c_2])
          exact ih_a (i + 1) (by omega) (by omega) (by omega)  ls (by rw [es_4]; exact lv_sub hl [0, 1, 2] rfl)
  have ei_a_1 : nI (zcnt (fun j => lIsIn K j) 0) = nI 0 := rfl
  exact lp_a (8 - 0 + 1) 0 (by omega) (by omega) (by omega)  ls (by rw [ei_a_1]; exact lv_sub hl [0, 1, 2] rfl)
set_option maxHeartbeats 4000000 in
set_option maxRecDepth 100000 in
theorem kX2_placeOf (l : Launch) (D : va_G) (cI cZ : ClassId) (ad : Nat → Nat) (K : kS) (p : Nat) (hp : p < 8) : Met l yX2_placeOf wsX2_placeOf ({ frames := 1, cells := 0, slots := 0, locals := 22 }) (va_Pc [.ref (ad 6), .int (nI p)] (zRd D (zTy cI cZ) (kwL ad cI K))) (vp_Si (fun r => r = nI (lPlace K p))) 0 0 (fun _ => False) := by
  refine Met.ofW (cc := cX2_placeOf) (maxL := 4) (ret := (some .int)) (by decide) rfl ?_
  intro pP e s m args below meth c s₁ B hml hv
  obtain ⟨rfl, hP, hK⟩ := hv
  have hx := B.exec
  have hb := B.bytes
  have hr := B.returns
  have hts := atoms_spec (ws := wsX2_placeOf) B.pre
  have hown : s.vm.findClass RX2 = some m.cls := findClass_of_methodNamed B.named
  have hlocks := B.notSynchronized
  have hl := lv_entry ([.ref (ad 6), .int (nI p)]) (n := 4) (Nat.le_of_ble_eq_true rfl)
  rw [lg_entry_eq]
  generalize (lg_sl ([.ref (ad 6), .int (nI p)]) ++ List.replicate (4 - (lg_sl ([.ref (ad 6), .int (nI p)])).length) Slot.unset).toArray = ls at hl ⊢
  have hl : lv_has ls 4 [(0, .ref (ad 6)), (1, .int (nI p))] := hl
  refine lv_iconst (v := nI 0) hx hb dX2_placeOf_0 (by decide) ?_
  refine lv_istore_n (lv' := [(2, .int (nI 0)), (0, .ref (ad 6)), (1, .int (nI p))]) hx hb dX2_placeOf_1 rfl hl (by decide) rfl (fun ls hl => ?_)
  refine lv_iconst (v := nI 0) hx hb dX2_placeOf_2 (by decide) ?_
  refine lv_istore_n (lv' := [(3, .int (nI 0)), (2, .int (nI 0)), (0, .ref (ad 6)), (1, .int (nI p))]) hx hb dX2_placeOf_3 rfl hl (by decide) rfl (fun ls hl => ?_)
  have lp_a : ∀ (n i : Nat), 0 ≤ i → i ≤ 8 → 8 - i < n → ∀ ls : Array Slot, lv_has ls 4 [(3, .int (nI i)), (2, .int (nI (zcnt (fun j => lIsIn K j && decide (¬ lRank K p ≤ lRank K j)) i))), (0, .ref (ad 6)), (1, .int (nI p))] → W pP l e ({ frames := 1, cells := 0, slots := 0, locals := 22 } : Room) s m ([.ref (ad 6), .int (nI p)] : List Value).toArray below meth c s.heap [] 0 0 (MQ below (vp_Si (fun r => r = nI (lPlace K p))) ([.ref (ad 6), .int (nI p)] : List Value).toArray s 0 0 (fun _ => False)) (F0 m 4 ls []) := by
    intro n
    induction n with
    | zero => intro i _ _ h; exact absurd h (Nat.not_lt_zero _)
    | succ n ih_a =>
      intro i hlo_a hin_a hdn_a  ls hl
      refine lv_iload_n hx hb dX2_placeOf_4 rfl (lv_at hl 0 rfl) ?_
      refine lv_bipush (v := nI 8) hx hb dX2_placeOf_5 (by decide) ?_
      refine lv_icmp_ge (tgt := 40) hx hb dX2_placeOf_7 (by decide) (fun c_1 => ?_) (fun c_1 => ?_)
      · skip
        have c_1 := (nI_leI (a := 8) (b := i) (by omega) (by omega)).mp c_1
        have hi8 : i = 8 := by omega
        refine lv_iload_n hx hb dX2_placeOf_40 rfl (lv_at hl 1 rfl) ?_
        exact W.iret (v := nI (zcnt (fun j => lIsIn K j && decide (¬ lRank K p ≤ lRank K j)) i)) hx hb hr (fun t ht hW => ⟨_, rfl, (by rw [hi8]; rfl), ht⟩) (fun _ h => nomatch h) dX2_placeOf_41
      · skip
        have c_1 : ¬ 8 ≤ i := fun h => c_1 ((nI_leI (a := 8) (b := i) (by omega) (by omega)).mpr h)
        refine lv_aload_n hx hb dX2_placeOf_10 rfl (lv_at hl 2 rfl) ?_
        refine lv_iload_n hx hb dX2_placeOf_11 rfl (lv_at hl 0 rfl) ?_
        refine zc_rV (As := [.int (nI i)]) (rest := []) ⟨hx, hb, hml, hown, hts⟩ (kX2_isIn l D cI cZ ad K i (by omega)) (cwV 1 hts gX2_placeOf_X2_isIn rfl rfl rfl (by decide +kernel) ⟨(Nat.le_of_ble_eq_true rfl), (Nat.le_of_ble_eq_true rfl)⟩) hK hP (ci := 2) (q0 := 0) rfl rfl rfl rfl hl.1 rfl (Nat.le_of_ble_eq_true rfl) dX2_placeOf_12 ⟨Nat.zero_le _, Nat.zero_le _⟩ ?_
        refine lv_if_eq (tgt := 34) hx hb dX2_placeOf_15 (by decide) (fun c_2 => ?_) (fun c_2 => ?_)
        · skip
          have c_2 := zb_f c_2
          refine lv_iinc (v := nI (i + 1)) (lv' := [(3, .int (nI (i + 1))), (2, .int (nI (zcnt (fun j => lIsIn K j && decide (¬ lRank K p ≤ lRank K j)) i))), (0, .ref (ad 6)), (1, .int (nI p))]) hx hb dX2_placeOf_34 hl (k := 0) rfl ((show nI i + Int32.ofInt 1 = nI i + nI 1 from rfl).trans (nI_add _ _)) (by decide) rfl (fun ls hl => ?_)
          refine lv_goto (tgt := 4) hx hb dX2_placeOf_37 (by decide) ?_
          have es_3 : nI (zcnt (fun j => lIsIn K j && decide (¬ lRank K p ≤ lRank K j)) (i + 1)) = nI (zcnt (fun j => lIsIn K j && decide (¬ lRank K p ≤ lRank K j)) i) := (by simp [zcnt, c_1, c_2])
          exact ih_a (i + 1) (by omega) (by omega) (by omega)  ls (by rw [es_3]; exact lv_sub hl [0, 1, 2, 3] rfl)
        · skip
          have c_2 := zb_t c_2
          refine lv_aload_n hx hb dX2_placeOf_18 rfl (lv_at hl 2 rfl) ?_
          refine lv_iload_n hx hb dX2_placeOf_19 rfl (lv_at hl 0 rfl) ?_
          refine zc_rV (As := [.int (nI i)]) (rest := []) ⟨hx, hb, hml, hown, hts⟩ (kX2_rank l D cI cZ ad K i (by omega)) (cwV 1 hts gX2_placeOf_X2_rank rfl rfl rfl (by decide +kernel) ⟨(Nat.le_of_ble_eq_true rfl), (Nat.le_of_ble_eq_true rfl)⟩) hK hP (ci := 2) (q0 := 0) rfl rfl rfl rfl hl.1 rfl (Nat.le_of_ble_eq_true rfl) dX2_placeOf_20 ⟨Nat.zero_le _, Nat.zero_le _⟩ ?_
          refine lv_aload_n hx hb dX2_placeOf_23 rfl (lv_at hl 2 rfl) ?_
          refine lv_iload_n hx hb dX2_placeOf_24 rfl (lv_at hl 3 rfl) ?_
          refine zc_rV (As := [.int (nI p)]) (rest := [.int (lRank K i)]) ⟨hx, hb, hml, hown, hts⟩ (kX2_rank l D cI cZ ad K p (by omega)) (cwV 1 hts gX2_placeOf_X2_rank rfl rfl rfl (by decide +kernel) ⟨(Nat.le_of_ble_eq_true rfl), (Nat.le_of_ble_eq_true rfl)⟩) hK hP (ci := 2) (q0 := 0) rfl rfl rfl rfl hl.1 rfl (Nat.le_of_ble_eq_true rfl) dX2_placeOf_25 ⟨Nat.zero_le _, Nat.zero_le _⟩ ?_
          refine lv_icmp_ge (tgt := 34) hx hb dX2_placeOf_28 (by decide) (fun c_4 => ?_) (fun c_4 => ?_)
          · skip
            have c_4 : lRank K p ≤ lRank K i := c_4
            refine lv_iinc (v := nI (i + 1)) (lv' := [(3, .int (nI (i + 1))), (2, .int (nI (zcnt (fun j => lIsIn K j && decide (¬ lRank K p ≤ lRank K j)) i))), (0, .ref (ad 6)), (1, .int (nI p))]) hx hb dX2_placeOf_34 hl (k := 0) rfl ((show nI i + Int32.ofInt 1 = nI i + nI 1 from rfl).trans (nI_add _ _)) (by decide) rfl (fun ls hl => ?_)
            refine lv_goto (tgt := 4) hx hb dX2_placeOf_37 (by decide) ?_
            have es_5 : nI (zcnt (fun j => lIsIn K j && decide (¬ lRank K p ≤ lRank K j)) (i + 1)) = nI (zcnt (fun j => lIsIn K j && decide (¬ lRank K p ≤ lRank K j)) i) := (by simp [zcnt, c_1, c_2, c_4])
            exact ih_a (i + 1) (by omega) (by omega) (by omega)  ls (by rw [es_5]; exact lv_sub hl [0, 1, 2, 3] rfl)
          · skip
            have c_4 : ¬ lRank K p ≤ lRank K i := c_4
            refine lv_iinc (v := nI ((zcnt (fun j => lIsIn K j && decide (¬ lRank K p ≤ lRank K j)) i) + 1)) (lv' := [(2, .int (nI ((zcnt (fun j => lIsIn K j && decide (¬ lRank K p ≤ lRank K j)) i) + 1))), (3, .int (nI i)), (0, .ref (ad 6)), (1, .int (nI p))]) hx hb dX2_placeOf_31 hl (k := 1) rfl ((show nI (zcnt (fun j => lIsIn K j && decide (¬ lRank K p ≤ lRank K j)) i) + Int32.ofInt 1 = nI (zcnt (fun j => lIsIn K j && decide (¬ lRank K p ≤ lRank K j)) i) + nI 1 from rfl).trans (nI_add _ _)) (by decide) rfl (fun ls hl => ?_)
            refine lv_iinc (v := nI (i + 1)) (lv' := [(3, .int (nI (i + 1))), (2, .int (nI ((zcnt (fun j => lIsIn K j && decide (¬ lRank K p ≤ lRank K j)) i) + 1))), (0, .ref (ad 6)), (1, .int (nI p))]) hx hb dX2_placeOf_34 hl (k := 1) rfl ((show nI i + Int32.ofInt 1 = nI i + nI 1 from rfl).trans (nI_add _ _)) (by decide) rfl (fun ls hl => ?_)
            refine lv_goto (tgt := 4) hx hb dX2_placeOf_37 (by decide) ?_
            have es_6 : nI (zcnt (fun j => lIsIn K j && decide (¬ lRank K p ≤ lRank K j)) (i + 1)) = nI ((zcnt (fun j => lIsIn K j && decide (¬ lRank K p ≤ lRank K j)) i) + 1) := (by simp [zcnt, c_1, c_2, c_4])
            exact ih_a (i + 1) (by omega) (by omega) (by omega)  ls (by rw [es_6]; exact lv_sub hl [0, 1, 2, 3] rfl)
  have ei_a_2 : nI (zcnt (fun j => lIsIn K j && decide (¬ lRank K p ≤ lRank K j)) 0) = nI 0 := rfl
  exact lp_a (8 - 0 + 1) 0 (by omega) (by omega) (by omega)  ls (by rw [ei_a_2]; exact lv_sub hl [0, 1, 2, 3] rfl)
set_option maxHeartbeats 4000000 in
set_option maxRecDepth 100000 in
theorem kX2_personAt (l : Launch) (D : va_G) (cI cZ : ClassId) (ad : Nat → Nat) (K : kS) (x : Int32)  : Met l yX2_personAt wsX2_personAt ({ frames := 2, cells := 0, slots := 0, locals := 45 }) (va_Pc [.ref (ad 6), .int x] (zRd D (zTy cI cZ) (kwL ad cI K))) (vp_Si (fun r => r = lAt K x)) 0 0 (fun _ => False) := by
  refine Met.ofW (cc := cX2_personAt) (maxL := 3) (ret := (some .int)) (by decide) rfl ?_
  intro pP e s m args below meth c s₁ B hml hv
  obtain ⟨rfl, hP, hK⟩ := hv
  have hx := B.exec
  have hb := B.bytes
  have hr := B.returns
  have hts := atoms_spec (ws := wsX2_personAt) B.pre
  have hown : s.vm.findClass RX2 = some m.cls := findClass_of_methodNamed B.named
  have hlocks := B.notSynchronized
  have hl := lv_entry ([.ref (ad 6), .int x]) (n := 3) (Nat.le_of_ble_eq_true rfl)
  rw [lg_entry_eq]
  generalize (lg_sl ([.ref (ad 6), .int x]) ++ List.replicate (3 - (lg_sl ([.ref (ad 6), .int x])).length) Slot.unset).toArray = ls at hl ⊢
  have hl : lv_has ls 3 [(0, .ref (ad 6)), (1, .int x)] := hl
  refine lv_iconst (v := nI 0) hx hb dX2_personAt_0 (by decide) ?_
  refine lv_istore_n (lv' := [(2, .int (nI 0)), (0, .ref (ad 6)), (1, .int x)]) hx hb dX2_personAt_1 rfl hl (by decide) rfl (fun ls hl => ?_)
  have lp_a : ∀ (n i : Nat), 0 ≤ i → i ≤ 8 → 8 - i < n → (∀ j, j < i → (lIsIn K j && decide (nI (lPlace K j) = x)) = false) → ∀ ls : Array Slot, lv_has ls 3 [(2, .int (nI i)), (0, .ref (ad 6)), (1, .int x)] → W pP l e ({ frames := 2, cells := 0, slots := 0, locals := 45 } : Room) s m ([.ref (ad 6), .int x] : List Value).toArray below meth c s.heap [] 0 0 (MQ below (vp_Si (fun r => r = lAt K x)) ([.ref (ad 6), .int x] : List Value).toArray s 0 0 (fun _ => False)) (F0 m 2 ls []) := by
    intro n
    induction n with
    | zero => intro i _ _ h; exact absurd h (Nat.not_lt_zero _)
    | succ n ih_a =>
      intro i hlo_a hin_a hdn_a hno ls hl
      refine lv_iload_n hx hb dX2_personAt_2 rfl (lv_at hl 0 rfl) ?_
      refine lv_bipush (v := nI 8) hx hb dX2_personAt_3 (by decide) ?_
      refine lv_icmp_ge (tgt := 33) hx hb dX2_personAt_5 (by decide) (fun c_1 => ?_) (fun c_1 => ?_)
      · skip
        have c_1 := (nI_leI (a := 8) (b := i) (by omega) (by omega)).mp c_1
        have hi8 : i = 8 := by omega
        refine lv_iconst (v := (-1)) hx hb dX2_personAt_33 (by decide) ?_
        exact W.iret (v := (-1)) hx hb hr (fun t ht hW => ⟨_, rfl, (by rw [hi8] at hno; exact (zfind_no hno).symm), ht⟩) (fun _ h => nomatch h) dX2_personAt_34
      · skip
        have c_1 : ¬ 8 ≤ i := fun h => c_1 ((nI_leI (a := 8) (b := i) (by omega) (by omega)).mpr h)
        refine lv_aload_n hx hb dX2_personAt_8 rfl (lv_at hl 1 rfl) ?_
        refine lv_iload_n hx hb dX2_personAt_9 rfl (lv_at hl 0 rfl) ?_
        refine zc_rV (As := [.int (nI i)]) (rest := []) ⟨hx, hb, hml, hown, hts⟩ (kX2_isIn l D cI cZ ad K i (by omega)) (cwV 1 hts gX2_personAt_X2_isIn rfl rfl rfl (by decide +kernel) ⟨(Nat.le_of_ble_eq_true rfl), (Nat.le_of_ble_eq_true rfl)⟩) hK hP (ci := 2) (q0 := 0) rfl rfl rfl rfl hl.1 rfl (Nat.le_of_ble_eq_true rfl) dX2_personAt_10 ⟨Nat.zero_le _, Nat.zero_le _⟩ ?_
        refine lv_if_eq (tgt := 27) hx hb dX2_personAt_13 (by decide) (fun c_2 => ?_) (fun c_2 => ?_)
        · skip
          have c_2 := zb_f c_2
          refine lv_iinc (v := nI (i + 1)) (lv' := [(2, .int (nI (i + 1))), (0, .ref (ad 6)), (1, .int x)]) hx hb dX2_personAt_27 hl (k := 0) rfl ((show nI i + Int32.ofInt 1 = nI i + nI 1 from rfl).trans (nI_add _ _)) (by decide) rfl (fun ls hl => ?_)
          refine lv_goto (tgt := 2) hx hb dX2_personAt_30 (by decide) ?_
          exact ih_a (i + 1) (by omega) (by omega) (by omega) (lt_succ_all hno (by simp [c_1, c_2])) ls (lv_sub hl [0, 1, 2] rfl)
        · skip
          have c_2 := zb_t c_2
          refine lv_aload_n hx hb dX2_personAt_16 rfl (lv_at hl 1 rfl) ?_
          refine lv_iload_n hx hb dX2_personAt_17 rfl (lv_at hl 0 rfl) ?_
          refine zc_rV (As := [.int (nI i)]) (rest := []) ⟨hx, hb, hml, hown, hts⟩ (kX2_placeOf l D cI cZ ad K i (by omega)) (cwV 1 hts gX2_personAt_X2_placeOf rfl rfl rfl (by decide +kernel) ⟨(Nat.le_of_ble_eq_true rfl), (Nat.le_of_ble_eq_true rfl)⟩) hK hP (ci := 2) (q0 := 0) rfl rfl rfl rfl hl.1 rfl (Nat.le_of_ble_eq_true rfl) dX2_personAt_18 ⟨Nat.zero_le _, Nat.zero_le _⟩ ?_
          refine lv_iload_n hx hb dX2_personAt_21 rfl (lv_at hl 2 rfl) ?_
          refine lv_icmp_ne (tgt := 27) hx hb dX2_personAt_22 (by decide) (fun c_3 => ?_) (fun c_3 => ?_)
          · skip
            have c_3 : ¬ nI (lPlace K i) = x := c_3
            refine lv_iinc (v := nI (i + 1)) (lv' := [(2, .int (nI (i + 1))), (0, .ref (ad 6)), (1, .int x)]) hx hb dX2_personAt_27 hl (k := 0) rfl ((show nI i + Int32.ofInt 1 = nI i + nI 1 from rfl).trans (nI_add _ _)) (by decide) rfl (fun ls hl => ?_)
            refine lv_goto (tgt := 2) hx hb dX2_personAt_30 (by decide) ?_
            exact ih_a (i + 1) (by omega) (by omega) (by omega) (lt_succ_all hno (by simp [c_1, c_2, c_3])) ls (lv_sub hl [0, 1, 2] rfl)
          · skip
            have c_3 : nI (lPlace K i) = x := c_3
            refine lv_iload_n hx hb dX2_personAt_25 rfl (lv_at hl 0 rfl) ?_
            exact W.iret (v := nI i) hx hb hr (fun t ht hW => ⟨_, rfl, (zfind_at (by omega) hno (by simp [c_1, c_2, eq_true c_3])).symm, ht⟩) (fun _ h => nomatch h) dX2_personAt_26
  exact lp_a (8 - 0 + 1) 0 (by omega) (by omega) (by omega) (fun j hj => absurd hj (Nat.not_lt_zero j)) ls (lv_sub hl [0, 1, 2] rfl)
set_option maxHeartbeats 4000000 in
set_option maxRecDepth 100000 in
theorem kX2_enter (l : Launch) (D : va_G) (cI cZ : ClassId) (ad : Nat → Nat) (K : kS) (sz : Nat) (p : Nat) (x : Int32) (hp : p < 8) : Met l yX2_enter wsX2_enter ({ frames := 0, cells := 0, slots := 0, locals := 0 }) (va_Pc [.ref (ad 6), .int (nI p), .int x] (zPr D (zTy cI cZ) (kwL ad cI K) sz)) (va_Qv (fun _ : Unit => True) (fun _ => zPo D (zTy cI cZ) (va_A (kwL ad cI K) sz) (kwL ad cI (kEnter K p x))) (va_A (kwL ad cI K) sz)) 0 0 (va_A (kwL ad cI K) sz) := by
  refine Met.ofW (cc := cX2_enter) (maxL := 3) (ret := none) (by decide) rfl ?_
  intro pP e s m args below meth c s₁ B hml hv
  obtain ⟨rfl, hsz, hP, hK, hD0⟩ := hv
  have hx := B.exec
  have hb := B.bytes
  have hr := B.returns
  have hts := atoms_spec (ws := wsX2_enter) B.pre
  have hown : s.vm.findClass RX2 = some m.cls := findClass_of_methodNamed B.named
  have hlocks := B.notSynchronized
  subst hsz
  have hD := hD0.self (sz := s.heap.size)
  generalize hAe : va_A (kwL ad cI K) s.heap.size = A at hD ⊢
  have hA : ∀ q : Nat, s.heap.size ≤ q → A q := fun q h => by rw [← hAe]; exact Or.inr h
  have hS : va_S A s.heap s.heap [] := va_S.rf
  have hinX2 : ∀ w ∈ u_ws RX2 TX2 1, w ∈ wsX2_enter := by decide +kernel
  have hl := lv_entry ([.ref (ad 6), .int (nI p), .int x]) (n := 3) (Nat.le_of_ble_eq_true rfl)
  rw [lg_entry_eq]
  generalize (lg_sl ([.ref (ad 6), .int (nI p), .int x]) ++ List.replicate (3 - (lg_sl ([.ref (ad 6), .int (nI p), .int x])).length) Slot.unset).toArray = ls at hl ⊢
  have hl : lv_has ls 3 [(0, .ref (ad 6)), (1, .int (nI p)), (2, .int x)] := hl
  refine lv_aload_n hx hb dX2_enter_0 rfl (lv_at hl 0 rfl) ?_
  refine va_get (D := D) (ci := 2) (v := .ref (ad 7)) (C := RX2) (T := TX2) (N := 1) hx hb hts hinX2 hown hK hP 0 rfl rfl 0 (by decide) (hts (.fieldLink RX2 9 "AuditoriumKeys$Line" "came" "[I") (List.mem_of_getElem? (i := 1) rfl)) (fun _ h9 => h9) rfl dX2_enter_1 ?_
  refine lv_iload_n hx hb dX2_enter_4 rfl (lv_at hl 1 rfl) ?_
  refine lv_iload_n hx hb dX2_enter_5 rfl (lv_at hl 2 rfl) ?_
  refine zz_iast hx hb hK hP hD hS 1 0 rfl rfl p (by omega) (by decide) dX2_enter_6 (fun H locs hP hD hS => ?_)
  have hP : va_P D vwCl (kwL ad cI (setA K 7 (upd (K 7) p x))) _ := hP
  have hD : va_D A (kwL ad cI (setA K 7 (upd (K 7) p x))) := hD
  have eK9 : (kEnter K p x) = (setA K 7 (upd (K 7) p x)) := rfl
  have hP9 := hP
  have hD9 := hD
  rw [← eK9] at hP9 hD9
  exact W.vret hx hb hr (fun t ht hW => ⟨⟨(), rfl, trivial, by rw [ht]; exact hP9, va_K.moved hW.alike hK, hD9⟩, hS.F ht⟩) hS.2.2 dX2_enter_7
set_option maxHeartbeats 4000000 in
set_option maxRecDepth 100000 in
theorem kX2_leave (l : Launch) (D : va_G) (cI cZ : ClassId) (ad : Nat → Nat) (K : kS) (sz : Nat) (p : Nat) (hp : p < 8) : Met l yX2_leave wsX2_leave ({ frames := 0, cells := 0, slots := 0, locals := 0 }) (va_Pc [.ref (ad 6), .int (nI p)] (zPr D (zTy cI cZ) (kwL ad cI K) sz)) (va_Qv (fun _ : Unit => True) (fun _ => zPo D (zTy cI cZ) (va_A (kwL ad cI K) sz) (kwL ad cI (kLeave K p))) (va_A (kwL ad cI K) sz)) 0 0 (va_A (kwL ad cI K) sz) := by
  refine Met.ofW (cc := cX2_leave) (maxL := 2) (ret := none) (by decide) rfl ?_
  intro pP e s m args below meth c s₁ B hml hv
  obtain ⟨rfl, hsz, hP, hK, hD0⟩ := hv
  have hx := B.exec
  have hb := B.bytes
  have hr := B.returns
  have hts := atoms_spec (ws := wsX2_leave) B.pre
  have hown : s.vm.findClass RX2 = some m.cls := findClass_of_methodNamed B.named
  have hlocks := B.notSynchronized
  subst hsz
  have hD := hD0.self (sz := s.heap.size)
  generalize hAe : va_A (kwL ad cI K) s.heap.size = A at hD ⊢
  have hA : ∀ q : Nat, s.heap.size ≤ q → A q := fun q h => by rw [← hAe]; exact Or.inr h
  have hS : va_S A s.heap s.heap [] := va_S.rf
  have hinX2 : ∀ w ∈ u_ws RX2 TX2 1, w ∈ wsX2_leave := by decide +kernel
  have hl := lv_entry ([.ref (ad 6), .int (nI p)]) (n := 2) (Nat.le_of_ble_eq_true rfl)
  rw [lg_entry_eq]
  generalize (lg_sl ([.ref (ad 6), .int (nI p)]) ++ List.replicate (2 - (lg_sl ([.ref (ad 6), .int (nI p)])).length) Slot.unset).toArray = ls at hl ⊢
  have hl : lv_has ls 2 [(0, .ref (ad 6)), (1, .int (nI p))] := hl
  refine lv_aload_n hx hb dX2_leave_0 rfl (lv_at hl 0 rfl) ?_
  refine va_get (D := D) (ci := 2) (v := .ref (ad 7)) (C := RX2) (T := TX2) (N := 1) hx hb hts hinX2 hown hK hP 0 rfl rfl 0 (by decide) (hts (.fieldLink RX2 9 "AuditoriumKeys$Line" "came" "[I") (List.mem_of_getElem? (i := 1) rfl)) (fun _ h9 => h9) rfl dX2_leave_1 ?_
  refine lv_iload_n hx hb dX2_leave_4 rfl (lv_at hl 1 rfl) ?_
  refine lv_iconst (v := (-1)) hx hb dX2_leave_5 (by decide) ?_
  refine zz_iast hx hb hK hP hD hS 1 0 rfl rfl p (by omega) (by decide) dX2_leave_6 (fun H locs hP hD hS => ?_)
  have hP : va_P D vwCl (kwL ad cI (setA K 7 (upd (K 7) p (-1)))) _ := hP
  have hD : va_D A (kwL ad cI (setA K 7 (upd (K 7) p (-1)))) := hD
  have eK9 : (kLeave K p) = (setA K 7 (upd (K 7) p (-1))) := rfl
  have hP9 := hP
  have hD9 := hD
  rw [← eK9] at hP9 hD9
  exact W.vret hx hb hr (fun t ht hW => ⟨⟨(), rfl, trivial, by rw [ht]; exact hP9, va_K.moved hW.alike hK, hD9⟩, hS.F ht⟩) hS.2.2 dX2_leave_7
set_option maxHeartbeats 4000000 in
set_option maxRecDepth 100000 in
theorem kX1_isThere (l : Launch) (D : va_G) (cI cZ : ClassId) (ad : Nat → Nat) (K : kS) (p : Nat) (hp : p < 8) : Met l yX1_isThere wsX1_isThere ({ frames := 0, cells := 0, slots := 0, locals := 0 }) (va_Pc [.ref (ad 8), .int (nI p)] (zRd D (zTy cI cZ) (kwH ad cI K))) (vp_Si (fun r => r = zb (hThere K p))) 0 0 (fun _ => False) := by
  refine Met.ofW (cc := cX1_isThere) (maxL := 2) (ret := (some .boolean)) (by decide) rfl ?_
  intro pP e s m args below meth c s₁ B hml hv
  obtain ⟨rfl, hP, hK⟩ := hv
  have hx := B.exec
  have hb := B.bytes
  have hr := B.returns
  have hts := atoms_spec (ws := wsX1_isThere) B.pre
  have hown : s.vm.findClass RX1 = some m.cls := findClass_of_methodNamed B.named
  have hlocks := B.notSynchronized
  have hinX1 : ∀ w ∈ u_ws RX1 TX1 7, w ∈ wsX1_isThere := by decide +kernel
  have hl := lv_entry ([.ref (ad 8), .int (nI p)]) (n := 2) (Nat.le_of_ble_eq_true rfl)
  rw [lg_entry_eq]
  generalize (lg_sl ([.ref (ad 8), .int (nI p)]) ++ List.replicate (2 - (lg_sl ([.ref (ad 8), .int (nI p)])).length) Slot.unset).toArray = ls at hl ⊢
  have hl : lv_has ls 2 [(0, .ref (ad 8)), (1, .int (nI p))] := hl
  refine lv_aload_n hx hb dX1_isThere_0 rfl (lv_at hl 0 rfl) ?_
  refine va_get (D := D) (ci := 1) (v := .ref (ad 10)) (C := RX1) (T := TX1) (N := 7) hx hb hts hinX1 hown hK hP 0 rfl rfl 1 (by decide) (hts (.fieldLink RX1 15 "AuditoriumKeys$Holds" "many" "[I") (List.mem_of_getElem? (i := 1) rfl)) (fun _ h9 => h9) rfl dX1_isThere_1 ?_
  refine lv_iload_n hx hb dX1_isThere_4 rfl (lv_at hl 1 rfl) ?_
  refine zz_iald hx hb hK hP 2 0 rfl rfl p (by omega) (by decide) dX1_isThere_5 ?_
  refine lv_if_le (tgt := 13) hx hb dX1_isThere_6 (by decide) (fun c_1 => ?_) (fun c_1 => ?_)
  · skip
    have c_1 : K 10 p ≤ 0 := c_1
    refine lv_iconst (v := nI 0) hx hb dX1_isThere_13 (by decide) ?_
    exact W.zret (v := nI 0) hx hb hr rfl (fun t ht hW => ⟨_, rfl, (by simp [hThere, zb, c_1]), ht⟩) (fun _ h => nomatch h) dX1_isThere_14
  · skip
    have c_1 : ¬ K 10 p ≤ 0 := c_1
    refine lv_iconst (v := nI 1) hx hb dX1_isThere_9 (by decide) ?_
    refine lv_goto (tgt := 14) hx hb dX1_isThere_10 (by decide) ?_
    exact W.zret (v := nI 1) hx hb hr rfl (fun t ht hW => ⟨_, rfl, (by simp [hThere, zb, c_1]), ht⟩) (fun _ h => nomatch h) dX1_isThere_14
set_option maxHeartbeats 4000000 in
set_option maxRecDepth 100000 in
theorem kX1_left (l : Launch) (D : va_G) (cI cZ : ClassId) (ad : Nat → Nat) (K : kS) (p : Nat) (hp : p < 8) : Met l yX1_left wsX1_left ({ frames := 0, cells := 0, slots := 0, locals := 0 }) (va_Pc [.ref (ad 8), .int (nI p)] (zRd D (zTy cI cZ) (kwH ad cI K))) (vp_Si (fun r => r = hLeft K p)) 0 0 (fun _ => False) := by
  refine Met.ofW (cc := cX1_left) (maxL := 2) (ret := (some .int)) (by decide) rfl ?_
  intro pP e s m args below meth c s₁ B hml hv
  obtain ⟨rfl, hP, hK⟩ := hv
  have hx := B.exec
  have hb := B.bytes
  have hr := B.returns
  have hts := atoms_spec (ws := wsX1_left) B.pre
  have hown : s.vm.findClass RX1 = some m.cls := findClass_of_methodNamed B.named
  have hlocks := B.notSynchronized
  have hinX1 : ∀ w ∈ u_ws RX1 TX1 7, w ∈ wsX1_left := by decide +kernel
  have hl := lv_entry ([.ref (ad 8), .int (nI p)]) (n := 2) (Nat.le_of_ble_eq_true rfl)
  rw [lg_entry_eq]
  generalize (lg_sl ([.ref (ad 8), .int (nI p)]) ++ List.replicate (2 - (lg_sl ([.ref (ad 8), .int (nI p)])).length) Slot.unset).toArray = ls at hl ⊢
  have hl : lv_has ls 2 [(0, .ref (ad 8)), (1, .int (nI p))] := hl
  refine lv_aload_n hx hb dX1_left_0 rfl (lv_at hl 0 rfl) ?_
  refine va_get (D := D) (ci := 1) (v := .ref (ad 12)) (C := RX1) (T := TX1) (N := 7) hx hb hts hinX1 hown hK hP 0 rfl rfl 3 (by decide) (hts (.fieldLink RX1 21 "AuditoriumKeys$Holds" "cost" "[I") (List.mem_of_getElem? (i := 1) rfl)) (fun _ h9 => h9) rfl dX1_left_1 ?_
  refine lv_iload_n hx hb dX1_left_4 rfl (lv_at hl 1 rfl) ?_
  refine zz_iald hx hb hK hP 4 0 rfl rfl p (by omega) (by decide) dX1_left_5 ?_
  refine lv_aload_n hx hb dX1_left_6 rfl (lv_at hl 0 rfl) ?_
  refine va_get (D := D) (ci := 1) (v := .ref (ad 13)) (C := RX1) (T := TX1) (N := 7) hx hb hts hinX1 hown hK hP 0 rfl rfl 4 (by decide) (hts (.fieldLink RX1 24 "AuditoriumKeys$Holds" "paid" "[I") (List.mem_of_getElem? (i := 2) rfl)) (fun _ h9 => h9) rfl dX1_left_7 ?_
  refine lv_iload_n hx hb dX1_left_10 rfl (lv_at hl 1 rfl) ?_
  refine zz_iald hx hb hK hP 5 0 rfl rfl p (by omega) (by decide) dX1_left_11 ?_
  refine lv_isub hx hb dX1_left_12 ?_
  exact W.iret (v := (K 12 p) - (K 13 p)) hx hb hr (fun t ht hW => ⟨_, rfl, rfl, ht⟩) (fun _ h => nomatch h) dX1_left_13
set_option maxHeartbeats 4000000 in
set_option maxRecDepth 100000 in
theorem kX1_make (l : Launch) (D : va_G) (cI cZ : ClassId) (ad : Nat → Nat) (K : kS) (sz : Nat) (p : Nat) (f : Nat) (m9 : Nat) (c9 : Int32) (w9 : Int32) (n9 : Int32) (hp : p < 8) : Met l yX1_make wsX1_make ({ frames := 0, cells := 0, slots := 0, locals := 0 }) (va_Pc [.ref (ad 8), .int (nI p), .int (nI f), .int (nI m9), .int c9, .int w9, .int n9] (zPr D (zTy cI cZ) (kwH ad cI K) sz)) (va_Qv (fun _ : Unit => True) (fun _ => zPo D (zTy cI cZ) (va_A (kwH ad cI K) sz) (kwH ad cI (kMake K p f m9 c9 w9 n9))) (va_A (kwH ad cI K) sz)) 0 0 (va_A (kwH ad cI K) sz) := by
  refine Met.ofW (cc := cX1_make) (maxL := 7) (ret := none) (by decide) rfl ?_
  intro pP e s m args below meth c s₁ B hml hv
  obtain ⟨rfl, hsz, hP, hK, hD0⟩ := hv
  have hx := B.exec
  have hb := B.bytes
  have hr := B.returns
  have hts := atoms_spec (ws := wsX1_make) B.pre
  have hown : s.vm.findClass RX1 = some m.cls := findClass_of_methodNamed B.named
  have hlocks := B.notSynchronized
  subst hsz
  have hD := hD0.self (sz := s.heap.size)
  generalize hAe : va_A (kwH ad cI K) s.heap.size = A at hD ⊢
  have hA : ∀ q : Nat, s.heap.size ≤ q → A q := fun q h => by rw [← hAe]; exact Or.inr h
  have hS : va_S A s.heap s.heap [] := va_S.rf
  have hinX1 : ∀ w ∈ u_ws RX1 TX1 7, w ∈ wsX1_make := by decide +kernel
  have hl := lv_entry ([.ref (ad 8), .int (nI p), .int (nI f), .int (nI m9), .int c9, .int w9, .int n9]) (n := 7) (Nat.le_of_ble_eq_true rfl)
  rw [lg_entry_eq]
  generalize (lg_sl ([.ref (ad 8), .int (nI p), .int (nI f), .int (nI m9), .int c9, .int w9, .int n9]) ++ List.replicate (7 - (lg_sl ([.ref (ad 8), .int (nI p), .int (nI f), .int (nI m9), .int c9, .int w9, .int n9])).length) Slot.unset).toArray = ls at hl ⊢
  have hl : lv_has ls 7 [(0, .ref (ad 8)), (1, .int (nI p)), (2, .int (nI f)), (3, .int (nI m9)), (4, .int c9), (5, .int w9), (6, .int n9)] := hl
  refine lv_aload_n hx hb dX1_make_0 rfl (lv_at hl 0 rfl) ?_
  refine va_get (D := D) (ci := 1) (v := .ref (ad 9)) (C := RX1) (T := TX1) (N := 7) hx hb hts hinX1 hown hK hP 0 rfl rfl 0 (by decide) (hts (.fieldLink RX1 9 "AuditoriumKeys$Holds" "first" "[I") (List.mem_of_getElem? (i := 1) rfl)) (fun _ h9 => h9) rfl dX1_make_1 ?_
  refine lv_iload_n hx hb dX1_make_4 rfl (lv_at hl 1 rfl) ?_
  refine lv_iload_n hx hb dX1_make_5 rfl (lv_at hl 2 rfl) ?_
  refine zz_iast hx hb hK hP hD hS 1 0 rfl rfl p (by omega) (by decide) dX1_make_6 (fun H locs hP hD hS => ?_)
  have hP : va_P D vwCl (kwH ad cI (setA K 9 (upd (K 9) p (nI f)))) _ := hP
  have hD : va_D A (kwH ad cI (setA K 9 (upd (K 9) p (nI f)))) := hD
  refine lv_aload_n hx hb dX1_make_7 rfl (lv_at hl 0 rfl) ?_
  refine va_get (D := D) (ci := 1) (v := .ref (ad 10)) (C := RX1) (T := TX1) (N := 7) hx hb hts hinX1 hown hK hP 0 rfl rfl 1 (by decide) (hts (.fieldLink RX1 15 "AuditoriumKeys$Holds" "many" "[I") (List.mem_of_getElem? (i := 2) rfl)) (fun _ h9 => h9) rfl dX1_make_8 ?_
  refine lv_iload_n hx hb dX1_make_11 rfl (lv_at hl 1 rfl) ?_
  refine lv_iload_n hx hb dX1_make_12 rfl (lv_at hl 3 rfl) ?_
  refine zz_iast hx hb hK hP hD hS 2 0 rfl rfl p (by omega) (by decide) dX1_make_13 (fun H locs hP hD hS => ?_)
  have hP : va_P D vwCl (kwH ad cI (setA (setA K 9 (upd (K 9) p (nI f))) 10 (upd (K 10) p (nI m9)))) _ := hP
  have hD : va_D A (kwH ad cI (setA (setA K 9 (upd (K 9) p (nI f))) 10 (upd (K 10) p (nI m9)))) := hD
  refine lv_aload_n hx hb dX1_make_14 rfl (lv_at hl 0 rfl) ?_
  refine va_get (D := D) (ci := 1) (v := .ref (ad 11)) (C := RX1) (T := TX1) (N := 7) hx hb hts hinX1 hown hK hP 0 rfl rfl 2 (by decide) (hts (.fieldLink RX1 18 "AuditoriumKeys$Holds" "code" "[I") (List.mem_of_getElem? (i := 3) rfl)) (fun _ h9 => h9) rfl dX1_make_15 ?_
  refine lv_iload_n hx hb dX1_make_18 rfl (lv_at hl 1 rfl) ?_
  refine lv_iload hx hb dX1_make_19 (lv_at hl 4 rfl) ?_
  refine zz_iast hx hb hK hP hD hS 3 0 rfl rfl p (by omega) (by decide) dX1_make_21 (fun H locs hP hD hS => ?_)
  have hP : va_P D vwCl (kwH ad cI (setA (setA (setA K 9 (upd (K 9) p (nI f))) 10 (upd (K 10) p (nI m9))) 11 (upd (K 11) p c9))) _ := hP
  have hD : va_D A (kwH ad cI (setA (setA (setA K 9 (upd (K 9) p (nI f))) 10 (upd (K 10) p (nI m9))) 11 (upd (K 11) p c9))) := hD
  refine lv_aload_n hx hb dX1_make_22 rfl (lv_at hl 0 rfl) ?_
  refine va_get (D := D) (ci := 1) (v := .ref (ad 12)) (C := RX1) (T := TX1) (N := 7) hx hb hts hinX1 hown hK hP 0 rfl rfl 3 (by decide) (hts (.fieldLink RX1 21 "AuditoriumKeys$Holds" "cost" "[I") (List.mem_of_getElem? (i := 4) rfl)) (fun _ h9 => h9) rfl dX1_make_23 ?_
  refine lv_iload_n hx hb dX1_make_26 rfl (lv_at hl 1 rfl) ?_
  refine lv_iload hx hb dX1_make_27 (lv_at hl 5 rfl) ?_
  refine zz_iast hx hb hK hP hD hS 4 0 rfl rfl p (by omega) (by decide) dX1_make_29 (fun H locs hP hD hS => ?_)
  have hP : va_P D vwCl (kwH ad cI (setA (setA (setA (setA K 9 (upd (K 9) p (nI f))) 10 (upd (K 10) p (nI m9))) 11 (upd (K 11) p c9)) 12 (upd (K 12) p w9))) _ := hP
  have hD : va_D A (kwH ad cI (setA (setA (setA (setA K 9 (upd (K 9) p (nI f))) 10 (upd (K 10) p (nI m9))) 11 (upd (K 11) p c9)) 12 (upd (K 12) p w9))) := hD
  refine lv_aload_n hx hb dX1_make_30 rfl (lv_at hl 0 rfl) ?_
  refine va_get (D := D) (ci := 1) (v := .ref (ad 13)) (C := RX1) (T := TX1) (N := 7) hx hb hts hinX1 hown hK hP 0 rfl rfl 4 (by decide) (hts (.fieldLink RX1 24 "AuditoriumKeys$Holds" "paid" "[I") (List.mem_of_getElem? (i := 5) rfl)) (fun _ h9 => h9) rfl dX1_make_31 ?_
  refine lv_iload_n hx hb dX1_make_34 rfl (lv_at hl 1 rfl) ?_
  refine lv_iconst (v := nI 0) hx hb dX1_make_35 (by decide) ?_
  refine zz_iast hx hb hK hP hD hS 5 0 rfl rfl p (by omega) (by decide) dX1_make_36 (fun H locs hP hD hS => ?_)
  have hP : va_P D vwCl (kwH ad cI (setA (setA (setA (setA (setA K 9 (upd (K 9) p (nI f))) 10 (upd (K 10) p (nI m9))) 11 (upd (K 11) p c9)) 12 (upd (K 12) p w9)) 13 (upd (K 13) p (nI 0)))) _ := hP
  have hD : va_D A (kwH ad cI (setA (setA (setA (setA (setA K 9 (upd (K 9) p (nI f))) 10 (upd (K 10) p (nI m9))) 11 (upd (K 11) p c9)) 12 (upd (K 12) p w9)) 13 (upd (K 13) p (nI 0)))) := hD
  refine lv_aload_n hx hb dX1_make_37 rfl (lv_at hl 0 rfl) ?_
  refine va_get (D := D) (ci := 1) (v := .ref (ad 14)) (C := RX1) (T := TX1) (N := 7) hx hb hts hinX1 hown hK hP 0 rfl rfl 5 (by decide) (hts (.fieldLink RX1 27 "AuditoriumKeys$Holds" "latest" "[I") (List.mem_of_getElem? (i := 6) rfl)) (fun _ h9 => h9) rfl dX1_make_38 ?_
  refine lv_iload_n hx hb dX1_make_41 rfl (lv_at hl 1 rfl) ?_
  refine lv_iload hx hb dX1_make_42 (lv_at hl 6 rfl) ?_
  refine lv_bipush (v := nI 30) hx hb dX1_make_44 (by decide) ?_
  refine lv_iadd hx hb dX1_make_46 ?_
  refine zz_iast hx hb hK hP hD hS 6 0 rfl rfl p (by omega) (by decide) dX1_make_47 (fun H locs hP hD hS => ?_)
  have hP : va_P D vwCl (kwH ad cI (setA (setA (setA (setA (setA (setA K 9 (upd (K 9) p (nI f))) 10 (upd (K 10) p (nI m9))) 11 (upd (K 11) p c9)) 12 (upd (K 12) p w9)) 13 (upd (K 13) p (nI 0))) 14 (upd (K 14) p (n9 + (nI 30))))) _ := hP
  have hD : va_D A (kwH ad cI (setA (setA (setA (setA (setA (setA K 9 (upd (K 9) p (nI f))) 10 (upd (K 10) p (nI m9))) 11 (upd (K 11) p c9)) 12 (upd (K 12) p w9)) 13 (upd (K 13) p (nI 0))) 14 (upd (K 14) p (n9 + (nI 30))))) := hD
  refine lv_aload_n hx hb dX1_make_48 rfl (lv_at hl 0 rfl) ?_
  refine va_get (D := D) (ci := 1) (v := .ref (ad 15)) (C := RX1) (T := TX1) (N := 7) hx hb hts hinX1 hown hK hP 0 rfl rfl 6 (by decide) (hts (.fieldLink RX1 30 "AuditoriumKeys$Holds" "lapse" "[I") (List.mem_of_getElem? (i := 7) rfl)) (fun _ h9 => h9) rfl dX1_make_49 ?_
  refine lv_iload_n hx hb dX1_make_52 rfl (lv_at hl 1 rfl) ?_
  refine lv_iload hx hb dX1_make_53 (lv_at hl 6 rfl) ?_
  refine lv_bipush (v := nI 10) hx hb dX1_make_55 (by decide) ?_
  refine lv_iadd hx hb dX1_make_57 ?_
  refine zz_iast hx hb hK hP hD hS 7 0 rfl rfl p (by omega) (by decide) dX1_make_58 (fun H locs hP hD hS => ?_)
  have hP : va_P D vwCl (kwH ad cI (setA (setA (setA (setA (setA (setA (setA K 9 (upd (K 9) p (nI f))) 10 (upd (K 10) p (nI m9))) 11 (upd (K 11) p c9)) 12 (upd (K 12) p w9)) 13 (upd (K 13) p (nI 0))) 14 (upd (K 14) p (n9 + (nI 30)))) 15 (upd (K 15) p (n9 + (nI 10))))) _ := hP
  have hD : va_D A (kwH ad cI (setA (setA (setA (setA (setA (setA (setA K 9 (upd (K 9) p (nI f))) 10 (upd (K 10) p (nI m9))) 11 (upd (K 11) p c9)) 12 (upd (K 12) p w9)) 13 (upd (K 13) p (nI 0))) 14 (upd (K 14) p (n9 + (nI 30)))) 15 (upd (K 15) p (n9 + (nI 10))))) := hD
  have eK9 : (kMake K p f m9 c9 w9 n9) = (setA (setA (setA (setA (setA (setA (setA K 9 (upd (K 9) p (nI f))) 10 (upd (K 10) p (nI m9))) 11 (upd (K 11) p c9)) 12 (upd (K 12) p w9)) 13 (upd (K 13) p (nI 0))) 14 (upd (K 14) p (n9 + (nI 30)))) 15 (upd (K 15) p (n9 + (nI 10)))) := rfl
  have hP9 := hP
  have hD9 := hD
  rw [← eK9] at hP9 hD9
  exact W.vret hx hb hr (fun t ht hW => ⟨⟨(), rfl, trivial, by rw [ht]; exact hP9, va_K.moved hW.alike hK, hD9⟩, hS.F ht⟩) hS.2.2 dX1_make_59
set_option maxHeartbeats 4000000 in
set_option maxRecDepth 100000 in
theorem kX1_prolong (l : Launch) (D : va_G) (cI cZ : ClassId) (ad : Nat → Nat) (K : kS) (sz : Nat) (p : Nat) (hp : p < 8) : Met l yX1_prolong wsX1_prolong ({ frames := 1, cells := 0, slots := 0, locals := 15 }) (va_Pc [.ref (ad 8), .int (nI p)] (zPr D (zTy cI cZ) (kwH ad cI K) sz)) (va_Qv (fun _ : Unit => True) (fun _ => zPo D (zTy cI cZ) (va_A (kwH ad cI K) sz) (kwH ad cI (kProl K p))) (va_A (kwH ad cI K) sz)) 0 0 (va_A (kwH ad cI K) sz) := by
  refine Met.ofW (cc := cX1_prolong) (maxL := 2) (ret := none) (by decide) rfl ?_
  intro pP e s m args below meth c s₁ B hml hv
  obtain ⟨rfl, hsz, hP, hK, hD0⟩ := hv
  have hx := B.exec
  have hb := B.bytes
  have hr := B.returns
  have hts := atoms_spec (ws := wsX1_prolong) B.pre
  have hown : s.vm.findClass RX1 = some m.cls := findClass_of_methodNamed B.named
  have hlocks := B.notSynchronized
  subst hsz
  have hD := hD0.self (sz := s.heap.size)
  generalize hAe : va_A (kwH ad cI K) s.heap.size = A at hD ⊢
  have hA : ∀ q : Nat, s.heap.size ≤ q → A q := fun q h => by rw [← hAe]; exact Or.inr h
  have hS : va_S A s.heap s.heap [] := va_S.rf
  have hinX1 : ∀ w ∈ u_ws RX1 TX1 7, w ∈ wsX1_prolong := by decide +kernel
  have hl := lv_entry ([.ref (ad 8), .int (nI p)]) (n := 2) (Nat.le_of_ble_eq_true rfl)
  rw [lg_entry_eq]
  generalize (lg_sl ([.ref (ad 8), .int (nI p)]) ++ List.replicate (2 - (lg_sl ([.ref (ad 8), .int (nI p)])).length) Slot.unset).toArray = ls at hl ⊢
  have hl : lv_has ls 2 [(0, .ref (ad 8)), (1, .int (nI p))] := hl
  refine lv_aload_n hx hb dX1_prolong_0 rfl (lv_at hl 0 rfl) ?_
  refine va_get (D := D) (ci := 1) (v := .ref (ad 15)) (C := RX1) (T := TX1) (N := 7) hx hb hts hinX1 hown hK hP 0 rfl rfl 6 (by decide) (hts (.fieldLink RX1 30 "AuditoriumKeys$Holds" "lapse" "[I") (List.mem_of_getElem? (i := 1) rfl)) (fun _ h9 => h9) rfl dX1_prolong_1 ?_
  refine lv_iload_n hx hb dX1_prolong_4 rfl (lv_at hl 1 rfl) ?_
  refine lv_aload_n hx hb dX1_prolong_5 rfl (lv_at hl 0 rfl) ?_
  refine va_get (D := D) (ci := 1) (v := .ref (ad 15)) (C := RX1) (T := TX1) (N := 7) hx hb hts hinX1 hown hK hP 0 rfl rfl 6 (by decide) (hts (.fieldLink RX1 30 "AuditoriumKeys$Holds" "lapse" "[I") (List.mem_of_getElem? (i := 1) rfl)) (fun _ h9 => h9) rfl dX1_prolong_6 ?_
  refine lv_iload_n hx hb dX1_prolong_9 rfl (lv_at hl 1 rfl) ?_
  refine zz_iald hx hb hK hP 7 0 rfl rfl p (by omega) (by decide) dX1_prolong_10 ?_
  refine lv_iconst (v := nI 5) hx hb dX1_prolong_11 (by decide) ?_
  refine lv_iadd hx hb dX1_prolong_12 ?_
  refine lv_aload_n hx hb dX1_prolong_13 rfl (lv_at hl 0 rfl) ?_
  refine va_get (D := D) (ci := 1) (v := .ref (ad 14)) (C := RX1) (T := TX1) (N := 7) hx hb hts hinX1 hown hK hP 0 rfl rfl 5 (by decide) (hts (.fieldLink RX1 27 "AuditoriumKeys$Holds" "latest" "[I") (List.mem_of_getElem? (i := 2) rfl)) (fun _ h9 => h9) rfl dX1_prolong_14 ?_
  refine lv_iload_n hx hb dX1_prolong_17 rfl (lv_at hl 1 rfl) ?_
  refine zz_iald hx hb hK hP 6 0 rfl rfl p (by omega) (by decide) dX1_prolong_18 ?_
  refine va_mmin hx hb (by rw [hml]; exact hl.1.symm) hown (hts (.methodLink RX1 33 Lib.Math.min.name) (List.mem_of_getElem? (i := 3) rfl)) (hts (.static Lib.Math.min.name) (List.mem_of_getElem? (i := 4) rfl)) (hts (.initialized "java/lang/Math") (List.mem_of_getElem? (i := 5) rfl)) (hts (.code Lib.Math.min.name Lib.Math.min.code 2 (some .int)) (List.mem_of_getElem? (i := 6) rfl)) (Nat.le_of_ble_eq_true rfl) (Nat.le_of_ble_eq_true rfl) (Nat.zero_le _) (Nat.zero_le _) dX1_prolong_19 ?_
  refine zz_iast hx hb hK hP hD hS 7 0 rfl rfl p (by omega) (by decide) dX1_prolong_22 (fun H locs hP hD hS => ?_)
  have hP : va_P D vwCl (kwH ad cI (setA K 15 (upd (K 15) p (if K 14 p < (K 15 p) + (nI 5) then K 14 p else (K 15 p) + (nI 5))))) _ := hP
  have hD : va_D A (kwH ad cI (setA K 15 (upd (K 15) p (if K 14 p < (K 15 p) + (nI 5) then K 14 p else (K 15 p) + (nI 5))))) := hD
  have eK9 : (kProl K p) = (setA K 15 (upd (K 15) p (if K 14 p < (K 15 p) + (nI 5) then K 14 p else (K 15 p) + (nI 5)))) := rfl
  have hP9 := hP
  have hD9 := hD
  rw [← eK9] at hP9 hD9
  exact W.vret hx hb hr (fun t ht hW => ⟨⟨(), rfl, trivial, by rw [ht]; exact hP9, va_K.moved hW.alike hK, hD9⟩, hS.F ht⟩) hS.2.2 dX1_prolong_23
set_option maxHeartbeats 4000000 in
set_option maxRecDepth 100000 in
theorem kX1_end (l : Launch) (D : va_G) (cI cZ : ClassId) (ad : Nat → Nat) (K : kS) (sz : Nat) (p : Nat) (hp : p < 8) : Met l yX1_end wsX1_end ({ frames := 0, cells := 0, slots := 0, locals := 0 }) (va_Pc [.ref (ad 8), .int (nI p)] (zPr D (zTy cI cZ) (kwH ad cI K) sz)) (va_Qv (fun _ : Unit => True) (fun _ => zPo D (zTy cI cZ) (va_A (kwH ad cI K) sz) (kwH ad cI (kEnd K p))) (va_A (kwH ad cI K) sz)) 0 0 (va_A (kwH ad cI K) sz) := by
  refine Met.ofW (cc := cX1_end) (maxL := 2) (ret := none) (by decide) rfl ?_
  intro pP e s m args below meth c s₁ B hml hv
  obtain ⟨rfl, hsz, hP, hK, hD0⟩ := hv
  have hx := B.exec
  have hb := B.bytes
  have hr := B.returns
  have hts := atoms_spec (ws := wsX1_end) B.pre
  have hown : s.vm.findClass RX1 = some m.cls := findClass_of_methodNamed B.named
  have hlocks := B.notSynchronized
  subst hsz
  have hD := hD0.self (sz := s.heap.size)
  generalize hAe : va_A (kwH ad cI K) s.heap.size = A at hD ⊢
  have hA : ∀ q : Nat, s.heap.size ≤ q → A q := fun q h => by rw [← hAe]; exact Or.inr h
  have hS : va_S A s.heap s.heap [] := va_S.rf
  have hinX1 : ∀ w ∈ u_ws RX1 TX1 7, w ∈ wsX1_end := by decide +kernel
  have hl := lv_entry ([.ref (ad 8), .int (nI p)]) (n := 2) (Nat.le_of_ble_eq_true rfl)
  rw [lg_entry_eq]
  generalize (lg_sl ([.ref (ad 8), .int (nI p)]) ++ List.replicate (2 - (lg_sl ([.ref (ad 8), .int (nI p)])).length) Slot.unset).toArray = ls at hl ⊢
  have hl : lv_has ls 2 [(0, .ref (ad 8)), (1, .int (nI p))] := hl
  refine lv_aload_n hx hb dX1_end_0 rfl (lv_at hl 0 rfl) ?_
  refine va_get (D := D) (ci := 1) (v := .ref (ad 10)) (C := RX1) (T := TX1) (N := 7) hx hb hts hinX1 hown hK hP 0 rfl rfl 1 (by decide) (hts (.fieldLink RX1 15 "AuditoriumKeys$Holds" "many" "[I") (List.mem_of_getElem? (i := 1) rfl)) (fun _ h9 => h9) rfl dX1_end_1 ?_
  refine lv_iload_n hx hb dX1_end_4 rfl (lv_at hl 1 rfl) ?_
  refine lv_iconst (v := nI 0) hx hb dX1_end_5 (by decide) ?_
  refine zz_iast hx hb hK hP hD hS 2 0 rfl rfl p (by omega) (by decide) dX1_end_6 (fun H locs hP hD hS => ?_)
  have hP : va_P D vwCl (kwH ad cI (setA K 10 (upd (K 10) p (nI 0)))) _ := hP
  have hD : va_D A (kwH ad cI (setA K 10 (upd (K 10) p (nI 0)))) := hD
  have eK9 : (kEnd K p) = (setA K 10 (upd (K 10) p (nI 0))) := rfl
  have hP9 := hP
  have hD9 := hD
  rw [← eK9] at hP9 hD9
  exact W.vret hx hb hr (fun t ht hW => ⟨⟨(), rfl, trivial, by rw [ht]; exact hP9, va_K.moved hW.alike hK, hD9⟩, hS.F ht⟩) hS.2.2 dX1_end_7
set_option maxHeartbeats 4000000 in
set_option maxRecDepth 100000 in
theorem kX0_add (l : Launch) (D : va_G) (cI cZ : ClassId) (ad : Nat → Nat) (K : kS) (sz : Nat) (a9 : Int32) (b9 : Int32) (n9 : Nat) (hn9 : n9 < 10) (hc9 : K 2 0 = nI n9) : Met l yX0_add wsX0_add ({ frames := 0, cells := 0, slots := 0, locals := 0 }) (va_Pc [.ref (ad 2), .int a9, .int b9] (zPr D (zTy cI cZ) (kwC ad cI K) sz)) (va_Qi (fun r (_ : Unit) => r = nI n9) (fun _ => zPo D (zTy cI cZ) (va_A (kwC ad cI K) sz) (kwC ad cI (kCode K n9 a9 b9))) (va_A (kwC ad cI K) sz)) 0 0 (va_A (kwC ad cI K) sz) := by
  refine Met.ofW (cc := cX0_add) (maxL := 3) (ret := (some .int)) (by decide) rfl ?_
  intro pP e s m args below meth c s₁ B hml hv
  obtain ⟨rfl, hsz, hP, hK, hD0⟩ := hv
  have hx := B.exec
  have hb := B.bytes
  have hr := B.returns
  have hts := atoms_spec (ws := wsX0_add) B.pre
  have hown : s.vm.findClass RX0 = some m.cls := findClass_of_methodNamed B.named
  have hlocks := B.notSynchronized
  subst hsz
  have hD := hD0.self (sz := s.heap.size)
  generalize hAe : va_A (kwC ad cI K) s.heap.size = A at hD ⊢
  have hA : ∀ q : Nat, s.heap.size ≤ q → A q := fun q h => by rw [← hAe]; exact Or.inr h
  have hS : va_S A s.heap s.heap [] := va_S.rf
  have hinX0 : ∀ w ∈ u_ws RX0 TX0 4, w ∈ wsX0_add := by decide +kernel
  have hl := lv_entry ([.ref (ad 2), .int a9, .int b9]) (n := 3) (Nat.le_of_ble_eq_true rfl)
  rw [lg_entry_eq]
  generalize (lg_sl ([.ref (ad 2), .int a9, .int b9]) ++ List.replicate (3 - (lg_sl ([.ref (ad 2), .int a9, .int b9])).length) Slot.unset).toArray = ls at hl ⊢
  have hl : lv_has ls 3 [(0, .ref (ad 2)), (1, .int a9), (2, .int b9)] := hl
  refine lv_aload_n hx hb dX0_add_0 rfl (lv_at hl 0 rfl) ?_
  refine va_get (D := D) (ci := 0) (v := .ref (ad 3)) (C := RX0) (T := TX0) (N := 4) hx hb hts hinX0 hown hK hP 0 rfl rfl 1 (by decide) (hts (.fieldLink RX0 15 "AuditoriumKeys$Codes" "ofPerson" "[I") (List.mem_of_getElem? (i := 1) rfl)) (fun _ h9 => h9) rfl dX0_add_1 ?_
  refine lv_aload_n hx hb dX0_add_4 rfl (lv_at hl 0 rfl) ?_
  refine va_get (D := D) (ci := 0) (v := .int (K 2 0)) (C := RX0) (T := TX0) (N := 4) hx hb hts hinX0 hown hK hP 0 rfl rfl 0 (by decide) (hts (.fieldLink RX0 9 "AuditoriumKeys$Codes" "count" "I") (List.mem_of_getElem? (i := 2) rfl)) (fun _ h9 => h9) rfl dX0_add_5 ?_
  refine zz_top (y := nI n9) hc9 ?_
  refine lv_iload_n hx hb dX0_add_8 rfl (lv_at hl 1 rfl) ?_
  refine zz_iast hx hb hK hP hD hS 1 0 rfl rfl n9 (by omega) (by decide) dX0_add_9 (fun H locs hP hD hS => ?_)
  have hP : va_P D vwCl (kwC ad cI (setA K 3 (upd (K 3) n9 a9))) _ := hP
  have hD : va_D A (kwC ad cI (setA K 3 (upd (K 3) n9 a9))) := hD
  refine lv_aload_n hx hb dX0_add_10 rfl (lv_at hl 0 rfl) ?_
  refine va_get (D := D) (ci := 0) (v := .ref (ad 4)) (C := RX0) (T := TX0) (N := 4) hx hb hts hinX0 hown hK hP 0 rfl rfl 2 (by decide) (hts (.fieldLink RX0 19 "AuditoriumKeys$Codes" "ofHousehold" "[I") (List.mem_of_getElem? (i := 3) rfl)) (fun _ h9 => h9) rfl dX0_add_11 ?_
  refine lv_aload_n hx hb dX0_add_14 rfl (lv_at hl 0 rfl) ?_
  refine va_get (D := D) (ci := 0) (v := .int (K 2 0)) (C := RX0) (T := TX0) (N := 4) hx hb hts hinX0 hown hK hP 0 rfl rfl 0 (by decide) (hts (.fieldLink RX0 9 "AuditoriumKeys$Codes" "count" "I") (List.mem_of_getElem? (i := 2) rfl)) (fun _ h9 => h9) rfl dX0_add_15 ?_
  refine zz_top (y := nI n9) hc9 ?_
  refine lv_iload_n hx hb dX0_add_18 rfl (lv_at hl 2 rfl) ?_
  refine zz_iast hx hb hK hP hD hS 2 0 rfl rfl n9 (by omega) (by decide) dX0_add_19 (fun H locs hP hD hS => ?_)
  have hP : va_P D vwCl (kwC ad cI (setA (setA K 3 (upd (K 3) n9 a9)) 4 (upd (K 4) n9 b9))) _ := hP
  have hD : va_D A (kwC ad cI (setA (setA K 3 (upd (K 3) n9 a9)) 4 (upd (K 4) n9 b9))) := hD
  refine lv_aload_n hx hb dX0_add_20 rfl (lv_at hl 0 rfl) ?_
  refine lv_dup hx hb dX0_add_21 rfl ?_
  refine va_get (D := D) (ci := 0) (v := .int (K 2 0)) (C := RX0) (T := TX0) (N := 4) hx hb hts hinX0 hown hK hP 0 rfl rfl 0 (by decide) (hts (.fieldLink RX0 9 "AuditoriumKeys$Codes" "count" "I") (List.mem_of_getElem? (i := 2) rfl)) (fun _ h9 => h9) rfl dX0_add_22 ?_
  refine zz_top (y := nI n9) hc9 ?_
  refine lv_iconst (v := nI 1) hx hb dX0_add_25 (by decide) ?_
  refine lv_iadd hx hb dX0_add_26 ?_
  refine zz_top (y := nI (n9 + 1)) ((nI_add n9 1).trans (congrArg nI (by omega))) ?_
  refine va_put (D := D) (ci := 0) (v := .int (nI (n9 + 1))) (ty := .int) (C := RX0) (T := TX0) (N := 4) hx hb hts hinX0 tyX0 tyX0_ok nmX0 hown hK hP hD hS 0 rfl rfl 0 (by decide) (hts (.fieldLink RX0 9 "AuditoriumKeys$Codes" "count" "I") (List.mem_of_getElem? (i := 2) rfl)) (fun _ h9 => h9) rfl (by decide +kernel) rfl rfl (Nat.le_of_ble_eq_true rfl) dX0_add_27 (fun H locs hP hD hS => ?_)
  have hP : va_P D vwCl (kwC ad cI (setA (setA (setA K 3 (upd (K 3) n9 a9)) 4 (upd (K 4) n9 b9)) 2 (upd (K 2) 0 (nI (n9 + 1))))) _ := hP
  have hD : va_D A (kwC ad cI (setA (setA (setA K 3 (upd (K 3) n9 a9)) 4 (upd (K 4) n9 b9)) 2 (upd (K 2) 0 (nI (n9 + 1))))) := hD
  refine lv_aload_n hx hb dX0_add_30 rfl (lv_at hl 0 rfl) ?_
  refine va_get (D := D) (ci := 0) (v := .int ((upd (K 2) 0 (nI (n9 + 1))) 0)) (C := RX0) (T := TX0) (N := 4) hx hb hts hinX0 hown hK hP 0 rfl rfl 0 (by decide) (hts (.fieldLink RX0 9 "AuditoriumKeys$Codes" "count" "I") (List.mem_of_getElem? (i := 2) rfl)) (fun _ h9 => h9) rfl dX0_add_31 ?_
  refine zz_top (y := nI (n9 + 1)) rfl ?_
  refine lv_iconst (v := nI 1) hx hb dX0_add_34 (by decide) ?_
  refine lv_isub hx hb dX0_add_35 ?_
  refine zz_top (y := nI n9) (nI_pred n9) ?_
  have eK9 : (kCode K n9 a9 b9) = (setA (setA (setA K 3 (upd (K 3) n9 a9)) 4 (upd (K 4) n9 b9)) 2 (upd (K 2) 0 (nI (n9 + 1)))) := rfl
  have hP9 := hP
  have hD9 := hD
  rw [← eK9] at hP9 hD9
  exact W.iret (v := nI n9) hx hb hr (fun t ht hW => ⟨⟨nI n9, (), rfl, rfl, by rw [ht]; exact hP9, va_K.moved hW.alike hK, hD9⟩, hS.F ht⟩) hS.2.2 dX0_add_36
set_option maxHeartbeats 4000000 in
set_option maxRecDepth 100000 in
theorem kX0_seatsOf (l : Launch) (D : va_G) (cI cZ : ClassId) (ad : Nat → Nat) (K : kS) (c9 : Nat) (p : Nat) (hc9 : c9 < 10) (hp : p < 8) : Met l yX0_seatsOf wsX0_seatsOf ({ frames := 0, cells := 0, slots := 0, locals := 0 }) (va_Pc [.ref (ad 2), .int (nI c9), .int (nI p)] (zRd D (zTy cI cZ) (kwC ad cI K))) (vp_Si (fun r => r = cOf K c9 p)) 0 0 (fun _ => False) := by
  refine Met.ofW (cc := cX0_seatsOf) (maxL := 3) (ret := (some .int)) (by decide) rfl ?_
  intro pP e s m args below meth c s₁ B hml hv
  obtain ⟨rfl, hP, hK⟩ := hv
  have hx := B.exec
  have hb := B.bytes
  have hr := B.returns
  have hts := atoms_spec (ws := wsX0_seatsOf) B.pre
  have hown : s.vm.findClass RX0 = some m.cls := findClass_of_methodNamed B.named
  have hlocks := B.notSynchronized
  have hinX0 : ∀ w ∈ u_ws RX0 TX0 4, w ∈ wsX0_seatsOf := by decide +kernel
  have hl := lv_entry ([.ref (ad 2), .int (nI c9), .int (nI p)]) (n := 3) (Nat.le_of_ble_eq_true rfl)
  rw [lg_entry_eq]
  generalize (lg_sl ([.ref (ad 2), .int (nI c9), .int (nI p)]) ++ List.replicate (3 - (lg_sl ([.ref (ad 2), .int (nI c9), .int (nI p)])).length) Slot.unset).toArray = ls at hl ⊢
  have hl : lv_has ls 3 [(0, .ref (ad 2)), (1, .int (nI c9)), (2, .int (nI p))] := hl
  refine lv_aload_n hx hb dX0_seatsOf_0 rfl (lv_at hl 0 rfl) ?_
  refine va_get (D := D) (ci := 0) (v := .ref (ad 5)) (C := RX0) (T := TX0) (N := 4) hx hb hts hinX0 hown hK hP 0 rfl rfl 3 (by decide) (hts (.fieldLink RX0 22 "AuditoriumKeys$Codes" "counted" "[I") (List.mem_of_getElem? (i := 1) rfl)) (fun _ h9 => h9) rfl dX0_seatsOf_1 ?_
  refine lv_bipush (v := nI 8) hx hb dX0_seatsOf_4 (by decide) ?_
  refine lv_iload_n hx hb dX0_seatsOf_6 rfl (lv_at hl 1 rfl) ?_
  refine lv_imul hx hb dX0_seatsOf_7 ?_
  refine zz_top (y := nI (8 * c9)) ((pk_mul 8 c9).trans (congrArg nI (by first | rfl | omega | exact Nat.mul_comm _ _))) ?_
  refine lv_iload_n hx hb dX0_seatsOf_8 rfl (lv_at hl 2 rfl) ?_
  refine lv_iadd hx hb dX0_seatsOf_9 ?_
  refine zz_top (y := nI (8 * c9 + p)) ((nI_add (8 * c9) p).trans (congrArg nI (by omega))) ?_
  refine zz_iald hx hb hK hP 3 0 rfl rfl (8 * c9 + p) (by omega) (by decide) dX0_seatsOf_10 ?_
  exact W.iret (v := K 5 (8 * c9 + p)) hx hb hr (fun t ht hW => ⟨_, rfl, rfl, ht⟩) (fun _ h => nomatch h) dX0_seatsOf_11
set_option maxHeartbeats 4000000 in
set_option maxRecDepth 100000 in
theorem kX0_haveRoom (l : Launch) (D : va_G) (cI cZ : ClassId) (ad : Nat → Nat) (K : kS) (c9 : Nat) (p : Nat) (m9 : Int32) (hc9 : c9 < 10) (hp : p < 8) : Met l yX0_haveRoom wsX0_haveRoom ({ frames := 1, cells := 0, slots := 0, locals := 22 }) (va_Pc [.ref (ad 2), .int (nI c9), .int (nI p), .int m9] (zRd D (zTy cI cZ) (kwC ad cI K))) (vp_Si (fun r => r = zb (cRoom K c9 p m9))) 0 0 (fun _ => False) := by
  refine Met.ofW (cc := cX0_haveRoom) (maxL := 6) (ret := (some .boolean)) (by decide) rfl ?_
  intro pP e s m args below meth c s₁ B hml hv
  obtain ⟨rfl, hP, hK⟩ := hv
  have hx := B.exec
  have hb := B.bytes
  have hr := B.returns
  have hts := atoms_spec (ws := wsX0_haveRoom) B.pre
  have hown : s.vm.findClass RX0 = some m.cls := findClass_of_methodNamed B.named
  have hlocks := B.notSynchronized
  have hinX0 : ∀ w ∈ u_ws RX0 TX0 4, w ∈ wsX0_haveRoom := by decide +kernel
  have hl := lv_entry ([.ref (ad 2), .int (nI c9), .int (nI p), .int m9]) (n := 6) (Nat.le_of_ble_eq_true rfl)
  rw [lg_entry_eq]
  generalize (lg_sl ([.ref (ad 2), .int (nI c9), .int (nI p), .int m9]) ++ List.replicate (6 - (lg_sl ([.ref (ad 2), .int (nI c9), .int (nI p), .int m9])).length) Slot.unset).toArray = ls at hl ⊢
  have hl : lv_has ls 6 [(0, .ref (ad 2)), (1, .int (nI c9)), (2, .int (nI p)), (3, .int m9)] := hl
  have hmt := zmate_lt p hp
  refine lv_iload_n hx hb dX0_haveRoom_0 rfl (lv_at hl 2 rfl) ?_
  refine lv_iconst (v := nI 1) hx hb dX0_haveRoom_1 (by decide) ?_
  refine lv_ixor hx hb dX0_haveRoom_2 ?_
  refine zz_top (y := nI (zmate p)) (zmate_x p hp) ?_
  refine lv_istore (lv' := [(4, .int (nI (zmate p))), (0, .ref (ad 2)), (1, .int (nI c9)), (2, .int (nI p)), (3, .int m9)]) hx hb dX0_haveRoom_3 hl (by decide) rfl (fun ls hl => ?_)
  refine lv_aload_n hx hb dX0_haveRoom_5 rfl (lv_at hl 1 rfl) ?_
  refine lv_iload_n hx hb dX0_haveRoom_6 rfl (lv_at hl 2 rfl) ?_
  refine lv_iload_n hx hb dX0_haveRoom_7 rfl (lv_at hl 3 rfl) ?_
  refine zc_rV (As := [.int (nI c9), .int (nI p)]) (rest := []) ⟨hx, hb, hml, hown, hts⟩ (kX0_seatsOf l D cI cZ ad K c9 p (by omega) (by omega)) (cwV 2 hts gX0_haveRoom_X0_seatsOf rfl rfl rfl (by decide +kernel) ⟨(Nat.le_of_ble_eq_true rfl), (Nat.le_of_ble_eq_true rfl)⟩) hK hP (ci := 0) (q0 := 0) rfl rfl rfl rfl hl.1 rfl (Nat.le_of_ble_eq_true rfl) dX0_haveRoom_8 ⟨Nat.zero_le _, Nat.zero_le _⟩ ?_
  refine lv_iload_n hx hb dX0_haveRoom_11 rfl (lv_at hl 4 rfl) ?_
  refine lv_iadd hx hb dX0_haveRoom_12 ?_
  refine lv_istore (lv' := [(5, .int ((cOf K c9 p) + m9)), (4, .int (nI (zmate p))), (0, .ref (ad 2)), (1, .int (nI c9)), (2, .int (nI p)), (3, .int m9)]) hx hb dX0_haveRoom_13 hl (by decide) rfl (fun ls hl => ?_)
  refine lv_iload hx hb dX0_haveRoom_15 (lv_at hl 0 rfl) ?_
  refine lv_aload_n hx hb dX0_haveRoom_17 rfl (lv_at hl 2 rfl) ?_
  refine va_get (D := D) (ci := 0) (v := .ref (ad 3)) (C := RX0) (T := TX0) (N := 4) hx hb hts hinX0 hown hK hP 0 rfl rfl 1 (by decide) (hts (.fieldLink RX0 15 "AuditoriumKeys$Codes" "ofPerson" "[I") (List.mem_of_getElem? (i := 1) rfl)) (fun _ h9 => h9) rfl dX0_haveRoom_18 ?_
  refine lv_iload_n hx hb dX0_haveRoom_21 rfl (lv_at hl 3 rfl) ?_
  refine zz_iald hx hb hK hP 1 0 rfl rfl c9 (by omega) (by decide) dX0_haveRoom_22 ?_
  refine lv_icmp_gt (tgt := 49) hx hb dX0_haveRoom_23 (by decide) (fun c_1 => ?_) (fun c_1 => ?_)
  · skip
    have c_1 : K 3 c9 < (cOf K c9 p) + m9 := c_1
    refine lv_iconst (v := nI 0) hx hb dX0_haveRoom_49 (by decide) ?_
    exact W.zret (v := nI 0) hx hb hr rfl (fun t ht hW => ⟨_, rfl, (by simp [cRoom, zb, c_1]), ht⟩) (fun _ h => nomatch h) dX0_haveRoom_50
  · skip
    have c_1 : ¬ K 3 c9 < (cOf K c9 p) + m9 := c_1
    refine lv_iload hx hb dX0_haveRoom_26 (lv_at hl 0 rfl) ?_
    refine lv_aload_n hx hb dX0_haveRoom_28 rfl (lv_at hl 2 rfl) ?_
    refine lv_iload_n hx hb dX0_haveRoom_29 rfl (lv_at hl 3 rfl) ?_
    refine lv_iload hx hb dX0_haveRoom_30 (lv_at hl 1 rfl) ?_
    refine zc_rV (As := [.int (nI c9), .int (nI (zmate p))]) (rest := [.int ((cOf K c9 p) + m9)]) ⟨hx, hb, hml, hown, hts⟩ (kX0_seatsOf l D cI cZ ad K c9 (zmate p) (by omega) (by omega)) (cwV 2 hts gX0_haveRoom_X0_seatsOf rfl rfl rfl (by decide +kernel) ⟨(Nat.le_of_ble_eq_true rfl), (Nat.le_of_ble_eq_true rfl)⟩) hK hP (ci := 0) (q0 := 0) rfl rfl rfl rfl hl.1 rfl (Nat.le_of_ble_eq_true rfl) dX0_haveRoom_32 ⟨Nat.zero_le _, Nat.zero_le _⟩ ?_
    refine lv_iadd hx hb dX0_haveRoom_35 ?_
    refine lv_aload_n hx hb dX0_haveRoom_36 rfl (lv_at hl 2 rfl) ?_
    refine va_get (D := D) (ci := 0) (v := .ref (ad 4)) (C := RX0) (T := TX0) (N := 4) hx hb hts hinX0 hown hK hP 0 rfl rfl 2 (by decide) (hts (.fieldLink RX0 19 "AuditoriumKeys$Codes" "ofHousehold" "[I") (List.mem_of_getElem? (i := 2) rfl)) (fun _ h9 => h9) rfl dX0_haveRoom_37 ?_
    refine lv_iload_n hx hb dX0_haveRoom_40 rfl (lv_at hl 3 rfl) ?_
    refine zz_iald hx hb hK hP 2 0 rfl rfl c9 (by omega) (by decide) dX0_haveRoom_41 ?_
    refine lv_icmp_gt (tgt := 49) hx hb dX0_haveRoom_42 (by decide) (fun c_2 => ?_) (fun c_2 => ?_)
    · skip
      have c_2 : K 4 c9 < ((cOf K c9 p) + m9) + (cOf K c9 (zmate p)) := c_2
      refine lv_iconst (v := nI 0) hx hb dX0_haveRoom_49 (by decide) ?_
      exact W.zret (v := nI 0) hx hb hr rfl (fun t ht hW => ⟨_, rfl, (by simp [cRoom, zb, c_1, c_2]), ht⟩) (fun _ h => nomatch h) dX0_haveRoom_50
    · skip
      have c_2 : ¬ K 4 c9 < ((cOf K c9 p) + m9) + (cOf K c9 (zmate p)) := c_2
      refine lv_iconst (v := nI 1) hx hb dX0_haveRoom_45 (by decide) ?_
      refine lv_goto (tgt := 50) hx hb dX0_haveRoom_46 (by decide) ?_
      exact W.zret (v := nI 1) hx hb hr rfl (fun t ht hW => ⟨_, rfl, (by simp [cRoom, zb, c_1, c_2]), ht⟩) (fun _ h => nomatch h) dX0_haveRoom_50
set_option maxHeartbeats 4000000 in
set_option maxRecDepth 100000 in
theorem kX0_tally (l : Launch) (D : va_G) (cI cZ : ClassId) (ad : Nat → Nat) (K : kS) (sz : Nat) (c9 : Int32) (p : Nat) (m9 : Int32) (hp : p < 8) (hc9 : c9 = (-1) ∨ ∃ n, n < 10 ∧ c9 = nI n) : Met l yX0_tally wsX0_tally ({ frames := 0, cells := 0, slots := 0, locals := 0 }) (va_Pc [.ref (ad 2), .int c9, .int (nI p), .int m9] (zPr D (zTy cI cZ) (kwC ad cI K) sz)) (va_Qv (fun _ : Unit => True) (fun _ => zPo D (zTy cI cZ) (va_A (kwC ad cI K) sz) (kwC ad cI (kTally K c9 p m9))) (va_A (kwC ad cI K) sz)) 0 0 (va_A (kwC ad cI K) sz) := by
  refine Met.ofW (cc := cX0_tally) (maxL := 4) (ret := none) (by decide) rfl ?_
  intro pP e s m args below meth c s₁ B hml hv
  obtain ⟨rfl, hsz, hP, hK, hD0⟩ := hv
  have hx := B.exec
  have hb := B.bytes
  have hr := B.returns
  have hts := atoms_spec (ws := wsX0_tally) B.pre
  have hown : s.vm.findClass RX0 = some m.cls := findClass_of_methodNamed B.named
  have hlocks := B.notSynchronized
  subst hsz
  have hD := hD0.self (sz := s.heap.size)
  generalize hAe : va_A (kwC ad cI K) s.heap.size = A at hD ⊢
  have hA : ∀ q : Nat, s.heap.size ≤ q → A q := fun q h => by rw [← hAe]; exact Or.inr h
  have hS : va_S A s.heap s.heap [] := va_S.rf
  have hinX0 : ∀ w ∈ u_ws RX0 TX0 4, w ∈ wsX0_tally := by decide +kernel
  have hl := lv_entry ([.ref (ad 2), .int c9, .int (nI p), .int m9]) (n := 4) (Nat.le_of_ble_eq_true rfl)
  rw [lg_entry_eq]
  generalize (lg_sl ([.ref (ad 2), .int c9, .int (nI p), .int m9]) ++ List.replicate (4 - (lg_sl ([.ref (ad 2), .int c9, .int (nI p), .int m9])).length) Slot.unset).toArray = ls at hl ⊢
  have hl : lv_has ls 4 [(0, .ref (ad 2)), (1, .int c9), (2, .int (nI p)), (3, .int m9)] := hl
  refine lv_iload_n hx hb dX0_tally_0 rfl (lv_at hl 1 rfl) ?_
  refine lv_iconst (v := (-1)) hx hb dX0_tally_1 (by decide) ?_
  refine lv_icmp_eq (tgt := 20) hx hb dX0_tally_2 (by decide) (fun c_1 => ?_) (fun c_1 => ?_)
  · skip
    have c_1 : c9 = (-1) := c_1
    have eK9 : (kTally K c9 p m9) = K := (by simp only [kTally]; rw [if_pos c_1, setA_same])
    have hP9 := hP
    have hD9 := hD
    rw [← eK9] at hP9 hD9
    exact W.vret hx hb hr (fun t ht hW => ⟨⟨(), rfl, trivial, by rw [ht]; exact hP9, va_K.moved hW.alike hK, hD9⟩, hS.F ht⟩) hS.2.2 dX0_tally_20
  · skip
    have c_1 : ¬ c9 = (-1) := c_1
    obtain ⟨n9, hn9, hn8⟩ := hc9.resolve_left c_1
    have hn7 : c9.toNatClampNeg = n9 := by rw [hn8]; exact nI_clamp (by omega)
    refine lv_aload_n hx hb dX0_tally_5 rfl (lv_at hl 0 rfl) ?_
    refine va_get (D := D) (ci := 0) (v := .ref (ad 5)) (C := RX0) (T := TX0) (N := 4) hx hb hts hinX0 hown hK hP 0 rfl rfl 3 (by decide) (hts (.fieldLink RX0 22 "AuditoriumKeys$Codes" "counted" "[I") (List.mem_of_getElem? (i := 1) rfl)) (fun _ h9 => h9) rfl dX0_tally_6 ?_
    refine lv_bipush (v := nI 8) hx hb dX0_tally_9 (by decide) ?_
    refine lv_iload_n hx hb dX0_tally_11 rfl (lv_at hl 1 rfl) ?_
    refine lv_imul hx hb dX0_tally_12 ?_
    refine zz_top (y := nI (8 * n9)) (by rw [hn8]; exact pk_mul _ _) ?_
    refine lv_iload_n hx hb dX0_tally_13 rfl (lv_at hl 2 rfl) ?_
    refine lv_iadd hx hb dX0_tally_14 ?_
    refine zz_top (y := nI (8 * n9 + p)) ((nI_add (8 * n9) p).trans (congrArg nI (by omega))) ?_
    refine lv_dup2_11 hx hb dX0_tally_15 rfl rfl ?_
    refine zz_iald hx hb hK hP 3 0 rfl rfl (8 * n9 + p) (by omega) (by decide) dX0_tally_16 ?_
    refine lv_iload_n hx hb dX0_tally_17 rfl (lv_at hl 3 rfl) ?_
    refine lv_iadd hx hb dX0_tally_18 ?_
    refine zz_iast hx hb hK hP hD hS 3 0 rfl rfl (8 * n9 + p) (by omega) (by decide) dX0_tally_19 (fun H locs hP hD hS => ?_)
    have hP : va_P D vwCl (kwC ad cI (setA K 5 (upd (K 5) (8 * n9 + p) ((K 5 (8 * n9 + p)) + m9)))) _ := hP
    have hD : va_D A (kwC ad cI (setA K 5 (upd (K 5) (8 * n9 + p) ((K 5 (8 * n9 + p)) + m9)))) := hD
    have eK9 : (kTally K c9 p m9) = (setA K 5 (upd (K 5) (8 * n9 + p) ((K 5 (8 * n9 + p)) + m9))) := (by simp only [kTally, hn7]; rw [if_neg c_1])
    have hP9 := hP
    have hD9 := hD
    rw [← eK9] at hP9 hD9
    exact W.vret hx hb hr (fun t ht hW => ⟨⟨(), rfl, trivial, by rw [ht]; exact hP9, va_K.moved hW.alike hK, hD9⟩, hS.F ht⟩) hS.2.2 dX0_tally_20
set_option maxHeartbeats 4000000 in
set_option maxRecDepth 100000 in
theorem kX3_add (l : Launch) (D : va_G) (cI cZ : ClassId) (ad : Nat → Nat) (K : kS) (sz : Nat) (a9 : Int32) (b9 : Int32) (c9 : Int32) (n9 : Nat) (hn9 : n9 < 170) (hc9 : K 22 0 = nI n9) : Met l yX3_add wsX3_add ({ frames := 0, cells := 0, slots := 0, locals := 0 }) (va_Pc [.ref (ad 22), .int a9, .int b9, .int c9] (zPr D (zTy cI cZ) (kwT ad cI K) sz)) (va_Qv (fun _ : Unit => True) (fun _ => zPo D (zTy cI cZ) (va_A (kwT ad cI K) sz) (kwT ad cI (kSale K n9 a9 b9 c9))) (va_A (kwT ad cI K) sz)) 0 0 (va_A (kwT ad cI K) sz) := by
  refine Met.ofW (cc := cX3_add) (maxL := 4) (ret := none) (by decide) rfl ?_
  intro pP e s m args below meth c s₁ B hml hv
  obtain ⟨rfl, hsz, hP, hK, hD0⟩ := hv
  have hx := B.exec
  have hb := B.bytes
  have hr := B.returns
  have hts := atoms_spec (ws := wsX3_add) B.pre
  have hown : s.vm.findClass RX3 = some m.cls := findClass_of_methodNamed B.named
  have hlocks := B.notSynchronized
  subst hsz
  have hD := hD0.self (sz := s.heap.size)
  generalize hAe : va_A (kwT ad cI K) s.heap.size = A at hD ⊢
  have hA : ∀ q : Nat, s.heap.size ≤ q → A q := fun q h => by rw [← hAe]; exact Or.inr h
  have hS : va_S A s.heap s.heap [] := va_S.rf
  have hinX3 : ∀ w ∈ u_ws RX3 TX3 4, w ∈ wsX3_add := by decide +kernel
  have hl := lv_entry ([.ref (ad 22), .int a9, .int b9, .int c9]) (n := 4) (Nat.le_of_ble_eq_true rfl)
  rw [lg_entry_eq]
  generalize (lg_sl ([.ref (ad 22), .int a9, .int b9, .int c9]) ++ List.replicate (4 - (lg_sl ([.ref (ad 22), .int a9, .int b9, .int c9])).length) Slot.unset).toArray = ls at hl ⊢
  have hl : lv_has ls 4 [(0, .ref (ad 22)), (1, .int a9), (2, .int b9), (3, .int c9)] := hl
  refine lv_aload_n hx hb dX3_add_0 rfl (lv_at hl 0 rfl) ?_
  refine va_get (D := D) (ci := 3) (v := .int (K 22 0)) (C := RX3) (T := TX3) (N := 4) hx hb hts hinX3 hown hK hP 0 rfl rfl 0 (by decide) (hts (.fieldLink RX3 9 "AuditoriumKeys$Sales" "count" "I") (List.mem_of_getElem? (i := 1) rfl)) (fun _ h9 => h9) rfl dX3_add_1 ?_
  refine zz_top (y := nI n9) hc9 ?_
  refine lv_sipush (v := nI 170) hx hb dX3_add_4 (by decide) ?_
  refine lv_icmp_lt (tgt := 11) hx hb dX3_add_7 (by decide) (fun c_1 => ?_) (fun c_1 => ?_)
  · skip
    have c_1 := (nI_ltI (a := n9) (b := 170) (by omega) (by omega)).mp c_1
    refine lv_aload_n hx hb dX3_add_11 rfl (lv_at hl 0 rfl) ?_
    refine va_get (D := D) (ci := 3) (v := .ref (ad 23)) (C := RX3) (T := TX3) (N := 4) hx hb hts hinX3 hown hK hP 0 rfl rfl 1 (by decide) (hts (.fieldLink RX3 15 "AuditoriumKeys$Sales" "first" "[I") (List.mem_of_getElem? (i := 2) rfl)) (fun _ h9 => h9) rfl dX3_add_12 ?_
    refine lv_aload_n hx hb dX3_add_15 rfl (lv_at hl 0 rfl) ?_
    refine va_get (D := D) (ci := 3) (v := .int (K 22 0)) (C := RX3) (T := TX3) (N := 4) hx hb hts hinX3 hown hK hP 0 rfl rfl 0 (by decide) (hts (.fieldLink RX3 9 "AuditoriumKeys$Sales" "count" "I") (List.mem_of_getElem? (i := 1) rfl)) (fun _ h9 => h9) rfl dX3_add_16 ?_
    refine zz_top (y := nI n9) hc9 ?_
    refine lv_iload_n hx hb dX3_add_19 rfl (lv_at hl 1 rfl) ?_
    refine zz_iast hx hb hK hP hD hS 1 0 rfl rfl n9 (by omega) (by decide) dX3_add_20 (fun H locs hP hD hS => ?_)
    have hP : va_P D vwCl (kwT ad cI (setA K 23 (upd (K 23) n9 a9))) _ := hP
    have hD : va_D A (kwT ad cI (setA K 23 (upd (K 23) n9 a9))) := hD
    refine lv_aload_n hx hb dX3_add_21 rfl (lv_at hl 0 rfl) ?_
    refine va_get (D := D) (ci := 3) (v := .ref (ad 24)) (C := RX3) (T := TX3) (N := 4) hx hb hts hinX3 hown hK hP 0 rfl rfl 2 (by decide) (hts (.fieldLink RX3 19 "AuditoriumKeys$Sales" "many" "[I") (List.mem_of_getElem? (i := 3) rfl)) (fun _ h9 => h9) rfl dX3_add_22 ?_
    refine lv_aload_n hx hb dX3_add_25 rfl (lv_at hl 0 rfl) ?_
    refine va_get (D := D) (ci := 3) (v := .int (K 22 0)) (C := RX3) (T := TX3) (N := 4) hx hb hts hinX3 hown hK hP 0 rfl rfl 0 (by decide) (hts (.fieldLink RX3 9 "AuditoriumKeys$Sales" "count" "I") (List.mem_of_getElem? (i := 1) rfl)) (fun _ h9 => h9) rfl dX3_add_26 ?_
    refine zz_top (y := nI n9) hc9 ?_
    refine lv_iload_n hx hb dX3_add_29 rfl (lv_at hl 2 rfl) ?_
    refine zz_iast hx hb hK hP hD hS 2 0 rfl rfl n9 (by omega) (by decide) dX3_add_30 (fun H locs hP hD hS => ?_)
    have hP : va_P D vwCl (kwT ad cI (setA (setA K 23 (upd (K 23) n9 a9)) 24 (upd (K 24) n9 b9))) _ := hP
    have hD : va_D A (kwT ad cI (setA (setA K 23 (upd (K 23) n9 a9)) 24 (upd (K 24) n9 b9))) := hD
    refine lv_aload_n hx hb dX3_add_31 rfl (lv_at hl 0 rfl) ?_
    refine va_get (D := D) (ci := 3) (v := .ref (ad 25)) (C := RX3) (T := TX3) (N := 4) hx hb hts hinX3 hown hK hP 0 rfl rfl 3 (by decide) (hts (.fieldLink RX3 22 "AuditoriumKeys$Sales" "buyer" "[I") (List.mem_of_getElem? (i := 4) rfl)) (fun _ h9 => h9) rfl dX3_add_32 ?_
    refine lv_aload_n hx hb dX3_add_35 rfl (lv_at hl 0 rfl) ?_
    refine va_get (D := D) (ci := 3) (v := .int (K 22 0)) (C := RX3) (T := TX3) (N := 4) hx hb hts hinX3 hown hK hP 0 rfl rfl 0 (by decide) (hts (.fieldLink RX3 9 "AuditoriumKeys$Sales" "count" "I") (List.mem_of_getElem? (i := 1) rfl)) (fun _ h9 => h9) rfl dX3_add_36 ?_
    refine zz_top (y := nI n9) hc9 ?_
    refine lv_iload_n hx hb dX3_add_39 rfl (lv_at hl 3 rfl) ?_
    refine zz_iast hx hb hK hP hD hS 3 0 rfl rfl n9 (by omega) (by decide) dX3_add_40 (fun H locs hP hD hS => ?_)
    have hP : va_P D vwCl (kwT ad cI (setA (setA (setA K 23 (upd (K 23) n9 a9)) 24 (upd (K 24) n9 b9)) 25 (upd (K 25) n9 c9))) _ := hP
    have hD : va_D A (kwT ad cI (setA (setA (setA K 23 (upd (K 23) n9 a9)) 24 (upd (K 24) n9 b9)) 25 (upd (K 25) n9 c9))) := hD
    refine lv_aload_n hx hb dX3_add_41 rfl (lv_at hl 0 rfl) ?_
    refine lv_dup hx hb dX3_add_42 rfl ?_
    refine va_get (D := D) (ci := 3) (v := .int (K 22 0)) (C := RX3) (T := TX3) (N := 4) hx hb hts hinX3 hown hK hP 0 rfl rfl 0 (by decide) (hts (.fieldLink RX3 9 "AuditoriumKeys$Sales" "count" "I") (List.mem_of_getElem? (i := 1) rfl)) (fun _ h9 => h9) rfl dX3_add_43 ?_
    refine zz_top (y := nI n9) hc9 ?_
    refine lv_iconst (v := nI 1) hx hb dX3_add_46 (by decide) ?_
    refine lv_iadd hx hb dX3_add_47 ?_
    refine zz_top (y := nI (n9 + 1)) ((nI_add n9 1).trans (congrArg nI (by omega))) ?_
    refine va_put (D := D) (ci := 3) (v := .int (nI (n9 + 1))) (ty := .int) (C := RX3) (T := TX3) (N := 4) hx hb hts hinX3 tyX3 tyX3_ok nmX3 hown hK hP hD hS 0 rfl rfl 0 (by decide) (hts (.fieldLink RX3 9 "AuditoriumKeys$Sales" "count" "I") (List.mem_of_getElem? (i := 1) rfl)) (fun _ h9 => h9) rfl (by decide +kernel) rfl rfl (Nat.le_of_ble_eq_true rfl) dX3_add_48 (fun H locs hP hD hS => ?_)
    have hP : va_P D vwCl (kwT ad cI (setA (setA (setA (setA K 23 (upd (K 23) n9 a9)) 24 (upd (K 24) n9 b9)) 25 (upd (K 25) n9 c9)) 22 (upd (K 22) 0 (nI (n9 + 1))))) _ := hP
    have hD : va_D A (kwT ad cI (setA (setA (setA (setA K 23 (upd (K 23) n9 a9)) 24 (upd (K 24) n9 b9)) 25 (upd (K 25) n9 c9)) 22 (upd (K 22) 0 (nI (n9 + 1))))) := hD
    have eK9 : (kSale K n9 a9 b9 c9) = (setA (setA (setA (setA K 23 (upd (K 23) n9 a9)) 24 (upd (K 24) n9 b9)) 25 (upd (K 25) n9 c9)) 22 (upd (K 22) 0 (nI (n9 + 1)))) := rfl
    have hP9 := hP
    have hD9 := hD
    rw [← eK9] at hP9 hD9
    exact W.vret hx hb hr (fun t ht hW => ⟨⟨(), rfl, trivial, by rw [ht]; exact hP9, va_K.moved hW.alike hK, hD9⟩, hS.F ht⟩) hS.2.2 dX3_add_51
  · skip
    have c_1 : ¬ n9 < 170 := fun h => c_1 ((nI_ltI (a := n9) (b := 170) (by omega) (by omega)).mpr h)
    exact absurd hn9 c_1
set_option maxHeartbeats 4000000 in
set_option maxRecDepth 100000 in
theorem kX3_lastBuyerOf (l : Launch) (D : va_G) (cI cZ : ClassId) (ad : Nat → Nat) (K : kS) (x : Int32) (n9 : Nat) (hn9 : n9 ≤ 170) (hc9 : K 22 0 = nI n9) : Met l yX3_lastBuyerOf wsX3_lastBuyerOf ({ frames := 0, cells := 0, slots := 0, locals := 0 }) (va_Pc [.ref (ad 22), .int x] (zRd D (zTy cI cZ) (kwT ad cI K))) (vp_Si (fun r => r = tLast K x n9)) 0 0 (fun _ => False) := by
  refine Met.ofW (cc := cX3_lastBuyerOf) (maxL := 4) (ret := (some .int)) (by decide) rfl ?_
  intro pP e s m args below meth c s₁ B hml hv
  obtain ⟨rfl, hP, hK⟩ := hv
  have hx := B.exec
  have hb := B.bytes
  have hr := B.returns
  have hts := atoms_spec (ws := wsX3_lastBuyerOf) B.pre
  have hown : s.vm.findClass RX3 = some m.cls := findClass_of_methodNamed B.named
  have hlocks := B.notSynchronized
  have hinX3 : ∀ w ∈ u_ws RX3 TX3 4, w ∈ wsX3_lastBuyerOf := by decide +kernel
  have hl := lv_entry ([.ref (ad 22), .int x]) (n := 4) (Nat.le_of_ble_eq_true rfl)
  rw [lg_entry_eq]
  generalize (lg_sl ([.ref (ad 22), .int x]) ++ List.replicate (4 - (lg_sl ([.ref (ad 22), .int x])).length) Slot.unset).toArray = ls at hl ⊢
  have hl : lv_has ls 4 [(0, .ref (ad 22)), (1, .int x)] := hl
  refine lv_iconst (v := (-1)) hx hb dX3_lastBuyerOf_0 (by decide) ?_
  refine lv_istore_n (lv' := [(2, .int (-1)), (0, .ref (ad 22)), (1, .int x)]) hx hb dX3_lastBuyerOf_1 rfl hl (by decide) rfl (fun ls hl => ?_)
  refine lv_iconst (v := nI 0) hx hb dX3_lastBuyerOf_2 (by decide) ?_
  refine lv_istore_n (lv' := [(3, .int (nI 0)), (2, .int (-1)), (0, .ref (ad 22)), (1, .int x)]) hx hb dX3_lastBuyerOf_3 rfl hl (by decide) rfl (fun ls hl => ?_)
  have lp_a : ∀ (n i : Nat), 0 ≤ i → i ≤ n9 → n9 - i < n → ∀ ls : Array Slot, lv_has ls 4 [(3, .int (nI i)), (2, .int (tLast K x i)), (0, .ref (ad 22)), (1, .int x)] → W pP l e ({ frames := 0, cells := 0, slots := 0, locals := 0 } : Room) s m ([.ref (ad 22), .int x] : List Value).toArray below meth c s.heap [] 0 0 (MQ below (vp_Si (fun r => r = tLast K x n9)) ([.ref (ad 22), .int x] : List Value).toArray s 0 0 (fun _ => False)) (F0 m 4 ls []) := by
    intro n
    induction n with
    | zero => intro i _ _ h; exact absurd h (Nat.not_lt_zero _)
    | succ n ih_a =>
      intro i hlo_a hin_a hdn_a  ls hl
      refine lv_iload_n hx hb dX3_lastBuyerOf_4 rfl (lv_at hl 0 rfl) ?_
      refine lv_aload_n hx hb dX3_lastBuyerOf_5 rfl (lv_at hl 2 rfl) ?_
      refine va_get (D := D) (ci := 3) (v := .int (K 22 0)) (C := RX3) (T := TX3) (N := 4) hx hb hts hinX3 hown hK hP 0 rfl rfl 0 (by decide) (hts (.fieldLink RX3 9 "AuditoriumKeys$Sales" "count" "I") (List.mem_of_getElem? (i := 1) rfl)) (fun _ h9 => h9) rfl dX3_lastBuyerOf_6 ?_
      refine zz_top (y := nI n9) hc9 ?_
      refine lv_icmp_ge (tgt := 52) hx hb dX3_lastBuyerOf_9 (by decide) (fun c_1 => ?_) (fun c_1 => ?_)
      · skip
        have c_1 := (nI_leI (a := n9) (b := i) (by omega) (by omega)).mp c_1
        have hi8 : i = n9 := by omega
        refine lv_iload_n hx hb dX3_lastBuyerOf_52 rfl (lv_at hl 1 rfl) ?_
        exact W.iret (v := tLast K x i) hx hb hr (fun t ht hW => ⟨_, rfl, (by rw [hi8]), ht⟩) (fun _ h => nomatch h) dX3_lastBuyerOf_53
      · skip
        have c_1 : ¬ n9 ≤ i := fun h => c_1 ((nI_leI (a := n9) (b := i) (by omega) (by omega)).mpr h)
        refine lv_aload_n hx hb dX3_lastBuyerOf_12 rfl (lv_at hl 2 rfl) ?_
        refine va_get (D := D) (ci := 3) (v := .ref (ad 23)) (C := RX3) (T := TX3) (N := 4) hx hb hts hinX3 hown hK hP 0 rfl rfl 1 (by decide) (hts (.fieldLink RX3 15 "AuditoriumKeys$Sales" "first" "[I") (List.mem_of_getElem? (i := 2) rfl)) (fun _ h9 => h9) rfl dX3_lastBuyerOf_13 ?_
        refine lv_iload_n hx hb dX3_lastBuyerOf_16 rfl (lv_at hl 0 rfl) ?_
        refine zz_iald hx hb hK hP 1 0 rfl rfl i (by omega) (by decide) dX3_lastBuyerOf_17 ?_
        refine lv_iload_n hx hb dX3_lastBuyerOf_18 rfl (lv_at hl 3 rfl) ?_
        refine lv_icmp_gt (tgt := 46) hx hb dX3_lastBuyerOf_19 (by decide) (fun c_2 => ?_) (fun c_2 => ?_)
        · skip
          have c_2 : x < K 23 i := c_2
          refine lv_iinc (v := nI (i + 1)) (lv' := [(3, .int (nI (i + 1))), (2, .int (tLast K x i)), (0, .ref (ad 22)), (1, .int x)]) hx hb dX3_lastBuyerOf_46 hl (k := 0) rfl ((show nI i + Int32.ofInt 1 = nI i + nI 1 from rfl).trans (nI_add _ _)) (by decide) rfl (fun ls hl => ?_)
          refine lv_goto (tgt := 4) hx hb dX3_lastBuyerOf_49 (by decide) ?_
          have es_3 : tLast K x (i + 1) = tLast K x i := (by simp [tLast, c_1, c_2])
          exact ih_a (i + 1) (by omega) (by omega) (by omega)  ls (by rw [es_3]; exact lv_sub hl [0, 1, 2, 3] rfl)
        · skip
          have c_2 : ¬ x < K 23 i := c_2
          refine lv_iload_n hx hb dX3_lastBuyerOf_22 rfl (lv_at hl 3 rfl) ?_
          refine lv_aload_n hx hb dX3_lastBuyerOf_23 rfl (lv_at hl 2 rfl) ?_
          refine va_get (D := D) (ci := 3) (v := .ref (ad 23)) (C := RX3) (T := TX3) (N := 4) hx hb hts hinX3 hown hK hP 0 rfl rfl 1 (by decide) (hts (.fieldLink RX3 15 "AuditoriumKeys$Sales" "first" "[I") (List.mem_of_getElem? (i := 2) rfl)) (fun _ h9 => h9) rfl dX3_lastBuyerOf_24 ?_
          refine lv_iload_n hx hb dX3_lastBuyerOf_27 rfl (lv_at hl 0 rfl) ?_
          refine zz_iald hx hb hK hP 1 0 rfl rfl i (by omega) (by decide) dX3_lastBuyerOf_28 ?_
          refine lv_aload_n hx hb dX3_lastBuyerOf_29 rfl (lv_at hl 2 rfl) ?_
          refine va_get (D := D) (ci := 3) (v := .ref (ad 24)) (C := RX3) (T := TX3) (N := 4) hx hb hts hinX3 hown hK hP 0 rfl rfl 2 (by decide) (hts (.fieldLink RX3 19 "AuditoriumKeys$Sales" "many" "[I") (List.mem_of_getElem? (i := 3) rfl)) (fun _ h9 => h9) rfl dX3_lastBuyerOf_30 ?_
          refine lv_iload_n hx hb dX3_lastBuyerOf_33 rfl (lv_at hl 0 rfl) ?_
          refine zz_iald hx hb hK hP 2 0 rfl rfl i (by omega) (by decide) dX3_lastBuyerOf_34 ?_
          refine lv_iadd hx hb dX3_lastBuyerOf_35 ?_
          refine lv_icmp_ge (tgt := 46) hx hb dX3_lastBuyerOf_36 (by decide) (fun c_4 => ?_) (fun c_4 => ?_)
          · skip
            have c_4 : (K 23 i) + (K 24 i) ≤ x := c_4
            refine lv_iinc (v := nI (i + 1)) (lv' := [(3, .int (nI (i + 1))), (2, .int (tLast K x i)), (0, .ref (ad 22)), (1, .int x)]) hx hb dX3_lastBuyerOf_46 hl (k := 0) rfl ((show nI i + Int32.ofInt 1 = nI i + nI 1 from rfl).trans (nI_add _ _)) (by decide) rfl (fun ls hl => ?_)
            refine lv_goto (tgt := 4) hx hb dX3_lastBuyerOf_49 (by decide) ?_
            have es_5 : tLast K x (i + 1) = tLast K x i := (by simp [tLast, c_1, c_2, c_4])
            exact ih_a (i + 1) (by omega) (by omega) (by omega)  ls (by rw [es_5]; exact lv_sub hl [0, 1, 2, 3] rfl)
          · skip
            have c_4 : ¬ (K 23 i) + (K 24 i) ≤ x := c_4
            refine lv_aload_n hx hb dX3_lastBuyerOf_39 rfl (lv_at hl 2 rfl) ?_
            refine va_get (D := D) (ci := 3) (v := .ref (ad 25)) (C := RX3) (T := TX3) (N := 4) hx hb hts hinX3 hown hK hP 0 rfl rfl 3 (by decide) (hts (.fieldLink RX3 22 "AuditoriumKeys$Sales" "buyer" "[I") (List.mem_of_getElem? (i := 4) rfl)) (fun _ h9 => h9) rfl dX3_lastBuyerOf_40 ?_
            refine lv_iload_n hx hb dX3_lastBuyerOf_43 rfl (lv_at hl 0 rfl) ?_
            refine zz_iald hx hb hK hP 3 0 rfl rfl i (by omega) (by decide) dX3_lastBuyerOf_44 ?_
            refine lv_istore_n (lv' := [(2, .int (K 25 i)), (3, .int (nI i)), (0, .ref (ad 22)), (1, .int x)]) hx hb dX3_lastBuyerOf_45 rfl hl (by decide) rfl (fun ls hl => ?_)
            refine lv_iinc (v := nI (i + 1)) (lv' := [(3, .int (nI (i + 1))), (2, .int (K 25 i)), (0, .ref (ad 22)), (1, .int x)]) hx hb dX3_lastBuyerOf_46 hl (k := 1) rfl ((show nI i + Int32.ofInt 1 = nI i + nI 1 from rfl).trans (nI_add _ _)) (by decide) rfl (fun ls hl => ?_)
            refine lv_goto (tgt := 4) hx hb dX3_lastBuyerOf_49 (by decide) ?_
            have es_6 : tLast K x (i + 1) = K 25 i := (by simp [tLast, c_1, c_2, c_4])
            exact ih_a (i + 1) (by omega) (by omega) (by omega)  ls (by rw [es_6]; exact lv_sub hl [0, 1, 2, 3] rfl)
  have ei_a_2 : tLast K x 0 = (-1) := rfl
  exact lp_a (n9 - 0 + 1) 0 (by omega) (by omega) (by omega)  ls (by rw [ei_a_2]; exact lv_sub hl [0, 1, 2, 3] rfl)
set_option maxHeartbeats 4000000 in
set_option maxRecDepth 100000 in
theorem kX4_stateOf (l : Launch) (D : va_G) (cI cZ : ClassId) (ad : Nat → Nat) (K : kS) (s9 : Nat) (hs9 : s9 < 60) : Met l yX4_stateOf wsX4_stateOf ({ frames := 0, cells := 0, slots := 0, locals := 0 }) (va_Pc [.ref (ad 16), .int (nI s9)] (zRd D (zTy cI cZ) (kwS ad cI cZ K))) (vp_Si (fun r => r = sState K s9)) 0 0 (fun _ => False) := by
  refine Met.ofW (cc := cX4_stateOf) (maxL := 2) (ret := (some .int)) (by decide) rfl ?_
  intro pP e s m args below meth c s₁ B hml hv
  obtain ⟨rfl, hP, hK⟩ := hv
  have hx := B.exec
  have hb := B.bytes
  have hr := B.returns
  have hts := atoms_spec (ws := wsX4_stateOf) B.pre
  have hown : s.vm.findClass RX4 = some m.cls := findClass_of_methodNamed B.named
  have hlocks := B.notSynchronized
  have hinX4 : ∀ w ∈ u_ws RX4 TX4 5, w ∈ wsX4_stateOf := by decide +kernel
  have hl := lv_entry ([.ref (ad 16), .int (nI s9)]) (n := 2) (Nat.le_of_ble_eq_true rfl)
  rw [lg_entry_eq]
  generalize (lg_sl ([.ref (ad 16), .int (nI s9)]) ++ List.replicate (2 - (lg_sl ([.ref (ad 16), .int (nI s9)])).length) Slot.unset).toArray = ls at hl ⊢
  have hl : lv_has ls 2 [(0, .ref (ad 16)), (1, .int (nI s9))] := hl
  refine lv_aload_n hx hb dX4_stateOf_0 rfl (lv_at hl 0 rfl) ?_
  refine va_get (D := D) (ci := 4) (v := .ref (ad 17)) (C := RX4) (T := TX4) (N := 5) hx hb hts hinX4 hown hK hP 0 rfl rfl 0 (by decide) (hts (.fieldLink RX4 9 "AuditoriumKeys$Seats" "held" "[Z") (List.mem_of_getElem? (i := 1) rfl)) (fun _ h9 => h9) rfl dX4_stateOf_1 ?_
  refine lv_iload_n hx hb dX4_stateOf_4 rfl (lv_at hl 1 rfl) ?_
  refine zz_zald hx hb hK hP 1 1 rfl rfl s9 (by omega) (by decide) dX4_stateOf_5 ?_
  refine lv_if_eq (tgt := 11) hx hb dX4_stateOf_6 (by decide) (fun c_1 => ?_) (fun c_1 => ?_)
  · skip
    have c_1 : K 17 s9 = 0 := c_1
    refine lv_aload_n hx hb dX4_stateOf_11 rfl (lv_at hl 0 rfl) ?_
    refine va_get (D := D) (ci := 4) (v := .ref (ad 19)) (C := RX4) (T := TX4) (N := 5) hx hb hts hinX4 hown hK hP 0 rfl rfl 2 (by decide) (hts (.fieldLink RX4 18 "AuditoriumKeys$Seats" "owner" "[I") (List.mem_of_getElem? (i := 2) rfl)) (fun _ h9 => h9) rfl dX4_stateOf_12 ?_
    refine lv_iload_n hx hb dX4_stateOf_15 rfl (lv_at hl 1 rfl) ?_
    refine zz_iald hx hb hK hP 3 0 rfl rfl s9 (by omega) (by decide) dX4_stateOf_16 ?_
    refine lv_iconst (v := (-1)) hx hb dX4_stateOf_17 (by decide) ?_
    refine lv_icmp_ne (tgt := 23) hx hb dX4_stateOf_18 (by decide) (fun c_2 => ?_) (fun c_2 => ?_)
    · skip
      have c_2 : ¬ K 19 s9 = (-1) := c_2
      refine lv_aload_n hx hb dX4_stateOf_23 rfl (lv_at hl 0 rfl) ?_
      refine va_get (D := D) (ci := 4) (v := .ref (ad 18)) (C := RX4) (T := TX4) (N := 5) hx hb hts hinX4 hown hK hP 0 rfl rfl 1 (by decide) (hts (.fieldLink RX4 15 "AuditoriumKeys$Seats" "offered" "[Z") (List.mem_of_getElem? (i := 3) rfl)) (fun _ h9 => h9) rfl dX4_stateOf_24 ?_
      refine lv_iload_n hx hb dX4_stateOf_27 rfl (lv_at hl 1 rfl) ?_
      refine zz_zald hx hb hK hP 2 1 rfl rfl s9 (by omega) (by decide) dX4_stateOf_28 ?_
      refine lv_if_eq (tgt := 36) hx hb dX4_stateOf_29 (by decide) (fun c_3 => ?_) (fun c_3 => ?_)
      · skip
        have c_3 : K 18 s9 = 0 := c_3
        refine lv_iconst (v := nI 2) hx hb dX4_stateOf_36 (by decide) ?_
        exact W.iret (v := nI 2) hx hb hr (fun t ht hW => ⟨_, rfl, (by simp [sState, eq_true c_1, c_2, eq_true c_3]), ht⟩) (fun _ h => nomatch h) dX4_stateOf_37
      · skip
        have c_3 : ¬ K 18 s9 = 0 := c_3
        refine lv_iconst (v := nI 3) hx hb dX4_stateOf_32 (by decide) ?_
        refine lv_goto (tgt := 37) hx hb dX4_stateOf_33 (by decide) ?_
        exact W.iret (v := nI 3) hx hb hr (fun t ht hW => ⟨_, rfl, (by simp [sState, eq_true c_1, c_2, c_3]), ht⟩) (fun _ h => nomatch h) dX4_stateOf_37
    · skip
      have c_2 : K 19 s9 = (-1) := c_2
      refine lv_iconst (v := nI 0) hx hb dX4_stateOf_21 (by decide) ?_
      exact W.iret (v := nI 0) hx hb hr (fun t ht hW => ⟨_, rfl, (by simp [sState, eq_true c_1, eq_true c_2]), ht⟩) (fun _ h => nomatch h) dX4_stateOf_22
  · skip
    have c_1 : ¬ K 17 s9 = 0 := c_1
    refine lv_iconst (v := nI 1) hx hb dX4_stateOf_9 (by decide) ?_
    exact W.iret (v := nI 1) hx hb hr (fun t ht hW => ⟨_, rfl, (by simp [sState, c_1]), ht⟩) (fun _ h => nomatch h) dX4_stateOf_10
set_option maxHeartbeats 4000000 in
set_option maxRecDepth 100000 in
theorem kX4_isOpen (l : Launch) (D : va_G) (cI cZ : ClassId) (ad : Nat → Nat) (K : kS) (r9 : Nat) (x : Int32) (hr9 : r9 < 6) : Met l yX4_isOpen wsX4_isOpen ({ frames := 1, cells := 0, slots := 0, locals := 21 }) (va_Pc [.ref (ad 16), .int (nI r9), .int x] (zRd D (zTy cI cZ) (kwS ad cI cZ K))) (vp_Si (fun r => r = zb (sOpen K r9 x))) 0 0 (fun _ => False) := by
  refine Met.ofW (cc := cX4_isOpen) (maxL := 4) (ret := (some .boolean)) (by decide) rfl ?_
  intro pP e s m args below meth c s₁ B hml hv
  obtain ⟨rfl, hP, hK⟩ := hv
  have hx := B.exec
  have hb := B.bytes
  have hr := B.returns
  have hts := atoms_spec (ws := wsX4_isOpen) B.pre
  have hown : s.vm.findClass RX4 = some m.cls := findClass_of_methodNamed B.named
  have hlocks := B.notSynchronized
  have hl := lv_entry ([.ref (ad 16), .int (nI r9), .int x]) (n := 4) (Nat.le_of_ble_eq_true rfl)
  rw [lg_entry_eq]
  generalize (lg_sl ([.ref (ad 16), .int (nI r9), .int x]) ++ List.replicate (4 - (lg_sl ([.ref (ad 16), .int (nI r9), .int x])).length) Slot.unset).toArray = ls at hl ⊢
  have hl : lv_has ls 4 [(0, .ref (ad 16)), (1, .int (nI r9)), (2, .int x)] := hl
  refine lv_iload_n hx hb dX4_isOpen_0 rfl (lv_at hl 2 rfl) ?_
  refine lv_if_lt (tgt := 10) hx hb dX4_isOpen_1 (by decide) (fun c_1 => ?_) (fun c_1 => ?_)
  · skip
    have c_1 : x < 0 := c_1
    refine lv_iconst (v := nI 0) hx hb dX4_isOpen_10 (by decide) ?_
    exact W.zret (v := nI 0) hx hb hr rfl (fun t ht hW => ⟨_, rfl, (by simp [sOpen, zb, c_1]), ht⟩) (fun _ h => nomatch h) dX4_isOpen_11
  · skip
    have c_1 : ¬ x < 0 := c_1
    refine lv_iload_n hx hb dX4_isOpen_4 rfl (lv_at hl 2 rfl) ?_
    refine lv_bipush (v := nI 10) hx hb dX4_isOpen_5 (by decide) ?_
    refine lv_icmp_lt (tgt := 12) hx hb dX4_isOpen_7 (by decide) (fun c_2 => ?_) (fun c_2 => ?_)
    · skip
      have c_2 : x < nI 10 := c_2
      obtain ⟨q9, hq9, hq8, hq7⟩ := zn_of (by decide) c_1 c_2
      have hq6 := hq7
      refine lv_aload_n hx hb dX4_isOpen_12 rfl (lv_at hl 0 rfl) ?_
      refine lv_bipush (v := nI 10) hx hb dX4_isOpen_13 (by decide) ?_
      refine lv_iload_n hx hb dX4_isOpen_15 rfl (lv_at hl 1 rfl) ?_
      refine lv_imul hx hb dX4_isOpen_16 ?_
      refine zz_top (y := nI (10 * r9)) ((pk_mul 10 r9).trans (congrArg nI (by first | rfl | omega | exact Nat.mul_comm _ _))) ?_
      refine lv_iload_n hx hb dX4_isOpen_17 rfl (lv_at hl 2 rfl) ?_
      refine lv_iadd hx hb dX4_isOpen_18 ?_
      refine zz_top (y := nI (10 * r9 + q9)) (by rw [hq8]; exact nI_add _ _) ?_
      refine zc_rV (As := [.int (nI (10 * r9 + q9))]) (rest := []) ⟨hx, hb, hml, hown, hts⟩ (kX4_stateOf l D cI cZ ad K (10 * r9 + q9) (by omega)) (cwV 1 hts gX4_isOpen_X4_stateOf rfl rfl rfl (by decide +kernel) ⟨(Nat.le_of_ble_eq_true rfl), (Nat.le_of_ble_eq_true rfl)⟩) hK hP (ci := 4) (q0 := 0) rfl rfl rfl rfl hl.1 rfl (Nat.le_of_ble_eq_true rfl) dX4_isOpen_19 ⟨Nat.zero_le _, Nat.zero_le _⟩ ?_
      refine lv_istore_n (lv' := [(3, .int (sState K (10 * r9 + q9))), (0, .ref (ad 16)), (1, .int (nI r9)), (2, .int x)]) hx hb dX4_isOpen_22 rfl hl (by decide) rfl (fun ls hl => ?_)
      refine lv_iload_n hx hb dX4_isOpen_23 rfl (lv_at hl 0 rfl) ?_
      refine lv_if_eq (tgt := 32) hx hb dX4_isOpen_24 (by decide) (fun c_3 => ?_) (fun c_3 => ?_)
      · skip
        have c_3 : sState K (10 * r9 + q9) = 0 := c_3
        refine lv_iconst (v := nI 1) hx hb dX4_isOpen_32 (by decide) ?_
        refine lv_goto (tgt := 37) hx hb dX4_isOpen_33 (by decide) ?_
        exact W.zret (v := nI 1) hx hb hr rfl (fun t ht hW => ⟨_, rfl, (by simp [sOpen, zb, c_1, c_2, hq7, hq6, eq_true c_3]), ht⟩) (fun _ h => nomatch h) dX4_isOpen_37
      · skip
        have c_3 : ¬ sState K (10 * r9 + q9) = 0 := c_3
        refine lv_iload_n hx hb dX4_isOpen_27 rfl (lv_at hl 0 rfl) ?_
        refine lv_iconst (v := nI 3) hx hb dX4_isOpen_28 (by decide) ?_
        refine lv_icmp_ne (tgt := 36) hx hb dX4_isOpen_29 (by decide) (fun c_4 => ?_) (fun c_4 => ?_)
        · skip
          have c_4 : ¬ sState K (10 * r9 + q9) = nI 3 := c_4
          refine lv_iconst (v := nI 0) hx hb dX4_isOpen_36 (by decide) ?_
          exact W.zret (v := nI 0) hx hb hr rfl (fun t ht hW => ⟨_, rfl, (by simp [sOpen, zb, c_1, c_2, hq7, hq6, c_3, c_4]), ht⟩) (fun _ h => nomatch h) dX4_isOpen_37
        · skip
          have c_4 : sState K (10 * r9 + q9) = nI 3 := c_4
          refine lv_iconst (v := nI 1) hx hb dX4_isOpen_32 (by decide) ?_
          refine lv_goto (tgt := 37) hx hb dX4_isOpen_33 (by decide) ?_
          exact W.zret (v := nI 1) hx hb hr rfl (fun t ht hW => ⟨_, rfl, (by simp [sOpen, zb, c_1, c_2, hq7, hq6, c_3, eq_true c_4]), ht⟩) (fun _ h => nomatch h) dX4_isOpen_37
    · skip
      have c_2 : ¬ x < nI 10 := c_2
      refine lv_iconst (v := nI 0) hx hb dX4_isOpen_10 (by decide) ?_
      exact W.zret (v := nI 0) hx hb hr rfl (fun t ht hW => ⟨_, rfl, (by simp [sOpen, zb, c_1, c_2]), ht⟩) (fun _ h => nomatch h) dX4_isOpen_11
set_option maxHeartbeats 4000000 in
set_option maxRecDepth 100000 in
theorem kX4_leavesSingle (l : Launch) (D : va_G) (cI cZ : ClassId) (ad : Nat → Nat) (K : kS) (r9 : Nat) (q9 : Nat) (m9 : Nat) (hr9 : r9 < 6) : Met l yX4_leavesSingle wsX4_leavesSingle ({ frames := 2, cells := 0, slots := 0, locals := 44 }) (va_Pc [.ref (ad 16), .int (nI r9), .int (nI q9), .int (nI m9)] (zRd D (zTy cI cZ) (kwS ad cI cZ K))) (vp_Si (fun r => r = zb (sLeaves K r9 q9 m9))) 0 0 (fun _ => False) := by
  refine Met.ofW (cc := cX4_leavesSingle) (maxL := 5) (ret := (some .boolean)) (by decide) rfl ?_
  intro pP e s m args below meth c s₁ B hml hv
  obtain ⟨rfl, hP, hK⟩ := hv
  have hx := B.exec
  have hb := B.bytes
  have hr := B.returns
  have hts := atoms_spec (ws := wsX4_leavesSingle) B.pre
  have hown : s.vm.findClass RX4 = some m.cls := findClass_of_methodNamed B.named
  have hlocks := B.notSynchronized
  have hl := lv_entry ([.ref (ad 16), .int (nI r9), .int (nI q9), .int (nI m9)]) (n := 5) (Nat.le_of_ble_eq_true rfl)
  rw [lg_entry_eq]
  generalize (lg_sl ([.ref (ad 16), .int (nI r9), .int (nI q9), .int (nI m9)]) ++ List.replicate (5 - (lg_sl ([.ref (ad 16), .int (nI r9), .int (nI q9), .int (nI m9)])).length) Slot.unset).toArray = ls at hl ⊢
  have hl : lv_has ls 5 [(0, .ref (ad 16)), (1, .int (nI r9)), (2, .int (nI q9)), (3, .int (nI m9))] := hl
  refine lv_iload_n hx hb dX4_leavesSingle_0 rfl (lv_at hl 2 rfl) ?_
  refine lv_iload_n hx hb dX4_leavesSingle_1 rfl (lv_at hl 3 rfl) ?_
  refine lv_iadd hx hb dX4_leavesSingle_2 ?_
  refine zz_top (y := nI (q9 + m9)) ((nI_add q9 m9).trans (congrArg nI (by omega))) ?_
  refine lv_istore (lv' := [(4, .int (nI (q9 + m9))), (0, .ref (ad 16)), (1, .int (nI r9)), (2, .int (nI q9)), (3, .int (nI m9))]) hx hb dX4_leavesSingle_3 hl (by decide) rfl (fun ls hl => ?_)
  refine lv_aload_n hx hb dX4_leavesSingle_5 rfl (lv_at hl 1 rfl) ?_
  refine lv_iload_n hx hb dX4_leavesSingle_6 rfl (lv_at hl 2 rfl) ?_
  refine lv_iload_n hx hb dX4_leavesSingle_7 rfl (lv_at hl 3 rfl) ?_
  refine lv_iconst (v := nI 1) hx hb dX4_leavesSingle_8 (by decide) ?_
  refine lv_isub hx hb dX4_leavesSingle_9 ?_
  refine zc_rV (As := [.int (nI r9), .int ((nI q9) - (nI 1))]) (rest := []) ⟨hx, hb, hml, hown, hts⟩ (kX4_isOpen l D cI cZ ad K r9 ((nI q9) - (nI 1)) (by omega)) (cwV 2 hts gX4_leavesSingle_X4_isOpen rfl rfl rfl (by decide +kernel) ⟨(Nat.le_of_ble_eq_true rfl), (Nat.le_of_ble_eq_true rfl)⟩) hK hP (ci := 4) (q0 := 0) rfl rfl rfl rfl hl.1 rfl (Nat.le_of_ble_eq_true rfl) dX4_leavesSingle_10 ⟨Nat.zero_le _, Nat.zero_le _⟩ ?_
  refine lv_if_eq (tgt := 27) hx hb dX4_leavesSingle_13 (by decide) (fun c_1 => ?_) (fun c_1 => ?_)
  · skip
    have c_1 := zb_f c_1
    refine lv_aload_n hx hb dX4_leavesSingle_27 rfl (lv_at hl 1 rfl) ?_
    refine lv_iload_n hx hb dX4_leavesSingle_28 rfl (lv_at hl 2 rfl) ?_
    refine lv_iload hx hb dX4_leavesSingle_29 (lv_at hl 0 rfl) ?_
    refine zc_rV (As := [.int (nI r9), .int (nI (q9 + m9))]) (rest := []) ⟨hx, hb, hml, hown, hts⟩ (kX4_isOpen l D cI cZ ad K r9 (nI (q9 + m9)) (by omega)) (cwV 2 hts gX4_leavesSingle_X4_isOpen rfl rfl rfl (by decide +kernel) ⟨(Nat.le_of_ble_eq_true rfl), (Nat.le_of_ble_eq_true rfl)⟩) hK hP (ci := 4) (q0 := 0) rfl rfl rfl rfl hl.1 rfl (Nat.le_of_ble_eq_true rfl) dX4_leavesSingle_31 ⟨Nat.zero_le _, Nat.zero_le _⟩ ?_
    refine lv_if_eq (tgt := 53) hx hb dX4_leavesSingle_34 (by decide) (fun c_2 => ?_) (fun c_2 => ?_)
    · skip
      have c_2 := zb_f c_2
      refine lv_iconst (v := nI 0) hx hb dX4_leavesSingle_53 (by decide) ?_
      exact W.zret (v := nI 0) hx hb hr rfl (fun t ht hW => ⟨_, rfl, (by simp [sLeaves, zb, c_1, c_2]), ht⟩) (fun _ h => nomatch h) dX4_leavesSingle_54
    · skip
      have c_2 := zb_t c_2
      refine lv_aload_n hx hb dX4_leavesSingle_37 rfl (lv_at hl 1 rfl) ?_
      refine lv_iload_n hx hb dX4_leavesSingle_38 rfl (lv_at hl 2 rfl) ?_
      refine lv_iload hx hb dX4_leavesSingle_39 (lv_at hl 0 rfl) ?_
      refine lv_iconst (v := nI 1) hx hb dX4_leavesSingle_41 (by decide) ?_
      refine lv_iadd hx hb dX4_leavesSingle_42 ?_
      refine zz_top (y := nI ((q9 + m9) + 1)) ((nI_add (q9 + m9) 1).trans (congrArg nI (by omega))) ?_
      refine zc_rV (As := [.int (nI r9), .int (nI ((q9 + m9) + 1))]) (rest := []) ⟨hx, hb, hml, hown, hts⟩ (kX4_isOpen l D cI cZ ad K r9 (nI ((q9 + m9) + 1)) (by omega)) (cwV 2 hts gX4_leavesSingle_X4_isOpen rfl rfl rfl (by decide +kernel) ⟨(Nat.le_of_ble_eq_true rfl), (Nat.le_of_ble_eq_true rfl)⟩) hK hP (ci := 4) (q0 := 0) rfl rfl rfl rfl hl.1 rfl (Nat.le_of_ble_eq_true rfl) dX4_leavesSingle_43 ⟨Nat.zero_le _, Nat.zero_le _⟩ ?_
      refine lv_if_ne (tgt := 53) hx hb dX4_leavesSingle_46 (by decide) (fun c_3 => ?_) (fun c_3 => ?_)
      · skip
        have c_3 := zb_t c_3
        refine lv_iconst (v := nI 0) hx hb dX4_leavesSingle_53 (by decide) ?_
        exact W.zret (v := nI 0) hx hb hr rfl (fun t ht hW => ⟨_, rfl, (by simp [sLeaves, zb, c_1, c_2, c_3]), ht⟩) (fun _ h => nomatch h) dX4_leavesSingle_54
      · skip
        have c_3 := zb_f c_3
        refine lv_iconst (v := nI 1) hx hb dX4_leavesSingle_49 (by decide) ?_
        refine lv_goto (tgt := 54) hx hb dX4_leavesSingle_50 (by decide) ?_
        exact W.zret (v := nI 1) hx hb hr rfl (fun t ht hW => ⟨_, rfl, (by simp [sLeaves, zb, c_1, c_2, c_3]), ht⟩) (fun _ h => nomatch h) dX4_leavesSingle_54
  · skip
    have c_1 := zb_t c_1
    refine lv_aload_n hx hb dX4_leavesSingle_16 rfl (lv_at hl 1 rfl) ?_
    refine lv_iload_n hx hb dX4_leavesSingle_17 rfl (lv_at hl 2 rfl) ?_
    refine lv_iload_n hx hb dX4_leavesSingle_18 rfl (lv_at hl 3 rfl) ?_
    refine lv_iconst (v := nI 2) hx hb dX4_leavesSingle_19 (by decide) ?_
    refine lv_isub hx hb dX4_leavesSingle_20 ?_
    refine zc_rV (As := [.int (nI r9), .int ((nI q9) - (nI 2))]) (rest := []) ⟨hx, hb, hml, hown, hts⟩ (kX4_isOpen l D cI cZ ad K r9 ((nI q9) - (nI 2)) (by omega)) (cwV 2 hts gX4_leavesSingle_X4_isOpen rfl rfl rfl (by decide +kernel) ⟨(Nat.le_of_ble_eq_true rfl), (Nat.le_of_ble_eq_true rfl)⟩) hK hP (ci := 4) (q0 := 0) rfl rfl rfl rfl hl.1 rfl (Nat.le_of_ble_eq_true rfl) dX4_leavesSingle_21 ⟨Nat.zero_le _, Nat.zero_le _⟩ ?_
    refine lv_if_eq (tgt := 49) hx hb dX4_leavesSingle_24 (by decide) (fun c_4 => ?_) (fun c_4 => ?_)
    · skip
      have c_4 := zb_f c_4
      refine lv_iconst (v := nI 1) hx hb dX4_leavesSingle_49 (by decide) ?_
      refine lv_goto (tgt := 54) hx hb dX4_leavesSingle_50 (by decide) ?_
      exact W.zret (v := nI 1) hx hb hr rfl (fun t ht hW => ⟨_, rfl, (by simp [sLeaves, zb, c_1, c_4]), ht⟩) (fun _ h => nomatch h) dX4_leavesSingle_54
    · skip
      have c_4 := zb_t c_4
      refine lv_aload_n hx hb dX4_leavesSingle_27 rfl (lv_at hl 1 rfl) ?_
      refine lv_iload_n hx hb dX4_leavesSingle_28 rfl (lv_at hl 2 rfl) ?_
      refine lv_iload hx hb dX4_leavesSingle_29 (lv_at hl 0 rfl) ?_
      refine zc_rV (As := [.int (nI r9), .int (nI (q9 + m9))]) (rest := []) ⟨hx, hb, hml, hown, hts⟩ (kX4_isOpen l D cI cZ ad K r9 (nI (q9 + m9)) (by omega)) (cwV 2 hts gX4_leavesSingle_X4_isOpen rfl rfl rfl (by decide +kernel) ⟨(Nat.le_of_ble_eq_true rfl), (Nat.le_of_ble_eq_true rfl)⟩) hK hP (ci := 4) (q0 := 0) rfl rfl rfl rfl hl.1 rfl (Nat.le_of_ble_eq_true rfl) dX4_leavesSingle_31 ⟨Nat.zero_le _, Nat.zero_le _⟩ ?_
      refine lv_if_eq (tgt := 53) hx hb dX4_leavesSingle_34 (by decide) (fun c_5 => ?_) (fun c_5 => ?_)
      · skip
        have c_5 := zb_f c_5
        refine lv_iconst (v := nI 0) hx hb dX4_leavesSingle_53 (by decide) ?_
        exact W.zret (v := nI 0) hx hb hr rfl (fun t ht hW => ⟨_, rfl, (by simp [sLeaves, zb, c_1, c_4, c_5]), ht⟩) (fun _ h => nomatch h) dX4_leavesSingle_54
      · skip
        have c_5 := zb_t c_5
        refine lv_aload_n hx hb dX4_leavesSingle_37 rfl (lv_at hl 1 rfl) ?_
        refine lv_iload_n hx hb dX4_leavesSingle_38 rfl (lv_at hl 2 rfl) ?_
        refine lv_iload hx hb dX4_leavesSingle_39 (lv_at hl 0 rfl) ?_
        refine lv_iconst (v := nI 1) hx hb dX4_leavesSingle_41 (by decide) ?_
        refine lv_iadd hx hb dX4_leavesSingle_42 ?_
        refine zz_top (y := nI ((q9 + m9) + 1)) ((nI_add (q9 + m9) 1).trans (congrArg nI (by omega))) ?_
        refine zc_rV (As := [.int (nI r9), .int (nI ((q9 + m9) + 1))]) (rest := []) ⟨hx, hb, hml, hown, hts⟩ (kX4_isOpen l D cI cZ ad K r9 (nI ((q9 + m9) + 1)) (by omega)) (cwV 2 hts gX4_leavesSingle_X4_isOpen rfl rfl rfl (by decide +kernel) ⟨(Nat.le_of_ble_eq_true rfl), (Nat.le_of_ble_eq_true rfl)⟩) hK hP (ci := 4) (q0 := 0) rfl rfl rfl rfl hl.1 rfl (Nat.le_of_ble_eq_true rfl) dX4_leavesSingle_43 ⟨Nat.zero_le _, Nat.zero_le _⟩ ?_
        refine lv_if_ne (tgt := 53) hx hb dX4_leavesSingle_46 (by decide) (fun c_6 => ?_) (fun c_6 => ?_)
        · skip
          have c_6 := zb_t c_6
          refine lv_iconst (v := nI 0) hx hb dX4_leavesSingle_53 (by decide) ?_
          exact W.zret (v := nI 0) hx hb hr rfl (fun t ht hW => ⟨_, rfl, (by simp [sLeaves, zb, c_1, c_4, c_5, c_6]), ht⟩) (fun _ h => nomatch h) dX4_leavesSingle_54
        · skip
          have c_6 := zb_f c_6
          refine lv_iconst (v := nI 1) hx hb dX4_leavesSingle_49 (by decide) ?_
          refine lv_goto (tgt := 54) hx hb dX4_leavesSingle_50 (by decide) ?_
          exact W.zret (v := nI 1) hx hb hr rfl (fun t ht hW => ⟨_, rfl, (by simp [sLeaves, zb, c_1, c_4, c_5, c_6]), ht⟩) (fun _ h => nomatch h) dX4_leavesSingle_54
set_option maxHeartbeats 4000000 in
set_option maxRecDepth 100000 in
theorem kX4_lock (l : Launch) (D : va_G) (cI cZ : ClassId) (ad : Nat → Nat) (K : kS) (sz : Nat) (f9 : Nat) (m9 : Nat) (hf9 : f9 + m9 ≤ 60) : Met l yX4_lock wsX4_lock ({ frames := 0, cells := 0, slots := 0, locals := 0 }) (va_Pc [.ref (ad 16), .int (nI f9), .int (nI m9)] (zPr D (zTy cI cZ) (kwS ad cI cZ K) sz)) (va_Qi (fun r (_ : Unit) => r = zsm (fun j => K 20 (f9 + j)) m9) (fun _ => zPo D (zTy cI cZ) (va_A (kwS ad cI cZ K) sz) (kwS ad cI cZ (kLock K f9 m9))) (va_A (kwS ad cI cZ K) sz)) 0 0 (va_A (kwS ad cI cZ K) sz) := by
  refine Met.ofW (cc := cX4_lock) (maxL := 5) (ret := (some .int)) (by decide) rfl ?_
  intro pP e s m args below meth c s₁ B hml hv
  obtain ⟨rfl, hsz, hP, hK, hD0⟩ := hv
  have hx := B.exec
  have hb := B.bytes
  have hr := B.returns
  have hts := atoms_spec (ws := wsX4_lock) B.pre
  have hown : s.vm.findClass RX4 = some m.cls := findClass_of_methodNamed B.named
  have hlocks := B.notSynchronized
  subst hsz
  have hD := hD0.self (sz := s.heap.size)
  generalize hAe : va_A (kwS ad cI cZ K) s.heap.size = A at hD ⊢
  have hA : ∀ q : Nat, s.heap.size ≤ q → A q := fun q h => by rw [← hAe]; exact Or.inr h
  have hS : va_S A s.heap s.heap [] := va_S.rf
  have hinX4 : ∀ w ∈ u_ws RX4 TX4 5, w ∈ wsX4_lock := by decide +kernel
  have hl := lv_entry ([.ref (ad 16), .int (nI f9), .int (nI m9)]) (n := 5) (Nat.le_of_ble_eq_true rfl)
  rw [lg_entry_eq]
  generalize (lg_sl ([.ref (ad 16), .int (nI f9), .int (nI m9)]) ++ List.replicate (5 - (lg_sl ([.ref (ad 16), .int (nI f9), .int (nI m9)])).length) Slot.unset).toArray = ls at hl ⊢
  have hl : lv_has ls 5 [(0, .ref (ad 16)), (1, .int (nI f9)), (2, .int (nI m9))] := hl
  refine lv_iconst (v := nI 0) hx hb dX4_lock_0 (by decide) ?_
  refine lv_istore_n (lv' := [(3, .int (nI 0)), (0, .ref (ad 16)), (1, .int (nI f9)), (2, .int (nI m9))]) hx hb dX4_lock_1 rfl hl (by decide) rfl (fun ls hl => ?_)
  refine lv_iload_n hx hb dX4_lock_2 rfl (lv_at hl 2 rfl) ?_
  refine lv_istore (lv' := [(4, .int (nI f9)), (3, .int (nI 0)), (0, .ref (ad 16)), (1, .int (nI f9)), (2, .int (nI m9))]) hx hb dX4_lock_3 hl (by decide) rfl (fun ls hl => ?_)
  have lp_a : ∀ (n k : Nat), 0 ≤ k → k ≤ m9 → m9 - k < n → ∀ (H : Heap) (locs : List Loc), va_P D vwCl (kwS ad cI cZ (setA K 17 (zfill (K 17) f9 k (nI 1)))) H → va_D A (kwS ad cI cZ (setA K 17 (zfill (K 17) f9 k (nI 1)))) → va_S A s.heap H locs → ∀ ls : Array Slot, lv_has ls 5 [(4, .int (nI (f9 + k))), (3, .int (zsm (fun j => K 20 (f9 + j)) k)), (0, .ref (ad 16)), (1, .int (nI f9)), (2, .int (nI m9))] → W pP l e ({ frames := 0, cells := 0, slots := 0, locals := 0 } : Room) s m ([.ref (ad 16), .int (nI f9), .int (nI m9)] : List Value).toArray below meth c H locs 0 0 (MQ below (va_Qi (fun r (_ : Unit) => r = zsm (fun j => K 20 (f9 + j)) m9) (fun _ => zPo D (zTy cI cZ) A (kwS ad cI cZ (kLock K f9 m9))) A) ([.ref (ad 16), .int (nI f9), .int (nI m9)] : List Value).toArray s 0 0 A) (F0 m 5 ls []) := by
    intro n
    induction n with
    | zero => intro k _ _ h; exact absurd h (Nat.not_lt_zero _)
    | succ n ih_a =>
      intro k hlo_a hin_a hdn_a  H locs hP hD hS ls hl
      refine lv_iload hx hb dX4_lock_5 (lv_at hl 0 rfl) ?_
      refine lv_iload_n hx hb dX4_lock_7 rfl (lv_at hl 3 rfl) ?_
      refine lv_iload_n hx hb dX4_lock_8 rfl (lv_at hl 4 rfl) ?_
      refine lv_iadd hx hb dX4_lock_9 ?_
      refine zz_top (y := nI (f9 + m9)) ((nI_add f9 m9).trans (congrArg nI (by omega))) ?_
      refine lv_icmp_ge (tgt := 37) hx hb dX4_lock_10 (by decide) (fun c_1 => ?_) (fun c_1 => ?_)
      · skip
        have c_1 := (nI_leI (a := (f9 + m9)) (b := (f9 + k)) (by omega) (by omega)).mp c_1
        have hk8 : k = m9 := by omega
        refine lv_iload_n hx hb dX4_lock_37 rfl (lv_at hl 1 rfl) ?_
        have eK9 : (kLock K f9 m9) = (setA K 17 (zfill (K 17) f9 k (nI 1))) := (by rw [hk8]; rfl)
        have hP9 := hP
        have hD9 := hD
        rw [← eK9] at hP9 hD9
        exact W.iret (v := zsm (fun j => K 20 (f9 + j)) k) hx hb hr (fun t ht hW => ⟨⟨zsm (fun j => K 20 (f9 + j)) k, (), rfl, (by rw [hk8]), by rw [ht]; exact hP9, va_K.moved hW.alike hK, hD9⟩, hS.F ht⟩) hS.2.2 dX4_lock_38
      · skip
        have c_1 : ¬ (f9 + m9) ≤ (f9 + k) := fun h => c_1 ((nI_leI (a := (f9 + m9)) (b := (f9 + k)) (by omega) (by omega)).mpr h)
        refine lv_aload_n hx hb dX4_lock_13 rfl (lv_at hl 2 rfl) ?_
        refine va_get (D := D) (ci := 4) (v := .ref (ad 17)) (C := RX4) (T := TX4) (N := 5) hx hb hts hinX4 hown hK hP 0 rfl rfl 0 (by decide) (hts (.fieldLink RX4 9 "AuditoriumKeys$Seats" "held" "[Z") (List.mem_of_getElem? (i := 1) rfl)) (fun _ h9 => h9) rfl dX4_lock_14 ?_
        refine lv_iload hx hb dX4_lock_17 (lv_at hl 0 rfl) ?_
        refine lv_iconst (v := nI 1) hx hb dX4_lock_19 (by decide) ?_
        refine zz_zast hx hb hK hP hD hS 1 1 rfl rfl (f9 + k) rfl (by omega) (by decide) dX4_lock_20 (fun H locs hP hD hS => ?_)
        have hP : va_P D vwCl (kwS ad cI cZ (setA K 17 (upd (zfill (K 17) f9 k (nI 1)) (f9 + k) (nI 1)))) _ := hP
        have hD : va_D A (kwS ad cI cZ (setA K 17 (upd (zfill (K 17) f9 k (nI 1)) (f9 + k) (nI 1)))) := hD
        refine lv_iload_n hx hb dX4_lock_21 rfl (lv_at hl 1 rfl) ?_
        refine lv_aload_n hx hb dX4_lock_22 rfl (lv_at hl 2 rfl) ?_
        refine va_get (D := D) (ci := 4) (v := .ref (ad 20)) (C := RX4) (T := TX4) (N := 5) hx hb hts hinX4 hown hK hP 0 rfl rfl 3 (by decide) (hts (.fieldLink RX4 22 "AuditoriumKeys$Seats" "price" "[I") (List.mem_of_getElem? (i := 2) rfl)) (fun _ h9 => h9) rfl dX4_lock_23 ?_
        refine lv_iload hx hb dX4_lock_26 (lv_at hl 0 rfl) ?_
        refine zz_iald hx hb hK hP 4 0 rfl rfl (f9 + k) (by omega) (by decide) dX4_lock_28 ?_
        refine lv_iadd hx hb dX4_lock_29 ?_
        refine lv_istore_n (lv' := [(3, .int ((zsm (fun j => K 20 (f9 + j)) k) + (K 20 (f9 + k)))), (4, .int (nI (f9 + k))), (0, .ref (ad 16)), (1, .int (nI f9)), (2, .int (nI m9))]) hx hb dX4_lock_30 rfl hl (by decide) rfl (fun ls hl => ?_)
        refine lv_iinc (v := nI ((f9 + k) + 1)) (lv' := [(4, .int (nI ((f9 + k) + 1))), (3, .int ((zsm (fun j => K 20 (f9 + j)) k) + (K 20 (f9 + k)))), (0, .ref (ad 16)), (1, .int (nI f9)), (2, .int (nI m9))]) hx hb dX4_lock_31 hl (k := 1) rfl ((show nI (f9 + k) + Int32.ofInt 1 = nI (f9 + k) + nI 1 from rfl).trans (nI_add _ _)) (by decide) rfl (fun ls hl => ?_)
        refine lv_goto (tgt := 5) hx hb dX4_lock_34 (by decide) ?_
        have es_2 : zsm (fun j => K 20 (f9 + j)) (k + 1) = (zsm (fun j => K 20 (f9 + j)) k) + (K 20 (f9 + k)) := rfl
        have eK_3 : (setA K 17 (zfill (K 17) f9 (k + 1) (nI 1))) = (setA K 17 (upd (zfill (K 17) f9 k (nI 1)) (f9 + k) (nI 1))) := (by rw [zfill_s])
        exact ih_a (k + 1) (by omega) (by omega) (by omega)  _ _ (by rw [eK_3]; exact hP) (by rw [eK_3]; exact hD) hS ls (by rw [es_2]; exact lv_sub hl [0, 1, 2, 3, 4] rfl)
  have ei_a_3 : zsm (fun j => K 20 (f9 + j)) 0 = nI 0 := rfl
  have eK_a : (setA K 17 (zfill (K 17) f9 0 (nI 1))) = K := (by rw [zfill_0, setA_same])
  exact lp_a (m9 - 0 + 1) 0 (by omega) (by omega) (by omega)  _ _ (by rw [eK_a]; exact hP) (by rw [eK_a]; exact hD) hS ls (by rw [ei_a_3]; exact lv_sub hl [0, 1, 2, 3, 4] rfl)
set_option maxHeartbeats 4000000 in
set_option maxRecDepth 100000 in
theorem kX4_unlock (l : Launch) (D : va_G) (cI cZ : ClassId) (ad : Nat → Nat) (K : kS) (sz : Nat) (f9 : Nat) (m9 : Nat) (hf9 : f9 + m9 ≤ 60) : Met l yX4_unlock wsX4_unlock ({ frames := 0, cells := 0, slots := 0, locals := 0 }) (va_Pc [.ref (ad 16), .int (nI f9), .int (nI m9)] (zPr D (zTy cI cZ) (kwS ad cI cZ K) sz)) (va_Qv (fun _ : Unit => True) (fun _ => zPo D (zTy cI cZ) (va_A (kwS ad cI cZ K) sz) (kwS ad cI cZ (kUnlock K f9 m9))) (va_A (kwS ad cI cZ K) sz)) 0 0 (va_A (kwS ad cI cZ K) sz) := by
  refine Met.ofW (cc := cX4_unlock) (maxL := 4) (ret := none) (by decide) rfl ?_
  intro pP e s m args below meth c s₁ B hml hv
  obtain ⟨rfl, hsz, hP, hK, hD0⟩ := hv
  have hx := B.exec
  have hb := B.bytes
  have hr := B.returns
  have hts := atoms_spec (ws := wsX4_unlock) B.pre
  have hown : s.vm.findClass RX4 = some m.cls := findClass_of_methodNamed B.named
  have hlocks := B.notSynchronized
  subst hsz
  have hD := hD0.self (sz := s.heap.size)
  generalize hAe : va_A (kwS ad cI cZ K) s.heap.size = A at hD ⊢
  have hA : ∀ q : Nat, s.heap.size ≤ q → A q := fun q h => by rw [← hAe]; exact Or.inr h
  have hS : va_S A s.heap s.heap [] := va_S.rf
  have hinX4 : ∀ w ∈ u_ws RX4 TX4 5, w ∈ wsX4_unlock := by decide +kernel
  have hl := lv_entry ([.ref (ad 16), .int (nI f9), .int (nI m9)]) (n := 4) (Nat.le_of_ble_eq_true rfl)
  rw [lg_entry_eq]
  generalize (lg_sl ([.ref (ad 16), .int (nI f9), .int (nI m9)]) ++ List.replicate (4 - (lg_sl ([.ref (ad 16), .int (nI f9), .int (nI m9)])).length) Slot.unset).toArray = ls at hl ⊢
  have hl : lv_has ls 4 [(0, .ref (ad 16)), (1, .int (nI f9)), (2, .int (nI m9))] := hl
  refine lv_iload_n hx hb dX4_unlock_0 rfl (lv_at hl 1 rfl) ?_
  refine lv_istore_n (lv' := [(3, .int (nI f9)), (0, .ref (ad 16)), (1, .int (nI f9)), (2, .int (nI m9))]) hx hb dX4_unlock_1 rfl hl (by decide) rfl (fun ls hl => ?_)
  have lp_a : ∀ (n k : Nat), 0 ≤ k → k ≤ m9 → m9 - k < n → ∀ (H : Heap) (locs : List Loc), va_P D vwCl (kwS ad cI cZ (setA K 17 (zfill (K 17) f9 k (nI 0)))) H → va_D A (kwS ad cI cZ (setA K 17 (zfill (K 17) f9 k (nI 0)))) → va_S A s.heap H locs → ∀ ls : Array Slot, lv_has ls 4 [(3, .int (nI (f9 + k))), (0, .ref (ad 16)), (1, .int (nI f9)), (2, .int (nI m9))] → W pP l e ({ frames := 0, cells := 0, slots := 0, locals := 0 } : Room) s m ([.ref (ad 16), .int (nI f9), .int (nI m9)] : List Value).toArray below meth c H locs 0 0 (MQ below (va_Qv (fun _ : Unit => True) (fun _ => zPo D (zTy cI cZ) A (kwS ad cI cZ (kUnlock K f9 m9))) A) ([.ref (ad 16), .int (nI f9), .int (nI m9)] : List Value).toArray s 0 0 A) (F0 m 2 ls []) := by
    intro n
    induction n with
    | zero => intro k _ _ h; exact absurd h (Nat.not_lt_zero _)
    | succ n ih_a =>
      intro k hlo_a hin_a hdn_a  H locs hP hD hS ls hl
      refine lv_iload_n hx hb dX4_unlock_2 rfl (lv_at hl 0 rfl) ?_
      refine lv_iload_n hx hb dX4_unlock_3 rfl (lv_at hl 2 rfl) ?_
      refine lv_iload_n hx hb dX4_unlock_4 rfl (lv_at hl 3 rfl) ?_
      refine lv_iadd hx hb dX4_unlock_5 ?_
      refine zz_top (y := nI (f9 + m9)) ((nI_add f9 m9).trans (congrArg nI (by omega))) ?_
      refine lv_icmp_ge (tgt := 22) hx hb dX4_unlock_6 (by decide) (fun c_1 => ?_) (fun c_1 => ?_)
      · skip
        have c_1 := (nI_leI (a := (f9 + m9)) (b := (f9 + k)) (by omega) (by omega)).mp c_1
        have hk8 : k = m9 := by omega
        have eK9 : (kUnlock K f9 m9) = (setA K 17 (zfill (K 17) f9 k (nI 0))) := (by rw [hk8]; rfl)
        have hP9 := hP
        have hD9 := hD
        rw [← eK9] at hP9 hD9
        exact W.vret hx hb hr (fun t ht hW => ⟨⟨(), rfl, trivial, by rw [ht]; exact hP9, va_K.moved hW.alike hK, hD9⟩, hS.F ht⟩) hS.2.2 dX4_unlock_22
      · skip
        have c_1 : ¬ (f9 + m9) ≤ (f9 + k) := fun h => c_1 ((nI_leI (a := (f9 + m9)) (b := (f9 + k)) (by omega) (by omega)).mpr h)
        refine lv_aload_n hx hb dX4_unlock_9 rfl (lv_at hl 1 rfl) ?_
        refine va_get (D := D) (ci := 4) (v := .ref (ad 17)) (C := RX4) (T := TX4) (N := 5) hx hb hts hinX4 hown hK hP 0 rfl rfl 0 (by decide) (hts (.fieldLink RX4 9 "AuditoriumKeys$Seats" "held" "[Z") (List.mem_of_getElem? (i := 1) rfl)) (fun _ h9 => h9) rfl dX4_unlock_10 ?_
        refine lv_iload_n hx hb dX4_unlock_13 rfl (lv_at hl 0 rfl) ?_
        refine lv_iconst (v := nI 0) hx hb dX4_unlock_14 (by decide) ?_
        refine zz_zast hx hb hK hP hD hS 1 1 rfl rfl (f9 + k) rfl (by omega) (by decide) dX4_unlock_15 (fun H locs hP hD hS => ?_)
        have hP : va_P D vwCl (kwS ad cI cZ (setA K 17 (upd (zfill (K 17) f9 k (nI 0)) (f9 + k) (nI 0)))) _ := hP
        have hD : va_D A (kwS ad cI cZ (setA K 17 (upd (zfill (K 17) f9 k (nI 0)) (f9 + k) (nI 0)))) := hD
        refine lv_iinc (v := nI ((f9 + k) + 1)) (lv' := [(3, .int (nI ((f9 + k) + 1))), (0, .ref (ad 16)), (1, .int (nI f9)), (2, .int (nI m9))]) hx hb dX4_unlock_16 hl (k := 0) rfl ((show nI (f9 + k) + Int32.ofInt 1 = nI (f9 + k) + nI 1 from rfl).trans (nI_add _ _)) (by decide) rfl (fun ls hl => ?_)
        refine lv_goto (tgt := 2) hx hb dX4_unlock_19 (by decide) ?_
        have eK_2 : (setA K 17 (zfill (K 17) f9 (k + 1) (nI 0))) = (setA K 17 (upd (zfill (K 17) f9 k (nI 0)) (f9 + k) (nI 0))) := (by rw [zfill_s])
        exact ih_a (k + 1) (by omega) (by omega) (by omega)  _ _ (by rw [eK_2]; exact hP) (by rw [eK_2]; exact hD) hS ls (lv_sub hl [0, 1, 2, 3] rfl)
  have eK_a : (setA K 17 (zfill (K 17) f9 0 (nI 0))) = K := (by rw [zfill_0, setA_same])
  exact lp_a (m9 - 0 + 1) 0 (by omega) (by omega) (by omega)  _ _ (by rw [eK_a]; exact hP) (by rw [eK_a]; exact hD) hS ls (lv_sub hl [0, 1, 2, 3] rfl)
set_option maxHeartbeats 4000000 in
set_option maxRecDepth 100000 in
theorem kX4_giveTo (l : Launch) (D : va_G) (cI cZ : ClassId) (ad : Nat → Nat) (K : kS) (sz : Nat) (s9 : Nat) (x : Int32) (hs9 : s9 < 60) : Met l yX4_giveTo wsX4_giveTo ({ frames := 0, cells := 0, slots := 0, locals := 0 }) (va_Pc [.ref (ad 16), .int (nI s9), .int x] (zPr D (zTy cI cZ) (kwS ad cI cZ K) sz)) (va_Qv (fun _ : Unit => True) (fun _ => zPo D (zTy cI cZ) (va_A (kwS ad cI cZ K) sz) (kwS ad cI cZ (kGive K s9 x))) (va_A (kwS ad cI cZ K) sz)) 0 0 (va_A (kwS ad cI cZ K) sz) := by
  refine Met.ofW (cc := cX4_giveTo) (maxL := 3) (ret := none) (by decide) rfl ?_
  intro pP e s m args below meth c s₁ B hml hv
  obtain ⟨rfl, hsz, hP, hK, hD0⟩ := hv
  have hx := B.exec
  have hb := B.bytes
  have hr := B.returns
  have hts := atoms_spec (ws := wsX4_giveTo) B.pre
  have hown : s.vm.findClass RX4 = some m.cls := findClass_of_methodNamed B.named
  have hlocks := B.notSynchronized
  subst hsz
  have hD := hD0.self (sz := s.heap.size)
  generalize hAe : va_A (kwS ad cI cZ K) s.heap.size = A at hD ⊢
  have hA : ∀ q : Nat, s.heap.size ≤ q → A q := fun q h => by rw [← hAe]; exact Or.inr h
  have hS : va_S A s.heap s.heap [] := va_S.rf
  have hinX4 : ∀ w ∈ u_ws RX4 TX4 5, w ∈ wsX4_giveTo := by decide +kernel
  have hl := lv_entry ([.ref (ad 16), .int (nI s9), .int x]) (n := 3) (Nat.le_of_ble_eq_true rfl)
  rw [lg_entry_eq]
  generalize (lg_sl ([.ref (ad 16), .int (nI s9), .int x]) ++ List.replicate (3 - (lg_sl ([.ref (ad 16), .int (nI s9), .int x])).length) Slot.unset).toArray = ls at hl ⊢
  have hl : lv_has ls 3 [(0, .ref (ad 16)), (1, .int (nI s9)), (2, .int x)] := hl
  refine lv_aload_n hx hb dX4_giveTo_0 rfl (lv_at hl 0 rfl) ?_
  refine va_get (D := D) (ci := 4) (v := .ref (ad 17)) (C := RX4) (T := TX4) (N := 5) hx hb hts hinX4 hown hK hP 0 rfl rfl 0 (by decide) (hts (.fieldLink RX4 9 "AuditoriumKeys$Seats" "held" "[Z") (List.mem_of_getElem? (i := 1) rfl)) (fun _ h9 => h9) rfl dX4_giveTo_1 ?_
  refine lv_iload_n hx hb dX4_giveTo_4 rfl (lv_at hl 1 rfl) ?_
  refine lv_iconst (v := nI 0) hx hb dX4_giveTo_5 (by decide) ?_
  refine zz_zast hx hb hK hP hD hS 1 1 rfl rfl s9 rfl (by omega) (by decide) dX4_giveTo_6 (fun H locs hP hD hS => ?_)
  have hP : va_P D vwCl (kwS ad cI cZ (setA K 17 (upd (K 17) s9 (nI 0)))) _ := hP
  have hD : va_D A (kwS ad cI cZ (setA K 17 (upd (K 17) s9 (nI 0)))) := hD
  refine lv_aload_n hx hb dX4_giveTo_7 rfl (lv_at hl 0 rfl) ?_
  refine va_get (D := D) (ci := 4) (v := .ref (ad 18)) (C := RX4) (T := TX4) (N := 5) hx hb hts hinX4 hown hK hP 0 rfl rfl 1 (by decide) (hts (.fieldLink RX4 15 "AuditoriumKeys$Seats" "offered" "[Z") (List.mem_of_getElem? (i := 2) rfl)) (fun _ h9 => h9) rfl dX4_giveTo_8 ?_
  refine lv_iload_n hx hb dX4_giveTo_11 rfl (lv_at hl 1 rfl) ?_
  refine lv_iconst (v := nI 0) hx hb dX4_giveTo_12 (by decide) ?_
  refine zz_zast hx hb hK hP hD hS 2 1 rfl rfl s9 rfl (by omega) (by decide) dX4_giveTo_13 (fun H locs hP hD hS => ?_)
  have hP : va_P D vwCl (kwS ad cI cZ (setA (setA K 17 (upd (K 17) s9 (nI 0))) 18 (upd (K 18) s9 (nI 0)))) _ := hP
  have hD : va_D A (kwS ad cI cZ (setA (setA K 17 (upd (K 17) s9 (nI 0))) 18 (upd (K 18) s9 (nI 0)))) := hD
  refine lv_aload_n hx hb dX4_giveTo_14 rfl (lv_at hl 0 rfl) ?_
  refine va_get (D := D) (ci := 4) (v := .ref (ad 19)) (C := RX4) (T := TX4) (N := 5) hx hb hts hinX4 hown hK hP 0 rfl rfl 2 (by decide) (hts (.fieldLink RX4 18 "AuditoriumKeys$Seats" "owner" "[I") (List.mem_of_getElem? (i := 3) rfl)) (fun _ h9 => h9) rfl dX4_giveTo_15 ?_
  refine lv_iload_n hx hb dX4_giveTo_18 rfl (lv_at hl 1 rfl) ?_
  refine lv_iload_n hx hb dX4_giveTo_19 rfl (lv_at hl 2 rfl) ?_
  refine zz_iast hx hb hK hP hD hS 3 0 rfl rfl s9 (by omega) (by decide) dX4_giveTo_20 (fun H locs hP hD hS => ?_)
  have hP : va_P D vwCl (kwS ad cI cZ (setA (setA (setA K 17 (upd (K 17) s9 (nI 0))) 18 (upd (K 18) s9 (nI 0))) 19 (upd (K 19) s9 x))) _ := hP
  have hD : va_D A (kwS ad cI cZ (setA (setA (setA K 17 (upd (K 17) s9 (nI 0))) 18 (upd (K 18) s9 (nI 0))) 19 (upd (K 19) s9 x))) := hD
  refine lv_aload_n hx hb dX4_giveTo_21 rfl (lv_at hl 0 rfl) ?_
  refine va_get (D := D) (ci := 4) (v := .ref (ad 21)) (C := RX4) (T := TX4) (N := 5) hx hb hts hinX4 hown hK hP 0 rfl rfl 4 (by decide) (hts (.fieldLink RX4 25 "AuditoriumKeys$Seats" "bought" "[I") (List.mem_of_getElem? (i := 4) rfl)) (fun _ h9 => h9) rfl dX4_giveTo_22 ?_
  refine lv_iload_n hx hb dX4_giveTo_25 rfl (lv_at hl 1 rfl) ?_
  refine lv_aload_n hx hb dX4_giveTo_26 rfl (lv_at hl 0 rfl) ?_
  refine va_get (D := D) (ci := 4) (v := .ref (ad 20)) (C := RX4) (T := TX4) (N := 5) hx hb hts hinX4 hown hK hP 0 rfl rfl 3 (by decide) (hts (.fieldLink RX4 22 "AuditoriumKeys$Seats" "price" "[I") (List.mem_of_getElem? (i := 5) rfl)) (fun _ h9 => h9) rfl dX4_giveTo_27 ?_
  refine lv_iload_n hx hb dX4_giveTo_30 rfl (lv_at hl 1 rfl) ?_
  refine zz_iald hx hb hK hP 4 0 rfl rfl s9 (by omega) (by decide) dX4_giveTo_31 ?_
  refine zz_iast hx hb hK hP hD hS 5 0 rfl rfl s9 (by omega) (by decide) dX4_giveTo_32 (fun H locs hP hD hS => ?_)
  have hP : va_P D vwCl (kwS ad cI cZ (setA (setA (setA (setA K 17 (upd (K 17) s9 (nI 0))) 18 (upd (K 18) s9 (nI 0))) 19 (upd (K 19) s9 x)) 21 (upd (K 21) s9 (K 20 s9)))) _ := hP
  have hD : va_D A (kwS ad cI cZ (setA (setA (setA (setA K 17 (upd (K 17) s9 (nI 0))) 18 (upd (K 18) s9 (nI 0))) 19 (upd (K 19) s9 x)) 21 (upd (K 21) s9 (K 20 s9)))) := hD
  have eK9 : (kGive K s9 x) = (setA (setA (setA (setA K 17 (upd (K 17) s9 (nI 0))) 18 (upd (K 18) s9 (nI 0))) 19 (upd (K 19) s9 x)) 21 (upd (K 21) s9 (K 20 s9))) := rfl
  have hP9 := hP
  have hD9 := hD
  rw [← eK9] at hP9 hD9
  exact W.vret hx hb hr (fun t ht hW => ⟨⟨(), rfl, trivial, by rw [ht]; exact hP9, va_K.moved hW.alike hK, hD9⟩, hS.F ht⟩) hS.2.2 dX4_giveTo_33
set_option maxHeartbeats 4000000 in
set_option maxRecDepth 100000 in
theorem kX4_ceilingOf (l : Launch) (D : va_G) (cI cZ : ClassId) (ad : Nat → Nat) (K : kS) (s9 : Nat) (hs9 : s9 < 60) : Met l yX4_ceilingOf wsX4_ceilingOf ({ frames := 0, cells := 0, slots := 0, locals := 0 }) (va_Pc [.ref (ad 16), .int (nI s9)] (zRd D (zTy cI cZ) (kwS ad cI cZ K))) (vp_Si (fun r => r = sCeil K s9)) 0 0 (fun _ => False) := by
  refine Met.ofW (cc := cX4_ceilingOf) (maxL := 2) (ret := (some .int)) (by decide) rfl ?_
  intro pP e s m args below meth c s₁ B hml hv
  obtain ⟨rfl, hP, hK⟩ := hv
  have hx := B.exec
  have hb := B.bytes
  have hr := B.returns
  have hts := atoms_spec (ws := wsX4_ceilingOf) B.pre
  have hown : s.vm.findClass RX4 = some m.cls := findClass_of_methodNamed B.named
  have hlocks := B.notSynchronized
  have hinX4 : ∀ w ∈ u_ws RX4 TX4 5, w ∈ wsX4_ceilingOf := by decide +kernel
  have hl := lv_entry ([.ref (ad 16), .int (nI s9)]) (n := 2) (Nat.le_of_ble_eq_true rfl)
  rw [lg_entry_eq]
  generalize (lg_sl ([.ref (ad 16), .int (nI s9)]) ++ List.replicate (2 - (lg_sl ([.ref (ad 16), .int (nI s9)])).length) Slot.unset).toArray = ls at hl ⊢
  have hl : lv_has ls 2 [(0, .ref (ad 16)), (1, .int (nI s9))] := hl
  refine lv_aload_n hx hb dX4_ceilingOf_0 rfl (lv_at hl 0 rfl) ?_
  refine va_get (D := D) (ci := 4) (v := .ref (ad 21)) (C := RX4) (T := TX4) (N := 5) hx hb hts hinX4 hown hK hP 0 rfl rfl 4 (by decide) (hts (.fieldLink RX4 25 "AuditoriumKeys$Seats" "bought" "[I") (List.mem_of_getElem? (i := 1) rfl)) (fun _ h9 => h9) rfl dX4_ceilingOf_1 ?_
  refine lv_iload_n hx hb dX4_ceilingOf_4 rfl (lv_at hl 1 rfl) ?_
  refine zz_iald hx hb hK hP 5 0 rfl rfl s9 (by omega) (by decide) dX4_ceilingOf_5 ?_
  refine lv_bipush (v := nI 11) hx hb dX4_ceilingOf_6 (by decide) ?_
  refine lv_imul hx hb dX4_ceilingOf_8 ?_
  refine lv_bipush (v := nI 10) hx hb dX4_ceilingOf_9 (by decide) ?_
  refine lv_idiv hx hb dX4_ceilingOf_11 (by decide) ?_
  exact W.iret (v := ((K 21 s9) * (nI 11)) / (nI 10)) hx hb hr (fun t ht hW => ⟨_, rfl, rfl, ht⟩) (fun _ h => nomatch h) dX4_ceilingOf_12
set_option maxHeartbeats 4000000 in
set_option maxRecDepth 100000 in
theorem kX4_putUp (l : Launch) (D : va_G) (cI cZ : ClassId) (ad : Nat → Nat) (K : kS) (sz : Nat) (s9 : Nat) (x : Int32) (hs9 : s9 < 60) : Met l yX4_putUp wsX4_putUp ({ frames := 0, cells := 0, slots := 0, locals := 0 }) (va_Pc [.ref (ad 16), .int (nI s9), .int x] (zPr D (zTy cI cZ) (kwS ad cI cZ K) sz)) (va_Qv (fun _ : Unit => True) (fun _ => zPo D (zTy cI cZ) (va_A (kwS ad cI cZ K) sz) (kwS ad cI cZ (kPut K s9 x))) (va_A (kwS ad cI cZ K) sz)) 0 0 (va_A (kwS ad cI cZ K) sz) := by
  refine Met.ofW (cc := cX4_putUp) (maxL := 3) (ret := none) (by decide) rfl ?_
  intro pP e s m args below meth c s₁ B hml hv
  obtain ⟨rfl, hsz, hP, hK, hD0⟩ := hv
  have hx := B.exec
  have hb := B.bytes
  have hr := B.returns
  have hts := atoms_spec (ws := wsX4_putUp) B.pre
  have hown : s.vm.findClass RX4 = some m.cls := findClass_of_methodNamed B.named
  have hlocks := B.notSynchronized
  subst hsz
  have hD := hD0.self (sz := s.heap.size)
  generalize hAe : va_A (kwS ad cI cZ K) s.heap.size = A at hD ⊢
  have hA : ∀ q : Nat, s.heap.size ≤ q → A q := fun q h => by rw [← hAe]; exact Or.inr h
  have hS : va_S A s.heap s.heap [] := va_S.rf
  have hinX4 : ∀ w ∈ u_ws RX4 TX4 5, w ∈ wsX4_putUp := by decide +kernel
  have hl := lv_entry ([.ref (ad 16), .int (nI s9), .int x]) (n := 3) (Nat.le_of_ble_eq_true rfl)
  rw [lg_entry_eq]
  generalize (lg_sl ([.ref (ad 16), .int (nI s9), .int x]) ++ List.replicate (3 - (lg_sl ([.ref (ad 16), .int (nI s9), .int x])).length) Slot.unset).toArray = ls at hl ⊢
  have hl : lv_has ls 3 [(0, .ref (ad 16)), (1, .int (nI s9)), (2, .int x)] := hl
  refine lv_aload_n hx hb dX4_putUp_0 rfl (lv_at hl 0 rfl) ?_
  refine va_get (D := D) (ci := 4) (v := .ref (ad 18)) (C := RX4) (T := TX4) (N := 5) hx hb hts hinX4 hown hK hP 0 rfl rfl 1 (by decide) (hts (.fieldLink RX4 15 "AuditoriumKeys$Seats" "offered" "[Z") (List.mem_of_getElem? (i := 1) rfl)) (fun _ h9 => h9) rfl dX4_putUp_1 ?_
  refine lv_iload_n hx hb dX4_putUp_4 rfl (lv_at hl 1 rfl) ?_
  refine lv_iconst (v := nI 1) hx hb dX4_putUp_5 (by decide) ?_
  refine zz_zast hx hb hK hP hD hS 2 1 rfl rfl s9 rfl (by omega) (by decide) dX4_putUp_6 (fun H locs hP hD hS => ?_)
  have hP : va_P D vwCl (kwS ad cI cZ (setA K 18 (upd (K 18) s9 (nI 1)))) _ := hP
  have hD : va_D A (kwS ad cI cZ (setA K 18 (upd (K 18) s9 (nI 1)))) := hD
  refine lv_aload_n hx hb dX4_putUp_7 rfl (lv_at hl 0 rfl) ?_
  refine va_get (D := D) (ci := 4) (v := .ref (ad 20)) (C := RX4) (T := TX4) (N := 5) hx hb hts hinX4 hown hK hP 0 rfl rfl 3 (by decide) (hts (.fieldLink RX4 22 "AuditoriumKeys$Seats" "price" "[I") (List.mem_of_getElem? (i := 2) rfl)) (fun _ h9 => h9) rfl dX4_putUp_8 ?_
  refine lv_iload_n hx hb dX4_putUp_11 rfl (lv_at hl 1 rfl) ?_
  refine lv_iload_n hx hb dX4_putUp_12 rfl (lv_at hl 2 rfl) ?_
  refine zz_iast hx hb hK hP hD hS 4 0 rfl rfl s9 (by omega) (by decide) dX4_putUp_13 (fun H locs hP hD hS => ?_)
  have hP : va_P D vwCl (kwS ad cI cZ (setA (setA K 18 (upd (K 18) s9 (nI 1))) 20 (upd (K 20) s9 x))) _ := hP
  have hD : va_D A (kwS ad cI cZ (setA (setA K 18 (upd (K 18) s9 (nI 1))) 20 (upd (K 20) s9 x))) := hD
  have eK9 : (kPut K s9 x) = (setA (setA K 18 (upd (K 18) s9 (nI 1))) 20 (upd (K 20) s9 x)) := rfl
  have hP9 := hP
  have hD9 := hD
  rw [← eK9] at hP9 hD9
  exact W.vret hx hb hr (fun t ht hW => ⟨⟨(), rfl, trivial, by rw [ht]; exact hP9, va_K.moved hW.alike hK, hD9⟩, hS.F ht⟩) hS.2.2 dX4_putUp_14
end
section
/-! the reference in pure words: M holds all its arrays by their cells; cell 0: thrown, time, opening, codes, takings -/
section MC
variable (ad : Nat → Nat) (cI cZ : ClassId) (K : kS)
abbrev mc0 : Nat × va_E := (ad 0, .inr (6, [.int (K 0 0), .int (K 0 1), .int (K 0 2), .int (K 0 3), .ref (ad 1), .ref (ad 2), .ref (ad 3), .ref (ad 4), .ref (ad 5), .ref (ad 6), .ref (ad 7), .ref (ad 8), .ref (ad 9), .ref (ad 10), .ref (ad 11), .ref (ad 12), .ref (ad 13), .ref (ad 14), .ref (ad 15), .ref (ad 16), .int (K 0 4)]))
abbrev mc1 : Nat × va_E := (ad 1, .inl (cI, 10, .inl (K 1)))
abbrev mc2 : Nat × va_E := (ad 2, .inl (cI, 10, .inl (K 2)))
abbrev mc3 : Nat × va_E := (ad 3, .inl (cI, 80, .inl (K 3)))
abbrev mc4 : Nat × va_E := (ad 4, .inl (cI, 8, .inl (K 4)))
abbrev mc5 : Nat × va_E := (ad 5, .inl (cI, 8, .inl (K 5)))
abbrev mc6 : Nat × va_E := (ad 6, .inl (cI, 8, .inl (K 6)))
abbrev mc7 : Nat × va_E := (ad 7, .inl (cI, 8, .inl (K 7)))
abbrev mc8 : Nat × va_E := (ad 8, .inl (cI, 8, .inl (K 8)))
abbrev mc9 : Nat × va_E := (ad 9, .inl (cI, 8, .inl (K 9)))
abbrev mc10 : Nat × va_E := (ad 10, .inl (cI, 8, .inl (K 10)))
abbrev mc11 : Nat × va_E := (ad 11, .inl (cI, 8, .inl (K 11)))
abbrev mc12 : Nat × va_E := (ad 12, .inl (cI, 8, .inl (K 12)))
abbrev mc13 : Nat × va_E := (ad 13, .inl (cI, 60, .inl (K 13)))
abbrev mc14 : Nat × va_E := (ad 14, .inl (cI, 60, .inl (K 14)))
abbrev mc15 : Nat × va_E := (ad 15, .inl (cI, 60, .inl (K 15)))
abbrev mc16 : Nat × va_E := (ad 16, .inl (cZ, 60, .inl (K 16)))
abbrev mwA : va_W := [mc0 ad K, mc1 ad cI K, mc2 ad cI K, mc3 ad cI K, mc4 ad cI K, mc5 ad cI K, mc6 ad cI K, mc7 ad cI K, mc8 ad cI K, mc9 ad cI K, mc10 ad cI K, mc11 ad cI K, mc12 ad cI K, mc13 ad cI K, mc14 ad cI K, mc15 ad cI K, mc16 ad cZ K]
end MC
theorem zfind_ex {b : Nat → Bool} {n : Nat} (h : ¬ zfind b n = (-1)) : ∃ q, q < n ∧ b q = true ∧ zfind b n = nI q ∧ ∀ j, j < q → b j = false := by
  have key : ∀ k, k ≤ n → (∀ j, j < k → b j = false) ∨ ∃ q, q < k ∧ b q = true ∧ ∀ j, j < q → b j = false := by
    intro k
    induction k with
    | zero => intro _; exact Or.inl (fun j hj => absurd hj (Nat.not_lt_zero j))
    | succ k ih =>
      intro hk
      rcases ih (by omega) with h1 | ⟨q, h1, h2, h3⟩
      · cases hb : b k with
        | false => exact Or.inl (lt_succ_all h1 hb)
        | true => exact Or.inr ⟨k, by omega, hb, h1⟩
      · exact Or.inr ⟨q, by omega, h2, h3⟩
  rcases key n (Nat.le_refl n) with h1 | ⟨q, h1, h2, h3⟩
  · exact absurd (zfind_no h1) h
  · exact ⟨q, h1, h2, zfind_at h1 h3 h2, h3⟩
def mIn (x a b : Int32) : Bool := !decide (x < a) && !decide (b < x)
theorem mIn_of {x : Int32} {n : Nat} (hn : n < 2 ^ 31) (h : mIn x (nI 0) (nI n) = true) : ∃ p, p ≤ n ∧ x = nI p ∧ x.toNatClampNeg = p := by
  simp only [mIn, Bool.and_eq_true, Bool.not_eq_true', decide_eq_false_iff_not] at h
  obtain ⟨j, hj, e⟩ := nI_of (x := x) h.1
  subst e
  refine ⟨j, ?_, rfl, nI_clamp hj⟩
  rcases Nat.lt_or_ge n j with q | q
  · exact absurd ((nI_ltI hn hj).mpr q) h.2
  · exact q
theorem mIn_to {a b p : Nat} (ha : a ≤ p) (hb : p ≤ b) (h : b < 2 ^ 31) : mIn (nI p) (nI a) (nI b) = true := by
  simp only [mIn, Bool.and_eq_true, Bool.not_eq_true', decide_eq_false_iff_not]
  exact ⟨nI_nlt ha (by omega), nI_nlt hb h⟩
theorem mIn_of1 {x : Int32} {a n : Nat} (ha : a < 2 ^ 31) (hn : n < 2 ^ 31) (h : mIn x (nI a) (nI n) = true) : ∃ p, a ≤ p ∧ p ≤ n ∧ x = nI p ∧ x.toNatClampNeg = p := by
  simp only [mIn, Bool.and_eq_true, Bool.not_eq_true', decide_eq_false_iff_not] at h
  have h0 : ¬ x < 0 := fun q => by
    have h1 := fun r => h.1 r
    apply h1
    have e1 : x.toInt < 0 := by
      have := Int32.lt_iff_toInt_lt.mp q
      simpa using this
    exact Int32.lt_iff_toInt_lt.mpr (by rw [nI_toInt ha]; omega)
  obtain ⟨j, hj, e⟩ := nI_of (x := x) h0
  subst e
  refine ⟨j, ?_, ?_, rfl, nI_clamp hj⟩
  · rcases Nat.lt_or_ge j a with q | q
    · exact absurd ((nI_ltI hj ha).mpr q) h.1
    · exact q
  · rcases Nat.lt_or_ge n j with q | q
    · exact absurd ((nI_ltI hn hj).mpr q) h.2
    · exact q
def mIsP (x : Int32) : Bool := mIn x (nI 0) (nI 7)
def mIsS (x : Int32) : Bool := mIn x (nI 0) (nI 59)
def mIsR (x : Int32) : Bool := mIn x (nI 0) (nI 5)
def mIsC (M : kS) (x : Int32) : Bool := mIn x (nI 0) (M 0 3 - nI 1)
theorem mIsP_of {x : Int32} (h : mIsP x = true) : ∃ p, p < 8 ∧ x = nI p ∧ x.toNatClampNeg = p := by
  obtain ⟨p, h1, h2, h3⟩ := mIn_of (by decide) h
  exact ⟨p, by omega, h2, h3⟩
theorem mIsS_of {x : Int32} (h : mIsS x = true) : ∃ p, p < 60 ∧ x = nI p ∧ x.toNatClampNeg = p := by
  obtain ⟨p, h1, h2, h3⟩ := mIn_of (by decide) h
  exact ⟨p, by omega, h2, h3⟩
theorem mIsR_of {x : Int32} (h : mIsR x = true) : ∃ p, p < 6 ∧ x = nI p ∧ x.toNatClampNeg = p := by
  obtain ⟨p, h1, h2, h3⟩ := mIn_of (by decide) h
  exact ⟨p, by omega, h2, h3⟩
theorem mIsC_of {M : kS} {x : Int32} {n : Nat} (hc : M 0 3 = nI n) (hn : n ≤ 10) (h : mIsC M x = true) : ∃ p, p < n ∧ x = nI p ∧ x.toNatClampNeg = p := by
  unfold mIsC at h
  rw [hc] at h
  cases n with
  | zero =>
    exfalso
    simp only [mIn, Bool.and_eq_true, Bool.not_eq_true', decide_eq_false_iff_not] at h
    obtain ⟨j, hj, e⟩ := nI_of (x := x) h.1
    subst e
    have e1 : (nI 0 - nI 1 : Int32) < 0 := by decide
    have e2 : (0 : Int32) ≤ nI j := nI_pos' hj
    exact h.2 (Int32.lt_of_lt_of_le e1 e2)
  | succ k =>
    rw [show nI (k + 1) - nI 1 = nI k from nI_pred k] at h
    obtain ⟨p, h1, h2, h3⟩ := mIn_of (by omega) h
    exact ⟨p, by omega, h2, h3⟩
def mGoes (M : kS) (x : Int32) : kS := setA M 0 (upd (M 0) 0 x)
def mPost (T : Int32) (M E : kS) : kS := if T = nI 0 then E else mGoes M T
theorem mPost_0 (M E : kS) : mPost (nI 0) M E = E := if_pos rfl
theorem mPost_1 (M E : kS) : mPost (nI 1) M E = mGoes M (nI 1) := if_neg (by decide)
theorem mPost_2 (M E : kS) : mPost (nI 2) M E = mGoes M (nI 2) := if_neg (by decide)
theorem mPost_3 (M E : kS) : mPost (nI 3) M E = mGoes M (nI 3) := if_neg (by decide)
def mRes (T r : Int32) : Int32 := if T = nI 0 then r else nI 0
theorem mRes_0 (r : Int32) : mRes (nI 0) r = r := if_pos rfl
theorem mRes_1 (r : Int32) : mRes (nI 1) r = nI 0 := if_neg (by decide)
theorem mRes_2 (r : Int32) : mRes (nI 2) r = nI 0 := if_neg (by decide)
theorem mRes_3 (r : Int32) : mRes (nI 3) r = nI 0 := if_neg (by decide)
-- readers
def mHeldUp (M : kS) (x : Int32) : Nat → Bool
  | 0 => false
  | i + 1 => mHeldUp M x i || (decide (¬ M 5 i = (-1)) && mIn x (M 5 i) (M 5 i + M 6 i - nI 1))
def mHeld (M : kS) (x : Int32) : Bool := mHeldUp M x 8
def mState (M : kS) (s : Nat) : Int32 := if mHeld M (nI s) then nI 1 else if M 13 s = (-1) then nI 0 else if M 15 s = (-1) then nI 2 else nI 3
def mOpen (M : kS) (s : Nat) : Bool := !mHeld M (nI s) && (decide (M 13 s = (-1)) || decide (¬ M 15 s = (-1)))
def mLeft (M : kS) (s : Nat) : Bool := decide (¬ s % 10 ≤ 0) && mOpen M (s - 1)
def mRight (M : kS) (s : Nat) : Bool := decide (¬ 9 ≤ s % 10) && mOpen M (s + 1)
def mAlone (M : kS) (s : Nat) : Bool := mOpen M s && !mLeft M s && !mRight M s
def mPrice (M : kS) (s : Nat) : Int32 := if M 13 s = (-1) then nI 100 - nI (10 * (s / 10)) else M 15 s
def mUsed (M : kS) (c p : Nat) : Int32 := M 3 (8 * c + p) + (if M 5 p = (-1) then nI 0 else if M 7 p = nI c then M 6 p else nI 0)
def mCount (M : kS) : Nat := zcnt (fun j => decide (¬ M 4 j = (-1))) 8
def mDraw (M : kS) (p : Nat) : Int32 := (nI (5 * p)) + (nI 3 * M 4 p) - ((nI (5 * p)) + (nI 3 * M 4 p)) / nI 8 * nI 8
def mAhead (M : kS) (p o : Nat) : Bool := decide (M 4 p < M 4 o) || (decide (M 4 p = M 4 o) && decide (¬ mDraw M o ≤ mDraw M p))
def mPlace (M : kS) (p : Nat) : Nat := zcnt (fun q => decide (¬ M 4 q = (-1)) && mAhead M q p) 8
def mAt (M : kS) (x : Int32) : Int32 := zfind (fun q => decide (¬ M 4 q = (-1)) && decide (nI (mPlace M q) = x)) 8
def mServed (M : kS) : Int32 := if mAt M (nI 0) = (-1) then -1 else if M 0 1 ≤ M 4 (mAt M (nI 0)).toNatClampNeg then -1 else mAt M (nI 0)
def mAreUp (M : kS) (a : Int32) (f : Nat) : Nat → Bool
  | 0 => true
  | k + 1 => mAreUp M a f k && mOpen M (f + k) && decide (¬ M 13 (f + k) = a)
def mWithin (M : kS) (c : Int32) (p : Nat) (m : Int32) : Bool := if c = (-1) then decide (¬ M 0 1 < M 0 2) else decide (¬ M 1 c.toNatClampNeg < mUsed M c.toNatClampNeg p + m) && decide (¬ M 2 c.toNatClampNeg < mUsed M c.toNatClampNeg p + m + mUsed M c.toNatClampNeg (zmate p))
def mWas (M : kS) (i : Nat) : Nat → Int32 := fun j => if j < i then zb (mAlone M j) else M 16 j
theorem mWas_s (M : kS) (i : Nat) : upd (mWas M i) i (zb (mAlone M i)) = mWas M (i + 1) := by
  funext j
  simp only [upd, mWas]
  by_cases h : j = i
  · rw [if_pos h, if_pos (by omega), h]
  · rw [if_neg h]
    by_cases h2 : j < i
    · rw [if_pos h2, if_pos (by omega)]
    · rw [if_neg h2, if_neg (by omega)]
theorem mWas_0 (M : kS) : mWas M 0 = M 16 := by
  funext j
  simp only [mWas]
  rw [if_neg (by omega)]
def mLvUp (al : Nat → Bool) (w : Nat → Int32) : Nat → Bool
  | 0 => false
  | i + 1 => mLvUp al w i || (al i && decide (w i = 0))
def mTry2 (M : kS) (p f m : Nat) : kS := setA (setA (setA M 16 (mWas M 60)) 5 (upd (M 5) p (nI f))) 6 (upd (M 6) p (nI m))
def mTry (M : kS) (p f m : Nat) : kS := setA (setA (setA M 16 (mWas M 60)) 5 (upd (upd (M 5) p (nI f)) p (-1))) 6 (upd (M 6) p (nI m))
def mLeaves (M : kS) (p f m : Nat) : Bool := mLvUp (fun q => mAlone (mTry2 M p f m) q) (mWas M 60) 60
-- writers
def mDrop (M : kS) (p : Nat) : kS := setA (setA M 5 (upd (M 5) p (-1))) 12 (upd (M 12) p (M 12 p - M 9 p))
def mPassS (M : kS) : Nat → kS
  | 0 => M
  | i + 1 => if mPassS M i 5 i = (-1) then mPassS M i else if mPassS M i 0 1 < mPassS M i 11 i then mPassS M i else mDrop (mPassS M i) i
def mPassN (M : kS) : Nat → Nat
  | 0 => 0
  | i + 1 => if mPassS M i 5 i = (-1) then mPassN M i else if mPassS M i 0 1 < mPassS M i 11 i then mPassN M i else mPassN M i + 1
def mSell1 (S : kS) (p s : Nat) : kS := setA (setA (setA (if S 13 s = (-1) then setA S 0 (upd (S 0) 4 (S 0 4 + mPrice S s)) else setA S 12 (upd (S 12) (S 13 s).toNatClampNeg (S 12 (S 13 s).toNatClampNeg - mPrice S s))) 13 (upd (S 13) s (nI p))) 14 (upd (S 14) s (mPrice S s))) 15 (upd (S 15) s (-1))
def mSellS (S : kS) (p f : Nat) : Nat → kS
  | 0 => S
  | k + 1 => mSell1 (mSellS S p f k) p (f + k)
theorem mSell1_fr (S : kS) (p s i : Nat) (h : i ≠ 0) (h2 : i ≠ 12) (h3 : i ≠ 13) (h4 : i ≠ 14) (h5 : i ≠ 15) : mSell1 S p s i = S i := by
  unfold mSell1
  rw [setA_ne _ _ h5, setA_ne _ _ h4, setA_ne _ _ h3]
  split
  · rw [setA_ne _ _ h]
  · rw [setA_ne _ _ h2]
theorem mSellS_fr (S : kS) (p f i : Nat) (h : i ≠ 0) (h2 : i ≠ 12) (h3 : i ≠ 13) (h4 : i ≠ 14) (h5 : i ≠ 15) : ∀ k, mSellS S p f k i = S i
  | 0 => rfl
  | k + 1 => by rw [mSellS, mSell1_fr _ _ _ _ h h2 h3 h4 h5, mSellS_fr S p f i h h2 h3 h4 h5 k]
def mOwn (S : kS) : Prop := ∀ q, q < 60 → S 13 q = (-1) ∨ ∃ o, o < 8 ∧ S 13 q = nI o
theorem mOwn_1 {S : kS} {p s : Nat} (hp : p < 8) (h : mOwn S) : mOwn (mSell1 S p s) := by
  intro q hq
  have e : mSell1 S p s 13 = upd (S 13) s (nI p) := by
    unfold mSell1
    rw [setA_ne _ _ (by decide), setA_ne _ _ (by decide), setA_eq]
  rw [e]
  unfold upd
  by_cases hs : q = s
  · rw [if_pos hs]; exact Or.inr ⟨p, hp, rfl⟩
  · rw [if_neg hs]; exact h q hq
def mSold (M : kS) (p f m : Nat) : kS := setA (mSellS (setA M 5 (upd (M 5) p (-1))) p f m) 3 (if M 7 p = (-1) then M 3 else upd (M 3) (8 * (M 7 p).toNatClampNeg + p) (M 3 (8 * (M 7 p).toNatClampNeg + p) + nI m))
def mProl (M : kS) (p : Nat) : kS := setA M 11 (upd (M 11) p (if M 11 p + nI 5 ≤ M 10 p + nI 30 then M 11 p + nI 5 else M 10 p + nI 30))
-- the calls: T: what is thrown (0: nothing), E: the state behind it if nothing, R: the answer
def mPassT (M : kS) (x : Int32) : Int32 := if mIn x (nI 1) (nI 500) then (if M 0 1 + x ≤ nI 10000 then nI 0 else nI 2) else nI 1
def mPassB (M : kS) (x : Int32) : kS := setA (mGoes M (nI 0)) 0 (upd (upd (M 0) 0 (nI 0)) 1 (M 0 1 + x))
def mPassE (M : kS) (x : Int32) : kS := mPassS (mPassB M x) 8
def mSetT (x : Int32) : Int32 := if mIn x (nI 0) (nI 10000) then nI 0 else nI 1
def mSetE (M : kS) (x : Int32) : kS := setA (mGoes M (nI 0)) 0 (upd (upd (M 0) 0 (nI 0)) 2 x)
def mCodeT (M : kS) (a b : Int32) : Int32 := if mIn a (nI 1) (nI 10) && mIn b (nI 1) (nI 20) then (if M 0 3 = nI 10 then nI 2 else nI 0) else nI 1
def mCodeE (M : kS) (n : Nat) (a b : Int32) : kS := setA (setA (setA (mGoes M (nI 0)) 1 (upd (M 1) n a)) 2 (upd (M 2) n b)) 0 (upd (upd (M 0) 0 (nI 0)) 3 (nI (n + 1)))
def mUsedT (M : kS) (c x : Int32) : Int32 := if mIsC M c && mIsP x then nI 0 else nI 1
def mJoinT (M : kS) (x : Int32) : Int32 := if mIsP x then (if M 4 x.toNatClampNeg = (-1) then (if M 5 x.toNatClampNeg = (-1) then nI 0 else nI 2) else nI 2) else nI 1
def mJoinE (M : kS) (p : Nat) : kS := setA (mGoes M (nI 0)) 4 (upd (M 4) p (M 0 1))
def mQuitT (M : kS) (x : Int32) : Int32 := if mIsP x then (if M 4 x.toNatClampNeg = (-1) then nI 2 else nI 0) else nI 1
def mQuitE (M : kS) (p : Nat) : kS := setA (mGoes M (nI 0)) 4 (upd (M 4) p (-1))
def mQueT (M : kS) (x : Int32) : Int32 := if mIn x (nI 0) (nI (mCount M) - nI 1) then nI 0 else nI 1
def mHAre (M : kS) (a r q c : Int32) : Bool := mIsP a && mIsR r && mIn q (nI 0) (nI 9) && (decide (c = (-1)) || mIsC M c)
def mHRng (q m : Int32) : Bool := mIn m (nI 1) (nI 4) && decide (¬ nI 10 < q + m)
def mHFst (M : kS) (a r q c : Int32) : Int32 := if mHAre M a r q c then nI 10 * r + q else nI 0
def mHF (r q : Int32) : Nat := 10 * r.toNatClampNeg + q.toNatClampNeg
def mHCan (M : kS) (a r q m c : Int32) : Bool := mHAre M a r q c && mHRng q m && decide (mServed M = a) && mAreUp M a (mHF r q) m.toNatClampNeg
def mHTry (M : kS) (a r q m c : Int32) : Bool := mHCan M a r q m c && mWithin M c a.toNatClampNeg m
def mHK (M : kS) (a r q m c : Int32) : kS := if mHTry M a r q m c then mTry M a.toNatClampNeg (mHF r q) m.toNatClampNeg else M
def mHOk (M : kS) (a r q m c : Int32) : Bool := mHTry M a r q m c && !mLeaves M a.toNatClampNeg (mHF r q) m.toNatClampNeg
def mHoldT (M : kS) (a r q m c : Int32) : Int32 := if mHAre M a r q c then (if mHRng q m then (if mHOk M a r q m c then nI 0 else nI 3) else nI 2) else nI 1
def mHCost (M : kS) (f k : Nat) : Int32 := zsm (fun j => mPrice M (f + j)) k
def mHoldE (M : kS) (p f m : Nat) (c : Int32) : kS := setA (setA (setA (setA (setA (setA (setA (setA (mGoes (mTry M p f m) (nI 0)) 4 (upd (M 4) p (-1))) 5 (upd (mTry M p f m 5) p (nI f))) 6 (upd (mTry M p f m 6) p (nI m))) 7 (upd (M 7) p c)) 8 (upd (M 8) p (mHCost (mGoes (mTry M p f m) (nI 0)) f m))) 9 (upd (M 9) p (nI 0))) 10 (upd (M 10) p (M 0 1))) 11 (upd (M 11) p (M 0 1 + nI 10))
def mPayOk (M : kS) (a x : Int32) : Bool := mIsP a && mIn x (nI 1) (nI 1000) && decide (¬ M 5 a.toNatClampNeg = (-1)) && decide (¬ M 8 a.toNatClampNeg - M 9 a.toNatClampNeg < x)
def mPayT (M : kS) (a x : Int32) : Int32 := if mIsP a then (if mIn x (nI 1) (nI 1000) then (if mPayOk M a x then nI 0 else nI 3) else nI 2) else nI 1
def mPayB (M : kS) (p : Nat) (x : Int32) : kS := setA (setA (mGoes M (nI 0)) 9 (upd (M 9) p (M 9 p + x))) 12 (upd (M 12) p (M 12 p + x))
def mPayL (M : kS) (p : Nat) (x : Int32) : Int32 := M 8 p - (M 9 p + x)
def mPayE (M : kS) (p : Nat) (x : Int32) : kS := if mPayL M p x = 0 then mSold (mPayB M p x) p (M 5 p).toNatClampNeg (M 6 p).toNatClampNeg else mProl (mPayB M p x) p
def mGoT (M : kS) (x : Int32) : Int32 := if mIsP x then (if M 5 x.toNatClampNeg = (-1) then nI 2 else nI 0) else nI 1
def mLapT (x : Int32) : Int32 := if mIsP x then nI 0 else nI 1
def mLapR (M : kS) (p : Nat) : Int32 := if M 5 p = (-1) then -1 else M 11 p
def mSeaT (x : Int32) : Int32 := if mIsS x then nI 0 else nI 1
def mFirT (r m : Int32) : Int32 := if mIsR r then (if mIn m (nI 1) (nI 10) then nI 0 else nI 2) else nI 1
def mFirL (M : kS) (r : Nat) : Nat → Int32
  | 0 => nI 0
  | i + 1 => if mOpen M (10 * r + i) then mFirL M r i + nI 1 else nI 0
def mFirI (M : kS) (r : Nat) (m : Int32) : Int32 := zfind (fun i => decide (mFirL M r (i + 1) = m)) 10
def mFirR (M : kS) (r : Nat) (m : Int32) : Int32 := if mFirI M r m = (-1) then -1 else mFirI M r m - m + nI 1
def mOffA (a s : Int32) : Bool := mIsP a && mIsS s
def mOffC (M : kS) (a s : Int32) : Int32 := if mOffA a s then M 14 s.toNatClampNeg * nI 11 / nI 10 else nI 0
def mOffOk (M : kS) (a s x : Int32) : Bool := mOffA a s && mIn x (nI 1) (nI 10000) && decide (mState M s.toNatClampNeg = nI 2) && decide (M 13 s.toNatClampNeg = a) && decide (¬ mOffC M a s < x)
def mOffT (M : kS) (a s x : Int32) : Int32 := if mOffA a s then (if mIn x (nI 1) (nI 10000) then (if mOffOk M a s x then nI 0 else nI 3) else nI 2) else nI 1
def mOffE (M : kS) (s : Nat) (x : Int32) : kS := setA (mGoes M (nI 0)) 15 (upd (M 15) s x)
def mRetT (M : kS) (s : Int32) : Int32 := if mIsS s then (if mState M s.toNatClampNeg = nI 3 then nI 0 else nI 2) else nI 1
end
section
set_option maxHeartbeats 4000000 in
set_option maxRecDepth 100000 in
theorem kX6_in (l : Launch) (x : Int32) (a9 : Int32) (b9 : Int32)  : Met l yX6_in wsX6_in ({ frames := 0, cells := 0, slots := 0, locals := 0 }) (va_Pc [.int x, .int a9, .int b9] (fun _ => True)) (vp_Si (fun r => r = zb (mIn x a9 b9))) 0 0 (fun _ => False) := by
  refine Met.ofW (cc := cX6_in) (maxL := 3) (ret := (some .boolean)) (by decide) rfl ?_
  intro pP e s m args below meth c s₁ B hml hv
  obtain ⟨rfl, -⟩ := hv
  have hx := B.exec
  have hb := B.bytes
  have hr := B.returns
  have hts := atoms_spec (ws := wsX6_in) B.pre
  have hown : s.vm.findClass RX6 = some m.cls := findClass_of_methodNamed B.named
  have hlocks := B.notSynchronized
  have hl := lv_entry ([.int x, .int a9, .int b9]) (n := 3) (Nat.le_of_ble_eq_true rfl)
  rw [lg_entry_eq]
  generalize (lg_sl ([.int x, .int a9, .int b9]) ++ List.replicate (3 - (lg_sl ([.int x, .int a9, .int b9])).length) Slot.unset).toArray = ls at hl ⊢
  have hl : lv_has ls 3 [(0, .int x), (1, .int a9), (2, .int b9)] := hl
  refine lv_iload_n hx hb dX6_in_0 rfl (lv_at hl 0 rfl) ?_
  refine lv_iload_n hx hb dX6_in_1 rfl (lv_at hl 1 rfl) ?_
  refine lv_icmp_lt (tgt := 14) hx hb dX6_in_2 (by decide) (fun c_1 => ?_) (fun c_1 => ?_)
  · skip
    have c_1 : x < a9 := c_1
    refine lv_iconst (v := nI 0) hx hb dX6_in_14 (by decide) ?_
    exact W.zret (v := nI 0) hx hb hr rfl (fun t ht hW => ⟨_, rfl, (by simp [mIn, zb, c_1]), ht⟩) (fun _ h => nomatch h) dX6_in_15
  · skip
    have c_1 : ¬ x < a9 := c_1
    refine lv_iload_n hx hb dX6_in_5 rfl (lv_at hl 0 rfl) ?_
    refine lv_iload_n hx hb dX6_in_6 rfl (lv_at hl 2 rfl) ?_
    refine lv_icmp_gt (tgt := 14) hx hb dX6_in_7 (by decide) (fun c_2 => ?_) (fun c_2 => ?_)
    · skip
      have c_2 : b9 < x := c_2
      refine lv_iconst (v := nI 0) hx hb dX6_in_14 (by decide) ?_
      exact W.zret (v := nI 0) hx hb hr rfl (fun t ht hW => ⟨_, rfl, (by simp [mIn, zb, c_1, c_2]), ht⟩) (fun _ h => nomatch h) dX6_in_15
    · skip
      have c_2 : ¬ b9 < x := c_2
      refine lv_iconst (v := nI 1) hx hb dX6_in_10 (by decide) ?_
      refine lv_goto (tgt := 15) hx hb dX6_in_11 (by decide) ?_
      exact W.zret (v := nI 1) hx hb hr rfl (fun t ht hW => ⟨_, rfl, (by simp [mIn, zb, c_1, c_2]), ht⟩) (fun _ h => nomatch h) dX6_in_15
set_option maxHeartbeats 4000000 in
set_option maxRecDepth 100000 in
theorem kX6_isPerson (l : Launch) (x : Int32)  : Met l yX6_isPerson wsX6_isPerson ({ frames := 1, cells := 0, slots := 0, locals := 22 }) (va_Pc [.int x] (fun _ => True)) (vp_Si (fun r => r = zb (mIsP x))) 0 0 (fun _ => False) := by
  refine Met.ofW (cc := cX6_isPerson) (maxL := 1) (ret := (some .boolean)) (by decide) rfl ?_
  intro pP e s m args below meth c s₁ B hml hv
  obtain ⟨rfl, -⟩ := hv
  have hx := B.exec
  have hb := B.bytes
  have hr := B.returns
  have hts := atoms_spec (ws := wsX6_isPerson) B.pre
  have hown : s.vm.findClass RX6 = some m.cls := findClass_of_methodNamed B.named
  have hlocks := B.notSynchronized
  have hl := lv_entry ([.int x]) (n := 1) (Nat.le_of_ble_eq_true rfl)
  rw [lg_entry_eq]
  generalize (lg_sl ([.int x]) ++ List.replicate (1 - (lg_sl ([.int x])).length) Slot.unset).toArray = ls at hl ⊢
  have hl : lv_has ls 1 [(0, .int x)] := hl
  refine lv_iload_n hx hb dX6_isPerson_0 rfl (lv_at hl 0 rfl) ?_
  refine lv_iconst (v := nI 0) hx hb dX6_isPerson_1 (by decide) ?_
  refine lv_bipush (v := nI 7) hx hb dX6_isPerson_2 (by decide) ?_
  refine zc_rS (As := [.int x, .int (nI 0), .int (nI 7)]) (rest := []) ⟨hx, hb, hml, hown, hts⟩ (kX6_in l x (nI 0) (nI 7) ) (va_cwS 3 hts gX6_isPerson_X6_in rfl rfl rfl (by decide +kernel) ⟨(Nat.le_of_ble_eq_true rfl), (Nat.le_of_ble_eq_true rfl)⟩) rfl hl.1 rfl (Nat.le_of_ble_eq_true rfl) dX6_isPerson_4 ⟨Nat.zero_le _, Nat.zero_le _⟩ ?_
  exact W.zret (v := zb (mIn x (nI 0) (nI 7))) hx hb hr (zb_nar _) (fun t ht hW => ⟨_, rfl, rfl, ht⟩) (fun _ h => nomatch h) dX6_isPerson_7
set_option maxHeartbeats 4000000 in
set_option maxRecDepth 100000 in
theorem kX6_isSeat (l : Launch) (x : Int32)  : Met l yX6_isSeat wsX6_isSeat ({ frames := 1, cells := 0, slots := 0, locals := 22 }) (va_Pc [.int x] (fun _ => True)) (vp_Si (fun r => r = zb (mIsS x))) 0 0 (fun _ => False) := by
  refine Met.ofW (cc := cX6_isSeat) (maxL := 1) (ret := (some .boolean)) (by decide) rfl ?_
  intro pP e s m args below meth c s₁ B hml hv
  obtain ⟨rfl, -⟩ := hv
  have hx := B.exec
  have hb := B.bytes
  have hr := B.returns
  have hts := atoms_spec (ws := wsX6_isSeat) B.pre
  have hown : s.vm.findClass RX6 = some m.cls := findClass_of_methodNamed B.named
  have hlocks := B.notSynchronized
  have hl := lv_entry ([.int x]) (n := 1) (Nat.le_of_ble_eq_true rfl)
  rw [lg_entry_eq]
  generalize (lg_sl ([.int x]) ++ List.replicate (1 - (lg_sl ([.int x])).length) Slot.unset).toArray = ls at hl ⊢
  have hl : lv_has ls 1 [(0, .int x)] := hl
  refine lv_iload_n hx hb dX6_isSeat_0 rfl (lv_at hl 0 rfl) ?_
  refine lv_iconst (v := nI 0) hx hb dX6_isSeat_1 (by decide) ?_
  refine lv_bipush (v := nI 59) hx hb dX6_isSeat_2 (by decide) ?_
  refine zc_rS (As := [.int x, .int (nI 0), .int (nI 59)]) (rest := []) ⟨hx, hb, hml, hown, hts⟩ (kX6_in l x (nI 0) (nI 59) ) (va_cwS 3 hts gX6_isSeat_X6_in rfl rfl rfl (by decide +kernel) ⟨(Nat.le_of_ble_eq_true rfl), (Nat.le_of_ble_eq_true rfl)⟩) rfl hl.1 rfl (Nat.le_of_ble_eq_true rfl) dX6_isSeat_4 ⟨Nat.zero_le _, Nat.zero_le _⟩ ?_
  exact W.zret (v := zb (mIn x (nI 0) (nI 59))) hx hb hr (zb_nar _) (fun t ht hW => ⟨_, rfl, rfl, ht⟩) (fun _ h => nomatch h) dX6_isSeat_7
set_option maxHeartbeats 4000000 in
set_option maxRecDepth 100000 in
theorem kX6_isRow (l : Launch) (x : Int32)  : Met l yX6_isRow wsX6_isRow ({ frames := 1, cells := 0, slots := 0, locals := 22 }) (va_Pc [.int x] (fun _ => True)) (vp_Si (fun r => r = zb (mIsR x))) 0 0 (fun _ => False) := by
  refine Met.ofW (cc := cX6_isRow) (maxL := 1) (ret := (some .boolean)) (by decide) rfl ?_
  intro pP e s m args below meth c s₁ B hml hv
  obtain ⟨rfl, -⟩ := hv
  have hx := B.exec
  have hb := B.bytes
  have hr := B.returns
  have hts := atoms_spec (ws := wsX6_isRow) B.pre
  have hown : s.vm.findClass RX6 = some m.cls := findClass_of_methodNamed B.named
  have hlocks := B.notSynchronized
  have hl := lv_entry ([.int x]) (n := 1) (Nat.le_of_ble_eq_true rfl)
  rw [lg_entry_eq]
  generalize (lg_sl ([.int x]) ++ List.replicate (1 - (lg_sl ([.int x])).length) Slot.unset).toArray = ls at hl ⊢
  have hl : lv_has ls 1 [(0, .int x)] := hl
  refine lv_iload_n hx hb dX6_isRow_0 rfl (lv_at hl 0 rfl) ?_
  refine lv_iconst (v := nI 0) hx hb dX6_isRow_1 (by decide) ?_
  refine lv_iconst (v := nI 5) hx hb dX6_isRow_2 (by decide) ?_
  refine zc_rS (As := [.int x, .int (nI 0), .int (nI 5)]) (rest := []) ⟨hx, hb, hml, hown, hts⟩ (kX6_in l x (nI 0) (nI 5) ) (va_cwS 3 hts gX6_isRow_X6_in rfl rfl rfl (by decide +kernel) ⟨(Nat.le_of_ble_eq_true rfl), (Nat.le_of_ble_eq_true rfl)⟩) rfl hl.1 rfl (Nat.le_of_ble_eq_true rfl) dX6_isRow_3 ⟨Nat.zero_le _, Nat.zero_le _⟩ ?_
  exact W.zret (v := zb (mIn x (nI 0) (nI 5))) hx hb hr (zb_nar _) (fun t ht hW => ⟨_, rfl, rfl, ht⟩) (fun _ h => nomatch h) dX6_isRow_6
set_option maxHeartbeats 4000000 in
set_option maxRecDepth 100000 in
theorem kX6_thrown (l : Launch) (D : va_G) (cI cZ : ClassId) (ad : Nat → Nat) (K : kS)   : Met l yX6_thrown wsX6_thrown ({ frames := 0, cells := 0, slots := 0, locals := 0 }) (va_Pc [.ref (ad 0)] (zRd D (zTy cI cZ) (mwA ad cI cZ K))) (vp_Si (fun r => r = K 0 0)) 0 0 (fun _ => False) := by
  refine Met.ofW (cc := cX6_thrown) (maxL := 1) (ret := (some .int)) (by decide) rfl ?_
  intro pP e s m args below meth c s₁ B hml hv
  obtain ⟨rfl, hP, hK⟩ := hv
  have hx := B.exec
  have hb := B.bytes
  have hr := B.returns
  have hts := atoms_spec (ws := wsX6_thrown) B.pre
  have hown : s.vm.findClass RX6 = some m.cls := findClass_of_methodNamed B.named
  have hlocks := B.notSynchronized
  have hinX6 : ∀ w ∈ u_ws RX6 TX6 21, w ∈ wsX6_thrown := by decide +kernel
  have hl := lv_entry ([.ref (ad 0)]) (n := 1) (Nat.le_of_ble_eq_true rfl)
  rw [lg_entry_eq]
  generalize (lg_sl ([.ref (ad 0)]) ++ List.replicate (1 - (lg_sl ([.ref (ad 0)])).length) Slot.unset).toArray = ls at hl ⊢
  have hl : lv_has ls 1 [(0, .ref (ad 0))] := hl
  refine lv_aload_n hx hb dX6_thrown_0 rfl (lv_at hl 0 rfl) ?_
  refine va_get (D := D) (ci := 6) (v := .int (K 0 0)) (C := RX6) (T := TX6) (N := 21) hx hb hts hinX6 hown hK hP 0 rfl rfl 0 (by decide) (hts (.fieldLink RX6 63 "AuditoriumKeysModel" "thrown" "I") (List.mem_of_getElem? (i := 1) rfl)) (fun _ h9 => h9) rfl dX6_thrown_1 ?_
  exact W.iret (v := K 0 0) hx hb hr (fun t ht hW => ⟨_, rfl, rfl, ht⟩) (fun _ h => nomatch h) dX6_thrown_4
set_option maxHeartbeats 4000000 in
set_option maxRecDepth 100000 in
theorem kX6_goesWell (l : Launch) (D : va_G) (cI cZ : ClassId) (ad : Nat → Nat) (K : kS) (sz : Nat) (x : Int32)  : Met l yX6_goesWell wsX6_goesWell ({ frames := 0, cells := 0, slots := 0, locals := 0 }) (va_Pc [.ref (ad 0), .int x] (zPr D (zTy cI cZ) (mwA ad cI cZ K) sz)) (va_Qi (fun r (_ : Unit) => r = zb (decide (x = 0))) (fun _ => zPo D (zTy cI cZ) (va_A (mwA ad cI cZ K) sz) (mwA ad cI cZ (mGoes K x))) (va_A (mwA ad cI cZ K) sz)) 0 0 (va_A (mwA ad cI cZ K) sz) := by
  refine Met.ofW (cc := cX6_goesWell) (maxL := 2) (ret := (some .boolean)) (by decide) rfl ?_
  intro pP e s m args below meth c s₁ B hml hv
  obtain ⟨rfl, hsz, hP, hK, hD0⟩ := hv
  have hx := B.exec
  have hb := B.bytes
  have hr := B.returns
  have hts := atoms_spec (ws := wsX6_goesWell) B.pre
  have hown : s.vm.findClass RX6 = some m.cls := findClass_of_methodNamed B.named
  have hlocks := B.notSynchronized
  subst hsz
  have hD := hD0.self (sz := s.heap.size)
  generalize hAe : va_A (mwA ad cI cZ K) s.heap.size = A at hD ⊢
  have hA : ∀ q : Nat, s.heap.size ≤ q → A q := fun q h => by rw [← hAe]; exact Or.inr h
  have hS : va_S A s.heap s.heap [] := va_S.rf
  have hinX6 : ∀ w ∈ u_ws RX6 TX6 21, w ∈ wsX6_goesWell := by decide +kernel
  have hl := lv_entry ([.ref (ad 0), .int x]) (n := 2) (Nat.le_of_ble_eq_true rfl)
  rw [lg_entry_eq]
  generalize (lg_sl ([.ref (ad 0), .int x]) ++ List.replicate (2 - (lg_sl ([.ref (ad 0), .int x])).length) Slot.unset).toArray = ls at hl ⊢
  have hl : lv_has ls 2 [(0, .ref (ad 0)), (1, .int x)] := hl
  refine lv_aload_n hx hb dX6_goesWell_0 rfl (lv_at hl 0 rfl) ?_
  refine lv_iload_n hx hb dX6_goesWell_1 rfl (lv_at hl 1 rfl) ?_
  refine va_put (D := D) (ci := 6) (v := .int x) (ty := .int) (C := RX6) (T := TX6) (N := 21) hx hb hts hinX6 tyX6 tyX6_ok nmX6 hown hK hP hD hS 0 rfl rfl 0 (by decide) (hts (.fieldLink RX6 63 "AuditoriumKeysModel" "thrown" "I") (List.mem_of_getElem? (i := 1) rfl)) (fun _ h9 => h9) rfl (by decide +kernel) rfl rfl (Nat.le_of_ble_eq_true rfl) dX6_goesWell_2 (fun H locs hP hD hS => ?_)
  have hP : va_P D vwCl (mwA ad cI cZ (setA K 0 (upd (K 0) 0 x))) _ := hP
  have hD : va_D A (mwA ad cI cZ (setA K 0 (upd (K 0) 0 x))) := hD
  refine lv_iload_n hx hb dX6_goesWell_5 rfl (lv_at hl 1 rfl) ?_
  refine lv_if_ne (tgt := 13) hx hb dX6_goesWell_6 (by decide) (fun c_1 => ?_) (fun c_1 => ?_)
  · skip
    have c_1 : ¬ x = 0 := c_1
    refine lv_iconst (v := nI 0) hx hb dX6_goesWell_13 (by decide) ?_
    have eK9 : (mGoes K x) = (setA K 0 (upd (K 0) 0 x)) := rfl
    have hP9 := hP
    have hD9 := hD
    rw [← eK9] at hP9 hD9
    exact W.zret (v := nI 0) hx hb hr rfl (fun t ht hW => ⟨⟨nI 0, (), rfl, (by simp [zb, mGoes, c_1]), by rw [ht]; exact hP9, va_K.moved hW.alike hK, hD9⟩, hS.F ht⟩) hS.2.2 dX6_goesWell_14
  · skip
    have c_1 : x = 0 := c_1
    refine lv_iconst (v := nI 1) hx hb dX6_goesWell_9 (by decide) ?_
    refine lv_goto (tgt := 14) hx hb dX6_goesWell_10 (by decide) ?_
    have eK9 : (mGoes K x) = (setA K 0 (upd (K 0) 0 x)) := rfl
    have hP9 := hP
    have hD9 := hD
    rw [← eK9] at hP9 hD9
    exact W.zret (v := nI 1) hx hb hr rfl (fun t ht hW => ⟨⟨nI 1, (), rfl, (by simp [zb, mGoes, eq_true c_1]), by rw [ht]; exact hP9, va_K.moved hW.alike hK, hD9⟩, hS.F ht⟩) hS.2.2 dX6_goesWell_14
set_option maxHeartbeats 4000000 in
set_option maxRecDepth 100000 in
theorem kX6_isCode (l : Launch) (D : va_G) (cI cZ : ClassId) (ad : Nat → Nat) (K : kS) (x : Int32)  : Met l yX6_isCode wsX6_isCode ({ frames := 1, cells := 0, slots := 0, locals := 22 }) (va_Pc [.ref (ad 0), .int x] (zRd D (zTy cI cZ) (mwA ad cI cZ K))) (vp_Si (fun r => r = zb (mIsC K x))) 0 0 (fun _ => False) := by
  refine Met.ofW (cc := cX6_isCode) (maxL := 2) (ret := (some .boolean)) (by decide) rfl ?_
  intro pP e s m args below meth c s₁ B hml hv
  obtain ⟨rfl, hP, hK⟩ := hv
  have hx := B.exec
  have hb := B.bytes
  have hr := B.returns
  have hts := atoms_spec (ws := wsX6_isCode) B.pre
  have hown : s.vm.findClass RX6 = some m.cls := findClass_of_methodNamed B.named
  have hlocks := B.notSynchronized
  have hinX6 : ∀ w ∈ u_ws RX6 TX6 21, w ∈ wsX6_isCode := by decide +kernel
  have hl := lv_entry ([.ref (ad 0), .int x]) (n := 2) (Nat.le_of_ble_eq_true rfl)
  rw [lg_entry_eq]
  generalize (lg_sl ([.ref (ad 0), .int x]) ++ List.replicate (2 - (lg_sl ([.ref (ad 0), .int x])).length) Slot.unset).toArray = ls at hl ⊢
  have hl : lv_has ls 2 [(0, .ref (ad 0)), (1, .int x)] := hl
  refine lv_iload_n hx hb dX6_isCode_0 rfl (lv_at hl 1 rfl) ?_
  refine lv_iconst (v := nI 0) hx hb dX6_isCode_1 (by decide) ?_
  refine lv_aload_n hx hb dX6_isCode_2 rfl (lv_at hl 0 rfl) ?_
  refine va_get (D := D) (ci := 6) (v := .int (K 0 3)) (C := RX6) (T := TX6) (N := 21) hx hb hts hinX6 hown hK hP 0 rfl rfl 3 (by decide) (hts (.fieldLink RX6 70 "AuditoriumKeysModel" "codes" "I") (List.mem_of_getElem? (i := 1) rfl)) (fun _ h9 => h9) rfl dX6_isCode_3 ?_
  refine lv_iconst (v := nI 1) hx hb dX6_isCode_6 (by decide) ?_
  refine lv_isub hx hb dX6_isCode_7 ?_
  refine zc_rS (As := [.int x, .int (nI 0), .int ((K 0 3) - (nI 1))]) (rest := []) ⟨hx, hb, hml, hown, hts⟩ (kX6_in l x (nI 0) ((K 0 3) - (nI 1)) ) (va_cwS 3 hts gX6_isCode_X6_in rfl rfl rfl (by decide +kernel) ⟨(Nat.le_of_ble_eq_true rfl), (Nat.le_of_ble_eq_true rfl)⟩) rfl hl.1 rfl (Nat.le_of_ble_eq_true rfl) dX6_isCode_8 ⟨Nat.zero_le _, Nat.zero_le _⟩ ?_
  exact W.zret (v := zb (mIn x (nI 0) ((K 0 3) - (nI 1)))) hx hb hr (zb_nar _) (fun t ht hW => ⟨_, rfl, rfl, ht⟩) (fun _ h => nomatch h) dX6_isCode_11
set_option maxHeartbeats 4000000 in
set_option maxRecDepth 100000 in
theorem kX6_isHeld (l : Launch) (D : va_G) (cI cZ : ClassId) (ad : Nat → Nat) (K : kS) (x : Int32)  : Met l yX6_isHeld wsX6_isHeld ({ frames := 1, cells := 0, slots := 0, locals := 22 }) (va_Pc [.ref (ad 0), .int x] (zRd D (zTy cI cZ) (mwA ad cI cZ K))) (vp_Si (fun r => r = zb (mHeld K x))) 0 0 (fun _ => False) := by
  refine Met.ofW (cc := cX6_isHeld) (maxL := 4) (ret := (some .boolean)) (by decide) rfl ?_
  intro pP e s m args below meth c s₁ B hml hv
  obtain ⟨rfl, hP, hK⟩ := hv
  have hx := B.exec
  have hb := B.bytes
  have hr := B.returns
  have hts := atoms_spec (ws := wsX6_isHeld) B.pre
  have hown : s.vm.findClass RX6 = some m.cls := findClass_of_methodNamed B.named
  have hlocks := B.notSynchronized
  have hinX6 : ∀ w ∈ u_ws RX6 TX6 21, w ∈ wsX6_isHeld := by decide +kernel
  have hl := lv_entry ([.ref (ad 0), .int x]) (n := 4) (Nat.le_of_ble_eq_true rfl)
  rw [lg_entry_eq]
  generalize (lg_sl ([.ref (ad 0), .int x]) ++ List.replicate (4 - (lg_sl ([.ref (ad 0), .int x])).length) Slot.unset).toArray = ls at hl ⊢
  have hl : lv_has ls 4 [(0, .ref (ad 0)), (1, .int x)] := hl
  refine lv_iconst (v := nI 0) hx hb dX6_isHeld_0 (by decide) ?_
  refine lv_istore_n (lv' := [(2, .int (nI 0)), (0, .ref (ad 0)), (1, .int x)]) hx hb dX6_isHeld_1 rfl hl (by decide) rfl (fun ls hl => ?_)
  refine lv_iconst (v := nI 0) hx hb dX6_isHeld_2 (by decide) ?_
  refine lv_istore_n (lv' := [(3, .int (nI 0)), (2, .int (nI 0)), (0, .ref (ad 0)), (1, .int x)]) hx hb dX6_isHeld_3 rfl hl (by decide) rfl (fun ls hl => ?_)
  have lp_a : ∀ (n i : Nat), 0 ≤ i → i ≤ 8 → 8 - i < n → ∀ ls : Array Slot, lv_has ls 4 [(3, .int (nI i)), (2, .int (zb (mHeldUp K x i))), (0, .ref (ad 0)), (1, .int x)] → W pP l e ({ frames := 1, cells := 0, slots := 0, locals := 22 } : Room) s m ([.ref (ad 0), .int x] : List Value).toArray below meth c s.heap [] 0 0 (MQ below (vp_Si (fun r => r = zb (mHeld K x))) ([.ref (ad 0), .int x] : List Value).toArray s 0 0 (fun _ => False)) (F0 m 4 ls []) := by
    intro n
    induction n with
    | zero => intro i _ _ h; exact absurd h (Nat.not_lt_zero _)
    | succ n ih_a =>
      intro i hlo_a hin_a hdn_a  ls hl
      refine lv_iload_n hx hb dX6_isHeld_4 rfl (lv_at hl 0 rfl) ?_
      refine lv_bipush (v := nI 8) hx hb dX6_isHeld_5 (by decide) ?_
      refine lv_icmp_ge (tgt := 64) hx hb dX6_isHeld_7 (by decide) (fun c_1 => ?_) (fun c_1 => ?_)
      · skip
        have c_1 := (nI_leI (a := 8) (b := i) (by omega) (by omega)).mp c_1
        have hi8 : i = 8 := by omega
        refine lv_iload_n hx hb dX6_isHeld_64 rfl (lv_at hl 1 rfl) ?_
        exact W.zret (v := zb (mHeldUp K x i)) hx hb hr (zb_nar _) (fun t ht hW => ⟨_, rfl, (by rw [hi8]; rfl), ht⟩) (fun _ h => nomatch h) dX6_isHeld_65
      · skip
        have c_1 : ¬ 8 ≤ i := fun h => c_1 ((nI_leI (a := 8) (b := i) (by omega) (by omega)).mpr h)
        refine lv_iload_n hx hb dX6_isHeld_10 rfl (lv_at hl 1 rfl) ?_
        refine lv_if_ne (tgt := 52) hx hb dX6_isHeld_11 (by decide) (fun c_2 => ?_) (fun c_2 => ?_)
        · skip
          have c_2 := zb_t c_2
          refine lv_iconst (v := nI 1) hx hb dX6_isHeld_52 (by decide) ?_
          refine lv_goto (tgt := 57) hx hb dX6_isHeld_53 (by decide) ?_
          refine lv_istore_n (lv' := [(2, .int (nI 1)), (3, .int (nI i)), (0, .ref (ad 0)), (1, .int x)]) hx hb dX6_isHeld_57 rfl hl (by decide) rfl (fun ls hl => ?_)
          refine lv_iinc (v := nI (i + 1)) (lv' := [(3, .int (nI (i + 1))), (2, .int (nI 1)), (0, .ref (ad 0)), (1, .int x)]) hx hb dX6_isHeld_58 hl (k := 1) rfl ((show nI i + Int32.ofInt 1 = nI i + nI 1 from rfl).trans (nI_add _ _)) (by decide) rfl (fun ls hl => ?_)
          refine lv_goto (tgt := 4) hx hb dX6_isHeld_61 (by decide) ?_
          have es_3 : zb (mHeldUp K x (i + 1)) = nI 1 := (by simp [mHeldUp, zb, c_1, c_2])
          exact ih_a (i + 1) (by omega) (by omega) (by omega)  ls (by rw [es_3]; exact lv_sub hl [0, 1, 2, 3] rfl)
        · skip
          have c_2 := zb_f c_2
          refine lv_aload_n hx hb dX6_isHeld_14 rfl (lv_at hl 2 rfl) ?_
          refine va_get (D := D) (ci := 6) (v := .ref (ad 5)) (C := RX6) (T := TX6) (N := 21) hx hb hts hinX6 hown hK hP 0 rfl rfl 8 (by decide) (hts (.fieldLink RX6 26 "AuditoriumKeysModel" "firsts" "[I") (List.mem_of_getElem? (i := 1) rfl)) (fun _ h9 => h9) rfl dX6_isHeld_15 ?_
          refine lv_iload_n hx hb dX6_isHeld_18 rfl (lv_at hl 0 rfl) ?_
          refine zz_iald hx hb hK hP 5 0 rfl rfl i (by omega) (by decide) dX6_isHeld_19 ?_
          refine lv_iconst (v := (-1)) hx hb dX6_isHeld_20 (by decide) ?_
          refine lv_icmp_eq (tgt := 56) hx hb dX6_isHeld_21 (by decide) (fun c_4 => ?_) (fun c_4 => ?_)
          · skip
            have c_4 : K 5 i = (-1) := c_4
            refine lv_iconst (v := nI 0) hx hb dX6_isHeld_56 (by decide) ?_
            refine lv_istore_n (lv' := [(2, .int (nI 0)), (3, .int (nI i)), (0, .ref (ad 0)), (1, .int x)]) hx hb dX6_isHeld_57 rfl hl (by decide) rfl (fun ls hl => ?_)
            refine lv_iinc (v := nI (i + 1)) (lv' := [(3, .int (nI (i + 1))), (2, .int (nI 0)), (0, .ref (ad 0)), (1, .int x)]) hx hb dX6_isHeld_58 hl (k := 1) rfl ((show nI i + Int32.ofInt 1 = nI i + nI 1 from rfl).trans (nI_add _ _)) (by decide) rfl (fun ls hl => ?_)
            refine lv_goto (tgt := 4) hx hb dX6_isHeld_61 (by decide) ?_
            have es_5 : zb (mHeldUp K x (i + 1)) = nI 0 := (by simp [mHeldUp, zb, c_1, c_2, eq_true c_4])
            exact ih_a (i + 1) (by omega) (by omega) (by omega)  ls (by rw [es_5]; exact lv_sub hl [0, 1, 2, 3] rfl)
          · skip
            have c_4 : ¬ K 5 i = (-1) := c_4
            refine lv_iload_n hx hb dX6_isHeld_24 rfl (lv_at hl 3 rfl) ?_
            refine lv_aload_n hx hb dX6_isHeld_25 rfl (lv_at hl 2 rfl) ?_
            refine va_get (D := D) (ci := 6) (v := .ref (ad 5)) (C := RX6) (T := TX6) (N := 21) hx hb hts hinX6 hown hK hP 0 rfl rfl 8 (by decide) (hts (.fieldLink RX6 26 "AuditoriumKeysModel" "firsts" "[I") (List.mem_of_getElem? (i := 1) rfl)) (fun _ h9 => h9) rfl dX6_isHeld_26 ?_
            refine lv_iload_n hx hb dX6_isHeld_29 rfl (lv_at hl 0 rfl) ?_
            refine zz_iald hx hb hK hP 5 0 rfl rfl i (by omega) (by decide) dX6_isHeld_30 ?_
            refine lv_aload_n hx hb dX6_isHeld_31 rfl (lv_at hl 2 rfl) ?_
            refine va_get (D := D) (ci := 6) (v := .ref (ad 5)) (C := RX6) (T := TX6) (N := 21) hx hb hts hinX6 hown hK hP 0 rfl rfl 8 (by decide) (hts (.fieldLink RX6 26 "AuditoriumKeysModel" "firsts" "[I") (List.mem_of_getElem? (i := 1) rfl)) (fun _ h9 => h9) rfl dX6_isHeld_32 ?_
            refine lv_iload_n hx hb dX6_isHeld_35 rfl (lv_at hl 0 rfl) ?_
            refine zz_iald hx hb hK hP 5 0 rfl rfl i (by omega) (by decide) dX6_isHeld_36 ?_
            refine lv_aload_n hx hb dX6_isHeld_37 rfl (lv_at hl 2 rfl) ?_
            refine va_get (D := D) (ci := 6) (v := .ref (ad 6)) (C := RX6) (T := TX6) (N := 21) hx hb hts hinX6 hown hK hP 0 rfl rfl 9 (by decide) (hts (.fieldLink RX6 29 "AuditoriumKeysModel" "manies" "[I") (List.mem_of_getElem? (i := 2) rfl)) (fun _ h9 => h9) rfl dX6_isHeld_38 ?_
            refine lv_iload_n hx hb dX6_isHeld_41 rfl (lv_at hl 0 rfl) ?_
            refine zz_iald hx hb hK hP 6 0 rfl rfl i (by omega) (by decide) dX6_isHeld_42 ?_
            refine lv_iadd hx hb dX6_isHeld_43 ?_
            refine lv_iconst (v := nI 1) hx hb dX6_isHeld_44 (by decide) ?_
            refine lv_isub hx hb dX6_isHeld_45 ?_
            refine zc_rS (As := [.int x, .int (K 5 i), .int (((K 5 i) + (K 6 i)) - (nI 1))]) (rest := []) ⟨hx, hb, hml, hown, hts⟩ (kX6_in l x (K 5 i) (((K 5 i) + (K 6 i)) - (nI 1)) ) (va_cwS 3 hts gX6_isHeld_X6_in rfl rfl rfl (by decide +kernel) ⟨(Nat.le_of_ble_eq_true rfl), (Nat.le_of_ble_eq_true rfl)⟩) rfl hl.1 rfl (Nat.le_of_ble_eq_true rfl) dX6_isHeld_46 ⟨Nat.zero_le _, Nat.zero_le _⟩ ?_
            refine lv_if_eq (tgt := 56) hx hb dX6_isHeld_49 (by decide) (fun c_6 => ?_) (fun c_6 => ?_)
            · skip
              have c_6 := zb_f c_6
              refine lv_iconst (v := nI 0) hx hb dX6_isHeld_56 (by decide) ?_
              refine lv_istore_n (lv' := [(2, .int (nI 0)), (3, .int (nI i)), (0, .ref (ad 0)), (1, .int x)]) hx hb dX6_isHeld_57 rfl hl (by decide) rfl (fun ls hl => ?_)
              refine lv_iinc (v := nI (i + 1)) (lv' := [(3, .int (nI (i + 1))), (2, .int (nI 0)), (0, .ref (ad 0)), (1, .int x)]) hx hb dX6_isHeld_58 hl (k := 1) rfl ((show nI i + Int32.ofInt 1 = nI i + nI 1 from rfl).trans (nI_add _ _)) (by decide) rfl (fun ls hl => ?_)
              refine lv_goto (tgt := 4) hx hb dX6_isHeld_61 (by decide) ?_
              have es_7 : zb (mHeldUp K x (i + 1)) = nI 0 := (by simp [mHeldUp, zb, c_1, c_2, c_4, c_6])
              exact ih_a (i + 1) (by omega) (by omega) (by omega)  ls (by rw [es_7]; exact lv_sub hl [0, 1, 2, 3] rfl)
            · skip
              have c_6 := zb_t c_6
              refine lv_iconst (v := nI 1) hx hb dX6_isHeld_52 (by decide) ?_
              refine lv_goto (tgt := 57) hx hb dX6_isHeld_53 (by decide) ?_
              refine lv_istore_n (lv' := [(2, .int (nI 1)), (3, .int (nI i)), (0, .ref (ad 0)), (1, .int x)]) hx hb dX6_isHeld_57 rfl hl (by decide) rfl (fun ls hl => ?_)
              refine lv_iinc (v := nI (i + 1)) (lv' := [(3, .int (nI (i + 1))), (2, .int (nI 1)), (0, .ref (ad 0)), (1, .int x)]) hx hb dX6_isHeld_58 hl (k := 1) rfl ((show nI i + Int32.ofInt 1 = nI i + nI 1 from rfl).trans (nI_add _ _)) (by decide) rfl (fun ls hl => ?_)
              refine lv_goto (tgt := 4) hx hb dX6_isHeld_61 (by decide) ?_
              have es_8 : zb (mHeldUp K x (i + 1)) = nI 1 := (by simp [mHeldUp, zb, c_1, c_2, c_4, c_6])
              exact ih_a (i + 1) (by omega) (by omega) (by omega)  ls (by rw [es_8]; exact lv_sub hl [0, 1, 2, 3] rfl)
  have ei_a_2 : zb (mHeldUp K x 0) = nI 0 := rfl
  exact lp_a (8 - 0 + 1) 0 (by omega) (by omega) (by omega)  ls (by rw [ei_a_2]; exact lv_sub hl [0, 1, 2, 3] rfl)
set_option maxHeartbeats 4000000 in
set_option maxRecDepth 100000 in
theorem kX6_stateOf (l : Launch) (D : va_G) (cI cZ : ClassId) (ad : Nat → Nat) (K : kS) (s9 : Nat) (hs9 : s9 < 60) : Met l yX6_stateOf wsX6_stateOf ({ frames := 2, cells := 0, slots := 0, locals := 45 }) (va_Pc [.ref (ad 0), .int (nI s9)] (zRd D (zTy cI cZ) (mwA ad cI cZ K))) (vp_Si (fun r => r = mState K s9)) 0 0 (fun _ => False) := by
  refine Met.ofW (cc := cX6_stateOf) (maxL := 2) (ret := (some .int)) (by decide) rfl ?_
  intro pP e s m args below meth c s₁ B hml hv
  obtain ⟨rfl, hP, hK⟩ := hv
  have hx := B.exec
  have hb := B.bytes
  have hr := B.returns
  have hts := atoms_spec (ws := wsX6_stateOf) B.pre
  have hown : s.vm.findClass RX6 = some m.cls := findClass_of_methodNamed B.named
  have hlocks := B.notSynchronized
  have hinX6 : ∀ w ∈ u_ws RX6 TX6 21, w ∈ wsX6_stateOf := by decide +kernel
  have hl := lv_entry ([.ref (ad 0), .int (nI s9)]) (n := 2) (Nat.le_of_ble_eq_true rfl)
  rw [lg_entry_eq]
  generalize (lg_sl ([.ref (ad 0), .int (nI s9)]) ++ List.replicate (2 - (lg_sl ([.ref (ad 0), .int (nI s9)])).length) Slot.unset).toArray = ls at hl ⊢
  have hl : lv_has ls 2 [(0, .ref (ad 0)), (1, .int (nI s9))] := hl
  refine lv_aload_n hx hb dX6_stateOf_0 rfl (lv_at hl 0 rfl) ?_
  refine lv_iload_n hx hb dX6_stateOf_1 rfl (lv_at hl 1 rfl) ?_
  refine zc_rV (As := [.int (nI s9)]) (rest := []) ⟨hx, hb, hml, hown, hts⟩ (kX6_isHeld l D cI cZ ad K (nI s9) ) (cwV 1 hts gX6_stateOf_X6_isHeld rfl rfl rfl (by decide +kernel) ⟨(Nat.le_of_ble_eq_true rfl), (Nat.le_of_ble_eq_true rfl)⟩) hK hP (ci := 6) (q0 := 0) rfl rfl rfl rfl hl.1 rfl (Nat.le_of_ble_eq_true rfl) dX6_stateOf_2 ⟨Nat.zero_le _, Nat.zero_le _⟩ ?_
  refine lv_if_eq (tgt := 10) hx hb dX6_stateOf_5 (by decide) (fun c_1 => ?_) (fun c_1 => ?_)
  · skip
    have c_1 := zb_f c_1
    refine lv_aload_n hx hb dX6_stateOf_10 rfl (lv_at hl 0 rfl) ?_
    refine va_get (D := D) (ci := 6) (v := .ref (ad 13)) (C := RX6) (T := TX6) (N := 21) hx hb hts hinX6 hown hK hP 0 rfl rfl 16 (by decide) (hts (.fieldLink RX6 50 "AuditoriumKeysModel" "owners" "[I") (List.mem_of_getElem? (i := 1) rfl)) (fun _ h9 => h9) rfl dX6_stateOf_11 ?_
    refine lv_iload_n hx hb dX6_stateOf_14 rfl (lv_at hl 1 rfl) ?_
    refine zz_iald hx hb hK hP 13 0 rfl rfl s9 (by omega) (by decide) dX6_stateOf_15 ?_
    refine lv_iconst (v := (-1)) hx hb dX6_stateOf_16 (by decide) ?_
    refine lv_icmp_ne (tgt := 24) hx hb dX6_stateOf_17 (by decide) (fun c_2 => ?_) (fun c_2 => ?_)
    · skip
      have c_2 : ¬ K 13 s9 = (-1) := c_2
      refine lv_aload_n hx hb dX6_stateOf_24 rfl (lv_at hl 0 rfl) ?_
      refine va_get (D := D) (ci := 6) (v := .ref (ad 15)) (C := RX6) (T := TX6) (N := 21) hx hb hts hinX6 hown hK hP 0 rfl rfl 18 (by decide) (hts (.fieldLink RX6 56 "AuditoriumKeysModel" "offered" "[I") (List.mem_of_getElem? (i := 2) rfl)) (fun _ h9 => h9) rfl dX6_stateOf_25 ?_
      refine lv_iload_n hx hb dX6_stateOf_28 rfl (lv_at hl 1 rfl) ?_
      refine zz_iald hx hb hK hP 15 0 rfl rfl s9 (by omega) (by decide) dX6_stateOf_29 ?_
      refine lv_iconst (v := (-1)) hx hb dX6_stateOf_30 (by decide) ?_
      refine lv_icmp_ne (tgt := 38) hx hb dX6_stateOf_31 (by decide) (fun c_3 => ?_) (fun c_3 => ?_)
      · skip
        have c_3 : ¬ K 15 s9 = (-1) := c_3
        refine lv_iconst (v := nI 3) hx hb dX6_stateOf_38 (by decide) ?_
        exact W.iret (v := nI 3) hx hb hr (fun t ht hW => ⟨_, rfl, (by simp [mState, c_1, c_2, c_3]), ht⟩) (fun _ h => nomatch h) dX6_stateOf_39
      · skip
        have c_3 : K 15 s9 = (-1) := c_3
        refine lv_iconst (v := nI 2) hx hb dX6_stateOf_34 (by decide) ?_
        refine lv_goto (tgt := 39) hx hb dX6_stateOf_35 (by decide) ?_
        exact W.iret (v := nI 2) hx hb hr (fun t ht hW => ⟨_, rfl, (by simp [mState, c_1, c_2, eq_true c_3]), ht⟩) (fun _ h => nomatch h) dX6_stateOf_39
    · skip
      have c_2 : K 13 s9 = (-1) := c_2
      refine lv_iconst (v := nI 0) hx hb dX6_stateOf_20 (by decide) ?_
      refine lv_goto (tgt := 39) hx hb dX6_stateOf_21 (by decide) ?_
      exact W.iret (v := nI 0) hx hb hr (fun t ht hW => ⟨_, rfl, (by simp [mState, c_1, eq_true c_2]), ht⟩) (fun _ h => nomatch h) dX6_stateOf_39
  · skip
    have c_1 := zb_t c_1
    refine lv_iconst (v := nI 1) hx hb dX6_stateOf_8 (by decide) ?_
    exact W.iret (v := nI 1) hx hb hr (fun t ht hW => ⟨_, rfl, (by simp [mState, c_1]), ht⟩) (fun _ h => nomatch h) dX6_stateOf_9
set_option maxHeartbeats 4000000 in
set_option maxRecDepth 100000 in
theorem kX6_isOpen (l : Launch) (D : va_G) (cI cZ : ClassId) (ad : Nat → Nat) (K : kS) (s9 : Nat) (hs9 : s9 < 60) : Met l yX6_isOpen wsX6_isOpen ({ frames := 2, cells := 0, slots := 0, locals := 45 }) (va_Pc [.ref (ad 0), .int (nI s9)] (zRd D (zTy cI cZ) (mwA ad cI cZ K))) (vp_Si (fun r => r = zb (mOpen K s9))) 0 0 (fun _ => False) := by
  refine Met.ofW (cc := cX6_isOpen) (maxL := 2) (ret := (some .boolean)) (by decide) rfl ?_
  intro pP e s m args below meth c s₁ B hml hv
  obtain ⟨rfl, hP, hK⟩ := hv
  have hx := B.exec
  have hb := B.bytes
  have hr := B.returns
  have hts := atoms_spec (ws := wsX6_isOpen) B.pre
  have hown : s.vm.findClass RX6 = some m.cls := findClass_of_methodNamed B.named
  have hlocks := B.notSynchronized
  have hinX6 : ∀ w ∈ u_ws RX6 TX6 21, w ∈ wsX6_isOpen := by decide +kernel
  have hl := lv_entry ([.ref (ad 0), .int (nI s9)]) (n := 2) (Nat.le_of_ble_eq_true rfl)
  rw [lg_entry_eq]
  generalize (lg_sl ([.ref (ad 0), .int (nI s9)]) ++ List.replicate (2 - (lg_sl ([.ref (ad 0), .int (nI s9)])).length) Slot.unset).toArray = ls at hl ⊢
  have hl : lv_has ls 2 [(0, .ref (ad 0)), (1, .int (nI s9))] := hl
  refine lv_aload_n hx hb dX6_isOpen_0 rfl (lv_at hl 0 rfl) ?_
  refine lv_iload_n hx hb dX6_isOpen_1 rfl (lv_at hl 1 rfl) ?_
  refine zc_rV (As := [.int (nI s9)]) (rest := []) ⟨hx, hb, hml, hown, hts⟩ (kX6_isHeld l D cI cZ ad K (nI s9) ) (cwV 1 hts gX6_isOpen_X6_isHeld rfl rfl rfl (by decide +kernel) ⟨(Nat.le_of_ble_eq_true rfl), (Nat.le_of_ble_eq_true rfl)⟩) hK hP (ci := 6) (q0 := 0) rfl rfl rfl rfl hl.1 rfl (Nat.le_of_ble_eq_true rfl) dX6_isOpen_2 ⟨Nat.zero_le _, Nat.zero_le _⟩ ?_
  refine lv_if_ne (tgt := 32) hx hb dX6_isOpen_5 (by decide) (fun c_1 => ?_) (fun c_1 => ?_)
  · skip
    have c_1 := zb_t c_1
    refine lv_iconst (v := nI 0) hx hb dX6_isOpen_32 (by decide) ?_
    exact W.zret (v := nI 0) hx hb hr rfl (fun t ht hW => ⟨_, rfl, (by simp [mOpen, zb, c_1]), ht⟩) (fun _ h => nomatch h) dX6_isOpen_33
  · skip
    have c_1 := zb_f c_1
    refine lv_aload_n hx hb dX6_isOpen_8 rfl (lv_at hl 0 rfl) ?_
    refine va_get (D := D) (ci := 6) (v := .ref (ad 13)) (C := RX6) (T := TX6) (N := 21) hx hb hts hinX6 hown hK hP 0 rfl rfl 16 (by decide) (hts (.fieldLink RX6 50 "AuditoriumKeysModel" "owners" "[I") (List.mem_of_getElem? (i := 1) rfl)) (fun _ h9 => h9) rfl dX6_isOpen_9 ?_
    refine lv_iload_n hx hb dX6_isOpen_12 rfl (lv_at hl 1 rfl) ?_
    refine zz_iald hx hb hK hP 13 0 rfl rfl s9 (by omega) (by decide) dX6_isOpen_13 ?_
    refine lv_iconst (v := (-1)) hx hb dX6_isOpen_14 (by decide) ?_
    refine lv_icmp_eq (tgt := 28) hx hb dX6_isOpen_15 (by decide) (fun c_2 => ?_) (fun c_2 => ?_)
    · skip
      have c_2 : K 13 s9 = (-1) := c_2
      refine lv_iconst (v := nI 1) hx hb dX6_isOpen_28 (by decide) ?_
      refine lv_goto (tgt := 33) hx hb dX6_isOpen_29 (by decide) ?_
      exact W.zret (v := nI 1) hx hb hr rfl (fun t ht hW => ⟨_, rfl, (by simp [mOpen, zb, c_1, eq_true c_2]), ht⟩) (fun _ h => nomatch h) dX6_isOpen_33
    · skip
      have c_2 : ¬ K 13 s9 = (-1) := c_2
      refine lv_aload_n hx hb dX6_isOpen_18 rfl (lv_at hl 0 rfl) ?_
      refine va_get (D := D) (ci := 6) (v := .ref (ad 15)) (C := RX6) (T := TX6) (N := 21) hx hb hts hinX6 hown hK hP 0 rfl rfl 18 (by decide) (hts (.fieldLink RX6 56 "AuditoriumKeysModel" "offered" "[I") (List.mem_of_getElem? (i := 2) rfl)) (fun _ h9 => h9) rfl dX6_isOpen_19 ?_
      refine lv_iload_n hx hb dX6_isOpen_22 rfl (lv_at hl 1 rfl) ?_
      refine zz_iald hx hb hK hP 15 0 rfl rfl s9 (by omega) (by decide) dX6_isOpen_23 ?_
      refine lv_iconst (v := (-1)) hx hb dX6_isOpen_24 (by decide) ?_
      refine lv_icmp_eq (tgt := 32) hx hb dX6_isOpen_25 (by decide) (fun c_3 => ?_) (fun c_3 => ?_)
      · skip
        have c_3 : K 15 s9 = (-1) := c_3
        refine lv_iconst (v := nI 0) hx hb dX6_isOpen_32 (by decide) ?_
        exact W.zret (v := nI 0) hx hb hr rfl (fun t ht hW => ⟨_, rfl, (by simp [mOpen, zb, c_1, c_2, eq_true c_3]), ht⟩) (fun _ h => nomatch h) dX6_isOpen_33
      · skip
        have c_3 : ¬ K 15 s9 = (-1) := c_3
        refine lv_iconst (v := nI 1) hx hb dX6_isOpen_28 (by decide) ?_
        refine lv_goto (tgt := 33) hx hb dX6_isOpen_29 (by decide) ?_
        exact W.zret (v := nI 1) hx hb hr rfl (fun t ht hW => ⟨_, rfl, (by simp [mOpen, zb, c_1, c_2, c_3]), ht⟩) (fun _ h => nomatch h) dX6_isOpen_33
set_option maxHeartbeats 4000000 in
set_option maxRecDepth 100000 in
theorem kX6_isAlone (l : Launch) (D : va_G) (cI cZ : ClassId) (ad : Nat → Nat) (K : kS) (s9 : Nat) (hs9 : s9 < 60) : Met l yX6_isAlone wsX6_isAlone ({ frames := 3, cells := 0, slots := 0, locals := 66 }) (va_Pc [.ref (ad 0), .int (nI s9)] (zRd D (zTy cI cZ) (mwA ad cI cZ K))) (vp_Si (fun r => r = zb (mAlone K s9))) 0 0 (fun _ => False) := by
  refine Met.ofW (cc := cX6_isAlone) (maxL := 5) (ret := (some .boolean)) (by decide) rfl ?_
  intro pP e s m args below meth c s₁ B hml hv
  obtain ⟨rfl, hP, hK⟩ := hv
  have hx := B.exec
  have hb := B.bytes
  have hr := B.returns
  have hts := atoms_spec (ws := wsX6_isAlone) B.pre
  have hown : s.vm.findClass RX6 = some m.cls := findClass_of_methodNamed B.named
  have hlocks := B.notSynchronized
  have hl := lv_entry ([.ref (ad 0), .int (nI s9)]) (n := 5) (Nat.le_of_ble_eq_true rfl)
  rw [lg_entry_eq]
  generalize (lg_sl ([.ref (ad 0), .int (nI s9)]) ++ List.replicate (5 - (lg_sl ([.ref (ad 0), .int (nI s9)])).length) Slot.unset).toArray = ls at hl ⊢
  have hl : lv_has ls 5 [(0, .ref (ad 0)), (1, .int (nI s9))] := hl
  refine lv_iload_n hx hb dX6_isAlone_0 rfl (lv_at hl 1 rfl) ?_
  refine lv_bipush (v := nI 10) hx hb dX6_isAlone_1 (by decide) ?_
  refine lv_irem hx hb dX6_isAlone_3 (by decide) ?_
  refine zz_top (y := nI (s9 % 10)) (pk_rem (by omega) (by decide) (by decide)) ?_
  refine lv_istore_n (lv' := [(2, .int (nI (s9 % 10))), (0, .ref (ad 0)), (1, .int (nI s9))]) hx hb dX6_isAlone_4 rfl hl (by decide) rfl (fun ls hl => ?_)
  have j24 : ∀ ls : Array Slot, lv_has ls 5 [(2, .int (nI (s9 % 10))), (0, .ref (ad 0)), (1, .int (nI s9))] → W pP l e ({ frames := 3, cells := 0, slots := 0, locals := 66 } : Room) s m ([.ref (ad 0), .int (nI s9)] : List Value).toArray below meth c s.heap [] 0 0 (MQ below (vp_Si (fun r => r = zb (mAlone K s9))) ([.ref (ad 0), .int (nI s9)] : List Value).toArray s 0 0 (fun _ => False)) (F0 m 24 ls [.int (zb (mLeft K s9))]) := by
    intro ls hl
    refine lv_istore_n (lv' := [(3, .int (zb (mLeft K s9))), (2, .int (nI (s9 % 10))), (0, .ref (ad 0)), (1, .int (nI s9))]) hx hb dX6_isAlone_24 rfl hl (by decide) rfl (fun ls hl => ?_)
    have j46 : ∀ ls : Array Slot, lv_has ls 5 [(3, .int (zb (mLeft K s9))), (2, .int (nI (s9 % 10))), (0, .ref (ad 0)), (1, .int (nI s9))] → W pP l e ({ frames := 3, cells := 0, slots := 0, locals := 66 } : Room) s m ([.ref (ad 0), .int (nI s9)] : List Value).toArray below meth c s.heap [] 0 0 (MQ below (vp_Si (fun r => r = zb (mAlone K s9))) ([.ref (ad 0), .int (nI s9)] : List Value).toArray s 0 0 (fun _ => False)) (F0 m 46 ls [.int (zb (mRight K s9))]) := by
      intro ls hl
      refine lv_istore (lv' := [(4, .int (zb (mRight K s9))), (3, .int (zb (mLeft K s9))), (2, .int (nI (s9 % 10))), (0, .ref (ad 0)), (1, .int (nI s9))]) hx hb dX6_isAlone_46 hl (by decide) rfl (fun ls hl => ?_)
      refine lv_aload_n hx hb dX6_isAlone_48 rfl (lv_at hl 3 rfl) ?_
      refine lv_iload_n hx hb dX6_isAlone_49 rfl (lv_at hl 4 rfl) ?_
      refine zc_rV (As := [.int (nI s9)]) (rest := []) ⟨hx, hb, hml, hown, hts⟩ (kX6_isOpen l D cI cZ ad K s9 (by omega)) (cwV 1 hts gX6_isAlone_X6_isOpen rfl rfl rfl (by decide +kernel) ⟨(Nat.le_of_ble_eq_true rfl), (Nat.le_of_ble_eq_true rfl)⟩) hK hP (ci := 6) (q0 := 0) rfl rfl rfl rfl hl.1 rfl (Nat.le_of_ble_eq_true rfl) dX6_isAlone_50 ⟨Nat.zero_le _, Nat.zero_le _⟩ ?_
      refine lv_if_eq (tgt := 69) hx hb dX6_isAlone_53 (by decide) (fun c_1 => ?_) (fun c_1 => ?_)
      · skip
        have c_1 := zb_f c_1
        refine lv_iconst (v := nI 0) hx hb dX6_isAlone_69 (by decide) ?_
        exact W.zret (v := nI 0) hx hb hr rfl (fun t ht hW => ⟨_, rfl, (by simp [mAlone, zb, c_1]), ht⟩) (fun _ h => nomatch h) dX6_isAlone_70
      · skip
        have c_1 := zb_t c_1
        refine lv_iload_n hx hb dX6_isAlone_56 rfl (lv_at hl 1 rfl) ?_
        refine lv_if_ne (tgt := 69) hx hb dX6_isAlone_57 (by decide) (fun c_2 => ?_) (fun c_2 => ?_)
        · skip
          have c_2 := zb_t c_2
          refine lv_iconst (v := nI 0) hx hb dX6_isAlone_69 (by decide) ?_
          exact W.zret (v := nI 0) hx hb hr rfl (fun t ht hW => ⟨_, rfl, (by simp [mAlone, zb, c_1, c_2]), ht⟩) (fun _ h => nomatch h) dX6_isAlone_70
        · skip
          have c_2 := zb_f c_2
          refine lv_iload hx hb dX6_isAlone_60 (lv_at hl 0 rfl) ?_
          refine lv_if_ne (tgt := 69) hx hb dX6_isAlone_62 (by decide) (fun c_3 => ?_) (fun c_3 => ?_)
          · skip
            have c_3 := zb_t c_3
            refine lv_iconst (v := nI 0) hx hb dX6_isAlone_69 (by decide) ?_
            exact W.zret (v := nI 0) hx hb hr rfl (fun t ht hW => ⟨_, rfl, (by simp [mAlone, zb, c_1, c_2, c_3]), ht⟩) (fun _ h => nomatch h) dX6_isAlone_70
          · skip
            have c_3 := zb_f c_3
            refine lv_iconst (v := nI 1) hx hb dX6_isAlone_65 (by decide) ?_
            refine lv_goto (tgt := 70) hx hb dX6_isAlone_66 (by decide) ?_
            exact W.zret (v := nI 1) hx hb hr rfl (fun t ht hW => ⟨_, rfl, (by simp [mAlone, zb, c_1, c_2, c_3]), ht⟩) (fun _ h => nomatch h) dX6_isAlone_70
    refine lv_iload_n hx hb dX6_isAlone_25 rfl (lv_at hl 1 rfl) ?_
    refine lv_bipush (v := nI 9) hx hb dX6_isAlone_26 (by decide) ?_
    refine lv_icmp_ge (tgt := 45) hx hb dX6_isAlone_28 (by decide) (fun c_4 => ?_) (fun c_4 => ?_)
    · skip
      have c_4 := (nI_leI (a := 9) (b := (s9 % 10)) (by omega) (by omega)).mp c_4
      refine lv_iconst (v := nI 0) hx hb dX6_isAlone_45 (by decide) ?_
      have ej_5 : zb (mRight K s9) = nI 0 := (by simp [mRight, zb, c_4])
      have jx := j46
      rw [ej_5] at jx
      exact jx ls (lv_sub hl [0, 1, 2, 3] rfl)
    · skip
      have c_4 : ¬ 9 ≤ (s9 % 10) := fun h => c_4 ((nI_leI (a := 9) (b := (s9 % 10)) (by omega) (by omega)).mpr h)
      refine lv_aload_n hx hb dX6_isAlone_31 rfl (lv_at hl 2 rfl) ?_
      refine lv_iload_n hx hb dX6_isAlone_32 rfl (lv_at hl 3 rfl) ?_
      refine lv_iconst (v := nI 1) hx hb dX6_isAlone_33 (by decide) ?_
      refine lv_iadd hx hb dX6_isAlone_34 ?_
      refine zz_top (y := nI (s9 + 1)) ((nI_add s9 1).trans (congrArg nI (by omega))) ?_
      refine zc_rV (As := [.int (nI (s9 + 1))]) (rest := []) ⟨hx, hb, hml, hown, hts⟩ (kX6_isOpen l D cI cZ ad K (s9 + 1) (by omega)) (cwV 1 hts gX6_isAlone_X6_isOpen rfl rfl rfl (by decide +kernel) ⟨(Nat.le_of_ble_eq_true rfl), (Nat.le_of_ble_eq_true rfl)⟩) hK hP (ci := 6) (q0 := 0) rfl rfl rfl rfl hl.1 rfl (Nat.le_of_ble_eq_true rfl) dX6_isAlone_35 ⟨Nat.zero_le _, Nat.zero_le _⟩ ?_
      refine lv_if_eq (tgt := 45) hx hb dX6_isAlone_38 (by decide) (fun c_6 => ?_) (fun c_6 => ?_)
      · skip
        have c_6 := zb_f c_6
        refine lv_iconst (v := nI 0) hx hb dX6_isAlone_45 (by decide) ?_
        have ej_7 : zb (mRight K s9) = nI 0 := (by simp [mRight, zb, c_4, c_6])
        have jx := j46
        rw [ej_7] at jx
        exact jx ls (lv_sub hl [0, 1, 2, 3] rfl)
      · skip
        have c_6 := zb_t c_6
        refine lv_iconst (v := nI 1) hx hb dX6_isAlone_41 (by decide) ?_
        refine lv_goto (tgt := 46) hx hb dX6_isAlone_42 (by decide) ?_
        have ej_8 : zb (mRight K s9) = nI 1 := (by simp [mRight, zb, c_4, c_6])
        have jx := j46
        rw [ej_8] at jx
        exact jx ls (lv_sub hl [0, 1, 2, 3] rfl)
  refine lv_iload_n hx hb dX6_isAlone_5 rfl (lv_at hl 0 rfl) ?_
  refine lv_if_le (tgt := 23) hx hb dX6_isAlone_6 (by decide) (fun c_9 => ?_) (fun c_9 => ?_)
  · skip
    have c_9 := (nI_leI (a := (s9 % 10)) (b := 0) (by omega) (by omega)).mp c_9
    refine lv_iconst (v := nI 0) hx hb dX6_isAlone_23 (by decide) ?_
    have ej_10 : zb (mLeft K s9) = nI 0 := (by simp [mLeft, zb, c_9])
    have jx := j24
    rw [ej_10] at jx
    exact jx ls (lv_sub hl [0, 1, 2] rfl)
  · skip
    have c_9 : ¬ (s9 % 10) ≤ 0 := fun h => c_9 ((nI_leI (a := (s9 % 10)) (b := 0) (by omega) (by omega)).mpr h)
    refine lv_aload_n hx hb dX6_isAlone_9 rfl (lv_at hl 1 rfl) ?_
    refine lv_iload_n hx hb dX6_isAlone_10 rfl (lv_at hl 2 rfl) ?_
    refine lv_iconst (v := nI 1) hx hb dX6_isAlone_11 (by decide) ?_
    refine lv_isub hx hb dX6_isAlone_12 ?_
    refine zz_top (y := nI (s9 - 1)) (pk_sub (by omega)) ?_
    refine zc_rV (As := [.int (nI (s9 - 1))]) (rest := []) ⟨hx, hb, hml, hown, hts⟩ (kX6_isOpen l D cI cZ ad K (s9 - 1) (by omega)) (cwV 1 hts gX6_isAlone_X6_isOpen rfl rfl rfl (by decide +kernel) ⟨(Nat.le_of_ble_eq_true rfl), (Nat.le_of_ble_eq_true rfl)⟩) hK hP (ci := 6) (q0 := 0) rfl rfl rfl rfl hl.1 rfl (Nat.le_of_ble_eq_true rfl) dX6_isAlone_13 ⟨Nat.zero_le _, Nat.zero_le _⟩ ?_
    refine lv_if_eq (tgt := 23) hx hb dX6_isAlone_16 (by decide) (fun c_11 => ?_) (fun c_11 => ?_)
    · skip
      have c_11 := zb_f c_11
      refine lv_iconst (v := nI 0) hx hb dX6_isAlone_23 (by decide) ?_
      have ej_12 : zb (mLeft K s9) = nI 0 := (by simp [mLeft, zb, c_9, c_11])
      have jx := j24
      rw [ej_12] at jx
      exact jx ls (lv_sub hl [0, 1, 2] rfl)
    · skip
      have c_11 := zb_t c_11
      refine lv_iconst (v := nI 1) hx hb dX6_isAlone_19 (by decide) ?_
      refine lv_goto (tgt := 24) hx hb dX6_isAlone_20 (by decide) ?_
      have ej_13 : zb (mLeft K s9) = nI 1 := (by simp [mLeft, zb, c_9, c_11])
      have jx := j24
      rw [ej_13] at jx
      exact jx ls (lv_sub hl [0, 1, 2] rfl)
set_option maxHeartbeats 4000000 in
set_option maxRecDepth 100000 in
theorem kX6_priceOf (l : Launch) (D : va_G) (cI cZ : ClassId) (ad : Nat → Nat) (K : kS) (s9 : Nat) (hs9 : s9 < 60) : Met l yX6_priceOf wsX6_priceOf ({ frames := 0, cells := 0, slots := 0, locals := 0 }) (va_Pc [.ref (ad 0), .int (nI s9)] (zRd D (zTy cI cZ) (mwA ad cI cZ K))) (vp_Si (fun r => r = mPrice K s9)) 0 0 (fun _ => False) := by
  refine Met.ofW (cc := cX6_priceOf) (maxL := 2) (ret := (some .int)) (by decide) rfl ?_
  intro pP e s m args below meth c s₁ B hml hv
  obtain ⟨rfl, hP, hK⟩ := hv
  have hx := B.exec
  have hb := B.bytes
  have hr := B.returns
  have hts := atoms_spec (ws := wsX6_priceOf) B.pre
  have hown : s.vm.findClass RX6 = some m.cls := findClass_of_methodNamed B.named
  have hlocks := B.notSynchronized
  have hinX6 : ∀ w ∈ u_ws RX6 TX6 21, w ∈ wsX6_priceOf := by decide +kernel
  have hl := lv_entry ([.ref (ad 0), .int (nI s9)]) (n := 2) (Nat.le_of_ble_eq_true rfl)
  rw [lg_entry_eq]
  generalize (lg_sl ([.ref (ad 0), .int (nI s9)]) ++ List.replicate (2 - (lg_sl ([.ref (ad 0), .int (nI s9)])).length) Slot.unset).toArray = ls at hl ⊢
  have hl : lv_has ls 2 [(0, .ref (ad 0)), (1, .int (nI s9))] := hl
  refine lv_aload_n hx hb dX6_priceOf_0 rfl (lv_at hl 0 rfl) ?_
  refine va_get (D := D) (ci := 6) (v := .ref (ad 13)) (C := RX6) (T := TX6) (N := 21) hx hb hts hinX6 hown hK hP 0 rfl rfl 16 (by decide) (hts (.fieldLink RX6 50 "AuditoriumKeysModel" "owners" "[I") (List.mem_of_getElem? (i := 1) rfl)) (fun _ h9 => h9) rfl dX6_priceOf_1 ?_
  refine lv_iload_n hx hb dX6_priceOf_4 rfl (lv_at hl 1 rfl) ?_
  refine zz_iald hx hb hK hP 13 0 rfl rfl s9 (by omega) (by decide) dX6_priceOf_5 ?_
  refine lv_iconst (v := (-1)) hx hb dX6_priceOf_6 (by decide) ?_
  refine lv_icmp_ne (tgt := 23) hx hb dX6_priceOf_7 (by decide) (fun c_1 => ?_) (fun c_1 => ?_)
  · skip
    have c_1 : ¬ K 13 s9 = (-1) := c_1
    refine lv_aload_n hx hb dX6_priceOf_23 rfl (lv_at hl 0 rfl) ?_
    refine va_get (D := D) (ci := 6) (v := .ref (ad 15)) (C := RX6) (T := TX6) (N := 21) hx hb hts hinX6 hown hK hP 0 rfl rfl 18 (by decide) (hts (.fieldLink RX6 56 "AuditoriumKeysModel" "offered" "[I") (List.mem_of_getElem? (i := 2) rfl)) (fun _ h9 => h9) rfl dX6_priceOf_24 ?_
    refine lv_iload_n hx hb dX6_priceOf_27 rfl (lv_at hl 1 rfl) ?_
    refine zz_iald hx hb hK hP 15 0 rfl rfl s9 (by omega) (by decide) dX6_priceOf_28 ?_
    exact W.iret (v := K 15 s9) hx hb hr (fun t ht hW => ⟨_, rfl, (by simp [mPrice, c_1]), ht⟩) (fun _ h => nomatch h) dX6_priceOf_29
  · skip
    have c_1 : K 13 s9 = (-1) := c_1
    refine lv_bipush (v := nI 100) hx hb dX6_priceOf_10 (by decide) ?_
    refine lv_bipush (v := nI 10) hx hb dX6_priceOf_12 (by decide) ?_
    refine lv_iload_n hx hb dX6_priceOf_14 rfl (lv_at hl 1 rfl) ?_
    refine lv_bipush (v := nI 10) hx hb dX6_priceOf_15 (by decide) ?_
    refine lv_idiv hx hb dX6_priceOf_17 (by decide) ?_
    refine zz_top (y := nI (s9 / 10)) (pk_div (by omega) (by decide) (by decide)) ?_
    refine lv_imul hx hb dX6_priceOf_18 ?_
    refine zz_top (y := nI (10 * (s9 / 10))) (pk_mul _ _) ?_
    refine lv_isub hx hb dX6_priceOf_19 ?_
    refine lv_goto (tgt := 29) hx hb dX6_priceOf_20 (by decide) ?_
    exact W.iret (v := (nI 100) - (nI (10 * (s9 / 10)))) hx hb hr (fun t ht hW => ⟨_, rfl, (by simp [mPrice, eq_true c_1]), ht⟩) (fun _ h => nomatch h) dX6_priceOf_29
set_option maxHeartbeats 4000000 in
set_option maxRecDepth 100000 in
theorem kX6_dropHold (l : Launch) (D : va_G) (cI cZ : ClassId) (ad : Nat → Nat) (K : kS) (sz : Nat) (p : Nat) (hp : p < 8) : Met l yX6_dropHold wsX6_dropHold ({ frames := 0, cells := 0, slots := 0, locals := 0 }) (va_Pc [.ref (ad 0), .int (nI p)] (zPr D (zTy cI cZ) (mwA ad cI cZ K) sz)) (va_Qv (fun _ : Unit => True) (fun _ => zPo D (zTy cI cZ) (va_A (mwA ad cI cZ K) sz) (mwA ad cI cZ (mDrop K p))) (va_A (mwA ad cI cZ K) sz)) 0 0 (va_A (mwA ad cI cZ K) sz) := by
  refine Met.ofW (cc := cX6_dropHold) (maxL := 2) (ret := none) (by decide) rfl ?_
  intro pP e s m args below meth c s₁ B hml hv
  obtain ⟨rfl, hsz, hP, hK, hD0⟩ := hv
  have hx := B.exec
  have hb := B.bytes
  have hr := B.returns
  have hts := atoms_spec (ws := wsX6_dropHold) B.pre
  have hown : s.vm.findClass RX6 = some m.cls := findClass_of_methodNamed B.named
  have hlocks := B.notSynchronized
  subst hsz
  have hD := hD0.self (sz := s.heap.size)
  generalize hAe : va_A (mwA ad cI cZ K) s.heap.size = A at hD ⊢
  have hA : ∀ q : Nat, s.heap.size ≤ q → A q := fun q h => by rw [← hAe]; exact Or.inr h
  have hS : va_S A s.heap s.heap [] := va_S.rf
  have hinX6 : ∀ w ∈ u_ws RX6 TX6 21, w ∈ wsX6_dropHold := by decide +kernel
  have hl := lv_entry ([.ref (ad 0), .int (nI p)]) (n := 2) (Nat.le_of_ble_eq_true rfl)
  rw [lg_entry_eq]
  generalize (lg_sl ([.ref (ad 0), .int (nI p)]) ++ List.replicate (2 - (lg_sl ([.ref (ad 0), .int (nI p)])).length) Slot.unset).toArray = ls at hl ⊢
  have hl : lv_has ls 2 [(0, .ref (ad 0)), (1, .int (nI p))] := hl
  refine lv_aload_n hx hb dX6_dropHold_0 rfl (lv_at hl 0 rfl) ?_
  refine va_get (D := D) (ci := 6) (v := .ref (ad 5)) (C := RX6) (T := TX6) (N := 21) hx hb hts hinX6 hown hK hP 0 rfl rfl 8 (by decide) (hts (.fieldLink RX6 26 "AuditoriumKeysModel" "firsts" "[I") (List.mem_of_getElem? (i := 1) rfl)) (fun _ h9 => h9) rfl dX6_dropHold_1 ?_
  refine lv_iload_n hx hb dX6_dropHold_4 rfl (lv_at hl 1 rfl) ?_
  refine lv_iconst (v := (-1)) hx hb dX6_dropHold_5 (by decide) ?_
  refine zz_iast hx hb hK hP hD hS 5 0 rfl rfl p (by omega) (by decide) dX6_dropHold_6 (fun H locs hP hD hS => ?_)
  have hP : va_P D vwCl (mwA ad cI cZ (setA K 5 (upd (K 5) p (-1)))) _ := hP
  have hD : va_D A (mwA ad cI cZ (setA K 5 (upd (K 5) p (-1)))) := hD
  refine lv_aload_n hx hb dX6_dropHold_7 rfl (lv_at hl 0 rfl) ?_
  refine va_get (D := D) (ci := 6) (v := .ref (ad 12)) (C := RX6) (T := TX6) (N := 21) hx hb hts hinX6 hown hK hP 0 rfl rfl 15 (by decide) (hts (.fieldLink RX6 47 "AuditoriumKeysModel" "spent" "[I") (List.mem_of_getElem? (i := 2) rfl)) (fun _ h9 => h9) rfl dX6_dropHold_8 ?_
  refine lv_iload_n hx hb dX6_dropHold_11 rfl (lv_at hl 1 rfl) ?_
  refine lv_dup2_11 hx hb dX6_dropHold_12 rfl rfl ?_
  refine zz_iald hx hb hK hP 12 0 rfl rfl p (by omega) (by decide) dX6_dropHold_13 ?_
  refine lv_aload_n hx hb dX6_dropHold_14 rfl (lv_at hl 0 rfl) ?_
  refine va_get (D := D) (ci := 6) (v := .ref (ad 9)) (C := RX6) (T := TX6) (N := 21) hx hb hts hinX6 hown hK hP 0 rfl rfl 12 (by decide) (hts (.fieldLink RX6 38 "AuditoriumKeysModel" "paid" "[I") (List.mem_of_getElem? (i := 3) rfl)) (fun _ h9 => h9) rfl dX6_dropHold_15 ?_
  refine lv_iload_n hx hb dX6_dropHold_18 rfl (lv_at hl 1 rfl) ?_
  refine zz_iald hx hb hK hP 9 0 rfl rfl p (by omega) (by decide) dX6_dropHold_19 ?_
  refine lv_isub hx hb dX6_dropHold_20 ?_
  refine zz_iast hx hb hK hP hD hS 12 0 rfl rfl p (by omega) (by decide) dX6_dropHold_21 (fun H locs hP hD hS => ?_)
  have hP : va_P D vwCl (mwA ad cI cZ (setA (setA K 5 (upd (K 5) p (-1))) 12 (upd (K 12) p ((K 12 p) - (K 9 p))))) _ := hP
  have hD : va_D A (mwA ad cI cZ (setA (setA K 5 (upd (K 5) p (-1))) 12 (upd (K 12) p ((K 12 p) - (K 9 p))))) := hD
  have eK9 : (mDrop K p) = (setA (setA K 5 (upd (K 5) p (-1))) 12 (upd (K 12) p ((K 12 p) - (K 9 p)))) := rfl
  have hP9 := hP
  have hD9 := hD
  rw [← eK9] at hP9 hD9
  exact W.vret hx hb hr (fun t ht hW => ⟨⟨(), rfl, trivial, by rw [ht]; exact hP9, va_K.moved hW.alike hK, hD9⟩, hS.F ht⟩) hS.2.2 dX6_dropHold_22
set_option maxHeartbeats 4000000 in
set_option maxRecDepth 100000 in
theorem kX6_usedBy (l : Launch) (D : va_G) (cI cZ : ClassId) (ad : Nat → Nat) (K : kS) (c9 : Nat) (p : Nat) (hc9 : c9 < 10) (hp : p < 8) : Met l yX6_usedBy wsX6_usedBy ({ frames := 0, cells := 0, slots := 0, locals := 0 }) (va_Pc [.ref (ad 0), .int (nI c9), .int (nI p)] (zRd D (zTy cI cZ) (mwA ad cI cZ K))) (vp_Si (fun r => r = mUsed K c9 p)) 0 0 (fun _ => False) := by
  refine Met.ofW (cc := cX6_usedBy) (maxL := 4) (ret := (some .int)) (by decide) rfl ?_
  intro pP e s m args below meth c s₁ B hml hv
  obtain ⟨rfl, hP, hK⟩ := hv
  have hx := B.exec
  have hb := B.bytes
  have hr := B.returns
  have hts := atoms_spec (ws := wsX6_usedBy) B.pre
  have hown : s.vm.findClass RX6 = some m.cls := findClass_of_methodNamed B.named
  have hlocks := B.notSynchronized
  have hinX6 : ∀ w ∈ u_ws RX6 TX6 21, w ∈ wsX6_usedBy := by decide +kernel
  have hl := lv_entry ([.ref (ad 0), .int (nI c9), .int (nI p)]) (n := 4) (Nat.le_of_ble_eq_true rfl)
  rw [lg_entry_eq]
  generalize (lg_sl ([.ref (ad 0), .int (nI c9), .int (nI p)]) ++ List.replicate (4 - (lg_sl ([.ref (ad 0), .int (nI c9), .int (nI p)])).length) Slot.unset).toArray = ls at hl ⊢
  have hl : lv_has ls 4 [(0, .ref (ad 0)), (1, .int (nI c9)), (2, .int (nI p))] := hl
  refine lv_aload_n hx hb dX6_usedBy_0 rfl (lv_at hl 0 rfl) ?_
  refine va_get (D := D) (ci := 6) (v := .ref (ad 5)) (C := RX6) (T := TX6) (N := 21) hx hb hts hinX6 hown hK hP 0 rfl rfl 8 (by decide) (hts (.fieldLink RX6 26 "AuditoriumKeysModel" "firsts" "[I") (List.mem_of_getElem? (i := 1) rfl)) (fun _ h9 => h9) rfl dX6_usedBy_1 ?_
  refine lv_iload_n hx hb dX6_usedBy_4 rfl (lv_at hl 2 rfl) ?_
  refine zz_iald hx hb hK hP 5 0 rfl rfl p (by omega) (by decide) dX6_usedBy_5 ?_
  refine lv_iconst (v := (-1)) hx hb dX6_usedBy_6 (by decide) ?_
  refine lv_icmp_eq (tgt := 29) hx hb dX6_usedBy_7 (by decide) (fun c_1 => ?_) (fun c_1 => ?_)
  · skip
    have c_1 : K 5 p = (-1) := c_1
    refine lv_iconst (v := nI 0) hx hb dX6_usedBy_29 (by decide) ?_
    refine lv_istore_n (lv' := [(3, .int (nI 0)), (0, .ref (ad 0)), (1, .int (nI c9)), (2, .int (nI p))]) hx hb dX6_usedBy_30 rfl hl (by decide) rfl (fun ls hl => ?_)
    refine lv_aload_n hx hb dX6_usedBy_31 rfl (lv_at hl 1 rfl) ?_
    refine va_get (D := D) (ci := 6) (v := .ref (ad 3)) (C := RX6) (T := TX6) (N := 21) hx hb hts hinX6 hown hK hP 0 rfl rfl 6 (by decide) (hts (.fieldLink RX6 20 "AuditoriumKeysModel" "used" "[I") (List.mem_of_getElem? (i := 4) rfl)) (fun _ h9 => h9) rfl dX6_usedBy_32 ?_
    refine lv_bipush (v := nI 8) hx hb dX6_usedBy_35 (by decide) ?_
    refine lv_iload_n hx hb dX6_usedBy_37 rfl (lv_at hl 2 rfl) ?_
    refine lv_imul hx hb dX6_usedBy_38 ?_
    refine zz_top (y := nI (8 * c9)) ((pk_mul 8 c9).trans (congrArg nI (by first | rfl | omega | exact Nat.mul_comm _ _))) ?_
    refine lv_iload_n hx hb dX6_usedBy_39 rfl (lv_at hl 3 rfl) ?_
    refine lv_iadd hx hb dX6_usedBy_40 ?_
    refine zz_top (y := nI (8 * c9 + p)) ((nI_add (8 * c9) p).trans (congrArg nI (by omega))) ?_
    refine zz_iald hx hb hK hP 3 0 rfl rfl (8 * c9 + p) (by omega) (by decide) dX6_usedBy_41 ?_
    refine lv_iload_n hx hb dX6_usedBy_42 rfl (lv_at hl 0 rfl) ?_
    refine lv_iadd hx hb dX6_usedBy_43 ?_
    exact W.iret (v := (K 3 (8 * c9 + p)) + (nI 0)) hx hb hr (fun t ht hW => ⟨_, rfl, (by simp [mUsed, eq_true c_1]), ht⟩) (fun _ h => nomatch h) dX6_usedBy_44
  · skip
    have c_1 : ¬ K 5 p = (-1) := c_1
    refine lv_aload_n hx hb dX6_usedBy_10 rfl (lv_at hl 0 rfl) ?_
    refine va_get (D := D) (ci := 6) (v := .ref (ad 7)) (C := RX6) (T := TX6) (N := 21) hx hb hts hinX6 hown hK hP 0 rfl rfl 10 (by decide) (hts (.fieldLink RX6 32 "AuditoriumKeysModel" "byCode" "[I") (List.mem_of_getElem? (i := 2) rfl)) (fun _ h9 => h9) rfl dX6_usedBy_11 ?_
    refine lv_iload_n hx hb dX6_usedBy_14 rfl (lv_at hl 2 rfl) ?_
    refine zz_iald hx hb hK hP 7 0 rfl rfl p (by omega) (by decide) dX6_usedBy_15 ?_
    refine lv_iload_n hx hb dX6_usedBy_16 rfl (lv_at hl 1 rfl) ?_
    refine lv_icmp_ne (tgt := 29) hx hb dX6_usedBy_17 (by decide) (fun c_2 => ?_) (fun c_2 => ?_)
    · skip
      have c_2 : ¬ K 7 p = nI c9 := c_2
      refine lv_iconst (v := nI 0) hx hb dX6_usedBy_29 (by decide) ?_
      refine lv_istore_n (lv' := [(3, .int (nI 0)), (0, .ref (ad 0)), (1, .int (nI c9)), (2, .int (nI p))]) hx hb dX6_usedBy_30 rfl hl (by decide) rfl (fun ls hl => ?_)
      refine lv_aload_n hx hb dX6_usedBy_31 rfl (lv_at hl 1 rfl) ?_
      refine va_get (D := D) (ci := 6) (v := .ref (ad 3)) (C := RX6) (T := TX6) (N := 21) hx hb hts hinX6 hown hK hP 0 rfl rfl 6 (by decide) (hts (.fieldLink RX6 20 "AuditoriumKeysModel" "used" "[I") (List.mem_of_getElem? (i := 4) rfl)) (fun _ h9 => h9) rfl dX6_usedBy_32 ?_
      refine lv_bipush (v := nI 8) hx hb dX6_usedBy_35 (by decide) ?_
      refine lv_iload_n hx hb dX6_usedBy_37 rfl (lv_at hl 2 rfl) ?_
      refine lv_imul hx hb dX6_usedBy_38 ?_
      refine zz_top (y := nI (8 * c9)) ((pk_mul 8 c9).trans (congrArg nI (by first | rfl | omega | exact Nat.mul_comm _ _))) ?_
      refine lv_iload_n hx hb dX6_usedBy_39 rfl (lv_at hl 3 rfl) ?_
      refine lv_iadd hx hb dX6_usedBy_40 ?_
      refine zz_top (y := nI (8 * c9 + p)) ((nI_add (8 * c9) p).trans (congrArg nI (by omega))) ?_
      refine zz_iald hx hb hK hP 3 0 rfl rfl (8 * c9 + p) (by omega) (by decide) dX6_usedBy_41 ?_
      refine lv_iload_n hx hb dX6_usedBy_42 rfl (lv_at hl 0 rfl) ?_
      refine lv_iadd hx hb dX6_usedBy_43 ?_
      exact W.iret (v := (K 3 (8 * c9 + p)) + (nI 0)) hx hb hr (fun t ht hW => ⟨_, rfl, (by simp [mUsed, c_1, c_2]), ht⟩) (fun _ h => nomatch h) dX6_usedBy_44
    · skip
      have c_2 : K 7 p = nI c9 := c_2
      refine lv_aload_n hx hb dX6_usedBy_20 rfl (lv_at hl 0 rfl) ?_
      refine va_get (D := D) (ci := 6) (v := .ref (ad 6)) (C := RX6) (T := TX6) (N := 21) hx hb hts hinX6 hown hK hP 0 rfl rfl 9 (by decide) (hts (.fieldLink RX6 29 "AuditoriumKeysModel" "manies" "[I") (List.mem_of_getElem? (i := 3) rfl)) (fun _ h9 => h9) rfl dX6_usedBy_21 ?_
      refine lv_iload_n hx hb dX6_usedBy_24 rfl (lv_at hl 2 rfl) ?_
      refine zz_iald hx hb hK hP 6 0 rfl rfl p (by omega) (by decide) dX6_usedBy_25 ?_
      refine lv_goto (tgt := 30) hx hb dX6_usedBy_26 (by decide) ?_
      refine lv_istore_n (lv' := [(3, .int (K 6 p)), (0, .ref (ad 0)), (1, .int (nI c9)), (2, .int (nI p))]) hx hb dX6_usedBy_30 rfl hl (by decide) rfl (fun ls hl => ?_)
      refine lv_aload_n hx hb dX6_usedBy_31 rfl (lv_at hl 1 rfl) ?_
      refine va_get (D := D) (ci := 6) (v := .ref (ad 3)) (C := RX6) (T := TX6) (N := 21) hx hb hts hinX6 hown hK hP 0 rfl rfl 6 (by decide) (hts (.fieldLink RX6 20 "AuditoriumKeysModel" "used" "[I") (List.mem_of_getElem? (i := 4) rfl)) (fun _ h9 => h9) rfl dX6_usedBy_32 ?_
      refine lv_bipush (v := nI 8) hx hb dX6_usedBy_35 (by decide) ?_
      refine lv_iload_n hx hb dX6_usedBy_37 rfl (lv_at hl 2 rfl) ?_
      refine lv_imul hx hb dX6_usedBy_38 ?_
      refine zz_top (y := nI (8 * c9)) ((pk_mul 8 c9).trans (congrArg nI (by first | rfl | omega | exact Nat.mul_comm _ _))) ?_
      refine lv_iload_n hx hb dX6_usedBy_39 rfl (lv_at hl 3 rfl) ?_
      refine lv_iadd hx hb dX6_usedBy_40 ?_
      refine zz_top (y := nI (8 * c9 + p)) ((nI_add (8 * c9) p).trans (congrArg nI (by omega))) ?_
      refine zz_iald hx hb hK hP 3 0 rfl rfl (8 * c9 + p) (by omega) (by decide) dX6_usedBy_41 ?_
      refine lv_iload_n hx hb dX6_usedBy_42 rfl (lv_at hl 0 rfl) ?_
      refine lv_iadd hx hb dX6_usedBy_43 ?_
      exact W.iret (v := (K 3 (8 * c9 + p)) + (K 6 p)) hx hb hr (fun t ht hW => ⟨_, rfl, (by simp [mUsed, c_1, eq_true c_2]), ht⟩) (fun _ h => nomatch h) dX6_usedBy_44
set_option maxHeartbeats 4000000 in
set_option maxRecDepth 100000 in
theorem kX6_countQueue (l : Launch) (D : va_G) (cI cZ : ClassId) (ad : Nat → Nat) (K : kS)   : Met l yX6_countQueue wsX6_countQueue ({ frames := 0, cells := 0, slots := 0, locals := 0 }) (va_Pc [.ref (ad 0)] (zRd D (zTy cI cZ) (mwA ad cI cZ K))) (vp_Si (fun r => r = nI (mCount K))) 0 0 (fun _ => False) := by
  refine Met.ofW (cc := cX6_countQueue) (maxL := 3) (ret := (some .int)) (by decide) rfl ?_
  intro pP e s m args below meth c s₁ B hml hv
  obtain ⟨rfl, hP, hK⟩ := hv
  have hx := B.exec
  have hb := B.bytes
  have hr := B.returns
  have hts := atoms_spec (ws := wsX6_countQueue) B.pre
  have hown : s.vm.findClass RX6 = some m.cls := findClass_of_methodNamed B.named
  have hlocks := B.notSynchronized
  have hinX6 : ∀ w ∈ u_ws RX6 TX6 21, w ∈ wsX6_countQueue := by decide +kernel
  have hl := lv_entry ([.ref (ad 0)]) (n := 3) (Nat.le_of_ble_eq_true rfl)
  rw [lg_entry_eq]
  generalize (lg_sl ([.ref (ad 0)]) ++ List.replicate (3 - (lg_sl ([.ref (ad 0)])).length) Slot.unset).toArray = ls at hl ⊢
  have hl : lv_has ls 3 [(0, .ref (ad 0))] := hl
  refine lv_iconst (v := nI 0) hx hb dX6_countQueue_0 (by decide) ?_
  refine lv_istore_n (lv' := [(1, .int (nI 0)), (0, .ref (ad 0))]) hx hb dX6_countQueue_1 rfl hl (by decide) rfl (fun ls hl => ?_)
  refine lv_iconst (v := nI 0) hx hb dX6_countQueue_2 (by decide) ?_
  refine lv_istore_n (lv' := [(2, .int (nI 0)), (1, .int (nI 0)), (0, .ref (ad 0))]) hx hb dX6_countQueue_3 rfl hl (by decide) rfl (fun ls hl => ?_)
  have lp_a : ∀ (n i : Nat), 0 ≤ i → i ≤ 8 → 8 - i < n → ∀ ls : Array Slot, lv_has ls 3 [(2, .int (nI i)), (1, .int (nI (zcnt (fun j => decide (¬ K 4 j = (-1))) i))), (0, .ref (ad 0))] → W pP l e ({ frames := 0, cells := 0, slots := 0, locals := 0 } : Room) s m ([.ref (ad 0)] : List Value).toArray below meth c s.heap [] 0 0 (MQ below (vp_Si (fun r => r = nI (mCount K))) ([.ref (ad 0)] : List Value).toArray s 0 0 (fun _ => False)) (F0 m 4 ls []) := by
    intro n
    induction n with
    | zero => intro i _ _ h; exact absurd h (Nat.not_lt_zero _)
    | succ n ih_a =>
      intro i hlo_a hin_a hdn_a  ls hl
      refine lv_iload_n hx hb dX6_countQueue_4 rfl (lv_at hl 0 rfl) ?_
      refine lv_bipush (v := nI 8) hx hb dX6_countQueue_5 (by decide) ?_
      refine lv_icmp_ge (tgt := 34) hx hb dX6_countQueue_7 (by decide) (fun c_1 => ?_) (fun c_1 => ?_)
      · skip
        have c_1 := (nI_leI (a := 8) (b := i) (by omega) (by omega)).mp c_1
        have hi8 : i = 8 := by omega
        refine lv_iload_n hx hb dX6_countQueue_34 rfl (lv_at hl 1 rfl) ?_
        exact W.iret (v := nI (zcnt (fun j => decide (¬ K 4 j = (-1))) i)) hx hb hr (fun t ht hW => ⟨_, rfl, (by rw [hi8]; rfl), ht⟩) (fun _ h => nomatch h) dX6_countQueue_35
      · skip
        have c_1 : ¬ 8 ≤ i := fun h => c_1 ((nI_leI (a := 8) (b := i) (by omega) (by omega)).mpr h)
        refine lv_iload_n hx hb dX6_countQueue_10 rfl (lv_at hl 1 rfl) ?_
        refine lv_aload_n hx hb dX6_countQueue_11 rfl (lv_at hl 2 rfl) ?_
        refine va_get (D := D) (ci := 6) (v := .ref (ad 4)) (C := RX6) (T := TX6) (N := 21) hx hb hts hinX6 hown hK hP 0 rfl rfl 7 (by decide) (hts (.fieldLink RX6 23 "AuditoriumKeysModel" "cameAt" "[I") (List.mem_of_getElem? (i := 1) rfl)) (fun _ h9 => h9) rfl dX6_countQueue_12 ?_
        refine lv_iload_n hx hb dX6_countQueue_15 rfl (lv_at hl 0 rfl) ?_
        refine zz_iald hx hb hK hP 4 0 rfl rfl i (by omega) (by decide) dX6_countQueue_16 ?_
        refine lv_iconst (v := (-1)) hx hb dX6_countQueue_17 (by decide) ?_
        refine lv_icmp_eq (tgt := 25) hx hb dX6_countQueue_18 (by decide) (fun c_2 => ?_) (fun c_2 => ?_)
        · skip
          have c_2 : K 4 i = (-1) := c_2
          refine lv_iconst (v := nI 0) hx hb dX6_countQueue_25 (by decide) ?_
          refine lv_iadd hx hb dX6_countQueue_26 ?_
          refine zz_top (y := nI (zcnt (fun j => decide (¬ K 4 j = (-1))) i)) ((nI_add (zcnt (fun j => decide (¬ K 4 j = (-1))) i) 0).trans (congrArg nI (by omega))) ?_
          refine lv_istore_n (lv' := [(1, .int (nI (zcnt (fun j => decide (¬ K 4 j = (-1))) i))), (2, .int (nI i)), (0, .ref (ad 0))]) hx hb dX6_countQueue_27 rfl hl (by decide) rfl (fun ls hl => ?_)
          refine lv_iinc (v := nI (i + 1)) (lv' := [(2, .int (nI (i + 1))), (1, .int (nI (zcnt (fun j => decide (¬ K 4 j = (-1))) i))), (0, .ref (ad 0))]) hx hb dX6_countQueue_28 hl (k := 1) rfl ((show nI i + Int32.ofInt 1 = nI i + nI 1 from rfl).trans (nI_add _ _)) (by decide) rfl (fun ls hl => ?_)
          refine lv_goto (tgt := 4) hx hb dX6_countQueue_31 (by decide) ?_
          have es_3 : nI (zcnt (fun j => decide (¬ K 4 j = (-1))) (i + 1)) = nI (zcnt (fun j => decide (¬ K 4 j = (-1))) i) := (by simp [zcnt, c_2])
          exact ih_a (i + 1) (by omega) (by omega) (by omega)  ls (by rw [es_3]; exact lv_sub hl [0, 1, 2] rfl)
        · skip
          have c_2 : ¬ K 4 i = (-1) := c_2
          refine lv_iconst (v := nI 1) hx hb dX6_countQueue_21 (by decide) ?_
          refine lv_goto (tgt := 26) hx hb dX6_countQueue_22 (by decide) ?_
          refine lv_iadd hx hb dX6_countQueue_26 ?_
          refine zz_top (y := nI ((zcnt (fun j => decide (¬ K 4 j = (-1))) i) + 1)) ((nI_add (zcnt (fun j => decide (¬ K 4 j = (-1))) i) 1).trans (congrArg nI (by omega))) ?_
          refine lv_istore_n (lv' := [(1, .int (nI ((zcnt (fun j => decide (¬ K 4 j = (-1))) i) + 1))), (2, .int (nI i)), (0, .ref (ad 0))]) hx hb dX6_countQueue_27 rfl hl (by decide) rfl (fun ls hl => ?_)
          refine lv_iinc (v := nI (i + 1)) (lv' := [(2, .int (nI (i + 1))), (1, .int (nI ((zcnt (fun j => decide (¬ K 4 j = (-1))) i) + 1))), (0, .ref (ad 0))]) hx hb dX6_countQueue_28 hl (k := 1) rfl ((show nI i + Int32.ofInt 1 = nI i + nI 1 from rfl).trans (nI_add _ _)) (by decide) rfl (fun ls hl => ?_)
          refine lv_goto (tgt := 4) hx hb dX6_countQueue_31 (by decide) ?_
          have es_4 : nI (zcnt (fun j => decide (¬ K 4 j = (-1))) (i + 1)) = nI ((zcnt (fun j => decide (¬ K 4 j = (-1))) i) + 1) := (by simp [zcnt, c_2])
          exact ih_a (i + 1) (by omega) (by omega) (by omega)  ls (by rw [es_4]; exact lv_sub hl [0, 1, 2] rfl)
  have ei_a_1 : nI (zcnt (fun j => decide (¬ K 4 j = (-1))) 0) = nI 0 := rfl
  exact lp_a (8 - 0 + 1) 0 (by omega) (by omega) (by omega)  ls (by rw [ei_a_1]; exact lv_sub hl [0, 1, 2] rfl)
set_option maxHeartbeats 4000000 in
set_option maxRecDepth 100000 in
theorem kX6_isAhead (l : Launch) (D : va_G) (cI cZ : ClassId) (ad : Nat → Nat) (K : kS) (p : Nat) (o9 : Nat) (hp : p < 8) (ho9 : o9 < 8) : Met l yX6_isAhead wsX6_isAhead ({ frames := 0, cells := 0, slots := 0, locals := 0 }) (va_Pc [.ref (ad 0), .int (nI p), .int (nI o9)] (zRd D (zTy cI cZ) (mwA ad cI cZ K))) (vp_Si (fun r => r = zb (mAhead K p o9))) 0 0 (fun _ => False) := by
  refine Met.ofW (cc := cX6_isAhead) (maxL := 5) (ret := (some .boolean)) (by decide) rfl ?_
  intro pP e s m args below meth c s₁ B hml hv
  obtain ⟨rfl, hP, hK⟩ := hv
  have hx := B.exec
  have hb := B.bytes
  have hr := B.returns
  have hts := atoms_spec (ws := wsX6_isAhead) B.pre
  have hown : s.vm.findClass RX6 = some m.cls := findClass_of_methodNamed B.named
  have hlocks := B.notSynchronized
  have hinX6 : ∀ w ∈ u_ws RX6 TX6 21, w ∈ wsX6_isAhead := by decide +kernel
  have hl := lv_entry ([.ref (ad 0), .int (nI p), .int (nI o9)]) (n := 5) (Nat.le_of_ble_eq_true rfl)
  rw [lg_entry_eq]
  generalize (lg_sl ([.ref (ad 0), .int (nI p), .int (nI o9)]) ++ List.replicate (5 - (lg_sl ([.ref (ad 0), .int (nI p), .int (nI o9)])).length) Slot.unset).toArray = ls at hl ⊢
  have hl : lv_has ls 5 [(0, .ref (ad 0)), (1, .int (nI p)), (2, .int (nI o9))] := hl
  refine lv_iconst (v := nI 5) hx hb dX6_isAhead_0 (by decide) ?_
  refine lv_iload_n hx hb dX6_isAhead_1 rfl (lv_at hl 1 rfl) ?_
  refine lv_imul hx hb dX6_isAhead_2 ?_
  refine zz_top (y := nI (5 * p)) ((pk_mul 5 p).trans (congrArg nI (by first | rfl | omega | exact Nat.mul_comm _ _))) ?_
  refine lv_iconst (v := nI 3) hx hb dX6_isAhead_3 (by decide) ?_
  refine lv_aload_n hx hb dX6_isAhead_4 rfl (lv_at hl 0 rfl) ?_
  refine va_get (D := D) (ci := 6) (v := .ref (ad 4)) (C := RX6) (T := TX6) (N := 21) hx hb hts hinX6 hown hK hP 0 rfl rfl 7 (by decide) (hts (.fieldLink RX6 23 "AuditoriumKeysModel" "cameAt" "[I") (List.mem_of_getElem? (i := 1) rfl)) (fun _ h9 => h9) rfl dX6_isAhead_5 ?_
  refine lv_iload_n hx hb dX6_isAhead_8 rfl (lv_at hl 1 rfl) ?_
  refine zz_iald hx hb hK hP 4 0 rfl rfl p (by omega) (by decide) dX6_isAhead_9 ?_
  refine lv_imul hx hb dX6_isAhead_10 ?_
  refine lv_iadd hx hb dX6_isAhead_11 ?_
  refine lv_bipush (v := nI 8) hx hb dX6_isAhead_12 (by decide) ?_
  refine lv_irem hx hb dX6_isAhead_14 (by decide) ?_
  refine lv_istore_n (lv' := [(3, .int (((nI (5 * p)) + ((nI 3) * (K 4 p))) - ((nI (5 * p)) + ((nI 3) * (K 4 p))) / (nI 8) * (nI 8))), (0, .ref (ad 0)), (1, .int (nI p)), (2, .int (nI o9))]) hx hb dX6_isAhead_15 rfl hl (by decide) rfl (fun ls hl => ?_)
  refine lv_iconst (v := nI 5) hx hb dX6_isAhead_16 (by decide) ?_
  refine lv_iload_n hx hb dX6_isAhead_17 rfl (lv_at hl 3 rfl) ?_
  refine lv_imul hx hb dX6_isAhead_18 ?_
  refine zz_top (y := nI (5 * o9)) ((pk_mul 5 o9).trans (congrArg nI (by first | rfl | omega | exact Nat.mul_comm _ _))) ?_
  refine lv_iconst (v := nI 3) hx hb dX6_isAhead_19 (by decide) ?_
  refine lv_aload_n hx hb dX6_isAhead_20 rfl (lv_at hl 1 rfl) ?_
  refine va_get (D := D) (ci := 6) (v := .ref (ad 4)) (C := RX6) (T := TX6) (N := 21) hx hb hts hinX6 hown hK hP 0 rfl rfl 7 (by decide) (hts (.fieldLink RX6 23 "AuditoriumKeysModel" "cameAt" "[I") (List.mem_of_getElem? (i := 1) rfl)) (fun _ h9 => h9) rfl dX6_isAhead_21 ?_
  refine lv_iload_n hx hb dX6_isAhead_24 rfl (lv_at hl 3 rfl) ?_
  refine zz_iald hx hb hK hP 4 0 rfl rfl o9 (by omega) (by decide) dX6_isAhead_25 ?_
  refine lv_imul hx hb dX6_isAhead_26 ?_
  refine lv_iadd hx hb dX6_isAhead_27 ?_
  refine lv_bipush (v := nI 8) hx hb dX6_isAhead_28 (by decide) ?_
  refine lv_irem hx hb dX6_isAhead_30 (by decide) ?_
  refine lv_istore (lv' := [(4, .int (((nI (5 * o9)) + ((nI 3) * (K 4 o9))) - ((nI (5 * o9)) + ((nI 3) * (K 4 o9))) / (nI 8) * (nI 8))), (3, .int (((nI (5 * p)) + ((nI 3) * (K 4 p))) - ((nI (5 * p)) + ((nI 3) * (K 4 p))) / (nI 8) * (nI 8))), (0, .ref (ad 0)), (1, .int (nI p)), (2, .int (nI o9))]) hx hb dX6_isAhead_31 hl (by decide) rfl (fun ls hl => ?_)
  refine lv_aload_n hx hb dX6_isAhead_33 rfl (lv_at hl 2 rfl) ?_
  refine va_get (D := D) (ci := 6) (v := .ref (ad 4)) (C := RX6) (T := TX6) (N := 21) hx hb hts hinX6 hown hK hP 0 rfl rfl 7 (by decide) (hts (.fieldLink RX6 23 "AuditoriumKeysModel" "cameAt" "[I") (List.mem_of_getElem? (i := 1) rfl)) (fun _ h9 => h9) rfl dX6_isAhead_34 ?_
  refine lv_iload_n hx hb dX6_isAhead_37 rfl (lv_at hl 3 rfl) ?_
  refine zz_iald hx hb hK hP 4 0 rfl rfl p (by omega) (by decide) dX6_isAhead_38 ?_
  refine lv_aload_n hx hb dX6_isAhead_39 rfl (lv_at hl 2 rfl) ?_
  refine va_get (D := D) (ci := 6) (v := .ref (ad 4)) (C := RX6) (T := TX6) (N := 21) hx hb hts hinX6 hown hK hP 0 rfl rfl 7 (by decide) (hts (.fieldLink RX6 23 "AuditoriumKeysModel" "cameAt" "[I") (List.mem_of_getElem? (i := 1) rfl)) (fun _ h9 => h9) rfl dX6_isAhead_40 ?_
  refine lv_iload_n hx hb dX6_isAhead_43 rfl (lv_at hl 4 rfl) ?_
  refine zz_iald hx hb hK hP 4 0 rfl rfl o9 (by omega) (by decide) dX6_isAhead_44 ?_
  refine lv_icmp_lt (tgt := 69) hx hb dX6_isAhead_45 (by decide) (fun c_1 => ?_) (fun c_1 => ?_)
  · skip
    have c_1 : K 4 p < K 4 o9 := c_1
    refine lv_iconst (v := nI 1) hx hb dX6_isAhead_69 (by decide) ?_
    refine lv_goto (tgt := 74) hx hb dX6_isAhead_70 (by decide) ?_
    exact W.zret (v := nI 1) hx hb hr rfl (fun t ht hW => ⟨_, rfl, (by simp [mAhead, mDraw, zb, c_1]), ht⟩) (fun _ h => nomatch h) dX6_isAhead_74
  · skip
    have c_1 : ¬ K 4 p < K 4 o9 := c_1
    refine lv_aload_n hx hb dX6_isAhead_48 rfl (lv_at hl 2 rfl) ?_
    refine va_get (D := D) (ci := 6) (v := .ref (ad 4)) (C := RX6) (T := TX6) (N := 21) hx hb hts hinX6 hown hK hP 0 rfl rfl 7 (by decide) (hts (.fieldLink RX6 23 "AuditoriumKeysModel" "cameAt" "[I") (List.mem_of_getElem? (i := 1) rfl)) (fun _ h9 => h9) rfl dX6_isAhead_49 ?_
    refine lv_iload_n hx hb dX6_isAhead_52 rfl (lv_at hl 3 rfl) ?_
    refine zz_iald hx hb hK hP 4 0 rfl rfl p (by omega) (by decide) dX6_isAhead_53 ?_
    refine lv_aload_n hx hb dX6_isAhead_54 rfl (lv_at hl 2 rfl) ?_
    refine va_get (D := D) (ci := 6) (v := .ref (ad 4)) (C := RX6) (T := TX6) (N := 21) hx hb hts hinX6 hown hK hP 0 rfl rfl 7 (by decide) (hts (.fieldLink RX6 23 "AuditoriumKeysModel" "cameAt" "[I") (List.mem_of_getElem? (i := 1) rfl)) (fun _ h9 => h9) rfl dX6_isAhead_55 ?_
    refine lv_iload_n hx hb dX6_isAhead_58 rfl (lv_at hl 4 rfl) ?_
    refine zz_iald hx hb hK hP 4 0 rfl rfl o9 (by omega) (by decide) dX6_isAhead_59 ?_
    refine lv_icmp_ne (tgt := 73) hx hb dX6_isAhead_60 (by decide) (fun c_2 => ?_) (fun c_2 => ?_)
    · skip
      have c_2 : ¬ K 4 p = K 4 o9 := c_2
      refine lv_iconst (v := nI 0) hx hb dX6_isAhead_73 (by decide) ?_
      exact W.zret (v := nI 0) hx hb hr rfl (fun t ht hW => ⟨_, rfl, (by simp [mAhead, mDraw, zb, c_1, c_2]), ht⟩) (fun _ h => nomatch h) dX6_isAhead_74
    · skip
      have c_2 : K 4 p = K 4 o9 := c_2
      refine lv_iload_n hx hb dX6_isAhead_63 rfl (lv_at hl 1 rfl) ?_
      refine lv_iload hx hb dX6_isAhead_64 (lv_at hl 0 rfl) ?_
      refine lv_icmp_ge (tgt := 73) hx hb dX6_isAhead_66 (by decide) (fun c_3 => ?_) (fun c_3 => ?_)
      · skip
        have c_3 : ((nI (5 * o9)) + ((nI 3) * (K 4 o9))) - ((nI (5 * o9)) + ((nI 3) * (K 4 o9))) / (nI 8) * (nI 8) ≤ ((nI (5 * p)) + ((nI 3) * (K 4 p))) - ((nI (5 * p)) + ((nI 3) * (K 4 p))) / (nI 8) * (nI 8) := c_3
        refine lv_iconst (v := nI 0) hx hb dX6_isAhead_73 (by decide) ?_
        exact W.zret (v := nI 0) hx hb hr rfl (fun t ht hW => ⟨_, rfl, (by simp [mAhead, mDraw, zb, c_1, eq_true c_2, c_3]), ht⟩) (fun _ h => nomatch h) dX6_isAhead_74
      · skip
        have c_3 : ¬ ((nI (5 * o9)) + ((nI 3) * (K 4 o9))) - ((nI (5 * o9)) + ((nI 3) * (K 4 o9))) / (nI 8) * (nI 8) ≤ ((nI (5 * p)) + ((nI 3) * (K 4 p))) - ((nI (5 * p)) + ((nI 3) * (K 4 p))) / (nI 8) * (nI 8) := c_3
        refine lv_iconst (v := nI 1) hx hb dX6_isAhead_69 (by decide) ?_
        refine lv_goto (tgt := 74) hx hb dX6_isAhead_70 (by decide) ?_
        exact W.zret (v := nI 1) hx hb hr rfl (fun t ht hW => ⟨_, rfl, (by simp [mAhead, mDraw, zb, c_1, eq_true c_2, c_3]), ht⟩) (fun _ h => nomatch h) dX6_isAhead_74
set_option maxHeartbeats 4000000 in
set_option maxRecDepth 100000 in
theorem kX6_placeAt (l : Launch) (D : va_G) (cI cZ : ClassId) (ad : Nat → Nat) (K : kS) (x : Int32)  : Met l yX6_placeAt wsX6_placeAt ({ frames := 1, cells := 0, slots := 0, locals := 24 }) (va_Pc [.ref (ad 0), .int x] (zRd D (zTy cI cZ) (mwA ad cI cZ K))) (vp_Si (fun r => r = mAt K x)) 0 0 (fun _ => False) := by
  refine Met.ofW (cc := cX6_placeAt) (maxL := 5) (ret := (some .int)) (by decide) rfl ?_
  intro pP e s m args below meth c s₁ B hml hv
  obtain ⟨rfl, hP, hK⟩ := hv
  have hx := B.exec
  have hb := B.bytes
  have hr := B.returns
  have hts := atoms_spec (ws := wsX6_placeAt) B.pre
  have hown : s.vm.findClass RX6 = some m.cls := findClass_of_methodNamed B.named
  have hlocks := B.notSynchronized
  have hinX6 : ∀ w ∈ u_ws RX6 TX6 21, w ∈ wsX6_placeAt := by decide +kernel
  have hl := lv_entry ([.ref (ad 0), .int x]) (n := 5) (Nat.le_of_ble_eq_true rfl)
  rw [lg_entry_eq]
  generalize (lg_sl ([.ref (ad 0), .int x]) ++ List.replicate (5 - (lg_sl ([.ref (ad 0), .int x])).length) Slot.unset).toArray = ls at hl ⊢
  have hl : lv_has ls 5 [(0, .ref (ad 0)), (1, .int x)] := hl
  refine lv_iconst (v := nI 0) hx hb dX6_placeAt_0 (by decide) ?_
  refine lv_istore_n (lv' := [(2, .int (nI 0)), (0, .ref (ad 0)), (1, .int x)]) hx hb dX6_placeAt_1 rfl hl (by decide) rfl (fun ls hl => ?_)
  have lp_a : ∀ (n i : Nat), 0 ≤ i → i ≤ 8 → 8 - i < n → (∀ j, j < i → (decide (¬ K 4 j = (-1)) && decide (nI (mPlace K j) = x)) = false) → ∀ ls : Array Slot, lv_has ls 5 [(2, .int (nI i)), (0, .ref (ad 0)), (1, .int x)] → W pP l e ({ frames := 1, cells := 0, slots := 0, locals := 24 } : Room) s m ([.ref (ad 0), .int x] : List Value).toArray below meth c s.heap [] 0 0 (MQ below (vp_Si (fun r => r = mAt K x)) ([.ref (ad 0), .int x] : List Value).toArray s 0 0 (fun _ => False)) (F0 m 2 ls []) := by
    intro n
    induction n with
    | zero => intro i _ _ h; exact absurd h (Nat.not_lt_zero _)
    | succ n ih_a =>
      intro i hlo_a hin_a hdn_a hno ls hl
      refine lv_iload_n hx hb dX6_placeAt_2 rfl (lv_at hl 0 rfl) ?_
      refine lv_bipush (v := nI 8) hx hb dX6_placeAt_3 (by decide) ?_
      refine lv_icmp_ge (tgt := 78) hx hb dX6_placeAt_5 (by decide) (fun c_1 => ?_) (fun c_1 => ?_)
      · skip
        have c_1 := (nI_leI (a := 8) (b := i) (by omega) (by omega)).mp c_1
        have hi8 : i = 8 := by omega
        refine lv_iconst (v := (-1)) hx hb dX6_placeAt_78 (by decide) ?_
        exact W.iret (v := (-1)) hx hb hr (fun t ht hW => ⟨_, rfl, (by rw [hi8] at hno; exact (zfind_no hno).symm), ht⟩) (fun _ h => nomatch h) dX6_placeAt_79
      · skip
        have c_1 : ¬ 8 ≤ i := fun h => c_1 ((nI_leI (a := 8) (b := i) (by omega) (by omega)).mpr h)
        refine lv_iconst (v := nI 0) hx hb dX6_placeAt_8 (by decide) ?_
        refine lv_istore_n (lv' := [(3, .int (nI 0)), (2, .int (nI i)), (0, .ref (ad 0)), (1, .int x)]) hx hb dX6_placeAt_9 rfl hl (by decide) rfl (fun ls hl => ?_)
        refine lv_iconst (v := nI 0) hx hb dX6_placeAt_10 (by decide) ?_
        refine lv_istore (lv' := [(4, .int (nI 0)), (3, .int (nI 0)), (2, .int (nI i)), (0, .ref (ad 0)), (1, .int x)]) hx hb dX6_placeAt_11 hl (by decide) rfl (fun ls hl => ?_)
        have lp_b : ∀ (n j : Nat), 0 ≤ j → j ≤ 8 → 8 - j < n → ∀ ls : Array Slot, lv_has ls 5 [(4, .int (nI j)), (3, .int (nI (zcnt (fun q => decide (¬ K 4 q = (-1)) && mAhead K q i) j))), (2, .int (nI i)), (0, .ref (ad 0)), (1, .int x)] → W pP l e ({ frames := 1, cells := 0, slots := 0, locals := 24 } : Room) s m ([.ref (ad 0), .int x] : List Value).toArray below meth c s.heap [] 0 0 (MQ below (vp_Si (fun r => r = mAt K x)) ([.ref (ad 0), .int x] : List Value).toArray s 0 0 (fun _ => False)) (F0 m 13 ls []) := by
          intro n
          induction n with
          | zero => intro j _ _ h; exact absurd h (Nat.not_lt_zero _)
          | succ n ih_b =>
            intro j hlo_b hin_b hdn_b  ls hl
            refine lv_iload hx hb dX6_placeAt_13 (lv_at hl 0 rfl) ?_
            refine lv_bipush (v := nI 8) hx hb dX6_placeAt_15 (by decide) ?_
            refine lv_icmp_ge (tgt := 55) hx hb dX6_placeAt_17 (by decide) (fun c_2 => ?_) (fun c_2 => ?_)
            · skip
              have c_2 := (nI_leI (a := 8) (b := j) (by omega) (by omega)).mp c_2
              have hj8 : j = 8 := by omega
              subst hj8
              refine lv_aload_n hx hb dX6_placeAt_55 rfl (lv_at hl 3 rfl) ?_
              refine va_get (D := D) (ci := 6) (v := .ref (ad 4)) (C := RX6) (T := TX6) (N := 21) hx hb hts hinX6 hown hK hP 0 rfl rfl 7 (by decide) (hts (.fieldLink RX6 23 "AuditoriumKeysModel" "cameAt" "[I") (List.mem_of_getElem? (i := 1) rfl)) (fun _ h9 => h9) rfl dX6_placeAt_56 ?_
              refine lv_iload_n hx hb dX6_placeAt_59 rfl (lv_at hl 2 rfl) ?_
              refine zz_iald hx hb hK hP 4 0 rfl rfl i (by omega) (by decide) dX6_placeAt_60 ?_
              refine lv_iconst (v := (-1)) hx hb dX6_placeAt_61 (by decide) ?_
              refine lv_icmp_eq (tgt := 72) hx hb dX6_placeAt_62 (by decide) (fun c_3 => ?_) (fun c_3 => ?_)
              · skip
                have c_3 : K 4 i = (-1) := c_3
                refine lv_iinc (v := nI (i + 1)) (lv' := [(2, .int (nI (i + 1))), (4, .int (nI 8)), (3, .int (nI (zcnt (fun q => decide (¬ K 4 q = (-1)) && mAhead K q i) 8))), (0, .ref (ad 0)), (1, .int x)]) hx hb dX6_placeAt_72 hl (k := 2) rfl ((show nI i + Int32.ofInt 1 = nI i + nI 1 from rfl).trans (nI_add _ _)) (by decide) rfl (fun ls hl => ?_)
                refine lv_goto (tgt := 2) hx hb dX6_placeAt_75 (by decide) ?_
                exact ih_a (i + 1) (by omega) (by omega) (by omega) (lt_succ_all hno (by simp [c_1, c_2, eq_true c_3])) ls (lv_sub hl [0, 3, 4] rfl)
              · skip
                have c_3 : ¬ K 4 i = (-1) := c_3
                refine lv_iload_n hx hb dX6_placeAt_65 rfl (lv_at hl 1 rfl) ?_
                refine lv_iload_n hx hb dX6_placeAt_66 rfl (lv_at hl 4 rfl) ?_
                refine lv_icmp_ne (tgt := 72) hx hb dX6_placeAt_67 (by decide) (fun c_4 => ?_) (fun c_4 => ?_)
                · skip
                  have c_4 : ¬ nI (zcnt (fun q => decide (¬ K 4 q = (-1)) && mAhead K q i) 8) = x := c_4
                  have c_4 : ¬ nI (mPlace K i) = x := c_4
                  refine lv_iinc (v := nI (i + 1)) (lv' := [(2, .int (nI (i + 1))), (4, .int (nI 8)), (3, .int (nI (zcnt (fun q => decide (¬ K 4 q = (-1)) && mAhead K q i) 8))), (0, .ref (ad 0)), (1, .int x)]) hx hb dX6_placeAt_72 hl (k := 2) rfl ((show nI i + Int32.ofInt 1 = nI i + nI 1 from rfl).trans (nI_add _ _)) (by decide) rfl (fun ls hl => ?_)
                  refine lv_goto (tgt := 2) hx hb dX6_placeAt_75 (by decide) ?_
                  exact ih_a (i + 1) (by omega) (by omega) (by omega) (lt_succ_all hno (by simp [c_1, c_2, c_3, c_4])) ls (lv_sub hl [0, 3, 4] rfl)
                · skip
                  have c_4 : nI (zcnt (fun q => decide (¬ K 4 q = (-1)) && mAhead K q i) 8) = x := c_4
                  have c_4 : nI (mPlace K i) = x := c_4
                  refine lv_iload_n hx hb dX6_placeAt_70 rfl (lv_at hl 2 rfl) ?_
                  exact W.iret (v := nI i) hx hb hr (fun t ht hW => ⟨_, rfl, (zfind_at (by omega) hno (by simp [c_1, c_2, c_3, eq_true c_4])).symm, ht⟩) (fun _ h => nomatch h) dX6_placeAt_71
            · skip
              have c_2 : ¬ 8 ≤ j := fun h => c_2 ((nI_leI (a := 8) (b := j) (by omega) (by omega)).mpr h)
              refine lv_iload_n hx hb dX6_placeAt_20 rfl (lv_at hl 1 rfl) ?_
              refine lv_aload_n hx hb dX6_placeAt_21 rfl (lv_at hl 3 rfl) ?_
              refine va_get (D := D) (ci := 6) (v := .ref (ad 4)) (C := RX6) (T := TX6) (N := 21) hx hb hts hinX6 hown hK hP 0 rfl rfl 7 (by decide) (hts (.fieldLink RX6 23 "AuditoriumKeysModel" "cameAt" "[I") (List.mem_of_getElem? (i := 1) rfl)) (fun _ h9 => h9) rfl dX6_placeAt_22 ?_
              refine lv_iload hx hb dX6_placeAt_25 (lv_at hl 0 rfl) ?_
              refine zz_iald hx hb hK hP 4 0 rfl rfl j (by omega) (by decide) dX6_placeAt_27 ?_
              refine lv_iconst (v := (-1)) hx hb dX6_placeAt_28 (by decide) ?_
              refine lv_icmp_eq (tgt := 46) hx hb dX6_placeAt_29 (by decide) (fun c_5 => ?_) (fun c_5 => ?_)
              · skip
                have c_5 : K 4 j = (-1) := c_5
                refine lv_iconst (v := nI 0) hx hb dX6_placeAt_46 (by decide) ?_
                refine lv_iadd hx hb dX6_placeAt_47 ?_
                refine zz_top (y := nI (zcnt (fun q => decide (¬ K 4 q = (-1)) && mAhead K q i) j)) ((nI_add (zcnt (fun q => decide (¬ K 4 q = (-1)) && mAhead K q i) j) 0).trans (congrArg nI (by omega))) ?_
                refine lv_istore_n (lv' := [(3, .int (nI (zcnt (fun q => decide (¬ K 4 q = (-1)) && mAhead K q i) j))), (4, .int (nI j)), (2, .int (nI i)), (0, .ref (ad 0)), (1, .int x)]) hx hb dX6_placeAt_48 rfl hl (by decide) rfl (fun ls hl => ?_)
                refine lv_iinc (v := nI (j + 1)) (lv' := [(4, .int (nI (j + 1))), (3, .int (nI (zcnt (fun q => decide (¬ K 4 q = (-1)) && mAhead K q i) j))), (2, .int (nI i)), (0, .ref (ad 0)), (1, .int x)]) hx hb dX6_placeAt_49 hl (k := 1) rfl ((show nI j + Int32.ofInt 1 = nI j + nI 1 from rfl).trans (nI_add _ _)) (by decide) rfl (fun ls hl => ?_)
                refine lv_goto (tgt := 13) hx hb dX6_placeAt_52 (by decide) ?_
                have es_6 : nI (zcnt (fun q => decide (¬ K 4 q = (-1)) && mAhead K q i) (j + 1)) = nI (zcnt (fun q => decide (¬ K 4 q = (-1)) && mAhead K q i) j) := (by simp [zcnt, c_2, eq_true c_5])
                exact ih_b (j + 1) (by omega) (by omega) (by omega)  ls (by rw [es_6]; exact lv_sub hl [0, 1, 2, 3, 4] rfl)
              · skip
                have c_5 : ¬ K 4 j = (-1) := c_5
                refine lv_aload_n hx hb dX6_placeAt_32 rfl (lv_at hl 3 rfl) ?_
                refine lv_iload hx hb dX6_placeAt_33 (lv_at hl 0 rfl) ?_
                refine lv_iload_n hx hb dX6_placeAt_35 rfl (lv_at hl 2 rfl) ?_
                refine zc_rV (As := [.int (nI j), .int (nI i)]) (rest := [.int (nI (zcnt (fun q => decide (¬ K 4 q = (-1)) && mAhead K q i) j))]) ⟨hx, hb, hml, hown, hts⟩ (kX6_isAhead l D cI cZ ad K j i (by omega) (by omega)) (cwV 2 hts gX6_placeAt_X6_isAhead rfl rfl rfl (by decide +kernel) ⟨(Nat.le_of_ble_eq_true rfl), (Nat.le_of_ble_eq_true rfl)⟩) hK hP (ci := 6) (q0 := 0) rfl rfl rfl rfl hl.1 rfl (Nat.le_of_ble_eq_true rfl) dX6_placeAt_36 ⟨Nat.zero_le _, Nat.zero_le _⟩ ?_
                refine lv_if_eq (tgt := 46) hx hb dX6_placeAt_39 (by decide) (fun c_7 => ?_) (fun c_7 => ?_)
                · skip
                  have c_7 := zb_f c_7
                  refine lv_iconst (v := nI 0) hx hb dX6_placeAt_46 (by decide) ?_
                  refine lv_iadd hx hb dX6_placeAt_47 ?_
                  refine zz_top (y := nI (zcnt (fun q => decide (¬ K 4 q = (-1)) && mAhead K q i) j)) ((nI_add (zcnt (fun q => decide (¬ K 4 q = (-1)) && mAhead K q i) j) 0).trans (congrArg nI (by omega))) ?_
                  refine lv_istore_n (lv' := [(3, .int (nI (zcnt (fun q => decide (¬ K 4 q = (-1)) && mAhead K q i) j))), (4, .int (nI j)), (2, .int (nI i)), (0, .ref (ad 0)), (1, .int x)]) hx hb dX6_placeAt_48 rfl hl (by decide) rfl (fun ls hl => ?_)
                  refine lv_iinc (v := nI (j + 1)) (lv' := [(4, .int (nI (j + 1))), (3, .int (nI (zcnt (fun q => decide (¬ K 4 q = (-1)) && mAhead K q i) j))), (2, .int (nI i)), (0, .ref (ad 0)), (1, .int x)]) hx hb dX6_placeAt_49 hl (k := 1) rfl ((show nI j + Int32.ofInt 1 = nI j + nI 1 from rfl).trans (nI_add _ _)) (by decide) rfl (fun ls hl => ?_)
                  refine lv_goto (tgt := 13) hx hb dX6_placeAt_52 (by decide) ?_
                  have es_8 : nI (zcnt (fun q => decide (¬ K 4 q = (-1)) && mAhead K q i) (j + 1)) = nI (zcnt (fun q => decide (¬ K 4 q = (-1)) && mAhead K q i) j) := (by simp [zcnt, c_2, c_5, c_7])
                  exact ih_b (j + 1) (by omega) (by omega) (by omega)  ls (by rw [es_8]; exact lv_sub hl [0, 1, 2, 3, 4] rfl)
                · skip
                  have c_7 := zb_t c_7
                  refine lv_iconst (v := nI 1) hx hb dX6_placeAt_42 (by decide) ?_
                  refine lv_goto (tgt := 47) hx hb dX6_placeAt_43 (by decide) ?_
                  refine lv_iadd hx hb dX6_placeAt_47 ?_
                  refine zz_top (y := nI ((zcnt (fun q => decide (¬ K 4 q = (-1)) && mAhead K q i) j) + 1)) ((nI_add (zcnt (fun q => decide (¬ K 4 q = (-1)) && mAhead K q i) j) 1).trans (congrArg nI (by omega))) ?_
                  refine lv_istore_n (lv' := [(3, .int (nI ((zcnt (fun q => decide (¬ K 4 q = (-1)) && mAhead K q i) j) + 1))), (4, .int (nI j)), (2, .int (nI i)), (0, .ref (ad 0)), (1, .int x)]) hx hb dX6_placeAt_48 rfl hl (by decide) rfl (fun ls hl => ?_)
                  refine lv_iinc (v := nI (j + 1)) (lv' := [(4, .int (nI (j + 1))), (3, .int (nI ((zcnt (fun q => decide (¬ K 4 q = (-1)) && mAhead K q i) j) + 1))), (2, .int (nI i)), (0, .ref (ad 0)), (1, .int x)]) hx hb dX6_placeAt_49 hl (k := 1) rfl ((show nI j + Int32.ofInt 1 = nI j + nI 1 from rfl).trans (nI_add _ _)) (by decide) rfl (fun ls hl => ?_)
                  refine lv_goto (tgt := 13) hx hb dX6_placeAt_52 (by decide) ?_
                  have es_9 : nI (zcnt (fun q => decide (¬ K 4 q = (-1)) && mAhead K q i) (j + 1)) = nI ((zcnt (fun q => decide (¬ K 4 q = (-1)) && mAhead K q i) j) + 1) := (by simp [zcnt, c_2, c_5, c_7])
                  exact ih_b (j + 1) (by omega) (by omega) (by omega)  ls (by rw [es_9]; exact lv_sub hl [0, 1, 2, 3, 4] rfl)
        have ei_b_3 : nI (zcnt (fun q => decide (¬ K 4 q = (-1)) && mAhead K q i) 0) = nI 0 := rfl
        exact lp_b (8 - 0 + 1) 0 (by omega) (by omega) (by omega)  ls (by rw [ei_b_3]; exact lv_sub hl [0, 1, 2, 3, 4] rfl)
  exact lp_a (8 - 0 + 1) 0 (by omega) (by omega) (by omega) (fun j hj => absurd hj (Nat.not_lt_zero j)) ls (lv_sub hl [0, 1, 2] rfl)
set_option maxHeartbeats 4000000 in
set_option maxRecDepth 100000 in
theorem kX6_servedNow (l : Launch) (D : va_G) (cI cZ : ClassId) (ad : Nat → Nat) (K : kS)   : Met l yX6_servedNow wsX6_servedNow ({ frames := 2, cells := 0, slots := 0, locals := 48 }) (va_Pc [.ref (ad 0)] (zRd D (zTy cI cZ) (mwA ad cI cZ K))) (vp_Si (fun r => r = mServed K)) 0 0 (fun _ => False) := by
  refine Met.ofW (cc := cX6_servedNow) (maxL := 2) (ret := (some .int)) (by decide) rfl ?_
  intro pP e s m args below meth c s₁ B hml hv
  obtain ⟨rfl, hP, hK⟩ := hv
  have hx := B.exec
  have hb := B.bytes
  have hr := B.returns
  have hts := atoms_spec (ws := wsX6_servedNow) B.pre
  have hown : s.vm.findClass RX6 = some m.cls := findClass_of_methodNamed B.named
  have hlocks := B.notSynchronized
  have hinX6 : ∀ w ∈ u_ws RX6 TX6 21, w ∈ wsX6_servedNow := by decide +kernel
  have hl := lv_entry ([.ref (ad 0)]) (n := 2) (Nat.le_of_ble_eq_true rfl)
  rw [lg_entry_eq]
  generalize (lg_sl ([.ref (ad 0)]) ++ List.replicate (2 - (lg_sl ([.ref (ad 0)])).length) Slot.unset).toArray = ls at hl ⊢
  have hl : lv_has ls 2 [(0, .ref (ad 0))] := hl
  refine lv_aload_n hx hb dX6_servedNow_0 rfl (lv_at hl 0 rfl) ?_
  refine lv_iconst (v := nI 0) hx hb dX6_servedNow_1 (by decide) ?_
  refine zc_rV (As := [.int (nI 0)]) (rest := []) ⟨hx, hb, hml, hown, hts⟩ (kX6_placeAt l D cI cZ ad K (nI 0) ) (cwV 1 hts gX6_servedNow_X6_placeAt rfl rfl rfl (by decide +kernel) ⟨(Nat.le_of_ble_eq_true rfl), (Nat.le_of_ble_eq_true rfl)⟩) hK hP (ci := 6) (q0 := 0) rfl rfl rfl rfl hl.1 rfl (Nat.le_of_ble_eq_true rfl) dX6_servedNow_2 ⟨Nat.zero_le _, Nat.zero_le _⟩ ?_
  refine lv_istore_n (lv' := [(1, .int (mAt K (nI 0))), (0, .ref (ad 0))]) hx hb dX6_servedNow_5 rfl hl (by decide) rfl (fun ls hl => ?_)
  refine lv_iload_n hx hb dX6_servedNow_6 rfl (lv_at hl 0 rfl) ?_
  refine lv_iconst (v := (-1)) hx hb dX6_servedNow_7 (by decide) ?_
  refine lv_icmp_eq (tgt := 28) hx hb dX6_servedNow_8 (by decide) (fun c_1 => ?_) (fun c_1 => ?_)
  · skip
    have c_1 : mAt K (nI 0) = (-1) := c_1
    refine lv_iconst (v := (-1)) hx hb dX6_servedNow_28 (by decide) ?_
    exact W.iret (v := (-1)) hx hb hr (fun t ht hW => ⟨_, rfl, (by simp [mServed, eq_true c_1]), ht⟩) (fun _ h => nomatch h) dX6_servedNow_29
  · skip
    have c_1 : ¬ mAt K (nI 0) = (-1) := c_1
    obtain ⟨q9, hq9, hq8, hq7, -⟩ := zfind_ex c_1
    have hq6 : mAt K (nI 0) = nI q9 := hq7
    have hq5 : (mAt K (nI 0)).toNatClampNeg = q9 := by rw [hq6]; exact nI_clamp (by omega)
    refine lv_aload_n hx hb dX6_servedNow_11 rfl (lv_at hl 1 rfl) ?_
    refine va_get (D := D) (ci := 6) (v := .ref (ad 4)) (C := RX6) (T := TX6) (N := 21) hx hb hts hinX6 hown hK hP 0 rfl rfl 7 (by decide) (hts (.fieldLink RX6 23 "AuditoriumKeysModel" "cameAt" "[I") (List.mem_of_getElem? (i := 1) rfl)) (fun _ h9 => h9) rfl dX6_servedNow_12 ?_
    refine lv_iload_n hx hb dX6_servedNow_15 rfl (lv_at hl 0 rfl) ?_
    refine zz_top (y := nI q9) hq6 ?_
    refine zz_iald hx hb hK hP 4 0 rfl rfl q9 (by omega) (by decide) dX6_servedNow_16 ?_
    refine lv_aload_n hx hb dX6_servedNow_17 rfl (lv_at hl 1 rfl) ?_
    refine va_get (D := D) (ci := 6) (v := .int (K 0 1)) (C := RX6) (T := TX6) (N := 21) hx hb hts hinX6 hown hK hP 0 rfl rfl 1 (by decide) (hts (.fieldLink RX6 80 "AuditoriumKeysModel" "time" "I") (List.mem_of_getElem? (i := 2) rfl)) (fun _ h9 => h9) rfl dX6_servedNow_18 ?_
    refine lv_icmp_ge (tgt := 28) hx hb dX6_servedNow_21 (by decide) (fun c_2 => ?_) (fun c_2 => ?_)
    · skip
      have c_2 : K 0 1 ≤ K 4 q9 := c_2
      refine lv_iconst (v := (-1)) hx hb dX6_servedNow_28 (by decide) ?_
      exact W.iret (v := (-1)) hx hb hr (fun t ht hW => ⟨_, rfl, (by unfold mServed; rw [if_neg c_1, hq5]; simp [c_2]), ht⟩) (fun _ h => nomatch h) dX6_servedNow_29
    · skip
      have c_2 : ¬ K 0 1 ≤ K 4 q9 := c_2
      refine lv_iload_n hx hb dX6_servedNow_24 rfl (lv_at hl 0 rfl) ?_
      refine lv_goto (tgt := 29) hx hb dX6_servedNow_25 (by decide) ?_
      exact W.iret (v := mAt K (nI 0)) hx hb hr (fun t ht hW => ⟨_, rfl, (by unfold mServed; rw [if_neg c_1, hq5]; simp [c_2]), ht⟩) (fun _ h => nomatch h) dX6_servedNow_29
set_option maxHeartbeats 4000000 in
set_option maxRecDepth 100000 in
theorem kX6_areOpen (l : Launch) (D : va_G) (cI cZ : ClassId) (ad : Nat → Nat) (K : kS) (a9 : Int32) (f9 : Nat) (m9 : Nat) (hf9 : f9 + m9 ≤ 60) : Met l yX6_areOpen wsX6_areOpen ({ frames := 3, cells := 0, slots := 0, locals := 66 }) (va_Pc [.ref (ad 0), .int a9, .int (nI f9), .int (nI m9)] (zRd D (zTy cI cZ) (mwA ad cI cZ K))) (vp_Si (fun r => r = zb (mAreUp K a9 f9 m9))) 0 0 (fun _ => False) := by
  refine Met.ofW (cc := cX6_areOpen) (maxL := 6) (ret := (some .boolean)) (by decide) rfl ?_
  intro pP e s m args below meth c s₁ B hml hv
  obtain ⟨rfl, hP, hK⟩ := hv
  have hx := B.exec
  have hb := B.bytes
  have hr := B.returns
  have hts := atoms_spec (ws := wsX6_areOpen) B.pre
  have hown : s.vm.findClass RX6 = some m.cls := findClass_of_methodNamed B.named
  have hlocks := B.notSynchronized
  have hinX6 : ∀ w ∈ u_ws RX6 TX6 21, w ∈ wsX6_areOpen := by decide +kernel
  have hl := lv_entry ([.ref (ad 0), .int a9, .int (nI f9), .int (nI m9)]) (n := 6) (Nat.le_of_ble_eq_true rfl)
  rw [lg_entry_eq]
  generalize (lg_sl ([.ref (ad 0), .int a9, .int (nI f9), .int (nI m9)]) ++ List.replicate (6 - (lg_sl ([.ref (ad 0), .int a9, .int (nI f9), .int (nI m9)])).length) Slot.unset).toArray = ls at hl ⊢
  have hl : lv_has ls 6 [(0, .ref (ad 0)), (1, .int a9), (2, .int (nI f9)), (3, .int (nI m9))] := hl
  refine lv_iconst (v := nI 1) hx hb dX6_areOpen_0 (by decide) ?_
  refine lv_istore (lv' := [(4, .int (nI 1)), (0, .ref (ad 0)), (1, .int a9), (2, .int (nI f9)), (3, .int (nI m9))]) hx hb dX6_areOpen_1 hl (by decide) rfl (fun ls hl => ?_)
  refine lv_iload_n hx hb dX6_areOpen_3 rfl (lv_at hl 3 rfl) ?_
  refine lv_istore (lv' := [(5, .int (nI f9)), (4, .int (nI 1)), (0, .ref (ad 0)), (1, .int a9), (2, .int (nI f9)), (3, .int (nI m9))]) hx hb dX6_areOpen_4 hl (by decide) rfl (fun ls hl => ?_)
  have lp_a : ∀ (n k : Nat), 0 ≤ k → k ≤ m9 → m9 - k < n → ∀ ls : Array Slot, lv_has ls 6 [(5, .int (nI (f9 + k))), (4, .int (zb (mAreUp K a9 f9 k))), (0, .ref (ad 0)), (1, .int a9), (2, .int (nI f9)), (3, .int (nI m9))] → W pP l e ({ frames := 3, cells := 0, slots := 0, locals := 66 } : Room) s m ([.ref (ad 0), .int a9, .int (nI f9), .int (nI m9)] : List Value).toArray below meth c s.heap [] 0 0 (MQ below (vp_Si (fun r => r = zb (mAreUp K a9 f9 m9))) ([.ref (ad 0), .int a9, .int (nI f9), .int (nI m9)] : List Value).toArray s 0 0 (fun _ => False)) (F0 m 6 ls []) := by
    intro n
    induction n with
    | zero => intro k _ _ h; exact absurd h (Nat.not_lt_zero _)
    | succ n ih_a =>
      intro k hlo_a hin_a hdn_a  ls hl
      refine lv_iload hx hb dX6_areOpen_6 (lv_at hl 0 rfl) ?_
      refine lv_iload_n hx hb dX6_areOpen_8 rfl (lv_at hl 4 rfl) ?_
      refine lv_iload_n hx hb dX6_areOpen_9 rfl (lv_at hl 5 rfl) ?_
      refine lv_iadd hx hb dX6_areOpen_10 ?_
      refine zz_top (y := nI (f9 + m9)) ((nI_add f9 m9).trans (congrArg nI (by omega))) ?_
      refine lv_icmp_ge (tgt := 52) hx hb dX6_areOpen_11 (by decide) (fun c_1 => ?_) (fun c_1 => ?_)
      · skip
        have c_1 := (nI_leI (a := (f9 + m9)) (b := (f9 + k)) (by omega) (by omega)).mp c_1
        have hk8 : k = m9 := by omega
        refine lv_iload hx hb dX6_areOpen_52 (lv_at hl 1 rfl) ?_
        exact W.zret (v := zb (mAreUp K a9 f9 k)) hx hb hr (zb_nar _) (fun t ht hW => ⟨_, rfl, (by rw [hk8]), ht⟩) (fun _ h => nomatch h) dX6_areOpen_54
      · skip
        have c_1 : ¬ (f9 + m9) ≤ (f9 + k) := fun h => c_1 ((nI_leI (a := (f9 + m9)) (b := (f9 + k)) (by omega) (by omega)).mpr h)
        refine lv_iload hx hb dX6_areOpen_14 (lv_at hl 1 rfl) ?_
        refine lv_if_eq (tgt := 43) hx hb dX6_areOpen_16 (by decide) (fun c_2 => ?_) (fun c_2 => ?_)
        · skip
          have c_2 := zb_f c_2
          refine lv_iconst (v := nI 0) hx hb dX6_areOpen_43 (by decide) ?_
          refine lv_istore (lv' := [(4, .int (nI 0)), (5, .int (nI (f9 + k))), (0, .ref (ad 0)), (1, .int a9), (2, .int (nI f9)), (3, .int (nI m9))]) hx hb dX6_areOpen_44 hl (by decide) rfl (fun ls hl => ?_)
          refine lv_iinc (v := nI ((f9 + k) + 1)) (lv' := [(5, .int (nI ((f9 + k) + 1))), (4, .int (nI 0)), (0, .ref (ad 0)), (1, .int a9), (2, .int (nI f9)), (3, .int (nI m9))]) hx hb dX6_areOpen_46 hl (k := 1) rfl ((show nI (f9 + k) + Int32.ofInt 1 = nI (f9 + k) + nI 1 from rfl).trans (nI_add _ _)) (by decide) rfl (fun ls hl => ?_)
          refine lv_goto (tgt := 6) hx hb dX6_areOpen_49 (by decide) ?_
          have es_3 : zb (mAreUp K a9 f9 (k + 1)) = nI 0 := (by simp [mAreUp, zb, c_1, c_2])
          exact ih_a (k + 1) (by omega) (by omega) (by omega)  ls (by rw [es_3]; exact lv_sub hl [0, 1, 2, 3, 4, 5] rfl)
        · skip
          have c_2 := zb_t c_2
          refine lv_aload_n hx hb dX6_areOpen_19 rfl (lv_at hl 2 rfl) ?_
          refine lv_iload hx hb dX6_areOpen_20 (lv_at hl 0 rfl) ?_
          refine zc_rV (As := [.int (nI (f9 + k))]) (rest := []) ⟨hx, hb, hml, hown, hts⟩ (kX6_isOpen l D cI cZ ad K (f9 + k) (by omega)) (cwV 1 hts gX6_areOpen_X6_isOpen rfl rfl rfl (by decide +kernel) ⟨(Nat.le_of_ble_eq_true rfl), (Nat.le_of_ble_eq_true rfl)⟩) hK hP (ci := 6) (q0 := 0) rfl rfl rfl rfl hl.1 rfl (Nat.le_of_ble_eq_true rfl) dX6_areOpen_22 ⟨Nat.zero_le _, Nat.zero_le _⟩ ?_
          refine lv_if_eq (tgt := 43) hx hb dX6_areOpen_25 (by decide) (fun c_4 => ?_) (fun c_4 => ?_)
          · skip
            have c_4 := zb_f c_4
            refine lv_iconst (v := nI 0) hx hb dX6_areOpen_43 (by decide) ?_
            refine lv_istore (lv' := [(4, .int (nI 0)), (5, .int (nI (f9 + k))), (0, .ref (ad 0)), (1, .int a9), (2, .int (nI f9)), (3, .int (nI m9))]) hx hb dX6_areOpen_44 hl (by decide) rfl (fun ls hl => ?_)
            refine lv_iinc (v := nI ((f9 + k) + 1)) (lv' := [(5, .int (nI ((f9 + k) + 1))), (4, .int (nI 0)), (0, .ref (ad 0)), (1, .int a9), (2, .int (nI f9)), (3, .int (nI m9))]) hx hb dX6_areOpen_46 hl (k := 1) rfl ((show nI (f9 + k) + Int32.ofInt 1 = nI (f9 + k) + nI 1 from rfl).trans (nI_add _ _)) (by decide) rfl (fun ls hl => ?_)
            refine lv_goto (tgt := 6) hx hb dX6_areOpen_49 (by decide) ?_
            have es_5 : zb (mAreUp K a9 f9 (k + 1)) = nI 0 := (by simp [mAreUp, zb, c_1, c_2, c_4])
            exact ih_a (k + 1) (by omega) (by omega) (by omega)  ls (by rw [es_5]; exact lv_sub hl [0, 1, 2, 3, 4, 5] rfl)
          · skip
            have c_4 := zb_t c_4
            refine lv_aload_n hx hb dX6_areOpen_28 rfl (lv_at hl 2 rfl) ?_
            refine va_get (D := D) (ci := 6) (v := .ref (ad 13)) (C := RX6) (T := TX6) (N := 21) hx hb hts hinX6 hown hK hP 0 rfl rfl 16 (by decide) (hts (.fieldLink RX6 50 "AuditoriumKeysModel" "owners" "[I") (List.mem_of_getElem? (i := 1) rfl)) (fun _ h9 => h9) rfl dX6_areOpen_29 ?_
            refine lv_iload hx hb dX6_areOpen_32 (lv_at hl 0 rfl) ?_
            refine zz_iald hx hb hK hP 13 0 rfl rfl (f9 + k) (by omega) (by decide) dX6_areOpen_34 ?_
            refine lv_iload_n hx hb dX6_areOpen_35 rfl (lv_at hl 3 rfl) ?_
            refine lv_icmp_eq (tgt := 43) hx hb dX6_areOpen_36 (by decide) (fun c_6 => ?_) (fun c_6 => ?_)
            · skip
              have c_6 : K 13 (f9 + k) = a9 := c_6
              refine lv_iconst (v := nI 0) hx hb dX6_areOpen_43 (by decide) ?_
              refine lv_istore (lv' := [(4, .int (nI 0)), (5, .int (nI (f9 + k))), (0, .ref (ad 0)), (1, .int a9), (2, .int (nI f9)), (3, .int (nI m9))]) hx hb dX6_areOpen_44 hl (by decide) rfl (fun ls hl => ?_)
              refine lv_iinc (v := nI ((f9 + k) + 1)) (lv' := [(5, .int (nI ((f9 + k) + 1))), (4, .int (nI 0)), (0, .ref (ad 0)), (1, .int a9), (2, .int (nI f9)), (3, .int (nI m9))]) hx hb dX6_areOpen_46 hl (k := 1) rfl ((show nI (f9 + k) + Int32.ofInt 1 = nI (f9 + k) + nI 1 from rfl).trans (nI_add _ _)) (by decide) rfl (fun ls hl => ?_)
              refine lv_goto (tgt := 6) hx hb dX6_areOpen_49 (by decide) ?_
              have es_7 : zb (mAreUp K a9 f9 (k + 1)) = nI 0 := (by simp [mAreUp, zb, c_1, c_2, c_4, eq_true c_6])
              exact ih_a (k + 1) (by omega) (by omega) (by omega)  ls (by rw [es_7]; exact lv_sub hl [0, 1, 2, 3, 4, 5] rfl)
            · skip
              have c_6 : ¬ K 13 (f9 + k) = a9 := c_6
              refine lv_iconst (v := nI 1) hx hb dX6_areOpen_39 (by decide) ?_
              refine lv_goto (tgt := 44) hx hb dX6_areOpen_40 (by decide) ?_
              refine lv_istore (lv' := [(4, .int (nI 1)), (5, .int (nI (f9 + k))), (0, .ref (ad 0)), (1, .int a9), (2, .int (nI f9)), (3, .int (nI m9))]) hx hb dX6_areOpen_44 hl (by decide) rfl (fun ls hl => ?_)
              refine lv_iinc (v := nI ((f9 + k) + 1)) (lv' := [(5, .int (nI ((f9 + k) + 1))), (4, .int (nI 1)), (0, .ref (ad 0)), (1, .int a9), (2, .int (nI f9)), (3, .int (nI m9))]) hx hb dX6_areOpen_46 hl (k := 1) rfl ((show nI (f9 + k) + Int32.ofInt 1 = nI (f9 + k) + nI 1 from rfl).trans (nI_add _ _)) (by decide) rfl (fun ls hl => ?_)
              refine lv_goto (tgt := 6) hx hb dX6_areOpen_49 (by decide) ?_
              have es_8 : zb (mAreUp K a9 f9 (k + 1)) = nI 1 := (by simp [mAreUp, zb, c_1, c_2, c_4, c_6])
              exact ih_a (k + 1) (by omega) (by omega) (by omega)  ls (by rw [es_8]; exact lv_sub hl [0, 1, 2, 3, 4, 5] rfl)
  have ei_a_4 : zb (mAreUp K a9 f9 0) = nI 1 := rfl
  exact lp_a (m9 - 0 + 1) 0 (by omega) (by omega) (by omega)  ls (by rw [ei_a_4]; exact lv_sub hl [0, 1, 2, 3, 4, 5] rfl)
set_option maxHeartbeats 4000000 in
set_option maxRecDepth 100000 in
theorem kX6_isWithin (l : Launch) (D : va_G) (cI cZ : ClassId) (ad : Nat → Nat) (K : kS) (c9 : Int32) (p : Nat) (m9 : Int32) (hp : p < 8) (hc9 : c9 = (-1) ∨ ∃ n, n < 10 ∧ c9 = nI n) : Met l yX6_isWithin wsX6_isWithin ({ frames := 1, cells := 0, slots := 0, locals := 23 }) (va_Pc [.ref (ad 0), .int c9, .int (nI p), .int m9] (zRd D (zTy cI cZ) (mwA ad cI cZ K))) (vp_Si (fun r => r = zb (mWithin K c9 p m9))) 0 0 (fun _ => False) := by
  refine Met.ofW (cc := cX6_isWithin) (maxL := 6) (ret := (some .boolean)) (by decide) rfl ?_
  intro pP e s m args below meth c s₁ B hml hv
  obtain ⟨rfl, hP, hK⟩ := hv
  have hx := B.exec
  have hb := B.bytes
  have hr := B.returns
  have hts := atoms_spec (ws := wsX6_isWithin) B.pre
  have hown : s.vm.findClass RX6 = some m.cls := findClass_of_methodNamed B.named
  have hlocks := B.notSynchronized
  have hinX6 : ∀ w ∈ u_ws RX6 TX6 21, w ∈ wsX6_isWithin := by decide +kernel
  have hl := lv_entry ([.ref (ad 0), .int c9, .int (nI p), .int m9]) (n := 6) (Nat.le_of_ble_eq_true rfl)
  rw [lg_entry_eq]
  generalize (lg_sl ([.ref (ad 0), .int c9, .int (nI p), .int m9]) ++ List.replicate (6 - (lg_sl ([.ref (ad 0), .int c9, .int (nI p), .int m9])).length) Slot.unset).toArray = ls at hl ⊢
  have hl : lv_has ls 6 [(0, .ref (ad 0)), (1, .int c9), (2, .int (nI p)), (3, .int m9)] := hl
  have hmt := zmate_lt p hp
  refine lv_iload_n hx hb dX6_isWithin_0 rfl (lv_at hl 1 rfl) ?_
  refine lv_iconst (v := (-1)) hx hb dX6_isWithin_1 (by decide) ?_
  refine lv_icmp_ne (tgt := 22) hx hb dX6_isWithin_2 (by decide) (fun c_1 => ?_) (fun c_1 => ?_)
  · skip
    have c_1 : ¬ c9 = (-1) := c_1
    obtain ⟨n9, hn9, hn8⟩ := hc9.resolve_left c_1
    have hn7 : c9.toNatClampNeg = n9 := by rw [hn8]; exact nI_clamp (by omega)
    have j37 : ∀ ls : Array Slot, lv_has ls 6 [(0, .ref (ad 0)), (1, .int c9), (2, .int (nI p)), (3, .int m9)] → W pP l e ({ frames := 1, cells := 0, slots := 0, locals := 23 } : Room) s m ([.ref (ad 0), .int c9, .int (nI p), .int m9] : List Value).toArray below meth c s.heap [] 0 0 (MQ below (vp_Si (fun r => r = zb (mWithin K c9 p m9))) ([.ref (ad 0), .int c9, .int (nI p), .int m9] : List Value).toArray s 0 0 (fun _ => False)) (F0 m 37 ls [.int (nI (zmate p))]) := by
      intro ls hl
      refine lv_istore (lv' := [(4, .int (nI (zmate p))), (0, .ref (ad 0)), (1, .int c9), (2, .int (nI p)), (3, .int m9)]) hx hb dX6_isWithin_37 hl (by decide) rfl (fun ls hl => ?_)
      refine lv_aload_n hx hb dX6_isWithin_39 rfl (lv_at hl 1 rfl) ?_
      refine lv_iload_n hx hb dX6_isWithin_40 rfl (lv_at hl 2 rfl) ?_
      refine zz_top (y := nI n9) hn8 ?_
      refine lv_iload_n hx hb dX6_isWithin_41 rfl (lv_at hl 3 rfl) ?_
      refine zc_rV (As := [.int (nI n9), .int (nI p)]) (rest := []) ⟨hx, hb, hml, hown, hts⟩ (kX6_usedBy l D cI cZ ad K n9 p (by omega) (by omega)) (cwV 2 hts gX6_isWithin_X6_usedBy rfl rfl rfl (by decide +kernel) ⟨(Nat.le_of_ble_eq_true rfl), (Nat.le_of_ble_eq_true rfl)⟩) hK hP (ci := 6) (q0 := 0) rfl rfl rfl rfl hl.1 rfl (Nat.le_of_ble_eq_true rfl) dX6_isWithin_42 ⟨Nat.zero_le _, Nat.zero_le _⟩ ?_
      refine lv_iload_n hx hb dX6_isWithin_45 rfl (lv_at hl 4 rfl) ?_
      refine lv_iadd hx hb dX6_isWithin_46 ?_
      refine lv_istore (lv' := [(5, .int ((mUsed K n9 p) + m9)), (4, .int (nI (zmate p))), (0, .ref (ad 0)), (1, .int c9), (2, .int (nI p)), (3, .int m9)]) hx hb dX6_isWithin_47 hl (by decide) rfl (fun ls hl => ?_)
      refine lv_iload hx hb dX6_isWithin_49 (lv_at hl 0 rfl) ?_
      refine lv_aload_n hx hb dX6_isWithin_51 rfl (lv_at hl 2 rfl) ?_
      refine va_get (D := D) (ci := 6) (v := .ref (ad 1)) (C := RX6) (T := TX6) (N := 21) hx hb hts hinX6 hown hK hP 0 rfl rfl 4 (by decide) (hts (.fieldLink RX6 13 "AuditoriumKeysModel" "ofPerson" "[I") (List.mem_of_getElem? (i := 3) rfl)) (fun _ h9 => h9) rfl dX6_isWithin_52 ?_
      refine lv_iload_n hx hb dX6_isWithin_55 rfl (lv_at hl 3 rfl) ?_
      refine zz_top (y := nI n9) hn8 ?_
      refine zz_iald hx hb hK hP 1 0 rfl rfl n9 (by omega) (by decide) dX6_isWithin_56 ?_
      refine lv_icmp_gt (tgt := 83) hx hb dX6_isWithin_57 (by decide) (fun c_2 => ?_) (fun c_2 => ?_)
      · skip
        have c_2 : K 1 n9 < (mUsed K n9 p) + m9 := c_2
        refine lv_iconst (v := nI 0) hx hb dX6_isWithin_83 (by decide) ?_
        exact W.zret (v := nI 0) hx hb hr rfl (fun t ht hW => ⟨_, rfl, (by simp [mWithin, zb, c_1, hn7, c_2]), ht⟩) (fun _ h => nomatch h) dX6_isWithin_84
      · skip
        have c_2 : ¬ K 1 n9 < (mUsed K n9 p) + m9 := c_2
        refine lv_iload hx hb dX6_isWithin_60 (lv_at hl 0 rfl) ?_
        refine lv_aload_n hx hb dX6_isWithin_62 rfl (lv_at hl 2 rfl) ?_
        refine lv_iload_n hx hb dX6_isWithin_63 rfl (lv_at hl 3 rfl) ?_
        refine zz_top (y := nI n9) hn8 ?_
        refine lv_iload hx hb dX6_isWithin_64 (lv_at hl 1 rfl) ?_
        refine zc_rV (As := [.int (nI n9), .int (nI (zmate p))]) (rest := [.int ((mUsed K n9 p) + m9)]) ⟨hx, hb, hml, hown, hts⟩ (kX6_usedBy l D cI cZ ad K n9 (zmate p) (by omega) (by omega)) (cwV 2 hts gX6_isWithin_X6_usedBy rfl rfl rfl (by decide +kernel) ⟨(Nat.le_of_ble_eq_true rfl), (Nat.le_of_ble_eq_true rfl)⟩) hK hP (ci := 6) (q0 := 0) rfl rfl rfl rfl hl.1 rfl (Nat.le_of_ble_eq_true rfl) dX6_isWithin_66 ⟨Nat.zero_le _, Nat.zero_le _⟩ ?_
        refine lv_iadd hx hb dX6_isWithin_69 ?_
        refine lv_aload_n hx hb dX6_isWithin_70 rfl (lv_at hl 2 rfl) ?_
        refine va_get (D := D) (ci := 6) (v := .ref (ad 2)) (C := RX6) (T := TX6) (N := 21) hx hb hts hinX6 hown hK hP 0 rfl rfl 5 (by decide) (hts (.fieldLink RX6 17 "AuditoriumKeysModel" "ofHousehold" "[I") (List.mem_of_getElem? (i := 4) rfl)) (fun _ h9 => h9) rfl dX6_isWithin_71 ?_
        refine lv_iload_n hx hb dX6_isWithin_74 rfl (lv_at hl 3 rfl) ?_
        refine zz_top (y := nI n9) hn8 ?_
        refine zz_iald hx hb hK hP 2 0 rfl rfl n9 (by omega) (by decide) dX6_isWithin_75 ?_
        refine lv_icmp_gt (tgt := 83) hx hb dX6_isWithin_76 (by decide) (fun c_3 => ?_) (fun c_3 => ?_)
        · skip
          have c_3 : K 2 n9 < ((mUsed K n9 p) + m9) + (mUsed K n9 (zmate p)) := c_3
          refine lv_iconst (v := nI 0) hx hb dX6_isWithin_83 (by decide) ?_
          exact W.zret (v := nI 0) hx hb hr rfl (fun t ht hW => ⟨_, rfl, (by simp [mWithin, zb, c_1, hn7, c_2, c_3]), ht⟩) (fun _ h => nomatch h) dX6_isWithin_84
        · skip
          have c_3 : ¬ K 2 n9 < ((mUsed K n9 p) + m9) + (mUsed K n9 (zmate p)) := c_3
          refine lv_iconst (v := nI 1) hx hb dX6_isWithin_79 (by decide) ?_
          refine lv_goto (tgt := 84) hx hb dX6_isWithin_80 (by decide) ?_
          exact W.zret (v := nI 1) hx hb hr rfl (fun t ht hW => ⟨_, rfl, (by simp [mWithin, zb, c_1, hn7, c_2, c_3]), ht⟩) (fun _ h => nomatch h) dX6_isWithin_84
    refine lv_iload_n hx hb dX6_isWithin_22 rfl (lv_at hl 2 rfl) ?_
    refine lv_iconst (v := nI 2) hx hb dX6_isWithin_23 (by decide) ?_
    refine lv_irem hx hb dX6_isWithin_24 (by decide) ?_
    refine zz_top (y := nI (p % 2)) (pk_rem (by omega) (by decide) (by decide)) ?_
    refine lv_if_ne (tgt := 34) hx hb dX6_isWithin_25 (by decide) (fun c_4 => ?_) (fun c_4 => ?_)
    · skip
      have c_4 : ¬ (p % 2) = 0 := fun h => c_4 ((nI_eq (a := (p % 2)) (b := 0) (by omega) (by omega)).mpr h)
      refine lv_iload_n hx hb dX6_isWithin_34 rfl (lv_at hl 2 rfl) ?_
      refine lv_iconst (v := nI 1) hx hb dX6_isWithin_35 (by decide) ?_
      refine lv_isub hx hb dX6_isWithin_36 ?_
      refine zz_top (y := nI (p - 1)) (pk_sub (by omega)) ?_
      have ej_5 : nI (zmate p) = nI (p - 1) := (congrArg nI (by simp only [zmate]; first | (rw [if_pos (by omega)]; done) | (rw [if_neg (by omega)]; done)))
      have jx := j37
      rw [ej_5] at jx
      exact jx ls (lv_sub hl [0, 1, 2, 3] rfl)
    · skip
      have c_4 := (nI_eq (a := (p % 2)) (b := 0) (by omega) (by omega)).mp c_4
      refine lv_iload_n hx hb dX6_isWithin_28 rfl (lv_at hl 2 rfl) ?_
      refine lv_iconst (v := nI 1) hx hb dX6_isWithin_29 (by decide) ?_
      refine lv_iadd hx hb dX6_isWithin_30 ?_
      refine zz_top (y := nI (p + 1)) ((nI_add p 1).trans (congrArg nI (by omega))) ?_
      refine lv_goto (tgt := 37) hx hb dX6_isWithin_31 (by decide) ?_
      have ej_6 : nI (zmate p) = nI (p + 1) := (congrArg nI (by simp only [zmate]; first | (rw [if_pos (by omega)]; done) | (rw [if_neg (by omega)]; done)))
      have jx := j37
      rw [ej_6] at jx
      exact jx ls (lv_sub hl [0, 1, 2, 3] rfl)
  · skip
    have c_1 : c9 = (-1) := c_1
    refine lv_aload_n hx hb dX6_isWithin_5 rfl (lv_at hl 0 rfl) ?_
    refine va_get (D := D) (ci := 6) (v := .int (K 0 1)) (C := RX6) (T := TX6) (N := 21) hx hb hts hinX6 hown hK hP 0 rfl rfl 1 (by decide) (hts (.fieldLink RX6 80 "AuditoriumKeysModel" "time" "I") (List.mem_of_getElem? (i := 1) rfl)) (fun _ h9 => h9) rfl dX6_isWithin_6 ?_
    refine lv_aload_n hx hb dX6_isWithin_9 rfl (lv_at hl 0 rfl) ?_
    refine va_get (D := D) (ci := 6) (v := .int (K 0 2)) (C := RX6) (T := TX6) (N := 21) hx hb hts hinX6 hown hK hP 0 rfl rfl 2 (by decide) (hts (.fieldLink RX6 7 "AuditoriumKeysModel" "opening" "I") (List.mem_of_getElem? (i := 2) rfl)) (fun _ h9 => h9) rfl dX6_isWithin_10 ?_
    refine lv_icmp_lt (tgt := 20) hx hb dX6_isWithin_13 (by decide) (fun c_7 => ?_) (fun c_7 => ?_)
    · skip
      have c_7 : K 0 1 < K 0 2 := c_7
      refine lv_iconst (v := nI 0) hx hb dX6_isWithin_20 (by decide) ?_
      exact W.zret (v := nI 0) hx hb hr rfl (fun t ht hW => ⟨_, rfl, (by simp [mWithin, zb, eq_true c_1, c_7]), ht⟩) (fun _ h => nomatch h) dX6_isWithin_21
    · skip
      have c_7 : ¬ K 0 1 < K 0 2 := c_7
      refine lv_iconst (v := nI 1) hx hb dX6_isWithin_16 (by decide) ?_
      refine lv_goto (tgt := 21) hx hb dX6_isWithin_17 (by decide) ?_
      exact W.zret (v := nI 1) hx hb hr rfl (fun t ht hW => ⟨_, rfl, (by simp [mWithin, zb, eq_true c_1, c_7]), ht⟩) (fun _ h => nomatch h) dX6_isWithin_21
set_option maxHeartbeats 4000000 in
set_option maxRecDepth 100000 in
theorem kX6_leavesSingle (l : Launch) (D : va_G) (cI cZ : ClassId) (ad : Nat → Nat) (K : kS) (sz : Nat) (p : Nat) (f9 : Nat) (m9 : Nat) (hp : p < 8) : Met l yX6_leavesSingle wsX6_leavesSingle ({ frames := 4, cells := 0, slots := 0, locals := 90 }) (va_Pc [.ref (ad 0), .int (nI p), .int (nI f9), .int (nI m9)] (zPr D (zTy cI cZ) (mwA ad cI cZ K) sz)) (va_Qi (fun r (_ : Unit) => r = zb (mLeaves K p f9 m9)) (fun _ => zPo D (zTy cI cZ) (va_A (mwA ad cI cZ K) sz) (mwA ad cI cZ (mTry K p f9 m9))) (va_A (mwA ad cI cZ K) sz)) 0 0 (va_A (mwA ad cI cZ K) sz) := by
  refine Met.ofW (cc := cX6_leavesSingle) (maxL := 6) (ret := (some .boolean)) (by decide) rfl ?_
  intro pP e s m args below meth c s₁ B hml hv
  obtain ⟨rfl, hsz, hP, hK, hD0⟩ := hv
  have hx := B.exec
  have hb := B.bytes
  have hr := B.returns
  have hts := atoms_spec (ws := wsX6_leavesSingle) B.pre
  have hown : s.vm.findClass RX6 = some m.cls := findClass_of_methodNamed B.named
  have hlocks := B.notSynchronized
  subst hsz
  have hD := hD0.self (sz := s.heap.size)
  generalize hAe : va_A (mwA ad cI cZ K) s.heap.size = A at hD ⊢
  have hA : ∀ q : Nat, s.heap.size ≤ q → A q := fun q h => by rw [← hAe]; exact Or.inr h
  have hS : va_S A s.heap s.heap [] := va_S.rf
  have hinX6 : ∀ w ∈ u_ws RX6 TX6 21, w ∈ wsX6_leavesSingle := by decide +kernel
  have hl := lv_entry ([.ref (ad 0), .int (nI p), .int (nI f9), .int (nI m9)]) (n := 6) (Nat.le_of_ble_eq_true rfl)
  rw [lg_entry_eq]
  generalize (lg_sl ([.ref (ad 0), .int (nI p), .int (nI f9), .int (nI m9)]) ++ List.replicate (6 - (lg_sl ([.ref (ad 0), .int (nI p), .int (nI f9), .int (nI m9)])).length) Slot.unset).toArray = ls at hl ⊢
  have hl : lv_has ls 6 [(0, .ref (ad 0)), (1, .int (nI p)), (2, .int (nI f9)), (3, .int (nI m9))] := hl
  refine lv_iconst (v := nI 0) hx hb dX6_leavesSingle_0 (by decide) ?_
  refine lv_istore (lv' := [(4, .int (nI 0)), (0, .ref (ad 0)), (1, .int (nI p)), (2, .int (nI f9)), (3, .int (nI m9))]) hx hb dX6_leavesSingle_1 hl (by decide) rfl (fun ls hl => ?_)
  have lp_a : ∀ (n i : Nat), 0 ≤ i → i ≤ 60 → 60 - i < n → ∀ (H : Heap) (locs : List Loc), va_P D vwCl (mwA ad cI cZ (setA K 16 (mWas K i))) H → va_D A (mwA ad cI cZ (setA K 16 (mWas K i))) → va_S A s.heap H locs → ∀ ls : Array Slot, lv_has ls 6 [(4, .int (nI i)), (0, .ref (ad 0)), (1, .int (nI p)), (2, .int (nI f9)), (3, .int (nI m9))] → W pP l e ({ frames := 4, cells := 0, slots := 0, locals := 90 } : Room) s m ([.ref (ad 0), .int (nI p), .int (nI f9), .int (nI m9)] : List Value).toArray below meth c H locs 0 0 (MQ below (va_Qi (fun r (_ : Unit) => r = zb (mLeaves K p f9 m9)) (fun _ => zPo D (zTy cI cZ) A (mwA ad cI cZ (mTry K p f9 m9))) A) ([.ref (ad 0), .int (nI p), .int (nI f9), .int (nI m9)] : List Value).toArray s 0 0 A) (F0 m 3 ls []) := by
    intro n
    induction n with
    | zero => intro i _ _ h; exact absurd h (Nat.not_lt_zero _)
    | succ n ih_a =>
      intro i hlo_a hin_a hdn_a  H locs hP hD hS ls hl
      refine lv_iload hx hb dX6_leavesSingle_3 (lv_at hl 0 rfl) ?_
      refine lv_bipush (v := nI 60) hx hb dX6_leavesSingle_5 (by decide) ?_
      refine lv_icmp_ge (tgt := 29) hx hb dX6_leavesSingle_7 (by decide) (fun c_1 => ?_) (fun c_1 => ?_)
      · skip
        have c_1 := (nI_leI (a := 60) (b := i) (by omega) (by omega)).mp c_1
        have hi8 : i = 60 := by omega
        subst hi8
        refine lv_iconst (v := nI 0) hx hb dX6_leavesSingle_29 (by decide) ?_
        refine lv_istore (lv' := [(4, .int (nI 0)), (0, .ref (ad 0)), (1, .int (nI p)), (2, .int (nI f9)), (3, .int (nI m9))]) hx hb dX6_leavesSingle_30 hl (by decide) rfl (fun ls hl => ?_)
        refine lv_aload_n hx hb dX6_leavesSingle_32 rfl (lv_at hl 1 rfl) ?_
        refine va_get (D := D) (ci := 6) (v := .ref (ad 5)) (C := RX6) (T := TX6) (N := 21) hx hb hts hinX6 hown hK hP 0 rfl rfl 8 (by decide) (hts (.fieldLink RX6 26 "AuditoriumKeysModel" "firsts" "[I") (List.mem_of_getElem? (i := 2) rfl)) (fun _ h9 => h9) rfl dX6_leavesSingle_33 ?_
        refine lv_iload_n hx hb dX6_leavesSingle_36 rfl (lv_at hl 2 rfl) ?_
        refine lv_iload_n hx hb dX6_leavesSingle_37 rfl (lv_at hl 3 rfl) ?_
        refine zz_iast hx hb hK hP hD hS 5 0 rfl rfl p (by omega) (by decide) dX6_leavesSingle_38 (fun H locs hP hD hS => ?_)
        have hP : va_P D vwCl (mwA ad cI cZ (setA (setA K 16 (mWas K 60)) 5 (upd (K 5) p (nI f9)))) _ := hP
        have hD : va_D A (mwA ad cI cZ (setA (setA K 16 (mWas K 60)) 5 (upd (K 5) p (nI f9)))) := hD
        refine lv_aload_n hx hb dX6_leavesSingle_39 rfl (lv_at hl 1 rfl) ?_
        refine va_get (D := D) (ci := 6) (v := .ref (ad 6)) (C := RX6) (T := TX6) (N := 21) hx hb hts hinX6 hown hK hP 0 rfl rfl 9 (by decide) (hts (.fieldLink RX6 29 "AuditoriumKeysModel" "manies" "[I") (List.mem_of_getElem? (i := 3) rfl)) (fun _ h9 => h9) rfl dX6_leavesSingle_40 ?_
        refine lv_iload_n hx hb dX6_leavesSingle_43 rfl (lv_at hl 2 rfl) ?_
        refine lv_iload_n hx hb dX6_leavesSingle_44 rfl (lv_at hl 4 rfl) ?_
        refine zz_iast hx hb hK hP hD hS 6 0 rfl rfl p (by omega) (by decide) dX6_leavesSingle_45 (fun H locs hP hD hS => ?_)
        have hP : va_P D vwCl (mwA ad cI cZ (setA (setA (setA K 16 (mWas K 60)) 5 (upd (K 5) p (nI f9))) 6 (upd (K 6) p (nI m9)))) _ := hP
        have hD : va_D A (mwA ad cI cZ (setA (setA (setA K 16 (mWas K 60)) 5 (upd (K 5) p (nI f9))) 6 (upd (K 6) p (nI m9)))) := hD
        refine lv_iconst (v := nI 0) hx hb dX6_leavesSingle_46 (by decide) ?_
        refine lv_istore (lv' := [(5, .int (nI 0)), (4, .int (nI 0)), (0, .ref (ad 0)), (1, .int (nI p)), (2, .int (nI f9)), (3, .int (nI m9))]) hx hb dX6_leavesSingle_47 hl (by decide) rfl (fun ls hl => ?_)
        have lp_b : ∀ (n i : Nat), 0 ≤ i → i ≤ 60 → 60 - i < n → ∀ (H : Heap) (locs : List Loc), va_P D vwCl (mwA ad cI cZ (setA (setA (setA K 16 (mWas K 60)) 5 (upd (K 5) p (nI f9))) 6 (upd (K 6) p (nI m9)))) H → va_D A (mwA ad cI cZ (setA (setA (setA K 16 (mWas K 60)) 5 (upd (K 5) p (nI f9))) 6 (upd (K 6) p (nI m9)))) → va_S A s.heap H locs → ∀ ls : Array Slot, lv_has ls 6 [(5, .int (nI i)), (4, .int (zb (mLvUp (fun q => mAlone (mTry2 K p f9 m9) q) (mWas K 60) i))), (0, .ref (ad 0)), (1, .int (nI p)), (2, .int (nI f9)), (3, .int (nI m9))] → W pP l e ({ frames := 4, cells := 0, slots := 0, locals := 90 } : Room) s m ([.ref (ad 0), .int (nI p), .int (nI f9), .int (nI m9)] : List Value).toArray below meth c H locs 0 0 (MQ below (va_Qi (fun r (_ : Unit) => r = zb (mLeaves K p f9 m9)) (fun _ => zPo D (zTy cI cZ) A (mwA ad cI cZ (mTry K p f9 m9))) A) ([.ref (ad 0), .int (nI p), .int (nI f9), .int (nI m9)] : List Value).toArray s 0 0 A) (F0 m 49 ls []) := by
          intro n
          induction n with
          | zero => intro i _ _ h; exact absurd h (Nat.not_lt_zero _)
          | succ n ih_b =>
            intro i hlo_b hin_b hdn_b  H locs hP hD hS ls hl
            refine lv_iload hx hb dX6_leavesSingle_49 (lv_at hl 0 rfl) ?_
            refine lv_bipush (v := nI 60) hx hb dX6_leavesSingle_51 (by decide) ?_
            refine lv_icmp_ge (tgt := 93) hx hb dX6_leavesSingle_53 (by decide) (fun c_2 => ?_) (fun c_2 => ?_)
            · skip
              have c_2 := (nI_leI (a := 60) (b := i) (by omega) (by omega)).mp c_2
              have hi9 : i = 60 := by omega
              subst hi9
              refine lv_aload_n hx hb dX6_leavesSingle_93 rfl (lv_at hl 2 rfl) ?_
              refine va_get (D := D) (ci := 6) (v := .ref (ad 5)) (C := RX6) (T := TX6) (N := 21) hx hb hts hinX6 hown hK hP 0 rfl rfl 8 (by decide) (hts (.fieldLink RX6 26 "AuditoriumKeysModel" "firsts" "[I") (List.mem_of_getElem? (i := 2) rfl)) (fun _ h9 => h9) rfl dX6_leavesSingle_94 ?_
              refine lv_iload_n hx hb dX6_leavesSingle_97 rfl (lv_at hl 3 rfl) ?_
              refine lv_iconst (v := (-1)) hx hb dX6_leavesSingle_98 (by decide) ?_
              refine zz_iast hx hb hK hP hD hS 5 0 rfl rfl p (by omega) (by decide) dX6_leavesSingle_99 (fun H locs hP hD hS => ?_)
              have hP : va_P D vwCl (mwA ad cI cZ (setA (setA (setA K 16 (mWas K 60)) 5 (upd (upd (K 5) p (nI f9)) p (-1))) 6 (upd (K 6) p (nI m9)))) _ := hP
              have hD : va_D A (mwA ad cI cZ (setA (setA (setA K 16 (mWas K 60)) 5 (upd (upd (K 5) p (nI f9)) p (-1))) 6 (upd (K 6) p (nI m9)))) := hD
              refine lv_iload hx hb dX6_leavesSingle_100 (lv_at hl 1 rfl) ?_
              have eK9 : (mTry K p f9 m9) = (setA (setA (setA K 16 (mWas K 60)) 5 (upd (upd (K 5) p (nI f9)) p (-1))) 6 (upd (K 6) p (nI m9))) := rfl
              have hP9 := hP
              have hD9 := hD
              rw [← eK9] at hP9 hD9
              exact W.zret (v := zb (mLvUp (fun q => mAlone (mTry2 K p f9 m9) q) (mWas K 60) 60)) hx hb hr (zb_nar _) (fun t ht hW => ⟨⟨zb (mLvUp (fun q => mAlone (mTry2 K p f9 m9) q) (mWas K 60) 60), (), rfl, rfl, by rw [ht]; exact hP9, va_K.moved hW.alike hK, hD9⟩, hS.F ht⟩) hS.2.2 dX6_leavesSingle_102
            · skip
              have c_2 : ¬ 60 ≤ i := fun h => c_2 ((nI_leI (a := 60) (b := i) (by omega) (by omega)).mpr h)
              refine lv_iload hx hb dX6_leavesSingle_56 (lv_at hl 1 rfl) ?_
              refine lv_if_ne (tgt := 80) hx hb dX6_leavesSingle_58 (by decide) (fun c_3 => ?_) (fun c_3 => ?_)
              · skip
                have c_3 := zb_t c_3
                refine lv_iconst (v := nI 1) hx hb dX6_leavesSingle_80 (by decide) ?_
                refine lv_goto (tgt := 85) hx hb dX6_leavesSingle_81 (by decide) ?_
                refine lv_istore (lv' := [(4, .int (nI 1)), (5, .int (nI i)), (0, .ref (ad 0)), (1, .int (nI p)), (2, .int (nI f9)), (3, .int (nI m9))]) hx hb dX6_leavesSingle_85 hl (by decide) rfl (fun ls hl => ?_)
                refine lv_iinc (v := nI (i + 1)) (lv' := [(5, .int (nI (i + 1))), (4, .int (nI 1)), (0, .ref (ad 0)), (1, .int (nI p)), (2, .int (nI f9)), (3, .int (nI m9))]) hx hb dX6_leavesSingle_87 hl (k := 1) rfl ((show nI i + Int32.ofInt 1 = nI i + nI 1 from rfl).trans (nI_add _ _)) (by decide) rfl (fun ls hl => ?_)
                refine lv_goto (tgt := 49) hx hb dX6_leavesSingle_90 (by decide) ?_
                have es_4 : zb (mLvUp (fun q => mAlone (mTry2 K p f9 m9) q) (mWas K 60) (i + 1)) = nI 1 := (by simp [mLvUp, zb, c_2, c_3])
                exact ih_b (i + 1) (by omega) (by omega) (by omega)  _ _ hP hD hS ls (by rw [es_4]; exact lv_sub hl [0, 1, 2, 3, 4, 5] rfl)
              · skip
                have c_3 := zb_f c_3
                refine lv_aload_n hx hb dX6_leavesSingle_61 rfl (lv_at hl 2 rfl) ?_
                refine lv_iload hx hb dX6_leavesSingle_62 (lv_at hl 0 rfl) ?_
                refine zc_rV (As := [.int (nI i)]) (rest := []) ⟨hx, hb, hml, hown, hts⟩ (kX6_isAlone l D cI cZ ad (setA (setA (setA K 16 (mWas K 60)) 5 (upd (K 5) p (nI f9))) 6 (upd (K 6) p (nI m9))) i (by omega)) (cwV 1 hts gX6_leavesSingle_X6_isAlone rfl rfl rfl (by decide +kernel) ⟨(Nat.le_of_ble_eq_true rfl), (Nat.le_of_ble_eq_true rfl)⟩) hK hP (ci := 6) (q0 := 0) rfl rfl rfl rfl hl.1 rfl (Nat.le_of_ble_eq_true rfl) dX6_leavesSingle_64 ⟨Nat.zero_le _, Nat.zero_le _⟩ ?_
                refine lv_if_eq (tgt := 84) hx hb dX6_leavesSingle_67 (by decide) (fun c_5 => ?_) (fun c_5 => ?_)
                · skip
                  have c_5 := zb_f c_5
                  have c_5 : mAlone (mTry2 K p f9 m9) i = false := c_5
                  refine lv_iconst (v := nI 0) hx hb dX6_leavesSingle_84 (by decide) ?_
                  refine lv_istore (lv' := [(4, .int (nI 0)), (5, .int (nI i)), (0, .ref (ad 0)), (1, .int (nI p)), (2, .int (nI f9)), (3, .int (nI m9))]) hx hb dX6_leavesSingle_85 hl (by decide) rfl (fun ls hl => ?_)
                  refine lv_iinc (v := nI (i + 1)) (lv' := [(5, .int (nI (i + 1))), (4, .int (nI 0)), (0, .ref (ad 0)), (1, .int (nI p)), (2, .int (nI f9)), (3, .int (nI m9))]) hx hb dX6_leavesSingle_87 hl (k := 1) rfl ((show nI i + Int32.ofInt 1 = nI i + nI 1 from rfl).trans (nI_add _ _)) (by decide) rfl (fun ls hl => ?_)
                  refine lv_goto (tgt := 49) hx hb dX6_leavesSingle_90 (by decide) ?_
                  have es_6 : zb (mLvUp (fun q => mAlone (mTry2 K p f9 m9) q) (mWas K 60) (i + 1)) = nI 0 := (by simp [mLvUp, zb, c_2, c_3, c_5])
                  exact ih_b (i + 1) (by omega) (by omega) (by omega)  _ _ hP hD hS ls (by rw [es_6]; exact lv_sub hl [0, 1, 2, 3, 4, 5] rfl)
                · skip
                  have c_5 := zb_t c_5
                  have c_5 : mAlone (mTry2 K p f9 m9) i = true := c_5
                  refine lv_aload_n hx hb dX6_leavesSingle_70 rfl (lv_at hl 2 rfl) ?_
                  refine va_get (D := D) (ci := 6) (v := .ref (ad 16)) (C := RX6) (T := TX6) (N := 21) hx hb hts hinX6 hown hK hP 0 rfl rfl 19 (by decide) (hts (.fieldLink RX6 59 "AuditoriumKeysModel" "wasSingle" "[Z") (List.mem_of_getElem? (i := 1) rfl)) (fun _ h9 => h9) rfl dX6_leavesSingle_71 ?_
                  refine lv_iload hx hb dX6_leavesSingle_74 (lv_at hl 0 rfl) ?_
                  refine zz_zald hx hb hK hP 16 1 rfl rfl i (by omega) (by decide) dX6_leavesSingle_76 ?_
                  refine lv_if_ne (tgt := 84) hx hb dX6_leavesSingle_77 (by decide) (fun c_7 => ?_) (fun c_7 => ?_)
                  · skip
                    have c_7 : ¬ (mWas K 60) i = 0 := c_7
                    refine lv_iconst (v := nI 0) hx hb dX6_leavesSingle_84 (by decide) ?_
                    refine lv_istore (lv' := [(4, .int (nI 0)), (5, .int (nI i)), (0, .ref (ad 0)), (1, .int (nI p)), (2, .int (nI f9)), (3, .int (nI m9))]) hx hb dX6_leavesSingle_85 hl (by decide) rfl (fun ls hl => ?_)
                    refine lv_iinc (v := nI (i + 1)) (lv' := [(5, .int (nI (i + 1))), (4, .int (nI 0)), (0, .ref (ad 0)), (1, .int (nI p)), (2, .int (nI f9)), (3, .int (nI m9))]) hx hb dX6_leavesSingle_87 hl (k := 1) rfl ((show nI i + Int32.ofInt 1 = nI i + nI 1 from rfl).trans (nI_add _ _)) (by decide) rfl (fun ls hl => ?_)
                    refine lv_goto (tgt := 49) hx hb dX6_leavesSingle_90 (by decide) ?_
                    have es_8 : zb (mLvUp (fun q => mAlone (mTry2 K p f9 m9) q) (mWas K 60) (i + 1)) = nI 0 := (by simp [mLvUp, zb, c_2, c_3, c_5, c_7])
                    exact ih_b (i + 1) (by omega) (by omega) (by omega)  _ _ hP hD hS ls (by rw [es_8]; exact lv_sub hl [0, 1, 2, 3, 4, 5] rfl)
                  · skip
                    have c_7 : (mWas K 60) i = 0 := c_7
                    refine lv_iconst (v := nI 1) hx hb dX6_leavesSingle_80 (by decide) ?_
                    refine lv_goto (tgt := 85) hx hb dX6_leavesSingle_81 (by decide) ?_
                    refine lv_istore (lv' := [(4, .int (nI 1)), (5, .int (nI i)), (0, .ref (ad 0)), (1, .int (nI p)), (2, .int (nI f9)), (3, .int (nI m9))]) hx hb dX6_leavesSingle_85 hl (by decide) rfl (fun ls hl => ?_)
                    refine lv_iinc (v := nI (i + 1)) (lv' := [(5, .int (nI (i + 1))), (4, .int (nI 1)), (0, .ref (ad 0)), (1, .int (nI p)), (2, .int (nI f9)), (3, .int (nI m9))]) hx hb dX6_leavesSingle_87 hl (k := 1) rfl ((show nI i + Int32.ofInt 1 = nI i + nI 1 from rfl).trans (nI_add _ _)) (by decide) rfl (fun ls hl => ?_)
                    refine lv_goto (tgt := 49) hx hb dX6_leavesSingle_90 (by decide) ?_
                    have es_9 : zb (mLvUp (fun q => mAlone (mTry2 K p f9 m9) q) (mWas K 60) (i + 1)) = nI 1 := (by simp [mLvUp, zb, c_2, c_3, c_5, eq_true c_7])
                    exact ih_b (i + 1) (by omega) (by omega) (by omega)  _ _ hP hD hS ls (by rw [es_9]; exact lv_sub hl [0, 1, 2, 3, 4, 5] rfl)
        have ei_b_4 : zb (mLvUp (fun q => mAlone (mTry2 K p f9 m9) q) (mWas K 60) 0) = nI 0 := rfl
        exact lp_b (60 - 0 + 1) 0 (by omega) (by omega) (by omega)  _ _ hP hD hS ls (by rw [ei_b_4]; exact lv_sub hl [0, 1, 2, 3, 4, 5] rfl)
      · skip
        have c_1 : ¬ 60 ≤ i := fun h => c_1 ((nI_leI (a := 60) (b := i) (by omega) (by omega)).mpr h)
        refine lv_aload_n hx hb dX6_leavesSingle_10 rfl (lv_at hl 1 rfl) ?_
        refine va_get (D := D) (ci := 6) (v := .ref (ad 16)) (C := RX6) (T := TX6) (N := 21) hx hb hts hinX6 hown hK hP 0 rfl rfl 19 (by decide) (hts (.fieldLink RX6 59 "AuditoriumKeysModel" "wasSingle" "[Z") (List.mem_of_getElem? (i := 1) rfl)) (fun _ h9 => h9) rfl dX6_leavesSingle_11 ?_
        refine lv_iload hx hb dX6_leavesSingle_14 (lv_at hl 0 rfl) ?_
        refine lv_aload_n hx hb dX6_leavesSingle_16 rfl (lv_at hl 1 rfl) ?_
        refine lv_iload hx hb dX6_leavesSingle_17 (lv_at hl 0 rfl) ?_
        refine zc_rV (As := [.int (nI i)]) (rest := [.int (nI i), .ref (ad 16)]) ⟨hx, hb, hml, hown, hts⟩ (kX6_isAlone l D cI cZ ad (setA K 16 (mWas K i)) i (by omega)) (cwV 1 hts gX6_leavesSingle_X6_isAlone rfl rfl rfl (by decide +kernel) ⟨(Nat.le_of_ble_eq_true rfl), (Nat.le_of_ble_eq_true rfl)⟩) hK hP (ci := 6) (q0 := 0) rfl rfl rfl rfl hl.1 rfl (Nat.le_of_ble_eq_true rfl) dX6_leavesSingle_19 ⟨Nat.zero_le _, Nat.zero_le _⟩ ?_
        refine zz_zast hx hb hK hP hD hS 16 1 rfl rfl i (zb_vnar _) (by omega) (by decide) dX6_leavesSingle_22 (fun H locs hP hD hS => ?_)
        have hP : va_P D vwCl (mwA ad cI cZ (setA K 16 (upd (mWas K i) i (zb (mAlone (setA K 16 (mWas K i)) i))))) _ := hP
        have hD : va_D A (mwA ad cI cZ (setA K 16 (upd (mWas K i) i (zb (mAlone (setA K 16 (mWas K i)) i))))) := hD
        refine lv_iinc (v := nI (i + 1)) (lv' := [(4, .int (nI (i + 1))), (0, .ref (ad 0)), (1, .int (nI p)), (2, .int (nI f9)), (3, .int (nI m9))]) hx hb dX6_leavesSingle_23 hl (k := 0) rfl ((show nI i + Int32.ofInt 1 = nI i + nI 1 from rfl).trans (nI_add _ _)) (by decide) rfl (fun ls hl => ?_)
        refine lv_goto (tgt := 3) hx hb dX6_leavesSingle_26 (by decide) ?_
        have eK_10 : (setA K 16 (mWas K (i + 1))) = (setA K 16 (upd (mWas K i) i (zb (mAlone (setA K 16 (mWas K i)) i)))) := (congrArg (setA K 16) (mWas_s K i).symm)
        exact ih_a (i + 1) (by omega) (by omega) (by omega)  _ _ (by rw [eK_10]; exact hP) (by rw [eK_10]; exact hD) hS ls (lv_sub hl [0, 1, 2, 3, 4] rfl)
  have eK_a : (setA K 16 (mWas K 0)) = K := (by rw [mWas_0, setA_same])
  exact lp_a (60 - 0 + 1) 0 (by omega) (by omega) (by omega)  _ _ (by rw [eK_a]; exact hP) (by rw [eK_a]; exact hD) hS ls (lv_sub hl [0, 1, 2, 3, 4] rfl)
end
section
set_option maxHeartbeats 4000000 in
set_option maxRecDepth 100000 in
theorem kX6_time (l : Launch) (D : va_G) (cI cZ : ClassId) (ad : Nat → Nat) (K : kS) (sz : Nat)   : Met l yX6_time wsX6_time ({ frames := 0, cells := 0, slots := 0, locals := 0 }) (va_Pc [.ref (ad 0)] (zPr D (zTy cI cZ) (mwA ad cI cZ K) sz)) (va_Qi (fun r (_ : Unit) => r = K 0 1) (fun _ => zPo D (zTy cI cZ) (va_A (mwA ad cI cZ K) sz) (mwA ad cI cZ (mGoes K (nI 0)))) (va_A (mwA ad cI cZ K) sz)) 0 0 (va_A (mwA ad cI cZ K) sz) := by
  refine Met.ofW (cc := cX6_time) (maxL := 1) (ret := (some .int)) (by decide) rfl ?_
  intro pP e s m args below meth c s₁ B hml hv
  obtain ⟨rfl, hsz, hP, hK, hD0⟩ := hv
  have hx := B.exec
  have hb := B.bytes
  have hr := B.returns
  have hts := atoms_spec (ws := wsX6_time) B.pre
  have hown : s.vm.findClass RX6 = some m.cls := findClass_of_methodNamed B.named
  have hlocks := B.notSynchronized
  subst hsz
  have hD := hD0.self (sz := s.heap.size)
  generalize hAe : va_A (mwA ad cI cZ K) s.heap.size = A at hD ⊢
  have hA : ∀ q : Nat, s.heap.size ≤ q → A q := fun q h => by rw [← hAe]; exact Or.inr h
  have hS : va_S A s.heap s.heap [] := va_S.rf
  have hinX6 : ∀ w ∈ u_ws RX6 TX6 21, w ∈ wsX6_time := by decide +kernel
  have hl := lv_entry ([.ref (ad 0)]) (n := 1) (Nat.le_of_ble_eq_true rfl)
  rw [lg_entry_eq]
  generalize (lg_sl ([.ref (ad 0)]) ++ List.replicate (1 - (lg_sl ([.ref (ad 0)])).length) Slot.unset).toArray = ls at hl ⊢
  have hl : lv_has ls 1 [(0, .ref (ad 0))] := hl
  refine lv_aload_n hx hb dX6_time_0 rfl (lv_at hl 0 rfl) ?_
  refine lv_iconst (v := nI 0) hx hb dX6_time_1 (by decide) ?_
  refine va_put (D := D) (ci := 6) (v := .int (nI 0)) (ty := .int) (C := RX6) (T := TX6) (N := 21) hx hb hts hinX6 tyX6 tyX6_ok nmX6 hown hK hP hD hS 0 rfl rfl 0 (by decide) (hts (.fieldLink RX6 63 "AuditoriumKeysModel" "thrown" "I") (List.mem_of_getElem? (i := 1) rfl)) (fun _ h9 => h9) rfl (by decide +kernel) rfl rfl (Nat.le_of_ble_eq_true rfl) dX6_time_2 (fun H locs hP hD hS => ?_)
  have hP : va_P D vwCl (mwA ad cI cZ (setA K 0 (upd (K 0) 0 (nI 0)))) _ := hP
  have hD : va_D A (mwA ad cI cZ (setA K 0 (upd (K 0) 0 (nI 0)))) := hD
  refine lv_aload_n hx hb dX6_time_5 rfl (lv_at hl 0 rfl) ?_
  refine va_get (D := D) (ci := 6) (v := .int ((upd (K 0) 0 (nI 0)) 1)) (C := RX6) (T := TX6) (N := 21) hx hb hts hinX6 hown hK hP 0 rfl rfl 1 (by decide) (hts (.fieldLink RX6 80 "AuditoriumKeysModel" "time" "I") (List.mem_of_getElem? (i := 2) rfl)) (fun _ h9 => h9) rfl dX6_time_6 ?_
  have eK9 : (mGoes K (nI 0)) = (setA K 0 (upd (K 0) 0 (nI 0))) := rfl
  have hP9 := hP
  have hD9 := hD
  rw [← eK9] at hP9 hD9
  exact W.iret (v := (upd (K 0) 0 (nI 0)) 1) hx hb hr (fun t ht hW => ⟨⟨(upd (K 0) 0 (nI 0)) 1, (), rfl, rfl, by rw [ht]; exact hP9, va_K.moved hW.alike hK, hD9⟩, hS.F ht⟩) hS.2.2 dX6_time_9
set_option maxHeartbeats 4000000 in
set_option maxRecDepth 100000 in
theorem kX6_takings (l : Launch) (D : va_G) (cI cZ : ClassId) (ad : Nat → Nat) (K : kS) (sz : Nat)   : Met l yX6_takings wsX6_takings ({ frames := 0, cells := 0, slots := 0, locals := 0 }) (va_Pc [.ref (ad 0)] (zPr D (zTy cI cZ) (mwA ad cI cZ K) sz)) (va_Qi (fun r (_ : Unit) => r = K 0 4) (fun _ => zPo D (zTy cI cZ) (va_A (mwA ad cI cZ K) sz) (mwA ad cI cZ (mGoes K (nI 0)))) (va_A (mwA ad cI cZ K) sz)) 0 0 (va_A (mwA ad cI cZ K) sz) := by
  refine Met.ofW (cc := cX6_takings) (maxL := 1) (ret := (some .int)) (by decide) rfl ?_
  intro pP e s m args below meth c s₁ B hml hv
  obtain ⟨rfl, hsz, hP, hK, hD0⟩ := hv
  have hx := B.exec
  have hb := B.bytes
  have hr := B.returns
  have hts := atoms_spec (ws := wsX6_takings) B.pre
  have hown : s.vm.findClass RX6 = some m.cls := findClass_of_methodNamed B.named
  have hlocks := B.notSynchronized
  subst hsz
  have hD := hD0.self (sz := s.heap.size)
  generalize hAe : va_A (mwA ad cI cZ K) s.heap.size = A at hD ⊢
  have hA : ∀ q : Nat, s.heap.size ≤ q → A q := fun q h => by rw [← hAe]; exact Or.inr h
  have hS : va_S A s.heap s.heap [] := va_S.rf
  have hinX6 : ∀ w ∈ u_ws RX6 TX6 21, w ∈ wsX6_takings := by decide +kernel
  have hl := lv_entry ([.ref (ad 0)]) (n := 1) (Nat.le_of_ble_eq_true rfl)
  rw [lg_entry_eq]
  generalize (lg_sl ([.ref (ad 0)]) ++ List.replicate (1 - (lg_sl ([.ref (ad 0)])).length) Slot.unset).toArray = ls at hl ⊢
  have hl : lv_has ls 1 [(0, .ref (ad 0))] := hl
  refine lv_aload_n hx hb dX6_takings_0 rfl (lv_at hl 0 rfl) ?_
  refine lv_iconst (v := nI 0) hx hb dX6_takings_1 (by decide) ?_
  refine va_put (D := D) (ci := 6) (v := .int (nI 0)) (ty := .int) (C := RX6) (T := TX6) (N := 21) hx hb hts hinX6 tyX6 tyX6_ok nmX6 hown hK hP hD hS 0 rfl rfl 0 (by decide) (hts (.fieldLink RX6 63 "AuditoriumKeysModel" "thrown" "I") (List.mem_of_getElem? (i := 1) rfl)) (fun _ h9 => h9) rfl (by decide +kernel) rfl rfl (Nat.le_of_ble_eq_true rfl) dX6_takings_2 (fun H locs hP hD hS => ?_)
  have hP : va_P D vwCl (mwA ad cI cZ (setA K 0 (upd (K 0) 0 (nI 0)))) _ := hP
  have hD : va_D A (mwA ad cI cZ (setA K 0 (upd (K 0) 0 (nI 0)))) := hD
  refine lv_aload_n hx hb dX6_takings_5 rfl (lv_at hl 0 rfl) ?_
  refine va_get (D := D) (ci := 6) (v := .int ((upd (K 0) 0 (nI 0)) 4)) (C := RX6) (T := TX6) (N := 21) hx hb hts hinX6 hown hK hP 0 rfl rfl 20 (by decide) (hts (.fieldLink RX6 133 "AuditoriumKeysModel" "takings" "I") (List.mem_of_getElem? (i := 2) rfl)) (fun _ h9 => h9) rfl dX6_takings_6 ?_
  have eK9 : (mGoes K (nI 0)) = (setA K 0 (upd (K 0) 0 (nI 0))) := rfl
  have hP9 := hP
  have hD9 := hD
  rw [← eK9] at hP9 hD9
  exact W.iret (v := (upd (K 0) 0 (nI 0)) 4) hx hb hr (fun t ht hW => ⟨⟨(upd (K 0) 0 (nI 0)) 4, (), rfl, rfl, by rw [ht]; exact hP9, va_K.moved hW.alike hK, hD9⟩, hS.F ht⟩) hS.2.2 dX6_takings_9
set_option maxHeartbeats 4000000 in
set_option maxRecDepth 100000 in
theorem kX6_served (l : Launch) (D : va_G) (cI cZ : ClassId) (ad : Nat → Nat) (K : kS) (sz : Nat)   : Met l yX6_served wsX6_served ({ frames := 3, cells := 0, slots := 0, locals := 69 }) (va_Pc [.ref (ad 0)] (zPr D (zTy cI cZ) (mwA ad cI cZ K) sz)) (va_Qi (fun r (_ : Unit) => r = mServed K) (fun _ => zPo D (zTy cI cZ) (va_A (mwA ad cI cZ K) sz) (mwA ad cI cZ (mGoes K (nI 0)))) (va_A (mwA ad cI cZ K) sz)) 0 0 (va_A (mwA ad cI cZ K) sz) := by
  refine Met.ofW (cc := cX6_served) (maxL := 1) (ret := (some .int)) (by decide) rfl ?_
  intro pP e s m args below meth c s₁ B hml hv
  obtain ⟨rfl, hsz, hP, hK, hD0⟩ := hv
  have hx := B.exec
  have hb := B.bytes
  have hr := B.returns
  have hts := atoms_spec (ws := wsX6_served) B.pre
  have hown : s.vm.findClass RX6 = some m.cls := findClass_of_methodNamed B.named
  have hlocks := B.notSynchronized
  subst hsz
  have hD := hD0.self (sz := s.heap.size)
  generalize hAe : va_A (mwA ad cI cZ K) s.heap.size = A at hD ⊢
  have hA : ∀ q : Nat, s.heap.size ≤ q → A q := fun q h => by rw [← hAe]; exact Or.inr h
  have hS : va_S A s.heap s.heap [] := va_S.rf
  have hinX6 : ∀ w ∈ u_ws RX6 TX6 21, w ∈ wsX6_served := by decide +kernel
  have hl := lv_entry ([.ref (ad 0)]) (n := 1) (Nat.le_of_ble_eq_true rfl)
  rw [lg_entry_eq]
  generalize (lg_sl ([.ref (ad 0)]) ++ List.replicate (1 - (lg_sl ([.ref (ad 0)])).length) Slot.unset).toArray = ls at hl ⊢
  have hl : lv_has ls 1 [(0, .ref (ad 0))] := hl
  refine lv_aload_n hx hb dX6_served_0 rfl (lv_at hl 0 rfl) ?_
  refine lv_iconst (v := nI 0) hx hb dX6_served_1 (by decide) ?_
  refine va_put (D := D) (ci := 6) (v := .int (nI 0)) (ty := .int) (C := RX6) (T := TX6) (N := 21) hx hb hts hinX6 tyX6 tyX6_ok nmX6 hown hK hP hD hS 0 rfl rfl 0 (by decide) (hts (.fieldLink RX6 63 "AuditoriumKeysModel" "thrown" "I") (List.mem_of_getElem? (i := 1) rfl)) (fun _ h9 => h9) rfl (by decide +kernel) rfl rfl (Nat.le_of_ble_eq_true rfl) dX6_served_2 (fun H locs hP hD hS => ?_)
  have hP : va_P D vwCl (mwA ad cI cZ (setA K 0 (upd (K 0) 0 (nI 0)))) _ := hP
  have hD : va_D A (mwA ad cI cZ (setA K 0 (upd (K 0) 0 (nI 0)))) := hD
  refine lv_aload_n hx hb dX6_served_5 rfl (lv_at hl 0 rfl) ?_
  refine zc_rV (As := []) (rest := []) ⟨hx, hb, hml, hown, hts⟩ (kX6_servedNow l D cI cZ ad (setA K 0 (upd (K 0) 0 (nI 0)))  ) (cwV 0 hts gX6_served_X6_servedNow rfl rfl rfl (by decide +kernel) ⟨(Nat.le_of_ble_eq_true rfl), (Nat.le_of_ble_eq_true rfl)⟩) hK hP (ci := 6) (q0 := 0) rfl rfl rfl rfl hl.1 rfl (Nat.le_of_ble_eq_true rfl) dX6_served_6 ⟨Nat.zero_le _, Nat.zero_le _⟩ ?_
  have eK9 : (mGoes K (nI 0)) = (setA K 0 (upd (K 0) 0 (nI 0))) := rfl
  have hP9 := hP
  have hD9 := hD
  rw [← eK9] at hP9 hD9
  exact W.iret (v := mServed (setA K 0 (upd (K 0) 0 (nI 0)))) hx hb hr (fun t ht hW => ⟨⟨mServed (setA K 0 (upd (K 0) 0 (nI 0))), (), rfl, rfl, by rw [ht]; exact hP9, va_K.moved hW.alike hK, hD9⟩, hS.F ht⟩) hS.2.2 dX6_served_9
set_option maxHeartbeats 4000000 in
set_option maxRecDepth 100000 in
theorem kX6_pass (l : Launch) (D : va_G) (cI cZ : ClassId) (ad : Nat → Nat) (K : kS) (sz : Nat) (x : Int32)  : Met l yX6_pass wsX6_pass ({ frames := 1, cells := 0, slots := 0, locals := 22 }) (va_Pc [.ref (ad 0), .int x] (zPr D (zTy cI cZ) (mwA ad cI cZ K) sz)) (va_Qi (fun r (_ : Unit) => r = mRes (mPassT K x) (nI (mPassN (mPassB K x) 8))) (fun _ => zPo D (zTy cI cZ) (va_A (mwA ad cI cZ K) sz) (mwA ad cI cZ (mPost (mPassT K x) K (mPassE K x)))) (va_A (mwA ad cI cZ K) sz)) 0 0 (va_A (mwA ad cI cZ K) sz) := by
  refine Met.ofW (cc := cX6_pass) (maxL := 5) (ret := (some .int)) (by decide) rfl ?_
  intro pP e s m args below meth c s₁ B hml hv
  obtain ⟨rfl, hsz, hP, hK, hD0⟩ := hv
  have hx := B.exec
  have hb := B.bytes
  have hr := B.returns
  have hts := atoms_spec (ws := wsX6_pass) B.pre
  have hown : s.vm.findClass RX6 = some m.cls := findClass_of_methodNamed B.named
  have hlocks := B.notSynchronized
  subst hsz
  have hD := hD0.self (sz := s.heap.size)
  generalize hAe : va_A (mwA ad cI cZ K) s.heap.size = A at hD ⊢
  have hA : ∀ q : Nat, s.heap.size ≤ q → A q := fun q h => by rw [← hAe]; exact Or.inr h
  have hS : va_S A s.heap s.heap [] := va_S.rf
  have hinX6 : ∀ w ∈ u_ws RX6 TX6 21, w ∈ wsX6_pass := by decide +kernel
  have hl := lv_entry ([.ref (ad 0), .int x]) (n := 5) (Nat.le_of_ble_eq_true rfl)
  rw [lg_entry_eq]
  generalize (lg_sl ([.ref (ad 0), .int x]) ++ List.replicate (5 - (lg_sl ([.ref (ad 0), .int x])).length) Slot.unset).toArray = ls at hl ⊢
  have hl : lv_has ls 5 [(0, .ref (ad 0)), (1, .int x)] := hl
  refine lv_iload_n hx hb dX6_pass_0 rfl (lv_at hl 1 rfl) ?_
  refine lv_iconst (v := nI 1) hx hb dX6_pass_1 (by decide) ?_
  refine lv_sipush (v := nI 500) hx hb dX6_pass_2 (by decide) ?_
  refine zc_rS (As := [.int x, .int (nI 1), .int (nI 500)]) (rest := []) ⟨hx, hb, hml, hown, hts⟩ (kX6_in l x (nI 1) (nI 500) ) (va_cwS 3 hts gX6_pass_X6_in rfl rfl rfl (by decide +kernel) ⟨(Nat.le_of_ble_eq_true rfl), (Nat.le_of_ble_eq_true rfl)⟩) rfl hl.1 rfl (Nat.le_of_ble_eq_true rfl) dX6_pass_5 ⟨Nat.zero_le _, Nat.zero_le _⟩ ?_
  refine lv_istore_n (lv' := [(2, .int (zb (mIn x (nI 1) (nI 500)))), (0, .ref (ad 0)), (1, .int x)]) hx hb dX6_pass_8 rfl hl (by decide) rfl (fun ls hl => ?_)
  refine lv_aload_n hx hb dX6_pass_9 rfl (lv_at hl 1 rfl) ?_
  refine lv_iload_n hx hb dX6_pass_10 rfl (lv_at hl 0 rfl) ?_
  refine lv_if_ne (tgt := 18) hx hb dX6_pass_11 (by decide) (fun c_1 => ?_) (fun c_1 => ?_)
  · skip
    have c_1 := zb_t c_1
    refine lv_aload_n hx hb dX6_pass_18 rfl (lv_at hl 1 rfl) ?_
    refine va_get (D := D) (ci := 6) (v := .int (K 0 1)) (C := RX6) (T := TX6) (N := 21) hx hb hts hinX6 hown hK hP 0 rfl rfl 1 (by decide) (hts (.fieldLink RX6 80 "AuditoriumKeysModel" "time" "I") (List.mem_of_getElem? (i := 1) rfl)) (fun _ h9 => h9) rfl dX6_pass_19 ?_
    refine lv_iload_n hx hb dX6_pass_22 rfl (lv_at hl 2 rfl) ?_
    refine lv_iadd hx hb dX6_pass_23 ?_
    refine lv_sipush (v := nI 10000) hx hb dX6_pass_24 (by decide) ?_
    refine lv_icmp_le (tgt := 34) hx hb dX6_pass_27 (by decide) (fun c_2 => ?_) (fun c_2 => ?_)
    · skip
      have c_2 : (K 0 1) + x ≤ nI 10000 := c_2
      refine lv_iconst (v := nI 0) hx hb dX6_pass_34 (by decide) ?_
      refine zc_wVi (As := [.int (nI 0)]) (rest := []) (wr := []) ⟨hx, hb, hml, hown, hts⟩ (kX6_goesWell l D cI cZ ad K _ (nI 0) ) (cwV 1 hts gX6_pass_X6_goesWell rfl rfl rfl (by decide +kernel) ⟨(Nat.le_of_ble_eq_true rfl), (Nat.le_of_ble_eq_true rfl)⟩) hK hP hD hS hA [0, 1, 2, 3, 4, 5, 6, 7, 8, 9, 10, 11, 12, 13, 14, 15, 16] [] rfl rfl rfl rfl rfl (by decide) (ci := 6) (q0 := 0) rfl rfl rfl rfl hl.1 rfl (Nat.le_of_ble_eq_true rfl) dX6_pass_35 ⟨Nat.zero_le _, Nat.zero_le _⟩ (fun H locs hP hD hS => ?_)
      have hP : va_P D vwCl (mwA ad cI cZ (mGoes K (nI 0))) _ := hP
      have hD : va_D A (mwA ad cI cZ (mGoes K (nI 0))) := hD
      refine zz_top (y := nI 1) (by decide) ?_
      refine lv_if_ne (tgt := 43) hx hb dX6_pass_38 (by decide) (fun c_3 => ?_) (fun c_3 => ?_)
      · skip
        refine lv_aload_n hx hb dX6_pass_43 rfl (lv_at hl 1 rfl) ?_
        refine lv_dup hx hb dX6_pass_44 rfl ?_
        refine va_get (D := D) (ci := 6) (v := .int ((mGoes K (nI 0)) 0 1)) (C := RX6) (T := TX6) (N := 21) hx hb hts hinX6 hown hK hP 0 rfl rfl 1 (by decide) (hts (.fieldLink RX6 80 "AuditoriumKeysModel" "time" "I") (List.mem_of_getElem? (i := 1) rfl)) (fun _ h9 => h9) rfl dX6_pass_45 ?_
        refine lv_iload_n hx hb dX6_pass_48 rfl (lv_at hl 2 rfl) ?_
        refine lv_iadd hx hb dX6_pass_49 ?_
        refine va_put (D := D) (ci := 6) (v := .int (((mGoes K (nI 0)) 0 1) + x)) (ty := .int) (C := RX6) (T := TX6) (N := 21) hx hb hts hinX6 tyX6 tyX6_ok nmX6 hown hK hP hD hS 0 rfl rfl 1 (by decide) (hts (.fieldLink RX6 80 "AuditoriumKeysModel" "time" "I") (List.mem_of_getElem? (i := 1) rfl)) (fun _ h9 => h9) rfl (by decide +kernel) rfl rfl (Nat.le_of_ble_eq_true rfl) dX6_pass_50 (fun H locs hP hD hS => ?_)
        have hP : va_P D vwCl (mwA ad cI cZ (setA (mGoes K (nI 0)) 0 (upd ((mGoes K (nI 0)) 0) 1 (((mGoes K (nI 0)) 0 1) + x)))) _ := hP
        have hD : va_D A (mwA ad cI cZ (setA (mGoes K (nI 0)) 0 (upd ((mGoes K (nI 0)) 0) 1 (((mGoes K (nI 0)) 0 1) + x)))) := hD
        refine lv_iconst (v := nI 0) hx hb dX6_pass_53 (by decide) ?_
        refine lv_istore_n (lv' := [(3, .int (nI 0)), (2, .int (zb (mIn x (nI 1) (nI 500)))), (0, .ref (ad 0)), (1, .int x)]) hx hb dX6_pass_54 rfl hl (by decide) rfl (fun ls hl => ?_)
        refine lv_iconst (v := nI 0) hx hb dX6_pass_55 (by decide) ?_
        refine lv_istore (lv' := [(4, .int (nI 0)), (3, .int (nI 0)), (2, .int (zb (mIn x (nI 1) (nI 500)))), (0, .ref (ad 0)), (1, .int x)]) hx hb dX6_pass_56 hl (by decide) rfl (fun ls hl => ?_)
        have lp_a : ∀ (n i : Nat), 0 ≤ i → i ≤ 8 → 8 - i < n → ∀ (H : Heap) (locs : List Loc), va_P D vwCl (mwA ad cI cZ (mPassS (mPassB K x) i)) H → va_D A (mwA ad cI cZ (mPassS (mPassB K x) i)) → va_S A s.heap H locs → ∀ ls : Array Slot, lv_has ls 5 [(4, .int (nI i)), (3, .int (nI (mPassN (mPassB K x) i))), (2, .int (zb (mIn x (nI 1) (nI 500)))), (0, .ref (ad 0)), (1, .int x)] → W pP l e ({ frames := 1, cells := 0, slots := 0, locals := 22 } : Room) s m ([.ref (ad 0), .int x] : List Value).toArray below meth c H locs 0 0 (MQ below (va_Qi (fun r (_ : Unit) => r = mRes (mPassT K x) (nI (mPassN (mPassB K x) 8))) (fun _ => zPo D (zTy cI cZ) A (mwA ad cI cZ (mPost (mPassT K x) K (mPassE K x)))) A) ([.ref (ad 0), .int x] : List Value).toArray s 0 0 A) (F0 m 58 ls []) := by
          intro n
          induction n with
          | zero => intro i _ _ h; exact absurd h (Nat.not_lt_zero _)
          | succ n ih_a =>
            intro i hlo_a hin_a hdn_a  H locs hP hD hS ls hl
            refine lv_iload hx hb dX6_pass_58 (lv_at hl 0 rfl) ?_
            refine lv_bipush (v := nI 8) hx hb dX6_pass_60 (by decide) ?_
            refine lv_icmp_ge (tgt := 105) hx hb dX6_pass_62 (by decide) (fun c_4 => ?_) (fun c_4 => ?_)
            · skip
              have c_4 := (nI_leI (a := 8) (b := i) (by omega) (by omega)).mp c_4
              have hi8 : i = 8 := by omega
              subst hi8
              refine lv_iload_n hx hb dX6_pass_105 rfl (lv_at hl 1 rfl) ?_
              have hT9 : mPassT K x = nI 0 := by simp [mPassT, c_1, c_2, c_3, hin_a, c_4]
              have eK9 : (mPost (mPassT K x) K (mPassE K x)) = (mPassS (mPassB K x) 8) := by rw [hT9, mPost_0] <;> rfl
              have hP9 := hP
              have hD9 := hD
              rw [← eK9] at hP9 hD9
              have eR9 : nI (mPassN (mPassB K x) 8) = mRes (mPassT K x) (nI (mPassN (mPassB K x) 8)) := by rw [hT9, mRes_0] <;> rfl
              exact W.iret (v := nI (mPassN (mPassB K x) 8)) hx hb hr (fun t ht hW => ⟨⟨nI (mPassN (mPassB K x) 8), (), rfl, eR9, by rw [ht]; exact hP9, va_K.moved hW.alike hK, hD9⟩, hS.F ht⟩) hS.2.2 dX6_pass_106
            · skip
              have c_4 : ¬ 8 ≤ i := fun h => c_4 ((nI_leI (a := 8) (b := i) (by omega) (by omega)).mpr h)
              refine lv_aload_n hx hb dX6_pass_65 rfl (lv_at hl 3 rfl) ?_
              refine va_get (D := D) (ci := 6) (v := .ref (ad 5)) (C := RX6) (T := TX6) (N := 21) hx hb hts hinX6 hown hK hP 0 rfl rfl 8 (by decide) (hts (.fieldLink RX6 26 "AuditoriumKeysModel" "firsts" "[I") (List.mem_of_getElem? (i := 2) rfl)) (fun _ h9 => h9) rfl dX6_pass_66 ?_
              refine lv_iload hx hb dX6_pass_69 (lv_at hl 0 rfl) ?_
              refine zz_iald hx hb hK hP 5 0 rfl rfl i (by omega) (by decide) dX6_pass_71 ?_
              refine lv_iconst (v := (-1)) hx hb dX6_pass_72 (by decide) ?_
              refine lv_icmp_eq (tgt := 99) hx hb dX6_pass_73 (by decide) (fun c_5 => ?_) (fun c_5 => ?_)
              · skip
                have c_5 : (mPassS (mPassB K x) i) 5 i = (-1) := c_5
                refine lv_iinc (v := nI (i + 1)) (lv' := [(4, .int (nI (i + 1))), (3, .int (nI (mPassN (mPassB K x) i))), (2, .int (zb (mIn x (nI 1) (nI 500)))), (0, .ref (ad 0)), (1, .int x)]) hx hb dX6_pass_99 hl (k := 0) rfl ((show nI i + Int32.ofInt 1 = nI i + nI 1 from rfl).trans (nI_add _ _)) (by decide) rfl (fun ls hl => ?_)
                refine lv_goto (tgt := 58) hx hb dX6_pass_102 (by decide) ?_
                have es_6 : nI (mPassN (mPassB K x) (i + 1)) = nI (mPassN (mPassB K x) i) := (by simp only [mPassN]; rw [if_pos c_5])
                have eK_7 : (mPassS (mPassB K x) (i + 1)) = (mPassS (mPassB K x) i) := (by simp only [mPassS]; rw [if_pos c_5])
                exact ih_a (i + 1) (by omega) (by omega) (by omega)  _ _ (by rw [eK_7]; exact hP) (by rw [eK_7]; exact hD) hS ls (by rw [es_6]; exact lv_sub hl [0, 1, 2, 3, 4] rfl)
              · skip
                have c_5 : ¬ (mPassS (mPassB K x) i) 5 i = (-1) := c_5
                refine lv_aload_n hx hb dX6_pass_76 rfl (lv_at hl 3 rfl) ?_
                refine va_get (D := D) (ci := 6) (v := .ref (ad 11)) (C := RX6) (T := TX6) (N := 21) hx hb hts hinX6 hown hK hP 0 rfl rfl 14 (by decide) (hts (.fieldLink RX6 44 "AuditoriumKeysModel" "lapsesAt" "[I") (List.mem_of_getElem? (i := 3) rfl)) (fun _ h9 => h9) rfl dX6_pass_77 ?_
                refine lv_iload hx hb dX6_pass_80 (lv_at hl 0 rfl) ?_
                refine zz_iald hx hb hK hP 11 0 rfl rfl i (by omega) (by decide) dX6_pass_82 ?_
                refine lv_aload_n hx hb dX6_pass_83 rfl (lv_at hl 3 rfl) ?_
                refine va_get (D := D) (ci := 6) (v := .int ((mPassS (mPassB K x) i) 0 1)) (C := RX6) (T := TX6) (N := 21) hx hb hts hinX6 hown hK hP 0 rfl rfl 1 (by decide) (hts (.fieldLink RX6 80 "AuditoriumKeysModel" "time" "I") (List.mem_of_getElem? (i := 1) rfl)) (fun _ h9 => h9) rfl dX6_pass_84 ?_
                refine lv_icmp_gt (tgt := 99) hx hb dX6_pass_87 (by decide) (fun c_8 => ?_) (fun c_8 => ?_)
                · skip
                  have c_8 : (mPassS (mPassB K x) i) 0 1 < (mPassS (mPassB K x) i) 11 i := c_8
                  refine lv_iinc (v := nI (i + 1)) (lv' := [(4, .int (nI (i + 1))), (3, .int (nI (mPassN (mPassB K x) i))), (2, .int (zb (mIn x (nI 1) (nI 500)))), (0, .ref (ad 0)), (1, .int x)]) hx hb dX6_pass_99 hl (k := 0) rfl ((show nI i + Int32.ofInt 1 = nI i + nI 1 from rfl).trans (nI_add _ _)) (by decide) rfl (fun ls hl => ?_)
                  refine lv_goto (tgt := 58) hx hb dX6_pass_102 (by decide) ?_
                  have es_9 : nI (mPassN (mPassB K x) (i + 1)) = nI (mPassN (mPassB K x) i) := (by simp only [mPassN]; rw [if_neg c_5, if_pos c_8])
                  have eK_10 : (mPassS (mPassB K x) (i + 1)) = (mPassS (mPassB K x) i) := (by simp only [mPassS]; rw [if_neg c_5, if_pos c_8])
                  exact ih_a (i + 1) (by omega) (by omega) (by omega)  _ _ (by rw [eK_10]; exact hP) (by rw [eK_10]; exact hD) hS ls (by rw [es_9]; exact lv_sub hl [0, 1, 2, 3, 4] rfl)
                · skip
                  have c_8 : ¬ (mPassS (mPassB K x) i) 0 1 < (mPassS (mPassB K x) i) 11 i := c_8
                  refine lv_aload_n hx hb dX6_pass_90 rfl (lv_at hl 3 rfl) ?_
                  refine lv_iload hx hb dX6_pass_91 (lv_at hl 0 rfl) ?_
                  refine zc_wVv (As := [.int (nI i)]) (rest := []) (wr := []) ⟨hx, hb, hml, hown, hts⟩ (kX6_dropHold l D cI cZ ad (mPassS (mPassB K x) i) _ i (by omega)) (cwV 1 hts gX6_pass_X6_dropHold rfl rfl rfl (by decide +kernel) ⟨(Nat.le_of_ble_eq_true rfl), (Nat.le_of_ble_eq_true rfl)⟩) hK hP hD hS hA [0, 1, 2, 3, 4, 5, 6, 7, 8, 9, 10, 11, 12, 13, 14, 15, 16] [] rfl rfl rfl rfl rfl (by decide) (ci := 6) (q0 := 0) rfl rfl rfl rfl hl.1 rfl (Nat.le_of_ble_eq_true rfl) dX6_pass_93 ⟨Nat.zero_le _, Nat.zero_le _⟩ (fun H locs hP hD hS => ?_)
                  have hP : va_P D vwCl (mwA ad cI cZ (mDrop (mPassS (mPassB K x) i) i)) _ := hP
                  have hD : va_D A (mwA ad cI cZ (mDrop (mPassS (mPassB K x) i) i)) := hD
                  refine lv_iinc (v := nI ((mPassN (mPassB K x) i) + 1)) (lv' := [(3, .int (nI ((mPassN (mPassB K x) i) + 1))), (4, .int (nI i)), (2, .int (zb (mIn x (nI 1) (nI 500)))), (0, .ref (ad 0)), (1, .int x)]) hx hb dX6_pass_96 hl (k := 1) rfl ((show nI (mPassN (mPassB K x) i) + Int32.ofInt 1 = nI (mPassN (mPassB K x) i) + nI 1 from rfl).trans (nI_add _ _)) (by decide) rfl (fun ls hl => ?_)
                  refine lv_iinc (v := nI (i + 1)) (lv' := [(4, .int (nI (i + 1))), (3, .int (nI ((mPassN (mPassB K x) i) + 1))), (2, .int (zb (mIn x (nI 1) (nI 500)))), (0, .ref (ad 0)), (1, .int x)]) hx hb dX6_pass_99 hl (k := 1) rfl ((show nI i + Int32.ofInt 1 = nI i + nI 1 from rfl).trans (nI_add _ _)) (by decide) rfl (fun ls hl => ?_)
                  refine lv_goto (tgt := 58) hx hb dX6_pass_102 (by decide) ?_
                  have es_11 : nI (mPassN (mPassB K x) (i + 1)) = nI ((mPassN (mPassB K x) i) + 1) := (by simp only [mPassN]; rw [if_neg c_5, if_neg c_8])
                  have eK_12 : (mPassS (mPassB K x) (i + 1)) = (mDrop (mPassS (mPassB K x) i) i) := (by simp only [mPassS]; rw [if_neg c_5, if_neg c_8])
                  exact ih_a (i + 1) (by omega) (by omega) (by omega)  _ _ (by rw [eK_12]; exact hP) (by rw [eK_12]; exact hD) hS ls (by rw [es_11]; exact lv_sub hl [0, 1, 2, 3, 4] rfl)
        have ei_a_3 : nI (mPassN (mPassB K x) 0) = nI 0 := rfl
        have eK_a : (mPassS (mPassB K x) 0) = (setA (mGoes K (nI 0)) 0 (upd ((mGoes K (nI 0)) 0) 1 (((mGoes K (nI 0)) 0 1) + x))) := rfl
        exact lp_a (8 - 0 + 1) 0 (by omega) (by omega) (by omega)  _ _ (by rw [eK_a]; exact hP) (by rw [eK_a]; exact hD) hS ls (by rw [ei_a_3]; exact lv_sub hl [0, 1, 2, 3, 4] rfl)
      · skip
        exact absurd c_3 (by decide)
    · skip
      have c_2 : ¬ (K 0 1) + x ≤ nI 10000 := c_2
      refine lv_iconst (v := nI 2) hx hb dX6_pass_30 (by decide) ?_
      refine lv_goto (tgt := 35) hx hb dX6_pass_31 (by decide) ?_
      refine zc_wVi (As := [.int (nI 2)]) (rest := []) (wr := []) ⟨hx, hb, hml, hown, hts⟩ (kX6_goesWell l D cI cZ ad K _ (nI 2) ) (cwV 1 hts gX6_pass_X6_goesWell rfl rfl rfl (by decide +kernel) ⟨(Nat.le_of_ble_eq_true rfl), (Nat.le_of_ble_eq_true rfl)⟩) hK hP hD hS hA [0, 1, 2, 3, 4, 5, 6, 7, 8, 9, 10, 11, 12, 13, 14, 15, 16] [] rfl rfl rfl rfl rfl (by decide) (ci := 6) (q0 := 0) rfl rfl rfl rfl hl.1 rfl (Nat.le_of_ble_eq_true rfl) dX6_pass_35 ⟨Nat.zero_le _, Nat.zero_le _⟩ (fun H locs hP hD hS => ?_)
      have hP : va_P D vwCl (mwA ad cI cZ (mGoes K (nI 2))) _ := hP
      have hD : va_D A (mwA ad cI cZ (mGoes K (nI 2))) := hD
      refine zz_top (y := nI 0) (by decide) ?_
      refine lv_if_ne (tgt := 43) hx hb dX6_pass_38 (by decide) (fun c_13 => ?_) (fun c_13 => ?_)
      · skip
        exact absurd (show nI 0 = 0 from rfl) c_13
      · skip
        refine lv_iconst (v := nI 0) hx hb dX6_pass_41 (by decide) ?_
        have hT9 : mPassT K x = nI 2 := by simp [mPassT, c_1, c_2, eq_true c_13]
        have eK9 : (mPost (mPassT K x) K (mPassE K x)) = (mGoes K (nI 2)) := by rw [hT9, mPost_2] <;> rfl
        have hP9 := hP
        have hD9 := hD
        rw [← eK9] at hP9 hD9
        have eR9 : nI 0 = mRes (mPassT K x) (nI (mPassN (mPassB K x) 8)) := by rw [hT9, mRes_2] <;> rfl
        exact W.iret (v := nI 0) hx hb hr (fun t ht hW => ⟨⟨nI 0, (), rfl, eR9, by rw [ht]; exact hP9, va_K.moved hW.alike hK, hD9⟩, hS.F ht⟩) hS.2.2 dX6_pass_42
  · skip
    have c_1 := zb_f c_1
    refine lv_iconst (v := nI 1) hx hb dX6_pass_14 (by decide) ?_
    refine lv_goto (tgt := 35) hx hb dX6_pass_15 (by decide) ?_
    refine zc_wVi (As := [.int (nI 1)]) (rest := []) (wr := []) ⟨hx, hb, hml, hown, hts⟩ (kX6_goesWell l D cI cZ ad K _ (nI 1) ) (cwV 1 hts gX6_pass_X6_goesWell rfl rfl rfl (by decide +kernel) ⟨(Nat.le_of_ble_eq_true rfl), (Nat.le_of_ble_eq_true rfl)⟩) hK hP hD hS hA [0, 1, 2, 3, 4, 5, 6, 7, 8, 9, 10, 11, 12, 13, 14, 15, 16] [] rfl rfl rfl rfl rfl (by decide) (ci := 6) (q0 := 0) rfl rfl rfl rfl hl.1 rfl (Nat.le_of_ble_eq_true rfl) dX6_pass_35 ⟨Nat.zero_le _, Nat.zero_le _⟩ (fun H locs hP hD hS => ?_)
    have hP : va_P D vwCl (mwA ad cI cZ (mGoes K (nI 1))) _ := hP
    have hD : va_D A (mwA ad cI cZ (mGoes K (nI 1))) := hD
    refine zz_top (y := nI 0) (by decide) ?_
    refine lv_if_ne (tgt := 43) hx hb dX6_pass_38 (by decide) (fun c_14 => ?_) (fun c_14 => ?_)
    · skip
      exact absurd (show nI 0 = 0 from rfl) c_14
    · skip
      refine lv_iconst (v := nI 0) hx hb dX6_pass_41 (by decide) ?_
      have hT9 : mPassT K x = nI 1 := by simp [mPassT, c_1, eq_true c_14]
      have eK9 : (mPost (mPassT K x) K (mPassE K x)) = (mGoes K (nI 1)) := by rw [hT9, mPost_1] <;> rfl
      have hP9 := hP
      have hD9 := hD
      rw [← eK9] at hP9 hD9
      have eR9 : nI 0 = mRes (mPassT K x) (nI (mPassN (mPassB K x) 8)) := by rw [hT9, mRes_1] <;> rfl
      exact W.iret (v := nI 0) hx hb hr (fun t ht hW => ⟨⟨nI 0, (), rfl, eR9, by rw [ht]; exact hP9, va_K.moved hW.alike hK, hD9⟩, hS.F ht⟩) hS.2.2 dX6_pass_42
set_option maxHeartbeats 4000000 in
set_option maxRecDepth 100000 in
theorem kX6_setOpening (l : Launch) (D : va_G) (cI cZ : ClassId) (ad : Nat → Nat) (K : kS) (sz : Nat) (x : Int32)  : Met l yX6_setOpening wsX6_setOpening ({ frames := 1, cells := 0, slots := 0, locals := 22 }) (va_Pc [.ref (ad 0), .int x] (zPr D (zTy cI cZ) (mwA ad cI cZ K) sz)) (va_Qi (fun r (_ : Unit) => r = mRes (mSetT x) (K 0 2)) (fun _ => zPo D (zTy cI cZ) (va_A (mwA ad cI cZ K) sz) (mwA ad cI cZ (mPost (mSetT x) K (mSetE K x)))) (va_A (mwA ad cI cZ K) sz)) 0 0 (va_A (mwA ad cI cZ K) sz) := by
  refine Met.ofW (cc := cX6_setOpening) (maxL := 3) (ret := (some .int)) (by decide) rfl ?_
  intro pP e s m args below meth c s₁ B hml hv
  obtain ⟨rfl, hsz, hP, hK, hD0⟩ := hv
  have hx := B.exec
  have hb := B.bytes
  have hr := B.returns
  have hts := atoms_spec (ws := wsX6_setOpening) B.pre
  have hown : s.vm.findClass RX6 = some m.cls := findClass_of_methodNamed B.named
  have hlocks := B.notSynchronized
  subst hsz
  have hD := hD0.self (sz := s.heap.size)
  generalize hAe : va_A (mwA ad cI cZ K) s.heap.size = A at hD ⊢
  have hA : ∀ q : Nat, s.heap.size ≤ q → A q := fun q h => by rw [← hAe]; exact Or.inr h
  have hS : va_S A s.heap s.heap [] := va_S.rf
  have hinX6 : ∀ w ∈ u_ws RX6 TX6 21, w ∈ wsX6_setOpening := by decide +kernel
  have hl := lv_entry ([.ref (ad 0), .int x]) (n := 3) (Nat.le_of_ble_eq_true rfl)
  rw [lg_entry_eq]
  generalize (lg_sl ([.ref (ad 0), .int x]) ++ List.replicate (3 - (lg_sl ([.ref (ad 0), .int x])).length) Slot.unset).toArray = ls at hl ⊢
  have hl : lv_has ls 3 [(0, .ref (ad 0)), (1, .int x)] := hl
  refine lv_aload_n hx hb dX6_setOpening_0 rfl (lv_at hl 0 rfl) ?_
  refine lv_iload_n hx hb dX6_setOpening_1 rfl (lv_at hl 1 rfl) ?_
  refine lv_iconst (v := nI 0) hx hb dX6_setOpening_2 (by decide) ?_
  refine lv_sipush (v := nI 10000) hx hb dX6_setOpening_3 (by decide) ?_
  refine zc_rS (As := [.int x, .int (nI 0), .int (nI 10000)]) (rest := [.ref (ad 0)]) ⟨hx, hb, hml, hown, hts⟩ (kX6_in l x (nI 0) (nI 10000) ) (va_cwS 3 hts gX6_setOpening_X6_in rfl rfl rfl (by decide +kernel) ⟨(Nat.le_of_ble_eq_true rfl), (Nat.le_of_ble_eq_true rfl)⟩) rfl hl.1 rfl (Nat.le_of_ble_eq_true rfl) dX6_setOpening_6 ⟨Nat.zero_le _, Nat.zero_le _⟩ ?_
  refine lv_if_eq (tgt := 16) hx hb dX6_setOpening_9 (by decide) (fun c_1 => ?_) (fun c_1 => ?_)
  · skip
    have c_1 := zb_f c_1
    refine lv_iconst (v := nI 1) hx hb dX6_setOpening_16 (by decide) ?_
    refine zc_wVi (As := [.int (nI 1)]) (rest := []) (wr := []) ⟨hx, hb, hml, hown, hts⟩ (kX6_goesWell l D cI cZ ad K _ (nI 1) ) (cwV 1 hts gX6_setOpening_X6_goesWell rfl rfl rfl (by decide +kernel) ⟨(Nat.le_of_ble_eq_true rfl), (Nat.le_of_ble_eq_true rfl)⟩) hK hP hD hS hA [0, 1, 2, 3, 4, 5, 6, 7, 8, 9, 10, 11, 12, 13, 14, 15, 16] [] rfl rfl rfl rfl rfl (by decide) (ci := 6) (q0 := 0) rfl rfl rfl rfl hl.1 rfl (Nat.le_of_ble_eq_true rfl) dX6_setOpening_17 ⟨Nat.zero_le _, Nat.zero_le _⟩ (fun H locs hP hD hS => ?_)
    have hP : va_P D vwCl (mwA ad cI cZ (mGoes K (nI 1))) _ := hP
    have hD : va_D A (mwA ad cI cZ (mGoes K (nI 1))) := hD
    refine zz_top (y := nI 0) (by decide) ?_
    refine lv_if_ne (tgt := 25) hx hb dX6_setOpening_20 (by decide) (fun c_2 => ?_) (fun c_2 => ?_)
    · skip
      exact absurd (show nI 0 = 0 from rfl) c_2
    · skip
      refine lv_iconst (v := nI 0) hx hb dX6_setOpening_23 (by decide) ?_
      have hT9 : mSetT x = nI 1 := by simp [mSetT, c_1, eq_true c_2]
      have eK9 : (mPost (mSetT x) K (mSetE K x)) = (mGoes K (nI 1)) := by rw [hT9, mPost_1] <;> rfl
      have hP9 := hP
      have hD9 := hD
      rw [← eK9] at hP9 hD9
      have eR9 : nI 0 = mRes (mSetT x) (K 0 2) := by rw [hT9, mRes_1] <;> rfl
      exact W.iret (v := nI 0) hx hb hr (fun t ht hW => ⟨⟨nI 0, (), rfl, eR9, by rw [ht]; exact hP9, va_K.moved hW.alike hK, hD9⟩, hS.F ht⟩) hS.2.2 dX6_setOpening_24
  · skip
    have c_1 := zb_t c_1
    refine lv_iconst (v := nI 0) hx hb dX6_setOpening_12 (by decide) ?_
    refine lv_goto (tgt := 17) hx hb dX6_setOpening_13 (by decide) ?_
    refine zc_wVi (As := [.int (nI 0)]) (rest := []) (wr := []) ⟨hx, hb, hml, hown, hts⟩ (kX6_goesWell l D cI cZ ad K _ (nI 0) ) (cwV 1 hts gX6_setOpening_X6_goesWell rfl rfl rfl (by decide +kernel) ⟨(Nat.le_of_ble_eq_true rfl), (Nat.le_of_ble_eq_true rfl)⟩) hK hP hD hS hA [0, 1, 2, 3, 4, 5, 6, 7, 8, 9, 10, 11, 12, 13, 14, 15, 16] [] rfl rfl rfl rfl rfl (by decide) (ci := 6) (q0 := 0) rfl rfl rfl rfl hl.1 rfl (Nat.le_of_ble_eq_true rfl) dX6_setOpening_17 ⟨Nat.zero_le _, Nat.zero_le _⟩ (fun H locs hP hD hS => ?_)
    have hP : va_P D vwCl (mwA ad cI cZ (mGoes K (nI 0))) _ := hP
    have hD : va_D A (mwA ad cI cZ (mGoes K (nI 0))) := hD
    refine zz_top (y := nI 1) (by decide) ?_
    refine lv_if_ne (tgt := 25) hx hb dX6_setOpening_20 (by decide) (fun c_3 => ?_) (fun c_3 => ?_)
    · skip
      refine lv_aload_n hx hb dX6_setOpening_25 rfl (lv_at hl 0 rfl) ?_
      refine va_get (D := D) (ci := 6) (v := .int ((mGoes K (nI 0)) 0 2)) (C := RX6) (T := TX6) (N := 21) hx hb hts hinX6 hown hK hP 0 rfl rfl 2 (by decide) (hts (.fieldLink RX6 7 "AuditoriumKeysModel" "opening" "I") (List.mem_of_getElem? (i := 1) rfl)) (fun _ h9 => h9) rfl dX6_setOpening_26 ?_
      refine lv_istore_n (lv' := [(2, .int ((mGoes K (nI 0)) 0 2)), (0, .ref (ad 0)), (1, .int x)]) hx hb dX6_setOpening_29 rfl hl (by decide) rfl (fun ls hl => ?_)
      refine lv_aload_n hx hb dX6_setOpening_30 rfl (lv_at hl 1 rfl) ?_
      refine lv_iload_n hx hb dX6_setOpening_31 rfl (lv_at hl 2 rfl) ?_
      refine va_put (D := D) (ci := 6) (v := .int x) (ty := .int) (C := RX6) (T := TX6) (N := 21) hx hb hts hinX6 tyX6 tyX6_ok nmX6 hown hK hP hD hS 0 rfl rfl 2 (by decide) (hts (.fieldLink RX6 7 "AuditoriumKeysModel" "opening" "I") (List.mem_of_getElem? (i := 1) rfl)) (fun _ h9 => h9) rfl (by decide +kernel) rfl rfl (Nat.le_of_ble_eq_true rfl) dX6_setOpening_32 (fun H locs hP hD hS => ?_)
      have hP : va_P D vwCl (mwA ad cI cZ (setA (mGoes K (nI 0)) 0 (upd ((mGoes K (nI 0)) 0) 2 x))) _ := hP
      have hD : va_D A (mwA ad cI cZ (setA (mGoes K (nI 0)) 0 (upd ((mGoes K (nI 0)) 0) 2 x))) := hD
      refine lv_iload_n hx hb dX6_setOpening_35 rfl (lv_at hl 0 rfl) ?_
      have hT9 : mSetT x = nI 0 := by simp [mSetT, c_1, c_3]
      have eK9 : (mPost (mSetT x) K (mSetE K x)) = (setA (mGoes K (nI 0)) 0 (upd ((mGoes K (nI 0)) 0) 2 x)) := by rw [hT9, mPost_0] <;> rfl
      have hP9 := hP
      have hD9 := hD
      rw [← eK9] at hP9 hD9
      have eR9 : (mGoes K (nI 0)) 0 2 = mRes (mSetT x) (K 0 2) := by rw [hT9, mRes_0] <;> rfl
      exact W.iret (v := (mGoes K (nI 0)) 0 2) hx hb hr (fun t ht hW => ⟨⟨(mGoes K (nI 0)) 0 2, (), rfl, eR9, by rw [ht]; exact hP9, va_K.moved hW.alike hK, hD9⟩, hS.F ht⟩) hS.2.2 dX6_setOpening_36
    · skip
      exact absurd c_3 (by decide)
set_option maxHeartbeats 4000000 in
set_option maxRecDepth 100000 in
theorem kX6_code (l : Launch) (D : va_G) (cI cZ : ClassId) (ad : Nat → Nat) (K : kS) (sz : Nat) (a9 : Int32) (b9 : Int32) (n9 : Nat) (hn9 : n9 ≤ 10) (hc9 : K 0 3 = nI n9) : Met l yX6_code wsX6_code ({ frames := 1, cells := 0, slots := 0, locals := 22 }) (va_Pc [.ref (ad 0), .int a9, .int b9] (zPr D (zTy cI cZ) (mwA ad cI cZ K) sz)) (va_Qi (fun r (_ : Unit) => r = mRes (mCodeT K a9 b9) (nI n9)) (fun _ => zPo D (zTy cI cZ) (va_A (mwA ad cI cZ K) sz) (mwA ad cI cZ (mPost (mCodeT K a9 b9) K (mCodeE K n9 a9 b9)))) (va_A (mwA ad cI cZ K) sz)) 0 0 (va_A (mwA ad cI cZ K) sz) := by
  refine Met.ofW (cc := cX6_code) (maxL := 4) (ret := (some .int)) (by decide) rfl ?_
  intro pP e s m args below meth c s₁ B hml hv
  obtain ⟨rfl, hsz, hP, hK, hD0⟩ := hv
  have hx := B.exec
  have hb := B.bytes
  have hr := B.returns
  have hts := atoms_spec (ws := wsX6_code) B.pre
  have hown : s.vm.findClass RX6 = some m.cls := findClass_of_methodNamed B.named
  have hlocks := B.notSynchronized
  subst hsz
  have hD := hD0.self (sz := s.heap.size)
  generalize hAe : va_A (mwA ad cI cZ K) s.heap.size = A at hD ⊢
  have hA : ∀ q : Nat, s.heap.size ≤ q → A q := fun q h => by rw [← hAe]; exact Or.inr h
  have hS : va_S A s.heap s.heap [] := va_S.rf
  have hinX6 : ∀ w ∈ u_ws RX6 TX6 21, w ∈ wsX6_code := by decide +kernel
  have hl := lv_entry ([.ref (ad 0), .int a9, .int b9]) (n := 4) (Nat.le_of_ble_eq_true rfl)
  rw [lg_entry_eq]
  generalize (lg_sl ([.ref (ad 0), .int a9, .int b9]) ++ List.replicate (4 - (lg_sl ([.ref (ad 0), .int a9, .int b9])).length) Slot.unset).toArray = ls at hl ⊢
  have hl : lv_has ls 4 [(0, .ref (ad 0)), (1, .int a9), (2, .int b9)] := hl
  have j25 : ∀ (H : Heap) (locs : List Loc), va_P D vwCl (mwA ad cI cZ K) H → va_D A (mwA ad cI cZ K) → va_S A s.heap H locs → ∀ ls : Array Slot, lv_has ls 4 [(0, .ref (ad 0)), (1, .int a9), (2, .int b9)] → W pP l e ({ frames := 1, cells := 0, slots := 0, locals := 22 } : Room) s m ([.ref (ad 0), .int a9, .int b9] : List Value).toArray below meth c H locs 0 0 (MQ below (va_Qi (fun r (_ : Unit) => r = mRes (mCodeT K a9 b9) (nI n9)) (fun _ => zPo D (zTy cI cZ) A (mwA ad cI cZ (mPost (mCodeT K a9 b9) K (mCodeE K n9 a9 b9)))) A) ([.ref (ad 0), .int a9, .int b9] : List Value).toArray s 0 0 A) (F0 m 25 ls [.int (zb (mIn a9 (nI 1) (nI 10) && mIn b9 (nI 1) (nI 20)))]) := by
    intro H locs hP hD hS ls hl
    refine lv_istore_n (lv' := [(3, .int (zb (mIn a9 (nI 1) (nI 10) && mIn b9 (nI 1) (nI 20)))), (0, .ref (ad 0)), (1, .int a9), (2, .int b9)]) hx hb dX6_code_25 rfl hl (by decide) rfl (fun ls hl => ?_)
    refine lv_aload_n hx hb dX6_code_26 rfl (lv_at hl 1 rfl) ?_
    refine lv_iload_n hx hb dX6_code_27 rfl (lv_at hl 0 rfl) ?_
    refine lv_if_ne (tgt := 35) hx hb dX6_code_28 (by decide) (fun c_1 => ?_) (fun c_1 => ?_)
    · skip
      have c_1 := zb_t c_1
      refine lv_aload_n hx hb dX6_code_35 rfl (lv_at hl 1 rfl) ?_
      refine va_get (D := D) (ci := 6) (v := .int (K 0 3)) (C := RX6) (T := TX6) (N := 21) hx hb hts hinX6 hown hK hP 0 rfl rfl 3 (by decide) (hts (.fieldLink RX6 70 "AuditoriumKeysModel" "codes" "I") (List.mem_of_getElem? (i := 1) rfl)) (fun _ h9 => h9) rfl dX6_code_36 ?_
      refine zz_top (y := nI n9) hc9 ?_
      refine lv_bipush (v := nI 10) hx hb dX6_code_39 (by decide) ?_
      refine lv_icmp_ne (tgt := 48) hx hb dX6_code_41 (by decide) (fun c_2 => ?_) (fun c_2 => ?_)
      · skip
        have c_2 : ¬ nI n9 = nI 10 := c_2
        have hn8 : n9 < 10 := by rcases Nat.lt_or_ge n9 10 with q | q; exact q; exact absurd (by rw [show n9 = 10 from by omega]) c_2
        refine lv_iconst (v := nI 0) hx hb dX6_code_48 (by decide) ?_
        refine zc_wVi (As := [.int (nI 0)]) (rest := []) (wr := []) ⟨hx, hb, hml, hown, hts⟩ (kX6_goesWell l D cI cZ ad K _ (nI 0) ) (cwV 1 hts gX6_code_X6_goesWell rfl rfl rfl (by decide +kernel) ⟨(Nat.le_of_ble_eq_true rfl), (Nat.le_of_ble_eq_true rfl)⟩) hK hP hD hS hA [0, 1, 2, 3, 4, 5, 6, 7, 8, 9, 10, 11, 12, 13, 14, 15, 16] [] rfl rfl rfl rfl rfl (by decide) (ci := 6) (q0 := 0) rfl rfl rfl rfl hl.1 rfl (Nat.le_of_ble_eq_true rfl) dX6_code_49 ⟨Nat.zero_le _, Nat.zero_le _⟩ (fun H locs hP hD hS => ?_)
        have hP : va_P D vwCl (mwA ad cI cZ (mGoes K (nI 0))) _ := hP
        have hD : va_D A (mwA ad cI cZ (mGoes K (nI 0))) := hD
        refine zz_top (y := nI 1) (by decide) ?_
        refine lv_if_ne (tgt := 57) hx hb dX6_code_52 (by decide) (fun c_3 => ?_) (fun c_3 => ?_)
        · skip
          refine lv_aload_n hx hb dX6_code_57 rfl (lv_at hl 1 rfl) ?_
          refine va_get (D := D) (ci := 6) (v := .ref (ad 1)) (C := RX6) (T := TX6) (N := 21) hx hb hts hinX6 hown hK hP 0 rfl rfl 4 (by decide) (hts (.fieldLink RX6 13 "AuditoriumKeysModel" "ofPerson" "[I") (List.mem_of_getElem? (i := 2) rfl)) (fun _ h9 => h9) rfl dX6_code_58 ?_
          refine lv_aload_n hx hb dX6_code_61 rfl (lv_at hl 1 rfl) ?_
          refine va_get (D := D) (ci := 6) (v := .int ((mGoes K (nI 0)) 0 3)) (C := RX6) (T := TX6) (N := 21) hx hb hts hinX6 hown hK hP 0 rfl rfl 3 (by decide) (hts (.fieldLink RX6 70 "AuditoriumKeysModel" "codes" "I") (List.mem_of_getElem? (i := 1) rfl)) (fun _ h9 => h9) rfl dX6_code_62 ?_
          refine zz_top (y := nI n9) hc9 ?_
          refine lv_iload_n hx hb dX6_code_65 rfl (lv_at hl 2 rfl) ?_
          refine zz_iast hx hb hK hP hD hS 1 0 rfl rfl n9 (by omega) (by decide) dX6_code_66 (fun H locs hP hD hS => ?_)
          have hP : va_P D vwCl (mwA ad cI cZ (setA (mGoes K (nI 0)) 1 (upd ((mGoes K (nI 0)) 1) n9 a9))) _ := hP
          have hD : va_D A (mwA ad cI cZ (setA (mGoes K (nI 0)) 1 (upd ((mGoes K (nI 0)) 1) n9 a9))) := hD
          refine lv_aload_n hx hb dX6_code_67 rfl (lv_at hl 1 rfl) ?_
          refine va_get (D := D) (ci := 6) (v := .ref (ad 2)) (C := RX6) (T := TX6) (N := 21) hx hb hts hinX6 hown hK hP 0 rfl rfl 5 (by decide) (hts (.fieldLink RX6 17 "AuditoriumKeysModel" "ofHousehold" "[I") (List.mem_of_getElem? (i := 3) rfl)) (fun _ h9 => h9) rfl dX6_code_68 ?_
          refine lv_aload_n hx hb dX6_code_71 rfl (lv_at hl 1 rfl) ?_
          refine va_get (D := D) (ci := 6) (v := .int ((mGoes K (nI 0)) 0 3)) (C := RX6) (T := TX6) (N := 21) hx hb hts hinX6 hown hK hP 0 rfl rfl 3 (by decide) (hts (.fieldLink RX6 70 "AuditoriumKeysModel" "codes" "I") (List.mem_of_getElem? (i := 1) rfl)) (fun _ h9 => h9) rfl dX6_code_72 ?_
          refine zz_top (y := nI n9) hc9 ?_
          refine lv_iload_n hx hb dX6_code_75 rfl (lv_at hl 3 rfl) ?_
          refine zz_iast hx hb hK hP hD hS 2 0 rfl rfl n9 (by omega) (by decide) dX6_code_76 (fun H locs hP hD hS => ?_)
          have hP : va_P D vwCl (mwA ad cI cZ (setA (setA (mGoes K (nI 0)) 1 (upd ((mGoes K (nI 0)) 1) n9 a9)) 2 (upd ((mGoes K (nI 0)) 2) n9 b9))) _ := hP
          have hD : va_D A (mwA ad cI cZ (setA (setA (mGoes K (nI 0)) 1 (upd ((mGoes K (nI 0)) 1) n9 a9)) 2 (upd ((mGoes K (nI 0)) 2) n9 b9))) := hD
          refine lv_aload_n hx hb dX6_code_77 rfl (lv_at hl 1 rfl) ?_
          refine lv_dup hx hb dX6_code_78 rfl ?_
          refine va_get (D := D) (ci := 6) (v := .int ((mGoes K (nI 0)) 0 3)) (C := RX6) (T := TX6) (N := 21) hx hb hts hinX6 hown hK hP 0 rfl rfl 3 (by decide) (hts (.fieldLink RX6 70 "AuditoriumKeysModel" "codes" "I") (List.mem_of_getElem? (i := 1) rfl)) (fun _ h9 => h9) rfl dX6_code_79 ?_
          refine zz_top (y := nI n9) hc9 ?_
          refine lv_iconst (v := nI 1) hx hb dX6_code_82 (by decide) ?_
          refine lv_iadd hx hb dX6_code_83 ?_
          refine zz_top (y := nI (n9 + 1)) ((nI_add n9 1).trans (congrArg nI (by omega))) ?_
          refine va_put (D := D) (ci := 6) (v := .int (nI (n9 + 1))) (ty := .int) (C := RX6) (T := TX6) (N := 21) hx hb hts hinX6 tyX6 tyX6_ok nmX6 hown hK hP hD hS 0 rfl rfl 3 (by decide) (hts (.fieldLink RX6 70 "AuditoriumKeysModel" "codes" "I") (List.mem_of_getElem? (i := 1) rfl)) (fun _ h9 => h9) rfl (by decide +kernel) rfl rfl (Nat.le_of_ble_eq_true rfl) dX6_code_84 (fun H locs hP hD hS => ?_)
          have hP : va_P D vwCl (mwA ad cI cZ (setA (setA (setA (mGoes K (nI 0)) 1 (upd ((mGoes K (nI 0)) 1) n9 a9)) 2 (upd ((mGoes K (nI 0)) 2) n9 b9)) 0 (upd ((mGoes K (nI 0)) 0) 3 (nI (n9 + 1))))) _ := hP
          have hD : va_D A (mwA ad cI cZ (setA (setA (setA (mGoes K (nI 0)) 1 (upd ((mGoes K (nI 0)) 1) n9 a9)) 2 (upd ((mGoes K (nI 0)) 2) n9 b9)) 0 (upd ((mGoes K (nI 0)) 0) 3 (nI (n9 + 1))))) := hD
          refine lv_aload_n hx hb dX6_code_87 rfl (lv_at hl 1 rfl) ?_
          refine va_get (D := D) (ci := 6) (v := .int ((upd ((mGoes K (nI 0)) 0) 3 (nI (n9 + 1))) 3)) (C := RX6) (T := TX6) (N := 21) hx hb hts hinX6 hown hK hP 0 rfl rfl 3 (by decide) (hts (.fieldLink RX6 70 "AuditoriumKeysModel" "codes" "I") (List.mem_of_getElem? (i := 1) rfl)) (fun _ h9 => h9) rfl dX6_code_88 ?_
          refine zz_top (y := nI (n9 + 1)) rfl ?_
          refine lv_iconst (v := nI 1) hx hb dX6_code_91 (by decide) ?_
          refine lv_isub hx hb dX6_code_92 ?_
          refine zz_top (y := nI n9) (nI_pred n9) ?_
          have hT9 : mCodeT K a9 b9 = nI 0 := by simp [mCodeT, hc9, c_1, c_2, hn8, c_3]
          have eK9 : (mPost (mCodeT K a9 b9) K (mCodeE K n9 a9 b9)) = (setA (setA (setA (mGoes K (nI 0)) 1 (upd ((mGoes K (nI 0)) 1) n9 a9)) 2 (upd ((mGoes K (nI 0)) 2) n9 b9)) 0 (upd ((mGoes K (nI 0)) 0) 3 (nI (n9 + 1)))) := by rw [hT9, mPost_0] <;> rfl
          have hP9 := hP
          have hD9 := hD
          rw [← eK9] at hP9 hD9
          have eR9 : nI n9 = mRes (mCodeT K a9 b9) (nI n9) := by rw [hT9, mRes_0] <;> rfl
          exact W.iret (v := nI n9) hx hb hr (fun t ht hW => ⟨⟨nI n9, (), rfl, eR9, by rw [ht]; exact hP9, va_K.moved hW.alike hK, hD9⟩, hS.F ht⟩) hS.2.2 dX6_code_93
        · skip
          exact absurd c_3 (by decide)
      · skip
        have c_2 : nI n9 = nI 10 := c_2
        refine lv_iconst (v := nI 2) hx hb dX6_code_44 (by decide) ?_
        refine lv_goto (tgt := 49) hx hb dX6_code_45 (by decide) ?_
        refine zc_wVi (As := [.int (nI 2)]) (rest := []) (wr := []) ⟨hx, hb, hml, hown, hts⟩ (kX6_goesWell l D cI cZ ad K _ (nI 2) ) (cwV 1 hts gX6_code_X6_goesWell rfl rfl rfl (by decide +kernel) ⟨(Nat.le_of_ble_eq_true rfl), (Nat.le_of_ble_eq_true rfl)⟩) hK hP hD hS hA [0, 1, 2, 3, 4, 5, 6, 7, 8, 9, 10, 11, 12, 13, 14, 15, 16] [] rfl rfl rfl rfl rfl (by decide) (ci := 6) (q0 := 0) rfl rfl rfl rfl hl.1 rfl (Nat.le_of_ble_eq_true rfl) dX6_code_49 ⟨Nat.zero_le _, Nat.zero_le _⟩ (fun H locs hP hD hS => ?_)
        have hP : va_P D vwCl (mwA ad cI cZ (mGoes K (nI 2))) _ := hP
        have hD : va_D A (mwA ad cI cZ (mGoes K (nI 2))) := hD
        refine zz_top (y := nI 0) (by decide) ?_
        refine lv_if_ne (tgt := 57) hx hb dX6_code_52 (by decide) (fun c_4 => ?_) (fun c_4 => ?_)
        · skip
          exact absurd (show nI 0 = 0 from rfl) c_4
        · skip
          refine lv_iconst (v := nI 0) hx hb dX6_code_55 (by decide) ?_
          have hT9 : mCodeT K a9 b9 = nI 2 := by simp [mCodeT, hc9, c_1, eq_true c_2, eq_true c_4]
          have eK9 : (mPost (mCodeT K a9 b9) K (mCodeE K n9 a9 b9)) = (mGoes K (nI 2)) := by rw [hT9, mPost_2] <;> rfl
          have hP9 := hP
          have hD9 := hD
          rw [← eK9] at hP9 hD9
          have eR9 : nI 0 = mRes (mCodeT K a9 b9) (nI n9) := by rw [hT9, mRes_2] <;> rfl
          exact W.iret (v := nI 0) hx hb hr (fun t ht hW => ⟨⟨nI 0, (), rfl, eR9, by rw [ht]; exact hP9, va_K.moved hW.alike hK, hD9⟩, hS.F ht⟩) hS.2.2 dX6_code_56
    · skip
      have c_1 := zb_f c_1
      refine lv_iconst (v := nI 1) hx hb dX6_code_31 (by decide) ?_
      refine lv_goto (tgt := 49) hx hb dX6_code_32 (by decide) ?_
      refine zc_wVi (As := [.int (nI 1)]) (rest := []) (wr := []) ⟨hx, hb, hml, hown, hts⟩ (kX6_goesWell l D cI cZ ad K _ (nI 1) ) (cwV 1 hts gX6_code_X6_goesWell rfl rfl rfl (by decide +kernel) ⟨(Nat.le_of_ble_eq_true rfl), (Nat.le_of_ble_eq_true rfl)⟩) hK hP hD hS hA [0, 1, 2, 3, 4, 5, 6, 7, 8, 9, 10, 11, 12, 13, 14, 15, 16] [] rfl rfl rfl rfl rfl (by decide) (ci := 6) (q0 := 0) rfl rfl rfl rfl hl.1 rfl (Nat.le_of_ble_eq_true rfl) dX6_code_49 ⟨Nat.zero_le _, Nat.zero_le _⟩ (fun H locs hP hD hS => ?_)
      have hP : va_P D vwCl (mwA ad cI cZ (mGoes K (nI 1))) _ := hP
      have hD : va_D A (mwA ad cI cZ (mGoes K (nI 1))) := hD
      refine zz_top (y := nI 0) (by decide) ?_
      refine lv_if_ne (tgt := 57) hx hb dX6_code_52 (by decide) (fun c_5 => ?_) (fun c_5 => ?_)
      · skip
        exact absurd (show nI 0 = 0 from rfl) c_5
      · skip
        refine lv_iconst (v := nI 0) hx hb dX6_code_55 (by decide) ?_
        have hT9 : mCodeT K a9 b9 = nI 1 := by simp [mCodeT, hc9, c_1, eq_true c_5]
        have eK9 : (mPost (mCodeT K a9 b9) K (mCodeE K n9 a9 b9)) = (mGoes K (nI 1)) := by rw [hT9, mPost_1] <;> rfl
        have hP9 := hP
        have hD9 := hD
        rw [← eK9] at hP9 hD9
        have eR9 : nI 0 = mRes (mCodeT K a9 b9) (nI n9) := by rw [hT9, mRes_1] <;> rfl
        exact W.iret (v := nI 0) hx hb hr (fun t ht hW => ⟨⟨nI 0, (), rfl, eR9, by rw [ht]; exact hP9, va_K.moved hW.alike hK, hD9⟩, hS.F ht⟩) hS.2.2 dX6_code_56
  refine lv_iload_n hx hb dX6_code_0 rfl (lv_at hl 1 rfl) ?_
  refine lv_iconst (v := nI 1) hx hb dX6_code_1 (by decide) ?_
  refine lv_bipush (v := nI 10) hx hb dX6_code_2 (by decide) ?_
  refine zc_rS (As := [.int a9, .int (nI 1), .int (nI 10)]) (rest := []) ⟨hx, hb, hml, hown, hts⟩ (kX6_in l a9 (nI 1) (nI 10) ) (va_cwS 3 hts gX6_code_X6_in rfl rfl rfl (by decide +kernel) ⟨(Nat.le_of_ble_eq_true rfl), (Nat.le_of_ble_eq_true rfl)⟩) rfl hl.1 rfl (Nat.le_of_ble_eq_true rfl) dX6_code_4 ⟨Nat.zero_le _, Nat.zero_le _⟩ ?_
  refine lv_if_eq (tgt := 24) hx hb dX6_code_7 (by decide) (fun c_6 => ?_) (fun c_6 => ?_)
  · skip
    have c_6 := zb_f c_6
    refine lv_iconst (v := nI 0) hx hb dX6_code_24 (by decide) ?_
    have ej_7 : zb (mIn a9 (nI 1) (nI 10) && mIn b9 (nI 1) (nI 20)) = nI 0 := (by simp [zb, c_6])
    have jx := j25
    rw [ej_7] at jx
    exact jx _ _ hP hD hS ls (lv_sub hl [0, 1, 2] rfl)
  · skip
    have c_6 := zb_t c_6
    refine lv_iload_n hx hb dX6_code_10 rfl (lv_at hl 2 rfl) ?_
    refine lv_iconst (v := nI 1) hx hb dX6_code_11 (by decide) ?_
    refine lv_bipush (v := nI 20) hx hb dX6_code_12 (by decide) ?_
    refine zc_rS (As := [.int b9, .int (nI 1), .int (nI 20)]) (rest := []) ⟨hx, hb, hml, hown, hts⟩ (kX6_in l b9 (nI 1) (nI 20) ) (va_cwS 3 hts gX6_code_X6_in rfl rfl rfl (by decide +kernel) ⟨(Nat.le_of_ble_eq_true rfl), (Nat.le_of_ble_eq_true rfl)⟩) rfl hl.1 rfl (Nat.le_of_ble_eq_true rfl) dX6_code_14 ⟨Nat.zero_le _, Nat.zero_le _⟩ ?_
    refine lv_if_eq (tgt := 24) hx hb dX6_code_17 (by decide) (fun c_8 => ?_) (fun c_8 => ?_)
    · skip
      have c_8 := zb_f c_8
      refine lv_iconst (v := nI 0) hx hb dX6_code_24 (by decide) ?_
      have ej_9 : zb (mIn a9 (nI 1) (nI 10) && mIn b9 (nI 1) (nI 20)) = nI 0 := (by simp [zb, c_6, c_8])
      have jx := j25
      rw [ej_9] at jx
      exact jx _ _ hP hD hS ls (lv_sub hl [0, 1, 2] rfl)
    · skip
      have c_8 := zb_t c_8
      refine lv_iconst (v := nI 1) hx hb dX6_code_20 (by decide) ?_
      refine lv_goto (tgt := 25) hx hb dX6_code_21 (by decide) ?_
      have ej_10 : zb (mIn a9 (nI 1) (nI 10) && mIn b9 (nI 1) (nI 20)) = nI 1 := (by simp [zb, c_6, c_8])
      have jx := j25
      rw [ej_10] at jx
      exact jx _ _ hP hD hS ls (lv_sub hl [0, 1, 2] rfl)
set_option maxHeartbeats 4000000 in
set_option maxRecDepth 100000 in
theorem kX6_used (l : Launch) (D : va_G) (cI cZ : ClassId) (ad : Nat → Nat) (K : kS) (sz : Nat) (c9 : Int32) (x : Int32) (n9 : Nat) (hn9 : n9 ≤ 10) (hc8 : K 0 3 = nI n9) : Met l yX6_used wsX6_used ({ frames := 2, cells := 0, slots := 0, locals := 43 }) (va_Pc [.ref (ad 0), .int c9, .int x] (zPr D (zTy cI cZ) (mwA ad cI cZ K) sz)) (va_Qi (fun r (_ : Unit) => r = mRes (mUsedT K c9 x) (mUsed K c9.toNatClampNeg x.toNatClampNeg)) (fun _ => zPo D (zTy cI cZ) (va_A (mwA ad cI cZ K) sz) (mwA ad cI cZ (mPost (mUsedT K c9 x) K (mGoes K (nI 0))))) (va_A (mwA ad cI cZ K) sz)) 0 0 (va_A (mwA ad cI cZ K) sz) := by
  refine Met.ofW (cc := cX6_used) (maxL := 3) (ret := (some .int)) (by decide) rfl ?_
  intro pP e s m args below meth c s₁ B hml hv
  obtain ⟨rfl, hsz, hP, hK, hD0⟩ := hv
  have hx := B.exec
  have hb := B.bytes
  have hr := B.returns
  have hts := atoms_spec (ws := wsX6_used) B.pre
  have hown : s.vm.findClass RX6 = some m.cls := findClass_of_methodNamed B.named
  have hlocks := B.notSynchronized
  subst hsz
  have hD := hD0.self (sz := s.heap.size)
  generalize hAe : va_A (mwA ad cI cZ K) s.heap.size = A at hD ⊢
  have hA : ∀ q : Nat, s.heap.size ≤ q → A q := fun q h => by rw [← hAe]; exact Or.inr h
  have hS : va_S A s.heap s.heap [] := va_S.rf
  have hl := lv_entry ([.ref (ad 0), .int c9, .int x]) (n := 3) (Nat.le_of_ble_eq_true rfl)
  rw [lg_entry_eq]
  generalize (lg_sl ([.ref (ad 0), .int c9, .int x]) ++ List.replicate (3 - (lg_sl ([.ref (ad 0), .int c9, .int x])).length) Slot.unset).toArray = ls at hl ⊢
  have hl : lv_has ls 3 [(0, .ref (ad 0)), (1, .int c9), (2, .int x)] := hl
  refine lv_aload_n hx hb dX6_used_0 rfl (lv_at hl 0 rfl) ?_
  refine lv_aload_n hx hb dX6_used_1 rfl (lv_at hl 0 rfl) ?_
  refine lv_iload_n hx hb dX6_used_2 rfl (lv_at hl 1 rfl) ?_
  refine zc_rV (As := [.int c9]) (rest := [.ref (ad 0)]) ⟨hx, hb, hml, hown, hts⟩ (kX6_isCode l D cI cZ ad K c9 ) (cwV 1 hts gX6_used_X6_isCode rfl rfl rfl (by decide +kernel) ⟨(Nat.le_of_ble_eq_true rfl), (Nat.le_of_ble_eq_true rfl)⟩) hK hP (ci := 6) (q0 := 0) rfl rfl rfl rfl hl.1 rfl (Nat.le_of_ble_eq_true rfl) dX6_used_3 ⟨Nat.zero_le _, Nat.zero_le _⟩ ?_
  refine lv_if_eq (tgt := 20) hx hb dX6_used_6 (by decide) (fun c_1 => ?_) (fun c_1 => ?_)
  · skip
    have c_1 := zb_f c_1
    refine lv_iconst (v := nI 1) hx hb dX6_used_20 (by decide) ?_
    refine zc_wVi (As := [.int (nI 1)]) (rest := []) (wr := []) ⟨hx, hb, hml, hown, hts⟩ (kX6_goesWell l D cI cZ ad K _ (nI 1) ) (cwV 1 hts gX6_used_X6_goesWell rfl rfl rfl (by decide +kernel) ⟨(Nat.le_of_ble_eq_true rfl), (Nat.le_of_ble_eq_true rfl)⟩) hK hP hD hS hA [0, 1, 2, 3, 4, 5, 6, 7, 8, 9, 10, 11, 12, 13, 14, 15, 16] [] rfl rfl rfl rfl rfl (by decide) (ci := 6) (q0 := 0) rfl rfl rfl rfl hl.1 rfl (Nat.le_of_ble_eq_true rfl) dX6_used_21 ⟨Nat.zero_le _, Nat.zero_le _⟩ (fun H locs hP hD hS => ?_)
    have hP : va_P D vwCl (mwA ad cI cZ (mGoes K (nI 1))) _ := hP
    have hD : va_D A (mwA ad cI cZ (mGoes K (nI 1))) := hD
    refine zz_top (y := nI 0) (by decide) ?_
    refine lv_if_eq (tgt := 36) hx hb dX6_used_24 (by decide) (fun c_2 => ?_) (fun c_2 => ?_)
    · skip
      refine lv_iconst (v := nI 0) hx hb dX6_used_36 (by decide) ?_
      have hT9 : mUsedT K c9 x = nI 1 := by simp [mUsedT, c_1, eq_true c_2]
      have eK9 : (mPost (mUsedT K c9 x) K (mGoes K (nI 0))) = (mGoes K (nI 1)) := by rw [hT9, mPost_1] <;> rfl
      have hP9 := hP
      have hD9 := hD
      rw [← eK9] at hP9 hD9
      have eR9 : nI 0 = mRes (mUsedT K c9 x) (mUsed K c9.toNatClampNeg x.toNatClampNeg) := by rw [hT9, mRes_1] <;> rfl
      exact W.iret (v := nI 0) hx hb hr (fun t ht hW => ⟨⟨nI 0, (), rfl, eR9, by rw [ht]; exact hP9, va_K.moved hW.alike hK, hD9⟩, hS.F ht⟩) hS.2.2 dX6_used_37
    · skip
      exact absurd (show nI 0 = 0 from rfl) c_2
  · skip
    have c_1 := zb_t c_1
    obtain ⟨q9, hq9, hq8, hq7⟩ := mIsC_of hc8 hn9 c_1
    refine lv_iload_n hx hb dX6_used_9 rfl (lv_at hl 2 rfl) ?_
    refine zc_rS (As := [.int x]) (rest := [.ref (ad 0)]) ⟨hx, hb, hml, hown, hts⟩ (kX6_isPerson l x ) (va_cwS 1 hts gX6_used_X6_isPerson rfl rfl rfl (by decide +kernel) ⟨(Nat.le_of_ble_eq_true rfl), (Nat.le_of_ble_eq_true rfl)⟩) rfl hl.1 rfl (Nat.le_of_ble_eq_true rfl) dX6_used_10 ⟨Nat.zero_le _, Nat.zero_le _⟩ ?_
    refine lv_if_eq (tgt := 20) hx hb dX6_used_13 (by decide) (fun c_3 => ?_) (fun c_3 => ?_)
    · skip
      have c_3 := zb_f c_3
      refine lv_iconst (v := nI 1) hx hb dX6_used_20 (by decide) ?_
      refine zc_wVi (As := [.int (nI 1)]) (rest := []) (wr := []) ⟨hx, hb, hml, hown, hts⟩ (kX6_goesWell l D cI cZ ad K _ (nI 1) ) (cwV 1 hts gX6_used_X6_goesWell rfl rfl rfl (by decide +kernel) ⟨(Nat.le_of_ble_eq_true rfl), (Nat.le_of_ble_eq_true rfl)⟩) hK hP hD hS hA [0, 1, 2, 3, 4, 5, 6, 7, 8, 9, 10, 11, 12, 13, 14, 15, 16] [] rfl rfl rfl rfl rfl (by decide) (ci := 6) (q0 := 0) rfl rfl rfl rfl hl.1 rfl (Nat.le_of_ble_eq_true rfl) dX6_used_21 ⟨Nat.zero_le _, Nat.zero_le _⟩ (fun H locs hP hD hS => ?_)
      have hP : va_P D vwCl (mwA ad cI cZ (mGoes K (nI 1))) _ := hP
      have hD : va_D A (mwA ad cI cZ (mGoes K (nI 1))) := hD
      refine zz_top (y := nI 0) (by decide) ?_
      refine lv_if_eq (tgt := 36) hx hb dX6_used_24 (by decide) (fun c_4 => ?_) (fun c_4 => ?_)
      · skip
        refine lv_iconst (v := nI 0) hx hb dX6_used_36 (by decide) ?_
        have hT9 : mUsedT K c9 x = nI 1 := by simp [mUsedT, c_1, hq7, c_3, eq_true c_4]
        have eK9 : (mPost (mUsedT K c9 x) K (mGoes K (nI 0))) = (mGoes K (nI 1)) := by rw [hT9, mPost_1] <;> rfl
        have hP9 := hP
        have hD9 := hD
        rw [← eK9] at hP9 hD9
        have eR9 : nI 0 = mRes (mUsedT K c9 x) (mUsed K c9.toNatClampNeg x.toNatClampNeg) := by rw [hT9, mRes_1] <;> rfl
        exact W.iret (v := nI 0) hx hb hr (fun t ht hW => ⟨⟨nI 0, (), rfl, eR9, by rw [ht]; exact hP9, va_K.moved hW.alike hK, hD9⟩, hS.F ht⟩) hS.2.2 dX6_used_37
      · skip
        exact absurd (show nI 0 = 0 from rfl) c_4
    · skip
      have c_3 := zb_t c_3
      obtain ⟨p9, hp9, hp8, hp7⟩ := mIsP_of c_3
      refine lv_iconst (v := nI 0) hx hb dX6_used_16 (by decide) ?_
      refine lv_goto (tgt := 21) hx hb dX6_used_17 (by decide) ?_
      refine zc_wVi (As := [.int (nI 0)]) (rest := []) (wr := []) ⟨hx, hb, hml, hown, hts⟩ (kX6_goesWell l D cI cZ ad K _ (nI 0) ) (cwV 1 hts gX6_used_X6_goesWell rfl rfl rfl (by decide +kernel) ⟨(Nat.le_of_ble_eq_true rfl), (Nat.le_of_ble_eq_true rfl)⟩) hK hP hD hS hA [0, 1, 2, 3, 4, 5, 6, 7, 8, 9, 10, 11, 12, 13, 14, 15, 16] [] rfl rfl rfl rfl rfl (by decide) (ci := 6) (q0 := 0) rfl rfl rfl rfl hl.1 rfl (Nat.le_of_ble_eq_true rfl) dX6_used_21 ⟨Nat.zero_le _, Nat.zero_le _⟩ (fun H locs hP hD hS => ?_)
      have hP : va_P D vwCl (mwA ad cI cZ (mGoes K (nI 0))) _ := hP
      have hD : va_D A (mwA ad cI cZ (mGoes K (nI 0))) := hD
      refine zz_top (y := nI 1) (by decide) ?_
      refine lv_if_eq (tgt := 36) hx hb dX6_used_24 (by decide) (fun c_5 => ?_) (fun c_5 => ?_)
      · skip
        exact absurd c_5 (by decide)
      · skip
        refine lv_aload_n hx hb dX6_used_27 rfl (lv_at hl 0 rfl) ?_
        refine lv_iload_n hx hb dX6_used_28 rfl (lv_at hl 1 rfl) ?_
        refine zz_top (y := nI q9) hq8 ?_
        refine lv_iload_n hx hb dX6_used_29 rfl (lv_at hl 2 rfl) ?_
        refine zz_top (y := nI p9) hp8 ?_
        refine zc_rV (As := [.int (nI q9), .int (nI p9)]) (rest := []) ⟨hx, hb, hml, hown, hts⟩ (kX6_usedBy l D cI cZ ad (mGoes K (nI 0)) q9 p9 (by omega) (by omega)) (cwV 2 hts gX6_used_X6_usedBy rfl rfl rfl (by decide +kernel) ⟨(Nat.le_of_ble_eq_true rfl), (Nat.le_of_ble_eq_true rfl)⟩) hK hP (ci := 6) (q0 := 0) rfl rfl rfl rfl hl.1 rfl (Nat.le_of_ble_eq_true rfl) dX6_used_30 ⟨Nat.zero_le _, Nat.zero_le _⟩ ?_
        refine lv_goto (tgt := 37) hx hb dX6_used_33 (by decide) ?_
        have hT9 : mUsedT K c9 x = nI 0 := by simp [mUsedT, c_1, hq7, c_3, hp7, c_5]
        have eK9 : (mPost (mUsedT K c9 x) K (mGoes K (nI 0))) = (mGoes K (nI 0)) := by rw [hT9, mPost_0] <;> rfl
        have hP9 := hP
        have hD9 := hD
        rw [← eK9] at hP9 hD9
        have eR9 : mUsed (mGoes K (nI 0)) q9 p9 = mRes (mUsedT K c9 x) (mUsed K c9.toNatClampNeg x.toNatClampNeg) := by rw [hT9, mRes_0, hq7, hp7] <;> rfl
        exact W.iret (v := mUsed (mGoes K (nI 0)) q9 p9) hx hb hr (fun t ht hW => ⟨⟨mUsed (mGoes K (nI 0)) q9 p9, (), rfl, eR9, by rw [ht]; exact hP9, va_K.moved hW.alike hK, hD9⟩, hS.F ht⟩) hS.2.2 dX6_used_37
set_option maxHeartbeats 4000000 in
set_option maxRecDepth 100000 in
theorem kX6_join (l : Launch) (D : va_G) (cI cZ : ClassId) (ad : Nat → Nat) (K : kS) (sz : Nat) (x : Int32)  : Met l yX6_join wsX6_join ({ frames := 2, cells := 0, slots := 0, locals := 42 }) (va_Pc [.ref (ad 0), .int x] (zPr D (zTy cI cZ) (mwA ad cI cZ K) sz)) (va_Qi (fun r (_ : Unit) => r = mRes (mJoinT K x) (nI (mCount (mJoinE K x.toNatClampNeg)))) (fun _ => zPo D (zTy cI cZ) (va_A (mwA ad cI cZ K) sz) (mwA ad cI cZ (mPost (mJoinT K x) K (mJoinE K x.toNatClampNeg)))) (va_A (mwA ad cI cZ K) sz)) 0 0 (va_A (mwA ad cI cZ K) sz) := by
  refine Met.ofW (cc := cX6_join) (maxL := 3) (ret := (some .int)) (by decide) rfl ?_
  intro pP e s m args below meth c s₁ B hml hv
  obtain ⟨rfl, hsz, hP, hK, hD0⟩ := hv
  have hx := B.exec
  have hb := B.bytes
  have hr := B.returns
  have hts := atoms_spec (ws := wsX6_join) B.pre
  have hown : s.vm.findClass RX6 = some m.cls := findClass_of_methodNamed B.named
  have hlocks := B.notSynchronized
  subst hsz
  have hD := hD0.self (sz := s.heap.size)
  generalize hAe : va_A (mwA ad cI cZ K) s.heap.size = A at hD ⊢
  have hA : ∀ q : Nat, s.heap.size ≤ q → A q := fun q h => by rw [← hAe]; exact Or.inr h
  have hS : va_S A s.heap s.heap [] := va_S.rf
  have hinX6 : ∀ w ∈ u_ws RX6 TX6 21, w ∈ wsX6_join := by decide +kernel
  have hl := lv_entry ([.ref (ad 0), .int x]) (n := 3) (Nat.le_of_ble_eq_true rfl)
  rw [lg_entry_eq]
  generalize (lg_sl ([.ref (ad 0), .int x]) ++ List.replicate (3 - (lg_sl ([.ref (ad 0), .int x])).length) Slot.unset).toArray = ls at hl ⊢
  have hl : lv_has ls 3 [(0, .ref (ad 0)), (1, .int x)] := hl
  refine lv_iload_n hx hb dX6_join_0 rfl (lv_at hl 1 rfl) ?_
  refine zc_rS (As := [.int x]) (rest := []) ⟨hx, hb, hml, hown, hts⟩ (kX6_isPerson l x ) (va_cwS 1 hts gX6_join_X6_isPerson rfl rfl rfl (by decide +kernel) ⟨(Nat.le_of_ble_eq_true rfl), (Nat.le_of_ble_eq_true rfl)⟩) rfl hl.1 rfl (Nat.le_of_ble_eq_true rfl) dX6_join_1 ⟨Nat.zero_le _, Nat.zero_le _⟩ ?_
  refine lv_istore_n (lv' := [(2, .int (zb (mIsP x))), (0, .ref (ad 0)), (1, .int x)]) hx hb dX6_join_4 rfl hl (by decide) rfl (fun ls hl => ?_)
  refine lv_aload_n hx hb dX6_join_5 rfl (lv_at hl 1 rfl) ?_
  refine lv_iload_n hx hb dX6_join_6 rfl (lv_at hl 0 rfl) ?_
  refine lv_if_ne (tgt := 14) hx hb dX6_join_7 (by decide) (fun c_1 => ?_) (fun c_1 => ?_)
  · skip
    have c_1 := zb_t c_1
    obtain ⟨p9, hp9, hp8, hp7⟩ := mIsP_of c_1
    refine lv_aload_n hx hb dX6_join_14 rfl (lv_at hl 1 rfl) ?_
    refine va_get (D := D) (ci := 6) (v := .ref (ad 4)) (C := RX6) (T := TX6) (N := 21) hx hb hts hinX6 hown hK hP 0 rfl rfl 7 (by decide) (hts (.fieldLink RX6 23 "AuditoriumKeysModel" "cameAt" "[I") (List.mem_of_getElem? (i := 1) rfl)) (fun _ h9 => h9) rfl dX6_join_15 ?_
    refine lv_iload_n hx hb dX6_join_18 rfl (lv_at hl 2 rfl) ?_
    refine zz_top (y := nI p9) hp8 ?_
    refine zz_iald hx hb hK hP 4 0 rfl rfl p9 (by omega) (by decide) dX6_join_19 ?_
    refine lv_iconst (v := (-1)) hx hb dX6_join_20 (by decide) ?_
    refine lv_icmp_ne (tgt := 34) hx hb dX6_join_21 (by decide) (fun c_2 => ?_) (fun c_2 => ?_)
    · skip
      have c_2 : ¬ K 4 p9 = (-1) := c_2
      refine lv_iconst (v := nI 2) hx hb dX6_join_34 (by decide) ?_
      refine lv_goto (tgt := 39) hx hb dX6_join_35 (by decide) ?_
      refine zc_wVi (As := [.int (nI 2)]) (rest := []) (wr := []) ⟨hx, hb, hml, hown, hts⟩ (kX6_goesWell l D cI cZ ad K _ (nI 2) ) (cwV 1 hts gX6_join_X6_goesWell rfl rfl rfl (by decide +kernel) ⟨(Nat.le_of_ble_eq_true rfl), (Nat.le_of_ble_eq_true rfl)⟩) hK hP hD hS hA [0, 1, 2, 3, 4, 5, 6, 7, 8, 9, 10, 11, 12, 13, 14, 15, 16] [] rfl rfl rfl rfl rfl (by decide) (ci := 6) (q0 := 0) rfl rfl rfl rfl hl.1 rfl (Nat.le_of_ble_eq_true rfl) dX6_join_39 ⟨Nat.zero_le _, Nat.zero_le _⟩ (fun H locs hP hD hS => ?_)
      have hP : va_P D vwCl (mwA ad cI cZ (mGoes K (nI 2))) _ := hP
      have hD : va_D A (mwA ad cI cZ (mGoes K (nI 2))) := hD
      refine zz_top (y := nI 0) (by decide) ?_
      refine lv_if_ne (tgt := 47) hx hb dX6_join_42 (by decide) (fun c_3 => ?_) (fun c_3 => ?_)
      · skip
        exact absurd (show nI 0 = 0 from rfl) c_3
      · skip
        refine lv_iconst (v := nI 0) hx hb dX6_join_45 (by decide) ?_
        have hT9 : mJoinT K x = nI 2 := by simp [mJoinT, c_1, hp7, c_2, eq_true c_3]
        have eK9 : (mPost (mJoinT K x) K (mJoinE K x.toNatClampNeg)) = (mGoes K (nI 2)) := by rw [hT9, mPost_2] <;> rfl
        have hP9 := hP
        have hD9 := hD
        rw [← eK9] at hP9 hD9
        have eR9 : nI 0 = mRes (mJoinT K x) (nI (mCount (mJoinE K x.toNatClampNeg))) := by rw [hT9, mRes_2] <;> rfl
        exact W.iret (v := nI 0) hx hb hr (fun t ht hW => ⟨⟨nI 0, (), rfl, eR9, by rw [ht]; exact hP9, va_K.moved hW.alike hK, hD9⟩, hS.F ht⟩) hS.2.2 dX6_join_46
    · skip
      have c_2 : K 4 p9 = (-1) := c_2
      refine lv_aload_n hx hb dX6_join_24 rfl (lv_at hl 1 rfl) ?_
      refine va_get (D := D) (ci := 6) (v := .ref (ad 5)) (C := RX6) (T := TX6) (N := 21) hx hb hts hinX6 hown hK hP 0 rfl rfl 8 (by decide) (hts (.fieldLink RX6 26 "AuditoriumKeysModel" "firsts" "[I") (List.mem_of_getElem? (i := 2) rfl)) (fun _ h9 => h9) rfl dX6_join_25 ?_
      refine lv_iload_n hx hb dX6_join_28 rfl (lv_at hl 2 rfl) ?_
      refine zz_top (y := nI p9) hp8 ?_
      refine zz_iald hx hb hK hP 5 0 rfl rfl p9 (by omega) (by decide) dX6_join_29 ?_
      refine lv_iconst (v := (-1)) hx hb dX6_join_30 (by decide) ?_
      refine lv_icmp_eq (tgt := 38) hx hb dX6_join_31 (by decide) (fun c_4 => ?_) (fun c_4 => ?_)
      · skip
        have c_4 : K 5 p9 = (-1) := c_4
        refine lv_iconst (v := nI 0) hx hb dX6_join_38 (by decide) ?_
        refine zc_wVi (As := [.int (nI 0)]) (rest := []) (wr := []) ⟨hx, hb, hml, hown, hts⟩ (kX6_goesWell l D cI cZ ad K _ (nI 0) ) (cwV 1 hts gX6_join_X6_goesWell rfl rfl rfl (by decide +kernel) ⟨(Nat.le_of_ble_eq_true rfl), (Nat.le_of_ble_eq_true rfl)⟩) hK hP hD hS hA [0, 1, 2, 3, 4, 5, 6, 7, 8, 9, 10, 11, 12, 13, 14, 15, 16] [] rfl rfl rfl rfl rfl (by decide) (ci := 6) (q0 := 0) rfl rfl rfl rfl hl.1 rfl (Nat.le_of_ble_eq_true rfl) dX6_join_39 ⟨Nat.zero_le _, Nat.zero_le _⟩ (fun H locs hP hD hS => ?_)
        have hP : va_P D vwCl (mwA ad cI cZ (mGoes K (nI 0))) _ := hP
        have hD : va_D A (mwA ad cI cZ (mGoes K (nI 0))) := hD
        refine zz_top (y := nI 1) (by decide) ?_
        refine lv_if_ne (tgt := 47) hx hb dX6_join_42 (by decide) (fun c_5 => ?_) (fun c_5 => ?_)
        · skip
          refine lv_aload_n hx hb dX6_join_47 rfl (lv_at hl 1 rfl) ?_
          refine va_get (D := D) (ci := 6) (v := .ref (ad 4)) (C := RX6) (T := TX6) (N := 21) hx hb hts hinX6 hown hK hP 0 rfl rfl 7 (by decide) (hts (.fieldLink RX6 23 "AuditoriumKeysModel" "cameAt" "[I") (List.mem_of_getElem? (i := 1) rfl)) (fun _ h9 => h9) rfl dX6_join_48 ?_
          refine lv_iload_n hx hb dX6_join_51 rfl (lv_at hl 2 rfl) ?_
          refine zz_top (y := nI p9) hp8 ?_
          refine lv_aload_n hx hb dX6_join_52 rfl (lv_at hl 1 rfl) ?_
          refine va_get (D := D) (ci := 6) (v := .int ((mGoes K (nI 0)) 0 1)) (C := RX6) (T := TX6) (N := 21) hx hb hts hinX6 hown hK hP 0 rfl rfl 1 (by decide) (hts (.fieldLink RX6 80 "AuditoriumKeysModel" "time" "I") (List.mem_of_getElem? (i := 3) rfl)) (fun _ h9 => h9) rfl dX6_join_53 ?_
          refine zz_iast hx hb hK hP hD hS 4 0 rfl rfl p9 (by omega) (by decide) dX6_join_56 (fun H locs hP hD hS => ?_)
          have hP : va_P D vwCl (mwA ad cI cZ (setA (mGoes K (nI 0)) 4 (upd ((mGoes K (nI 0)) 4) p9 ((mGoes K (nI 0)) 0 1)))) _ := hP
          have hD : va_D A (mwA ad cI cZ (setA (mGoes K (nI 0)) 4 (upd ((mGoes K (nI 0)) 4) p9 ((mGoes K (nI 0)) 0 1)))) := hD
          refine lv_aload_n hx hb dX6_join_57 rfl (lv_at hl 1 rfl) ?_
          refine zc_rV (As := []) (rest := []) ⟨hx, hb, hml, hown, hts⟩ (kX6_countQueue l D cI cZ ad (setA (mGoes K (nI 0)) 4 (upd ((mGoes K (nI 0)) 4) p9 ((mGoes K (nI 0)) 0 1)))  ) (cwV 0 hts gX6_join_X6_countQueue rfl rfl rfl (by decide +kernel) ⟨(Nat.le_of_ble_eq_true rfl), (Nat.le_of_ble_eq_true rfl)⟩) hK hP (ci := 6) (q0 := 0) rfl rfl rfl rfl hl.1 rfl (Nat.le_of_ble_eq_true rfl) dX6_join_58 ⟨Nat.zero_le _, Nat.zero_le _⟩ ?_
          have hT9 : mJoinT K x = nI 0 := by simp [mJoinT, c_1, hp7, eq_true c_2, eq_true c_4, c_5]
          have eK9 : (mPost (mJoinT K x) K (mJoinE K x.toNatClampNeg)) = (setA (mGoes K (nI 0)) 4 (upd ((mGoes K (nI 0)) 4) p9 ((mGoes K (nI 0)) 0 1))) := by rw [hT9, mPost_0, hp7] <;> rfl
          have hP9 := hP
          have hD9 := hD
          rw [← eK9] at hP9 hD9
          have eR9 : nI (mCount (setA (mGoes K (nI 0)) 4 (upd ((mGoes K (nI 0)) 4) p9 ((mGoes K (nI 0)) 0 1)))) = mRes (mJoinT K x) (nI (mCount (mJoinE K x.toNatClampNeg))) := by rw [hT9, mRes_0, hp7] <;> rfl
          exact W.iret (v := nI (mCount (setA (mGoes K (nI 0)) 4 (upd ((mGoes K (nI 0)) 4) p9 ((mGoes K (nI 0)) 0 1))))) hx hb hr (fun t ht hW => ⟨⟨nI (mCount (setA (mGoes K (nI 0)) 4 (upd ((mGoes K (nI 0)) 4) p9 ((mGoes K (nI 0)) 0 1)))), (), rfl, eR9, by rw [ht]; exact hP9, va_K.moved hW.alike hK, hD9⟩, hS.F ht⟩) hS.2.2 dX6_join_61
        · skip
          exact absurd c_5 (by decide)
      · skip
        have c_4 : ¬ K 5 p9 = (-1) := c_4
        refine lv_iconst (v := nI 2) hx hb dX6_join_34 (by decide) ?_
        refine lv_goto (tgt := 39) hx hb dX6_join_35 (by decide) ?_
        refine zc_wVi (As := [.int (nI 2)]) (rest := []) (wr := []) ⟨hx, hb, hml, hown, hts⟩ (kX6_goesWell l D cI cZ ad K _ (nI 2) ) (cwV 1 hts gX6_join_X6_goesWell rfl rfl rfl (by decide +kernel) ⟨(Nat.le_of_ble_eq_true rfl), (Nat.le_of_ble_eq_true rfl)⟩) hK hP hD hS hA [0, 1, 2, 3, 4, 5, 6, 7, 8, 9, 10, 11, 12, 13, 14, 15, 16] [] rfl rfl rfl rfl rfl (by decide) (ci := 6) (q0 := 0) rfl rfl rfl rfl hl.1 rfl (Nat.le_of_ble_eq_true rfl) dX6_join_39 ⟨Nat.zero_le _, Nat.zero_le _⟩ (fun H locs hP hD hS => ?_)
        have hP : va_P D vwCl (mwA ad cI cZ (mGoes K (nI 2))) _ := hP
        have hD : va_D A (mwA ad cI cZ (mGoes K (nI 2))) := hD
        refine zz_top (y := nI 0) (by decide) ?_
        refine lv_if_ne (tgt := 47) hx hb dX6_join_42 (by decide) (fun c_6 => ?_) (fun c_6 => ?_)
        · skip
          exact absurd (show nI 0 = 0 from rfl) c_6
        · skip
          refine lv_iconst (v := nI 0) hx hb dX6_join_45 (by decide) ?_
          have hT9 : mJoinT K x = nI 2 := by simp [mJoinT, c_1, hp7, eq_true c_2, c_4, eq_true c_6]
          have eK9 : (mPost (mJoinT K x) K (mJoinE K x.toNatClampNeg)) = (mGoes K (nI 2)) := by rw [hT9, mPost_2] <;> rfl
          have hP9 := hP
          have hD9 := hD
          rw [← eK9] at hP9 hD9
          have eR9 : nI 0 = mRes (mJoinT K x) (nI (mCount (mJoinE K x.toNatClampNeg))) := by rw [hT9, mRes_2] <;> rfl
          exact W.iret (v := nI 0) hx hb hr (fun t ht hW => ⟨⟨nI 0, (), rfl, eR9, by rw [ht]; exact hP9, va_K.moved hW.alike hK, hD9⟩, hS.F ht⟩) hS.2.2 dX6_join_46
  · skip
    have c_1 := zb_f c_1
    refine lv_iconst (v := nI 1) hx hb dX6_join_10 (by decide) ?_
    refine lv_goto (tgt := 39) hx hb dX6_join_11 (by decide) ?_
    refine zc_wVi (As := [.int (nI 1)]) (rest := []) (wr := []) ⟨hx, hb, hml, hown, hts⟩ (kX6_goesWell l D cI cZ ad K _ (nI 1) ) (cwV 1 hts gX6_join_X6_goesWell rfl rfl rfl (by decide +kernel) ⟨(Nat.le_of_ble_eq_true rfl), (Nat.le_of_ble_eq_true rfl)⟩) hK hP hD hS hA [0, 1, 2, 3, 4, 5, 6, 7, 8, 9, 10, 11, 12, 13, 14, 15, 16] [] rfl rfl rfl rfl rfl (by decide) (ci := 6) (q0 := 0) rfl rfl rfl rfl hl.1 rfl (Nat.le_of_ble_eq_true rfl) dX6_join_39 ⟨Nat.zero_le _, Nat.zero_le _⟩ (fun H locs hP hD hS => ?_)
    have hP : va_P D vwCl (mwA ad cI cZ (mGoes K (nI 1))) _ := hP
    have hD : va_D A (mwA ad cI cZ (mGoes K (nI 1))) := hD
    refine zz_top (y := nI 0) (by decide) ?_
    refine lv_if_ne (tgt := 47) hx hb dX6_join_42 (by decide) (fun c_7 => ?_) (fun c_7 => ?_)
    · skip
      exact absurd (show nI 0 = 0 from rfl) c_7
    · skip
      refine lv_iconst (v := nI 0) hx hb dX6_join_45 (by decide) ?_
      have hT9 : mJoinT K x = nI 1 := by simp [mJoinT, c_1, eq_true c_7]
      have eK9 : (mPost (mJoinT K x) K (mJoinE K x.toNatClampNeg)) = (mGoes K (nI 1)) := by rw [hT9, mPost_1] <;> rfl
      have hP9 := hP
      have hD9 := hD
      rw [← eK9] at hP9 hD9
      have eR9 : nI 0 = mRes (mJoinT K x) (nI (mCount (mJoinE K x.toNatClampNeg))) := by rw [hT9, mRes_1] <;> rfl
      exact W.iret (v := nI 0) hx hb hr (fun t ht hW => ⟨⟨nI 0, (), rfl, eR9, by rw [ht]; exact hP9, va_K.moved hW.alike hK, hD9⟩, hS.F ht⟩) hS.2.2 dX6_join_46
set_option maxHeartbeats 4000000 in
set_option maxRecDepth 100000 in
theorem kX6_quit (l : Launch) (D : va_G) (cI cZ : ClassId) (ad : Nat → Nat) (K : kS) (sz : Nat) (x : Int32)  : Met l yX6_quit wsX6_quit ({ frames := 2, cells := 0, slots := 0, locals := 42 }) (va_Pc [.ref (ad 0), .int x] (zPr D (zTy cI cZ) (mwA ad cI cZ K) sz)) (va_Qi (fun r (_ : Unit) => r = mRes (mQuitT K x) (nI (mCount (mQuitE K x.toNatClampNeg)))) (fun _ => zPo D (zTy cI cZ) (va_A (mwA ad cI cZ K) sz) (mwA ad cI cZ (mPost (mQuitT K x) K (mQuitE K x.toNatClampNeg)))) (va_A (mwA ad cI cZ K) sz)) 0 0 (va_A (mwA ad cI cZ K) sz) := by
  refine Met.ofW (cc := cX6_quit) (maxL := 3) (ret := (some .int)) (by decide) rfl ?_
  intro pP e s m args below meth c s₁ B hml hv
  obtain ⟨rfl, hsz, hP, hK, hD0⟩ := hv
  have hx := B.exec
  have hb := B.bytes
  have hr := B.returns
  have hts := atoms_spec (ws := wsX6_quit) B.pre
  have hown : s.vm.findClass RX6 = some m.cls := findClass_of_methodNamed B.named
  have hlocks := B.notSynchronized
  subst hsz
  have hD := hD0.self (sz := s.heap.size)
  generalize hAe : va_A (mwA ad cI cZ K) s.heap.size = A at hD ⊢
  have hA : ∀ q : Nat, s.heap.size ≤ q → A q := fun q h => by rw [← hAe]; exact Or.inr h
  have hS : va_S A s.heap s.heap [] := va_S.rf
  have hinX6 : ∀ w ∈ u_ws RX6 TX6 21, w ∈ wsX6_quit := by decide +kernel
  have hl := lv_entry ([.ref (ad 0), .int x]) (n := 3) (Nat.le_of_ble_eq_true rfl)
  rw [lg_entry_eq]
  generalize (lg_sl ([.ref (ad 0), .int x]) ++ List.replicate (3 - (lg_sl ([.ref (ad 0), .int x])).length) Slot.unset).toArray = ls at hl ⊢
  have hl : lv_has ls 3 [(0, .ref (ad 0)), (1, .int x)] := hl
  refine lv_iload_n hx hb dX6_quit_0 rfl (lv_at hl 1 rfl) ?_
  refine zc_rS (As := [.int x]) (rest := []) ⟨hx, hb, hml, hown, hts⟩ (kX6_isPerson l x ) (va_cwS 1 hts gX6_quit_X6_isPerson rfl rfl rfl (by decide +kernel) ⟨(Nat.le_of_ble_eq_true rfl), (Nat.le_of_ble_eq_true rfl)⟩) rfl hl.1 rfl (Nat.le_of_ble_eq_true rfl) dX6_quit_1 ⟨Nat.zero_le _, Nat.zero_le _⟩ ?_
  refine lv_istore_n (lv' := [(2, .int (zb (mIsP x))), (0, .ref (ad 0)), (1, .int x)]) hx hb dX6_quit_4 rfl hl (by decide) rfl (fun ls hl => ?_)
  refine lv_aload_n hx hb dX6_quit_5 rfl (lv_at hl 1 rfl) ?_
  refine lv_iload_n hx hb dX6_quit_6 rfl (lv_at hl 0 rfl) ?_
  refine lv_if_ne (tgt := 14) hx hb dX6_quit_7 (by decide) (fun c_1 => ?_) (fun c_1 => ?_)
  · skip
    have c_1 := zb_t c_1
    obtain ⟨p9, hp9, hp8, hp7⟩ := mIsP_of c_1
    refine lv_aload_n hx hb dX6_quit_14 rfl (lv_at hl 1 rfl) ?_
    refine va_get (D := D) (ci := 6) (v := .ref (ad 4)) (C := RX6) (T := TX6) (N := 21) hx hb hts hinX6 hown hK hP 0 rfl rfl 7 (by decide) (hts (.fieldLink RX6 23 "AuditoriumKeysModel" "cameAt" "[I") (List.mem_of_getElem? (i := 1) rfl)) (fun _ h9 => h9) rfl dX6_quit_15 ?_
    refine lv_iload_n hx hb dX6_quit_18 rfl (lv_at hl 2 rfl) ?_
    refine zz_top (y := nI p9) hp8 ?_
    refine zz_iald hx hb hK hP 4 0 rfl rfl p9 (by omega) (by decide) dX6_quit_19 ?_
    refine lv_iconst (v := (-1)) hx hb dX6_quit_20 (by decide) ?_
    refine lv_icmp_ne (tgt := 28) hx hb dX6_quit_21 (by decide) (fun c_2 => ?_) (fun c_2 => ?_)
    · skip
      have c_2 : ¬ K 4 p9 = (-1) := c_2
      refine lv_iconst (v := nI 0) hx hb dX6_quit_28 (by decide) ?_
      refine zc_wVi (As := [.int (nI 0)]) (rest := []) (wr := []) ⟨hx, hb, hml, hown, hts⟩ (kX6_goesWell l D cI cZ ad K _ (nI 0) ) (cwV 1 hts gX6_quit_X6_goesWell rfl rfl rfl (by decide +kernel) ⟨(Nat.le_of_ble_eq_true rfl), (Nat.le_of_ble_eq_true rfl)⟩) hK hP hD hS hA [0, 1, 2, 3, 4, 5, 6, 7, 8, 9, 10, 11, 12, 13, 14, 15, 16] [] rfl rfl rfl rfl rfl (by decide) (ci := 6) (q0 := 0) rfl rfl rfl rfl hl.1 rfl (Nat.le_of_ble_eq_true rfl) dX6_quit_29 ⟨Nat.zero_le _, Nat.zero_le _⟩ (fun H locs hP hD hS => ?_)
      have hP : va_P D vwCl (mwA ad cI cZ (mGoes K (nI 0))) _ := hP
      have hD : va_D A (mwA ad cI cZ (mGoes K (nI 0))) := hD
      refine zz_top (y := nI 1) (by decide) ?_
      refine lv_if_ne (tgt := 37) hx hb dX6_quit_32 (by decide) (fun c_3 => ?_) (fun c_3 => ?_)
      · skip
        refine lv_aload_n hx hb dX6_quit_37 rfl (lv_at hl 1 rfl) ?_
        refine va_get (D := D) (ci := 6) (v := .ref (ad 4)) (C := RX6) (T := TX6) (N := 21) hx hb hts hinX6 hown hK hP 0 rfl rfl 7 (by decide) (hts (.fieldLink RX6 23 "AuditoriumKeysModel" "cameAt" "[I") (List.mem_of_getElem? (i := 1) rfl)) (fun _ h9 => h9) rfl dX6_quit_38 ?_
        refine lv_iload_n hx hb dX6_quit_41 rfl (lv_at hl 2 rfl) ?_
        refine zz_top (y := nI p9) hp8 ?_
        refine lv_iconst (v := (-1)) hx hb dX6_quit_42 (by decide) ?_
        refine zz_iast hx hb hK hP hD hS 4 0 rfl rfl p9 (by omega) (by decide) dX6_quit_43 (fun H locs hP hD hS => ?_)
        have hP : va_P D vwCl (mwA ad cI cZ (setA (mGoes K (nI 0)) 4 (upd ((mGoes K (nI 0)) 4) p9 (-1)))) _ := hP
        have hD : va_D A (mwA ad cI cZ (setA (mGoes K (nI 0)) 4 (upd ((mGoes K (nI 0)) 4) p9 (-1)))) := hD
        refine lv_aload_n hx hb dX6_quit_44 rfl (lv_at hl 1 rfl) ?_
        refine zc_rV (As := []) (rest := []) ⟨hx, hb, hml, hown, hts⟩ (kX6_countQueue l D cI cZ ad (setA (mGoes K (nI 0)) 4 (upd ((mGoes K (nI 0)) 4) p9 (-1)))  ) (cwV 0 hts gX6_quit_X6_countQueue rfl rfl rfl (by decide +kernel) ⟨(Nat.le_of_ble_eq_true rfl), (Nat.le_of_ble_eq_true rfl)⟩) hK hP (ci := 6) (q0 := 0) rfl rfl rfl rfl hl.1 rfl (Nat.le_of_ble_eq_true rfl) dX6_quit_45 ⟨Nat.zero_le _, Nat.zero_le _⟩ ?_
        have hT9 : mQuitT K x = nI 0 := by simp [mQuitT, c_1, hp7, c_2, c_3]
        have eK9 : (mPost (mQuitT K x) K (mQuitE K x.toNatClampNeg)) = (setA (mGoes K (nI 0)) 4 (upd ((mGoes K (nI 0)) 4) p9 (-1))) := by rw [hT9, mPost_0, hp7] <;> rfl
        have hP9 := hP
        have hD9 := hD
        rw [← eK9] at hP9 hD9
        have eR9 : nI (mCount (setA (mGoes K (nI 0)) 4 (upd ((mGoes K (nI 0)) 4) p9 (-1)))) = mRes (mQuitT K x) (nI (mCount (mQuitE K x.toNatClampNeg))) := by rw [hT9, mRes_0, hp7] <;> rfl
        exact W.iret (v := nI (mCount (setA (mGoes K (nI 0)) 4 (upd ((mGoes K (nI 0)) 4) p9 (-1))))) hx hb hr (fun t ht hW => ⟨⟨nI (mCount (setA (mGoes K (nI 0)) 4 (upd ((mGoes K (nI 0)) 4) p9 (-1)))), (), rfl, eR9, by rw [ht]; exact hP9, va_K.moved hW.alike hK, hD9⟩, hS.F ht⟩) hS.2.2 dX6_quit_48
      · skip
        exact absurd c_3 (by decide)
    · skip
      have c_2 : K 4 p9 = (-1) := c_2
      refine lv_iconst (v := nI 2) hx hb dX6_quit_24 (by decide) ?_
      refine lv_goto (tgt := 29) hx hb dX6_quit_25 (by decide) ?_
      refine zc_wVi (As := [.int (nI 2)]) (rest := []) (wr := []) ⟨hx, hb, hml, hown, hts⟩ (kX6_goesWell l D cI cZ ad K _ (nI 2) ) (cwV 1 hts gX6_quit_X6_goesWell rfl rfl rfl (by decide +kernel) ⟨(Nat.le_of_ble_eq_true rfl), (Nat.le_of_ble_eq_true rfl)⟩) hK hP hD hS hA [0, 1, 2, 3, 4, 5, 6, 7, 8, 9, 10, 11, 12, 13, 14, 15, 16] [] rfl rfl rfl rfl rfl (by decide) (ci := 6) (q0 := 0) rfl rfl rfl rfl hl.1 rfl (Nat.le_of_ble_eq_true rfl) dX6_quit_29 ⟨Nat.zero_le _, Nat.zero_le _⟩ (fun H locs hP hD hS => ?_)
      have hP : va_P D vwCl (mwA ad cI cZ (mGoes K (nI 2))) _ := hP
      have hD : va_D A (mwA ad cI cZ (mGoes K (nI 2))) := hD
      refine zz_top (y := nI 0) (by decide) ?_
      refine lv_if_ne (tgt := 37) hx hb dX6_quit_32 (by decide) (fun c_4 => ?_) (fun c_4 => ?_)
      · skip
        exact absurd (show nI 0 = 0 from rfl) c_4
      · skip
        refine lv_iconst (v := nI 0) hx hb dX6_quit_35 (by decide) ?_
        have hT9 : mQuitT K x = nI 2 := by simp [mQuitT, c_1, hp7, eq_true c_2, eq_true c_4]
        have eK9 : (mPost (mQuitT K x) K (mQuitE K x.toNatClampNeg)) = (mGoes K (nI 2)) := by rw [hT9, mPost_2] <;> rfl
        have hP9 := hP
        have hD9 := hD
        rw [← eK9] at hP9 hD9
        have eR9 : nI 0 = mRes (mQuitT K x) (nI (mCount (mQuitE K x.toNatClampNeg))) := by rw [hT9, mRes_2] <;> rfl
        exact W.iret (v := nI 0) hx hb hr (fun t ht hW => ⟨⟨nI 0, (), rfl, eR9, by rw [ht]; exact hP9, va_K.moved hW.alike hK, hD9⟩, hS.F ht⟩) hS.2.2 dX6_quit_36
  · skip
    have c_1 := zb_f c_1
    refine lv_iconst (v := nI 1) hx hb dX6_quit_10 (by decide) ?_
    refine lv_goto (tgt := 29) hx hb dX6_quit_11 (by decide) ?_
    refine zc_wVi (As := [.int (nI 1)]) (rest := []) (wr := []) ⟨hx, hb, hml, hown, hts⟩ (kX6_goesWell l D cI cZ ad K _ (nI 1) ) (cwV 1 hts gX6_quit_X6_goesWell rfl rfl rfl (by decide +kernel) ⟨(Nat.le_of_ble_eq_true rfl), (Nat.le_of_ble_eq_true rfl)⟩) hK hP hD hS hA [0, 1, 2, 3, 4, 5, 6, 7, 8, 9, 10, 11, 12, 13, 14, 15, 16] [] rfl rfl rfl rfl rfl (by decide) (ci := 6) (q0 := 0) rfl rfl rfl rfl hl.1 rfl (Nat.le_of_ble_eq_true rfl) dX6_quit_29 ⟨Nat.zero_le _, Nat.zero_le _⟩ (fun H locs hP hD hS => ?_)
    have hP : va_P D vwCl (mwA ad cI cZ (mGoes K (nI 1))) _ := hP
    have hD : va_D A (mwA ad cI cZ (mGoes K (nI 1))) := hD
    refine zz_top (y := nI 0) (by decide) ?_
    refine lv_if_ne (tgt := 37) hx hb dX6_quit_32 (by decide) (fun c_5 => ?_) (fun c_5 => ?_)
    · skip
      exact absurd (show nI 0 = 0 from rfl) c_5
    · skip
      refine lv_iconst (v := nI 0) hx hb dX6_quit_35 (by decide) ?_
      have hT9 : mQuitT K x = nI 1 := by simp [mQuitT, c_1, eq_true c_5]
      have eK9 : (mPost (mQuitT K x) K (mQuitE K x.toNatClampNeg)) = (mGoes K (nI 1)) := by rw [hT9, mPost_1] <;> rfl
      have hP9 := hP
      have hD9 := hD
      rw [← eK9] at hP9 hD9
      have eR9 : nI 0 = mRes (mQuitT K x) (nI (mCount (mQuitE K x.toNatClampNeg))) := by rw [hT9, mRes_1] <;> rfl
      exact W.iret (v := nI 0) hx hb hr (fun t ht hW => ⟨⟨nI 0, (), rfl, eR9, by rw [ht]; exact hP9, va_K.moved hW.alike hK, hD9⟩, hS.F ht⟩) hS.2.2 dX6_quit_36
set_option maxHeartbeats 4000000 in
set_option maxRecDepth 100000 in
theorem kX6_queueAt (l : Launch) (D : va_G) (cI cZ : ClassId) (ad : Nat → Nat) (K : kS) (sz : Nat) (x : Int32)  : Met l yX6_queueAt wsX6_queueAt ({ frames := 2, cells := 0, slots := 0, locals := 48 }) (va_Pc [.ref (ad 0), .int x] (zPr D (zTy cI cZ) (mwA ad cI cZ K) sz)) (va_Qi (fun r (_ : Unit) => r = mRes (mQueT K x) (mAt K x)) (fun _ => zPo D (zTy cI cZ) (va_A (mwA ad cI cZ K) sz) (mwA ad cI cZ (mPost (mQueT K x) K (mGoes K (nI 0))))) (va_A (mwA ad cI cZ K) sz)) 0 0 (va_A (mwA ad cI cZ K) sz) := by
  refine Met.ofW (cc := cX6_queueAt) (maxL := 2) (ret := (some .int)) (by decide) rfl ?_
  intro pP e s m args below meth c s₁ B hml hv
  obtain ⟨rfl, hsz, hP, hK, hD0⟩ := hv
  have hx := B.exec
  have hb := B.bytes
  have hr := B.returns
  have hts := atoms_spec (ws := wsX6_queueAt) B.pre
  have hown : s.vm.findClass RX6 = some m.cls := findClass_of_methodNamed B.named
  have hlocks := B.notSynchronized
  subst hsz
  have hD := hD0.self (sz := s.heap.size)
  generalize hAe : va_A (mwA ad cI cZ K) s.heap.size = A at hD ⊢
  have hA : ∀ q : Nat, s.heap.size ≤ q → A q := fun q h => by rw [← hAe]; exact Or.inr h
  have hS : va_S A s.heap s.heap [] := va_S.rf
  have hl := lv_entry ([.ref (ad 0), .int x]) (n := 2) (Nat.le_of_ble_eq_true rfl)
  rw [lg_entry_eq]
  generalize (lg_sl ([.ref (ad 0), .int x]) ++ List.replicate (2 - (lg_sl ([.ref (ad 0), .int x])).length) Slot.unset).toArray = ls at hl ⊢
  have hl : lv_has ls 2 [(0, .ref (ad 0)), (1, .int x)] := hl
  refine lv_aload_n hx hb dX6_queueAt_0 rfl (lv_at hl 0 rfl) ?_
  refine lv_iload_n hx hb dX6_queueAt_1 rfl (lv_at hl 1 rfl) ?_
  refine lv_iconst (v := nI 0) hx hb dX6_queueAt_2 (by decide) ?_
  refine lv_aload_n hx hb dX6_queueAt_3 rfl (lv_at hl 0 rfl) ?_
  refine zc_rV (As := []) (rest := [.int (nI 0), .int x, .ref (ad 0)]) ⟨hx, hb, hml, hown, hts⟩ (kX6_countQueue l D cI cZ ad K  ) (cwV 0 hts gX6_queueAt_X6_countQueue rfl rfl rfl (by decide +kernel) ⟨(Nat.le_of_ble_eq_true rfl), (Nat.le_of_ble_eq_true rfl)⟩) hK hP (ci := 6) (q0 := 0) rfl rfl rfl rfl hl.1 rfl (Nat.le_of_ble_eq_true rfl) dX6_queueAt_4 ⟨Nat.zero_le _, Nat.zero_le _⟩ ?_
  refine lv_iconst (v := nI 1) hx hb dX6_queueAt_7 (by decide) ?_
  refine lv_isub hx hb dX6_queueAt_8 ?_
  refine zc_rS (As := [.int x, .int (nI 0), .int ((nI (mCount K)) - (nI 1))]) (rest := [.ref (ad 0)]) ⟨hx, hb, hml, hown, hts⟩ (kX6_in l x (nI 0) ((nI (mCount K)) - (nI 1)) ) (va_cwS 3 hts gX6_queueAt_X6_in rfl rfl rfl (by decide +kernel) ⟨(Nat.le_of_ble_eq_true rfl), (Nat.le_of_ble_eq_true rfl)⟩) rfl hl.1 rfl (Nat.le_of_ble_eq_true rfl) dX6_queueAt_9 ⟨Nat.zero_le _, Nat.zero_le _⟩ ?_
  refine lv_if_eq (tgt := 19) hx hb dX6_queueAt_12 (by decide) (fun c_1 => ?_) (fun c_1 => ?_)
  · skip
    have c_1 := zb_f c_1
    refine lv_iconst (v := nI 1) hx hb dX6_queueAt_19 (by decide) ?_
    refine zc_wVi (As := [.int (nI 1)]) (rest := []) (wr := []) ⟨hx, hb, hml, hown, hts⟩ (kX6_goesWell l D cI cZ ad K _ (nI 1) ) (cwV 1 hts gX6_queueAt_X6_goesWell rfl rfl rfl (by decide +kernel) ⟨(Nat.le_of_ble_eq_true rfl), (Nat.le_of_ble_eq_true rfl)⟩) hK hP hD hS hA [0, 1, 2, 3, 4, 5, 6, 7, 8, 9, 10, 11, 12, 13, 14, 15, 16] [] rfl rfl rfl rfl rfl (by decide) (ci := 6) (q0 := 0) rfl rfl rfl rfl hl.1 rfl (Nat.le_of_ble_eq_true rfl) dX6_queueAt_20 ⟨Nat.zero_le _, Nat.zero_le _⟩ (fun H locs hP hD hS => ?_)
    have hP : va_P D vwCl (mwA ad cI cZ (mGoes K (nI 1))) _ := hP
    have hD : va_D A (mwA ad cI cZ (mGoes K (nI 1))) := hD
    refine zz_top (y := nI 0) (by decide) ?_
    refine lv_if_eq (tgt := 34) hx hb dX6_queueAt_23 (by decide) (fun c_2 => ?_) (fun c_2 => ?_)
    · skip
      refine lv_iconst (v := nI 0) hx hb dX6_queueAt_34 (by decide) ?_
      have hT9 : mQueT K x = nI 1 := by simp [mQueT, c_1, eq_true c_2]
      have eK9 : (mPost (mQueT K x) K (mGoes K (nI 0))) = (mGoes K (nI 1)) := by rw [hT9, mPost_1] <;> rfl
      have hP9 := hP
      have hD9 := hD
      rw [← eK9] at hP9 hD9
      have eR9 : nI 0 = mRes (mQueT K x) (mAt K x) := by rw [hT9, mRes_1] <;> rfl
      exact W.iret (v := nI 0) hx hb hr (fun t ht hW => ⟨⟨nI 0, (), rfl, eR9, by rw [ht]; exact hP9, va_K.moved hW.alike hK, hD9⟩, hS.F ht⟩) hS.2.2 dX6_queueAt_35
    · skip
      exact absurd (show nI 0 = 0 from rfl) c_2
  · skip
    have c_1 := zb_t c_1
    refine lv_iconst (v := nI 0) hx hb dX6_queueAt_15 (by decide) ?_
    refine lv_goto (tgt := 20) hx hb dX6_queueAt_16 (by decide) ?_
    refine zc_wVi (As := [.int (nI 0)]) (rest := []) (wr := []) ⟨hx, hb, hml, hown, hts⟩ (kX6_goesWell l D cI cZ ad K _ (nI 0) ) (cwV 1 hts gX6_queueAt_X6_goesWell rfl rfl rfl (by decide +kernel) ⟨(Nat.le_of_ble_eq_true rfl), (Nat.le_of_ble_eq_true rfl)⟩) hK hP hD hS hA [0, 1, 2, 3, 4, 5, 6, 7, 8, 9, 10, 11, 12, 13, 14, 15, 16] [] rfl rfl rfl rfl rfl (by decide) (ci := 6) (q0 := 0) rfl rfl rfl rfl hl.1 rfl (Nat.le_of_ble_eq_true rfl) dX6_queueAt_20 ⟨Nat.zero_le _, Nat.zero_le _⟩ (fun H locs hP hD hS => ?_)
    have hP : va_P D vwCl (mwA ad cI cZ (mGoes K (nI 0))) _ := hP
    have hD : va_D A (mwA ad cI cZ (mGoes K (nI 0))) := hD
    refine zz_top (y := nI 1) (by decide) ?_
    refine lv_if_eq (tgt := 34) hx hb dX6_queueAt_23 (by decide) (fun c_3 => ?_) (fun c_3 => ?_)
    · skip
      exact absurd c_3 (by decide)
    · skip
      refine lv_aload_n hx hb dX6_queueAt_26 rfl (lv_at hl 0 rfl) ?_
      refine lv_iload_n hx hb dX6_queueAt_27 rfl (lv_at hl 1 rfl) ?_
      refine zc_rV (As := [.int x]) (rest := []) ⟨hx, hb, hml, hown, hts⟩ (kX6_placeAt l D cI cZ ad (mGoes K (nI 0)) x ) (cwV 1 hts gX6_queueAt_X6_placeAt rfl rfl rfl (by decide +kernel) ⟨(Nat.le_of_ble_eq_true rfl), (Nat.le_of_ble_eq_true rfl)⟩) hK hP (ci := 6) (q0 := 0) rfl rfl rfl rfl hl.1 rfl (Nat.le_of_ble_eq_true rfl) dX6_queueAt_28 ⟨Nat.zero_le _, Nat.zero_le _⟩ ?_
      refine lv_goto (tgt := 35) hx hb dX6_queueAt_31 (by decide) ?_
      have hT9 : mQueT K x = nI 0 := by simp [mQueT, c_1, c_3]
      have eK9 : (mPost (mQueT K x) K (mGoes K (nI 0))) = (mGoes K (nI 0)) := by rw [hT9, mPost_0] <;> rfl
      have hP9 := hP
      have hD9 := hD
      rw [← eK9] at hP9 hD9
      have eR9 : mAt (mGoes K (nI 0)) x = mRes (mQueT K x) (mAt K x) := by rw [hT9, mRes_0] <;> rfl
      exact W.iret (v := mAt (mGoes K (nI 0)) x) hx hb hr (fun t ht hW => ⟨⟨mAt (mGoes K (nI 0)) x, (), rfl, eR9, by rw [ht]; exact hP9, va_K.moved hW.alike hK, hD9⟩, hS.F ht⟩) hS.2.2 dX6_queueAt_35
set_option maxHeartbeats 4000000 in
set_option maxRecDepth 100000 in
theorem kX6_letGo (l : Launch) (D : va_G) (cI cZ : ClassId) (ad : Nat → Nat) (K : kS) (sz : Nat) (x : Int32)  : Met l yX6_letGo wsX6_letGo ({ frames := 2, cells := 0, slots := 0, locals := 42 }) (va_Pc [.ref (ad 0), .int x] (zPr D (zTy cI cZ) (mwA ad cI cZ K) sz)) (va_Qi (fun r (_ : Unit) => r = mRes (mGoT K x) (K 9 x.toNatClampNeg)) (fun _ => zPo D (zTy cI cZ) (va_A (mwA ad cI cZ K) sz) (mwA ad cI cZ (mPost (mGoT K x) K (mDrop (mGoes K (nI 0)) x.toNatClampNeg)))) (va_A (mwA ad cI cZ K) sz)) 0 0 (va_A (mwA ad cI cZ K) sz) := by
  refine Met.ofW (cc := cX6_letGo) (maxL := 3) (ret := (some .int)) (by decide) rfl ?_
  intro pP e s m args below meth c s₁ B hml hv
  obtain ⟨rfl, hsz, hP, hK, hD0⟩ := hv
  have hx := B.exec
  have hb := B.bytes
  have hr := B.returns
  have hts := atoms_spec (ws := wsX6_letGo) B.pre
  have hown : s.vm.findClass RX6 = some m.cls := findClass_of_methodNamed B.named
  have hlocks := B.notSynchronized
  subst hsz
  have hD := hD0.self (sz := s.heap.size)
  generalize hAe : va_A (mwA ad cI cZ K) s.heap.size = A at hD ⊢
  have hA : ∀ q : Nat, s.heap.size ≤ q → A q := fun q h => by rw [← hAe]; exact Or.inr h
  have hS : va_S A s.heap s.heap [] := va_S.rf
  have hinX6 : ∀ w ∈ u_ws RX6 TX6 21, w ∈ wsX6_letGo := by decide +kernel
  have hl := lv_entry ([.ref (ad 0), .int x]) (n := 3) (Nat.le_of_ble_eq_true rfl)
  rw [lg_entry_eq]
  generalize (lg_sl ([.ref (ad 0), .int x]) ++ List.replicate (3 - (lg_sl ([.ref (ad 0), .int x])).length) Slot.unset).toArray = ls at hl ⊢
  have hl : lv_has ls 3 [(0, .ref (ad 0)), (1, .int x)] := hl
  refine lv_iload_n hx hb dX6_letGo_0 rfl (lv_at hl 1 rfl) ?_
  refine zc_rS (As := [.int x]) (rest := []) ⟨hx, hb, hml, hown, hts⟩ (kX6_isPerson l x ) (va_cwS 1 hts gX6_letGo_X6_isPerson rfl rfl rfl (by decide +kernel) ⟨(Nat.le_of_ble_eq_true rfl), (Nat.le_of_ble_eq_true rfl)⟩) rfl hl.1 rfl (Nat.le_of_ble_eq_true rfl) dX6_letGo_1 ⟨Nat.zero_le _, Nat.zero_le _⟩ ?_
  refine lv_istore_n (lv' := [(2, .int (zb (mIsP x))), (0, .ref (ad 0)), (1, .int x)]) hx hb dX6_letGo_4 rfl hl (by decide) rfl (fun ls hl => ?_)
  refine lv_aload_n hx hb dX6_letGo_5 rfl (lv_at hl 1 rfl) ?_
  refine lv_iload_n hx hb dX6_letGo_6 rfl (lv_at hl 0 rfl) ?_
  refine lv_if_ne (tgt := 14) hx hb dX6_letGo_7 (by decide) (fun c_1 => ?_) (fun c_1 => ?_)
  · skip
    have c_1 := zb_t c_1
    obtain ⟨p9, hp9, hp8, hp7⟩ := mIsP_of c_1
    refine lv_aload_n hx hb dX6_letGo_14 rfl (lv_at hl 1 rfl) ?_
    refine va_get (D := D) (ci := 6) (v := .ref (ad 5)) (C := RX6) (T := TX6) (N := 21) hx hb hts hinX6 hown hK hP 0 rfl rfl 8 (by decide) (hts (.fieldLink RX6 26 "AuditoriumKeysModel" "firsts" "[I") (List.mem_of_getElem? (i := 1) rfl)) (fun _ h9 => h9) rfl dX6_letGo_15 ?_
    refine lv_iload_n hx hb dX6_letGo_18 rfl (lv_at hl 2 rfl) ?_
    refine zz_top (y := nI p9) hp8 ?_
    refine zz_iald hx hb hK hP 5 0 rfl rfl p9 (by omega) (by decide) dX6_letGo_19 ?_
    refine lv_iconst (v := (-1)) hx hb dX6_letGo_20 (by decide) ?_
    refine lv_icmp_ne (tgt := 28) hx hb dX6_letGo_21 (by decide) (fun c_2 => ?_) (fun c_2 => ?_)
    · skip
      have c_2 : ¬ K 5 p9 = (-1) := c_2
      refine lv_iconst (v := nI 0) hx hb dX6_letGo_28 (by decide) ?_
      refine zc_wVi (As := [.int (nI 0)]) (rest := []) (wr := []) ⟨hx, hb, hml, hown, hts⟩ (kX6_goesWell l D cI cZ ad K _ (nI 0) ) (cwV 1 hts gX6_letGo_X6_goesWell rfl rfl rfl (by decide +kernel) ⟨(Nat.le_of_ble_eq_true rfl), (Nat.le_of_ble_eq_true rfl)⟩) hK hP hD hS hA [0, 1, 2, 3, 4, 5, 6, 7, 8, 9, 10, 11, 12, 13, 14, 15, 16] [] rfl rfl rfl rfl rfl (by decide) (ci := 6) (q0 := 0) rfl rfl rfl rfl hl.1 rfl (Nat.le_of_ble_eq_true rfl) dX6_letGo_29 ⟨Nat.zero_le _, Nat.zero_le _⟩ (fun H locs hP hD hS => ?_)
      have hP : va_P D vwCl (mwA ad cI cZ (mGoes K (nI 0))) _ := hP
      have hD : va_D A (mwA ad cI cZ (mGoes K (nI 0))) := hD
      refine zz_top (y := nI 1) (by decide) ?_
      refine lv_if_ne (tgt := 37) hx hb dX6_letGo_32 (by decide) (fun c_3 => ?_) (fun c_3 => ?_)
      · skip
        refine lv_aload_n hx hb dX6_letGo_37 rfl (lv_at hl 1 rfl) ?_
        refine lv_iload_n hx hb dX6_letGo_38 rfl (lv_at hl 2 rfl) ?_
        refine zz_top (y := nI p9) hp8 ?_
        refine zc_wVv (As := [.int (nI p9)]) (rest := []) (wr := []) ⟨hx, hb, hml, hown, hts⟩ (kX6_dropHold l D cI cZ ad (mGoes K (nI 0)) _ p9 (by omega)) (cwV 1 hts gX6_letGo_X6_dropHold rfl rfl rfl (by decide +kernel) ⟨(Nat.le_of_ble_eq_true rfl), (Nat.le_of_ble_eq_true rfl)⟩) hK hP hD hS hA [0, 1, 2, 3, 4, 5, 6, 7, 8, 9, 10, 11, 12, 13, 14, 15, 16] [] rfl rfl rfl rfl rfl (by decide) (ci := 6) (q0 := 0) rfl rfl rfl rfl hl.1 rfl (Nat.le_of_ble_eq_true rfl) dX6_letGo_39 ⟨Nat.zero_le _, Nat.zero_le _⟩ (fun H locs hP hD hS => ?_)
        have hP : va_P D vwCl (mwA ad cI cZ (mDrop (mGoes K (nI 0)) p9)) _ := hP
        have hD : va_D A (mwA ad cI cZ (mDrop (mGoes K (nI 0)) p9)) := hD
        refine lv_aload_n hx hb dX6_letGo_42 rfl (lv_at hl 1 rfl) ?_
        refine va_get (D := D) (ci := 6) (v := .ref (ad 9)) (C := RX6) (T := TX6) (N := 21) hx hb hts hinX6 hown hK hP 0 rfl rfl 12 (by decide) (hts (.fieldLink RX6 38 "AuditoriumKeysModel" "paid" "[I") (List.mem_of_getElem? (i := 2) rfl)) (fun _ h9 => h9) rfl dX6_letGo_43 ?_
        refine lv_iload_n hx hb dX6_letGo_46 rfl (lv_at hl 2 rfl) ?_
        refine zz_top (y := nI p9) hp8 ?_
        refine zz_iald hx hb hK hP 9 0 rfl rfl p9 (by omega) (by decide) dX6_letGo_47 ?_
        have hT9 : mGoT K x = nI 0 := by simp [mGoT, c_1, hp7, c_2, c_3]
        have eK9 : (mPost (mGoT K x) K (mDrop (mGoes K (nI 0)) x.toNatClampNeg)) = (mDrop (mGoes K (nI 0)) p9) := by rw [hT9, mPost_0, hp7] <;> rfl
        have hP9 := hP
        have hD9 := hD
        rw [← eK9] at hP9 hD9
        have eR9 : (mDrop (mGoes K (nI 0)) p9) 9 p9 = mRes (mGoT K x) (K 9 x.toNatClampNeg) := by rw [hT9, mRes_0, hp7] <;> rfl
        exact W.iret (v := (mDrop (mGoes K (nI 0)) p9) 9 p9) hx hb hr (fun t ht hW => ⟨⟨(mDrop (mGoes K (nI 0)) p9) 9 p9, (), rfl, eR9, by rw [ht]; exact hP9, va_K.moved hW.alike hK, hD9⟩, hS.F ht⟩) hS.2.2 dX6_letGo_48
      · skip
        exact absurd c_3 (by decide)
    · skip
      have c_2 : K 5 p9 = (-1) := c_2
      refine lv_iconst (v := nI 2) hx hb dX6_letGo_24 (by decide) ?_
      refine lv_goto (tgt := 29) hx hb dX6_letGo_25 (by decide) ?_
      refine zc_wVi (As := [.int (nI 2)]) (rest := []) (wr := []) ⟨hx, hb, hml, hown, hts⟩ (kX6_goesWell l D cI cZ ad K _ (nI 2) ) (cwV 1 hts gX6_letGo_X6_goesWell rfl rfl rfl (by decide +kernel) ⟨(Nat.le_of_ble_eq_true rfl), (Nat.le_of_ble_eq_true rfl)⟩) hK hP hD hS hA [0, 1, 2, 3, 4, 5, 6, 7, 8, 9, 10, 11, 12, 13, 14, 15, 16] [] rfl rfl rfl rfl rfl (by decide) (ci := 6) (q0 := 0) rfl rfl rfl rfl hl.1 rfl (Nat.le_of_ble_eq_true rfl) dX6_letGo_29 ⟨Nat.zero_le _, Nat.zero_le _⟩ (fun H locs hP hD hS => ?_)
      have hP : va_P D vwCl (mwA ad cI cZ (mGoes K (nI 2))) _ := hP
      have hD : va_D A (mwA ad cI cZ (mGoes K (nI 2))) := hD
      refine zz_top (y := nI 0) (by decide) ?_
      refine lv_if_ne (tgt := 37) hx hb dX6_letGo_32 (by decide) (fun c_4 => ?_) (fun c_4 => ?_)
      · skip
        exact absurd (show nI 0 = 0 from rfl) c_4
      · skip
        refine lv_iconst (v := nI 0) hx hb dX6_letGo_35 (by decide) ?_
        have hT9 : mGoT K x = nI 2 := by simp [mGoT, c_1, hp7, eq_true c_2, eq_true c_4]
        have eK9 : (mPost (mGoT K x) K (mDrop (mGoes K (nI 0)) x.toNatClampNeg)) = (mGoes K (nI 2)) := by rw [hT9, mPost_2] <;> rfl
        have hP9 := hP
        have hD9 := hD
        rw [← eK9] at hP9 hD9
        have eR9 : nI 0 = mRes (mGoT K x) (K 9 x.toNatClampNeg) := by rw [hT9, mRes_2] <;> rfl
        exact W.iret (v := nI 0) hx hb hr (fun t ht hW => ⟨⟨nI 0, (), rfl, eR9, by rw [ht]; exact hP9, va_K.moved hW.alike hK, hD9⟩, hS.F ht⟩) hS.2.2 dX6_letGo_36
  · skip
    have c_1 := zb_f c_1
    refine lv_iconst (v := nI 1) hx hb dX6_letGo_10 (by decide) ?_
    refine lv_goto (tgt := 29) hx hb dX6_letGo_11 (by decide) ?_
    refine zc_wVi (As := [.int (nI 1)]) (rest := []) (wr := []) ⟨hx, hb, hml, hown, hts⟩ (kX6_goesWell l D cI cZ ad K _ (nI 1) ) (cwV 1 hts gX6_letGo_X6_goesWell rfl rfl rfl (by decide +kernel) ⟨(Nat.le_of_ble_eq_true rfl), (Nat.le_of_ble_eq_true rfl)⟩) hK hP hD hS hA [0, 1, 2, 3, 4, 5, 6, 7, 8, 9, 10, 11, 12, 13, 14, 15, 16] [] rfl rfl rfl rfl rfl (by decide) (ci := 6) (q0 := 0) rfl rfl rfl rfl hl.1 rfl (Nat.le_of_ble_eq_true rfl) dX6_letGo_29 ⟨Nat.zero_le _, Nat.zero_le _⟩ (fun H locs hP hD hS => ?_)
    have hP : va_P D vwCl (mwA ad cI cZ (mGoes K (nI 1))) _ := hP
    have hD : va_D A (mwA ad cI cZ (mGoes K (nI 1))) := hD
    refine zz_top (y := nI 0) (by decide) ?_
    refine lv_if_ne (tgt := 37) hx hb dX6_letGo_32 (by decide) (fun c_5 => ?_) (fun c_5 => ?_)
    · skip
      exact absurd (show nI 0 = 0 from rfl) c_5
    · skip
      refine lv_iconst (v := nI 0) hx hb dX6_letGo_35 (by decide) ?_
      have hT9 : mGoT K x = nI 1 := by simp [mGoT, c_1, eq_true c_5]
      have eK9 : (mPost (mGoT K x) K (mDrop (mGoes K (nI 0)) x.toNatClampNeg)) = (mGoes K (nI 1)) := by rw [hT9, mPost_1] <;> rfl
      have hP9 := hP
      have hD9 := hD
      rw [← eK9] at hP9 hD9
      have eR9 : nI 0 = mRes (mGoT K x) (K 9 x.toNatClampNeg) := by rw [hT9, mRes_1] <;> rfl
      exact W.iret (v := nI 0) hx hb hr (fun t ht hW => ⟨⟨nI 0, (), rfl, eR9, by rw [ht]; exact hP9, va_K.moved hW.alike hK, hD9⟩, hS.F ht⟩) hS.2.2 dX6_letGo_36
set_option maxHeartbeats 4000000 in
set_option maxRecDepth 100000 in
theorem kX6_lapses (l : Launch) (D : va_G) (cI cZ : ClassId) (ad : Nat → Nat) (K : kS) (sz : Nat) (x : Int32)  : Met l yX6_lapses wsX6_lapses ({ frames := 2, cells := 0, slots := 0, locals := 42 }) (va_Pc [.ref (ad 0), .int x] (zPr D (zTy cI cZ) (mwA ad cI cZ K) sz)) (va_Qi (fun r (_ : Unit) => r = mRes (mLapT x) (mLapR K x.toNatClampNeg)) (fun _ => zPo D (zTy cI cZ) (va_A (mwA ad cI cZ K) sz) (mwA ad cI cZ (mPost (mLapT x) K (mGoes K (nI 0))))) (va_A (mwA ad cI cZ K) sz)) 0 0 (va_A (mwA ad cI cZ K) sz) := by
  refine Met.ofW (cc := cX6_lapses) (maxL := 2) (ret := (some .int)) (by decide) rfl ?_
  intro pP e s m args below meth c s₁ B hml hv
  obtain ⟨rfl, hsz, hP, hK, hD0⟩ := hv
  have hx := B.exec
  have hb := B.bytes
  have hr := B.returns
  have hts := atoms_spec (ws := wsX6_lapses) B.pre
  have hown : s.vm.findClass RX6 = some m.cls := findClass_of_methodNamed B.named
  have hlocks := B.notSynchronized
  subst hsz
  have hD := hD0.self (sz := s.heap.size)
  generalize hAe : va_A (mwA ad cI cZ K) s.heap.size = A at hD ⊢
  have hA : ∀ q : Nat, s.heap.size ≤ q → A q := fun q h => by rw [← hAe]; exact Or.inr h
  have hS : va_S A s.heap s.heap [] := va_S.rf
  have hinX6 : ∀ w ∈ u_ws RX6 TX6 21, w ∈ wsX6_lapses := by decide +kernel
  have hl := lv_entry ([.ref (ad 0), .int x]) (n := 2) (Nat.le_of_ble_eq_true rfl)
  rw [lg_entry_eq]
  generalize (lg_sl ([.ref (ad 0), .int x]) ++ List.replicate (2 - (lg_sl ([.ref (ad 0), .int x])).length) Slot.unset).toArray = ls at hl ⊢
  have hl : lv_has ls 2 [(0, .ref (ad 0)), (1, .int x)] := hl
  refine lv_aload_n hx hb dX6_lapses_0 rfl (lv_at hl 0 rfl) ?_
  refine lv_iload_n hx hb dX6_lapses_1 rfl (lv_at hl 1 rfl) ?_
  refine zc_rS (As := [.int x]) (rest := [.ref (ad 0)]) ⟨hx, hb, hml, hown, hts⟩ (kX6_isPerson l x ) (va_cwS 1 hts gX6_lapses_X6_isPerson rfl rfl rfl (by decide +kernel) ⟨(Nat.le_of_ble_eq_true rfl), (Nat.le_of_ble_eq_true rfl)⟩) rfl hl.1 rfl (Nat.le_of_ble_eq_true rfl) dX6_lapses_2 ⟨Nat.zero_le _, Nat.zero_le _⟩ ?_
  refine lv_if_eq (tgt := 12) hx hb dX6_lapses_5 (by decide) (fun c_1 => ?_) (fun c_1 => ?_)
  · skip
    have c_1 := zb_f c_1
    refine lv_iconst (v := nI 1) hx hb dX6_lapses_12 (by decide) ?_
    refine zc_wVi (As := [.int (nI 1)]) (rest := []) (wr := []) ⟨hx, hb, hml, hown, hts⟩ (kX6_goesWell l D cI cZ ad K _ (nI 1) ) (cwV 1 hts gX6_lapses_X6_goesWell rfl rfl rfl (by decide +kernel) ⟨(Nat.le_of_ble_eq_true rfl), (Nat.le_of_ble_eq_true rfl)⟩) hK hP hD hS hA [0, 1, 2, 3, 4, 5, 6, 7, 8, 9, 10, 11, 12, 13, 14, 15, 16] [] rfl rfl rfl rfl rfl (by decide) (ci := 6) (q0 := 0) rfl rfl rfl rfl hl.1 rfl (Nat.le_of_ble_eq_true rfl) dX6_lapses_13 ⟨Nat.zero_le _, Nat.zero_le _⟩ (fun H locs hP hD hS => ?_)
    have hP : va_P D vwCl (mwA ad cI cZ (mGoes K (nI 1))) _ := hP
    have hD : va_D A (mwA ad cI cZ (mGoes K (nI 1))) := hD
    refine zz_top (y := nI 0) (by decide) ?_
    refine lv_if_ne (tgt := 21) hx hb dX6_lapses_16 (by decide) (fun c_2 => ?_) (fun c_2 => ?_)
    · skip
      exact absurd (show nI 0 = 0 from rfl) c_2
    · skip
      refine lv_iconst (v := nI 0) hx hb dX6_lapses_19 (by decide) ?_
      have hT9 : mLapT x = nI 1 := by simp [mLapT, c_1, eq_true c_2]
      have eK9 : (mPost (mLapT x) K (mGoes K (nI 0))) = (mGoes K (nI 1)) := by rw [hT9, mPost_1] <;> rfl
      have hP9 := hP
      have hD9 := hD
      rw [← eK9] at hP9 hD9
      have eR9 : nI 0 = mRes (mLapT x) (mLapR K x.toNatClampNeg) := by rw [hT9, mRes_1] <;> rfl
      exact W.iret (v := nI 0) hx hb hr (fun t ht hW => ⟨⟨nI 0, (), rfl, eR9, by rw [ht]; exact hP9, va_K.moved hW.alike hK, hD9⟩, hS.F ht⟩) hS.2.2 dX6_lapses_20
  · skip
    have c_1 := zb_t c_1
    obtain ⟨p9, hp9, hp8, hp7⟩ := mIsP_of c_1
    refine lv_iconst (v := nI 0) hx hb dX6_lapses_8 (by decide) ?_
    refine lv_goto (tgt := 13) hx hb dX6_lapses_9 (by decide) ?_
    refine zc_wVi (As := [.int (nI 0)]) (rest := []) (wr := []) ⟨hx, hb, hml, hown, hts⟩ (kX6_goesWell l D cI cZ ad K _ (nI 0) ) (cwV 1 hts gX6_lapses_X6_goesWell rfl rfl rfl (by decide +kernel) ⟨(Nat.le_of_ble_eq_true rfl), (Nat.le_of_ble_eq_true rfl)⟩) hK hP hD hS hA [0, 1, 2, 3, 4, 5, 6, 7, 8, 9, 10, 11, 12, 13, 14, 15, 16] [] rfl rfl rfl rfl rfl (by decide) (ci := 6) (q0 := 0) rfl rfl rfl rfl hl.1 rfl (Nat.le_of_ble_eq_true rfl) dX6_lapses_13 ⟨Nat.zero_le _, Nat.zero_le _⟩ (fun H locs hP hD hS => ?_)
    have hP : va_P D vwCl (mwA ad cI cZ (mGoes K (nI 0))) _ := hP
    have hD : va_D A (mwA ad cI cZ (mGoes K (nI 0))) := hD
    refine zz_top (y := nI 1) (by decide) ?_
    refine lv_if_ne (tgt := 21) hx hb dX6_lapses_16 (by decide) (fun c_3 => ?_) (fun c_3 => ?_)
    · skip
      refine lv_aload_n hx hb dX6_lapses_21 rfl (lv_at hl 0 rfl) ?_
      refine va_get (D := D) (ci := 6) (v := .ref (ad 5)) (C := RX6) (T := TX6) (N := 21) hx hb hts hinX6 hown hK hP 0 rfl rfl 8 (by decide) (hts (.fieldLink RX6 26 "AuditoriumKeysModel" "firsts" "[I") (List.mem_of_getElem? (i := 1) rfl)) (fun _ h9 => h9) rfl dX6_lapses_22 ?_
      refine lv_iload_n hx hb dX6_lapses_25 rfl (lv_at hl 1 rfl) ?_
      refine zz_top (y := nI p9) hp8 ?_
      refine zz_iald hx hb hK hP 5 0 rfl rfl p9 (by omega) (by decide) dX6_lapses_26 ?_
      refine lv_iconst (v := (-1)) hx hb dX6_lapses_27 (by decide) ?_
      refine lv_icmp_ne (tgt := 35) hx hb dX6_lapses_28 (by decide) (fun c_4 => ?_) (fun c_4 => ?_)
      · skip
        have c_4 : ¬ (mGoes K (nI 0)) 5 p9 = (-1) := c_4
        have c_4 : ¬ K 5 p9 = (-1) := c_4
        refine lv_aload_n hx hb dX6_lapses_35 rfl (lv_at hl 0 rfl) ?_
        refine va_get (D := D) (ci := 6) (v := .ref (ad 11)) (C := RX6) (T := TX6) (N := 21) hx hb hts hinX6 hown hK hP 0 rfl rfl 14 (by decide) (hts (.fieldLink RX6 44 "AuditoriumKeysModel" "lapsesAt" "[I") (List.mem_of_getElem? (i := 2) rfl)) (fun _ h9 => h9) rfl dX6_lapses_36 ?_
        refine lv_iload_n hx hb dX6_lapses_39 rfl (lv_at hl 1 rfl) ?_
        refine zz_top (y := nI p9) hp8 ?_
        refine zz_iald hx hb hK hP 11 0 rfl rfl p9 (by omega) (by decide) dX6_lapses_40 ?_
        have hT9 : mLapT x = nI 0 := by simp [mLapT, c_1, hp7, c_3, c_4]
        have eK9 : (mPost (mLapT x) K (mGoes K (nI 0))) = (mGoes K (nI 0)) := by rw [hT9, mPost_0] <;> rfl
        have hP9 := hP
        have hD9 := hD
        rw [← eK9] at hP9 hD9
        have eR9 : (mGoes K (nI 0)) 11 p9 = mRes (mLapT x) (mLapR K x.toNatClampNeg) := by rw [hT9, mRes_0, hp7] <;> (simp [mLapR, c_1, hp7, c_3, c_4]; try rfl)
        exact W.iret (v := (mGoes K (nI 0)) 11 p9) hx hb hr (fun t ht hW => ⟨⟨(mGoes K (nI 0)) 11 p9, (), rfl, eR9, by rw [ht]; exact hP9, va_K.moved hW.alike hK, hD9⟩, hS.F ht⟩) hS.2.2 dX6_lapses_41
      · skip
        have c_4 : (mGoes K (nI 0)) 5 p9 = (-1) := c_4
        have c_4 : K 5 p9 = (-1) := c_4
        refine lv_iconst (v := (-1)) hx hb dX6_lapses_31 (by decide) ?_
        refine lv_goto (tgt := 41) hx hb dX6_lapses_32 (by decide) ?_
        have hT9 : mLapT x = nI 0 := by simp [mLapT, c_1, hp7, c_3, eq_true c_4]
        have eK9 : (mPost (mLapT x) K (mGoes K (nI 0))) = (mGoes K (nI 0)) := by rw [hT9, mPost_0] <;> rfl
        have hP9 := hP
        have hD9 := hD
        rw [← eK9] at hP9 hD9
        have eR9 : (-1) = mRes (mLapT x) (mLapR K x.toNatClampNeg) := by rw [hT9, mRes_0, hp7] <;> (simp [mLapR, c_1, hp7, c_3, eq_true c_4]; try rfl)
        exact W.iret (v := (-1)) hx hb hr (fun t ht hW => ⟨⟨(-1), (), rfl, eR9, by rw [ht]; exact hP9, va_K.moved hW.alike hK, hD9⟩, hS.F ht⟩) hS.2.2 dX6_lapses_41
    · skip
      exact absurd c_3 (by decide)
set_option maxHeartbeats 4000000 in
set_option maxRecDepth 100000 in
theorem kX6_state (l : Launch) (D : va_G) (cI cZ : ClassId) (ad : Nat → Nat) (K : kS) (sz : Nat) (x : Int32)  : Met l yX6_state wsX6_state ({ frames := 3, cells := 0, slots := 0, locals := 66 }) (va_Pc [.ref (ad 0), .int x] (zPr D (zTy cI cZ) (mwA ad cI cZ K) sz)) (va_Qi (fun r (_ : Unit) => r = mRes (mSeaT x) (mState K x.toNatClampNeg)) (fun _ => zPo D (zTy cI cZ) (va_A (mwA ad cI cZ K) sz) (mwA ad cI cZ (mPost (mSeaT x) K (mGoes K (nI 0))))) (va_A (mwA ad cI cZ K) sz)) 0 0 (va_A (mwA ad cI cZ K) sz) := by
  refine Met.ofW (cc := cX6_state) (maxL := 2) (ret := (some .int)) (by decide) rfl ?_
  intro pP e s m args below meth c s₁ B hml hv
  obtain ⟨rfl, hsz, hP, hK, hD0⟩ := hv
  have hx := B.exec
  have hb := B.bytes
  have hr := B.returns
  have hts := atoms_spec (ws := wsX6_state) B.pre
  have hown : s.vm.findClass RX6 = some m.cls := findClass_of_methodNamed B.named
  have hlocks := B.notSynchronized
  subst hsz
  have hD := hD0.self (sz := s.heap.size)
  generalize hAe : va_A (mwA ad cI cZ K) s.heap.size = A at hD ⊢
  have hA : ∀ q : Nat, s.heap.size ≤ q → A q := fun q h => by rw [← hAe]; exact Or.inr h
  have hS : va_S A s.heap s.heap [] := va_S.rf
  have hl := lv_entry ([.ref (ad 0), .int x]) (n := 2) (Nat.le_of_ble_eq_true rfl)
  rw [lg_entry_eq]
  generalize (lg_sl ([.ref (ad 0), .int x]) ++ List.replicate (2 - (lg_sl ([.ref (ad 0), .int x])).length) Slot.unset).toArray = ls at hl ⊢
  have hl : lv_has ls 2 [(0, .ref (ad 0)), (1, .int x)] := hl
  refine lv_aload_n hx hb dX6_state_0 rfl (lv_at hl 0 rfl) ?_
  refine lv_iload_n hx hb dX6_state_1 rfl (lv_at hl 1 rfl) ?_
  refine zc_rS (As := [.int x]) (rest := [.ref (ad 0)]) ⟨hx, hb, hml, hown, hts⟩ (kX6_isSeat l x ) (va_cwS 1 hts gX6_state_X6_isSeat rfl rfl rfl (by decide +kernel) ⟨(Nat.le_of_ble_eq_true rfl), (Nat.le_of_ble_eq_true rfl)⟩) rfl hl.1 rfl (Nat.le_of_ble_eq_true rfl) dX6_state_2 ⟨Nat.zero_le _, Nat.zero_le _⟩ ?_
  refine lv_if_eq (tgt := 12) hx hb dX6_state_5 (by decide) (fun c_1 => ?_) (fun c_1 => ?_)
  · skip
    have c_1 := zb_f c_1
    refine lv_iconst (v := nI 1) hx hb dX6_state_12 (by decide) ?_
    refine zc_wVi (As := [.int (nI 1)]) (rest := []) (wr := []) ⟨hx, hb, hml, hown, hts⟩ (kX6_goesWell l D cI cZ ad K _ (nI 1) ) (cwV 1 hts gX6_state_X6_goesWell rfl rfl rfl (by decide +kernel) ⟨(Nat.le_of_ble_eq_true rfl), (Nat.le_of_ble_eq_true rfl)⟩) hK hP hD hS hA [0, 1, 2, 3, 4, 5, 6, 7, 8, 9, 10, 11, 12, 13, 14, 15, 16] [] rfl rfl rfl rfl rfl (by decide) (ci := 6) (q0 := 0) rfl rfl rfl rfl hl.1 rfl (Nat.le_of_ble_eq_true rfl) dX6_state_13 ⟨Nat.zero_le _, Nat.zero_le _⟩ (fun H locs hP hD hS => ?_)
    have hP : va_P D vwCl (mwA ad cI cZ (mGoes K (nI 1))) _ := hP
    have hD : va_D A (mwA ad cI cZ (mGoes K (nI 1))) := hD
    refine zz_top (y := nI 0) (by decide) ?_
    refine lv_if_eq (tgt := 27) hx hb dX6_state_16 (by decide) (fun c_2 => ?_) (fun c_2 => ?_)
    · skip
      refine lv_iconst (v := nI 0) hx hb dX6_state_27 (by decide) ?_
      have hT9 : mSeaT x = nI 1 := by simp [mSeaT, c_1, eq_true c_2]
      have eK9 : (mPost (mSeaT x) K (mGoes K (nI 0))) = (mGoes K (nI 1)) := by rw [hT9, mPost_1] <;> rfl
      have hP9 := hP
      have hD9 := hD
      rw [← eK9] at hP9 hD9
      have eR9 : nI 0 = mRes (mSeaT x) (mState K x.toNatClampNeg) := by rw [hT9, mRes_1] <;> rfl
      exact W.iret (v := nI 0) hx hb hr (fun t ht hW => ⟨⟨nI 0, (), rfl, eR9, by rw [ht]; exact hP9, va_K.moved hW.alike hK, hD9⟩, hS.F ht⟩) hS.2.2 dX6_state_28
    · skip
      exact absurd (show nI 0 = 0 from rfl) c_2
  · skip
    have c_1 := zb_t c_1
    obtain ⟨p9, hp9, hp8, hp7⟩ := mIsS_of c_1
    refine lv_iconst (v := nI 0) hx hb dX6_state_8 (by decide) ?_
    refine lv_goto (tgt := 13) hx hb dX6_state_9 (by decide) ?_
    refine zc_wVi (As := [.int (nI 0)]) (rest := []) (wr := []) ⟨hx, hb, hml, hown, hts⟩ (kX6_goesWell l D cI cZ ad K _ (nI 0) ) (cwV 1 hts gX6_state_X6_goesWell rfl rfl rfl (by decide +kernel) ⟨(Nat.le_of_ble_eq_true rfl), (Nat.le_of_ble_eq_true rfl)⟩) hK hP hD hS hA [0, 1, 2, 3, 4, 5, 6, 7, 8, 9, 10, 11, 12, 13, 14, 15, 16] [] rfl rfl rfl rfl rfl (by decide) (ci := 6) (q0 := 0) rfl rfl rfl rfl hl.1 rfl (Nat.le_of_ble_eq_true rfl) dX6_state_13 ⟨Nat.zero_le _, Nat.zero_le _⟩ (fun H locs hP hD hS => ?_)
    have hP : va_P D vwCl (mwA ad cI cZ (mGoes K (nI 0))) _ := hP
    have hD : va_D A (mwA ad cI cZ (mGoes K (nI 0))) := hD
    refine zz_top (y := nI 1) (by decide) ?_
    refine lv_if_eq (tgt := 27) hx hb dX6_state_16 (by decide) (fun c_3 => ?_) (fun c_3 => ?_)
    · skip
      exact absurd c_3 (by decide)
    · skip
      refine lv_aload_n hx hb dX6_state_19 rfl (lv_at hl 0 rfl) ?_
      refine lv_iload_n hx hb dX6_state_20 rfl (lv_at hl 1 rfl) ?_
      refine zz_top (y := nI p9) hp8 ?_
      refine zc_rV (As := [.int (nI p9)]) (rest := []) ⟨hx, hb, hml, hown, hts⟩ (kX6_stateOf l D cI cZ ad (mGoes K (nI 0)) p9 (by omega)) (cwV 1 hts gX6_state_X6_stateOf rfl rfl rfl (by decide +kernel) ⟨(Nat.le_of_ble_eq_true rfl), (Nat.le_of_ble_eq_true rfl)⟩) hK hP (ci := 6) (q0 := 0) rfl rfl rfl rfl hl.1 rfl (Nat.le_of_ble_eq_true rfl) dX6_state_21 ⟨Nat.zero_le _, Nat.zero_le _⟩ ?_
      refine lv_goto (tgt := 28) hx hb dX6_state_24 (by decide) ?_
      have hT9 : mSeaT x = nI 0 := by simp [mSeaT, c_1, hp7, c_3]
      have eK9 : (mPost (mSeaT x) K (mGoes K (nI 0))) = (mGoes K (nI 0)) := by rw [hT9, mPost_0] <;> rfl
      have hP9 := hP
      have hD9 := hD
      rw [← eK9] at hP9 hD9
      have eR9 : mState (mGoes K (nI 0)) p9 = mRes (mSeaT x) (mState K x.toNatClampNeg) := by rw [hT9, mRes_0, hp7] <;> rfl
      exact W.iret (v := mState (mGoes K (nI 0)) p9) hx hb hr (fun t ht hW => ⟨⟨mState (mGoes K (nI 0)) p9, (), rfl, eR9, by rw [ht]; exact hP9, va_K.moved hW.alike hK, hD9⟩, hS.F ht⟩) hS.2.2 dX6_state_28
set_option maxHeartbeats 4000000 in
set_option maxRecDepth 100000 in
theorem kX6_ownerBySales (l : Launch) (D : va_G) (cI cZ : ClassId) (ad : Nat → Nat) (K : kS) (sz : Nat) (x : Int32)  : Met l yX6_ownerBySales wsX6_ownerBySales ({ frames := 2, cells := 0, slots := 0, locals := 42 }) (va_Pc [.ref (ad 0), .int x] (zPr D (zTy cI cZ) (mwA ad cI cZ K) sz)) (va_Qi (fun r (_ : Unit) => r = mRes (mSeaT x) (K 13 x.toNatClampNeg)) (fun _ => zPo D (zTy cI cZ) (va_A (mwA ad cI cZ K) sz) (mwA ad cI cZ (mPost (mSeaT x) K (mGoes K (nI 0))))) (va_A (mwA ad cI cZ K) sz)) 0 0 (va_A (mwA ad cI cZ K) sz) := by
  refine Met.ofW (cc := cX6_ownerBySales) (maxL := 2) (ret := (some .int)) (by decide) rfl ?_
  intro pP e s m args below meth c s₁ B hml hv
  obtain ⟨rfl, hsz, hP, hK, hD0⟩ := hv
  have hx := B.exec
  have hb := B.bytes
  have hr := B.returns
  have hts := atoms_spec (ws := wsX6_ownerBySales) B.pre
  have hown : s.vm.findClass RX6 = some m.cls := findClass_of_methodNamed B.named
  have hlocks := B.notSynchronized
  subst hsz
  have hD := hD0.self (sz := s.heap.size)
  generalize hAe : va_A (mwA ad cI cZ K) s.heap.size = A at hD ⊢
  have hA : ∀ q : Nat, s.heap.size ≤ q → A q := fun q h => by rw [← hAe]; exact Or.inr h
  have hS : va_S A s.heap s.heap [] := va_S.rf
  have hinX6 : ∀ w ∈ u_ws RX6 TX6 21, w ∈ wsX6_ownerBySales := by decide +kernel
  have hl := lv_entry ([.ref (ad 0), .int x]) (n := 2) (Nat.le_of_ble_eq_true rfl)
  rw [lg_entry_eq]
  generalize (lg_sl ([.ref (ad 0), .int x]) ++ List.replicate (2 - (lg_sl ([.ref (ad 0), .int x])).length) Slot.unset).toArray = ls at hl ⊢
  have hl : lv_has ls 2 [(0, .ref (ad 0)), (1, .int x)] := hl
  refine lv_aload_n hx hb dX6_ownerBySales_0 rfl (lv_at hl 0 rfl) ?_
  refine lv_iload_n hx hb dX6_ownerBySales_1 rfl (lv_at hl 1 rfl) ?_
  refine zc_rS (As := [.int x]) (rest := [.ref (ad 0)]) ⟨hx, hb, hml, hown, hts⟩ (kX6_isSeat l x ) (va_cwS 1 hts gX6_ownerBySales_X6_isSeat rfl rfl rfl (by decide +kernel) ⟨(Nat.le_of_ble_eq_true rfl), (Nat.le_of_ble_eq_true rfl)⟩) rfl hl.1 rfl (Nat.le_of_ble_eq_true rfl) dX6_ownerBySales_2 ⟨Nat.zero_le _, Nat.zero_le _⟩ ?_
  refine lv_if_eq (tgt := 12) hx hb dX6_ownerBySales_5 (by decide) (fun c_1 => ?_) (fun c_1 => ?_)
  · skip
    have c_1 := zb_f c_1
    refine lv_iconst (v := nI 1) hx hb dX6_ownerBySales_12 (by decide) ?_
    refine zc_wVi (As := [.int (nI 1)]) (rest := []) (wr := []) ⟨hx, hb, hml, hown, hts⟩ (kX6_goesWell l D cI cZ ad K _ (nI 1) ) (cwV 1 hts gX6_ownerBySales_X6_goesWell rfl rfl rfl (by decide +kernel) ⟨(Nat.le_of_ble_eq_true rfl), (Nat.le_of_ble_eq_true rfl)⟩) hK hP hD hS hA [0, 1, 2, 3, 4, 5, 6, 7, 8, 9, 10, 11, 12, 13, 14, 15, 16] [] rfl rfl rfl rfl rfl (by decide) (ci := 6) (q0 := 0) rfl rfl rfl rfl hl.1 rfl (Nat.le_of_ble_eq_true rfl) dX6_ownerBySales_13 ⟨Nat.zero_le _, Nat.zero_le _⟩ (fun H locs hP hD hS => ?_)
    have hP : va_P D vwCl (mwA ad cI cZ (mGoes K (nI 1))) _ := hP
    have hD : va_D A (mwA ad cI cZ (mGoes K (nI 1))) := hD
    refine zz_top (y := nI 0) (by decide) ?_
    refine lv_if_eq (tgt := 28) hx hb dX6_ownerBySales_16 (by decide) (fun c_2 => ?_) (fun c_2 => ?_)
    · skip
      refine lv_iconst (v := nI 0) hx hb dX6_ownerBySales_28 (by decide) ?_
      have hT9 : mSeaT x = nI 1 := by simp [mSeaT, c_1, eq_true c_2]
      have eK9 : (mPost (mSeaT x) K (mGoes K (nI 0))) = (mGoes K (nI 1)) := by rw [hT9, mPost_1] <;> rfl
      have hP9 := hP
      have hD9 := hD
      rw [← eK9] at hP9 hD9
      have eR9 : nI 0 = mRes (mSeaT x) (K 13 x.toNatClampNeg) := by rw [hT9, mRes_1] <;> rfl
      exact W.iret (v := nI 0) hx hb hr (fun t ht hW => ⟨⟨nI 0, (), rfl, eR9, by rw [ht]; exact hP9, va_K.moved hW.alike hK, hD9⟩, hS.F ht⟩) hS.2.2 dX6_ownerBySales_29
    · skip
      exact absurd (show nI 0 = 0 from rfl) c_2
  · skip
    have c_1 := zb_t c_1
    obtain ⟨p9, hp9, hp8, hp7⟩ := mIsS_of c_1
    refine lv_iconst (v := nI 0) hx hb dX6_ownerBySales_8 (by decide) ?_
    refine lv_goto (tgt := 13) hx hb dX6_ownerBySales_9 (by decide) ?_
    refine zc_wVi (As := [.int (nI 0)]) (rest := []) (wr := []) ⟨hx, hb, hml, hown, hts⟩ (kX6_goesWell l D cI cZ ad K _ (nI 0) ) (cwV 1 hts gX6_ownerBySales_X6_goesWell rfl rfl rfl (by decide +kernel) ⟨(Nat.le_of_ble_eq_true rfl), (Nat.le_of_ble_eq_true rfl)⟩) hK hP hD hS hA [0, 1, 2, 3, 4, 5, 6, 7, 8, 9, 10, 11, 12, 13, 14, 15, 16] [] rfl rfl rfl rfl rfl (by decide) (ci := 6) (q0 := 0) rfl rfl rfl rfl hl.1 rfl (Nat.le_of_ble_eq_true rfl) dX6_ownerBySales_13 ⟨Nat.zero_le _, Nat.zero_le _⟩ (fun H locs hP hD hS => ?_)
    have hP : va_P D vwCl (mwA ad cI cZ (mGoes K (nI 0))) _ := hP
    have hD : va_D A (mwA ad cI cZ (mGoes K (nI 0))) := hD
    refine zz_top (y := nI 1) (by decide) ?_
    refine lv_if_eq (tgt := 28) hx hb dX6_ownerBySales_16 (by decide) (fun c_3 => ?_) (fun c_3 => ?_)
    · skip
      exact absurd c_3 (by decide)
    · skip
      refine lv_aload_n hx hb dX6_ownerBySales_19 rfl (lv_at hl 0 rfl) ?_
      refine va_get (D := D) (ci := 6) (v := .ref (ad 13)) (C := RX6) (T := TX6) (N := 21) hx hb hts hinX6 hown hK hP 0 rfl rfl 16 (by decide) (hts (.fieldLink RX6 50 "AuditoriumKeysModel" "owners" "[I") (List.mem_of_getElem? (i := 1) rfl)) (fun _ h9 => h9) rfl dX6_ownerBySales_20 ?_
      refine lv_iload_n hx hb dX6_ownerBySales_23 rfl (lv_at hl 1 rfl) ?_
      refine zz_top (y := nI p9) hp8 ?_
      refine zz_iald hx hb hK hP 13 0 rfl rfl p9 (by omega) (by decide) dX6_ownerBySales_24 ?_
      refine lv_goto (tgt := 29) hx hb dX6_ownerBySales_25 (by decide) ?_
      have hT9 : mSeaT x = nI 0 := by simp [mSeaT, c_1, hp7, c_3]
      have eK9 : (mPost (mSeaT x) K (mGoes K (nI 0))) = (mGoes K (nI 0)) := by rw [hT9, mPost_0] <;> rfl
      have hP9 := hP
      have hD9 := hD
      rw [← eK9] at hP9 hD9
      have eR9 : (mGoes K (nI 0)) 13 p9 = mRes (mSeaT x) (K 13 x.toNatClampNeg) := by rw [hT9, mRes_0, hp7] <;> rfl
      exact W.iret (v := (mGoes K (nI 0)) 13 p9) hx hb hr (fun t ht hW => ⟨⟨(mGoes K (nI 0)) 13 p9, (), rfl, eR9, by rw [ht]; exact hP9, va_K.moved hW.alike hK, hD9⟩, hS.F ht⟩) hS.2.2 dX6_ownerBySales_29
set_option maxHeartbeats 4000000 in
set_option maxRecDepth 100000 in
theorem kX6_owner (l : Launch) (D : va_G) (cI cZ : ClassId) (ad : Nat → Nat) (K : kS) (sz : Nat) (x : Int32)  : Met l yX6_owner wsX6_owner ({ frames := 3, cells := 0, slots := 0, locals := 63 }) (va_Pc [.ref (ad 0), .int x] (zPr D (zTy cI cZ) (mwA ad cI cZ K) sz)) (va_Qi (fun r (_ : Unit) => r = mRes (mSeaT x) (K 13 x.toNatClampNeg)) (fun _ => zPo D (zTy cI cZ) (va_A (mwA ad cI cZ K) sz) (mwA ad cI cZ (mPost (mSeaT x) K (mGoes K (nI 0))))) (va_A (mwA ad cI cZ K) sz)) 0 0 (va_A (mwA ad cI cZ K) sz) := by
  refine Met.ofW (cc := cX6_owner) (maxL := 2) (ret := (some .int)) (by decide) rfl ?_
  intro pP e s m args below meth c s₁ B hml hv
  obtain ⟨rfl, hsz, hP, hK, hD0⟩ := hv
  have hx := B.exec
  have hb := B.bytes
  have hr := B.returns
  have hts := atoms_spec (ws := wsX6_owner) B.pre
  have hown : s.vm.findClass RX6 = some m.cls := findClass_of_methodNamed B.named
  have hlocks := B.notSynchronized
  subst hsz
  have hD := hD0.self (sz := s.heap.size)
  generalize hAe : va_A (mwA ad cI cZ K) s.heap.size = A at hD ⊢
  have hA : ∀ q : Nat, s.heap.size ≤ q → A q := fun q h => by rw [← hAe]; exact Or.inr h
  have hS : va_S A s.heap s.heap [] := va_S.rf
  have hl := lv_entry ([.ref (ad 0), .int x]) (n := 2) (Nat.le_of_ble_eq_true rfl)
  rw [lg_entry_eq]
  generalize (lg_sl ([.ref (ad 0), .int x]) ++ List.replicate (2 - (lg_sl ([.ref (ad 0), .int x])).length) Slot.unset).toArray = ls at hl ⊢
  have hl : lv_has ls 2 [(0, .ref (ad 0)), (1, .int x)] := hl
  refine lv_aload_n hx hb dX6_owner_0 rfl (lv_at hl 0 rfl) ?_
  refine lv_iload_n hx hb dX6_owner_1 rfl (lv_at hl 1 rfl) ?_
  refine zc_wVi (As := [.int x]) (rest := []) (wr := []) ⟨hx, hb, hml, hown, hts⟩ (kX6_ownerBySales l D cI cZ ad K _ x ) (cwV 1 hts gX6_owner_X6_ownerBySales rfl rfl rfl (by decide +kernel) ⟨(Nat.le_of_ble_eq_true rfl), (Nat.le_of_ble_eq_true rfl)⟩) hK hP hD hS hA [0, 1, 2, 3, 4, 5, 6, 7, 8, 9, 10, 11, 12, 13, 14, 15, 16] [] rfl rfl rfl rfl rfl (by decide) (ci := 6) (q0 := 0) rfl rfl rfl rfl hl.1 rfl (Nat.le_of_ble_eq_true rfl) dX6_owner_2 ⟨Nat.zero_le _, Nat.zero_le _⟩ (fun H locs hP hD hS => ?_)
  have hP : va_P D vwCl (mwA ad cI cZ (mPost (mSeaT x) K (mGoes K (nI 0)))) _ := hP
  have hD : va_D A (mwA ad cI cZ (mPost (mSeaT x) K (mGoes K (nI 0)))) := hD
  have hP9 := hP
  have hD9 := hD
  exact W.iret (v := mRes (mSeaT x) (K 13 x.toNatClampNeg)) hx hb hr (fun t ht hW => ⟨⟨mRes (mSeaT x) (K 13 x.toNatClampNeg), (), rfl, rfl, by rw [ht]; exact hP9, va_K.moved hW.alike hK, hD9⟩, hS.F ht⟩) hS.2.2 dX6_owner_5
set_option maxHeartbeats 4000000 in
set_option maxRecDepth 100000 in
theorem kX6_isSingle (l : Launch) (D : va_G) (cI cZ : ClassId) (ad : Nat → Nat) (K : kS) (sz : Nat) (x : Int32)  : Met l yX6_isSingle wsX6_isSingle ({ frames := 4, cells := 0, slots := 0, locals := 90 }) (va_Pc [.ref (ad 0), .int x] (zPr D (zTy cI cZ) (mwA ad cI cZ K) sz)) (va_Qi (fun r (_ : Unit) => r = mRes (mSeaT x) (zb (mAlone K x.toNatClampNeg))) (fun _ => zPo D (zTy cI cZ) (va_A (mwA ad cI cZ K) sz) (mwA ad cI cZ (mPost (mSeaT x) K (mGoes K (nI 0))))) (va_A (mwA ad cI cZ K) sz)) 0 0 (va_A (mwA ad cI cZ K) sz) := by
  refine Met.ofW (cc := cX6_isSingle) (maxL := 2) (ret := (some .boolean)) (by decide) rfl ?_
  intro pP e s m args below meth c s₁ B hml hv
  obtain ⟨rfl, hsz, hP, hK, hD0⟩ := hv
  have hx := B.exec
  have hb := B.bytes
  have hr := B.returns
  have hts := atoms_spec (ws := wsX6_isSingle) B.pre
  have hown : s.vm.findClass RX6 = some m.cls := findClass_of_methodNamed B.named
  have hlocks := B.notSynchronized
  subst hsz
  have hD := hD0.self (sz := s.heap.size)
  generalize hAe : va_A (mwA ad cI cZ K) s.heap.size = A at hD ⊢
  have hA : ∀ q : Nat, s.heap.size ≤ q → A q := fun q h => by rw [← hAe]; exact Or.inr h
  have hS : va_S A s.heap s.heap [] := va_S.rf
  have hl := lv_entry ([.ref (ad 0), .int x]) (n := 2) (Nat.le_of_ble_eq_true rfl)
  rw [lg_entry_eq]
  generalize (lg_sl ([.ref (ad 0), .int x]) ++ List.replicate (2 - (lg_sl ([.ref (ad 0), .int x])).length) Slot.unset).toArray = ls at hl ⊢
  have hl : lv_has ls 2 [(0, .ref (ad 0)), (1, .int x)] := hl
  refine lv_aload_n hx hb dX6_isSingle_0 rfl (lv_at hl 0 rfl) ?_
  refine lv_iload_n hx hb dX6_isSingle_1 rfl (lv_at hl 1 rfl) ?_
  refine zc_rS (As := [.int x]) (rest := [.ref (ad 0)]) ⟨hx, hb, hml, hown, hts⟩ (kX6_isSeat l x ) (va_cwS 1 hts gX6_isSingle_X6_isSeat rfl rfl rfl (by decide +kernel) ⟨(Nat.le_of_ble_eq_true rfl), (Nat.le_of_ble_eq_true rfl)⟩) rfl hl.1 rfl (Nat.le_of_ble_eq_true rfl) dX6_isSingle_2 ⟨Nat.zero_le _, Nat.zero_le _⟩ ?_
  refine lv_if_eq (tgt := 12) hx hb dX6_isSingle_5 (by decide) (fun c_1 => ?_) (fun c_1 => ?_)
  · skip
    have c_1 := zb_f c_1
    refine lv_iconst (v := nI 1) hx hb dX6_isSingle_12 (by decide) ?_
    refine zc_wVi (As := [.int (nI 1)]) (rest := []) (wr := []) ⟨hx, hb, hml, hown, hts⟩ (kX6_goesWell l D cI cZ ad K _ (nI 1) ) (cwV 1 hts gX6_isSingle_X6_goesWell rfl rfl rfl (by decide +kernel) ⟨(Nat.le_of_ble_eq_true rfl), (Nat.le_of_ble_eq_true rfl)⟩) hK hP hD hS hA [0, 1, 2, 3, 4, 5, 6, 7, 8, 9, 10, 11, 12, 13, 14, 15, 16] [] rfl rfl rfl rfl rfl (by decide) (ci := 6) (q0 := 0) rfl rfl rfl rfl hl.1 rfl (Nat.le_of_ble_eq_true rfl) dX6_isSingle_13 ⟨Nat.zero_le _, Nat.zero_le _⟩ (fun H locs hP hD hS => ?_)
    have hP : va_P D vwCl (mwA ad cI cZ (mGoes K (nI 1))) _ := hP
    have hD : va_D A (mwA ad cI cZ (mGoes K (nI 1))) := hD
    refine zz_top (y := nI 0) (by decide) ?_
    refine lv_if_eq (tgt := 31) hx hb dX6_isSingle_16 (by decide) (fun c_2 => ?_) (fun c_2 => ?_)
    · skip
      refine lv_iconst (v := nI 0) hx hb dX6_isSingle_31 (by decide) ?_
      have hT9 : mSeaT x = nI 1 := by simp [mSeaT, c_1, eq_true c_2]
      have eK9 : (mPost (mSeaT x) K (mGoes K (nI 0))) = (mGoes K (nI 1)) := by rw [hT9, mPost_1] <;> rfl
      have hP9 := hP
      have hD9 := hD
      rw [← eK9] at hP9 hD9
      have eR9 : nI 0 = mRes (mSeaT x) (zb (mAlone K x.toNatClampNeg)) := by rw [hT9, mRes_1] <;> rfl
      exact W.zret (v := nI 0) hx hb hr rfl (fun t ht hW => ⟨⟨nI 0, (), rfl, eR9, by rw [ht]; exact hP9, va_K.moved hW.alike hK, hD9⟩, hS.F ht⟩) hS.2.2 dX6_isSingle_32
    · skip
      exact absurd (show nI 0 = 0 from rfl) c_2
  · skip
    have c_1 := zb_t c_1
    obtain ⟨p9, hp9, hp8, hp7⟩ := mIsS_of c_1
    refine lv_iconst (v := nI 0) hx hb dX6_isSingle_8 (by decide) ?_
    refine lv_goto (tgt := 13) hx hb dX6_isSingle_9 (by decide) ?_
    refine zc_wVi (As := [.int (nI 0)]) (rest := []) (wr := []) ⟨hx, hb, hml, hown, hts⟩ (kX6_goesWell l D cI cZ ad K _ (nI 0) ) (cwV 1 hts gX6_isSingle_X6_goesWell rfl rfl rfl (by decide +kernel) ⟨(Nat.le_of_ble_eq_true rfl), (Nat.le_of_ble_eq_true rfl)⟩) hK hP hD hS hA [0, 1, 2, 3, 4, 5, 6, 7, 8, 9, 10, 11, 12, 13, 14, 15, 16] [] rfl rfl rfl rfl rfl (by decide) (ci := 6) (q0 := 0) rfl rfl rfl rfl hl.1 rfl (Nat.le_of_ble_eq_true rfl) dX6_isSingle_13 ⟨Nat.zero_le _, Nat.zero_le _⟩ (fun H locs hP hD hS => ?_)
    have hP : va_P D vwCl (mwA ad cI cZ (mGoes K (nI 0))) _ := hP
    have hD : va_D A (mwA ad cI cZ (mGoes K (nI 0))) := hD
    refine zz_top (y := nI 1) (by decide) ?_
    refine lv_if_eq (tgt := 31) hx hb dX6_isSingle_16 (by decide) (fun c_3 => ?_) (fun c_3 => ?_)
    · skip
      exact absurd c_3 (by decide)
    · skip
      refine lv_aload_n hx hb dX6_isSingle_19 rfl (lv_at hl 0 rfl) ?_
      refine lv_iload_n hx hb dX6_isSingle_20 rfl (lv_at hl 1 rfl) ?_
      refine zz_top (y := nI p9) hp8 ?_
      refine zc_rV (As := [.int (nI p9)]) (rest := []) ⟨hx, hb, hml, hown, hts⟩ (kX6_isAlone l D cI cZ ad (mGoes K (nI 0)) p9 (by omega)) (cwV 1 hts gX6_isSingle_X6_isAlone rfl rfl rfl (by decide +kernel) ⟨(Nat.le_of_ble_eq_true rfl), (Nat.le_of_ble_eq_true rfl)⟩) hK hP (ci := 6) (q0 := 0) rfl rfl rfl rfl hl.1 rfl (Nat.le_of_ble_eq_true rfl) dX6_isSingle_21 ⟨Nat.zero_le _, Nat.zero_le _⟩ ?_
      refine lv_if_eq (tgt := 31) hx hb dX6_isSingle_24 (by decide) (fun c_4 => ?_) (fun c_4 => ?_)
      · skip
        have c_4 := zb_f c_4
        refine lv_iconst (v := nI 0) hx hb dX6_isSingle_31 (by decide) ?_
        have hT9 : mSeaT x = nI 0 := by simp [mSeaT, c_1, hp7, c_3, c_4]
        have eK9 : (mPost (mSeaT x) K (mGoes K (nI 0))) = (mGoes K (nI 0)) := by rw [hT9, mPost_0] <;> rfl
        have hP9 := hP
        have hD9 := hD
        rw [← eK9] at hP9 hD9
        have eR9 : nI 0 = mRes (mSeaT x) (zb (mAlone K x.toNatClampNeg)) := by rw [hT9, mRes_0, hp7] <;> (show _ = zb (mAlone (mGoes K (nI 0)) p9); rw [c_4]; rfl)
        exact W.zret (v := nI 0) hx hb hr rfl (fun t ht hW => ⟨⟨nI 0, (), rfl, eR9, by rw [ht]; exact hP9, va_K.moved hW.alike hK, hD9⟩, hS.F ht⟩) hS.2.2 dX6_isSingle_32
      · skip
        have c_4 := zb_t c_4
        refine lv_iconst (v := nI 1) hx hb dX6_isSingle_27 (by decide) ?_
        refine lv_goto (tgt := 32) hx hb dX6_isSingle_28 (by decide) ?_
        have hT9 : mSeaT x = nI 0 := by simp [mSeaT, c_1, hp7, c_3, c_4]
        have eK9 : (mPost (mSeaT x) K (mGoes K (nI 0))) = (mGoes K (nI 0)) := by rw [hT9, mPost_0] <;> rfl
        have hP9 := hP
        have hD9 := hD
        rw [← eK9] at hP9 hD9
        have eR9 : nI 1 = mRes (mSeaT x) (zb (mAlone K x.toNatClampNeg)) := by rw [hT9, mRes_0, hp7] <;> (show _ = zb (mAlone (mGoes K (nI 0)) p9); rw [c_4]; rfl)
        exact W.zret (v := nI 1) hx hb hr rfl (fun t ht hW => ⟨⟨nI 1, (), rfl, eR9, by rw [ht]; exact hP9, va_K.moved hW.alike hK, hD9⟩, hS.F ht⟩) hS.2.2 dX6_isSingle_32
set_option maxHeartbeats 4000000 in
set_option maxRecDepth 100000 in
theorem kX6_spent (l : Launch) (D : va_G) (cI cZ : ClassId) (ad : Nat → Nat) (K : kS) (sz : Nat) (x : Int32)  : Met l yX6_spent wsX6_spent ({ frames := 2, cells := 0, slots := 0, locals := 42 }) (va_Pc [.ref (ad 0), .int x] (zPr D (zTy cI cZ) (mwA ad cI cZ K) sz)) (va_Qi (fun r (_ : Unit) => r = mRes (mLapT x) (K 12 x.toNatClampNeg)) (fun _ => zPo D (zTy cI cZ) (va_A (mwA ad cI cZ K) sz) (mwA ad cI cZ (mPost (mLapT x) K (mGoes K (nI 0))))) (va_A (mwA ad cI cZ K) sz)) 0 0 (va_A (mwA ad cI cZ K) sz) := by
  refine Met.ofW (cc := cX6_spent) (maxL := 2) (ret := (some .int)) (by decide) rfl ?_
  intro pP e s m args below meth c s₁ B hml hv
  obtain ⟨rfl, hsz, hP, hK, hD0⟩ := hv
  have hx := B.exec
  have hb := B.bytes
  have hr := B.returns
  have hts := atoms_spec (ws := wsX6_spent) B.pre
  have hown : s.vm.findClass RX6 = some m.cls := findClass_of_methodNamed B.named
  have hlocks := B.notSynchronized
  subst hsz
  have hD := hD0.self (sz := s.heap.size)
  generalize hAe : va_A (mwA ad cI cZ K) s.heap.size = A at hD ⊢
  have hA : ∀ q : Nat, s.heap.size ≤ q → A q := fun q h => by rw [← hAe]; exact Or.inr h
  have hS : va_S A s.heap s.heap [] := va_S.rf
  have hinX6 : ∀ w ∈ u_ws RX6 TX6 21, w ∈ wsX6_spent := by decide +kernel
  have hl := lv_entry ([.ref (ad 0), .int x]) (n := 2) (Nat.le_of_ble_eq_true rfl)
  rw [lg_entry_eq]
  generalize (lg_sl ([.ref (ad 0), .int x]) ++ List.replicate (2 - (lg_sl ([.ref (ad 0), .int x])).length) Slot.unset).toArray = ls at hl ⊢
  have hl : lv_has ls 2 [(0, .ref (ad 0)), (1, .int x)] := hl
  refine lv_aload_n hx hb dX6_spent_0 rfl (lv_at hl 0 rfl) ?_
  refine lv_iload_n hx hb dX6_spent_1 rfl (lv_at hl 1 rfl) ?_
  refine zc_rS (As := [.int x]) (rest := [.ref (ad 0)]) ⟨hx, hb, hml, hown, hts⟩ (kX6_isPerson l x ) (va_cwS 1 hts gX6_spent_X6_isPerson rfl rfl rfl (by decide +kernel) ⟨(Nat.le_of_ble_eq_true rfl), (Nat.le_of_ble_eq_true rfl)⟩) rfl hl.1 rfl (Nat.le_of_ble_eq_true rfl) dX6_spent_2 ⟨Nat.zero_le _, Nat.zero_le _⟩ ?_
  refine lv_if_eq (tgt := 12) hx hb dX6_spent_5 (by decide) (fun c_1 => ?_) (fun c_1 => ?_)
  · skip
    have c_1 := zb_f c_1
    refine lv_iconst (v := nI 1) hx hb dX6_spent_12 (by decide) ?_
    refine zc_wVi (As := [.int (nI 1)]) (rest := []) (wr := []) ⟨hx, hb, hml, hown, hts⟩ (kX6_goesWell l D cI cZ ad K _ (nI 1) ) (cwV 1 hts gX6_spent_X6_goesWell rfl rfl rfl (by decide +kernel) ⟨(Nat.le_of_ble_eq_true rfl), (Nat.le_of_ble_eq_true rfl)⟩) hK hP hD hS hA [0, 1, 2, 3, 4, 5, 6, 7, 8, 9, 10, 11, 12, 13, 14, 15, 16] [] rfl rfl rfl rfl rfl (by decide) (ci := 6) (q0 := 0) rfl rfl rfl rfl hl.1 rfl (Nat.le_of_ble_eq_true rfl) dX6_spent_13 ⟨Nat.zero_le _, Nat.zero_le _⟩ (fun H locs hP hD hS => ?_)
    have hP : va_P D vwCl (mwA ad cI cZ (mGoes K (nI 1))) _ := hP
    have hD : va_D A (mwA ad cI cZ (mGoes K (nI 1))) := hD
    refine zz_top (y := nI 0) (by decide) ?_
    refine lv_if_eq (tgt := 28) hx hb dX6_spent_16 (by decide) (fun c_2 => ?_) (fun c_2 => ?_)
    · skip
      refine lv_iconst (v := nI 0) hx hb dX6_spent_28 (by decide) ?_
      have hT9 : mLapT x = nI 1 := by simp [mLapT, c_1, eq_true c_2]
      have eK9 : (mPost (mLapT x) K (mGoes K (nI 0))) = (mGoes K (nI 1)) := by rw [hT9, mPost_1] <;> rfl
      have hP9 := hP
      have hD9 := hD
      rw [← eK9] at hP9 hD9
      have eR9 : nI 0 = mRes (mLapT x) (K 12 x.toNatClampNeg) := by rw [hT9, mRes_1] <;> rfl
      exact W.iret (v := nI 0) hx hb hr (fun t ht hW => ⟨⟨nI 0, (), rfl, eR9, by rw [ht]; exact hP9, va_K.moved hW.alike hK, hD9⟩, hS.F ht⟩) hS.2.2 dX6_spent_29
    · skip
      exact absurd (show nI 0 = 0 from rfl) c_2
  · skip
    have c_1 := zb_t c_1
    obtain ⟨p9, hp9, hp8, hp7⟩ := mIsP_of c_1
    refine lv_iconst (v := nI 0) hx hb dX6_spent_8 (by decide) ?_
    refine lv_goto (tgt := 13) hx hb dX6_spent_9 (by decide) ?_
    refine zc_wVi (As := [.int (nI 0)]) (rest := []) (wr := []) ⟨hx, hb, hml, hown, hts⟩ (kX6_goesWell l D cI cZ ad K _ (nI 0) ) (cwV 1 hts gX6_spent_X6_goesWell rfl rfl rfl (by decide +kernel) ⟨(Nat.le_of_ble_eq_true rfl), (Nat.le_of_ble_eq_true rfl)⟩) hK hP hD hS hA [0, 1, 2, 3, 4, 5, 6, 7, 8, 9, 10, 11, 12, 13, 14, 15, 16] [] rfl rfl rfl rfl rfl (by decide) (ci := 6) (q0 := 0) rfl rfl rfl rfl hl.1 rfl (Nat.le_of_ble_eq_true rfl) dX6_spent_13 ⟨Nat.zero_le _, Nat.zero_le _⟩ (fun H locs hP hD hS => ?_)
    have hP : va_P D vwCl (mwA ad cI cZ (mGoes K (nI 0))) _ := hP
    have hD : va_D A (mwA ad cI cZ (mGoes K (nI 0))) := hD
    refine zz_top (y := nI 1) (by decide) ?_
    refine lv_if_eq (tgt := 28) hx hb dX6_spent_16 (by decide) (fun c_3 => ?_) (fun c_3 => ?_)
    · skip
      exact absurd c_3 (by decide)
    · skip
      refine lv_aload_n hx hb dX6_spent_19 rfl (lv_at hl 0 rfl) ?_
      refine va_get (D := D) (ci := 6) (v := .ref (ad 12)) (C := RX6) (T := TX6) (N := 21) hx hb hts hinX6 hown hK hP 0 rfl rfl 15 (by decide) (hts (.fieldLink RX6 47 "AuditoriumKeysModel" "spent" "[I") (List.mem_of_getElem? (i := 1) rfl)) (fun _ h9 => h9) rfl dX6_spent_20 ?_
      refine lv_iload_n hx hb dX6_spent_23 rfl (lv_at hl 1 rfl) ?_
      refine zz_top (y := nI p9) hp8 ?_
      refine zz_iald hx hb hK hP 12 0 rfl rfl p9 (by omega) (by decide) dX6_spent_24 ?_
      refine lv_goto (tgt := 29) hx hb dX6_spent_25 (by decide) ?_
      have hT9 : mLapT x = nI 0 := by simp [mLapT, c_1, hp7, c_3]
      have eK9 : (mPost (mLapT x) K (mGoes K (nI 0))) = (mGoes K (nI 0)) := by rw [hT9, mPost_0] <;> rfl
      have hP9 := hP
      have hD9 := hD
      rw [← eK9] at hP9 hD9
      have eR9 : (mGoes K (nI 0)) 12 p9 = mRes (mLapT x) (K 12 x.toNatClampNeg) := by rw [hT9, mRes_0, hp7] <;> rfl
      exact W.iret (v := (mGoes K (nI 0)) 12 p9) hx hb hr (fun t ht hW => ⟨⟨(mGoes K (nI 0)) 12 p9, (), rfl, eR9, by rw [ht]; exact hP9, va_K.moved hW.alike hK, hD9⟩, hS.F ht⟩) hS.2.2 dX6_spent_29
set_option maxHeartbeats 4000000 in
set_option maxRecDepth 100000 in
theorem kX6_retract (l : Launch) (D : va_G) (cI cZ : ClassId) (ad : Nat → Nat) (K : kS) (sz : Nat) (x : Int32)  : Met l yX6_retract wsX6_retract ({ frames := 3, cells := 0, slots := 0, locals := 66 }) (va_Pc [.ref (ad 0), .int x] (zPr D (zTy cI cZ) (mwA ad cI cZ K) sz)) (va_Qi (fun r (_ : Unit) => r = mRes (mRetT K x) (K 15 x.toNatClampNeg)) (fun _ => zPo D (zTy cI cZ) (va_A (mwA ad cI cZ K) sz) (mwA ad cI cZ (mPost (mRetT K x) K (mOffE K x.toNatClampNeg (-1))))) (va_A (mwA ad cI cZ K) sz)) 0 0 (va_A (mwA ad cI cZ K) sz) := by
  refine Met.ofW (cc := cX6_retract) (maxL := 4) (ret := (some .int)) (by decide) rfl ?_
  intro pP e s m args below meth c s₁ B hml hv
  obtain ⟨rfl, hsz, hP, hK, hD0⟩ := hv
  have hx := B.exec
  have hb := B.bytes
  have hr := B.returns
  have hts := atoms_spec (ws := wsX6_retract) B.pre
  have hown : s.vm.findClass RX6 = some m.cls := findClass_of_methodNamed B.named
  have hlocks := B.notSynchronized
  subst hsz
  have hD := hD0.self (sz := s.heap.size)
  generalize hAe : va_A (mwA ad cI cZ K) s.heap.size = A at hD ⊢
  have hA : ∀ q : Nat, s.heap.size ≤ q → A q := fun q h => by rw [← hAe]; exact Or.inr h
  have hS : va_S A s.heap s.heap [] := va_S.rf
  have hinX6 : ∀ w ∈ u_ws RX6 TX6 21, w ∈ wsX6_retract := by decide +kernel
  have hl := lv_entry ([.ref (ad 0), .int x]) (n := 4) (Nat.le_of_ble_eq_true rfl)
  rw [lg_entry_eq]
  generalize (lg_sl ([.ref (ad 0), .int x]) ++ List.replicate (4 - (lg_sl ([.ref (ad 0), .int x])).length) Slot.unset).toArray = ls at hl ⊢
  have hl : lv_has ls 4 [(0, .ref (ad 0)), (1, .int x)] := hl
  refine lv_iload_n hx hb dX6_retract_0 rfl (lv_at hl 1 rfl) ?_
  refine zc_rS (As := [.int x]) (rest := []) ⟨hx, hb, hml, hown, hts⟩ (kX6_isSeat l x ) (va_cwS 1 hts gX6_retract_X6_isSeat rfl rfl rfl (by decide +kernel) ⟨(Nat.le_of_ble_eq_true rfl), (Nat.le_of_ble_eq_true rfl)⟩) rfl hl.1 rfl (Nat.le_of_ble_eq_true rfl) dX6_retract_1 ⟨Nat.zero_le _, Nat.zero_le _⟩ ?_
  refine lv_istore_n (lv' := [(2, .int (zb (mIsS x))), (0, .ref (ad 0)), (1, .int x)]) hx hb dX6_retract_4 rfl hl (by decide) rfl (fun ls hl => ?_)
  refine lv_aload_n hx hb dX6_retract_5 rfl (lv_at hl 1 rfl) ?_
  refine lv_iload_n hx hb dX6_retract_6 rfl (lv_at hl 0 rfl) ?_
  refine lv_if_ne (tgt := 14) hx hb dX6_retract_7 (by decide) (fun c_1 => ?_) (fun c_1 => ?_)
  · skip
    have c_1 := zb_t c_1
    obtain ⟨p9, hp9, hp8, hp7⟩ := mIsS_of c_1
    refine lv_aload_n hx hb dX6_retract_14 rfl (lv_at hl 1 rfl) ?_
    refine lv_iload_n hx hb dX6_retract_15 rfl (lv_at hl 2 rfl) ?_
    refine zz_top (y := nI p9) hp8 ?_
    refine zc_rV (As := [.int (nI p9)]) (rest := [.ref (ad 0)]) ⟨hx, hb, hml, hown, hts⟩ (kX6_stateOf l D cI cZ ad K p9 (by omega)) (cwV 1 hts gX6_retract_X6_stateOf rfl rfl rfl (by decide +kernel) ⟨(Nat.le_of_ble_eq_true rfl), (Nat.le_of_ble_eq_true rfl)⟩) hK hP (ci := 6) (q0 := 0) rfl rfl rfl rfl hl.1 rfl (Nat.le_of_ble_eq_true rfl) dX6_retract_16 ⟨Nat.zero_le _, Nat.zero_le _⟩ ?_
    refine lv_iconst (v := nI 3) hx hb dX6_retract_19 (by decide) ?_
    refine lv_icmp_ne (tgt := 27) hx hb dX6_retract_20 (by decide) (fun c_2 => ?_) (fun c_2 => ?_)
    · skip
      have c_2 : ¬ mState K p9 = nI 3 := c_2
      refine lv_iconst (v := nI 2) hx hb dX6_retract_27 (by decide) ?_
      refine zc_wVi (As := [.int (nI 2)]) (rest := []) (wr := []) ⟨hx, hb, hml, hown, hts⟩ (kX6_goesWell l D cI cZ ad K _ (nI 2) ) (cwV 1 hts gX6_retract_X6_goesWell rfl rfl rfl (by decide +kernel) ⟨(Nat.le_of_ble_eq_true rfl), (Nat.le_of_ble_eq_true rfl)⟩) hK hP hD hS hA [0, 1, 2, 3, 4, 5, 6, 7, 8, 9, 10, 11, 12, 13, 14, 15, 16] [] rfl rfl rfl rfl rfl (by decide) (ci := 6) (q0 := 0) rfl rfl rfl rfl hl.1 rfl (Nat.le_of_ble_eq_true rfl) dX6_retract_28 ⟨Nat.zero_le _, Nat.zero_le _⟩ (fun H locs hP hD hS => ?_)
      have hP : va_P D vwCl (mwA ad cI cZ (mGoes K (nI 2))) _ := hP
      have hD : va_D A (mwA ad cI cZ (mGoes K (nI 2))) := hD
      refine zz_top (y := nI 0) (by decide) ?_
      refine lv_if_ne (tgt := 36) hx hb dX6_retract_31 (by decide) (fun c_3 => ?_) (fun c_3 => ?_)
      · skip
        exact absurd (show nI 0 = 0 from rfl) c_3
      · skip
        refine lv_iconst (v := nI 0) hx hb dX6_retract_34 (by decide) ?_
        have hT9 : mRetT K x = nI 2 := by simp [mRetT, c_1, hp7, c_2, eq_true c_3]
        have eK9 : (mPost (mRetT K x) K (mOffE K x.toNatClampNeg (-1))) = (mGoes K (nI 2)) := by rw [hT9, mPost_2] <;> rfl
        have hP9 := hP
        have hD9 := hD
        rw [← eK9] at hP9 hD9
        have eR9 : nI 0 = mRes (mRetT K x) (K 15 x.toNatClampNeg) := by rw [hT9, mRes_2] <;> rfl
        exact W.iret (v := nI 0) hx hb hr (fun t ht hW => ⟨⟨nI 0, (), rfl, eR9, by rw [ht]; exact hP9, va_K.moved hW.alike hK, hD9⟩, hS.F ht⟩) hS.2.2 dX6_retract_35
    · skip
      have c_2 : mState K p9 = nI 3 := c_2
      refine lv_iconst (v := nI 0) hx hb dX6_retract_23 (by decide) ?_
      refine lv_goto (tgt := 28) hx hb dX6_retract_24 (by decide) ?_
      refine zc_wVi (As := [.int (nI 0)]) (rest := []) (wr := []) ⟨hx, hb, hml, hown, hts⟩ (kX6_goesWell l D cI cZ ad K _ (nI 0) ) (cwV 1 hts gX6_retract_X6_goesWell rfl rfl rfl (by decide +kernel) ⟨(Nat.le_of_ble_eq_true rfl), (Nat.le_of_ble_eq_true rfl)⟩) hK hP hD hS hA [0, 1, 2, 3, 4, 5, 6, 7, 8, 9, 10, 11, 12, 13, 14, 15, 16] [] rfl rfl rfl rfl rfl (by decide) (ci := 6) (q0 := 0) rfl rfl rfl rfl hl.1 rfl (Nat.le_of_ble_eq_true rfl) dX6_retract_28 ⟨Nat.zero_le _, Nat.zero_le _⟩ (fun H locs hP hD hS => ?_)
      have hP : va_P D vwCl (mwA ad cI cZ (mGoes K (nI 0))) _ := hP
      have hD : va_D A (mwA ad cI cZ (mGoes K (nI 0))) := hD
      refine zz_top (y := nI 1) (by decide) ?_
      refine lv_if_ne (tgt := 36) hx hb dX6_retract_31 (by decide) (fun c_4 => ?_) (fun c_4 => ?_)
      · skip
        refine lv_aload_n hx hb dX6_retract_36 rfl (lv_at hl 1 rfl) ?_
        refine va_get (D := D) (ci := 6) (v := .ref (ad 15)) (C := RX6) (T := TX6) (N := 21) hx hb hts hinX6 hown hK hP 0 rfl rfl 18 (by decide) (hts (.fieldLink RX6 56 "AuditoriumKeysModel" "offered" "[I") (List.mem_of_getElem? (i := 1) rfl)) (fun _ h9 => h9) rfl dX6_retract_37 ?_
        refine lv_iload_n hx hb dX6_retract_40 rfl (lv_at hl 2 rfl) ?_
        refine zz_top (y := nI p9) hp8 ?_
        refine zz_iald hx hb hK hP 15 0 rfl rfl p9 (by omega) (by decide) dX6_retract_41 ?_
        refine lv_istore_n (lv' := [(3, .int ((mGoes K (nI 0)) 15 p9)), (2, .int (zb (mIsS x))), (0, .ref (ad 0)), (1, .int x)]) hx hb dX6_retract_42 rfl hl (by decide) rfl (fun ls hl => ?_)
        refine lv_aload_n hx hb dX6_retract_43 rfl (lv_at hl 2 rfl) ?_
        refine va_get (D := D) (ci := 6) (v := .ref (ad 15)) (C := RX6) (T := TX6) (N := 21) hx hb hts hinX6 hown hK hP 0 rfl rfl 18 (by decide) (hts (.fieldLink RX6 56 "AuditoriumKeysModel" "offered" "[I") (List.mem_of_getElem? (i := 1) rfl)) (fun _ h9 => h9) rfl dX6_retract_44 ?_
        refine lv_iload_n hx hb dX6_retract_47 rfl (lv_at hl 3 rfl) ?_
        refine zz_top (y := nI p9) hp8 ?_
        refine lv_iconst (v := (-1)) hx hb dX6_retract_48 (by decide) ?_
        refine zz_iast hx hb hK hP hD hS 15 0 rfl rfl p9 (by omega) (by decide) dX6_retract_49 (fun H locs hP hD hS => ?_)
        have hP : va_P D vwCl (mwA ad cI cZ (setA (mGoes K (nI 0)) 15 (upd ((mGoes K (nI 0)) 15) p9 (-1)))) _ := hP
        have hD : va_D A (mwA ad cI cZ (setA (mGoes K (nI 0)) 15 (upd ((mGoes K (nI 0)) 15) p9 (-1)))) := hD
        refine lv_iload_n hx hb dX6_retract_50 rfl (lv_at hl 0 rfl) ?_
        have hT9 : mRetT K x = nI 0 := by simp [mRetT, c_1, hp7, eq_true c_2, c_4]
        have eK9 : (mPost (mRetT K x) K (mOffE K x.toNatClampNeg (-1))) = (setA (mGoes K (nI 0)) 15 (upd ((mGoes K (nI 0)) 15) p9 (-1))) := by rw [hT9, mPost_0, hp7] <;> rfl
        have hP9 := hP
        have hD9 := hD
        rw [← eK9] at hP9 hD9
        have eR9 : (mGoes K (nI 0)) 15 p9 = mRes (mRetT K x) (K 15 x.toNatClampNeg) := by rw [hT9, mRes_0, hp7] <;> rfl
        exact W.iret (v := (mGoes K (nI 0)) 15 p9) hx hb hr (fun t ht hW => ⟨⟨(mGoes K (nI 0)) 15 p9, (), rfl, eR9, by rw [ht]; exact hP9, va_K.moved hW.alike hK, hD9⟩, hS.F ht⟩) hS.2.2 dX6_retract_51
      · skip
        exact absurd c_4 (by decide)
  · skip
    have c_1 := zb_f c_1
    refine lv_iconst (v := nI 1) hx hb dX6_retract_10 (by decide) ?_
    refine lv_goto (tgt := 28) hx hb dX6_retract_11 (by decide) ?_
    refine zc_wVi (As := [.int (nI 1)]) (rest := []) (wr := []) ⟨hx, hb, hml, hown, hts⟩ (kX6_goesWell l D cI cZ ad K _ (nI 1) ) (cwV 1 hts gX6_retract_X6_goesWell rfl rfl rfl (by decide +kernel) ⟨(Nat.le_of_ble_eq_true rfl), (Nat.le_of_ble_eq_true rfl)⟩) hK hP hD hS hA [0, 1, 2, 3, 4, 5, 6, 7, 8, 9, 10, 11, 12, 13, 14, 15, 16] [] rfl rfl rfl rfl rfl (by decide) (ci := 6) (q0 := 0) rfl rfl rfl rfl hl.1 rfl (Nat.le_of_ble_eq_true rfl) dX6_retract_28 ⟨Nat.zero_le _, Nat.zero_le _⟩ (fun H locs hP hD hS => ?_)
    have hP : va_P D vwCl (mwA ad cI cZ (mGoes K (nI 1))) _ := hP
    have hD : va_D A (mwA ad cI cZ (mGoes K (nI 1))) := hD
    refine zz_top (y := nI 0) (by decide) ?_
    refine lv_if_ne (tgt := 36) hx hb dX6_retract_31 (by decide) (fun c_5 => ?_) (fun c_5 => ?_)
    · skip
      exact absurd (show nI 0 = 0 from rfl) c_5
    · skip
      refine lv_iconst (v := nI 0) hx hb dX6_retract_34 (by decide) ?_
      have hT9 : mRetT K x = nI 1 := by simp [mRetT, c_1, eq_true c_5]
      have eK9 : (mPost (mRetT K x) K (mOffE K x.toNatClampNeg (-1))) = (mGoes K (nI 1)) := by rw [hT9, mPost_1] <;> rfl
      have hP9 := hP
      have hD9 := hD
      rw [← eK9] at hP9 hD9
      have eR9 : nI 0 = mRes (mRetT K x) (K 15 x.toNatClampNeg) := by rw [hT9, mRes_1] <;> rfl
      exact W.iret (v := nI 0) hx hb hr (fun t ht hW => ⟨⟨nI 0, (), rfl, eR9, by rw [ht]; exact hP9, va_K.moved hW.alike hK, hD9⟩, hS.F ht⟩) hS.2.2 dX6_retract_35
end
