-- ===== PART A: goes FIRST, ahead of the names: the tables' words, and 'selects' of the private methods out of them =====
/-- a private method of a class that the tables say can be made, by its rows of tables_1 -/
def lw_okq (q : MethodName × Nat) : Prop := (q.1.cls ≠ "java/lang/invoke/MethodHandle" ∧ q.1.cls ≠ "java/lang/invoke/VarHandle") ∧ Cond.instantiable q.1.cls q.2 ∈ tables_1 ∧ Cond.privateMethod q.1 ∈ tables_1 ∧ Cond.instanceMethod q.1 ∈ tables_1
theorem lw_p0 : lw_okq (⟨"StableParty$History", "record", "(LStableParty$State;)V"⟩, 2) := ⟨⟨by decide +kernel, by decide +kernel⟩, List.mem_of_getElem? (i := 116) (by decide +kernel), List.mem_of_getElem? (i := 228) (by decide +kernel), List.mem_of_getElem? (i := 229) (by decide +kernel)⟩
theorem lw_p1 : lw_okq (⟨"StableParty$History", "moveOldestBehind", "()V"⟩, 2) := ⟨⟨by decide +kernel, by decide +kernel⟩, List.mem_of_getElem? (i := 116) (by decide +kernel), List.mem_of_getElem? (i := 232) (by decide +kernel), List.mem_of_getElem? (i := 233) (by decide +kernel)⟩
theorem lw_p2 : lw_okq (⟨"StableParty$History", "at", "(I)LStableParty$State;"⟩, 2) := ⟨⟨by decide +kernel, by decide +kernel⟩, List.mem_of_getElem? (i := 116) (by decide +kernel), List.mem_of_getElem? (i := 236) (by decide +kernel), List.mem_of_getElem? (i := 237) (by decide +kernel)⟩
theorem lw_p3 : lw_okq (⟨"StableParty$State", "copyFrom", "(LStableParty$State;)V"⟩, 10) := ⟨⟨by decide +kernel, by decide +kernel⟩, List.mem_of_getElem? (i := 17) (by decide +kernel), List.mem_of_getElem? (i := 240) (by decide +kernel), List.mem_of_getElem? (i := 241) (by decide +kernel)⟩
theorem lw_p4 : lw_okq (⟨"StableParty$State", "find", "(I)LStableParty$Guest;"⟩, 10) := ⟨⟨by decide +kernel, by decide +kernel⟩, List.mem_of_getElem? (i := 17) (by decide +kernel), List.mem_of_getElem? (i := 244) (by decide +kernel), List.mem_of_getElem? (i := 245) (by decide +kernel)⟩
theorem lw_p5 : lw_okq (⟨"StableParty$Guest", "copyFrom", "(LStableParty$Guest;)V"⟩, 10) := ⟨⟨by decide +kernel, by decide +kernel⟩, List.mem_of_getElem? (i := 24) (by decide +kernel), List.mem_of_getElem? (i := 248) (by decide +kernel), List.mem_of_getElem? (i := 249) (by decide +kernel)⟩
theorem lw_p6 : lw_okq (⟨"StableParty$Guest", "copyCondition", "(I[II)V"⟩, 10) := ⟨⟨by decide +kernel, by decide +kernel⟩, List.mem_of_getElem? (i := 24) (by decide +kernel), List.mem_of_getElem? (i := 252) (by decide +kernel), List.mem_of_getElem? (i := 253) (by decide +kernel)⟩
theorem lw_p7 : lw_okq (⟨"StableParty$State", "add", "(II)I"⟩, 10) := ⟨⟨by decide +kernel, by decide +kernel⟩, List.mem_of_getElem? (i := 17) (by decide +kernel), List.mem_of_getElem? (i := 256) (by decide +kernel), List.mem_of_getElem? (i := 257) (by decide +kernel)⟩
theorem lw_p8 : lw_okq (⟨"StableParty$Guest", "begin", "(II)V"⟩, 10) := ⟨⟨by decide +kernel, by decide +kernel⟩, List.mem_of_getElem? (i := 24) (by decide +kernel), List.mem_of_getElem? (i := 260) (by decide +kernel), List.mem_of_getElem? (i := 261) (by decide +kernel)⟩
theorem lw_p9 : lw_okq (⟨"StableParty", "findChosen", "()I"⟩, 8) := ⟨⟨by decide +kernel, by decide +kernel⟩, List.mem_of_getElem? (i := 9) (by decide +kernel), List.mem_of_getElem? (i := 283) (by decide +kernel), List.mem_of_getElem? (i := 284) (by decide +kernel)⟩
theorem lw_p10 : lw_okq (⟨"StableParty", "findGreatest", "()I"⟩, 8) := ⟨⟨by decide +kernel, by decide +kernel⟩, List.mem_of_getElem? (i := 9) (by decide +kernel), List.mem_of_getElem? (i := 287) (by decide +kernel), List.mem_of_getElem? (i := 288) (by decide +kernel)⟩
theorem lw_p11 : lw_okq (⟨"StableParty$State", "invitedGuests", "()I"⟩, 10) := ⟨⟨by decide +kernel, by decide +kernel⟩, List.mem_of_getElem? (i := 17) (by decide +kernel), List.mem_of_getElem? (i := 291) (by decide +kernel), List.mem_of_getElem? (i := 292) (by decide +kernel)⟩
theorem lw_p12 : lw_okq (⟨"StableParty$Search", "findGreatest", "(LStableParty$State;II)I"⟩, 7) := ⟨⟨by decide +kernel, by decide +kernel⟩, List.mem_of_getElem? (i := 166) (by decide +kernel), List.mem_of_getElem? (i := 298) (by decide +kernel), List.mem_of_getElem? (i := 299) (by decide +kernel)⟩
theorem lw_p13 : lw_okq (⟨"StableParty$State", "everybody", "()I"⟩, 10) := ⟨⟨by decide +kernel, by decide +kernel⟩, List.mem_of_getElem? (i := 17) (by decide +kernel), List.mem_of_getElem? (i := 302) (by decide +kernel), List.mem_of_getElem? (i := 303) (by decide +kernel)⟩
theorem lw_p14 : lw_okq (⟨"StableParty$Search", "begin", "(I)V"⟩, 7) := ⟨⟨by decide +kernel, by decide +kernel⟩, List.mem_of_getElem? (i := 166) (by decide +kernel), List.mem_of_getElem? (i := 306) (by decide +kernel), List.mem_of_getElem? (i := 307) (by decide +kernel)⟩
theorem lw_p15 : lw_okq (⟨"StableParty$Search", "sendAway", "(LStableParty$State;III)I"⟩, 7) := ⟨⟨by decide +kernel, by decide +kernel⟩, List.mem_of_getElem? (i := 166) (by decide +kernel), List.mem_of_getElem? (i := 314) (by decide +kernel), List.mem_of_getElem? (i := 315) (by decide +kernel)⟩
def lw_privs_1 : List (MethodName × Nat) := [(⟨"StableParty$History", "record", "(LStableParty$State;)V"⟩, 2), (⟨"StableParty$History", "moveOldestBehind", "()V"⟩, 2), (⟨"StableParty$History", "at", "(I)LStableParty$State;"⟩, 2), (⟨"StableParty$State", "copyFrom", "(LStableParty$State;)V"⟩, 10), (⟨"StableParty$State", "find", "(I)LStableParty$Guest;"⟩, 10), (⟨"StableParty$Guest", "copyFrom", "(LStableParty$Guest;)V"⟩, 10), (⟨"StableParty$Guest", "copyCondition", "(I[II)V"⟩, 10), (⟨"StableParty$State", "add", "(II)I"⟩, 10), (⟨"StableParty$Guest", "begin", "(II)V"⟩, 10), (⟨"StableParty", "findChosen", "()I"⟩, 8), (⟨"StableParty", "findGreatest", "()I"⟩, 8), (⟨"StableParty$State", "invitedGuests", "()I"⟩, 10), (⟨"StableParty$Search", "findGreatest", "(LStableParty$State;II)I"⟩, 7), (⟨"StableParty$State", "everybody", "()I"⟩, 10), (⟨"StableParty$Search", "begin", "(I)V"⟩, 7), (⟨"StableParty$Search", "sendAway", "(LStableParty$State;III)I"⟩, 7)]
theorem lw_r1 : ∀ q ∈ lw_privs_1, lw_okq q := List.forall_mem_cons.mpr ⟨lw_p0, List.forall_mem_cons.mpr ⟨lw_p1, List.forall_mem_cons.mpr ⟨lw_p2, List.forall_mem_cons.mpr ⟨lw_p3, List.forall_mem_cons.mpr ⟨lw_p4, List.forall_mem_cons.mpr ⟨lw_p5, List.forall_mem_cons.mpr ⟨lw_p6, List.forall_mem_cons.mpr ⟨lw_p7, List.forall_mem_cons.mpr ⟨lw_p8, List.forall_mem_cons.mpr ⟨lw_p9, List.forall_mem_cons.mpr ⟨lw_p10, List.forall_mem_cons.mpr ⟨lw_p11, List.forall_mem_cons.mpr ⟨lw_p12, List.forall_mem_cons.mpr ⟨lw_p13, List.forall_mem_cons.mpr ⟨lw_p14, List.forall_mem_cons.mpr ⟨lw_p15, fun _ h => absurd h List.not_mem_nil⟩⟩⟩⟩⟩⟩⟩⟩⟩⟩⟩⟩⟩⟩⟩⟩
theorem lw_p16 : lw_okq (⟨"StableParty$State", "feeOf", "(I)I"⟩, 10) := ⟨⟨by decide +kernel, by decide +kernel⟩, List.mem_of_getElem? (i := 17) (by decide +kernel), List.mem_of_getElem? (i := 324) (by decide +kernel), List.mem_of_getElem? (i := 325) (by decide +kernel)⟩
theorem lw_p17 : lw_okq (⟨"StableParty$Guest", "isContentWith", "(I)Z"⟩, 10) := ⟨⟨by decide +kernel, by decide +kernel⟩, List.mem_of_getElem? (i := 24) (by decide +kernel), List.mem_of_getElem? (i := 330) (by decide +kernel), List.mem_of_getElem? (i := 331) (by decide +kernel)⟩
theorem lw_p18 : lw_okq (⟨"StableParty$Search", "note", "(IIII)V"⟩, 7) := ⟨⟨by decide +kernel, by decide +kernel⟩, List.mem_of_getElem? (i := 166) (by decide +kernel), List.mem_of_getElem? (i := 338) (by decide +kernel), List.mem_of_getElem? (i := 339) (by decide +kernel)⟩
theorem lw_p19 : lw_okq (⟨"StableParty$State", "bestPart", "(I)I"⟩, 10) := ⟨⟨by decide +kernel, by decide +kernel⟩, List.mem_of_getElem? (i := 17) (by decide +kernel), List.mem_of_getElem? (i := 347) (by decide +kernel), List.mem_of_getElem? (i := 348) (by decide +kernel)⟩
theorem lw_p20 : lw_okq (⟨"StableParty$State", "isBetter", "(II)Z"⟩, 10) := ⟨⟨by decide +kernel, by decide +kernel⟩, List.mem_of_getElem? (i := 17) (by decide +kernel), List.mem_of_getElem? (i := 355) (by decide +kernel), List.mem_of_getElem? (i := 356) (by decide +kernel)⟩
theorem lw_p21 : lw_okq (⟨"StableParty$State", "sumOfWeights", "(I)I"⟩, 10) := ⟨⟨by decide +kernel, by decide +kernel⟩, List.mem_of_getElem? (i := 17) (by decide +kernel), List.mem_of_getElem? (i := 359) (by decide +kernel), List.mem_of_getElem? (i := 360) (by decide +kernel)⟩
theorem lw_p22 : lw_okq (⟨"StableParty$State", "isStable", "(I)Z"⟩, 10) := ⟨⟨by decide +kernel, by decide +kernel⟩, List.mem_of_getElem? (i := 17) (by decide +kernel), List.mem_of_getElem? (i := 364) (by decide +kernel), List.mem_of_getElem? (i := 365) (by decide +kernel)⟩
theorem lw_p23 : lw_okq (⟨"StableParty$State", "fixCompany", "(I)I"⟩, 10) := ⟨⟨by decide +kernel, by decide +kernel⟩, List.mem_of_getElem? (i := 17) (by decide +kernel), List.mem_of_getElem? (i := 370) (by decide +kernel), List.mem_of_getElem? (i := 371) (by decide +kernel)⟩
theorem lw_p24 : lw_okq (⟨"StableParty$History", "takeBack", "(LStableParty$State;)V"⟩, 2) := ⟨⟨by decide +kernel, by decide +kernel⟩, List.mem_of_getElem? (i := 116) (by decide +kernel), List.mem_of_getElem? (i := 378) (by decide +kernel), List.mem_of_getElem? (i := 379) (by decide +kernel)⟩
theorem lw_p25 : lw_okq (⟨"StableParty$State", "smallestPart", "(I)I"⟩, 10) := ⟨⟨by decide +kernel, by decide +kernel⟩, List.mem_of_getElem? (i := 17) (by decide +kernel), List.mem_of_getElem? (i := 395) (by decide +kernel), List.mem_of_getElem? (i := 396) (by decide +kernel)⟩
theorem lw_p26 : lw_okq (⟨"StableParty$State", "countParts", "(I)I"⟩, 10) := ⟨⟨by decide +kernel, by decide +kernel⟩, List.mem_of_getElem? (i := 17) (by decide +kernel), List.mem_of_getElem? (i := 403) (by decide +kernel), List.mem_of_getElem? (i := 404) (by decide +kernel)⟩
theorem lw_p27 : lw_okq (⟨"StableParty$State", "sumOf", "(I)I"⟩, 10) := ⟨⟨by decide +kernel, by decide +kernel⟩, List.mem_of_getElem? (i := 17) (by decide +kernel), List.mem_of_getElem? (i := 418) (by decide +kernel), List.mem_of_getElem? (i := 419) (by decide +kernel)⟩
theorem lw_p28 : lw_okq (⟨"StableParty$Guest", "tell", "(I)I"⟩, 10) := ⟨⟨by decide +kernel, by decide +kernel⟩, List.mem_of_getElem? (i := 24) (by decide +kernel), List.mem_of_getElem? (i := 422) (by decide +kernel), List.mem_of_getElem? (i := 423) (by decide +kernel)⟩
theorem lw_p29 : lw_okq (⟨"StableParty$State", "hasAll", "(I)Z"⟩, 10) := ⟨⟨by decide +kernel, by decide +kernel⟩, List.mem_of_getElem? (i := 17) (by decide +kernel), List.mem_of_getElem? (i := 439) (by decide +kernel), List.mem_of_getElem? (i := 440) (by decide +kernel)⟩
theorem lw_p30 : lw_okq (⟨"StableParty$Search", "tell", "(II)I"⟩, 7) := ⟨⟨by decide +kernel, by decide +kernel⟩, List.mem_of_getElem? (i := 166) (by decide +kernel), List.mem_of_getElem? (i := 475) (by decide +kernel), List.mem_of_getElem? (i := 476) (by decide +kernel)⟩
theorem lw_p31 : lw_okq (⟨"StableParty$State", "guestOnSeat", "(I)I"⟩, 10) := ⟨⟨by decide +kernel, by decide +kernel⟩, List.mem_of_getElem? (i := 17) (by decide +kernel), List.mem_of_getElem? (i := 483) (by decide +kernel), List.mem_of_getElem? (i := 484) (by decide +kernel)⟩
def lw_privs_2 : List (MethodName × Nat) := [(⟨"StableParty$State", "feeOf", "(I)I"⟩, 10), (⟨"StableParty$Guest", "isContentWith", "(I)Z"⟩, 10), (⟨"StableParty$Search", "note", "(IIII)V"⟩, 7), (⟨"StableParty$State", "bestPart", "(I)I"⟩, 10), (⟨"StableParty$State", "isBetter", "(II)Z"⟩, 10), (⟨"StableParty$State", "sumOfWeights", "(I)I"⟩, 10), (⟨"StableParty$State", "isStable", "(I)Z"⟩, 10), (⟨"StableParty$State", "fixCompany", "(I)I"⟩, 10), (⟨"StableParty$History", "takeBack", "(LStableParty$State;)V"⟩, 2), (⟨"StableParty$State", "smallestPart", "(I)I"⟩, 10), (⟨"StableParty$State", "countParts", "(I)I"⟩, 10), (⟨"StableParty$State", "sumOf", "(I)I"⟩, 10), (⟨"StableParty$Guest", "tell", "(I)I"⟩, 10), (⟨"StableParty$State", "hasAll", "(I)Z"⟩, 10), (⟨"StableParty$Search", "tell", "(II)I"⟩, 7), (⟨"StableParty$State", "guestOnSeat", "(I)I"⟩, 10)]
theorem lw_r2 : ∀ q ∈ lw_privs_2, lw_okq q := List.forall_mem_cons.mpr ⟨lw_p16, List.forall_mem_cons.mpr ⟨lw_p17, List.forall_mem_cons.mpr ⟨lw_p18, List.forall_mem_cons.mpr ⟨lw_p19, List.forall_mem_cons.mpr ⟨lw_p20, List.forall_mem_cons.mpr ⟨lw_p21, List.forall_mem_cons.mpr ⟨lw_p22, List.forall_mem_cons.mpr ⟨lw_p23, List.forall_mem_cons.mpr ⟨lw_p24, List.forall_mem_cons.mpr ⟨lw_p25, List.forall_mem_cons.mpr ⟨lw_p26, List.forall_mem_cons.mpr ⟨lw_p27, List.forall_mem_cons.mpr ⟨lw_p28, List.forall_mem_cons.mpr ⟨lw_p29, List.forall_mem_cons.mpr ⟨lw_p30, List.forall_mem_cons.mpr ⟨lw_p31, fun _ h => absurd h List.not_mem_nil⟩⟩⟩⟩⟩⟩⟩⟩⟩⟩⟩⟩⟩⟩⟩⟩
theorem lw_p32 : lw_okq (⟨"StableParty$Reader", "read", "([CI)I"⟩, 7) := ⟨⟨by decide +kernel, by decide +kernel⟩, List.mem_of_getElem? (i := 133) (by decide +kernel), List.mem_of_getElem? (i := 514) (by decide +kernel), List.mem_of_getElem? (i := 515) (by decide +kernel)⟩
theorem lw_p33 : lw_okq (⟨"StableParty$Reader", "accepts", "(C)Z"⟩, 7) := ⟨⟨by decide +kernel, by decide +kernel⟩, List.mem_of_getElem? (i := 133) (by decide +kernel), List.mem_of_getElem? (i := 518) (by decide +kernel), List.mem_of_getElem? (i := 519) (by decide +kernel)⟩
theorem lw_p34 : lw_okq (⟨"StableParty$Reader", "acceptsAtom", "(C)Z"⟩, 7) := ⟨⟨by decide +kernel, by decide +kernel⟩, List.mem_of_getElem? (i := 133) (by decide +kernel), List.mem_of_getElem? (i := 522) (by decide +kernel), List.mem_of_getElem? (i := 523) (by decide +kernel)⟩
theorem lw_p35 : lw_okq (⟨"StableParty$Reader", "opensBracket", "()Z"⟩, 7) := ⟨⟨by decide +kernel, by decide +kernel⟩, List.mem_of_getElem? (i := 133) (by decide +kernel), List.mem_of_getElem? (i := 526) (by decide +kernel), List.mem_of_getElem? (i := 527) (by decide +kernel)⟩
theorem lw_p36 : lw_okq (⟨"StableParty$Reader", "addStep", "(I)V"⟩, 7) := ⟨⟨by decide +kernel, by decide +kernel⟩, List.mem_of_getElem? (i := 133) (by decide +kernel), List.mem_of_getElem? (i := 530) (by decide +kernel), List.mem_of_getElem? (i := 531) (by decide +kernel)⟩
theorem lw_p37 : lw_okq (⟨"StableParty$Reader", "acceptsNumber", "(C)Z"⟩, 7) := ⟨⟨by decide +kernel, by decide +kernel⟩, List.mem_of_getElem? (i := 133) (by decide +kernel), List.mem_of_getElem? (i := 542) (by decide +kernel), List.mem_of_getElem? (i := 543) (by decide +kernel)⟩
theorem lw_p38 : lw_okq (⟨"StableParty$Reader", "acceptsColon", "(C)Z"⟩, 7) := ⟨⟨by decide +kernel, by decide +kernel⟩, List.mem_of_getElem? (i := 133) (by decide +kernel), List.mem_of_getElem? (i := 546) (by decide +kernel), List.mem_of_getElem? (i := 547) (by decide +kernel)⟩
theorem lw_p39 : lw_okq (⟨"StableParty$Reader", "acceptsLetter", "(C)Z"⟩, 7) := ⟨⟨by decide +kernel, by decide +kernel⟩, List.mem_of_getElem? (i := 133) (by decide +kernel), List.mem_of_getElem? (i := 550) (by decide +kernel), List.mem_of_getElem? (i := 551) (by decide +kernel)⟩
theorem lw_p40 : lw_okq (⟨"StableParty$Reader", "changeLastStep", "(I)V"⟩, 7) := ⟨⟨by decide +kernel, by decide +kernel⟩, List.mem_of_getElem? (i := 133) (by decide +kernel), List.mem_of_getElem? (i := 554) (by decide +kernel), List.mem_of_getElem? (i := 555) (by decide +kernel)⟩
theorem lw_p41 : lw_okq (⟨"StableParty$Reader", "acceptsBehindAtom", "(C)Z"⟩, 7) := ⟨⟨by decide +kernel, by decide +kernel⟩, List.mem_of_getElem? (i := 133) (by decide +kernel), List.mem_of_getElem? (i := 558) (by decide +kernel), List.mem_of_getElem? (i := 559) (by decide +kernel)⟩
theorem lw_p42 : lw_okq (⟨"StableParty$Reader", "closesBracket", "()Z"⟩, 7) := ⟨⟨by decide +kernel, by decide +kernel⟩, List.mem_of_getElem? (i := 133) (by decide +kernel), List.mem_of_getElem? (i := 562) (by decide +kernel), List.mem_of_getElem? (i := 563) (by decide +kernel)⟩
theorem lw_p43 : lw_okq (⟨"StableParty$Reader", "acceptsSecondDigit", "(C)Z"⟩, 7) := ⟨⟨by decide +kernel, by decide +kernel⟩, List.mem_of_getElem? (i := 133) (by decide +kernel), List.mem_of_getElem? (i := 566) (by decide +kernel), List.mem_of_getElem? (i := 567) (by decide +kernel)⟩
theorem lw_p44 : lw_okq (⟨"StableParty$Guest", "takeCondition", "(LStableParty$Reader;)V"⟩, 10) := ⟨⟨by decide +kernel, by decide +kernel⟩, List.mem_of_getElem? (i := 24) (by decide +kernel), List.mem_of_getElem? (i := 570) (by decide +kernel), List.mem_of_getElem? (i := 571) (by decide +kernel)⟩
theorem lw_p45 : lw_okq (⟨"StableParty$State", "chargeIfLate", "(LStableParty$Guest;)V"⟩, 10) := ⟨⟨by decide +kernel, by decide +kernel⟩, List.mem_of_getElem? (i := 17) (by decide +kernel), List.mem_of_getElem? (i := 574) (by decide +kernel), List.mem_of_getElem? (i := 575) (by decide +kernel)⟩
theorem lw_p46 : lw_okq (⟨"StableParty$State", "letCancel", "(I)I"⟩, 10) := ⟨⟨by decide +kernel, by decide +kernel⟩, List.mem_of_getElem? (i := 17) (by decide +kernel), List.mem_of_getElem? (i := 594) (by decide +kernel), List.mem_of_getElem? (i := 595) (by decide +kernel)⟩
theorem lw_p47 : lw_okq (⟨"StableParty$State", "letGo", "(II)V"⟩, 10) := ⟨⟨by decide +kernel, by decide +kernel⟩, List.mem_of_getElem? (i := 17) (by decide +kernel), List.mem_of_getElem? (i := 598) (by decide +kernel), List.mem_of_getElem? (i := 599) (by decide +kernel)⟩
def lw_privs_3 : List (MethodName × Nat) := [(⟨"StableParty$Reader", "read", "([CI)I"⟩, 7), (⟨"StableParty$Reader", "accepts", "(C)Z"⟩, 7), (⟨"StableParty$Reader", "acceptsAtom", "(C)Z"⟩, 7), (⟨"StableParty$Reader", "opensBracket", "()Z"⟩, 7), (⟨"StableParty$Reader", "addStep", "(I)V"⟩, 7), (⟨"StableParty$Reader", "acceptsNumber", "(C)Z"⟩, 7), (⟨"StableParty$Reader", "acceptsColon", "(C)Z"⟩, 7), (⟨"StableParty$Reader", "acceptsLetter", "(C)Z"⟩, 7), (⟨"StableParty$Reader", "changeLastStep", "(I)V"⟩, 7), (⟨"StableParty$Reader", "acceptsBehindAtom", "(C)Z"⟩, 7), (⟨"StableParty$Reader", "closesBracket", "()Z"⟩, 7), (⟨"StableParty$Reader", "acceptsSecondDigit", "(C)Z"⟩, 7), (⟨"StableParty$Guest", "takeCondition", "(LStableParty$Reader;)V"⟩, 10), (⟨"StableParty$State", "chargeIfLate", "(LStableParty$Guest;)V"⟩, 10), (⟨"StableParty$State", "letCancel", "(I)I"⟩, 10), (⟨"StableParty$State", "letGo", "(II)V"⟩, 10)]
theorem lw_r3 : ∀ q ∈ lw_privs_3, lw_okq q := List.forall_mem_cons.mpr ⟨lw_p32, List.forall_mem_cons.mpr ⟨lw_p33, List.forall_mem_cons.mpr ⟨lw_p34, List.forall_mem_cons.mpr ⟨lw_p35, List.forall_mem_cons.mpr ⟨lw_p36, List.forall_mem_cons.mpr ⟨lw_p37, List.forall_mem_cons.mpr ⟨lw_p38, List.forall_mem_cons.mpr ⟨lw_p39, List.forall_mem_cons.mpr ⟨lw_p40, List.forall_mem_cons.mpr ⟨lw_p41, List.forall_mem_cons.mpr ⟨lw_p42, List.forall_mem_cons.mpr ⟨lw_p43, List.forall_mem_cons.mpr ⟨lw_p44, List.forall_mem_cons.mpr ⟨lw_p45, List.forall_mem_cons.mpr ⟨lw_p46, List.forall_mem_cons.mpr ⟨lw_p47, fun _ h => absurd h List.not_mem_nil⟩⟩⟩⟩⟩⟩⟩⟩⟩⟩⟩⟩⟩⟩⟩⟩
theorem lw_p48 : lw_okq (⟨"StableParty$State", "discontent", "()I"⟩, 10) := ⟨⟨by decide +kernel, by decide +kernel⟩, List.mem_of_getElem? (i := 17) (by decide +kernel), List.mem_of_getElem? (i := 602) (by decide +kernel), List.mem_of_getElem? (i := 603) (by decide +kernel)⟩
theorem lw_p49 : lw_okq (⟨"StableParty$State", "dissolveCompany", "()I"⟩, 10) := ⟨⟨by decide +kernel, by decide +kernel⟩, List.mem_of_getElem? (i := 17) (by decide +kernel), List.mem_of_getElem? (i := 614) (by decide +kernel), List.mem_of_getElem? (i := 615) (by decide +kernel)⟩
def lw_privs_4 : List (MethodName × Nat) := [(⟨"StableParty$State", "discontent", "()I"⟩, 10), (⟨"StableParty$State", "dissolveCompany", "()I"⟩, 10)]
theorem lw_r4 : ∀ q ∈ lw_privs_4, lw_okq q := List.forall_mem_cons.mpr ⟨lw_p48, List.forall_mem_cons.mpr ⟨lw_p49, fun _ h => absurd h List.not_mem_nil⟩⟩
def lw_privs : List (MethodName × Nat) := lw_privs_1 ++ (lw_privs_2 ++ (lw_privs_3 ++ (lw_privs_4)))
def lw_tbl : List Cond := k2_sels lw_privs ++ tables_1
theorem lw_privs_ok : ∀ q ∈ lw_privs, lw_okq q := by
  show ∀ q ∈ lw_privs_1 ++ (lw_privs_2 ++ (lw_privs_3 ++ (lw_privs_4))), lw_okq q
  exact List.forall_mem_append.mpr ⟨lw_r1, List.forall_mem_append.mpr ⟨lw_r2, List.forall_mem_append.mpr ⟨lw_r3, lw_r4⟩⟩⟩

def RX0 : String := "StableParty$Guest"
def TX0 : u_T := fun k => match k with
  | 0 => ("StableParty$Guest", "limit", "I", false)
  | 1 => ("StableParty$Guest", "weight", "I", false)
  | 2 => ("StableParty$Guest", "invited", "Z", false)
  | 3 => ("StableParty$Guest", "charges", "I", false)
  | 4 => ("StableParty$Guest", "paid", "I", false)
  | 5 => ("StableParty$Guest", "gotBack", "I", false)
  | 6 => ("StableParty$Guest", "seat", "I", false)
  | 7 => ("StableParty$Guest", "letters", "I", false)
  | 8 => ("StableParty$Guest", "stepCount", "I", false)
  | _ => ("StableParty$Guest", "steps", "[I", true)
def tyX0 : Nat → FieldType := fun k => match k with
  | 0 => .int
  | 1 => .int
  | 2 => .boolean
  | 3 => .int
  | 4 => .int
  | 5 => .int
  | 6 => .int
  | 7 => .int
  | 8 => .int
  | _ => .array .int
theorem nmX0 : ∀ a, a < 10 → ∀ b, b < 10 → a ≠ b → (TX0 a).2.1 ≠ (TX0 b).2.1 := by decide +kernel
theorem tyX0_ok : ∀ k, k < 10 → parseFieldDescriptor (TX0 k).2.2.1 = some (tyX0 k) := by decide +kernel
abbrev cX0_init : ByteArray := prog_2_method_1_code
def yX0_init : MethodName := ⟨RX0, "<init>", "()V"⟩
abbrev cX0_tell : ByteArray := prog_2_method_2_code
def yX0_tell : MethodName := ⟨RX0, "tell", "(I)I"⟩
abbrev cX0_begin : ByteArray := prog_2_method_3_code
def yX0_begin : MethodName := ⟨RX0, "begin", "(II)V"⟩
abbrev cX0_copyFrom : ByteArray := prog_2_method_4_code
def yX0_copyFrom : MethodName := ⟨RX0, "copyFrom", "(LStableParty$Guest;)V"⟩
abbrev cX0_takeCondition : ByteArray := prog_2_method_5_code
def yX0_takeCondition : MethodName := ⟨RX0, "takeCondition", "(LStableParty$Reader;)V"⟩
abbrev cX0_copyCondition : ByteArray := prog_2_method_6_code
def yX0_copyCondition : MethodName := ⟨RX0, "copyCondition", "(I[II)V"⟩
abbrev cX0_isContentWith : ByteArray := prog_2_method_7_code
def yX0_isContentWith : MethodName := ⟨RX0, "isContentWith", "(I)Z"⟩
def RX1 : String := "StableParty$History"
def TX1 : u_T := fun k => match k with
  | 0 => ("StableParty$History", "states", "[LStableParty$State;", true)
  | _ => ("StableParty$History", "size", "I", false)
def tyX1 : Nat → FieldType := fun k => match k with
  | 0 => .array (.object "StableParty$State")
  | _ => .int
theorem nmX1 : ∀ a, a < 2 → ∀ b, b < 2 → a ≠ b → (TX1 a).2.1 ≠ (TX1 b).2.1 := by decide +kernel
theorem tyX1_ok : ∀ k, k < 2 → parseFieldDescriptor (TX1 k).2.2.1 = some (tyX1 k) := by decide +kernel
abbrev cX1_init : ByteArray := prog_3_method_1_code
def yX1_init : MethodName := ⟨RX1, "<init>", "()V"⟩
abbrev cX1_record : ByteArray := prog_3_method_2_code
def yX1_record : MethodName := ⟨RX1, "record", "(LStableParty$State;)V"⟩
abbrev cX1_takeBack : ByteArray := prog_3_method_3_code
def yX1_takeBack : MethodName := ⟨RX1, "takeBack", "(LStableParty$State;)V"⟩
abbrev cX1_moveOldestBehind : ByteArray := prog_3_method_4_code
def yX1_moveOldestBehind : MethodName := ⟨RX1, "moveOldestBehind", "()V"⟩
abbrev cX1_at : ByteArray := prog_3_method_5_code
def yX1_at : MethodName := ⟨RX1, "at", "(I)LStableParty$State;"⟩
def RX2 : String := "StableParty$Reader"
def TX2 : u_T := fun k => match k with
  | 0 => ("StableParty$Reader", "steps", "[I", true)
  | 1 => ("StableParty$Reader", "stepCount", "I", false)
  | 2 => ("StableParty$Reader", "letters", "I", false)
  | 3 => ("StableParty$Reader", "openBrackets", "I", false)
  | 4 => ("StableParty$Reader", "expected", "I", false)
  | 5 => ("StableParty$Reader", "atLeast", "I", false)
  | _ => ("StableParty$Reader", "among", "I", false)
def tyX2 : Nat → FieldType := fun k => match k with
  | 0 => .array .int
  | 1 => .int
  | 2 => .int
  | 3 => .int
  | 4 => .int
  | 5 => .int
  | _ => .int
theorem nmX2 : ∀ a, a < 7 → ∀ b, b < 7 → a ≠ b → (TX2 a).2.1 ≠ (TX2 b).2.1 := by decide +kernel
theorem tyX2_ok : ∀ k, k < 7 → parseFieldDescriptor (TX2 k).2.2.1 = some (tyX2 k) := by decide +kernel
abbrev cX2_init : ByteArray := prog_4_method_1_code
def yX2_init : MethodName := ⟨RX2, "<init>", "()V"⟩
abbrev cX2_read : ByteArray := prog_4_method_2_code
def yX2_read : MethodName := ⟨RX2, "read", "([CI)I"⟩
abbrev cX2_accepts : ByteArray := prog_4_method_3_code
def yX2_accepts : MethodName := ⟨RX2, "accepts", "(C)Z"⟩
abbrev cX2_acceptsAtom : ByteArray := prog_4_method_4_code
def yX2_acceptsAtom : MethodName := ⟨RX2, "acceptsAtom", "(C)Z"⟩
abbrev cX2_opensBracket : ByteArray := prog_4_method_5_code
def yX2_opensBracket : MethodName := ⟨RX2, "opensBracket", "()Z"⟩
abbrev cX2_acceptsNumber : ByteArray := prog_4_method_6_code
def yX2_acceptsNumber : MethodName := ⟨RX2, "acceptsNumber", "(C)Z"⟩
abbrev cX2_acceptsSecondDigit : ByteArray := prog_4_method_7_code
def yX2_acceptsSecondDigit : MethodName := ⟨RX2, "acceptsSecondDigit", "(C)Z"⟩
abbrev cX2_acceptsColon : ByteArray := prog_4_method_8_code
def yX2_acceptsColon : MethodName := ⟨RX2, "acceptsColon", "(C)Z"⟩
abbrev cX2_acceptsLetter : ByteArray := prog_4_method_9_code
def yX2_acceptsLetter : MethodName := ⟨RX2, "acceptsLetter", "(C)Z"⟩
abbrev cX2_acceptsBehindAtom : ByteArray := prog_4_method_10_code
def yX2_acceptsBehindAtom : MethodName := ⟨RX2, "acceptsBehindAtom", "(C)Z"⟩
abbrev cX2_closesBracket : ByteArray := prog_4_method_11_code
def yX2_closesBracket : MethodName := ⟨RX2, "closesBracket", "()Z"⟩
abbrev cX2_isLetter : ByteArray := prog_4_method_12_code
def yX2_isLetter : MethodName := ⟨RX2, "isLetter", "(C)Z"⟩
abbrev cX2_isDigit : ByteArray := prog_4_method_13_code
def yX2_isDigit : MethodName := ⟨RX2, "isDigit", "(CCC)Z"⟩
abbrev cX2_addStep : ByteArray := prog_4_method_14_code
def yX2_addStep : MethodName := ⟨RX2, "addStep", "(I)V"⟩
abbrev cX2_changeLastStep : ByteArray := prog_4_method_15_code
def yX2_changeLastStep : MethodName := ⟨RX2, "changeLastStep", "(I)V"⟩
def RX3 : String := "StableParty$Search"
def TX3 : u_T := fun k => match k with
  | 0 => ("StableParty$Search", "away", "[I", true)
  | 1 => ("StableParty$Search", "lastRound", "I", false)
  | 2 => ("StableParty$Search", "reasons", "[I", true)
  | 3 => ("StableParty$Search", "roundsAway", "[I", true)
  | 4 => ("StableParty$Search", "leadsBackTo", "[I", true)
  | 5 => ("StableParty$Search", "wayLengths", "[I", true)
  | _ => ("StableParty$Search", "wayEnds", "[I", true)
def tyX3 : Nat → FieldType := fun k => match k with
  | 0 => .array .int
  | 1 => .int
  | 2 => .array .int
  | 3 => .array .int
  | 4 => .array .int
  | 5 => .array .int
  | _ => .array .int
theorem nmX3 : ∀ a, a < 7 → ∀ b, b < 7 → a ≠ b → (TX3 a).2.1 ≠ (TX3 b).2.1 := by decide +kernel
theorem tyX3_ok : ∀ k, k < 7 → parseFieldDescriptor (TX3 k).2.2.1 = some (tyX3 k) := by decide +kernel
abbrev cX3_init : ByteArray := prog_5_method_1_code
def yX3_init : MethodName := ⟨RX3, "<init>", "()V"⟩
abbrev cX3_findGreatest : ByteArray := prog_5_method_2_code
def yX3_findGreatest : MethodName := ⟨RX3, "findGreatest", "(LStableParty$State;II)I"⟩
abbrev cX3_begin : ByteArray := prog_5_method_3_code
def yX3_begin : MethodName := ⟨RX3, "begin", "(I)V"⟩
abbrev cX3_sendAway : ByteArray := prog_5_method_4_code
def yX3_sendAway : MethodName := ⟨RX3, "sendAway", "(LStableParty$State;III)I"⟩
abbrev cX3_note : ByteArray := prog_5_method_5_code
def yX3_note : MethodName := ⟨RX3, "note", "(IIII)V"⟩
abbrev cX3_tell : ByteArray := prog_5_method_6_code
def yX3_tell : MethodName := ⟨RX3, "tell", "(II)I"⟩
def RX4 : String := "StableParty$State"
def TX4 : u_T := fun k => match k with
  | 0 => ("StableParty$State", "guests", "[LStableParty$Guest;", true)
  | 1 => ("StableParty$State", "guestCount", "I", false)
  | 2 => ("StableParty$State", "settings", "[I", true)
  | 3 => ("StableParty$State", "day", "I", false)
  | 4 => ("StableParty$State", "fixed", "Z", false)
  | 5 => ("StableParty$State", "left", "I", false)
  | 6 => ("StableParty$State", "paidFee", "I", false)
  | 7 => ("StableParty$State", "fixedSoFar", "I", false)
  | 8 => ("StableParty$State", "cancelledSoFar", "I", false)
  | _ => ("StableParty$State", "followedSoFar", "I", false)
def tyX4 : Nat → FieldType := fun k => match k with
  | 0 => .array (.object "StableParty$Guest")
  | 1 => .int
  | 2 => .array .int
  | 3 => .int
  | 4 => .boolean
  | 5 => .int
  | 6 => .int
  | 7 => .int
  | 8 => .int
  | _ => .int
theorem nmX4 : ∀ a, a < 10 → ∀ b, b < 10 → a ≠ b → (TX4 a).2.1 ≠ (TX4 b).2.1 := by decide +kernel
theorem tyX4_ok : ∀ k, k < 10 → parseFieldDescriptor (TX4 k).2.2.1 = some (tyX4 k) := by decide +kernel
abbrev cX4_init : ByteArray := prog_6_method_1_code
def yX4_init : MethodName := ⟨RX4, "<init>", "()V"⟩
abbrev cX4_copyFrom : ByteArray := prog_6_method_2_code
def yX4_copyFrom : MethodName := ⟨RX4, "copyFrom", "(LStableParty$State;)V"⟩
abbrev cX4_find : ByteArray := prog_6_method_3_code
def yX4_find : MethodName := ⟨RX4, "find", "(I)LStableParty$Guest;"⟩
abbrev cX4_add : ByteArray := prog_6_method_4_code
def yX4_add : MethodName := ⟨RX4, "add", "(II)I"⟩
abbrev cX4_everybody : ByteArray := prog_6_method_5_code
def yX4_everybody : MethodName := ⟨RX4, "everybody", "()I"⟩
abbrev cX4_hasAll : ByteArray := prog_6_method_6_code
def yX4_hasAll : MethodName := ⟨RX4, "hasAll", "(I)Z"⟩
abbrev cX4_invitedGuests : ByteArray := prog_6_method_7_code
def yX4_invitedGuests : MethodName := ⟨RX4, "invitedGuests", "()I"⟩
abbrev cX4_chargeIfLate : ByteArray := prog_6_method_8_code
def yX4_chargeIfLate : MethodName := ⟨RX4, "chargeIfLate", "(LStableParty$Guest;)V"⟩
abbrev cX4_feeOf : ByteArray := prog_6_method_9_code
def yX4_feeOf : MethodName := ⟨RX4, "feeOf", "(I)I"⟩
abbrev cX4_isStable : ByteArray := prog_6_method_10_code
def yX4_isStable : MethodName := ⟨RX4, "isStable", "(I)Z"⟩
abbrev cX4_countParts : ByteArray := prog_6_method_11_code
def yX4_countParts : MethodName := ⟨RX4, "countParts", "(I)I"⟩
abbrev cX4_smallestPart : ByteArray := prog_6_method_12_code
def yX4_smallestPart : MethodName := ⟨RX4, "smallestPart", "(I)I"⟩
abbrev cX4_bestPart : ByteArray := prog_6_method_13_code
def yX4_bestPart : MethodName := ⟨RX4, "bestPart", "(I)I"⟩
abbrev cX4_isBetter : ByteArray := prog_6_method_14_code
def yX4_isBetter : MethodName := ⟨RX4, "isBetter", "(II)Z"⟩
abbrev cX4_sumOfWeights : ByteArray := prog_6_method_15_code
def yX4_sumOfWeights : MethodName := ⟨RX4, "sumOfWeights", "(I)I"⟩
abbrev cX4_sumOf : ByteArray := prog_6_method_16_code
def yX4_sumOf : MethodName := ⟨RX4, "sumOf", "(I)I"⟩
abbrev cX4_guestOnSeat : ByteArray := prog_6_method_17_code
def yX4_guestOnSeat : MethodName := ⟨RX4, "guestOnSeat", "(I)I"⟩
abbrev cX4_fixCompany : ByteArray := prog_6_method_18_code
def yX4_fixCompany : MethodName := ⟨RX4, "fixCompany", "(I)I"⟩
abbrev cX4_letCancel : ByteArray := prog_6_method_19_code
def yX4_letCancel : MethodName := ⟨RX4, "letCancel", "(I)I"⟩
abbrev cX4_discontent : ByteArray := prog_6_method_20_code
def yX4_discontent : MethodName := ⟨RX4, "discontent", "()I"⟩
abbrev cX4_letGo : ByteArray := prog_6_method_21_code
def yX4_letGo : MethodName := ⟨RX4, "letGo", "(II)V"⟩
abbrev cX4_dissolveCompany : ByteArray := prog_6_method_22_code
def yX4_dissolveCompany : MethodName := ⟨RX4, "dissolveCompany", "()I"⟩
def RX5 : String := "StableParty"
def TX5 : u_T := fun k => match k with
  | 0 => ("StableParty", "now", "LStableParty$State;", true)
  | 1 => ("StableParty", "history", "LStableParty$History;", true)
  | 2 => ("StableParty", "snapshot", "LStableParty$State;", true)
  | 3 => ("StableParty", "hasSnapshot", "Z", false)
  | 4 => ("StableParty", "text", "[C", true)
  | 5 => ("StableParty", "textLength", "I", false)
  | 6 => ("StableParty", "reader", "LStableParty$Reader;", true)
  | _ => ("StableParty", "search", "LStableParty$Search;", true)
def tyX5 : Nat → FieldType := fun k => match k with
  | 0 => .object "StableParty$State"
  | 1 => .object "StableParty$History"
  | 2 => .object "StableParty$State"
  | 3 => .boolean
  | 4 => .array .char
  | 5 => .int
  | 6 => .object "StableParty$Reader"
  | _ => .object "StableParty$Search"
theorem nmX5 : ∀ a, a < 8 → ∀ b, b < 8 → a ≠ b → (TX5 a).2.1 ≠ (TX5 b).2.1 := by decide +kernel
theorem tyX5_ok : ∀ k, k < 8 → parseFieldDescriptor (TX5 k).2.2.1 = some (tyX5 k) := by decide +kernel
abbrev cX5_init : ByteArray := prog_1_method_1_code
def yX5_init : MethodName := ⟨RX5, "<init>", "()V"⟩
abbrev cX5_addGuest : ByteArray := prog_1_method_2_code
def yX5_addGuest : MethodName := ⟨RX5, "addGuest", "(II)I"⟩
abbrev cX5_setCondition : ByteArray := prog_1_method_3_code
def yX5_setCondition : MethodName := ⟨RX5, "setCondition", "(I)I"⟩
abbrev cX5_setLimit : ByteArray := prog_1_method_4_code
def yX5_setLimit : MethodName := ⟨RX5, "setLimit", "(II)I"⟩
abbrev cX5_setWeight : ByteArray := prog_1_method_5_code
def yX5_setWeight : MethodName := ⟨RX5, "setWeight", "(II)I"⟩
abbrev cX5_invite : ByteArray := prog_1_method_6_code
def yX5_invite : MethodName := ⟨RX5, "invite", "(IZ)I"⟩
abbrev cX5_set : ByteArray := prog_1_method_7_code
def yX5_set : MethodName := ⟨RX5, "set", "(II)I"⟩
abbrev cX5_pass : ByteArray := prog_1_method_8_code
def yX5_pass : MethodName := ⟨RX5, "pass", "(I)I"⟩
abbrev cX5_fix : ByteArray := prog_1_method_9_code
def yX5_fix : MethodName := ⟨RX5, "fix", "()I"⟩
abbrev cX5_cancel : ByteArray := prog_1_method_10_code
def yX5_cancel : MethodName := ⟨RX5, "cancel", "(I)I"⟩
abbrev cX5_dissolve : ByteArray := prog_1_method_11_code
def yX5_dissolve : MethodName := ⟨RX5, "dissolve", "()I"⟩
abbrev cX5_type : ByteArray := prog_1_method_12_code
def yX5_type : MethodName := ⟨RX5, "type", "(C)I"⟩
abbrev cX5_clearText : ByteArray := prog_1_method_13_code
def yX5_clearText : MethodName := ⟨RX5, "clearText", "()I"⟩
abbrev cX5_undo : ByteArray := prog_1_method_14_code
def yX5_undo : MethodName := ⟨RX5, "undo", "()I"⟩
abbrev cX5_keep : ByteArray := prog_1_method_15_code
def yX5_keep : MethodName := ⟨RX5, "keep", "()I"⟩
abbrev cX5_restore : ByteArray := prog_1_method_16_code
def yX5_restore : MethodName := ⟨RX5, "restore", "()I"⟩
abbrev cX5_guest : ByteArray := prog_1_method_17_code
def yX5_guest : MethodName := ⟨RX5, "guest", "(II)I"⟩
abbrev cX5_met : ByteArray := prog_1_method_18_code
def yX5_met : MethodName := ⟨RX5, "met", "(II)I"⟩
abbrev cX5_stable : ByteArray := prog_1_method_19_code
def yX5_stable : MethodName := ⟨RX5, "stable", "(I)I"⟩
abbrev cX5_fee : ByteArray := prog_1_method_20_code
def yX5_fee : MethodName := ⟨RX5, "fee", "(I)I"⟩
abbrev cX5_company : ByteArray := prog_1_method_21_code
def yX5_company : MethodName := ⟨RX5, "company", "(I)I"⟩
abbrev cX5_companies : ByteArray := prog_1_method_22_code
def yX5_companies : MethodName := ⟨RX5, "companies", "()I"⟩
abbrev cX5_why : ByteArray := prog_1_method_23_code
def yX5_why : MethodName := ⟨RX5, "why", "(II)I"⟩
abbrev cX5_rounds : ByteArray := prog_1_method_24_code
def yX5_rounds : MethodName := ⟨RX5, "rounds", "()I"⟩
abbrev cX5_needs : ByteArray := prog_1_method_25_code
def yX5_needs : MethodName := ⟨RX5, "needs", "(I)I"⟩
abbrev cX5_weightOf : ByteArray := prog_1_method_26_code
def yX5_weightOf : MethodName := ⟨RX5, "weightOf", "(I)I"⟩
abbrev cX5_leastLimit : ByteArray := prog_1_method_27_code
def yX5_leastLimit : MethodName := ⟨RX5, "leastLimit", "(I)I"⟩
abbrev cX5_seat : ByteArray := prog_1_method_28_code
def yX5_seat : MethodName := ⟨RX5, "seat", "(I)I"⟩
abbrev cX5_count : ByteArray := prog_1_method_29_code
def yX5_count : MethodName := ⟨RX5, "count", "(I)I"⟩
abbrev cX5_findGreatest : ByteArray := prog_1_method_30_code
def yX5_findGreatest : MethodName := ⟨RX5, "findGreatest", "()I"⟩
abbrev cX5_findChosen : ByteArray := prog_1_method_31_code
def yX5_findChosen : MethodName := ⟨RX5, "findChosen", "()I"⟩
abbrev cX5_isWithin : ByteArray := prog_1_method_32_code
def yX5_isWithin : MethodName := ⟨RX5, "isWithin", "(III)Z"⟩
abbrev cX5_asNumber : ByteArray := prog_1_method_33_code
def yX5_asNumber : MethodName := ⟨RX5, "asNumber", "(Z)I"⟩
abbrev cX5_bitOf : ByteArray := prog_1_method_34_code
def yX5_bitOf : MethodName := ⟨RX5, "bitOf", "(I)I"⟩
abbrev cX5_isIn : ByteArray := prog_1_method_35_code
def yX5_isIn : MethodName := ⟨RX5, "isIn", "(II)Z"⟩
abbrev cX5_isPart : ByteArray := prog_1_method_36_code
def yX5_isPart : MethodName := ⟨RX5, "isPart", "(II)Z"⟩
abbrev cX5_lowestOf : ByteArray := prog_1_method_37_code
def yX5_lowestOf : MethodName := ⟨RX5, "lowestOf", "(I)I"⟩
abbrev cX5_atomOf : ByteArray := prog_1_method_38_code
def yX5_atomOf : MethodName := ⟨RX5, "atomOf", "(II)I"⟩
abbrev cX5_isAtomMet : ByteArray := prog_1_method_39_code
def yX5_isAtomMet : MethodName := ⟨RX5, "isAtomMet", "(II)Z"⟩
def RX6 : String := "StablePartyModel"
def TX6 : u_T := fun k => match k with
  | _ => ("", "", "", false)
def tyX6 : Nat → FieldType := fun k => match k with
  | _ => .int
theorem nmX6 : ∀ a, a < 0 → ∀ b, b < 0 → a ≠ b → (TX6 a).2.1 ≠ (TX6 b).2.1 := by decide +kernel
theorem tyX6_ok : ∀ k, k < 0 → parseFieldDescriptor (TX6 k).2.2.1 = some (tyX6 k) := by decide +kernel
def RJ6 : String := "java/lang/Integer"
def TJ6 : u_T := fun k => match k with
  | _ => ("", "", "", false)
def tyJ6 : Nat → FieldType := fun k => match k with
  | _ => .int
abbrev cJ6_bitCount_0f7a4 : ByteArray := prog_9_method_49_code
def yJ6_bitCount_0f7a4 : MethodName := ⟨RJ6, "bitCount", "(I)I"⟩
def RL : String := "StablePartyLaw"
abbrev cL_cell : ByteArray := method_2_code
def yL_cell : MethodName := ⟨RL, "cell", "([II)I"⟩
abbrev cL_ones : ByteArray := method_3_code
def yL_ones : MethodName := ⟨RL, "ones", "(I)I"⟩
abbrev cL_weight : ByteArray := method_4_code
def yL_weight : MethodName := ⟨RL, "weight", "(LStableParty;I)I"⟩
abbrev cL_companies : ByteArray := method_5_code
def yL_companies : MethodName := ⟨RL, "companies", "(LStableParty;)Z"⟩
abbrev cL_guests : ByteArray := method_6_code
def yL_guests : MethodName := ⟨RL, "guests", "(LStableParty;)Z"⟩
abbrev cL_condition : ByteArray := method_7_code
def yL_condition : MethodName := ⟨RL, "condition", "(LStableParty;II)Z"⟩
abbrev cL_acts : ByteArray := method_8_code
def yL_acts : MethodName := ⟨RL, "acts", "(LStableParty;I)Z"⟩
abbrev cL_law : ByteArray := code
def yL_law : MethodName := ⟨RL, "law", "([I)Z"⟩
abbrev vwCl : List vw_C := [(RX0, TX0, 10), (RX1, TX1, 2), (RX2, TX2, 7), (RX3, TX3, 7), (RX4, TX4, 10), (RX5, TX5, 8)]
