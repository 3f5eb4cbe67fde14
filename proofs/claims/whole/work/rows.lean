section
-- ===== PART A: goes FIRST, ahead of the names: the tables' words, and 'selects' of the private methods out of them =====
/-- a private method of a class that the tables say can be made, by its rows of tables_1 -/
def lw_okq (q : MethodName × Nat) : Prop := (q.1.cls ≠ "java/lang/invoke/MethodHandle" ∧ q.1.cls ≠ "java/lang/invoke/VarHandle") ∧ Cond.instantiable q.1.cls q.2 ∈ tables_1 ∧ Cond.privateMethod q.1 ∈ tables_1 ∧ Cond.instanceMethod q.1 ∈ tables_1
theorem lw_p0 : lw_okq (⟨"StableParty$History", "record", "(LStableParty$State;)V"⟩, 2) := ⟨⟨by decide +kernel, by decide +kernel⟩, List.mem_of_getElem? (i := 117) (by decide +kernel), List.mem_of_getElem? (i := 229) (by decide +kernel), List.mem_of_getElem? (i := 230) (by decide +kernel)⟩
theorem lw_p1 : lw_okq (⟨"StableParty$History", "moveOldestBehind", "()V"⟩, 2) := ⟨⟨by decide +kernel, by decide +kernel⟩, List.mem_of_getElem? (i := 117) (by decide +kernel), List.mem_of_getElem? (i := 233) (by decide +kernel), List.mem_of_getElem? (i := 234) (by decide +kernel)⟩
theorem lw_p2 : lw_okq (⟨"StableParty$History", "at", "(I)LStableParty$State;"⟩, 2) := ⟨⟨by decide +kernel, by decide +kernel⟩, List.mem_of_getElem? (i := 117) (by decide +kernel), List.mem_of_getElem? (i := 237) (by decide +kernel), List.mem_of_getElem? (i := 238) (by decide +kernel)⟩
theorem lw_p3 : lw_okq (⟨"StableParty$State", "copyFrom", "(LStableParty$State;)V"⟩, 10) := ⟨⟨by decide +kernel, by decide +kernel⟩, List.mem_of_getElem? (i := 18) (by decide +kernel), List.mem_of_getElem? (i := 241) (by decide +kernel), List.mem_of_getElem? (i := 242) (by decide +kernel)⟩
theorem lw_p4 : lw_okq (⟨"StableParty$State", "find", "(I)LStableParty$Guest;"⟩, 10) := ⟨⟨by decide +kernel, by decide +kernel⟩, List.mem_of_getElem? (i := 18) (by decide +kernel), List.mem_of_getElem? (i := 245) (by decide +kernel), List.mem_of_getElem? (i := 246) (by decide +kernel)⟩
theorem lw_p5 : lw_okq (⟨"StableParty$Guest", "copyFrom", "(LStableParty$Guest;)V"⟩, 10) := ⟨⟨by decide +kernel, by decide +kernel⟩, List.mem_of_getElem? (i := 25) (by decide +kernel), List.mem_of_getElem? (i := 249) (by decide +kernel), List.mem_of_getElem? (i := 250) (by decide +kernel)⟩
theorem lw_p6 : lw_okq (⟨"StableParty$Guest", "copyCondition", "(I[II)V"⟩, 10) := ⟨⟨by decide +kernel, by decide +kernel⟩, List.mem_of_getElem? (i := 25) (by decide +kernel), List.mem_of_getElem? (i := 253) (by decide +kernel), List.mem_of_getElem? (i := 254) (by decide +kernel)⟩
theorem lw_p7 : lw_okq (⟨"StableParty$State", "add", "(II)I"⟩, 10) := ⟨⟨by decide +kernel, by decide +kernel⟩, List.mem_of_getElem? (i := 18) (by decide +kernel), List.mem_of_getElem? (i := 257) (by decide +kernel), List.mem_of_getElem? (i := 258) (by decide +kernel)⟩
theorem lw_p8 : lw_okq (⟨"StableParty$Guest", "begin", "(II)V"⟩, 10) := ⟨⟨by decide +kernel, by decide +kernel⟩, List.mem_of_getElem? (i := 25) (by decide +kernel), List.mem_of_getElem? (i := 261) (by decide +kernel), List.mem_of_getElem? (i := 262) (by decide +kernel)⟩
theorem lw_p9 : lw_okq (⟨"StableParty$Reader", "read", "([CI)I"⟩, 7) := ⟨⟨by decide +kernel, by decide +kernel⟩, List.mem_of_getElem? (i := 134) (by decide +kernel), List.mem_of_getElem? (i := 273) (by decide +kernel), List.mem_of_getElem? (i := 274) (by decide +kernel)⟩
theorem lw_p10 : lw_okq (⟨"StableParty$Reader", "accepts", "(C)Z"⟩, 7) := ⟨⟨by decide +kernel, by decide +kernel⟩, List.mem_of_getElem? (i := 134) (by decide +kernel), List.mem_of_getElem? (i := 277) (by decide +kernel), List.mem_of_getElem? (i := 278) (by decide +kernel)⟩
theorem lw_p11 : lw_okq (⟨"StableParty$Reader", "acceptsAtom", "(C)Z"⟩, 7) := ⟨⟨by decide +kernel, by decide +kernel⟩, List.mem_of_getElem? (i := 134) (by decide +kernel), List.mem_of_getElem? (i := 281) (by decide +kernel), List.mem_of_getElem? (i := 282) (by decide +kernel)⟩
theorem lw_p12 : lw_okq (⟨"StableParty$Reader", "opensBracket", "()Z"⟩, 7) := ⟨⟨by decide +kernel, by decide +kernel⟩, List.mem_of_getElem? (i := 134) (by decide +kernel), List.mem_of_getElem? (i := 285) (by decide +kernel), List.mem_of_getElem? (i := 286) (by decide +kernel)⟩
theorem lw_p13 : lw_okq (⟨"StableParty$Reader", "addStep", "(I)V"⟩, 7) := ⟨⟨by decide +kernel, by decide +kernel⟩, List.mem_of_getElem? (i := 134) (by decide +kernel), List.mem_of_getElem? (i := 289) (by decide +kernel), List.mem_of_getElem? (i := 290) (by decide +kernel)⟩
theorem lw_p14 : lw_okq (⟨"StableParty$Reader", "acceptsNumber", "(C)Z"⟩, 7) := ⟨⟨by decide +kernel, by decide +kernel⟩, List.mem_of_getElem? (i := 134) (by decide +kernel), List.mem_of_getElem? (i := 303) (by decide +kernel), List.mem_of_getElem? (i := 304) (by decide +kernel)⟩
theorem lw_p15 : lw_okq (⟨"StableParty$Reader", "acceptsColon", "(C)Z"⟩, 7) := ⟨⟨by decide +kernel, by decide +kernel⟩, List.mem_of_getElem? (i := 134) (by decide +kernel), List.mem_of_getElem? (i := 307) (by decide +kernel), List.mem_of_getElem? (i := 308) (by decide +kernel)⟩
def lw_privs_1 : List (MethodName × Nat) := [(⟨"StableParty$History", "record", "(LStableParty$State;)V"⟩, 2), (⟨"StableParty$History", "moveOldestBehind", "()V"⟩, 2), (⟨"StableParty$History", "at", "(I)LStableParty$State;"⟩, 2), (⟨"StableParty$State", "copyFrom", "(LStableParty$State;)V"⟩, 10), (⟨"StableParty$State", "find", "(I)LStableParty$Guest;"⟩, 10), (⟨"StableParty$Guest", "copyFrom", "(LStableParty$Guest;)V"⟩, 10), (⟨"StableParty$Guest", "copyCondition", "(I[II)V"⟩, 10), (⟨"StableParty$State", "add", "(II)I"⟩, 10), (⟨"StableParty$Guest", "begin", "(II)V"⟩, 10), (⟨"StableParty$Reader", "read", "([CI)I"⟩, 7), (⟨"StableParty$Reader", "accepts", "(C)Z"⟩, 7), (⟨"StableParty$Reader", "acceptsAtom", "(C)Z"⟩, 7), (⟨"StableParty$Reader", "opensBracket", "()Z"⟩, 7), (⟨"StableParty$Reader", "addStep", "(I)V"⟩, 7), (⟨"StableParty$Reader", "acceptsNumber", "(C)Z"⟩, 7), (⟨"StableParty$Reader", "acceptsColon", "(C)Z"⟩, 7)]
theorem lw_r1 : ∀ q ∈ lw_privs_1, lw_okq q := List.forall_mem_cons.mpr ⟨lw_p0, List.forall_mem_cons.mpr ⟨lw_p1, List.forall_mem_cons.mpr ⟨lw_p2, List.forall_mem_cons.mpr ⟨lw_p3, List.forall_mem_cons.mpr ⟨lw_p4, List.forall_mem_cons.mpr ⟨lw_p5, List.forall_mem_cons.mpr ⟨lw_p6, List.forall_mem_cons.mpr ⟨lw_p7, List.forall_mem_cons.mpr ⟨lw_p8, List.forall_mem_cons.mpr ⟨lw_p9, List.forall_mem_cons.mpr ⟨lw_p10, List.forall_mem_cons.mpr ⟨lw_p11, List.forall_mem_cons.mpr ⟨lw_p12, List.forall_mem_cons.mpr ⟨lw_p13, List.forall_mem_cons.mpr ⟨lw_p14, List.forall_mem_cons.mpr ⟨lw_p15, fun _ h => absurd h List.not_mem_nil⟩⟩⟩⟩⟩⟩⟩⟩⟩⟩⟩⟩⟩⟩⟩⟩
theorem lw_p16 : lw_okq (⟨"StableParty$Reader", "acceptsLetter", "(C)Z"⟩, 7) := ⟨⟨by decide +kernel, by decide +kernel⟩, List.mem_of_getElem? (i := 134) (by decide +kernel), List.mem_of_getElem? (i := 311) (by decide +kernel), List.mem_of_getElem? (i := 312) (by decide +kernel)⟩
theorem lw_p17 : lw_okq (⟨"StableParty$Reader", "changeLastStep", "(I)V"⟩, 7) := ⟨⟨by decide +kernel, by decide +kernel⟩, List.mem_of_getElem? (i := 134) (by decide +kernel), List.mem_of_getElem? (i := 315) (by decide +kernel), List.mem_of_getElem? (i := 316) (by decide +kernel)⟩
theorem lw_p18 : lw_okq (⟨"StableParty$Reader", "acceptsBehindAtom", "(C)Z"⟩, 7) := ⟨⟨by decide +kernel, by decide +kernel⟩, List.mem_of_getElem? (i := 134) (by decide +kernel), List.mem_of_getElem? (i := 319) (by decide +kernel), List.mem_of_getElem? (i := 320) (by decide +kernel)⟩
theorem lw_p19 : lw_okq (⟨"StableParty$Reader", "closesBracket", "()Z"⟩, 7) := ⟨⟨by decide +kernel, by decide +kernel⟩, List.mem_of_getElem? (i := 134) (by decide +kernel), List.mem_of_getElem? (i := 323) (by decide +kernel), List.mem_of_getElem? (i := 324) (by decide +kernel)⟩
theorem lw_p20 : lw_okq (⟨"StableParty$Reader", "acceptsSecondDigit", "(C)Z"⟩, 7) := ⟨⟨by decide +kernel, by decide +kernel⟩, List.mem_of_getElem? (i := 134) (by decide +kernel), List.mem_of_getElem? (i := 327) (by decide +kernel), List.mem_of_getElem? (i := 328) (by decide +kernel)⟩
theorem lw_p21 : lw_okq (⟨"StableParty$State", "hasAll", "(I)Z"⟩, 10) := ⟨⟨by decide +kernel, by decide +kernel⟩, List.mem_of_getElem? (i := 18) (by decide +kernel), List.mem_of_getElem? (i := 331) (by decide +kernel), List.mem_of_getElem? (i := 332) (by decide +kernel)⟩
theorem lw_p22 : lw_okq (⟨"StableParty$State", "everybody", "()I"⟩, 10) := ⟨⟨by decide +kernel, by decide +kernel⟩, List.mem_of_getElem? (i := 18) (by decide +kernel), List.mem_of_getElem? (i := 335) (by decide +kernel), List.mem_of_getElem? (i := 336) (by decide +kernel)⟩
theorem lw_p23 : lw_okq (⟨"StableParty$Guest", "takeCondition", "(LStableParty$Reader;)V"⟩, 10) := ⟨⟨by decide +kernel, by decide +kernel⟩, List.mem_of_getElem? (i := 25) (by decide +kernel), List.mem_of_getElem? (i := 341) (by decide +kernel), List.mem_of_getElem? (i := 342) (by decide +kernel)⟩
theorem lw_p24 : lw_okq (⟨"StableParty$State", "chargeIfLate", "(LStableParty$Guest;)V"⟩, 10) := ⟨⟨by decide +kernel, by decide +kernel⟩, List.mem_of_getElem? (i := 18) (by decide +kernel), List.mem_of_getElem? (i := 345) (by decide +kernel), List.mem_of_getElem? (i := 346) (by decide +kernel)⟩
theorem lw_p25 : lw_okq (⟨"StableParty$State", "invitedGuests", "()I"⟩, 10) := ⟨⟨by decide +kernel, by decide +kernel⟩, List.mem_of_getElem? (i := 18) (by decide +kernel), List.mem_of_getElem? (i := 367) (by decide +kernel), List.mem_of_getElem? (i := 368) (by decide +kernel)⟩
theorem lw_p26 : lw_okq (⟨"StableParty", "findChosen", "()I"⟩, 8) := ⟨⟨by decide +kernel, by decide +kernel⟩, List.mem_of_getElem? (i := 10) (by decide +kernel), List.mem_of_getElem? (i := 387) (by decide +kernel), List.mem_of_getElem? (i := 388) (by decide +kernel)⟩
theorem lw_p27 : lw_okq (⟨"StableParty", "findGreatest", "()I"⟩, 8) := ⟨⟨by decide +kernel, by decide +kernel⟩, List.mem_of_getElem? (i := 10) (by decide +kernel), List.mem_of_getElem? (i := 391) (by decide +kernel), List.mem_of_getElem? (i := 392) (by decide +kernel)⟩
theorem lw_p28 : lw_okq (⟨"StableParty$Search", "findGreatest", "(LStableParty$State;II)I"⟩, 7) := ⟨⟨by decide +kernel, by decide +kernel⟩, List.mem_of_getElem? (i := 167) (by decide +kernel), List.mem_of_getElem? (i := 395) (by decide +kernel), List.mem_of_getElem? (i := 396) (by decide +kernel)⟩
theorem lw_p29 : lw_okq (⟨"StableParty$Search", "begin", "(I)V"⟩, 7) := ⟨⟨by decide +kernel, by decide +kernel⟩, List.mem_of_getElem? (i := 167) (by decide +kernel), List.mem_of_getElem? (i := 400) (by decide +kernel), List.mem_of_getElem? (i := 401) (by decide +kernel)⟩
theorem lw_p30 : lw_okq (⟨"StableParty$Search", "sendAway", "(LStableParty$State;III)I"⟩, 7) := ⟨⟨by decide +kernel, by decide +kernel⟩, List.mem_of_getElem? (i := 167) (by decide +kernel), List.mem_of_getElem? (i := 408) (by decide +kernel), List.mem_of_getElem? (i := 409) (by decide +kernel)⟩
theorem lw_p31 : lw_okq (⟨"StableParty$State", "feeOf", "(I)I"⟩, 10) := ⟨⟨by decide +kernel, by decide +kernel⟩, List.mem_of_getElem? (i := 18) (by decide +kernel), List.mem_of_getElem? (i := 413) (by decide +kernel), List.mem_of_getElem? (i := 414) (by decide +kernel)⟩
def lw_privs_2 : List (MethodName × Nat) := [(⟨"StableParty$Reader", "acceptsLetter", "(C)Z"⟩, 7), (⟨"StableParty$Reader", "changeLastStep", "(I)V"⟩, 7), (⟨"StableParty$Reader", "acceptsBehindAtom", "(C)Z"⟩, 7), (⟨"StableParty$Reader", "closesBracket", "()Z"⟩, 7), (⟨"StableParty$Reader", "acceptsSecondDigit", "(C)Z"⟩, 7), (⟨"StableParty$State", "hasAll", "(I)Z"⟩, 10), (⟨"StableParty$State", "everybody", "()I"⟩, 10), (⟨"StableParty$Guest", "takeCondition", "(LStableParty$Reader;)V"⟩, 10), (⟨"StableParty$State", "chargeIfLate", "(LStableParty$Guest;)V"⟩, 10), (⟨"StableParty$State", "invitedGuests", "()I"⟩, 10), (⟨"StableParty", "findChosen", "()I"⟩, 8), (⟨"StableParty", "findGreatest", "()I"⟩, 8), (⟨"StableParty$Search", "findGreatest", "(LStableParty$State;II)I"⟩, 7), (⟨"StableParty$Search", "begin", "(I)V"⟩, 7), (⟨"StableParty$Search", "sendAway", "(LStableParty$State;III)I"⟩, 7), (⟨"StableParty$State", "feeOf", "(I)I"⟩, 10)]
theorem lw_r2 : ∀ q ∈ lw_privs_2, lw_okq q := List.forall_mem_cons.mpr ⟨lw_p16, List.forall_mem_cons.mpr ⟨lw_p17, List.forall_mem_cons.mpr ⟨lw_p18, List.forall_mem_cons.mpr ⟨lw_p19, List.forall_mem_cons.mpr ⟨lw_p20, List.forall_mem_cons.mpr ⟨lw_p21, List.forall_mem_cons.mpr ⟨lw_p22, List.forall_mem_cons.mpr ⟨lw_p23, List.forall_mem_cons.mpr ⟨lw_p24, List.forall_mem_cons.mpr ⟨lw_p25, List.forall_mem_cons.mpr ⟨lw_p26, List.forall_mem_cons.mpr ⟨lw_p27, List.forall_mem_cons.mpr ⟨lw_p28, List.forall_mem_cons.mpr ⟨lw_p29, List.forall_mem_cons.mpr ⟨lw_p30, List.forall_mem_cons.mpr ⟨lw_p31, fun _ h => absurd h List.not_mem_nil⟩⟩⟩⟩⟩⟩⟩⟩⟩⟩⟩⟩⟩⟩⟩⟩
theorem lw_p32 : lw_okq (⟨"StableParty$Guest", "isContentWith", "(I)Z"⟩, 10) := ⟨⟨by decide +kernel, by decide +kernel⟩, List.mem_of_getElem? (i := 25) (by decide +kernel), List.mem_of_getElem? (i := 419) (by decide +kernel), List.mem_of_getElem? (i := 420) (by decide +kernel)⟩
theorem lw_p33 : lw_okq (⟨"StableParty$Search", "note", "(IIII)V"⟩, 7) := ⟨⟨by decide +kernel, by decide +kernel⟩, List.mem_of_getElem? (i := 167) (by decide +kernel), List.mem_of_getElem? (i := 426) (by decide +kernel), List.mem_of_getElem? (i := 427) (by decide +kernel)⟩
theorem lw_p34 : lw_okq (⟨"StableParty$State", "bestPart", "(I)I"⟩, 10) := ⟨⟨by decide +kernel, by decide +kernel⟩, List.mem_of_getElem? (i := 18) (by decide +kernel), List.mem_of_getElem? (i := 435) (by decide +kernel), List.mem_of_getElem? (i := 436) (by decide +kernel)⟩
theorem lw_p35 : lw_okq (⟨"StableParty$State", "isBetter", "(II)Z"⟩, 10) := ⟨⟨by decide +kernel, by decide +kernel⟩, List.mem_of_getElem? (i := 18) (by decide +kernel), List.mem_of_getElem? (i := 443) (by decide +kernel), List.mem_of_getElem? (i := 444) (by decide +kernel)⟩
theorem lw_p36 : lw_okq (⟨"StableParty$State", "sumOfWeights", "(I)I"⟩, 10) := ⟨⟨by decide +kernel, by decide +kernel⟩, List.mem_of_getElem? (i := 18) (by decide +kernel), List.mem_of_getElem? (i := 447) (by decide +kernel), List.mem_of_getElem? (i := 448) (by decide +kernel)⟩
theorem lw_p37 : lw_okq (⟨"StableParty$State", "isStable", "(I)Z"⟩, 10) := ⟨⟨by decide +kernel, by decide +kernel⟩, List.mem_of_getElem? (i := 18) (by decide +kernel), List.mem_of_getElem? (i := 452) (by decide +kernel), List.mem_of_getElem? (i := 453) (by decide +kernel)⟩
theorem lw_p38 : lw_okq (⟨"StableParty$State", "fixCompany", "(I)I"⟩, 10) := ⟨⟨by decide +kernel, by decide +kernel⟩, List.mem_of_getElem? (i := 18) (by decide +kernel), List.mem_of_getElem? (i := 458) (by decide +kernel), List.mem_of_getElem? (i := 459) (by decide +kernel)⟩
theorem lw_p39 : lw_okq (⟨"StableParty$State", "letCancel", "(I)I"⟩, 10) := ⟨⟨by decide +kernel, by decide +kernel⟩, List.mem_of_getElem? (i := 18) (by decide +kernel), List.mem_of_getElem? (i := 466) (by decide +kernel), List.mem_of_getElem? (i := 467) (by decide +kernel)⟩
theorem lw_p40 : lw_okq (⟨"StableParty$State", "letGo", "(II)V"⟩, 10) := ⟨⟨by decide +kernel, by decide +kernel⟩, List.mem_of_getElem? (i := 18) (by decide +kernel), List.mem_of_getElem? (i := 470) (by decide +kernel), List.mem_of_getElem? (i := 471) (by decide +kernel)⟩
theorem lw_p41 : lw_okq (⟨"StableParty$State", "discontent", "()I"⟩, 10) := ⟨⟨by decide +kernel, by decide +kernel⟩, List.mem_of_getElem? (i := 18) (by decide +kernel), List.mem_of_getElem? (i := 474) (by decide +kernel), List.mem_of_getElem? (i := 475) (by decide +kernel)⟩
theorem lw_p42 : lw_okq (⟨"StableParty$State", "dissolveCompany", "()I"⟩, 10) := ⟨⟨by decide +kernel, by decide +kernel⟩, List.mem_of_getElem? (i := 18) (by decide +kernel), List.mem_of_getElem? (i := 482) (by decide +kernel), List.mem_of_getElem? (i := 483) (by decide +kernel)⟩
theorem lw_p43 : lw_okq (⟨"StableParty$History", "takeBack", "(LStableParty$State;)V"⟩, 2) := ⟨⟨by decide +kernel, by decide +kernel⟩, List.mem_of_getElem? (i := 117) (by decide +kernel), List.mem_of_getElem? (i := 498) (by decide +kernel), List.mem_of_getElem? (i := 499) (by decide +kernel)⟩
theorem lw_p44 : lw_okq (⟨"StableParty$Guest", "tell", "(I)I"⟩, 10) := ⟨⟨by decide +kernel, by decide +kernel⟩, List.mem_of_getElem? (i := 25) (by decide +kernel), List.mem_of_getElem? (i := 515) (by decide +kernel), List.mem_of_getElem? (i := 516) (by decide +kernel)⟩
theorem lw_p45 : lw_okq (⟨"StableParty$State", "smallestPart", "(I)I"⟩, 10) := ⟨⟨by decide +kernel, by decide +kernel⟩, List.mem_of_getElem? (i := 18) (by decide +kernel), List.mem_of_getElem? (i := 542) (by decide +kernel), List.mem_of_getElem? (i := 543) (by decide +kernel)⟩
theorem lw_p46 : lw_okq (⟨"StableParty$State", "countParts", "(I)I"⟩, 10) := ⟨⟨by decide +kernel, by decide +kernel⟩, List.mem_of_getElem? (i := 18) (by decide +kernel), List.mem_of_getElem? (i := 550) (by decide +kernel), List.mem_of_getElem? (i := 551) (by decide +kernel)⟩
theorem lw_p47 : lw_okq (⟨"StableParty$Search", "tell", "(II)I"⟩, 7) := ⟨⟨by decide +kernel, by decide +kernel⟩, List.mem_of_getElem? (i := 167) (by decide +kernel), List.mem_of_getElem? (i := 558) (by decide +kernel), List.mem_of_getElem? (i := 559) (by decide +kernel)⟩
def lw_privs_3 : List (MethodName × Nat) := [(⟨"StableParty$Guest", "isContentWith", "(I)Z"⟩, 10), (⟨"StableParty$Search", "note", "(IIII)V"⟩, 7), (⟨"StableParty$State", "bestPart", "(I)I"⟩, 10), (⟨"StableParty$State", "isBetter", "(II)Z"⟩, 10), (⟨"StableParty$State", "sumOfWeights", "(I)I"⟩, 10), (⟨"StableParty$State", "isStable", "(I)Z"⟩, 10), (⟨"StableParty$State", "fixCompany", "(I)I"⟩, 10), (⟨"StableParty$State", "letCancel", "(I)I"⟩, 10), (⟨"StableParty$State", "letGo", "(II)V"⟩, 10), (⟨"StableParty$State", "discontent", "()I"⟩, 10), (⟨"StableParty$State", "dissolveCompany", "()I"⟩, 10), (⟨"StableParty$History", "takeBack", "(LStableParty$State;)V"⟩, 2), (⟨"StableParty$Guest", "tell", "(I)I"⟩, 10), (⟨"StableParty$State", "smallestPart", "(I)I"⟩, 10), (⟨"StableParty$State", "countParts", "(I)I"⟩, 10), (⟨"StableParty$Search", "tell", "(II)I"⟩, 7)]
theorem lw_r3 : ∀ q ∈ lw_privs_3, lw_okq q := List.forall_mem_cons.mpr ⟨lw_p32, List.forall_mem_cons.mpr ⟨lw_p33, List.forall_mem_cons.mpr ⟨lw_p34, List.forall_mem_cons.mpr ⟨lw_p35, List.forall_mem_cons.mpr ⟨lw_p36, List.forall_mem_cons.mpr ⟨lw_p37, List.forall_mem_cons.mpr ⟨lw_p38, List.forall_mem_cons.mpr ⟨lw_p39, List.forall_mem_cons.mpr ⟨lw_p40, List.forall_mem_cons.mpr ⟨lw_p41, List.forall_mem_cons.mpr ⟨lw_p42, List.forall_mem_cons.mpr ⟨lw_p43, List.forall_mem_cons.mpr ⟨lw_p44, List.forall_mem_cons.mpr ⟨lw_p45, List.forall_mem_cons.mpr ⟨lw_p46, List.forall_mem_cons.mpr ⟨lw_p47, fun _ h => absurd h List.not_mem_nil⟩⟩⟩⟩⟩⟩⟩⟩⟩⟩⟩⟩⟩⟩⟩⟩
theorem lw_p48 : lw_okq (⟨"StableParty$State", "guestOnSeat", "(I)I"⟩, 10) := ⟨⟨by decide +kernel, by decide +kernel⟩, List.mem_of_getElem? (i := 18) (by decide +kernel), List.mem_of_getElem? (i := 583) (by decide +kernel), List.mem_of_getElem? (i := 584) (by decide +kernel)⟩
theorem lw_p49 : lw_okq (⟨"StableParty$State", "sumOf", "(I)I"⟩, 10) := ⟨⟨by decide +kernel, by decide +kernel⟩, List.mem_of_getElem? (i := 18) (by decide +kernel), List.mem_of_getElem? (i := 591) (by decide +kernel), List.mem_of_getElem? (i := 592) (by decide +kernel)⟩
theorem lw_p50 : lw_okq (⟨"StablePartyModel", "isFixed", "()Z"⟩, 16) := ⟨⟨by decide +kernel, by decide +kernel⟩, List.mem_of_getElem? (i := 596) (by decide +kernel), List.mem_of_getElem? (i := 660) (by decide +kernel), List.mem_of_getElem? (i := 661) (by decide +kernel)⟩
theorem lw_p51 : lw_okq (⟨"StablePartyModel", "record", "()V"⟩, 16) := ⟨⟨by decide +kernel, by decide +kernel⟩, List.mem_of_getElem? (i := 596) (by decide +kernel), List.mem_of_getElem? (i := 664) (by decide +kernel), List.mem_of_getElem? (i := 665) (by decide +kernel)⟩
theorem lw_p52 : lw_okq (⟨"StablePartyModel", "allMeet", "(I)V"⟩, 16) := ⟨⟨by decide +kernel, by decide +kernel⟩, List.mem_of_getElem? (i := 596) (by decide +kernel), List.mem_of_getElem? (i := 671) (by decide +kernel), List.mem_of_getElem? (i := 672) (by decide +kernel)⟩
theorem lw_p53 : lw_okq (⟨"StablePartyModel", "isGuest", "(I)Z"⟩, 16) := ⟨⟨by decide +kernel, by decide +kernel⟩, List.mem_of_getElem? (i := 596) (by decide +kernel), List.mem_of_getElem? (i := 679) (by decide +kernel), List.mem_of_getElem? (i := 680) (by decide +kernel)⟩
theorem lw_p54 : lw_okq (⟨"StablePartyModel", "fault", "()I"⟩, 16) := ⟨⟨by decide +kernel, by decide +kernel⟩, List.mem_of_getElem? (i := 596) (by decide +kernel), List.mem_of_getElem? (i := 683) (by decide +kernel), List.mem_of_getElem? (i := 684) (by decide +kernel)⟩
theorem lw_p55 : lw_okq (⟨"StablePartyModel", "charAt", "(I)I"⟩, 16) := ⟨⟨by decide +kernel, by decide +kernel⟩, List.mem_of_getElem? (i := 596) (by decide +kernel), List.mem_of_getElem? (i := 687) (by decide +kernel), List.mem_of_getElem? (i := 688) (by decide +kernel)⟩
theorem lw_p56 : lw_okq (⟨"StablePartyModel", "overAtom", "()Z"⟩, 16) := ⟨⟨by decide +kernel, by decide +kernel⟩, List.mem_of_getElem? (i := 596) (by decide +kernel), List.mem_of_getElem? (i := 691) (by decide +kernel), List.mem_of_getElem? (i := 692) (by decide +kernel)⟩
theorem lw_p57 : lw_okq (⟨"StablePartyModel", "isLetter", "()Z"⟩, 16) := ⟨⟨by decide +kernel, by decide +kernel⟩, List.mem_of_getElem? (i := 596) (by decide +kernel), List.mem_of_getElem? (i := 695) (by decide +kernel), List.mem_of_getElem? (i := 696) (by decide +kernel)⟩
theorem lw_p58 : lw_okq (⟨"StablePartyModel", "all", "()I"⟩, 16) := ⟨⟨by decide +kernel, by decide +kernel⟩, List.mem_of_getElem? (i := 596) (by decide +kernel), List.mem_of_getElem? (i := 699) (by decide +kernel), List.mem_of_getElem? (i := 700) (by decide +kernel)⟩
theorem lw_p59 : lw_okq (⟨"StablePartyModel", "meets", "(I)Z"⟩, 16) := ⟨⟨by decide +kernel, by decide +kernel⟩, List.mem_of_getElem? (i := 596) (by decide +kernel), List.mem_of_getElem? (i := 703) (by decide +kernel), List.mem_of_getElem? (i := 704) (by decide +kernel)⟩
theorem lw_p60 : lw_okq (⟨"StablePartyModel", "atom", "(II)Z"⟩, 16) := ⟨⟨by decide +kernel, by decide +kernel⟩, List.mem_of_getElem? (i := 596) (by decide +kernel), List.mem_of_getElem? (i := 707) (by decide +kernel), List.mem_of_getElem? (i := 708) (by decide +kernel)⟩
theorem lw_p61 : lw_okq (⟨"StablePartyModel", "charges", "(I)V"⟩, 16) := ⟨⟨by decide +kernel, by decide +kernel⟩, List.mem_of_getElem? (i := 596) (by decide +kernel), List.mem_of_getElem? (i := 717) (by decide +kernel), List.mem_of_getElem? (i := 718) (by decide +kernel)⟩
theorem lw_p62 : lw_okq (⟨"StablePartyModel", "changes", "(II)I"⟩, 16) := ⟨⟨by decide +kernel, by decide +kernel⟩, List.mem_of_getElem? (i := 596) (by decide +kernel), List.mem_of_getElem? (i := 725) (by decide +kernel), List.mem_of_getElem? (i := 726) (by decide +kernel)⟩
theorem lw_p63 : lw_okq (⟨"StablePartyModel", "invited", "()I"⟩, 16) := ⟨⟨by decide +kernel, by decide +kernel⟩, List.mem_of_getElem? (i := 596) (by decide +kernel), List.mem_of_getElem? (i := 737) (by decide +kernel), List.mem_of_getElem? (i := 738) (by decide +kernel)⟩
def lw_privs_4 : List (MethodName × Nat) := [(⟨"StableParty$State", "guestOnSeat", "(I)I"⟩, 10), (⟨"StableParty$State", "sumOf", "(I)I"⟩, 10), (⟨"StablePartyModel", "isFixed", "()Z"⟩, 16), (⟨"StablePartyModel", "record", "()V"⟩, 16), (⟨"StablePartyModel", "allMeet", "(I)V"⟩, 16), (⟨"StablePartyModel", "isGuest", "(I)Z"⟩, 16), (⟨"StablePartyModel", "fault", "()I"⟩, 16), (⟨"StablePartyModel", "charAt", "(I)I"⟩, 16), (⟨"StablePartyModel", "overAtom", "()Z"⟩, 16), (⟨"StablePartyModel", "isLetter", "()Z"⟩, 16), (⟨"StablePartyModel", "all", "()I"⟩, 16), (⟨"StablePartyModel", "meets", "(I)Z"⟩, 16), (⟨"StablePartyModel", "atom", "(II)Z"⟩, 16), (⟨"StablePartyModel", "charges", "(I)V"⟩, 16), (⟨"StablePartyModel", "changes", "(II)I"⟩, 16), (⟨"StablePartyModel", "invited", "()I"⟩, 16)]
theorem lw_r4 : ∀ q ∈ lw_privs_4, lw_okq q := List.forall_mem_cons.mpr ⟨lw_p48, List.forall_mem_cons.mpr ⟨lw_p49, List.forall_mem_cons.mpr ⟨lw_p50, List.forall_mem_cons.mpr ⟨lw_p51, List.forall_mem_cons.mpr ⟨lw_p52, List.forall_mem_cons.mpr ⟨lw_p53, List.forall_mem_cons.mpr ⟨lw_p54, List.forall_mem_cons.mpr ⟨lw_p55, List.forall_mem_cons.mpr ⟨lw_p56, List.forall_mem_cons.mpr ⟨lw_p57, List.forall_mem_cons.mpr ⟨lw_p58, List.forall_mem_cons.mpr ⟨lw_p59, List.forall_mem_cons.mpr ⟨lw_p60, List.forall_mem_cons.mpr ⟨lw_p61, List.forall_mem_cons.mpr ⟨lw_p62, List.forall_mem_cons.mpr ⟨lw_p63, fun _ h => absurd h List.not_mem_nil⟩⟩⟩⟩⟩⟩⟩⟩⟩⟩⟩⟩⟩⟩⟩⟩
theorem lw_p64 : lw_okq (⟨"StablePartyModel", "of", "(II)I"⟩, 16) := ⟨⟨by decide +kernel, by decide +kernel⟩, List.mem_of_getElem? (i := 596) (by decide +kernel), List.mem_of_getElem? (i := 741) (by decide +kernel), List.mem_of_getElem? (i := 742) (by decide +kernel)⟩
theorem lw_p65 : lw_okq (⟨"StablePartyModel", "chosen", "()I"⟩, 16) := ⟨⟨by decide +kernel, by decide +kernel⟩, List.mem_of_getElem? (i := 596) (by decide +kernel), List.mem_of_getElem? (i := 757) (by decide +kernel), List.mem_of_getElem? (i := 758) (by decide +kernel)⟩
theorem lw_p66 : lw_okq (⟨"StablePartyModel", "greatest", "()I"⟩, 16) := ⟨⟨by decide +kernel, by decide +kernel⟩, List.mem_of_getElem? (i := 596) (by decide +kernel), List.mem_of_getElem? (i := 761) (by decide +kernel), List.mem_of_getElem? (i := 762) (by decide +kernel)⟩
theorem lw_p67 : lw_okq (⟨"StablePartyModel", "isMet", "(II)Z"⟩, 16) := ⟨⟨by decide +kernel, by decide +kernel⟩, List.mem_of_getElem? (i := 596) (by decide +kernel), List.mem_of_getElem? (i := 765) (by decide +kernel), List.mem_of_getElem? (i := 766) (by decide +kernel)⟩
theorem lw_p68 : lw_okq (⟨"StablePartyModel", "feeOf", "(I)I"⟩, 16) := ⟨⟨by decide +kernel, by decide +kernel⟩, List.mem_of_getElem? (i := 596) (by decide +kernel), List.mem_of_getElem? (i := 769) (by decide +kernel), List.mem_of_getElem? (i := 770) (by decide +kernel)⟩
theorem lw_p69 : lw_okq (⟨"StablePartyModel", "weights", "(I)I"⟩, 16) := ⟨⟨by decide +kernel, by decide +kernel⟩, List.mem_of_getElem? (i := 596) (by decide +kernel), List.mem_of_getElem? (i := 773) (by decide +kernel), List.mem_of_getElem? (i := 774) (by decide +kernel)⟩
theorem lw_p70 : lw_okq (⟨"StablePartyModel", "isStable", "(I)Z"⟩, 16) := ⟨⟨by decide +kernel, by decide +kernel⟩, List.mem_of_getElem? (i := 596) (by decide +kernel), List.mem_of_getElem? (i := 777) (by decide +kernel), List.mem_of_getElem? (i := 778) (by decide +kernel)⟩
theorem lw_p71 : lw_okq (⟨"StablePartyModel", "isSet", "(I)Z"⟩, 16) := ⟨⟨by decide +kernel, by decide +kernel⟩, List.mem_of_getElem? (i := 596) (by decide +kernel), List.mem_of_getElem? (i := 817) (by decide +kernel), List.mem_of_getElem? (i := 818) (by decide +kernel)⟩
theorem lw_p72 : lw_okq (⟨"StablePartyModel", "smallest", "()I"⟩, 16) := ⟨⟨by decide +kernel, by decide +kernel⟩, List.mem_of_getElem? (i := 596) (by decide +kernel), List.mem_of_getElem? (i := 833) (by decide +kernel), List.mem_of_getElem? (i := 834) (by decide +kernel)⟩
theorem lw_p73 : lw_okq (⟨"StablePartyModel", "backTo", "(I)I"⟩, 16) := ⟨⟨by decide +kernel, by decide +kernel⟩, List.mem_of_getElem? (i := 596) (by decide +kernel), List.mem_of_getElem? (i := 845) (by decide +kernel), List.mem_of_getElem? (i := 846) (by decide +kernel)⟩
def lw_privs_5 : List (MethodName × Nat) := [(⟨"StablePartyModel", "of", "(II)I"⟩, 16), (⟨"StablePartyModel", "chosen", "()I"⟩, 16), (⟨"StablePartyModel", "greatest", "()I"⟩, 16), (⟨"StablePartyModel", "isMet", "(II)Z"⟩, 16), (⟨"StablePartyModel", "feeOf", "(I)I"⟩, 16), (⟨"StablePartyModel", "weights", "(I)I"⟩, 16), (⟨"StablePartyModel", "isStable", "(I)Z"⟩, 16), (⟨"StablePartyModel", "isSet", "(I)Z"⟩, 16), (⟨"StablePartyModel", "smallest", "()I"⟩, 16), (⟨"StablePartyModel", "backTo", "(I)I"⟩, 16)]
theorem lw_r5 : ∀ q ∈ lw_privs_5, lw_okq q := List.forall_mem_cons.mpr ⟨lw_p64, List.forall_mem_cons.mpr ⟨lw_p65, List.forall_mem_cons.mpr ⟨lw_p66, List.forall_mem_cons.mpr ⟨lw_p67, List.forall_mem_cons.mpr ⟨lw_p68, List.forall_mem_cons.mpr ⟨lw_p69, List.forall_mem_cons.mpr ⟨lw_p70, List.forall_mem_cons.mpr ⟨lw_p71, List.forall_mem_cons.mpr ⟨lw_p72, List.forall_mem_cons.mpr ⟨lw_p73, fun _ h => absurd h List.not_mem_nil⟩⟩⟩⟩⟩⟩⟩⟩⟩⟩
def lw_privs : List (MethodName × Nat) := lw_privs_1 ++ (lw_privs_2 ++ (lw_privs_3 ++ (lw_privs_4 ++ (lw_privs_5))))
def lw_tbl : List Cond := k2_sels lw_privs ++ tables_1
theorem lw_privs_ok : ∀ q ∈ lw_privs, lw_okq q := by
  show ∀ q ∈ lw_privs_1 ++ (lw_privs_2 ++ (lw_privs_3 ++ (lw_privs_4 ++ (lw_privs_5)))), lw_okq q
  exact List.forall_mem_append.mpr ⟨lw_r1, List.forall_mem_append.mpr ⟨lw_r2, List.forall_mem_append.mpr ⟨lw_r3, List.forall_mem_append.mpr ⟨lw_r4, lw_r5⟩⟩⟩⟩

def RX0 : String := "StableParty$Guest"
def TX0 : u_T := fun k => match k with
  | 0 => ("StableParty$Guest", "limit", "I", false)
  | 1 => ("StableParty$Guest", "weight", "I", false)
  | 2 => ("StableParty$Guest", "invited", "Z", false)
  | 3 => ("StableParty$Guest", "charges", "I", false)
  | 4 => ("StableParty$Guest", "paid", "I", false)
  | 5 => ("StableParty$Guest", "gotBack", "I", false)
  | 6 => ("StableParty$Guest", "seat", "I", false)
  | 7 => ("StableParty$Guest", "letters", "I", false)
  | 8 => ("StableParty$Guest", "stepCount", "I", false)
  | _ => ("StableParty$Guest", "steps", "[I", true)
def tyX0 : Nat → FieldType := fun k => match k with
  | 0 => .int
  | 1 => .int
  | 2 => .boolean
  | 3 => .int
  | 4 => .int
  | 5 => .int
  | 6 => .int
  | 7 => .int
  | 8 => .int
  | _ => .array .int
theorem nmX0 : ∀ a, a < 10 → ∀ b, b < 10 → a ≠ b → (TX0 a).2.1 ≠ (TX0 b).2.1 := by decide +kernel
theorem tyX0_ok : ∀ k, k < 10 → parseFieldDescriptor (TX0 k).2.2.1 = some (tyX0 k) := by decide +kernel
abbrev cX0_init : ByteArray := prog_2_method_1_code
def yX0_init : MethodName := ⟨RX0, "<init>", "()V"⟩
abbrev cX0_tell : ByteArray := prog_2_method_2_code
def yX0_tell : MethodName := ⟨RX0, "tell", "(I)I"⟩
abbrev cX0_begin : ByteArray := prog_2_method_3_code
def yX0_begin : MethodName := ⟨RX0, "begin", "(II)V"⟩
abbrev cX0_copyFrom : ByteArray := prog_2_method_4_code
def yX0_copyFrom : MethodName := ⟨RX0, "copyFrom", "(LStableParty$Guest;)V"⟩
abbrev cX0_takeCondition : ByteArray := prog_2_method_5_code
def yX0_takeCondition : MethodName := ⟨RX0, "takeCondition", "(LStableParty$Reader;)V"⟩
abbrev cX0_copyCondition : ByteArray := prog_2_method_6_code
def yX0_copyCondition : MethodName := ⟨RX0, "copyCondition", "(I[II)V"⟩
abbrev cX0_isContentWith : ByteArray := prog_2_method_7_code
def yX0_isContentWith : MethodName := ⟨RX0, "isContentWith", "(I)Z"⟩
def RX1 : String := "StableParty$History"
def TX1 : u_T := fun k => match k with
  | 0 => ("StableParty$History", "states", "[LStableParty$State;", true)
  | _ => ("StableParty$History", "size", "I", false)
def tyX1 : Nat → FieldType := fun k => match k with
  | 0 => .array (.object "StableParty$State")
  | _ => .int
theorem nmX1 : ∀ a, a < 2 → ∀ b, b < 2 → a ≠ b → (TX1 a).2.1 ≠ (TX1 b).2.1 := by decide +kernel
theorem tyX1_ok : ∀ k, k < 2 → parseFieldDescriptor (TX1 k).2.2.1 = some (tyX1 k) := by decide +kernel
abbrev cX1_init : ByteArray := prog_3_method_1_code
def yX1_init : MethodName := ⟨RX1, "<init>", "()V"⟩
abbrev cX1_record : ByteArray := prog_3_method_2_code
def yX1_record : MethodName := ⟨RX1, "record", "(LStableParty$State;)V"⟩
abbrev cX1_takeBack : ByteArray := prog_3_method_3_code
def yX1_takeBack : MethodName := ⟨RX1, "takeBack", "(LStableParty$State;)V"⟩
abbrev cX1_moveOldestBehind : ByteArray := prog_3_method_4_code
def yX1_moveOldestBehind : MethodName := ⟨RX1, "moveOldestBehind", "()V"⟩
abbrev cX1_at : ByteArray := prog_3_method_5_code
def yX1_at : MethodName := ⟨RX1, "at", "(I)LStableParty$State;"⟩
def RX2 : String := "StableParty$Reader"
def TX2 : u_T := fun k => match k with
  | 0 => ("StableParty$Reader", "steps", "[I", true)
  | 1 => ("StableParty$Reader", "stepCount", "I", false)
  | 2 => ("StableParty$Reader", "letters", "I", false)
  | 3 => ("StableParty$Reader", "openBrackets", "I", false)
  | 4 => ("StableParty$Reader", "expected", "I", false)
  | 5 => ("StableParty$Reader", "atLeast", "I", false)
  | _ => ("StableParty$Reader", "among", "I", false)
def tyX2 : Nat → FieldType := fun k => match k with
  | 0 => .array .int
  | 1 => .int
  | 2 => .int
  | 3 => .int
  | 4 => .int
  | 5 => .int
  | _ => .int
theorem nmX2 : ∀ a, a < 7 → ∀ b, b < 7 → a ≠ b → (TX2 a).2.1 ≠ (TX2 b).2.1 := by decide +kernel
theorem tyX2_ok : ∀ k, k < 7 → parseFieldDescriptor (TX2 k).2.2.1 = some (tyX2 k) := by decide +kernel
abbrev cX2_init : ByteArray := prog_4_method_1_code
def yX2_init : MethodName := ⟨RX2, "<init>", "()V"⟩
abbrev cX2_read : ByteArray := prog_4_method_2_code
def yX2_read : MethodName := ⟨RX2, "read", "([CI)I"⟩
abbrev cX2_accepts : ByteArray := prog_4_method_3_code
def yX2_accepts : MethodName := ⟨RX2, "accepts", "(C)Z"⟩
abbrev cX2_acceptsAtom : ByteArray := prog_4_method_4_code
def yX2_acceptsAtom : MethodName := ⟨RX2, "acceptsAtom", "(C)Z"⟩
abbrev cX2_opensBracket : ByteArray := prog_4_method_5_code
def yX2_opensBracket : MethodName := ⟨RX2, "opensBracket", "()Z"⟩
abbrev cX2_acceptsNumber : ByteArray := prog_4_method_6_code
def yX2_acceptsNumber : MethodName := ⟨RX2, "acceptsNumber", "(C)Z"⟩
abbrev cX2_acceptsSecondDigit : ByteArray := prog_4_method_7_code
def yX2_acceptsSecondDigit : MethodName := ⟨RX2, "acceptsSecondDigit", "(C)Z"⟩
abbrev cX2_acceptsColon : ByteArray := prog_4_method_8_code
def yX2_acceptsColon : MethodName := ⟨RX2, "acceptsColon", "(C)Z"⟩
abbrev cX2_acceptsLetter : ByteArray := prog_4_method_9_code
def yX2_acceptsLetter : MethodName := ⟨RX2, "acceptsLetter", "(C)Z"⟩
abbrev cX2_acceptsBehindAtom : ByteArray := prog_4_method_10_code
def yX2_acceptsBehindAtom : MethodName := ⟨RX2, "acceptsBehindAtom", "(C)Z"⟩
abbrev cX2_closesBracket : ByteArray := prog_4_method_11_code
def yX2_closesBracket : MethodName := ⟨RX2, "closesBracket", "()Z"⟩
abbrev cX2_isLetter : ByteArray := prog_4_method_12_code
def yX2_isLetter : MethodName := ⟨RX2, "isLetter", "(C)Z"⟩
abbrev cX2_isDigit : ByteArray := prog_4_method_13_code
def yX2_isDigit : MethodName := ⟨RX2, "isDigit", "(CCC)Z"⟩
abbrev cX2_addStep : ByteArray := prog_4_method_14_code
def yX2_addStep : MethodName := ⟨RX2, "addStep", "(I)V"⟩
abbrev cX2_changeLastStep : ByteArray := prog_4_method_15_code
def yX2_changeLastStep : MethodName := ⟨RX2, "changeLastStep", "(I)V"⟩
def RX3 : String := "StableParty$Search"
def TX3 : u_T := fun k => match k with
  | 0 => ("StableParty$Search", "away", "[I", true)
  | 1 => ("StableParty$Search", "lastRound", "I", false)
  | 2 => ("StableParty$Search", "reasons", "[I", true)
  | 3 => ("StableParty$Search", "roundsAway", "[I", true)
  | 4 => ("StableParty$Search", "leadsBackTo", "[I", true)
  | 5 => ("StableParty$Search", "wayLengths", "[I", true)
  | _ => ("StableParty$Search", "wayEnds", "[I", true)
def tyX3 : Nat → FieldType := fun k => match k with
  | 0 => .array .int
  | 1 => .int
  | 2 => .array .int
  | 3 => .array .int
  | 4 => .array .int
  | 5 => .array .int
  | _ => .array .int
theorem nmX3 : ∀ a, a < 7 → ∀ b, b < 7 → a ≠ b → (TX3 a).2.1 ≠ (TX3 b).2.1 := by decide +kernel
theorem tyX3_ok : ∀ k, k < 7 → parseFieldDescriptor (TX3 k).2.2.1 = some (tyX3 k) := by decide +kernel
abbrev cX3_init : ByteArray := prog_5_method_1_code
def yX3_init : MethodName := ⟨RX3, "<init>", "()V"⟩
abbrev cX3_findGreatest : ByteArray := prog_5_method_2_code
def yX3_findGreatest : MethodName := ⟨RX3, "findGreatest", "(LStableParty$State;II)I"⟩
abbrev cX3_begin : ByteArray := prog_5_method_3_code
def yX3_begin : MethodName := ⟨RX3, "begin", "(I)V"⟩
abbrev cX3_sendAway : ByteArray := prog_5_method_4_code
def yX3_sendAway : MethodName := ⟨RX3, "sendAway", "(LStableParty$State;III)I"⟩
abbrev cX3_note : ByteArray := prog_5_method_5_code
def yX3_note : MethodName := ⟨RX3, "note", "(IIII)V"⟩
abbrev cX3_tell : ByteArray := prog_5_method_6_code
def yX3_tell : MethodName := ⟨RX3, "tell", "(II)I"⟩
def RX4 : String := "StableParty$State"
def TX4 : u_T := fun k => match k with
  | 0 => ("StableParty$State", "guests", "[LStableParty$Guest;", true)
  | 1 => ("StableParty$State", "guestCount", "I", false)
  | 2 => ("StableParty$State", "settings", "[I", true)
  | 3 => ("StableParty$State", "day", "I", false)
  | 4 => ("StableParty$State", "fixed", "Z", false)
  | 5 => ("StableParty$State", "left", "I", false)
  | 6 => ("StableParty$State", "paidFee", "I", false)
  | 7 => ("StableParty$State", "fixedSoFar", "I", false)
  | 8 => ("StableParty$State", "cancelledSoFar", "I", false)
  | _ => ("StableParty$State", "followedSoFar", "I", false)
def tyX4 : Nat → FieldType := fun k => match k with
  | 0 => .array (.object "StableParty$Guest")
  | 1 => .int
  | 2 => .array .int
  | 3 => .int
  | 4 => .boolean
  | 5 => .int
  | 6 => .int
  | 7 => .int
  | 8 => .int
  | _ => .int
theorem nmX4 : ∀ a, a < 10 → ∀ b, b < 10 → a ≠ b → (TX4 a).2.1 ≠ (TX4 b).2.1 := by decide +kernel
theorem tyX4_ok : ∀ k, k < 10 → parseFieldDescriptor (TX4 k).2.2.1 = some (tyX4 k) := by decide +kernel
abbrev cX4_init : ByteArray := prog_6_method_1_code
def yX4_init : MethodName := ⟨RX4, "<init>", "()V"⟩
abbrev cX4_copyFrom : ByteArray := prog_6_method_2_code
def yX4_copyFrom : MethodName := ⟨RX4, "copyFrom", "(LStableParty$State;)V"⟩
abbrev cX4_find : ByteArray := prog_6_method_3_code
def yX4_find : MethodName := ⟨RX4, "find", "(I)LStableParty$Guest;"⟩
abbrev cX4_add : ByteArray := prog_6_method_4_code
def yX4_add : MethodName := ⟨RX4, "add", "(II)I"⟩
abbrev cX4_everybody : ByteArray := prog_6_method_5_code
def yX4_everybody : MethodName := ⟨RX4, "everybody", "()I"⟩
abbrev cX4_hasAll : ByteArray := prog_6_method_6_code
def yX4_hasAll : MethodName := ⟨RX4, "hasAll", "(I)Z"⟩
abbrev cX4_invitedGuests : ByteArray := prog_6_method_7_code
def yX4_invitedGuests : MethodName := ⟨RX4, "invitedGuests", "()I"⟩
abbrev cX4_chargeIfLate : ByteArray := prog_6_method_8_code
def yX4_chargeIfLate : MethodName := ⟨RX4, "chargeIfLate", "(LStableParty$Guest;)V"⟩
abbrev cX4_feeOf : ByteArray := prog_6_method_9_code
def yX4_feeOf : MethodName := ⟨RX4, "feeOf", "(I)I"⟩
abbrev cX4_isStable : ByteArray := prog_6_method_10_code
def yX4_isStable : MethodName := ⟨RX4, "isStable", "(I)Z"⟩
abbrev cX4_countParts : ByteArray := prog_6_method_11_code
def yX4_countParts : MethodName := ⟨RX4, "countParts", "(I)I"⟩
abbrev cX4_smallestPart : ByteArray := prog_6_method_12_code
def yX4_smallestPart : MethodName := ⟨RX4, "smallestPart", "(I)I"⟩
abbrev cX4_bestPart : ByteArray := prog_6_method_13_code
def yX4_bestPart : MethodName := ⟨RX4, "bestPart", "(I)I"⟩
abbrev cX4_isBetter : ByteArray := prog_6_method_14_code
def yX4_isBetter : MethodName := ⟨RX4, "isBetter", "(II)Z"⟩
abbrev cX4_sumOfWeights : ByteArray := prog_6_method_15_code
def yX4_sumOfWeights : MethodName := ⟨RX4, "sumOfWeights", "(I)I"⟩
abbrev cX4_sumOf : ByteArray := prog_6_method_16_code
def yX4_sumOf : MethodName := ⟨RX4, "sumOf", "(I)I"⟩
abbrev cX4_guestOnSeat : ByteArray := prog_6_method_17_code
def yX4_guestOnSeat : MethodName := ⟨RX4, "guestOnSeat", "(I)I"⟩
abbrev cX4_fixCompany : ByteArray := prog_6_method_18_code
def yX4_fixCompany : MethodName := ⟨RX4, "fixCompany", "(I)I"⟩
abbrev cX4_letCancel : ByteArray := prog_6_method_19_code
def yX4_letCancel : MethodName := ⟨RX4, "letCancel", "(I)I"⟩
abbrev cX4_discontent : ByteArray := prog_6_method_20_code
def yX4_discontent : MethodName := ⟨RX4, "discontent", "()I"⟩
abbrev cX4_letGo : ByteArray := prog_6_method_21_code
def yX4_letGo : MethodName := ⟨RX4, "letGo", "(II)V"⟩
abbrev cX4_dissolveCompany : ByteArray := prog_6_method_22_code
def yX4_dissolveCompany : MethodName := ⟨RX4, "dissolveCompany", "()I"⟩
def RX5 : String := "StableParty"
def TX5 : u_T := fun k => match k with
  | 0 => ("StableParty", "now", "LStableParty$State;", true)
  | 1 => ("StableParty", "history", "LStableParty$History;", true)
  | 2 => ("StableParty", "snapshot", "LStableParty$State;", true)
  | 3 => ("StableParty", "hasSnapshot", "Z", false)
  | 4 => ("StableParty", "text", "[C", true)
  | 5 => ("StableParty", "textLength", "I", false)
  | 6 => ("StableParty", "reader", "LStableParty$Reader;", true)
  | _ => ("StableParty", "search", "LStableParty$Search;", true)
def tyX5 : Nat → FieldType := fun k => match k with
  | 0 => .object "StableParty$State"
  | 1 => .object "StableParty$History"
  | 2 => .object "StableParty$State"
  | 3 => .boolean
  | 4 => .array .char
  | 5 => .int
  | 6 => .object "StableParty$Reader"
  | _ => .object "StableParty$Search"
theorem nmX5 : ∀ a, a < 8 → ∀ b, b < 8 → a ≠ b → (TX5 a).2.1 ≠ (TX5 b).2.1 := by decide +kernel
theorem tyX5_ok : ∀ k, k < 8 → parseFieldDescriptor (TX5 k).2.2.1 = some (tyX5 k) := by decide +kernel
abbrev cX5_init : ByteArray := prog_1_method_1_code
def yX5_init : MethodName := ⟨RX5, "<init>", "()V"⟩
abbrev cX5_addGuest : ByteArray := prog_1_method_2_code
def yX5_addGuest : MethodName := ⟨RX5, "addGuest", "(II)I"⟩
abbrev cX5_setCondition : ByteArray := prog_1_method_3_code
def yX5_setCondition : MethodName := ⟨RX5, "setCondition", "(I)I"⟩
abbrev cX5_setLimit : ByteArray := prog_1_method_4_code
def yX5_setLimit : MethodName := ⟨RX5, "setLimit", "(II)I"⟩
abbrev cX5_setWeight : ByteArray := prog_1_method_5_code
def yX5_setWeight : MethodName := ⟨RX5, "setWeight", "(II)I"⟩
abbrev cX5_invite : ByteArray := prog_1_method_6_code
def yX5_invite : MethodName := ⟨RX5, "invite", "(IZ)I"⟩
abbrev cX5_set : ByteArray := prog_1_method_7_code
def yX5_set : MethodName := ⟨RX5, "set", "(II)I"⟩
abbrev cX5_pass : ByteArray := prog_1_method_8_code
def yX5_pass : MethodName := ⟨RX5, "pass", "(I)I"⟩
abbrev cX5_fix : ByteArray := prog_1_method_9_code
def yX5_fix : MethodName := ⟨RX5, "fix", "()I"⟩
abbrev cX5_cancel : ByteArray := prog_1_method_10_code
def yX5_cancel : MethodName := ⟨RX5, "cancel", "(I)I"⟩
abbrev cX5_dissolve : ByteArray := prog_1_method_11_code
def yX5_dissolve : MethodName := ⟨RX5, "dissolve", "()I"⟩
abbrev cX5_type : ByteArray := prog_1_method_12_code
def yX5_type : MethodName := ⟨RX5, "type", "(C)I"⟩
abbrev cX5_clearText : ByteArray := prog_1_method_13_code
def yX5_clearText : MethodName := ⟨RX5, "clearText", "()I"⟩
abbrev cX5_undo : ByteArray := prog_1_method_14_code
def yX5_undo : MethodName := ⟨RX5, "undo", "()I"⟩
abbrev cX5_keep : ByteArray := prog_1_method_15_code
def yX5_keep : MethodName := ⟨RX5, "keep", "()I"⟩
abbrev cX5_restore : ByteArray := prog_1_method_16_code
def yX5_restore : MethodName := ⟨RX5, "restore", "()I"⟩
abbrev cX5_guest : ByteArray := prog_1_method_17_code
def yX5_guest : MethodName := ⟨RX5, "guest", "(II)I"⟩
abbrev cX5_met : ByteArray := prog_1_method_18_code
def yX5_met : MethodName := ⟨RX5, "met", "(II)I"⟩
abbrev cX5_stable : ByteArray := prog_1_method_19_code
def yX5_stable : MethodName := ⟨RX5, "stable", "(I)I"⟩
abbrev cX5_fee : ByteArray := prog_1_method_20_code
def yX5_fee : MethodName := ⟨RX5, "fee", "(I)I"⟩
abbrev cX5_company : ByteArray := prog_1_method_21_code
def yX5_company : MethodName := ⟨RX5, "company", "(I)I"⟩
abbrev cX5_companies : ByteArray := prog_1_method_22_code
def yX5_companies : MethodName := ⟨RX5, "companies", "()I"⟩
abbrev cX5_why : ByteArray := prog_1_method_23_code
def yX5_why : MethodName := ⟨RX5, "why", "(II)I"⟩
abbrev cX5_rounds : ByteArray := prog_1_method_24_code
def yX5_rounds : MethodName := ⟨RX5, "rounds", "()I"⟩
abbrev cX5_needs : ByteArray := prog_1_method_25_code
def yX5_needs : MethodName := ⟨RX5, "needs", "(I)I"⟩
abbrev cX5_weightOf : ByteArray := prog_1_method_26_code
def yX5_weightOf : MethodName := ⟨RX5, "weightOf", "(I)I"⟩
abbrev cX5_leastLimit : ByteArray := prog_1_method_27_code
def yX5_leastLimit : MethodName := ⟨RX5, "leastLimit", "(I)I"⟩
abbrev cX5_seat : ByteArray := prog_1_method_28_code
def yX5_seat : MethodName := ⟨RX5, "seat", "(I)I"⟩
abbrev cX5_count : ByteArray := prog_1_method_29_code
def yX5_count : MethodName := ⟨RX5, "count", "(I)I"⟩
abbrev cX5_findGreatest : ByteArray := prog_1_method_30_code
def yX5_findGreatest : MethodName := ⟨RX5, "findGreatest", "()I"⟩
abbrev cX5_findChosen : ByteArray := prog_1_method_31_code
def yX5_findChosen : MethodName := ⟨RX5, "findChosen", "()I"⟩
abbrev cX5_isWithin : ByteArray := prog_1_method_32_code
def yX5_isWithin : MethodName := ⟨RX5, "isWithin", "(III)Z"⟩
abbrev cX5_asNumber : ByteArray := prog_1_method_33_code
def yX5_asNumber : MethodName := ⟨RX5, "asNumber", "(Z)I"⟩
abbrev cX5_bitOf : ByteArray := prog_1_method_34_code
def yX5_bitOf : MethodName := ⟨RX5, "bitOf", "(I)I"⟩
abbrev cX5_isIn : ByteArray := prog_1_method_35_code
def yX5_isIn : MethodName := ⟨RX5, "isIn", "(II)Z"⟩
abbrev cX5_isPart : ByteArray := prog_1_method_36_code
def yX5_isPart : MethodName := ⟨RX5, "isPart", "(II)Z"⟩
abbrev cX5_lowestOf : ByteArray := prog_1_method_37_code
def yX5_lowestOf : MethodName := ⟨RX5, "lowestOf", "(I)I"⟩
abbrev cX5_atomOf : ByteArray := prog_1_method_38_code
def yX5_atomOf : MethodName := ⟨RX5, "atomOf", "(II)I"⟩
abbrev cX5_isAtomMet : ByteArray := prog_1_method_39_code
def yX5_isAtomMet : MethodName := ⟨RX5, "isAtomMet", "(II)Z"⟩
def RX6 : String := "StablePartyModel"
def TX6 : u_T := fun k => match k with
  | 0 => ("StablePartyModel", "v", "[I", true)
  | 1 => ("StablePartyModel", "history", "[I", true)
  | 2 => ("StablePartyModel", "states", "I", false)
  | 3 => ("StablePartyModel", "kept", "[I", true)
  | 4 => ("StablePartyModel", "isKept", "Z", false)
  | 5 => ("StablePartyModel", "text", "[I", true)
  | 6 => ("StablePartyModel", "length", "I", false)
  | 7 => ("StablePartyModel", "lows", "[I", true)
  | 8 => ("StablePartyModel", "highs", "[I", true)
  | 9 => ("StablePartyModel", "place", "I", false)
  | 10 => ("StablePartyModel", "letters", "I", false)
  | 11 => ("StablePartyModel", "any", "[Z", true)
  | 12 => ("StablePartyModel", "part", "[Z", true)
  | 13 => ("StablePartyModel", "reasons", "[I", true)
  | 14 => ("StablePartyModel", "roundOf", "[I", true)
  | _ => ("StablePartyModel", "roundMany", "I", false)
def tyX6 : Nat → FieldType := fun k => match k with
  | 0 => .array .int
  | 1 => .array .int
  | 2 => .int
  | 3 => .array .int
  | 4 => .boolean
  | 5 => .array .int
  | 6 => .int
  | 7 => .array .int
  | 8 => .array .int
  | 9 => .int
  | 10 => .int
  | 11 => .array .boolean
  | 12 => .array .boolean
  | 13 => .array .int
  | 14 => .array .int
  | _ => .int
theorem nmX6 : ∀ a, a < 16 → ∀ b, b < 16 → a ≠ b → (TX6 a).2.1 ≠ (TX6 b).2.1 := by decide +kernel
theorem tyX6_ok : ∀ k, k < 16 → parseFieldDescriptor (TX6 k).2.2.1 = some (tyX6 k) := by decide +kernel
abbrev cX6_init : ByteArray := prog_8_method_1_code
def yX6_init : MethodName := ⟨RX6, "<init>", "()V"⟩
abbrev cX6_in : ByteArray := prog_8_method_3_code
def yX6_in : MethodName := ⟨RX6, "in", "(III)Z"⟩
abbrev cX6_has : ByteArray := prog_8_method_4_code
def yX6_has : MethodName := ⟨RX6, "has", "(II)Z"⟩
abbrev cX6_ones : ByteArray := prog_8_method_5_code
def yX6_ones : MethodName := ⟨RX6, "ones", "(I)I"⟩
abbrev cX6_record : ByteArray := prog_8_method_6_code
def yX6_record : MethodName := ⟨RX6, "record", "()V"⟩
abbrev cX6_isGuest : ByteArray := prog_8_method_7_code
def yX6_isGuest : MethodName := ⟨RX6, "isGuest", "(I)Z"⟩
abbrev cX6_isFixed : ByteArray := prog_8_method_8_code
def yX6_isFixed : MethodName := ⟨RX6, "isFixed", "()Z"⟩
abbrev cX6_at : ByteArray := prog_8_method_9_code
def yX6_at : MethodName := ⟨RX6, "at", "(II)I"⟩
abbrev cX6_of : ByteArray := prog_8_method_10_code
def yX6_of : MethodName := ⟨RX6, "of", "(II)I"⟩
abbrev cX6_all : ByteArray := prog_8_method_11_code
def yX6_all : MethodName := ⟨RX6, "all", "()I"⟩
abbrev cX6_isLetter : ByteArray := prog_8_method_12_code
def yX6_isLetter : MethodName := ⟨RX6, "isLetter", "()Z"⟩
abbrev cX6_charAt : ByteArray := prog_8_method_13_code
def yX6_charAt : MethodName := ⟨RX6, "charAt", "(I)I"⟩
abbrev cX6_overAtom : ByteArray := prog_8_method_14_code
def yX6_overAtom : MethodName := ⟨RX6, "overAtom", "()Z"⟩
abbrev cX6_fault : ByteArray := prog_8_method_15_code
def yX6_fault : MethodName := ⟨RX6, "fault", "()I"⟩
abbrev cX6_meets : ByteArray := prog_8_method_16_code
def yX6_meets : MethodName := ⟨RX6, "meets", "(I)Z"⟩
abbrev cX6_atom : ByteArray := prog_8_method_17_code
def yX6_atom : MethodName := ⟨RX6, "atom", "(II)Z"⟩
abbrev cX6_isMet : ByteArray := prog_8_method_18_code
def yX6_isMet : MethodName := ⟨RX6, "isMet", "(II)Z"⟩
abbrev cX6_feeOf : ByteArray := prog_8_method_19_code
def yX6_feeOf : MethodName := ⟨RX6, "feeOf", "(I)I"⟩
abbrev cX6_isStable : ByteArray := prog_8_method_20_code
def yX6_isStable : MethodName := ⟨RX6, "isStable", "(I)Z"⟩
abbrev cX6_invited : ByteArray := prog_8_method_21_code
def yX6_invited : MethodName := ⟨RX6, "invited", "()I"⟩
abbrev cX6_greatest : ByteArray := prog_8_method_22_code
def yX6_greatest : MethodName := ⟨RX6, "greatest", "()I"⟩
abbrev cX6_weights : ByteArray := prog_8_method_23_code
def yX6_weights : MethodName := ⟨RX6, "weights", "(I)I"⟩
abbrev cX6_chosen : ByteArray := prog_8_method_24_code
def yX6_chosen : MethodName := ⟨RX6, "chosen", "()I"⟩
abbrev cX6_smallest : ByteArray := prog_8_method_25_code
def yX6_smallest : MethodName := ⟨RX6, "smallest", "()I"⟩
abbrev cX6_allMeet : ByteArray := prog_8_method_26_code
def yX6_allMeet : MethodName := ⟨RX6, "allMeet", "(I)V"⟩
abbrev cX6_addGuest : ByteArray := prog_8_method_27_code
def yX6_addGuest : MethodName := ⟨RX6, "addGuest", "(II)I"⟩
abbrev cX6_charges : ByteArray := prog_8_method_28_code
def yX6_charges : MethodName := ⟨RX6, "charges", "(I)V"⟩
abbrev cX6_setCondition : ByteArray := prog_8_method_29_code
def yX6_setCondition : MethodName := ⟨RX6, "setCondition", "(I)I"⟩
abbrev cX6_changes : ByteArray := prog_8_method_30_code
def yX6_changes : MethodName := ⟨RX6, "changes", "(II)I"⟩
abbrev cX6_setLimit : ByteArray := prog_8_method_31_code
def yX6_setLimit : MethodName := ⟨RX6, "setLimit", "(II)I"⟩
abbrev cX6_setWeight : ByteArray := prog_8_method_32_code
def yX6_setWeight : MethodName := ⟨RX6, "setWeight", "(II)I"⟩
abbrev cX6_invite : ByteArray := prog_8_method_33_code
def yX6_invite : MethodName := ⟨RX6, "invite", "(IZ)I"⟩
abbrev cX6_set : ByteArray := prog_8_method_34_code
def yX6_set : MethodName := ⟨RX6, "set", "(II)I"⟩
abbrev cX6_pass : ByteArray := prog_8_method_35_code
def yX6_pass : MethodName := ⟨RX6, "pass", "(I)I"⟩
abbrev cX6_fix : ByteArray := prog_8_method_36_code
def yX6_fix : MethodName := ⟨RX6, "fix", "()I"⟩
abbrev cX6_cancel : ByteArray := prog_8_method_37_code
def yX6_cancel : MethodName := ⟨RX6, "cancel", "(I)I"⟩
abbrev cX6_dissolve : ByteArray := prog_8_method_38_code
def yX6_dissolve : MethodName := ⟨RX6, "dissolve", "()I"⟩
abbrev cX6_type : ByteArray := prog_8_method_39_code
def yX6_type : MethodName := ⟨RX6, "type", "(C)I"⟩
abbrev cX6_clearText : ByteArray := prog_8_method_40_code
def yX6_clearText : MethodName := ⟨RX6, "clearText", "()I"⟩
abbrev cX6_undo : ByteArray := prog_8_method_41_code
def yX6_undo : MethodName := ⟨RX6, "undo", "()I"⟩
abbrev cX6_keep : ByteArray := prog_8_method_42_code
def yX6_keep : MethodName := ⟨RX6, "keep", "()I"⟩
abbrev cX6_restore : ByteArray := prog_8_method_43_code
def yX6_restore : MethodName := ⟨RX6, "restore", "()I"⟩
abbrev cX6_guest : ByteArray := prog_8_method_44_code
def yX6_guest : MethodName := ⟨RX6, "guest", "(II)I"⟩
abbrev cX6_isSet : ByteArray := prog_8_method_45_code
def yX6_isSet : MethodName := ⟨RX6, "isSet", "(I)Z"⟩
abbrev cX6_met : ByteArray := prog_8_method_46_code
def yX6_met : MethodName := ⟨RX6, "met", "(II)I"⟩
abbrev cX6_stable : ByteArray := prog_8_method_47_code
def yX6_stable : MethodName := ⟨RX6, "stable", "(I)I"⟩
abbrev cX6_fee : ByteArray := prog_8_method_48_code
def yX6_fee : MethodName := ⟨RX6, "fee", "(I)I"⟩
abbrev cX6_company : ByteArray := prog_8_method_49_code
def yX6_company : MethodName := ⟨RX6, "company", "(I)I"⟩
abbrev cX6_companies : ByteArray := prog_8_method_50_code
def yX6_companies : MethodName := ⟨RX6, "companies", "()I"⟩
abbrev cX6_backTo : ByteArray := prog_8_method_51_code
def yX6_backTo : MethodName := ⟨RX6, "backTo", "(I)I"⟩
abbrev cX6_why : ByteArray := prog_8_method_52_code
def yX6_why : MethodName := ⟨RX6, "why", "(II)I"⟩
abbrev cX6_rounds : ByteArray := prog_8_method_53_code
def yX6_rounds : MethodName := ⟨RX6, "rounds", "()I"⟩
abbrev cX6_needs : ByteArray := prog_8_method_54_code
def yX6_needs : MethodName := ⟨RX6, "needs", "(I)I"⟩
abbrev cX6_weightOf : ByteArray := prog_8_method_55_code
def yX6_weightOf : MethodName := ⟨RX6, "weightOf", "(I)I"⟩
abbrev cX6_leastLimit : ByteArray := prog_8_method_56_code
def yX6_leastLimit : MethodName := ⟨RX6, "leastLimit", "(I)I"⟩
abbrev cX6_seat : ByteArray := prog_8_method_57_code
def yX6_seat : MethodName := ⟨RX6, "seat", "(I)I"⟩
abbrev cX6_count : ByteArray := prog_8_method_58_code
def yX6_count : MethodName := ⟨RX6, "count", "(I)I"⟩
def RJ6 : String := "java/lang/Integer"
def TJ6 : u_T := fun k => match k with
  | _ => ("", "", "", false)
def tyJ6 : Nat → FieldType := fun k => match k with
  | _ => .int
abbrev cJ6_bitCount_0f7a4 : ByteArray := prog_9_method_49_code
def yJ6_bitCount_0f7a4 : MethodName := ⟨RJ6, "bitCount", "(I)I"⟩
def RL : String := "StablePartyLaw"
abbrev cL_law : ByteArray := code
def yL_law : MethodName := ⟨RL, "law", "([I)Z"⟩
abbrev vwCl : List vw_C := [(RX0, TX0, 10), (RX1, TX1, 2), (RX2, TX2, 7), (RX3, TX3, 7), (RX4, TX4, 10), (RX5, TX5, 8), (RX6, TX6, 16)]
end
section
/-! A MACHINE OF OUR OWN over the kit's rows: a heap as a map from addresses to cells, one judgement hJ for a place in a method, one meaning x_.. for an instruction, the walk hGo, contracts hCT. -/
abbrev hAH : Type := Nat × (Nat → Option va_E)
abbrev hLs : Type := List (Option Value)
abbrev hStk : Type := List Value
abbrev hCu : Type := Nat × Nat
/-- launch, classes, array classes, where the new cells begin, where the static arrays lie, the arrays that nobody writes -/
abbrev hK : Type := Launch × va_G × (Nat → ClassId) × Nat × (Nat → Nat) × (Nat → Option (Nat × (Nat → Int32)))
/-- name, bytes, locals, return type, frames beneath, words of locals beneath -/
abbrev hM : Type := MethodName × ByteArray × Nat × Option FieldType × Nat × Nat
abbrev hPost : Type := Option Value → hAH → Prop
abbrev hSem : Type := (Nat → hCu → hLs → hStk → hAH → Prop) → hCu → hLs → hStk → hAH → Prop
def hGetL : hLs → Nat → Option Value
  | [], _ => none
  | x :: _, 0 => x
  | _ :: t, n + 1 => hGetL t n
def hSetL : hLs → Nat → Value → hLs
  | [], _, _ => []
  | _ :: t, 0, v => some v :: t
  | x :: t, n + 1, v => x :: hSetL t n v
def hGetV : List Value → Nat → Option Value
  | [], _ => none
  | x :: _, 0 => some x
  | _ :: t, n + 1 => hGetV t n
def hSetV : List Value → Nat → Value → List Value
  | [], _, _ => []
  | _ :: t, 0, v => v :: t
  | x :: t, n + 1, v => x :: hSetV t n v
def hNones : Nat → hLs
  | 0 => []
  | n + 1 => none :: hNones n
def hEnt : List Value → Nat → hLs
  | [], n => hNones n
  | v :: t, n + 1 => some v :: hEnt t n
  | _ :: _, 0 => []
def hMem : Nat → List Nat → Bool
  | _, [] => false
  | n, a :: l => match Nat.beq n a with
    | true => true
    | false => hMem n l
def hPop : Nat → hStk → List Value → Option (List Value × hStk)
  | 0, st, acc => some (acc, st)
  | _ + 1, [], _ => none
  | n + 1, v :: st, acc => hPop n st (v :: acc)
def hApp : Option Value → hStk → hStk
  | none, st => st
  | some v, st => v :: st
def hLe4 : hStk → Bool
  | [] => true
  | [_] => true
  | [_, _] => true
  | [_, _, _] => true
  | [_, _, _, _] => true
  | _ => false
def hAtS : List hSem → Nat → hSem
  | [], _ => fun _ _ _ _ _ => False
  | x :: _, 0 => x
  | _ :: t, n + 1 => hAtS t n
def hUpd (H : hAH) (a : Nat) (c : va_E) (H' : hAH) : Prop := H'.1 = H.1 ∧ H'.2 a = some c ∧ ∀ q, q ≠ a → H'.2 q = H.2 q
def hNew (H : hAH) (c : va_E) (H' : hAH) : Prop := H'.1 = H.1 + 1 ∧ H'.2 H.1 = some c ∧ ∀ q, q ≠ H.1 → H'.2 q = H.2 q
abbrev hInts (K : hK) (t n : Nat) (f : Nat → Int32) : va_E := .inl (K.2.2.1 t, n, .inl f)
abbrev hRefs (K : hK) (t n : Nat) (f : Nat → Option Nat) : va_E := .inl (K.2.2.1 t, n, .inr (.inr (.inr (.inr f))))
abbrev hObj (ci : Nat) (fs : List Value) : va_E := .inr (ci, fs)
def hA (K : hK) : Nat → Prop := fun q => K.2.2.2.1 ≤ q
def hTyOf : Nat → FieldType
  | 0 => .int
  | 1 => .char
  | 2 => .boolean
  | 3 => .object RX0
  | _ => .object RX4
def hTys (K : hK) : List (ClassId × FieldType) := [(K.2.2.1 0, .int), (K.2.2.1 1, .char), (K.2.2.1 2, .boolean), (K.2.2.1 3, .object RX0), (K.2.2.1 4, .object RX4)]
def hIsNest : Cond → Bool
  | .fieldLinkNest .. => true
  | .methodLinkNest .. => true
  | _ => false
def hStn : Nat → String
  | 0 => "FIRST_SETTINGS"
  | 1 => "LEAST_SETTINGS"
  | _ => "MOST_SETTINGS"
def hTb : List Cond := lw_tbl.filter goodWord
theorem hTb_in {w : Cond} (h : w ∈ lw_tbl) (hg : goodWord w = true) : w ∈ hTb := List.mem_filter.mpr ⟨h, hg⟩
theorem hTb_t {w : Cond} (h : w ∈ tables_1) (hg : goodWord w = true) : w ∈ hTb := hTb_in (List.mem_append_right _ h) hg
theorem hTb_s {w : Cond} (h : w ∈ k2_sels lw_privs) (hg : goodWord w = true) : w ∈ hTb := hTb_in (List.mem_append_left _ h) hg
theorem hTb_sub : ∀ w ∈ hTb, w ∈ lw_tbl := fun _ h => (List.mem_filter.mp h).1
theorem hTb_good {ws : List Cond} (h : ∀ w ∈ ws, w ∈ hTb) : GoodIn hTb ws := fun w hw => ⟨h w hw, good_of_word (List.mem_filter.mp (h w hw)).2⟩
def hWs (M : hM) : List Cond := .code M.1 M.2.1 M.2.2.1 M.2.2.2.1 :: hTb
/-- what the tables say, and go on saying -/
def hStat (K : hK) (U : State) : Prop := va_K K.2.1 vwCl (hTys K) U ∧ (∀ w ∈ tables_1, hIsNest w = true → va_Nw w U) ∧ va_AO RX0 U ∧ va_AO RX4 U
def hRo (K : hK) (U : State) (Hr : Heap) : Prop := (∀ t n f, K.2.2.2.2.2 t = some (n, f) → va_T .int t n (fun j => .int (f j)) (hA K) U Hr) ∧ ∀ i, i < 3 → va_Z RX5 (hStn i) "[I" (.ref (K.2.2.2.2.1 i)) (hA K) U Hr
def hHp (K : hK) (H : hAH) (Hr : Heap) : Prop := Hr.size = H.1 ∧ K.2.2.2.1 ≤ H.1 ∧ ∀ a c, H.2 a = some c → hA K a ∧ va_at K.2.1 vwCl (a, c) Hr
def hPre (K : hK) (H : hAH) (U : State) : Prop := hHp K H U.heap ∧ hStat K U ∧ hRo K U U.heap
def hLv (n : Nat) (f : hLs) (arr : Array Slot) : Prop := arr.size = n ∧ lv_wf arr ∧ ∀ i v, hGetL f i = some v → arr[i]? = some (.val v) ∧ v.category = 1
/-- a return instruction with what stands on the stack -/
def hRetI (M : hM) (r : Option Value) (ins : Instr) (st : hStk) : Prop :=
  (r = none ∧ ins = .return_ ∧ st = [] ∧ M.2.2.2.1 = none) ∨ (∃ v ty, r = some (.int v) ∧ ins = .ireturn ∧ st = [.int v] ∧ M.2.2.2.1 = some ty ∧ narrow ty (.int v) = .int v) ∨
  (∃ v cn, r = some v ∧ ins = .areturn ∧ st = [v] ∧ M.2.2.2.1 = some (.object cn) ∧ (v = .null ∨ ∃ a, v = .ref a))
def hCtx (K : hK) (M : hM) (B : Nat × Nat) (Q : hPost) (p : Program) (e : Env) (R : Room) (s : State) (m : MethodId) (args : Array Value) (below : List Frame) (meth : Method) (c : Code) (QF : State → Prop) : Prop :=
  p.tables.exec = Jvm.exec ∧ c.code = M.2.1 ∧ c.maxLocals = M.2.2.1 ∧ s.vm.findClass M.1.cls = some m.cls ∧ (∀ w ∈ hTb, w.before args s = true) ∧ (M.1.name = "<init>" → meth.name = "<init>") ∧ hStat K s ∧ hRo K s s.heap ∧ K.2.2.2.1 ≤ s.heap.size ∧ (M.2.2.2.2.1 ≤ R.frames ∧ M.2.2.2.2.2 ≤ R.locals ∧ B.1 ≤ R.cells ∧ B.2 ≤ R.slots) ∧
  ∀ (r : Option Value) (H : hAH) (cu : hCu) (Hr : Heap) (locs : List Loc) (lsr : Array Slot) (pc : Nat) (ins : Instr) (st : hStk), hRetI M r ins st → decode c.code pc = .ok (ins, 1) → hHp K H Hr → va_S (hA K) s.heap Hr locs → Q r H → cu.1 ≤ B.1 → cu.2 ≤ B.2 → W p K.1 e R s m args below meth c Hr locs cu.1 cu.2 QF (F0 m pc lsr st)
/-- at this place, with these locals, this stack, this heap: the method comes to its end with Q -/
def hJ (K : hK) (M : hM) (B : Nat × Nat) (Q : hPost) (pc : Nat) (cu : hCu) (ls : hLs) (st : hStk) (H : hAH) : Prop :=
  (∀ (p : Program) (e : Env) (R : Room) (s : State) (m : MethodId) (args : Array Value) (below : List Frame) (meth : Method) (c : Code) (QF : State → Prop), hCtx K M B Q p e R s m args below meth c QF → ∀ (Hr : Heap) (locs : List Loc) (lsr : Array Slot), hHp K H Hr → va_S (hA K) s.heap Hr locs → hLv M.2.2.1 ls lsr → cu.1 ≤ B.1 → cu.2 ≤ B.2 → W p K.1 e R s m args below meth c Hr locs cu.1 cu.2 QF (F0 m pc lsr st)) ∨ False
theorem hJ.use {K : hK} {M : hM} {B : Nat × Nat} {Q : hPost} {pc : Nat} {cu : hCu} {ls : hLs} {st : hStk} {H : hAH} (h : hJ K M B Q pc cu ls st H) {p : Program} {e : Env} {R : Room} {s : State} {m : MethodId} {args : Array Value} {below : List Frame} {meth : Method} {c : Code} {QF : State → Prop} (C : hCtx K M B Q p e R s m args below meth c QF) {Hr : Heap} {locs : List Loc} {lsr : Array Slot} (h1 : hHp K H Hr) (h2 : va_S (hA K) s.heap Hr locs) (h3 : hLv M.2.2.1 ls lsr) (h4 : cu.1 ≤ B.1) (h5 : cu.2 ≤ B.2) : W p K.1 e R s m args below meth c Hr locs cu.1 cu.2 QF (F0 m pc lsr st) :=
  h.elim (fun h => h p e R s m args below meth c QF C Hr locs lsr h1 h2 h3 h4 h5) False.elim
def hOk (J : Nat → hCu → hLs → hStk → hAH → Prop) (pc : Nat) (x : hSem) : Prop := ∀ k : Nat → hCu → hLs → hStk → hAH → Prop, (∀ pc' cu ls st H, k pc' cu ls st H → J pc' cu ls st H) → ∀ cu ls st H, x k cu ls st H → J pc cu ls st H
def hAllOk (J : Nat → hCu → hLs → hStk → hAH → Prop) : Nat → List hSem → Prop
  | _, [] => True
  | pc, x :: t => hOk J pc x ∧ hAllOk J (pc + 1) t
def hGo (code : List hSem) (stops : List Nat) (Jn : Nat → hCu → hLs → hStk → hAH → Prop) : Nat → Nat → hCu → hLs → hStk → hAH → Prop
  | 0 => Jn
  | n + 1 => fun pc cu ls st H => hAtS code pc (fun pc' cu' ls' st' H' => match hMem pc' stops with
    | true => Jn pc' cu' ls' st' H'
    | false => hGo code stops Jn n pc' cu' ls' st' H') cu ls st H
def x_no : hSem := fun _ _ _ _ _ => False
theorem ok_no {J : Nat → hCu → hLs → hStk → hAH → Prop} {pc : Nat} : hOk J pc x_no := fun _ _ _ _ _ _ h => False.elim h
theorem hAllOk_at {J : Nat → hCu → hLs → hStk → hAH → Prop} : ∀ (code : List hSem) (b : Nat), hAllOk J b code → ∀ i, hOk J (b + i) (hAtS code i)
  | [], _, _, _ => fun _ _ _ _ _ _ h => False.elim h
  | x :: t, b, h, 0 => h.1
  | x :: t, b, h, i + 1 => by
    have := hAllOk_at t (b + 1) h.2 i
    rw [show b + (i + 1) = b + 1 + i by omega]
    exact this
theorem hGo_sound {J : Nat → hCu → hLs → hStk → hAH → Prop} {code : List hSem} (h : hAllOk J 0 code) (stops : List Nat) : ∀ (n pc : Nat) (cu : hCu) (ls : hLs) (st : hStk) (H : hAH), hGo code stops J n pc cu ls st H → J pc cu ls st H
  | 0, _, _, _, _, _, hg => hg
  | n + 1, pc, cu, ls, st, H, hg => by
    have h1 := hAllOk_at code 0 h pc
    rw [Nat.zero_add] at h1
    refine h1 _ (fun pc' cu' ls' st' H' hk => ?_) cu ls st H hg
    cases hm : hMem pc' stops with
    | true => rw [hm] at hk; exact hk
    | false => rw [hm] at hk; exact hGo_sound h stops n pc' cu' ls' st' H' hk
/-! locals -/
theorem hSetL_get : ∀ (f : hLs) (i : Nat) (v : Value) (j : Nat) (w : Value), hGetL (hSetL f i v) j = some w → (j = i ∧ w = v) ∨ (j ≠ i ∧ hGetL f j = some w)
  | [], _, _, _, _, h => by simp [hSetL, hGetL] at h
  | x :: t, 0, v, 0, w, h => by simp [hSetL, hGetL] at h; exact Or.inl ⟨rfl, h.symm⟩
  | x :: t, 0, v, j + 1, w, h => by simp [hSetL, hGetL] at h; exact Or.inr ⟨by omega, h⟩
  | x :: t, i + 1, v, 0, w, h => by simp [hSetL, hGetL] at h; exact Or.inr ⟨by omega, h⟩
  | x :: t, i + 1, v, j + 1, w, h => by
    simp only [hSetL, hGetL] at h
    rcases hSetL_get t i v j w h with ⟨a, b⟩ | ⟨a, b⟩
    · exact Or.inl ⟨by omega, b⟩
    · exact Or.inr ⟨by omega, b⟩
/-- the kit's list of locals, out of ours -/
def hPairs : hLs → Nat → List (Nat × Value)
  | [], _ => []
  | none :: t, b => hPairs t (b + 1)
  | some v :: t, b => (b, v) :: hPairs t (b + 1)
theorem hPairs_mem : ∀ (f : hLs) (b : Nat) (q : Nat × Value), q ∈ hPairs f b ↔ b ≤ q.1 ∧ hGetL f (q.1 - b) = some q.2
  | [], b, q => by simp [hPairs, hGetL]
  | none :: t, b, q => by
    rw [hPairs, hPairs_mem t (b + 1) q]
    constructor
    · rintro ⟨h1, h2⟩
      refine ⟨by omega, ?_⟩
      rw [show q.1 - b = (q.1 - (b + 1)) + 1 by omega]
      exact h2
    · rintro ⟨h1, h2⟩
      by_cases e : q.1 = b
      · rw [e, Nat.sub_self] at h2
        simp [hGetL] at h2
      · refine ⟨by omega, ?_⟩
        rw [show q.1 - b = (q.1 - (b + 1)) + 1 by omega] at h2
        exact h2
  | some v :: t, b, q => by
    rw [hPairs, List.mem_cons, hPairs_mem t (b + 1) q]
    constructor
    · rintro (rfl | ⟨h1, h2⟩)
      · exact ⟨Nat.le_refl _, by rw [Nat.sub_self]; rfl⟩
      · refine ⟨by omega, ?_⟩
        rw [show q.1 - b = (q.1 - (b + 1)) + 1 by omega]
        exact h2
    · rintro ⟨h1, h2⟩
      by_cases e : q.1 = b
      · rw [e, Nat.sub_self] at h2
        simp [hGetL] at h2
        exact Or.inl (Prod.ext e h2.symm)
      · refine Or.inr ⟨by omega, ?_⟩
        rw [show q.1 - b = (q.1 - (b + 1)) + 1 by omega] at h2
        exact h2
theorem hLv.has {n : Nat} {f : hLs} {arr : Array Slot} (h : hLv n f arr) : lv_has arr n (hPairs f 0) := ⟨h.1, h.2.1, fun q hq => (h.2.2 q.1 q.2 (by simpa using ((hPairs_mem f 0 q).mp hq).2)).1⟩
theorem hLv.set {n : Nat} {f : hLs} {arr arr' : Array Slot} {i : Nat} {v : Value} (h : hLv n f arr) (hc : v.category = 1) (h' : lv_has arr' n ((i, v) :: (hPairs f 0).filter (fun q => !(q.1 == i) && !(q.1 + 1 == i && q.2.category == 2)))) : hLv n (hSetL f i v) arr' := by
  refine ⟨h'.1, h'.2.1, fun j w hj => ?_⟩
  rcases hSetL_get f i v j w hj with ⟨rfl, rfl⟩ | ⟨hne, hg⟩
  · exact ⟨h'.2.2 _ List.mem_cons_self, hc⟩
  · have h1 := h.2.2 j w hg
    refine ⟨h'.2.2 (j, w) (List.mem_cons_of_mem _ (List.mem_filter.mpr ⟨(hPairs_mem f 0 (j, w)).mpr ⟨Nat.zero_le _, by simpa using hg⟩, ?_⟩)), h1.2⟩
    simp [hne, h1.2]
theorem hGetV_get : ∀ (fs : List Value) (k : Nat), fs[k]? = hGetV fs k
  | [], _ => by simp [hGetV]
  | x :: t, 0 => by simp [hGetV]
  | x :: t, k + 1 => by simp [hGetV, hGetV_get t k]
theorem hSetV_set : ∀ (fs : List Value) (k : Nat) (v : Value), fs.set k v = hSetV fs k v
  | [], _, _ => by simp [hSetV]
  | x :: t, 0, v => by simp [hSetV]
  | x :: t, k + 1, v => by simp [hSetV, hSetV_set t k v]
theorem hNones_get : ∀ (n i : Nat) (v : Value), hGetL (hNones n) i ≠ some v
  | 0, _, _ => by simp [hNones, hGetL]
  | n + 1, 0, _ => by simp [hNones, hGetL]
  | n + 1, i + 1, v => by simpa [hNones, hGetL] using hNones_get n i v
theorem hEnt_get : ∀ (av : List Value) (n b i : Nat) (v : Value), (∀ w ∈ av, w.category = 1) → hGetL (hEnt av n) i = some v → (b + i, v) ∈ lv_args b av ∧ v.category = 1
  | [], n, b, i, v, _, h => absurd h (hNones_get n i v)
  | x :: t, 0, b, i, v, _, h => by simp [hEnt, hGetL] at h
  | x :: t, n + 1, b, 0, v, hc, h => by
    simp [hEnt, hGetL] at h
    subst h
    have h1 := hc x List.mem_cons_self
    exact ⟨by simp [lv_args], h1⟩
  | x :: t, n + 1, b, i + 1, v, hc, h => by
    simp only [hEnt, hGetL] at h
    have h1 := hc x List.mem_cons_self
    obtain ⟨h2, h3⟩ := hEnt_get t n (b + 1) i v (fun w hw => hc w (List.mem_cons_of_mem _ hw)) h
    refine ⟨?_, h3⟩
    simp only [lv_args, h1]
    rw [show b + (i + 1) = b + 1 + i by omega]
    simpa using Or.inr h2
end
section
def x_const (nx : Nat) (v : Int32) : hSem := fun k cu ls st H => k nx cu ls (.int v :: st) H
theorem ok_iconst {K : hK} {M : hM} {B : Nat × Nat} {Q : hPost} {pc nx : Nat} {n : Int} {v : Int32} (hv : Int32.ofInt n = v) (hd : decode M.2.1 pc = .ok (.iconst n, 1)) (hn : pc + 1 = nx) : hOk (hJ K M B Q) pc (x_const nx v) := by
  intro k hk cu ls st H h
  subst hn
  refine Or.inl fun p e R s m args below meth c QF C Hr locs lsr h1 h2 h3 h4 h5 => ?_
  exact lv_iconst C.1 C.2.1 hd hv ((hk _ _ _ _ _ h).use C h1 h2 h3 h4 h5)
theorem ok_bipush {K : hK} {M : hM} {B : Nat × Nat} {Q : hPost} {pc nx : Nat} {n : Int} {v : Int32} (hv : (Int8.ofInt n).toInt32 = v) (hd : decode M.2.1 pc = .ok (.bipush n, 2)) (hn : pc + 2 = nx) : hOk (hJ K M B Q) pc (x_const nx v) := by
  intro k hk cu ls st H h
  subst hn
  refine Or.inl fun p e R s m args below meth c QF C Hr locs lsr h1 h2 h3 h4 h5 => ?_
  exact lv_bipush C.1 C.2.1 hd hv ((hk _ _ _ _ _ h).use C h1 h2 h3 h4 h5)
theorem ok_sipush {K : hK} {M : hM} {B : Nat × Nat} {Q : hPost} {pc nx : Nat} {n : Int} {v : Int32} (hv : (Int16.ofInt n).toInt32 = v) (hd : decode M.2.1 pc = .ok (.sipush n, 3)) (hn : pc + 3 = nx) : hOk (hJ K M B Q) pc (x_const nx v) := by
  intro k hk cu ls st H h
  subst hn
  refine Or.inl fun p e R s m args below meth c QF C Hr locs lsr h1 h2 h3 h4 h5 => ?_
  exact lv_sipush C.1 C.2.1 hd hv ((hk _ _ _ _ _ h).use C h1 h2 h3 h4 h5)
theorem ok_ldc {K : hK} {M : hM} {B : Nat × Nat} {Q : hPost} {pc nx : Nat} {i : Nat} {v : Int32} (hw : Cond.constant M.1.cls i v ∈ hTb) (hd : decode M.2.1 pc = .ok (.ldc i, 2)) (hn : pc + 2 = nx) : hOk (hJ K M B Q) pc (x_const nx v) := by
  intro k hk cu ls st H h
  subst hn
  refine Or.inl fun p e R s m args below meth c QF C Hr locs lsr h1 h2 h3 h4 h5 => ?_
  exact lv_ldc C.1 C.2.1 C.2.2.2.1 (C.2.2.2.2.1 _ hw) hd ((hk _ _ _ _ _ h).use C h1 h2 h3 h4 h5)
theorem ok_ldcw {K : hK} {M : hM} {B : Nat × Nat} {Q : hPost} {pc nx : Nat} {i : Nat} {v : Int32} (hw : Cond.constant M.1.cls i v ∈ hTb) (hd : decode M.2.1 pc = .ok (.ldc_w i, 3)) (hn : pc + 3 = nx) : hOk (hJ K M B Q) pc (x_const nx v) := by
  intro k hk cu ls st H h
  subst hn
  refine Or.inl fun p e R s m args below meth c QF C Hr locs lsr h1 h2 h3 h4 h5 => ?_
  exact lv_ldcw C.1 C.2.1 C.2.2.2.1 (C.2.2.2.2.1 _ hw) hd ((hk _ _ _ _ _ h).use C h1 h2 h3 h4 h5)
def x_null (nx : Nat) : hSem := fun k cu ls st H => k nx cu ls (.null :: st) H
theorem ok_null {K : hK} {M : hM} {B : Nat × Nat} {Q : hPost} {pc nx : Nat} (hd : decode M.2.1 pc = .ok (.aconst_null, 1)) (hn : pc + 1 = nx) : hOk (hJ K M B Q) pc (x_null nx) := by
  intro k hk cu ls st H h
  subst hn
  refine Or.inl fun p e R s m args below meth c QF C Hr locs lsr h1 h2 h3 h4 h5 => ?_
  exact lv_null C.1 C.2.1 hd ((hk _ _ _ _ _ h).use C h1 h2 h3 h4 h5)
def x_iload (nx i : Nat) : hSem := fun k cu ls st H => match hGetL ls i with
  | some (.int x) => k nx cu ls (.int x :: st) H
  | _ => False
theorem ok_iload {K : hK} {M : hM} {B : Nat × Nat} {Q : hPost} {pc nx : Nat} {i : Nat} (hd : decode M.2.1 pc = .ok (.iload i, 2)) (hn : pc + 2 = nx) : hOk (hJ K M B Q) pc (x_iload nx i) := by
  intro k hk cu ls st H h
  subst hn
  unfold x_iload at h
  split at h
  · rename_i x hg
    refine Or.inl fun p e R s m args below meth c QF C Hr locs lsr h1 h2 h3 h4 h5 => ?_
    exact lv_iload C.1 C.2.1 hd (h3.2.2 _ _ hg).1 ((hk _ _ _ _ _ h).use C h1 h2 h3 h4 h5)
  · exact h.elim
theorem ok_iload_n {K : hK} {M : hM} {B : Nat × Nat} {Q : hPost} {pc nx : Nat} {i : Nat} {f : Fin 4} (hi : (f : Nat) = i) (hd : decode M.2.1 pc = .ok (.iload_n f, 1)) (hn : pc + 1 = nx) : hOk (hJ K M B Q) pc (x_iload nx i) := by
  intro k hk cu ls st H h
  subst hn
  unfold x_iload at h
  split at h
  · rename_i x hg
    refine Or.inl fun p e R s m args below meth c QF C Hr locs lsr h1 h2 h3 h4 h5 => ?_
    exact lv_iload_n C.1 C.2.1 hd hi (h3.2.2 _ _ hg).1 ((hk _ _ _ _ _ h).use C h1 h2 h3 h4 h5)
  · exact h.elim
def x_aload (nx i : Nat) : hSem := fun k cu ls st H => match hGetL ls i with
  | some (.ref x) => k nx cu ls (.ref x :: st) H
  | some .null => k nx cu ls (.null :: st) H
  | _ => False
theorem ok_aload {K : hK} {M : hM} {B : Nat × Nat} {Q : hPost} {pc nx : Nat} {i : Nat} (hd : decode M.2.1 pc = .ok (.aload i, 2)) (hn : pc + 2 = nx) : hOk (hJ K M B Q) pc (x_aload nx i) := by
  intro k hk cu ls st H h
  subst hn
  unfold x_aload at h
  split at h
  · rename_i x hg
    refine Or.inl fun p e R s m args below meth c QF C Hr locs lsr h1 h2 h3 h4 h5 => ?_
    exact lv_aload C.1 C.2.1 hd (h3.2.2 _ _ hg).1 ((hk _ _ _ _ _ h).use C h1 h2 h3 h4 h5)
  · rename_i hg
    refine Or.inl fun p e R s m args below meth c QF C Hr locs lsr h1 h2 h3 h4 h5 => ?_
    exact lv_aloadN C.1 C.2.1 hd (h3.2.2 _ _ hg).1 ((hk _ _ _ _ _ h).use C h1 h2 h3 h4 h5)
  · exact h.elim
theorem ok_aload_n {K : hK} {M : hM} {B : Nat × Nat} {Q : hPost} {pc nx : Nat} {i : Nat} {f : Fin 4} (hi : (f : Nat) = i) (hd : decode M.2.1 pc = .ok (.aload_n f, 1)) (hn : pc + 1 = nx) : hOk (hJ K M B Q) pc (x_aload nx i) := by
  intro k hk cu ls st H h
  subst hn
  unfold x_aload at h
  split at h
  · rename_i x hg
    refine Or.inl fun p e R s m args below meth c QF C Hr locs lsr h1 h2 h3 h4 h5 => ?_
    exact lv_aload_n C.1 C.2.1 hd hi (h3.2.2 _ _ hg).1 ((hk _ _ _ _ _ h).use C h1 h2 h3 h4 h5)
  · rename_i hg
    refine Or.inl fun p e R s m args below meth c QF C Hr locs lsr h1 h2 h3 h4 h5 => ?_
    exact lv_aload_nN C.1 C.2.1 hd hi (h3.2.2 _ _ hg).1 ((hk _ _ _ _ _ h).use C h1 h2 h3 h4 h5)
  · exact h.elim
def x_istore (nx i : Nat) : hSem := fun k cu ls st H => match st with
  | .int x :: r => k nx cu (hSetL ls i (.int x)) r H
  | _ => False
theorem ok_istore {K : hK} {M : hM} {B : Nat × Nat} {Q : hPost} {pc nx : Nat} {i : Nat} (hl : i < M.2.2.1) (hd : decode M.2.1 pc = .ok (.istore i, 2)) (hn : pc + 2 = nx) : hOk (hJ K M B Q) pc (x_istore nx i) := by
  intro k hk cu ls st H h
  subst hn
  unfold x_istore at h
  split at h
  · refine Or.inl fun p e R s m args below meth c QF C Hr locs lsr h1 h2 h3 h4 h5 => ?_
    exact lv_istore C.1 C.2.1 hd h3.has hl rfl (fun ls2 hl2 => (hk _ _ _ _ _ h).use C h1 h2 (h3.set rfl hl2) h4 h5)
  · exact h.elim
theorem ok_istore_n {K : hK} {M : hM} {B : Nat × Nat} {Q : hPost} {pc nx : Nat} {i : Nat} {f : Fin 4} (hi : (f : Nat) = i) (hl : i < M.2.2.1) (hd : decode M.2.1 pc = .ok (.istore_n f, 1)) (hn : pc + 1 = nx) : hOk (hJ K M B Q) pc (x_istore nx i) := by
  intro k hk cu ls st H h
  subst hn
  unfold x_istore at h
  split at h
  · refine Or.inl fun p e R s m args below meth c QF C Hr locs lsr h1 h2 h3 h4 h5 => ?_
    exact lv_istore_n C.1 C.2.1 hd hi h3.has hl rfl (fun ls2 hl2 => (hk _ _ _ _ _ h).use C h1 h2 (h3.set rfl hl2) h4 h5)
  · exact h.elim
def x_astore (nx i : Nat) : hSem := fun k cu ls st H => match st with
  | .ref x :: r => k nx cu (hSetL ls i (.ref x)) r H
  | .null :: r => k nx cu (hSetL ls i .null) r H
  | _ => False
theorem ok_astore {K : hK} {M : hM} {B : Nat × Nat} {Q : hPost} {pc nx : Nat} {i : Nat} (hl : i < M.2.2.1) (hd : decode M.2.1 pc = .ok (.astore i, 2)) (hn : pc + 2 = nx) : hOk (hJ K M B Q) pc (x_astore nx i) := by
  intro k hk cu ls st H h
  subst hn
  unfold x_astore at h
  split at h
  · refine Or.inl fun p e R s m args below meth c QF C Hr locs lsr h1 h2 h3 h4 h5 => ?_
    exact lv_astore C.1 C.2.1 hd h3.has hl rfl (fun ls2 hl2 => (hk _ _ _ _ _ h).use C h1 h2 (h3.set rfl hl2) h4 h5)
  · refine Or.inl fun p e R s m args below meth c QF C Hr locs lsr h1 h2 h3 h4 h5 => ?_
    exact lv_astoreN C.1 C.2.1 hd h3.has hl rfl (fun ls2 hl2 => (hk _ _ _ _ _ h).use C h1 h2 (h3.set rfl hl2) h4 h5)
  · exact h.elim
theorem ok_astore_n {K : hK} {M : hM} {B : Nat × Nat} {Q : hPost} {pc nx : Nat} {i : Nat} {f : Fin 4} (hi : (f : Nat) = i) (hl : i < M.2.2.1) (hd : decode M.2.1 pc = .ok (.astore_n f, 1)) (hn : pc + 1 = nx) : hOk (hJ K M B Q) pc (x_astore nx i) := by
  intro k hk cu ls st H h
  subst hn
  unfold x_astore at h
  split at h
  · refine Or.inl fun p e R s m args below meth c QF C Hr locs lsr h1 h2 h3 h4 h5 => ?_
    exact lv_astore_n C.1 C.2.1 hd hi h3.has hl rfl (fun ls2 hl2 => (hk _ _ _ _ _ h).use C h1 h2 (h3.set rfl hl2) h4 h5)
  · refine Or.inl fun p e R s m args below meth c QF C Hr locs lsr h1 h2 h3 h4 h5 => ?_
    exact lv_astore_nN C.1 C.2.1 hd hi h3.has hl rfl (fun ls2 hl2 => (hk _ _ _ _ _ h).use C h1 h2 (h3.set rfl hl2) h4 h5)
  · exact h.elim
def x_iinc (nx i : Nat) (v : Int32) : hSem := fun k cu ls st H => match hGetL ls i with
  | some (.int x) => k nx cu (hSetL ls i (.int (x + v))) st H
  | _ => False
theorem ok_iinc {K : hK} {M : hM} {B : Nat × Nat} {Q : hPost} {pc nx : Nat} {i : Nat} {n : Int} {v : Int32} (hv : Int32.ofInt n = v) (hl : i < M.2.2.1) (hd : decode M.2.1 pc = .ok (.iinc i n, 3)) (hn : pc + 3 = nx) : hOk (hJ K M B Q) pc (x_iinc nx i v) := by
  intro k hk cu ls st H h
  subst hn
  unfold x_iinc at h
  subst hv
  split at h
  · rename_i x hg
    refine Or.inl fun p e R s m args below meth c QF C Hr locs lsr h1 h2 h3 h4 h5 => ?_
    obtain ⟨j, hj⟩ := List.getElem?_of_mem ((hPairs_mem ls 0 (i, .int x)).mpr ⟨Nat.zero_le _, by simpa using hg⟩)
    exact lv_iinc C.1 C.2.1 hd h3.has hj rfl hl rfl (fun ls2 hl2 => (hk _ _ _ _ _ h).use C h1 h2 (h3.set rfl hl2) h4 h5)
  · exact h.elim
def x_iadd (nx : Nat) : hSem := fun k cu ls st H => match st with
  | .int b :: .int a :: r => k nx cu ls (.int (a + b) :: r) H
  | _ => False
theorem ok_iadd {K : hK} {M : hM} {B : Nat × Nat} {Q : hPost} {pc nx : Nat} (hd : decode M.2.1 pc = .ok (.iadd, 1)) (hn : pc + 1 = nx) : hOk (hJ K M B Q) pc (x_iadd nx) := by
  intro k hk cu ls st H h
  subst hn
  unfold x_iadd at h
  split at h
  · refine Or.inl fun p e R s m args below meth c QF C Hr locs lsr h1 h2 h3 h4 h5 => ?_
    exact lv_iadd C.1 C.2.1 hd ((hk _ _ _ _ _ h).use C h1 h2 h3 h4 h5)
  · exact h.elim
def x_isub (nx : Nat) : hSem := fun k cu ls st H => match st with
  | .int b :: .int a :: r => k nx cu ls (.int (a - b) :: r) H
  | _ => False
theorem ok_isub {K : hK} {M : hM} {B : Nat × Nat} {Q : hPost} {pc nx : Nat} (hd : decode M.2.1 pc = .ok (.isub, 1)) (hn : pc + 1 = nx) : hOk (hJ K M B Q) pc (x_isub nx) := by
  intro k hk cu ls st H h
  subst hn
  unfold x_isub at h
  split at h
  · refine Or.inl fun p e R s m args below meth c QF C Hr locs lsr h1 h2 h3 h4 h5 => ?_
    exact lv_isub C.1 C.2.1 hd ((hk _ _ _ _ _ h).use C h1 h2 h3 h4 h5)
  · exact h.elim
def x_imul (nx : Nat) : hSem := fun k cu ls st H => match st with
  | .int b :: .int a :: r => k nx cu ls (.int (a * b) :: r) H
  | _ => False
theorem ok_imul {K : hK} {M : hM} {B : Nat × Nat} {Q : hPost} {pc nx : Nat} (hd : decode M.2.1 pc = .ok (.imul, 1)) (hn : pc + 1 = nx) : hOk (hJ K M B Q) pc (x_imul nx) := by
  intro k hk cu ls st H h
  subst hn
  unfold x_imul at h
  split at h
  · refine Or.inl fun p e R s m args below meth c QF C Hr locs lsr h1 h2 h3 h4 h5 => ?_
    exact lv_imul C.1 C.2.1 hd ((hk _ _ _ _ _ h).use C h1 h2 h3 h4 h5)
  · exact h.elim
def x_iand (nx : Nat) : hSem := fun k cu ls st H => match st with
  | .int b :: .int a :: r => k nx cu ls (.int (a &&& b) :: r) H
  | _ => False
theorem ok_iand {K : hK} {M : hM} {B : Nat × Nat} {Q : hPost} {pc nx : Nat} (hd : decode M.2.1 pc = .ok (.iand, 1)) (hn : pc + 1 = nx) : hOk (hJ K M B Q) pc (x_iand nx) := by
  intro k hk cu ls st H h
  subst hn
  unfold x_iand at h
  split at h
  · refine Or.inl fun p e R s m args below meth c QF C Hr locs lsr h1 h2 h3 h4 h5 => ?_
    exact lv_iand C.1 C.2.1 hd ((hk _ _ _ _ _ h).use C h1 h2 h3 h4 h5)
  · exact h.elim
def x_ior (nx : Nat) : hSem := fun k cu ls st H => match st with
  | .int b :: .int a :: r => k nx cu ls (.int (a ||| b) :: r) H
  | _ => False
theorem ok_ior {K : hK} {M : hM} {B : Nat × Nat} {Q : hPost} {pc nx : Nat} (hd : decode M.2.1 pc = .ok (.ior, 1)) (hn : pc + 1 = nx) : hOk (hJ K M B Q) pc (x_ior nx) := by
  intro k hk cu ls st H h
  subst hn
  unfold x_ior at h
  split at h
  · refine Or.inl fun p e R s m args below meth c QF C Hr locs lsr h1 h2 h3 h4 h5 => ?_
    exact lv_ior C.1 C.2.1 hd ((hk _ _ _ _ _ h).use C h1 h2 h3 h4 h5)
  · exact h.elim
def x_ixor (nx : Nat) : hSem := fun k cu ls st H => match st with
  | .int b :: .int a :: r => k nx cu ls (.int (a ^^^ b) :: r) H
  | _ => False
theorem ok_ixor {K : hK} {M : hM} {B : Nat × Nat} {Q : hPost} {pc nx : Nat} (hd : decode M.2.1 pc = .ok (.ixor, 1)) (hn : pc + 1 = nx) : hOk (hJ K M B Q) pc (x_ixor nx) := by
  intro k hk cu ls st H h
  subst hn
  unfold x_ixor at h
  split at h
  · refine Or.inl fun p e R s m args below meth c QF C Hr locs lsr h1 h2 h3 h4 h5 => ?_
    exact lv_ixor C.1 C.2.1 hd ((hk _ _ _ _ _ h).use C h1 h2 h3 h4 h5)
  · exact h.elim
def x_ishl (nx : Nat) : hSem := fun k cu ls st H => match st with
  | .int b :: .int a :: r => k nx cu ls (.int (a <<< (b &&& 31)) :: r) H
  | _ => False
theorem ok_ishl {K : hK} {M : hM} {B : Nat × Nat} {Q : hPost} {pc nx : Nat} (hd : decode M.2.1 pc = .ok (.ishl, 1)) (hn : pc + 1 = nx) : hOk (hJ K M B Q) pc (x_ishl nx) := by
  intro k hk cu ls st H h
  subst hn
  unfold x_ishl at h
  split at h
  · refine Or.inl fun p e R s m args below meth c QF C Hr locs lsr h1 h2 h3 h4 h5 => ?_
    exact lv_ishl C.1 C.2.1 hd ((hk _ _ _ _ _ h).use C h1 h2 h3 h4 h5)
  · exact h.elim
def x_ishr (nx : Nat) : hSem := fun k cu ls st H => match st with
  | .int b :: .int a :: r => k nx cu ls (.int (a >>> (b &&& 31)) :: r) H
  | _ => False
theorem ok_ishr {K : hK} {M : hM} {B : Nat × Nat} {Q : hPost} {pc nx : Nat} (hd : decode M.2.1 pc = .ok (.ishr, 1)) (hn : pc + 1 = nx) : hOk (hJ K M B Q) pc (x_ishr nx) := by
  intro k hk cu ls st H h
  subst hn
  unfold x_ishr at h
  split at h
  · refine Or.inl fun p e R s m args below meth c QF C Hr locs lsr h1 h2 h3 h4 h5 => ?_
    exact lv_ishr C.1 C.2.1 hd ((hk _ _ _ _ _ h).use C h1 h2 h3 h4 h5)
  · exact h.elim
def x_iushr (nx : Nat) : hSem := fun k cu ls st H => match st with
  | .int b :: .int a :: r => k nx cu ls (.int ((a.toUInt32 >>> (b.toUInt32 &&& Int32.toUInt32 31)).toInt32) :: r) H
  | _ => False
theorem ok_iushr {K : hK} {M : hM} {B : Nat × Nat} {Q : hPost} {pc nx : Nat} (hd : decode M.2.1 pc = .ok (.iushr, 1)) (hn : pc + 1 = nx) : hOk (hJ K M B Q) pc (x_iushr nx) := by
  intro k hk cu ls st H h
  subst hn
  unfold x_iushr at h
  split at h
  · refine Or.inl fun p e R s m args below meth c QF C Hr locs lsr h1 h2 h3 h4 h5 => ?_
    exact lv_iushr C.1 C.2.1 hd rfl ((hk _ _ _ _ _ h).use C h1 h2 h3 h4 h5)
  · exact h.elim
def x_idiv (nx : Nat) : hSem := fun k cu ls st H => match st with
  | .int b :: .int a :: r => ¬ b = 0 ∧ k nx cu ls (.int (a / b) :: r) H
  | _ => False
theorem ok_idiv {K : hK} {M : hM} {B : Nat × Nat} {Q : hPost} {pc nx : Nat} (hd : decode M.2.1 pc = .ok (.idiv, 1)) (hn : pc + 1 = nx) : hOk (hJ K M B Q) pc (x_idiv nx) := by
  intro k hk cu ls st H h
  subst hn
  unfold x_idiv at h
  split at h
  · refine Or.inl fun p e R s m args below meth c QF C Hr locs lsr h1 h2 h3 h4 h5 => ?_
    exact lv_idiv C.1 C.2.1 hd h.1 ((hk _ _ _ _ _ h.2).use C h1 h2 h3 h4 h5)
  · exact h.elim
def x_irem (nx : Nat) : hSem := fun k cu ls st H => match st with
  | .int b :: .int a :: r => ¬ b = 0 ∧ k nx cu ls (.int (a - a / b * b) :: r) H
  | _ => False
theorem ok_irem {K : hK} {M : hM} {B : Nat × Nat} {Q : hPost} {pc nx : Nat} (hd : decode M.2.1 pc = .ok (.irem, 1)) (hn : pc + 1 = nx) : hOk (hJ K M B Q) pc (x_irem nx) := by
  intro k hk cu ls st H h
  subst hn
  unfold x_irem at h
  split at h
  · refine Or.inl fun p e R s m args below meth c QF C Hr locs lsr h1 h2 h3 h4 h5 => ?_
    exact lv_irem C.1 C.2.1 hd h.1 ((hk _ _ _ _ _ h.2).use C h1 h2 h3 h4 h5)
  · exact h.elim
def x_i2c (nx : Nat) : hSem := fun k cu ls st H => match st with
  | .int a :: r => k nx cu ls (.int ((a.toUInt32 % 65536).toInt32) :: r) H
  | _ => False
theorem ok_i2c {K : hK} {M : hM} {B : Nat × Nat} {Q : hPost} {pc nx : Nat} (hd : decode M.2.1 pc = .ok (.i2c, 1)) (hn : pc + 1 = nx) : hOk (hJ K M B Q) pc (x_i2c nx) := by
  intro k hk cu ls st H h
  subst hn
  unfold x_i2c at h
  split at h
  · refine Or.inl fun p e R s m args below meth c QF C Hr locs lsr h1 h2 h3 h4 h5 => ?_
    exact lv_i2c C.1 C.2.1 hd rfl ((hk _ _ _ _ _ h).use C h1 h2 h3 h4 h5)
  · exact h.elim
def x_dup (nx : Nat) : hSem := fun k cu ls st H => match st with
  | .int a :: r => k nx cu ls (.int a :: .int a :: r) H
  | .ref a :: r => k nx cu ls (.ref a :: .ref a :: r) H
  | _ => False
theorem ok_dup {K : hK} {M : hM} {B : Nat × Nat} {Q : hPost} {pc nx : Nat} (hd : decode M.2.1 pc = .ok (.dup, 1)) (hn : pc + 1 = nx) : hOk (hJ K M B Q) pc (x_dup nx) := by
  intro k hk cu ls st H h
  subst hn
  unfold x_dup at h
  split at h
  · refine Or.inl fun p e R s m args below meth c QF C Hr locs lsr h1 h2 h3 h4 h5 => ?_
    exact lv_dup C.1 C.2.1 hd rfl ((hk _ _ _ _ _ h).use C h1 h2 h3 h4 h5)
  · refine Or.inl fun p e R s m args below meth c QF C Hr locs lsr h1 h2 h3 h4 h5 => ?_
    exact lv_dup C.1 C.2.1 hd rfl ((hk _ _ _ _ _ h).use C h1 h2 h3 h4 h5)
  · exact h.elim
def x_dup2 (nx : Nat) : hSem := fun k cu ls st H => match st with
  | .int i :: .ref a :: r => k nx cu ls (.int i :: .ref a :: .int i :: .ref a :: r) H
  | _ => False
theorem ok_dup2 {K : hK} {M : hM} {B : Nat × Nat} {Q : hPost} {pc nx : Nat} (hd : decode M.2.1 pc = .ok (.dup2, 1)) (hn : pc + 1 = nx) : hOk (hJ K M B Q) pc (x_dup2 nx) := by
  intro k hk cu ls st H h
  subst hn
  unfold x_dup2 at h
  split at h
  · refine Or.inl fun p e R s m args below meth c QF C Hr locs lsr h1 h2 h3 h4 h5 => ?_
    exact lv_dup2_11 C.1 C.2.1 hd rfl rfl ((hk _ _ _ _ _ h).use C h1 h2 h3 h4 h5)
  · exact h.elim
def x_pop (nx : Nat) : hSem := fun k cu ls st H => match st with
  | .int _ :: r => k nx cu ls r H
  | .ref _ :: r => k nx cu ls r H
  | _ => False
theorem ok_pop {K : hK} {M : hM} {B : Nat × Nat} {Q : hPost} {pc nx : Nat} (hd : decode M.2.1 pc = .ok (.pop, 1)) (hn : pc + 1 = nx) : hOk (hJ K M B Q) pc (x_pop nx) := by
  intro k hk cu ls st H h
  subst hn
  unfold x_pop at h
  split at h
  · refine Or.inl fun p e R s m args below meth c QF C Hr locs lsr h1 h2 h3 h4 h5 => ?_
    exact lv_pop C.1 C.2.1 hd rfl ((hk _ _ _ _ _ h).use C h1 h2 h3 h4 h5)
  · refine Or.inl fun p e R s m args below meth c QF C Hr locs lsr h1 h2 h3 h4 h5 => ?_
    exact lv_pop C.1 C.2.1 hd rfl ((hk _ _ _ _ _ h).use C h1 h2 h3 h4 h5)
  · exact h.elim
def x_goto (t : Nat) : hSem := fun k cu ls st H => k t cu ls st H
theorem ok_goto {K : hK} {M : hM} {B : Nat × Nat} {Q : hPost} {pc nx : Nat} {off : Int} (ht : (pc : Int) + off = (nx : Int)) (hd : decode M.2.1 pc = .ok (.goto off, 3)) : hOk (hJ K M B Q) pc (x_goto nx) := by
  intro k hk cu ls st H h
  refine Or.inl fun p e R s m args below meth c QF C Hr locs lsr h1 h2 h3 h4 h5 => ?_
  exact lv_goto C.1 C.2.1 hd ht ((hk _ _ _ _ _ h).use C h1 h2 h3 h4 h5)
def x_ifeq (t nx : Nat) : hSem := fun k cu ls st H => match st with
  | .int a :: r => (a = 0 → k t cu ls r H) ∧ (¬ a = 0 → k nx cu ls r H)
  | _ => False
theorem ok_ifeq {K : hK} {M : hM} {B : Nat × Nat} {Q : hPost} {pc nx : Nat} {t : Nat} {off : Int} (ht : (pc : Int) + off = (t : Int)) (hd : decode M.2.1 pc = .ok (.ifCond .eq off, 3)) (hn : pc + 3 = nx) : hOk (hJ K M B Q) pc (x_ifeq t nx) := by
  intro k hk cu ls st H h
  subst hn
  unfold x_ifeq at h
  split at h
  · refine Or.inl fun p e R s m args below meth c QF C Hr locs lsr h1 h2 h3 h4 h5 => ?_
    exact lv_if_eq C.1 C.2.1 hd ht (fun z => ((hk _ _ _ _ _ (h.1 z)).use C h1 h2 h3 h4 h5)) (fun z => ((hk _ _ _ _ _ (h.2 z)).use C h1 h2 h3 h4 h5))
  · exact h.elim
def x_ifne (t nx : Nat) : hSem := fun k cu ls st H => match st with
  | .int a :: r => (¬ a = 0 → k t cu ls r H) ∧ (a = 0 → k nx cu ls r H)
  | _ => False
theorem ok_ifne {K : hK} {M : hM} {B : Nat × Nat} {Q : hPost} {pc nx : Nat} {t : Nat} {off : Int} (ht : (pc : Int) + off = (t : Int)) (hd : decode M.2.1 pc = .ok (.ifCond .ne off, 3)) (hn : pc + 3 = nx) : hOk (hJ K M B Q) pc (x_ifne t nx) := by
  intro k hk cu ls st H h
  subst hn
  unfold x_ifne at h
  split at h
  · refine Or.inl fun p e R s m args below meth c QF C Hr locs lsr h1 h2 h3 h4 h5 => ?_
    exact lv_if_ne C.1 C.2.1 hd ht (fun z => ((hk _ _ _ _ _ (h.1 z)).use C h1 h2 h3 h4 h5)) (fun z => ((hk _ _ _ _ _ (h.2 z)).use C h1 h2 h3 h4 h5))
  · exact h.elim
def x_iflt (t nx : Nat) : hSem := fun k cu ls st H => match st with
  | .int a :: r => (a < 0 → k t cu ls r H) ∧ (¬ a < 0 → k nx cu ls r H)
  | _ => False
theorem ok_iflt {K : hK} {M : hM} {B : Nat × Nat} {Q : hPost} {pc nx : Nat} {t : Nat} {off : Int} (ht : (pc : Int) + off = (t : Int)) (hd : decode M.2.1 pc = .ok (.ifCond .lt off, 3)) (hn : pc + 3 = nx) : hOk (hJ K M B Q) pc (x_iflt t nx) := by
  intro k hk cu ls st H h
  subst hn
  unfold x_iflt at h
  split at h
  · refine Or.inl fun p e R s m args below meth c QF C Hr locs lsr h1 h2 h3 h4 h5 => ?_
    exact lv_if_lt C.1 C.2.1 hd ht (fun z => ((hk _ _ _ _ _ (h.1 z)).use C h1 h2 h3 h4 h5)) (fun z => ((hk _ _ _ _ _ (h.2 z)).use C h1 h2 h3 h4 h5))
  · exact h.elim
def x_ifge (t nx : Nat) : hSem := fun k cu ls st H => match st with
  | .int a :: r => (0 ≤ a → k t cu ls r H) ∧ (¬ 0 ≤ a → k nx cu ls r H)
  | _ => False
theorem ok_ifge {K : hK} {M : hM} {B : Nat × Nat} {Q : hPost} {pc nx : Nat} {t : Nat} {off : Int} (ht : (pc : Int) + off = (t : Int)) (hd : decode M.2.1 pc = .ok (.ifCond .ge off, 3)) (hn : pc + 3 = nx) : hOk (hJ K M B Q) pc (x_ifge t nx) := by
  intro k hk cu ls st H h
  subst hn
  unfold x_ifge at h
  split at h
  · refine Or.inl fun p e R s m args below meth c QF C Hr locs lsr h1 h2 h3 h4 h5 => ?_
    exact lv_if_ge C.1 C.2.1 hd ht (fun z => ((hk _ _ _ _ _ (h.1 z)).use C h1 h2 h3 h4 h5)) (fun z => ((hk _ _ _ _ _ (h.2 z)).use C h1 h2 h3 h4 h5))
  · exact h.elim
def x_ifgt (t nx : Nat) : hSem := fun k cu ls st H => match st with
  | .int a :: r => (0 < a → k t cu ls r H) ∧ (¬ 0 < a → k nx cu ls r H)
  | _ => False
theorem ok_ifgt {K : hK} {M : hM} {B : Nat × Nat} {Q : hPost} {pc nx : Nat} {t : Nat} {off : Int} (ht : (pc : Int) + off = (t : Int)) (hd : decode M.2.1 pc = .ok (.ifCond .gt off, 3)) (hn : pc + 3 = nx) : hOk (hJ K M B Q) pc (x_ifgt t nx) := by
  intro k hk cu ls st H h
  subst hn
  unfold x_ifgt at h
  split at h
  · refine Or.inl fun p e R s m args below meth c QF C Hr locs lsr h1 h2 h3 h4 h5 => ?_
    exact lv_if_gt C.1 C.2.1 hd ht (fun z => ((hk _ _ _ _ _ (h.1 z)).use C h1 h2 h3 h4 h5)) (fun z => ((hk _ _ _ _ _ (h.2 z)).use C h1 h2 h3 h4 h5))
  · exact h.elim
def x_ifle (t nx : Nat) : hSem := fun k cu ls st H => match st with
  | .int a :: r => (a ≤ 0 → k t cu ls r H) ∧ (¬ a ≤ 0 → k nx cu ls r H)
  | _ => False
theorem ok_ifle {K : hK} {M : hM} {B : Nat × Nat} {Q : hPost} {pc nx : Nat} {t : Nat} {off : Int} (ht : (pc : Int) + off = (t : Int)) (hd : decode M.2.1 pc = .ok (.ifCond .le off, 3)) (hn : pc + 3 = nx) : hOk (hJ K M B Q) pc (x_ifle t nx) := by
  intro k hk cu ls st H h
  subst hn
  unfold x_ifle at h
  split at h
  · refine Or.inl fun p e R s m args below meth c QF C Hr locs lsr h1 h2 h3 h4 h5 => ?_
    exact lv_if_le C.1 C.2.1 hd ht (fun z => ((hk _ _ _ _ _ (h.1 z)).use C h1 h2 h3 h4 h5)) (fun z => ((hk _ _ _ _ _ (h.2 z)).use C h1 h2 h3 h4 h5))
  · exact h.elim
def x_iceq (t nx : Nat) : hSem := fun k cu ls st H => match st with
  | .int b :: .int a :: r => (a = b → k t cu ls r H) ∧ (¬ a = b → k nx cu ls r H)
  | _ => False
theorem ok_iceq {K : hK} {M : hM} {B : Nat × Nat} {Q : hPost} {pc nx : Nat} {t : Nat} {off : Int} (ht : (pc : Int) + off = (t : Int)) (hd : decode M.2.1 pc = .ok (.if_icmp .eq off, 3)) (hn : pc + 3 = nx) : hOk (hJ K M B Q) pc (x_iceq t nx) := by
  intro k hk cu ls st H h
  subst hn
  unfold x_iceq at h
  split at h
  · refine Or.inl fun p e R s m args below meth c QF C Hr locs lsr h1 h2 h3 h4 h5 => ?_
    exact lv_icmp_eq C.1 C.2.1 hd ht (fun z => ((hk _ _ _ _ _ (h.1 z)).use C h1 h2 h3 h4 h5)) (fun z => ((hk _ _ _ _ _ (h.2 z)).use C h1 h2 h3 h4 h5))
  · exact h.elim
def x_icne (t nx : Nat) : hSem := fun k cu ls st H => match st with
  | .int b :: .int a :: r => (¬ a = b → k t cu ls r H) ∧ (a = b → k nx cu ls r H)
  | _ => False
theorem ok_icne {K : hK} {M : hM} {B : Nat × Nat} {Q : hPost} {pc nx : Nat} {t : Nat} {off : Int} (ht : (pc : Int) + off = (t : Int)) (hd : decode M.2.1 pc = .ok (.if_icmp .ne off, 3)) (hn : pc + 3 = nx) : hOk (hJ K M B Q) pc (x_icne t nx) := by
  intro k hk cu ls st H h
  subst hn
  unfold x_icne at h
  split at h
  · refine Or.inl fun p e R s m args below meth c QF C Hr locs lsr h1 h2 h3 h4 h5 => ?_
    exact lv_icmp_ne C.1 C.2.1 hd ht (fun z => ((hk _ _ _ _ _ (h.1 z)).use C h1 h2 h3 h4 h5)) (fun z => ((hk _ _ _ _ _ (h.2 z)).use C h1 h2 h3 h4 h5))
  · exact h.elim
def x_iclt (t nx : Nat) : hSem := fun k cu ls st H => match st with
  | .int b :: .int a :: r => (a < b → k t cu ls r H) ∧ (¬ a < b → k nx cu ls r H)
  | _ => False
theorem ok_iclt {K : hK} {M : hM} {B : Nat × Nat} {Q : hPost} {pc nx : Nat} {t : Nat} {off : Int} (ht : (pc : Int) + off = (t : Int)) (hd : decode M.2.1 pc = .ok (.if_icmp .lt off, 3)) (hn : pc + 3 = nx) : hOk (hJ K M B Q) pc (x_iclt t nx) := by
  intro k hk cu ls st H h
  subst hn
  unfold x_iclt at h
  split at h
  · refine Or.inl fun p e R s m args below meth c QF C Hr locs lsr h1 h2 h3 h4 h5 => ?_
    exact lv_icmp_lt C.1 C.2.1 hd ht (fun z => ((hk _ _ _ _ _ (h.1 z)).use C h1 h2 h3 h4 h5)) (fun z => ((hk _ _ _ _ _ (h.2 z)).use C h1 h2 h3 h4 h5))
  · exact h.elim
def x_icge (t nx : Nat) : hSem := fun k cu ls st H => match st with
  | .int b :: .int a :: r => (b ≤ a → k t cu ls r H) ∧ (¬ b ≤ a → k nx cu ls r H)
  | _ => False
theorem ok_icge {K : hK} {M : hM} {B : Nat × Nat} {Q : hPost} {pc nx : Nat} {t : Nat} {off : Int} (ht : (pc : Int) + off = (t : Int)) (hd : decode M.2.1 pc = .ok (.if_icmp .ge off, 3)) (hn : pc + 3 = nx) : hOk (hJ K M B Q) pc (x_icge t nx) := by
  intro k hk cu ls st H h
  subst hn
  unfold x_icge at h
  split at h
  · refine Or.inl fun p e R s m args below meth c QF C Hr locs lsr h1 h2 h3 h4 h5 => ?_
    exact lv_icmp_ge C.1 C.2.1 hd ht (fun z => ((hk _ _ _ _ _ (h.1 z)).use C h1 h2 h3 h4 h5)) (fun z => ((hk _ _ _ _ _ (h.2 z)).use C h1 h2 h3 h4 h5))
  · exact h.elim
def x_icgt (t nx : Nat) : hSem := fun k cu ls st H => match st with
  | .int b :: .int a :: r => (b < a → k t cu ls r H) ∧ (¬ b < a → k nx cu ls r H)
  | _ => False
theorem ok_icgt {K : hK} {M : hM} {B : Nat × Nat} {Q : hPost} {pc nx : Nat} {t : Nat} {off : Int} (ht : (pc : Int) + off = (t : Int)) (hd : decode M.2.1 pc = .ok (.if_icmp .gt off, 3)) (hn : pc + 3 = nx) : hOk (hJ K M B Q) pc (x_icgt t nx) := by
  intro k hk cu ls st H h
  subst hn
  unfold x_icgt at h
  split at h
  · refine Or.inl fun p e R s m args below meth c QF C Hr locs lsr h1 h2 h3 h4 h5 => ?_
    exact lv_icmp_gt C.1 C.2.1 hd ht (fun z => ((hk _ _ _ _ _ (h.1 z)).use C h1 h2 h3 h4 h5)) (fun z => ((hk _ _ _ _ _ (h.2 z)).use C h1 h2 h3 h4 h5))
  · exact h.elim
def x_icle (t nx : Nat) : hSem := fun k cu ls st H => match st with
  | .int b :: .int a :: r => (a ≤ b → k t cu ls r H) ∧ (¬ a ≤ b → k nx cu ls r H)
  | _ => False
theorem ok_icle {K : hK} {M : hM} {B : Nat × Nat} {Q : hPost} {pc nx : Nat} {t : Nat} {off : Int} (ht : (pc : Int) + off = (t : Int)) (hd : decode M.2.1 pc = .ok (.if_icmp .le off, 3)) (hn : pc + 3 = nx) : hOk (hJ K M B Q) pc (x_icle t nx) := by
  intro k hk cu ls st H h
  subst hn
  unfold x_icle at h
  split at h
  · refine Or.inl fun p e R s m args below meth c QF C Hr locs lsr h1 h2 h3 h4 h5 => ?_
    exact lv_icmp_le C.1 C.2.1 hd ht (fun z => ((hk _ _ _ _ _ (h.1 z)).use C h1 h2 h3 h4 h5)) (fun z => ((hk _ _ _ _ _ (h.2 z)).use C h1 h2 h3 h4 h5))
  · exact h.elim
def x_ifnull (t nx : Nat) : hSem := fun k cu ls st H => match st with
  | .null :: r => k t cu ls r H
  | .ref _ :: r => k nx cu ls r H
  | _ => False
theorem ok_ifnull {K : hK} {M : hM} {B : Nat × Nat} {Q : hPost} {pc nx : Nat} {t : Nat} {off : Int} (ht : (pc : Int) + off = (t : Int)) (hd : decode M.2.1 pc = .ok (.ifnull off, 3)) (hn : pc + 3 = nx) : hOk (hJ K M B Q) pc (x_ifnull t nx) := by
  intro k hk cu ls st H h
  subst hn
  unfold x_ifnull at h
  split at h
  · refine Or.inl fun p e R s m args below meth c QF C Hr locs lsr h1 h2 h3 h4 h5 => ?_
    exact lv_ifnullN C.1 C.2.1 hd ht ((hk _ _ _ _ _ h).use C h1 h2 h3 h4 h5)
  · refine Or.inl fun p e R s m args below meth c QF C Hr locs lsr h1 h2 h3 h4 h5 => ?_
    exact lv_ifnull C.1 C.2.1 hd ((hk _ _ _ _ _ h).use C h1 h2 h3 h4 h5)
  · exact h.elim
def x_ifnonnull (t nx : Nat) : hSem := fun k cu ls st H => match st with
  | .null :: r => k nx cu ls r H
  | .ref _ :: r => k t cu ls r H
  | _ => False
theorem ok_ifnonnull {K : hK} {M : hM} {B : Nat × Nat} {Q : hPost} {pc nx : Nat} {t : Nat} {off : Int} (ht : (pc : Int) + off = (t : Int)) (hd : decode M.2.1 pc = .ok (.ifnonnull off, 3)) (hn : pc + 3 = nx) : hOk (hJ K M B Q) pc (x_ifnonnull t nx) := by
  intro k hk cu ls st H h
  subst hn
  unfold x_ifnonnull at h
  split at h
  · refine Or.inl fun p e R s m args below meth c QF C Hr locs lsr h1 h2 h3 h4 h5 => ?_
    exact lv_ifnonnullN C.1 C.2.1 hd ((hk _ _ _ _ _ h).use C h1 h2 h3 h4 h5)
  · refine Or.inl fun p e R s m args below meth c QF C Hr locs lsr h1 h2 h3 h4 h5 => ?_
    exact lv_ifnonnull C.1 C.2.1 hd ht ((hk _ _ _ _ _ h).use C h1 h2 h3 h4 h5)
  · exact h.elim
def hTab (k : Nat → Prop) (x : Int32) (d : Nat) : List (Int32 × Nat) → Prop
  | [] => k d
  | (v, t) :: l => (x = v → k t) ∧ (¬ x = v → hTab k x d l)
theorem hTab_spec {k : Nat → Prop} {x : Int32} {d : Nat} : ∀ (l : List (Int32 × Nat)), hTab k x d l → (∃ j t : Nat, l[j]? = some (x, t) ∧ k t) ∨ ((∀ (j : Nat) (q : Int32 × Nat), l[j]? = some q → ¬ x = q.1) ∧ k d)
  | [], h => Or.inr ⟨fun j q hj => by simp at hj, h⟩
  | (v, t) :: l, h => by
    by_cases e : x = v
    · exact Or.inl ⟨0, t, by simp [e], h.1 e⟩
    · rcases hTab_spec l (h.2 e) with ⟨j, t', h1, h2⟩ | ⟨h1, h2⟩
      · exact Or.inl ⟨j + 1, t', by simpa using h1, h2⟩
      · refine Or.inr ⟨fun j q hj => ?_, h2⟩
        cases j with
        | zero => simp at hj; subst hj; exact e
        | succ j => exact h1 j q (by simpa using hj)
def hTabOk (pc : Nat) (offs : Array Int) : Int → Nat → List (Int32 × Nat) → Bool
  | _, _, [] => true
  | lo, j, (v, t) :: l => decide (v.toInt = lo + j) && (match offs[j]? with
    | some off => decide ((pc : Int) + off = (t : Int))
    | none => false) && hTabOk pc offs lo (j + 1) l
theorem hTabOk_spec {pc : Nat} {offs : Array Int} {lo : Int} : ∀ (l : List (Int32 × Nat)) (b : Nat), hTabOk pc offs lo b l = true → ∀ (j : Nat) (q : Int32 × Nat), l[j]? = some q → q.1.toInt = lo + (b + j : Nat) ∧ ∃ off, offs[b + j]? = some off ∧ (pc : Int) + off = (q.2 : Int)
  | [], _, _, j, q, hj => by simp at hj
  | (v, t) :: l, b, h, j, q, hj => by
    simp only [hTabOk, Bool.and_eq_true, decide_eq_true_eq] at h
    cases j with
    | zero =>
      simp at hj
      subst hj
      refine ⟨by simpa using h.1.1, ?_⟩
      have h2 := h.1.2
      split at h2
      · rename_i off ho
        exact ⟨off, by simpa using ho, by simpa using h2⟩
      · cases h2
    | succ j =>
      have := hTabOk_spec l (b + 1) h.2 j q (by simpa using hj)
      rw [show b + (j + 1) = b + 1 + j by omega]
      exact this
def x_tab (d : Nat) (l : List (Int32 × Nat)) : hSem := fun k cu ls st H => match st with
  | .int x :: r => hTab (fun t => k t cu ls r H) x d l
  | _ => False
theorem ok_tab {K : hK} {M : hM} {B : Nat × Nat} {Q : hPost} {pc nx : Nat} {dflt lo hi : Int} {offs : Array Int} {len : Nat} {l : List (Int32 × Nat)} (hd : decode M.2.1 pc = .ok (.tableswitch dflt lo hi offs, len)) (ht : (pc : Int) + dflt = (nx : Int)) (hT : hTabOk pc offs lo 0 l = true) (hl : lo + (l.length : Int) = hi + 1) : hOk (hJ K M B Q) pc (x_tab nx l) := by
  intro k hk cu ls st H h
  unfold x_tab at h
  split at h
  · rename_i x r
    refine Or.inl fun p e R s m args below meth c QF C Hr locs lsr h1 h2 h3 h4 h5 => ?_
    have hs := hTabOk_spec l 0 hT
    rcases hTab_spec l h with ⟨j, t, hj, hkt⟩ | ⟨hne, hkd⟩
    · obtain ⟨e1, off, e2, e3⟩ := hs j _ hj
      have hlt : j < l.length := (List.getElem?_eq_some_iff.mp hj).1
      simp only [Nat.zero_add] at e1 e2
      refine lv_tableIn C.1 C.2.1 hd (by omega) (by omega) (off := off) ?_ e3 ((hk _ _ _ _ _ hkt).use C h1 h2 h3 h4 h5)
      rw [e1, show (lo + (j : Int) - lo).toNat = j by omega]
      exact e2
    · refine lv_tableOut C.1 C.2.1 hd ?_ ht ((hk _ _ _ _ _ hkd).use C h1 h2 h3 h4 h5)
      by_cases z : x.toInt < lo ∨ hi < x.toInt
      · exact z
      · exfalso
        have hj : (x.toInt - lo).toNat < l.length := by omega
        obtain ⟨q, hq⟩ : ∃ q, l[(x.toInt - lo).toNat]? = some q := ⟨_, List.getElem?_eq_getElem hj⟩
        obtain ⟨e1, -⟩ := hs _ _ hq
        refine hne _ _ hq (Int32.toInt_inj.mp ?_)
        rw [e1]
        omega
  · exact h.elim
def hIRet : Option FieldType → Int32 → Prop
  | some .int, _ => True
  | some .boolean, v => v = 0 ∨ v = 1
  | _, _ => False
theorem hIRet_narrow {t : Option FieldType} {v : Int32} (h : hIRet t v) : ∃ ty, t = some ty ∧ narrow ty (.int v) = .int v := by
  unfold hIRet at h
  split at h
  · exact ⟨.int, rfl, rfl⟩
  · refine ⟨.boolean, rfl, ?_⟩
    rcases h with rfl | rfl <;> rfl
  · exact h.elim
def x_ireturn (t : Option FieldType) (Q : hPost) : hSem := fun k cu ls st H => match st with
  | [.int v] => hIRet t v ∧ Q (some (.int v)) H
  | _ => False
theorem ok_ireturn {K : hK} {M : hM} {B : Nat × Nat} {Q : hPost} {pc : Nat} (hd : decode M.2.1 pc = .ok (.ireturn, 1)) : hOk (hJ K M B Q) pc (x_ireturn M.2.2.2.1 Q) := by
  intro k hk cu ls st H h
  unfold x_ireturn at h
  split at h
  · rename_i v
    refine Or.inl fun p e R s m args below meth c QF C Hr locs lsr h1 h2 h3 h4 h5 => ?_
    obtain ⟨ty, e1, e2⟩ := hIRet_narrow h.1
    exact C.2.2.2.2.2.2.2.2.2.2 _ H cu Hr locs lsr pc _ _ (Or.inr (Or.inl ⟨v, ty, rfl, rfl, rfl, e1, e2⟩)) (by rw [C.2.1]; exact hd) h1 h2 h.2 h4 h5
  · exact h.elim
def x_return (Q : hPost) : hSem := fun k cu ls st H => match st with
  | [] => Q none H
  | _ => False
theorem ok_return {K : hK} {M : hM} {B : Nat × Nat} {Q : hPost} {pc : Nat} (hr : M.2.2.2.1 = none) (hd : decode M.2.1 pc = .ok (.return_, 1)) : hOk (hJ K M B Q) pc (x_return Q) := by
  intro k hk cu ls st H h
  unfold x_return at h
  split at h
  · refine Or.inl fun p e R s m args below meth c QF C Hr locs lsr h1 h2 h3 h4 h5 => ?_
    exact C.2.2.2.2.2.2.2.2.2.2 _ H cu Hr locs lsr pc _ _ (Or.inl ⟨rfl, rfl, rfl, hr⟩) (by rw [C.2.1]; exact hd) h1 h2 h h4 h5
  · exact h.elim
def x_areturn (Q : hPost) : hSem := fun k cu ls st H => match st with
  | [.ref a] => Q (some (.ref a)) H
  | [.null] => Q (some .null) H
  | _ => False
theorem ok_areturn {K : hK} {M : hM} {B : Nat × Nat} {Q : hPost} {pc : Nat} {cn : String} (hr : M.2.2.2.1 = some (.object cn)) (hd : decode M.2.1 pc = .ok (.areturn, 1)) : hOk (hJ K M B Q) pc (x_areturn Q) := by
  intro k hk cu ls st H h
  unfold x_areturn at h
  split at h
  · rename_i a
    refine Or.inl fun p e R s m args below meth c QF C Hr locs lsr h1 h2 h3 h4 h5 => ?_
    exact C.2.2.2.2.2.2.2.2.2.2 _ H cu Hr locs lsr pc _ _ (Or.inr (Or.inr ⟨_, cn, rfl, rfl, rfl, hr, Or.inr ⟨a, rfl⟩⟩)) (by rw [C.2.1]; exact hd) h1 h2 h h4 h5
  · refine Or.inl fun p e R s m args below meth c QF C Hr locs lsr h1 h2 h3 h4 h5 => ?_
    exact C.2.2.2.2.2.2.2.2.2.2 _ H cu Hr locs lsr pc _ _ (Or.inr (Or.inr ⟨_, cn, rfl, rfl, rfl, hr, Or.inl rfl⟩)) (by rw [C.2.1]; exact hd) h1 h2 h h4 h5
  · exact h.elim
end
section
/-! heap instructions: fields, arrays, statics -/
theorem hHp.one {K : hK} {H : hAH} {Hr : Heap} {a : Nat} {c : va_E} (h : hHp K H Hr) (e : H.2 a = some c) : va_P K.2.1 vwCl [(a, c)] Hr := fun j q hj => by
  cases j with
  | zero => simp at hj; subst hj; exact (h.2.2 _ _ e).2
  | succ j => simp at hj
theorem hHp.put {K : hK} {H H' : hAH} {Hr H1 : Heap} {a : Nat} {c0 c : va_E} (h : hHp K H Hr) (e : H.2 a = some c0) (u : hUpd H a c H') (he : va_at K.2.1 vwCl (a, c) H1) (z : H1.size = Hr.size) (oq : ∀ q : Nat, q ≠ a → H1[q]? = Hr[q]?) : hHp K H' H1 := by
  refine ⟨by rw [z, h.1, u.1], by rw [u.1]; exact h.2.1, fun q d hq => ?_⟩
  by_cases eq : q = a
  · subst eq
    rw [u.2.1] at hq
    cases hq
    exact ⟨(h.2.2 _ _ e).1, he⟩
  · rw [u.2.2 q eq] at hq
    exact ⟨(h.2.2 _ _ hq).1, (h.2.2 _ _ hq).2.kept (oq q eq)⟩
theorem hHp.new {K : hK} {H H' : hAH} {Hr H1 : Heap} {c : va_E} (h : hHp K H Hr) (u : hNew H c H') (he : va_at K.2.1 vwCl (H.1, c) H1) (z : H1.size = Hr.size + 1) (oq : ∀ q : Nat, q < Hr.size → H1[q]? = Hr[q]?) : hHp K H' H1 := by
  refine ⟨by rw [z, h.1, u.1], by rw [u.1]; exact Nat.le_succ_of_le h.2.1, fun q d hq => ?_⟩
  by_cases eq : q = H.1
  · subst eq
    rw [u.2.1] at hq
    cases hq
    exact ⟨h.2.1, he⟩
  · rw [u.2.2 q eq] at hq
    have h1 := h.2.2 _ _ hq
    exact ⟨h1.1, h1.2.kept (oq q h1.2.lt)⟩
theorem hUpd.mk (H : hAH) (a : Nat) (c : va_E) : hUpd H a c (H.1, fun q => if q = a then some c else H.2 q) := ⟨rfl, if_pos rfl, fun _ h => if_neg h⟩
theorem hNew.mk (H : hAH) (c : va_E) : hNew H c (H.1 + 1, fun q => if q = H.1 then some c else H.2 q) := ⟨rfl, if_pos rfl, fun _ h => if_neg h⟩
theorem hCtx.nest {K : hK} {M : hM} {B : Nat × Nat} {Q : hPost} {p : Program} {e : Env} {R : Room} {s : State} {m : MethodId} {args : Array Value} {below : List Frame} {meth : Method} {c : Code} {QF : State → Prop} (C : hCtx K M B Q p e R s m args below meth c QF) {w : Cond} (h : w ∈ tables_1) (hn : hIsNest w = true) : w.before args s = true := by
  have h1 := C.2.2.2.2.2.2.1.2.1 w h hn
  cases w with
  | fieldLinkNest => exact va_Nw.use rfl h1
  | methodLinkNest => exact va_Nw.use rfl h1
  | _ => cases hn
def x_getfield (nx ci f : Nat) : hSem := fun k cu ls st H => match st with
  | .ref a :: r => ∃ fs, H.2 a = some (.inr (ci, fs)) ∧ match hGetV fs f with
    | some v => k nx cu ls (v :: r) H
    | none => False
  | _ => False
theorem ok_getfield {K : hK} {M : hM} {B : Nat × Nat} {Q : hPost} {pc nx ci f idx N : Nat} {C0 : String} {T : u_T} (hc : vwCl[ci]? = some (C0, T, N)) (hin : ∀ w ∈ u_ws C0 T N, w ∈ hTb) (hf : f < N) (hT : (T f).1 = C0)
    (hw : Cond.fieldLink M.1.cls idx C0 (T f).2.1 (T f).2.2.1 ∈ hTb) (hd : decode M.2.1 pc = .ok (.getfield idx, 3)) (hn : pc + 3 = nx) : hOk (hJ K M B Q) pc (x_getfield nx ci f) := by
  intro k hk cu ls st H h
  subst hn
  unfold x_getfield at h
  split at h
  · obtain ⟨fs, e, h⟩ := h
    split at h
    · rename_i v hv
      refine Or.inl fun p e' R s m args below meth c QF C Hr locs lsr h1 h2 h3 h4 h5 => ?_
      exact va_get C.1 C.2.1 C.2.2.2.2.1 hin C.2.2.2.1 C.2.2.2.2.2.2.1.1 (h1.one e) 0 rfl hc f hf (C.2.2.2.2.1 _ hw) (fun _ z => by rwa [hT] at z) (by rw [hGetV_get]; exact hv) hd ((hk _ _ _ _ _ h).use C h1 h2 h3 h4 h5)
    · exact h.elim
  · exact h.elim
theorem ok_getfieldN {K : hK} {M : hM} {B : Nat × Nat} {Q : hPost} {pc nx ci f idx N : Nat} {C0 host : String} {T : u_T} (hc : vwCl[ci]? = some (C0, T, N)) (hin : ∀ w ∈ u_ws C0 T N, w ∈ hTb) (hf : f < N) (hT : (T f).1 = C0)
    (hw : Cond.fieldLinkNest M.1.cls idx C0 (T f).2.1 (T f).2.2.1 host ∈ tables_1) (hd : decode M.2.1 pc = .ok (.getfield idx, 3)) (hn : pc + 3 = nx) : hOk (hJ K M B Q) pc (x_getfield nx ci f) := by
  intro k hk cu ls st H h
  subst hn
  unfold x_getfield at h
  split at h
  · obtain ⟨fs, e, h⟩ := h
    split at h
    · rename_i v hv
      refine Or.inl fun p e' R s m args below meth c QF C Hr locs lsr h1 h2 h3 h4 h5 => ?_
      exact va_getN C.1 C.2.1 C.2.2.2.2.1 hin C.2.2.2.1 C.2.2.2.2.2.2.1.1 (h1.one e) 0 rfl hc f hf (C.nest hw rfl) (fun _ z => by rwa [hT] at z) (by rw [hGetV_get]; exact hv) hd ((hk _ _ _ _ _ h).use C h1 h2 h3 h4 h5)
    · exact h.elim
  · exact h.elim
def hFit : FieldType → Value → Prop
  | .int, .int _ => True
  | .boolean, .int x => x = 0 ∨ x = 1
  | .object _, .ref _ => True
  | .object _, .null => True
  | .array _, .ref _ => True
  | .array _, .null => True
  | _, _ => False
theorem hFit_ok {ty : FieldType} {v : Value} (h : hFit ty v) : narrow ty v = v ∧ fits ty v = true := by
  unfold hFit at h
  split at h
  · exact ⟨rfl, rfl⟩
  · rcases h with rfl | rfl <;> exact ⟨rfl, rfl⟩
  · exact ⟨rfl, rfl⟩
  · exact ⟨rfl, rfl⟩
  · exact ⟨rfl, rfl⟩
  · exact ⟨rfl, rfl⟩
  · exact h.elim
def x_putfield (nx ci f : Nat) (ty : FieldType) : hSem := fun k cu ls st H => match st with
  | v :: .ref a :: r => ∃ fs, H.2 a = some (.inr (ci, fs)) ∧ hFit ty v ∧ match hGetV fs f with
    | some _ => ∀ H', hUpd H a (.inr (ci, hSetV fs f v)) H' → k nx cu ls r H'
    | none => False
  | _ => False
/-- what the three kinds of putfield have in common -/
theorem hPut_core {K : hK} {s : State} {args : Array Value} {H : hAH} {Hr : Heap} {a ci f N : Nat} {fs : List Value} {v v0 : Value} {C0 own : String} {T : u_T} {ty0 : Nat → FieldType} (h1 : hHp K H Hr) (hts : ∀ w ∈ hTb, w.before args s = true) (hS : hStat K s) (e : H.2 a = some (.inr (ci, fs))) (hc : vwCl[ci]? = some (C0, T, N)) (hin : ∀ w ∈ u_ws C0 T N, w ∈ hTb) (hty : ∀ k, k < N → parseFieldDescriptor (T k).2.2.1 = some (ty0 k)) (hnm : ∀ a, a < N → ∀ b, b < N → a ≠ b → (T a).2.1 ≠ (T b).2.1) (hf : f < N) (hv : hGetV fs f = some v0) (hfit : hFit (ty0 f) v) :
    ∃ (cell : Cell) (cf fi : Nat) (kf : Class) (fd : Field) (cC : ClassId) (kC : Class), Hr[a]? = some cell ∧ cell.vm = .none ∧ s.fieldFound? (T f).1 (T f).2.1 (T f).2.2.1 = some (cf, kf, fi, fd) ∧ fd.isStatic = false ∧ fd.slot < cell.slots.size ∧ cell.cls = cC ∧ s.vm.findClass C0 = some cC ∧ s.vm.classes[cC]? = some kC ∧ kC.kind = .ordinary ∧ ∀ H1 : Heap, H1[a]? = some (cell.setSlot fd.slot v) → va_at K.2.1 vwCl (a, .inr (ci, hSetV fs f v)) H1 := by
  have hap := va_apart (own := own) hts hin ty0 hty hnm hS.1 hc
  obtain ⟨r, g1, cell, q1, q2, q3, q4⟩ := (h1.2.2 _ _ e).2
  have hr : r = (C0, T, N) := Option.some.inj (g1.symm.trans hc)
  subst hr
  obtain ⟨hSl, hfc, kC, hkC, hkind⟩ := hS.1.1 ci _ hc
  obtain ⟨cf, kf, fi, fd, hi, hsl⟩ := hSl f hf
  have hl : f < fs.length := by
    rw [← hGetV_get] at hv
    exact (List.getElem?_eq_some_iff.mp hv).1
  refine ⟨cell, cf, fi, kf, fd, _, kC, q1, q3, hi, (u_facts hfc hkC (u_lays hts hin hf) hi).1, by rw [hsl]; exact k2_hasslot (q4 f hf), q2, hfc, hkC, hkind, fun H1 e1 => ?_⟩
  rw [hsl] at e1
  rw [← hSetV_set]
  exact ⟨_, hc, t_OB.to (V := updV (vp_V fs) f v) ⟨_, e1, q2, q3, t_set q4 hap hf v⟩ (fun j _ => vp_updV_set hl v j)⟩
theorem ok_putfield {K : hK} {M : hM} {B : Nat × Nat} {Q : hPost} {pc nx ci f idx N : Nat} {C0 : String} {T : u_T} {ty : FieldType} {ty0 : Nat → FieldType} (hty : ∀ k, k < N → parseFieldDescriptor (T k).2.2.1 = some (ty0 k)) (hnm : ∀ a, a < N → ∀ b, b < N → a ≠ b → (T a).2.1 ≠ (T b).2.1) (ht : ty0 f = ty) (hc : vwCl[ci]? = some (C0, T, N)) (hin : ∀ w ∈ u_ws C0 T N, w ∈ hTb) (hf : f < N) (hT : (T f).1 = C0) (hfin : (T f).2.2.2 = false)
    (hw : Cond.fieldLink M.1.cls idx C0 (T f).2.1 (T f).2.2.1 ∈ hTb) (hd : decode M.2.1 pc = .ok (.putfield idx, 3)) (hn : pc + 3 = nx) : hOk (hJ K M B Q) pc (x_putfield nx ci f ty) := by
  intro k hk cu ls st H h
  subst hn; subst ht
  unfold x_putfield at h
  split at h
  · rename_i v a r
    obtain ⟨fs, e, hfit, h⟩ := h
    split at h
    · rename_i v0 hv
      refine Or.inl fun p e' R s m args below meth c QF C Hr locs lsr h1 h2 h3 h4 h5 => ?_
      obtain ⟨cell, cf, fi, kf, fd, cC, kC, a1, a2, a3, a4, a5, a6, a7, a8, a9, a10⟩ := hPut_core (own := M.1.cls) h1 C.2.2.2.2.1 C.2.2.2.2.2.2.1 e hc hin hty hnm hf hv hfit
      have hlay := C.2.2.2.2.1 _ (hin _ (u_in_lay hf))
      unfold u_lay at hlay
      rw [if_neg (by rw [hfin]; decide)] at hlay
      have h6 := u_store a7 a8 a9 hlay a3 (hty f hf) (hFit_ok hfit).1 (hFit_ok hfit).2
      refine W.putK C.1 C.2.1 (f := fd) ⟨C.2.2.2.1, C.2.2.2.2.1 _ hw, ⟨_, _, _, by rw [hT] at a3; exact a3⟩, a4⟩ (by rw [a6]; exact h6) a1 a2 a5 rfl rfl hd fun H1 e1 e2 e3 => ?_
      have u := hUpd.mk H a (.inr (ci, hSetV fs f v))
      exact (hk _ _ _ _ _ (h _ u)).use C (h1.put e u (a10 H1 e1) e2 e3) (h2.put e2 e3 (h1.2.2 _ _ e).1) h3 h4 h5
    · exact h.elim
  · exact h.elim
theorem ok_putfieldN {K : hK} {M : hM} {B : Nat × Nat} {Q : hPost} {pc nx ci f idx N : Nat} {C0 host : String} {T : u_T} {ty : FieldType} {ty0 : Nat → FieldType} (hty : ∀ k, k < N → parseFieldDescriptor (T k).2.2.1 = some (ty0 k)) (hnm : ∀ a, a < N → ∀ b, b < N → a ≠ b → (T a).2.1 ≠ (T b).2.1) (ht : ty0 f = ty) (hc : vwCl[ci]? = some (C0, T, N)) (hin : ∀ w ∈ u_ws C0 T N, w ∈ hTb) (hf : f < N) (hT : (T f).1 = C0) (hfin : (T f).2.2.2 = false)
    (hw : Cond.fieldLinkNest M.1.cls idx C0 (T f).2.1 (T f).2.2.1 host ∈ tables_1) (hd : decode M.2.1 pc = .ok (.putfield idx, 3)) (hn : pc + 3 = nx) : hOk (hJ K M B Q) pc (x_putfield nx ci f ty) := by
  intro k hk cu ls st H h
  subst hn; subst ht
  unfold x_putfield at h
  split at h
  · rename_i v a r
    obtain ⟨fs, e, hfit, h⟩ := h
    split at h
    · rename_i v0 hv
      refine Or.inl fun p e' R s m args below meth c QF C Hr locs lsr h1 h2 h3 h4 h5 => ?_
      obtain ⟨cell, cf, fi, kf, fd, cC, kC, a1, a2, a3, a4, a5, a6, a7, a8, a9, a10⟩ := hPut_core (own := M.1.cls) h1 C.2.2.2.2.1 C.2.2.2.2.2.2.1 e hc hin hty hnm hf hv hfit
      have hlay := C.2.2.2.2.1 _ (hin _ (u_in_lay hf))
      unfold u_lay at hlay
      rw [if_neg (by rw [hfin]; decide)] at hlay
      have h6 := u_store a7 a8 a9 hlay a3 (hty f hf) (hFit_ok hfit).1 (hFit_ok hfit).2
      refine va_WputK C.1 C.2.1 (f := fd) C.2.2.2.1 (C.nest hw rfl) (by rw [hT] at a3; exact a3) a4 (by rw [a6]; exact h6) a1 a2 a5 rfl rfl hd fun H1 e1 e2 e3 => ?_
      have u := hUpd.mk H a (.inr (ci, hSetV fs f v))
      exact (hk _ _ _ _ _ (h _ u)).use C (h1.put e u (a10 H1 e1) e2 e3) (h2.put e2 e3 (h1.2.2 _ _ e).1) h3 h4 h5
    · exact h.elim
  · exact h.elim
theorem ok_putfieldF {K : hK} {M : hM} {B : Nat × Nat} {Q : hPost} {pc nx ci f idx N : Nat} {C0 : String} {T : u_T} {ty : FieldType} {ty0 : Nat → FieldType} (hty : ∀ k, k < N → parseFieldDescriptor (T k).2.2.1 = some (ty0 k)) (hnm : ∀ a, a < N → ∀ b, b < N → a ≠ b → (T a).2.1 ≠ (T b).2.1) (ht : ty0 f = ty) (hc : vwCl[ci]? = some (C0, T, N)) (hin : ∀ w ∈ u_ws C0 T N, w ∈ hTb) (hf : f < N) (hT : (T f).1 = C0) (hfin : (T f).2.2.2 = true) (hown : M.1.cls = C0) (hini : M.1.name = "<init>")
    (hw : Cond.fieldLink M.1.cls idx C0 (T f).2.1 (T f).2.2.1 ∈ hTb) (hd : decode M.2.1 pc = .ok (.putfield idx, 3)) (hn : pc + 3 = nx) : hOk (hJ K M B Q) pc (x_putfield nx ci f ty) := by
  intro k hk cu ls st H h
  subst hn; subst ht
  unfold x_putfield at h
  split at h
  · rename_i v a r
    obtain ⟨fs, e, hfit, h⟩ := h
    split at h
    · rename_i v0 hv
      refine Or.inl fun p e' R s m args below meth c QF C Hr locs lsr h1 h2 h3 h4 h5 => ?_
      obtain ⟨cell, cf, fi, kf, fd, cC, kC, a1, a2, a3, a4, a5, a6, a7, a8, a9, a10⟩ := hPut_core (own := M.1.cls) h1 C.2.2.2.2.1 C.2.2.2.2.2.2.1 e hc hin hty hnm hf hv hfit
      have hlay := C.2.2.2.2.1 _ (hin _ (u_in_lay hf))
      unfold u_lay at hlay
      rw [if_pos hfin] at hlay
      have hcf : m.cls = cf := by
        obtain ⟨_, _, c', _, _, _, -, -, hf', -, -, -, hown2, -⟩ := Cond.laysFinal_spec hlay
        have e1 : c' = cf := by have := a3.symm.trans hf'; simp at this; exact this.1.symm
        rw [hT, ← hown] at hown2
        rw [← e1]; exact Option.some.inj (C.2.2.2.1.symm.trans hown2)
      have h6 := u_fits a7 a8 a9 (Or.inr hlay) a3 (hty f hf) (hFit_ok hfit).1 (hFit_ok hfit).2
      refine W.putFinK C.1 C.2.1 C.2.2.2.1 (C.2.2.2.2.1 _ hw) (by rw [hT] at a3; exact a3) a4 hcf (C.2.2.2.2.2.1 hini) (by rw [a6]; exact h6) a1 a2 a5 rfl rfl hd fun H1 e1 e2 e3 => ?_
      have u := hUpd.mk H a (.inr (ci, hSetV fs f v))
      exact (hk _ _ _ _ _ (h _ u)).use C (h1.put e u (a10 H1 e1) e2 e3) (h2.put e2 e3 (h1.2.2 _ _ e).1) h3 h4 h5
    · exact h.elim
  · exact h.elim
/-! arrays -/
def hIArr (K : hK) (H : hAH) (a n : Nat) (f : Nat → Int32) : Prop := H.2 a = some (hInts K 0 n f) ∨ K.2.2.2.2.2 a = some (n, f)
def x_iaload (K : hK) (nx : Nat) : hSem := fun k cu ls st H => match st with
  | .int i :: .ref a :: r => ∃ n f j, hIArr K H a n f ∧ i = nI j ∧ j < n ∧ n < 2147483648 ∧ k nx cu ls (.int (f j) :: r) H
  | _ => False
theorem ok_iaload {K : hK} {M : hM} {B : Nat × Nat} {Q : hPost} {pc nx : Nat} (hd : decode M.2.1 pc = .ok (.iaload, 1)) (hn : pc + 1 = nx) : hOk (hJ K M B Q) pc (x_iaload K nx) := by
  intro k hk cu ls st H h
  subst hn
  unfold x_iaload at h
  split at h
  · obtain ⟨n, f, j, ha, rfl, hj, hn, h⟩ := h
    refine Or.inl fun p e R s m args below meth c QF C Hr locs lsr h1 h2 h3 h4 h5 => ?_
    have hcl : (nI j).toNatClampNeg = j := nI_clamp (by omega)
    have kk := (hk _ _ _ _ _ h).use C h1 h2 h3 h4 h5
    rcases ha with ha | ha
    · refine va_iald C.1 C.2.1 C.2.2.2.2.2.2.1.1 (h1.one ha) 0 0 rfl rfl (vp_in_nI hj hn) hd ?_
      rw [hcl]
      exact kk
    · exact va_ti C.1 C.2.1 (C.2.2.2.2.2.2.2.1.1 _ _ _ ha) h2 (vp_in_nI hj hn) (by rw [hcl]) hd kk
  · exact h.elim
def x_caload (K : hK) (nx : Nat) : hSem := fun k cu ls st H => match st with
  | .int i :: .ref a :: r => ∃ n f j, H.2 a = some (hInts K 1 n f) ∧ i = nI j ∧ j < n ∧ n < 2147483648 ∧ k nx cu ls (.int (f j) :: r) H
  | _ => False
theorem ok_caload {K : hK} {M : hM} {B : Nat × Nat} {Q : hPost} {pc nx : Nat} (hd : decode M.2.1 pc = .ok (.caload, 1)) (hn : pc + 1 = nx) : hOk (hJ K M B Q) pc (x_caload K nx) := by
  intro k hk cu ls st H h
  subst hn
  unfold x_caload at h
  split at h
  · obtain ⟨n, f, j, ha, rfl, hj, hn, h⟩ := h
    refine Or.inl fun p e R s m args below meth c QF C Hr locs lsr h1 h2 h3 h4 h5 => ?_
    refine va_cald C.1 C.2.1 C.2.2.2.2.2.2.1.1 (h1.one ha) 0 1 rfl rfl (vp_in_nI hj hn) hd ?_
    rw [nI_clamp (show j < 2 ^ 31 by omega)]
    exact (hk _ _ _ _ _ h).use C h1 h2 h3 h4 h5
  · exact h.elim
def x_baload (K : hK) (nx : Nat) : hSem := fun k cu ls st H => match st with
  | .int i :: .ref a :: r => ∃ n f j, H.2 a = some (hInts K 2 n f) ∧ i = nI j ∧ j < n ∧ n < 2147483648 ∧ k nx cu ls (.int (f j) :: r) H
  | _ => False
theorem ok_baload {K : hK} {M : hM} {B : Nat × Nat} {Q : hPost} {pc nx : Nat} (hd : decode M.2.1 pc = .ok (.baload, 1)) (hn : pc + 1 = nx) : hOk (hJ K M B Q) pc (x_baload K nx) := by
  intro k hk cu ls st H h
  subst hn
  unfold x_baload at h
  split at h
  · obtain ⟨n, f, j, ha, rfl, hj, hn, h⟩ := h
    refine Or.inl fun p e R s m args below meth c QF C Hr locs lsr h1 h2 h3 h4 h5 => ?_
    refine va_zald C.1 C.2.1 C.2.2.2.2.2.2.1.1 (h1.one ha) 0 2 rfl rfl (vp_in_nI hj hn) hd ?_
    rw [nI_clamp (show j < 2 ^ 31 by omega)]
    exact (hk _ _ _ _ _ h).use C h1 h2 h3 h4 h5
  · exact h.elim
def hTc : Nat → Nat
  | 3 => 0
  | _ => 4
def hTn : Nat → String
  | 3 => RX0
  | _ => RX4
def x_aaload (K : hK) (nx t : Nat) : hSem := fun k cu ls st H => match st with
  | .int i :: .ref a :: r => ∃ n f j x, H.2 a = some (hRefs K t n f) ∧ i = nI j ∧ j < n ∧ n < 2147483648 ∧ f j = x ∧ k nx cu ls (va_rf x :: r) H
  | _ => False
theorem ok_aaload {K : hK} {M : hM} {B : Nat × Nat} {Q : hPost} {pc nx t : Nat} (ht : t = 3 ∨ t = 4) (hd : decode M.2.1 pc = .ok (.aaload, 1)) (hn : pc + 1 = nx) : hOk (hJ K M B Q) pc (x_aaload K nx t) := by
  intro k hk cu ls st H h
  subst hn
  unfold x_aaload at h
  split at h
  · obtain ⟨n, f, j, x, ha, rfl, hj, hn, rfl, h⟩ := h
    refine Or.inl fun p e R s m args below meth c QF C Hr locs lsr h1 h2 h3 h4 h5 => ?_
    have kk := (hk _ _ _ _ _ h).use C h1 h2 h3 h4 h5
    rw [← nI_clamp (show j < 2 ^ 31 by omega)] at kk
    rcases ht with rfl | rfl
    · exact va_aldq C.1 C.2.1 C.2.2.2.2.2.2.1.1 (h1.one ha) 0 3 rfl rfl (vp_in_nI hj hn) hd kk
    · exact va_aldq C.1 C.2.1 C.2.2.2.2.2.2.1.1 (h1.one ha) 0 4 rfl rfl (vp_in_nI hj hn) hd kk
  · exact h.elim
theorem hArr_in {j n : Nat} {cA : ClassId} {f : Nat → Value} (hj : j < n) (hn : n < 2147483648) : ¬ (nI j < 0 ∨ (arrV cA n f).slots.size ≤ (nI j).toNatClampNeg) := by
  rw [arrV_size]
  exact vp_in_nI hj hn
theorem hCell_i (K : hK) (t n : Nat) (f : Nat → Int32) (j : Nat) (x y : Int32) (hy : y = x) : (arrV (K.2.2.1 t) n (fun q => .int (f q))).setSlot j (.int x) = arrV (K.2.2.1 t) n (fun q => .int (upd f j y q)) := by
  subst hy
  rw [arrV_store]
  congr 1
  funext q
  by_cases hq : q = j
  · subst hq; simp [updV, upd]
  · simp [updV, upd, hq]
def x_iastore (K : hK) (nx : Nat) : hSem := fun k cu ls st H => match st with
  | .int x :: .int i :: .ref a :: r => ∃ n f j, H.2 a = some (hInts K 0 n f) ∧ i = nI j ∧ j < n ∧ n < 2147483648 ∧ ∀ H', hUpd H a (hInts K 0 n (upd f j x)) H' → k nx cu ls r H'
  | _ => False
theorem ok_iastore {K : hK} {M : hM} {B : Nat × Nat} {Q : hPost} {pc nx : Nat} (hd : decode M.2.1 pc = .ok (.iastore, 1)) (hn : pc + 1 = nx) : hOk (hJ K M B Q) pc (x_iastore K nx) := by
  intro k hk cu ls st H h
  subst hn
  unfold x_iastore at h
  split at h
  · rename_i x _ a r
    obtain ⟨n, f, j, ha, rfl, hj, hn, h⟩ := h
    refine Or.inl fun p e R s m args below meth c QF C Hr locs lsr h1 h2 h3 h4 h5 => ?_
    refine W.iast C.1 C.2.1 (h1.2.2 _ _ ha).2 ((C.2.2.2.2.2.2.1.1.2 0 _ rfl).1 n (fun q => .int (f q))) (fun q => by cases q) (hArr_in hj hn) rfl rfl hd fun H1 e1 z oq => ?_
    rw [nI_clamp (show j < 2 ^ 31 by omega)] at e1 ⊢
    have u := hUpd.mk H a (hInts K 0 n (upd f j x))
    refine (hk _ _ _ _ _ (h _ u)).use C (h1.put ha u ?_ z oq) (h2.put z oq (h1.2.2 _ _ ha).1) h3 h4 h5
    exact e1.trans (congrArg some (hCell_i K 0 n f j x x rfl))
  · exact h.elim
def x_castore (K : hK) (nx : Nat) : hSem := fun k cu ls st H => match st with
  | .int x :: .int i :: .ref a :: r => ∃ n f j, H.2 a = some (hInts K 1 n f) ∧ i = nI j ∧ j < n ∧ n < 2147483648 ∧ ∀ H', hUpd H a (hInts K 1 n (upd f j (vp_nar .char x))) H' → k nx cu ls r H'
  | _ => False
theorem ok_castore {K : hK} {M : hM} {B : Nat × Nat} {Q : hPost} {pc nx : Nat} (hd : decode M.2.1 pc = .ok (.castore, 1)) (hn : pc + 1 = nx) : hOk (hJ K M B Q) pc (x_castore K nx) := by
  intro k hk cu ls st H h
  subst hn
  unfold x_castore at h
  split at h
  · rename_i x _ a r
    obtain ⟨n, f, j, ha, rfl, hj, hn, h⟩ := h
    refine Or.inl fun p e R s m args below meth c QF C Hr locs lsr h1 h2 h3 h4 h5 => ?_
    refine W.cast C.1 C.2.1 (h1.2.2 _ _ ha).2 ((C.2.2.2.2.2.2.1.1.2 1 _ rfl).1 n (fun q => .int (f q))) (fun q => by cases q) (hArr_in hj hn) rfl rfl hd fun H1 e1 z oq => ?_
    rw [nI_clamp (show j < 2 ^ 31 by omega)] at e1 ⊢
    have u := hUpd.mk H a (hInts K 1 n (upd f j (vp_nar .char x)))
    refine (hk _ _ _ _ _ (h _ u)).use C (h1.put ha u ?_ z oq) (h2.put z oq (h1.2.2 _ _ ha).1) h3 h4 h5
    exact e1.trans (congrArg some (hCell_i K 1 n f j _ _ rfl))
  · exact h.elim
def x_bastore (K : hK) (nx : Nat) : hSem := fun k cu ls st H => match st with
  | .int x :: .int i :: .ref a :: r => ∃ n f j, H.2 a = some (hInts K 2 n f) ∧ i = nI j ∧ j < n ∧ n < 2147483648 ∧ ∀ H', hUpd H a (hInts K 2 n (upd f j (vp_nar .boolean x))) H' → k nx cu ls r H'
  | _ => False
theorem ok_bastore {K : hK} {M : hM} {B : Nat × Nat} {Q : hPost} {pc nx : Nat} (hd : decode M.2.1 pc = .ok (.bastore, 1)) (hn : pc + 1 = nx) : hOk (hJ K M B Q) pc (x_bastore K nx) := by
  intro k hk cu ls st H h
  subst hn
  unfold x_bastore at h
  split at h
  · rename_i x _ a r
    obtain ⟨n, f, j, ha, rfl, hj, hn, h⟩ := h
    refine Or.inl fun p e R s m args below meth c QF C Hr locs lsr h1 h2 h3 h4 h5 => ?_
    refine W.zast C.1 C.2.1 (h1.2.2 _ _ ha).2 ((C.2.2.2.2.2.2.1.1.2 2 _ rfl).1 n (fun q => .int (f q))) (fun q => by cases q) (hArr_in hj hn) rfl rfl hd fun H1 e1 z oq => ?_
    rw [nI_clamp (show j < 2 ^ 31 by omega)] at e1 ⊢
    have u := hUpd.mk H a (hInts K 2 n (upd f j (vp_nar .boolean x)))
    refine (hk _ _ _ _ _ (h _ u)).use C (h1.put ha u ?_ z oq) (h2.put z oq (h1.2.2 _ _ ha).1) h3 h4 h5
    exact e1.trans (congrArg some (hCell_i K 2 n f j _ _ rfl))
  · exact h.elim
def x_aastore (K : hK) (nx t : Nat) : hSem := fun k cu ls st H => match st with
  | .ref v :: .int i :: .ref a :: r => ∃ n f j vs, H.2 a = some (hRefs K t n f) ∧ H.2 v = some (.inr (hTc t, vs)) ∧ i = nI j ∧ j < n ∧ n < 2147483648 ∧ ∀ H', hUpd H a (hRefs K t n (va_up f j (some v))) H' → k nx cu ls r H'
  | _ => False
theorem ok_aastore {K : hK} {M : hM} {B : Nat × Nat} {Q : hPost} {pc nx t : Nat} (ht : t = 3 ∨ t = 4) (hd : decode M.2.1 pc = .ok (.aastore, 1)) (hn : pc + 1 = nx) : hOk (hJ K M B Q) pc (x_aastore K nx t) := by
  intro k hk cu ls st H h
  subst hn
  unfold x_aastore at h
  split at h
  · rename_i v _ a r
    obtain ⟨n, f, j, vs, ha, hv, rfl, hj, hn, h⟩ := h
    refine Or.inl fun p e R s m args below meth c QF C Hr locs lsr h1 h2 h3 h4 h5 => ?_
    have key : ∃ (ci : Nat) (r0 : vw_C), hTc t = ci ∧ vwCl[ci]? = some r0 ∧ (hTys K)[t]? = some (K.2.2.1 t, .object r0.1) := by
      rcases ht with rfl | rfl
      · exact ⟨0, _, rfl, rfl, rfl⟩
      · exact ⟨4, _, rfl, rfl, rfl⟩
    obtain ⟨ci, r0, hci, hc, hty⟩ := key
    rw [hci] at hv
    obtain ⟨r', hr', cellV, g1, g2, g3, -⟩ := (h1.2.2 _ _ hv).2
    have hK := C.2.2.2.2.2.2.1.1
    have hcls := (hK.1 ci r0 hc).2
    obtain ⟨kA, comp, k1, k2, k3, -⟩ := (hK.2 t _ hty).2
    have hcomp : comp = K.2.1.1 ci := Option.some.inj (k3.symm.trans hcls.1)
    subst hcomp
    obtain ⟨kC, hkC, -⟩ := hcls.2
    have hcl : (nI j).toNatClampNeg = j := nI_clamp (show j < 2 ^ 31 by omega)
    have hin := hArr_in (cA := K.2.2.1 t) (f := fun q => va_rf (f q)) hj hn
    refine W.aast C.1 C.2.1 (h1.2.2 _ _ ha).2 (fun q h => by cases h) (fun h => by cases h) k1 k2 rfl hkC ⟨fun q => hin (Or.inl q), Nat.not_le.mp fun q => hin (Or.inr q)⟩ g1 (fun q h => by rw [g3] at h; cases h) (by rw [g2]; exact hkC) (by rw [g2]; exact va_assign hcls) rfl rfl hd fun H1 e1 z oq => ?_
    rw [hcl] at e1 ⊢
    have u := hUpd.mk H a (hRefs K t n (va_up f j (some v)))
    refine (hk _ _ _ _ _ (h _ u)).use C (h1.put ha u ?_ z oq) (h2.put z oq (h1.2.2 _ _ ha).1) h3 h4 h5
    refine e1.trans (congrArg some ?_)
    show (vp_cell (K.2.2.1 t) (n, .inr (.inr (.inr (.inr f))))).setSlot j (.ref v) = vp_cell (K.2.2.1 t) (n, .inr (.inr (.inr (.inr (va_up f j (some v))))))
    rw [vp_cell_q, vp_cell_q, arrV_store]
    congr 1
    funext q
    by_cases hq : q = j
    · subst hq
      simp [updV, va_up, va_rf]
    · simp [updV, va_up, hq]
  · exact h.elim
def x_alen (K : hK) (nx : Nat) : hSem := fun k cu ls st H => match st with
  | .ref a :: r => ∃ n, ((∃ t c, t < 5 ∧ H.2 a = some (.inl (K.2.2.1 t, n, c))) ∨ ∃ f, K.2.2.2.2.2 a = some (n, f)) ∧ k nx cu ls (.int (nI n) :: r) H
  | _ => False
theorem ok_alen {K : hK} {M : hM} {B : Nat × Nat} {Q : hPost} {pc nx : Nat} (hd : decode M.2.1 pc = .ok (.arraylength, 1)) (hn : pc + 1 = nx) : hOk (hJ K M B Q) pc (x_alen K nx) := by
  intro k hk cu ls st H h
  subst hn
  unfold x_alen at h
  split at h
  · obtain ⟨n, ha, h⟩ := h
    refine Or.inl fun p e R s m args below meth c QF C Hr locs lsr h1 h2 h3 h4 h5 => ?_
    have kk := (hk _ _ _ _ _ h).use C h1 h2 h3 h4 h5
    rcases ha with ⟨t, c0, ht, ha⟩ | ⟨f, ha⟩
    · have hty : ∃ ty, (hTys K)[t]? = some (K.2.2.1 t, ty) := by
        match t, ht with
        | 0, _ => exact ⟨_, rfl⟩
        | 1, _ => exact ⟨_, rfl⟩
        | 2, _ => exact ⟨_, rfl⟩
        | 3, _ => exact ⟨_, rfl⟩
        | 4, _ => exact ⟨_, rfl⟩
      obtain ⟨ty, hty⟩ := hty
      exact va_alen C.1 C.2.1 C.2.2.2.2.2.2.1.1 (h1.one ha) 0 t rfl hty rfl hd kk
    · exact va_tlen C.1 C.2.1 (C.2.2.2.2.2.2.2.1.1 _ _ _ ha) h2 rfl hd kk
  · exact h.elim
def x_getstatic (K : hK) (nx i : Nat) : hSem := fun k cu ls st H => k nx cu ls (.ref (K.2.2.2.2.1 i) :: st) H
theorem ok_getstatic {K : hK} {M : hM} {B : Nat × Nat} {Q : hPost} {pc nx i idx : Nat} (hi : i < 3) (hw : Cond.fieldLink M.1.cls idx RX5 (hStn i) "[I" ∈ hTb) (hd : decode M.2.1 pc = .ok (.getstatic idx, 3)) (hn : pc + 3 = nx) : hOk (hJ K M B Q) pc (x_getstatic K nx i) := by
  intro k hk cu ls st H h
  subst hn
  refine Or.inl fun p e R s m args below meth c QF C Hr locs lsr h1 h2 h3 h4 h5 => ?_
  exact va_gets C.1 C.2.1 (C.2.2.2.2.2.2.2.1.2 i hi) h2 C.2.2.2.1 (C.2.2.2.2.1 _ hw) (fun _ z => z) hd ((hk _ _ _ _ _ h).use C h1 h2 h3 h4 h5)
theorem ok_getstaticN {K : hK} {M : hM} {B : Nat × Nat} {Q : hPost} {pc nx i idx : Nat} {host : String} (hi : i < 3) (hw : Cond.fieldLinkNest M.1.cls idx RX5 (hStn i) "[I" host ∈ tables_1) (hd : decode M.2.1 pc = .ok (.getstatic idx, 3)) (hn : pc + 3 = nx) : hOk (hJ K M B Q) pc (x_getstatic K nx i) := by
  intro k hk cu ls st H h
  subst hn
  refine Or.inl fun p e R s m args below meth c QF C Hr locs lsr h1 h2 h3 h4 h5 => ?_
  exact va_getsN C.1 C.2.1 (C.2.2.2.2.2.2.2.1.2 i hi) h2 C.2.2.2.1 (C.nest hw rfl) (fun _ z => z) hd ((hk _ _ _ _ _ h).use C h1 h2 h3 h4 h5)
end
section
/-! allocation, contracts, calls -/
theorem va_S.new {A : Nat → Prop} {H0 H H1 : Heap} {locs : List Loc} (h : va_S A H0 H locs) (z : H1.size = H.size + 1) (o : ∀ q : Nat, q < H.size → H1[q]? = H[q]?) : va_S A H0 H1 locs :=
  ⟨Nat.le_trans h.1 (by omega), fun x h1 h2 => (o x (Nat.lt_of_lt_of_le h1 h.1)).trans (h.2.1 x h1 h2), h.2.2⟩
def hArrT : Nat → ArrayType
  | 0 => .int
  | 1 => .char
  | _ => .boolean
def x_newarray (K : hK) (B : Nat × Nat) (nx t : Nat) : hSem := fun k cu ls st H => match st with
  | .int i :: r => ∃ n, i = nI n ∧ n ≤ 1000000 ∧ cu.1 + 1 ≤ B.1 ∧ cu.2 + n ≤ B.2 ∧ ∀ H', hNew H (hInts K t n (fun _ => 0)) H' → k nx (cu.1 + 1, cu.2 + n) ls (.ref H.1 :: r) H'
  | _ => False
theorem ok_newarray {K : hK} {M : hM} {B : Nat × Nat} {Q : hPost} {pc nx t : Nat} (ht : t = 0 ∨ t = 1 ∨ t = 2) (hw : Cond.arrayClass (hTyOf t) ∈ hTb) (hd : decode M.2.1 pc = .ok (.newarray (hArrT t), 2)) (hn : pc + 2 = nx) : hOk (hJ K M B Q) pc (x_newarray K B nx t) := by
  intro k hk cu ls st H h
  subst hn
  unfold x_newarray at h
  split at h
  · rename_i i0 r0
    obtain ⟨n, rfl, hn, c1, c2, h⟩ := h
    refine Or.inl fun p e R s m args below meth c QF C Hr locs lsr h1 h2 h3 h4 h5 => ?_
    have b1 := C.2.2.2.2.2.2.2.2.2.1
    have hcl : (nI n).toNatClampNeg = n := nI_clamp (by omega)
    have key : ∀ (at_ : ArrayType), newarray.typeOf at_ = hTyOf t → defaultValue (hTyOf t) = .int 0 → (hTys K)[t]? = some (K.2.2.1 t, hTyOf t) → va_RA s (K.2.2.1 t) (hTyOf t) = (s.vm.findClass ("[" ++ (hTyOf t).toString) = some (K.2.2.1 t)) → componentBytes (hTyOf t) ≤ 8 → decode M.2.1 pc = .ok (.newarray at_, 2) → W p K.1 e R s m args below meth c Hr locs cu.1 cu.2 QF (F0 m pc lsr (.int (nI n) :: r0)) := by
      intro at_ e1 e2 e3 e4 e5 e6
      refine va_newaK C.1 C.2.1 (by rw [e1]; exact C.2.2.2.2.1 _ hw) rfl e6 rfl (nI_pos (by omega)) hcl ?_ (Nat.le_trans c1 b1.2.2.1) (Nat.le_trans c2 b1.2.2.2) h1.1 fun H1 cA g1 z o _ hfc => ?_
      · rw [e1]
        calc n * componentBytes (hTyOf t) ≤ n * 8 := Nat.mul_le_mul_left _ e5
          _ ≤ 536870912 := by omega
      · rw [e1] at hfc g1
        have hra := (C.2.2.2.2.2.2.1.1.2 t _ e3).2
        rw [e4] at hra
        have hcA : cA = K.2.2.1 t := Option.some.inj (hfc.symm.trans hra)
        subst hcA
        have u := hNew.mk H (hInts K t n (fun _ => 0))
        have oq : ∀ q : Nat, q < Hr.size → H1[q]? = Hr[q]? := fun q hq => o q (by rw [← h1.1]; exact hq)
        refine (hk _ _ _ _ _ (h _ u)).use C (h1.new u ?_ (by rw [z, h1.1]) oq) (h2.new (by rw [z, h1.1]) oq) h3 c1 c2
        rw [e2] at g1
        exact g1
    rcases ht with rfl | rfl | rfl
    · exact key .int rfl rfl rfl rfl (by decide) hd
    · exact key .char rfl rfl rfl rfl (by decide) hd
    · exact key .boolean rfl rfl rfl rfl (by decide) hd
  · exact h.elim
def x_anewarray (K : hK) (B : Nat × Nat) (nx t : Nat) : hSem := fun k cu ls st H => match st with
  | .int i :: r => ∃ n, i = nI n ∧ n ≤ 1000000 ∧ cu.1 + 1 ≤ B.1 ∧ cu.2 + n ≤ B.2 ∧ ∀ H', hNew H (hRefs K t n (fun _ => none)) H' → k nx (cu.1 + 1, cu.2 + n) ls (.ref H.1 :: r) H'
  | _ => False
theorem ok_anewarray {K : hK} {M : hM} {B : Nat × Nat} {Q : hPost} {pc nx t idx : Nat} (ht : t = 3 ∨ t = 4) (hw : Cond.classLink M.1.cls idx (hTn t) ∈ hTb) (hd : decode M.2.1 pc = .ok (.anewarray idx, 3)) (hn : pc + 3 = nx) : hOk (hJ K M B Q) pc (x_anewarray K B nx t) := by
  intro k hk cu ls st H h
  subst hn
  unfold x_anewarray at h
  split at h
  · obtain ⟨n, rfl, hn, c1, c2, h⟩ := h
    refine Or.inl fun p e R s m args below meth c QF C Hr locs lsr h1 h2 h3 h4 h5 => ?_
    have b1 := C.2.2.2.2.2.2.2.2.2.1
    have hcl : (nI n).toNatClampNeg = n := nI_clamp (by omega)
    have key : va_AO (hTn t) s ∧ (hTys K)[t]? = some (K.2.2.1 t, .object (hTn t)) := by
      rcases ht with rfl | rfl
      · exact ⟨C.2.2.2.2.2.2.1.2.2.1, rfl⟩
      · exact ⟨C.2.2.2.2.2.2.1.2.2.2, rfl⟩
    refine W.anew C.1 C.2.1 C.2.2.2.1 (C.2.2.2.2.1 _ hw) (va_AO.use key.1) rfl hd rfl (nI_pos (by omega)) (by rw [hcl]; omega) (Nat.le_trans c1 b1.2.2.1) (by rw [hcl]; exact Nat.le_trans c2 b1.2.2.2) fun cA kA comp f1 f2 f3 f4 => ?_
    rw [hcl]
    obtain ⟨kA', comp', k1, k2, k3, k4⟩ := (C.2.2.2.2.2.2.1.1.2 t _ key.2).2
    have hcA : cA = K.2.2.1 t := Option.some.inj (f1.symm.trans k4)
    subst hcA
    generalize hH1 : Hr.push ({ cls := K.2.2.1 t, slots := Array.replicate n .null, vm := .none } : Cell) = H1
    have z1 : H1.size = Hr.size + 1 := by rw [← hH1, Array.size_push]
    have e1 : H1[Hr.size]? = some (arrV (K.2.2.1 t) n (fun _ => .null)) := by rw [← hH1, Array.getElem?_push_size, ← arrV_new]
    have o1 : ∀ q : Nat, q < Hr.size → H1[q]? = Hr[q]? := fun q hq => by rw [← hH1, Array.getElem?_push, if_neg (Nat.ne_of_lt hq)]
    have u := hNew.mk H (hRefs K t n (fun _ => none))
    have hfin := (hk _ _ _ _ _ (h _ u)).use C (h1.new u (by rw [h1.1] at e1; exact e1) z1 o1) (h2.new z1 o1) h3 c1 c2
    rw [h1.1]
    exact hfin
  · exact h.elim
def x_new (B : Nat × Nat) (nx ci N : Nat) (fs : List Value) : hSem := fun k cu ls st H => cu.1 + 1 ≤ B.1 ∧ cu.2 + N ≤ B.2 ∧ ∀ H', hNew H (.inr (ci, fs)) H' → k nx (cu.1 + 1, cu.2 + N) ls (.ref H.1 :: st) H'
theorem ok_new {K : hK} {M : hM} {B : Nat × Nat} {Q : hPost} {pc nx ci idx N : Nat} {C0 : String} {T : u_T} {ty0 : Nat → FieldType} {fs : List Value} (hty : ∀ k, k < N → parseFieldDescriptor (T k).2.2.1 = some (ty0 k)) (hc : vwCl[ci]? = some (C0, T, N)) (hin : ∀ w ∈ u_ws C0 T N, w ∈ hTb) (hfs : ∀ j, j < N → defaultValue (ty0 j) = vp_V fs j)
    (hw : Cond.classLink M.1.cls idx C0 ∈ hTb) (hw2 : Cond.instantiable C0 N ∈ hTb) (hw3 : Cond.initialized C0 ∈ hTb) (hd : decode M.2.1 pc = .ok (.new idx, 3)) (hn : pc + 3 = nx) : hOk (hJ K M B Q) pc (x_new B nx ci N fs) := by
  intro k hk cu ls st H h
  subst hn
  obtain ⟨c1, c2, h⟩ := h
  refine Or.inl fun p e R s m args below meth c QF C Hr locs lsr h1 h2 h3 h4 h5 => ?_
  have b1 := C.2.2.2.2.2.2.2.2.2.1
  have hKn := C.2.2.2.2.2.2.1.1.1 ci _ hc
  refine W.newcK C.1 C.2.1 C.2.2.2.1 (C.2.2.2.2.1 _ hw) (C.2.2.2.2.1 _ hw2) (C.2.2.2.2.1 _ hw3) rfl hd (Nat.le_trans c1 b1.2.2.1) (Nat.le_trans c2 b1.2.2.2) hKn.2.1 h1.1 fun H1 kC hkC e1 z1 o1 => ?_
  have u := hNew.mk H (.inr (ci, fs))
  have oq : ∀ q : Nat, q < Hr.size → H1[q]? = Hr[q]? := fun q hq => o1 q (by rw [← h1.1]; exact hq)
  refine (hk _ _ _ _ _ (h _ u)).use C (h1.new u ?_ (by rw [z1, h1.1]) oq) (h2.new (by rw [z1, h1.1]) oq) h3 c1 c2
  exact ⟨_, hc, (u_born ty0 C.2.2.2.2.1 hin hKn hkC e1 hty).to hfs⟩
theorem hLe4_spec {r : hStk} (h : hLe4 r = true) : (r.map fun v => v.category).sum ≤ 8 := by
  have hc : ∀ v : Value, v.category ≤ 2 := fun v => by rcases lv_cat v with h | h <;> omega
  match r, h with
  | [], _ => simp
  | [a], _ => have := hc a; simp; omega
  | [a, b], _ => have := hc a; have := hc b; simp; omega
  | [a, b, d], _ => have := hc a; have := hc b; have := hc d; simp; omega
  | [a, b, d, f], _ => have := hc a; have := hc b; have := hc d; have := hc f; simp; omega
  | a :: b :: d :: f :: g :: t, h => simp [hLe4] at h
/-- Object.<init> -/
def x_objinit (nx : Nat) : hSem := fun k cu ls st H => match st with
  | .ref _ :: r => match hLe4 r with
    | true => k nx cu ls r H
    | false => False
  | _ => False
theorem ok_objinit {K : hK} {M : hM} {B : Nat × Nat} {Q : hPost} {pc nx idx : Nat} (hw : Cond.methodLink M.1.cls idx Lib.objectInit ∈ hTb) (hw2 : Cond.instanceMethod Lib.objectInit ∈ hTb) (hw3 : Cond.code Lib.objectInit ⟨#[0xb1]⟩ 1 none ∈ hTb) (hf : 1 ≤ M.2.2.2.2.1) (hlo : 20 ≤ M.2.2.2.2.2) (hd : decode M.2.1 pc = .ok (.invokespecial idx, 3)) (hn : pc + 3 = nx) : hOk (hJ K M B Q) pc (x_objinit nx) := by
  intro k hk cu ls st H h
  subst hn
  unfold x_objinit at h
  split at h
  · rename_i a0 r
    split at h
    · rename_i hr
      refine Or.inl fun p e R s m args below meth c QF C Hr locs lsr h1 h2 h3 h4 h5 => ?_
      have b1 := C.2.2.2.2.2.2.2.2.2.1
      refine W.objInit C.1 C.2.1 C.2.2.2.1 (C.2.2.2.2.1 _ hw) (C.2.2.2.2.1 _ hw2) (C.2.2.2.2.1 _ hw3) rfl (by rw [C.2.2.1]; exact h3.1) rfl hd (Nat.le_trans hf b1.1) ?_ ((hk _ _ _ _ _ h).use C h1 h2 h3 h4 h5)
      have h6 := lv_room (m := m) (pc := pc) (ls := lsr) (rest := r) (hLe4_spec hr)
      exact Nat.le_trans (Nat.add_le_add_right h6 12) (Nat.le_trans hlo b1.2.1)
    · exact h.elim
  · exact h.elim
/-- a method's contract: from this heap, with these arguments, it comes back with an answer and a heap of which Q says what is said; at most mc cells of ms slots are new -/
def hCT (K : hK) (M : hM) (av : List Value) (H : hAH) (mc ms : Nat) (Q : hPost) : Prop :=
  Met K.1 M.1 (hWs M) { frames := M.2.2.2.2.1, cells := mc, slots := ms, locals := M.2.2.2.2.2 } (va_Pc av (fun U => hPre K H U)) (fun _ st oc t => (∃ r H', oc = .returned r ∧ Q r H' ∧ hHp K H' t.heap) ∧ va_F (hA K) st t) mc ms (hA K)
theorem hStat.warm {K : hK} {s U : State} (hW : s.WarmedH U.vm) (h : hStat K s) : hStat K U := by
  refine ⟨h.1.moved hW.alike, fun w hw hn => ?_, h.2.2.1.moved hW.alike, h.2.2.2.moved hW.alike⟩
  have h1 := h.2.1 w hw hn
  cases w with
  | fieldLinkNest => exact va_Nw.warmF hW h1
  | methodLinkNest => exact va_Nw.warmM hW h1
  | _ => cases hn
theorem hRo.warm {K : hK} {s U : State} {Hr : Heap} {locs : List Loc} (hW : s.WarmedH U.vm) (hU : U.heap = Hr) (hS : va_S (hA K) s.heap Hr locs) (h : hRo K s s.heap) : hRo K U U.heap :=
  ⟨fun t n f e => ((h.1 t n f e).moved hW.alike).kept (fun a h1 h2 => by rw [hU]; exact hS.2.1 a h1 h2), fun i hi => ((h.2 i hi).moved hW.alike).kept (fun a h1 h2 => by rw [hU]; exact hS.2.1 a h1 h2)⟩
theorem hPre.calling {K : hK} {H : hAH} {U : State} {g : JFrame} {mk : MethodId} {a : Array Value} (h : hPre K H U) : hPre K H (U.calling g mk a) := by
  refine ⟨h.1, ⟨va_K.moved (u := U) (U := U.calling g mk a) (Vm.Alike.refl U.vm) h.2.1.1, fun w hw hn => ?_, va_AO.moved (u := U) (U := U.calling g mk a) (Vm.Alike.refl U.vm) h.2.1.2.2.1, va_AO.moved (u := U) (U := U.calling g mk a) (Vm.Alike.refl U.vm) h.2.1.2.2.2⟩, fun t n f e => va_T.moved (u := U) (U := U.calling g mk a) (Vm.Alike.refl U.vm) (h.2.2.1 t n f e), fun i hi => va_Z.moved (u := U) (U := U.calling g mk a) (Vm.Alike.refl U.vm) (h.2.2.2 i hi)⟩
  have h1 := h.2.1.2.1 w hw hn
  cases w with
  | fieldLinkNest => exact va_Nw.same rfl rfl h1
  | methodLinkNest => exact va_Nw.same rfl rfl h1
  | _ => cases hn
theorem hCT.blind {K : hK} {H : hAH} {av : List Value} : FrameBlind (va_Pc av (fun U => hPre K H U)) := fun _ _ _ _ q => ⟨q.1, q.2.calling⟩
/-- behind a call -/
theorem hRun {K : hK} {M : hM} {B : Nat × Nat} {Q Qp : hPost} {p : Program} {e : Env} {R : Room} {s : State} {m : MethodId} {args : Array Value} {below : List Frame} {meth : Method} {c : Code} {QF : State → Prop} (C : hCtx K M B Q p e R s m args below meth c QF) {k : Nat → hCu → hLs → hStk → hAH → Prop} (hk : ∀ pc' cu ls st H, k pc' cu ls st H → hJ K M B Q pc' cu ls st H)
    {pc : Nat} {cu : hCu} {ls : hLs} {st0 r : hStk} {lsr : Array Slot} {Hr : Heap} {locs : List Loc} {mc ms : Nat} (h2 : va_S (hA K) s.heap Hr locs) (h3 : hLv M.2.2.1 ls lsr) (c1 : cu.1 + mc ≤ B.1) (c2 : cu.2 + ms ≤ B.2)
    (hr : va_Run p K.1 e R s m args below meth c Hr locs cu.1 cu.2 mc ms (F0 m pc lsr st0) r (fun st oc t => (∃ v H', oc = .returned v ∧ Qp v H' ∧ hHp K H' t.heap) ∧ va_F (hA K) st t) (hA K))
    (kk : ∀ v H', Qp v H' → k (pc + 3) (cu.1 + mc, cu.2 + ms) ls (hApp v r) H') : W p K.1 e R s m args below meth c Hr locs cu.1 cu.2 QF (F0 m pc lsr st0) := by
  intro T hT X
  obtain ⟨v, st₀, t, T', L, h0, X', hL, e1, e2, ⟨⟨v', H', hv, hp, hb⟩, hz, hkp⟩, stp⟩ := hr T hT X
  cases hv
  rw [h0] at hz hkp
  have hS' : va_S (hA K) s.heap T'.heap (locs ++ L) := ⟨Nat.le_trans h2.1 (by rw [e1]; exact hz), fun q g1 g2 => by rw [e1, hkp q (Nat.lt_of_lt_of_le g1 h2.1) g2]; exact h2.2.1 q g1 g2, fun q hq => by
      rcases List.mem_append.mp hq with h | h
      · exact h2.2.2 q h
      · exact hL q h⟩
  have hW := (hk _ _ _ _ _ (kk v H' hp)).use C (Hr := T'.heap) (by rw [e1]; exact hb) hS' h3 c1 c2
  have hst : v.toList ++ r = hApp v r := by cases v <;> rfl
  rw [hst] at stp
  obtain ⟨t2, a1, b1⟩ := hW T' rfl X'
  exact ⟨t2, stp t2 a1, b1⟩
theorem hPop_spec : ∀ (n : Nat) (st acc av r : List Value), hPop n st acc = some (av, r) → ∃ l : List Value, av = l ++ acc ∧ l.length = n ∧ st = l.reverse ++ r
  | 0, st, acc, av, r, h => by
    simp [hPop] at h
    exact ⟨[], by simp [h.1], rfl, by simp [h.2]⟩
  | n + 1, [], acc, av, r, h => by simp [hPop] at h
  | n + 1, v :: st, acc, av, r, h => by
    simp only [hPop] at h
    obtain ⟨l, h1, h2, h3⟩ := hPop_spec n st (v :: acc) av r h
    exact ⟨l ++ [v], by simp [h1], by simp [h2], by simp [h3]⟩
/-- words of the callee among ours -/
theorem hWs_good {M : hM} {ws : List Cond} (hc : Cond.code M.1 M.2.1 M.2.2.1 M.2.2.2.1 ∈ hTb) (h : ∀ w ∈ ws, w ∈ hTb) : GoodIn hTb (ws ++ hWs M) := hTb_good fun w hw => by
  rcases List.mem_append.mp hw with h1 | h1
  · exact h w h1
  · rcases List.mem_cons.mp h1 with rfl | h2
    · exact hc
    · exact h2
/-- what is decided once of a callee -/
def hCal (M My : hM) (n : Nat) : Prop := Cond.code My.1 My.2.1 My.2.2.1 My.2.2.2.1 ∈ hTb ∧ Cond.initialized My.1.cls ∈ hTb ∧ (My.1.cls ≠ "java/lang/invoke/MethodHandle" ∧ My.1.cls ≠ "java/lang/invoke/VarHandle" ∧ (parseMethodDescriptor My.1.desc).map (fun d => d.parameters.length) = some n) ∧ (My.2.2.2.2.1 + 1 ≤ M.2.2.2.2.1 ∧ 8 + (My.2.2.1 + 11) + My.2.2.2.2.2 ≤ M.2.2.2.2.2)
theorem hCal.room {M My : hM} {n : Nat} {R : Room} (h : hCal M My n) (h1 : M.2.2.2.2.1 ≤ R.frames) (h2 : M.2.2.2.2.2 ≤ R.locals) : My.2.2.2.2.1 + 1 ≤ R.frames ∧ 8 + (My.2.2.1 + 11) + My.2.2.2.2.2 ≤ R.locals := ⟨Nat.le_trans h.2.2.2.1 h1, Nat.le_trans h.2.2.2.2 h2⟩
def x_callS (K : hK) (nx : Nat) (My : hM) (n : Nat) : hSem := fun k cu ls st H => match hPop n st [] with
  | some (av, r) => match hLe4 r with
    | true => ∃ Qc, hCT K My av H 0 0 Qc ∧ ∀ v H', Qc v H' → k nx cu ls (hApp v r) H'
    | false => False
  | none => False
theorem hPreOk {K : hK} {M : hM} {B : Nat × Nat} {Q : hPost} {p : Program} {e : Env} {R : Room} {s : State} {m : MethodId} {args : Array Value} {below : List Frame} {meth : Method} {c : Code} {QF : State → Prop} (C : hCtx K M B Q p e R s m args below meth c QF) {H : hAH} {Hr : Heap} {locs : List Loc} (h1 : hHp K H Hr) (h2 : va_S (hA K) s.heap Hr locs) {av : List Value} : ∀ U : State, U.heap = Hr → s.WarmedH U.vm → va_Pc av (fun U => hPre K H U) av.toArray U :=
  fun _ hU hW => ⟨rfl, by rw [hU]; exact h1, hStat.warm hW C.2.2.2.2.2.2.1, hRo.warm hW hU h2 C.2.2.2.2.2.2.2.1⟩
theorem ok_callS {K : hK} {M : hM} {B : Nat × Nat} {Q : hPost} {pc nx idx n : Nat} {My : hM} (hcal : hCal M My n) (hw : Cond.methodLink M.1.cls idx My.1 ∈ hTb) (hw2 : Cond.static My.1 ∈ hTb) (hd : decode M.2.1 pc = .ok (.invokestatic idx, 3)) (hn : pc + 3 = nx) : hOk (hJ K M B Q) pc (x_callS K nx My n) := by
  intro k hk cu ls st H h
  subst hn
  unfold x_callS at h
  split at h
  · rename_i av r hp
    split at h
    · rename_i hr
      obtain ⟨Qc, hct, h⟩ := h
      obtain ⟨l, hl1, hl2, hl3⟩ := hPop_spec _ _ _ _ _ hp
      rw [List.append_nil] at hl1
      subst hl1
      refine Or.inl fun p e R s m args below meth c QF C Hr locs lsr h1 h2 h3 h4 h5 => ?_
      have b1 := C.2.2.2.2.2.2.2.2.2.1
      refine hRun C hk h2 h3 (mc := 0) (ms := 0) h4 h5 (va_runS (As := av) (rest := r) ⟨C.1, C.2.1, C.2.2.1, C.2.2.2.1, C.2.2.2.2.1⟩ hct (va_cwS n C.2.2.2.2.1 (hWs_good hcal.1 ?_) rfl rfl rfl hcal.2.2.1 (hcal.room b1.1 b1.2.1)) ⟨hCT.blind, hPreOk C h1 h2⟩ rfl hl2 h3.1 hl3 (lv_room (m := m) (pc := pc) (ls := lsr) (rest := r) (hLe4_spec hr)) hd ⟨Nat.le_trans h4 b1.2.2.1, Nat.le_trans h5 b1.2.2.2⟩) h
      intro w hw'
      simp only [List.mem_cons, List.not_mem_nil, or_false] at hw'
      rcases hw' with rfl | rfl | rfl
      · exact hw
      · exact hw2
      · exact hcal.2.1
    · exact h.elim
  · exact h.elim
theorem hNest_good {M : hM} (hc : Cond.code M.1 M.2.1 M.2.2.1 M.2.2.2.1 ∈ hTb) : GoodIn hTb (hWs M) := by
  have := hWs_good (M := M) (ws := []) hc (fun _ h => by cases h)
  simpa using this
theorem ok_callSN {K : hK} {M : hM} {B : Nat × Nat} {Q : hPost} {pc nx idx n : Nat} {My : hM} {host : String} (hcal : hCal M My n) (hw : Cond.methodLinkNest M.1.cls idx My.1 host ∈ tables_1) (hw2 : Cond.static My.1 ∈ hTb) (hd : decode M.2.1 pc = .ok (.invokestatic idx, 3)) (hn : pc + 3 = nx) : hOk (hJ K M B Q) pc (x_callS K nx My n) := by
  intro k hk cu ls st H h
  subst hn
  unfold x_callS at h
  split at h
  · rename_i av r hp
    split at h
    · rename_i hr
      obtain ⟨Qc, hct, h⟩ := h
      obtain ⟨l, hl1, hl2, hl3⟩ := hPop_spec _ _ _ _ _ hp
      rw [List.append_nil] at hl1
      subst hl1
      refine Or.inl fun p e R s m args below meth c QF C Hr locs lsr h1 h2 h3 h4 h5 => ?_
      have b1 := C.2.2.2.2.2.2.2.2.2.1
      exact hRun C hk h2 h3 (mc := 0) (ms := 0) h4 h5 (va_runSN (As := av) (rest := r) ⟨C.1, C.2.1, C.2.2.1, C.2.2.2.1, C.2.2.2.2.1⟩ hct ⟨va_cnB n C.2.2.2.2.1 (hNest_good hcal.1) rfl rfl rfl (C.2.2.2.2.2.2.1.2.1 _ hw rfl) (C.2.2.2.2.1 _ hcal.2.1) hcal.2.2.1 (hcal.room b1.1 b1.2.1), C.2.2.2.2.1 _ hw2, trivial⟩ ⟨hCT.blind, hPreOk C h1 h2⟩ rfl hl2 h3.1 hl3 (lv_room (m := m) (pc := pc) (ls := lsr) (rest := r) (hLe4_spec hr)) hd ⟨Nat.le_trans h4 b1.2.2.1, Nat.le_trans h5 b1.2.2.2⟩) h
    · exact h.elim
  · exact h.elim
def x_callV (K : hK) (nx : Nat) (My : hM) (ci n : Nat) : hSem := fun k cu ls st H => match hPop (n + 1) st [] with
  | some (.ref a :: av, r) => match hLe4 r with
    | true => ∃ fs, H.2 a = some (.inr (ci, fs)) ∧ ∃ Qc, hCT K My (.ref a :: av) H 0 0 Qc ∧ ∀ v H', Qc v H' → k nx cu ls (hApp v r) H'
    | false => False
  | _ => False
theorem hPopV {n a : Nat} {st av r : hStk} (h : hPop (n + 1) st [] = some (.ref a :: av, r)) : av.length = n ∧ st = av.reverse ++ .ref a :: r := by
  obtain ⟨l, h1, h2, h3⟩ := hPop_spec _ _ _ _ _ h
  rw [List.append_nil] at h1
  subst h1
  exact ⟨by simpa using h2, by simpa using h3⟩
theorem ok_callV {K : hK} {M : hM} {B : Nat × Nat} {Q : hPost} {pc nx idx n ci : Nat} {My : hM} {q : vw_C} (hcal : hCal M My n) (hc : vwCl[ci]? = some q) (hC : My.1.cls = q.1) (hw : Cond.methodLink M.1.cls idx My.1 ∈ hTb) (hw2 : Cond.instanceMethod My.1 ∈ hTb) (hw3 : Cond.selects My.1.cls My.1 My.1 ∈ hTb) (hd : decode M.2.1 pc = .ok (.invokevirtual idx, 3)) (hn : pc + 3 = nx) : hOk (hJ K M B Q) pc (x_callV K nx My ci n) := by
  intro k hk cu ls st H h
  subst hn
  unfold x_callV at h
  split at h
  · rename_i a av r hp
    split at h
    · rename_i hr
      obtain ⟨fs, e, Qc, hct, h⟩ := h
      obtain ⟨hl2, hl3⟩ := hPopV hp
      refine Or.inl fun p e' R s m args below meth c QF C Hr locs lsr h1 h2 h3 h4 h5 => ?_
      have b1 := C.2.2.2.2.2.2.2.2.2.1
      refine hRun C hk h2 h3 (mc := 0) (ms := 0) h4 h5 (va_runV (C := My.1.cls) (As := av) (rest := r) (b := a) ⟨C.1, C.2.1, C.2.2.1, C.2.2.2.1, C.2.2.2.2.1⟩ hct (cwV n C.2.2.2.2.1 (hWs_good hcal.1 ?_) rfl rfl rfl ⟨rfl, hcal.2.2.1⟩ (hcal.room b1.1 b1.2.1)) ⟨hCT.blind, by rw [hC]; exact va_recv C.2.2.2.2.2.2.1.1 (h1.one e) hc (q0 := 0) rfl, hPreOk C h1 h2⟩ rfl hl2 h3.1 hl3 (lv_room (m := m) (pc := pc) (ls := lsr) (rest := r) (hLe4_spec hr)) hd ⟨Nat.le_trans h4 b1.2.2.1, Nat.le_trans h5 b1.2.2.2⟩) h
      intro w hw'
      simp only [List.mem_cons, List.not_mem_nil, or_false] at hw'
      rcases hw' with rfl | rfl | rfl | rfl
      · exact hw
      · exact hw2
      · exact hw3
      · exact hcal.2.1
    · exact h.elim
  · exact h.elim
theorem ok_callVN {K : hK} {M : hM} {B : Nat × Nat} {Q : hPost} {pc nx idx n ci : Nat} {My : hM} {q : vw_C} {host : String} (hcal : hCal M My n) (hc : vwCl[ci]? = some q) (hC : My.1.cls = q.1) (hw : Cond.methodLinkNest M.1.cls idx My.1 host ∈ tables_1) (hw2 : Cond.instanceMethod My.1 ∈ hTb) (hw3 : Cond.selects My.1.cls My.1 My.1 ∈ hTb) (hd : decode M.2.1 pc = .ok (.invokevirtual idx, 3)) (hn : pc + 3 = nx) : hOk (hJ K M B Q) pc (x_callV K nx My ci n) := by
  intro k hk cu ls st H h
  subst hn
  unfold x_callV at h
  split at h
  · rename_i a av r hp
    split at h
    · rename_i hr
      obtain ⟨fs, e, Qc, hct, h⟩ := h
      obtain ⟨hl2, hl3⟩ := hPopV hp
      refine Or.inl fun p e' R s m args below meth c QF C Hr locs lsr h1 h2 h3 h4 h5 => ?_
      have b1 := C.2.2.2.2.2.2.2.2.2.1
      exact hRun C hk h2 h3 (mc := 0) (ms := 0) h4 h5 (va_runVN (C := My.1.cls) (As := av) (rest := r) (b := a) ⟨C.1, C.2.1, C.2.2.1, C.2.2.2.1, C.2.2.2.2.1⟩ hct ⟨va_cnB n C.2.2.2.2.1 (hNest_good hcal.1) rfl rfl rfl (C.2.2.2.2.2.2.1.2.1 _ hw rfl) (C.2.2.2.2.1 _ hcal.2.1) hcal.2.2.1 (hcal.room b1.1 b1.2.1), C.2.2.2.2.1 _ hw2, C.2.2.2.2.1 _ hw3⟩ ⟨hCT.blind, by rw [hC]; exact va_recv C.2.2.2.2.2.2.1.1 (h1.one e) hc (q0 := 0) rfl, hPreOk C h1 h2⟩ rfl hl2 h3.1 hl3 (lv_room (m := m) (pc := pc) (ls := lsr) (rest := r) (hLe4_spec hr)) hd ⟨Nat.le_trans h4 b1.2.2.1, Nat.le_trans h5 b1.2.2.2⟩) h
    · exact h.elim
  · exact h.elim
/-- a constructor of ours: it makes cells -/
def x_callI (K : hK) (B : Nat × Nat) (nx : Nat) (My : hM) (n : Nat) : hSem := fun k cu ls st H => match hPop (n + 1) st [] with
  | some (.ref a :: av, r) => match hLe4 r with
    | true => ∃ mc ms Qc, hCT K My (.ref a :: av) H mc ms Qc ∧ cu.1 + mc ≤ B.1 ∧ cu.2 + ms ≤ B.2 ∧ ∀ v H', Qc v H' → k nx (cu.1 + mc, cu.2 + ms) ls (hApp v r) H'
    | false => False
  | _ => False
theorem ok_callI {K : hK} {M : hM} {B : Nat × Nat} {Q : hPost} {pc nx idx n : Nat} {My : hM} (hcal : hCal M My n) (hr0 : My.2.2.2.1 = none) (hnm : My.1.name = "<init>") (hw : Cond.methodLink M.1.cls idx My.1 ∈ hTb) (hw2 : Cond.instanceMethod My.1 ∈ hTb) (hd : decode M.2.1 pc = .ok (.invokespecial idx, 3)) (hn : pc + 3 = nx) : hOk (hJ K M B Q) pc (x_callI K B nx My n) := by
  intro k hk cu ls st H h
  subst hn
  unfold x_callI at h
  split at h
  · rename_i a av r hp
    split at h
    · rename_i hr
      obtain ⟨mc, ms, Qc, hct, c1, c2, h⟩ := h
      obtain ⟨hl2, hl3⟩ := hPopV hp
      refine Or.inl fun p e' R s m args below meth c QF C Hr locs lsr h1 h2 h3 h4 h5 => ?_
      have b1 := C.2.2.2.2.2.2.2.2.2.1
      exact hRun C hk h2 h3 c1 c2 (va_runI (As := av) (rest := r) (b := a) ⟨C.1, C.2.1, C.2.2.1, C.2.2.2.1, C.2.2.2.2.1⟩ hct (cwI n C.2.2.2.2.1 (hNest_good hcal.1) (by unfold hWs; rw [hr0]) rfl rfl (C.2.2.2.2.1 _ hcal.2.1) (C.2.2.2.2.1 _ hw) (C.2.2.2.2.1 _ hw2) hnm hcal.2.2.1 (hcal.room b1.1 b1.2.1)) ⟨hCT.blind, hPreOk C h1 h2⟩ rfl hl2 h3.1 hl3 (lv_room (m := m) (pc := pc) (ls := lsr) (rest := r) (hLe4_spec hr)) hd ⟨Nat.le_trans c1 b1.2.2.1, Nat.le_trans c2 b1.2.2.2⟩) h
    · exact h.elim
  · exact h.elim
theorem ok_callIN {K : hK} {M : hM} {B : Nat × Nat} {Q : hPost} {pc nx idx n : Nat} {My : hM} {host : String} (hcal : hCal M My n) (hr0 : My.2.2.2.1 = none) (hnm : My.1.name = "<init>") (hw : Cond.methodLinkNest M.1.cls idx My.1 host ∈ tables_1) (hw2 : Cond.instanceMethod My.1 ∈ hTb) (hd : decode M.2.1 pc = .ok (.invokespecial idx, 3)) (hn : pc + 3 = nx) : hOk (hJ K M B Q) pc (x_callI K B nx My n) := by
  intro k hk cu ls st H h
  subst hn
  unfold x_callI at h
  split at h
  · rename_i a av r hp
    split at h
    · rename_i hr
      obtain ⟨mc, ms, Qc, hct, c1, c2, h⟩ := h
      obtain ⟨hl2, hl3⟩ := hPopV hp
      refine Or.inl fun p e' R s m args below meth c QF C Hr locs lsr h1 h2 h3 h4 h5 => ?_
      have b1 := C.2.2.2.2.2.2.2.2.2.1
      exact hRun C hk h2 h3 c1 c2 (va_runIN (As := av) (rest := r) (b := a) ⟨C.1, C.2.1, C.2.2.1, C.2.2.2.1, C.2.2.2.2.1⟩ hct ⟨va_cnB n C.2.2.2.2.1 (hNest_good hcal.1) (by unfold hWs; rw [hr0]) rfl rfl (C.2.2.2.2.2.2.1.2.1 _ hw rfl) (C.2.2.2.2.1 _ hcal.2.1) hcal.2.2.1 (hcal.room b1.1 b1.2.1), hnm, C.2.2.2.2.1 _ hw2⟩ ⟨hCT.blind, hPreOk C h1 h2⟩ rfl hl2 h3.1 hl3 (lv_room (m := m) (pc := pc) (ls := lsr) (rest := r) (hLe4_spec hr)) hd ⟨Nat.le_trans c1 b1.2.2.1, Nat.le_trans c2 b1.2.2.2⟩) h
    · exact h.elim
  · exact h.elim
/-- a contract out of a walk -/
theorem hCT.mk {K : hK} {M : hM} {av : List Value} {H : hAH} {mc ms : Nat} {Q : hPost} (hy : plainName M.1.cls = true) (hav : ∀ w ∈ av, w.category = 1) (hlen : (lg_sl av).length ≤ M.2.2.1) (h : hJ K M (mc, ms) Q 0 (0, 0) (hEnt av M.2.2.1) [] H) : hCT K M av H mc ms Q := by
  refine Met.ofW (cc := M.2.1) (maxL := M.2.2.1) (ret := M.2.2.2.1) hy rfl ?_
  intro p e s m args below meth c s₁ B hml hv
  obtain ⟨rfl, h1, h2, h3⟩ := hv
  have hts := atoms_spec (ws := hWs M) B.pre
  have hown : s.vm.findClass M.1.cls = some m.cls := findClass_of_methodNamed B.named
  have hin : meth.name = M.1.name := (name_of_methodNamed B.named B.method).1
  rw [lg_entry_eq]
  have hl := lv_entry av (n := M.2.2.1) hlen
  refine h.use (p := p) (e := e) (s := s) (m := m) (meth := meth) (c := c) ⟨B.exec, B.bytes, hml, hown, fun w hw => hts w (List.mem_cons_of_mem _ hw), fun z => by rw [hin]; exact z, h2, h3, by rw [h1.1]; exact h1.2.1, ⟨Nat.le_refl _, Nat.le_refl _, Nat.le_refl _, Nat.le_refl _⟩, ?_⟩ h1 va_S.rf ⟨hl.1, hl.2.1, fun i v hi => ?_⟩ (Nat.zero_le _) (Nat.zero_le _)
  · intro r H' cu Hr locs lsr pc ins st hI hd g1 g2 hq u1 u2
    rw [B.bytes] at hd
    have hq' : ∀ t : State, t.heap = Hr → s.WarmedH t.vm → ((∃ r' H', Outcome.returned r = .returned r' ∧ Q r' H' ∧ hHp K H' t.heap) ∧ va_F (hA K) s t) := fun t ht _ => ⟨⟨r, H', rfl, hq, by rw [ht]; exact g1⟩, g2.F ht⟩
    refine W.widen (k := mc) (n := ms) u1 u2 ?_
    rcases hI with ⟨rfl, rfl, rfl, hr⟩ | ⟨v, ty, rfl, rfl, rfl, hr, hn⟩ | ⟨v, cn, rfl, rfl, rfl, hr, hv⟩
    · exact W.vret (Qc := fun _ st oc t => (∃ r H', oc = .returned r ∧ Q r H' ∧ hHp K H' t.heap) ∧ va_F (hA K) st t) B.exec B.bytes (B.returns.trans hr) hq' g2.2.2 hd B.notSynchronized
    · exact W.zret (Qc := fun _ st oc t => (∃ r H', oc = .returned r ∧ Q r H' ∧ hHp K H' t.heap) ∧ va_F (hA K) st t) B.exec B.bytes (B.returns.trans hr) hn hq' g2.2.2 hd B.notSynchronized
    · exact W.aret (Qc := fun _ st oc t => (∃ r H', oc = .returned r ∧ Q r H' ∧ hHp K H' t.heap) ∧ va_F (hA K) st t) B.exec B.bytes (B.returns.trans hr) (Or.inl ⟨cn, rfl⟩) hv hq' g2.2.2 hd B.notSynchronized
  · obtain ⟨k1, k2⟩ := hEnt_get av M.2.2.1 0 i v hav hi
    rw [Nat.zero_add] at k1
    exact ⟨hl.2.2 _ k1, k2⟩
theorem hCT.mono {K : hK} {M : hM} {av : List Value} {H : hAH} {mc ms : Nat} {Q Q' : hPost} (h : hCT K M av H mc ms Q) (hq : ∀ r H', Q r H' → Q' r H') : hCT K M av H mc ms Q' :=
  MetFree.mono h (fun _ _ hp => hp) (fun _ _ _ _ ⟨⟨⟨⟨r, H', e, q, hb⟩, hf⟩, hL⟩⟩ => ⟨⟨⟨r, H', e, hq r H' q, hb⟩, hf⟩, hL⟩)
end
section
theorem i_vc : Claimed_1_1 ∧ Claimed_1_2 := sorry
end
