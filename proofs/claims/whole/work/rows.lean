section
-- ===== PART A: goes FIRST, ahead of the names: the tables' words, and 'selects' of the private methods out of them =====
/-- a private method of a class that the tables say can be made, by its rows of tables_1 -/
def lw_okq (q : MethodName × Nat) : Prop := (q.1.cls ≠ "java/lang/invoke/MethodHandle" ∧ q.1.cls ≠ "java/lang/invoke/VarHandle") ∧ Cond.instantiable q.1.cls q.2 ∈ tables_1 ∧ Cond.privateMethod q.1 ∈ tables_1 ∧ Cond.instanceMethod q.1 ∈ tables_1
theorem lw_p0 : lw_okq (⟨"StableParty$History", "record", "(LStableParty$State;)V"⟩, 2) := ⟨⟨by decide +kernel, by decide +kernel⟩, List.mem_of_getElem? (i := 117) (by decide +kernel), List.mem_of_getElem? (i := 229) (by decide +kernel), List.mem_of_getElem? (i := 230) (by decide +kernel)⟩
theorem lw_p1 : lw_okq (⟨"StableParty$History", "moveOldestBehind", "()V"⟩, 2) := ⟨⟨by decide +kernel, by decide +kernel⟩, List.mem_of_getElem? (i := 117) (by decide +kernel), List.mem_of_getElem? (i := 233) (by decide +kernel), List.mem_of_getElem? (i := 234) (by decide +kernel)⟩
theorem lw_p2 : lw_okq (⟨"StableParty$History", "at", "(I)LStableParty$State;"⟩, 2) := ⟨⟨by decide +kernel, by decide +kernel⟩, List.mem_of_getElem? (i := 117) (by decide +kernel), List.mem_of_getElem? (i := 237) (by decide +kernel), List.mem_of_getElem? (i := 238) (by decide +kernel)⟩
theorem lw_p3 : lw_okq (⟨"StableParty$State", "copyFrom", "(LStableParty$State;)V"⟩, 10) := ⟨⟨by decide +kernel, by decide +kernel⟩, List.mem_of_getElem? (i := 18) (by decide +kernel), List.mem_of_getElem? (i := 241) (by decide +kernel), List.mem_of_getElem? (i := 242) (by decide +kernel)⟩
theorem lw_p4 : lw_okq (⟨"StableParty$State", "find", "(I)LStableParty$Guest;"⟩, 10) := ⟨⟨by decide +kernel, by decide +kernel⟩, List.mem_of_getElem? (i := 18) (by decide +kernel), List.mem_of_getElem? (i := 245) (by decide +kernel), List.mem_of_getElem? (i := 246) (by decide +kernel)⟩
theorem lw_p5 : lw_okq (⟨"StableParty$Guest", "copyFrom", "(LStableParty$Guest;)V"⟩, 10) := ⟨⟨by decide +kernel, by decide +kernel⟩, List.mem_of_getElem? (i := 25) (by decide +kernel), List.mem_of_getElem? (i := 249) (by decide +kernel), List.mem_of_getElem? (i := 250) (by decide +kernel)⟩
theorem lw_p6 : lw_okq (⟨"StableParty$Guest", "copyCondition", "(I[II)V"⟩, 10) := ⟨⟨by decide +kernel, by decide +kernel⟩, List.mem_of_getElem? (i := 25) (by decide +kernel), List.mem_of_getElem? (i := 253) (by decide +kernel), List.mem_of_getElem? (i := 254) (by decide +kernel)⟩
theorem lw_p7 : lw_okq (⟨"StableParty$State", "add", "(II)I"⟩, 10) := ⟨⟨by decide +kernel, by decide +kernel⟩, List.mem_of_getElem? (i := 18) (by decide +kernel), List.mem_of_getElem? (i := 257) (by decide +kernel), List.mem_of_getElem? (i := 258) (by decide +kernel)⟩
theorem lw_p8 : lw_okq (⟨"StableParty$Guest", "begin", "(II)V"⟩, 10) := ⟨⟨by decide +kernel, by decide +kernel⟩, List.mem_of_getElem? (i := 25) (by decide +kernel), List.mem_of_getElem? (i := 261) (by decide +kernel), List.mem_of_getElem? (i := 262) (by decide +kernel)⟩
theorem lw_p9 : lw_okq (⟨"StableParty$Reader", "read", "([CI)I"⟩, 7) := ⟨⟨by decide +kernel, by decide +kernel⟩, List.mem_of_getElem? (i := 134) (by decide +kernel), List.mem_of_getElem? (i := 273) (by decide +kernel), List.mem_of_getElem? (i := 274) (by decide +kernel)⟩
theorem lw_p10 : lw_okq (⟨"StableParty$Reader", "accepts", "(C)Z"⟩, 7) := ⟨⟨by decide +kernel, by decide +kernel⟩, List.mem_of_getElem? (i := 134) (by decide +kernel), List.mem_of_getElem? (i := 277) (by decide +kernel), List.mem_of_getElem? (i := 278) (by decide +kernel)⟩
theorem lw_p11 : lw_okq (⟨"StableParty$Reader", "acceptsAtom", "(C)Z"⟩, 7) := ⟨⟨by decide +kernel, by decide +kernel⟩, List.mem_of_getElem? (i := 134) (by decide +kernel), List.mem_of_getElem? (i := 281) (by decide +kernel), List.mem_of_getElem? (i := 282) (by decide +kernel)⟩
theorem lw_p12 : lw_okq (⟨"StableParty$Reader", "opensBracket", "()Z"⟩, 7) := ⟨⟨by decide +kernel, by decide +kernel⟩, List.mem_of_getElem? (i := 134) (by decide +kernel), List.mem_of_getElem? (i := 285) (by decide +kernel), List.mem_of_getElem? (i := 286) (by decide +kernel)⟩
theorem lw_p13 : lw_okq (⟨"StableParty$Reader", "addStep", "(I)V"⟩, 7) := ⟨⟨by decide +kernel, by decide +kernel⟩, List.mem_of_getElem? (i := 134) (by decide +kernel), List.mem_of_getElem? (i := 289) (by decide +kernel), List.mem_of_getElem? (i := 290) (by decide +kernel)⟩
theorem lw_p14 : lw_okq (⟨"StableParty$Reader", "acceptsNumber", "(C)Z"⟩, 7) := ⟨⟨by decide +kernel, by decide +kernel⟩, List.mem_of_getElem? (i := 134) (by decide +kernel), List.mem_of_getElem? (i := 303) (by decide +kernel), List.mem_of_getElem? (i := 304) (by decide +kernel)⟩
theorem lw_p15 : lw_okq (⟨"StableParty$Reader", "acceptsColon", "(C)Z"⟩, 7) := ⟨⟨by decide +kernel, by decide +kernel⟩, List.mem_of_getElem? (i := 134) (by decide +kernel), List.mem_of_getElem? (i := 307) (by decide +kernel), List.mem_of_getElem? (i := 308) (by decide +kernel)⟩
def lw_privs_1 : List (MethodName × Nat) := [(⟨"StableParty$History", "record", "(LStableParty$State;)V"⟩, 2), (⟨"StableParty$History", "moveOldestBehind", "()V"⟩, 2), (⟨"StableParty$History", "at", "(I)LStableParty$State;"⟩, 2), (⟨"StableParty$State", "copyFrom", "(LStableParty$State;)V"⟩, 10), (⟨"StableParty$State", "find", "(I)LStableParty$Guest;"⟩, 10), (⟨"StableParty$Guest", "copyFrom", "(LStableParty$Guest;)V"⟩, 10), (⟨"StableParty$Guest", "copyCondition", "(I[II)V"⟩, 10), (⟨"StableParty$State", "add", "(II)I"⟩, 10), (⟨"StableParty$Guest", "begin", "(II)V"⟩, 10), (⟨"StableParty$Reader", "read", "([CI)I"⟩, 7), (⟨"StableParty$Reader", "accepts", "(C)Z"⟩, 7), (⟨"StableParty$Reader", "acceptsAtom", "(C)Z"⟩, 7), (⟨"StableParty$Reader", "opensBracket", "()Z"⟩, 7), (⟨"StableParty$Reader", "addStep", "(I)V"⟩, 7), (⟨"StableParty$Reader", "acceptsNumber", "(C)Z"⟩, 7), (⟨"StableParty$Reader", "acceptsColon", "(C)Z"⟩, 7)]
theorem lw_r1 : ∀ q ∈ lw_privs_1, lw_okq q := List.forall_mem_cons.mpr ⟨lw_p0, List.forall_mem_cons.mpr ⟨lw_p1, List.forall_mem_cons.mpr ⟨lw_p2, List.forall_mem_cons.mpr ⟨lw_p3, List.forall_mem_cons.mpr ⟨lw_p4, List.forall_mem_cons.mpr ⟨lw_p5, List.forall_mem_cons.mpr ⟨lw_p6, List.forall_mem_cons.mpr ⟨lw_p7, List.forall_mem_cons.mpr ⟨lw_p8, List.forall_mem_cons.mpr ⟨lw_p9, List.forall_mem_cons.mpr ⟨lw_p10, List.forall_mem_cons.mpr ⟨lw_p11, List.forall_mem_cons.mpr ⟨lw_p12, List.forall_mem_cons.mpr ⟨lw_p13, List.forall_mem_cons.mpr ⟨lw_p14, List.forall_mem_cons.mpr ⟨lw_p15, fun _ h => absurd h List.not_mem_nil⟩⟩⟩⟩⟩⟩⟩⟩⟩⟩⟩⟩⟩⟩⟩⟩
theorem lw_p16 : lw_okq (⟨"StableParty$Reader", "acceptsLetter", "(C)Z"⟩, 7) := ⟨⟨by decide +kernel, by decide +kernel⟩, List.mem_of_getElem? (i := 134) (by decide +kernel), List.mem_of_getElem? (i := 311) (by decide +kernel), List.mem_of_getElem? (i := 312) (by decide +kernel)⟩
theorem lw_p17 : lw_okq (⟨"StableParty$Reader", "changeLastStep", "(I)V"⟩, 7) := ⟨⟨by decide +kernel, by decide +kernel⟩, List.mem_of_getElem? (i := 134) (by decide +kernel), List.mem_of_getElem? (i := 315) (by decide +kernel), List.mem_of_getElem? (i := 316) (by decide +kernel)⟩
theorem lw_p18 : lw_okq (⟨"StableParty$Reader", "acceptsBehindAtom", "(C)Z"⟩, 7) := ⟨⟨by decide +kernel, by decide +kernel⟩, List.mem_of_getElem? (i := 134) (by decide +kernel), List.mem_of_getElem? (i := 319) (by decide +kernel), List.mem_of_getElem? (i := 320) (by decide +kernel)⟩
theorem lw_p19 : lw_okq (⟨"StableParty$Reader", "closesBracket", "()Z"⟩, 7) := ⟨⟨by decide +kernel, by decide +kernel⟩, List.mem_of_getElem? (i := 134) (by decide +kernel), List.mem_of_getElem? (i := 323) (by decide +kernel), List.mem_of_getElem? (i := 324) (by decide +kernel)⟩
theorem lw_p20 : lw_okq (⟨"StableParty$Reader", "acceptsSecondDigit", "(C)Z"⟩, 7) := ⟨⟨by decide +kernel, by decide +kernel⟩, List.mem_of_getElem? (i := 134) (by decide +kernel), List.mem_of_getElem? (i := 327) (by decide +kernel), List.mem_of_getElem? (i := 328) (by decide +kernel)⟩
theorem lw_p21 : lw_okq (⟨"StableParty$State", "hasAll", "(I)Z"⟩, 10) := ⟨⟨by decide +kernel, by decide +kernel⟩, List.mem_of_getElem? (i := 18) (by decide +kernel), List.mem_of_getElem? (i := 331) (by decide +kernel), List.mem_of_getElem? (i := 332) (by decide +kernel)⟩
theorem lw_p22 : lw_okq (⟨"StableParty$State", "everybody", "()I"⟩, 10) := ⟨⟨by decide +kernel, by decide +kernel⟩, List.mem_of_getElem? (i := 18) (by decide +kernel), List.mem_of_getElem? (i := 335) (by decide +kernel), List.mem_of_getElem? (i := 336) (by decide +kernel)⟩
theorem lw_p23 : lw_okq (⟨"StableParty$Guest", "takeCondition", "(LStableParty$Reader;)V"⟩, 10) := ⟨⟨by decide +kernel, by decide +kernel⟩, List.mem_of_getElem? (i := 25) (by decide +kernel), List.mem_of_getElem? (i := 341) (by decide +kernel), List.mem_of_getElem? (i := 342) (by decide +kernel)⟩
theorem lw_p24 : lw_okq (⟨"StableParty$State", "chargeIfLate", "(LStableParty$Guest;)V"⟩, 10) := ⟨⟨by decide +kernel, by decide +kernel⟩, List.mem_of_getElem? (i := 18) (by decide +kernel), List.mem_of_getElem? (i := 345) (by decide +kernel), List.mem_of_getElem? (i := 346) (by decide +kernel)⟩
theorem lw_p25 : lw_okq (⟨"StableParty$State", "invitedGuests", "()I"⟩, 10) := ⟨⟨by decide +kernel, by decide +kernel⟩, List.mem_of_getElem? (i := 18) (by decide +kernel), List.mem_of_getElem? (i := 367) (by decide +kernel), List.mem_of_getElem? (i := 368) (by decide +kernel)⟩
theorem lw_p26 : lw_okq (⟨"StableParty", "findChosen", "()I"⟩, 8) := ⟨⟨by decide +kernel, by decide +kernel⟩, List.mem_of_getElem? (i := 10) (by decide +kernel), List.mem_of_getElem? (i := 387) (by decide +kernel), List.mem_of_getElem? (i := 388) (by decide +kernel)⟩
theorem lw_p27 : lw_okq (⟨"StableParty", "findGreatest", "()I"⟩, 8) := ⟨⟨by decide +kernel, by decide +kernel⟩, List.mem_of_getElem? (i := 10) (by decide +kernel), List.mem_of_getElem? (i := 391) (by decide +kernel), List.mem_of_getElem? (i := 392) (by decide +kernel)⟩
theorem lw_p28 : lw_okq (⟨"StableParty$Search", "findGreatest", "(LStableParty$State;II)I"⟩, 7) := ⟨⟨by decide +kernel, by decide +kernel⟩, List.mem_of_getElem? (i := 167) (by decide +kernel), List.mem_of_getElem? (i := 395) (by decide +kernel), List.mem_of_getElem? (i := 396) (by decide +kernel)⟩
theorem lw_p29 : lw_okq (⟨"StableParty$Search", "begin", "(I)V"⟩, 7) := ⟨⟨by decide +kernel, by decide +kernel⟩, List.mem_of_getElem? (i := 167) (by decide +kernel), List.mem_of_getElem? (i := 400) (by decide +kernel), List.mem_of_getElem? (i := 401) (by decide +kernel)⟩
theorem lw_p30 : lw_okq (⟨"StableParty$Search", "sendAway", "(LStableParty$State;III)I"⟩, 7) := ⟨⟨by decide +kernel, by decide +kernel⟩, List.mem_of_getElem? (i := 167) (by decide +kernel), List.mem_of_getElem? (i := 408) (by decide +kernel), List.mem_of_getElem? (i := 409) (by decide +kernel)⟩
theorem lw_p31 : lw_okq (⟨"StableParty$State", "feeOf", "(I)I"⟩, 10) := ⟨⟨by decide +kernel, by decide +kernel⟩, List.mem_of_getElem? (i := 18) (by decide +kernel), List.mem_of_getElem? (i := 413) (by decide +kernel), List.mem_of_getElem? (i := 414) (by decide +kernel)⟩
def lw_privs_2 : List (MethodName × Nat) := [(⟨"StableParty$Reader", "acceptsLetter", "(C)Z"⟩, 7), (⟨"StableParty$Reader", "changeLastStep", "(I)V"⟩, 7), (⟨"StableParty$Reader", "acceptsBehindAtom", "(C)Z"⟩, 7), (⟨"StableParty$Reader", "closesBracket", "()Z"⟩, 7), (⟨"StableParty$Reader", "acceptsSecondDigit", "(C)Z"⟩, 7), (⟨"StableParty$State", "hasAll", "(I)Z"⟩, 10), (⟨"StableParty$State", "everybody", "()I"⟩, 10), (⟨"StableParty$Guest", "takeCondition", "(LStableParty$Reader;)V"⟩, 10), (⟨"StableParty$State", "chargeIfLate", "(LStableParty$Guest;)V"⟩, 10), (⟨"StableParty$State", "invitedGuests", "()I"⟩, 10), (⟨"StableParty", "findChosen", "()I"⟩, 8), (⟨"StableParty", "findGreatest", "()I"⟩, 8), (⟨"StableParty$Search", "findGreatest", "(LStableParty$State;II)I"⟩, 7), (⟨"StableParty$Search", "begin", "(I)V"⟩, 7), (⟨"StableParty$Search", "sendAway", "(LStableParty$State;III)I"⟩, 7), (⟨"StableParty$State", "feeOf", "(I)I"⟩, 10)]
theorem lw_r2 : ∀ q ∈ lw_privs_2, lw_okq q := List.forall_mem_cons.mpr ⟨lw_p16, List.forall_mem_cons.mpr ⟨lw_p17, List.forall_mem_cons.mpr ⟨lw_p18, List.forall_mem_cons.mpr ⟨lw_p19, List.forall_mem_cons.mpr ⟨lw_p20, List.forall_mem_cons.mpr ⟨lw_p21, List.forall_mem_cons.mpr ⟨lw_p22, List.forall_mem_cons.mpr ⟨lw_p23, List.forall_mem_cons.mpr ⟨lw_p24, List.forall_mem_cons.mpr ⟨lw_p25, List.forall_mem_cons.mpr ⟨lw_p26, List.forall_mem_cons.mpr ⟨lw_p27, List.forall_mem_cons.mpr ⟨lw_p28, List.forall_mem_cons.mpr ⟨lw_p29, List.forall_mem_cons.mpr ⟨lw_p30, List.forall_mem_cons.mpr ⟨lw_p31, fun _ h => absurd h List.not_mem_nil⟩⟩⟩⟩⟩⟩⟩⟩⟩⟩⟩⟩⟩⟩⟩⟩
theorem lw_p32 : lw_okq (⟨"StableParty$Guest", "isContentWith", "(I)Z"⟩, 10) := ⟨⟨by decide +kernel, by decide +kernel⟩, List.mem_of_getElem? (i := 25) (by decide +kernel), List.mem_of_getElem? (i := 419) (by decide +kernel), List.mem_of_getElem? (i := 420) (by decide +kernel)⟩
theorem lw_p33 : lw_okq (⟨"StableParty$Search", "note", "(IIII)V"⟩, 7) := ⟨⟨by decide +kernel, by decide +kernel⟩, List.mem_of_getElem? (i := 167) (by decide +kernel), List.mem_of_getElem? (i := 426) (by decide +kernel), List.mem_of_getElem? (i := 427) (by decide +kernel)⟩
theorem lw_p34 : lw_okq (⟨"StableParty$State", "bestPart", "(I)I"⟩, 10) := ⟨⟨by decide +kernel, by decide +kernel⟩, List.mem_of_getElem? (i := 18) (by decide +kernel), List.mem_of_getElem? (i := 435) (by decide +kernel), List.mem_of_getElem? (i := 436) (by decide +kernel)⟩
theorem lw_p35 : lw_okq (⟨"StableParty$State", "isBetter", "(II)Z"⟩, 10) := ⟨⟨by decide +kernel, by decide +kernel⟩, List.mem_of_getElem? (i := 18) (by decide +kernel), List.mem_of_getElem? (i := 443) (by decide +kernel), List.mem_of_getElem? (i := 444) (by decide +kernel)⟩
theorem lw_p36 : lw_okq (⟨"StableParty$State", "sumOfWeights", "(I)I"⟩, 10) := ⟨⟨by decide +kernel, by decide +kernel⟩, List.mem_of_getElem? (i := 18) (by decide +kernel), List.mem_of_getElem? (i := 447) (by decide +kernel), List.mem_of_getElem? (i := 448) (by decide +kernel)⟩
theorem lw_p37 : lw_okq (⟨"StableParty$State", "isStable", "(I)Z"⟩, 10) := ⟨⟨by decide +kernel, by decide +kernel⟩, List.mem_of_getElem? (i := 18) (by decide +kernel), List.mem_of_getElem? (i := 452) (by decide +kernel), List.mem_of_getElem? (i := 453) (by decide +kernel)⟩
theorem lw_p38 : lw_okq (⟨"StableParty$State", "fixCompany", "(I)I"⟩, 10) := ⟨⟨by decide +kernel, by decide +kernel⟩, List.mem_of_getElem? (i := 18) (by decide +kernel), List.mem_of_getElem? (i := 458) (by decide +kernel), List.mem_of_getElem? (i := 459) (by decide +kernel)⟩
theorem lw_p39 : lw_okq (⟨"StableParty$State", "letCancel", "(I)I"⟩, 10) := ⟨⟨by decide +kernel, by decide +kernel⟩, List.mem_of_getElem? (i := 18) (by decide +kernel), List.mem_of_getElem? (i := 466) (by decide +kernel), List.mem_of_getElem? (i := 467) (by decide +kernel)⟩
theorem lw_p40 : lw_okq (⟨"StableParty$State", "letGo", "(II)V"⟩, 10) := ⟨⟨by decide +kernel, by decide +kernel⟩, List.mem_of_getElem? (i := 18) (by decide +kernel), List.mem_of_getElem? (i := 470) (by decide +kernel), List.mem_of_getElem? (i := 471) (by decide +kernel)⟩
theorem lw_p41 : lw_okq (⟨"StableParty$State", "discontent", "()I"⟩, 10) := ⟨⟨by decide +kernel, by decide +kernel⟩, List.mem_of_getElem? (i := 18) (by decide +kernel), List.mem_of_getElem? (i := 474) (by decide +kernel), List.mem_of_getElem? (i := 475) (by decide +kernel)⟩
theorem lw_p42 : lw_okq (⟨"StableParty$State", "dissolveCompany", "()I"⟩, 10) := ⟨⟨by decide +kernel, by decide +kernel⟩, List.mem_of_getElem? (i := 18) (by decide +kernel), List.mem_of_getElem? (i := 482) (by decide +kernel), List.mem_of_getElem? (i := 483) (by decide +kernel)⟩
theorem lw_p43 : lw_okq (⟨"StableParty$History", "takeBack", "(LStableParty$State;)V"⟩, 2) := ⟨⟨by decide +kernel, by decide +kernel⟩, List.mem_of_getElem? (i := 117) (by decide +kernel), List.mem_of_getElem? (i := 498) (by decide +kernel), List.mem_of_getElem? (i := 499) (by decide +kernel)⟩
theorem lw_p44 : lw_okq (⟨"StableParty$Guest", "tell", "(I)I"⟩, 10) := ⟨⟨by decide +kernel, by decide +kernel⟩, List.mem_of_getElem? (i := 25) (by decide +kernel), List.mem_of_getElem? (i := 515) (by decide +kernel), List.mem_of_getElem? (i := 516) (by decide +kernel)⟩
theorem lw_p45 : lw_okq (⟨"StableParty$State", "smallestPart", "(I)I"⟩, 10) := ⟨⟨by decide +kernel, by decide +kernel⟩, List.mem_of_getElem? (i := 18) (by decide +kernel), List.mem_of_getElem? (i := 542) (by decide +kernel), List.mem_of_getElem? (i := 543) (by decide +kernel)⟩
theorem lw_p46 : lw_okq (⟨"StableParty$State", "countParts", "(I)I"⟩, 10) := ⟨⟨by decide +kernel, by decide +kernel⟩, List.mem_of_getElem? (i := 18) (by decide +kernel), List.mem_of_getElem? (i := 550) (by decide +kernel), List.mem_of_getElem? (i := 551) (by decide +kernel)⟩
theorem lw_p47 : lw_okq (⟨"StableParty$Search", "tell", "(II)I"⟩, 7) := ⟨⟨by decide +kernel, by decide +kernel⟩, List.mem_of_getElem? (i := 167) (by decide +kernel), List.mem_of_getElem? (i := 558) (by decide +kernel), List.mem_of_getElem? (i := 559) (by decide +kernel)⟩
def lw_privs_3 : List (MethodName × Nat) := [(⟨"StableParty$Guest", "isContentWith", "(I)Z"⟩, 10), (⟨"StableParty$Search", "note", "(IIII)V"⟩, 7), (⟨"StableParty$State", "bestPart", "(I)I"⟩, 10), (⟨"StableParty$State", "isBetter", "(II)Z"⟩, 10), (⟨"StableParty$State", "sumOfWeights", "(I)I"⟩, 10), (⟨"StableParty$State", "isStable", "(I)Z"⟩, 10), (⟨"StableParty$State", "fixCompany", "(I)I"⟩, 10), (⟨"StableParty$State", "letCancel", "(I)I"⟩, 10), (⟨"StableParty$State", "letGo", "(II)V"⟩, 10), (⟨"StableParty$State", "discontent", "()I"⟩, 10), (⟨"StableParty$State", "dissolveCompany", "()I"⟩, 10), (⟨"StableParty$History", "takeBack", "(LStableParty$State;)V"⟩, 2), (⟨"StableParty$Guest", "tell", "(I)I"⟩, 10), (⟨"StableParty$State", "smallestPart", "(I)I"⟩, 10), (⟨"StableParty$State", "countParts", "(I)I"⟩, 10), (⟨"StableParty$Search", "tell", "(II)I"⟩, 7)]
theorem lw_r3 : ∀ q ∈ lw_privs_3, lw_okq q := List.forall_mem_cons.mpr ⟨lw_p32, List.forall_mem_cons.mpr ⟨lw_p33, List.forall_mem_cons.mpr ⟨lw_p34, List.forall_mem_cons.mpr ⟨lw_p35, List.forall_mem_cons.mpr ⟨lw_p36, List.forall_mem_cons.mpr ⟨lw_p37, List.forall_mem_cons.mpr ⟨lw_p38, List.forall_mem_cons.mpr ⟨lw_p39, List.forall_mem_cons.mpr ⟨lw_p40, List.forall_mem_cons.mpr ⟨lw_p41, List.forall_mem_cons.mpr ⟨lw_p42, List.forall_mem_cons.mpr ⟨lw_p43, List.forall_mem_cons.mpr ⟨lw_p44, List.forall_mem_cons.mpr ⟨lw_p45, List.forall_mem_cons.mpr ⟨lw_p46, List.forall_mem_cons.mpr ⟨lw_p47, fun _ h => absurd h List.not_mem_nil⟩⟩⟩⟩⟩⟩⟩⟩⟩⟩⟩⟩⟩⟩⟩⟩
theorem lw_p48 : lw_okq (⟨"StableParty$State", "guestOnSeat", "(I)I"⟩, 10) := ⟨⟨by decide +kernel, by decide +kernel⟩, List.mem_of_getElem? (i := 18) (by decide +kernel), List.mem_of_getElem? (i := 583) (by decide +kernel), List.mem_of_getElem? (i := 584) (by decide +kernel)⟩
theorem lw_p49 : lw_okq (⟨"StableParty$State", "sumOf", "(I)I"⟩, 10) := ⟨⟨by decide +kernel, by decide +kernel⟩, List.mem_of_getElem? (i := 18) (by decide +kernel), List.mem_of_getElem? (i := 591) (by decide +kernel), List.mem_of_getElem? (i := 592) (by decide +kernel)⟩
theorem lw_p50 : lw_okq (⟨"StablePartyModel", "isFixed", "()Z"⟩, 16) := ⟨⟨by decide +kernel, by decide +kernel⟩, List.mem_of_getElem? (i := 596) (by decide +kernel), List.mem_of_getElem? (i := 660) (by decide +kernel), List.mem_of_getElem? (i := 661) (by decide +kernel)⟩
theorem lw_p51 : lw_okq (⟨"StablePartyModel", "record", "()V"⟩, 16) := ⟨⟨by decide +kernel, by decide +kernel⟩, List.mem_of_getElem? (i := 596) (by decide +kernel), List.mem_of_getElem? (i := 664) (by decide +kernel), List.mem_of_getElem? (i := 665) (by decide +kernel)⟩
theorem lw_p52 : lw_okq (⟨"StablePartyModel", "allMeet", "(I)V"⟩, 16) := ⟨⟨by decide +kernel, by decide +kernel⟩, List.mem_of_getElem? (i := 596) (by decide +kernel), List.mem_of_getElem? (i := 671) (by decide +kernel), List.mem_of_getElem? (i := 672) (by decide +kernel)⟩
theorem lw_p53 : lw_okq (⟨"StablePartyModel", "isGuest", "(I)Z"⟩, 16) := ⟨⟨by decide +kernel, by decide +kernel⟩, List.mem_of_getElem? (i := 596) (by decide +kernel), List.mem_of_getElem? (i := 679) (by decide +kernel), List.mem_of_getElem? (i := 680) (by decide +kernel)⟩
theorem lw_p54 : lw_okq (⟨"StablePartyModel", "fault", "()I"⟩, 16) := ⟨⟨by decide +kernel, by decide +kernel⟩, List.mem_of_getElem? (i := 596) (by decide +kernel), List.mem_of_getElem? (i := 683) (by decide +kernel), List.mem_of_getElem? (i := 684) (by decide +kernel)⟩
theorem lw_p55 : lw_okq (⟨"StablePartyModel", "charAt", "(I)I"⟩, 16) := ⟨⟨by decide +kernel, by decide +kernel⟩, List.mem_of_getElem? (i := 596) (by decide +kernel), List.mem_of_getElem? (i := 687) (by decide +kernel), List.mem_of_getElem? (i := 688) (by decide +kernel)⟩
theorem lw_p56 : lw_okq (⟨"StablePartyModel", "overAtom", "()Z"⟩, 16) := ⟨⟨by decide +kernel, by decide +kernel⟩, List.mem_of_getElem? (i := 596) (by decide +kernel), List.mem_of_getElem? (i := 691) (by decide +kernel), List.mem_of_getElem? (i := 692) (by decide +kernel)⟩
theorem lw_p57 : lw_okq (⟨"StablePartyModel", "isLetter", "()Z"⟩, 16) := ⟨⟨by decide +kernel, by decide +kernel⟩, List.mem_of_getElem? (i := 596) (by decide +kernel), List.mem_of_getElem? (i := 695) (by decide +kernel), List.mem_of_getElem? (i := 696) (by decide +kernel)⟩
theorem lw_p58 : lw_okq (⟨"StablePartyModel", "all", "()I"⟩, 16) := ⟨⟨by decide +kernel, by decide +kernel⟩, List.mem_of_getElem? (i := 596) (by decide +kernel), List.mem_of_getElem? (i := 699) (by decide +kernel), List.mem_of_getElem? (i := 700) (by decide +kernel)⟩
theorem lw_p59 : lw_okq (⟨"StablePartyModel", "meets", "(I)Z"⟩, 16) := ⟨⟨by decide +kernel, by decide +kernel⟩, List.mem_of_getElem? (i := 596) (by decide +kernel), List.mem_of_getElem? (i := 703) (by decide +kernel), List.mem_of_getElem? (i := 704) (by decide +kernel)⟩
theorem lw_p60 : lw_okq (⟨"StablePartyModel", "atom", "(II)Z"⟩, 16) := ⟨⟨by decide +kernel, by decide +kernel⟩, List.mem_of_getElem? (i := 596) (by decide +kernel), List.mem_of_getElem? (i := 707) (by decide +kernel), List.mem_of_getElem? (i := 708) (by decide +kernel)⟩
theorem lw_p61 : lw_okq (⟨"StablePartyModel", "charges", "(I)V"⟩, 16) := ⟨⟨by decide +kernel, by decide +kernel⟩, List.mem_of_getElem? (i := 596) (by decide +kernel), List.mem_of_getElem? (i := 717) (by decide +kernel), List.mem_of_getElem? (i := 718) (by decide +kernel)⟩
theorem lw_p62 : lw_okq (⟨"StablePartyModel", "changes", "(II)I"⟩, 16) := ⟨⟨by decide +kernel, by decide +kernel⟩, List.mem_of_getElem? (i := 596) (by decide +kernel), List.mem_of_getElem? (i := 725) (by decide +kernel), List.mem_of_getElem? (i := 726) (by decide +kernel)⟩
theorem lw_p63 : lw_okq (⟨"StablePartyModel", "invited", "()I"⟩, 16) := ⟨⟨by decide +kernel, by decide +kernel⟩, List.mem_of_getElem? (i := 596) (by decide +kernel), List.mem_of_getElem? (i := 737) (by decide +kernel), List.mem_of_getElem? (i := 738) (by decide +kernel)⟩
def lw_privs_4 : List (MethodName × Nat) := [(⟨"StableParty$State", "guestOnSeat", "(I)I"⟩, 10), (⟨"StableParty$State", "sumOf", "(I)I"⟩, 10), (⟨"StablePartyModel", "isFixed", "()Z"⟩, 16), (⟨"StablePartyModel", "record", "()V"⟩, 16), (⟨"StablePartyModel", "allMeet", "(I)V"⟩, 16), (⟨"StablePartyModel", "isGuest", "(I)Z"⟩, 16), (⟨"StablePartyModel", "fault", "()I"⟩, 16), (⟨"StablePartyModel", "charAt", "(I)I"⟩, 16), (⟨"StablePartyModel", "overAtom", "()Z"⟩, 16), (⟨"StablePartyModel", "isLetter", "()Z"⟩, 16), (⟨"StablePartyModel", "all", "()I"⟩, 16), (⟨"StablePartyModel", "meets", "(I)Z"⟩, 16), (⟨"StablePartyModel", "atom", "(II)Z"⟩, 16), (⟨"StablePartyModel", "charges", "(I)V"⟩, 16), (⟨"StablePartyModel", "changes", "(II)I"⟩, 16), (⟨"StablePartyModel", "invited", "()I"⟩, 16)]
theorem lw_r4 : ∀ q ∈ lw_privs_4, lw_okq q := List.forall_mem_cons.mpr ⟨lw_p48, List.forall_mem_cons.mpr ⟨lw_p49, List.forall_mem_cons.mpr ⟨lw_p50, List.forall_mem_cons.mpr ⟨lw_p51, List.forall_mem_cons.mpr ⟨lw_p52, List.forall_mem_cons.mpr ⟨lw_p53, List.forall_mem_cons.mpr ⟨lw_p54, List.forall_mem_cons.mpr ⟨lw_p55, List.forall_mem_cons.mpr ⟨lw_p56, List.forall_mem_cons.mpr ⟨lw_p57, List.forall_mem_cons.mpr ⟨lw_p58, List.forall_mem_cons.mpr ⟨lw_p59, List.forall_mem_cons.mpr ⟨lw_p60, List.forall_mem_cons.mpr ⟨lw_p61, List.forall_mem_cons.mpr ⟨lw_p62, List.forall_mem_cons.mpr ⟨lw_p63, fun _ h => absurd h List.not_mem_nil⟩⟩⟩⟩⟩⟩⟩⟩⟩⟩⟩⟩⟩⟩⟩⟩
theorem lw_p64 : lw_okq (⟨"StablePartyModel", "of", "(II)I"⟩, 16) := ⟨⟨by decide +kernel, by decide +kernel⟩, List.mem_of_getElem? (i := 596) (by decide +kernel), List.mem_of_getElem? (i := 741) (by decide +kernel), List.mem_of_getElem? (i := 742) (by decide +kernel)⟩
theorem lw_p65 : lw_okq (⟨"StablePartyModel", "chosen", "()I"⟩, 16) := ⟨⟨by decide +kernel, by decide +kernel⟩, List.mem_of_getElem? (i := 596) (by decide +kernel), List.mem_of_getElem? (i := 757) (by decide +kernel), List.mem_of_getElem? (i := 758) (by decide +kernel)⟩
theorem lw_p66 : lw_okq (⟨"StablePartyModel", "greatest", "()I"⟩, 16) := ⟨⟨by decide +kernel, by decide +kernel⟩, List.mem_of_getElem? (i := 596) (by decide +kernel), List.mem_of_getElem? (i := 761) (by decide +kernel), List.mem_of_getElem? (i := 762) (by decide +kernel)⟩
theorem lw_p67 : lw_okq (⟨"StablePartyModel", "isMet", "(II)Z"⟩, 16) := ⟨⟨by decide +kernel, by decide +kernel⟩, List.mem_of_getElem? (i := 596) (by decide +kernel), List.mem_of_getElem? (i := 765) (by decide +kernel), List.mem_of_getElem? (i := 766) (by decide +kernel)⟩
theorem lw_p68 : lw_okq (⟨"StablePartyModel", "feeOf", "(I)I"⟩, 16) := ⟨⟨by decide +kernel, by decide +kernel⟩, List.mem_of_getElem? (i := 596) (by decide +kernel), List.mem_of_getElem? (i := 769) (by decide +kernel), List.mem_of_getElem? (i := 770) (by decide +kernel)⟩
theorem lw_p69 : lw_okq (⟨"StablePartyModel", "weights", "(I)I"⟩, 16) := ⟨⟨by decide +kernel, by decide +kernel⟩, List.mem_of_getElem? (i := 596) (by decide +kernel), List.mem_of_getElem? (i := 773) (by decide +kernel), List.mem_of_getElem? (i := 774) (by decide +kernel)⟩
theorem lw_p70 : lw_okq (⟨"StablePartyModel", "isStable", "(I)Z"⟩, 16) := ⟨⟨by decide +kernel, by decide +kernel⟩, List.mem_of_getElem? (i := 596) (by decide +kernel), List.mem_of_getElem? (i := 777) (by decide +kernel), List.mem_of_getElem? (i := 778) (by decide +kernel)⟩
theorem lw_p71 : lw_okq (⟨"StablePartyModel", "isSet", "(I)Z"⟩, 16) := ⟨⟨by decide +kernel, by decide +kernel⟩, List.mem_of_getElem? (i := 596) (by decide +kernel), List.mem_of_getElem? (i := 817) (by decide +kernel), List.mem_of_getElem? (i := 818) (by decide +kernel)⟩
theorem lw_p72 : lw_okq (⟨"StablePartyModel", "smallest", "()I"⟩, 16) := ⟨⟨by decide +kernel, by decide +kernel⟩, List.mem_of_getElem? (i := 596) (by decide +kernel), List.mem_of_getElem? (i := 833) (by decide +kernel), List.mem_of_getElem? (i := 834) (by decide +kernel)⟩
theorem lw_p73 : lw_okq (⟨"StablePartyModel", "backTo", "(I)I"⟩, 16) := ⟨⟨by decide +kernel, by decide +kernel⟩, List.mem_of_getElem? (i := 596) (by decide +kernel), List.mem_of_getElem? (i := 845) (by decide +kernel), List.mem_of_getElem? (i := 846) (by decide +kernel)⟩
def lw_privs_5 : List (MethodName × Nat) := [(⟨"StablePartyModel", "of", "(II)I"⟩, 16), (⟨"StablePartyModel", "chosen", "()I"⟩, 16), (⟨"StablePartyModel", "greatest", "()I"⟩, 16), (⟨"StablePartyModel", "isMet", "(II)Z"⟩, 16), (⟨"StablePartyModel", "feeOf", "(I)I"⟩, 16), (⟨"StablePartyModel", "weights", "(I)I"⟩, 16), (⟨"StablePartyModel", "isStable", "(I)Z"⟩, 16), (⟨"StablePartyModel", "isSet", "(I)Z"⟩, 16), (⟨"StablePartyModel", "smallest", "()I"⟩, 16), (⟨"StablePartyModel", "backTo", "(I)I"⟩, 16)]
theorem lw_r5 : ∀ q ∈ lw_privs_5, lw_okq q := List.forall_mem_cons.mpr ⟨lw_p64, List.forall_mem_cons.mpr ⟨lw_p65, List.forall_mem_cons.mpr ⟨lw_p66, List.forall_mem_cons.mpr ⟨lw_p67, List.forall_mem_cons.mpr ⟨lw_p68, List.forall_mem_cons.mpr ⟨lw_p69, List.forall_mem_cons.mpr ⟨lw_p70, List.forall_mem_cons.mpr ⟨lw_p71, List.forall_mem_cons.mpr ⟨lw_p72, List.forall_mem_cons.mpr ⟨lw_p73, fun _ h => absurd h List.not_mem_nil⟩⟩⟩⟩⟩⟩⟩⟩⟩⟩
def lw_privs : List (MethodName × Nat) := lw_privs_1 ++ (lw_privs_2 ++ (lw_privs_3 ++ (lw_privs_4 ++ (lw_privs_5))))
def lw_tbl : List Cond := k2_sels lw_privs ++ tables_1
theorem lw_privs_ok : ∀ q ∈ lw_privs, lw_okq q := by
  show ∀ q ∈ lw_privs_1 ++ (lw_privs_2 ++ (lw_privs_3 ++ (lw_privs_4 ++ (lw_privs_5)))), lw_okq q
  exact List.forall_mem_append.mpr ⟨lw_r1, List.forall_mem_append.mpr ⟨lw_r2, List.forall_mem_append.mpr ⟨lw_r3, List.forall_mem_append.mpr ⟨lw_r4, lw_r5⟩⟩⟩⟩

def RX0 : String := "StableParty$Guest"
def TX0 : u_T := fun k => match k with
  | 0 => ("StableParty$Guest", "limit", "I", false)
  | 1 => ("StableParty$Guest", "weight", "I", false)
  | 2 => ("StableParty$Guest", "invited", "Z", false)
  | 3 => ("StableParty$Guest", "charges", "I", false)
  | 4 => ("StableParty$Guest", "paid", "I", false)
  | 5 => ("StableParty$Guest", "gotBack", "I", false)
  | 6 => ("StableParty$Guest", "seat", "I", false)
  | 7 => ("StableParty$Guest", "letters", "I", false)
  | 8 => ("StableParty$Guest", "stepCount", "I", false)
  | _ => ("StableParty$Guest", "steps", "[I", true)
def tyX0 : Nat → FieldType := fun k => match k with
  | 0 => .int
  | 1 => .int
  | 2 => .boolean
  | 3 => .int
  | 4 => .int
  | 5 => .int
  | 6 => .int
  | 7 => .int
  | 8 => .int
  | _ => .array .int
theorem nmX0 : ∀ a, a < 10 → ∀ b, b < 10 → a ≠ b → (TX0 a).2.1 ≠ (TX0 b).2.1 := by decide +kernel
theorem tyX0_ok : ∀ k, k < 10 → parseFieldDescriptor (TX0 k).2.2.1 = some (tyX0 k) := by decide +kernel
abbrev cX0_init : ByteArray := prog_2_method_1_code
def yX0_init : MethodName := ⟨RX0, "<init>", "()V"⟩
abbrev cX0_tell : ByteArray := prog_2_method_2_code
def yX0_tell : MethodName := ⟨RX0, "tell", "(I)I"⟩
abbrev cX0_begin : ByteArray := prog_2_method_3_code
def yX0_begin : MethodName := ⟨RX0, "begin", "(II)V"⟩
abbrev cX0_copyFrom : ByteArray := prog_2_method_4_code
def yX0_copyFrom : MethodName := ⟨RX0, "copyFrom", "(LStableParty$Guest;)V"⟩
abbrev cX0_takeCondition : ByteArray := prog_2_method_5_code
def yX0_takeCondition : MethodName := ⟨RX0, "takeCondition", "(LStableParty$Reader;)V"⟩
abbrev cX0_copyCondition : ByteArray := prog_2_method_6_code
def yX0_copyCondition : MethodName := ⟨RX0, "copyCondition", "(I[II)V"⟩
abbrev cX0_isContentWith : ByteArray := prog_2_method_7_code
def yX0_isContentWith : MethodName := ⟨RX0, "isContentWith", "(I)Z"⟩
def RX1 : String := "StableParty$History"
def TX1 : u_T := fun k => match k with
  | 0 => ("StableParty$History", "states", "[LStableParty$State;", true)
  | _ => ("StableParty$History", "size", "I", false)
def tyX1 : Nat → FieldType := fun k => match k with
  | 0 => .array (.object "StableParty$State")
  | _ => .int
theorem nmX1 : ∀ a, a < 2 → ∀ b, b < 2 → a ≠ b → (TX1 a).2.1 ≠ (TX1 b).2.1 := by decide +kernel
theorem tyX1_ok : ∀ k, k < 2 → parseFieldDescriptor (TX1 k).2.2.1 = some (tyX1 k) := by decide +kernel
abbrev cX1_init : ByteArray := prog_3_method_1_code
def yX1_init : MethodName := ⟨RX1, "<init>", "()V"⟩
abbrev cX1_record : ByteArray := prog_3_method_2_code
def yX1_record : MethodName := ⟨RX1, "record", "(LStableParty$State;)V"⟩
abbrev cX1_takeBack : ByteArray := prog_3_method_3_code
def yX1_takeBack : MethodName := ⟨RX1, "takeBack", "(LStableParty$State;)V"⟩
abbrev cX1_moveOldestBehind : ByteArray := prog_3_method_4_code
def yX1_moveOldestBehind : MethodName := ⟨RX1, "moveOldestBehind", "()V"⟩
abbrev cX1_at : ByteArray := prog_3_method_5_code
def yX1_at : MethodName := ⟨RX1, "at", "(I)LStableParty$State;"⟩
def RX2 : String := "StableParty$Reader"
def TX2 : u_T := fun k => match k with
  | 0 => ("StableParty$Reader", "steps", "[I", true)
  | 1 => ("StableParty$Reader", "stepCount", "I", false)
  | 2 => ("StableParty$Reader", "letters", "I", false)
  | 3 => ("StableParty$Reader", "openBrackets", "I", false)
  | 4 => ("StableParty$Reader", "expected", "I", false)
  | 5 => ("StableParty$Reader", "atLeast", "I", false)
  | _ => ("StableParty$Reader", "among", "I", false)
def tyX2 : Nat → FieldType := fun k => match k with
  | 0 => .array .int
  | 1 => .int
  | 2 => .int
  | 3 => .int
  | 4 => .int
  | 5 => .int
  | _ => .int
theorem nmX2 : ∀ a, a < 7 → ∀ b, b < 7 → a ≠ b → (TX2 a).2.1 ≠ (TX2 b).2.1 := by decide +kernel
theorem tyX2_ok : ∀ k, k < 7 → parseFieldDescriptor (TX2 k).2.2.1 = some (tyX2 k) := by decide +kernel
abbrev cX2_init : ByteArray := prog_4_method_1_code
def yX2_init : MethodName := ⟨RX2, "<init>", "()V"⟩
abbrev cX2_read : ByteArray := prog_4_method_2_code
def yX2_read : MethodName := ⟨RX2, "read", "([CI)I"⟩
abbrev cX2_accepts : ByteArray := prog_4_method_3_code
def yX2_accepts : MethodName := ⟨RX2, "accepts", "(C)Z"⟩
abbrev cX2_acceptsAtom : ByteArray := prog_4_method_4_code
def yX2_acceptsAtom : MethodName := ⟨RX2, "acceptsAtom", "(C)Z"⟩
abbrev cX2_opensBracket : ByteArray := prog_4_method_5_code
def yX2_opensBracket : MethodName := ⟨RX2, "opensBracket", "()Z"⟩
abbrev cX2_acceptsNumber : ByteArray := prog_4_method_6_code
def yX2_acceptsNumber : MethodName := ⟨RX2, "acceptsNumber", "(C)Z"⟩
abbrev cX2_acceptsSecondDigit : ByteArray := prog_4_method_7_code
def yX2_acceptsSecondDigit : MethodName := ⟨RX2, "acceptsSecondDigit", "(C)Z"⟩
abbrev cX2_acceptsColon : ByteArray := prog_4_method_8_code
def yX2_acceptsColon : MethodName := ⟨RX2, "acceptsColon", "(C)Z"⟩
abbrev cX2_acceptsLetter : ByteArray := prog_4_method_9_code
def yX2_acceptsLetter : MethodName := ⟨RX2, "acceptsLetter", "(C)Z"⟩
abbrev cX2_acceptsBehindAtom : ByteArray := prog_4_method_10_code
def yX2_acceptsBehindAtom : MethodName := ⟨RX2, "acceptsBehindAtom", "(C)Z"⟩
abbrev cX2_closesBracket : ByteArray := prog_4_method_11_code
def yX2_closesBracket : MethodName := ⟨RX2, "closesBracket", "()Z"⟩
abbrev cX2_isLetter : ByteArray := prog_4_method_12_code
def yX2_isLetter : MethodName := ⟨RX2, "isLetter", "(C)Z"⟩
abbrev cX2_isDigit : ByteArray := prog_4_method_13_code
def yX2_isDigit : MethodName := ⟨RX2, "isDigit", "(CCC)Z"⟩
abbrev cX2_addStep : ByteArray := prog_4_method_14_code
def yX2_addStep : MethodName := ⟨RX2, "addStep", "(I)V"⟩
abbrev cX2_changeLastStep : ByteArray := prog_4_method_15_code
def yX2_changeLastStep : MethodName := ⟨RX2, "changeLastStep", "(I)V"⟩
def RX3 : String := "StableParty$Search"
def TX3 : u_T := fun k => match k with
  | 0 => ("StableParty$Search", "away", "[I", true)
  | 1 => ("StableParty$Search", "lastRound", "I", false)
  | 2 => ("StableParty$Search", "reasons", "[I", true)
  | 3 => ("StableParty$Search", "roundsAway", "[I", true)
  | 4 => ("StableParty$Search", "leadsBackTo", "[I", true)
  | 5 => ("StableParty$Search", "wayLengths", "[I", true)
  | _ => ("StableParty$Search", "wayEnds", "[I", true)
def tyX3 : Nat → FieldType := fun k => match k with
  | 0 => .array .int
  | 1 => .int
  | 2 => .array .int
  | 3 => .array .int
  | 4 => .array .int
  | 5 => .array .int
  | _ => .array .int
theorem nmX3 : ∀ a, a < 7 → ∀ b, b < 7 → a ≠ b → (TX3 a).2.1 ≠ (TX3 b).2.1 := by decide +kernel
theorem tyX3_ok : ∀ k, k < 7 → parseFieldDescriptor (TX3 k).2.2.1 = some (tyX3 k) := by decide +kernel
abbrev cX3_init : ByteArray := prog_5_method_1_code
def yX3_init : MethodName := ⟨RX3, "<init>", "()V"⟩
abbrev cX3_findGreatest : ByteArray := prog_5_method_2_code
def yX3_findGreatest : MethodName := ⟨RX3, "findGreatest", "(LStableParty$State;II)I"⟩
abbrev cX3_begin : ByteArray := prog_5_method_3_code
def yX3_begin : MethodName := ⟨RX3, "begin", "(I)V"⟩
abbrev cX3_sendAway : ByteArray := prog_5_method_4_code
def yX3_sendAway : MethodName := ⟨RX3, "sendAway", "(LStableParty$State;III)I"⟩
abbrev cX3_note : ByteArray := prog_5_method_5_code
def yX3_note : MethodName := ⟨RX3, "note", "(IIII)V"⟩
abbrev cX3_tell : ByteArray := prog_5_method_6_code
def yX3_tell : MethodName := ⟨RX3, "tell", "(II)I"⟩
def RX4 : String := "StableParty$State"
def TX4 : u_T := fun k => match k with
  | 0 => ("StableParty$State", "guests", "[LStableParty$Guest;", true)
  | 1 => ("StableParty$State", "guestCount", "I", false)
  | 2 => ("StableParty$State", "settings", "[I", true)
  | 3 => ("StableParty$State", "day", "I", false)
  | 4 => ("StableParty$State", "fixed", "Z", false)
  | 5 => ("StableParty$State", "left", "I", false)
  | 6 => ("StableParty$State", "paidFee", "I", false)
  | 7 => ("StableParty$State", "fixedSoFar", "I", false)
  | 8 => ("StableParty$State", "cancelledSoFar", "I", false)
  | _ => ("StableParty$State", "followedSoFar", "I", false)
def tyX4 : Nat → FieldType := fun k => match k with
  | 0 => .array (.object "StableParty$Guest")
  | 1 => .int
  | 2 => .array .int
  | 3 => .int
  | 4 => .boolean
  | 5 => .int
  | 6 => .int
  | 7 => .int
  | 8 => .int
  | _ => .int
theorem nmX4 : ∀ a, a < 10 → ∀ b, b < 10 → a ≠ b → (TX4 a).2.1 ≠ (TX4 b).2.1 := by decide +kernel
theorem tyX4_ok : ∀ k, k < 10 → parseFieldDescriptor (TX4 k).2.2.1 = some (tyX4 k) := by decide +kernel
abbrev cX4_init : ByteArray := prog_6_method_1_code
def yX4_init : MethodName := ⟨RX4, "<init>", "()V"⟩
abbrev cX4_copyFrom : ByteArray := prog_6_method_2_code
def yX4_copyFrom : MethodName := ⟨RX4, "copyFrom", "(LStableParty$State;)V"⟩
abbrev cX4_find : ByteArray := prog_6_method_3_code
def yX4_find : MethodName := ⟨RX4, "find", "(I)LStableParty$Guest;"⟩
abbrev cX4_add : ByteArray := prog_6_method_4_code
def yX4_add : MethodName := ⟨RX4, "add", "(II)I"⟩
abbrev cX4_everybody : ByteArray := prog_6_method_5_code
def yX4_everybody : MethodName := ⟨RX4, "everybody", "()I"⟩
abbrev cX4_hasAll : ByteArray := prog_6_method_6_code
def yX4_hasAll : MethodName := ⟨RX4, "hasAll", "(I)Z"⟩
abbrev cX4_invitedGuests : ByteArray := prog_6_method_7_code
def yX4_invitedGuests : MethodName := ⟨RX4, "invitedGuests", "()I"⟩
abbrev cX4_chargeIfLate : ByteArray := prog_6_method_8_code
def yX4_chargeIfLate : MethodName := ⟨RX4, "chargeIfLate", "(LStableParty$Guest;)V"⟩
abbrev cX4_feeOf : ByteArray := prog_6_method_9_code
def yX4_feeOf : MethodName := ⟨RX4, "feeOf", "(I)I"⟩
abbrev cX4_isStable : ByteArray := prog_6_method_10_code
def yX4_isStable : MethodName := ⟨RX4, "isStable", "(I)Z"⟩
abbrev cX4_countParts : ByteArray := prog_6_method_11_code
def yX4_countParts : MethodName := ⟨RX4, "countParts", "(I)I"⟩
abbrev cX4_smallestPart : ByteArray := prog_6_method_12_code
def yX4_smallestPart : MethodName := ⟨RX4, "smallestPart", "(I)I"⟩
abbrev cX4_bestPart : ByteArray := prog_6_method_13_code
def yX4_bestPart : MethodName := ⟨RX4, "bestPart", "(I)I"⟩
abbrev cX4_isBetter : ByteArray := prog_6_method_14_code
def yX4_isBetter : MethodName := ⟨RX4, "isBetter", "(II)Z"⟩
abbrev cX4_sumOfWeights : ByteArray := prog_6_method_15_code
def yX4_sumOfWeights : MethodName := ⟨RX4, "sumOfWeights", "(I)I"⟩
abbrev cX4_sumOf : ByteArray := prog_6_method_16_code
def yX4_sumOf : MethodName := ⟨RX4, "sumOf", "(I)I"⟩
abbrev cX4_guestOnSeat : ByteArray := prog_6_method_17_code
def yX4_guestOnSeat : MethodName := ⟨RX4, "guestOnSeat", "(I)I"⟩
abbrev cX4_fixCompany : ByteArray := prog_6_method_18_code
def yX4_fixCompany : MethodName := ⟨RX4, "fixCompany", "(I)I"⟩
abbrev cX4_letCancel : ByteArray := prog_6_method_19_code
def yX4_letCancel : MethodName := ⟨RX4, "letCancel", "(I)I"⟩
abbrev cX4_discontent : ByteArray := prog_6_method_20_code
def yX4_discontent : MethodName := ⟨RX4, "discontent", "()I"⟩
abbrev cX4_letGo : ByteArray := prog_6_method_21_code
def yX4_letGo : MethodName := ⟨RX4, "letGo", "(II)V"⟩
abbrev cX4_dissolveCompany : ByteArray := prog_6_method_22_code
def yX4_dissolveCompany : MethodName := ⟨RX4, "dissolveCompany", "()I"⟩
def RX5 : String := "StableParty"
def TX5 : u_T := fun k => match k with
  | 0 => ("StableParty", "now", "LStableParty$State;", true)
  | 1 => ("StableParty", "history", "LStableParty$History;", true)
  | 2 => ("StableParty", "snapshot", "LStableParty$State;", true)
  | 3 => ("StableParty", "hasSnapshot", "Z", false)
  | 4 => ("StableParty", "text", "[C", true)
  | 5 => ("StableParty", "textLength", "I", false)
  | 6 => ("StableParty", "reader", "LStableParty$Reader;", true)
  | _ => ("StableParty", "search", "LStableParty$Search;", true)
def tyX5 : Nat → FieldType := fun k => match k with
  | 0 => .object "StableParty$State"
  | 1 => .object "StableParty$History"
  | 2 => .object "StableParty$State"
  | 3 => .boolean
  | 4 => .array .char
  | 5 => .int
  | 6 => .object "StableParty$Reader"
  | _ => .object "StableParty$Search"
theorem nmX5 : ∀ a, a < 8 → ∀ b, b < 8 → a ≠ b → (TX5 a).2.1 ≠ (TX5 b).2.1 := by decide +kernel
theorem tyX5_ok : ∀ k, k < 8 → parseFieldDescriptor (TX5 k).2.2.1 = some (tyX5 k) := by decide +kernel
abbrev cX5_init : ByteArray := prog_1_method_1_code
def yX5_init : MethodName := ⟨RX5, "<init>", "()V"⟩
abbrev cX5_addGuest : ByteArray := prog_1_method_2_code
def yX5_addGuest : MethodName := ⟨RX5, "addGuest", "(II)I"⟩
abbrev cX5_setCondition : ByteArray := prog_1_method_3_code
def yX5_setCondition : MethodName := ⟨RX5, "setCondition", "(I)I"⟩
abbrev cX5_setLimit : ByteArray := prog_1_method_4_code
def yX5_setLimit : MethodName := ⟨RX5, "setLimit", "(II)I"⟩
abbrev cX5_setWeight : ByteArray := prog_1_method_5_code
def yX5_setWeight : MethodName := ⟨RX5, "setWeight", "(II)I"⟩
abbrev cX5_invite : ByteArray := prog_1_method_6_code
def yX5_invite : MethodName := ⟨RX5, "invite", "(IZ)I"⟩
abbrev cX5_set : ByteArray := prog_1_method_7_code
def yX5_set : MethodName := ⟨RX5, "set", "(II)I"⟩
abbrev cX5_pass : ByteArray := prog_1_method_8_code
def yX5_pass : MethodName := ⟨RX5, "pass", "(I)I"⟩
abbrev cX5_fix : ByteArray := prog_1_method_9_code
def yX5_fix : MethodName := ⟨RX5, "fix", "()I"⟩
abbrev cX5_cancel : ByteArray := prog_1_method_10_code
def yX5_cancel : MethodName := ⟨RX5, "cancel", "(I)I"⟩
abbrev cX5_dissolve : ByteArray := prog_1_method_11_code
def yX5_dissolve : MethodName := ⟨RX5, "dissolve", "()I"⟩
abbrev cX5_type : ByteArray := prog_1_method_12_code
def yX5_type : MethodName := ⟨RX5, "type", "(C)I"⟩
abbrev cX5_clearText : ByteArray := prog_1_method_13_code
def yX5_clearText : MethodName := ⟨RX5, "clearText", "()I"⟩
abbrev cX5_undo : ByteArray := prog_1_method_14_code
def yX5_undo : MethodName := ⟨RX5, "undo", "()I"⟩
abbrev cX5_keep : ByteArray := prog_1_method_15_code
def yX5_keep : MethodName := ⟨RX5, "keep", "()I"⟩
abbrev cX5_restore : ByteArray := prog_1_method_16_code
def yX5_restore : MethodName := ⟨RX5, "restore", "()I"⟩
abbrev cX5_guest : ByteArray := prog_1_method_17_code
def yX5_guest : MethodName := ⟨RX5, "guest", "(II)I"⟩
abbrev cX5_met : ByteArray := prog_1_method_18_code
def yX5_met : MethodName := ⟨RX5, "met", "(II)I"⟩
abbrev cX5_stable : ByteArray := prog_1_method_19_code
def yX5_stable : MethodName := ⟨RX5, "stable", "(I)I"⟩
abbrev cX5_fee : ByteArray := prog_1_method_20_code
def yX5_fee : MethodName := ⟨RX5, "fee", "(I)I"⟩
abbrev cX5_company : ByteArray := prog_1_method_21_code
def yX5_company : MethodName := ⟨RX5, "company", "(I)I"⟩
abbrev cX5_companies : ByteArray := prog_1_method_22_code
def yX5_companies : MethodName := ⟨RX5, "companies", "()I"⟩
abbrev cX5_why : ByteArray := prog_1_method_23_code
def yX5_why : MethodName := ⟨RX5, "why", "(II)I"⟩
abbrev cX5_rounds : ByteArray := prog_1_method_24_code
def yX5_rounds : MethodName := ⟨RX5, "rounds", "()I"⟩
abbrev cX5_needs : ByteArray := prog_1_method_25_code
def yX5_needs : MethodName := ⟨RX5, "needs", "(I)I"⟩
abbrev cX5_weightOf : ByteArray := prog_1_method_26_code
def yX5_weightOf : MethodName := ⟨RX5, "weightOf", "(I)I"⟩
abbrev cX5_leastLimit : ByteArray := prog_1_method_27_code
def yX5_leastLimit : MethodName := ⟨RX5, "leastLimit", "(I)I"⟩
abbrev cX5_seat : ByteArray := prog_1_method_28_code
def yX5_seat : MethodName := ⟨RX5, "seat", "(I)I"⟩
abbrev cX5_count : ByteArray := prog_1_method_29_code
def yX5_count : MethodName := ⟨RX5, "count", "(I)I"⟩
abbrev cX5_findGreatest : ByteArray := prog_1_method_30_code
def yX5_findGreatest : MethodName := ⟨RX5, "findGreatest", "()I"⟩
abbrev cX5_findChosen : ByteArray := prog_1_method_31_code
def yX5_findChosen : MethodName := ⟨RX5, "findChosen", "()I"⟩
abbrev cX5_isWithin : ByteArray := prog_1_method_32_code
def yX5_isWithin : MethodName := ⟨RX5, "isWithin", "(III)Z"⟩
abbrev cX5_asNumber : ByteArray := prog_1_method_33_code
def yX5_asNumber : MethodName := ⟨RX5, "asNumber", "(Z)I"⟩
abbrev cX5_bitOf : ByteArray := prog_1_method_34_code
def yX5_bitOf : MethodName := ⟨RX5, "bitOf", "(I)I"⟩
abbrev cX5_isIn : ByteArray := prog_1_method_35_code
def yX5_isIn : MethodName := ⟨RX5, "isIn", "(II)Z"⟩
abbrev cX5_isPart : ByteArray := prog_1_method_36_code
def yX5_isPart : MethodName := ⟨RX5, "isPart", "(II)Z"⟩
abbrev cX5_lowestOf : ByteArray := prog_1_method_37_code
def yX5_lowestOf : MethodName := ⟨RX5, "lowestOf", "(I)I"⟩
abbrev cX5_atomOf : ByteArray := prog_1_method_38_code
def yX5_atomOf : MethodName := ⟨RX5, "atomOf", "(II)I"⟩
abbrev cX5_isAtomMet : ByteArray := prog_1_method_39_code
def yX5_isAtomMet : MethodName := ⟨RX5, "isAtomMet", "(II)Z"⟩
def RX6 : String := "StablePartyModel"
def TX6 : u_T := fun k => match k with
  | 0 => ("StablePartyModel", "v", "[I", true)
  | 1 => ("StablePartyModel", "history", "[I", true)
  | 2 => ("StablePartyModel", "states", "I", false)
  | 3 => ("StablePartyModel", "kept", "[I", true)
  | 4 => ("StablePartyModel", "isKept", "Z", false)
  | 5 => ("StablePartyModel", "text", "[I", true)
  | 6 => ("StablePartyModel", "length", "I", false)
  | 7 => ("StablePartyModel", "lows", "[I", true)
  | 8 => ("StablePartyModel", "highs", "[I", true)
  | 9 => ("StablePartyModel", "place", "I", false)
  | 10 => ("StablePartyModel", "letters", "I", false)
  | 11 => ("StablePartyModel", "any", "[Z", true)
  | 12 => ("StablePartyModel", "part", "[Z", true)
  | 13 => ("StablePartyModel", "reasons", "[I", true)
  | 14 => ("StablePartyModel", "roundOf", "[I", true)
  | _ => ("StablePartyModel", "roundMany", "I", false)
def tyX6 : Nat → FieldType := fun k => match k with
  | 0 => .array .int
  | 1 => .array .int
  | 2 => .int
  | 3 => .array .int
  | 4 => .boolean
  | 5 => .array .int
  | 6 => .int
  | 7 => .array .int
  | 8 => .array .int
  | 9 => .int
  | 10 => .int
  | 11 => .array .boolean
  | 12 => .array .boolean
  | 13 => .array .int
  | 14 => .array .int
  | _ => .int
theorem nmX6 : ∀ a, a < 16 → ∀ b, b < 16 → a ≠ b → (TX6 a).2.1 ≠ (TX6 b).2.1 := by decide +kernel
theorem tyX6_ok : ∀ k, k < 16 → parseFieldDescriptor (TX6 k).2.2.1 = some (tyX6 k) := by decide +kernel
abbrev cX6_init : ByteArray := prog_8_method_1_code
def yX6_init : MethodName := ⟨RX6, "<init>", "()V"⟩
abbrev cX6_in : ByteArray := prog_8_method_3_code
def yX6_in : MethodName := ⟨RX6, "in", "(III)Z"⟩
abbrev cX6_has : ByteArray := prog_8_method_4_code
def yX6_has : MethodName := ⟨RX6, "has", "(II)Z"⟩
abbrev cX6_ones : ByteArray := prog_8_method_5_code
def yX6_ones : MethodName := ⟨RX6, "ones", "(I)I"⟩
abbrev cX6_record : ByteArray := prog_8_method_6_code
def yX6_record : MethodName := ⟨RX6, "record", "()V"⟩
abbrev cX6_isGuest : ByteArray := prog_8_method_7_code
def yX6_isGuest : MethodName := ⟨RX6, "isGuest", "(I)Z"⟩
abbrev cX6_isFixed : ByteArray := prog_8_method_8_code
def yX6_isFixed : MethodName := ⟨RX6, "isFixed", "()Z"⟩
abbrev cX6_at : ByteArray := prog_8_method_9_code
def yX6_at : MethodName := ⟨RX6, "at", "(II)I"⟩
abbrev cX6_of : ByteArray := prog_8_method_10_code
def yX6_of : MethodName := ⟨RX6, "of", "(II)I"⟩
abbrev cX6_all : ByteArray := prog_8_method_11_code
def yX6_all : MethodName := ⟨RX6, "all", "()I"⟩
abbrev cX6_isLetter : ByteArray := prog_8_method_12_code
def yX6_isLetter : MethodName := ⟨RX6, "isLetter", "()Z"⟩
abbrev cX6_charAt : ByteArray := prog_8_method_13_code
def yX6_charAt : MethodName := ⟨RX6, "charAt", "(I)I"⟩
abbrev cX6_overAtom : ByteArray := prog_8_method_14_code
def yX6_overAtom : MethodName := ⟨RX6, "overAtom", "()Z"⟩
abbrev cX6_fault : ByteArray := prog_8_method_15_code
def yX6_fault : MethodName := ⟨RX6, "fault", "()I"⟩
abbrev cX6_meets : ByteArray := prog_8_method_16_code
def yX6_meets : MethodName := ⟨RX6, "meets", "(I)Z"⟩
abbrev cX6_atom : ByteArray := prog_8_method_17_code
def yX6_atom : MethodName := ⟨RX6, "atom", "(II)Z"⟩
abbrev cX6_isMet : ByteArray := prog_8_method_18_code
def yX6_isMet : MethodName := ⟨RX6, "isMet", "(II)Z"⟩
abbrev cX6_feeOf : ByteArray := prog_8_method_19_code
def yX6_feeOf : MethodName := ⟨RX6, "feeOf", "(I)I"⟩
abbrev cX6_isStable : ByteArray := prog_8_method_20_code
def yX6_isStable : MethodName := ⟨RX6, "isStable", "(I)Z"⟩
abbrev cX6_invited : ByteArray := prog_8_method_21_code
def yX6_invited : MethodName := ⟨RX6, "invited", "()I"⟩
abbrev cX6_greatest : ByteArray := prog_8_method_22_code
def yX6_greatest : MethodName := ⟨RX6, "greatest", "()I"⟩
abbrev cX6_weights : ByteArray := prog_8_method_23_code
def yX6_weights : MethodName := ⟨RX6, "weights", "(I)I"⟩
abbrev cX6_chosen : ByteArray := prog_8_method_24_code
def yX6_chosen : MethodName := ⟨RX6, "chosen", "()I"⟩
abbrev cX6_smallest : ByteArray := prog_8_method_25_code
def yX6_smallest : MethodName := ⟨RX6, "smallest", "()I"⟩
abbrev cX6_allMeet : ByteArray := prog_8_method_26_code
def yX6_allMeet : MethodName := ⟨RX6, "allMeet", "(I)V"⟩
abbrev cX6_addGuest : ByteArray := prog_8_method_27_code
def yX6_addGuest : MethodName := ⟨RX6, "addGuest", "(II)I"⟩
abbrev cX6_charges : ByteArray := prog_8_method_28_code
def yX6_charges : MethodName := ⟨RX6, "charges", "(I)V"⟩
abbrev cX6_setCondition : ByteArray := prog_8_method_29_code
def yX6_setCondition : MethodName := ⟨RX6, "setCondition", "(I)I"⟩
abbrev cX6_changes : ByteArray := prog_8_method_30_code
def yX6_changes : MethodName := ⟨RX6, "changes", "(II)I"⟩
abbrev cX6_setLimit : ByteArray := prog_8_method_31_code
def yX6_setLimit : MethodName := ⟨RX6, "setLimit", "(II)I"⟩
abbrev cX6_setWeight : ByteArray := prog_8_method_32_code
def yX6_setWeight : MethodName := ⟨RX6, "setWeight", "(II)I"⟩
abbrev cX6_invite : ByteArray := prog_8_method_33_code
def yX6_invite : MethodName := ⟨RX6, "invite", "(IZ)I"⟩
abbrev cX6_set : ByteArray := prog_8_method_34_code
def yX6_set : MethodName := ⟨RX6, "set", "(II)I"⟩
abbrev cX6_pass : ByteArray := prog_8_method_35_code
def yX6_pass : MethodName := ⟨RX6, "pass", "(I)I"⟩
abbrev cX6_fix : ByteArray := prog_8_method_36_code
def yX6_fix : MethodName := ⟨RX6, "fix", "()I"⟩
abbrev cX6_cancel : ByteArray := prog_8_method_37_code
def yX6_cancel : MethodName := ⟨RX6, "cancel", "(I)I"⟩
abbrev cX6_dissolve : ByteArray := prog_8_method_38_code
def yX6_dissolve : MethodName := ⟨RX6, "dissolve", "()I"⟩
abbrev cX6_type : ByteArray := prog_8_method_39_code
def yX6_type : MethodName := ⟨RX6, "type", "(C)I"⟩
abbrev cX6_clearText : ByteArray := prog_8_method_40_code
def yX6_clearText : MethodName := ⟨RX6, "clearText", "()I"⟩
abbrev cX6_undo : ByteArray := prog_8_method_41_code
def yX6_undo : MethodName := ⟨RX6, "undo", "()I"⟩
abbrev cX6_keep : ByteArray := prog_8_method_42_code
def yX6_keep : MethodName := ⟨RX6, "keep", "()I"⟩
abbrev cX6_restore : ByteArray := prog_8_method_43_code
def yX6_restore : MethodName := ⟨RX6, "restore", "()I"⟩
abbrev cX6_guest : ByteArray := prog_8_method_44_code
def yX6_guest : MethodName := ⟨RX6, "guest", "(II)I"⟩
abbrev cX6_isSet : ByteArray := prog_8_method_45_code
def yX6_isSet : MethodName := ⟨RX6, "isSet", "(I)Z"⟩
abbrev cX6_met : ByteArray := prog_8_method_46_code
def yX6_met : MethodName := ⟨RX6, "met", "(II)I"⟩
abbrev cX6_stable : ByteArray := prog_8_method_47_code
def yX6_stable : MethodName := ⟨RX6, "stable", "(I)I"⟩
abbrev cX6_fee : ByteArray := prog_8_method_48_code
def yX6_fee : MethodName := ⟨RX6, "fee", "(I)I"⟩
abbrev cX6_company : ByteArray := prog_8_method_49_code
def yX6_company : MethodName := ⟨RX6, "company", "(I)I"⟩
abbrev cX6_companies : ByteArray := prog_8_method_50_code
def yX6_companies : MethodName := ⟨RX6, "companies", "()I"⟩
abbrev cX6_backTo : ByteArray := prog_8_method_51_code
def yX6_backTo : MethodName := ⟨RX6, "backTo", "(I)I"⟩
abbrev cX6_why : ByteArray := prog_8_method_52_code
def yX6_why : MethodName := ⟨RX6, "why", "(II)I"⟩
abbrev cX6_rounds : ByteArray := prog_8_method_53_code
def yX6_rounds : MethodName := ⟨RX6, "rounds", "()I"⟩
abbrev cX6_needs : ByteArray := prog_8_method_54_code
def yX6_needs : MethodName := ⟨RX6, "needs", "(I)I"⟩
abbrev cX6_weightOf : ByteArray := prog_8_method_55_code
def yX6_weightOf : MethodName := ⟨RX6, "weightOf", "(I)I"⟩
abbrev cX6_leastLimit : ByteArray := prog_8_method_56_code
def yX6_leastLimit : MethodName := ⟨RX6, "leastLimit", "(I)I"⟩
abbrev cX6_seat : ByteArray := prog_8_method_57_code
def yX6_seat : MethodName := ⟨RX6, "seat", "(I)I"⟩
abbrev cX6_count : ByteArray := prog_8_method_58_code
def yX6_count : MethodName := ⟨RX6, "count", "(I)I"⟩
def RJ6 : String := "java/lang/Integer"
def TJ6 : u_T := fun k => match k with
  | _ => ("", "", "", false)
def tyJ6 : Nat → FieldType := fun k => match k with
  | _ => .int
abbrev cJ6_bitCount_0f7a4 : ByteArray := prog_9_method_49_code
def yJ6_bitCount_0f7a4 : MethodName := ⟨RJ6, "bitCount", "(I)I"⟩
def RL : String := "StablePartyLaw"
abbrev cL_law : ByteArray := code
def yL_law : MethodName := ⟨RL, "law", "([I)Z"⟩
abbrev vwCl : List vw_C := [(RX0, TX0, 10), (RX1, TX1, 2), (RX2, TX2, 7), (RX3, TX3, 7), (RX4, TX4, 10), (RX5, TX5, 8), (RX6, TX6, 16)]
end
section
/-! A MACHINE OF OUR OWN over the kit's rows: a heap as a map from addresses to cells, one judgement hJ for a place in a method, one meaning x_.. for an instruction, the walk hGo, contracts hCT. -/
abbrev hAH : Type := Nat × (Nat → Option va_E)
abbrev hLs : Type := List (Option Value)
abbrev hStk : Type := List Value
abbrev hCu : Type := Nat × Nat
/-- launch, classes, array classes, where the new cells begin, where the static arrays lie, the arrays that nobody writes -/
abbrev hK : Type := Launch × va_G × (Nat → ClassId) × Nat × (Nat → Nat) × (Nat → Option (Nat × (Nat → Int32)))
/-- name, bytes, locals, return type, frames beneath, words of locals beneath -/
abbrev hM : Type := MethodName × ByteArray × Nat × Option FieldType × Nat × Nat
abbrev hPost : Type := Option Value → hAH → Prop
abbrev hSem : Type := (Nat → hCu → hLs → hStk → hAH → Prop) → hCu → hLs → hStk → hAH → Prop
def hGetL : hLs → Nat → Option Value
  | [], _ => none
  | x :: _, 0 => x
  | _ :: t, n + 1 => hGetL t n
def hSetL : hLs → Nat → Value → hLs
  | [], _, _ => []
  | _ :: t, 0, v => some v :: t
  | x :: t, n + 1, v => x :: hSetL t n v
def hGetV : List Value → Nat → Option Value
  | [], _ => none
  | x :: _, 0 => some x
  | _ :: t, n + 1 => hGetV t n
def hSetV : List Value → Nat → Value → List Value
  | [], _, _ => []
  | _ :: t, 0, v => v :: t
  | x :: t, n + 1, v => x :: hSetV t n v
def hNones : Nat → hLs
  | 0 => []
  | n + 1 => none :: hNones n
def hEnt : List Value → Nat → hLs
  | [], n => hNones n
  | v :: t, n + 1 => some v :: hEnt t n
  | _ :: _, 0 => []
def hMem : Nat → List Nat → Bool
  | _, [] => false
  | n, a :: l => match Nat.beq n a with
    | true => true
    | false => hMem n l
def hPop : Nat → hStk → List Value → Option (List Value × hStk)
  | 0, st, acc => some (acc, st)
  | _ + 1, [], _ => none
  | n + 1, v :: st, acc => hPop n st (v :: acc)
def hApp : Option Value → hStk → hStk
  | none, st => st
  | some v, st => v :: st
def hLe4 : hStk → Bool
  | [] => true
  | [_] => true
  | [_, _] => true
  | [_, _, _] => true
  | [_, _, _, _] => true
  | _ => false
def hAtS : List hSem → Nat → hSem
  | [], _ => fun _ _ _ _ _ => False
  | x :: _, 0 => x
  | _ :: t, n + 1 => hAtS t n
def hUpd (H : hAH) (a : Nat) (c : va_E) (H' : hAH) : Prop := H'.1 = H.1 ∧ H'.2 a = some c ∧ ∀ q, q ≠ a → H'.2 q = H.2 q
def hNew (H : hAH) (c : va_E) (H' : hAH) : Prop := H'.1 = H.1 + 1 ∧ H'.2 H.1 = some c ∧ ∀ q, q ≠ H.1 → H'.2 q = H.2 q
abbrev hInts (K : hK) (t n : Nat) (f : Nat → Int32) : va_E := .inl (K.2.2.1 t, n, .inl f)
abbrev hRefs (K : hK) (t n : Nat) (f : Nat → Option Nat) : va_E := .inl (K.2.2.1 t, n, .inr (.inr (.inr (.inr f))))
abbrev hObj (ci : Nat) (fs : List Value) : va_E := .inr (ci, fs)
def hA (K : hK) : Nat → Prop := fun q => K.2.2.2.1 ≤ q
def hTyOf : Nat → FieldType
  | 0 => .int
  | 1 => .char
  | 2 => .boolean
  | 3 => .object RX0
  | _ => .object RX4
def hTys (K : hK) : List (ClassId × FieldType) := [(K.2.2.1 0, .int), (K.2.2.1 1, .char), (K.2.2.1 2, .boolean), (K.2.2.1 3, .object RX0), (K.2.2.1 4, .object RX4)]
def hIsNest : Cond → Bool
  | .fieldLinkNest .. => true
  | .methodLinkNest .. => true
  | _ => false
def hStn : Nat → String
  | 0 => "FIRST_SETTINGS"
  | 1 => "LEAST_SETTINGS"
  | _ => "MOST_SETTINGS"
def hTb : List Cond := lw_tbl.filter goodWord
theorem hTb_in {w : Cond} (h : w ∈ lw_tbl) (hg : goodWord w = true) : w ∈ hTb := List.mem_filter.mpr ⟨h, hg⟩
theorem hTb_t {w : Cond} (h : w ∈ tables_1) (hg : goodWord w = true) : w ∈ hTb := hTb_in (List.mem_append_right _ h) hg
theorem hTb_s {w : Cond} (h : w ∈ k2_sels lw_privs) (hg : goodWord w = true) : w ∈ hTb := hTb_in (List.mem_append_left _ h) hg
theorem hTb_sub : ∀ w ∈ hTb, w ∈ lw_tbl := fun _ h => (List.mem_filter.mp h).1
theorem hTb_good {ws : List Cond} (h : ∀ w ∈ ws, w ∈ hTb) : GoodIn hTb ws := fun w hw => ⟨h w hw, good_of_word (List.mem_filter.mp (h w hw)).2⟩
def hWs (M : hM) : List Cond := .code M.1 M.2.1 M.2.2.1 M.2.2.2.1 :: hTb
/-- what the tables say, and go on saying -/
def hStat (K : hK) (U : State) : Prop := va_K K.2.1 vwCl (hTys K) U ∧ (∀ w ∈ tables_1, hIsNest w = true → va_Nw w U) ∧ va_AO RX0 U ∧ va_AO RX4 U
def hRo (K : hK) (U : State) (Hr : Heap) : Prop := (∀ t n f, K.2.2.2.2.2 t = some (n, f) → va_T .int t n (fun j => .int (f j)) (hA K) U Hr) ∧ ∀ i, i < 3 → va_Z RX5 (hStn i) "[I" (.ref (K.2.2.2.2.1 i)) (hA K) U Hr
def hHp (K : hK) (H : hAH) (Hr : Heap) : Prop := Hr.size = H.1 ∧ K.2.2.2.1 ≤ H.1 ∧ ∀ a c, H.2 a = some c → hA K a ∧ va_at K.2.1 vwCl (a, c) Hr
def hPre (K : hK) (H : hAH) (U : State) : Prop := hHp K H U.heap ∧ hStat K U ∧ hRo K U U.heap
def hLv (n : Nat) (f : hLs) (arr : Array Slot) : Prop := arr.size = n ∧ lv_wf arr ∧ ∀ i v, hGetL f i = some v → arr[i]? = some (.val v) ∧ v.category = 1
/-- a return instruction with what stands on the stack -/
def hRetI (M : hM) (r : Option Value) (ins : Instr) (st : hStk) : Prop :=
  (r = none ∧ ins = .return_ ∧ st = [] ∧ M.2.2.2.1 = none) ∨ (∃ v ty, r = some (.int v) ∧ ins = .ireturn ∧ st = [.int v] ∧ M.2.2.2.1 = some ty ∧ narrow ty (.int v) = .int v) ∨
  (∃ v cn, r = some v ∧ ins = .areturn ∧ st = [v] ∧ M.2.2.2.1 = some (.object cn) ∧ (v = .null ∨ ∃ a, v = .ref a))
def hCtx (K : hK) (M : hM) (B : Nat × Nat) (Q : hPost) (p : Program) (e : Env) (R : Room) (s : State) (m : MethodId) (args : Array Value) (below : List Frame) (meth : Method) (c : Code) (QF : State → Prop) : Prop :=
  p.tables.exec = Jvm.exec ∧ c.code = M.2.1 ∧ c.maxLocals = M.2.2.1 ∧ s.vm.findClass M.1.cls = some m.cls ∧ (∀ w ∈ hTb, w.before args s = true) ∧ (M.1.name = "<init>" → meth.name = "<init>") ∧ hStat K s ∧ hRo K s s.heap ∧ K.2.2.2.1 ≤ s.heap.size ∧ (M.2.2.2.2.1 ≤ R.frames ∧ M.2.2.2.2.2 ≤ R.locals ∧ B.1 ≤ R.cells ∧ B.2 ≤ R.slots) ∧
  ∀ (r : Option Value) (H : hAH) (cu : hCu) (Hr : Heap) (locs : List Loc) (lsr : Array Slot) (pc : Nat) (ins : Instr) (st : hStk), hRetI M r ins st → decode c.code pc = .ok (ins, 1) → hHp K H Hr → va_S (hA K) s.heap Hr locs → Q r H → cu.1 ≤ B.1 → cu.2 ≤ B.2 → W p K.1 e R s m args below meth c Hr locs cu.1 cu.2 QF (F0 m pc lsr st)
/-- at this place, with these locals, this stack, this heap: the method comes to its end with Q -/
def hJ (K : hK) (M : hM) (B : Nat × Nat) (Q : hPost) (pc : Nat) (cu : hCu) (ls : hLs) (st : hStk) (H : hAH) : Prop :=
  (∀ (p : Program) (e : Env) (R : Room) (s : State) (m : MethodId) (args : Array Value) (below : List Frame) (meth : Method) (c : Code) (QF : State → Prop), hCtx K M B Q p e R s m args below meth c QF → ∀ (Hr : Heap) (locs : List Loc) (lsr : Array Slot), hHp K H Hr → va_S (hA K) s.heap Hr locs → hLv M.2.2.1 ls lsr → cu.1 ≤ B.1 → cu.2 ≤ B.2 → W p K.1 e R s m args below meth c Hr locs cu.1 cu.2 QF (F0 m pc lsr st)) ∨ False
theorem hJ.use {K : hK} {M : hM} {B : Nat × Nat} {Q : hPost} {pc : Nat} {cu : hCu} {ls : hLs} {st : hStk} {H : hAH} (h : hJ K M B Q pc cu ls st H) {p : Program} {e : Env} {R : Room} {s : State} {m : MethodId} {args : Array Value} {below : List Frame} {meth : Method} {c : Code} {QF : State → Prop} (C : hCtx K M B Q p e R s m args below meth c QF) {Hr : Heap} {locs : List Loc} {lsr : Array Slot} (h1 : hHp K H Hr) (h2 : va_S (hA K) s.heap Hr locs) (h3 : hLv M.2.2.1 ls lsr) (h4 : cu.1 ≤ B.1) (h5 : cu.2 ≤ B.2) : W p K.1 e R s m args below meth c Hr locs cu.1 cu.2 QF (F0 m pc lsr st) :=
  h.elim (fun h => h p e R s m args below meth c QF C Hr locs lsr h1 h2 h3 h4 h5) False.elim
def hOk (J : Nat → hCu → hLs → hStk → hAH → Prop) (pc : Nat) (x : hSem) : Prop := ∀ k : Nat → hCu → hLs → hStk → hAH → Prop, (∀ pc' cu ls st H, k pc' cu ls st H → J pc' cu ls st H) → ∀ cu ls st H, x k cu ls st H → J pc cu ls st H
def hAllOk (J : Nat → hCu → hLs → hStk → hAH → Prop) : Nat → List hSem → Prop
  | _, [] => True
  | pc, x :: t => hOk J pc x ∧ hAllOk J (pc + 1) t
def hGo (code : List hSem) (stops : List Nat) (Jn : Nat → hCu → hLs → hStk → hAH → Prop) : Nat → Nat → hCu → hLs → hStk → hAH → Prop
  | 0 => Jn
  | n + 1 => fun pc cu ls st H => hAtS code pc (fun pc' cu' ls' st' H' => match hMem pc' stops with
    | true => Jn pc' cu' ls' st' H'
    | false => hGo code stops Jn n pc' cu' ls' st' H') cu ls st H
def x_no : hSem := fun _ _ _ _ _ => False
theorem ok_no {J : Nat → hCu → hLs → hStk → hAH → Prop} {pc : Nat} : hOk J pc x_no := fun _ _ _ _ _ _ h => False.elim h
theorem hAllOk_at {J : Nat → hCu → hLs → hStk → hAH → Prop} : ∀ (code : List hSem) (b : Nat), hAllOk J b code → ∀ i, hOk J (b + i) (hAtS code i)
  | [], _, _, _ => fun _ _ _ _ _ _ h => False.elim h
  | x :: t, b, h, 0 => h.1
  | x :: t, b, h, i + 1 => by
    have := hAllOk_at t (b + 1) h.2 i
    rw [show b + (i + 1) = b + 1 + i by omega]
    exact this
theorem hGo_sound {J : Nat → hCu → hLs → hStk → hAH → Prop} {code : List hSem} (h : hAllOk J 0 code) (stops : List Nat) : ∀ (n pc : Nat) (cu : hCu) (ls : hLs) (st : hStk) (H : hAH), hGo code stops J n pc cu ls st H → J pc cu ls st H
  | 0, _, _, _, _, _, hg => hg
  | n + 1, pc, cu, ls, st, H, hg => by
    have h1 := hAllOk_at code 0 h pc
    rw [Nat.zero_add] at h1
    refine h1 _ (fun pc' cu' ls' st' H' hk => ?_) cu ls st H hg
    cases hm : hMem pc' stops with
    | true => rw [hm] at hk; exact hk
    | false => rw [hm] at hk; exact hGo_sound h stops n pc' cu' ls' st' H' hk
/-! locals -/
theorem hSetL_get : ∀ (f : hLs) (i : Nat) (v : Value) (j : Nat) (w : Value), hGetL (hSetL f i v) j = some w → (j = i ∧ w = v) ∨ (j ≠ i ∧ hGetL f j = some w)
  | [], _, _, _, _, h => by simp [hSetL, hGetL] at h
  | x :: t, 0, v, 0, w, h => by simp [hSetL, hGetL] at h; exact Or.inl ⟨rfl, h.symm⟩
  | x :: t, 0, v, j + 1, w, h => by simp [hSetL, hGetL] at h; exact Or.inr ⟨by omega, h⟩
  | x :: t, i + 1, v, 0, w, h => by simp [hSetL, hGetL] at h; exact Or.inr ⟨by omega, h⟩
  | x :: t, i + 1, v, j + 1, w, h => by
    simp only [hSetL, hGetL] at h
    rcases hSetL_get t i v j w h with ⟨a, b⟩ | ⟨a, b⟩
    · exact Or.inl ⟨by omega, b⟩
    · exact Or.inr ⟨by omega, b⟩
/-- the kit's list of locals, out of ours -/
def hPairs : hLs → Nat → List (Nat × Value)
  | [], _ => []
  | none :: t, b => hPairs t (b + 1)
  | some v :: t, b => (b, v) :: hPairs t (b + 1)
theorem hPairs_mem : ∀ (f : hLs) (b : Nat) (q : Nat × Value), q ∈ hPairs f b ↔ b ≤ q.1 ∧ hGetL f (q.1 - b) = some q.2
  | [], b, q => by simp [hPairs, hGetL]
  | none :: t, b, q => by
    rw [hPairs, hPairs_mem t (b + 1) q]
    constructor
    · rintro ⟨h1, h2⟩
      refine ⟨by omega, ?_⟩
      rw [show q.1 - b = (q.1 - (b + 1)) + 1 by omega]
      exact h2
    · rintro ⟨h1, h2⟩
      by_cases e : q.1 = b
      · rw [e, Nat.sub_self] at h2
        simp [hGetL] at h2
      · refine ⟨by omega, ?_⟩
        rw [show q.1 - b = (q.1 - (b + 1)) + 1 by omega] at h2
        exact h2
  | some v :: t, b, q => by
    rw [hPairs, List.mem_cons, hPairs_mem t (b + 1) q]
    constructor
    · rintro (rfl | ⟨h1, h2⟩)
      · exact ⟨Nat.le_refl _, by rw [Nat.sub_self]; rfl⟩
      · refine ⟨by omega, ?_⟩
        rw [show q.1 - b = (q.1 - (b + 1)) + 1 by omega]
        exact h2
    · rintro ⟨h1, h2⟩
      by_cases e : q.1 = b
      · rw [e, Nat.sub_self] at h2
        simp [hGetL] at h2
        exact Or.inl (Prod.ext e h2.symm)
      · refine Or.inr ⟨by omega, ?_⟩
        rw [show q.1 - b = (q.1 - (b + 1)) + 1 by omega] at h2
        exact h2
theorem hLv.has {n : Nat} {f : hLs} {arr : Array Slot} (h : hLv n f arr) : lv_has arr n (hPairs f 0) := ⟨h.1, h.2.1, fun q hq => (h.2.2 q.1 q.2 (by simpa using ((hPairs_mem f 0 q).mp hq).2)).1⟩
theorem hLv.set {n : Nat} {f : hLs} {arr arr' : Array Slot} {i : Nat} {v : Value} (h : hLv n f arr) (hc : v.category = 1) (h' : lv_has arr' n ((i, v) :: (hPairs f 0).filter (fun q => !(q.1 == i) && !(q.1 + 1 == i && q.2.category == 2)))) : hLv n (hSetL f i v) arr' := by
  refine ⟨h'.1, h'.2.1, fun j w hj => ?_⟩
  rcases hSetL_get f i v j w hj with ⟨rfl, rfl⟩ | ⟨hne, hg⟩
  · exact ⟨h'.2.2 _ List.mem_cons_self, hc⟩
  · have h1 := h.2.2 j w hg
    refine ⟨h'.2.2 (j, w) (List.mem_cons_of_mem _ (List.mem_filter.mpr ⟨(hPairs_mem f 0 (j, w)).mpr ⟨Nat.zero_le _, by simpa using hg⟩, ?_⟩)), h1.2⟩
    simp [hne, h1.2]
theorem hGetV_get : ∀ (fs : List Value) (k : Nat), fs[k]? = hGetV fs k
  | [], _ => by simp [hGetV]
  | x :: t, 0 => by simp [hGetV]
  | x :: t, k + 1 => by simp [hGetV, hGetV_get t k]
theorem hSetV_set : ∀ (fs : List Value) (k : Nat) (v : Value), fs.set k v = hSetV fs k v
  | [], _, _ => by simp [hSetV]
  | x :: t, 0, v => by simp [hSetV]
  | x :: t, k + 1, v => by simp [hSetV, hSetV_set t k v]
theorem hNones_get : ∀ (n i : Nat) (v : Value), hGetL (hNones n) i ≠ some v
  | 0, _, _ => by simp [hNones, hGetL]
  | n + 1, 0, _ => by simp [hNones, hGetL]
  | n + 1, i + 1, v => by simpa [hNones, hGetL] using hNones_get n i v
theorem hEnt_get : ∀ (av : List Value) (n b i : Nat) (v : Value), (∀ w ∈ av, w.category = 1) → hGetL (hEnt av n) i = some v → (b + i, v) ∈ lv_args b av ∧ v.category = 1
  | [], n, b, i, v, _, h => absurd h (hNones_get n i v)
  | x :: t, 0, b, i, v, _, h => by simp [hEnt, hGetL] at h
  | x :: t, n + 1, b, 0, v, hc, h => by
    simp [hEnt, hGetL] at h
    subst h
    have h1 := hc x List.mem_cons_self
    exact ⟨by simp [lv_args], h1⟩
  | x :: t, n + 1, b, i + 1, v, hc, h => by
    simp only [hEnt, hGetL] at h
    have h1 := hc x List.mem_cons_self
    obtain ⟨h2, h3⟩ := hEnt_get t n (b + 1) i v (fun w hw => hc w (List.mem_cons_of_mem _ hw)) h
    refine ⟨?_, h3⟩
    simp only [lv_args, h1]
    rw [show b + (i + 1) = b + 1 + i by omega]
    simpa using Or.inr h2
end
section
def x_const (nx : Nat) (v : Int32) : hSem := fun k cu ls st H => k nx cu ls (.int v :: st) H
theorem ok_iconst {K : hK} {M : hM} {B : Nat × Nat} {Q : hPost} {pc nx : Nat} {n : Int} {v : Int32} (hv : Int32.ofInt n = v) (hd : decode M.2.1 pc = .ok (.iconst n, 1)) (hn : pc + 1 = nx) : hOk (hJ K M B Q) pc (x_const nx v) := by
  intro k hk cu ls st H h
  subst hn
  refine Or.inl fun p e R s m args below meth c QF C Hr locs lsr h1 h2 h3 h4 h5 => ?_
  exact lv_iconst C.1 C.2.1 hd hv ((hk _ _ _ _ _ h).use C h1 h2 h3 h4 h5)
theorem ok_bipush {K : hK} {M : hM} {B : Nat × Nat} {Q : hPost} {pc nx : Nat} {n : Int} {v : Int32} (hv : (Int8.ofInt n).toInt32 = v) (hd : decode M.2.1 pc = .ok (.bipush n, 2)) (hn : pc + 2 = nx) : hOk (hJ K M B Q) pc (x_const nx v) := by
  intro k hk cu ls st H h
  subst hn
  refine Or.inl fun p e R s m args below meth c QF C Hr locs lsr h1 h2 h3 h4 h5 => ?_
  exact lv_bipush C.1 C.2.1 hd hv ((hk _ _ _ _ _ h).use C h1 h2 h3 h4 h5)
theorem ok_sipush {K : hK} {M : hM} {B : Nat × Nat} {Q : hPost} {pc nx : Nat} {n : Int} {v : Int32} (hv : (Int16.ofInt n).toInt32 = v) (hd : decode M.2.1 pc = .ok (.sipush n, 3)) (hn : pc + 3 = nx) : hOk (hJ K M B Q) pc (x_const nx v) := by
  intro k hk cu ls st H h
  subst hn
  refine Or.inl fun p e R s m args below meth c QF C Hr locs lsr h1 h2 h3 h4 h5 => ?_
  exact lv_sipush C.1 C.2.1 hd hv ((hk _ _ _ _ _ h).use C h1 h2 h3 h4 h5)
theorem ok_ldc {K : hK} {M : hM} {B : Nat × Nat} {Q : hPost} {pc nx : Nat} {i : Nat} {v : Int32} (hw : Cond.constant M.1.cls i v ∈ hTb) (hd : decode M.2.1 pc = .ok (.ldc i, 2)) (hn : pc + 2 = nx) : hOk (hJ K M B Q) pc (x_const nx v) := by
  intro k hk cu ls st H h
  subst hn
  refine Or.inl fun p e R s m args below meth c QF C Hr locs lsr h1 h2 h3 h4 h5 => ?_
  exact lv_ldc C.1 C.2.1 C.2.2.2.1 (C.2.2.2.2.1 _ hw) hd ((hk _ _ _ _ _ h).use C h1 h2 h3 h4 h5)
theorem ok_ldcw {K : hK} {M : hM} {B : Nat × Nat} {Q : hPost} {pc nx : Nat} {i : Nat} {v : Int32} (hw : Cond.constant M.1.cls i v ∈ hTb) (hd : decode M.2.1 pc = .ok (.ldc_w i, 3)) (hn : pc + 3 = nx) : hOk (hJ K M B Q) pc (x_const nx v) := by
  intro k hk cu ls st H h
  subst hn
  refine Or.inl fun p e R s m args below meth c QF C Hr locs lsr h1 h2 h3 h4 h5 => ?_
  exact lv_ldcw C.1 C.2.1 C.2.2.2.1 (C.2.2.2.2.1 _ hw) hd ((hk _ _ _ _ _ h).use C h1 h2 h3 h4 h5)
def x_null (nx : Nat) : hSem := fun k cu ls st H => k nx cu ls (.null :: st) H
theorem ok_null {K : hK} {M : hM} {B : Nat × Nat} {Q : hPost} {pc nx : Nat} (hd : decode M.2.1 pc = .ok (.aconst_null, 1)) (hn : pc + 1 = nx) : hOk (hJ K M B Q) pc (x_null nx) := by
  intro k hk cu ls st H h
  subst hn
  refine Or.inl fun p e R s m args below meth c QF C Hr locs lsr h1 h2 h3 h4 h5 => ?_
  exact lv_null C.1 C.2.1 hd ((hk _ _ _ _ _ h).use C h1 h2 h3 h4 h5)
def x_iload (nx i : Nat) : hSem := fun k cu ls st H => match hGetL ls i with
  | some (.int x) => k nx cu ls (.int x :: st) H
  | _ => False
theorem ok_iload {K : hK} {M : hM} {B : Nat × Nat} {Q : hPost} {pc nx : Nat} {i : Nat} (hd : decode M.2.1 pc = .ok (.iload i, 2)) (hn : pc + 2 = nx) : hOk (hJ K M B Q) pc (x_iload nx i) := by
  intro k hk cu ls st H h
  subst hn
  unfold x_iload at h
  split at h
  · rename_i x hg
    refine Or.inl fun p e R s m args below meth c QF C Hr locs lsr h1 h2 h3 h4 h5 => ?_
    exact lv_iload C.1 C.2.1 hd (h3.2.2 _ _ hg).1 ((hk _ _ _ _ _ h).use C h1 h2 h3 h4 h5)
  · exact h.elim
theorem ok_iload_n {K : hK} {M : hM} {B : Nat × Nat} {Q : hPost} {pc nx : Nat} {i : Nat} {f : Fin 4} (hi : (f : Nat) = i) (hd : decode M.2.1 pc = .ok (.iload_n f, 1)) (hn : pc + 1 = nx) : hOk (hJ K M B Q) pc (x_iload nx i) := by
  intro k hk cu ls st H h
  subst hn
  unfold x_iload at h
  split at h
  · rename_i x hg
    refine Or.inl fun p e R s m args below meth c QF C Hr locs lsr h1 h2 h3 h4 h5 => ?_
    exact lv_iload_n C.1 C.2.1 hd hi (h3.2.2 _ _ hg).1 ((hk _ _ _ _ _ h).use C h1 h2 h3 h4 h5)
  · exact h.elim
def x_aload (nx i : Nat) : hSem := fun k cu ls st H => match hGetL ls i with
  | some (.ref x) => k nx cu ls (.ref x :: st) H
  | some .null => k nx cu ls (.null :: st) H
  | _ => False
theorem ok_aload {K : hK} {M : hM} {B : Nat × Nat} {Q : hPost} {pc nx : Nat} {i : Nat} (hd : decode M.2.1 pc = .ok (.aload i, 2)) (hn : pc + 2 = nx) : hOk (hJ K M B Q) pc (x_aload nx i) := by
  intro k hk cu ls st H h
  subst hn
  unfold x_aload at h
  split at h
  · rename_i x hg
    refine Or.inl fun p e R s m args below meth c QF C Hr locs lsr h1 h2 h3 h4 h5 => ?_
    exact lv_aload C.1 C.2.1 hd (h3.2.2 _ _ hg).1 ((hk _ _ _ _ _ h).use C h1 h2 h3 h4 h5)
  · rename_i hg
    refine Or.inl fun p e R s m args below meth c QF C Hr locs lsr h1 h2 h3 h4 h5 => ?_
    exact lv_aloadN C.1 C.2.1 hd (h3.2.2 _ _ hg).1 ((hk _ _ _ _ _ h).use C h1 h2 h3 h4 h5)
  · exact h.elim
theorem ok_aload_n {K : hK} {M : hM} {B : Nat × Nat} {Q : hPost} {pc nx : Nat} {i : Nat} {f : Fin 4} (hi : (f : Nat) = i) (hd : decode M.2.1 pc = .ok (.aload_n f, 1)) (hn : pc + 1 = nx) : hOk (hJ K M B Q) pc (x_aload nx i) := by
  intro k hk cu ls st H h
  subst hn
  unfold x_aload at h
  split at h
  · rename_i x hg
    refine Or.inl fun p e R s m args below meth c QF C Hr locs lsr h1 h2 h3 h4 h5 => ?_
    exact lv_aload_n C.1 C.2.1 hd hi (h3.2.2 _ _ hg).1 ((hk _ _ _ _ _ h).use C h1 h2 h3 h4 h5)
  · rename_i hg
    refine Or.inl fun p e R s m args below meth c QF C Hr locs lsr h1 h2 h3 h4 h5 => ?_
    exact lv_aload_nN C.1 C.2.1 hd hi (h3.2.2 _ _ hg).1 ((hk _ _ _ _ _ h).use C h1 h2 h3 h4 h5)
  · exact h.elim
def x_istore (nx i : Nat) : hSem := fun k cu ls st H => match st with
  | .int x :: r => k nx cu (hSetL ls i (.int x)) r H
  | _ => False
theorem ok_istore {K : hK} {M : hM} {B : Nat × Nat} {Q : hPost} {pc nx : Nat} {i : Nat} (hl : i < M.2.2.1) (hd : decode M.2.1 pc = .ok (.istore i, 2)) (hn : pc + 2 = nx) : hOk (hJ K M B Q) pc (x_istore nx i) := by
  intro k hk cu ls st H h
  subst hn
  unfold x_istore at h
  split at h
  · refine Or.inl fun p e R s m args below meth c QF C Hr locs lsr h1 h2 h3 h4 h5 => ?_
    exact lv_istore C.1 C.2.1 hd h3.has hl rfl (fun ls2 hl2 => (hk _ _ _ _ _ h).use C h1 h2 (h3.set rfl hl2) h4 h5)
  · exact h.elim
theorem ok_istore_n {K : hK} {M : hM} {B : Nat × Nat} {Q : hPost} {pc nx : Nat} {i : Nat} {f : Fin 4} (hi : (f : Nat) = i) (hl : i < M.2.2.1) (hd : decode M.2.1 pc = .ok (.istore_n f, 1)) (hn : pc + 1 = nx) : hOk (hJ K M B Q) pc (x_istore nx i) := by
  intro k hk cu ls st H h
  subst hn
  unfold x_istore at h
  split at h
  · refine Or.inl fun p e R s m args below meth c QF C Hr locs lsr h1 h2 h3 h4 h5 => ?_
    exact lv_istore_n C.1 C.2.1 hd hi h3.has hl rfl (fun ls2 hl2 => (hk _ _ _ _ _ h).use C h1 h2 (h3.set rfl hl2) h4 h5)
  · exact h.elim
def x_astore (nx i : Nat) : hSem := fun k cu ls st H => match st with
  | .ref x :: r => k nx cu (hSetL ls i (.ref x)) r H
  | .null :: r => k nx cu (hSetL ls i .null) r H
  | _ => False
theorem ok_astore {K : hK} {M : hM} {B : Nat × Nat} {Q : hPost} {pc nx : Nat} {i : Nat} (hl : i < M.2.2.1) (hd : decode M.2.1 pc = .ok (.astore i, 2)) (hn : pc + 2 = nx) : hOk (hJ K M B Q) pc (x_astore nx i) := by
  intro k hk cu ls st H h
  subst hn
  unfold x_astore at h
  split at h
  · refine Or.inl fun p e R s m args below meth c QF C Hr locs lsr h1 h2 h3 h4 h5 => ?_
    exact lv_astore C.1 C.2.1 hd h3.has hl rfl (fun ls2 hl2 => (hk _ _ _ _ _ h).use C h1 h2 (h3.set rfl hl2) h4 h5)
  · refine Or.inl fun p e R s m args below meth c QF C Hr locs lsr h1 h2 h3 h4 h5 => ?_
    exact lv_astoreN C.1 C.2.1 hd h3.has hl rfl (fun ls2 hl2 => (hk _ _ _ _ _ h).use C h1 h2 (h3.set rfl hl2) h4 h5)
  · exact h.elim
theorem ok_astore_n {K : hK} {M : hM} {B : Nat × Nat} {Q : hPost} {pc nx : Nat} {i : Nat} {f : Fin 4} (hi : (f : Nat) = i) (hl : i < M.2.2.1) (hd : decode M.2.1 pc = .ok (.astore_n f, 1)) (hn : pc + 1 = nx) : hOk (hJ K M B Q) pc (x_astore nx i) := by
  intro k hk cu ls st H h
  subst hn
  unfold x_astore at h
  split at h
  · refine Or.inl fun p e R s m args below meth c QF C Hr locs lsr h1 h2 h3 h4 h5 => ?_
    exact lv_astore_n C.1 C.2.1 hd hi h3.has hl rfl (fun ls2 hl2 => (hk _ _ _ _ _ h).use C h1 h2 (h3.set rfl hl2) h4 h5)
  · refine Or.inl fun p e R s m args below meth c QF C Hr locs lsr h1 h2 h3 h4 h5 => ?_
    exact lv_astore_nN C.1 C.2.1 hd hi h3.has hl rfl (fun ls2 hl2 => (hk _ _ _ _ _ h).use C h1 h2 (h3.set rfl hl2) h4 h5)
  · exact h.elim
def x_iinc (nx i : Nat) (v : Int32) : hSem := fun k cu ls st H => match hGetL ls i with
  | some (.int x) => k nx cu (hSetL ls i (.int (x + v))) st H
  | _ => False
theorem ok_iinc {K : hK} {M : hM} {B : Nat × Nat} {Q : hPost} {pc nx : Nat} {i : Nat} {n : Int} {v : Int32} (hv : Int32.ofInt n = v) (hl : i < M.2.2.1) (hd : decode M.2.1 pc = .ok (.iinc i n, 3)) (hn : pc + 3 = nx) : hOk (hJ K M B Q) pc (x_iinc nx i v) := by
  intro k hk cu ls st H h
  subst hn
  unfold x_iinc at h
  subst hv
  split at h
  · rename_i x hg
    refine Or.inl fun p e R s m args below meth c QF C Hr locs lsr h1 h2 h3 h4 h5 => ?_
    obtain ⟨j, hj⟩ := List.getElem?_of_mem ((hPairs_mem ls 0 (i, .int x)).mpr ⟨Nat.zero_le _, by simpa using hg⟩)
    exact lv_iinc C.1 C.2.1 hd h3.has hj rfl hl rfl (fun ls2 hl2 => (hk _ _ _ _ _ h).use C h1 h2 (h3.set rfl hl2) h4 h5)
  · exact h.elim
def x_iadd (nx : Nat) : hSem := fun k cu ls st H => match st with
  | .int b :: .int a :: r => k nx cu ls (.int (a + b) :: r) H
  | _ => False
theorem ok_iadd {K : hK} {M : hM} {B : Nat × Nat} {Q : hPost} {pc nx : Nat} (hd : decode M.2.1 pc = .ok (.iadd, 1)) (hn : pc + 1 = nx) : hOk (hJ K M B Q) pc (x_iadd nx) := by
  intro k hk cu ls st H h
  subst hn
  unfold x_iadd at h
  split at h
  · refine Or.inl fun p e R s m args below meth c QF C Hr locs lsr h1 h2 h3 h4 h5 => ?_
    exact lv_iadd C.1 C.2.1 hd ((hk _ _ _ _ _ h).use C h1 h2 h3 h4 h5)
  · exact h.elim
def x_isub (nx : Nat) : hSem := fun k cu ls st H => match st with
  | .int b :: .int a :: r => k nx cu ls (.int (a - b) :: r) H
  | _ => False
theorem ok_isub {K : hK} {M : hM} {B : Nat × Nat} {Q : hPost} {pc nx : Nat} (hd : decode M.2.1 pc = .ok (.isub, 1)) (hn : pc + 1 = nx) : hOk (hJ K M B Q) pc (x_isub nx) := by
  intro k hk cu ls st H h
  subst hn
  unfold x_isub at h
  split at h
  · refine Or.inl fun p e R s m args below meth c QF C Hr locs lsr h1 h2 h3 h4 h5 => ?_
    exact lv_isub C.1 C.2.1 hd ((hk _ _ _ _ _ h).use C h1 h2 h3 h4 h5)
  · exact h.elim
def x_imul (nx : Nat) : hSem := fun k cu ls st H => match st with
  | .int b :: .int a :: r => k nx cu ls (.int (a * b) :: r) H
  | _ => False
theorem ok_imul {K : hK} {M : hM} {B : Nat × Nat} {Q : hPost} {pc nx : Nat} (hd : decode M.2.1 pc = .ok (.imul, 1)) (hn : pc + 1 = nx) : hOk (hJ K M B Q) pc (x_imul nx) := by
  intro k hk cu ls st H h
  subst hn
  unfold x_imul at h
  split at h
  · refine Or.inl fun p e R s m args below meth c QF C Hr locs lsr h1 h2 h3 h4 h5 => ?_
    exact lv_imul C.1 C.2.1 hd ((hk _ _ _ _ _ h).use C h1 h2 h3 h4 h5)
  · exact h.elim
def x_iand (nx : Nat) : hSem := fun k cu ls st H => match st with
  | .int b :: .int a :: r => k nx cu ls (.int (a &&& b) :: r) H
  | _ => False
theorem ok_iand {K : hK} {M : hM} {B : Nat × Nat} {Q : hPost} {pc nx : Nat} (hd : decode M.2.1 pc = .ok (.iand, 1)) (hn : pc + 1 = nx) : hOk (hJ K M B Q) pc (x_iand nx) := by
  intro k hk cu ls st H h
  subst hn
  unfold x_iand at h
  split at h
  · refine Or.inl fun p e R s m args below meth c QF C Hr locs lsr h1 h2 h3 h4 h5 => ?_
    exact lv_iand C.1 C.2.1 hd ((hk _ _ _ _ _ h).use C h1 h2 h3 h4 h5)
  · exact h.elim
def x_ior (nx : Nat) : hSem := fun k cu ls st H => match st with
  | .int b :: .int a :: r => k nx cu ls (.int (a ||| b) :: r) H
  | _ => False
theorem ok_ior {K : hK} {M : hM} {B : Nat × Nat} {Q : hPost} {pc nx : Nat} (hd : decode M.2.1 pc = .ok (.ior, 1)) (hn : pc + 1 = nx) : hOk (hJ K M B Q) pc (x_ior nx) := by
  intro k hk cu ls st H h
  subst hn
  unfold x_ior at h
  split at h
  · refine Or.inl fun p e R s m args below meth c QF C Hr locs lsr h1 h2 h3 h4 h5 => ?_
    exact lv_ior C.1 C.2.1 hd ((hk _ _ _ _ _ h).use C h1 h2 h3 h4 h5)
  · exact h.elim
def x_ixor (nx : Nat) : hSem := fun k cu ls st H => match st with
  | .int b :: .int a :: r => k nx cu ls (.int (a ^^^ b) :: r) H
  | _ => False
theorem ok_ixor {K : hK} {M : hM} {B : Nat × Nat} {Q : hPost} {pc nx : Nat} (hd : decode M.2.1 pc = .ok (.ixor, 1)) (hn : pc + 1 = nx) : hOk (hJ K M B Q) pc (x_ixor nx) := by
  intro k hk cu ls st H h
  subst hn
  unfold x_ixor at h
  split at h
  · refine Or.inl fun p e R s m args below meth c QF C Hr locs lsr h1 h2 h3 h4 h5 => ?_
    exact lv_ixor C.1 C.2.1 hd ((hk _ _ _ _ _ h).use C h1 h2 h3 h4 h5)
  · exact h.elim
def x_ishl (nx : Nat) : hSem := fun k cu ls st H => match st with
  | .int b :: .int a :: r => k nx cu ls (.int (a <<< (b &&& 31)) :: r) H
  | _ => False
theorem ok_ishl {K : hK} {M : hM} {B : Nat × Nat} {Q : hPost} {pc nx : Nat} (hd : decode M.2.1 pc = .ok (.ishl, 1)) (hn : pc + 1 = nx) : hOk (hJ K M B Q) pc (x_ishl nx) := by
  intro k hk cu ls st H h
  subst hn
  unfold x_ishl at h
  split at h
  · refine Or.inl fun p e R s m args below meth c QF C Hr locs lsr h1 h2 h3 h4 h5 => ?_
    exact lv_ishl C.1 C.2.1 hd ((hk _ _ _ _ _ h).use C h1 h2 h3 h4 h5)
  · exact h.elim
def x_ishr (nx : Nat) : hSem := fun k cu ls st H => match st with
  | .int b :: .int a :: r => k nx cu ls (.int (a >>> (b &&& 31)) :: r) H
  | _ => False
theorem ok_ishr {K : hK} {M : hM} {B : Nat × Nat} {Q : hPost} {pc nx : Nat} (hd : decode M.2.1 pc = .ok (.ishr, 1)) (hn : pc + 1 = nx) : hOk (hJ K M B Q) pc (x_ishr nx) := by
  intro k hk cu ls st H h
  subst hn
  unfold x_ishr at h
  split at h
  · refine Or.inl fun p e R s m args below meth c QF C Hr locs lsr h1 h2 h3 h4 h5 => ?_
    exact lv_ishr C.1 C.2.1 hd ((hk _ _ _ _ _ h).use C h1 h2 h3 h4 h5)
  · exact h.elim
def x_iushr (nx : Nat) : hSem := fun k cu ls st H => match st with
  | .int b :: .int a :: r => k nx cu ls (.int ((a.toUInt32 >>> (b.toUInt32 &&& Int32.toUInt32 31)).toInt32) :: r) H
  | _ => False
theorem ok_iushr {K : hK} {M : hM} {B : Nat × Nat} {Q : hPost} {pc nx : Nat} (hd : decode M.2.1 pc = .ok (.iushr, 1)) (hn : pc + 1 = nx) : hOk (hJ K M B Q) pc (x_iushr nx) := by
  intro k hk cu ls st H h
  subst hn
  unfold x_iushr at h
  split at h
  · refine Or.inl fun p e R s m args below meth c QF C Hr locs lsr h1 h2 h3 h4 h5 => ?_
    exact lv_iushr C.1 C.2.1 hd rfl ((hk _ _ _ _ _ h).use C h1 h2 h3 h4 h5)
  · exact h.elim
def x_idiv (nx : Nat) : hSem := fun k cu ls st H => match st with
  | .int b :: .int a :: r => ¬ b = 0 ∧ k nx cu ls (.int (a / b) :: r) H
  | _ => False
theorem ok_idiv {K : hK} {M : hM} {B : Nat × Nat} {Q : hPost} {pc nx : Nat} (hd : decode M.2.1 pc = .ok (.idiv, 1)) (hn : pc + 1 = nx) : hOk (hJ K M B Q) pc (x_idiv nx) := by
  intro k hk cu ls st H h
  subst hn
  unfold x_idiv at h
  split at h
  · refine Or.inl fun p e R s m args below meth c QF C Hr locs lsr h1 h2 h3 h4 h5 => ?_
    exact lv_idiv C.1 C.2.1 hd h.1 ((hk _ _ _ _ _ h.2).use C h1 h2 h3 h4 h5)
  · exact h.elim
def x_irem (nx : Nat) : hSem := fun k cu ls st H => match st with
  | .int b :: .int a :: r => ¬ b = 0 ∧ k nx cu ls (.int (a - a / b * b) :: r) H
  | _ => False
theorem ok_irem {K : hK} {M : hM} {B : Nat × Nat} {Q : hPost} {pc nx : Nat} (hd : decode M.2.1 pc = .ok (.irem, 1)) (hn : pc + 1 = nx) : hOk (hJ K M B Q) pc (x_irem nx) := by
  intro k hk cu ls st H h
  subst hn
  unfold x_irem at h
  split at h
  · refine Or.inl fun p e R s m args below meth c QF C Hr locs lsr h1 h2 h3 h4 h5 => ?_
    exact lv_irem C.1 C.2.1 hd h.1 ((hk _ _ _ _ _ h.2).use C h1 h2 h3 h4 h5)
  · exact h.elim
def x_i2c (nx : Nat) : hSem := fun k cu ls st H => match st with
  | .int a :: r => k nx cu ls (.int ((a.toUInt32 % 65536).toInt32) :: r) H
  | _ => False
theorem ok_i2c {K : hK} {M : hM} {B : Nat × Nat} {Q : hPost} {pc nx : Nat} (hd : decode M.2.1 pc = .ok (.i2c, 1)) (hn : pc + 1 = nx) : hOk (hJ K M B Q) pc (x_i2c nx) := by
  intro k hk cu ls st H h
  subst hn
  unfold x_i2c at h
  split at h
  · refine Or.inl fun p e R s m args below meth c QF C Hr locs lsr h1 h2 h3 h4 h5 => ?_
    exact lv_i2c C.1 C.2.1 hd rfl ((hk _ _ _ _ _ h).use C h1 h2 h3 h4 h5)
  · exact h.elim
def x_dup (nx : Nat) : hSem := fun k cu ls st H => match st with
  | .int a :: r => k nx cu ls (.int a :: .int a :: r) H
  | .ref a :: r => k nx cu ls (.ref a :: .ref a :: r) H
  | _ => False
theorem ok_dup {K : hK} {M : hM} {B : Nat × Nat} {Q : hPost} {pc nx : Nat} (hd : decode M.2.1 pc = .ok (.dup, 1)) (hn : pc + 1 = nx) : hOk (hJ K M B Q) pc (x_dup nx) := by
  intro k hk cu ls st H h
  subst hn
  unfold x_dup at h
  split at h
  · refine Or.inl fun p e R s m args below meth c QF C Hr locs lsr h1 h2 h3 h4 h5 => ?_
    exact lv_dup C.1 C.2.1 hd rfl ((hk _ _ _ _ _ h).use C h1 h2 h3 h4 h5)
  · refine Or.inl fun p e R s m args below meth c QF C Hr locs lsr h1 h2 h3 h4 h5 => ?_
    exact lv_dup C.1 C.2.1 hd rfl ((hk _ _ _ _ _ h).use C h1 h2 h3 h4 h5)
  · exact h.elim
def x_dup2 (nx : Nat) : hSem := fun k cu ls st H => match st with
  | .int i :: .ref a :: r => k nx cu ls (.int i :: .ref a :: .int i :: .ref a :: r) H
  | _ => False
theorem ok_dup2 {K : hK} {M : hM} {B : Nat × Nat} {Q : hPost} {pc nx : Nat} (hd : decode M.2.1 pc = .ok (.dup2, 1)) (hn : pc + 1 = nx) : hOk (hJ K M B Q) pc (x_dup2 nx) := by
  intro k hk cu ls st H h
  subst hn
  unfold x_dup2 at h
  split at h
  · refine Or.inl fun p e R s m args below meth c QF C Hr locs lsr h1 h2 h3 h4 h5 => ?_
    exact lv_dup2_11 C.1 C.2.1 hd rfl rfl ((hk _ _ _ _ _ h).use C h1 h2 h3 h4 h5)
  · exact h.elim
def x_pop (nx : Nat) : hSem := fun k cu ls st H => match st with
  | .int _ :: r => k nx cu ls r H
  | .ref _ :: r => k nx cu ls r H
  | _ => False
theorem ok_pop {K : hK} {M : hM} {B : Nat × Nat} {Q : hPost} {pc nx : Nat} (hd : decode M.2.1 pc = .ok (.pop, 1)) (hn : pc + 1 = nx) : hOk (hJ K M B Q) pc (x_pop nx) := by
  intro k hk cu ls st H h
  subst hn
  unfold x_pop at h
  split at h
  · refine Or.inl fun p e R s m args below meth c QF C Hr locs lsr h1 h2 h3 h4 h5 => ?_
    exact lv_pop C.1 C.2.1 hd rfl ((hk _ _ _ _ _ h).use C h1 h2 h3 h4 h5)
  · refine Or.inl fun p e R s m args below meth c QF C Hr locs lsr h1 h2 h3 h4 h5 => ?_
    exact lv_pop C.1 C.2.1 hd rfl ((hk _ _ _ _ _ h).use C h1 h2 h3 h4 h5)
  · exact h.elim
def x_goto (t : Nat) : hSem := fun k cu ls st H => k t cu ls st H
theorem ok_goto {K : hK} {M : hM} {B : Nat × Nat} {Q : hPost} {pc nx : Nat} {off : Int} (ht : (pc : Int) + off = (nx : Int)) (hd : decode M.2.1 pc = .ok (.goto off, 3)) : hOk (hJ K M B Q) pc (x_goto nx) := by
  intro k hk cu ls st H h
  refine Or.inl fun p e R s m args below meth c QF C Hr locs lsr h1 h2 h3 h4 h5 => ?_
  exact lv_goto C.1 C.2.1 hd ht ((hk _ _ _ _ _ h).use C h1 h2 h3 h4 h5)
def x_ifeq (t nx : Nat) : hSem := fun k cu ls st H => match st with
  | .int a :: r => (a = 0 → k t cu ls r H) ∧ (¬ a = 0 → k nx cu ls r H)
  | _ => False
theorem ok_ifeq {K : hK} {M : hM} {B : Nat × Nat} {Q : hPost} {pc nx : Nat} {t : Nat} {off : Int} (ht : (pc : Int) + off = (t : Int)) (hd : decode M.2.1 pc = .ok (.ifCond .eq off, 3)) (hn : pc + 3 = nx) : hOk (hJ K M B Q) pc (x_ifeq t nx) := by
  intro k hk cu ls st H h
  subst hn
  unfold x_ifeq at h
  split at h
  · refine Or.inl fun p e R s m args below meth c QF C Hr locs lsr h1 h2 h3 h4 h5 => ?_
    exact lv_if_eq C.1 C.2.1 hd ht (fun z => ((hk _ _ _ _ _ (h.1 z)).use C h1 h2 h3 h4 h5)) (fun z => ((hk _ _ _ _ _ (h.2 z)).use C h1 h2 h3 h4 h5))
  · exact h.elim
def x_ifne (t nx : Nat) : hSem := fun k cu ls st H => match st with
  | .int a :: r => (¬ a = 0 → k t cu ls r H) ∧ (a = 0 → k nx cu ls r H)
  | _ => False
theorem ok_ifne {K : hK} {M : hM} {B : Nat × Nat} {Q : hPost} {pc nx : Nat} {t : Nat} {off : Int} (ht : (pc : Int) + off = (t : Int)) (hd : decode M.2.1 pc = .ok (.ifCond .ne off, 3)) (hn : pc + 3 = nx) : hOk (hJ K M B Q) pc (x_ifne t nx) := by
  intro k hk cu ls st H h
  subst hn
  unfold x_ifne at h
  split at h
  · refine Or.inl fun p e R s m args below meth c QF C Hr locs lsr h1 h2 h3 h4 h5 => ?_
    exact lv_if_ne C.1 C.2.1 hd ht (fun z => ((hk _ _ _ _ _ (h.1 z)).use C h1 h2 h3 h4 h5)) (fun z => ((hk _ _ _ _ _ (h.2 z)).use C h1 h2 h3 h4 h5))
  · exact h.elim
def x_iflt (t nx : Nat) : hSem := fun k cu ls st H => match st with
  | .int a :: r => (a < 0 → k t cu ls r H) ∧ (¬ a < 0 → k nx cu ls r H)
  | _ => False
theorem ok_iflt {K : hK} {M : hM} {B : Nat × Nat} {Q : hPost} {pc nx : Nat} {t : Nat} {off : Int} (ht : (pc : Int) + off = (t : Int)) (hd : decode M.2.1 pc = .ok (.ifCond .lt off, 3)) (hn : pc + 3 = nx) : hOk (hJ K M B Q) pc (x_iflt t nx) := by
  intro k hk cu ls st H h
  subst hn
  unfold x_iflt at h
  split at h
  · refine Or.inl fun p e R s m args below meth c QF C Hr locs lsr h1 h2 h3 h4 h5 => ?_
    exact lv_if_lt C.1 C.2.1 hd ht (fun z => ((hk _ _ _ _ _ (h.1 z)).use C h1 h2 h3 h4 h5)) (fun z => ((hk _ _ _ _ _ (h.2 z)).use C h1 h2 h3 h4 h5))
  · exact h.elim
def x_ifge (t nx : Nat) : hSem := fun k cu ls st H => match st with
  | .int a :: r => (0 ≤ a → k t cu ls r H) ∧ (¬ 0 ≤ a → k nx cu ls r H)
  | _ => False
theorem ok_ifge {K : hK} {M : hM} {B : Nat × Nat} {Q : hPost} {pc nx : Nat} {t : Nat} {off : Int} (ht : (pc : Int) + off = (t : Int)) (hd : decode M.2.1 pc = .ok (.ifCond .ge off, 3)) (hn : pc + 3 = nx) : hOk (hJ K M B Q) pc (x_ifge t nx) := by
  intro k hk cu ls st H h
  subst hn
  unfold x_ifge at h
  split at h
  · refine Or.inl fun p e R s m args below meth c QF C Hr locs lsr h1 h2 h3 h4 h5 => ?_
    exact lv_if_ge C.1 C.2.1 hd ht (fun z => ((hk _ _ _ _ _ (h.1 z)).use C h1 h2 h3 h4 h5)) (fun z => ((hk _ _ _ _ _ (h.2 z)).use C h1 h2 h3 h4 h5))
  · exact h.elim
def x_ifgt (t nx : Nat) : hSem := fun k cu ls st H => match st with
  | .int a :: r => (0 < a → k t cu ls r H) ∧ (¬ 0 < a → k nx cu ls r H)
  | _ => False
theorem ok_ifgt {K : hK} {M : hM} {B : Nat × Nat} {Q : hPost} {pc nx : Nat} {t : Nat} {off : Int} (ht : (pc : Int) + off = (t : Int)) (hd : decode M.2.1 pc = .ok (.ifCond .gt off, 3)) (hn : pc + 3 = nx) : hOk (hJ K M B Q) pc (x_ifgt t nx) := by
  intro k hk cu ls st H h
  subst hn
  unfold x_ifgt at h
  split at h
  · refine Or.inl fun p e R s m args below meth c QF C Hr locs lsr h1 h2 h3 h4 h5 => ?_
    exact lv_if_gt C.1 C.2.1 hd ht (fun z => ((hk _ _ _ _ _ (h.1 z)).use C h1 h2 h3 h4 h5)) (fun z => ((hk _ _ _ _ _ (h.2 z)).use C h1 h2 h3 h4 h5))
  · exact h.elim
def x_ifle (t nx : Nat) : hSem := fun k cu ls st H => match st with
  | .int a :: r => (a ≤ 0 → k t cu ls r H) ∧ (¬ a ≤ 0 → k nx cu ls r H)
  | _ => False
theorem ok_ifle {K : hK} {M : hM} {B : Nat × Nat} {Q : hPost} {pc nx : Nat} {t : Nat} {off : Int} (ht : (pc : Int) + off = (t : Int)) (hd : decode M.2.1 pc = .ok (.ifCond .le off, 3)) (hn : pc + 3 = nx) : hOk (hJ K M B Q) pc (x_ifle t nx) := by
  intro k hk cu ls st H h
  subst hn
  unfold x_ifle at h
  split at h
  · refine Or.inl fun p e R s m args below meth c QF C Hr locs lsr h1 h2 h3 h4 h5 => ?_
    exact lv_if_le C.1 C.2.1 hd ht (fun z => ((hk _ _ _ _ _ (h.1 z)).use C h1 h2 h3 h4 h5)) (fun z => ((hk _ _ _ _ _ (h.2 z)).use C h1 h2 h3 h4 h5))
  · exact h.elim
def x_iceq (t nx : Nat) : hSem := fun k cu ls st H => match st with
  | .int b :: .int a :: r => (a = b → k t cu ls r H) ∧ (¬ a = b → k nx cu ls r H)
  | _ => False
theorem ok_iceq {K : hK} {M : hM} {B : Nat × Nat} {Q : hPost} {pc nx : Nat} {t : Nat} {off : Int} (ht : (pc : Int) + off = (t : Int)) (hd : decode M.2.1 pc = .ok (.if_icmp .eq off, 3)) (hn : pc + 3 = nx) : hOk (hJ K M B Q) pc (x_iceq t nx) := by
  intro k hk cu ls st H h
  subst hn
  unfold x_iceq at h
  split at h
  · refine Or.inl fun p e R s m args below meth c QF C Hr locs lsr h1 h2 h3 h4 h5 => ?_
    exact lv_icmp_eq C.1 C.2.1 hd ht (fun z => ((hk _ _ _ _ _ (h.1 z)).use C h1 h2 h3 h4 h5)) (fun z => ((hk _ _ _ _ _ (h.2 z)).use C h1 h2 h3 h4 h5))
  · exact h.elim
def x_icne (t nx : Nat) : hSem := fun k cu ls st H => match st with
  | .int b :: .int a :: r => (¬ a = b → k t cu ls r H) ∧ (a = b → k nx cu ls r H)
  | _ => False
theorem ok_icne {K : hK} {M : hM} {B : Nat × Nat} {Q : hPost} {pc nx : Nat} {t : Nat} {off : Int} (ht : (pc : Int) + off = (t : Int)) (hd : decode M.2.1 pc = .ok (.if_icmp .ne off, 3)) (hn : pc + 3 = nx) : hOk (hJ K M B Q) pc (x_icne t nx) := by
  intro k hk cu ls st H h
  subst hn
  unfold x_icne at h
  split at h
  · refine Or.inl fun p e R s m args below meth c QF C Hr locs lsr h1 h2 h3 h4 h5 => ?_
    exact lv_icmp_ne C.1 C.2.1 hd ht (fun z => ((hk _ _ _ _ _ (h.1 z)).use C h1 h2 h3 h4 h5)) (fun z => ((hk _ _ _ _ _ (h.2 z)).use C h1 h2 h3 h4 h5))
  · exact h.elim
def x_iclt (t nx : Nat) : hSem := fun k cu ls st H => match st with
  | .int b :: .int a :: r => (a < b → k t cu ls r H) ∧ (¬ a < b → k nx cu ls r H)
  | _ => False
theorem ok_iclt {K : hK} {M : hM} {B : Nat × Nat} {Q : hPost} {pc nx : Nat} {t : Nat} {off : Int} (ht : (pc : Int) + off = (t : Int)) (hd : decode M.2.1 pc = .ok (.if_icmp .lt off, 3)) (hn : pc + 3 = nx) : hOk (hJ K M B Q) pc (x_iclt t nx) := by
  intro k hk cu ls st H h
  subst hn
  unfold x_iclt at h
  split at h
  · refine Or.inl fun p e R s m args below meth c QF C Hr locs lsr h1 h2 h3 h4 h5 => ?_
    exact lv_icmp_lt C.1 C.2.1 hd ht (fun z => ((hk _ _ _ _ _ (h.1 z)).use C h1 h2 h3 h4 h5)) (fun z => ((hk _ _ _ _ _ (h.2 z)).use C h1 h2 h3 h4 h5))
  · exact h.elim
def x_icge (t nx : Nat) : hSem := fun k cu ls st H => match st with
  | .int b :: .int a :: r => (b ≤ a → k t cu ls r H) ∧ (¬ b ≤ a → k nx cu ls r H)
  | _ => False
theorem ok_icge {K : hK} {M : hM} {B : Nat × Nat} {Q : hPost} {pc nx : Nat} {t : Nat} {off : Int} (ht : (pc : Int) + off = (t : Int)) (hd : decode M.2.1 pc = .ok (.if_icmp .ge off, 3)) (hn : pc + 3 = nx) : hOk (hJ K M B Q) pc (x_icge t nx) := by
  intro k hk cu ls st H h
  subst hn
  unfold x_icge at h
  split at h
  · refine Or.inl fun p e R s m args below meth c QF C Hr locs lsr h1 h2 h3 h4 h5 => ?_
    exact lv_icmp_ge C.1 C.2.1 hd ht (fun z => ((hk _ _ _ _ _ (h.1 z)).use C h1 h2 h3 h4 h5)) (fun z => ((hk _ _ _ _ _ (h.2 z)).use C h1 h2 h3 h4 h5))
  · exact h.elim
def x_icgt (t nx : Nat) : hSem := fun k cu ls st H => match st with
  | .int b :: .int a :: r => (b < a → k t cu ls r H) ∧ (¬ b < a → k nx cu ls r H)
  | _ => False
theorem ok_icgt {K : hK} {M : hM} {B : Nat × Nat} {Q : hPost} {pc nx : Nat} {t : Nat} {off : Int} (ht : (pc : Int) + off = (t : Int)) (hd : decode M.2.1 pc = .ok (.if_icmp .gt off, 3)) (hn : pc + 3 = nx) : hOk (hJ K M B Q) pc (x_icgt t nx) := by
  intro k hk cu ls st H h
  subst hn
  unfold x_icgt at h
  split at h
  · refine Or.inl fun p e R s m args below meth c QF C Hr locs lsr h1 h2 h3 h4 h5 => ?_
    exact lv_icmp_gt C.1 C.2.1 hd ht (fun z => ((hk _ _ _ _ _ (h.1 z)).use C h1 h2 h3 h4 h5)) (fun z => ((hk _ _ _ _ _ (h.2 z)).use C h1 h2 h3 h4 h5))
  · exact h.elim
def x_icle (t nx : Nat) : hSem := fun k cu ls st H => match st with
  | .int b :: .int a :: r => (a ≤ b → k t cu ls r H) ∧ (¬ a ≤ b → k nx cu ls r H)
  | _ => False
theorem ok_icle {K : hK} {M : hM} {B : Nat × Nat} {Q : hPost} {pc nx : Nat} {t : Nat} {off : Int} (ht : (pc : Int) + off = (t : Int)) (hd : decode M.2.1 pc = .ok (.if_icmp .le off, 3)) (hn : pc + 3 = nx) : hOk (hJ K M B Q) pc (x_icle t nx) := by
  intro k hk cu ls st H h
  subst hn
  unfold x_icle at h
  split at h
  · refine Or.inl fun p e R s m args below meth c QF C Hr locs lsr h1 h2 h3 h4 h5 => ?_
    exact lv_icmp_le C.1 C.2.1 hd ht (fun z => ((hk _ _ _ _ _ (h.1 z)).use C h1 h2 h3 h4 h5)) (fun z => ((hk _ _ _ _ _ (h.2 z)).use C h1 h2 h3 h4 h5))
  · exact h.elim
def x_ifnull (t nx : Nat) : hSem := fun k cu ls st H => match st with
  | .null :: r => k t cu ls r H
  | .ref _ :: r => k nx cu ls r H
  | _ => False
theorem ok_ifnull {K : hK} {M : hM} {B : Nat × Nat} {Q : hPost} {pc nx : Nat} {t : Nat} {off : Int} (ht : (pc : Int) + off = (t : Int)) (hd : decode M.2.1 pc = .ok (.ifnull off, 3)) (hn : pc + 3 = nx) : hOk (hJ K M B Q) pc (x_ifnull t nx) := by
  intro k hk cu ls st H h
  subst hn
  unfold x_ifnull at h
  split at h
  · refine Or.inl fun p e R s m args below meth c QF C Hr locs lsr h1 h2 h3 h4 h5 => ?_
    exact lv_ifnullN C.1 C.2.1 hd ht ((hk _ _ _ _ _ h).use C h1 h2 h3 h4 h5)
  · refine Or.inl fun p e R s m args below meth c QF C Hr locs lsr h1 h2 h3 h4 h5 => ?_
    exact lv_ifnull C.1 C.2.1 hd ((hk _ _ _ _ _ h).use C h1 h2 h3 h4 h5)
  · exact h.elim
def x_ifnonnull (t nx : Nat) : hSem := fun k cu ls st H => match st with
  | .null :: r => k nx cu ls r H
  | .ref _ :: r => k t cu ls r H
  | _ => False
theorem ok_ifnonnull {K : hK} {M : hM} {B : Nat × Nat} {Q : hPost} {pc nx : Nat} {t : Nat} {off : Int} (ht : (pc : Int) + off = (t : Int)) (hd : decode M.2.1 pc = .ok (.ifnonnull off, 3)) (hn : pc + 3 = nx) : hOk (hJ K M B Q) pc (x_ifnonnull t nx) := by
  intro k hk cu ls st H h
  subst hn
  unfold x_ifnonnull at h
  split at h
  · refine Or.inl fun p e R s m args below meth c QF C Hr locs lsr h1 h2 h3 h4 h5 => ?_
    exact lv_ifnonnullN C.1 C.2.1 hd ((hk _ _ _ _ _ h).use C h1 h2 h3 h4 h5)
  · refine Or.inl fun p e R s m args below meth c QF C Hr locs lsr h1 h2 h3 h4 h5 => ?_
    exact lv_ifnonnull C.1 C.2.1 hd ht ((hk _ _ _ _ _ h).use C h1 h2 h3 h4 h5)
  · exact h.elim
def hTab (k : Nat → Prop) (x : Int32) (d : Nat) : List (Int32 × Nat) → Prop
  | [] => k d
  | (v, t) :: l => (x = v → k t) ∧ (¬ x = v → hTab k x d l)
theorem hTab_spec {k : Nat → Prop} {x : Int32} {d : Nat} : ∀ (l : List (Int32 × Nat)), hTab k x d l → (∃ j t : Nat, l[j]? = some (x, t) ∧ k t) ∨ ((∀ (j : Nat) (q : Int32 × Nat), l[j]? = some q → ¬ x = q.1) ∧ k d)
  | [], h => Or.inr ⟨fun j q hj => by simp at hj, h⟩
  | (v, t) :: l, h => by
    by_cases e : x = v
    · exact Or.inl ⟨0, t, by simp [e], h.1 e⟩
    · rcases hTab_spec l (h.2 e) with ⟨j, t', h1, h2⟩ | ⟨h1, h2⟩
      · exact Or.inl ⟨j + 1, t', by simpa using h1, h2⟩
      · refine Or.inr ⟨fun j q hj => ?_, h2⟩
        cases j with
        | zero => simp at hj; subst hj; exact e
        | succ j => exact h1 j q (by simpa using hj)
def hTabOk (pc : Nat) (offs : Array Int) : Int → Nat → List (Int32 × Nat) → Bool
  | _, _, [] => true
  | lo, j, (v, t) :: l => decide (v.toInt = lo + j) && (match offs[j]? with
    | some off => decide ((pc : Int) + off = (t : Int))
    | none => false) && hTabOk pc offs lo (j + 1) l
theorem hTabOk_spec {pc : Nat} {offs : Array Int} {lo : Int} : ∀ (l : List (Int32 × Nat)) (b : Nat), hTabOk pc offs lo b l = true → ∀ (j : Nat) (q : Int32 × Nat), l[j]? = some q → q.1.toInt = lo + (b + j : Nat) ∧ ∃ off, offs[b + j]? = some off ∧ (pc : Int) + off = (q.2 : Int)
  | [], _, _, j, q, hj => by simp at hj
  | (v, t) :: l, b, h, j, q, hj => by
    simp only [hTabOk, Bool.and_eq_true, decide_eq_true_eq] at h
    cases j with
    | zero =>
      simp at hj
      subst hj
      refine ⟨by simpa using h.1.1, ?_⟩
      have h2 := h.1.2
      split at h2
      · rename_i off ho
        exact ⟨off, by simpa using ho, by simpa using h2⟩
      · cases h2
    | succ j =>
      have := hTabOk_spec l (b + 1) h.2 j q (by simpa using hj)
      rw [show b + (j + 1) = b + 1 + j by omega]
      exact this
def x_tab (d : Nat) (l : List (Int32 × Nat)) : hSem := fun k cu ls st H => match st with
  | .int x :: r => hTab (fun t => k t cu ls r H) x d l
  | _ => False
theorem ok_tab {K : hK} {M : hM} {B : Nat × Nat} {Q : hPost} {pc nx : Nat} {dflt lo hi : Int} {offs : Array Int} {len : Nat} {l : List (Int32 × Nat)} (hd : decode M.2.1 pc = .ok (.tableswitch dflt lo hi offs, len)) (ht : (pc : Int) + dflt = (nx : Int)) (hT : hTabOk pc offs lo 0 l = true) (hl : lo + (l.length : Int) = hi + 1) : hOk (hJ K M B Q) pc (x_tab nx l) := by
  intro k hk cu ls st H h
  unfold x_tab at h
  split at h
  · rename_i x r
    refine Or.inl fun p e R s m args below meth c QF C Hr locs lsr h1 h2 h3 h4 h5 => ?_
    have hs := hTabOk_spec l 0 hT
    rcases hTab_spec l h with ⟨j, t, hj, hkt⟩ | ⟨hne, hkd⟩
    · obtain ⟨e1, off, e2, e3⟩ := hs j _ hj
      have hlt : j < l.length := (List.getElem?_eq_some_iff.mp hj).1
      simp only [Nat.zero_add] at e1 e2
      refine lv_tableIn C.1 C.2.1 hd (by omega) (by omega) (off := off) ?_ e3 ((hk _ _ _ _ _ hkt).use C h1 h2 h3 h4 h5)
      rw [e1, show (lo + (j : Int) - lo).toNat = j by omega]
      exact e2
    · refine lv_tableOut C.1 C.2.1 hd ?_ ht ((hk _ _ _ _ _ hkd).use C h1 h2 h3 h4 h5)
      by_cases z : x.toInt < lo ∨ hi < x.toInt
      · exact z
      · exfalso
        have hj : (x.toInt - lo).toNat < l.length := by omega
        obtain ⟨q, hq⟩ : ∃ q, l[(x.toInt - lo).toNat]? = some q := ⟨_, List.getElem?_eq_getElem hj⟩
        obtain ⟨e1, -⟩ := hs _ _ hq
        refine hne _ _ hq (Int32.toInt_inj.mp ?_)
        rw [e1]
        omega
  · exact h.elim
def hIRet : Option FieldType → Int32 → Prop
  | some .int, _ => True
  | some .boolean, v => v = 0 ∨ v = 1
  | _, _ => False
theorem hIRet_narrow {t : Option FieldType} {v : Int32} (h : hIRet t v) : ∃ ty, t = some ty ∧ narrow ty (.int v) = .int v := by
  unfold hIRet at h
  split at h
  · exact ⟨.int, rfl, rfl⟩
  · refine ⟨.boolean, rfl, ?_⟩
    rcases h with rfl | rfl <;> rfl
  · exact h.elim
def x_ireturn (t : Option FieldType) (Q : hPost) : hSem := fun k cu ls st H => match st with
  | [.int v] => hIRet t v ∧ Q (some (.int v)) H
  | _ => False
theorem ok_ireturn {K : hK} {M : hM} {B : Nat × Nat} {Q : hPost} {pc : Nat} (hd : decode M.2.1 pc = .ok (.ireturn, 1)) : hOk (hJ K M B Q) pc (x_ireturn M.2.2.2.1 Q) := by
  intro k hk cu ls st H h
  unfold x_ireturn at h
  split at h
  · rename_i v
    refine Or.inl fun p e R s m args below meth c QF C Hr locs lsr h1 h2 h3 h4 h5 => ?_
    obtain ⟨ty, e1, e2⟩ := hIRet_narrow h.1
    exact C.2.2.2.2.2.2.2.2.2.2 _ H cu Hr locs lsr pc _ _ (Or.inr (Or.inl ⟨v, ty, rfl, rfl, rfl, e1, e2⟩)) (by rw [C.2.1]; exact hd) h1 h2 h.2 h4 h5
  · exact h.elim
def x_return (Q : hPost) : hSem := fun k cu ls st H => match st with
  | [] => Q none H
  | _ => False
theorem ok_return {K : hK} {M : hM} {B : Nat × Nat} {Q : hPost} {pc : Nat} (hr : M.2.2.2.1 = none) (hd : decode M.2.1 pc = .ok (.return_, 1)) : hOk (hJ K M B Q) pc (x_return Q) := by
  intro k hk cu ls st H h
  unfold x_return at h
  split at h
  · refine Or.inl fun p e R s m args below meth c QF C Hr locs lsr h1 h2 h3 h4 h5 => ?_
    exact C.2.2.2.2.2.2.2.2.2.2 _ H cu Hr locs lsr pc _ _ (Or.inl ⟨rfl, rfl, rfl, hr⟩) (by rw [C.2.1]; exact hd) h1 h2 h h4 h5
  · exact h.elim
def x_areturn (Q : hPost) : hSem := fun k cu ls st H => match st with
  | [.ref a] => Q (some (.ref a)) H
  | [.null] => Q (some .null) H
  | _ => False
theorem ok_areturn {K : hK} {M : hM} {B : Nat × Nat} {Q : hPost} {pc : Nat} {cn : String} (hr : M.2.2.2.1 = some (.object cn)) (hd : decode M.2.1 pc = .ok (.areturn, 1)) : hOk (hJ K M B Q) pc (x_areturn Q) := by
  intro k hk cu ls st H h
  unfold x_areturn at h
  split at h
  · rename_i a
    refine Or.inl fun p e R s m args below meth c QF C Hr locs lsr h1 h2 h3 h4 h5 => ?_
    exact C.2.2.2.2.2.2.2.2.2.2 _ H cu Hr locs lsr pc _ _ (Or.inr (Or.inr ⟨_, cn, rfl, rfl, rfl, hr, Or.inr ⟨a, rfl⟩⟩)) (by rw [C.2.1]; exact hd) h1 h2 h h4 h5
  · refine Or.inl fun p e R s m args below meth c QF C Hr locs lsr h1 h2 h3 h4 h5 => ?_
    exact C.2.2.2.2.2.2.2.2.2.2 _ H cu Hr locs lsr pc _ _ (Or.inr (Or.inr ⟨_, cn, rfl, rfl, rfl, hr, Or.inl rfl⟩)) (by rw [C.2.1]; exact hd) h1 h2 h h4 h5
  · exact h.elim
end
section
theorem i_vc : Claimed_1_1 ∧ Claimed_1_2 := sorry
end
