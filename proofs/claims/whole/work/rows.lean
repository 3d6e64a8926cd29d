section
-- ===== PART A: goes FIRST, ahead of the names: the tables' words, and 'selects' of the private methods out of them =====
/-- a private method of a class that the tables say can be made, by its rows of tables_1 -/
def lw_okq (q : MethodName × Nat) : Prop := (q.1.cls ≠ "java/lang/invoke/MethodHandle" ∧ q.1.cls ≠ "java/lang/invoke/VarHandle") ∧ Cond.instantiable q.1.cls q.2 ∈ tables_1 ∧ Cond.privateMethod q.1 ∈ tables_1 ∧ Cond.instanceMethod q.1 ∈ tables_1
theorem lw_p0 : lw_okq (⟨"LoadCycles", "faulted", "(I)I"⟩, 14) := ⟨⟨by decide +kernel, by decide +kernel⟩, List.mem_of_getElem? (i := 14) (by decide +kernel), List.mem_of_getElem? (i := 232) (by decide +kernel), List.mem_of_getElem? (i := 233) (by decide +kernel)⟩
theorem lw_p1 : lw_okq (⟨"LoadCycles$TextReader", "goesOn", "(I)Z"⟩, 2) := ⟨⟨by decide +kernel, by decide +kernel⟩, List.mem_of_getElem? (i := 117) (by decide +kernel), List.mem_of_getElem? (i := 240) (by decide +kernel), List.mem_of_getElem? (i := 241) (by decide +kernel)⟩
theorem lw_p2 : lw_okq (⟨"LoadCycles$TextReader", "takesOpening", "(I)Z"⟩, 2) := ⟨⟨by decide +kernel, by decide +kernel⟩, List.mem_of_getElem? (i := 117) (by decide +kernel), List.mem_of_getElem? (i := 244) (by decide +kernel), List.mem_of_getElem? (i := 245) (by decide +kernel)⟩
theorem lw_p3 : lw_okq (⟨"LoadCycles$TextReader", "takesMark", "(I)Z"⟩, 2) := ⟨⟨by decide +kernel, by decide +kernel⟩, List.mem_of_getElem? (i := 117) (by decide +kernel), List.mem_of_getElem? (i := 248) (by decide +kernel), List.mem_of_getElem? (i := 249) (by decide +kernel)⟩
theorem lw_p4 : lw_okq (⟨"LoadCycles$TextReader", "takesKind", "(I)Z"⟩, 2) := ⟨⟨by decide +kernel, by decide +kernel⟩, List.mem_of_getElem? (i := 117) (by decide +kernel), List.mem_of_getElem? (i := 252) (by decide +kernel), List.mem_of_getElem? (i := 253) (by decide +kernel)⟩
theorem lw_p5 : lw_okq (⟨"LoadCycles$TextReader", "takesLevel", "(I)Z"⟩, 2) := ⟨⟨by decide +kernel, by decide +kernel⟩, List.mem_of_getElem? (i := 117) (by decide +kernel), List.mem_of_getElem? (i := 260) (by decide +kernel), List.mem_of_getElem? (i := 261) (by decide +kernel)⟩
theorem lw_p6 : lw_okq (⟨"LoadCycles", "forgetBest", "()V"⟩, 14) := ⟨⟨by decide +kernel, by decide +kernel⟩, List.mem_of_getElem? (i := 14) (by decide +kernel), List.mem_of_getElem? (i := 282) (by decide +kernel), List.mem_of_getElem? (i := 283) (by decide +kernel)⟩
theorem lw_p7 : lw_okq (⟨"LoadCycles", "hasHouse", "()Z"⟩, 14) := ⟨⟨by decide +kernel, by decide +kernel⟩, List.mem_of_getElem? (i := 14) (by decide +kernel), List.mem_of_getElem? (i := 326) (by decide +kernel), List.mem_of_getElem? (i := 327) (by decide +kernel)⟩
theorem lw_p8 : lw_okq (⟨"LoadCycles", "knownBest", "()LLoadCycles$Doing;"⟩, 14) := ⟨⟨by decide +kernel, by decide +kernel⟩, List.mem_of_getElem? (i := 14) (by decide +kernel), List.mem_of_getElem? (i := 354) (by decide +kernel), List.mem_of_getElem? (i := 355) (by decide +kernel)⟩
theorem lw_p9 : lw_okq (⟨"LoadCycles$Unmixer", "listMixes", "(LLoadCycles$House;)V"⟩, 6) := ⟨⟨by decide +kernel, by decide +kernel⟩, List.mem_of_getElem? (i := 92) (by decide +kernel), List.mem_of_getElem? (i := 362) (by decide +kernel), List.mem_of_getElem? (i := 363) (by decide +kernel)⟩
theorem lw_p10 : lw_okq (⟨"LoadCycles$Unmixer", "listWith", "(LLoadCycles$House;I)V"⟩, 6) := ⟨⟨by decide +kernel, by decide +kernel⟩, List.mem_of_getElem? (i := 92) (by decide +kernel), List.mem_of_getElem? (i := 366) (by decide +kernel), List.mem_of_getElem? (i := 367) (by decide +kernel)⟩
theorem lw_p11 : lw_okq (⟨"LoadCycles$Unmixer", "repeatAfter", "(III)V"⟩, 6) := ⟨⟨by decide +kernel, by decide +kernel⟩, List.mem_of_getElem? (i := 92) (by decide +kernel), List.mem_of_getElem? (i := 379) (by decide +kernel), List.mem_of_getElem? (i := 380) (by decide +kernel)⟩
theorem lw_p12 : lw_okq (⟨"LoadCycles$Unmixer", "findCosts", "(LLoadCycles$House;)V"⟩, 6) := ⟨⟨by decide +kernel, by decide +kernel⟩, List.mem_of_getElem? (i := 92) (by decide +kernel), List.mem_of_getElem? (i := 383) (by decide +kernel), List.mem_of_getElem? (i := 384) (by decide +kernel)⟩
theorem lw_p13 : lw_okq (⟨"LoadCycles$Unmixer", "letGoOn", "(I)V"⟩, 6) := ⟨⟨by decide +kernel, by decide +kernel⟩, List.mem_of_getElem? (i := 92) (by decide +kernel), List.mem_of_getElem? (i := 392) (by decide +kernel), List.mem_of_getElem? (i := 393) (by decide +kernel)⟩
theorem lw_p14 : lw_okq (⟨"LoadCycles$Unmixer", "bestSet", "(LLoadCycles$House;II)I"⟩, 6) := ⟨⟨by decide +kernel, by decide +kernel⟩, List.mem_of_getElem? (i := 92) (by decide +kernel), List.mem_of_getElem? (i := 408) (by decide +kernel), List.mem_of_getElem? (i := 409) (by decide +kernel)⟩
theorem lw_p15 : lw_okq (⟨"LoadCycles$Unmixer", "mixBehind", "(LLoadCycles$House;II)I"⟩, 6) := ⟨⟨by decide +kernel, by decide +kernel⟩, List.mem_of_getElem? (i := 92) (by decide +kernel), List.mem_of_getElem? (i := 412) (by decide +kernel), List.mem_of_getElem? (i := 413) (by decide +kernel)⟩
def lw_privs_1 : List (MethodName × Nat) := [(⟨"LoadCycles", "faulted", "(I)I"⟩, 14), (⟨"LoadCycles$TextReader", "goesOn", "(I)Z"⟩, 2), (⟨"LoadCycles$TextReader", "takesOpening", "(I)Z"⟩, 2), (⟨"LoadCycles$TextReader", "takesMark", "(I)Z"⟩, 2), (⟨"LoadCycles$TextReader", "takesKind", "(I)Z"⟩, 2), (⟨"LoadCycles$TextReader", "takesLevel", "(I)Z"⟩, 2), (⟨"LoadCycles", "forgetBest", "()V"⟩, 14), (⟨"LoadCycles", "hasHouse", "()Z"⟩, 14), (⟨"LoadCycles", "knownBest", "()LLoadCycles$Doing;"⟩, 14), (⟨"LoadCycles$Unmixer", "listMixes", "(LLoadCycles$House;)V"⟩, 6), (⟨"LoadCycles$Unmixer", "listWith", "(LLoadCycles$House;I)V"⟩, 6), (⟨"LoadCycles$Unmixer", "repeatAfter", "(III)V"⟩, 6), (⟨"LoadCycles$Unmixer", "findCosts", "(LLoadCycles$House;)V"⟩, 6), (⟨"LoadCycles$Unmixer", "letGoOn", "(I)V"⟩, 6), (⟨"LoadCycles$Unmixer", "bestSet", "(LLoadCycles$House;II)I"⟩, 6), (⟨"LoadCycles$Unmixer", "mixBehind", "(LLoadCycles$House;II)I"⟩, 6)]
theorem lw_r1 : ∀ q ∈ lw_privs_1, lw_okq q := List.forall_mem_cons.mpr ⟨lw_p0, List.forall_mem_cons.mpr ⟨lw_p1, List.forall_mem_cons.mpr ⟨lw_p2, List.forall_mem_cons.mpr ⟨lw_p3, List.forall_mem_cons.mpr ⟨lw_p4, List.forall_mem_cons.mpr ⟨lw_p5, List.forall_mem_cons.mpr ⟨lw_p6, List.forall_mem_cons.mpr ⟨lw_p7, List.forall_mem_cons.mpr ⟨lw_p8, List.forall_mem_cons.mpr ⟨lw_p9, List.forall_mem_cons.mpr ⟨lw_p10, List.forall_mem_cons.mpr ⟨lw_p11, List.forall_mem_cons.mpr ⟨lw_p12, List.forall_mem_cons.mpr ⟨lw_p13, List.forall_mem_cons.mpr ⟨lw_p14, List.forall_mem_cons.mpr ⟨lw_p15, fun _ h => absurd h List.not_mem_nil⟩⟩⟩⟩⟩⟩⟩⟩⟩⟩⟩⟩⟩⟩⟩⟩
theorem lw_p16 : lw_okq (⟨"LoadCycles", "liveTrialDay", "(LLoadCycles$Sheet;II)I"⟩, 14) := ⟨⟨by decide +kernel, by decide +kernel⟩, List.mem_of_getElem? (i := 14) (by decide +kernel), List.mem_of_getElem? (i := 467) (by decide +kernel), List.mem_of_getElem? (i := 468) (by decide +kernel)⟩
theorem lw_p17 : lw_okq (⟨"LoadCycles$House", "actedOnBase", "(I)Z"⟩, 7) := ⟨⟨by decide +kernel, by decide +kernel⟩, List.mem_of_getElem? (i := 22) (by decide +kernel), List.mem_of_getElem? (i := 475) (by decide +kernel), List.mem_of_getElem? (i := 476) (by decide +kernel)⟩
theorem lw_p18 : lw_okq (⟨"LoadCycles$House", "actedOnValue", "(II)Z"⟩, 7) := ⟨⟨by decide +kernel, by decide +kernel⟩, List.mem_of_getElem? (i := 22) (by decide +kernel), List.mem_of_getElem? (i := 480) (by decide +kernel), List.mem_of_getElem? (i := 481) (by decide +kernel)⟩
theorem lw_p19 : lw_okq (⟨"LoadCycles$House", "actedOnLevel", "(III)Z"⟩, 7) := ⟨⟨by decide +kernel, by decide +kernel⟩, List.mem_of_getElem? (i := 22) (by decide +kernel), List.mem_of_getElem? (i := 485) (by decide +kernel), List.mem_of_getElem? (i := 486) (by decide +kernel)⟩
theorem lw_p20 : lw_okq (⟨"LoadCycles", "answerOfTrialDay", "(I)I"⟩, 14) := ⟨⟨by decide +kernel, by decide +kernel⟩, List.mem_of_getElem? (i := 14) (by decide +kernel), List.mem_of_getElem? (i := 491) (by decide +kernel), List.mem_of_getElem? (i := 492) (by decide +kernel)⟩
theorem lw_p21 : lw_okq (⟨"LoadCycles", "powerGain", "(LLoadCycles$Doing;II)I"⟩, 14) := ⟨⟨by decide +kernel, by decide +kernel⟩, List.mem_of_getElem? (i := 14) (by decide +kernel), List.mem_of_getElem? (i := 507) (by decide +kernel), List.mem_of_getElem? (i := 508) (by decide +kernel)⟩
theorem lw_p22 : lw_okq (⟨"LoadCycles", "readingsHold", "(II)Z"⟩, 14) := ⟨⟨by decide +kernel, by decide +kernel⟩, List.mem_of_getElem? (i := 14) (by decide +kernel), List.mem_of_getElem? (i := 546) (by decide +kernel), List.mem_of_getElem? (i := 547) (by decide +kernel)⟩
theorem lw_p23 : lw_okq (⟨"LoadCycles", "unmixGuess", "(II)V"⟩, 14) := ⟨⟨by decide +kernel, by decide +kernel⟩, List.mem_of_getElem? (i := 14) (by decide +kernel), List.mem_of_getElem? (i := 554) (by decide +kernel), List.mem_of_getElem? (i := 555) (by decide +kernel)⟩
theorem lw_p24 : lw_okq (⟨"LoadCycles", "tellPlain", "(I)I"⟩, 14) := ⟨⟨by decide +kernel, by decide +kernel⟩, List.mem_of_getElem? (i := 14) (by decide +kernel), List.mem_of_getElem? (i := 616) (by decide +kernel), List.mem_of_getElem? (i := 617) (by decide +kernel)⟩
theorem lw_p25 : lw_okq (⟨"LoadCycles", "leaveTrace", "(I)V"⟩, 14) := ⟨⟨by decide +kernel, by decide +kernel⟩, List.mem_of_getElem? (i := 14) (by decide +kernel), List.mem_of_getElem? (i := 620) (by decide +kernel), List.mem_of_getElem? (i := 621) (by decide +kernel)⟩
theorem lw_p26 : lw_okq (⟨"LoadCycles", "tellHeavy", "(I)I"⟩, 14) := ⟨⟨by decide +kernel, by decide +kernel⟩, List.mem_of_getElem? (i := 14) (by decide +kernel), List.mem_of_getElem? (i := 624) (by decide +kernel), List.mem_of_getElem? (i := 625) (by decide +kernel)⟩
theorem lw_p27 : lw_okq (⟨"LoadCycles", "tellDouble", "(I)I"⟩, 14) := ⟨⟨by decide +kernel, by decide +kernel⟩, List.mem_of_getElem? (i := 14) (by decide +kernel), List.mem_of_getElem? (i := 628) (by decide +kernel), List.mem_of_getElem? (i := 629) (by decide +kernel)⟩
theorem lw_p28 : lw_okq (⟨"LoadCycles", "ownMetering", "()I"⟩, 14) := ⟨⟨by decide +kernel, by decide +kernel⟩, List.mem_of_getElem? (i := 14) (by decide +kernel), List.mem_of_getElem? (i := 636) (by decide +kernel), List.mem_of_getElem? (i := 637) (by decide +kernel)⟩
theorem lw_p29 : lw_okq (⟨"LoadCycles", "lentMetering", "(I)I"⟩, 14) := ⟨⟨by decide +kernel, by decide +kernel⟩, List.mem_of_getElem? (i := 14) (by decide +kernel), List.mem_of_getElem? (i := 640) (by decide +kernel), List.mem_of_getElem? (i := 641) (by decide +kernel)⟩
theorem lw_p30 : lw_okq (⟨"LoadCyclesModel", "against", "(IIII)I"⟩, 33) := ⟨⟨by decide +kernel, by decide +kernel⟩, List.mem_of_getElem? (i := 664) (by decide +kernel), List.mem_of_getElem? (i := 785) (by decide +kernel), List.mem_of_getElem? (i := 786) (by decide +kernel)⟩
theorem lw_p31 : lw_okq (⟨"LoadCyclesModel", "fails", "(I)I"⟩, 33) := ⟨⟨by decide +kernel, by decide +kernel⟩, List.mem_of_getElem? (i := 664) (by decide +kernel), List.mem_of_getElem? (i := 789) (by decide +kernel), List.mem_of_getElem? (i := 790) (by decide +kernel)⟩
def lw_privs_2 : List (MethodName × Nat) := [(⟨"LoadCycles", "liveTrialDay", "(LLoadCycles$Sheet;II)I"⟩, 14), (⟨"LoadCycles$House", "actedOnBase", "(I)Z"⟩, 7), (⟨"LoadCycles$House", "actedOnValue", "(II)Z"⟩, 7), (⟨"LoadCycles$House", "actedOnLevel", "(III)Z"⟩, 7), (⟨"LoadCycles", "answerOfTrialDay", "(I)I"⟩, 14), (⟨"LoadCycles", "powerGain", "(LLoadCycles$Doing;II)I"⟩, 14), (⟨"LoadCycles", "readingsHold", "(II)Z"⟩, 14), (⟨"LoadCycles", "unmixGuess", "(II)V"⟩, 14), (⟨"LoadCycles", "tellPlain", "(I)I"⟩, 14), (⟨"LoadCycles", "leaveTrace", "(I)V"⟩, 14), (⟨"LoadCycles", "tellHeavy", "(I)I"⟩, 14), (⟨"LoadCycles", "tellDouble", "(I)I"⟩, 14), (⟨"LoadCycles", "ownMetering", "()I"⟩, 14), (⟨"LoadCycles", "lentMetering", "(I)I"⟩, 14), (⟨"LoadCyclesModel", "against", "(IIII)I"⟩, 33), (⟨"LoadCyclesModel", "fails", "(I)I"⟩, 33)]
theorem lw_r2 : ∀ q ∈ lw_privs_2, lw_okq q := List.forall_mem_cons.mpr ⟨lw_p16, List.forall_mem_cons.mpr ⟨lw_p17, List.forall_mem_cons.mpr ⟨lw_p18, List.forall_mem_cons.mpr ⟨lw_p19, List.forall_mem_cons.mpr ⟨lw_p20, List.forall_mem_cons.mpr ⟨lw_p21, List.forall_mem_cons.mpr ⟨lw_p22, List.forall_mem_cons.mpr ⟨lw_p23, List.forall_mem_cons.mpr ⟨lw_p24, List.forall_mem_cons.mpr ⟨lw_p25, List.forall_mem_cons.mpr ⟨lw_p26, List.forall_mem_cons.mpr ⟨lw_p27, List.forall_mem_cons.mpr ⟨lw_p28, List.forall_mem_cons.mpr ⟨lw_p29, List.forall_mem_cons.mpr ⟨lw_p30, List.forall_mem_cons.mpr ⟨lw_p31, fun _ h => absurd h List.not_mem_nil⟩⟩⟩⟩⟩⟩⟩⟩⟩⟩⟩⟩⟩⟩⟩⟩
theorem lw_p32 : lw_okq (⟨"LoadCyclesModel", "readAll", "(I)Z"⟩, 33) := ⟨⟨by decide +kernel, by decide +kernel⟩, List.mem_of_getElem? (i := 664) (by decide +kernel), List.mem_of_getElem? (i := 793) (by decide +kernel), List.mem_of_getElem? (i := 794) (by decide +kernel)⟩
theorem lw_p33 : lw_okq (⟨"LoadCyclesModel", "isSign", "(II)Z"⟩, 33) := ⟨⟨by decide +kernel, by decide +kernel⟩, List.mem_of_getElem? (i := 664) (by decide +kernel), List.mem_of_getElem? (i := 797) (by decide +kernel), List.mem_of_getElem? (i := 798) (by decide +kernel)⟩
theorem lw_p34 : lw_okq (⟨"LoadCyclesModel", "readAppliance", "(I)Z"⟩, 33) := ⟨⟨by decide +kernel, by decide +kernel⟩, List.mem_of_getElem? (i := 664) (by decide +kernel), List.mem_of_getElem? (i := 801) (by decide +kernel), List.mem_of_getElem? (i := 802) (by decide +kernel)⟩
theorem lw_p35 : lw_okq (⟨"LoadCyclesModel", "isAppliance", "(I)Z"⟩, 33) := ⟨⟨by decide +kernel, by decide +kernel⟩, List.mem_of_getElem? (i := 664) (by decide +kernel), List.mem_of_getElem? (i := 814) (by decide +kernel), List.mem_of_getElem? (i := 815) (by decide +kernel)⟩
theorem lw_p36 : lw_okq (⟨"LoadCyclesModel", "powerOf", "(II)I"⟩, 33) := ⟨⟨by decide +kernel, by decide +kernel⟩, List.mem_of_getElem? (i := 664) (by decide +kernel), List.mem_of_getElem? (i := 822) (by decide +kernel), List.mem_of_getElem? (i := 823) (by decide +kernel)⟩
theorem lw_p37 : lw_okq (⟨"LoadCyclesModel", "isTime", "(I)Z"⟩, 33) := ⟨⟨by decide +kernel, by decide +kernel⟩, List.mem_of_getElem? (i := 664) (by decide +kernel), List.mem_of_getElem? (i := 840) (by decide +kernel), List.mem_of_getElem? (i := 841) (by decide +kernel)⟩
theorem lw_p38 : lw_okq (⟨"LoadCyclesModel", "canBase", "(I)Z"⟩, 33) := ⟨⟨by decide +kernel, by decide +kernel⟩, List.mem_of_getElem? (i := 664) (by decide +kernel), List.mem_of_getElem? (i := 848) (by decide +kernel), List.mem_of_getElem? (i := 849) (by decide +kernel)⟩
theorem lw_p39 : lw_okq (⟨"LoadCyclesModel", "findBest", "()V"⟩, 33) := ⟨⟨by decide +kernel, by decide +kernel⟩, List.mem_of_getElem? (i := 664) (by decide +kernel), List.mem_of_getElem? (i := 856) (by decide +kernel), List.mem_of_getElem? (i := 857) (by decide +kernel)⟩
theorem lw_p40 : lw_okq (⟨"LoadCyclesModel", "prepare", "()V"⟩, 33) := ⟨⟨by decide +kernel, by decide +kernel⟩, List.mem_of_getElem? (i := 664) (by decide +kernel), List.mem_of_getElem? (i := 860) (by decide +kernel), List.mem_of_getElem? (i := 861) (by decide +kernel)⟩
theorem lw_p41 : lw_okq (⟨"LoadCyclesModel", "powerOfRow", "(I)I"⟩, 33) := ⟨⟨by decide +kernel, by decide +kernel⟩, List.mem_of_getElem? (i := 664) (by decide +kernel), List.mem_of_getElem? (i := 864) (by decide +kernel), List.mem_of_getElem? (i := 865) (by decide +kernel)⟩
theorem lw_p42 : lw_okq (⟨"LoadCyclesModel", "goesOn", "(II)I"⟩, 33) := ⟨⟨by decide +kernel, by decide +kernel⟩, List.mem_of_getElem? (i := 664) (by decide +kernel), List.mem_of_getElem? (i := 871) (by decide +kernel), List.mem_of_getElem? (i := 872) (by decide +kernel)⟩
theorem lw_p43 : lw_okq (⟨"LoadCyclesModel", "goFrom", "(II)V"⟩, 33) := ⟨⟨by decide +kernel, by decide +kernel⟩, List.mem_of_getElem? (i := 664) (by decide +kernel), List.mem_of_getElem? (i := 875) (by decide +kernel), List.mem_of_getElem? (i := 876) (by decide +kernel)⟩
theorem lw_p44 : lw_okq (⟨"LoadCyclesModel", "isBetter", "(IIII)Z"⟩, 33) := ⟨⟨by decide +kernel, by decide +kernel⟩, List.mem_of_getElem? (i := 664) (by decide +kernel), List.mem_of_getElem? (i := 882) (by decide +kernel), List.mem_of_getElem? (i := 883) (by decide +kernel)⟩
theorem lw_p45 : lw_okq (⟨"LoadCyclesModel", "rankAll", "(I)V"⟩, 33) := ⟨⟨by decide +kernel, by decide +kernel⟩, List.mem_of_getElem? (i := 664) (by decide +kernel), List.mem_of_getElem? (i := 886) (by decide +kernel), List.mem_of_getElem? (i := 887) (by decide +kernel)⟩
theorem lw_p46 : lw_okq (⟨"LoadCyclesModel", "walkBack", "()V"⟩, 33) := ⟨⟨by decide +kernel, by decide +kernel⟩, List.mem_of_getElem? (i := 664) (by decide +kernel), List.mem_of_getElem? (i := 890) (by decide +kernel), List.mem_of_getElem? (i := 891) (by decide +kernel)⟩
theorem lw_p47 : lw_okq (⟨"LoadCyclesModel", "restOf", "(I)I"⟩, 33) := ⟨⟨by decide +kernel, by decide +kernel⟩, List.mem_of_getElem? (i := 664) (by decide +kernel), List.mem_of_getElem? (i := 898) (by decide +kernel), List.mem_of_getElem? (i := 899) (by decide +kernel)⟩
def lw_privs_3 : List (MethodName × Nat) := [(⟨"LoadCyclesModel", "readAll", "(I)Z"⟩, 33), (⟨"LoadCyclesModel", "isSign", "(II)Z"⟩, 33), (⟨"LoadCyclesModel", "readAppliance", "(I)Z"⟩, 33), (⟨"LoadCyclesModel", "isAppliance", "(I)Z"⟩, 33), (⟨"LoadCyclesModel", "powerOf", "(II)I"⟩, 33), (⟨"LoadCyclesModel", "isTime", "(I)Z"⟩, 33), (⟨"LoadCyclesModel", "canBase", "(I)Z"⟩, 33), (⟨"LoadCyclesModel", "findBest", "()V"⟩, 33), (⟨"LoadCyclesModel", "prepare", "()V"⟩, 33), (⟨"LoadCyclesModel", "powerOfRow", "(I)I"⟩, 33), (⟨"LoadCyclesModel", "goesOn", "(II)I"⟩, 33), (⟨"LoadCyclesModel", "goFrom", "(II)V"⟩, 33), (⟨"LoadCyclesModel", "isBetter", "(IIII)Z"⟩, 33), (⟨"LoadCyclesModel", "rankAll", "(I)V"⟩, 33), (⟨"LoadCyclesModel", "walkBack", "()V"⟩, 33), (⟨"LoadCyclesModel", "restOf", "(I)I"⟩, 33)]
theorem lw_r3 : ∀ q ∈ lw_privs_3, lw_okq q := List.forall_mem_cons.mpr ⟨lw_p32, List.forall_mem_cons.mpr ⟨lw_p33, List.forall_mem_cons.mpr ⟨lw_p34, List.forall_mem_cons.mpr ⟨lw_p35, List.forall_mem_cons.mpr ⟨lw_p36, List.forall_mem_cons.mpr ⟨lw_p37, List.forall_mem_cons.mpr ⟨lw_p38, List.forall_mem_cons.mpr ⟨lw_p39, List.forall_mem_cons.mpr ⟨lw_p40, List.forall_mem_cons.mpr ⟨lw_p41, List.forall_mem_cons.mpr ⟨lw_p42, List.forall_mem_cons.mpr ⟨lw_p43, List.forall_mem_cons.mpr ⟨lw_p44, List.forall_mem_cons.mpr ⟨lw_p45, List.forall_mem_cons.mpr ⟨lw_p46, List.forall_mem_cons.mpr ⟨lw_p47, fun _ h => absurd h List.not_mem_nil⟩⟩⟩⟩⟩⟩⟩⟩⟩⟩⟩⟩⟩⟩⟩⟩
theorem lw_p48 : lw_okq (⟨"LoadCyclesModel", "rests", "()I"⟩, 33) := ⟨⟨by decide +kernel, by decide +kernel⟩, List.mem_of_getElem? (i := 664) (by decide +kernel), List.mem_of_getElem? (i := 906) (by decide +kernel), List.mem_of_getElem? (i := 907) (by decide +kernel)⟩
theorem lw_p49 : lw_okq (⟨"LoadCyclesModel", "changes", "(Z)I"⟩, 33) := ⟨⟨by decide +kernel, by decide +kernel⟩, List.mem_of_getElem? (i := 664) (by decide +kernel), List.mem_of_getElem? (i := 910) (by decide +kernel), List.mem_of_getElem? (i := 911) (by decide +kernel)⟩
theorem lw_p50 : lw_okq (⟨"LoadCyclesModel", "ahead", "(II)I"⟩, 33) := ⟨⟨by decide +kernel, by decide +kernel⟩, List.mem_of_getElem? (i := 664) (by decide +kernel), List.mem_of_getElem? (i := 914) (by decide +kernel), List.mem_of_getElem? (i := 915) (by decide +kernel)⟩
theorem lw_p51 : lw_okq (⟨"LoadCyclesModel", "energies", "()I"⟩, 33) := ⟨⟨by decide +kernel, by decide +kernel⟩, List.mem_of_getElem? (i := 664) (by decide +kernel), List.mem_of_getElem? (i := 918) (by decide +kernel), List.mem_of_getElem? (i := 919) (by decide +kernel)⟩
theorem lw_p52 : lw_okq (⟨"LoadCyclesModel", "energyOf", "(I)I"⟩, 33) := ⟨⟨by decide +kernel, by decide +kernel⟩, List.mem_of_getElem? (i := 664) (by decide +kernel), List.mem_of_getElem? (i := 922) (by decide +kernel), List.mem_of_getElem? (i := 923) (by decide +kernel)⟩
theorem lw_p53 : lw_okq (⟨"LoadCyclesModel", "keep", "()V"⟩, 33) := ⟨⟨by decide +kernel, by decide +kernel⟩, List.mem_of_getElem? (i := 664) (by decide +kernel), List.mem_of_getElem? (i := 941) (by decide +kernel), List.mem_of_getElem? (i := 942) (by decide +kernel)⟩
theorem lw_p54 : lw_okq (⟨"LoadCyclesModel", "goDay", "(II)I"⟩, 33) := ⟨⟨by decide +kernel, by decide +kernel⟩, List.mem_of_getElem? (i := 664) (by decide +kernel), List.mem_of_getElem? (i := 945) (by decide +kernel), List.mem_of_getElem? (i := 946) (by decide +kernel)⟩
theorem lw_p55 : lw_okq (⟨"LoadCyclesModel", "canAct", "(II)Z"⟩, 33) := ⟨⟨by decide +kernel, by decide +kernel⟩, List.mem_of_getElem? (i := 664) (by decide +kernel), List.mem_of_getElem? (i := 949) (by decide +kernel), List.mem_of_getElem? (i := 950) (by decide +kernel)⟩
theorem lw_p56 : lw_okq (⟨"LoadCyclesModel", "tellDay", "(I)I"⟩, 33) := ⟨⟨by decide +kernel, by decide +kernel⟩, List.mem_of_getElem? (i := 664) (by decide +kernel), List.mem_of_getElem? (i := 953) (by decide +kernel), List.mem_of_getElem? (i := 954) (by decide +kernel)⟩
theorem lw_p57 : lw_okq (⟨"LoadCyclesModel", "putBack", "()V"⟩, 33) := ⟨⟨by decide +kernel, by decide +kernel⟩, List.mem_of_getElem? (i := 664) (by decide +kernel), List.mem_of_getElem? (i := 957) (by decide +kernel), List.mem_of_getElem? (i := 958) (by decide +kernel)⟩
theorem lw_p58 : lw_okq (⟨"LoadCyclesModel", "jumpOf", "(I)I"⟩, 33) := ⟨⟨by decide +kernel, by decide +kernel⟩, List.mem_of_getElem? (i := 664) (by decide +kernel), List.mem_of_getElem? (i := 965) (by decide +kernel), List.mem_of_getElem? (i := 966) (by decide +kernel)⟩
theorem lw_p59 : lw_okq (⟨"LoadCyclesModel", "moreOf", "(II)I"⟩, 33) := ⟨⟨by decide +kernel, by decide +kernel⟩, List.mem_of_getElem? (i := 664) (by decide +kernel), List.mem_of_getElem? (i := 973) (by decide +kernel), List.mem_of_getElem? (i := 974) (by decide +kernel)⟩
theorem lw_p60 : lw_okq (⟨"LoadCyclesModel", "allValues", "()I"⟩, 33) := ⟨⟨by decide +kernel, by decide +kernel⟩, List.mem_of_getElem? (i := 664) (by decide +kernel), List.mem_of_getElem? (i := 985) (by decide +kernel), List.mem_of_getElem? (i := 986) (by decide +kernel)⟩
theorem lw_p61 : lw_okq (⟨"LoadCyclesModel", "areSo", "()Z"⟩, 33) := ⟨⟨by decide +kernel, by decide +kernel⟩, List.mem_of_getElem? (i := 664) (by decide +kernel), List.mem_of_getElem? (i := 1010) (by decide +kernel), List.mem_of_getElem? (i := 1011) (by decide +kernel)⟩
theorem lw_p62 : lw_okq (⟨"LoadCyclesModel", "lost", "(I)J"⟩, 33) := ⟨⟨by decide +kernel, by decide +kernel⟩, List.mem_of_getElem? (i := 664) (by decide +kernel), List.mem_of_getElem? (i := 1041) (by decide +kernel), List.mem_of_getElem? (i := 1042) (by decide +kernel)⟩
theorem lw_p63 : lw_okq (⟨"LoadCyclesModel", "begins", "(I)V"⟩, 33) := ⟨⟨by decide +kernel, by decide +kernel⟩, List.mem_of_getElem? (i := 664) (by decide +kernel), List.mem_of_getElem? (i := 1053) (by decide +kernel), List.mem_of_getElem? (i := 1054) (by decide +kernel)⟩
def lw_privs_4 : List (MethodName × Nat) := [(⟨"LoadCyclesModel", "rests", "()I"⟩, 33), (⟨"LoadCyclesModel", "changes", "(Z)I"⟩, 33), (⟨"LoadCyclesModel", "ahead", "(II)I"⟩, 33), (⟨"LoadCyclesModel", "energies", "()I"⟩, 33), (⟨"LoadCyclesModel", "energyOf", "(I)I"⟩, 33), (⟨"LoadCyclesModel", "keep", "()V"⟩, 33), (⟨"LoadCyclesModel", "goDay", "(II)I"⟩, 33), (⟨"LoadCyclesModel", "canAct", "(II)Z"⟩, 33), (⟨"LoadCyclesModel", "tellDay", "(I)I"⟩, 33), (⟨"LoadCyclesModel", "putBack", "()V"⟩, 33), (⟨"LoadCyclesModel", "jumpOf", "(I)I"⟩, 33), (⟨"LoadCyclesModel", "moreOf", "(II)I"⟩, 33), (⟨"LoadCyclesModel", "allValues", "()I"⟩, 33), (⟨"LoadCyclesModel", "areSo", "()Z"⟩, 33), (⟨"LoadCyclesModel", "lost", "(I)J"⟩, 33), (⟨"LoadCyclesModel", "begins", "(I)V"⟩, 33)]
theorem lw_r4 : ∀ q ∈ lw_privs_4, lw_okq q := List.forall_mem_cons.mpr ⟨lw_p48, List.forall_mem_cons.mpr ⟨lw_p49, List.forall_mem_cons.mpr ⟨lw_p50, List.forall_mem_cons.mpr ⟨lw_p51, List.forall_mem_cons.mpr ⟨lw_p52, List.forall_mem_cons.mpr ⟨lw_p53, List.forall_mem_cons.mpr ⟨lw_p54, List.forall_mem_cons.mpr ⟨lw_p55, List.forall_mem_cons.mpr ⟨lw_p56, List.forall_mem_cons.mpr ⟨lw_p57, List.forall_mem_cons.mpr ⟨lw_p58, List.forall_mem_cons.mpr ⟨lw_p59, List.forall_mem_cons.mpr ⟨lw_p60, List.forall_mem_cons.mpr ⟨lw_p61, List.forall_mem_cons.mpr ⟨lw_p62, List.forall_mem_cons.mpr ⟨lw_p63, fun _ h => absurd h List.not_mem_nil⟩⟩⟩⟩⟩⟩⟩⟩⟩⟩⟩⟩⟩⟩⟩⟩
def lw_privs : List (MethodName × Nat) := lw_privs_1 ++ (lw_privs_2 ++ (lw_privs_3 ++ (lw_privs_4)))
def lw_tbl : List Cond := k2_sels lw_privs ++ tables_1
theorem lw_privs_ok : ∀ q ∈ lw_privs, lw_okq q := by
  show ∀ q ∈ lw_privs_1 ++ (lw_privs_2 ++ (lw_privs_3 ++ (lw_privs_4))), lw_okq q
  exact List.forall_mem_append.mpr ⟨lw_r1, List.forall_mem_append.mpr ⟨lw_r2, List.forall_mem_append.mpr ⟨lw_r3, lw_r4⟩⟩⟩
/-- the words that every method's contract takes: those of the tables that stay as the tables warm -/
def TB : List Cond := lw_tbl.filter goodWord
theorem tb_of {w : Cond} (h : w ∈ lw_tbl) (hg : goodWord w = true) : w ∈ TB := List.mem_filter.mpr ⟨h, hg⟩
theorem tb_goodIn : GoodIn TB TB := fun _ h => ⟨h, good_of_word (List.mem_filter.mp h).2⟩
theorem wd_0 : (.selects "LoadCycles" ⟨"LoadCycles", "faulted", "(I)I"⟩ ⟨"LoadCycles", "faulted", "(I)I"⟩ : Cond) ∈ TB := tb_of (List.mem_of_getElem? (i := 0) (by decide +kernel)) rfl
theorem wd_1 : (.selects "LoadCycles$TextReader" ⟨"LoadCycles$TextReader", "goesOn", "(I)Z"⟩ ⟨"LoadCycles$TextReader", "goesOn", "(I)Z"⟩ : Cond) ∈ TB := tb_of (List.mem_of_getElem? (i := 1) (by decide +kernel)) rfl
theorem wd_2 : (.selects "LoadCycles$TextReader" ⟨"LoadCycles$TextReader", "takesOpening", "(I)Z"⟩ ⟨"LoadCycles$TextReader", "takesOpening", "(I)Z"⟩ : Cond) ∈ TB := tb_of (List.mem_of_getElem? (i := 2) (by decide +kernel)) rfl
theorem wd_3 : (.selects "LoadCycles$TextReader" ⟨"LoadCycles$TextReader", "takesMark", "(I)Z"⟩ ⟨"LoadCycles$TextReader", "takesMark", "(I)Z"⟩ : Cond) ∈ TB := tb_of (List.mem_of_getElem? (i := 3) (by decide +kernel)) rfl
theorem wd_4 : (.selects "LoadCycles$TextReader" ⟨"LoadCycles$TextReader", "takesKind", "(I)Z"⟩ ⟨"LoadCycles$TextReader", "takesKind", "(I)Z"⟩ : Cond) ∈ TB := tb_of (List.mem_of_getElem? (i := 4) (by decide +kernel)) rfl
theorem wd_5 : (.selects "LoadCycles$TextReader" ⟨"LoadCycles$TextReader", "takesLevel", "(I)Z"⟩ ⟨"LoadCycles$TextReader", "takesLevel", "(I)Z"⟩ : Cond) ∈ TB := tb_of (List.mem_of_getElem? (i := 5) (by decide +kernel)) rfl
theorem wd_6 : (.selects "LoadCycles" ⟨"LoadCycles", "forgetBest", "()V"⟩ ⟨"LoadCycles", "forgetBest", "()V"⟩ : Cond) ∈ TB := tb_of (List.mem_of_getElem? (i := 6) (by decide +kernel)) rfl
theorem wd_7 : (.selects "LoadCycles" ⟨"LoadCycles", "hasHouse", "()Z"⟩ ⟨"LoadCycles", "hasHouse", "()Z"⟩ : Cond) ∈ TB := tb_of (List.mem_of_getElem? (i := 7) (by decide +kernel)) rfl
theorem wd_8 : (.selects "LoadCycles" ⟨"LoadCycles", "knownBest", "()LLoadCycles$Doing;"⟩ ⟨"LoadCycles", "knownBest", "()LLoadCycles$Doing;"⟩ : Cond) ∈ TB := tb_of (List.mem_of_getElem? (i := 8) (by decide +kernel)) rfl
theorem wd_9 : (.selects "LoadCycles$Unmixer" ⟨"LoadCycles$Unmixer", "listMixes", "(LLoadCycles$House;)V"⟩ ⟨"LoadCycles$Unmixer", "listMixes", "(LLoadCycles$House;)V"⟩ : Cond) ∈ TB := tb_of (List.mem_of_getElem? (i := 9) (by decide +kernel)) rfl
theorem wd_10 : (.selects "LoadCycles$Unmixer" ⟨"LoadCycles$Unmixer", "listWith", "(LLoadCycles$House;I)V"⟩ ⟨"LoadCycles$Unmixer", "listWith", "(LLoadCycles$House;I)V"⟩ : Cond) ∈ TB := tb_of (List.mem_of_getElem? (i := 10) (by decide +kernel)) rfl
theorem wd_11 : (.selects "LoadCycles$Unmixer" ⟨"LoadCycles$Unmixer", "repeatAfter", "(III)V"⟩ ⟨"LoadCycles$Unmixer", "repeatAfter", "(III)V"⟩ : Cond) ∈ TB := tb_of (List.mem_of_getElem? (i := 11) (by decide +kernel)) rfl
theorem wd_12 : (.selects "LoadCycles$Unmixer" ⟨"LoadCycles$Unmixer", "findCosts", "(LLoadCycles$House;)V"⟩ ⟨"LoadCycles$Unmixer", "findCosts", "(LLoadCycles$House;)V"⟩ : Cond) ∈ TB := tb_of (List.mem_of_getElem? (i := 12) (by decide +kernel)) rfl
theorem wd_13 : (.selects "LoadCycles$Unmixer" ⟨"LoadCycles$Unmixer", "letGoOn", "(I)V"⟩ ⟨"LoadCycles$Unmixer", "letGoOn", "(I)V"⟩ : Cond) ∈ TB := tb_of (List.mem_of_getElem? (i := 13) (by decide +kernel)) rfl
theorem wd_14 : (.selects "LoadCycles$Unmixer" ⟨"LoadCycles$Unmixer", "bestSet", "(LLoadCycles$House;II)I"⟩ ⟨"LoadCycles$Unmixer", "bestSet", "(LLoadCycles$House;II)I"⟩ : Cond) ∈ TB := tb_of (List.mem_of_getElem? (i := 14) (by decide +kernel)) rfl
theorem wd_15 : (.selects "LoadCycles$Unmixer" ⟨"LoadCycles$Unmixer", "mixBehind", "(LLoadCycles$House;II)I"⟩ ⟨"LoadCycles$Unmixer", "mixBehind", "(LLoadCycles$House;II)I"⟩ : Cond) ∈ TB := tb_of (List.mem_of_getElem? (i := 15) (by decide +kernel)) rfl
theorem wd_16 : (.selects "LoadCycles" ⟨"LoadCycles", "liveTrialDay", "(LLoadCycles$Sheet;II)I"⟩ ⟨"LoadCycles", "liveTrialDay", "(LLoadCycles$Sheet;II)I"⟩ : Cond) ∈ TB := tb_of (List.mem_of_getElem? (i := 16) (by decide +kernel)) rfl
theorem wd_17 : (.selects "LoadCycles$House" ⟨"LoadCycles$House", "actedOnBase", "(I)Z"⟩ ⟨"LoadCycles$House", "actedOnBase", "(I)Z"⟩ : Cond) ∈ TB := tb_of (List.mem_of_getElem? (i := 17) (by decide +kernel)) rfl
theorem wd_18 : (.selects "LoadCycles$House" ⟨"LoadCycles$House", "actedOnValue", "(II)Z"⟩ ⟨"LoadCycles$House", "actedOnValue", "(II)Z"⟩ : Cond) ∈ TB := tb_of (List.mem_of_getElem? (i := 18) (by decide +kernel)) rfl
theorem wd_19 : (.selects "LoadCycles$House" ⟨"LoadCycles$House", "actedOnLevel", "(III)Z"⟩ ⟨"LoadCycles$House", "actedOnLevel", "(III)Z"⟩ : Cond) ∈ TB := tb_of (List.mem_of_getElem? (i := 19) (by decide +kernel)) rfl
theorem wd_20 : (.selects "LoadCycles" ⟨"LoadCycles", "answerOfTrialDay", "(I)I"⟩ ⟨"LoadCycles", "answerOfTrialDay", "(I)I"⟩ : Cond) ∈ TB := tb_of (List.mem_of_getElem? (i := 20) (by decide +kernel)) rfl
theorem wd_21 : (.selects "LoadCycles" ⟨"LoadCycles", "powerGain", "(LLoadCycles$Doing;II)I"⟩ ⟨"LoadCycles", "powerGain", "(LLoadCycles$Doing;II)I"⟩ : Cond) ∈ TB := tb_of (List.mem_of_getElem? (i := 21) (by decide +kernel)) rfl
theorem wd_22 : (.selects "LoadCycles" ⟨"LoadCycles", "readingsHold", "(II)Z"⟩ ⟨"LoadCycles", "readingsHold", "(II)Z"⟩ : Cond) ∈ TB := tb_of (List.mem_of_getElem? (i := 22) (by decide +kernel)) rfl
theorem wd_23 : (.selects "LoadCycles" ⟨"LoadCycles", "unmixGuess", "(II)V"⟩ ⟨"LoadCycles", "unmixGuess", "(II)V"⟩ : Cond) ∈ TB := tb_of (List.mem_of_getElem? (i := 23) (by decide +kernel)) rfl
theorem wd_24 : (.selects "LoadCycles" ⟨"LoadCycles", "tellPlain", "(I)I"⟩ ⟨"LoadCycles", "tellPlain", "(I)I"⟩ : Cond) ∈ TB := tb_of (List.mem_of_getElem? (i := 24) (by decide +kernel)) rfl
theorem wd_25 : (.selects "LoadCycles" ⟨"LoadCycles", "leaveTrace", "(I)V"⟩ ⟨"LoadCycles", "leaveTrace", "(I)V"⟩ : Cond) ∈ TB := tb_of (List.mem_of_getElem? (i := 25) (by decide +kernel)) rfl
theorem wd_26 : (.selects "LoadCycles" ⟨"LoadCycles", "tellHeavy", "(I)I"⟩ ⟨"LoadCycles", "tellHeavy", "(I)I"⟩ : Cond) ∈ TB := tb_of (List.mem_of_getElem? (i := 26) (by decide +kernel)) rfl
theorem wd_27 : (.selects "LoadCycles" ⟨"LoadCycles", "tellDouble", "(I)I"⟩ ⟨"LoadCycles", "tellDouble", "(I)I"⟩ : Cond) ∈ TB := tb_of (List.mem_of_getElem? (i := 27) (by decide +kernel)) rfl
theorem wd_28 : (.selects "LoadCycles" ⟨"LoadCycles", "ownMetering", "()I"⟩ ⟨"LoadCycles", "ownMetering", "()I"⟩ : Cond) ∈ TB := tb_of (List.mem_of_getElem? (i := 28) (by decide +kernel)) rfl
theorem wd_29 : (.selects "LoadCycles" ⟨"LoadCycles", "lentMetering", "(I)I"⟩ ⟨"LoadCycles", "lentMetering", "(I)I"⟩ : Cond) ∈ TB := tb_of (List.mem_of_getElem? (i := 29) (by decide +kernel)) rfl
theorem wd_30 : (.selects "LoadCyclesModel" ⟨"LoadCyclesModel", "against", "(IIII)I"⟩ ⟨"LoadCyclesModel", "against", "(IIII)I"⟩ : Cond) ∈ TB := tb_of (List.mem_of_getElem? (i := 30) (by decide +kernel)) rfl
theorem wd_31 : (.selects "LoadCyclesModel" ⟨"LoadCyclesModel", "fails", "(I)I"⟩ ⟨"LoadCyclesModel", "fails", "(I)I"⟩ : Cond) ∈ TB := tb_of (List.mem_of_getElem? (i := 31) (by decide +kernel)) rfl
theorem wd_32 : (.selects "LoadCyclesModel" ⟨"LoadCyclesModel", "readAll", "(I)Z"⟩ ⟨"LoadCyclesModel", "readAll", "(I)Z"⟩ : Cond) ∈ TB := tb_of (List.mem_of_getElem? (i := 32) (by decide +kernel)) rfl
theorem wd_33 : (.selects "LoadCyclesModel" ⟨"LoadCyclesModel", "isSign", "(II)Z"⟩ ⟨"LoadCyclesModel", "isSign", "(II)Z"⟩ : Cond) ∈ TB := tb_of (List.mem_of_getElem? (i := 33) (by decide +kernel)) rfl
theorem wd_34 : (.selects "LoadCyclesModel" ⟨"LoadCyclesModel", "readAppliance", "(I)Z"⟩ ⟨"LoadCyclesModel", "readAppliance", "(I)Z"⟩ : Cond) ∈ TB := tb_of (List.mem_of_getElem? (i := 34) (by decide +kernel)) rfl
theorem wd_35 : (.selects "LoadCyclesModel" ⟨"LoadCyclesModel", "isAppliance", "(I)Z"⟩ ⟨"LoadCyclesModel", "isAppliance", "(I)Z"⟩ : Cond) ∈ TB := tb_of (List.mem_of_getElem? (i := 35) (by decide +kernel)) rfl
theorem wd_36 : (.selects "LoadCyclesModel" ⟨"LoadCyclesModel", "powerOf", "(II)I"⟩ ⟨"LoadCyclesModel", "powerOf", "(II)I"⟩ : Cond) ∈ TB := tb_of (List.mem_of_getElem? (i := 36) (by decide +kernel)) rfl
theorem wd_37 : (.selects "LoadCyclesModel" ⟨"LoadCyclesModel", "isTime", "(I)Z"⟩ ⟨"LoadCyclesModel", "isTime", "(I)Z"⟩ : Cond) ∈ TB := tb_of (List.mem_of_getElem? (i := 37) (by decide +kernel)) rfl
theorem wd_38 : (.selects "LoadCyclesModel" ⟨"LoadCyclesModel", "canBase", "(I)Z"⟩ ⟨"LoadCyclesModel", "canBase", "(I)Z"⟩ : Cond) ∈ TB := tb_of (List.mem_of_getElem? (i := 38) (by decide +kernel)) rfl
theorem wd_39 : (.selects "LoadCyclesModel" ⟨"LoadCyclesModel", "findBest", "()V"⟩ ⟨"LoadCyclesModel", "findBest", "()V"⟩ : Cond) ∈ TB := tb_of (List.mem_of_getElem? (i := 39) (by decide +kernel)) rfl
theorem wd_40 : (.selects "LoadCyclesModel" ⟨"LoadCyclesModel", "prepare", "()V"⟩ ⟨"LoadCyclesModel", "prepare", "()V"⟩ : Cond) ∈ TB := tb_of (List.mem_of_getElem? (i := 40) (by decide +kernel)) rfl
theorem wd_41 : (.selects "LoadCyclesModel" ⟨"LoadCyclesModel", "powerOfRow", "(I)I"⟩ ⟨"LoadCyclesModel", "powerOfRow", "(I)I"⟩ : Cond) ∈ TB := tb_of (List.mem_of_getElem? (i := 41) (by decide +kernel)) rfl
theorem wd_42 : (.selects "LoadCyclesModel" ⟨"LoadCyclesModel", "goesOn", "(II)I"⟩ ⟨"LoadCyclesModel", "goesOn", "(II)I"⟩ : Cond) ∈ TB := tb_of (List.mem_of_getElem? (i := 42) (by decide +kernel)) rfl
theorem wd_43 : (.selects "LoadCyclesModel" ⟨"LoadCyclesModel", "goFrom", "(II)V"⟩ ⟨"LoadCyclesModel", "goFrom", "(II)V"⟩ : Cond) ∈ TB := tb_of (List.mem_of_getElem? (i := 43) (by decide +kernel)) rfl
theorem wd_44 : (.selects "LoadCyclesModel" ⟨"LoadCyclesModel", "isBetter", "(IIII)Z"⟩ ⟨"LoadCyclesModel", "isBetter", "(IIII)Z"⟩ : Cond) ∈ TB := tb_of (List.mem_of_getElem? (i := 44) (by decide +kernel)) rfl
theorem wd_45 : (.selects "LoadCyclesModel" ⟨"LoadCyclesModel", "rankAll", "(I)V"⟩ ⟨"LoadCyclesModel", "rankAll", "(I)V"⟩ : Cond) ∈ TB := tb_of (List.mem_of_getElem? (i := 45) (by decide +kernel)) rfl
theorem wd_46 : (.selects "LoadCyclesModel" ⟨"LoadCyclesModel", "walkBack", "()V"⟩ ⟨"LoadCyclesModel", "walkBack", "()V"⟩ : Cond) ∈ TB := tb_of (List.mem_of_getElem? (i := 46) (by decide +kernel)) rfl
theorem wd_47 : (.selects "LoadCyclesModel" ⟨"LoadCyclesModel", "restOf", "(I)I"⟩ ⟨"LoadCyclesModel", "restOf", "(I)I"⟩ : Cond) ∈ TB := tb_of (List.mem_of_getElem? (i := 47) (by decide +kernel)) rfl
theorem wd_48 : (.selects "LoadCyclesModel" ⟨"LoadCyclesModel", "rests", "()I"⟩ ⟨"LoadCyclesModel", "rests", "()I"⟩ : Cond) ∈ TB := tb_of (List.mem_of_getElem? (i := 48) (by decide +kernel)) rfl
theorem wd_49 : (.selects "LoadCyclesModel" ⟨"LoadCyclesModel", "changes", "(Z)I"⟩ ⟨"LoadCyclesModel", "changes", "(Z)I"⟩ : Cond) ∈ TB := tb_of (List.mem_of_getElem? (i := 49) (by decide +kernel)) rfl
theorem wd_50 : (.selects "LoadCyclesModel" ⟨"LoadCyclesModel", "ahead", "(II)I"⟩ ⟨"LoadCyclesModel", "ahead", "(II)I"⟩ : Cond) ∈ TB := tb_of (List.mem_of_getElem? (i := 50) (by decide +kernel)) rfl
theorem wd_51 : (.selects "LoadCyclesModel" ⟨"LoadCyclesModel", "energies", "()I"⟩ ⟨"LoadCyclesModel", "energies", "()I"⟩ : Cond) ∈ TB := tb_of (List.mem_of_getElem? (i := 51) (by decide +kernel)) rfl
theorem wd_52 : (.selects "LoadCyclesModel" ⟨"LoadCyclesModel", "energyOf", "(I)I"⟩ ⟨"LoadCyclesModel", "energyOf", "(I)I"⟩ : Cond) ∈ TB := tb_of (List.mem_of_getElem? (i := 52) (by decide +kernel)) rfl
theorem wd_53 : (.selects "LoadCyclesModel" ⟨"LoadCyclesModel", "keep", "()V"⟩ ⟨"LoadCyclesModel", "keep", "()V"⟩ : Cond) ∈ TB := tb_of (List.mem_of_getElem? (i := 53) (by decide +kernel)) rfl
theorem wd_54 : (.selects "LoadCyclesModel" ⟨"LoadCyclesModel", "goDay", "(II)I"⟩ ⟨"LoadCyclesModel", "goDay", "(II)I"⟩ : Cond) ∈ TB := tb_of (List.mem_of_getElem? (i := 54) (by decide +kernel)) rfl
theorem wd_55 : (.selects "LoadCyclesModel" ⟨"LoadCyclesModel", "canAct", "(II)Z"⟩ ⟨"LoadCyclesModel", "canAct", "(II)Z"⟩ : Cond) ∈ TB := tb_of (List.mem_of_getElem? (i := 55) (by decide +kernel)) rfl
theorem wd_56 : (.selects "LoadCyclesModel" ⟨"LoadCyclesModel", "tellDay", "(I)I"⟩ ⟨"LoadCyclesModel", "tellDay", "(I)I"⟩ : Cond) ∈ TB := tb_of (List.mem_of_getElem? (i := 56) (by decide +kernel)) rfl
theorem wd_57 : (.selects "LoadCyclesModel" ⟨"LoadCyclesModel", "putBack", "()V"⟩ ⟨"LoadCyclesModel", "putBack", "()V"⟩ : Cond) ∈ TB := tb_of (List.mem_of_getElem? (i := 57) (by decide +kernel)) rfl
theorem wd_58 : (.selects "LoadCyclesModel" ⟨"LoadCyclesModel", "jumpOf", "(I)I"⟩ ⟨"LoadCyclesModel", "jumpOf", "(I)I"⟩ : Cond) ∈ TB := tb_of (List.mem_of_getElem? (i := 58) (by decide +kernel)) rfl
theorem wd_59 : (.selects "LoadCyclesModel" ⟨"LoadCyclesModel", "moreOf", "(II)I"⟩ ⟨"LoadCyclesModel", "moreOf", "(II)I"⟩ : Cond) ∈ TB := tb_of (List.mem_of_getElem? (i := 59) (by decide +kernel)) rfl
theorem wd_60 : (.selects "LoadCyclesModel" ⟨"LoadCyclesModel", "allValues", "()I"⟩ ⟨"LoadCyclesModel", "allValues", "()I"⟩ : Cond) ∈ TB := tb_of (List.mem_of_getElem? (i := 60) (by decide +kernel)) rfl
theorem wd_61 : (.selects "LoadCyclesModel" ⟨"LoadCyclesModel", "areSo", "()Z"⟩ ⟨"LoadCyclesModel", "areSo", "()Z"⟩ : Cond) ∈ TB := tb_of (List.mem_of_getElem? (i := 61) (by decide +kernel)) rfl
theorem wd_62 : (.selects "LoadCyclesModel" ⟨"LoadCyclesModel", "lost", "(I)J"⟩ ⟨"LoadCyclesModel", "lost", "(I)J"⟩ : Cond) ∈ TB := tb_of (List.mem_of_getElem? (i := 62) (by decide +kernel)) rfl
theorem wd_63 : (.selects "LoadCyclesModel" ⟨"LoadCyclesModel", "begins", "(I)V"⟩ ⟨"LoadCyclesModel", "begins", "(I)V"⟩ : Cond) ∈ TB := tb_of (List.mem_of_getElem? (i := 63) (by decide +kernel)) rfl
theorem wd_64 : (.initialized "LoadCyclesLaw" : Cond) ∈ TB := tb_of (List.mem_of_getElem? (i := 64) (by decide +kernel)) rfl
theorem wd_65 : (.initialized "LoadCycles" : Cond) ∈ TB := tb_of (List.mem_of_getElem? (i := 65) (by decide +kernel)) rfl
theorem wd_66 : (.initialized "LoadCycles$House" : Cond) ∈ TB := tb_of (List.mem_of_getElem? (i := 66) (by decide +kernel)) rfl
theorem wd_67 : (.initialized "LoadCycles$Doing" : Cond) ∈ TB := tb_of (List.mem_of_getElem? (i := 67) (by decide +kernel)) rfl
theorem wd_68 : (.initialized "LoadCycles$Unmixer" : Cond) ∈ TB := tb_of (List.mem_of_getElem? (i := 68) (by decide +kernel)) rfl
theorem wd_69 : (.initialized "LoadCycles$TextReader" : Cond) ∈ TB := tb_of (List.mem_of_getElem? (i := 69) (by decide +kernel)) rfl
theorem wd_70 : (.initialized "LoadCycles$Guesses" : Cond) ∈ TB := tb_of (List.mem_of_getElem? (i := 70) (by decide +kernel)) rfl
theorem wd_71 : (.initialized "LoadCycles$Sheet" : Cond) ∈ TB := tb_of (List.mem_of_getElem? (i := 71) (by decide +kernel)) rfl
theorem wd_72 : (.initialized "LoadCyclesModel" : Cond) ∈ TB := tb_of (List.mem_of_getElem? (i := 72) (by decide +kernel)) rfl
theorem wd_73 : (.initialized "java/lang/System" : Cond) ∈ TB := tb_of (List.mem_of_getElem? (i := 73) (by decide +kernel)) rfl
theorem wd_74 : (.initialized "java/util/Arrays" : Cond) ∈ TB := tb_of (List.mem_of_getElem? (i := 74) (by decide +kernel)) rfl
theorem wd_75 : (.initialized "java/lang/Math" : Cond) ∈ TB := tb_of (List.mem_of_getElem? (i := 75) (by decide +kernel)) rfl
theorem wd_76 : (.initialized "java/lang/Integer" : Cond) ∈ TB := tb_of (List.mem_of_getElem? (i := 76) (by decide +kernel)) rfl
theorem wd_77 : (.classLink "LoadCyclesLaw" 7 "LoadCycles" : Cond) ∈ TB := tb_of (List.mem_of_getElem? (i := 77) (by decide +kernel)) rfl
theorem wd_78 : (.instantiable "LoadCycles" 14 : Cond) ∈ TB := tb_of (List.mem_of_getElem? (i := 78) (by decide +kernel)) rfl
theorem wd_79 : (.methodLink "LoadCyclesLaw" 9 ⟨"LoadCycles", "<init>", "()V"⟩ : Cond) ∈ TB := tb_of (List.mem_of_getElem? (i := 79) (by decide +kernel)) rfl
theorem wd_80 : (.instanceMethod ⟨"LoadCycles", "<init>", "()V"⟩ : Cond) ∈ TB := tb_of (List.mem_of_getElem? (i := 80) (by decide +kernel)) rfl
set_option maxRecDepth 20000 in
theorem wd_81 : (.code ⟨"LoadCycles", "<init>", "()V"⟩ prog_1_method_1_code 2 (none : Option FieldType) : Cond) ∈ TB := tb_of (List.mem_of_getElem? (i := 81) rfl) rfl
theorem wd_82 : (.methodLink "LoadCycles" 3 ⟨"java/lang/Object", "<init>", "()V"⟩ : Cond) ∈ TB := tb_of (List.mem_of_getElem? (i := 82) (by decide +kernel)) rfl
theorem wd_83 : (.instanceMethod ⟨"java/lang/Object", "<init>", "()V"⟩ : Cond) ∈ TB := tb_of (List.mem_of_getElem? (i := 83) (by decide +kernel)) rfl
set_option maxRecDepth 20000 in
theorem wd_84 : (.code ⟨"java/lang/Object", "<init>", "()V"⟩ object_method_1_code 1 (none : Option FieldType) : Cond) ∈ TB := tb_of (List.mem_of_getElem? (i := 84) rfl) rfl
theorem wd_85 : (.classLink "LoadCycles" 9 "LoadCycles$House" : Cond) ∈ TB := tb_of (List.mem_of_getElem? (i := 85) (by decide +kernel)) rfl
theorem wd_86 : (.instantiable "LoadCycles$House" 7 : Cond) ∈ TB := tb_of (List.mem_of_getElem? (i := 86) (by decide +kernel)) rfl
theorem wd_87 : (.methodLinkNest "LoadCycles" 11 ⟨"LoadCycles$House", "<init>", "()V"⟩ "LoadCycles" : Cond) ∈ lw_tbl := List.mem_of_getElem? (i := 87) (by decide +kernel)
theorem wd_88 : (.instanceMethod ⟨"LoadCycles$House", "<init>", "()V"⟩ : Cond) ∈ TB := tb_of (List.mem_of_getElem? (i := 88) (by decide +kernel)) rfl
set_option maxRecDepth 20000 in
theorem wd_89 : (.code ⟨"LoadCycles$House", "<init>", "()V"⟩ prog_4_method_1_code 1 (none : Option FieldType) : Cond) ∈ TB := tb_of (List.mem_of_getElem? (i := 89) rfl) rfl
theorem wd_90 : (.methodLink "LoadCycles$House" 3 ⟨"java/lang/Object", "<init>", "()V"⟩ : Cond) ∈ TB := tb_of (List.mem_of_getElem? (i := 90) (by decide +kernel)) rfl
theorem wd_91 : (.fieldLink "LoadCycles$House" 9 "LoadCycles$House" "kindOf" "[I" : Cond) ∈ TB := tb_of (List.mem_of_getElem? (i := 91) (by decide +kernel)) rfl
theorem wd_92 : (.fieldLink "LoadCycles" 111 "LoadCycles$House" "kindOf" "[I" : Cond) ∈ TB := tb_of (List.mem_of_getElem? (i := 92) (by decide +kernel)) rfl
theorem wd_93 : (.fieldLink "LoadCycles$House" 15 "LoadCycles$House" "levelsOf" "[I" : Cond) ∈ TB := tb_of (List.mem_of_getElem? (i := 93) (by decide +kernel)) rfl
theorem wd_94 : (.fieldLink "LoadCycles" 114 "LoadCycles$House" "levelsOf" "[I" : Cond) ∈ TB := tb_of (List.mem_of_getElem? (i := 94) (by decide +kernel)) rfl
theorem wd_95 : (.fieldLink "LoadCycles$Unmixer" 66 "LoadCycles$House" "levelsOf" "[I" : Cond) ∈ TB := tb_of (List.mem_of_getElem? (i := 95) (by decide +kernel)) rfl
theorem wd_96 : (.fieldLink "LoadCycles$House" 18 "LoadCycles$House" "told" "[I" : Cond) ∈ TB := tb_of (List.mem_of_getElem? (i := 96) (by decide +kernel)) rfl
theorem wd_97 : (.fieldLink "LoadCycles$House" 21 "LoadCycles$House" "values" "[I" : Cond) ∈ TB := tb_of (List.mem_of_getElem? (i := 97) (by decide +kernel)) rfl
theorem wd_98 : (.fieldLink "LoadCycles" 148 "LoadCycles$House" "values" "[I" : Cond) ∈ TB := tb_of (List.mem_of_getElem? (i := 98) (by decide +kernel)) rfl
theorem wd_99 : (.fieldLink "LoadCycles$Unmixer" 86 "LoadCycles$House" "values" "[I" : Cond) ∈ TB := tb_of (List.mem_of_getElem? (i := 99) (by decide +kernel)) rfl
theorem wd_100 : (.fieldLink "LoadCycles$TextReader" 18 "LoadCycles$House" "appliances" "I" : Cond) ∈ TB := tb_of (List.mem_of_getElem? (i := 100) (by decide +kernel)) rfl
theorem wd_101 : (.fieldLink "LoadCycles$Unmixer" 52 "LoadCycles$House" "appliances" "I" : Cond) ∈ TB := tb_of (List.mem_of_getElem? (i := 101) (by decide +kernel)) rfl
theorem wd_102 : (.fieldLink "LoadCycles$House" 30 "LoadCycles$House" "appliances" "I" : Cond) ∈ TB := tb_of (List.mem_of_getElem? (i := 102) (by decide +kernel)) rfl
theorem wd_103 : (.fieldLink "LoadCycles" 105 "LoadCycles$House" "appliances" "I" : Cond) ∈ TB := tb_of (List.mem_of_getElem? (i := 103) (by decide +kernel)) rfl
theorem wd_104 : (.fieldLink "LoadCycles$Unmixer" 39 "LoadCycles$House" "times" "I" : Cond) ∈ TB := tb_of (List.mem_of_getElem? (i := 104) (by decide +kernel)) rfl
theorem wd_105 : (.fieldLink "LoadCycles$House" 34 "LoadCycles$House" "times" "I" : Cond) ∈ TB := tb_of (List.mem_of_getElem? (i := 105) (by decide +kernel)) rfl
theorem wd_106 : (.fieldLink "LoadCycles$Doing" 47 "LoadCycles$House" "times" "I" : Cond) ∈ TB := tb_of (List.mem_of_getElem? (i := 106) (by decide +kernel)) rfl
theorem wd_107 : (.fieldLink "LoadCycles" 157 "LoadCycles$House" "times" "I" : Cond) ∈ TB := tb_of (List.mem_of_getElem? (i := 107) (by decide +kernel)) rfl
theorem wd_108 : (.fieldLink "LoadCycles$House" 37 "LoadCycles$House" "always" "I" : Cond) ∈ TB := tb_of (List.mem_of_getElem? (i := 108) (by decide +kernel)) rfl
theorem wd_109 : (.fieldLink "LoadCycles$Doing" 50 "LoadCycles$House" "always" "I" : Cond) ∈ TB := tb_of (List.mem_of_getElem? (i := 109) (by decide +kernel)) rfl
theorem wd_110 : (.fieldLink "LoadCycles" 145 "LoadCycles$House" "always" "I" : Cond) ∈ TB := tb_of (List.mem_of_getElem? (i := 110) (by decide +kernel)) rfl
theorem wd_111 : (.fieldLink "LoadCycles$Unmixer" 89 "LoadCycles$House" "always" "I" : Cond) ∈ TB := tb_of (List.mem_of_getElem? (i := 111) (by decide +kernel)) rfl
theorem wd_112 : (.laysFinal "LoadCycles$House" "LoadCycles$House" "kindOf" "[I" : Cond) ∈ TB := tb_of (List.mem_of_getElem? (i := 112) (by decide +kernel)) rfl
theorem wd_114 : (.laysFinal "LoadCycles$House" "LoadCycles$House" "levelsOf" "[I" : Cond) ∈ TB := tb_of (List.mem_of_getElem? (i := 114) (by decide +kernel)) rfl
theorem wd_116 : (.laysFinal "LoadCycles$House" "LoadCycles$House" "told" "[I" : Cond) ∈ TB := tb_of (List.mem_of_getElem? (i := 116) (by decide +kernel)) rfl
theorem wd_118 : (.laysFinal "LoadCycles$House" "LoadCycles$House" "values" "[I" : Cond) ∈ TB := tb_of (List.mem_of_getElem? (i := 118) (by decide +kernel)) rfl
theorem wd_120 : (.lays "LoadCycles$House" "LoadCycles$House" "appliances" "I" : Cond) ∈ TB := tb_of (List.mem_of_getElem? (i := 120) (by decide +kernel)) rfl
theorem wd_122 : (.lays "LoadCycles$House" "LoadCycles$House" "times" "I" : Cond) ∈ TB := tb_of (List.mem_of_getElem? (i := 122) (by decide +kernel)) rfl
theorem wd_124 : (.lays "LoadCycles$House" "LoadCycles$House" "always" "I" : Cond) ∈ TB := tb_of (List.mem_of_getElem? (i := 124) (by decide +kernel)) rfl
theorem wd_127 : (.arrayClass .int : Cond) ∈ TB := tb_of (List.mem_of_getElem? (i := 127) (by decide +kernel)) rfl
theorem wd_128 : (.classLink "LoadCycles" 21 "LoadCycles$Doing" : Cond) ∈ TB := tb_of (List.mem_of_getElem? (i := 128) (by decide +kernel)) rfl
theorem wd_129 : (.instantiable "LoadCycles$Doing" 6 : Cond) ∈ TB := tb_of (List.mem_of_getElem? (i := 129) (by decide +kernel)) rfl
theorem wd_130 : (.methodLinkNest "LoadCycles" 23 ⟨"LoadCycles$Doing", "<init>", "()V"⟩ "LoadCycles" : Cond) ∈ lw_tbl := List.mem_of_getElem? (i := 130) (by decide +kernel)
theorem wd_131 : (.instanceMethod ⟨"LoadCycles$Doing", "<init>", "()V"⟩ : Cond) ∈ TB := tb_of (List.mem_of_getElem? (i := 131) (by decide +kernel)) rfl
set_option maxRecDepth 20000 in
theorem wd_132 : (.code ⟨"LoadCycles$Doing", "<init>", "()V"⟩ prog_2_method_1_code 1 (none : Option FieldType) : Cond) ∈ TB := tb_of (List.mem_of_getElem? (i := 132) rfl) rfl
theorem wd_133 : (.methodLink "LoadCycles$Doing" 3 ⟨"java/lang/Object", "<init>", "()V"⟩ : Cond) ∈ TB := tb_of (List.mem_of_getElem? (i := 133) (by decide +kernel)) rfl
theorem wd_134 : (.fieldLink "LoadCycles$Doing" 9 "LoadCycles$Doing" "states" "[I" : Cond) ∈ TB := tb_of (List.mem_of_getElem? (i := 134) (by decide +kernel)) rfl
theorem wd_135 : (.fieldLink "LoadCycles$Doing" 15 "LoadCycles$Doing" "energies" "[I" : Cond) ∈ TB := tb_of (List.mem_of_getElem? (i := 135) (by decide +kernel)) rfl
theorem wd_136 : (.fieldLink "LoadCycles$Guesses" 19 "LoadCycles$Doing" "energies" "[I" : Cond) ∈ TB := tb_of (List.mem_of_getElem? (i := 136) (by decide +kernel)) rfl
theorem wd_137 : (.fieldLink "LoadCycles" 182 "LoadCycles$Doing" "energies" "[I" : Cond) ∈ TB := tb_of (List.mem_of_getElem? (i := 137) (by decide +kernel)) rfl
theorem wd_138 : (.fieldLink "LoadCycles$Doing" 32 "LoadCycles$Doing" "allEnergies" "I" : Cond) ∈ TB := tb_of (List.mem_of_getElem? (i := 138) (by decide +kernel)) rfl
theorem wd_139 : (.fieldLink "LoadCycles$Doing" 22 "LoadCycles$Doing" "allRests" "I" : Cond) ∈ TB := tb_of (List.mem_of_getElem? (i := 139) (by decide +kernel)) rfl
theorem wd_140 : (.fieldLink "LoadCycles$Doing" 26 "LoadCycles$Doing" "changes" "I" : Cond) ∈ TB := tb_of (List.mem_of_getElem? (i := 140) (by decide +kernel)) rfl
theorem wd_141 : (.fieldLink "LoadCycles$Doing" 29 "LoadCycles$Doing" "starts" "I" : Cond) ∈ TB := tb_of (List.mem_of_getElem? (i := 141) (by decide +kernel)) rfl
theorem wd_142 : (.laysFinal "LoadCycles$Doing" "LoadCycles$Doing" "states" "[I" : Cond) ∈ TB := tb_of (List.mem_of_getElem? (i := 142) (by decide +kernel)) rfl
theorem wd_144 : (.laysFinal "LoadCycles$Doing" "LoadCycles$Doing" "energies" "[I" : Cond) ∈ TB := tb_of (List.mem_of_getElem? (i := 144) (by decide +kernel)) rfl
theorem wd_146 : (.lays "LoadCycles$Doing" "LoadCycles$Doing" "allEnergies" "I" : Cond) ∈ TB := tb_of (List.mem_of_getElem? (i := 146) (by decide +kernel)) rfl
theorem wd_148 : (.lays "LoadCycles$Doing" "LoadCycles$Doing" "allRests" "I" : Cond) ∈ TB := tb_of (List.mem_of_getElem? (i := 148) (by decide +kernel)) rfl
theorem wd_150 : (.lays "LoadCycles$Doing" "LoadCycles$Doing" "changes" "I" : Cond) ∈ TB := tb_of (List.mem_of_getElem? (i := 150) (by decide +kernel)) rfl
theorem wd_152 : (.lays "LoadCycles$Doing" "LoadCycles$Doing" "starts" "I" : Cond) ∈ TB := tb_of (List.mem_of_getElem? (i := 152) (by decide +kernel)) rfl
theorem wd_155 : (.classLink "LoadCycles" 31 "LoadCycles$Unmixer" : Cond) ∈ TB := tb_of (List.mem_of_getElem? (i := 155) (by decide +kernel)) rfl
theorem wd_156 : (.instantiable "LoadCycles$Unmixer" 6 : Cond) ∈ TB := tb_of (List.mem_of_getElem? (i := 156) (by decide +kernel)) rfl
theorem wd_157 : (.methodLinkNest "LoadCycles" 33 ⟨"LoadCycles$Unmixer", "<init>", "()V"⟩ "LoadCycles" : Cond) ∈ lw_tbl := List.mem_of_getElem? (i := 157) (by decide +kernel)
theorem wd_158 : (.instanceMethod ⟨"LoadCycles$Unmixer", "<init>", "()V"⟩ : Cond) ∈ TB := tb_of (List.mem_of_getElem? (i := 158) (by decide +kernel)) rfl
set_option maxRecDepth 20000 in
theorem wd_159 : (.code ⟨"LoadCycles$Unmixer", "<init>", "()V"⟩ prog_7_method_1_code 1 (none : Option FieldType) : Cond) ∈ TB := tb_of (List.mem_of_getElem? (i := 159) rfl) rfl
theorem wd_160 : (.methodLink "LoadCycles$Unmixer" 3 ⟨"java/lang/Object", "<init>", "()V"⟩ : Cond) ∈ TB := tb_of (List.mem_of_getElem? (i := 160) (by decide +kernel)) rfl
theorem wd_161 : (.fieldLink "LoadCycles$Unmixer" 9 "LoadCycles$Unmixer" "powers" "[I" : Cond) ∈ TB := tb_of (List.mem_of_getElem? (i := 161) (by decide +kernel)) rfl
theorem wd_162 : (.fieldLink "LoadCycles$Unmixer" 15 "LoadCycles$Unmixer" "mixAfter" "[I" : Cond) ∈ TB := tb_of (List.mem_of_getElem? (i := 162) (by decide +kernel)) rfl
theorem wd_163 : (.fieldLink "LoadCycles$Unmixer" 18 "LoadCycles$Unmixer" "costs" "[I" : Cond) ∈ TB := tb_of (List.mem_of_getElem? (i := 163) (by decide +kernel)) rfl
theorem wd_164 : (.fieldLink "LoadCycles$Unmixer" 21 "LoadCycles$Unmixer" "ahead" "[I" : Cond) ∈ TB := tb_of (List.mem_of_getElem? (i := 164) (by decide +kernel)) rfl
theorem wd_165 : (.fieldLink "LoadCycles$Unmixer" 24 "LoadCycles$Unmixer" "spare" "[I" : Cond) ∈ TB := tb_of (List.mem_of_getElem? (i := 165) (by decide +kernel)) rfl
theorem wd_166 : (.fieldLink "LoadCycles$Unmixer" 59 "LoadCycles$Unmixer" "mixes" "I" : Cond) ∈ TB := tb_of (List.mem_of_getElem? (i := 166) (by decide +kernel)) rfl
theorem wd_167 : (.laysFinal "LoadCycles$Unmixer" "LoadCycles$Unmixer" "powers" "[I" : Cond) ∈ TB := tb_of (List.mem_of_getElem? (i := 167) (by decide +kernel)) rfl
theorem wd_169 : (.laysFinal "LoadCycles$Unmixer" "LoadCycles$Unmixer" "mixAfter" "[I" : Cond) ∈ TB := tb_of (List.mem_of_getElem? (i := 169) (by decide +kernel)) rfl
theorem wd_171 : (.laysFinal "LoadCycles$Unmixer" "LoadCycles$Unmixer" "costs" "[I" : Cond) ∈ TB := tb_of (List.mem_of_getElem? (i := 171) (by decide +kernel)) rfl
theorem wd_173 : (.lays "LoadCycles$Unmixer" "LoadCycles$Unmixer" "ahead" "[I" : Cond) ∈ TB := tb_of (List.mem_of_getElem? (i := 173) (by decide +kernel)) rfl
theorem wd_175 : (.lays "LoadCycles$Unmixer" "LoadCycles$Unmixer" "spare" "[I" : Cond) ∈ TB := tb_of (List.mem_of_getElem? (i := 175) (by decide +kernel)) rfl
theorem wd_177 : (.lays "LoadCycles$Unmixer" "LoadCycles$Unmixer" "mixes" "I" : Cond) ∈ TB := tb_of (List.mem_of_getElem? (i := 177) (by decide +kernel)) rfl
theorem wd_180 : (.classLink "LoadCycles" 38 "LoadCycles$TextReader" : Cond) ∈ TB := tb_of (List.mem_of_getElem? (i := 180) (by decide +kernel)) rfl
theorem wd_181 : (.instantiable "LoadCycles$TextReader" 2 : Cond) ∈ TB := tb_of (List.mem_of_getElem? (i := 181) (by decide +kernel)) rfl
theorem wd_182 : (.methodLinkNest "LoadCycles" 40 ⟨"LoadCycles$TextReader", "<init>", "()V"⟩ "LoadCycles" : Cond) ∈ lw_tbl := List.mem_of_getElem? (i := 182) (by decide +kernel)
theorem wd_183 : (.instanceMethod ⟨"LoadCycles$TextReader", "<init>", "()V"⟩ : Cond) ∈ TB := tb_of (List.mem_of_getElem? (i := 183) (by decide +kernel)) rfl
set_option maxRecDepth 20000 in
theorem wd_184 : (.code ⟨"LoadCycles$TextReader", "<init>", "()V"⟩ prog_6_method_1_code 1 (none : Option FieldType) : Cond) ∈ TB := tb_of (List.mem_of_getElem? (i := 184) rfl) rfl
theorem wd_185 : (.methodLink "LoadCycles$TextReader" 3 ⟨"java/lang/Object", "<init>", "()V"⟩ : Cond) ∈ TB := tb_of (List.mem_of_getElem? (i := 185) (by decide +kernel)) rfl
theorem wd_186 : (.classLink "LoadCycles$TextReader" 9 "LoadCycles$House" : Cond) ∈ TB := tb_of (List.mem_of_getElem? (i := 186) (by decide +kernel)) rfl
theorem wd_187 : (.methodLinkNest "LoadCycles$TextReader" 11 ⟨"LoadCycles$House", "<init>", "()V"⟩ "LoadCycles" : Cond) ∈ lw_tbl := List.mem_of_getElem? (i := 187) (by decide +kernel)
theorem wd_188 : (.fieldLink "LoadCycles$TextReader" 12 "LoadCycles$TextReader" "house" "LLoadCycles$House;" : Cond) ∈ TB := tb_of (List.mem_of_getElem? (i := 188) (by decide +kernel)) rfl
theorem wd_189 : (.fieldLink "LoadCycles" 92 "LoadCycles$TextReader" "house" "LLoadCycles$House;" : Cond) ∈ TB := tb_of (List.mem_of_getElem? (i := 189) (by decide +kernel)) rfl
theorem wd_190 : (.fieldLink "LoadCycles$TextReader" 22 "LoadCycles$TextReader" "awaits" "I" : Cond) ∈ TB := tb_of (List.mem_of_getElem? (i := 190) (by decide +kernel)) rfl
theorem wd_191 : (.laysFinal "LoadCycles$TextReader" "LoadCycles$TextReader" "house" "LLoadCycles$House;" : Cond) ∈ TB := tb_of (List.mem_of_getElem? (i := 191) (by decide +kernel)) rfl
theorem wd_193 : (.lays "LoadCycles$TextReader" "LoadCycles$TextReader" "awaits" "I" : Cond) ∈ TB := tb_of (List.mem_of_getElem? (i := 193) (by decide +kernel)) rfl
theorem wd_196 : (.classLink "LoadCycles" 45 "LoadCycles$Guesses" : Cond) ∈ TB := tb_of (List.mem_of_getElem? (i := 196) (by decide +kernel)) rfl
theorem wd_197 : (.instantiable "LoadCycles$Guesses" 2 : Cond) ∈ TB := tb_of (List.mem_of_getElem? (i := 197) (by decide +kernel)) rfl
theorem wd_198 : (.methodLinkNest "LoadCycles" 47 ⟨"LoadCycles$Guesses", "<init>", "()V"⟩ "LoadCycles" : Cond) ∈ lw_tbl := List.mem_of_getElem? (i := 198) (by decide +kernel)
theorem wd_199 : (.instanceMethod ⟨"LoadCycles$Guesses", "<init>", "()V"⟩ : Cond) ∈ TB := tb_of (List.mem_of_getElem? (i := 199) (by decide +kernel)) rfl
set_option maxRecDepth 20000 in
theorem wd_200 : (.code ⟨"LoadCycles$Guesses", "<init>", "()V"⟩ prog_3_method_1_code 1 (none : Option FieldType) : Cond) ∈ TB := tb_of (List.mem_of_getElem? (i := 200) rfl) rfl
theorem wd_201 : (.methodLink "LoadCycles$Guesses" 3 ⟨"java/lang/Object", "<init>", "()V"⟩ : Cond) ∈ TB := tb_of (List.mem_of_getElem? (i := 201) (by decide +kernel)) rfl
theorem wd_202 : (.fieldLink "LoadCycles$Guesses" 11 "LoadCycles$Guesses" "known" "[Z" : Cond) ∈ TB := tb_of (List.mem_of_getElem? (i := 202) (by decide +kernel)) rfl
theorem wd_203 : (.fieldLink "LoadCycles$Guesses" 15 "LoadCycles$Guesses" "energies" "[I" : Cond) ∈ TB := tb_of (List.mem_of_getElem? (i := 203) (by decide +kernel)) rfl
theorem wd_204 : (.laysFinal "LoadCycles$Guesses" "LoadCycles$Guesses" "known" "[Z" : Cond) ∈ TB := tb_of (List.mem_of_getElem? (i := 204) (by decide +kernel)) rfl
theorem wd_206 : (.laysFinal "LoadCycles$Guesses" "LoadCycles$Guesses" "energies" "[I" : Cond) ∈ TB := tb_of (List.mem_of_getElem? (i := 206) (by decide +kernel)) rfl
theorem wd_209 : (.arrayClass .boolean : Cond) ∈ TB := tb_of (List.mem_of_getElem? (i := 209) (by decide +kernel)) rfl
theorem wd_210 : (.classLink "LoadCycles" 52 "LoadCycles$Sheet" : Cond) ∈ TB := tb_of (List.mem_of_getElem? (i := 210) (by decide +kernel)) rfl
theorem wd_211 : (.arrayOver (.object "LoadCycles$Sheet") : Cond) ∈ lw_tbl := List.mem_of_getElem? (i := 211) (by decide +kernel)
theorem wd_212 : (.instantiable "LoadCycles$Sheet" 3 : Cond) ∈ TB := tb_of (List.mem_of_getElem? (i := 212) (by decide +kernel)) rfl
theorem wd_213 : (.methodLinkNest "LoadCycles" 65 ⟨"LoadCycles$Sheet", "<init>", "()V"⟩ "LoadCycles" : Cond) ∈ lw_tbl := List.mem_of_getElem? (i := 213) (by decide +kernel)
theorem wd_214 : (.instanceMethod ⟨"LoadCycles$Sheet", "<init>", "()V"⟩ : Cond) ∈ TB := tb_of (List.mem_of_getElem? (i := 214) (by decide +kernel)) rfl
set_option maxRecDepth 20000 in
theorem wd_215 : (.code ⟨"LoadCycles$Sheet", "<init>", "()V"⟩ prog_5_method_1_code 1 (none : Option FieldType) : Cond) ∈ TB := tb_of (List.mem_of_getElem? (i := 215) rfl) rfl
theorem wd_216 : (.methodLink "LoadCycles$Sheet" 3 ⟨"java/lang/Object", "<init>", "()V"⟩ : Cond) ∈ TB := tb_of (List.mem_of_getElem? (i := 216) (by decide +kernel)) rfl
theorem wd_217 : (.fieldLink "LoadCycles$Sheet" 9 "LoadCycles$Sheet" "cells" "[I" : Cond) ∈ TB := tb_of (List.mem_of_getElem? (i := 217) (by decide +kernel)) rfl
theorem wd_218 : (.fieldLink "LoadCycles$TextReader" 25 "LoadCycles$Sheet" "cells" "[I" : Cond) ∈ TB := tb_of (List.mem_of_getElem? (i := 218) (by decide +kernel)) rfl
theorem wd_219 : (.fieldLink "LoadCycles" 142 "LoadCycles$Sheet" "cells" "[I" : Cond) ∈ TB := tb_of (List.mem_of_getElem? (i := 219) (by decide +kernel)) rfl
theorem wd_220 : (.fieldLink "LoadCycles$Sheet" 19 "LoadCycles$Sheet" "lane" "I" : Cond) ∈ TB := tb_of (List.mem_of_getElem? (i := 220) (by decide +kernel)) rfl
theorem wd_221 : (.fieldLink "LoadCycles" 239 "LoadCycles$Sheet" "lane" "I" : Cond) ∈ TB := tb_of (List.mem_of_getElem? (i := 221) (by decide +kernel)) rfl
theorem wd_222 : (.fieldLink "LoadCycles$Sheet" 15 "LoadCycles$Sheet" "length" "I" : Cond) ∈ TB := tb_of (List.mem_of_getElem? (i := 222) (by decide +kernel)) rfl
theorem wd_223 : (.laysFinal "LoadCycles$Sheet" "LoadCycles$Sheet" "cells" "[I" : Cond) ∈ TB := tb_of (List.mem_of_getElem? (i := 223) (by decide +kernel)) rfl
theorem wd_225 : (.lays "LoadCycles$Sheet" "LoadCycles$Sheet" "lane" "I" : Cond) ∈ TB := tb_of (List.mem_of_getElem? (i := 225) (by decide +kernel)) rfl
theorem wd_227 : (.lays "LoadCycles$Sheet" "LoadCycles$Sheet" "length" "I" : Cond) ∈ TB := tb_of (List.mem_of_getElem? (i := 227) (by decide +kernel)) rfl
theorem wd_230 : (.fieldLink "LoadCycles" 12 "LoadCycles" "current" "LLoadCycles$House;" : Cond) ∈ TB := tb_of (List.mem_of_getElem? (i := 230) (by decide +kernel)) rfl
theorem wd_231 : (.fieldLink "LoadCycles" 18 "LoadCycles" "trial" "LLoadCycles$House;" : Cond) ∈ TB := tb_of (List.mem_of_getElem? (i := 231) (by decide +kernel)) rfl
theorem wd_232 : (.fieldLink "LoadCycles" 24 "LoadCycles" "currentBest" "LLoadCycles$Doing;" : Cond) ∈ TB := tb_of (List.mem_of_getElem? (i := 232) (by decide +kernel)) rfl
theorem wd_233 : (.fieldLink "LoadCycles" 28 "LoadCycles" "trialBest" "LLoadCycles$Doing;" : Cond) ∈ TB := tb_of (List.mem_of_getElem? (i := 233) (by decide +kernel)) rfl
theorem wd_234 : (.fieldLink "LoadCycles" 34 "LoadCycles" "unmixer" "LLoadCycles$Unmixer;" : Cond) ∈ TB := tb_of (List.mem_of_getElem? (i := 234) (by decide +kernel)) rfl
theorem wd_235 : (.fieldLink "LoadCycles" 41 "LoadCycles" "reader" "LLoadCycles$TextReader;" : Cond) ∈ TB := tb_of (List.mem_of_getElem? (i := 235) (by decide +kernel)) rfl
theorem wd_236 : (.fieldLink "LoadCycles" 48 "LoadCycles" "guesses" "LLoadCycles$Guesses;" : Cond) ∈ TB := tb_of (List.mem_of_getElem? (i := 236) (by decide +kernel)) rfl
theorem wd_237 : (.fieldLink "LoadCycles" 54 "LoadCycles" "sheets" "[LLoadCycles$Sheet;" : Cond) ∈ TB := tb_of (List.mem_of_getElem? (i := 237) (by decide +kernel)) rfl
theorem wd_238 : (.fieldLink "LoadCycles" 58 "LoadCycles" "readingAppliances" "[I" : Cond) ∈ TB := tb_of (List.mem_of_getElem? (i := 238) (by decide +kernel)) rfl
theorem wd_239 : (.fieldLink "LoadCycles" 62 "LoadCycles" "readingEnergies" "[I" : Cond) ∈ TB := tb_of (List.mem_of_getElem? (i := 239) (by decide +kernel)) rfl
theorem wd_240 : (.fieldLink "LoadCycles" 99 "LoadCycles" "readings" "I" : Cond) ∈ TB := tb_of (List.mem_of_getElem? (i := 240) (by decide +kernel)) rfl
theorem wd_241 : (.fieldLink "LoadCycles" 263 "LoadCycles" "bestIsKnown" "Z" : Cond) ∈ TB := tb_of (List.mem_of_getElem? (i := 241) (by decide +kernel)) rfl
theorem wd_242 : (.fieldLink "LoadCycles" 257 "LoadCycles" "traceNumber" "I" : Cond) ∈ TB := tb_of (List.mem_of_getElem? (i := 242) (by decide +kernel)) rfl
theorem wd_243 : (.fieldLink "LoadCycles" 66 "LoadCycles" "faultNumber" "I" : Cond) ∈ TB := tb_of (List.mem_of_getElem? (i := 243) (by decide +kernel)) rfl
theorem wd_244 : (.laysFinal "LoadCycles" "LoadCycles" "current" "LLoadCycles$House;" : Cond) ∈ TB := tb_of (List.mem_of_getElem? (i := 244) (by decide +kernel)) rfl
theorem wd_246 : (.laysFinal "LoadCycles" "LoadCycles" "trial" "LLoadCycles$House;" : Cond) ∈ TB := tb_of (List.mem_of_getElem? (i := 246) (by decide +kernel)) rfl
theorem wd_248 : (.laysFinal "LoadCycles" "LoadCycles" "currentBest" "LLoadCycles$Doing;" : Cond) ∈ TB := tb_of (List.mem_of_getElem? (i := 248) (by decide +kernel)) rfl
theorem wd_250 : (.laysFinal "LoadCycles" "LoadCycles" "trialBest" "LLoadCycles$Doing;" : Cond) ∈ TB := tb_of (List.mem_of_getElem? (i := 250) (by decide +kernel)) rfl
theorem wd_252 : (.laysFinal "LoadCycles" "LoadCycles" "unmixer" "LLoadCycles$Unmixer;" : Cond) ∈ TB := tb_of (List.mem_of_getElem? (i := 252) (by decide +kernel)) rfl
theorem wd_254 : (.laysFinal "LoadCycles" "LoadCycles" "reader" "LLoadCycles$TextReader;" : Cond) ∈ TB := tb_of (List.mem_of_getElem? (i := 254) (by decide +kernel)) rfl
theorem wd_256 : (.laysFinal "LoadCycles" "LoadCycles" "guesses" "LLoadCycles$Guesses;" : Cond) ∈ TB := tb_of (List.mem_of_getElem? (i := 256) (by decide +kernel)) rfl
theorem wd_258 : (.laysFinal "LoadCycles" "LoadCycles" "sheets" "[LLoadCycles$Sheet;" : Cond) ∈ TB := tb_of (List.mem_of_getElem? (i := 258) (by decide +kernel)) rfl
theorem wd_260 : (.laysFinal "LoadCycles" "LoadCycles" "readingAppliances" "[I" : Cond) ∈ TB := tb_of (List.mem_of_getElem? (i := 260) (by decide +kernel)) rfl
theorem wd_262 : (.laysFinal "LoadCycles" "LoadCycles" "readingEnergies" "[I" : Cond) ∈ TB := tb_of (List.mem_of_getElem? (i := 262) (by decide +kernel)) rfl
theorem wd_264 : (.lays "LoadCycles" "LoadCycles" "readings" "I" : Cond) ∈ TB := tb_of (List.mem_of_getElem? (i := 264) (by decide +kernel)) rfl
theorem wd_266 : (.lays "LoadCycles" "LoadCycles" "bestIsKnown" "Z" : Cond) ∈ TB := tb_of (List.mem_of_getElem? (i := 266) (by decide +kernel)) rfl
theorem wd_268 : (.lays "LoadCycles" "LoadCycles" "traceNumber" "I" : Cond) ∈ TB := tb_of (List.mem_of_getElem? (i := 268) (by decide +kernel)) rfl
theorem wd_270 : (.lays "LoadCycles" "LoadCycles" "faultNumber" "I" : Cond) ∈ TB := tb_of (List.mem_of_getElem? (i := 270) (by decide +kernel)) rfl
theorem wd_273 : (.methodLink "LoadCyclesLaw" 13 ⟨"LoadCycles", "house", "(IIII)I"⟩ : Cond) ∈ TB := tb_of (List.mem_of_getElem? (i := 273) (by decide +kernel)) rfl
theorem wd_274 : (.instanceMethod ⟨"LoadCycles", "house", "(IIII)I"⟩ : Cond) ∈ TB := tb_of (List.mem_of_getElem? (i := 274) (by decide +kernel)) rfl
theorem wd_275 : (.selects "LoadCycles" ⟨"LoadCycles", "house", "(IIII)I"⟩ ⟨"LoadCycles", "house", "(IIII)I"⟩ : Cond) ∈ TB := tb_of (List.mem_of_getElem? (i := 275) (by decide +kernel)) rfl
set_option maxRecDepth 20000 in
theorem wd_276 : (.code ⟨"LoadCycles", "house", "(IIII)I"⟩ prog_1_method_2_code 8 (some .int) : Cond) ∈ TB := tb_of (List.mem_of_getElem? (i := 276) rfl) rfl
theorem wd_277 : (.methodLink "LoadCycles" 70 ⟨"LoadCycles", "isSheet", "(I)Z"⟩ : Cond) ∈ TB := tb_of (List.mem_of_getElem? (i := 277) (by decide +kernel)) rfl
theorem wd_278 : (.static ⟨"LoadCycles", "isSheet", "(I)Z"⟩ : Cond) ∈ TB := tb_of (List.mem_of_getElem? (i := 278) (by decide +kernel)) rfl
set_option maxRecDepth 20000 in
theorem wd_279 : (.code ⟨"LoadCycles", "isSheet", "(I)Z"⟩ prog_1_method_34_code 1 (some .boolean) : Cond) ∈ TB := tb_of (List.mem_of_getElem? (i := 279) rfl) rfl
theorem wd_280 : (.methodLink "LoadCycles" 74 ⟨"LoadCycles", "isLane", "(I)Z"⟩ : Cond) ∈ TB := tb_of (List.mem_of_getElem? (i := 280) (by decide +kernel)) rfl
theorem wd_281 : (.static ⟨"LoadCycles", "isLane", "(I)Z"⟩ : Cond) ∈ TB := tb_of (List.mem_of_getElem? (i := 281) (by decide +kernel)) rfl
set_option maxRecDepth 20000 in
theorem wd_282 : (.code ⟨"LoadCycles", "isLane", "(I)Z"⟩ prog_1_method_35_code 1 (some .boolean) : Cond) ∈ TB := tb_of (List.mem_of_getElem? (i := 282) rfl) rfl
theorem wd_283 : (.methodLink "LoadCycles" 77 ⟨"LoadCycles$Sheet", "faultOfRow", "(I)I"⟩ : Cond) ∈ TB := tb_of (List.mem_of_getElem? (i := 283) (by decide +kernel)) rfl
theorem wd_284 : (.instanceMethod ⟨"LoadCycles$Sheet", "faultOfRow", "(I)I"⟩ : Cond) ∈ TB := tb_of (List.mem_of_getElem? (i := 284) (by decide +kernel)) rfl
theorem wd_285 : (.selects "LoadCycles$Sheet" ⟨"LoadCycles$Sheet", "faultOfRow", "(I)I"⟩ ⟨"LoadCycles$Sheet", "faultOfRow", "(I)I"⟩ : Cond) ∈ TB := tb_of (List.mem_of_getElem? (i := 285) (by decide +kernel)) rfl
set_option maxRecDepth 20000 in
theorem wd_286 : (.code ⟨"LoadCycles$Sheet", "faultOfRow", "(I)I"⟩ prog_5_method_7_code 2 (some .int) : Cond) ∈ TB := tb_of (List.mem_of_getElem? (i := 286) rfl) rfl
theorem wd_287 : (.methodLink "LoadCycles$Sheet" 28 ⟨"LoadCycles$Sheet", "hasRow", "()Z"⟩ : Cond) ∈ TB := tb_of (List.mem_of_getElem? (i := 287) (by decide +kernel)) rfl
theorem wd_288 : (.instanceMethod ⟨"LoadCycles$Sheet", "hasRow", "()Z"⟩ : Cond) ∈ TB := tb_of (List.mem_of_getElem? (i := 288) (by decide +kernel)) rfl
theorem wd_289 : (.selects "LoadCycles$Sheet" ⟨"LoadCycles$Sheet", "hasRow", "()Z"⟩ ⟨"LoadCycles$Sheet", "hasRow", "()Z"⟩ : Cond) ∈ TB := tb_of (List.mem_of_getElem? (i := 289) (by decide +kernel)) rfl
set_option maxRecDepth 20000 in
theorem wd_290 : (.code ⟨"LoadCycles$Sheet", "hasRow", "()Z"⟩ prog_5_method_2_code 1 (some .boolean) : Cond) ∈ TB := tb_of (List.mem_of_getElem? (i := 290) rfl) rfl
theorem wd_291 : (.methodLink "LoadCycles" 81 ⟨"LoadCycles$Sheet", "holds", "(II)Z"⟩ : Cond) ∈ TB := tb_of (List.mem_of_getElem? (i := 291) (by decide +kernel)) rfl
theorem wd_292 : (.instanceMethod ⟨"LoadCycles$Sheet", "holds", "(II)Z"⟩ : Cond) ∈ TB := tb_of (List.mem_of_getElem? (i := 292) (by decide +kernel)) rfl
theorem wd_293 : (.selects "LoadCycles$Sheet" ⟨"LoadCycles$Sheet", "holds", "(II)Z"⟩ ⟨"LoadCycles$Sheet", "holds", "(II)Z"⟩ : Cond) ∈ TB := tb_of (List.mem_of_getElem? (i := 293) (by decide +kernel)) rfl
set_option maxRecDepth 20000 in
theorem wd_294 : (.code ⟨"LoadCycles$Sheet", "holds", "(II)Z"⟩ prog_5_method_5_code 3 (some .boolean) : Cond) ∈ TB := tb_of (List.mem_of_getElem? (i := 294) rfl) rfl
theorem wd_295 : (.methodLink "LoadCycles" 85 ⟨"LoadCycles", "faulted", "(I)I"⟩ : Cond) ∈ TB := tb_of (List.mem_of_getElem? (i := 295) (by decide +kernel)) rfl
theorem wd_297 : (.instanceMethod ⟨"LoadCycles", "faulted", "(I)I"⟩ : Cond) ∈ TB := tb_of (List.mem_of_getElem? (i := 297) (by decide +kernel)) rfl
set_option maxRecDepth 20000 in
theorem wd_298 : (.code ⟨"LoadCycles", "faulted", "(I)I"⟩ prog_1_method_39_code 2 (some .int) : Cond) ∈ TB := tb_of (List.mem_of_getElem? (i := 298) rfl) rfl
theorem wd_299 : (.methodLink "LoadCycles" 88 ⟨"LoadCycles$TextReader", "firstFault", "(LLoadCycles$Sheet;II)I"⟩ : Cond) ∈ TB := tb_of (List.mem_of_getElem? (i := 299) (by decide +kernel)) rfl
theorem wd_300 : (.instanceMethod ⟨"LoadCycles$TextReader", "firstFault", "(LLoadCycles$Sheet;II)I"⟩ : Cond) ∈ TB := tb_of (List.mem_of_getElem? (i := 300) (by decide +kernel)) rfl
theorem wd_301 : (.selects "LoadCycles$TextReader" ⟨"LoadCycles$TextReader", "firstFault", "(LLoadCycles$Sheet;II)I"⟩ ⟨"LoadCycles$TextReader", "firstFault", "(LLoadCycles$Sheet;II)I"⟩ : Cond) ∈ TB := tb_of (List.mem_of_getElem? (i := 301) (by decide +kernel)) rfl
set_option maxRecDepth 20000 in
theorem wd_302 : (.code ⟨"LoadCycles$TextReader", "firstFault", "(LLoadCycles$Sheet;II)I"⟩ prog_6_method_2_code 5 (some .int) : Cond) ∈ TB := tb_of (List.mem_of_getElem? (i := 302) rfl) rfl
theorem wd_303 : (.methodLink "LoadCycles$TextReader" 31 ⟨"LoadCycles$TextReader", "goesOn", "(I)Z"⟩ : Cond) ∈ TB := tb_of (List.mem_of_getElem? (i := 303) (by decide +kernel)) rfl
theorem wd_305 : (.instanceMethod ⟨"LoadCycles$TextReader", "goesOn", "(I)Z"⟩ : Cond) ∈ TB := tb_of (List.mem_of_getElem? (i := 305) (by decide +kernel)) rfl
set_option maxRecDepth 20000 in
theorem wd_306 : (.code ⟨"LoadCycles$TextReader", "goesOn", "(I)Z"⟩ prog_6_method_3_code 2 (some .boolean) : Cond) ∈ TB := tb_of (List.mem_of_getElem? (i := 306) rfl) rfl
theorem wd_307 : (.methodLink "LoadCycles$TextReader" 35 ⟨"LoadCycles$TextReader", "takesOpening", "(I)Z"⟩ : Cond) ∈ TB := tb_of (List.mem_of_getElem? (i := 307) (by decide +kernel)) rfl
theorem wd_309 : (.instanceMethod ⟨"LoadCycles$TextReader", "takesOpening", "(I)Z"⟩ : Cond) ∈ TB := tb_of (List.mem_of_getElem? (i := 309) (by decide +kernel)) rfl
set_option maxRecDepth 20000 in
theorem wd_310 : (.code ⟨"LoadCycles$TextReader", "takesOpening", "(I)Z"⟩ prog_6_method_4_code 2 (some .boolean) : Cond) ∈ TB := tb_of (List.mem_of_getElem? (i := 310) rfl) rfl
theorem wd_311 : (.methodLink "LoadCycles$TextReader" 38 ⟨"LoadCycles$TextReader", "takesMark", "(I)Z"⟩ : Cond) ∈ TB := tb_of (List.mem_of_getElem? (i := 311) (by decide +kernel)) rfl
theorem wd_313 : (.instanceMethod ⟨"LoadCycles$TextReader", "takesMark", "(I)Z"⟩ : Cond) ∈ TB := tb_of (List.mem_of_getElem? (i := 313) (by decide +kernel)) rfl
set_option maxRecDepth 20000 in
theorem wd_314 : (.code ⟨"LoadCycles$TextReader", "takesMark", "(I)Z"⟩ prog_6_method_5_code 2 (some .boolean) : Cond) ∈ TB := tb_of (List.mem_of_getElem? (i := 314) rfl) rfl
theorem wd_315 : (.methodLink "LoadCycles$TextReader" 41 ⟨"LoadCycles$TextReader", "takesKind", "(I)Z"⟩ : Cond) ∈ TB := tb_of (List.mem_of_getElem? (i := 315) (by decide +kernel)) rfl
theorem wd_317 : (.instanceMethod ⟨"LoadCycles$TextReader", "takesKind", "(I)Z"⟩ : Cond) ∈ TB := tb_of (List.mem_of_getElem? (i := 317) (by decide +kernel)) rfl
set_option maxRecDepth 20000 in
theorem wd_318 : (.code ⟨"LoadCycles$TextReader", "takesKind", "(I)Z"⟩ prog_6_method_6_code 2 (some .boolean) : Cond) ∈ TB := tb_of (List.mem_of_getElem? (i := 318) rfl) rfl
theorem wd_319 : (.methodLink "LoadCycles$TextReader" 47 ⟨"LoadCycles$House", "addAppliance", "(I)Z"⟩ : Cond) ∈ TB := tb_of (List.mem_of_getElem? (i := 319) (by decide +kernel)) rfl
theorem wd_320 : (.instanceMethod ⟨"LoadCycles$House", "addAppliance", "(I)Z"⟩ : Cond) ∈ TB := tb_of (List.mem_of_getElem? (i := 320) (by decide +kernel)) rfl
theorem wd_321 : (.selects "LoadCycles$House" ⟨"LoadCycles$House", "addAppliance", "(I)Z"⟩ ⟨"LoadCycles$House", "addAppliance", "(I)Z"⟩ : Cond) ∈ TB := tb_of (List.mem_of_getElem? (i := 321) (by decide +kernel)) rfl
set_option maxRecDepth 20000 in
theorem wd_322 : (.code ⟨"LoadCycles$House", "addAppliance", "(I)Z"⟩ prog_4_method_6_code 2 (some .boolean) : Cond) ∈ TB := tb_of (List.mem_of_getElem? (i := 322) rfl) rfl
theorem wd_323 : (.methodLink "LoadCycles$TextReader" 44 ⟨"LoadCycles$TextReader", "takesLevel", "(I)Z"⟩ : Cond) ∈ TB := tb_of (List.mem_of_getElem? (i := 323) (by decide +kernel)) rfl
theorem wd_325 : (.instanceMethod ⟨"LoadCycles$TextReader", "takesLevel", "(I)Z"⟩ : Cond) ∈ TB := tb_of (List.mem_of_getElem? (i := 325) (by decide +kernel)) rfl
set_option maxRecDepth 20000 in
theorem wd_326 : (.code ⟨"LoadCycles$TextReader", "takesLevel", "(I)Z"⟩ prog_6_method_7_code 2 (some .boolean) : Cond) ∈ TB := tb_of (List.mem_of_getElem? (i := 326) rfl) rfl
theorem wd_327 : (.methodLinkNest "LoadCycles$TextReader" 50 ⟨"LoadCycles", "isLevelValue", "(I)Z"⟩ "LoadCycles" : Cond) ∈ lw_tbl := List.mem_of_getElem? (i := 327) (by decide +kernel)
theorem wd_328 : (.static ⟨"LoadCycles", "isLevelValue", "(I)Z"⟩ : Cond) ∈ TB := tb_of (List.mem_of_getElem? (i := 328) (by decide +kernel)) rfl
set_option maxRecDepth 20000 in
theorem wd_329 : (.code ⟨"LoadCycles", "isLevelValue", "(I)Z"⟩ prog_1_method_36_code 1 (some .boolean) : Cond) ∈ TB := tb_of (List.mem_of_getElem? (i := 329) rfl) rfl
theorem wd_330 : (.methodLink "LoadCycles$TextReader" 53 ⟨"LoadCycles$House", "addLevel", "(I)Z"⟩ : Cond) ∈ TB := tb_of (List.mem_of_getElem? (i := 330) (by decide +kernel)) rfl
theorem wd_331 : (.instanceMethod ⟨"LoadCycles$House", "addLevel", "(I)Z"⟩ : Cond) ∈ TB := tb_of (List.mem_of_getElem? (i := 331) (by decide +kernel)) rfl
theorem wd_332 : (.selects "LoadCycles$House" ⟨"LoadCycles$House", "addLevel", "(I)Z"⟩ ⟨"LoadCycles$House", "addLevel", "(I)Z"⟩ : Cond) ∈ TB := tb_of (List.mem_of_getElem? (i := 332) (by decide +kernel)) rfl
set_option maxRecDepth 20000 in
theorem wd_333 : (.code ⟨"LoadCycles$House", "addLevel", "(I)Z"⟩ prog_4_method_7_code 3 (some .boolean) : Cond) ∈ TB := tb_of (List.mem_of_getElem? (i := 333) rfl) rfl
theorem wd_334 : (.methodLink "LoadCycles$House" 40 ⟨"LoadCycles$House", "setLevel", "(III)V"⟩ : Cond) ∈ TB := tb_of (List.mem_of_getElem? (i := 334) (by decide +kernel)) rfl
theorem wd_335 : (.instanceMethod ⟨"LoadCycles$House", "setLevel", "(III)V"⟩ : Cond) ∈ TB := tb_of (List.mem_of_getElem? (i := 335) (by decide +kernel)) rfl
theorem wd_336 : (.selects "LoadCycles$House" ⟨"LoadCycles$House", "setLevel", "(III)V"⟩ ⟨"LoadCycles$House", "setLevel", "(III)V"⟩ : Cond) ∈ TB := tb_of (List.mem_of_getElem? (i := 336) (by decide +kernel)) rfl
set_option maxRecDepth 20000 in
theorem wd_337 : (.code ⟨"LoadCycles$House", "setLevel", "(III)V"⟩ prog_4_method_9_code 4 (none : Option FieldType) : Cond) ∈ TB := tb_of (List.mem_of_getElem? (i := 337) rfl) rfl
theorem wd_338 : (.methodLink "LoadCycles" 95 ⟨"LoadCycles$House", "become", "(LLoadCycles$House;)V"⟩ : Cond) ∈ TB := tb_of (List.mem_of_getElem? (i := 338) (by decide +kernel)) rfl
theorem wd_339 : (.instanceMethod ⟨"LoadCycles$House", "become", "(LLoadCycles$House;)V"⟩ : Cond) ∈ TB := tb_of (List.mem_of_getElem? (i := 339) (by decide +kernel)) rfl
theorem wd_340 : (.selects "LoadCycles$House" ⟨"LoadCycles$House", "become", "(LLoadCycles$House;)V"⟩ ⟨"LoadCycles$House", "become", "(LLoadCycles$House;)V"⟩ : Cond) ∈ TB := tb_of (List.mem_of_getElem? (i := 340) (by decide +kernel)) rfl
set_option maxRecDepth 20000 in
theorem wd_341 : (.code ⟨"LoadCycles$House", "become", "(LLoadCycles$House;)V"⟩ prog_4_method_2_code 2 (none : Option FieldType) : Cond) ∈ TB := tb_of (List.mem_of_getElem? (i := 341) rfl) rfl
theorem wd_342 : (.methodLink "LoadCycles$House" 24 ⟨"java/lang/System", "arraycopy", "(Ljava/lang/Object;ILjava/lang/Object;II)V"⟩ : Cond) ∈ TB := tb_of (List.mem_of_getElem? (i := 342) (by decide +kernel)) rfl
theorem wd_343 : (.static ⟨"java/lang/System", "arraycopy", "(Ljava/lang/Object;ILjava/lang/Object;II)V"⟩ : Cond) ∈ TB := tb_of (List.mem_of_getElem? (i := 343) (by decide +kernel)) rfl
theorem wd_344 : (.native ⟨"java/lang/System", "arraycopy", "(Ljava/lang/Object;ILjava/lang/Object;II)V"⟩ : Cond) ∈ TB := tb_of (List.mem_of_getElem? (i := 344) (by decide +kernel)) rfl
theorem wd_345 : (.methodLink "LoadCycles" 102 ⟨"LoadCycles", "forgetBest", "()V"⟩ : Cond) ∈ TB := tb_of (List.mem_of_getElem? (i := 345) (by decide +kernel)) rfl
theorem wd_347 : (.instanceMethod ⟨"LoadCycles", "forgetBest", "()V"⟩ : Cond) ∈ TB := tb_of (List.mem_of_getElem? (i := 347) (by decide +kernel)) rfl
set_option maxRecDepth 20000 in
theorem wd_348 : (.code ⟨"LoadCycles", "forgetBest", "()V"⟩ prog_1_method_40_code 1 (none : Option FieldType) : Cond) ∈ TB := tb_of (List.mem_of_getElem? (i := 348) rfl) rfl
theorem wd_349 : (.methodLink "LoadCycles" 267 ⟨"LoadCycles$Guesses", "forget", "()V"⟩ : Cond) ∈ TB := tb_of (List.mem_of_getElem? (i := 349) (by decide +kernel)) rfl
theorem wd_350 : (.instanceMethod ⟨"LoadCycles$Guesses", "forget", "()V"⟩ : Cond) ∈ TB := tb_of (List.mem_of_getElem? (i := 350) (by decide +kernel)) rfl
theorem wd_351 : (.selects "LoadCycles$Guesses" ⟨"LoadCycles$Guesses", "forget", "()V"⟩ ⟨"LoadCycles$Guesses", "forget", "()V"⟩ : Cond) ∈ TB := tb_of (List.mem_of_getElem? (i := 351) (by decide +kernel)) rfl
set_option maxRecDepth 20000 in
theorem wd_352 : (.code ⟨"LoadCycles$Guesses", "forget", "()V"⟩ prog_3_method_2_code 2 (none : Option FieldType) : Cond) ∈ TB := tb_of (List.mem_of_getElem? (i := 352) rfl) rfl
theorem wd_353 : (.methodLink "LoadCyclesLaw" 18 ⟨"LoadCycles", "ofAppliance", "(II)I"⟩ : Cond) ∈ TB := tb_of (List.mem_of_getElem? (i := 353) (by decide +kernel)) rfl
theorem wd_354 : (.instanceMethod ⟨"LoadCycles", "ofAppliance", "(II)I"⟩ : Cond) ∈ TB := tb_of (List.mem_of_getElem? (i := 354) (by decide +kernel)) rfl
theorem wd_355 : (.selects "LoadCycles" ⟨"LoadCycles", "ofAppliance", "(II)I"⟩ ⟨"LoadCycles", "ofAppliance", "(II)I"⟩ : Cond) ∈ TB := tb_of (List.mem_of_getElem? (i := 355) (by decide +kernel)) rfl
set_option maxRecDepth 20000 in
theorem wd_356 : (.code ⟨"LoadCycles", "ofAppliance", "(II)I"⟩ prog_1_method_3_code 3 (some .int) : Cond) ∈ TB := tb_of (List.mem_of_getElem? (i := 356) rfl) rfl
theorem wd_357 : (.methodLink "LoadCycles" 108 ⟨"LoadCycles$House", "hasAppliance", "(I)Z"⟩ : Cond) ∈ TB := tb_of (List.mem_of_getElem? (i := 357) (by decide +kernel)) rfl
theorem wd_358 : (.instanceMethod ⟨"LoadCycles$House", "hasAppliance", "(I)Z"⟩ : Cond) ∈ TB := tb_of (List.mem_of_getElem? (i := 358) (by decide +kernel)) rfl
theorem wd_359 : (.selects "LoadCycles$House" ⟨"LoadCycles$House", "hasAppliance", "(I)Z"⟩ ⟨"LoadCycles$House", "hasAppliance", "(I)Z"⟩ : Cond) ∈ TB := tb_of (List.mem_of_getElem? (i := 359) (by decide +kernel)) rfl
set_option maxRecDepth 20000 in
theorem wd_360 : (.code ⟨"LoadCycles$House", "hasAppliance", "(I)Z"⟩ prog_4_method_3_code 2 (some .boolean) : Cond) ∈ TB := tb_of (List.mem_of_getElem? (i := 360) rfl) rfl
theorem wd_361 : (.methodLink "LoadCycles" 117 ⟨"LoadCycles$House", "hasLevel", "(II)Z"⟩ : Cond) ∈ TB := tb_of (List.mem_of_getElem? (i := 361) (by decide +kernel)) rfl
theorem wd_362 : (.instanceMethod ⟨"LoadCycles$House", "hasLevel", "(II)Z"⟩ : Cond) ∈ TB := tb_of (List.mem_of_getElem? (i := 362) (by decide +kernel)) rfl
theorem wd_363 : (.selects "LoadCycles$House" ⟨"LoadCycles$House", "hasLevel", "(II)Z"⟩ ⟨"LoadCycles$House", "hasLevel", "(II)Z"⟩ : Cond) ∈ TB := tb_of (List.mem_of_getElem? (i := 363) (by decide +kernel)) rfl
set_option maxRecDepth 20000 in
theorem wd_364 : (.code ⟨"LoadCycles$House", "hasLevel", "(II)Z"⟩ prog_4_method_4_code 3 (some .boolean) : Cond) ∈ TB := tb_of (List.mem_of_getElem? (i := 364) rfl) rfl
theorem wd_365 : (.methodLink "LoadCycles" 120 ⟨"LoadCycles$House", "toldLevel", "(II)I"⟩ : Cond) ∈ TB := tb_of (List.mem_of_getElem? (i := 365) (by decide +kernel)) rfl
theorem wd_366 : (.instanceMethod ⟨"LoadCycles$House", "toldLevel", "(II)I"⟩ : Cond) ∈ TB := tb_of (List.mem_of_getElem? (i := 366) (by decide +kernel)) rfl
theorem wd_367 : (.selects "LoadCycles$House" ⟨"LoadCycles$House", "toldLevel", "(II)I"⟩ ⟨"LoadCycles$House", "toldLevel", "(II)I"⟩ : Cond) ∈ TB := tb_of (List.mem_of_getElem? (i := 367) (by decide +kernel)) rfl
set_option maxRecDepth 20000 in
theorem wd_368 : (.code ⟨"LoadCycles$House", "toldLevel", "(II)I"⟩ prog_4_method_8_code 3 (some .int) : Cond) ∈ TB := tb_of (List.mem_of_getElem? (i := 368) rfl) rfl
theorem wd_369 : (.methodLink "LoadCycles" 124 ⟨"LoadCycles$House", "powerOf", "(II)I"⟩ : Cond) ∈ TB := tb_of (List.mem_of_getElem? (i := 369) (by decide +kernel)) rfl
theorem wd_370 : (.instanceMethod ⟨"LoadCycles$House", "powerOf", "(II)I"⟩ : Cond) ∈ TB := tb_of (List.mem_of_getElem? (i := 370) (by decide +kernel)) rfl
theorem wd_371 : (.selects "LoadCycles$House" ⟨"LoadCycles$House", "powerOf", "(II)I"⟩ ⟨"LoadCycles$House", "powerOf", "(II)I"⟩ : Cond) ∈ TB := tb_of (List.mem_of_getElem? (i := 371) (by decide +kernel)) rfl
set_option maxRecDepth 20000 in
theorem wd_372 : (.code ⟨"LoadCycles$House", "powerOf", "(II)I"⟩ prog_4_method_10_code 4 (some .int) : Cond) ∈ TB := tb_of (List.mem_of_getElem? (i := 372) rfl) rfl
theorem wd_373 : (.methodLink "LoadCyclesLaw" 23 ⟨"LoadCycles", "level", "(III)I"⟩ : Cond) ∈ TB := tb_of (List.mem_of_getElem? (i := 373) (by decide +kernel)) rfl
theorem wd_374 : (.instanceMethod ⟨"LoadCycles", "level", "(III)I"⟩ : Cond) ∈ TB := tb_of (List.mem_of_getElem? (i := 374) (by decide +kernel)) rfl
theorem wd_375 : (.selects "LoadCycles" ⟨"LoadCycles", "level", "(III)I"⟩ ⟨"LoadCycles", "level", "(III)I"⟩ : Cond) ∈ TB := tb_of (List.mem_of_getElem? (i := 375) (by decide +kernel)) rfl
set_option maxRecDepth 20000 in
theorem wd_376 : (.code ⟨"LoadCycles", "level", "(III)I"⟩ prog_1_method_4_code 5 (some .int) : Cond) ∈ TB := tb_of (List.mem_of_getElem? (i := 376) rfl) rfl
theorem wd_377 : (.methodLink "LoadCycles" 127 ⟨"LoadCycles", "isLevelValue", "(I)Z"⟩ : Cond) ∈ TB := tb_of (List.mem_of_getElem? (i := 377) (by decide +kernel)) rfl
theorem wd_378 : (.methodLink "LoadCycles" 130 ⟨"LoadCycles$House", "setLevel", "(III)V"⟩ : Cond) ∈ TB := tb_of (List.mem_of_getElem? (i := 378) (by decide +kernel)) rfl
theorem wd_379 : (.methodLink "LoadCyclesLaw" 28 ⟨"LoadCycles", "meter", "(IIII)I"⟩ : Cond) ∈ TB := tb_of (List.mem_of_getElem? (i := 379) (by decide +kernel)) rfl
theorem wd_380 : (.instanceMethod ⟨"LoadCycles", "meter", "(IIII)I"⟩ : Cond) ∈ TB := tb_of (List.mem_of_getElem? (i := 380) (by decide +kernel)) rfl
theorem wd_381 : (.selects "LoadCycles" ⟨"LoadCycles", "meter", "(IIII)I"⟩ ⟨"LoadCycles", "meter", "(IIII)I"⟩ : Cond) ∈ TB := tb_of (List.mem_of_getElem? (i := 381) (by decide +kernel)) rfl
set_option maxRecDepth 20000 in
theorem wd_382 : (.code ⟨"LoadCycles", "meter", "(IIII)I"⟩ prog_1_method_5_code 8 (some .int) : Cond) ∈ TB := tb_of (List.mem_of_getElem? (i := 382) rfl) rfl
theorem wd_383 : (.methodLink "LoadCycles" 134 ⟨"LoadCycles$Sheet", "faultOfCells", "(III)I"⟩ : Cond) ∈ TB := tb_of (List.mem_of_getElem? (i := 383) (by decide +kernel)) rfl
theorem wd_384 : (.instanceMethod ⟨"LoadCycles$Sheet", "faultOfCells", "(III)I"⟩ : Cond) ∈ TB := tb_of (List.mem_of_getElem? (i := 384) (by decide +kernel)) rfl
theorem wd_385 : (.selects "LoadCycles$Sheet" ⟨"LoadCycles$Sheet", "faultOfCells", "(III)I"⟩ ⟨"LoadCycles$Sheet", "faultOfCells", "(III)I"⟩ : Cond) ∈ TB := tb_of (List.mem_of_getElem? (i := 385) (by decide +kernel)) rfl
set_option maxRecDepth 20000 in
theorem wd_386 : (.code ⟨"LoadCycles$Sheet", "faultOfCells", "(III)I"⟩ prog_5_method_8_code 5 (some .int) : Cond) ∈ TB := tb_of (List.mem_of_getElem? (i := 386) rfl) rfl
theorem wd_387 : (.methodLink "LoadCycles$Sheet" 32 ⟨"LoadCycles$Sheet", "faultOfRow", "(I)I"⟩ : Cond) ∈ TB := tb_of (List.mem_of_getElem? (i := 387) (by decide +kernel)) rfl
theorem wd_388 : (.methodLink "LoadCycles$Sheet" 36 ⟨"LoadCycles$Sheet", "holds", "(II)Z"⟩ : Cond) ∈ TB := tb_of (List.mem_of_getElem? (i := 388) (by decide +kernel)) rfl
theorem wd_389 : (.methodLink "LoadCycles" 138 ⟨"LoadCycles", "hasHouse", "()Z"⟩ : Cond) ∈ TB := tb_of (List.mem_of_getElem? (i := 389) (by decide +kernel)) rfl
theorem wd_391 : (.instanceMethod ⟨"LoadCycles", "hasHouse", "()Z"⟩ : Cond) ∈ TB := tb_of (List.mem_of_getElem? (i := 391) (by decide +kernel)) rfl
set_option maxRecDepth 20000 in
theorem wd_392 : (.code ⟨"LoadCycles", "hasHouse", "()Z"⟩ prog_1_method_38_code 1 (some .boolean) : Cond) ∈ TB := tb_of (List.mem_of_getElem? (i := 392) rfl) rfl
theorem wd_393 : (.methodLink "LoadCycles" 151 ⟨"java/lang/System", "arraycopy", "(Ljava/lang/Object;ILjava/lang/Object;II)V"⟩ : Cond) ∈ TB := tb_of (List.mem_of_getElem? (i := 393) (by decide +kernel)) rfl
theorem wd_394 : (.methodLink "LoadCyclesLaw" 32 ⟨"LoadCycles", "value", "(I)I"⟩ : Cond) ∈ TB := tb_of (List.mem_of_getElem? (i := 394) (by decide +kernel)) rfl
theorem wd_395 : (.instanceMethod ⟨"LoadCycles", "value", "(I)I"⟩ : Cond) ∈ TB := tb_of (List.mem_of_getElem? (i := 395) (by decide +kernel)) rfl
theorem wd_396 : (.selects "LoadCycles" ⟨"LoadCycles", "value", "(I)I"⟩ ⟨"LoadCycles", "value", "(I)I"⟩ : Cond) ∈ TB := tb_of (List.mem_of_getElem? (i := 396) (by decide +kernel)) rfl
set_option maxRecDepth 20000 in
theorem wd_397 : (.code ⟨"LoadCycles", "value", "(I)I"⟩ prog_1_method_6_code 2 (some .int) : Cond) ∈ TB := tb_of (List.mem_of_getElem? (i := 397) rfl) rfl
theorem wd_398 : (.methodLink "LoadCycles" 160 ⟨"LoadCycles$House", "hasTime", "(I)Z"⟩ : Cond) ∈ TB := tb_of (List.mem_of_getElem? (i := 398) (by decide +kernel)) rfl
theorem wd_399 : (.instanceMethod ⟨"LoadCycles$House", "hasTime", "(I)Z"⟩ : Cond) ∈ TB := tb_of (List.mem_of_getElem? (i := 399) (by decide +kernel)) rfl
theorem wd_400 : (.selects "LoadCycles$House" ⟨"LoadCycles$House", "hasTime", "(I)Z"⟩ ⟨"LoadCycles$House", "hasTime", "(I)Z"⟩ : Cond) ∈ TB := tb_of (List.mem_of_getElem? (i := 400) (by decide +kernel)) rfl
set_option maxRecDepth 20000 in
theorem wd_401 : (.code ⟨"LoadCycles$House", "hasTime", "(I)Z"⟩ prog_4_method_5_code 2 (some .boolean) : Cond) ∈ TB := tb_of (List.mem_of_getElem? (i := 401) rfl) rfl
theorem wd_402 : (.methodLink "LoadCyclesLaw" 37 ⟨"LoadCycles", "base", "(I)I"⟩ : Cond) ∈ TB := tb_of (List.mem_of_getElem? (i := 402) (by decide +kernel)) rfl
theorem wd_403 : (.instanceMethod ⟨"LoadCycles", "base", "(I)I"⟩ : Cond) ∈ TB := tb_of (List.mem_of_getElem? (i := 403) (by decide +kernel)) rfl
theorem wd_404 : (.selects "LoadCycles" ⟨"LoadCycles", "base", "(I)I"⟩ ⟨"LoadCycles", "base", "(I)I"⟩ : Cond) ∈ TB := tb_of (List.mem_of_getElem? (i := 404) (by decide +kernel)) rfl
set_option maxRecDepth 20000 in
theorem wd_405 : (.code ⟨"LoadCycles", "base", "(I)I"⟩ prog_1_method_7_code 3 (some .int) : Cond) ∈ TB := tb_of (List.mem_of_getElem? (i := 405) rfl) rfl
theorem wd_406 : (.methodLink "LoadCycles" 163 ⟨"LoadCycles", "isMeterValue", "(I)Z"⟩ : Cond) ∈ TB := tb_of (List.mem_of_getElem? (i := 406) (by decide +kernel)) rfl
theorem wd_407 : (.static ⟨"LoadCycles", "isMeterValue", "(I)Z"⟩ : Cond) ∈ TB := tb_of (List.mem_of_getElem? (i := 407) (by decide +kernel)) rfl
set_option maxRecDepth 20000 in
theorem wd_408 : (.code ⟨"LoadCycles", "isMeterValue", "(I)Z"⟩ prog_1_method_37_code 1 (some .boolean) : Cond) ∈ TB := tb_of (List.mem_of_getElem? (i := 408) rfl) rfl
theorem wd_409 : (.methodLink "LoadCycles" 166 ⟨"LoadCycles$House", "allowsBase", "(I)Z"⟩ : Cond) ∈ TB := tb_of (List.mem_of_getElem? (i := 409) (by decide +kernel)) rfl
theorem wd_410 : (.instanceMethod ⟨"LoadCycles$House", "allowsBase", "(I)Z"⟩ : Cond) ∈ TB := tb_of (List.mem_of_getElem? (i := 410) (by decide +kernel)) rfl
theorem wd_411 : (.selects "LoadCycles$House" ⟨"LoadCycles$House", "allowsBase", "(I)Z"⟩ ⟨"LoadCycles$House", "allowsBase", "(I)Z"⟩ : Cond) ∈ TB := tb_of (List.mem_of_getElem? (i := 411) (by decide +kernel)) rfl
set_option maxRecDepth 20000 in
theorem wd_412 : (.code ⟨"LoadCycles$House", "allowsBase", "(I)Z"⟩ prog_4_method_16_code 3 (some .boolean) : Cond) ∈ TB := tb_of (List.mem_of_getElem? (i := 412) rfl) rfl
theorem wd_413 : (.methodLink "LoadCyclesLaw" 41 ⟨"LoadCycles", "at", "(II)I"⟩ : Cond) ∈ TB := tb_of (List.mem_of_getElem? (i := 413) (by decide +kernel)) rfl
theorem wd_414 : (.instanceMethod ⟨"LoadCycles", "at", "(II)I"⟩ : Cond) ∈ TB := tb_of (List.mem_of_getElem? (i := 414) (by decide +kernel)) rfl
theorem wd_415 : (.selects "LoadCycles" ⟨"LoadCycles", "at", "(II)I"⟩ ⟨"LoadCycles", "at", "(II)I"⟩ : Cond) ∈ TB := tb_of (List.mem_of_getElem? (i := 415) (by decide +kernel)) rfl
set_option maxRecDepth 20000 in
theorem wd_416 : (.code ⟨"LoadCycles", "at", "(II)I"⟩ prog_1_method_8_code 3 (some .int) : Cond) ∈ TB := tb_of (List.mem_of_getElem? (i := 416) rfl) rfl
theorem wd_417 : (.methodLink "LoadCycles" 169 ⟨"LoadCycles", "knownBest", "()LLoadCycles$Doing;"⟩ : Cond) ∈ TB := tb_of (List.mem_of_getElem? (i := 417) (by decide +kernel)) rfl
theorem wd_419 : (.instanceMethod ⟨"LoadCycles", "knownBest", "()LLoadCycles$Doing;"⟩ : Cond) ∈ TB := tb_of (List.mem_of_getElem? (i := 419) (by decide +kernel)) rfl
set_option maxRecDepth 20000 in
theorem wd_420 : (.code ⟨"LoadCycles", "knownBest", "()LLoadCycles$Doing;"⟩ prog_1_method_41_code 1 (some (.object "LoadCycles$Doing")) : Cond) ∈ TB := tb_of (List.mem_of_getElem? (i := 420) rfl) rfl
theorem wd_421 : (.methodLink "LoadCycles" 270 ⟨"LoadCycles$Unmixer", "unmix", "(LLoadCycles$House;LLoadCycles$Doing;)V"⟩ : Cond) ∈ TB := tb_of (List.mem_of_getElem? (i := 421) (by decide +kernel)) rfl
theorem wd_422 : (.instanceMethod ⟨"LoadCycles$Unmixer", "unmix", "(LLoadCycles$House;LLoadCycles$Doing;)V"⟩ : Cond) ∈ TB := tb_of (List.mem_of_getElem? (i := 422) (by decide +kernel)) rfl
theorem wd_423 : (.selects "LoadCycles$Unmixer" ⟨"LoadCycles$Unmixer", "unmix", "(LLoadCycles$House;LLoadCycles$Doing;)V"⟩ ⟨"LoadCycles$Unmixer", "unmix", "(LLoadCycles$House;LLoadCycles$Doing;)V"⟩ : Cond) ∈ TB := tb_of (List.mem_of_getElem? (i := 423) (by decide +kernel)) rfl
set_option maxRecDepth 20000 in
theorem wd_424 : (.code ⟨"LoadCycles$Unmixer", "unmix", "(LLoadCycles$House;LLoadCycles$Doing;)V"⟩ prog_7_method_2_code 7 (none : Option FieldType) : Cond) ∈ TB := tb_of (List.mem_of_getElem? (i := 424) rfl) rfl
theorem wd_425 : (.methodLink "LoadCycles$Unmixer" 27 ⟨"LoadCycles$Unmixer", "listMixes", "(LLoadCycles$House;)V"⟩ : Cond) ∈ TB := tb_of (List.mem_of_getElem? (i := 425) (by decide +kernel)) rfl
theorem wd_427 : (.instanceMethod ⟨"LoadCycles$Unmixer", "listMixes", "(LLoadCycles$House;)V"⟩ : Cond) ∈ TB := tb_of (List.mem_of_getElem? (i := 427) (by decide +kernel)) rfl
set_option maxRecDepth 20000 in
theorem wd_428 : (.code ⟨"LoadCycles$Unmixer", "listMixes", "(LLoadCycles$House;)V"⟩ prog_7_method_3_code 3 (none : Option FieldType) : Cond) ∈ TB := tb_of (List.mem_of_getElem? (i := 428) rfl) rfl
theorem wd_429 : (.methodLink "LoadCycles$Unmixer" 62 ⟨"LoadCycles$Unmixer", "listWith", "(LLoadCycles$House;I)V"⟩ : Cond) ∈ TB := tb_of (List.mem_of_getElem? (i := 429) (by decide +kernel)) rfl
theorem wd_431 : (.instanceMethod ⟨"LoadCycles$Unmixer", "listWith", "(LLoadCycles$House;I)V"⟩ : Cond) ∈ TB := tb_of (List.mem_of_getElem? (i := 431) (by decide +kernel)) rfl
set_option maxRecDepth 20000 in
theorem wd_432 : (.code ⟨"LoadCycles$Unmixer", "listWith", "(LLoadCycles$House;I)V"⟩ prog_7_method_4_code 9 (none : Option FieldType) : Cond) ∈ TB := tb_of (List.mem_of_getElem? (i := 432) rfl) rfl
theorem wd_433 : (.methodLink "LoadCycles$Unmixer" 69 ⟨"LoadCycles$House", "powerIn", "(II)I"⟩ : Cond) ∈ TB := tb_of (List.mem_of_getElem? (i := 433) (by decide +kernel)) rfl
theorem wd_434 : (.instanceMethod ⟨"LoadCycles$House", "powerIn", "(II)I"⟩ : Cond) ∈ TB := tb_of (List.mem_of_getElem? (i := 434) (by decide +kernel)) rfl
theorem wd_435 : (.selects "LoadCycles$House" ⟨"LoadCycles$House", "powerIn", "(II)I"⟩ ⟨"LoadCycles$House", "powerIn", "(II)I"⟩ : Cond) ∈ TB := tb_of (List.mem_of_getElem? (i := 435) (by decide +kernel)) rfl
set_option maxRecDepth 20000 in
theorem wd_436 : (.code ⟨"LoadCycles$House", "powerIn", "(II)I"⟩ prog_4_method_11_code 3 (some .int) : Cond) ∈ TB := tb_of (List.mem_of_getElem? (i := 436) rfl) rfl
theorem wd_437 : (.methodLink "LoadCycles$House" 44 ⟨"LoadCycles$House", "powerOf", "(II)I"⟩ : Cond) ∈ TB := tb_of (List.mem_of_getElem? (i := 437) (by decide +kernel)) rfl
theorem wd_438 : (.methodLink "LoadCycles$Unmixer" 73 ⟨"LoadCycles$House", "stateAfter", "(II)I"⟩ : Cond) ∈ TB := tb_of (List.mem_of_getElem? (i := 438) (by decide +kernel)) rfl
theorem wd_439 : (.instanceMethod ⟨"LoadCycles$House", "stateAfter", "(II)I"⟩ : Cond) ∈ TB := tb_of (List.mem_of_getElem? (i := 439) (by decide +kernel)) rfl
theorem wd_440 : (.selects "LoadCycles$House" ⟨"LoadCycles$House", "stateAfter", "(II)I"⟩ ⟨"LoadCycles$House", "stateAfter", "(II)I"⟩ : Cond) ∈ TB := tb_of (List.mem_of_getElem? (i := 440) (by decide +kernel)) rfl
set_option maxRecDepth 20000 in
theorem wd_441 : (.code ⟨"LoadCycles$House", "stateAfter", "(II)I"⟩ prog_4_method_12_code 3 (some .int) : Cond) ∈ TB := tb_of (List.mem_of_getElem? (i := 441) rfl) rfl
theorem wd_442 : (.methodLink "LoadCycles$Unmixer" 76 ⟨"LoadCycles$Unmixer", "repeatAfter", "(III)V"⟩ : Cond) ∈ TB := tb_of (List.mem_of_getElem? (i := 442) (by decide +kernel)) rfl
theorem wd_444 : (.instanceMethod ⟨"LoadCycles$Unmixer", "repeatAfter", "(III)V"⟩ : Cond) ∈ TB := tb_of (List.mem_of_getElem? (i := 444) (by decide +kernel)) rfl
set_option maxRecDepth 20000 in
theorem wd_445 : (.code ⟨"LoadCycles$Unmixer", "repeatAfter", "(III)V"⟩ prog_7_method_5_code 6 (none : Option FieldType) : Cond) ∈ TB := tb_of (List.mem_of_getElem? (i := 445) rfl) rfl
theorem wd_446 : (.methodLink "LoadCycles$Unmixer" 31 ⟨"LoadCycles$Unmixer", "findCosts", "(LLoadCycles$House;)V"⟩ : Cond) ∈ TB := tb_of (List.mem_of_getElem? (i := 446) (by decide +kernel)) rfl
theorem wd_448 : (.instanceMethod ⟨"LoadCycles$Unmixer", "findCosts", "(LLoadCycles$House;)V"⟩ : Cond) ∈ TB := tb_of (List.mem_of_getElem? (i := 448) (by decide +kernel)) rfl
set_option maxRecDepth 20000 in
theorem wd_449 : (.code ⟨"LoadCycles$Unmixer", "findCosts", "(LLoadCycles$House;)V"⟩ prog_7_method_6_code 6 (none : Option FieldType) : Cond) ∈ TB := tb_of (List.mem_of_getElem? (i := 449) rfl) rfl
theorem wd_450 : (.methodLink "LoadCycles$Unmixer" 80 ⟨"java/util/Arrays", "fill", "([II)V"⟩ : Cond) ∈ TB := tb_of (List.mem_of_getElem? (i := 450) (by decide +kernel)) rfl
theorem wd_451 : (.static ⟨"java/util/Arrays", "fill", "([II)V"⟩ : Cond) ∈ TB := tb_of (List.mem_of_getElem? (i := 451) (by decide +kernel)) rfl
set_option maxRecDepth 20000 in
theorem wd_452 : (.code ⟨"java/util/Arrays", "fill", "([II)V"⟩ prog_13_method_103_code 4 (none : Option FieldType) : Cond) ∈ TB := tb_of (List.mem_of_getElem? (i := 452) rfl) rfl
theorem wd_453 : (.constant "LoadCycles$Unmixer" 92 (536870912 : Int32) : Cond) ∈ TB := tb_of (List.mem_of_getElem? (i := 453) (by decide +kernel)) rfl
theorem wd_454 : (.methodLink "LoadCycles$Unmixer" 93 ⟨"java/lang/System", "arraycopy", "(Ljava/lang/Object;ILjava/lang/Object;II)V"⟩ : Cond) ∈ TB := tb_of (List.mem_of_getElem? (i := 454) (by decide +kernel)) rfl
theorem wd_455 : (.methodLink "LoadCycles$Unmixer" 99 ⟨"LoadCycles$Unmixer", "letGoOn", "(I)V"⟩ : Cond) ∈ TB := tb_of (List.mem_of_getElem? (i := 455) (by decide +kernel)) rfl
theorem wd_457 : (.instanceMethod ⟨"LoadCycles$Unmixer", "letGoOn", "(I)V"⟩ : Cond) ∈ TB := tb_of (List.mem_of_getElem? (i := 457) (by decide +kernel)) rfl
set_option maxRecDepth 20000 in
theorem wd_458 : (.code ⟨"LoadCycles$Unmixer", "letGoOn", "(I)V"⟩ prog_7_method_7_code 4 (none : Option FieldType) : Cond) ∈ TB := tb_of (List.mem_of_getElem? (i := 458) rfl) rfl
theorem wd_459 : (.methodLink "LoadCycles$Unmixer" 103 ⟨"java/lang/Math", "min", "(II)I"⟩ : Cond) ∈ TB := tb_of (List.mem_of_getElem? (i := 459) (by decide +kernel)) rfl
theorem wd_460 : (.static ⟨"java/lang/Math", "min", "(II)I"⟩ : Cond) ∈ TB := tb_of (List.mem_of_getElem? (i := 460) (by decide +kernel)) rfl
set_option maxRecDepth 20000 in
theorem wd_461 : (.code ⟨"java/lang/Math", "min", "(II)I"⟩ prog_11_method_69_code 2 (some .int) : Cond) ∈ TB := tb_of (List.mem_of_getElem? (i := 461) rfl) rfl
theorem wd_462 : (.methodLink "LoadCycles$Unmixer" 34 ⟨"LoadCycles$Doing", "begin", "(LLoadCycles$House;)V"⟩ : Cond) ∈ TB := tb_of (List.mem_of_getElem? (i := 462) (by decide +kernel)) rfl
theorem wd_463 : (.instanceMethod ⟨"LoadCycles$Doing", "begin", "(LLoadCycles$House;)V"⟩ : Cond) ∈ TB := tb_of (List.mem_of_getElem? (i := 463) (by decide +kernel)) rfl
theorem wd_464 : (.selects "LoadCycles$Doing" ⟨"LoadCycles$Doing", "begin", "(LLoadCycles$House;)V"⟩ ⟨"LoadCycles$Doing", "begin", "(LLoadCycles$House;)V"⟩ : Cond) ∈ TB := tb_of (List.mem_of_getElem? (i := 464) (by decide +kernel)) rfl
set_option maxRecDepth 20000 in
theorem wd_465 : (.code ⟨"LoadCycles$Doing", "begin", "(LLoadCycles$House;)V"⟩ prog_2_method_5_code 2 (none : Option FieldType) : Cond) ∈ TB := tb_of (List.mem_of_getElem? (i := 465) rfl) rfl
theorem wd_466 : (.methodLink "LoadCycles$Doing" 35 ⟨"java/util/Arrays", "fill", "([II)V"⟩ : Cond) ∈ TB := tb_of (List.mem_of_getElem? (i := 466) (by decide +kernel)) rfl
theorem wd_467 : (.methodLink "LoadCycles$Doing" 41 ⟨"LoadCycles$House", "allValues", "()I"⟩ : Cond) ∈ TB := tb_of (List.mem_of_getElem? (i := 467) (by decide +kernel)) rfl
theorem wd_468 : (.instanceMethod ⟨"LoadCycles$House", "allValues", "()I"⟩ : Cond) ∈ TB := tb_of (List.mem_of_getElem? (i := 468) (by decide +kernel)) rfl
theorem wd_469 : (.selects "LoadCycles$House" ⟨"LoadCycles$House", "allValues", "()I"⟩ ⟨"LoadCycles$House", "allValues", "()I"⟩ : Cond) ∈ TB := tb_of (List.mem_of_getElem? (i := 469) (by decide +kernel)) rfl
set_option maxRecDepth 20000 in
theorem wd_470 : (.code ⟨"LoadCycles$House", "allValues", "()I"⟩ prog_4_method_14_code 3 (some .int) : Cond) ∈ TB := tb_of (List.mem_of_getElem? (i := 470) rfl) rfl
theorem wd_471 : (.methodLink "LoadCycles$Unmixer" 45 ⟨"LoadCycles$Unmixer", "bestSet", "(LLoadCycles$House;II)I"⟩ : Cond) ∈ TB := tb_of (List.mem_of_getElem? (i := 471) (by decide +kernel)) rfl
theorem wd_473 : (.instanceMethod ⟨"LoadCycles$Unmixer", "bestSet", "(LLoadCycles$House;II)I"⟩ : Cond) ∈ TB := tb_of (List.mem_of_getElem? (i := 473) (by decide +kernel)) rfl
set_option maxRecDepth 20000 in
theorem wd_474 : (.code ⟨"LoadCycles$Unmixer", "bestSet", "(LLoadCycles$House;II)I"⟩ prog_7_method_8_code 10 (some .int) : Cond) ∈ TB := tb_of (List.mem_of_getElem? (i := 474) rfl) rfl
theorem wd_475 : (.methodLink "LoadCycles$Unmixer" 49 ⟨"LoadCycles$Unmixer", "mixBehind", "(LLoadCycles$House;II)I"⟩ : Cond) ∈ TB := tb_of (List.mem_of_getElem? (i := 475) (by decide +kernel)) rfl
theorem wd_477 : (.instanceMethod ⟨"LoadCycles$Unmixer", "mixBehind", "(LLoadCycles$House;II)I"⟩ : Cond) ∈ TB := tb_of (List.mem_of_getElem? (i := 477) (by decide +kernel)) rfl
set_option maxRecDepth 20000 in
theorem wd_478 : (.code ⟨"LoadCycles$Unmixer", "mixBehind", "(LLoadCycles$House;II)I"⟩ prog_7_method_9_code 6 (some .int) : Cond) ∈ TB := tb_of (List.mem_of_getElem? (i := 478) rfl) rfl
theorem wd_479 : (.methodLink "LoadCycles$Unmixer" 108 ⟨"java/lang/Integer", "bitCount", "(I)I"⟩ : Cond) ∈ TB := tb_of (List.mem_of_getElem? (i := 479) (by decide +kernel)) rfl
theorem wd_480 : (.static ⟨"java/lang/Integer", "bitCount", "(I)I"⟩ : Cond) ∈ TB := tb_of (List.mem_of_getElem? (i := 480) (by decide +kernel)) rfl
set_option maxRecDepth 20000 in
theorem wd_481 : (.code ⟨"java/lang/Integer", "bitCount", "(I)I"⟩ prog_10_method_49_code 1 (some .int) : Cond) ∈ TB := tb_of (List.mem_of_getElem? (i := 481) rfl) rfl
theorem wd_482 : (.constant "java/lang/Integer" 265 (1431655765 : Int32) : Cond) ∈ TB := tb_of (List.mem_of_getElem? (i := 482) (by decide +kernel)) rfl
theorem wd_483 : (.constant "java/lang/Integer" 266 (858993459 : Int32) : Cond) ∈ TB := tb_of (List.mem_of_getElem? (i := 483) (by decide +kernel)) rfl
theorem wd_484 : (.constant "java/lang/Integer" 267 (252645135 : Int32) : Cond) ∈ TB := tb_of (List.mem_of_getElem? (i := 484) (by decide +kernel)) rfl
theorem wd_485 : (.methodLink "LoadCycles$Unmixer" 55 ⟨"LoadCycles$Doing", "add", "(LLoadCycles$House;IIZ)V"⟩ : Cond) ∈ TB := tb_of (List.mem_of_getElem? (i := 485) (by decide +kernel)) rfl
theorem wd_486 : (.instanceMethod ⟨"LoadCycles$Doing", "add", "(LLoadCycles$House;IIZ)V"⟩ : Cond) ∈ TB := tb_of (List.mem_of_getElem? (i := 486) (by decide +kernel)) rfl
theorem wd_487 : (.selects "LoadCycles$Doing" ⟨"LoadCycles$Doing", "add", "(LLoadCycles$House;IIZ)V"⟩ ⟨"LoadCycles$Doing", "add", "(LLoadCycles$House;IIZ)V"⟩ : Cond) ∈ TB := tb_of (List.mem_of_getElem? (i := 487) (by decide +kernel)) rfl
set_option maxRecDepth 20000 in
theorem wd_488 : (.code ⟨"LoadCycles$Doing", "add", "(LLoadCycles$House;IIZ)V"⟩ prog_2_method_6_code 8 (none : Option FieldType) : Cond) ∈ TB := tb_of (List.mem_of_getElem? (i := 488) rfl) rfl
theorem wd_489 : (.methodLink "LoadCycles$Doing" 53 ⟨"LoadCycles$Doing", "stateAhead", "(II)I"⟩ : Cond) ∈ TB := tb_of (List.mem_of_getElem? (i := 489) (by decide +kernel)) rfl
theorem wd_490 : (.instanceMethod ⟨"LoadCycles$Doing", "stateAhead", "(II)I"⟩ : Cond) ∈ TB := tb_of (List.mem_of_getElem? (i := 490) (by decide +kernel)) rfl
theorem wd_491 : (.selects "LoadCycles$Doing" ⟨"LoadCycles$Doing", "stateAhead", "(II)I"⟩ ⟨"LoadCycles$Doing", "stateAhead", "(II)I"⟩ : Cond) ∈ TB := tb_of (List.mem_of_getElem? (i := 491) (by decide +kernel)) rfl
set_option maxRecDepth 20000 in
theorem wd_492 : (.code ⟨"LoadCycles$Doing", "stateAhead", "(II)I"⟩ prog_2_method_3_code 3 (some .int) : Cond) ∈ TB := tb_of (List.mem_of_getElem? (i := 492) rfl) rfl
theorem wd_493 : (.methodLink "LoadCycles$Doing" 18 ⟨"LoadCycles$Doing", "stateOf", "(II)I"⟩ : Cond) ∈ TB := tb_of (List.mem_of_getElem? (i := 493) (by decide +kernel)) rfl
theorem wd_494 : (.instanceMethod ⟨"LoadCycles$Doing", "stateOf", "(II)I"⟩ : Cond) ∈ TB := tb_of (List.mem_of_getElem? (i := 494) (by decide +kernel)) rfl
theorem wd_495 : (.selects "LoadCycles$Doing" ⟨"LoadCycles$Doing", "stateOf", "(II)I"⟩ ⟨"LoadCycles$Doing", "stateOf", "(II)I"⟩ : Cond) ∈ TB := tb_of (List.mem_of_getElem? (i := 495) (by decide +kernel)) rfl
set_option maxRecDepth 20000 in
theorem wd_496 : (.code ⟨"LoadCycles$Doing", "stateOf", "(II)I"⟩ prog_2_method_2_code 3 (some .int) : Cond) ∈ TB := tb_of (List.mem_of_getElem? (i := 496) rfl) rfl
theorem wd_497 : (.methodLink "LoadCycles$Doing" 56 ⟨"LoadCycles$House", "stateAfter", "(II)I"⟩ : Cond) ∈ TB := tb_of (List.mem_of_getElem? (i := 497) (by decide +kernel)) rfl
theorem wd_498 : (.methodLink "LoadCycles$Doing" 59 ⟨"LoadCycles$House", "powerIn", "(II)I"⟩ : Cond) ∈ TB := tb_of (List.mem_of_getElem? (i := 498) (by decide +kernel)) rfl
theorem wd_499 : (.methodLink "LoadCycles" 173 ⟨"LoadCycles$Doing", "stateOf", "(II)I"⟩ : Cond) ∈ TB := tb_of (List.mem_of_getElem? (i := 499) (by decide +kernel)) rfl
theorem wd_500 : (.methodLink "LoadCyclesLaw" 45 ⟨"LoadCycles", "rest", "(I)I"⟩ : Cond) ∈ TB := tb_of (List.mem_of_getElem? (i := 500) (by decide +kernel)) rfl
theorem wd_501 : (.instanceMethod ⟨"LoadCycles", "rest", "(I)I"⟩ : Cond) ∈ TB := tb_of (List.mem_of_getElem? (i := 501) (by decide +kernel)) rfl
theorem wd_502 : (.selects "LoadCycles" ⟨"LoadCycles", "rest", "(I)I"⟩ ⟨"LoadCycles", "rest", "(I)I"⟩ : Cond) ∈ TB := tb_of (List.mem_of_getElem? (i := 502) (by decide +kernel)) rfl
set_option maxRecDepth 20000 in
theorem wd_503 : (.code ⟨"LoadCycles", "rest", "(I)I"⟩ prog_1_method_9_code 5 (some .int) : Cond) ∈ TB := tb_of (List.mem_of_getElem? (i := 503) rfl) rfl
theorem wd_504 : (.methodLink "LoadCycles" 176 ⟨"LoadCycles$House", "powerIn", "(II)I"⟩ : Cond) ∈ TB := tb_of (List.mem_of_getElem? (i := 504) (by decide +kernel)) rfl
theorem wd_505 : (.methodLink "LoadCyclesLaw" 49 ⟨"LoadCycles", "best", "(I)I"⟩ : Cond) ∈ TB := tb_of (List.mem_of_getElem? (i := 505) (by decide +kernel)) rfl
theorem wd_506 : (.instanceMethod ⟨"LoadCycles", "best", "(I)I"⟩ : Cond) ∈ TB := tb_of (List.mem_of_getElem? (i := 506) (by decide +kernel)) rfl
theorem wd_507 : (.selects "LoadCycles" ⟨"LoadCycles", "best", "(I)I"⟩ ⟨"LoadCycles", "best", "(I)I"⟩ : Cond) ∈ TB := tb_of (List.mem_of_getElem? (i := 507) (by decide +kernel)) rfl
set_option maxRecDepth 20000 in
theorem wd_508 : (.code ⟨"LoadCycles", "best", "(I)I"⟩ prog_1_method_10_code 2 (some .int) : Cond) ∈ TB := tb_of (List.mem_of_getElem? (i := 508) rfl) rfl
theorem wd_509 : (.methodLink "LoadCycles" 179 ⟨"LoadCycles$Doing", "numberOf", "(I)I"⟩ : Cond) ∈ TB := tb_of (List.mem_of_getElem? (i := 509) (by decide +kernel)) rfl
theorem wd_510 : (.instanceMethod ⟨"LoadCycles$Doing", "numberOf", "(I)I"⟩ : Cond) ∈ TB := tb_of (List.mem_of_getElem? (i := 510) (by decide +kernel)) rfl
theorem wd_511 : (.selects "LoadCycles$Doing" ⟨"LoadCycles$Doing", "numberOf", "(I)I"⟩ ⟨"LoadCycles$Doing", "numberOf", "(I)I"⟩ : Cond) ∈ TB := tb_of (List.mem_of_getElem? (i := 511) (by decide +kernel)) rfl
set_option maxRecDepth 20000 in
theorem wd_512 : (.code ⟨"LoadCycles$Doing", "numberOf", "(I)I"⟩ prog_2_method_4_code 2 (some .int) : Cond) ∈ TB := tb_of (List.mem_of_getElem? (i := 512) rfl) rfl
theorem wd_513 : (.methodLink "LoadCyclesLaw" 53 ⟨"LoadCycles", "energy", "(I)I"⟩ : Cond) ∈ TB := tb_of (List.mem_of_getElem? (i := 513) (by decide +kernel)) rfl
theorem wd_514 : (.instanceMethod ⟨"LoadCycles", "energy", "(I)I"⟩ : Cond) ∈ TB := tb_of (List.mem_of_getElem? (i := 514) (by decide +kernel)) rfl
theorem wd_515 : (.selects "LoadCycles" ⟨"LoadCycles", "energy", "(I)I"⟩ ⟨"LoadCycles", "energy", "(I)I"⟩ : Cond) ∈ TB := tb_of (List.mem_of_getElem? (i := 515) (by decide +kernel)) rfl
set_option maxRecDepth 20000 in
theorem wd_516 : (.code ⟨"LoadCycles", "energy", "(I)I"⟩ prog_1_method_11_code 2 (some .int) : Cond) ∈ TB := tb_of (List.mem_of_getElem? (i := 516) rfl) rfl
theorem wd_517 : (.methodLink "LoadCyclesLaw" 57 ⟨"LoadCycles", "day", "(IIIII)I"⟩ : Cond) ∈ TB := tb_of (List.mem_of_getElem? (i := 517) (by decide +kernel)) rfl
theorem wd_518 : (.instanceMethod ⟨"LoadCycles", "day", "(IIIII)I"⟩ : Cond) ∈ TB := tb_of (List.mem_of_getElem? (i := 518) (by decide +kernel)) rfl
theorem wd_519 : (.selects "LoadCycles" ⟨"LoadCycles", "day", "(IIIII)I"⟩ ⟨"LoadCycles", "day", "(IIIII)I"⟩ : Cond) ∈ TB := tb_of (List.mem_of_getElem? (i := 519) (by decide +kernel)) rfl
set_option maxRecDepth 20000 in
theorem wd_520 : (.code ⟨"LoadCycles", "day", "(IIIII)I"⟩ prog_1_method_12_code 9 (some .int) : Cond) ∈ TB := tb_of (List.mem_of_getElem? (i := 520) rfl) rfl
theorem wd_521 : (.methodLink "LoadCycles" 185 ⟨"LoadCycles", "isAskedOfDay", "(I)Z"⟩ : Cond) ∈ TB := tb_of (List.mem_of_getElem? (i := 521) (by decide +kernel)) rfl
theorem wd_522 : (.static ⟨"LoadCycles", "isAskedOfDay", "(I)Z"⟩ : Cond) ∈ TB := tb_of (List.mem_of_getElem? (i := 522) (by decide +kernel)) rfl
set_option maxRecDepth 20000 in
theorem wd_523 : (.code ⟨"LoadCycles", "isAskedOfDay", "(I)Z"⟩ prog_1_method_42_code 1 (some .boolean) : Cond) ∈ TB := tb_of (List.mem_of_getElem? (i := 523) rfl) rfl
theorem wd_524 : (.methodLink "LoadCycles" 188 ⟨"LoadCycles", "arePairs", "(LLoadCycles$Sheet;II)Z"⟩ : Cond) ∈ TB := tb_of (List.mem_of_getElem? (i := 524) (by decide +kernel)) rfl
theorem wd_525 : (.static ⟨"LoadCycles", "arePairs", "(LLoadCycles$Sheet;II)Z"⟩ : Cond) ∈ TB := tb_of (List.mem_of_getElem? (i := 525) (by decide +kernel)) rfl
set_option maxRecDepth 20000 in
theorem wd_526 : (.code ⟨"LoadCycles", "arePairs", "(LLoadCycles$Sheet;II)Z"⟩ prog_1_method_43_code 4 (some .boolean) : Cond) ∈ TB := tb_of (List.mem_of_getElem? (i := 526) rfl) rfl
theorem wd_527 : (.methodLink "LoadCycles" 274 ⟨"LoadCycles", "isPair", "(II)Z"⟩ : Cond) ∈ TB := tb_of (List.mem_of_getElem? (i := 527) (by decide +kernel)) rfl
theorem wd_528 : (.static ⟨"LoadCycles", "isPair", "(II)Z"⟩ : Cond) ∈ TB := tb_of (List.mem_of_getElem? (i := 528) (by decide +kernel)) rfl
set_option maxRecDepth 20000 in
theorem wd_529 : (.code ⟨"LoadCycles", "isPair", "(II)Z"⟩ prog_1_method_44_code 2 (some .boolean) : Cond) ∈ TB := tb_of (List.mem_of_getElem? (i := 529) rfl) rfl
theorem wd_530 : (.methodLink "LoadCycles" 192 ⟨"LoadCycles", "liveTrialDay", "(LLoadCycles$Sheet;II)I"⟩ : Cond) ∈ TB := tb_of (List.mem_of_getElem? (i := 530) (by decide +kernel)) rfl
theorem wd_532 : (.instanceMethod ⟨"LoadCycles", "liveTrialDay", "(LLoadCycles$Sheet;II)I"⟩ : Cond) ∈ TB := tb_of (List.mem_of_getElem? (i := 532) (by decide +kernel)) rfl
set_option maxRecDepth 20000 in
theorem wd_533 : (.code ⟨"LoadCycles", "liveTrialDay", "(LLoadCycles$Sheet;II)I"⟩ prog_1_method_45_code 5 (some .int) : Cond) ∈ TB := tb_of (List.mem_of_getElem? (i := 533) rfl) rfl
theorem wd_534 : (.methodLink "LoadCycles" 277 ⟨"LoadCycles$House", "acted", "(II)Z"⟩ : Cond) ∈ TB := tb_of (List.mem_of_getElem? (i := 534) (by decide +kernel)) rfl
theorem wd_535 : (.instanceMethod ⟨"LoadCycles$House", "acted", "(II)Z"⟩ : Cond) ∈ TB := tb_of (List.mem_of_getElem? (i := 535) (by decide +kernel)) rfl
theorem wd_536 : (.selects "LoadCycles$House" ⟨"LoadCycles$House", "acted", "(II)Z"⟩ ⟨"LoadCycles$House", "acted", "(II)Z"⟩ : Cond) ∈ TB := tb_of (List.mem_of_getElem? (i := 536) (by decide +kernel)) rfl
set_option maxRecDepth 20000 in
theorem wd_537 : (.code ⟨"LoadCycles$House", "acted", "(II)Z"⟩ prog_4_method_17_code 3 (some .boolean) : Cond) ∈ TB := tb_of (List.mem_of_getElem? (i := 537) rfl) rfl
theorem wd_538 : (.methodLink "LoadCycles$House" 48 ⟨"LoadCycles$House", "actedOnBase", "(I)Z"⟩ : Cond) ∈ TB := tb_of (List.mem_of_getElem? (i := 538) (by decide +kernel)) rfl
theorem wd_540 : (.instanceMethod ⟨"LoadCycles$House", "actedOnBase", "(I)Z"⟩ : Cond) ∈ TB := tb_of (List.mem_of_getElem? (i := 540) (by decide +kernel)) rfl
set_option maxRecDepth 20000 in
theorem wd_541 : (.code ⟨"LoadCycles$House", "actedOnBase", "(I)Z"⟩ prog_4_method_18_code 2 (some .boolean) : Cond) ∈ TB := tb_of (List.mem_of_getElem? (i := 541) rfl) rfl
theorem wd_542 : (.methodLink "LoadCycles$House" 60 ⟨"LoadCycles$House", "allowsBase", "(I)Z"⟩ : Cond) ∈ TB := tb_of (List.mem_of_getElem? (i := 542) (by decide +kernel)) rfl
theorem wd_543 : (.methodLink "LoadCycles$House" 52 ⟨"LoadCycles$House", "actedOnValue", "(II)Z"⟩ : Cond) ∈ TB := tb_of (List.mem_of_getElem? (i := 543) (by decide +kernel)) rfl
theorem wd_545 : (.instanceMethod ⟨"LoadCycles$House", "actedOnValue", "(II)Z"⟩ : Cond) ∈ TB := tb_of (List.mem_of_getElem? (i := 545) (by decide +kernel)) rfl
set_option maxRecDepth 20000 in
theorem wd_546 : (.code ⟨"LoadCycles$House", "actedOnValue", "(II)Z"⟩ prog_4_method_19_code 3 (some .boolean) : Cond) ∈ TB := tb_of (List.mem_of_getElem? (i := 546) rfl) rfl
theorem wd_547 : (.methodLink "LoadCycles$House" 63 ⟨"LoadCycles$House", "hasTime", "(I)Z"⟩ : Cond) ∈ TB := tb_of (List.mem_of_getElem? (i := 547) (by decide +kernel)) rfl
theorem wd_548 : (.methodLink "LoadCycles$House" 56 ⟨"LoadCycles$House", "actedOnLevel", "(III)Z"⟩ : Cond) ∈ TB := tb_of (List.mem_of_getElem? (i := 548) (by decide +kernel)) rfl
theorem wd_550 : (.instanceMethod ⟨"LoadCycles$House", "actedOnLevel", "(III)Z"⟩ : Cond) ∈ TB := tb_of (List.mem_of_getElem? (i := 550) (by decide +kernel)) rfl
set_option maxRecDepth 20000 in
theorem wd_551 : (.code ⟨"LoadCycles$House", "actedOnLevel", "(III)Z"⟩ prog_4_method_20_code 4 (some .boolean) : Cond) ∈ TB := tb_of (List.mem_of_getElem? (i := 551) rfl) rfl
theorem wd_552 : (.methodLink "LoadCycles$House" 66 ⟨"LoadCycles$House", "hasAppliance", "(I)Z"⟩ : Cond) ∈ TB := tb_of (List.mem_of_getElem? (i := 552) (by decide +kernel)) rfl
theorem wd_553 : (.methodLink "LoadCycles$House" 69 ⟨"LoadCycles$House", "hasLevel", "(II)Z"⟩ : Cond) ∈ TB := tb_of (List.mem_of_getElem? (i := 553) (by decide +kernel)) rfl
theorem wd_554 : (.methodLink "LoadCycles" 195 ⟨"LoadCycles", "answerOfTrialDay", "(I)I"⟩ : Cond) ∈ TB := tb_of (List.mem_of_getElem? (i := 554) (by decide +kernel)) rfl
theorem wd_556 : (.instanceMethod ⟨"LoadCycles", "answerOfTrialDay", "(I)I"⟩ : Cond) ∈ TB := tb_of (List.mem_of_getElem? (i := 556) (by decide +kernel)) rfl
set_option maxRecDepth 20000 in
theorem wd_557 : (.code ⟨"LoadCycles", "answerOfTrialDay", "(I)I"⟩ prog_1_method_46_code 2 (some .int) : Cond) ∈ TB := tb_of (List.mem_of_getElem? (i := 557) rfl) rfl
theorem wd_558 : (.methodLink "LoadCyclesLaw" 62 ⟨"LoadCycles", "jump", "(I)I"⟩ : Cond) ∈ TB := tb_of (List.mem_of_getElem? (i := 558) (by decide +kernel)) rfl
theorem wd_559 : (.instanceMethod ⟨"LoadCycles", "jump", "(I)I"⟩ : Cond) ∈ TB := tb_of (List.mem_of_getElem? (i := 559) (by decide +kernel)) rfl
theorem wd_560 : (.selects "LoadCycles" ⟨"LoadCycles", "jump", "(I)I"⟩ ⟨"LoadCycles", "jump", "(I)I"⟩ : Cond) ∈ TB := tb_of (List.mem_of_getElem? (i := 560) (by decide +kernel)) rfl
set_option maxRecDepth 20000 in
theorem wd_561 : (.code ⟨"LoadCycles", "jump", "(I)I"⟩ prog_1_method_13_code 2 (some .int) : Cond) ∈ TB := tb_of (List.mem_of_getElem? (i := 561) rfl) rfl
theorem wd_562 : (.methodLink "LoadCycles" 198 ⟨"LoadCycles$House", "jumpTo", "(I)I"⟩ : Cond) ∈ TB := tb_of (List.mem_of_getElem? (i := 562) (by decide +kernel)) rfl
theorem wd_563 : (.instanceMethod ⟨"LoadCycles$House", "jumpTo", "(I)I"⟩ : Cond) ∈ TB := tb_of (List.mem_of_getElem? (i := 563) (by decide +kernel)) rfl
theorem wd_564 : (.selects "LoadCycles$House" ⟨"LoadCycles$House", "jumpTo", "(I)I"⟩ ⟨"LoadCycles$House", "jumpTo", "(I)I"⟩ : Cond) ∈ TB := tb_of (List.mem_of_getElem? (i := 564) (by decide +kernel)) rfl
set_option maxRecDepth 20000 in
theorem wd_565 : (.code ⟨"LoadCycles$House", "jumpTo", "(I)I"⟩ prog_4_method_15_code 2 (some .int) : Cond) ∈ TB := tb_of (List.mem_of_getElem? (i := 565) rfl) rfl
theorem wd_566 : (.methodLink "LoadCyclesLaw" 66 ⟨"LoadCycles", "ways", "(I)I"⟩ : Cond) ∈ TB := tb_of (List.mem_of_getElem? (i := 566) (by decide +kernel)) rfl
theorem wd_567 : (.instanceMethod ⟨"LoadCycles", "ways", "(I)I"⟩ : Cond) ∈ TB := tb_of (List.mem_of_getElem? (i := 567) (by decide +kernel)) rfl
theorem wd_568 : (.selects "LoadCycles" ⟨"LoadCycles", "ways", "(I)I"⟩ ⟨"LoadCycles", "ways", "(I)I"⟩ : Cond) ∈ TB := tb_of (List.mem_of_getElem? (i := 568) (by decide +kernel)) rfl
set_option maxRecDepth 20000 in
theorem wd_569 : (.code ⟨"LoadCycles", "ways", "(I)I"⟩ prog_1_method_14_code 6 (some .int) : Cond) ∈ TB := tb_of (List.mem_of_getElem? (i := 569) rfl) rfl
theorem wd_570 : (.methodLink "LoadCycles" 201 ⟨"LoadCycles", "powerGain", "(LLoadCycles$Doing;II)I"⟩ : Cond) ∈ TB := tb_of (List.mem_of_getElem? (i := 570) (by decide +kernel)) rfl
theorem wd_572 : (.instanceMethod ⟨"LoadCycles", "powerGain", "(LLoadCycles$Doing;II)I"⟩ : Cond) ∈ TB := tb_of (List.mem_of_getElem? (i := 572) (by decide +kernel)) rfl
set_option maxRecDepth 20000 in
theorem wd_573 : (.code ⟨"LoadCycles", "powerGain", "(LLoadCycles$Doing;II)I"⟩ prog_1_method_47_code 7 (some .int) : Cond) ∈ TB := tb_of (List.mem_of_getElem? (i := 573) rfl) rfl
theorem wd_574 : (.methodLink "LoadCycles" 280 ⟨"LoadCycles$Doing", "stateAhead", "(II)I"⟩ : Cond) ∈ TB := tb_of (List.mem_of_getElem? (i := 574) (by decide +kernel)) rfl
theorem wd_575 : (.methodLink "LoadCycles" 283 ⟨"LoadCycles$House", "stateAfter", "(II)I"⟩ : Cond) ∈ TB := tb_of (List.mem_of_getElem? (i := 575) (by decide +kernel)) rfl
theorem wd_576 : (.methodLink "LoadCyclesLaw" 70 ⟨"LoadCycles", "longest", "(I)I"⟩ : Cond) ∈ TB := tb_of (List.mem_of_getElem? (i := 576) (by decide +kernel)) rfl
theorem wd_577 : (.instanceMethod ⟨"LoadCycles", "longest", "(I)I"⟩ : Cond) ∈ TB := tb_of (List.mem_of_getElem? (i := 577) (by decide +kernel)) rfl
theorem wd_578 : (.selects "LoadCycles" ⟨"LoadCycles", "longest", "(I)I"⟩ ⟨"LoadCycles", "longest", "(I)I"⟩ : Cond) ∈ TB := tb_of (List.mem_of_getElem? (i := 578) (by decide +kernel)) rfl
set_option maxRecDepth 20000 in
theorem wd_579 : (.code ⟨"LoadCycles", "longest", "(I)I"⟩ prog_1_method_15_code 6 (some .int) : Cond) ∈ TB := tb_of (List.mem_of_getElem? (i := 579) rfl) rfl
theorem wd_580 : (.methodLink "LoadCycles" 205 ⟨"java/lang/Math", "max", "(II)I"⟩ : Cond) ∈ TB := tb_of (List.mem_of_getElem? (i := 580) (by decide +kernel)) rfl
theorem wd_581 : (.static ⟨"java/lang/Math", "max", "(II)I"⟩ : Cond) ∈ TB := tb_of (List.mem_of_getElem? (i := 581) (by decide +kernel)) rfl
set_option maxRecDepth 20000 in
theorem wd_582 : (.code ⟨"java/lang/Math", "max", "(II)I"⟩ prog_11_method_65_code 2 (some .int) : Cond) ∈ TB := tb_of (List.mem_of_getElem? (i := 582) rfl) rfl
theorem wd_583 : (.methodLink "LoadCyclesLaw" 74 ⟨"LoadCycles", "share", "(I)I"⟩ : Cond) ∈ TB := tb_of (List.mem_of_getElem? (i := 583) (by decide +kernel)) rfl
theorem wd_584 : (.instanceMethod ⟨"LoadCycles", "share", "(I)I"⟩ : Cond) ∈ TB := tb_of (List.mem_of_getElem? (i := 584) (by decide +kernel)) rfl
theorem wd_585 : (.selects "LoadCycles" ⟨"LoadCycles", "share", "(I)I"⟩ ⟨"LoadCycles", "share", "(I)I"⟩ : Cond) ∈ TB := tb_of (List.mem_of_getElem? (i := 585) (by decide +kernel)) rfl
set_option maxRecDepth 20000 in
theorem wd_586 : (.code ⟨"LoadCycles", "share", "(I)I"⟩ prog_1_method_16_code 2 (some .int) : Cond) ∈ TB := tb_of (List.mem_of_getElem? (i := 586) rfl) rfl
theorem wd_587 : (.methodLink "LoadCycles" 210 ⟨"LoadCycles$House", "allValues", "()I"⟩ : Cond) ∈ TB := tb_of (List.mem_of_getElem? (i := 587) (by decide +kernel)) rfl
theorem wd_588 : (.methodLink "LoadCycles" 214 ⟨"LoadCycles", "nearestBits", "(JJII)J"⟩ : Cond) ∈ TB := tb_of (List.mem_of_getElem? (i := 588) (by decide +kernel)) rfl
theorem wd_589 : (.static ⟨"LoadCycles", "nearestBits", "(JJII)J"⟩ : Cond) ∈ TB := tb_of (List.mem_of_getElem? (i := 589) (by decide +kernel)) rfl
set_option maxRecDepth 20000 in
theorem wd_590 : (.code ⟨"LoadCycles", "nearestBits", "(JJII)J"⟩ prog_1_method_51_code 15 (some .long) : Cond) ∈ TB := tb_of (List.mem_of_getElem? (i := 590) rfl) rfl
theorem wd_591 : (.constantLong "LoadCycles" 299 (2 : Int64) : Cond) ∈ TB := tb_of (List.mem_of_getElem? (i := 591) (by decide +kernel)) rfl
theorem wd_592 : (.methodLink "LoadCyclesLaw" 78 ⟨"LoadCycles", "mean", "()J"⟩ : Cond) ∈ TB := tb_of (List.mem_of_getElem? (i := 592) (by decide +kernel)) rfl
theorem wd_593 : (.instanceMethod ⟨"LoadCycles", "mean", "()J"⟩ : Cond) ∈ TB := tb_of (List.mem_of_getElem? (i := 593) (by decide +kernel)) rfl
theorem wd_594 : (.selects "LoadCycles" ⟨"LoadCycles", "mean", "()J"⟩ ⟨"LoadCycles", "mean", "()J"⟩ : Cond) ∈ TB := tb_of (List.mem_of_getElem? (i := 594) (by decide +kernel)) rfl
set_option maxRecDepth 20000 in
theorem wd_595 : (.code ⟨"LoadCycles", "mean", "()J"⟩ prog_1_method_17_code 1 (some .long) : Cond) ∈ TB := tb_of (List.mem_of_getElem? (i := 595) rfl) rfl
theorem wd_596 : (.constantLong "LoadCycles" 218 (-9223372036854775808 : Int64) : Cond) ∈ TB := tb_of (List.mem_of_getElem? (i := 596) (by decide +kernel)) rfl
theorem wd_597 : (.methodLink "LoadCyclesLaw" 83 ⟨"LoadCycles", "reading", "(II)I"⟩ : Cond) ∈ TB := tb_of (List.mem_of_getElem? (i := 597) (by decide +kernel)) rfl
theorem wd_598 : (.instanceMethod ⟨"LoadCycles", "reading", "(II)I"⟩ : Cond) ∈ TB := tb_of (List.mem_of_getElem? (i := 598) (by decide +kernel)) rfl
theorem wd_599 : (.selects "LoadCycles" ⟨"LoadCycles", "reading", "(II)I"⟩ ⟨"LoadCycles", "reading", "(II)I"⟩ : Cond) ∈ TB := tb_of (List.mem_of_getElem? (i := 599) (by decide +kernel)) rfl
set_option maxRecDepth 20000 in
theorem wd_600 : (.code ⟨"LoadCycles", "reading", "(II)I"⟩ prog_1_method_18_code 3 (some .int) : Cond) ∈ TB := tb_of (List.mem_of_getElem? (i := 600) rfl) rfl
theorem wd_601 : (.methodLink "LoadCyclesLaw" 87 ⟨"LoadCycles", "back", "(I)I"⟩ : Cond) ∈ TB := tb_of (List.mem_of_getElem? (i := 601) (by decide +kernel)) rfl
theorem wd_602 : (.instanceMethod ⟨"LoadCycles", "back", "(I)I"⟩ : Cond) ∈ TB := tb_of (List.mem_of_getElem? (i := 602) (by decide +kernel)) rfl
theorem wd_603 : (.selects "LoadCycles" ⟨"LoadCycles", "back", "(I)I"⟩ ⟨"LoadCycles", "back", "(I)I"⟩ : Cond) ∈ TB := tb_of (List.mem_of_getElem? (i := 603) (by decide +kernel)) rfl
set_option maxRecDepth 20000 in
theorem wd_604 : (.code ⟨"LoadCycles", "back", "(I)I"⟩ prog_1_method_19_code 2 (some .int) : Cond) ∈ TB := tb_of (List.mem_of_getElem? (i := 604) rfl) rfl
theorem wd_605 : (.methodLink "LoadCyclesLaw" 91 ⟨"LoadCycles", "kinds", "(I)I"⟩ : Cond) ∈ TB := tb_of (List.mem_of_getElem? (i := 605) (by decide +kernel)) rfl
theorem wd_606 : (.instanceMethod ⟨"LoadCycles", "kinds", "(I)I"⟩ : Cond) ∈ TB := tb_of (List.mem_of_getElem? (i := 606) (by decide +kernel)) rfl
theorem wd_607 : (.selects "LoadCycles" ⟨"LoadCycles", "kinds", "(I)I"⟩ ⟨"LoadCycles", "kinds", "(I)I"⟩ : Cond) ∈ TB := tb_of (List.mem_of_getElem? (i := 607) (by decide +kernel)) rfl
set_option maxRecDepth 20000 in
theorem wd_608 : (.code ⟨"LoadCycles", "kinds", "(I)I"⟩ prog_1_method_20_code 4 (some .int) : Cond) ∈ TB := tb_of (List.mem_of_getElem? (i := 608) rfl) rfl
theorem wd_609 : (.methodLink "LoadCycles" 220 ⟨"LoadCycles", "readingsHold", "(II)Z"⟩ : Cond) ∈ TB := tb_of (List.mem_of_getElem? (i := 609) (by decide +kernel)) rfl
theorem wd_611 : (.instanceMethod ⟨"LoadCycles", "readingsHold", "(II)Z"⟩ : Cond) ∈ TB := tb_of (List.mem_of_getElem? (i := 611) (by decide +kernel)) rfl
set_option maxRecDepth 20000 in
theorem wd_612 : (.code ⟨"LoadCycles", "readingsHold", "(II)Z"⟩ prog_1_method_48_code 4 (some .boolean) : Cond) ∈ TB := tb_of (List.mem_of_getElem? (i := 612) rfl) rfl
theorem wd_613 : (.methodLink "LoadCycles" 286 ⟨"LoadCycles$Guesses", "isKnown", "(II)Z"⟩ : Cond) ∈ TB := tb_of (List.mem_of_getElem? (i := 613) (by decide +kernel)) rfl
theorem wd_614 : (.instanceMethod ⟨"LoadCycles$Guesses", "isKnown", "(II)Z"⟩ : Cond) ∈ TB := tb_of (List.mem_of_getElem? (i := 614) (by decide +kernel)) rfl
theorem wd_615 : (.selects "LoadCycles$Guesses" ⟨"LoadCycles$Guesses", "isKnown", "(II)Z"⟩ ⟨"LoadCycles$Guesses", "isKnown", "(II)Z"⟩ : Cond) ∈ TB := tb_of (List.mem_of_getElem? (i := 615) (by decide +kernel)) rfl
set_option maxRecDepth 20000 in
theorem wd_616 : (.code ⟨"LoadCycles$Guesses", "isKnown", "(II)Z"⟩ prog_3_method_3_code 3 (some .boolean) : Cond) ∈ TB := tb_of (List.mem_of_getElem? (i := 616) rfl) rfl
theorem wd_617 : (.methodLink "LoadCycles" 289 ⟨"LoadCycles", "unmixGuess", "(II)V"⟩ : Cond) ∈ TB := tb_of (List.mem_of_getElem? (i := 617) (by decide +kernel)) rfl
theorem wd_619 : (.instanceMethod ⟨"LoadCycles", "unmixGuess", "(II)V"⟩ : Cond) ∈ TB := tb_of (List.mem_of_getElem? (i := 619) (by decide +kernel)) rfl
set_option maxRecDepth 20000 in
theorem wd_620 : (.code ⟨"LoadCycles", "unmixGuess", "(II)V"⟩ prog_1_method_49_code 3 (none : Option FieldType) : Cond) ∈ TB := tb_of (List.mem_of_getElem? (i := 620) rfl) rfl
theorem wd_621 : (.methodLink "LoadCycles" 292 ⟨"LoadCycles$Guesses", "keep", "(IILLoadCycles$Doing;)V"⟩ : Cond) ∈ TB := tb_of (List.mem_of_getElem? (i := 621) (by decide +kernel)) rfl
theorem wd_622 : (.instanceMethod ⟨"LoadCycles$Guesses", "keep", "(IILLoadCycles$Doing;)V"⟩ : Cond) ∈ TB := tb_of (List.mem_of_getElem? (i := 622) (by decide +kernel)) rfl
theorem wd_623 : (.selects "LoadCycles$Guesses" ⟨"LoadCycles$Guesses", "keep", "(IILLoadCycles$Doing;)V"⟩ ⟨"LoadCycles$Guesses", "keep", "(IILLoadCycles$Doing;)V"⟩ : Cond) ∈ TB := tb_of (List.mem_of_getElem? (i := 623) (by decide +kernel)) rfl
set_option maxRecDepth 20000 in
theorem wd_624 : (.code ⟨"LoadCycles$Guesses", "keep", "(IILLoadCycles$Doing;)V"⟩ prog_3_method_5_code 5 (none : Option FieldType) : Cond) ∈ TB := tb_of (List.mem_of_getElem? (i := 624) rfl) rfl
theorem wd_625 : (.methodLink "LoadCycles$Guesses" 22 ⟨"java/lang/System", "arraycopy", "(Ljava/lang/Object;ILjava/lang/Object;II)V"⟩ : Cond) ∈ TB := tb_of (List.mem_of_getElem? (i := 625) (by decide +kernel)) rfl
theorem wd_626 : (.methodLink "LoadCycles" 296 ⟨"LoadCycles$Guesses", "energyOf", "(III)I"⟩ : Cond) ∈ TB := tb_of (List.mem_of_getElem? (i := 626) (by decide +kernel)) rfl
theorem wd_627 : (.instanceMethod ⟨"LoadCycles$Guesses", "energyOf", "(III)I"⟩ : Cond) ∈ TB := tb_of (List.mem_of_getElem? (i := 627) (by decide +kernel)) rfl
theorem wd_628 : (.selects "LoadCycles$Guesses" ⟨"LoadCycles$Guesses", "energyOf", "(III)I"⟩ ⟨"LoadCycles$Guesses", "energyOf", "(III)I"⟩ : Cond) ∈ TB := tb_of (List.mem_of_getElem? (i := 628) (by decide +kernel)) rfl
set_option maxRecDepth 20000 in
theorem wd_629 : (.code ⟨"LoadCycles$Guesses", "energyOf", "(III)I"⟩ prog_3_method_4_code 4 (some .int) : Cond) ∈ TB := tb_of (List.mem_of_getElem? (i := 629) rfl) rfl
theorem wd_630 : (.methodLink "LoadCyclesLaw" 95 ⟨"LoadCycles", "firsts", "(I)I"⟩ : Cond) ∈ TB := tb_of (List.mem_of_getElem? (i := 630) (by decide +kernel)) rfl
theorem wd_631 : (.instanceMethod ⟨"LoadCycles", "firsts", "(I)I"⟩ : Cond) ∈ TB := tb_of (List.mem_of_getElem? (i := 631) (by decide +kernel)) rfl
theorem wd_632 : (.selects "LoadCycles" ⟨"LoadCycles", "firsts", "(I)I"⟩ ⟨"LoadCycles", "firsts", "(I)I"⟩ : Cond) ∈ TB := tb_of (List.mem_of_getElem? (i := 632) (by decide +kernel)) rfl
set_option maxRecDepth 20000 in
theorem wd_633 : (.code ⟨"LoadCycles", "firsts", "(I)I"⟩ prog_1_method_21_code 4 (some .int) : Cond) ∈ TB := tb_of (List.mem_of_getElem? (i := 633) rfl) rfl
theorem wd_634 : (.methodLink "LoadCyclesLaw" 99 ⟨"LoadCycles", "odds", "(II)J"⟩ : Cond) ∈ TB := tb_of (List.mem_of_getElem? (i := 634) (by decide +kernel)) rfl
theorem wd_635 : (.instanceMethod ⟨"LoadCycles", "odds", "(II)J"⟩ : Cond) ∈ TB := tb_of (List.mem_of_getElem? (i := 635) (by decide +kernel)) rfl
theorem wd_636 : (.selects "LoadCycles" ⟨"LoadCycles", "odds", "(II)J"⟩ ⟨"LoadCycles", "odds", "(II)J"⟩ : Cond) ∈ TB := tb_of (List.mem_of_getElem? (i := 636) (by decide +kernel)) rfl
set_option maxRecDepth 20000 in
theorem wd_637 : (.code ⟨"LoadCycles", "odds", "(II)J"⟩ prog_1_method_22_code 6 (some .long) : Cond) ∈ TB := tb_of (List.mem_of_getElem? (i := 637) rfl) rfl
theorem wd_638 : (.methodLink "LoadCycles" 223 ⟨"LoadCycles", "commonDivisor", "(II)I"⟩ : Cond) ∈ TB := tb_of (List.mem_of_getElem? (i := 638) (by decide +kernel)) rfl
theorem wd_639 : (.static ⟨"LoadCycles", "commonDivisor", "(II)I"⟩ : Cond) ∈ TB := tb_of (List.mem_of_getElem? (i := 639) (by decide +kernel)) rfl
set_option maxRecDepth 20000 in
theorem wd_640 : (.code ⟨"LoadCycles", "commonDivisor", "(II)I"⟩ prog_1_method_50_code 3 (some .int) : Cond) ∈ TB := tb_of (List.mem_of_getElem? (i := 640) rfl) rfl
theorem wd_641 : (.methodLink "LoadCyclesLaw" 104 ⟨"LoadCycles", "sheet", "(III)I"⟩ : Cond) ∈ TB := tb_of (List.mem_of_getElem? (i := 641) (by decide +kernel)) rfl
theorem wd_642 : (.instanceMethod ⟨"LoadCycles", "sheet", "(III)I"⟩ : Cond) ∈ TB := tb_of (List.mem_of_getElem? (i := 642) (by decide +kernel)) rfl
theorem wd_643 : (.selects "LoadCycles" ⟨"LoadCycles", "sheet", "(III)I"⟩ ⟨"LoadCycles", "sheet", "(III)I"⟩ : Cond) ∈ TB := tb_of (List.mem_of_getElem? (i := 643) (by decide +kernel)) rfl
set_option maxRecDepth 20000 in
theorem wd_644 : (.code ⟨"LoadCycles", "sheet", "(III)I"⟩ prog_1_method_23_code 4 (some .int) : Cond) ∈ TB := tb_of (List.mem_of_getElem? (i := 644) rfl) rfl
theorem wd_645 : (.methodLink "LoadCycles" 226 ⟨"LoadCycles$Sheet", "renew", "(II)V"⟩ : Cond) ∈ TB := tb_of (List.mem_of_getElem? (i := 645) (by decide +kernel)) rfl
theorem wd_646 : (.instanceMethod ⟨"LoadCycles$Sheet", "renew", "(II)V"⟩ : Cond) ∈ TB := tb_of (List.mem_of_getElem? (i := 646) (by decide +kernel)) rfl
theorem wd_647 : (.selects "LoadCycles$Sheet" ⟨"LoadCycles$Sheet", "renew", "(II)V"⟩ ⟨"LoadCycles$Sheet", "renew", "(II)V"⟩ : Cond) ∈ TB := tb_of (List.mem_of_getElem? (i := 647) (by decide +kernel)) rfl
set_option maxRecDepth 20000 in
theorem wd_648 : (.code ⟨"LoadCycles$Sheet", "renew", "(II)V"⟩ prog_5_method_4_code 3 (none : Option FieldType) : Cond) ∈ TB := tb_of (List.mem_of_getElem? (i := 648) rfl) rfl
theorem wd_649 : (.methodLink "LoadCycles$Sheet" 22 ⟨"java/util/Arrays", "fill", "([II)V"⟩ : Cond) ∈ TB := tb_of (List.mem_of_getElem? (i := 649) (by decide +kernel)) rfl
theorem wd_650 : (.methodLink "LoadCyclesLaw" 108 ⟨"LoadCycles", "lose", "(I)I"⟩ : Cond) ∈ TB := tb_of (List.mem_of_getElem? (i := 650) (by decide +kernel)) rfl
theorem wd_651 : (.instanceMethod ⟨"LoadCycles", "lose", "(I)I"⟩ : Cond) ∈ TB := tb_of (List.mem_of_getElem? (i := 651) (by decide +kernel)) rfl
theorem wd_652 : (.selects "LoadCycles" ⟨"LoadCycles", "lose", "(I)I"⟩ ⟨"LoadCycles", "lose", "(I)I"⟩ : Cond) ∈ TB := tb_of (List.mem_of_getElem? (i := 652) (by decide +kernel)) rfl
set_option maxRecDepth 20000 in
theorem wd_653 : (.code ⟨"LoadCycles", "lose", "(I)I"⟩ prog_1_method_24_code 3 (some .int) : Cond) ∈ TB := tb_of (List.mem_of_getElem? (i := 653) rfl) rfl
theorem wd_654 : (.methodLink "LoadCycles" 230 ⟨"LoadCycles$Sheet", "hasRow", "()Z"⟩ : Cond) ∈ TB := tb_of (List.mem_of_getElem? (i := 654) (by decide +kernel)) rfl
theorem wd_655 : (.methodLink "LoadCycles" 233 ⟨"LoadCycles$Sheet", "empty", "()V"⟩ : Cond) ∈ TB := tb_of (List.mem_of_getElem? (i := 655) (by decide +kernel)) rfl
theorem wd_656 : (.instanceMethod ⟨"LoadCycles$Sheet", "empty", "()V"⟩ : Cond) ∈ TB := tb_of (List.mem_of_getElem? (i := 656) (by decide +kernel)) rfl
theorem wd_657 : (.selects "LoadCycles$Sheet" ⟨"LoadCycles$Sheet", "empty", "()V"⟩ ⟨"LoadCycles$Sheet", "empty", "()V"⟩ : Cond) ∈ TB := tb_of (List.mem_of_getElem? (i := 657) (by decide +kernel)) rfl
set_option maxRecDepth 20000 in
theorem wd_658 : (.code ⟨"LoadCycles$Sheet", "empty", "()V"⟩ prog_5_method_3_code 1 (none : Option FieldType) : Cond) ∈ TB := tb_of (List.mem_of_getElem? (i := 658) rfl) rfl
theorem wd_659 : (.methodLink "LoadCyclesLaw" 112 ⟨"LoadCycles", "put", "(III)I"⟩ : Cond) ∈ TB := tb_of (List.mem_of_getElem? (i := 659) (by decide +kernel)) rfl
theorem wd_660 : (.instanceMethod ⟨"LoadCycles", "put", "(III)I"⟩ : Cond) ∈ TB := tb_of (List.mem_of_getElem? (i := 660) (by decide +kernel)) rfl
theorem wd_661 : (.selects "LoadCycles" ⟨"LoadCycles", "put", "(III)I"⟩ ⟨"LoadCycles", "put", "(III)I"⟩ : Cond) ∈ TB := tb_of (List.mem_of_getElem? (i := 661) (by decide +kernel)) rfl
set_option maxRecDepth 20000 in
theorem wd_662 : (.code ⟨"LoadCycles", "put", "(III)I"⟩ prog_1_method_25_code 5 (some .int) : Cond) ∈ TB := tb_of (List.mem_of_getElem? (i := 662) rfl) rfl
theorem wd_663 : (.methodLink "LoadCycles" 236 ⟨"LoadCycles$Sheet", "cut", "(I)I"⟩ : Cond) ∈ TB := tb_of (List.mem_of_getElem? (i := 663) (by decide +kernel)) rfl
theorem wd_664 : (.instanceMethod ⟨"LoadCycles$Sheet", "cut", "(I)I"⟩ : Cond) ∈ TB := tb_of (List.mem_of_getElem? (i := 664) (by decide +kernel)) rfl
theorem wd_665 : (.selects "LoadCycles$Sheet" ⟨"LoadCycles$Sheet", "cut", "(I)I"⟩ ⟨"LoadCycles$Sheet", "cut", "(I)I"⟩ : Cond) ∈ TB := tb_of (List.mem_of_getElem? (i := 665) (by decide +kernel)) rfl
set_option maxRecDepth 20000 in
theorem wd_666 : (.code ⟨"LoadCycles$Sheet", "cut", "(I)I"⟩ prog_5_method_6_code 2 (some .int) : Cond) ∈ TB := tb_of (List.mem_of_getElem? (i := 666) rfl) rfl
theorem wd_667 : (.methodLink "LoadCyclesLaw" 116 ⟨"LoadCycles", "cell", "(III)J"⟩ : Cond) ∈ TB := tb_of (List.mem_of_getElem? (i := 667) (by decide +kernel)) rfl
theorem wd_668 : (.instanceMethod ⟨"LoadCycles", "cell", "(III)J"⟩ : Cond) ∈ TB := tb_of (List.mem_of_getElem? (i := 668) (by decide +kernel)) rfl
theorem wd_669 : (.selects "LoadCycles" ⟨"LoadCycles", "cell", "(III)J"⟩ ⟨"LoadCycles", "cell", "(III)J"⟩ : Cond) ∈ TB := tb_of (List.mem_of_getElem? (i := 669) (by decide +kernel)) rfl
set_option maxRecDepth 20000 in
theorem wd_670 : (.code ⟨"LoadCycles", "cell", "(III)J"⟩ prog_1_method_26_code 5 (some .long) : Cond) ∈ TB := tb_of (List.mem_of_getElem? (i := 670) rfl) rfl
theorem wd_671 : (.methodLink "LoadCyclesLaw" 121 ⟨"LoadCycles", "copy", "(IIIII)I"⟩ : Cond) ∈ TB := tb_of (List.mem_of_getElem? (i := 671) (by decide +kernel)) rfl
theorem wd_672 : (.instanceMethod ⟨"LoadCycles", "copy", "(IIIII)I"⟩ : Cond) ∈ TB := tb_of (List.mem_of_getElem? (i := 672) (by decide +kernel)) rfl
theorem wd_673 : (.selects "LoadCycles" ⟨"LoadCycles", "copy", "(IIIII)I"⟩ ⟨"LoadCycles", "copy", "(IIIII)I"⟩ : Cond) ∈ TB := tb_of (List.mem_of_getElem? (i := 673) (by decide +kernel)) rfl
set_option maxRecDepth 20000 in
theorem wd_674 : (.code ⟨"LoadCycles", "copy", "(IIIII)I"⟩ prog_1_method_27_code 8 (some .int) : Cond) ∈ TB := tb_of (List.mem_of_getElem? (i := 674) rfl) rfl
theorem wd_675 : (.methodLink "LoadCyclesLaw" 125 ⟨"LoadCycles", "tell", "(I)I"⟩ : Cond) ∈ TB := tb_of (List.mem_of_getElem? (i := 675) (by decide +kernel)) rfl
theorem wd_676 : (.instanceMethod ⟨"LoadCycles", "tell", "(I)I"⟩ : Cond) ∈ TB := tb_of (List.mem_of_getElem? (i := 676) (by decide +kernel)) rfl
theorem wd_677 : (.selects "LoadCycles" ⟨"LoadCycles", "tell", "(I)I"⟩ ⟨"LoadCycles", "tell", "(I)I"⟩ : Cond) ∈ TB := tb_of (List.mem_of_getElem? (i := 677) (by decide +kernel)) rfl
set_option maxRecDepth 20000 in
theorem wd_678 : (.code ⟨"LoadCycles", "tell", "(I)I"⟩ prog_1_method_28_code 2 (some .int) : Cond) ∈ TB := tb_of (List.mem_of_getElem? (i := 678) rfl) rfl
theorem wd_679 : (.methodLink "LoadCycles" 242 ⟨"LoadCycles", "tellPlain", "(I)I"⟩ : Cond) ∈ TB := tb_of (List.mem_of_getElem? (i := 679) (by decide +kernel)) rfl
theorem wd_681 : (.instanceMethod ⟨"LoadCycles", "tellPlain", "(I)I"⟩ : Cond) ∈ TB := tb_of (List.mem_of_getElem? (i := 681) (by decide +kernel)) rfl
set_option maxRecDepth 20000 in
theorem wd_682 : (.code ⟨"LoadCycles", "tellPlain", "(I)I"⟩ prog_1_method_53_code 2 (some .int) : Cond) ∈ TB := tb_of (List.mem_of_getElem? (i := 682) rfl) rfl
theorem wd_683 : (.methodLink "LoadCycles" 301 ⟨"LoadCycles", "leaveTrace", "(I)V"⟩ : Cond) ∈ TB := tb_of (List.mem_of_getElem? (i := 683) (by decide +kernel)) rfl
theorem wd_685 : (.instanceMethod ⟨"LoadCycles", "leaveTrace", "(I)V"⟩ : Cond) ∈ TB := tb_of (List.mem_of_getElem? (i := 685) (by decide +kernel)) rfl
set_option maxRecDepth 20000 in
theorem wd_686 : (.code ⟨"LoadCycles", "leaveTrace", "(I)V"⟩ prog_1_method_52_code 2 (none : Option FieldType) : Cond) ∈ TB := tb_of (List.mem_of_getElem? (i := 686) rfl) rfl
theorem wd_687 : (.methodLink "LoadCycles" 245 ⟨"LoadCycles", "tellHeavy", "(I)I"⟩ : Cond) ∈ TB := tb_of (List.mem_of_getElem? (i := 687) (by decide +kernel)) rfl
theorem wd_689 : (.instanceMethod ⟨"LoadCycles", "tellHeavy", "(I)I"⟩ : Cond) ∈ TB := tb_of (List.mem_of_getElem? (i := 689) (by decide +kernel)) rfl
set_option maxRecDepth 20000 in
theorem wd_690 : (.code ⟨"LoadCycles", "tellHeavy", "(I)I"⟩ prog_1_method_54_code 2 (some .int) : Cond) ∈ TB := tb_of (List.mem_of_getElem? (i := 690) rfl) rfl
theorem wd_691 : (.methodLink "LoadCycles" 248 ⟨"LoadCycles", "tellDouble", "(I)I"⟩ : Cond) ∈ TB := tb_of (List.mem_of_getElem? (i := 691) (by decide +kernel)) rfl
theorem wd_693 : (.instanceMethod ⟨"LoadCycles", "tellDouble", "(I)I"⟩ : Cond) ∈ TB := tb_of (List.mem_of_getElem? (i := 693) (by decide +kernel)) rfl
set_option maxRecDepth 20000 in
theorem wd_694 : (.code ⟨"LoadCycles", "tellDouble", "(I)I"⟩ prog_1_method_55_code 3 (some .int) : Cond) ∈ TB := tb_of (List.mem_of_getElem? (i := 694) rfl) rfl
theorem wd_695 : (.methodLink "LoadCyclesLaw" 129 ⟨"LoadCycles", "metered", "(I)I"⟩ : Cond) ∈ TB := tb_of (List.mem_of_getElem? (i := 695) (by decide +kernel)) rfl
theorem wd_696 : (.instanceMethod ⟨"LoadCycles", "metered", "(I)I"⟩ : Cond) ∈ TB := tb_of (List.mem_of_getElem? (i := 696) (by decide +kernel)) rfl
theorem wd_697 : (.selects "LoadCycles" ⟨"LoadCycles", "metered", "(I)I"⟩ ⟨"LoadCycles", "metered", "(I)I"⟩ : Cond) ∈ TB := tb_of (List.mem_of_getElem? (i := 697) (by decide +kernel)) rfl
set_option maxRecDepth 20000 in
theorem wd_698 : (.code ⟨"LoadCycles", "metered", "(I)I"⟩ prog_1_method_29_code 2 (some .int) : Cond) ∈ TB := tb_of (List.mem_of_getElem? (i := 698) rfl) rfl
theorem wd_699 : (.methodLink "LoadCycles" 251 ⟨"LoadCycles", "ownMetering", "()I"⟩ : Cond) ∈ TB := tb_of (List.mem_of_getElem? (i := 699) (by decide +kernel)) rfl
theorem wd_701 : (.instanceMethod ⟨"LoadCycles", "ownMetering", "()I"⟩ : Cond) ∈ TB := tb_of (List.mem_of_getElem? (i := 701) (by decide +kernel)) rfl
set_option maxRecDepth 20000 in
theorem wd_702 : (.code ⟨"LoadCycles", "ownMetering", "()I"⟩ prog_1_method_57_code 1 (some .int) : Cond) ∈ TB := tb_of (List.mem_of_getElem? (i := 702) rfl) rfl
theorem wd_703 : (.methodLink "LoadCycles" 254 ⟨"LoadCycles", "lentMetering", "(I)I"⟩ : Cond) ∈ TB := tb_of (List.mem_of_getElem? (i := 703) (by decide +kernel)) rfl
theorem wd_705 : (.instanceMethod ⟨"LoadCycles", "lentMetering", "(I)I"⟩ : Cond) ∈ TB := tb_of (List.mem_of_getElem? (i := 705) (by decide +kernel)) rfl
set_option maxRecDepth 20000 in
theorem wd_706 : (.code ⟨"LoadCycles", "lentMetering", "(I)I"⟩ prog_1_method_56_code 4 (some .int) : Cond) ∈ TB := tb_of (List.mem_of_getElem? (i := 706) rfl) rfl
theorem wd_707 : (.methodLink "LoadCyclesLaw" 133 ⟨"LoadCycles", "as", "(II)I"⟩ : Cond) ∈ TB := tb_of (List.mem_of_getElem? (i := 707) (by decide +kernel)) rfl
theorem wd_708 : (.instanceMethod ⟨"LoadCycles", "as", "(II)I"⟩ : Cond) ∈ TB := tb_of (List.mem_of_getElem? (i := 708) (by decide +kernel)) rfl
theorem wd_709 : (.selects "LoadCycles" ⟨"LoadCycles", "as", "(II)I"⟩ ⟨"LoadCycles", "as", "(II)I"⟩ : Cond) ∈ TB := tb_of (List.mem_of_getElem? (i := 709) (by decide +kernel)) rfl
set_option maxRecDepth 20000 in
theorem wd_710 : (.code ⟨"LoadCycles", "as", "(II)I"⟩ prog_1_method_30_code 3 (some .int) : Cond) ∈ TB := tb_of (List.mem_of_getElem? (i := 710) rfl) rfl
theorem wd_711 : (.methodLink "LoadCyclesLaw" 137 ⟨"LoadCycles", "trace", "()I"⟩ : Cond) ∈ TB := tb_of (List.mem_of_getElem? (i := 711) (by decide +kernel)) rfl
theorem wd_712 : (.instanceMethod ⟨"LoadCycles", "trace", "()I"⟩ : Cond) ∈ TB := tb_of (List.mem_of_getElem? (i := 712) (by decide +kernel)) rfl
theorem wd_713 : (.selects "LoadCycles" ⟨"LoadCycles", "trace", "()I"⟩ ⟨"LoadCycles", "trace", "()I"⟩ : Cond) ∈ TB := tb_of (List.mem_of_getElem? (i := 713) (by decide +kernel)) rfl
set_option maxRecDepth 20000 in
theorem wd_714 : (.code ⟨"LoadCycles", "trace", "()I"⟩ prog_1_method_31_code 1 (some .int) : Cond) ∈ TB := tb_of (List.mem_of_getElem? (i := 714) rfl) rfl
theorem wd_715 : (.methodLink "LoadCyclesLaw" 142 ⟨"LoadCycles", "fault", "()I"⟩ : Cond) ∈ TB := tb_of (List.mem_of_getElem? (i := 715) (by decide +kernel)) rfl
theorem wd_716 : (.instanceMethod ⟨"LoadCycles", "fault", "()I"⟩ : Cond) ∈ TB := tb_of (List.mem_of_getElem? (i := 716) (by decide +kernel)) rfl
theorem wd_717 : (.selects "LoadCycles" ⟨"LoadCycles", "fault", "()I"⟩ ⟨"LoadCycles", "fault", "()I"⟩ : Cond) ∈ TB := tb_of (List.mem_of_getElem? (i := 717) (by decide +kernel)) rfl
set_option maxRecDepth 20000 in
theorem wd_718 : (.code ⟨"LoadCycles", "fault", "()I"⟩ prog_1_method_32_code 1 (some .int) : Cond) ∈ TB := tb_of (List.mem_of_getElem? (i := 718) rfl) rfl
theorem wd_719 : (.methodLink "LoadCyclesLaw" 146 ⟨"LoadCycles", "many", "(I)I"⟩ : Cond) ∈ TB := tb_of (List.mem_of_getElem? (i := 719) (by decide +kernel)) rfl
theorem wd_720 : (.instanceMethod ⟨"LoadCycles", "many", "(I)I"⟩ : Cond) ∈ TB := tb_of (List.mem_of_getElem? (i := 720) (by decide +kernel)) rfl
theorem wd_721 : (.selects "LoadCycles" ⟨"LoadCycles", "many", "(I)I"⟩ ⟨"LoadCycles", "many", "(I)I"⟩ : Cond) ∈ TB := tb_of (List.mem_of_getElem? (i := 721) (by decide +kernel)) rfl
set_option maxRecDepth 20000 in
theorem wd_722 : (.code ⟨"LoadCycles", "many", "(I)I"⟩ prog_1_method_33_code 2 (some .int) : Cond) ∈ TB := tb_of (List.mem_of_getElem? (i := 722) rfl) rfl
theorem wd_723 : (.methodLink "LoadCycles" 260 ⟨"LoadCycles$House", "allLevels", "()I"⟩ : Cond) ∈ TB := tb_of (List.mem_of_getElem? (i := 723) (by decide +kernel)) rfl
theorem wd_724 : (.instanceMethod ⟨"LoadCycles$House", "allLevels", "()I"⟩ : Cond) ∈ TB := tb_of (List.mem_of_getElem? (i := 724) (by decide +kernel)) rfl
theorem wd_725 : (.selects "LoadCycles$House" ⟨"LoadCycles$House", "allLevels", "()I"⟩ ⟨"LoadCycles$House", "allLevels", "()I"⟩ : Cond) ∈ TB := tb_of (List.mem_of_getElem? (i := 725) (by decide +kernel)) rfl
set_option maxRecDepth 20000 in
theorem wd_726 : (.code ⟨"LoadCycles$House", "allLevels", "()I"⟩ prog_4_method_13_code 3 (some .int) : Cond) ∈ TB := tb_of (List.mem_of_getElem? (i := 726) rfl) rfl
theorem wd_727 : (.classLink "LoadCyclesLaw" 10 "LoadCyclesModel" : Cond) ∈ TB := tb_of (List.mem_of_getElem? (i := 727) (by decide +kernel)) rfl
theorem wd_728 : (.instantiable "LoadCyclesModel" 33 : Cond) ∈ TB := tb_of (List.mem_of_getElem? (i := 728) (by decide +kernel)) rfl
theorem wd_729 : (.methodLink "LoadCyclesLaw" 12 ⟨"LoadCyclesModel", "<init>", "()V"⟩ : Cond) ∈ TB := tb_of (List.mem_of_getElem? (i := 729) (by decide +kernel)) rfl
theorem wd_730 : (.instanceMethod ⟨"LoadCyclesModel", "<init>", "()V"⟩ : Cond) ∈ TB := tb_of (List.mem_of_getElem? (i := 730) (by decide +kernel)) rfl
set_option maxRecDepth 20000 in
theorem wd_731 : (.code ⟨"LoadCyclesModel", "<init>", "()V"⟩ prog_9_method_1_code 1 (none : Option FieldType) : Cond) ∈ TB := tb_of (List.mem_of_getElem? (i := 731) rfl) rfl
theorem wd_732 : (.methodLink "LoadCyclesModel" 1 ⟨"java/lang/Object", "<init>", "()V"⟩ : Cond) ∈ TB := tb_of (List.mem_of_getElem? (i := 732) (by decide +kernel)) rfl
theorem wd_733 : (.fieldLink "LoadCyclesModel" 79 "LoadCyclesModel" "fault" "I" : Cond) ∈ TB := tb_of (List.mem_of_getElem? (i := 733) (by decide +kernel)) rfl
theorem wd_734 : (.fieldLink "LoadCyclesModel" 281 "LoadCyclesModel" "trace" "I" : Cond) ∈ TB := tb_of (List.mem_of_getElem? (i := 734) (by decide +kernel)) rfl
theorem wd_735 : (.fieldLink "LoadCyclesModel" 9 "LoadCyclesModel" "sorts" "[I" : Cond) ∈ TB := tb_of (List.mem_of_getElem? (i := 735) (by decide +kernel)) rfl
theorem wd_736 : (.fieldLink "LoadCyclesModel" 13 "LoadCyclesModel" "sheetLong" "[I" : Cond) ∈ TB := tb_of (List.mem_of_getElem? (i := 736) (by decide +kernel)) rfl
theorem wd_737 : (.fieldLink "LoadCyclesModel" 16 "LoadCyclesModel" "cells" "[I" : Cond) ∈ TB := tb_of (List.mem_of_getElem? (i := 737) (by decide +kernel)) rfl
theorem wd_738 : (.fieldLink "LoadCyclesModel" 93 "LoadCyclesModel" "many" "I" : Cond) ∈ TB := tb_of (List.mem_of_getElem? (i := 738) (by decide +kernel)) rfl
theorem wd_739 : (.fieldLink "LoadCyclesModel" 19 "LoadCyclesModel" "kind" "[I" : Cond) ∈ TB := tb_of (List.mem_of_getElem? (i := 739) (by decide +kernel)) rfl
theorem wd_740 : (.fieldLink "LoadCyclesModel" 22 "LoadCyclesModel" "levels" "[I" : Cond) ∈ TB := tb_of (List.mem_of_getElem? (i := 740) (by decide +kernel)) rfl
theorem wd_741 : (.fieldLink "LoadCyclesModel" 25 "LoadCyclesModel" "told" "[I" : Cond) ∈ TB := tb_of (List.mem_of_getElem? (i := 741) (by decide +kernel)) rfl
theorem wd_742 : (.fieldLink "LoadCyclesModel" 96 "LoadCyclesModel" "times" "I" : Cond) ∈ TB := tb_of (List.mem_of_getElem? (i := 742) (by decide +kernel)) rfl
theorem wd_743 : (.fieldLink "LoadCyclesModel" 28 "LoadCyclesModel" "value" "[I" : Cond) ∈ TB := tb_of (List.mem_of_getElem? (i := 743) (by decide +kernel)) rfl
theorem wd_744 : (.fieldLink "LoadCyclesModel" 137 "LoadCyclesModel" "base" "I" : Cond) ∈ TB := tb_of (List.mem_of_getElem? (i := 744) (by decide +kernel)) rfl
theorem wd_745 : (.fieldLink "LoadCyclesModel" 99 "LoadCyclesModel" "at" "I" : Cond) ∈ TB := tb_of (List.mem_of_getElem? (i := 745) (by decide +kernel)) rfl
theorem wd_746 : (.fieldLink "LoadCyclesModel" 110 "LoadCyclesModel" "readMany" "I" : Cond) ∈ TB := tb_of (List.mem_of_getElem? (i := 746) (by decide +kernel)) rfl
theorem wd_747 : (.fieldLink "LoadCyclesModel" 31 "LoadCyclesModel" "readKind" "[I" : Cond) ∈ TB := tb_of (List.mem_of_getElem? (i := 747) (by decide +kernel)) rfl
theorem wd_748 : (.fieldLink "LoadCyclesModel" 34 "LoadCyclesModel" "readLevels" "[I" : Cond) ∈ TB := tb_of (List.mem_of_getElem? (i := 748) (by decide +kernel)) rfl
theorem wd_749 : (.fieldLink "LoadCyclesModel" 37 "LoadCyclesModel" "readTold" "[I" : Cond) ∈ TB := tb_of (List.mem_of_getElem? (i := 749) (by decide +kernel)) rfl
theorem wd_750 : (.fieldLink "LoadCyclesModel" 143 "LoadCyclesModel" "isFound" "Z" : Cond) ∈ TB := tb_of (List.mem_of_getElem? (i := 750) (by decide +kernel)) rfl
theorem wd_751 : (.fieldLink "LoadCyclesModel" 40 "LoadCyclesModel" "power" "[I" : Cond) ∈ TB := tb_of (List.mem_of_getElem? (i := 751) (by decide +kernel)) rfl
theorem wd_752 : (.fieldLink "LoadCyclesModel" 43 "LoadCyclesModel" "goes" "[I" : Cond) ∈ TB := tb_of (List.mem_of_getElem? (i := 752) (by decide +kernel)) rfl
theorem wd_753 : (.fieldLink "LoadCyclesModel" 46 "LoadCyclesModel" "cost" "[I" : Cond) ∈ TB := tb_of (List.mem_of_getElem? (i := 753) (by decide +kernel)) rfl
theorem wd_754 : (.fieldLink "LoadCyclesModel" 49 "LoadCyclesModel" "rank" "[I" : Cond) ∈ TB := tb_of (List.mem_of_getElem? (i := 754) (by decide +kernel)) rfl
theorem wd_755 : (.fieldLink "LoadCyclesModel" 52 "LoadCyclesModel" "thenCost" "[I" : Cond) ∈ TB := tb_of (List.mem_of_getElem? (i := 755) (by decide +kernel)) rfl
theorem wd_756 : (.fieldLink "LoadCyclesModel" 55 "LoadCyclesModel" "thenRank" "[I" : Cond) ∈ TB := tb_of (List.mem_of_getElem? (i := 756) (by decide +kernel)) rfl
theorem wd_757 : (.fieldLink "LoadCyclesModel" 58 "LoadCyclesModel" "start" "[I" : Cond) ∈ TB := tb_of (List.mem_of_getElem? (i := 757) (by decide +kernel)) rfl
theorem wd_758 : (.fieldLink "LoadCyclesModel" 61 "LoadCyclesModel" "from" "[I" : Cond) ∈ TB := tb_of (List.mem_of_getElem? (i := 758) (by decide +kernel)) rfl
theorem wd_759 : (.fieldLink "LoadCyclesModel" 64 "LoadCyclesModel" "best" "[I" : Cond) ∈ TB := tb_of (List.mem_of_getElem? (i := 759) (by decide +kernel)) rfl
theorem wd_760 : (.fieldLink "LoadCyclesModel" 67 "LoadCyclesModel" "keptTold" "[I" : Cond) ∈ TB := tb_of (List.mem_of_getElem? (i := 760) (by decide +kernel)) rfl
theorem wd_761 : (.fieldLink "LoadCyclesModel" 70 "LoadCyclesModel" "keptValue" "[I" : Cond) ∈ TB := tb_of (List.mem_of_getElem? (i := 761) (by decide +kernel)) rfl
theorem wd_762 : (.fieldLink "LoadCyclesModel" 225 "LoadCyclesModel" "keptBase" "I" : Cond) ∈ TB := tb_of (List.mem_of_getElem? (i := 762) (by decide +kernel)) rfl
theorem wd_763 : (.fieldLink "LoadCyclesModel" 140 "LoadCyclesModel" "readings" "I" : Cond) ∈ TB := tb_of (List.mem_of_getElem? (i := 763) (by decide +kernel)) rfl
theorem wd_764 : (.fieldLink "LoadCyclesModel" 73 "LoadCyclesModel" "readOf" "[I" : Cond) ∈ TB := tb_of (List.mem_of_getElem? (i := 764) (by decide +kernel)) rfl
theorem wd_765 : (.fieldLink "LoadCyclesModel" 76 "LoadCyclesModel" "readEnergy" "[I" : Cond) ∈ TB := tb_of (List.mem_of_getElem? (i := 765) (by decide +kernel)) rfl
theorem wd_766 : (.lays "LoadCyclesModel" "LoadCyclesModel" "fault" "I" : Cond) ∈ TB := tb_of (List.mem_of_getElem? (i := 766) (by decide +kernel)) rfl
theorem wd_768 : (.lays "LoadCyclesModel" "LoadCyclesModel" "trace" "I" : Cond) ∈ TB := tb_of (List.mem_of_getElem? (i := 768) (by decide +kernel)) rfl
theorem wd_770 : (.laysFinal "LoadCyclesModel" "LoadCyclesModel" "sorts" "[I" : Cond) ∈ TB := tb_of (List.mem_of_getElem? (i := 770) (by decide +kernel)) rfl
theorem wd_772 : (.laysFinal "LoadCyclesModel" "LoadCyclesModel" "sheetLong" "[I" : Cond) ∈ TB := tb_of (List.mem_of_getElem? (i := 772) (by decide +kernel)) rfl
theorem wd_774 : (.laysFinal "LoadCyclesModel" "LoadCyclesModel" "cells" "[I" : Cond) ∈ TB := tb_of (List.mem_of_getElem? (i := 774) (by decide +kernel)) rfl
theorem wd_776 : (.lays "LoadCyclesModel" "LoadCyclesModel" "many" "I" : Cond) ∈ TB := tb_of (List.mem_of_getElem? (i := 776) (by decide +kernel)) rfl
theorem wd_778 : (.laysFinal "LoadCyclesModel" "LoadCyclesModel" "kind" "[I" : Cond) ∈ TB := tb_of (List.mem_of_getElem? (i := 778) (by decide +kernel)) rfl
theorem wd_780 : (.laysFinal "LoadCyclesModel" "LoadCyclesModel" "levels" "[I" : Cond) ∈ TB := tb_of (List.mem_of_getElem? (i := 780) (by decide +kernel)) rfl
theorem wd_782 : (.laysFinal "LoadCyclesModel" "LoadCyclesModel" "told" "[I" : Cond) ∈ TB := tb_of (List.mem_of_getElem? (i := 782) (by decide +kernel)) rfl
theorem wd_784 : (.lays "LoadCyclesModel" "LoadCyclesModel" "times" "I" : Cond) ∈ TB := tb_of (List.mem_of_getElem? (i := 784) (by decide +kernel)) rfl
theorem wd_786 : (.laysFinal "LoadCyclesModel" "LoadCyclesModel" "value" "[I" : Cond) ∈ TB := tb_of (List.mem_of_getElem? (i := 786) (by decide +kernel)) rfl
theorem wd_788 : (.lays "LoadCyclesModel" "LoadCyclesModel" "base" "I" : Cond) ∈ TB := tb_of (List.mem_of_getElem? (i := 788) (by decide +kernel)) rfl
theorem wd_790 : (.lays "LoadCyclesModel" "LoadCyclesModel" "at" "I" : Cond) ∈ TB := tb_of (List.mem_of_getElem? (i := 790) (by decide +kernel)) rfl
theorem wd_792 : (.lays "LoadCyclesModel" "LoadCyclesModel" "readMany" "I" : Cond) ∈ TB := tb_of (List.mem_of_getElem? (i := 792) (by decide +kernel)) rfl
theorem wd_794 : (.laysFinal "LoadCyclesModel" "LoadCyclesModel" "readKind" "[I" : Cond) ∈ TB := tb_of (List.mem_of_getElem? (i := 794) (by decide +kernel)) rfl
theorem wd_796 : (.laysFinal "LoadCyclesModel" "LoadCyclesModel" "readLevels" "[I" : Cond) ∈ TB := tb_of (List.mem_of_getElem? (i := 796) (by decide +kernel)) rfl
theorem wd_798 : (.laysFinal "LoadCyclesModel" "LoadCyclesModel" "readTold" "[I" : Cond) ∈ TB := tb_of (List.mem_of_getElem? (i := 798) (by decide +kernel)) rfl
theorem wd_800 : (.lays "LoadCyclesModel" "LoadCyclesModel" "isFound" "Z" : Cond) ∈ TB := tb_of (List.mem_of_getElem? (i := 800) (by decide +kernel)) rfl
theorem wd_802 : (.laysFinal "LoadCyclesModel" "LoadCyclesModel" "power" "[I" : Cond) ∈ TB := tb_of (List.mem_of_getElem? (i := 802) (by decide +kernel)) rfl
theorem wd_804 : (.laysFinal "LoadCyclesModel" "LoadCyclesModel" "goes" "[I" : Cond) ∈ TB := tb_of (List.mem_of_getElem? (i := 804) (by decide +kernel)) rfl
theorem wd_806 : (.laysFinal "LoadCyclesModel" "LoadCyclesModel" "cost" "[I" : Cond) ∈ TB := tb_of (List.mem_of_getElem? (i := 806) (by decide +kernel)) rfl
theorem wd_808 : (.laysFinal "LoadCyclesModel" "LoadCyclesModel" "rank" "[I" : Cond) ∈ TB := tb_of (List.mem_of_getElem? (i := 808) (by decide +kernel)) rfl
theorem wd_810 : (.laysFinal "LoadCyclesModel" "LoadCyclesModel" "thenCost" "[I" : Cond) ∈ TB := tb_of (List.mem_of_getElem? (i := 810) (by decide +kernel)) rfl
theorem wd_812 : (.laysFinal "LoadCyclesModel" "LoadCyclesModel" "thenRank" "[I" : Cond) ∈ TB := tb_of (List.mem_of_getElem? (i := 812) (by decide +kernel)) rfl
theorem wd_814 : (.laysFinal "LoadCyclesModel" "LoadCyclesModel" "start" "[I" : Cond) ∈ TB := tb_of (List.mem_of_getElem? (i := 814) (by decide +kernel)) rfl
theorem wd_816 : (.laysFinal "LoadCyclesModel" "LoadCyclesModel" "from" "[I" : Cond) ∈ TB := tb_of (List.mem_of_getElem? (i := 816) (by decide +kernel)) rfl
theorem wd_818 : (.laysFinal "LoadCyclesModel" "LoadCyclesModel" "best" "[I" : Cond) ∈ TB := tb_of (List.mem_of_getElem? (i := 818) (by decide +kernel)) rfl
theorem wd_820 : (.laysFinal "LoadCyclesModel" "LoadCyclesModel" "keptTold" "[I" : Cond) ∈ TB := tb_of (List.mem_of_getElem? (i := 820) (by decide +kernel)) rfl
theorem wd_822 : (.laysFinal "LoadCyclesModel" "LoadCyclesModel" "keptValue" "[I" : Cond) ∈ TB := tb_of (List.mem_of_getElem? (i := 822) (by decide +kernel)) rfl
theorem wd_824 : (.lays "LoadCyclesModel" "LoadCyclesModel" "keptBase" "I" : Cond) ∈ TB := tb_of (List.mem_of_getElem? (i := 824) (by decide +kernel)) rfl
theorem wd_826 : (.lays "LoadCyclesModel" "LoadCyclesModel" "readings" "I" : Cond) ∈ TB := tb_of (List.mem_of_getElem? (i := 826) (by decide +kernel)) rfl
theorem wd_828 : (.laysFinal "LoadCyclesModel" "LoadCyclesModel" "readOf" "[I" : Cond) ∈ TB := tb_of (List.mem_of_getElem? (i := 828) (by decide +kernel)) rfl
theorem wd_830 : (.laysFinal "LoadCyclesModel" "LoadCyclesModel" "readEnergy" "[I" : Cond) ∈ TB := tb_of (List.mem_of_getElem? (i := 830) (by decide +kernel)) rfl
theorem wd_833 : (.methodLink "LoadCyclesLaw" 17 ⟨"LoadCyclesModel", "house", "(IIII)I"⟩ : Cond) ∈ TB := tb_of (List.mem_of_getElem? (i := 833) (by decide +kernel)) rfl
theorem wd_834 : (.instanceMethod ⟨"LoadCyclesModel", "house", "(IIII)I"⟩ : Cond) ∈ TB := tb_of (List.mem_of_getElem? (i := 834) (by decide +kernel)) rfl
theorem wd_835 : (.selects "LoadCyclesModel" ⟨"LoadCyclesModel", "house", "(IIII)I"⟩ ⟨"LoadCyclesModel", "house", "(IIII)I"⟩ : Cond) ∈ TB := tb_of (List.mem_of_getElem? (i := 835) (by decide +kernel)) rfl
set_option maxRecDepth 20000 in
theorem wd_836 : (.code ⟨"LoadCyclesModel", "house", "(IIII)I"⟩ prog_9_method_14_code 9 (some .int) : Cond) ∈ TB := tb_of (List.mem_of_getElem? (i := 836) rfl) rfl
theorem wd_837 : (.methodLink "LoadCyclesModel" 121 ⟨"LoadCyclesModel", "isSheet", "(I)Z"⟩ : Cond) ∈ TB := tb_of (List.mem_of_getElem? (i := 837) (by decide +kernel)) rfl
theorem wd_838 : (.static ⟨"LoadCyclesModel", "isSheet", "(I)Z"⟩ : Cond) ∈ TB := tb_of (List.mem_of_getElem? (i := 838) (by decide +kernel)) rfl
set_option maxRecDepth 20000 in
theorem wd_839 : (.code ⟨"LoadCyclesModel", "isSheet", "(I)Z"⟩ prog_9_method_5_code 1 (some .boolean) : Cond) ∈ TB := tb_of (List.mem_of_getElem? (i := 839) rfl) rfl
theorem wd_840 : (.constantLong "LoadCyclesModel" 85 (3 : Int64) : Cond) ∈ TB := tb_of (List.mem_of_getElem? (i := 840) (by decide +kernel)) rfl
theorem wd_841 : (.methodLink "LoadCyclesModel" 87 ⟨"LoadCyclesModel", "within", "(JJJ)Z"⟩ : Cond) ∈ TB := tb_of (List.mem_of_getElem? (i := 841) (by decide +kernel)) rfl
theorem wd_842 : (.static ⟨"LoadCyclesModel", "within", "(JJJ)Z"⟩ : Cond) ∈ TB := tb_of (List.mem_of_getElem? (i := 842) (by decide +kernel)) rfl
set_option maxRecDepth 20000 in
theorem wd_843 : (.code ⟨"LoadCyclesModel", "within", "(JJJ)Z"⟩ prog_9_method_4_code 6 (some .boolean) : Cond) ∈ TB := tb_of (List.mem_of_getElem? (i := 843) rfl) rfl
theorem wd_844 : (.methodLink "LoadCyclesModel" 124 ⟨"LoadCyclesModel", "isSort", "(I)Z"⟩ : Cond) ∈ TB := tb_of (List.mem_of_getElem? (i := 844) (by decide +kernel)) rfl
theorem wd_845 : (.static ⟨"LoadCyclesModel", "isSort", "(I)Z"⟩ : Cond) ∈ TB := tb_of (List.mem_of_getElem? (i := 845) (by decide +kernel)) rfl
set_option maxRecDepth 20000 in
theorem wd_846 : (.code ⟨"LoadCyclesModel", "isSort", "(I)Z"⟩ prog_9_method_6_code 1 (some .boolean) : Cond) ∈ TB := tb_of (List.mem_of_getElem? (i := 846) rfl) rfl
theorem wd_847 : (.constantLong "LoadCyclesModel" 91 (2 : Int64) : Cond) ∈ TB := tb_of (List.mem_of_getElem? (i := 847) (by decide +kernel)) rfl
theorem wd_848 : (.methodLink "LoadCyclesModel" 127 ⟨"LoadCyclesModel", "against", "(IIII)I"⟩ : Cond) ∈ TB := tb_of (List.mem_of_getElem? (i := 848) (by decide +kernel)) rfl
theorem wd_850 : (.instanceMethod ⟨"LoadCyclesModel", "against", "(IIII)I"⟩ : Cond) ∈ TB := tb_of (List.mem_of_getElem? (i := 850) (by decide +kernel)) rfl
set_option maxRecDepth 20000 in
theorem wd_851 : (.code ⟨"LoadCyclesModel", "against", "(IIII)I"⟩ prog_9_method_7_code 5 (some .int) : Cond) ∈ TB := tb_of (List.mem_of_getElem? (i := 851) rfl) rfl
theorem wd_852 : (.methodLink "LoadCyclesModel" 131 ⟨"LoadCyclesModel", "fails", "(I)I"⟩ : Cond) ∈ TB := tb_of (List.mem_of_getElem? (i := 852) (by decide +kernel)) rfl
theorem wd_854 : (.instanceMethod ⟨"LoadCyclesModel", "fails", "(I)I"⟩ : Cond) ∈ TB := tb_of (List.mem_of_getElem? (i := 854) (by decide +kernel)) rfl
set_option maxRecDepth 20000 in
theorem wd_855 : (.code ⟨"LoadCyclesModel", "fails", "(I)I"⟩ prog_9_method_2_code 2 (some .int) : Cond) ∈ TB := tb_of (List.mem_of_getElem? (i := 855) rfl) rfl
theorem wd_856 : (.methodLink "LoadCyclesModel" 134 ⟨"LoadCyclesModel", "readAll", "(I)Z"⟩ : Cond) ∈ TB := tb_of (List.mem_of_getElem? (i := 856) (by decide +kernel)) rfl
theorem wd_858 : (.instanceMethod ⟨"LoadCyclesModel", "readAll", "(I)Z"⟩ : Cond) ∈ TB := tb_of (List.mem_of_getElem? (i := 858) (by decide +kernel)) rfl
set_option maxRecDepth 20000 in
theorem wd_859 : (.code ⟨"LoadCyclesModel", "readAll", "(I)Z"⟩ prog_9_method_13_code 2 (some .boolean) : Cond) ∈ TB := tb_of (List.mem_of_getElem? (i := 859) rfl) rfl
theorem wd_860 : (.methodLink "LoadCyclesModel" 113 ⟨"LoadCyclesModel", "isSign", "(II)Z"⟩ : Cond) ∈ TB := tb_of (List.mem_of_getElem? (i := 860) (by decide +kernel)) rfl
theorem wd_862 : (.instanceMethod ⟨"LoadCyclesModel", "isSign", "(II)Z"⟩ : Cond) ∈ TB := tb_of (List.mem_of_getElem? (i := 862) (by decide +kernel)) rfl
set_option maxRecDepth 20000 in
theorem wd_863 : (.code ⟨"LoadCyclesModel", "isSign", "(II)Z"⟩ prog_9_method_10_code 3 (some .boolean) : Cond) ∈ TB := tb_of (List.mem_of_getElem? (i := 863) rfl) rfl
theorem wd_864 : (.methodLink "LoadCyclesModel" 117 ⟨"LoadCyclesModel", "readAppliance", "(I)Z"⟩ : Cond) ∈ TB := tb_of (List.mem_of_getElem? (i := 864) (by decide +kernel)) rfl
theorem wd_866 : (.instanceMethod ⟨"LoadCyclesModel", "readAppliance", "(I)Z"⟩ : Cond) ∈ TB := tb_of (List.mem_of_getElem? (i := 866) (by decide +kernel)) rfl
set_option maxRecDepth 20000 in
theorem wd_867 : (.code ⟨"LoadCyclesModel", "readAppliance", "(I)Z"⟩ prog_9_method_12_code 4 (some .boolean) : Cond) ∈ TB := tb_of (List.mem_of_getElem? (i := 867) rfl) rfl
theorem wd_868 : (.methodLink "LoadCyclesModel" 102 ⟨"LoadCyclesModel", "kindBy", "(I)I"⟩ : Cond) ∈ TB := tb_of (List.mem_of_getElem? (i := 868) (by decide +kernel)) rfl
theorem wd_869 : (.static ⟨"LoadCyclesModel", "kindBy", "(I)I"⟩ : Cond) ∈ TB := tb_of (List.mem_of_getElem? (i := 869) (by decide +kernel)) rfl
set_option maxRecDepth 20000 in
theorem wd_870 : (.code ⟨"LoadCyclesModel", "kindBy", "(I)I"⟩ prog_9_method_11_code 1 (some .int) : Cond) ∈ TB := tb_of (List.mem_of_getElem? (i := 870) rfl) rfl
theorem wd_871 : (.constantLong "LoadCyclesModel" 106 (49 : Int64) : Cond) ∈ TB := tb_of (List.mem_of_getElem? (i := 871) (by decide +kernel)) rfl
theorem wd_872 : (.constantLong "LoadCyclesModel" 108 (57 : Int64) : Cond) ∈ TB := tb_of (List.mem_of_getElem? (i := 872) (by decide +kernel)) rfl
theorem wd_873 : (.methodLink "LoadCyclesLaw" 22 ⟨"LoadCyclesModel", "ofAppliance", "(II)I"⟩ : Cond) ∈ TB := tb_of (List.mem_of_getElem? (i := 873) (by decide +kernel)) rfl
theorem wd_874 : (.instanceMethod ⟨"LoadCyclesModel", "ofAppliance", "(II)I"⟩ : Cond) ∈ TB := tb_of (List.mem_of_getElem? (i := 874) (by decide +kernel)) rfl
theorem wd_875 : (.selects "LoadCyclesModel" ⟨"LoadCyclesModel", "ofAppliance", "(II)I"⟩ ⟨"LoadCyclesModel", "ofAppliance", "(II)I"⟩ : Cond) ∈ TB := tb_of (List.mem_of_getElem? (i := 875) (by decide +kernel)) rfl
set_option maxRecDepth 20000 in
theorem wd_876 : (.code ⟨"LoadCyclesModel", "ofAppliance", "(II)I"⟩ prog_9_method_16_code 3 (some .int) : Cond) ∈ TB := tb_of (List.mem_of_getElem? (i := 876) rfl) rfl
theorem wd_877 : (.methodLink "LoadCyclesModel" 147 ⟨"LoadCyclesModel", "isAppliance", "(I)Z"⟩ : Cond) ∈ TB := tb_of (List.mem_of_getElem? (i := 877) (by decide +kernel)) rfl
theorem wd_879 : (.instanceMethod ⟨"LoadCyclesModel", "isAppliance", "(I)Z"⟩ : Cond) ∈ TB := tb_of (List.mem_of_getElem? (i := 879) (by decide +kernel)) rfl
set_option maxRecDepth 20000 in
theorem wd_880 : (.code ⟨"LoadCyclesModel", "isAppliance", "(I)Z"⟩ prog_9_method_8_code 2 (some .boolean) : Cond) ∈ TB := tb_of (List.mem_of_getElem? (i := 880) rfl) rfl
theorem wd_881 : (.constantLong "LoadCyclesModel" 150 (10 : Int64) : Cond) ∈ TB := tb_of (List.mem_of_getElem? (i := 881) (by decide +kernel)) rfl
theorem wd_882 : (.constantLong "LoadCyclesModel" 152 (12 : Int64) : Cond) ∈ TB := tb_of (List.mem_of_getElem? (i := 882) (by decide +kernel)) rfl
theorem wd_883 : (.constantLong "LoadCyclesModel" 154 (20 : Int64) : Cond) ∈ TB := tb_of (List.mem_of_getElem? (i := 883) (by decide +kernel)) rfl
theorem wd_884 : (.constantLong "LoadCyclesModel" 156 (22 : Int64) : Cond) ∈ TB := tb_of (List.mem_of_getElem? (i := 884) (by decide +kernel)) rfl
theorem wd_885 : (.methodLink "LoadCyclesModel" 158 ⟨"LoadCyclesModel", "powerOf", "(II)I"⟩ : Cond) ∈ TB := tb_of (List.mem_of_getElem? (i := 885) (by decide +kernel)) rfl
theorem wd_887 : (.instanceMethod ⟨"LoadCyclesModel", "powerOf", "(II)I"⟩ : Cond) ∈ TB := tb_of (List.mem_of_getElem? (i := 887) (by decide +kernel)) rfl
set_option maxRecDepth 20000 in
theorem wd_888 : (.code ⟨"LoadCyclesModel", "powerOf", "(II)I"⟩ prog_9_method_15_code 4 (some .int) : Cond) ∈ TB := tb_of (List.mem_of_getElem? (i := 888) rfl) rfl
theorem wd_889 : (.methodLink "LoadCyclesLaw" 27 ⟨"LoadCyclesModel", "level", "(III)I"⟩ : Cond) ∈ TB := tb_of (List.mem_of_getElem? (i := 889) (by decide +kernel)) rfl
theorem wd_890 : (.instanceMethod ⟨"LoadCyclesModel", "level", "(III)I"⟩ : Cond) ∈ TB := tb_of (List.mem_of_getElem? (i := 890) (by decide +kernel)) rfl
theorem wd_891 : (.selects "LoadCyclesModel" ⟨"LoadCyclesModel", "level", "(III)I"⟩ ⟨"LoadCyclesModel", "level", "(III)I"⟩ : Cond) ∈ TB := tb_of (List.mem_of_getElem? (i := 891) (by decide +kernel)) rfl
set_option maxRecDepth 20000 in
theorem wd_892 : (.code ⟨"LoadCyclesModel", "level", "(III)I"⟩ prog_9_method_17_code 5 (some .int) : Cond) ∈ TB := tb_of (List.mem_of_getElem? (i := 892) rfl) rfl
theorem wd_893 : (.constantLong "LoadCyclesModel" 162 (9 : Int64) : Cond) ∈ TB := tb_of (List.mem_of_getElem? (i := 893) (by decide +kernel)) rfl
theorem wd_894 : (.methodLink "LoadCyclesLaw" 31 ⟨"LoadCyclesModel", "meter", "(IIII)I"⟩ : Cond) ∈ TB := tb_of (List.mem_of_getElem? (i := 894) (by decide +kernel)) rfl
theorem wd_895 : (.instanceMethod ⟨"LoadCyclesModel", "meter", "(IIII)I"⟩ : Cond) ∈ TB := tb_of (List.mem_of_getElem? (i := 895) (by decide +kernel)) rfl
theorem wd_896 : (.selects "LoadCyclesModel" ⟨"LoadCyclesModel", "meter", "(IIII)I"⟩ ⟨"LoadCyclesModel", "meter", "(IIII)I"⟩ : Cond) ∈ TB := tb_of (List.mem_of_getElem? (i := 896) (by decide +kernel)) rfl
set_option maxRecDepth 20000 in
theorem wd_897 : (.code ⟨"LoadCyclesModel", "meter", "(IIII)I"⟩ prog_9_method_18_code 8 (some .int) : Cond) ∈ TB := tb_of (List.mem_of_getElem? (i := 897) rfl) rfl
theorem wd_898 : (.constantLong "LoadCyclesModel" 164 (99 : Int64) : Cond) ∈ TB := tb_of (List.mem_of_getElem? (i := 898) (by decide +kernel)) rfl
theorem wd_899 : (.methodLink "LoadCyclesLaw" 36 ⟨"LoadCyclesModel", "value", "(I)I"⟩ : Cond) ∈ TB := tb_of (List.mem_of_getElem? (i := 899) (by decide +kernel)) rfl
theorem wd_900 : (.instanceMethod ⟨"LoadCyclesModel", "value", "(I)I"⟩ : Cond) ∈ TB := tb_of (List.mem_of_getElem? (i := 900) (by decide +kernel)) rfl
theorem wd_901 : (.selects "LoadCyclesModel" ⟨"LoadCyclesModel", "value", "(I)I"⟩ ⟨"LoadCyclesModel", "value", "(I)I"⟩ : Cond) ∈ TB := tb_of (List.mem_of_getElem? (i := 901) (by decide +kernel)) rfl
set_option maxRecDepth 20000 in
theorem wd_902 : (.code ⟨"LoadCyclesModel", "value", "(I)I"⟩ prog_9_method_19_code 2 (some .int) : Cond) ∈ TB := tb_of (List.mem_of_getElem? (i := 902) rfl) rfl
theorem wd_903 : (.methodLink "LoadCyclesModel" 166 ⟨"LoadCyclesModel", "isTime", "(I)Z"⟩ : Cond) ∈ TB := tb_of (List.mem_of_getElem? (i := 903) (by decide +kernel)) rfl
theorem wd_905 : (.instanceMethod ⟨"LoadCyclesModel", "isTime", "(I)Z"⟩ : Cond) ∈ TB := tb_of (List.mem_of_getElem? (i := 905) (by decide +kernel)) rfl
set_option maxRecDepth 20000 in
theorem wd_906 : (.code ⟨"LoadCyclesModel", "isTime", "(I)Z"⟩ prog_9_method_9_code 2 (some .boolean) : Cond) ∈ TB := tb_of (List.mem_of_getElem? (i := 906) rfl) rfl
theorem wd_907 : (.methodLink "LoadCyclesLaw" 40 ⟨"LoadCyclesModel", "base", "(I)I"⟩ : Cond) ∈ TB := tb_of (List.mem_of_getElem? (i := 907) (by decide +kernel)) rfl
theorem wd_908 : (.instanceMethod ⟨"LoadCyclesModel", "base", "(I)I"⟩ : Cond) ∈ TB := tb_of (List.mem_of_getElem? (i := 908) (by decide +kernel)) rfl
theorem wd_909 : (.selects "LoadCyclesModel" ⟨"LoadCyclesModel", "base", "(I)I"⟩ ⟨"LoadCyclesModel", "base", "(I)I"⟩ : Cond) ∈ TB := tb_of (List.mem_of_getElem? (i := 909) (by decide +kernel)) rfl
set_option maxRecDepth 20000 in
theorem wd_910 : (.code ⟨"LoadCyclesModel", "base", "(I)I"⟩ prog_9_method_21_code 3 (some .int) : Cond) ∈ TB := tb_of (List.mem_of_getElem? (i := 910) rfl) rfl
theorem wd_911 : (.methodLink "LoadCyclesModel" 169 ⟨"LoadCyclesModel", "canBase", "(I)Z"⟩ : Cond) ∈ TB := tb_of (List.mem_of_getElem? (i := 911) (by decide +kernel)) rfl
theorem wd_913 : (.instanceMethod ⟨"LoadCyclesModel", "canBase", "(I)Z"⟩ : Cond) ∈ TB := tb_of (List.mem_of_getElem? (i := 913) (by decide +kernel)) rfl
set_option maxRecDepth 20000 in
theorem wd_914 : (.code ⟨"LoadCyclesModel", "canBase", "(I)Z"⟩ prog_9_method_20_code 3 (some .boolean) : Cond) ∈ TB := tb_of (List.mem_of_getElem? (i := 914) rfl) rfl
theorem wd_915 : (.methodLink "LoadCyclesLaw" 44 ⟨"LoadCyclesModel", "at", "(II)I"⟩ : Cond) ∈ TB := tb_of (List.mem_of_getElem? (i := 915) (by decide +kernel)) rfl
theorem wd_916 : (.instanceMethod ⟨"LoadCyclesModel", "at", "(II)I"⟩ : Cond) ∈ TB := tb_of (List.mem_of_getElem? (i := 916) (by decide +kernel)) rfl
theorem wd_917 : (.selects "LoadCyclesModel" ⟨"LoadCyclesModel", "at", "(II)I"⟩ ⟨"LoadCyclesModel", "at", "(II)I"⟩ : Cond) ∈ TB := tb_of (List.mem_of_getElem? (i := 917) (by decide +kernel)) rfl
set_option maxRecDepth 20000 in
theorem wd_918 : (.code ⟨"LoadCyclesModel", "at", "(II)I"⟩ prog_9_method_38_code 3 (some .int) : Cond) ∈ TB := tb_of (List.mem_of_getElem? (i := 918) rfl) rfl
theorem wd_919 : (.methodLink "LoadCyclesModel" 202 ⟨"LoadCyclesModel", "findBest", "()V"⟩ : Cond) ∈ TB := tb_of (List.mem_of_getElem? (i := 919) (by decide +kernel)) rfl
theorem wd_921 : (.instanceMethod ⟨"LoadCyclesModel", "findBest", "()V"⟩ : Cond) ∈ TB := tb_of (List.mem_of_getElem? (i := 921) (by decide +kernel)) rfl
set_option maxRecDepth 20000 in
theorem wd_922 : (.code ⟨"LoadCyclesModel", "findBest", "()V"⟩ prog_9_method_30_code 3 (none : Option FieldType) : Cond) ∈ TB := tb_of (List.mem_of_getElem? (i := 922) rfl) rfl
theorem wd_923 : (.methodLink "LoadCyclesModel" 188 ⟨"LoadCyclesModel", "prepare", "()V"⟩ : Cond) ∈ TB := tb_of (List.mem_of_getElem? (i := 923) (by decide +kernel)) rfl
theorem wd_925 : (.instanceMethod ⟨"LoadCyclesModel", "prepare", "()V"⟩ : Cond) ∈ TB := tb_of (List.mem_of_getElem? (i := 925) (by decide +kernel)) rfl
set_option maxRecDepth 20000 in
theorem wd_926 : (.code ⟨"LoadCyclesModel", "prepare", "()V"⟩ prog_9_method_26_code 3 (none : Option FieldType) : Cond) ∈ TB := tb_of (List.mem_of_getElem? (i := 926) rfl) rfl
theorem wd_927 : (.methodLink "LoadCyclesModel" 175 ⟨"LoadCyclesModel", "powerOfRow", "(I)I"⟩ : Cond) ∈ TB := tb_of (List.mem_of_getElem? (i := 927) (by decide +kernel)) rfl
theorem wd_929 : (.instanceMethod ⟨"LoadCyclesModel", "powerOfRow", "(I)I"⟩ : Cond) ∈ TB := tb_of (List.mem_of_getElem? (i := 929) (by decide +kernel)) rfl
set_option maxRecDepth 20000 in
theorem wd_930 : (.code ⟨"LoadCyclesModel", "powerOfRow", "(I)I"⟩ prog_9_method_23_code 5 (some .int) : Cond) ∈ TB := tb_of (List.mem_of_getElem? (i := 930) rfl) rfl
theorem wd_931 : (.methodLink "LoadCyclesModel" 172 ⟨"LoadCyclesModel", "digit", "(II)I"⟩ : Cond) ∈ TB := tb_of (List.mem_of_getElem? (i := 931) (by decide +kernel)) rfl
theorem wd_932 : (.static ⟨"LoadCyclesModel", "digit", "(II)I"⟩ : Cond) ∈ TB := tb_of (List.mem_of_getElem? (i := 932) (by decide +kernel)) rfl
set_option maxRecDepth 20000 in
theorem wd_933 : (.code ⟨"LoadCyclesModel", "digit", "(II)I"⟩ prog_9_method_22_code 2 (some .int) : Cond) ∈ TB := tb_of (List.mem_of_getElem? (i := 933) rfl) rfl
theorem wd_934 : (.methodLink "LoadCyclesModel" 178 ⟨"LoadCyclesModel", "goesOn", "(II)I"⟩ : Cond) ∈ TB := tb_of (List.mem_of_getElem? (i := 934) (by decide +kernel)) rfl
theorem wd_936 : (.instanceMethod ⟨"LoadCyclesModel", "goesOn", "(II)I"⟩ : Cond) ∈ TB := tb_of (List.mem_of_getElem? (i := 936) (by decide +kernel)) rfl
set_option maxRecDepth 20000 in
theorem wd_937 : (.code ⟨"LoadCyclesModel", "goesOn", "(II)I"⟩ prog_9_method_24_code 7 (some .int) : Cond) ∈ TB := tb_of (List.mem_of_getElem? (i := 937) rfl) rfl
theorem wd_938 : (.methodLink "LoadCyclesModel" 191 ⟨"LoadCyclesModel", "goFrom", "(II)V"⟩ : Cond) ∈ TB := tb_of (List.mem_of_getElem? (i := 938) (by decide +kernel)) rfl
theorem wd_940 : (.instanceMethod ⟨"LoadCyclesModel", "goFrom", "(II)V"⟩ : Cond) ∈ TB := tb_of (List.mem_of_getElem? (i := 940) (by decide +kernel)) rfl
set_option maxRecDepth 20000 in
theorem wd_941 : (.code ⟨"LoadCyclesModel", "goFrom", "(II)V"⟩ prog_9_method_28_code 7 (none : Option FieldType) : Cond) ∈ TB := tb_of (List.mem_of_getElem? (i := 941) rfl) rfl
theorem wd_942 : (.methodLink "LoadCyclesModel" 181 ⟨"LoadCyclesModel", "sizeOf", "(I)I"⟩ : Cond) ∈ TB := tb_of (List.mem_of_getElem? (i := 942) (by decide +kernel)) rfl
theorem wd_943 : (.static ⟨"LoadCyclesModel", "sizeOf", "(I)I"⟩ : Cond) ∈ TB := tb_of (List.mem_of_getElem? (i := 943) (by decide +kernel)) rfl
set_option maxRecDepth 20000 in
theorem wd_944 : (.code ⟨"LoadCyclesModel", "sizeOf", "(I)I"⟩ prog_9_method_25_code 1 (some .int) : Cond) ∈ TB := tb_of (List.mem_of_getElem? (i := 944) rfl) rfl
theorem wd_945 : (.methodLink "LoadCyclesModel" 184 ⟨"LoadCyclesModel", "isBetter", "(IIII)Z"⟩ : Cond) ∈ TB := tb_of (List.mem_of_getElem? (i := 945) (by decide +kernel)) rfl
theorem wd_947 : (.instanceMethod ⟨"LoadCyclesModel", "isBetter", "(IIII)Z"⟩ : Cond) ∈ TB := tb_of (List.mem_of_getElem? (i := 947) (by decide +kernel)) rfl
set_option maxRecDepth 20000 in
theorem wd_948 : (.code ⟨"LoadCyclesModel", "isBetter", "(IIII)Z"⟩ prog_9_method_27_code 6 (some .boolean) : Cond) ∈ TB := tb_of (List.mem_of_getElem? (i := 948) rfl) rfl
theorem wd_949 : (.methodLink "LoadCyclesModel" 195 ⟨"LoadCyclesModel", "rankAll", "(I)V"⟩ : Cond) ∈ TB := tb_of (List.mem_of_getElem? (i := 949) (by decide +kernel)) rfl
theorem wd_951 : (.instanceMethod ⟨"LoadCyclesModel", "rankAll", "(I)V"⟩ : Cond) ∈ TB := tb_of (List.mem_of_getElem? (i := 951) (by decide +kernel)) rfl
set_option maxRecDepth 20000 in
theorem wd_952 : (.code ⟨"LoadCyclesModel", "rankAll", "(I)V"⟩ prog_9_method_29_code 4 (none : Option FieldType) : Cond) ∈ TB := tb_of (List.mem_of_getElem? (i := 952) rfl) rfl
theorem wd_953 : (.methodLink "LoadCyclesModel" 199 ⟨"LoadCyclesModel", "walkBack", "()V"⟩ : Cond) ∈ TB := tb_of (List.mem_of_getElem? (i := 953) (by decide +kernel)) rfl
theorem wd_955 : (.instanceMethod ⟨"LoadCyclesModel", "walkBack", "()V"⟩ : Cond) ∈ TB := tb_of (List.mem_of_getElem? (i := 955) (by decide +kernel)) rfl
set_option maxRecDepth 20000 in
theorem wd_956 : (.code ⟨"LoadCyclesModel", "walkBack", "()V"⟩ prog_9_method_31_code 4 (none : Option FieldType) : Cond) ∈ TB := tb_of (List.mem_of_getElem? (i := 956) rfl) rfl
theorem wd_957 : (.methodLink "LoadCyclesLaw" 48 ⟨"LoadCyclesModel", "rest", "(I)I"⟩ : Cond) ∈ TB := tb_of (List.mem_of_getElem? (i := 957) (by decide +kernel)) rfl
theorem wd_958 : (.instanceMethod ⟨"LoadCyclesModel", "rest", "(I)I"⟩ : Cond) ∈ TB := tb_of (List.mem_of_getElem? (i := 958) (by decide +kernel)) rfl
theorem wd_959 : (.selects "LoadCyclesModel" ⟨"LoadCyclesModel", "rest", "(I)I"⟩ ⟨"LoadCyclesModel", "rest", "(I)I"⟩ : Cond) ∈ TB := tb_of (List.mem_of_getElem? (i := 959) (by decide +kernel)) rfl
set_option maxRecDepth 20000 in
theorem wd_960 : (.code ⟨"LoadCyclesModel", "rest", "(I)I"⟩ prog_9_method_39_code 2 (some .int) : Cond) ∈ TB := tb_of (List.mem_of_getElem? (i := 960) rfl) rfl
theorem wd_961 : (.methodLink "LoadCyclesModel" 205 ⟨"LoadCyclesModel", "restOf", "(I)I"⟩ : Cond) ∈ TB := tb_of (List.mem_of_getElem? (i := 961) (by decide +kernel)) rfl
theorem wd_963 : (.instanceMethod ⟨"LoadCyclesModel", "restOf", "(I)I"⟩ : Cond) ∈ TB := tb_of (List.mem_of_getElem? (i := 963) (by decide +kernel)) rfl
set_option maxRecDepth 20000 in
theorem wd_964 : (.code ⟨"LoadCyclesModel", "restOf", "(I)I"⟩ prog_9_method_33_code 2 (some .int) : Cond) ∈ TB := tb_of (List.mem_of_getElem? (i := 964) rfl) rfl
theorem wd_965 : (.methodLink "LoadCyclesLaw" 52 ⟨"LoadCyclesModel", "best", "(I)I"⟩ : Cond) ∈ TB := tb_of (List.mem_of_getElem? (i := 965) (by decide +kernel)) rfl
theorem wd_966 : (.instanceMethod ⟨"LoadCyclesModel", "best", "(I)I"⟩ : Cond) ∈ TB := tb_of (List.mem_of_getElem? (i := 966) (by decide +kernel)) rfl
theorem wd_967 : (.selects "LoadCyclesModel" ⟨"LoadCyclesModel", "best", "(I)I"⟩ ⟨"LoadCyclesModel", "best", "(I)I"⟩ : Cond) ∈ TB := tb_of (List.mem_of_getElem? (i := 967) (by decide +kernel)) rfl
set_option maxRecDepth 20000 in
theorem wd_968 : (.code ⟨"LoadCyclesModel", "best", "(I)I"⟩ prog_9_method_40_code 2 (some .int) : Cond) ∈ TB := tb_of (List.mem_of_getElem? (i := 968) rfl) rfl
theorem wd_969 : (.methodLink "LoadCyclesModel" 214 ⟨"LoadCyclesModel", "rests", "()I"⟩ : Cond) ∈ TB := tb_of (List.mem_of_getElem? (i := 969) (by decide +kernel)) rfl
theorem wd_971 : (.instanceMethod ⟨"LoadCyclesModel", "rests", "()I"⟩ : Cond) ∈ TB := tb_of (List.mem_of_getElem? (i := 971) (by decide +kernel)) rfl
set_option maxRecDepth 20000 in
theorem wd_972 : (.code ⟨"LoadCyclesModel", "rests", "()I"⟩ prog_9_method_35_code 3 (some .int) : Cond) ∈ TB := tb_of (List.mem_of_getElem? (i := 972) rfl) rfl
theorem wd_973 : (.methodLink "LoadCyclesModel" 218 ⟨"LoadCyclesModel", "changes", "(Z)I"⟩ : Cond) ∈ TB := tb_of (List.mem_of_getElem? (i := 973) (by decide +kernel)) rfl
theorem wd_975 : (.instanceMethod ⟨"LoadCyclesModel", "changes", "(Z)I"⟩ : Cond) ∈ TB := tb_of (List.mem_of_getElem? (i := 975) (by decide +kernel)) rfl
set_option maxRecDepth 20000 in
theorem wd_976 : (.code ⟨"LoadCyclesModel", "changes", "(Z)I"⟩ prog_9_method_36_code 7 (some .int) : Cond) ∈ TB := tb_of (List.mem_of_getElem? (i := 976) rfl) rfl
theorem wd_977 : (.methodLink "LoadCyclesModel" 208 ⟨"LoadCyclesModel", "ahead", "(II)I"⟩ : Cond) ∈ TB := tb_of (List.mem_of_getElem? (i := 977) (by decide +kernel)) rfl
theorem wd_979 : (.instanceMethod ⟨"LoadCyclesModel", "ahead", "(II)I"⟩ : Cond) ∈ TB := tb_of (List.mem_of_getElem? (i := 979) (by decide +kernel)) rfl
set_option maxRecDepth 20000 in
theorem wd_980 : (.code ⟨"LoadCyclesModel", "ahead", "(II)I"⟩ prog_9_method_32_code 3 (some .int) : Cond) ∈ TB := tb_of (List.mem_of_getElem? (i := 980) rfl) rfl
theorem wd_981 : (.methodLink "LoadCyclesModel" 222 ⟨"LoadCyclesModel", "energies", "()I"⟩ : Cond) ∈ TB := tb_of (List.mem_of_getElem? (i := 981) (by decide +kernel)) rfl
theorem wd_983 : (.instanceMethod ⟨"LoadCyclesModel", "energies", "()I"⟩ : Cond) ∈ TB := tb_of (List.mem_of_getElem? (i := 983) (by decide +kernel)) rfl
set_option maxRecDepth 20000 in
theorem wd_984 : (.code ⟨"LoadCyclesModel", "energies", "()I"⟩ prog_9_method_37_code 3 (some .int) : Cond) ∈ TB := tb_of (List.mem_of_getElem? (i := 984) rfl) rfl
theorem wd_985 : (.methodLink "LoadCyclesModel" 211 ⟨"LoadCyclesModel", "energyOf", "(I)I"⟩ : Cond) ∈ TB := tb_of (List.mem_of_getElem? (i := 985) (by decide +kernel)) rfl
theorem wd_987 : (.instanceMethod ⟨"LoadCyclesModel", "energyOf", "(I)I"⟩ : Cond) ∈ TB := tb_of (List.mem_of_getElem? (i := 987) (by decide +kernel)) rfl
set_option maxRecDepth 20000 in
theorem wd_988 : (.code ⟨"LoadCyclesModel", "energyOf", "(I)I"⟩ prog_9_method_34_code 5 (some .int) : Cond) ∈ TB := tb_of (List.mem_of_getElem? (i := 988) rfl) rfl
theorem wd_989 : (.methodLink "LoadCyclesLaw" 56 ⟨"LoadCyclesModel", "energy", "(I)I"⟩ : Cond) ∈ TB := tb_of (List.mem_of_getElem? (i := 989) (by decide +kernel)) rfl
theorem wd_990 : (.instanceMethod ⟨"LoadCyclesModel", "energy", "(I)I"⟩ : Cond) ∈ TB := tb_of (List.mem_of_getElem? (i := 990) (by decide +kernel)) rfl
theorem wd_991 : (.selects "LoadCyclesModel" ⟨"LoadCyclesModel", "energy", "(I)I"⟩ ⟨"LoadCyclesModel", "energy", "(I)I"⟩ : Cond) ∈ TB := tb_of (List.mem_of_getElem? (i := 991) (by decide +kernel)) rfl
set_option maxRecDepth 20000 in
theorem wd_992 : (.code ⟨"LoadCyclesModel", "energy", "(I)I"⟩ prog_9_method_41_code 2 (some .int) : Cond) ∈ TB := tb_of (List.mem_of_getElem? (i := 992) rfl) rfl
theorem wd_993 : (.methodLink "LoadCyclesLaw" 61 ⟨"LoadCyclesModel", "day", "(IIIII)I"⟩ : Cond) ∈ TB := tb_of (List.mem_of_getElem? (i := 993) (by decide +kernel)) rfl
theorem wd_994 : (.instanceMethod ⟨"LoadCyclesModel", "day", "(IIIII)I"⟩ : Cond) ∈ TB := tb_of (List.mem_of_getElem? (i := 994) (by decide +kernel)) rfl
theorem wd_995 : (.selects "LoadCyclesModel" ⟨"LoadCyclesModel", "day", "(IIIII)I"⟩ ⟨"LoadCyclesModel", "day", "(IIIII)I"⟩ : Cond) ∈ TB := tb_of (List.mem_of_getElem? (i := 995) (by decide +kernel)) rfl
set_option maxRecDepth 20000 in
theorem wd_996 : (.code ⟨"LoadCyclesModel", "day", "(IIIII)I"⟩ prog_9_method_47_code 10 (some .int) : Cond) ∈ TB := tb_of (List.mem_of_getElem? (i := 996) rfl) rfl
theorem wd_997 : (.constantLong "LoadCyclesModel" 235 (4 : Int64) : Cond) ∈ TB := tb_of (List.mem_of_getElem? (i := 997) (by decide +kernel)) rfl
theorem wd_998 : (.constantLong "LoadCyclesModel" 237 (13 : Int64) : Cond) ∈ TB := tb_of (List.mem_of_getElem? (i := 998) (by decide +kernel)) rfl
theorem wd_999 : (.methodLink "LoadCyclesModel" 239 ⟨"LoadCyclesModel", "isPair", "(II)Z"⟩ : Cond) ∈ TB := tb_of (List.mem_of_getElem? (i := 999) (by decide +kernel)) rfl
theorem wd_1000 : (.static ⟨"LoadCyclesModel", "isPair", "(II)Z"⟩ : Cond) ∈ TB := tb_of (List.mem_of_getElem? (i := 1000) (by decide +kernel)) rfl
set_option maxRecDepth 20000 in
theorem wd_1001 : (.code ⟨"LoadCyclesModel", "isPair", "(II)Z"⟩ prog_9_method_44_code 2 (some .boolean) : Cond) ∈ TB := tb_of (List.mem_of_getElem? (i := 1001) rfl) rfl
theorem wd_1002 : (.constantLong "LoadCyclesModel" 228 (11 : Int64) : Cond) ∈ TB := tb_of (List.mem_of_getElem? (i := 1002) (by decide +kernel)) rfl
theorem wd_1003 : (.constantLong "LoadCyclesModel" 230 (30 : Int64) : Cond) ∈ TB := tb_of (List.mem_of_getElem? (i := 1003) (by decide +kernel)) rfl
theorem wd_1004 : (.methodLink "LoadCyclesModel" 242 ⟨"LoadCyclesModel", "keep", "()V"⟩ : Cond) ∈ TB := tb_of (List.mem_of_getElem? (i := 1004) (by decide +kernel)) rfl
theorem wd_1006 : (.instanceMethod ⟨"LoadCyclesModel", "keep", "()V"⟩ : Cond) ∈ TB := tb_of (List.mem_of_getElem? (i := 1006) (by decide +kernel)) rfl
set_option maxRecDepth 20000 in
theorem wd_1007 : (.code ⟨"LoadCyclesModel", "keep", "()V"⟩ prog_9_method_42_code 2 (none : Option FieldType) : Cond) ∈ TB := tb_of (List.mem_of_getElem? (i := 1007) rfl) rfl
theorem wd_1008 : (.methodLink "LoadCyclesModel" 245 ⟨"LoadCyclesModel", "goDay", "(II)I"⟩ : Cond) ∈ TB := tb_of (List.mem_of_getElem? (i := 1008) (by decide +kernel)) rfl
theorem wd_1010 : (.instanceMethod ⟨"LoadCyclesModel", "goDay", "(II)I"⟩ : Cond) ∈ TB := tb_of (List.mem_of_getElem? (i := 1010) (by decide +kernel)) rfl
set_option maxRecDepth 20000 in
theorem wd_1011 : (.code ⟨"LoadCyclesModel", "goDay", "(II)I"⟩ prog_9_method_46_code 6 (some .int) : Cond) ∈ TB := tb_of (List.mem_of_getElem? (i := 1011) rfl) rfl
theorem wd_1012 : (.methodLink "LoadCyclesModel" 232 ⟨"LoadCyclesModel", "canAct", "(II)Z"⟩ : Cond) ∈ TB := tb_of (List.mem_of_getElem? (i := 1012) (by decide +kernel)) rfl
theorem wd_1014 : (.instanceMethod ⟨"LoadCyclesModel", "canAct", "(II)Z"⟩ : Cond) ∈ TB := tb_of (List.mem_of_getElem? (i := 1014) (by decide +kernel)) rfl
set_option maxRecDepth 20000 in
theorem wd_1015 : (.code ⟨"LoadCyclesModel", "canAct", "(II)Z"⟩ prog_9_method_45_code 3 (some .boolean) : Cond) ∈ TB := tb_of (List.mem_of_getElem? (i := 1015) rfl) rfl
theorem wd_1016 : (.methodLink "LoadCyclesModel" 248 ⟨"LoadCyclesModel", "tellDay", "(I)I"⟩ : Cond) ∈ TB := tb_of (List.mem_of_getElem? (i := 1016) (by decide +kernel)) rfl
theorem wd_1018 : (.instanceMethod ⟨"LoadCyclesModel", "tellDay", "(I)I"⟩ : Cond) ∈ TB := tb_of (List.mem_of_getElem? (i := 1018) (by decide +kernel)) rfl
set_option maxRecDepth 20000 in
theorem wd_1019 : (.code ⟨"LoadCyclesModel", "tellDay", "(I)I"⟩ prog_9_method_48_code 2 (some .int) : Cond) ∈ TB := tb_of (List.mem_of_getElem? (i := 1019) rfl) rfl
theorem wd_1020 : (.methodLink "LoadCyclesModel" 251 ⟨"LoadCyclesModel", "putBack", "()V"⟩ : Cond) ∈ TB := tb_of (List.mem_of_getElem? (i := 1020) (by decide +kernel)) rfl
theorem wd_1022 : (.instanceMethod ⟨"LoadCyclesModel", "putBack", "()V"⟩ : Cond) ∈ TB := tb_of (List.mem_of_getElem? (i := 1022) (by decide +kernel)) rfl
set_option maxRecDepth 20000 in
theorem wd_1023 : (.code ⟨"LoadCyclesModel", "putBack", "()V"⟩ prog_9_method_43_code 2 (none : Option FieldType) : Cond) ∈ TB := tb_of (List.mem_of_getElem? (i := 1023) rfl) rfl
theorem wd_1024 : (.methodLink "LoadCyclesLaw" 65 ⟨"LoadCyclesModel", "jump", "(I)I"⟩ : Cond) ∈ TB := tb_of (List.mem_of_getElem? (i := 1024) (by decide +kernel)) rfl
theorem wd_1025 : (.instanceMethod ⟨"LoadCyclesModel", "jump", "(I)I"⟩ : Cond) ∈ TB := tb_of (List.mem_of_getElem? (i := 1025) (by decide +kernel)) rfl
theorem wd_1026 : (.selects "LoadCyclesModel" ⟨"LoadCyclesModel", "jump", "(I)I"⟩ ⟨"LoadCyclesModel", "jump", "(I)I"⟩ : Cond) ∈ TB := tb_of (List.mem_of_getElem? (i := 1026) (by decide +kernel)) rfl
set_option maxRecDepth 20000 in
theorem wd_1027 : (.code ⟨"LoadCyclesModel", "jump", "(I)I"⟩ prog_9_method_50_code 2 (some .int) : Cond) ∈ TB := tb_of (List.mem_of_getElem? (i := 1027) rfl) rfl
theorem wd_1028 : (.methodLink "LoadCyclesModel" 254 ⟨"LoadCyclesModel", "jumpOf", "(I)I"⟩ : Cond) ∈ TB := tb_of (List.mem_of_getElem? (i := 1028) (by decide +kernel)) rfl
theorem wd_1030 : (.instanceMethod ⟨"LoadCyclesModel", "jumpOf", "(I)I"⟩ : Cond) ∈ TB := tb_of (List.mem_of_getElem? (i := 1030) (by decide +kernel)) rfl
set_option maxRecDepth 20000 in
theorem wd_1031 : (.code ⟨"LoadCyclesModel", "jumpOf", "(I)I"⟩ prog_9_method_49_code 2 (some .int) : Cond) ∈ TB := tb_of (List.mem_of_getElem? (i := 1031) rfl) rfl
theorem wd_1032 : (.methodLink "LoadCyclesLaw" 69 ⟨"LoadCyclesModel", "ways", "(I)I"⟩ : Cond) ∈ TB := tb_of (List.mem_of_getElem? (i := 1032) (by decide +kernel)) rfl
theorem wd_1033 : (.instanceMethod ⟨"LoadCyclesModel", "ways", "(I)I"⟩ : Cond) ∈ TB := tb_of (List.mem_of_getElem? (i := 1033) (by decide +kernel)) rfl
theorem wd_1034 : (.selects "LoadCyclesModel" ⟨"LoadCyclesModel", "ways", "(I)I"⟩ ⟨"LoadCyclesModel", "ways", "(I)I"⟩ : Cond) ∈ TB := tb_of (List.mem_of_getElem? (i := 1034) (by decide +kernel)) rfl
set_option maxRecDepth 20000 in
theorem wd_1035 : (.code ⟨"LoadCyclesModel", "ways", "(I)I"⟩ prog_9_method_52_code 6 (some .int) : Cond) ∈ TB := tb_of (List.mem_of_getElem? (i := 1035) rfl) rfl
theorem wd_1036 : (.methodLink "LoadCyclesModel" 257 ⟨"LoadCyclesModel", "moreOf", "(II)I"⟩ : Cond) ∈ TB := tb_of (List.mem_of_getElem? (i := 1036) (by decide +kernel)) rfl
theorem wd_1038 : (.instanceMethod ⟨"LoadCyclesModel", "moreOf", "(II)I"⟩ : Cond) ∈ TB := tb_of (List.mem_of_getElem? (i := 1038) (by decide +kernel)) rfl
set_option maxRecDepth 20000 in
theorem wd_1039 : (.code ⟨"LoadCyclesModel", "moreOf", "(II)I"⟩ prog_9_method_51_code 5 (some .int) : Cond) ∈ TB := tb_of (List.mem_of_getElem? (i := 1039) rfl) rfl
theorem wd_1040 : (.methodLink "LoadCyclesLaw" 73 ⟨"LoadCyclesModel", "longest", "(I)I"⟩ : Cond) ∈ TB := tb_of (List.mem_of_getElem? (i := 1040) (by decide +kernel)) rfl
theorem wd_1041 : (.instanceMethod ⟨"LoadCyclesModel", "longest", "(I)I"⟩ : Cond) ∈ TB := tb_of (List.mem_of_getElem? (i := 1041) (by decide +kernel)) rfl
theorem wd_1042 : (.selects "LoadCyclesModel" ⟨"LoadCyclesModel", "longest", "(I)I"⟩ ⟨"LoadCyclesModel", "longest", "(I)I"⟩ : Cond) ∈ TB := tb_of (List.mem_of_getElem? (i := 1042) (by decide +kernel)) rfl
set_option maxRecDepth 20000 in
theorem wd_1043 : (.code ⟨"LoadCyclesModel", "longest", "(I)I"⟩ prog_9_method_53_code 5 (some .int) : Cond) ∈ TB := tb_of (List.mem_of_getElem? (i := 1043) rfl) rfl
theorem wd_1044 : (.methodLink "LoadCyclesLaw" 77 ⟨"LoadCyclesModel", "share", "(I)I"⟩ : Cond) ∈ TB := tb_of (List.mem_of_getElem? (i := 1044) (by decide +kernel)) rfl
theorem wd_1045 : (.instanceMethod ⟨"LoadCyclesModel", "share", "(I)I"⟩ : Cond) ∈ TB := tb_of (List.mem_of_getElem? (i := 1045) (by decide +kernel)) rfl
theorem wd_1046 : (.selects "LoadCyclesModel" ⟨"LoadCyclesModel", "share", "(I)I"⟩ ⟨"LoadCyclesModel", "share", "(I)I"⟩ : Cond) ∈ TB := tb_of (List.mem_of_getElem? (i := 1046) (by decide +kernel)) rfl
set_option maxRecDepth 20000 in
theorem wd_1047 : (.code ⟨"LoadCyclesModel", "share", "(I)I"⟩ prog_9_method_56_code 3 (some .int) : Cond) ∈ TB := tb_of (List.mem_of_getElem? (i := 1047) rfl) rfl
theorem wd_1048 : (.methodLink "LoadCyclesModel" 260 ⟨"LoadCyclesModel", "allValues", "()I"⟩ : Cond) ∈ TB := tb_of (List.mem_of_getElem? (i := 1048) (by decide +kernel)) rfl
theorem wd_1050 : (.instanceMethod ⟨"LoadCyclesModel", "allValues", "()I"⟩ : Cond) ∈ TB := tb_of (List.mem_of_getElem? (i := 1050) (by decide +kernel)) rfl
set_option maxRecDepth 20000 in
theorem wd_1051 : (.code ⟨"LoadCyclesModel", "allValues", "()I"⟩ prog_9_method_54_code 3 (some .int) : Cond) ∈ TB := tb_of (List.mem_of_getElem? (i := 1051) rfl) rfl
theorem wd_1052 : (.methodLink "LoadCyclesModel" 263 ⟨"LoadCyclesModel", "nearestBits", "(IIII)J"⟩ : Cond) ∈ TB := tb_of (List.mem_of_getElem? (i := 1052) (by decide +kernel)) rfl
theorem wd_1053 : (.static ⟨"LoadCyclesModel", "nearestBits", "(IIII)J"⟩ : Cond) ∈ TB := tb_of (List.mem_of_getElem? (i := 1053) (by decide +kernel)) rfl
set_option maxRecDepth 20000 in
theorem wd_1054 : (.code ⟨"LoadCyclesModel", "nearestBits", "(IIII)J"⟩ prog_9_method_55_code 13 (some .long) : Cond) ∈ TB := tb_of (List.mem_of_getElem? (i := 1054) rfl) rfl
theorem wd_1055 : (.methodLink "LoadCyclesLaw" 82 ⟨"LoadCyclesModel", "mean", "()J"⟩ : Cond) ∈ TB := tb_of (List.mem_of_getElem? (i := 1055) (by decide +kernel)) rfl
theorem wd_1056 : (.instanceMethod ⟨"LoadCyclesModel", "mean", "()J"⟩ : Cond) ∈ TB := tb_of (List.mem_of_getElem? (i := 1056) (by decide +kernel)) rfl
theorem wd_1057 : (.selects "LoadCyclesModel" ⟨"LoadCyclesModel", "mean", "()J"⟩ ⟨"LoadCyclesModel", "mean", "()J"⟩ : Cond) ∈ TB := tb_of (List.mem_of_getElem? (i := 1057) (by decide +kernel)) rfl
set_option maxRecDepth 20000 in
theorem wd_1058 : (.code ⟨"LoadCyclesModel", "mean", "()J"⟩ prog_9_method_57_code 1 (some .long) : Cond) ∈ TB := tb_of (List.mem_of_getElem? (i := 1058) rfl) rfl
theorem wd_1059 : (.constantLong "LoadCyclesModel" 83 (-9223372036854775808 : Int64) : Cond) ∈ TB := tb_of (List.mem_of_getElem? (i := 1059) (by decide +kernel)) rfl
theorem wd_1060 : (.methodLink "LoadCyclesLaw" 86 ⟨"LoadCyclesModel", "reading", "(II)I"⟩ : Cond) ∈ TB := tb_of (List.mem_of_getElem? (i := 1060) (by decide +kernel)) rfl
theorem wd_1061 : (.instanceMethod ⟨"LoadCyclesModel", "reading", "(II)I"⟩ : Cond) ∈ TB := tb_of (List.mem_of_getElem? (i := 1061) (by decide +kernel)) rfl
theorem wd_1062 : (.selects "LoadCyclesModel" ⟨"LoadCyclesModel", "reading", "(II)I"⟩ ⟨"LoadCyclesModel", "reading", "(II)I"⟩ : Cond) ∈ TB := tb_of (List.mem_of_getElem? (i := 1062) (by decide +kernel)) rfl
set_option maxRecDepth 20000 in
theorem wd_1063 : (.code ⟨"LoadCyclesModel", "reading", "(II)I"⟩ prog_9_method_58_code 3 (some .int) : Cond) ∈ TB := tb_of (List.mem_of_getElem? (i := 1063) rfl) rfl
theorem wd_1064 : (.constantLong "LoadCyclesModel" 267 (2000 : Int64) : Cond) ∈ TB := tb_of (List.mem_of_getElem? (i := 1064) (by decide +kernel)) rfl
theorem wd_1065 : (.methodLink "LoadCyclesLaw" 90 ⟨"LoadCyclesModel", "back", "(I)I"⟩ : Cond) ∈ TB := tb_of (List.mem_of_getElem? (i := 1065) (by decide +kernel)) rfl
theorem wd_1066 : (.instanceMethod ⟨"LoadCyclesModel", "back", "(I)I"⟩ : Cond) ∈ TB := tb_of (List.mem_of_getElem? (i := 1066) (by decide +kernel)) rfl
theorem wd_1067 : (.selects "LoadCyclesModel" ⟨"LoadCyclesModel", "back", "(I)I"⟩ ⟨"LoadCyclesModel", "back", "(I)I"⟩ : Cond) ∈ TB := tb_of (List.mem_of_getElem? (i := 1067) (by decide +kernel)) rfl
set_option maxRecDepth 20000 in
theorem wd_1068 : (.code ⟨"LoadCyclesModel", "back", "(I)I"⟩ prog_9_method_59_code 2 (some .int) : Cond) ∈ TB := tb_of (List.mem_of_getElem? (i := 1068) rfl) rfl
theorem wd_1069 : (.methodLink "LoadCyclesLaw" 94 ⟨"LoadCyclesModel", "kinds", "(I)I"⟩ : Cond) ∈ TB := tb_of (List.mem_of_getElem? (i := 1069) (by decide +kernel)) rfl
theorem wd_1070 : (.instanceMethod ⟨"LoadCyclesModel", "kinds", "(I)I"⟩ : Cond) ∈ TB := tb_of (List.mem_of_getElem? (i := 1070) (by decide +kernel)) rfl
theorem wd_1071 : (.selects "LoadCyclesModel" ⟨"LoadCyclesModel", "kinds", "(I)I"⟩ ⟨"LoadCyclesModel", "kinds", "(I)I"⟩ : Cond) ∈ TB := tb_of (List.mem_of_getElem? (i := 1071) (by decide +kernel)) rfl
set_option maxRecDepth 20000 in
theorem wd_1072 : (.code ⟨"LoadCyclesModel", "kinds", "(I)I"⟩ prog_9_method_61_code 5 (some .int) : Cond) ∈ TB := tb_of (List.mem_of_getElem? (i := 1072) rfl) rfl
theorem wd_1073 : (.methodLink "LoadCyclesModel" 269 ⟨"LoadCyclesModel", "areSo", "()Z"⟩ : Cond) ∈ TB := tb_of (List.mem_of_getElem? (i := 1073) (by decide +kernel)) rfl
theorem wd_1075 : (.instanceMethod ⟨"LoadCyclesModel", "areSo", "()Z"⟩ : Cond) ∈ TB := tb_of (List.mem_of_getElem? (i := 1075) (by decide +kernel)) rfl
set_option maxRecDepth 20000 in
theorem wd_1076 : (.code ⟨"LoadCyclesModel", "areSo", "()Z"⟩ prog_9_method_60_code 2 (some .boolean) : Cond) ∈ TB := tb_of (List.mem_of_getElem? (i := 1076) rfl) rfl
theorem wd_1077 : (.methodLink "LoadCyclesLaw" 98 ⟨"LoadCyclesModel", "firsts", "(I)I"⟩ : Cond) ∈ TB := tb_of (List.mem_of_getElem? (i := 1077) (by decide +kernel)) rfl
theorem wd_1078 : (.instanceMethod ⟨"LoadCyclesModel", "firsts", "(I)I"⟩ : Cond) ∈ TB := tb_of (List.mem_of_getElem? (i := 1078) (by decide +kernel)) rfl
theorem wd_1079 : (.selects "LoadCyclesModel" ⟨"LoadCyclesModel", "firsts", "(I)I"⟩ ⟨"LoadCyclesModel", "firsts", "(I)I"⟩ : Cond) ∈ TB := tb_of (List.mem_of_getElem? (i := 1079) (by decide +kernel)) rfl
set_option maxRecDepth 20000 in
theorem wd_1080 : (.code ⟨"LoadCyclesModel", "firsts", "(I)I"⟩ prog_9_method_62_code 5 (some .int) : Cond) ∈ TB := tb_of (List.mem_of_getElem? (i := 1080) rfl) rfl
theorem wd_1081 : (.methodLink "LoadCyclesLaw" 103 ⟨"LoadCyclesModel", "odds", "(II)J"⟩ : Cond) ∈ TB := tb_of (List.mem_of_getElem? (i := 1081) (by decide +kernel)) rfl
theorem wd_1082 : (.instanceMethod ⟨"LoadCyclesModel", "odds", "(II)J"⟩ : Cond) ∈ TB := tb_of (List.mem_of_getElem? (i := 1082) (by decide +kernel)) rfl
theorem wd_1083 : (.selects "LoadCyclesModel" ⟨"LoadCyclesModel", "odds", "(II)J"⟩ ⟨"LoadCyclesModel", "odds", "(II)J"⟩ : Cond) ∈ TB := tb_of (List.mem_of_getElem? (i := 1083) (by decide +kernel)) rfl
set_option maxRecDepth 20000 in
theorem wd_1084 : (.code ⟨"LoadCyclesModel", "odds", "(II)J"⟩ prog_9_method_64_code 5 (some .long) : Cond) ∈ TB := tb_of (List.mem_of_getElem? (i := 1084) rfl) rfl
theorem wd_1085 : (.methodLink "LoadCyclesModel" 273 ⟨"LoadCyclesModel", "inLeastTerms", "(III)J"⟩ : Cond) ∈ TB := tb_of (List.mem_of_getElem? (i := 1085) (by decide +kernel)) rfl
theorem wd_1086 : (.static ⟨"LoadCyclesModel", "inLeastTerms", "(III)J"⟩ : Cond) ∈ TB := tb_of (List.mem_of_getElem? (i := 1086) (by decide +kernel)) rfl
set_option maxRecDepth 20000 in
theorem wd_1087 : (.code ⟨"LoadCyclesModel", "inLeastTerms", "(III)J"⟩ prog_9_method_63_code 6 (some .long) : Cond) ∈ TB := tb_of (List.mem_of_getElem? (i := 1087) rfl) rfl
theorem wd_1088 : (.methodLink "LoadCyclesLaw" 107 ⟨"LoadCyclesModel", "sheet", "(III)I"⟩ : Cond) ∈ TB := tb_of (List.mem_of_getElem? (i := 1088) (by decide +kernel)) rfl
theorem wd_1089 : (.instanceMethod ⟨"LoadCyclesModel", "sheet", "(III)I"⟩ : Cond) ∈ TB := tb_of (List.mem_of_getElem? (i := 1089) (by decide +kernel)) rfl
theorem wd_1090 : (.selects "LoadCyclesModel" ⟨"LoadCyclesModel", "sheet", "(III)I"⟩ ⟨"LoadCyclesModel", "sheet", "(III)I"⟩ : Cond) ∈ TB := tb_of (List.mem_of_getElem? (i := 1090) (by decide +kernel)) rfl
set_option maxRecDepth 20000 in
theorem wd_1091 : (.code ⟨"LoadCyclesModel", "sheet", "(III)I"⟩ prog_9_method_65_code 5 (some .int) : Cond) ∈ TB := tb_of (List.mem_of_getElem? (i := 1091) rfl) rfl
theorem wd_1092 : (.methodLink "LoadCyclesLaw" 111 ⟨"LoadCyclesModel", "lose", "(I)I"⟩ : Cond) ∈ TB := tb_of (List.mem_of_getElem? (i := 1092) (by decide +kernel)) rfl
theorem wd_1093 : (.instanceMethod ⟨"LoadCyclesModel", "lose", "(I)I"⟩ : Cond) ∈ TB := tb_of (List.mem_of_getElem? (i := 1093) (by decide +kernel)) rfl
theorem wd_1094 : (.selects "LoadCyclesModel" ⟨"LoadCyclesModel", "lose", "(I)I"⟩ ⟨"LoadCyclesModel", "lose", "(I)I"⟩ : Cond) ∈ TB := tb_of (List.mem_of_getElem? (i := 1094) (by decide +kernel)) rfl
set_option maxRecDepth 20000 in
theorem wd_1095 : (.code ⟨"LoadCyclesModel", "lose", "(I)I"⟩ prog_9_method_66_code 3 (some .int) : Cond) ∈ TB := tb_of (List.mem_of_getElem? (i := 1095) rfl) rfl
theorem wd_1096 : (.methodLink "LoadCyclesLaw" 115 ⟨"LoadCyclesModel", "put", "(III)I"⟩ : Cond) ∈ TB := tb_of (List.mem_of_getElem? (i := 1096) (by decide +kernel)) rfl
theorem wd_1097 : (.instanceMethod ⟨"LoadCyclesModel", "put", "(III)I"⟩ : Cond) ∈ TB := tb_of (List.mem_of_getElem? (i := 1097) (by decide +kernel)) rfl
theorem wd_1098 : (.selects "LoadCyclesModel" ⟨"LoadCyclesModel", "put", "(III)I"⟩ ⟨"LoadCyclesModel", "put", "(III)I"⟩ : Cond) ∈ TB := tb_of (List.mem_of_getElem? (i := 1098) (by decide +kernel)) rfl
set_option maxRecDepth 20000 in
theorem wd_1099 : (.code ⟨"LoadCyclesModel", "put", "(III)I"⟩ prog_9_method_67_code 4 (some .int) : Cond) ∈ TB := tb_of (List.mem_of_getElem? (i := 1099) rfl) rfl
theorem wd_1100 : (.methodLink "LoadCyclesLaw" 120 ⟨"LoadCyclesModel", "cell", "(III)J"⟩ : Cond) ∈ TB := tb_of (List.mem_of_getElem? (i := 1100) (by decide +kernel)) rfl
theorem wd_1101 : (.instanceMethod ⟨"LoadCyclesModel", "cell", "(III)J"⟩ : Cond) ∈ TB := tb_of (List.mem_of_getElem? (i := 1101) (by decide +kernel)) rfl
theorem wd_1102 : (.selects "LoadCyclesModel" ⟨"LoadCyclesModel", "cell", "(III)J"⟩ ⟨"LoadCyclesModel", "cell", "(III)J"⟩ : Cond) ∈ TB := tb_of (List.mem_of_getElem? (i := 1102) (by decide +kernel)) rfl
set_option maxRecDepth 20000 in
theorem wd_1103 : (.code ⟨"LoadCyclesModel", "cell", "(III)J"⟩ prog_9_method_68_code 4 (some .long) : Cond) ∈ TB := tb_of (List.mem_of_getElem? (i := 1103) rfl) rfl
theorem wd_1104 : (.methodLink "LoadCyclesModel" 277 ⟨"LoadCyclesModel", "lost", "(I)J"⟩ : Cond) ∈ TB := tb_of (List.mem_of_getElem? (i := 1104) (by decide +kernel)) rfl
theorem wd_1106 : (.instanceMethod ⟨"LoadCyclesModel", "lost", "(I)J"⟩ : Cond) ∈ TB := tb_of (List.mem_of_getElem? (i := 1106) (by decide +kernel)) rfl
set_option maxRecDepth 20000 in
theorem wd_1107 : (.code ⟨"LoadCyclesModel", "lost", "(I)J"⟩ prog_9_method_3_code 2 (some .long) : Cond) ∈ TB := tb_of (List.mem_of_getElem? (i := 1107) rfl) rfl
theorem wd_1108 : (.methodLink "LoadCyclesLaw" 124 ⟨"LoadCyclesModel", "copy", "(IIIII)I"⟩ : Cond) ∈ TB := tb_of (List.mem_of_getElem? (i := 1108) (by decide +kernel)) rfl
theorem wd_1109 : (.instanceMethod ⟨"LoadCyclesModel", "copy", "(IIIII)I"⟩ : Cond) ∈ TB := tb_of (List.mem_of_getElem? (i := 1109) (by decide +kernel)) rfl
theorem wd_1110 : (.selects "LoadCyclesModel" ⟨"LoadCyclesModel", "copy", "(IIIII)I"⟩ ⟨"LoadCyclesModel", "copy", "(IIIII)I"⟩ : Cond) ∈ TB := tb_of (List.mem_of_getElem? (i := 1110) (by decide +kernel)) rfl
set_option maxRecDepth 20000 in
theorem wd_1111 : (.code ⟨"LoadCyclesModel", "copy", "(IIIII)I"⟩ prog_9_method_69_code 10 (some .int) : Cond) ∈ TB := tb_of (List.mem_of_getElem? (i := 1111) rfl) rfl
theorem wd_1112 : (.methodLink "LoadCyclesLaw" 128 ⟨"LoadCyclesModel", "tell", "(I)I"⟩ : Cond) ∈ TB := tb_of (List.mem_of_getElem? (i := 1112) (by decide +kernel)) rfl
theorem wd_1113 : (.instanceMethod ⟨"LoadCyclesModel", "tell", "(I)I"⟩ : Cond) ∈ TB := tb_of (List.mem_of_getElem? (i := 1113) (by decide +kernel)) rfl
theorem wd_1114 : (.selects "LoadCyclesModel" ⟨"LoadCyclesModel", "tell", "(I)I"⟩ ⟨"LoadCyclesModel", "tell", "(I)I"⟩ : Cond) ∈ TB := tb_of (List.mem_of_getElem? (i := 1114) (by decide +kernel)) rfl
set_option maxRecDepth 20000 in
theorem wd_1115 : (.code ⟨"LoadCyclesModel", "tell", "(I)I"⟩ prog_9_method_71_code 3 (some .int) : Cond) ∈ TB := tb_of (List.mem_of_getElem? (i := 1115) rfl) rfl
theorem wd_1116 : (.methodLink "LoadCyclesModel" 284 ⟨"LoadCyclesModel", "begins", "(I)V"⟩ : Cond) ∈ TB := tb_of (List.mem_of_getElem? (i := 1116) (by decide +kernel)) rfl
theorem wd_1118 : (.instanceMethod ⟨"LoadCyclesModel", "begins", "(I)V"⟩ : Cond) ∈ TB := tb_of (List.mem_of_getElem? (i := 1118) (by decide +kernel)) rfl
set_option maxRecDepth 20000 in
theorem wd_1119 : (.code ⟨"LoadCyclesModel", "begins", "(I)V"⟩ prog_9_method_70_code 2 (none : Option FieldType) : Cond) ∈ TB := tb_of (List.mem_of_getElem? (i := 1119) rfl) rfl
theorem wd_1120 : (.methodLink "LoadCyclesLaw" 132 ⟨"LoadCyclesModel", "metered", "(I)I"⟩ : Cond) ∈ TB := tb_of (List.mem_of_getElem? (i := 1120) (by decide +kernel)) rfl
theorem wd_1121 : (.instanceMethod ⟨"LoadCyclesModel", "metered", "(I)I"⟩ : Cond) ∈ TB := tb_of (List.mem_of_getElem? (i := 1121) (by decide +kernel)) rfl
theorem wd_1122 : (.selects "LoadCyclesModel" ⟨"LoadCyclesModel", "metered", "(I)I"⟩ ⟨"LoadCyclesModel", "metered", "(I)I"⟩ : Cond) ∈ TB := tb_of (List.mem_of_getElem? (i := 1122) (by decide +kernel)) rfl
set_option maxRecDepth 20000 in
theorem wd_1123 : (.code ⟨"LoadCyclesModel", "metered", "(I)I"⟩ prog_9_method_72_code 2 (some .int) : Cond) ∈ TB := tb_of (List.mem_of_getElem? (i := 1123) rfl) rfl
theorem wd_1124 : (.methodLink "LoadCyclesLaw" 136 ⟨"LoadCyclesModel", "as", "(II)I"⟩ : Cond) ∈ TB := tb_of (List.mem_of_getElem? (i := 1124) (by decide +kernel)) rfl
theorem wd_1125 : (.instanceMethod ⟨"LoadCyclesModel", "as", "(II)I"⟩ : Cond) ∈ TB := tb_of (List.mem_of_getElem? (i := 1125) (by decide +kernel)) rfl
theorem wd_1126 : (.selects "LoadCyclesModel" ⟨"LoadCyclesModel", "as", "(II)I"⟩ ⟨"LoadCyclesModel", "as", "(II)I"⟩ : Cond) ∈ TB := tb_of (List.mem_of_getElem? (i := 1126) (by decide +kernel)) rfl
set_option maxRecDepth 20000 in
theorem wd_1127 : (.code ⟨"LoadCyclesModel", "as", "(II)I"⟩ prog_9_method_73_code 3 (some .int) : Cond) ∈ TB := tb_of (List.mem_of_getElem? (i := 1127) rfl) rfl
theorem wd_1128 : (.methodLink "LoadCyclesLaw" 141 ⟨"LoadCyclesModel", "trace", "()I"⟩ : Cond) ∈ TB := tb_of (List.mem_of_getElem? (i := 1128) (by decide +kernel)) rfl
theorem wd_1129 : (.instanceMethod ⟨"LoadCyclesModel", "trace", "()I"⟩ : Cond) ∈ TB := tb_of (List.mem_of_getElem? (i := 1129) (by decide +kernel)) rfl
theorem wd_1130 : (.selects "LoadCyclesModel" ⟨"LoadCyclesModel", "trace", "()I"⟩ ⟨"LoadCyclesModel", "trace", "()I"⟩ : Cond) ∈ TB := tb_of (List.mem_of_getElem? (i := 1130) (by decide +kernel)) rfl
set_option maxRecDepth 20000 in
theorem wd_1131 : (.code ⟨"LoadCyclesModel", "trace", "()I"⟩ prog_9_method_74_code 1 (some .int) : Cond) ∈ TB := tb_of (List.mem_of_getElem? (i := 1131) rfl) rfl
theorem wd_1132 : (.methodLink "LoadCyclesLaw" 145 ⟨"LoadCyclesModel", "fault", "()I"⟩ : Cond) ∈ TB := tb_of (List.mem_of_getElem? (i := 1132) (by decide +kernel)) rfl
theorem wd_1133 : (.instanceMethod ⟨"LoadCyclesModel", "fault", "()I"⟩ : Cond) ∈ TB := tb_of (List.mem_of_getElem? (i := 1133) (by decide +kernel)) rfl
theorem wd_1134 : (.selects "LoadCyclesModel" ⟨"LoadCyclesModel", "fault", "()I"⟩ ⟨"LoadCyclesModel", "fault", "()I"⟩ : Cond) ∈ TB := tb_of (List.mem_of_getElem? (i := 1134) (by decide +kernel)) rfl
set_option maxRecDepth 20000 in
theorem wd_1135 : (.code ⟨"LoadCyclesModel", "fault", "()I"⟩ prog_9_method_75_code 1 (some .int) : Cond) ∈ TB := tb_of (List.mem_of_getElem? (i := 1135) rfl) rfl
theorem wd_1136 : (.methodLink "LoadCyclesLaw" 149 ⟨"LoadCyclesModel", "many", "(I)I"⟩ : Cond) ∈ TB := tb_of (List.mem_of_getElem? (i := 1136) (by decide +kernel)) rfl
theorem wd_1137 : (.instanceMethod ⟨"LoadCyclesModel", "many", "(I)I"⟩ : Cond) ∈ TB := tb_of (List.mem_of_getElem? (i := 1137) (by decide +kernel)) rfl
theorem wd_1138 : (.selects "LoadCyclesModel" ⟨"LoadCyclesModel", "many", "(I)I"⟩ ⟨"LoadCyclesModel", "many", "(I)I"⟩ : Cond) ∈ TB := tb_of (List.mem_of_getElem? (i := 1138) (by decide +kernel)) rfl
set_option maxRecDepth 20000 in
theorem wd_1139 : (.code ⟨"LoadCyclesModel", "many", "(I)I"⟩ prog_9_method_76_code 2 (some .int) : Cond) ∈ TB := tb_of (List.mem_of_getElem? (i := 1139) rfl) rfl
end
section
/-! ===== names: classes, fields ===== -/
def RC : Nat → String
  | 0 => "LoadCycles$Doing"
  | 1 => "LoadCycles$Guesses"
  | 2 => "LoadCycles$House"
  | 3 => "LoadCycles$Sheet"
  | 4 => "LoadCycles$TextReader"
  | 5 => "LoadCycles$Unmixer"
  | 6 => "LoadCycles"
  | _ => "LoadCyclesModel"
def TC0 : u_T := fun k => match k with
  | 0 => ("LoadCycles$Doing", "states", "[I", true)
  | 1 => ("LoadCycles$Doing", "energies", "[I", true)
  | 2 => ("LoadCycles$Doing", "allEnergies", "I", false)
  | 3 => ("LoadCycles$Doing", "allRests", "I", false)
  | 4 => ("LoadCycles$Doing", "changes", "I", false)
  | _ => ("LoadCycles$Doing", "starts", "I", false)
def TC1 : u_T := fun k => match k with
  | 0 => ("LoadCycles$Guesses", "known", "[Z", true)
  | _ => ("LoadCycles$Guesses", "energies", "[I", true)
def TC2 : u_T := fun k => match k with
  | 0 => ("LoadCycles$House", "kindOf", "[I", true)
  | 1 => ("LoadCycles$House", "levelsOf", "[I", true)
  | 2 => ("LoadCycles$House", "told", "[I", true)
  | 3 => ("LoadCycles$House", "values", "[I", true)
  | 4 => ("LoadCycles$House", "appliances", "I", false)
  | 5 => ("LoadCycles$House", "times", "I", false)
  | _ => ("LoadCycles$House", "always", "I", false)
def TC3 : u_T := fun k => match k with
  | 0 => ("LoadCycles$Sheet", "cells", "[I", true)
  | 1 => ("LoadCycles$Sheet", "lane", "I", false)
  | _ => ("LoadCycles$Sheet", "length", "I", false)
def TC4 : u_T := fun k => match k with
  | 0 => ("LoadCycles$TextReader", "house", "LLoadCycles$House;", true)
  | _ => ("LoadCycles$TextReader", "awaits", "I", false)
def TC5 : u_T := fun k => match k with
  | 0 => ("LoadCycles$Unmixer", "powers", "[I", true)
  | 1 => ("LoadCycles$Unmixer", "mixAfter", "[I", true)
  | 2 => ("LoadCycles$Unmixer", "costs", "[I", true)
  | 3 => ("LoadCycles$Unmixer", "ahead", "[I", false)
  | 4 => ("LoadCycles$Unmixer", "spare", "[I", false)
  | _ => ("LoadCycles$Unmixer", "mixes", "I", false)
def TC6 : u_T := fun k => match k with
  | 0 => ("LoadCycles", "current", "LLoadCycles$House;", true)
  | 1 => ("LoadCycles", "trial", "LLoadCycles$House;", true)
  | 2 => ("LoadCycles", "currentBest", "LLoadCycles$Doing;", true)
  | 3 => ("LoadCycles", "trialBest", "LLoadCycles$Doing;", true)
  | 4 => ("LoadCycles", "unmixer", "LLoadCycles$Unmixer;", true)
  | 5 => ("LoadCycles", "reader", "LLoadCycles$TextReader;", true)
  | 6 => ("LoadCycles", "guesses", "LLoadCycles$Guesses;", true)
  | 7 => ("LoadCycles", "sheets", "[LLoadCycles$Sheet;", true)
  | 8 => ("LoadCycles", "readingAppliances", "[I", true)
  | 9 => ("LoadCycles", "readingEnergies", "[I", true)
  | 10 => ("LoadCycles", "readings", "I", false)
  | 11 => ("LoadCycles", "bestIsKnown", "Z", false)
  | 12 => ("LoadCycles", "traceNumber", "I", false)
  | _ => ("LoadCycles", "faultNumber", "I", false)
def TC7 : u_T := fun k => match k with
  | 0 => ("LoadCyclesModel", "fault", "I", false)
  | 1 => ("LoadCyclesModel", "trace", "I", false)
  | 2 => ("LoadCyclesModel", "sorts", "[I", true)
  | 3 => ("LoadCyclesModel", "sheetLong", "[I", true)
  | 4 => ("LoadCyclesModel", "cells", "[I", true)
  | 5 => ("LoadCyclesModel", "many", "I", false)
  | 6 => ("LoadCyclesModel", "kind", "[I", true)
  | 7 => ("LoadCyclesModel", "levels", "[I", true)
  | 8 => ("LoadCyclesModel", "told", "[I", true)
  | 9 => ("LoadCyclesModel", "times", "I", false)
  | 10 => ("LoadCyclesModel", "value", "[I", true)
  | 11 => ("LoadCyclesModel", "base", "I", false)
  | 12 => ("LoadCyclesModel", "at", "I", false)
  | 13 => ("LoadCyclesModel", "readMany", "I", false)
  | 14 => ("LoadCyclesModel", "readKind", "[I", true)
  | 15 => ("LoadCyclesModel", "readLevels", "[I", true)
  | 16 => ("LoadCyclesModel", "readTold", "[I", true)
  | 17 => ("LoadCyclesModel", "isFound", "Z", false)
  | 18 => ("LoadCyclesModel", "power", "[I", true)
  | 19 => ("LoadCyclesModel", "goes", "[I", true)
  | 20 => ("LoadCyclesModel", "cost", "[I", true)
  | 21 => ("LoadCyclesModel", "rank", "[I", true)
  | 22 => ("LoadCyclesModel", "thenCost", "[I", true)
  | 23 => ("LoadCyclesModel", "thenRank", "[I", true)
  | 24 => ("LoadCyclesModel", "start", "[I", true)
  | 25 => ("LoadCyclesModel", "from", "[I", true)
  | 26 => ("LoadCyclesModel", "best", "[I", true)
  | 27 => ("LoadCyclesModel", "keptTold", "[I", true)
  | 28 => ("LoadCyclesModel", "keptValue", "[I", true)
  | 29 => ("LoadCyclesModel", "keptBase", "I", false)
  | 30 => ("LoadCyclesModel", "readings", "I", false)
  | 31 => ("LoadCyclesModel", "readOf", "[I", true)
  | _ => ("LoadCyclesModel", "readEnergy", "[I", true)
def TC : Nat → u_T
  | 0 => TC0
  | 1 => TC1
  | 2 => TC2
  | 3 => TC3
  | 4 => TC4
  | 5 => TC5
  | 6 => TC6
  | _ => TC7
def NC : Nat → Nat
  | 0 => 6
  | 1 => 2
  | 2 => 7
  | 3 => 3
  | 4 => 2
  | 5 => 6
  | 6 => 14
  | _ => 33
def yC0 : Nat → FieldType := fun k => match k with
  | 0 => .array .int
  | 1 => .array .int
  | 2 => .int
  | 3 => .int
  | 4 => .int
  | _ => .int
def yC1 : Nat → FieldType := fun k => match k with
  | 0 => .array .boolean
  | _ => .array .int
def yC2 : Nat → FieldType := fun k => match k with
  | 0 => .array .int
  | 1 => .array .int
  | 2 => .array .int
  | 3 => .array .int
  | 4 => .int
  | 5 => .int
  | _ => .int
def yC3 : Nat → FieldType := fun k => match k with
  | 0 => .array .int
  | 1 => .int
  | _ => .int
def yC4 : Nat → FieldType := fun k => match k with
  | 0 => .object "LoadCycles$House"
  | _ => .int
def yC5 : Nat → FieldType := fun k => match k with
  | 0 => .array .int
  | 1 => .array .int
  | 2 => .array .int
  | 3 => .array .int
  | 4 => .array .int
  | _ => .int
def yC6 : Nat → FieldType := fun k => match k with
  | 0 => .object "LoadCycles$House"
  | 1 => .object "LoadCycles$House"
  | 2 => .object "LoadCycles$Doing"
  | 3 => .object "LoadCycles$Doing"
  | 4 => .object "LoadCycles$Unmixer"
  | 5 => .object "LoadCycles$TextReader"
  | 6 => .object "LoadCycles$Guesses"
  | 7 => .array (.object "LoadCycles$Sheet")
  | 8 => .array .int
  | 9 => .array .int
  | 10 => .int
  | 11 => .boolean
  | 12 => .int
  | _ => .int
def yC7 : Nat → FieldType := fun k => match k with
  | 0 => .int
  | 1 => .int
  | 2 => .array .int
  | 3 => .array .int
  | 4 => .array .int
  | 5 => .int
  | 6 => .array .int
  | 7 => .array .int
  | 8 => .array .int
  | 9 => .int
  | 10 => .array .int
  | 11 => .int
  | 12 => .int
  | 13 => .int
  | 14 => .array .int
  | 15 => .array .int
  | 16 => .array .int
  | 17 => .boolean
  | 18 => .array .int
  | 19 => .array .int
  | 20 => .array .int
  | 21 => .array .int
  | 22 => .array .int
  | 23 => .array .int
  | 24 => .array .int
  | 25 => .array .int
  | 26 => .array .int
  | 27 => .array .int
  | 28 => .array .int
  | 29 => .int
  | 30 => .int
  | 31 => .array .int
  | _ => .array .int
def yC : Nat → Nat → FieldType
  | 0 => yC0
  | 1 => yC1
  | 2 => yC2
  | 3 => yC3
  | 4 => yC4
  | 5 => yC5
  | 6 => yC6
  | _ => yC7
abbrev classes : List vw_C := [(RC 0, TC 0, NC 0), (RC 1, TC 1, NC 1), (RC 2, TC 2, NC 2), (RC 3, TC 3, NC 3), (RC 4, TC 4, NC 4), (RC 5, TC 5, NC 5), (RC 6, TC 6, NC 6), (RC 7, TC 7, NC 7)]
theorem cls_at : ∀ {ci : Nat}, ci < 8 → classes[ci]? = some (RC ci, TC ci, NC ci)
  | 0, _ => rfl
  | 1, _ => rfl
  | 2, _ => rfl
  | 3, _ => rfl
  | 4, _ => rfl
  | 5, _ => rfl
  | 6, _ => rfl
  | 7, _ => rfl
  | n + 8, h => absurd h (by omega)
theorem cls_in0 : ∀ k, k < 6 → u_lay (RC 0) (TC 0) k ∈ TB
  | 0, _ => wd_142
  | 1, _ => wd_144
  | 2, _ => wd_146
  | 3, _ => wd_148
  | 4, _ => wd_150
  | 5, _ => wd_152
  | n + 6, h => absurd h (by omega)
theorem cls_in1 : ∀ k, k < 2 → u_lay (RC 1) (TC 1) k ∈ TB
  | 0, _ => wd_204
  | 1, _ => wd_206
  | n + 2, h => absurd h (by omega)
theorem cls_in2 : ∀ k, k < 7 → u_lay (RC 2) (TC 2) k ∈ TB
  | 0, _ => wd_112
  | 1, _ => wd_114
  | 2, _ => wd_116
  | 3, _ => wd_118
  | 4, _ => wd_120
  | 5, _ => wd_122
  | 6, _ => wd_124
  | n + 7, h => absurd h (by omega)
theorem cls_in3 : ∀ k, k < 3 → u_lay (RC 3) (TC 3) k ∈ TB
  | 0, _ => wd_223
  | 1, _ => wd_225
  | 2, _ => wd_227
  | n + 3, h => absurd h (by omega)
theorem cls_in4 : ∀ k, k < 2 → u_lay (RC 4) (TC 4) k ∈ TB
  | 0, _ => wd_191
  | 1, _ => wd_193
  | n + 2, h => absurd h (by omega)
theorem cls_in5 : ∀ k, k < 6 → u_lay (RC 5) (TC 5) k ∈ TB
  | 0, _ => wd_167
  | 1, _ => wd_169
  | 2, _ => wd_171
  | 3, _ => wd_173
  | 4, _ => wd_175
  | 5, _ => wd_177
  | n + 6, h => absurd h (by omega)
theorem cls_in6 : ∀ k, k < 14 → u_lay (RC 6) (TC 6) k ∈ TB
  | 0, _ => wd_244
  | 1, _ => wd_246
  | 2, _ => wd_248
  | 3, _ => wd_250
  | 4, _ => wd_252
  | 5, _ => wd_254
  | 6, _ => wd_256
  | 7, _ => wd_258
  | 8, _ => wd_260
  | 9, _ => wd_262
  | 10, _ => wd_264
  | 11, _ => wd_266
  | 12, _ => wd_268
  | 13, _ => wd_270
  | n + 14, h => absurd h (by omega)
theorem cls_in7 : ∀ k, k < 33 → u_lay (RC 7) (TC 7) k ∈ TB
  | 0, _ => wd_766
  | 1, _ => wd_768
  | 2, _ => wd_770
  | 3, _ => wd_772
  | 4, _ => wd_774
  | 5, _ => wd_776
  | 6, _ => wd_778
  | 7, _ => wd_780
  | 8, _ => wd_782
  | 9, _ => wd_784
  | 10, _ => wd_786
  | 11, _ => wd_788
  | 12, _ => wd_790
  | 13, _ => wd_792
  | 14, _ => wd_794
  | 15, _ => wd_796
  | 16, _ => wd_798
  | 17, _ => wd_800
  | 18, _ => wd_802
  | 19, _ => wd_804
  | 20, _ => wd_806
  | 21, _ => wd_808
  | 22, _ => wd_810
  | 23, _ => wd_812
  | 24, _ => wd_814
  | 25, _ => wd_816
  | 26, _ => wd_818
  | 27, _ => wd_820
  | 28, _ => wd_822
  | 29, _ => wd_824
  | 30, _ => wd_826
  | 31, _ => wd_828
  | 32, _ => wd_830
  | n + 33, h => absurd h (by omega)
theorem cls_in : ∀ {ci : Nat}, ci < 8 → ∀ w ∈ u_ws (RC ci) (TC ci) (NC ci), w ∈ TB := by
  intro ci hci w hw
  obtain ⟨k, hk, rfl⟩ := List.mem_map.mp hw
  have hk := List.mem_range.mp hk
  match ci, hci, hk with
  | 0, _, hk => exact cls_in0 k hk
  | 1, _, hk => exact cls_in1 k hk
  | 2, _, hk => exact cls_in2 k hk
  | 3, _, hk => exact cls_in3 k hk
  | 4, _, hk => exact cls_in4 k hk
  | 5, _, hk => exact cls_in5 k hk
  | 6, _, hk => exact cls_in6 k hk
  | 7, _, hk => exact cls_in7 k hk
theorem cls_ty : ∀ {ci : Nat}, ci < 8 → ∀ k, k < NC ci → parseFieldDescriptor (TC ci k).2.2.1 = some (yC ci k) := by decide +kernel
theorem cls_nm : ∀ {ci : Nat}, ci < 8 → ∀ a, a < NC ci → ∀ b, b < NC ci → a ≠ b → (TC ci a).2.1 ≠ (TC ci b).2.1 := by decide +kernel
/-! ===== the world ===== -/
abbrev Sg : Type := Nat → Nat → Int32
def s1 (σ : Sg) (c : Nat) (f : Nat → Int32) : Sg := fun d => if d = c then f else σ d
def s2 (σ : Sg) (c i : Nat) (v : Int32) : Sg := s1 σ c (upd (σ c) i v)
def kdL : List Nat := [6, 2, 8, 8, 8, 8, 2, 8, 8, 8, 8, 2, 8, 8, 8, 8, 0, 8, 8, 0, 8, 8, 5, 8, 8, 8, 8, 8, 4, 1, 9, 8, 10, 3, 8, 3, 8, 3, 8, 3, 8, 8, 8, 7, 8, 8, 8, 8, 8, 8, 8, 8, 8, 8, 8, 8, 8, 8, 8, 8, 8, 8, 8, 8, 8, 8, 8]
def lnL : List Nat := [0, 0, 4, 4, 12, 20, 0, 4, 4, 12, 20, 0, 4, 4, 12, 20, 0, 80, 4, 0, 80, 4, 0, 256, 1024, 5120, 256, 256, 0, 0, 48, 192, 4, 0, 60, 0, 60, 0, 60, 0, 60, 8, 8, 0, 4, 4, 240, 4, 4, 12, 20, 4, 4, 12, 256, 4096, 256, 256, 256, 256, 257, 5120, 20, 12, 20, 8, 8]
def kd (c : Nat) : Nat := kdL.getD c 11
def ln (c : Nat) : Nat := lnL.getD c 0
theorem kd_lt {c : Nat} (h : kd c ≠ 11) : c < 67 := by
  rcases Nat.lt_or_ge c 67 with q | q
  · exact q
  · exact absurd (show kd c = 11 by unfold kd; rw [List.getD_eq_getElem?_getD, List.getElem?_eq_none (by exact q)]; rfl) h
abbrev Yx : Type := Launch × va_G × (Nat → Prop) × (Nat → Nat) × ClassId × ClassId × ClassId
abbrev yl (Y : Yx) : Launch := Y.1
abbrev yD (Y : Yx) : va_G := Y.2.1
abbrev yA (Y : Yx) : Nat → Prop := Y.2.2.1
abbrev ya (Y : Yx) : Nat → Nat := Y.2.2.2.1
abbrev yI (Y : Yx) : ClassId := Y.2.2.2.2.1
abbrev yZ (Y : Yx) : ClassId := Y.2.2.2.2.2.1
abbrev yS (Y : Yx) : ClassId := Y.2.2.2.2.2.2
abbrev tys (Y : Yx) : List (ClassId × FieldType) := [(yI Y, .int), (yZ Y, .boolean), (yS Y, .object "LoadCycles$Sheet")]
def flds (ad : Nat → Nat) (ci c : Nat) (f : Nat → Int32) : List Value := match ci with
  | 0 => [.ref (ad (c + 1)), .ref (ad (c + 2)), .int (f 2), .int (f 3), .int (f 4), .int (f 5)]
  | 1 => [.ref (ad (c + 1)), .ref (ad (c + 2))]
  | 2 => [.ref (ad (c + 1)), .ref (ad (c + 2)), .ref (ad (c + 3)), .ref (ad (c + 4)), .int (f 4), .int (f 5), .int (f 6)]
  | 3 => [.ref (ad (c + 1)), .int (f 1), .int (f 2)]
  | 4 => [.ref (ad 11), .int (f 1)]
  | 5 => [.ref (ad (c + 1)), .ref (ad (c + 2)), .ref (ad (c + 3)), .ref (ad (f 3).toNatClampNeg), .ref (ad (f 4).toNatClampNeg), .int (f 5)]
  | 6 => [.ref (ad 1), .ref (ad 6), .ref (ad 16), .ref (ad 19), .ref (ad 22), .ref (ad 28), .ref (ad 29), .ref (ad 32), .ref (ad 41), .ref (ad 42), .int (f 10), .int (f 11), .int (f 12), .int (f 13)]
  | _ => [.int (f 0), .int (f 1), .ref (ad 44), .ref (ad 45), .ref (ad 46), .int (f 5), .ref (ad 47), .ref (ad 48), .ref (ad 49), .int (f 9), .ref (ad 50), .int (f 11), .int (f 12), .int (f 13), .ref (ad 51), .ref (ad 52), .ref (ad 53), .int (f 17), .ref (ad 54), .ref (ad 55), .ref (ad 56), .ref (ad 57), .ref (ad 58), .ref (ad 59), .ref (ad 60), .ref (ad 61), .ref (ad 62), .ref (ad 63), .ref (ad 64), .int (f 29), .int (f 30), .ref (ad 65), .ref (ad 66)]
theorem flds_len (ad : Nat → Nat) (c : Nat) (f : Nat → Int32) : ∀ {ci : Nat}, ci < 8 → (flds ad ci c f).length = NC ci
  | 0, _ => rfl
  | 1, _ => rfl
  | 2, _ => rfl
  | 3, _ => rfl
  | 4, _ => rfl
  | 5, _ => rfl
  | 6, _ => rfl
  | 7, _ => rfl
  | n + 8, h => absurd h (by omega)
def shr (ad : Nat → Nat) : Nat → Option Nat := fun k => if k < 4 then some (ad (33 + 2 * k)) else none
def ce (Y : Yx) (c : Nat) (f : Nat → Int32) : va_E := match kd c with
  | 8 => .inl (yI Y, (ln c, .inl f))
  | 9 => .inl (yZ Y, (ln c, .inl f))
  | 10 => .inl (yS Y, (4, .inr (.inr (.inr (.inr (shr (ya Y)))))))
  | ci => .inr (ci, flds (ya Y) ci c f)
def GW (Y : Yx) (σ : Sg) : va_W := (List.range 67).map (fun c => (ya Y c, ce Y c (σ c)))
theorem GW_at {Y : Yx} {σ : Sg} {c : Nat} (h : c < 67) : (GW Y σ)[c]? = some (ya Y c, ce Y c (σ c)) := by
  unfold GW
  rw [List.getElem?_map, List.getElem?_range h]
  rfl
theorem GW_none {Y : Yx} {σ : Sg} {c : Nat} (h : ¬ c < 67) : (GW Y σ)[c]? = none := List.getElem?_eq_none (by unfold GW; simp; omega)
theorem GW_set {Y : Yx} {σ : Sg} {c : Nat} {f : Nat → Int32} {x : va_E} (h : c < 67) (hx : ce Y c f = x) : (GW Y σ).set c (ya Y c, x) = GW Y (s1 σ c f) := by
  apply List.ext_getElem?
  intro i
  by_cases hi : i < 67
  · rw [GW_at hi]
    by_cases hic : c = i
    · subst hic
      rw [List.getElem?_set_self (by unfold GW; simpa using h)]
      simp [s1, hx]
    · rw [List.getElem?_set_ne hic, GW_at hi]
      simp [s1, Ne.symm hic]
  · rw [GW_none hi]
    exact List.getElem?_eq_none (by rw [List.length_set]; unfold GW; simp; omega)
def YD (Y : Yx) : Prop := (∀ i j, i < 67 → j < 67 → ya Y i = ya Y j → i = j) ∧ ∀ c, c < 67 → yA Y (ya Y c)
theorem YD.D {Y : Yx} (h : YD Y) (σ : Sg) : va_D (yA Y) (GW Y σ) := by
  refine ⟨fun i j p q hi hj e => ?_, fun k q hk => ?_⟩
  · by_cases h1 : i < 67
    · by_cases h2 : j < 67
      · rw [GW_at h1] at hi
        rw [GW_at h2] at hj
        cases hi; cases hj
        exact h.1 i j h1 h2 e
      · rw [GW_none h2] at hj; cases hj
    · rw [GW_none h1] at hi; cases hi
  · by_cases h1 : k < 67
    · rw [GW_at h1] at hk
      cases hk
      exact h.2 k h1
    · rw [GW_none h1] at hk; cases hk
theorem ce_o {Y : Yx} {c ci : Nat} {f : Nat → Int32} (h : kd c = ci) (hc : ci < 8) : ce Y c f = .inr (ci, flds (ya Y) ci c f) := by
  unfold ce
  rw [h]
  match ci, hc with

  | 0, _ => rfl
  | 1, _ => rfl
  | 2, _ => rfl
  | 3, _ => rfl
  | 4, _ => rfl
  | 5, _ => rfl
  | 6, _ => rfl
  | 7, _ => rfl
theorem ce_i {Y : Yx} {c n : Nat} {f : Nat → Int32} (h : kd c = 8 ∧ ln c = n) : ce Y c f = .inl (yI Y, (n, .inl f)) := by
  unfold ce
  rw [h.1, ← h.2]
  rfl
theorem ce_z {Y : Yx} {c n : Nat} {f : Nat → Int32} (h : kd c = 9 ∧ ln c = n) : ce Y c f = .inl (yZ Y, (n, .inl f)) := by
  unfold ce
  rw [h.1, ← h.2]
  rfl
theorem ce_s {Y : Yx} {f : Nat → Int32} : ce Y 32 f = .inl (yS Y, (4, .inr (.inr (.inr (.inr (shr (ya Y))))))) := rfl
def ia (c n : Nat) : Prop := kd c = 8 ∧ ln c = n
def za (c n : Nat) : Prop := kd c = 9 ∧ ln c = n
theorem ia.lt {c n : Nat} (h : ia c n) : c < 67 := kd_lt (by rw [h.1]; decide)
theorem za.lt {c n : Nat} (h : za c n) : c < 67 := kd_lt (by rw [h.1]; decide)
theorem kd_all {P : Nat → Prop} {k : Nat} (hk : k ≠ 11) (h : ∀ c, c < 67 → kd c = k → P c) {c : Nat} (hc : kd c = k) : P c := h c (kd_lt (by rw [hc]; exact hk)) hc
theorem kH : ∀ c, c < 67 → kd c = 2 → (kd (c + 1) = 8 ∧ ln (c + 1) = 4) ∧ (kd (c + 2) = 8 ∧ ln (c + 2) = 4) ∧ (kd (c + 3) = 8 ∧ ln (c + 3) = 12) ∧ (kd (c + 4) = 8 ∧ ln (c + 4) = 20) := by decide +kernel
theorem kDo : ∀ c, c < 67 → kd c = 0 → (kd (c + 1) = 8 ∧ ln (c + 1) = 80) ∧ (kd (c + 2) = 8 ∧ ln (c + 2) = 4) := by decide +kernel
theorem kSh : ∀ c, c < 67 → kd c = 3 → (kd (c + 1) = 8 ∧ ln (c + 1) = 60) := by decide +kernel
theorem k2_1 {c : Nat} (h : kd c = 2) : ia (c + 1) 4 := (kH c (kd_lt (by rw [h]; decide)) h).1
theorem k2_2 {c : Nat} (h : kd c = 2) : ia (c + 2) 4 := (kH c (kd_lt (by rw [h]; decide)) h).2.1
theorem k2_3 {c : Nat} (h : kd c = 2) : ia (c + 3) 12 := (kH c (kd_lt (by rw [h]; decide)) h).2.2.1
theorem k2_4 {c : Nat} (h : kd c = 2) : ia (c + 4) 20 := (kH c (kd_lt (by rw [h]; decide)) h).2.2.2
theorem k0_1 {c : Nat} (h : kd c = 0) : ia (c + 1) 80 := (kDo c (kd_lt (by rw [h]; decide)) h).1
theorem k0_2 {c : Nat} (h : kd c = 0) : ia (c + 2) 4 := (kDo c (kd_lt (by rw [h]; decide)) h).2
theorem k3_1 {c : Nat} (h : kd c = 3) : ia (c + 1) 60 := kSh c (kd_lt (by rw [h]; decide)) h
theorem kS : ∀ k, k < 4 → kd (33 + 2 * k) = 3 := by decide +kernel
/-! ===== the walk's judgement ===== -/
abbrev Bx : Type := Program × Env × Room × State × MethodId × Array Value × List Frame × Method × Code × Nat × Nat
abbrev xp (X : Bx) : Program := X.1
abbrev xe (X : Bx) : Env := X.2.1
abbrev xR (X : Bx) : Room := X.2.2.1
abbrev xs (X : Bx) : State := X.2.2.2.1
abbrev xm (X : Bx) : MethodId := X.2.2.2.2.1
abbrev xa (X : Bx) : Array Value := X.2.2.2.2.2.1
abbrev xb (X : Bx) : List Frame := X.2.2.2.2.2.2.1
abbrev xh (X : Bx) : Method := X.2.2.2.2.2.2.2.1
abbrev xc (X : Bx) : Code := X.2.2.2.2.2.2.2.2.1
abbrev xk (X : Bx) : Nat := X.2.2.2.2.2.2.2.2.2.1
abbrev xn (X : Bx) : Nat := X.2.2.2.2.2.2.2.2.2.2
abbrev WX (X : Bx) (Y : Yx) (H : Heap) (locs : List Loc) (Q : State → Prop) (g : JFrame) : Prop := W (xp X) (yl Y) (xe X) (xR X) (xs X) (xm X) (xa X) (xb X) (xh X) (xc X) H locs (xk X) (xn X) Q g
abbrev nestW : Cond := .methodLinkNest "LoadCycles$TextReader" 50 ⟨"LoadCycles", "isLevelValue", "(I)Z"⟩ "LoadCycles"
/-- what a walk of a method stands on -/
def Cx (X : Bx) (Y : Yx) (cc : ByteArray) (nL : Nat) (own : String) (F L : Nat) : Prop :=
  (xp X).tables.exec = Jvm.exec ∧ (xc X).code = cc ∧ (xc X).maxLocals = nL ∧ (xs X).vm.findClass own = some (xm X).cls ∧ (∀ w ∈ TB, w.before (xa X) (xs X) = true) ∧ va_K (yD Y) classes (tys Y) (xs X) ∧ YD Y ∧ (xh X).locks = false ∧ va_Nw nestW (xs X) ∧ (F ≤ (xR X).frames ∧ L ≤ (xR X).locals ∧ xk X ≤ (xR X).cells ∧ xn X ≤ (xR X).slots)
def St (X : Bx) (Y : Yx) (nL : Nat) (Q : State → Prop) (pc : Nat) (lv : List (Nat × Value)) (st : List Value) (σ : Sg) : Prop :=
  ∀ (H : Heap) (locs : List Loc) (ls : Array Slot), va_P (yD Y) classes (GW Y σ) H → va_S (yA Y) (xs X).heap H locs → lv_has ls nL lv → WX X Y H locs Q (F0 (xm X) pc ls st)
def GI (Y : Yx) (σ : Sg) (U : State) : Prop := va_P (yD Y) classes (GW Y σ) U.heap ∧ va_K (yD Y) classes (tys Y) U ∧ va_Nw nestW U
def GO (Y : Yx) (σ : Sg) (t : State) : Prop := va_P (yD Y) classes (GW Y σ) t.heap
abbrev rmX (F L : Nat) : Room := { frames := F, cells := 0, slots := 0, locals := L }
def MetI (Y : Yx) (y : MethodName) (cc : ByteArray) (n : Nat) (rt : FieldType) (F L : Nat) (av : List Value) (σ : Sg) (K : Int32 → Sg → Prop) : Prop :=
  Met (yl Y) y (.code y cc n (some rt) :: TB) (rmX F L) (va_Pc av (GI Y σ)) (va_Qi K (GO Y) (yA Y)) 0 0 (yA Y)
def MetL (Y : Yx) (y : MethodName) (cc : ByteArray) (n : Nat) (F L : Nat) (av : List Value) (σ : Sg) (K : Int64 → Sg → Prop) : Prop :=
  Met (yl Y) y (.code y cc n (some .long) :: TB) (rmX F L) (va_Pc av (GI Y σ)) (va_Ql K (GO Y) (yA Y)) 0 0 (yA Y)
def MetV (Y : Yx) (y : MethodName) (cc : ByteArray) (n : Nat) (F L : Nat) (av : List Value) (σ : Sg) (K : Sg → Prop) : Prop :=
  Met (yl Y) y (.code y cc n none :: TB) (rmX F L) (va_Pc av (GI Y σ)) (va_Qv K (GO Y) (yA Y)) 0 0 (yA Y)
def MetR (Y : Yx) (y : MethodName) (cc : ByteArray) (n : Nat) (rt : FieldType) (F L : Nat) (av : List Value) (σ : Sg) (K : Nat → Sg → Prop) : Prop :=
  Met (yl Y) y (.code y cc n (some rt) :: TB) (rmX F L) (va_Pc av (GI Y σ)) (va_Qr (fun u : Nat × Sg => K u.1 u.2) (fun u a t => a = ya Y u.1 ∧ GO Y u.2 t) (yA Y)) 0 0 (yA Y)
def QI (X : Bx) (Y : Yx) (K : Int32 → Sg → Prop) : State → Prop := MQ (xb X) (va_Qi K (GO Y) (yA Y)) (xa X) (xs X) (xk X) (xn X) (yA Y)
def QL (X : Bx) (Y : Yx) (K : Int64 → Sg → Prop) : State → Prop := MQ (xb X) (va_Ql K (GO Y) (yA Y)) (xa X) (xs X) (xk X) (xn X) (yA Y)
def QV (X : Bx) (Y : Yx) (K : Sg → Prop) : State → Prop := MQ (xb X) (va_Qv K (GO Y) (yA Y)) (xa X) (xs X) (xk X) (xn X) (yA Y)
def QR (X : Bx) (Y : Yx) (K : Nat → Sg → Prop) : State → Prop := MQ (xb X) (va_Qr (fun u : Nat × Sg => K u.1 u.2) (fun u a t => a = ya Y u.1 ∧ GO Y u.2 t) (yA Y)) (xa X) (xs X) (xk X) (xn X) (yA Y)

theorem met_I {Y : Yx} {y : MethodName} {cc : ByteArray} {n : Nat} {rt : FieldType} {F L : Nat} {av : List Value} {σ : Sg} {K : Int32 → Sg → Prop} (lv : List (Nat × Value)) (hY : YD Y) (hy : plainName y.cls = true) (hn : (lg_sl av).length ≤ n) (hlv : lv_args 0 av = lv)
    (h : ∀ X : Bx, Cx X Y cc n y.cls F L → (xh X).sig.returnType = (some rt) → St X Y n (QI X Y K) 0 lv [] σ) : MetI Y y cc n rt F L av σ K := by
  refine Met.ofW (cc := cc) (maxL := n) (ret := (some rt)) hy rfl ?_
  intro p e s m args below meth c s₁ B hml hv
  obtain ⟨rfl, hP, hK, hN⟩ := hv
  have hts := atoms_spec (ws := .code y cc n (some rt) :: TB) B.pre
  have hown : s.vm.findClass y.cls = some m.cls := findClass_of_methodNamed B.named
  have hl := lv_entry av (n := n) hn
  rw [lg_entry_eq]
  generalize (lg_sl av ++ List.replicate (n - (lg_sl av).length) Slot.unset).toArray = ls at hl ⊢
  rw [hlv] at hl
  exact h (p, e, rmX F L, s, m, av.toArray, below, meth, c, 0, 0) ⟨B.exec, B.bytes, hml, hown, fun w hw => hts w (List.mem_cons_of_mem _ hw), hK, hY, B.notSynchronized, hN, Nat.le_refl _, Nat.le_refl _, Nat.le_refl _, Nat.le_refl _⟩ B.returns s.heap [] ls hP va_S.rf hl
theorem met_L {Y : Yx} {y : MethodName} {cc : ByteArray} {n : Nat} {F L : Nat} {av : List Value} {σ : Sg} {K : Int64 → Sg → Prop} (lv : List (Nat × Value)) (hY : YD Y) (hy : plainName y.cls = true) (hn : (lg_sl av).length ≤ n) (hlv : lv_args 0 av = lv)
    (h : ∀ X : Bx, Cx X Y cc n y.cls F L → (xh X).sig.returnType = (some .long) → St X Y n (QL X Y K) 0 lv [] σ) : MetL Y y cc n F L av σ K := by
  refine Met.ofW (cc := cc) (maxL := n) (ret := (some .long)) hy rfl ?_
  intro p e s m args below meth c s₁ B hml hv
  obtain ⟨rfl, hP, hK, hN⟩ := hv
  have hts := atoms_spec (ws := .code y cc n (some .long) :: TB) B.pre
  have hown : s.vm.findClass y.cls = some m.cls := findClass_of_methodNamed B.named
  have hl := lv_entry av (n := n) hn
  rw [lg_entry_eq]
  generalize (lg_sl av ++ List.replicate (n - (lg_sl av).length) Slot.unset).toArray = ls at hl ⊢
  rw [hlv] at hl
  exact h (p, e, rmX F L, s, m, av.toArray, below, meth, c, 0, 0) ⟨B.exec, B.bytes, hml, hown, fun w hw => hts w (List.mem_cons_of_mem _ hw), hK, hY, B.notSynchronized, hN, Nat.le_refl _, Nat.le_refl _, Nat.le_refl _, Nat.le_refl _⟩ B.returns s.heap [] ls hP va_S.rf hl
theorem met_V {Y : Yx} {y : MethodName} {cc : ByteArray} {n : Nat} {F L : Nat} {av : List Value} {σ : Sg} {K : Sg → Prop} (lv : List (Nat × Value)) (hY : YD Y) (hy : plainName y.cls = true) (hn : (lg_sl av).length ≤ n) (hlv : lv_args 0 av = lv)
    (h : ∀ X : Bx, Cx X Y cc n y.cls F L → (xh X).sig.returnType = none → St X Y n (QV X Y K) 0 lv [] σ) : MetV Y y cc n F L av σ K := by
  refine Met.ofW (cc := cc) (maxL := n) (ret := none) hy rfl ?_
  intro p e s m args below meth c s₁ B hml hv
  obtain ⟨rfl, hP, hK, hN⟩ := hv
  have hts := atoms_spec (ws := .code y cc n none :: TB) B.pre
  have hown : s.vm.findClass y.cls = some m.cls := findClass_of_methodNamed B.named
  have hl := lv_entry av (n := n) hn
  rw [lg_entry_eq]
  generalize (lg_sl av ++ List.replicate (n - (lg_sl av).length) Slot.unset).toArray = ls at hl ⊢
  rw [hlv] at hl
  exact h (p, e, rmX F L, s, m, av.toArray, below, meth, c, 0, 0) ⟨B.exec, B.bytes, hml, hown, fun w hw => hts w (List.mem_cons_of_mem _ hw), hK, hY, B.notSynchronized, hN, Nat.le_refl _, Nat.le_refl _, Nat.le_refl _, Nat.le_refl _⟩ B.returns s.heap [] ls hP va_S.rf hl
theorem met_R {Y : Yx} {y : MethodName} {cc : ByteArray} {n : Nat} {rt : FieldType} {F L : Nat} {av : List Value} {σ : Sg} {K : Nat → Sg → Prop} (lv : List (Nat × Value)) (hY : YD Y) (hy : plainName y.cls = true) (hn : (lg_sl av).length ≤ n) (hlv : lv_args 0 av = lv)
    (h : ∀ X : Bx, Cx X Y cc n y.cls F L → (xh X).sig.returnType = (some rt) → St X Y n (QR X Y K) 0 lv [] σ) : MetR Y y cc n rt F L av σ K := by
  refine Met.ofW (cc := cc) (maxL := n) (ret := (some rt)) hy rfl ?_
  intro p e s m args below meth c s₁ B hml hv
  obtain ⟨rfl, hP, hK, hN⟩ := hv
  have hts := atoms_spec (ws := .code y cc n (some rt) :: TB) B.pre
  have hown : s.vm.findClass y.cls = some m.cls := findClass_of_methodNamed B.named
  have hl := lv_entry av (n := n) hn
  rw [lg_entry_eq]
  generalize (lg_sl av ++ List.replicate (n - (lg_sl av).length) Slot.unset).toArray = ls at hl ⊢
  rw [hlv] at hl
  exact h (p, e, rmX F L, s, m, av.toArray, below, meth, c, 0, 0) ⟨B.exec, B.bytes, hml, hown, fun w hw => hts w (List.mem_cons_of_mem _ hw), hK, hY, B.notSynchronized, hN, Nat.le_refl _, Nat.le_refl _, Nat.le_refl _, Nat.le_refl _⟩ B.returns s.heap [] ls hP va_S.rf hl
end
section
section Rows
variable {X : Bx} {Y : Yx} {cc : ByteArray} {nL : Nat} {own : String} {F L : Nat} {Q : State → Prop} {pc : Nat} {lv : List (Nat × Value)} {st : List Value} {σ : Sg}
theorem q_iadd {x y : Int32} (C : Cx X Y cc nL own F L) (hd : decode cc pc = .ok (.iadd, 1))  (h : St X Y nL Q (pc + 1) lv (.int (x + y) :: st) σ) : St X Y nL Q pc lv (.int y :: .int x :: st) σ := fun H locs ls hP hS hl => lv_iadd C.1 C.2.1 hd  (h H locs ls hP hS hl)
theorem q_isub {x y : Int32} (C : Cx X Y cc nL own F L) (hd : decode cc pc = .ok (.isub, 1))  (h : St X Y nL Q (pc + 1) lv (.int (x - y) :: st) σ) : St X Y nL Q pc lv (.int y :: .int x :: st) σ := fun H locs ls hP hS hl => lv_isub C.1 C.2.1 hd  (h H locs ls hP hS hl)
theorem q_imul {x y : Int32} (C : Cx X Y cc nL own F L) (hd : decode cc pc = .ok (.imul, 1))  (h : St X Y nL Q (pc + 1) lv (.int (x * y) :: st) σ) : St X Y nL Q pc lv (.int y :: .int x :: st) σ := fun H locs ls hP hS hl => lv_imul C.1 C.2.1 hd  (h H locs ls hP hS hl)
theorem q_iand {x y : Int32} (C : Cx X Y cc nL own F L) (hd : decode cc pc = .ok (.iand, 1))  (h : St X Y nL Q (pc + 1) lv (.int (x &&& y) :: st) σ) : St X Y nL Q pc lv (.int y :: .int x :: st) σ := fun H locs ls hP hS hl => lv_iand C.1 C.2.1 hd  (h H locs ls hP hS hl)
theorem q_ior {x y : Int32} (C : Cx X Y cc nL own F L) (hd : decode cc pc = .ok (.ior, 1))  (h : St X Y nL Q (pc + 1) lv (.int (x ||| y) :: st) σ) : St X Y nL Q pc lv (.int y :: .int x :: st) σ := fun H locs ls hP hS hl => lv_ior C.1 C.2.1 hd  (h H locs ls hP hS hl)
theorem q_ishl {x y : Int32} (C : Cx X Y cc nL own F L) (hd : decode cc pc = .ok (.ishl, 1))  (h : St X Y nL Q (pc + 1) lv (.int (x <<< (y &&& 31)) :: st) σ) : St X Y nL Q pc lv (.int y :: .int x :: st) σ := fun H locs ls hP hS hl => lv_ishl C.1 C.2.1 hd  (h H locs ls hP hS hl)
theorem q_ishr {x y : Int32} (C : Cx X Y cc nL own F L) (hd : decode cc pc = .ok (.ishr, 1))  (h : St X Y nL Q (pc + 1) lv (.int (x >>> (y &&& 31)) :: st) σ) : St X Y nL Q pc lv (.int y :: .int x :: st) σ := fun H locs ls hP hS hl => lv_ishr C.1 C.2.1 hd  (h H locs ls hP hS hl)
theorem q_iushr {x y : Int32} (C : Cx X Y cc nL own F L) (hd : decode cc pc = .ok (.iushr, 1))  (h : St X Y nL Q (pc + 1) lv (.int ((x.toUInt32 >>> (y.toUInt32 &&& Int32.toUInt32 31)).toInt32) :: st) σ) : St X Y nL Q pc lv (.int y :: .int x :: st) σ := fun H locs ls hP hS hl => lv_iushr C.1 C.2.1 hd rfl (h H locs ls hP hS hl)
theorem q_idiv {x y : Int32} (C : Cx X Y cc nL own F L) (hd : decode cc pc = .ok (.idiv, 1)) (hne : ¬ y = 0) (h : St X Y nL Q (pc + 1) lv (.int (x / y) :: st) σ) : St X Y nL Q pc lv (.int y :: .int x :: st) σ := fun H locs ls hP hS hl => lv_idiv C.1 C.2.1 hd hne (h H locs ls hP hS hl)
theorem q_irem {x y : Int32} (C : Cx X Y cc nL own F L) (hd : decode cc pc = .ok (.irem, 1)) (hne : ¬ y = 0) (h : St X Y nL Q (pc + 1) lv (.int (x - x / y * y) :: st) σ) : St X Y nL Q pc lv (.int y :: .int x :: st) σ := fun H locs ls hP hS hl => lv_irem C.1 C.2.1 hd hne (h H locs ls hP hS hl)
theorem q_ladd {x y : Int64} (C : Cx X Y cc nL own F L) (hd : decode cc pc = .ok (.ladd, 1))  (h : St X Y nL Q (pc + 1) lv (.long (x + y) :: st) σ) : St X Y nL Q pc lv (.long y :: .long x :: st) σ := fun H locs ls hP hS hl => lv_ladd C.1 C.2.1 hd  (h H locs ls hP hS hl)
theorem q_lsub {x y : Int64} (C : Cx X Y cc nL own F L) (hd : decode cc pc = .ok (.lsub, 1))  (h : St X Y nL Q (pc + 1) lv (.long (x - y) :: st) σ) : St X Y nL Q pc lv (.long y :: .long x :: st) σ := fun H locs ls hP hS hl => lv_lsub C.1 C.2.1 hd  (h H locs ls hP hS hl)
theorem q_lmul {x y : Int64} (C : Cx X Y cc nL own F L) (hd : decode cc pc = .ok (.lmul, 1))  (h : St X Y nL Q (pc + 1) lv (.long (x * y) :: st) σ) : St X Y nL Q pc lv (.long y :: .long x :: st) σ := fun H locs ls hP hS hl => lv_lmul C.1 C.2.1 hd  (h H locs ls hP hS hl)
theorem q_land {x y : Int64} (C : Cx X Y cc nL own F L) (hd : decode cc pc = .ok (.land, 1))  (h : St X Y nL Q (pc + 1) lv (.long (x &&& y) :: st) σ) : St X Y nL Q pc lv (.long y :: .long x :: st) σ := fun H locs ls hP hS hl => lv_land C.1 C.2.1 hd  (h H locs ls hP hS hl)
theorem q_ldiv {x y : Int64} (C : Cx X Y cc nL own F L) (hd : decode cc pc = .ok (.ldiv, 1)) (hne : ¬ y = 0) (h : St X Y nL Q (pc + 1) lv (.long (x / y) :: st) σ) : St X Y nL Q pc lv (.long y :: .long x :: st) σ := fun H locs ls hP hS hl => lv_ldiv C.1 C.2.1 hd hne (h H locs ls hP hS hl)
theorem q_lrem {x y : Int64} (C : Cx X Y cc nL own F L) (hd : decode cc pc = .ok (.lrem, 1)) (hne : ¬ y = 0) (h : St X Y nL Q (pc + 1) lv (.long (x - x / y * y) :: st) σ) : St X Y nL Q pc lv (.long y :: .long x :: st) σ := fun H locs ls hP hS hl => lv_lrem C.1 C.2.1 hd hne (h H locs ls hP hS hl)
theorem q_lshl {x : Int64} {y : Int32} (C : Cx X Y cc nL own F L) (hd : decode cc pc = .ok (.lshl, 1))  (h : St X Y nL Q (pc + 1) lv (.long (x <<< (y.toInt64 &&& 63)) :: st) σ) : St X Y nL Q pc lv (.int y :: .long x :: st) σ := fun H locs ls hP hS hl => lv_lshl C.1 C.2.1 hd rfl (h H locs ls hP hS hl)
theorem q_lcmp {x y : Int64} (C : Cx X Y cc nL own F L) (hd : decode cc pc = .ok (.lcmp, 1))  (h : St X Y nL Q (pc + 1) lv (.int (lg_cmp x y) :: st) σ) : St X Y nL Q pc lv (.long y :: .long x :: st) σ := fun H locs ls hP hS hl => W.lcmp C.1 C.2.1 hd  (h H locs ls hP hS hl)
theorem q_i2l {x : Int32} (C : Cx X Y cc nL own F L) (hd : decode cc pc = .ok (.i2l, 1))  (h : St X Y nL Q (pc + 1) lv (.long x.toInt64 :: st) σ) : St X Y nL Q pc lv (.int x :: st) σ := fun H locs ls hP hS hl => lv_i2l C.1 C.2.1 hd rfl (h H locs ls hP hS hl)
theorem q_l2i {x : Int64} (C : Cx X Y cc nL own F L) (hd : decode cc pc = .ok (.l2i, 1))  (h : St X Y nL Q (pc + 1) lv (.int x.toInt32 :: st) σ) : St X Y nL Q pc lv (.long x :: st) σ := fun H locs ls hP hS hl => lv_l2i C.1 C.2.1 hd rfl (h H locs ls hP hS hl)
theorem q_i2b {x : Int32} (C : Cx X Y cc nL own F L) (hd : decode cc pc = .ok (.i2b, 1))  (h : St X Y nL Q (pc + 1) lv (.int x.toInt8.toInt32 :: st) σ) : St X Y nL Q pc lv (.int x :: st) σ := fun H locs ls hP hS hl => lv_i2b C.1 C.2.1 hd rfl (h H locs ls hP hS hl)
theorem q_i2s {x : Int32} (C : Cx X Y cc nL own F L) (hd : decode cc pc = .ok (.i2s, 1))  (h : St X Y nL Q (pc + 1) lv (.int x.toInt16.toInt32 :: st) σ) : St X Y nL Q pc lv (.int x :: st) σ := fun H locs ls hP hS hl => lv_i2s C.1 C.2.1 hd rfl (h H locs ls hP hS hl)
theorem q_iconst {n : Int} {v : Int32} (C : Cx X Y cc nL own F L) (hd : decode cc pc = .ok (.iconst n, 1)) (hv : Int32.ofInt n = v) (h : St X Y nL Q (pc + 1) lv (.int v :: st) σ) : St X Y nL Q pc lv (st) σ := fun H locs ls hP hS hl => lv_iconst C.1 C.2.1 hd hv (h H locs ls hP hS hl)
theorem q_bipush {n : Int} {v : Int32} (C : Cx X Y cc nL own F L) (hd : decode cc pc = .ok (.bipush n, 2)) (hv : (Int8.ofInt n).toInt32 = v) (h : St X Y nL Q (pc + 2) lv (.int v :: st) σ) : St X Y nL Q pc lv (st) σ := fun H locs ls hP hS hl => lv_bipush C.1 C.2.1 hd hv (h H locs ls hP hS hl)
theorem q_sipush {n : Int} {v : Int32} (C : Cx X Y cc nL own F L) (hd : decode cc pc = .ok (.sipush n, 3)) (hv : (Int16.ofInt n).toInt32 = v) (h : St X Y nL Q (pc + 3) lv (.int v :: st) σ) : St X Y nL Q pc lv (st) σ := fun H locs ls hP hS hl => lv_sipush C.1 C.2.1 hd hv (h H locs ls hP hS hl)
theorem q_lconst {n : Fin 2} {v : Int64} (C : Cx X Y cc nL own F L) (hd : decode cc pc = .ok (.lconst n, 1)) (hv : Int64.ofNat (n : Nat) = v) (h : St X Y nL Q (pc + 1) lv (.long v :: st) σ) : St X Y nL Q pc lv (st) σ := fun H locs ls hP hS hl => lv_lconst C.1 C.2.1 hd hv (h H locs ls hP hS hl)
theorem q_dup {va : Value} (C : Cx X Y cc nL own F L) (hd : decode cc pc = .ok (.dup, 1)) (hva : va.category = 1) (h : St X Y nL Q (pc + 1) lv (va :: va :: st) σ) : St X Y nL Q pc lv (va :: st) σ := fun H locs ls hP hS hl => lv_dup C.1 C.2.1 hd hva (h H locs ls hP hS hl)
theorem q_dup2 {va vb : Value} (C : Cx X Y cc nL own F L) (hd : decode cc pc = .ok (.dup2, 1)) (hva : va.category = 1) (hvb : vb.category = 1) (h : St X Y nL Q (pc + 1) lv (va :: vb :: va :: vb :: st) σ) : St X Y nL Q pc lv (va :: vb :: st) σ := fun H locs ls hP hS hl => lv_dup2_11 C.1 C.2.1 hd hva hvb (h H locs ls hP hS hl)
theorem q_iload {i : Nat} {x : Int32} (C : Cx X Y cc nL own F L) (hd : decode cc pc = .ok (.iload i, 2)) (k : Nat) (hk : lv[k]? = some (i, .int x)) (h : St X Y nL Q (pc + 2) lv (.int x :: st) σ) : St X Y nL Q pc lv st σ := fun H locs ls hP hS hl => lv_iload C.1 C.2.1 hd (lv_at hl k hk) (h H locs ls hP hS hl)
theorem q_iload_n {i : Nat} {j : Fin 4} {x : Int32} (C : Cx X Y cc nL own F L) (hd : decode cc pc = .ok (.iload_n j, 1)) (hi : (j : Nat) = i) (k : Nat) (hk : lv[k]? = some (i, .int x)) (h : St X Y nL Q (pc + 1) lv (.int x :: st) σ) : St X Y nL Q pc lv st σ := fun H locs ls hP hS hl => lv_iload_n C.1 C.2.1 hd hi (lv_at hl k hk) (h H locs ls hP hS hl)
theorem q_istore {i : Nat} {x : Int32} (lv2 : List (Nat × Value)) (C : Cx X Y cc nL own F L) (hd : decode cc pc = .ok (.istore i, 2)) (hn : i < nL) (hf : (i, Value.int x) :: lv.filter (fun q => !(q.1 == i) && !(q.1 + 1 == i && q.2.category == 2)) = lv2) (h : St X Y nL Q (pc + 2) lv2 st σ) : St X Y nL Q pc lv (.int x :: st) σ := fun H locs ls hP hS hl => lv_istore C.1 C.2.1 hd hl hn hf (fun ls2 hl2 => h H locs ls2 hP hS hl2)
theorem q_istore_n {i : Nat} {j : Fin 4} {x : Int32} (lv2 : List (Nat × Value)) (C : Cx X Y cc nL own F L) (hd : decode cc pc = .ok (.istore_n j, 1)) (hi : (j : Nat) = i) (hn : i < nL) (hf : (i, Value.int x) :: lv.filter (fun q => !(q.1 == i) && !(q.1 + 1 == i && q.2.category == 2)) = lv2) (h : St X Y nL Q (pc + 1) lv2 st σ) : St X Y nL Q pc lv (.int x :: st) σ := fun H locs ls hP hS hl => lv_istore_n C.1 C.2.1 hd hi hl hn hf (fun ls2 hl2 => h H locs ls2 hP hS hl2)
theorem q_lload {i : Nat} {x : Int64} (C : Cx X Y cc nL own F L) (hd : decode cc pc = .ok (.lload i, 2)) (k : Nat) (hk : lv[k]? = some (i, .long x)) (h : St X Y nL Q (pc + 2) lv (.long x :: st) σ) : St X Y nL Q pc lv st σ := fun H locs ls hP hS hl => lv_lload C.1 C.2.1 hd (lv_at hl k hk) (h H locs ls hP hS hl)
theorem q_lload_n {i : Nat} {j : Fin 4} {x : Int64} (C : Cx X Y cc nL own F L) (hd : decode cc pc = .ok (.lload_n j, 1)) (hi : (j : Nat) = i) (k : Nat) (hk : lv[k]? = some (i, .long x)) (h : St X Y nL Q (pc + 1) lv (.long x :: st) σ) : St X Y nL Q pc lv st σ := fun H locs ls hP hS hl => lv_lload_n C.1 C.2.1 hd hi (lv_at hl k hk) (h H locs ls hP hS hl)
theorem q_lstore {i : Nat} {x : Int64} (lv2 : List (Nat × Value)) (C : Cx X Y cc nL own F L) (hd : decode cc pc = .ok (.lstore i, 2)) (hn : i + 1 < nL) (hf : (i, Value.long x) :: lv.filter (fun q => !(q.1 == i) && (!(q.1 == i + 1) && !(q.1 + 1 == i && q.2.category == 2))) = lv2) (h : St X Y nL Q (pc + 2) lv2 st σ) : St X Y nL Q pc lv (.long x :: st) σ := fun H locs ls hP hS hl => lv_lstore C.1 C.2.1 hd hl hn hf (fun ls2 hl2 => h H locs ls2 hP hS hl2)
theorem q_lstore_n {i : Nat} {j : Fin 4} {x : Int64} (lv2 : List (Nat × Value)) (C : Cx X Y cc nL own F L) (hd : decode cc pc = .ok (.lstore_n j, 1)) (hi : (j : Nat) = i) (hn : i + 1 < nL) (hf : (i, Value.long x) :: lv.filter (fun q => !(q.1 == i) && (!(q.1 == i + 1) && !(q.1 + 1 == i && q.2.category == 2))) = lv2) (h : St X Y nL Q (pc + 1) lv2 st σ) : St X Y nL Q pc lv (.long x :: st) σ := fun H locs ls hP hS hl => lv_lstore_n C.1 C.2.1 hd hi hl hn hf (fun ls2 hl2 => h H locs ls2 hP hS hl2)
theorem q_aload {i : Nat} {x : Nat} (C : Cx X Y cc nL own F L) (hd : decode cc pc = .ok (.aload i, 2)) (k : Nat) (hk : lv[k]? = some (i, .ref x)) (h : St X Y nL Q (pc + 2) lv (.ref x :: st) σ) : St X Y nL Q pc lv st σ := fun H locs ls hP hS hl => lv_aload C.1 C.2.1 hd (lv_at hl k hk) (h H locs ls hP hS hl)
theorem q_aload_n {i : Nat} {j : Fin 4} {x : Nat} (C : Cx X Y cc nL own F L) (hd : decode cc pc = .ok (.aload_n j, 1)) (hi : (j : Nat) = i) (k : Nat) (hk : lv[k]? = some (i, .ref x)) (h : St X Y nL Q (pc + 1) lv (.ref x :: st) σ) : St X Y nL Q pc lv st σ := fun H locs ls hP hS hl => lv_aload_n C.1 C.2.1 hd hi (lv_at hl k hk) (h H locs ls hP hS hl)
theorem q_astore {i : Nat} {x : Nat} (lv2 : List (Nat × Value)) (C : Cx X Y cc nL own F L) (hd : decode cc pc = .ok (.astore i, 2)) (hn : i < nL) (hf : (i, Value.ref x) :: lv.filter (fun q => !(q.1 == i) && !(q.1 + 1 == i && q.2.category == 2)) = lv2) (h : St X Y nL Q (pc + 2) lv2 st σ) : St X Y nL Q pc lv (.ref x :: st) σ := fun H locs ls hP hS hl => lv_astore C.1 C.2.1 hd hl hn hf (fun ls2 hl2 => h H locs ls2 hP hS hl2)
theorem q_astore_n {i : Nat} {j : Fin 4} {x : Nat} (lv2 : List (Nat × Value)) (C : Cx X Y cc nL own F L) (hd : decode cc pc = .ok (.astore_n j, 1)) (hi : (j : Nat) = i) (hn : i < nL) (hf : (i, Value.ref x) :: lv.filter (fun q => !(q.1 == i) && !(q.1 + 1 == i && q.2.category == 2)) = lv2) (h : St X Y nL Q (pc + 1) lv2 st σ) : St X Y nL Q pc lv (.ref x :: st) σ := fun H locs ls hP hS hl => lv_astore_n C.1 C.2.1 hd hi hl hn hf (fun ls2 hl2 => h H locs ls2 hP hS hl2)
theorem q_iinc {i : Nat} {n : Int} {x : Int32} (v : Int32) (lv2 : List (Nat × Value)) (C : Cx X Y cc nL own F L) (hd : decode cc pc = .ok (.iinc i n, 3)) (k : Nat) (hk : lv[k]? = some (i, .int x)) (hv : x + Int32.ofInt n = v) (hn : i < nL) (hf : (i, Value.int v) :: lv.filter (fun q => !(q.1 == i) && !(q.1 + 1 == i && q.2.category == 2)) = lv2) (h : St X Y nL Q (pc + 3) lv2 st σ) : St X Y nL Q pc lv st σ := fun H locs ls hP hS hl => lv_iinc C.1 C.2.1 hd hl hk hv hn hf (fun ls2 hl2 => h H locs ls2 hP hS hl2)
theorem q_sub (lv2 : List (Nat × Value)) (ks : List Nat) (hf : lv_pick lv ks = lv2) (h : St X Y nL Q pc lv2 st σ) : St X Y nL Q pc lv st σ := fun H locs ls hP hS hl => h H locs ls hP hS (lv_sub hl ks hf)
theorem q_if_eq {x : Int32} {off : Int} (tgt : Nat) (C : Cx X Y cc nL own F L) (hd : decode cc pc = .ok (.ifCond .eq off, 3)) (ht : (pc : Int) + off = (tgt : Int)) (kt : x = 0 → St X Y nL Q tgt lv st σ) (kf : ¬ x = 0 → St X Y nL Q (pc + 3) lv st σ) : St X Y nL Q pc lv (.int x :: st) σ := fun H locs ls hP hS hl => lv_if_eq C.1 C.2.1 hd ht (fun hc => kt hc H locs ls hP hS hl) (fun hc => kf hc H locs ls hP hS hl)
theorem q_if_ne {x : Int32} {off : Int} (tgt : Nat) (C : Cx X Y cc nL own F L) (hd : decode cc pc = .ok (.ifCond .ne off, 3)) (ht : (pc : Int) + off = (tgt : Int)) (kt : ¬ x = 0 → St X Y nL Q tgt lv st σ) (kf : x = 0 → St X Y nL Q (pc + 3) lv st σ) : St X Y nL Q pc lv (.int x :: st) σ := fun H locs ls hP hS hl => lv_if_ne C.1 C.2.1 hd ht (fun hc => kt hc H locs ls hP hS hl) (fun hc => kf hc H locs ls hP hS hl)
theorem q_if_lt {x : Int32} {off : Int} (tgt : Nat) (C : Cx X Y cc nL own F L) (hd : decode cc pc = .ok (.ifCond .lt off, 3)) (ht : (pc : Int) + off = (tgt : Int)) (kt : x < 0 → St X Y nL Q tgt lv st σ) (kf : ¬ x < 0 → St X Y nL Q (pc + 3) lv st σ) : St X Y nL Q pc lv (.int x :: st) σ := fun H locs ls hP hS hl => lv_if_lt C.1 C.2.1 hd ht (fun hc => kt hc H locs ls hP hS hl) (fun hc => kf hc H locs ls hP hS hl)
theorem q_if_ge {x : Int32} {off : Int} (tgt : Nat) (C : Cx X Y cc nL own F L) (hd : decode cc pc = .ok (.ifCond .ge off, 3)) (ht : (pc : Int) + off = (tgt : Int)) (kt : 0 ≤ x → St X Y nL Q tgt lv st σ) (kf : ¬ 0 ≤ x → St X Y nL Q (pc + 3) lv st σ) : St X Y nL Q pc lv (.int x :: st) σ := fun H locs ls hP hS hl => lv_if_ge C.1 C.2.1 hd ht (fun hc => kt hc H locs ls hP hS hl) (fun hc => kf hc H locs ls hP hS hl)
theorem q_if_gt {x : Int32} {off : Int} (tgt : Nat) (C : Cx X Y cc nL own F L) (hd : decode cc pc = .ok (.ifCond .gt off, 3)) (ht : (pc : Int) + off = (tgt : Int)) (kt : 0 < x → St X Y nL Q tgt lv st σ) (kf : ¬ 0 < x → St X Y nL Q (pc + 3) lv st σ) : St X Y nL Q pc lv (.int x :: st) σ := fun H locs ls hP hS hl => lv_if_gt C.1 C.2.1 hd ht (fun hc => kt hc H locs ls hP hS hl) (fun hc => kf hc H locs ls hP hS hl)
theorem q_if_le {x : Int32} {off : Int} (tgt : Nat) (C : Cx X Y cc nL own F L) (hd : decode cc pc = .ok (.ifCond .le off, 3)) (ht : (pc : Int) + off = (tgt : Int)) (kt : x ≤ 0 → St X Y nL Q tgt lv st σ) (kf : ¬ x ≤ 0 → St X Y nL Q (pc + 3) lv st σ) : St X Y nL Q pc lv (.int x :: st) σ := fun H locs ls hP hS hl => lv_if_le C.1 C.2.1 hd ht (fun hc => kt hc H locs ls hP hS hl) (fun hc => kf hc H locs ls hP hS hl)
theorem q_icmp_eq {x y : Int32} {off : Int} (tgt : Nat) (C : Cx X Y cc nL own F L) (hd : decode cc pc = .ok (.if_icmp .eq off, 3)) (ht : (pc : Int) + off = (tgt : Int)) (kt : x = y → St X Y nL Q tgt lv st σ) (kf : ¬ x = y → St X Y nL Q (pc + 3) lv st σ) : St X Y nL Q pc lv (.int y :: .int x :: st) σ := fun H locs ls hP hS hl => lv_icmp_eq C.1 C.2.1 hd ht (fun hc => kt hc H locs ls hP hS hl) (fun hc => kf hc H locs ls hP hS hl)
theorem q_icmp_ne {x y : Int32} {off : Int} (tgt : Nat) (C : Cx X Y cc nL own F L) (hd : decode cc pc = .ok (.if_icmp .ne off, 3)) (ht : (pc : Int) + off = (tgt : Int)) (kt : ¬ x = y → St X Y nL Q tgt lv st σ) (kf : x = y → St X Y nL Q (pc + 3) lv st σ) : St X Y nL Q pc lv (.int y :: .int x :: st) σ := fun H locs ls hP hS hl => lv_icmp_ne C.1 C.2.1 hd ht (fun hc => kt hc H locs ls hP hS hl) (fun hc => kf hc H locs ls hP hS hl)
theorem q_icmp_lt {x y : Int32} {off : Int} (tgt : Nat) (C : Cx X Y cc nL own F L) (hd : decode cc pc = .ok (.if_icmp .lt off, 3)) (ht : (pc : Int) + off = (tgt : Int)) (kt : x < y → St X Y nL Q tgt lv st σ) (kf : ¬ x < y → St X Y nL Q (pc + 3) lv st σ) : St X Y nL Q pc lv (.int y :: .int x :: st) σ := fun H locs ls hP hS hl => lv_icmp_lt C.1 C.2.1 hd ht (fun hc => kt hc H locs ls hP hS hl) (fun hc => kf hc H locs ls hP hS hl)
theorem q_icmp_ge {x y : Int32} {off : Int} (tgt : Nat) (C : Cx X Y cc nL own F L) (hd : decode cc pc = .ok (.if_icmp .ge off, 3)) (ht : (pc : Int) + off = (tgt : Int)) (kt : y ≤ x → St X Y nL Q tgt lv st σ) (kf : ¬ y ≤ x → St X Y nL Q (pc + 3) lv st σ) : St X Y nL Q pc lv (.int y :: .int x :: st) σ := fun H locs ls hP hS hl => lv_icmp_ge C.1 C.2.1 hd ht (fun hc => kt hc H locs ls hP hS hl) (fun hc => kf hc H locs ls hP hS hl)
theorem q_icmp_gt {x y : Int32} {off : Int} (tgt : Nat) (C : Cx X Y cc nL own F L) (hd : decode cc pc = .ok (.if_icmp .gt off, 3)) (ht : (pc : Int) + off = (tgt : Int)) (kt : y < x → St X Y nL Q tgt lv st σ) (kf : ¬ y < x → St X Y nL Q (pc + 3) lv st σ) : St X Y nL Q pc lv (.int y :: .int x :: st) σ := fun H locs ls hP hS hl => lv_icmp_gt C.1 C.2.1 hd ht (fun hc => kt hc H locs ls hP hS hl) (fun hc => kf hc H locs ls hP hS hl)
theorem q_icmp_le {x y : Int32} {off : Int} (tgt : Nat) (C : Cx X Y cc nL own F L) (hd : decode cc pc = .ok (.if_icmp .le off, 3)) (ht : (pc : Int) + off = (tgt : Int)) (kt : x ≤ y → St X Y nL Q tgt lv st σ) (kf : ¬ x ≤ y → St X Y nL Q (pc + 3) lv st σ) : St X Y nL Q pc lv (.int y :: .int x :: st) σ := fun H locs ls hP hS hl => lv_icmp_le C.1 C.2.1 hd ht (fun hc => kt hc H locs ls hP hS hl) (fun hc => kf hc H locs ls hP hS hl)
theorem q_goto {off : Int} (tgt : Nat) (C : Cx X Y cc nL own F L) (hd : decode cc pc = .ok (.goto off, 3)) (ht : (pc : Int) + off = (tgt : Int)) (h : St X Y nL Q tgt lv st σ) : St X Y nL Q pc lv st σ := fun H locs ls hP hS hl => lv_goto C.1 C.2.1 hd ht (h H locs ls hP hS hl)
theorem q_lookup {dflt : Int} {ps : Array (Int × Int)} {len : Nat} {x : Int32} {off : Int} (tgt : Nat) (C : Cx X Y cc nL own F L) (hd : decode cc pc = .ok (.lookupswitch dflt ps, len)) (hp : (ps.toList.zip (ps.toList.drop 1)).all (fun (a, next) => a.1 < next.1) = true) (ho : Op.lookupswitch.offset ps.toList dflt x.toInt = off) (ht : (pc : Int) + off = (tgt : Int)) (h : St X Y nL Q tgt lv st σ) : St X Y nL Q pc lv (.int x :: st) σ := fun H locs ls hP hS hl => lv_lookup C.1 C.2.1 hd hp ho ht (h H locs ls hP hS hl)
theorem q_tableOut {dflt lo hi : Int} {offs : Array Int} {len : Nat} {x : Int32} (tgt : Nat) (C : Cx X Y cc nL own F L) (hd : decode cc pc = .ok (.tableswitch dflt lo hi offs, len)) (hx : x.toInt < lo ∨ hi < x.toInt) (ht : (pc : Int) + dflt = (tgt : Int)) (h : St X Y nL Q tgt lv st σ) : St X Y nL Q pc lv (.int x :: st) σ := fun H locs ls hP hS hl => lv_tableOut C.1 C.2.1 hd hx ht (h H locs ls hP hS hl)
theorem q_tableIn {dflt lo hi : Int} {offs : Array Int} {len : Nat} {x : Int32} {off : Int} (tgt : Nat) (C : Cx X Y cc nL own F L) (hd : decode cc pc = .ok (.tableswitch dflt lo hi offs, len)) (h1 : ¬ x.toInt < lo) (h2 : ¬ hi < x.toInt) (ho : offs[(x.toInt - lo).toNat]? = some off) (ht : (pc : Int) + off = (tgt : Int)) (h : St X Y nL Q tgt lv st σ) : St X Y nL Q pc lv (.int x :: st) σ := fun H locs ls hP hS hl => lv_tableIn C.1 C.2.1 hd h1 h2 ho ht (h H locs ls hP hS hl)
theorem q_nmi {x : Int32} (h : ∀ y : Int32, y = x → St X Y nL Q pc lv (.int y :: st) σ) : St X Y nL Q pc lv (.int x :: st) σ := h x rfl
theorem q_nml {x : Int64} (h : ∀ y : Int64, y = x → St X Y nL Q pc lv (.long y :: st) σ) : St X Y nL Q pc lv (.long x :: st) σ := h x rfl
theorem q_ldc {index : Nat} {v : Int32} (C : Cx X Y cc nL own F L) (hw : Cond.constant own index v ∈ TB) (hd : decode cc pc = .ok (.ldc index, 2)) (h : St X Y nL Q (pc + 2) lv (.int v :: st) σ) : St X Y nL Q pc lv st σ := fun H locs ls hP hS hl => lv_ldc C.1 C.2.1 C.2.2.2.1 (C.2.2.2.2.1 _ hw) hd (h H locs ls hP hS hl)
theorem q_ldcw {index : Nat} {v : Int32} (C : Cx X Y cc nL own F L) (hw : Cond.constant own index v ∈ TB) (hd : decode cc pc = .ok (.ldc_w index, 3)) (h : St X Y nL Q (pc + 3) lv (.int v :: st) σ) : St X Y nL Q pc lv st σ := fun H locs ls hP hS hl => lv_ldcw C.1 C.2.1 C.2.2.2.1 (C.2.2.2.2.1 _ hw) hd (h H locs ls hP hS hl)
theorem q_ldc2 {index : Nat} {v : Int64} (C : Cx X Y cc nL own F L) (hw : Cond.constantLong own index v ∈ TB) (hd : decode cc pc = .ok (.ldc2_w index, 3)) (h : St X Y nL Q (pc + 3) lv (.long v :: st) σ) : St X Y nL Q pc lv st σ := fun H locs ls hP hS hl => lv_ldc2 C.1 C.2.1 C.2.2.2.1 (C.2.2.2.2.1 _ hw) hd (h H locs ls hP hS hl)
/-- a field is read -/
theorem q_get {c ci k index : Nat} {v : Value} (C : Cx X Y cc nL own F L) (hk : kd c = ci) (hci : ci < 8) (hkn : k < NC ci) (hw : Cond.fieldLink own index (TC ci k).1 (TC ci k).2.1 (TC ci k).2.2.1 ∈ TB) (hv : (flds (ya Y) ci c (σ c))[k]? = some v) (hd : decode cc pc = .ok (.getfield index, 3)) (h : St X Y nL Q (pc + 3) lv (v :: st) σ) : St X Y nL Q pc lv (.ref (ya Y c) :: st) σ := by
  intro H locs ls hP hS hl
  have hlt : c < 67 := kd_lt (by rw [hk]; omega)
  exact va_get (D := yD Y) (cl := classes) (tys := tys Y) (Ts := TB) (C := RC ci) (T := TC ci) (N := NC ci) C.1 C.2.1 C.2.2.2.2.1 (cls_in hci) C.2.2.2.1 C.2.2.2.2.2.1 hP c (by rw [GW_at hlt, ce_o hk hci]) (cls_at hci) k hkn (C.2.2.2.2.1 _ hw) (fun _ h9 => h9) hv hd (h H locs ls hP hS hl)
/-- a field is written: of ints -/
theorem q_put {c ci k index : Nat} {x : Int32} (C : Cx X Y cc nL own F L) (hk : kd c = ci) (hci : ci < 8) (hkn : k < NC ci) (hw : Cond.fieldLink own index (TC ci k).1 (TC ci k).2.1 (TC ci k).2.2.1 ∈ TB) (hfin : (TC ci k).2.2.2 = false) (hn : narrow (yC ci k) (.int x) = .int x) (hfit : fits (yC ci k) (.int x) = true) (hset : (flds (ya Y) ci c (σ c)).set k (.int x) = flds (ya Y) ci c (upd (σ c) k x)) (hd : decode cc pc = .ok (.putfield index, 3)) (h : St X Y nL Q (pc + 3) lv st (s2 σ c k x)) : St X Y nL Q pc lv (.int x :: .ref (ya Y c) :: st) σ := by
  intro H locs ls hP hS hl
  have hlt : c < 67 := kd_lt (by rw [hk]; omega)
  refine va_put (D := yD Y) (cl := classes) (tys := tys Y) (Ts := TB) (A := yA Y) (H0 := (xs X).heap) (C := RC ci) (T := TC ci) (N := NC ci) (ty := yC ci k) C.1 C.2.1 C.2.2.2.2.1 (cls_in hci) (yC ci) (cls_ty hci) (cls_nm hci) C.2.2.2.1 C.2.2.2.2.2.1 hP (C.2.2.2.2.2.2.1.D σ) hS c (by rw [GW_at hlt, ce_o hk hci]) (cls_at hci) k hkn (C.2.2.2.2.1 _ hw) (fun _ h9 => h9) hfin (cls_ty hci k hkn) hn hfit (by rw [flds_len _ _ _ hci]; exact hkn) hd (fun H1 locs1 hP1 hD1 hS1 => ?_)
  rw [hset, GW_set (f := upd (σ c) k x) hlt (ce_o hk hci)] at hP1
  exact h H1 locs1 ls hP1 hS1 hl
/-- a field of a row that is put anew is written (ahead, spare) -/
theorem q_putR {c ci k index d : Nat} {ty : FieldType} (C : Cx X Y cc nL own F L) (hk : kd c = ci) (hci : ci < 8) (hkn : k < NC ci) (hw : Cond.fieldLink own index (TC ci k).1 (TC ci k).2.1 (TC ci k).2.2.1 ∈ TB) (hfin : (TC ci k).2.2.2 = false) (hy : yC ci k = .array ty) (hd67 : d < 67) (hset : (flds (ya Y) ci c (σ c)).set k (.ref (ya Y d)) = flds (ya Y) ci c (upd (σ c) k (nI d))) (hd : decode cc pc = .ok (.putfield index, 3)) (h : St X Y nL Q (pc + 3) lv st (s2 σ c k (nI d))) : St X Y nL Q pc lv (.ref (ya Y d) :: .ref (ya Y c) :: st) σ := by
  intro H locs ls hP hS hl
  have hlt : c < 67 := kd_lt (by rw [hk]; omega)
  refine va_put (D := yD Y) (cl := classes) (tys := tys Y) (Ts := TB) (A := yA Y) (H0 := (xs X).heap) (C := RC ci) (T := TC ci) (N := NC ci) (ty := yC ci k) C.1 C.2.1 C.2.2.2.2.1 (cls_in hci) (yC ci) (cls_ty hci) (cls_nm hci) C.2.2.2.1 C.2.2.2.2.2.1 hP (C.2.2.2.2.2.2.1.D σ) hS c (by rw [GW_at hlt, ce_o hk hci]) (cls_at hci) k hkn (C.2.2.2.2.1 _ hw) (fun _ h9 => h9) hfin (cls_ty hci k hkn) (by rw [hy]; rfl) (by rw [hy]; rfl) (by rw [flds_len _ _ _ hci]; exact hkn) hd (fun H1 locs1 hP1 hD1 hS1 => ?_)
  rw [hset, GW_set (f := upd (σ c) k (nI d)) hlt (ce_o hk hci)] at hP1
  exact h H1 locs1 ls hP1 hS1 hl
theorem q_iald {c n : Nat} {i : Int32} (C : Cx X Y cc nL own F L) (ha : ia c n) (hin : vp_in i n) (hd : decode cc pc = .ok (.iaload, 1)) (h : St X Y nL Q (pc + 1) lv (.int (σ c i.toNatClampNeg) :: st) σ) : St X Y nL Q pc lv (.int i :: .ref (ya Y c) :: st) σ := fun H locs ls hP hS hl =>
  va_iald (D := yD Y) (cl := classes) (tys := tys Y) C.1 C.2.1 C.2.2.2.2.2.1 hP c 0 (by rw [GW_at ha.lt, ce_i ha]) rfl hin hd (h H locs ls hP hS hl)
theorem q_zald {c n : Nat} {i : Int32} (C : Cx X Y cc nL own F L) (ha : za c n) (hin : vp_in i n) (hd : decode cc pc = .ok (.baload, 1)) (h : St X Y nL Q (pc + 1) lv (.int (σ c i.toNatClampNeg) :: st) σ) : St X Y nL Q pc lv (.int i :: .ref (ya Y c) :: st) σ := fun H locs ls hP hS hl =>
  va_zald (D := yD Y) (cl := classes) (tys := tys Y) C.1 C.2.1 C.2.2.2.2.2.1 hP c 1 (by rw [GW_at ha.lt, ce_z ha]) rfl hin hd (h H locs ls hP hS hl)
theorem q_aald {i : Int32} (C : Cx X Y cc nL own F L) (hin : vp_in i 4) (hd : decode cc pc = .ok (.aaload, 1)) (h : St X Y nL Q (pc + 1) lv (.ref (ya Y (33 + 2 * i.toNatClampNeg)) :: st) σ) : St X Y nL Q pc lv (.int i :: .ref (ya Y 32) :: st) σ := by
  intro H locs ls hP hS hl
  refine va_aldq (D := yD Y) (cl := classes) (tys := tys Y) (n := 4) (f := shr (ya Y)) (cA := yS Y) (C := "LoadCycles$Sheet") C.1 C.2.1 C.2.2.2.2.2.1 hP 32 2 (by rw [GW_at (by decide), ce_s]) rfl hin hd ?_
  have e : shr (ya Y) i.toNatClampNeg = some (ya Y (33 + 2 * i.toNatClampNeg)) := if_pos (by
    rcases Nat.lt_or_ge i.toNatClampNeg 4 with q | q
    · exact q
    · exact absurd (Or.inr q) hin)
  rw [e]
  exact h H locs ls hP hS hl
theorem q_alenI {c n : Nat} (v : Int32) (C : Cx X Y cc nL own F L) (ha : ia c n) (hv : Int32.ofNat n = v) (hd : decode cc pc = .ok (.arraylength, 1)) (h : St X Y nL Q (pc + 1) lv (.int v :: st) σ) : St X Y nL Q pc lv (.ref (ya Y c) :: st) σ := fun H locs ls hP hS hl =>
  va_alen (D := yD Y) (cl := classes) (tys := tys Y) C.1 C.2.1 C.2.2.2.2.2.1 hP c 0 (by rw [GW_at ha.lt, ce_i ha]) rfl hv hd (h H locs ls hP hS hl)
theorem q_alenZ {c n : Nat} (v : Int32) (C : Cx X Y cc nL own F L) (ha : za c n) (hv : Int32.ofNat n = v) (hd : decode cc pc = .ok (.arraylength, 1)) (h : St X Y nL Q (pc + 1) lv (.int v :: st) σ) : St X Y nL Q pc lv (.ref (ya Y c) :: st) σ := fun H locs ls hP hS hl =>
  va_alen (D := yD Y) (cl := classes) (tys := tys Y) C.1 C.2.1 C.2.2.2.2.2.1 hP c 1 (by rw [GW_at ha.lt, ce_z ha]) rfl hv hd (h H locs ls hP hS hl)
theorem q_iast {c n : Nat} {i x : Int32} (C : Cx X Y cc nL own F L) (ha : ia c n) (hin : vp_in i n) (hd : decode cc pc = .ok (.iastore, 1)) (h : St X Y nL Q (pc + 1) lv st (s2 σ c i.toNatClampNeg x)) : St X Y nL Q pc lv (.int x :: .int i :: .ref (ya Y c) :: st) σ := by
  intro H locs ls hP hS hl
  refine va_iast (D := yD Y) (cl := classes) (tys := tys Y) (A := yA Y) (H0 := (xs X).heap) C.1 C.2.1 C.2.2.2.2.2.1 hP (C.2.2.2.2.2.2.1.D σ) hS c 0 (by rw [GW_at ha.lt, ce_i ha]) rfl hin hd (fun H1 locs1 hP1 hD1 hS1 => ?_)
  rw [GW_set (f := upd (σ c) i.toNatClampNeg x) ha.lt (ce_i ha)] at hP1
  exact h H1 locs1 ls hP1 hS1 hl
theorem q_zast {c n : Nat} {i x : Int32} (C : Cx X Y cc nL own F L) (ha : za c n) (hin : vp_in i n) (hx : vp_nar .boolean x = x) (hd : decode cc pc = .ok (.bastore, 1)) (h : St X Y nL Q (pc + 1) lv st (s2 σ c i.toNatClampNeg x)) : St X Y nL Q pc lv (.int x :: .int i :: .ref (ya Y c) :: st) σ := by
  intro H locs ls hP hS hl
  refine va_zast (D := yD Y) (cl := classes) (tys := tys Y) (A := yA Y) (H0 := (xs X).heap) C.1 C.2.1 C.2.2.2.2.2.1 hP (C.2.2.2.2.2.2.1.D σ) hS c 1 (by rw [GW_at ha.lt, ce_z ha]) rfl hin hd (fun H1 locs1 hP1 hD1 hS1 => ?_)
  rw [hx, GW_set (f := upd (σ c) i.toNatClampNeg x) ha.lt (ce_z ha)] at hP1
  exact h H1 locs1 ls hP1 hS1 hl
/-- what System.arraycopy asks of ints -/
def cpk (sp dp n : Int32) (n0 n1 : Nat) : Prop := ¬ sp < 0 ∧ ¬ dp < 0 ∧ ¬ n < 0 ∧ sp.toNatClampNeg + n.toNatClampNeg ≤ n0 ∧ dp.toNatClampNeg + n.toNatClampNeg ≤ n1
theorem q_copy {c0 c1 n0 n1 index : Nat} {sp dp n : Int32} (C : Cx X Y cc nL own F L) (ha0 : ia c0 n0) (ha1 : ia c1 n1) (hc : cpk sp dp n n0 n1) (hw : Cond.methodLink own index arraycopyName ∈ TB) (hw1 : Cond.native arraycopyName ∈ TB) (hw2 : Cond.static arraycopyName ∈ TB) (hw3 : Cond.initialized "java/lang/System" ∈ TB) (hF : 1 ≤ F) (hL : (st.map fun v => v.category).sum + (nativeFrameWords "java/lang/System" "arraycopy" 5 + 11) ≤ L) (hd : decode cc pc = .ok (.invokestatic index, 3)) (h : St X Y nL Q (pc + 3) lv st (s1 σ c1 (va_cpy (σ c0) (σ c1) sp.toNatClampNeg dp.toNatClampNeg n.toNatClampNeg))) : St X Y nL Q pc lv (.int n :: .int dp :: .ref (ya Y c1) :: .int sp :: .ref (ya Y c0) :: st) σ := by
  intro H locs ls hP hS hl
  refine va_copyi (D := yD Y) (cl := classes) (tys := tys Y) (A := yA Y) (H0 := (xs X).heap) (ty := .int) C.1 C.2.1 (by rw [C.2.2.1]; exact hl.1.symm) C.2.2.2.1 (C.2.2.2.2.1 _ hw) (C.2.2.2.2.1 _ hw1) (C.2.2.2.2.1 _ hw2) (C.2.2.2.2.1 _ hw3) C.2.2.2.2.2.1 hP (C.2.2.2.2.2.2.1.D σ) hS c0 c1 0 0 (by rw [GW_at ha0.lt, ce_i ha0]) (by rw [GW_at ha1.lt, ce_i ha1]) rfl rfl rfl hc.1 hc.2.1 hc.2.2.1 hc.2.2.2.1 hc.2.2.2.2 (fun _ _ => rfl) (Nat.le_trans hF C.2.2.2.2.2.2.2.2.2.1) (Nat.le_trans hL C.2.2.2.2.2.2.2.2.2.2.1) hd (fun H1 locs1 hP1 hD1 hS1 => ?_)
  rw [GW_set (f := va_cpy (σ c0) (σ c1) sp.toNatClampNeg dp.toNatClampNeg n.toNatClampNeg) ha1.lt (ce_i ha1)] at hP1
  exact h H1 locs1 ls hP1 hS1 hl
/-! returns -/
theorem q_iret {K : Int32 → Sg → Prop} {x : Int32} (C : Cx X Y cc nL own F L) (hr : (xh X).sig.returnType = some .int) (hd : decode cc pc = .ok (.ireturn, 1)) (h : K x σ) : St X Y nL (QI X Y K) pc lv [.int x] σ := fun H locs ls hP hS hl =>
  W.iret (v := x) C.1 C.2.1 hr (fun t ht hW => ⟨⟨x, σ, rfl, h, by unfold GO; rw [ht]; exact hP⟩, hS.F ht⟩) hS.2.2 hd C.2.2.2.2.2.2.2.1
def bz (x : Int32) : Prop := narrow .boolean (.int x) = .int x
theorem bz0 : bz 0 := rfl
theorem bz1 : bz 1 := rfl
theorem q_zret {K : Int32 → Sg → Prop} {x : Int32} (C : Cx X Y cc nL own F L) (hr : (xh X).sig.returnType = some .boolean) (hd : decode cc pc = .ok (.ireturn, 1)) (hz : bz x) (h : K x σ) : St X Y nL (QI X Y K) pc lv [.int x] σ := fun H locs ls hP hS hl =>
  W.zret (v := x) C.1 C.2.1 hr hz (fun t ht hW => ⟨⟨x, σ, rfl, h, by unfold GO; rw [ht]; exact hP⟩, hS.F ht⟩) hS.2.2 hd C.2.2.2.2.2.2.2.1
theorem q_lret {K : Int64 → Sg → Prop} {x : Int64} (C : Cx X Y cc nL own F L) (hr : (xh X).sig.returnType = some .long) (hd : decode cc pc = .ok (.lreturn, 1)) (h : K x σ) : St X Y nL (QL X Y K) pc lv [.long x] σ := fun H locs ls hP hS hl =>
  W.lret (v := x) C.1 C.2.1 hr (fun t ht hW => ⟨⟨x, σ, rfl, h, by unfold GO; rw [ht]; exact hP⟩, hS.F ht⟩) hS.2.2 hd C.2.2.2.2.2.2.2.1
theorem q_vret {K : Sg → Prop} (C : Cx X Y cc nL own F L) (hr : (xh X).sig.returnType = none) (hd : decode cc pc = .ok (.return_, 1)) (h : K σ) : St X Y nL (QV X Y K) pc lv [] σ := fun H locs ls hP hS hl =>
  W.vret C.1 C.2.1 hr (fun t ht hW => ⟨⟨σ, rfl, h, by unfold GO; rw [ht]; exact hP⟩, hS.F ht⟩) hS.2.2 hd C.2.2.2.2.2.2.2.1
theorem q_aret {K : Nat → Sg → Prop} {d : Nat} {cn : String} (C : Cx X Y cc nL own F L) (hr : (xh X).sig.returnType = some (.object cn)) (hd : decode cc pc = .ok (.areturn, 1)) (h : K d σ) : St X Y nL (QR X Y K) pc lv [.ref (ya Y d)] σ := fun H locs ls hP hS hl =>
  W.aret C.1 C.2.1 hr (Or.inl ⟨_, rfl⟩) (Or.inr ⟨_, rfl⟩) (fun t ht hW => ⟨⟨(d, σ), ya Y d, rfl, h, rfl, by unfold GO; rw [ht]; exact hP⟩, hS.F ht⟩) hS.2.2 hd C.2.2.2.2.2.2.2.1
/-! calls -/
/-- what the tables say of a method that is called: an instance method, a static one -/
def miV (y : MethodName) (b : ByteArray) (n : Nat) (rt : Option FieldType) (np : Nat) : Prop := Cond.instanceMethod y ∈ TB ∧ Cond.selects y.cls y y ∈ TB ∧ Cond.initialized y.cls ∈ TB ∧ Cond.code y b n rt ∈ TB ∧ y.cls ≠ "java/lang/invoke/MethodHandle" ∧ y.cls ≠ "java/lang/invoke/VarHandle" ∧ (parseMethodDescriptor y.desc).map (fun d => d.parameters.length) = some np
def miS (y : MethodName) (b : ByteArray) (n : Nat) (rt : Option FieldType) (np : Nat) : Prop := Cond.static y ∈ TB ∧ Cond.initialized y.cls ∈ TB ∧ Cond.code y b n rt ∈ TB ∧ y.cls ≠ "java/lang/invoke/MethodHandle" ∧ y.cls ≠ "java/lang/invoke/VarHandle" ∧ (parseMethodDescriptor y.desc).map (fun d => d.parameters.length) = some np
theorem gd_code {y : MethodName} {b : ByteArray} {n : Nat} {rt : Option FieldType} (h : Cond.code y b n rt ∈ TB) : GoodIn TB (Cond.code y b n rt :: TB) := by
  intro w hw
  rcases List.mem_cons.mp hw with rfl | hw
  · exact tb_goodIn _ h
  · exact tb_goodIn _ hw
theorem gd_V {y : MethodName} {b : ByteArray} {n np index : Nat} {rt : Option FieldType} (h : miV y b n rt np) (hl : Cond.methodLink own index y ∈ TB) : GoodIn TB (wsV own index y.cls y (Cond.code y b n rt :: TB)) := by
  intro w hw
  unfold wsV at hw
  rcases List.mem_append.mp hw with hw | hw
  · simp only [List.mem_cons, List.not_mem_nil, or_false] at hw
    rcases hw with rfl | rfl | rfl | rfl
    · exact tb_goodIn _ hl
    · exact tb_goodIn _ h.1
    · exact tb_goodIn _ h.2.1
    · exact tb_goodIn _ h.2.2.1
  · exact gd_code h.2.2.2.1 w hw
theorem GI_blind {av : List Value} {τ : Sg} : FrameBlind (va_Pc av (GI Y τ)) := fun a U g mk q => by
  obtain ⟨q0, qP, qK, qN⟩ := q
  exact ⟨q0, qP, va_K.moved (u := U) (U := U.calling g mk a) (Vm.Alike.refl U.vm) qK, va_Nw.same rfl (u := U) (U := U.calling g mk a) rfl qN⟩
theorem GI_pre {av : List Value} {H : Heap} (C : Cx X Y cc nL own F L) (hP : va_P (yD Y) classes (GW Y σ) H) : ∀ U : State, U.heap = H → (xs X).WarmedH U.vm → va_Pc av (GI Y σ) av.toArray U := fun U hU hW => ⟨rfl, by rw [hU]; exact hP, va_K.moved hW.alike C.2.2.2.2.2.1, va_Nw.warmM hW C.2.2.2.2.2.2.2.2.1⟩

theorem q_callVI {y : MethodName} {b : ByteArray} {n np index F2 L2 : Nat} {rt : FieldType} {d ci : Nat} {As : List Value} {stk : List Value} {K : Int32 → Sg → Prop} (C : Cx X Y cc nL own F L) (hM : MetI Y y b n rt F2 L2 (.ref (ya Y d) :: As) σ K) (hi : miV y b n (some rt) np) (hdk : kd d = ci) (hci : ci < 8) (hyc : y.cls = RC ci) (hw : Cond.methodLink own index y ∈ TB) (hn : As.length = np) (hstk : As.reverse ++ .ref (ya Y d) :: st = stk) (hcat : (st.map fun v => v.category).sum ≤ 8) (hF : F2 + 1 ≤ F) (hL : 8 + (n + 11) + L2 ≤ L) (hd : decode cc pc = .ok (.invokevirtual index, 3)) (hk : ∀ (r : Int32) (τ : Sg), K r τ → St X Y nL Q (pc + 3) lv (.int r :: st) τ) : St X Y nL Q pc lv stk σ := by
  intro H locs ls hP hS hl
  subst hstk
  have hlt : d < 67 := kd_lt (by rw [hdk]; omega)
  have hrec := va_recv (a := ya Y d) (q0 := d) (ci := ci) C.2.2.2.2.2.1 hP (cls_at hci) (by rw [GW_at hlt, ce_o hdk hci])
  refine va_calli (A0 := yA Y) (H0 := (xs X).heap) (va_runV (As := As) (rest := st) (Ts := TB) ⟨C.1, C.2.1, C.2.2.1, C.2.2.2.1, C.2.2.2.2.1⟩ hM (cwV np C.2.2.2.2.1 (gd_V hi hw) rfl rfl rfl ⟨rfl, hi.2.2.2.2⟩ ⟨Nat.le_trans hF C.2.2.2.2.2.2.2.2.2.1, Nat.le_trans hL C.2.2.2.2.2.2.2.2.2.2.1⟩) ⟨GI_blind, (by rw [hyc]; exact hrec), GI_pre C hP⟩ rfl hn hl.1 rfl (lv_room hcat) hd ⟨C.2.2.2.2.2.2.2.2.2.2.2.1, C.2.2.2.2.2.2.2.2.2.2.2.2⟩) hS (fun _ _ h => h) (fun _ h => h) (fun r u t H1 locs1 ht hvm hw2 hB hz1 hk1 hS1 => ?_)
  exact hk r u hw2 H1 locs1 ls (by rw [← ht]; exact hB) hS1 hl
theorem q_callSI {y : MethodName} {b : ByteArray} {n np index F2 L2 : Nat} {rt : FieldType}  {As : List Value} {stk : List Value} {K : Int32 → Sg → Prop} (C : Cx X Y cc nL own F L) (hM : MetI Y y b n rt F2 L2 As σ K) (hi : miS y b n (some rt) np) (hw : Cond.methodLink own index y ∈ TB) (hn : As.length = np) (hstk : As.reverse ++ st = stk) (hcat : (st.map fun v => v.category).sum ≤ 8) (hF : F2 + 1 ≤ F) (hL : 8 + (n + 11) + L2 ≤ L) (hd : decode cc pc = .ok (.invokestatic index, 3)) (hk : ∀ (r : Int32) (τ : Sg), K r τ → St X Y nL Q (pc + 3) lv (.int r :: st) τ) : St X Y nL Q pc lv stk σ := by
  intro H locs ls hP hS hl
  subst hstk
  refine va_calli (A0 := yA Y) (H0 := (xs X).heap) (va_runS (As := As) (rest := st) (Ts := TB) ⟨C.1, C.2.1, C.2.2.1, C.2.2.2.1, C.2.2.2.2.1⟩ hM ⟨callB_of np C.2.2.2.2.1 (gd_code hi.2.2.1) rfl rfl rfl (C.2.2.2.2.1 _ hi.2.1) (C.2.2.2.2.1 _ hw) hi.2.2.2 ⟨Nat.le_trans hF C.2.2.2.2.2.2.2.2.2.1, Nat.le_trans hL C.2.2.2.2.2.2.2.2.2.2.1⟩, C.2.2.2.2.1 _ hi.1⟩ ⟨GI_blind, GI_pre C hP⟩ rfl hn hl.1 rfl (lv_room hcat) hd ⟨C.2.2.2.2.2.2.2.2.2.2.2.1, C.2.2.2.2.2.2.2.2.2.2.2.2⟩) hS (fun _ _ h => h) (fun _ h => h) (fun r u t H1 locs1 ht hvm hw2 hB hz1 hk1 hS1 => ?_)
  exact hk r u hw2 H1 locs1 ls (by rw [← ht]; exact hB) hS1 hl
theorem q_callNI {y : MethodName} {b : ByteArray} {n np index F2 L2 : Nat} {rt : FieldType}  {As : List Value} {stk : List Value} {K : Int32 → Sg → Prop} (C : Cx X Y cc nL own F L) (hM : MetI Y y b n rt F2 L2 As σ K) (hi : miS y b n (some rt) np) (hnw : Cond.methodLinkNest own index y "LoadCycles" = nestW) (hn : As.length = np) (hstk : As.reverse ++ st = stk) (hcat : (st.map fun v => v.category).sum ≤ 8) (hF : F2 + 1 ≤ F) (hL : 8 + (n + 11) + L2 ≤ L) (hd : decode cc pc = .ok (.invokestatic index, 3)) (hk : ∀ (r : Int32) (τ : Sg), K r τ → St X Y nL Q (pc + 3) lv (.int r :: st) τ) : St X Y nL Q pc lv stk σ := by
  intro H locs ls hP hS hl
  subst hstk
  refine va_calli (A0 := yA Y) (H0 := (xs X).heap) (va_runSN (As := As) (rest := st) (Ts := TB) (host := "LoadCycles") ⟨C.1, C.2.1, C.2.2.1, C.2.2.2.1, C.2.2.2.2.1⟩ hM ⟨va_cnB np C.2.2.2.2.1 (gd_code hi.2.2.1) rfl rfl rfl (by rw [hnw]; exact C.2.2.2.2.2.2.2.2.1) (C.2.2.2.2.1 _ hi.2.1) hi.2.2.2 ⟨Nat.le_trans hF C.2.2.2.2.2.2.2.2.2.1, Nat.le_trans hL C.2.2.2.2.2.2.2.2.2.2.1⟩, C.2.2.2.2.1 _ hi.1, trivial⟩ ⟨GI_blind, GI_pre C hP⟩ rfl hn hl.1 rfl (lv_room hcat) hd ⟨C.2.2.2.2.2.2.2.2.2.2.2.1, C.2.2.2.2.2.2.2.2.2.2.2.2⟩) hS (fun _ _ h => h) (fun _ h => h) (fun r u t H1 locs1 ht hvm hw2 hB hz1 hk1 hS1 => ?_)
  exact hk r u hw2 H1 locs1 ls (by rw [← ht]; exact hB) hS1 hl
theorem q_callVL {y : MethodName} {b : ByteArray} {n np index F2 L2 : Nat}  {d ci : Nat} {As : List Value} {stk : List Value} {K : Int64 → Sg → Prop} (C : Cx X Y cc nL own F L) (hM : MetL Y y b n F2 L2 (.ref (ya Y d) :: As) σ K) (hi : miV y b n (some .long) np) (hdk : kd d = ci) (hci : ci < 8) (hyc : y.cls = RC ci) (hw : Cond.methodLink own index y ∈ TB) (hn : As.length = np) (hstk : As.reverse ++ .ref (ya Y d) :: st = stk) (hcat : (st.map fun v => v.category).sum ≤ 8) (hF : F2 + 1 ≤ F) (hL : 8 + (n + 11) + L2 ≤ L) (hd : decode cc pc = .ok (.invokevirtual index, 3)) (hk : ∀ (r : Int64) (τ : Sg), K r τ → St X Y nL Q (pc + 3) lv (.long r :: st) τ) : St X Y nL Q pc lv stk σ := by
  intro H locs ls hP hS hl
  subst hstk
  have hlt : d < 67 := kd_lt (by rw [hdk]; omega)
  have hrec := va_recv (a := ya Y d) (q0 := d) (ci := ci) C.2.2.2.2.2.1 hP (cls_at hci) (by rw [GW_at hlt, ce_o hdk hci])
  refine va_calll (A0 := yA Y) (H0 := (xs X).heap) (va_runV (As := As) (rest := st) (Ts := TB) ⟨C.1, C.2.1, C.2.2.1, C.2.2.2.1, C.2.2.2.2.1⟩ hM (cwV np C.2.2.2.2.1 (gd_V hi hw) rfl rfl rfl ⟨rfl, hi.2.2.2.2⟩ ⟨Nat.le_trans hF C.2.2.2.2.2.2.2.2.2.1, Nat.le_trans hL C.2.2.2.2.2.2.2.2.2.2.1⟩) ⟨GI_blind, (by rw [hyc]; exact hrec), GI_pre C hP⟩ rfl hn hl.1 rfl (lv_room hcat) hd ⟨C.2.2.2.2.2.2.2.2.2.2.2.1, C.2.2.2.2.2.2.2.2.2.2.2.2⟩) hS (fun _ _ h => h) (fun _ h => h) (fun r u t H1 locs1 ht hvm hw2 hB hz1 hk1 hS1 => ?_)
  exact hk r u hw2 H1 locs1 ls (by rw [← ht]; exact hB) hS1 hl
theorem q_callSL {y : MethodName} {b : ByteArray} {n np index F2 L2 : Nat}   {As : List Value} {stk : List Value} {K : Int64 → Sg → Prop} (C : Cx X Y cc nL own F L) (hM : MetL Y y b n F2 L2 As σ K) (hi : miS y b n (some .long) np) (hw : Cond.methodLink own index y ∈ TB) (hn : As.length = np) (hstk : As.reverse ++ st = stk) (hcat : (st.map fun v => v.category).sum ≤ 8) (hF : F2 + 1 ≤ F) (hL : 8 + (n + 11) + L2 ≤ L) (hd : decode cc pc = .ok (.invokestatic index, 3)) (hk : ∀ (r : Int64) (τ : Sg), K r τ → St X Y nL Q (pc + 3) lv (.long r :: st) τ) : St X Y nL Q pc lv stk σ := by
  intro H locs ls hP hS hl
  subst hstk
  refine va_calll (A0 := yA Y) (H0 := (xs X).heap) (va_runS (As := As) (rest := st) (Ts := TB) ⟨C.1, C.2.1, C.2.2.1, C.2.2.2.1, C.2.2.2.2.1⟩ hM ⟨callB_of np C.2.2.2.2.1 (gd_code hi.2.2.1) rfl rfl rfl (C.2.2.2.2.1 _ hi.2.1) (C.2.2.2.2.1 _ hw) hi.2.2.2 ⟨Nat.le_trans hF C.2.2.2.2.2.2.2.2.2.1, Nat.le_trans hL C.2.2.2.2.2.2.2.2.2.2.1⟩, C.2.2.2.2.1 _ hi.1⟩ ⟨GI_blind, GI_pre C hP⟩ rfl hn hl.1 rfl (lv_room hcat) hd ⟨C.2.2.2.2.2.2.2.2.2.2.2.1, C.2.2.2.2.2.2.2.2.2.2.2.2⟩) hS (fun _ _ h => h) (fun _ h => h) (fun r u t H1 locs1 ht hvm hw2 hB hz1 hk1 hS1 => ?_)
  exact hk r u hw2 H1 locs1 ls (by rw [← ht]; exact hB) hS1 hl
theorem q_callVV {y : MethodName} {b : ByteArray} {n np index F2 L2 : Nat}  {d ci : Nat} {As : List Value} {stk : List Value} {K : Sg → Prop} (C : Cx X Y cc nL own F L) (hM : MetV Y y b n F2 L2 (.ref (ya Y d) :: As) σ K) (hi : miV y b n none np) (hdk : kd d = ci) (hci : ci < 8) (hyc : y.cls = RC ci) (hw : Cond.methodLink own index y ∈ TB) (hn : As.length = np) (hstk : As.reverse ++ .ref (ya Y d) :: st = stk) (hcat : (st.map fun v => v.category).sum ≤ 8) (hF : F2 + 1 ≤ F) (hL : 8 + (n + 11) + L2 ≤ L) (hd : decode cc pc = .ok (.invokevirtual index, 3)) (hk : ∀ (τ : Sg), K τ → St X Y nL Q (pc + 3) lv ( st) τ) : St X Y nL Q pc lv stk σ := by
  intro H locs ls hP hS hl
  subst hstk
  have hlt : d < 67 := kd_lt (by rw [hdk]; omega)
  have hrec := va_recv (a := ya Y d) (q0 := d) (ci := ci) C.2.2.2.2.2.1 hP (cls_at hci) (by rw [GW_at hlt, ce_o hdk hci])
  refine va_callv (A0 := yA Y) (H0 := (xs X).heap) (va_runV (As := As) (rest := st) (Ts := TB) ⟨C.1, C.2.1, C.2.2.1, C.2.2.2.1, C.2.2.2.2.1⟩ hM (cwV np C.2.2.2.2.1 (gd_V hi hw) rfl rfl rfl ⟨rfl, hi.2.2.2.2⟩ ⟨Nat.le_trans hF C.2.2.2.2.2.2.2.2.2.1, Nat.le_trans hL C.2.2.2.2.2.2.2.2.2.2.1⟩) ⟨GI_blind, (by rw [hyc]; exact hrec), GI_pre C hP⟩ rfl hn hl.1 rfl (lv_room hcat) hd ⟨C.2.2.2.2.2.2.2.2.2.2.2.1, C.2.2.2.2.2.2.2.2.2.2.2.2⟩) hS (fun _ _ h => h) (fun _ h => h) (fun u t H1 locs1 ht hvm hw2 hB hz1 hk1 hS1 => ?_)
  exact hk u hw2 H1 locs1 ls (by rw [← ht]; exact hB) hS1 hl
theorem q_callSV {y : MethodName} {b : ByteArray} {n np index F2 L2 : Nat}   {As : List Value} {stk : List Value} {K : Sg → Prop} (C : Cx X Y cc nL own F L) (hM : MetV Y y b n F2 L2 As σ K) (hi : miS y b n none np) (hw : Cond.methodLink own index y ∈ TB) (hn : As.length = np) (hstk : As.reverse ++ st = stk) (hcat : (st.map fun v => v.category).sum ≤ 8) (hF : F2 + 1 ≤ F) (hL : 8 + (n + 11) + L2 ≤ L) (hd : decode cc pc = .ok (.invokestatic index, 3)) (hk : ∀ (τ : Sg), K τ → St X Y nL Q (pc + 3) lv ( st) τ) : St X Y nL Q pc lv stk σ := by
  intro H locs ls hP hS hl
  subst hstk
  refine va_callv (A0 := yA Y) (H0 := (xs X).heap) (va_runS (As := As) (rest := st) (Ts := TB) ⟨C.1, C.2.1, C.2.2.1, C.2.2.2.1, C.2.2.2.2.1⟩ hM ⟨callB_of np C.2.2.2.2.1 (gd_code hi.2.2.1) rfl rfl rfl (C.2.2.2.2.1 _ hi.2.1) (C.2.2.2.2.1 _ hw) hi.2.2.2 ⟨Nat.le_trans hF C.2.2.2.2.2.2.2.2.2.1, Nat.le_trans hL C.2.2.2.2.2.2.2.2.2.2.1⟩, C.2.2.2.2.1 _ hi.1⟩ ⟨GI_blind, GI_pre C hP⟩ rfl hn hl.1 rfl (lv_room hcat) hd ⟨C.2.2.2.2.2.2.2.2.2.2.2.1, C.2.2.2.2.2.2.2.2.2.2.2.2⟩) hS (fun _ _ h => h) (fun _ h => h) (fun u t H1 locs1 ht hvm hw2 hB hz1 hk1 hS1 => ?_)
  exact hk u hw2 H1 locs1 ls (by rw [← ht]; exact hB) hS1 hl
theorem q_callVR {y : MethodName} {b : ByteArray} {n np index F2 L2 : Nat} {rt : FieldType} {d ci : Nat} {As : List Value} {stk : List Value} {K : Nat → Sg → Prop} (C : Cx X Y cc nL own F L) (hM : MetR Y y b n rt F2 L2 (.ref (ya Y d) :: As) σ K) (hi : miV y b n (some rt) np) (hdk : kd d = ci) (hci : ci < 8) (hyc : y.cls = RC ci) (hw : Cond.methodLink own index y ∈ TB) (hn : As.length = np) (hstk : As.reverse ++ .ref (ya Y d) :: st = stk) (hcat : (st.map fun v => v.category).sum ≤ 8) (hF : F2 + 1 ≤ F) (hL : 8 + (n + 11) + L2 ≤ L) (hd : decode cc pc = .ok (.invokevirtual index, 3)) (hk : ∀ (r : Nat) (τ : Sg), K r τ → St X Y nL Q (pc + 3) lv (.ref (ya Y r) :: st) τ) : St X Y nL Q pc lv stk σ := by
  intro H locs ls hP hS hl
  subst hstk
  have hlt : d < 67 := kd_lt (by rw [hdk]; omega)
  have hrec := va_recv (a := ya Y d) (q0 := d) (ci := ci) C.2.2.2.2.2.1 hP (cls_at hci) (by rw [GW_at hlt, ce_o hdk hci])
  refine va_callr (A0 := yA Y) (H0 := (xs X).heap) (va_runV (As := As) (rest := st) (Ts := TB) ⟨C.1, C.2.1, C.2.2.1, C.2.2.2.1, C.2.2.2.2.1⟩ hM (cwV np C.2.2.2.2.1 (gd_V hi hw) rfl rfl rfl ⟨rfl, hi.2.2.2.2⟩ ⟨Nat.le_trans hF C.2.2.2.2.2.2.2.2.2.1, Nat.le_trans hL C.2.2.2.2.2.2.2.2.2.2.1⟩) ⟨GI_blind, (by rw [hyc]; exact hrec), GI_pre C hP⟩ rfl hn hl.1 rfl (lv_room hcat) hd ⟨C.2.2.2.2.2.2.2.2.2.2.2.1, C.2.2.2.2.2.2.2.2.2.2.2.2⟩) hS (fun _ _ h => h) (fun _ h => h) (fun u ra t H1 locs1 ht hvm hw2 hB hz1 hk1 hS1 => ?_)
  obtain ⟨rfl, hB⟩ := hB
  exact hk u.1 u.2 hw2 H1 locs1 ls (by rw [← ht]; exact hB) hS1 hl
theorem q_callSR {y : MethodName} {b : ByteArray} {n np index F2 L2 : Nat} {rt : FieldType}  {As : List Value} {stk : List Value} {K : Nat → Sg → Prop} (C : Cx X Y cc nL own F L) (hM : MetR Y y b n rt F2 L2 As σ K) (hi : miS y b n (some rt) np) (hw : Cond.methodLink own index y ∈ TB) (hn : As.length = np) (hstk : As.reverse ++ st = stk) (hcat : (st.map fun v => v.category).sum ≤ 8) (hF : F2 + 1 ≤ F) (hL : 8 + (n + 11) + L2 ≤ L) (hd : decode cc pc = .ok (.invokestatic index, 3)) (hk : ∀ (r : Nat) (τ : Sg), K r τ → St X Y nL Q (pc + 3) lv (.ref (ya Y r) :: st) τ) : St X Y nL Q pc lv stk σ := by
  intro H locs ls hP hS hl
  subst hstk
  refine va_callr (A0 := yA Y) (H0 := (xs X).heap) (va_runS (As := As) (rest := st) (Ts := TB) ⟨C.1, C.2.1, C.2.2.1, C.2.2.2.1, C.2.2.2.2.1⟩ hM ⟨callB_of np C.2.2.2.2.1 (gd_code hi.2.2.1) rfl rfl rfl (C.2.2.2.2.1 _ hi.2.1) (C.2.2.2.2.1 _ hw) hi.2.2.2 ⟨Nat.le_trans hF C.2.2.2.2.2.2.2.2.2.1, Nat.le_trans hL C.2.2.2.2.2.2.2.2.2.2.1⟩, C.2.2.2.2.1 _ hi.1⟩ ⟨GI_blind, GI_pre C hP⟩ rfl hn hl.1 rfl (lv_room hcat) hd ⟨C.2.2.2.2.2.2.2.2.2.2.2.1, C.2.2.2.2.2.2.2.2.2.2.2.2⟩) hS (fun _ _ h => h) (fun _ h => h) (fun u ra t H1 locs1 ht hvm hw2 hB hz1 hk1 hS1 => ?_)
  obtain ⟨rfl, hB⟩ := hB
  exact hk u.1 u.2 hw2 H1 locs1 ls (by rw [← ht]; exact hB) hS1 hl
end Rows
end
section
section Rows2
variable {X : Bx} {Y : Yx} {cc : ByteArray} {nL : Nat} {own : String} {F L : Nat} {Q : State → Prop} {pc : Nat} {lv : List (Nat × Value)} {st : List Value} {σ : Sg}
/-- a call that changes nothing -/
theorem q_callVIr {y : MethodName} {b : ByteArray} {n np index F2 L2 : Nat} {rt : FieldType} {d ci : Nat} {As : List Value} {stk : List Value} {K : Int32 → Prop} (C : Cx X Y cc nL own F L) (hM : MetI Y y b n rt F2 L2 (.ref (ya Y d) :: As) σ (fun r τ => τ = σ ∧ K r)) (hi : miV y b n (some rt) np) (hdk : kd d = ci) (hci : ci < 8) (hyc : y.cls = RC ci) (hw : Cond.methodLink own index y ∈ TB) (hn : As.length = np) (hstk : As.reverse ++ .ref (ya Y d) :: st = stk) (hcat : (st.map fun v => v.category).sum ≤ 8) (hF : F2 + 1 ≤ F) (hL : 8 + (n + 11) + L2 ≤ L) (hd : decode cc pc = .ok (.invokevirtual index, 3)) (hk : ∀ (r : Int32), K r → St X Y nL Q (pc + 3) lv (.int r :: st) σ) : St X Y nL Q pc lv stk σ :=
  q_callVI C hM hi hdk hci hyc hw hn hstk hcat hF hL hd (fun r τ h => by obtain ⟨e, h⟩ := h; rw [e]; exact hk r h)
/-- a call that changes nothing -/
theorem q_callSIr {y : MethodName} {b : ByteArray} {n np index F2 L2 : Nat} {rt : FieldType}  {As : List Value} {stk : List Value} {K : Int32 → Prop} (C : Cx X Y cc nL own F L) (hM : MetI Y y b n rt F2 L2 As σ (fun r τ => τ = σ ∧ K r)) (hi : miS y b n (some rt) np) (hw : Cond.methodLink own index y ∈ TB) (hn : As.length = np) (hstk : As.reverse ++ st = stk) (hcat : (st.map fun v => v.category).sum ≤ 8) (hF : F2 + 1 ≤ F) (hL : 8 + (n + 11) + L2 ≤ L) (hd : decode cc pc = .ok (.invokestatic index, 3)) (hk : ∀ (r : Int32), K r → St X Y nL Q (pc + 3) lv (.int r :: st) σ) : St X Y nL Q pc lv stk σ :=
  q_callSI C hM hi hw hn hstk hcat hF hL hd (fun r τ h => by obtain ⟨e, h⟩ := h; rw [e]; exact hk r h)
/-- a call that changes nothing -/
theorem q_callNIr {y : MethodName} {b : ByteArray} {n np index F2 L2 : Nat} {rt : FieldType}  {As : List Value} {stk : List Value} {K : Int32 → Prop} (C : Cx X Y cc nL own F L) (hM : MetI Y y b n rt F2 L2 As σ (fun r τ => τ = σ ∧ K r)) (hi : miS y b n (some rt) np) (hnw : Cond.methodLinkNest own index y "LoadCycles" = nestW) (hn : As.length = np) (hstk : As.reverse ++ st = stk) (hcat : (st.map fun v => v.category).sum ≤ 8) (hF : F2 + 1 ≤ F) (hL : 8 + (n + 11) + L2 ≤ L) (hd : decode cc pc = .ok (.invokestatic index, 3)) (hk : ∀ (r : Int32), K r → St X Y nL Q (pc + 3) lv (.int r :: st) σ) : St X Y nL Q pc lv stk σ :=
  q_callNI C hM hi hnw hn hstk hcat hF hL hd (fun r τ h => by obtain ⟨e, h⟩ := h; rw [e]; exact hk r h)
/-- a call that changes nothing -/
theorem q_callVLr {y : MethodName} {b : ByteArray} {n np index F2 L2 : Nat}  {d ci : Nat} {As : List Value} {stk : List Value} {K : Int64 → Prop} (C : Cx X Y cc nL own F L) (hM : MetL Y y b n F2 L2 (.ref (ya Y d) :: As) σ (fun r τ => τ = σ ∧ K r)) (hi : miV y b n (some .long) np) (hdk : kd d = ci) (hci : ci < 8) (hyc : y.cls = RC ci) (hw : Cond.methodLink own index y ∈ TB) (hn : As.length = np) (hstk : As.reverse ++ .ref (ya Y d) :: st = stk) (hcat : (st.map fun v => v.category).sum ≤ 8) (hF : F2 + 1 ≤ F) (hL : 8 + (n + 11) + L2 ≤ L) (hd : decode cc pc = .ok (.invokevirtual index, 3)) (hk : ∀ (r : Int64), K r → St X Y nL Q (pc + 3) lv (.long r :: st) σ) : St X Y nL Q pc lv stk σ :=
  q_callVL C hM hi hdk hci hyc hw hn hstk hcat hF hL hd (fun r τ h => by obtain ⟨e, h⟩ := h; rw [e]; exact hk r h)
/-- a call that changes nothing -/
theorem q_callSLr {y : MethodName} {b : ByteArray} {n np index F2 L2 : Nat}   {As : List Value} {stk : List Value} {K : Int64 → Prop} (C : Cx X Y cc nL own F L) (hM : MetL Y y b n F2 L2 As σ (fun r τ => τ = σ ∧ K r)) (hi : miS y b n (some .long) np) (hw : Cond.methodLink own index y ∈ TB) (hn : As.length = np) (hstk : As.reverse ++ st = stk) (hcat : (st.map fun v => v.category).sum ≤ 8) (hF : F2 + 1 ≤ F) (hL : 8 + (n + 11) + L2 ≤ L) (hd : decode cc pc = .ok (.invokestatic index, 3)) (hk : ∀ (r : Int64), K r → St X Y nL Q (pc + 3) lv (.long r :: st) σ) : St X Y nL Q pc lv stk σ :=
  q_callSL C hM hi hw hn hstk hcat hF hL hd (fun r τ h => by obtain ⟨e, h⟩ := h; rw [e]; exact hk r h)
theorem q_nms {τ : Sg} (h : ∀ y : Sg, y = τ → St X Y nL Q pc lv st y) : St X Y nL Q pc lv st τ := h τ rfl
theorem q_lookupK {dflt k : Int} {ps : Array (Int × Int)} {len : Nat} {x v : Int32} {off : Int} (tgt : Nat) (C : Cx X Y cc nL own F L) (hx : x = v) (hv : v.toInt = k) (hd : decode cc pc = .ok (.lookupswitch dflt ps, len)) (hp : (ps.toList.zip (ps.toList.drop 1)).all (fun (a, next) => a.1 < next.1) = true) (ho : Op.lookupswitch.offset ps.toList dflt k = off) (ht : (pc : Int) + off = (tgt : Int)) (h : St X Y nL Q tgt lv st σ) : St X Y nL Q pc lv (.int x :: st) σ := q_lookup tgt C hd hp (by rw [hx, hv]; exact ho) ht h
theorem q_tableK {dflt lo hi k : Int} {offs : Array Int} {len : Nat} {x v : Int32} {off : Int} (tgt : Nat) (C : Cx X Y cc nL own F L) (hx : x = v) (hv : v.toInt = k) (hd : decode cc pc = .ok (.tableswitch dflt lo hi offs, len)) (h1 : ¬ k < lo) (h2 : ¬ hi < k) (ho : offs[(k - lo).toNat]? = some off) (ht : (pc : Int) + off = (tgt : Int)) (h : St X Y nL Q tgt lv st σ) : St X Y nL Q pc lv (.int x :: st) σ := q_tableIn tgt C hd (by rw [hx, hv]; exact h1) (by rw [hx, hv]; exact h2) (by rw [hx, hv]; exact ho) ht h
theorem q_mmax {index : Nat} {x y : Int32} (C : Cx X Y cc nL own F L) (hw : Cond.methodLink own index Lib.Math.max.name ∈ TB) (hw1 : Cond.static Lib.Math.max.name ∈ TB) (hw2 : Cond.initialized "java/lang/Math" ∈ TB) (hw3 : Cond.code Lib.Math.max.name Lib.Math.max.code 2 (some .int) ∈ TB) (hF : 1 ≤ F) (hL : (st.map fun v => v.category).sum + 13 ≤ L) (hd : decode cc pc = .ok (.invokestatic index, 3)) (h : St X Y nL Q (pc + 3) lv (.int (if x < y then y else x) :: st) σ) : St X Y nL Q pc lv (.int y :: .int x :: st) σ := fun H locs ls hP hS hl =>
  va_mmax C.1 C.2.1 (by rw [C.2.2.1]; exact hl.1.symm) C.2.2.2.1 (C.2.2.2.2.1 _ hw) (C.2.2.2.2.1 _ hw1) (C.2.2.2.2.1 _ hw2) (C.2.2.2.2.1 _ hw3) (Nat.le_trans hF C.2.2.2.2.2.2.2.2.2.1) (Nat.le_trans hL C.2.2.2.2.2.2.2.2.2.2.1) C.2.2.2.2.2.2.2.2.2.2.2.1 C.2.2.2.2.2.2.2.2.2.2.2.2 hd (h H locs ls hP hS hl)
theorem q_mmin {index : Nat} {x y : Int32} (C : Cx X Y cc nL own F L) (hw : Cond.methodLink own index Lib.Math.min.name ∈ TB) (hw1 : Cond.static Lib.Math.min.name ∈ TB) (hw2 : Cond.initialized "java/lang/Math" ∈ TB) (hw3 : Cond.code Lib.Math.min.name Lib.Math.min.code 2 (some .int) ∈ TB) (hF : 1 ≤ F) (hL : (st.map fun v => v.category).sum + 13 ≤ L) (hd : decode cc pc = .ok (.invokestatic index, 3)) (h : St X Y nL Q (pc + 3) lv (.int (if y < x then y else x) :: st) σ) : St X Y nL Q pc lv (.int y :: .int x :: st) σ := fun H locs ls hP hS hl =>
  va_mmin C.1 C.2.1 (by rw [C.2.2.1]; exact hl.1.symm) C.2.2.2.1 (C.2.2.2.2.1 _ hw) (C.2.2.2.2.1 _ hw1) (C.2.2.2.2.1 _ hw2) (C.2.2.2.2.1 _ hw3) (Nat.le_trans hF C.2.2.2.2.2.2.2.2.2.1) (Nat.le_trans hL C.2.2.2.2.2.2.2.2.2.2.1) C.2.2.2.2.2.2.2.2.2.2.2.1 C.2.2.2.2.2.2.2.2.2.2.2.2 hd (h H locs ls hP hS hl)
end Rows2
theorem vin_lt {i : Int32} {n : Nat} (h : vp_in i n) : i.toNatClampNeg < n := by
  rcases Nat.lt_or_ge i.toNatClampNeg n with q | q
  · exact q
  · exact absurd (Or.inr q) h
theorem sw_ne {x v : Int32} {k : Int} (hv : Int32.ofInt k = v) (h : ¬ x = v) : x.toInt ≠ k := fun e => h (by rw [← hv, ← e]; exact (Int32.ofInt_toInt x).symm)
theorem iaS {i : Int32} (h : vp_in i 4) : kd (33 + 2 * i.toNatClampNeg) = 3 := kS _ (vin_lt h)
theorem fs_0_2 {ad : Nat → Nat} {c : Nat} {f : Nat → Int32} {x : Int32} : (flds ad 0 c f).set 2 (.int x) = flds ad 0 c (upd f 2 x) := rfl
theorem fs_0_3 {ad : Nat → Nat} {c : Nat} {f : Nat → Int32} {x : Int32} : (flds ad 0 c f).set 3 (.int x) = flds ad 0 c (upd f 3 x) := rfl
theorem fs_0_4 {ad : Nat → Nat} {c : Nat} {f : Nat → Int32} {x : Int32} : (flds ad 0 c f).set 4 (.int x) = flds ad 0 c (upd f 4 x) := rfl
theorem fs_0_5 {ad : Nat → Nat} {c : Nat} {f : Nat → Int32} {x : Int32} : (flds ad 0 c f).set 5 (.int x) = flds ad 0 c (upd f 5 x) := rfl
theorem fs_2_4 {ad : Nat → Nat} {c : Nat} {f : Nat → Int32} {x : Int32} : (flds ad 2 c f).set 4 (.int x) = flds ad 2 c (upd f 4 x) := rfl
theorem fs_2_5 {ad : Nat → Nat} {c : Nat} {f : Nat → Int32} {x : Int32} : (flds ad 2 c f).set 5 (.int x) = flds ad 2 c (upd f 5 x) := rfl
theorem fs_2_6 {ad : Nat → Nat} {c : Nat} {f : Nat → Int32} {x : Int32} : (flds ad 2 c f).set 6 (.int x) = flds ad 2 c (upd f 6 x) := rfl
theorem fs_3_1 {ad : Nat → Nat} {c : Nat} {f : Nat → Int32} {x : Int32} : (flds ad 3 c f).set 1 (.int x) = flds ad 3 c (upd f 1 x) := rfl
theorem fs_3_2 {ad : Nat → Nat} {c : Nat} {f : Nat → Int32} {x : Int32} : (flds ad 3 c f).set 2 (.int x) = flds ad 3 c (upd f 2 x) := rfl
theorem fs_4_1 {ad : Nat → Nat} {c : Nat} {f : Nat → Int32} {x : Int32} : (flds ad 4 c f).set 1 (.int x) = flds ad 4 c (upd f 1 x) := rfl
theorem fr_5_3 {ad : Nat → Nat} {c d : Nat} {f : Nat → Int32} (h : d < 67) : (flds ad 5 c f).set 3 (.ref (ad d)) = flds ad 5 c (upd f 3 (nI d)) := by
  have e : (upd f 3 (nI d) 3).toNatClampNeg = d := by rw [pk_us]; exact nI_clamp (by omega)
  show _ = ([.ref (ad (c + 1)), .ref (ad (c + 2)), .ref (ad (c + 3)), .ref (ad (upd f 3 (nI d) 3).toNatClampNeg), .ref (ad (upd f 3 (nI d) 4).toNatClampNeg), .int (upd f 3 (nI d) 5)] : List Value)
  rw [e]
  rfl
theorem fr_5_4 {ad : Nat → Nat} {c d : Nat} {f : Nat → Int32} (h : d < 67) : (flds ad 5 c f).set 4 (.ref (ad d)) = flds ad 5 c (upd f 4 (nI d)) := by
  have e : (upd f 4 (nI d) 4).toNatClampNeg = d := by rw [pk_us]; exact nI_clamp (by omega)
  show _ = ([.ref (ad (c + 1)), .ref (ad (c + 2)), .ref (ad (c + 3)), .ref (ad (upd f 4 (nI d) 3).toNatClampNeg), .ref (ad (upd f 4 (nI d) 4).toNatClampNeg), .int (upd f 4 (nI d) 5)] : List Value)
  rw [e]
  rfl
theorem fs_5_5 {ad : Nat → Nat} {c : Nat} {f : Nat → Int32} {x : Int32} : (flds ad 5 c f).set 5 (.int x) = flds ad 5 c (upd f 5 x) := rfl
theorem fs_6_10 {ad : Nat → Nat} {c : Nat} {f : Nat → Int32} {x : Int32} : (flds ad 6 c f).set 10 (.int x) = flds ad 6 c (upd f 10 x) := rfl
theorem fs_6_11 {ad : Nat → Nat} {c : Nat} {f : Nat → Int32} {x : Int32} : (flds ad 6 c f).set 11 (.int x) = flds ad 6 c (upd f 11 x) := rfl
theorem fs_6_12 {ad : Nat → Nat} {c : Nat} {f : Nat → Int32} {x : Int32} : (flds ad 6 c f).set 12 (.int x) = flds ad 6 c (upd f 12 x) := rfl
theorem fs_6_13 {ad : Nat → Nat} {c : Nat} {f : Nat → Int32} {x : Int32} : (flds ad 6 c f).set 13 (.int x) = flds ad 6 c (upd f 13 x) := rfl
theorem fs_7_0 {ad : Nat → Nat} {c : Nat} {f : Nat → Int32} {x : Int32} : (flds ad 7 c f).set 0 (.int x) = flds ad 7 c (upd f 0 x) := rfl
theorem fs_7_1 {ad : Nat → Nat} {c : Nat} {f : Nat → Int32} {x : Int32} : (flds ad 7 c f).set 1 (.int x) = flds ad 7 c (upd f 1 x) := rfl
theorem fs_7_5 {ad : Nat → Nat} {c : Nat} {f : Nat → Int32} {x : Int32} : (flds ad 7 c f).set 5 (.int x) = flds ad 7 c (upd f 5 x) := rfl
theorem fs_7_9 {ad : Nat → Nat} {c : Nat} {f : Nat → Int32} {x : Int32} : (flds ad 7 c f).set 9 (.int x) = flds ad 7 c (upd f 9 x) := rfl
theorem fs_7_11 {ad : Nat → Nat} {c : Nat} {f : Nat → Int32} {x : Int32} : (flds ad 7 c f).set 11 (.int x) = flds ad 7 c (upd f 11 x) := rfl
theorem fs_7_12 {ad : Nat → Nat} {c : Nat} {f : Nat → Int32} {x : Int32} : (flds ad 7 c f).set 12 (.int x) = flds ad 7 c (upd f 12 x) := rfl
theorem fs_7_13 {ad : Nat → Nat} {c : Nat} {f : Nat → Int32} {x : Int32} : (flds ad 7 c f).set 13 (.int x) = flds ad 7 c (upd f 13 x) := rfl
theorem fs_7_17 {ad : Nat → Nat} {c : Nat} {f : Nat → Int32} {x : Int32} : (flds ad 7 c f).set 17 (.int x) = flds ad 7 c (upd f 17 x) := rfl
theorem fs_7_29 {ad : Nat → Nat} {c : Nat} {f : Nat → Int32} {x : Int32} : (flds ad 7 c f).set 29 (.int x) = flds ad 7 c (upd f 29 x) := rfl
theorem fs_7_30 {ad : Nat → Nat} {c : Nat} {f : Nat → Int32} {x : Int32} : (flds ad 7 c f).set 30 (.int x) = flds ad 7 c (upd f 30 x) := rfl
end
section
theorem iaL {c n : Nat} (h : ia c n) : ia c (ln c) := ⟨h.1, rfl⟩
theorem d_Lc_isSheet_0 : decode prog_1_method_34_code 0 = .ok (.iload_n 0, 1) := by decide +kernel
theorem d_Lc_isSheet_1 : decode prog_1_method_34_code 1 = .ok (.ifCond .lt 12, 3) := by decide +kernel
theorem d_Lc_isSheet_4 : decode prog_1_method_34_code 4 = .ok (.iload_n 0, 1) := by decide +kernel
theorem d_Lc_isSheet_5 : decode prog_1_method_34_code 5 = .ok (.iconst 4, 1) := by decide +kernel
theorem d_Lc_isSheet_6 : decode prog_1_method_34_code 6 = .ok (.if_icmp .ge 7, 3) := by decide +kernel
theorem d_Lc_isSheet_9 : decode prog_1_method_34_code 9 = .ok (.iconst 1, 1) := by decide +kernel
theorem d_Lc_isSheet_10 : decode prog_1_method_34_code 10 = .ok (.goto 4, 3) := by decide +kernel
theorem d_Lc_isSheet_13 : decode prog_1_method_34_code 13 = .ok (.iconst 0, 1) := by decide +kernel
theorem d_Lc_isSheet_14 : decode prog_1_method_34_code 14 = .ok (.ireturn, 1) := by decide +kernel
abbrev y_Lc_isSheet : MethodName := ⟨"LoadCycles", "isSheet", "(I)Z"⟩
theorem mi_Lc_isSheet : miS y_Lc_isSheet prog_1_method_34_code 1 (some .boolean) 1 := ⟨wd_278, wd_65, wd_279, by decide, by decide, by decide +kernel⟩
def w_Lc_isSheet (x0 : Int32) (σ : Sg) (K : Int32 → Prop) : Prop :=
  ((x0 < 0 → K (0 : Int32)) ∧ (¬ x0 < 0 → (((4 : Int32) ≤ x0 → K (0 : Int32)) ∧ (¬ (4 : Int32) ≤ x0 → K (1 : Int32)))))
set_option maxHeartbeats 4000000 in
theorem m_Lc_isSheet {Y : Yx} {x0 : Int32} {σ : Sg} {K : Int32 → Prop} (hY : YD Y)  (h : w_Lc_isSheet x0 σ K) : MetI Y y_Lc_isSheet prog_1_method_34_code 1 (.boolean) 0 0 [.int x0] σ (fun r τ => τ = σ ∧ K r) := by
  refine met_I [(0, .int x0)] hY (by decide) (Nat.le_of_ble_eq_true rfl) rfl (fun X C hr => ?_)
  unfold w_Lc_isSheet at h
  refine q_iload_n (pc := 0) C d_Lc_isSheet_0 rfl 0 rfl ?_
  obtain ⟨h3, h4⟩ := h
  refine q_if_lt (pc := 1) 13 C d_Lc_isSheet_1 (by decide) (fun hc => ?_) (fun hc => ?_)
  · have h := h3 hc
    refine q_iconst (pc := 13) (v := 0) C d_Lc_isSheet_13 (by decide) ?_
    exact q_zret (pc := 14) C hr d_Lc_isSheet_14 bz0 ⟨rfl, h⟩
  have h := h4 hc
  refine q_iload_n (pc := 4) C d_Lc_isSheet_4 rfl 0 rfl ?_
  refine q_iconst (pc := 5) (v := 4) C d_Lc_isSheet_5 (by decide) ?_
  obtain ⟨h1, h2⟩ := h
  refine q_icmp_ge (pc := 6) 13 C d_Lc_isSheet_6 (by decide) (fun hc => ?_) (fun hc => ?_)
  · have h := h1 hc
    refine q_iconst (pc := 13) (v := 0) C d_Lc_isSheet_13 (by decide) ?_
    exact q_zret (pc := 14) C hr d_Lc_isSheet_14 bz0 ⟨rfl, h⟩
  have h := h2 hc
  refine q_iconst (pc := 9) (v := 1) C d_Lc_isSheet_9 (by decide) ?_
  refine q_goto (pc := 10) 14 C d_Lc_isSheet_10 (by decide) ?_
  exact q_zret (pc := 14) C hr d_Lc_isSheet_14 bz1 ⟨rfl, h⟩
theorem d_Lc_isLane_0 : decode prog_1_method_35_code 0 = .ok (.iload_n 0, 1) := by decide +kernel
theorem d_Lc_isLane_1 : decode prog_1_method_35_code 1 = .ok (.ifCond .lt 12, 3) := by decide +kernel
theorem d_Lc_isLane_4 : decode prog_1_method_35_code 4 = .ok (.iload_n 0, 1) := by decide +kernel
theorem d_Lc_isLane_5 : decode prog_1_method_35_code 5 = .ok (.iconst 3, 1) := by decide +kernel
theorem d_Lc_isLane_6 : decode prog_1_method_35_code 6 = .ok (.if_icmp .ge 7, 3) := by decide +kernel
theorem d_Lc_isLane_9 : decode prog_1_method_35_code 9 = .ok (.iconst 1, 1) := by decide +kernel
theorem d_Lc_isLane_10 : decode prog_1_method_35_code 10 = .ok (.goto 4, 3) := by decide +kernel
theorem d_Lc_isLane_13 : decode prog_1_method_35_code 13 = .ok (.iconst 0, 1) := by decide +kernel
theorem d_Lc_isLane_14 : decode prog_1_method_35_code 14 = .ok (.ireturn, 1) := by decide +kernel
abbrev y_Lc_isLane : MethodName := ⟨"LoadCycles", "isLane", "(I)Z"⟩
theorem mi_Lc_isLane : miS y_Lc_isLane prog_1_method_35_code 1 (some .boolean) 1 := ⟨wd_281, wd_65, wd_282, by decide, by decide, by decide +kernel⟩
def w_Lc_isLane (x0 : Int32) (σ : Sg) (K : Int32 → Prop) : Prop :=
  ((x0 < 0 → K (0 : Int32)) ∧ (¬ x0 < 0 → (((3 : Int32) ≤ x0 → K (0 : Int32)) ∧ (¬ (3 : Int32) ≤ x0 → K (1 : Int32)))))
set_option maxHeartbeats 4000000 in
theorem m_Lc_isLane {Y : Yx} {x0 : Int32} {σ : Sg} {K : Int32 → Prop} (hY : YD Y)  (h : w_Lc_isLane x0 σ K) : MetI Y y_Lc_isLane prog_1_method_35_code 1 (.boolean) 0 0 [.int x0] σ (fun r τ => τ = σ ∧ K r) := by
  refine met_I [(0, .int x0)] hY (by decide) (Nat.le_of_ble_eq_true rfl) rfl (fun X C hr => ?_)
  unfold w_Lc_isLane at h
  refine q_iload_n (pc := 0) C d_Lc_isLane_0 rfl 0 rfl ?_
  obtain ⟨h3, h4⟩ := h
  refine q_if_lt (pc := 1) 13 C d_Lc_isLane_1 (by decide) (fun hc => ?_) (fun hc => ?_)
  · have h := h3 hc
    refine q_iconst (pc := 13) (v := 0) C d_Lc_isLane_13 (by decide) ?_
    exact q_zret (pc := 14) C hr d_Lc_isLane_14 bz0 ⟨rfl, h⟩
  have h := h4 hc
  refine q_iload_n (pc := 4) C d_Lc_isLane_4 rfl 0 rfl ?_
  refine q_iconst (pc := 5) (v := 3) C d_Lc_isLane_5 (by decide) ?_
  obtain ⟨h1, h2⟩ := h
  refine q_icmp_ge (pc := 6) 13 C d_Lc_isLane_6 (by decide) (fun hc => ?_) (fun hc => ?_)
  · have h := h1 hc
    refine q_iconst (pc := 13) (v := 0) C d_Lc_isLane_13 (by decide) ?_
    exact q_zret (pc := 14) C hr d_Lc_isLane_14 bz0 ⟨rfl, h⟩
  have h := h2 hc
  refine q_iconst (pc := 9) (v := 1) C d_Lc_isLane_9 (by decide) ?_
  refine q_goto (pc := 10) 14 C d_Lc_isLane_10 (by decide) ?_
  exact q_zret (pc := 14) C hr d_Lc_isLane_14 bz1 ⟨rfl, h⟩
theorem d_Sh_hasRow_0 : decode prog_5_method_2_code 0 = .ok (.aload_n 0, 1) := by decide +kernel
theorem d_Sh_hasRow_1 : decode prog_5_method_2_code 1 = .ok (.getfield 15, 3) := by decide +kernel
theorem d_Sh_hasRow_4 : decode prog_5_method_2_code 4 = .ok (.iconst (-1), 1) := by decide +kernel
theorem d_Sh_hasRow_5 : decode prog_5_method_2_code 5 = .ok (.if_icmp .eq 7, 3) := by decide +kernel
theorem d_Sh_hasRow_8 : decode prog_5_method_2_code 8 = .ok (.iconst 1, 1) := by decide +kernel
theorem d_Sh_hasRow_9 : decode prog_5_method_2_code 9 = .ok (.goto 4, 3) := by decide +kernel
theorem d_Sh_hasRow_12 : decode prog_5_method_2_code 12 = .ok (.iconst 0, 1) := by decide +kernel
theorem d_Sh_hasRow_13 : decode prog_5_method_2_code 13 = .ok (.ireturn, 1) := by decide +kernel
abbrev y_Sh_hasRow : MethodName := ⟨"LoadCycles$Sheet", "hasRow", "()Z"⟩
theorem mi_Sh_hasRow : miV y_Sh_hasRow prog_5_method_2_code 1 (some .boolean) 0 := ⟨wd_288, wd_289, wd_71, wd_290, by decide, by decide, by decide +kernel⟩
def w_Sh_hasRow (o : Nat) (σ : Sg) (K : Int32 → Prop) : Prop :=
  (((σ o 2) = (-1 : Int32) → K (0 : Int32)) ∧ (¬ (σ o 2) = (-1 : Int32) → K (1 : Int32)))
set_option maxHeartbeats 4000000 in
theorem m_Sh_hasRow {Y : Yx} {o : Nat} {σ : Sg} {K : Int32 → Prop} (hY : YD Y) (ho : kd o = 3) (h : w_Sh_hasRow o σ K) : MetI Y y_Sh_hasRow prog_5_method_2_code 1 (.boolean) 0 0 [.ref (ya Y o)] σ (fun r τ => τ = σ ∧ K r) := by
  refine met_I [(0, .ref (ya Y o))] hY (by decide) (Nat.le_of_ble_eq_true rfl) rfl (fun X C hr => ?_)
  unfold w_Sh_hasRow at h
  refine q_aload_n (pc := 0) C d_Sh_hasRow_0 rfl 0 rfl ?_
  refine q_get (pc := 1) (c := o) (ci := 3) (k := 2) (v := .int (σ o 2)) C ho (by decide) (by decide) wd_222 rfl d_Sh_hasRow_1 ?_
  refine q_iconst (pc := 4) (v := -1) C d_Sh_hasRow_4 (by decide) ?_
  obtain ⟨h1, h2⟩ := h
  refine q_icmp_eq (pc := 5) 12 C d_Sh_hasRow_5 (by decide) (fun hc => ?_) (fun hc => ?_)
  · have h := h1 hc
    refine q_iconst (pc := 12) (v := 0) C d_Sh_hasRow_12 (by decide) ?_
    exact q_zret (pc := 13) C hr d_Sh_hasRow_13 bz0 ⟨rfl, h⟩
  have h := h2 hc
  refine q_iconst (pc := 8) (v := 1) C d_Sh_hasRow_8 (by decide) ?_
  refine q_goto (pc := 9) 13 C d_Sh_hasRow_9 (by decide) ?_
  exact q_zret (pc := 13) C hr d_Sh_hasRow_13 bz1 ⟨rfl, h⟩
theorem d_Sh_faultOfRow_0 : decode prog_5_method_7_code 0 = .ok (.aload_n 0, 1) := by decide +kernel
theorem d_Sh_faultOfRow_1 : decode prog_5_method_7_code 1 = .ok (.invokevirtual 28, 3) := by decide +kernel
theorem d_Sh_faultOfRow_4 : decode prog_5_method_7_code 4 = .ok (.ifCond .ne 5, 3) := by decide +kernel
theorem d_Sh_faultOfRow_7 : decode prog_5_method_7_code 7 = .ok (.iconst 1, 1) := by decide +kernel
theorem d_Sh_faultOfRow_8 : decode prog_5_method_7_code 8 = .ok (.ireturn, 1) := by decide +kernel
theorem d_Sh_faultOfRow_9 : decode prog_5_method_7_code 9 = .ok (.aload_n 0, 1) := by decide +kernel
theorem d_Sh_faultOfRow_10 : decode prog_5_method_7_code 10 = .ok (.getfield 19, 3) := by decide +kernel
theorem d_Sh_faultOfRow_13 : decode prog_5_method_7_code 13 = .ok (.iload_n 1, 1) := by decide +kernel
theorem d_Sh_faultOfRow_14 : decode prog_5_method_7_code 14 = .ok (.if_icmp .ne 7, 3) := by decide +kernel
theorem d_Sh_faultOfRow_17 : decode prog_5_method_7_code 17 = .ok (.iconst 0, 1) := by decide +kernel
theorem d_Sh_faultOfRow_18 : decode prog_5_method_7_code 18 = .ok (.goto 4, 3) := by decide +kernel
theorem d_Sh_faultOfRow_21 : decode prog_5_method_7_code 21 = .ok (.iconst 2, 1) := by decide +kernel
theorem d_Sh_faultOfRow_22 : decode prog_5_method_7_code 22 = .ok (.ireturn, 1) := by decide +kernel
abbrev y_Sh_faultOfRow : MethodName := ⟨"LoadCycles$Sheet", "faultOfRow", "(I)I"⟩
theorem mi_Sh_faultOfRow : miV y_Sh_faultOfRow prog_5_method_7_code 2 (some .int) 1 := ⟨wd_284, wd_285, wd_71, wd_286, by decide, by decide, by decide +kernel⟩
def w_Sh_faultOfRow (o : Nat) (x1 : Int32) (σ : Sg) (K : Int32 → Prop) : Prop :=
  w_Sh_hasRow o σ (fun u1 => ((¬ u1 = 0 → ((¬ (σ o 1) = x1 → K (2 : Int32)) ∧ ((σ o 1) = x1 → K (0 : Int32)))) ∧ (u1 = 0 → K (1 : Int32))))
set_option maxHeartbeats 4000000 in
theorem m_Sh_faultOfRow {Y : Yx} {o : Nat} {x1 : Int32} {σ : Sg} {K : Int32 → Prop} (hY : YD Y) (ho : kd o = 3) (h : w_Sh_faultOfRow o x1 σ K) : MetI Y y_Sh_faultOfRow prog_5_method_7_code 2 (.int) 1 20 [.ref (ya Y o), .int x1] σ (fun r τ => τ = σ ∧ K r) := by
  refine met_I [(0, .ref (ya Y o)), (1, .int x1)] hY (by decide) (Nat.le_of_ble_eq_true rfl) rfl (fun X C hr => ?_)
  unfold w_Sh_faultOfRow at h
  refine q_aload_n (pc := 0) C d_Sh_faultOfRow_0 rfl 0 rfl ?_
  refine q_callVIr (pc := 1) (st := []) (d := o) C (m_Sh_hasRow hY ho h) mi_Sh_hasRow ho (by decide) rfl wd_287 rfl rfl (Nat.le_of_ble_eq_true rfl) (by decide) (by decide) d_Sh_faultOfRow_1 (fun u1 h => ?_)
  obtain ⟨h3, h4⟩ := h
  refine q_if_ne (pc := 4) 9 C d_Sh_faultOfRow_4 (by decide) (fun hc => ?_) (fun hc => ?_)
  · have h := h3 hc
    refine q_aload_n (pc := 9) C d_Sh_faultOfRow_9 rfl 0 rfl ?_
    refine q_get (pc := 10) (c := o) (ci := 3) (k := 1) (v := .int (σ o 1)) C ho (by decide) (by decide) wd_220 rfl d_Sh_faultOfRow_10 ?_
    refine q_iload_n (pc := 13) C d_Sh_faultOfRow_13 rfl 1 rfl ?_
    obtain ⟨h1, h2⟩ := h
    refine q_icmp_ne (pc := 14) 21 C d_Sh_faultOfRow_14 (by decide) (fun hc => ?_) (fun hc => ?_)
    · have h := h1 hc
      refine q_iconst (pc := 21) (v := 2) C d_Sh_faultOfRow_21 (by decide) ?_
      exact q_iret (pc := 22) C hr d_Sh_faultOfRow_22 ⟨rfl, h⟩
    have h := h2 hc
    refine q_iconst (pc := 17) (v := 0) C d_Sh_faultOfRow_17 (by decide) ?_
    refine q_goto (pc := 18) 22 C d_Sh_faultOfRow_18 (by decide) ?_
    exact q_iret (pc := 22) C hr d_Sh_faultOfRow_22 ⟨rfl, h⟩
  have h := h4 hc
  refine q_iconst (pc := 7) (v := 1) C d_Sh_faultOfRow_7 (by decide) ?_
  exact q_iret (pc := 8) C hr d_Sh_faultOfRow_8 ⟨rfl, h⟩
theorem d_Sh_holds_0 : decode prog_5_method_5_code 0 = .ok (.iload_n 1, 1) := by decide +kernel
theorem d_Sh_holds_1 : decode prog_5_method_5_code 1 = .ok (.ifCond .lt 29, 3) := by decide +kernel
theorem d_Sh_holds_4 : decode prog_5_method_5_code 4 = .ok (.iload_n 1, 1) := by decide +kernel
theorem d_Sh_holds_5 : decode prog_5_method_5_code 5 = .ok (.aload_n 0, 1) := by decide +kernel
theorem d_Sh_holds_6 : decode prog_5_method_5_code 6 = .ok (.getfield 15, 3) := by decide +kernel
theorem d_Sh_holds_9 : decode prog_5_method_5_code 9 = .ok (.if_icmp .gt 21, 3) := by decide +kernel
theorem d_Sh_holds_12 : decode prog_5_method_5_code 12 = .ok (.iload_n 2, 1) := by decide +kernel
theorem d_Sh_holds_13 : decode prog_5_method_5_code 13 = .ok (.ifCond .lt 17, 3) := by decide +kernel
theorem d_Sh_holds_16 : decode prog_5_method_5_code 16 = .ok (.iload_n 2, 1) := by decide +kernel
theorem d_Sh_holds_17 : decode prog_5_method_5_code 17 = .ok (.aload_n 0, 1) := by decide +kernel
theorem d_Sh_holds_18 : decode prog_5_method_5_code 18 = .ok (.getfield 15, 3) := by decide +kernel
theorem d_Sh_holds_21 : decode prog_5_method_5_code 21 = .ok (.iload_n 1, 1) := by decide +kernel
theorem d_Sh_holds_22 : decode prog_5_method_5_code 22 = .ok (.isub, 1) := by decide +kernel
theorem d_Sh_holds_23 : decode prog_5_method_5_code 23 = .ok (.if_icmp .gt 7, 3) := by decide +kernel
theorem d_Sh_holds_26 : decode prog_5_method_5_code 26 = .ok (.iconst 1, 1) := by decide +kernel
theorem d_Sh_holds_27 : decode prog_5_method_5_code 27 = .ok (.goto 4, 3) := by decide +kernel
theorem d_Sh_holds_30 : decode prog_5_method_5_code 30 = .ok (.iconst 0, 1) := by decide +kernel
theorem d_Sh_holds_31 : decode prog_5_method_5_code 31 = .ok (.ireturn, 1) := by decide +kernel
abbrev y_Sh_holds : MethodName := ⟨"LoadCycles$Sheet", "holds", "(II)Z"⟩
theorem mi_Sh_holds : miV y_Sh_holds prog_5_method_5_code 3 (some .boolean) 2 := ⟨wd_292, wd_293, wd_71, wd_294, by decide, by decide, by decide +kernel⟩
def w_Sh_holds (o : Nat) (x1 : Int32) (x2 : Int32) (σ : Sg) (K : Int32 → Prop) : Prop :=
  ((x1 < 0 → K (0 : Int32)) ∧ (¬ x1 < 0 → (((σ o 2) < x1 → K (0 : Int32)) ∧ (¬ (σ o 2) < x1 → ((x2 < 0 → K (0 : Int32)) ∧ (¬ x2 < 0 → ((((σ o 2) - x1) < x2 → K (0 : Int32)) ∧ (¬ ((σ o 2) - x1) < x2 → K (1 : Int32)))))))))
set_option maxHeartbeats 4000000 in
theorem m_Sh_holds {Y : Yx} {o : Nat} {x1 : Int32} {x2 : Int32} {σ : Sg} {K : Int32 → Prop} (hY : YD Y) (ho : kd o = 3) (h : w_Sh_holds o x1 x2 σ K) : MetI Y y_Sh_holds prog_5_method_5_code 3 (.boolean) 0 0 [.ref (ya Y o), .int x1, .int x2] σ (fun r τ => τ = σ ∧ K r) := by
  refine met_I [(0, .ref (ya Y o)), (1, .int x1), (2, .int x2)] hY (by decide) (Nat.le_of_ble_eq_true rfl) rfl (fun X C hr => ?_)
  unfold w_Sh_holds at h
  refine q_iload_n (pc := 0) C d_Sh_holds_0 rfl 1 rfl ?_
  obtain ⟨h7, h8⟩ := h
  refine q_if_lt (pc := 1) 30 C d_Sh_holds_1 (by decide) (fun hc => ?_) (fun hc => ?_)
  · have h := h7 hc
    refine q_iconst (pc := 30) (v := 0) C d_Sh_holds_30 (by decide) ?_
    exact q_zret (pc := 31) C hr d_Sh_holds_31 bz0 ⟨rfl, h⟩
  have h := h8 hc
  refine q_iload_n (pc := 4) C d_Sh_holds_4 rfl 1 rfl ?_
  refine q_aload_n (pc := 5) C d_Sh_holds_5 rfl 0 rfl ?_
  refine q_get (pc := 6) (c := o) (ci := 3) (k := 2) (v := .int (σ o 2)) C ho (by decide) (by decide) wd_222 rfl d_Sh_holds_6 ?_
  obtain ⟨h5, h6⟩ := h
  refine q_icmp_gt (pc := 9) 30 C d_Sh_holds_9 (by decide) (fun hc => ?_) (fun hc => ?_)
  · have h := h5 hc
    refine q_iconst (pc := 30) (v := 0) C d_Sh_holds_30 (by decide) ?_
    exact q_zret (pc := 31) C hr d_Sh_holds_31 bz0 ⟨rfl, h⟩
  have h := h6 hc
  refine q_iload_n (pc := 12) C d_Sh_holds_12 rfl 2 rfl ?_
  obtain ⟨h3, h4⟩ := h
  refine q_if_lt (pc := 13) 30 C d_Sh_holds_13 (by decide) (fun hc => ?_) (fun hc => ?_)
  · have h := h3 hc
    refine q_iconst (pc := 30) (v := 0) C d_Sh_holds_30 (by decide) ?_
    exact q_zret (pc := 31) C hr d_Sh_holds_31 bz0 ⟨rfl, h⟩
  have h := h4 hc
  refine q_iload_n (pc := 16) C d_Sh_holds_16 rfl 2 rfl ?_
  refine q_aload_n (pc := 17) C d_Sh_holds_17 rfl 0 rfl ?_
  refine q_get (pc := 18) (c := o) (ci := 3) (k := 2) (v := .int (σ o 2)) C ho (by decide) (by decide) wd_222 rfl d_Sh_holds_18 ?_
  refine q_iload_n (pc := 21) C d_Sh_holds_21 rfl 1 rfl ?_
  refine q_isub (pc := 22) C d_Sh_holds_22 ?_
  obtain ⟨h1, h2⟩ := h
  refine q_icmp_gt (pc := 23) 30 C d_Sh_holds_23 (by decide) (fun hc => ?_) (fun hc => ?_)
  · have h := h1 hc
    refine q_iconst (pc := 30) (v := 0) C d_Sh_holds_30 (by decide) ?_
    exact q_zret (pc := 31) C hr d_Sh_holds_31 bz0 ⟨rfl, h⟩
  have h := h2 hc
  refine q_iconst (pc := 26) (v := 1) C d_Sh_holds_26 (by decide) ?_
  refine q_goto (pc := 27) 31 C d_Sh_holds_27 (by decide) ?_
  exact q_zret (pc := 31) C hr d_Sh_holds_31 bz1 ⟨rfl, h⟩
theorem d_Lc_faulted_0 : decode prog_1_method_39_code 0 = .ok (.aload_n 0, 1) := by decide +kernel
theorem d_Lc_faulted_1 : decode prog_1_method_39_code 1 = .ok (.iload_n 1, 1) := by decide +kernel
theorem d_Lc_faulted_2 : decode prog_1_method_39_code 2 = .ok (.putfield 66, 3) := by decide +kernel
theorem d_Lc_faulted_5 : decode prog_1_method_39_code 5 = .ok (.bipush (-10), 2) := by decide +kernel
theorem d_Lc_faulted_7 : decode prog_1_method_39_code 7 = .ok (.iload_n 1, 1) := by decide +kernel
theorem d_Lc_faulted_8 : decode prog_1_method_39_code 8 = .ok (.isub, 1) := by decide +kernel
theorem d_Lc_faulted_9 : decode prog_1_method_39_code 9 = .ok (.ireturn, 1) := by decide +kernel
abbrev y_Lc_faulted : MethodName := ⟨"LoadCycles", "faulted", "(I)I"⟩
theorem mi_Lc_faulted : miV y_Lc_faulted prog_1_method_39_code 2 (some .int) 1 := ⟨wd_297, wd_0, wd_65, wd_298, by decide, by decide, by decide +kernel⟩
def w_Lc_faulted (x1 : Int32) (σ : Sg) (K : Int32 → Sg → Prop) : Prop :=
  (∀ τ2 : Sg, τ2 = s2 σ 0 13 x1 → K ((-10 : Int32) - x1) τ2)
set_option maxHeartbeats 4000000 in
theorem m_Lc_faulted {Y : Yx} {x1 : Int32} {σ : Sg} {K : Int32 → Sg → Prop} (hY : YD Y)  (h : w_Lc_faulted x1 σ K) : MetI Y y_Lc_faulted prog_1_method_39_code 2 (.int) 0 0 [.ref (ya Y 0), .int x1] σ K := by
  refine met_I [(0, .ref (ya Y 0)), (1, .int x1)] hY (by decide) (Nat.le_of_ble_eq_true rfl) rfl (fun X C hr => ?_)
  unfold w_Lc_faulted at h
  refine q_aload_n (pc := 0) C d_Lc_faulted_0 rfl 0 rfl ?_
  refine q_iload_n (pc := 1) C d_Lc_faulted_1 rfl 1 rfl ?_
  refine q_put (pc := 2) (c := 0) (ci := 6) (k := 13) C rfl (by decide) (by decide) wd_243 rfl rfl rfl fs_6_13 d_Lc_faulted_2 ?_
  refine q_nms (fun τ2 eτ2 => ?_)
  replace h := h τ2 eτ2
  refine q_bipush (pc := 5) (v := -10) C d_Lc_faulted_5 (by decide) ?_
  refine q_iload_n (pc := 7) C d_Lc_faulted_7 rfl 1 rfl ?_
  refine q_isub (pc := 8) C d_Lc_faulted_8 ?_
  exact q_iret (pc := 9) C hr d_Lc_faulted_9 h
theorem d_Tr_takesOpening_0 : decode prog_6_method_4_code 0 = .ok (.aload_n 0, 1) := by decide +kernel
theorem d_Tr_takesOpening_1 : decode prog_6_method_4_code 1 = .ok (.iconst 1, 1) := by decide +kernel
theorem d_Tr_takesOpening_2 : decode prog_6_method_4_code 2 = .ok (.putfield 22, 3) := by decide +kernel
theorem d_Tr_takesOpening_5 : decode prog_6_method_4_code 5 = .ok (.iload_n 1, 1) := by decide +kernel
theorem d_Tr_takesOpening_6 : decode prog_6_method_4_code 6 = .ok (.bipush 117, 2) := by decide +kernel
theorem d_Tr_takesOpening_8 : decode prog_6_method_4_code 8 = .ok (.if_icmp .ne 7, 3) := by decide +kernel
theorem d_Tr_takesOpening_11 : decode prog_6_method_4_code 11 = .ok (.iconst 1, 1) := by decide +kernel
theorem d_Tr_takesOpening_12 : decode prog_6_method_4_code 12 = .ok (.goto 4, 3) := by decide +kernel
theorem d_Tr_takesOpening_15 : decode prog_6_method_4_code 15 = .ok (.iconst 0, 1) := by decide +kernel
theorem d_Tr_takesOpening_16 : decode prog_6_method_4_code 16 = .ok (.ireturn, 1) := by decide +kernel
abbrev y_Tr_takesOpening : MethodName := ⟨"LoadCycles$TextReader", "takesOpening", "(I)Z"⟩
theorem mi_Tr_takesOpening : miV y_Tr_takesOpening prog_6_method_4_code 2 (some .boolean) 1 := ⟨wd_309, wd_2, wd_69, wd_310, by decide, by decide, by decide +kernel⟩
def w_Tr_takesOpening (x1 : Int32) (σ : Sg) (K : Int32 → Sg → Prop) : Prop :=
  (∀ τ2 : Sg, τ2 = s2 σ 28 1 (1 : Int32) → ((¬ x1 = (117 : Int32) → K (0 : Int32) τ2) ∧ (x1 = (117 : Int32) → K (1 : Int32) τ2)))
set_option maxHeartbeats 4000000 in
theorem m_Tr_takesOpening {Y : Yx} {x1 : Int32} {σ : Sg} {K : Int32 → Sg → Prop} (hY : YD Y)  (h : w_Tr_takesOpening x1 σ K) : MetI Y y_Tr_takesOpening prog_6_method_4_code 2 (.boolean) 0 0 [.ref (ya Y 28), .int x1] σ K := by
  refine met_I [(0, .ref (ya Y 28)), (1, .int x1)] hY (by decide) (Nat.le_of_ble_eq_true rfl) rfl (fun X C hr => ?_)
  unfold w_Tr_takesOpening at h
  refine q_aload_n (pc := 0) C d_Tr_takesOpening_0 rfl 0 rfl ?_
  refine q_iconst (pc := 1) (v := 1) C d_Tr_takesOpening_1 (by decide) ?_
  refine q_put (pc := 2) (c := 28) (ci := 4) (k := 1) C rfl (by decide) (by decide) wd_190 rfl rfl rfl fs_4_1 d_Tr_takesOpening_2 ?_
  refine q_nms (fun τ2 eτ2 => ?_)
  replace h := h τ2 eτ2
  refine q_iload_n (pc := 5) C d_Tr_takesOpening_5 rfl 1 rfl ?_
  refine q_bipush (pc := 6) (v := 117) C d_Tr_takesOpening_6 (by decide) ?_
  obtain ⟨h1, h2⟩ := h
  refine q_icmp_ne (pc := 8) 15 C d_Tr_takesOpening_8 (by decide) (fun hc => ?_) (fun hc => ?_)
  · have h := h1 hc
    refine q_iconst (pc := 15) (v := 0) C d_Tr_takesOpening_15 (by decide) ?_
    exact q_zret (pc := 16) C hr d_Tr_takesOpening_16 bz0 h
  have h := h2 hc
  refine q_iconst (pc := 11) (v := 1) C d_Tr_takesOpening_11 (by decide) ?_
  refine q_goto (pc := 12) 16 C d_Tr_takesOpening_12 (by decide) ?_
  exact q_zret (pc := 16) C hr d_Tr_takesOpening_16 bz1 h
theorem d_Tr_takesMark_0 : decode prog_6_method_5_code 0 = .ok (.aload_n 0, 1) := by decide +kernel
theorem d_Tr_takesMark_1 : decode prog_6_method_5_code 1 = .ok (.iconst 2, 1) := by decide +kernel
theorem d_Tr_takesMark_2 : decode prog_6_method_5_code 2 = .ok (.putfield 22, 3) := by decide +kernel
theorem d_Tr_takesMark_5 : decode prog_6_method_5_code 5 = .ok (.iload_n 1, 1) := by decide +kernel
theorem d_Tr_takesMark_6 : decode prog_6_method_5_code 6 = .ok (.bipush 59, 2) := by decide +kernel
theorem d_Tr_takesMark_8 : decode prog_6_method_5_code 8 = .ok (.if_icmp .ne 18, 3) := by decide +kernel
theorem d_Tr_takesMark_11 : decode prog_6_method_5_code 11 = .ok (.aload_n 0, 1) := by decide +kernel
theorem d_Tr_takesMark_12 : decode prog_6_method_5_code 12 = .ok (.getfield 12, 3) := by decide +kernel
theorem d_Tr_takesMark_15 : decode prog_6_method_5_code 15 = .ok (.getfield 18, 3) := by decide +kernel
theorem d_Tr_takesMark_18 : decode prog_6_method_5_code 18 = .ok (.iconst 4, 1) := by decide +kernel
theorem d_Tr_takesMark_19 : decode prog_6_method_5_code 19 = .ok (.if_icmp .ge 7, 3) := by decide +kernel
theorem d_Tr_takesMark_22 : decode prog_6_method_5_code 22 = .ok (.iconst 1, 1) := by decide +kernel
theorem d_Tr_takesMark_23 : decode prog_6_method_5_code 23 = .ok (.goto 4, 3) := by decide +kernel
theorem d_Tr_takesMark_26 : decode prog_6_method_5_code 26 = .ok (.iconst 0, 1) := by decide +kernel
theorem d_Tr_takesMark_27 : decode prog_6_method_5_code 27 = .ok (.ireturn, 1) := by decide +kernel
abbrev y_Tr_takesMark : MethodName := ⟨"LoadCycles$TextReader", "takesMark", "(I)Z"⟩
theorem mi_Tr_takesMark : miV y_Tr_takesMark prog_6_method_5_code 2 (some .boolean) 1 := ⟨wd_313, wd_3, wd_69, wd_314, by decide, by decide, by decide +kernel⟩
def w_Tr_takesMark (x1 : Int32) (σ : Sg) (K : Int32 → Sg → Prop) : Prop :=
  (∀ τ2 : Sg, τ2 = s2 σ 28 1 (2 : Int32) → ((¬ x1 = (59 : Int32) → K (0 : Int32) τ2) ∧ (x1 = (59 : Int32) → (((4 : Int32) ≤ (τ2 11 4) → K (0 : Int32) τ2) ∧ (¬ (4 : Int32) ≤ (τ2 11 4) → K (1 : Int32) τ2)))))
set_option maxHeartbeats 4000000 in
theorem m_Tr_takesMark {Y : Yx} {x1 : Int32} {σ : Sg} {K : Int32 → Sg → Prop} (hY : YD Y)  (h : w_Tr_takesMark x1 σ K) : MetI Y y_Tr_takesMark prog_6_method_5_code 2 (.boolean) 0 0 [.ref (ya Y 28), .int x1] σ K := by
  refine met_I [(0, .ref (ya Y 28)), (1, .int x1)] hY (by decide) (Nat.le_of_ble_eq_true rfl) rfl (fun X C hr => ?_)
  unfold w_Tr_takesMark at h
  refine q_aload_n (pc := 0) C d_Tr_takesMark_0 rfl 0 rfl ?_
  refine q_iconst (pc := 1) (v := 2) C d_Tr_takesMark_1 (by decide) ?_
  refine q_put (pc := 2) (c := 28) (ci := 4) (k := 1) C rfl (by decide) (by decide) wd_190 rfl rfl rfl fs_4_1 d_Tr_takesMark_2 ?_
  refine q_nms (fun τ2 eτ2 => ?_)
  replace h := h τ2 eτ2
  refine q_iload_n (pc := 5) C d_Tr_takesMark_5 rfl 1 rfl ?_
  refine q_bipush (pc := 6) (v := 59) C d_Tr_takesMark_6 (by decide) ?_
  obtain ⟨h3, h4⟩ := h
  refine q_icmp_ne (pc := 8) 26 C d_Tr_takesMark_8 (by decide) (fun hc => ?_) (fun hc => ?_)
  · have h := h3 hc
    refine q_iconst (pc := 26) (v := 0) C d_Tr_takesMark_26 (by decide) ?_
    exact q_zret (pc := 27) C hr d_Tr_takesMark_27 bz0 h
  have h := h4 hc
  refine q_aload_n (pc := 11) C d_Tr_takesMark_11 rfl 0 rfl ?_
  refine q_get (pc := 12) (c := 28) (ci := 4) (k := 0) (v := .ref (ya Y 11)) C rfl (by decide) (by decide) wd_188 rfl d_Tr_takesMark_12 ?_
  refine q_get (pc := 15) (c := 11) (ci := 2) (k := 4) (v := .int (τ2 11 4)) C rfl (by decide) (by decide) wd_100 rfl d_Tr_takesMark_15 ?_
  refine q_iconst (pc := 18) (v := 4) C d_Tr_takesMark_18 (by decide) ?_
  obtain ⟨h1, h2⟩ := h
  refine q_icmp_ge (pc := 19) 26 C d_Tr_takesMark_19 (by decide) (fun hc => ?_) (fun hc => ?_)
  · have h := h1 hc
    refine q_iconst (pc := 26) (v := 0) C d_Tr_takesMark_26 (by decide) ?_
    exact q_zret (pc := 27) C hr d_Tr_takesMark_27 bz0 h
  have h := h2 hc
  refine q_iconst (pc := 22) (v := 1) C d_Tr_takesMark_22 (by decide) ?_
  refine q_goto (pc := 23) 27 C d_Tr_takesMark_23 (by decide) ?_
  exact q_zret (pc := 27) C hr d_Tr_takesMark_27 bz1 h
theorem d_Ho_addAppliance_0 : decode prog_4_method_6_code 0 = .ok (.aload_n 0, 1) := by decide +kernel
theorem d_Ho_addAppliance_1 : decode prog_4_method_6_code 1 = .ok (.getfield 30, 3) := by decide +kernel
theorem d_Ho_addAppliance_4 : decode prog_4_method_6_code 4 = .ok (.iconst 4, 1) := by decide +kernel
theorem d_Ho_addAppliance_5 : decode prog_4_method_6_code 5 = .ok (.if_icmp .lt 5, 3) := by decide +kernel
theorem d_Ho_addAppliance_8 : decode prog_4_method_6_code 8 = .ok (.iconst 0, 1) := by decide +kernel
theorem d_Ho_addAppliance_9 : decode prog_4_method_6_code 9 = .ok (.ireturn, 1) := by decide +kernel
theorem d_Ho_addAppliance_10 : decode prog_4_method_6_code 10 = .ok (.aload_n 0, 1) := by decide +kernel
theorem d_Ho_addAppliance_11 : decode prog_4_method_6_code 11 = .ok (.getfield 9, 3) := by decide +kernel
theorem d_Ho_addAppliance_14 : decode prog_4_method_6_code 14 = .ok (.aload_n 0, 1) := by decide +kernel
theorem d_Ho_addAppliance_15 : decode prog_4_method_6_code 15 = .ok (.getfield 30, 3) := by decide +kernel
theorem d_Ho_addAppliance_18 : decode prog_4_method_6_code 18 = .ok (.iload_n 1, 1) := by decide +kernel
theorem d_Ho_addAppliance_19 : decode prog_4_method_6_code 19 = .ok (.iastore, 1) := by decide +kernel
theorem d_Ho_addAppliance_20 : decode prog_4_method_6_code 20 = .ok (.aload_n 0, 1) := by decide +kernel
theorem d_Ho_addAppliance_21 : decode prog_4_method_6_code 21 = .ok (.getfield 15, 3) := by decide +kernel
theorem d_Ho_addAppliance_24 : decode prog_4_method_6_code 24 = .ok (.aload_n 0, 1) := by decide +kernel
theorem d_Ho_addAppliance_25 : decode prog_4_method_6_code 25 = .ok (.getfield 30, 3) := by decide +kernel
theorem d_Ho_addAppliance_28 : decode prog_4_method_6_code 28 = .ok (.iconst 0, 1) := by decide +kernel
theorem d_Ho_addAppliance_29 : decode prog_4_method_6_code 29 = .ok (.iastore, 1) := by decide +kernel
theorem d_Ho_addAppliance_30 : decode prog_4_method_6_code 30 = .ok (.aload_n 0, 1) := by decide +kernel
theorem d_Ho_addAppliance_31 : decode prog_4_method_6_code 31 = .ok (.dup, 1) := by decide +kernel
theorem d_Ho_addAppliance_32 : decode prog_4_method_6_code 32 = .ok (.getfield 30, 3) := by decide +kernel
theorem d_Ho_addAppliance_35 : decode prog_4_method_6_code 35 = .ok (.iconst 1, 1) := by decide +kernel
theorem d_Ho_addAppliance_36 : decode prog_4_method_6_code 36 = .ok (.iadd, 1) := by decide +kernel
theorem d_Ho_addAppliance_37 : decode prog_4_method_6_code 37 = .ok (.putfield 30, 3) := by decide +kernel
theorem d_Ho_addAppliance_40 : decode prog_4_method_6_code 40 = .ok (.iconst 1, 1) := by decide +kernel
theorem d_Ho_addAppliance_41 : decode prog_4_method_6_code 41 = .ok (.ireturn, 1) := by decide +kernel
abbrev y_Ho_addAppliance : MethodName := ⟨"LoadCycles$House", "addAppliance", "(I)Z"⟩
theorem mi_Ho_addAppliance : miV y_Ho_addAppliance prog_4_method_6_code 2 (some .boolean) 1 := ⟨wd_320, wd_321, wd_66, wd_322, by decide, by decide, by decide +kernel⟩
def w_Ho_addAppliance (o : Nat) (x1 : Int32) (σ : Sg) (K : Int32 → Sg → Prop) : Prop :=
  (((σ o 4) < (4 : Int32) → (vp_in (σ o 4) 4 ∧ (∀ τ19 : Sg, τ19 = s2 σ (o + 1) (σ o 4).toNatClampNeg x1 → (vp_in (τ19 o 4) 4 ∧ (∀ τ29 : Sg, τ29 = s2 τ19 (o + 2) (τ19 o 4).toNatClampNeg (0 : Int32) → (∀ τ37 : Sg, τ37 = s2 τ29 o 4 ((τ29 o 4) + (1 : Int32)) → K (1 : Int32) τ37)))))) ∧ (¬ (σ o 4) < (4 : Int32) → K (0 : Int32) σ))
set_option maxHeartbeats 4000000 in
theorem m_Ho_addAppliance {Y : Yx} {o : Nat} {x1 : Int32} {σ : Sg} {K : Int32 → Sg → Prop} (hY : YD Y) (ho : kd o = 2) (h : w_Ho_addAppliance o x1 σ K) : MetI Y y_Ho_addAppliance prog_4_method_6_code 2 (.boolean) 0 0 [.ref (ya Y o), .int x1] σ K := by
  refine met_I [(0, .ref (ya Y o)), (1, .int x1)] hY (by decide) (Nat.le_of_ble_eq_true rfl) rfl (fun X C hr => ?_)
  unfold w_Ho_addAppliance at h
  refine q_aload_n (pc := 0) C d_Ho_addAppliance_0 rfl 0 rfl ?_
  refine q_get (pc := 1) (c := o) (ci := 2) (k := 4) (v := .int (σ o 4)) C ho (by decide) (by decide) wd_102 rfl d_Ho_addAppliance_1 ?_
  refine q_iconst (pc := 4) (v := 4) C d_Ho_addAppliance_4 (by decide) ?_
  obtain ⟨h3, h4⟩ := h
  refine q_icmp_lt (pc := 5) 10 C d_Ho_addAppliance_5 (by decide) (fun hc => ?_) (fun hc => ?_)
  · have h := h3 hc
    refine q_aload_n (pc := 10) C d_Ho_addAppliance_10 rfl 0 rfl ?_
    refine q_get (pc := 11) (c := o) (ci := 2) (k := 0) (v := .ref (ya Y (o + 1))) C ho (by decide) (by decide) wd_91 rfl d_Ho_addAppliance_11 ?_
    refine q_aload_n (pc := 14) C d_Ho_addAppliance_14 rfl 0 rfl ?_
    refine q_get (pc := 15) (c := o) (ci := 2) (k := 4) (v := .int (σ o 4)) C ho (by decide) (by decide) wd_102 rfl d_Ho_addAppliance_15 ?_
    refine q_iload_n (pc := 18) C d_Ho_addAppliance_18 rfl 1 rfl ?_
    obtain ⟨h1, h⟩ := h
    refine q_iast (pc := 19) (c := (o + 1)) C (k2_1 ho) h1 d_Ho_addAppliance_19 ?_
    refine q_nms (fun τ19 eτ19 => ?_)
    replace h := h τ19 eτ19
    refine q_aload_n (pc := 20) C d_Ho_addAppliance_20 rfl 0 rfl ?_
    refine q_get (pc := 21) (c := o) (ci := 2) (k := 1) (v := .ref (ya Y (o + 2))) C ho (by decide) (by decide) wd_93 rfl d_Ho_addAppliance_21 ?_
    refine q_aload_n (pc := 24) C d_Ho_addAppliance_24 rfl 0 rfl ?_
    refine q_get (pc := 25) (c := o) (ci := 2) (k := 4) (v := .int (τ19 o 4)) C ho (by decide) (by decide) wd_102 rfl d_Ho_addAppliance_25 ?_
    refine q_iconst (pc := 28) (v := 0) C d_Ho_addAppliance_28 (by decide) ?_
    obtain ⟨h2, h⟩ := h
    refine q_iast (pc := 29) (c := (o + 2)) C (k2_2 ho) h2 d_Ho_addAppliance_29 ?_
    refine q_nms (fun τ29 eτ29 => ?_)
    replace h := h τ29 eτ29
    refine q_aload_n (pc := 30) C d_Ho_addAppliance_30 rfl 0 rfl ?_
    refine q_dup (pc := 31) C d_Ho_addAppliance_31 rfl ?_
    refine q_get (pc := 32) (c := o) (ci := 2) (k := 4) (v := .int (τ29 o 4)) C ho (by decide) (by decide) wd_102 rfl d_Ho_addAppliance_32 ?_
    refine q_iconst (pc := 35) (v := 1) C d_Ho_addAppliance_35 (by decide) ?_
    refine q_iadd (pc := 36) C d_Ho_addAppliance_36 ?_
    refine q_put (pc := 37) (c := o) (ci := 2) (k := 4) C ho (by decide) (by decide) wd_102 rfl rfl rfl fs_2_4 d_Ho_addAppliance_37 ?_
    refine q_nms (fun τ37 eτ37 => ?_)
    replace h := h τ37 eτ37
    refine q_iconst (pc := 40) (v := 1) C d_Ho_addAppliance_40 (by decide) ?_
    exact q_zret (pc := 41) C hr d_Ho_addAppliance_41 bz1 h
  have h := h4 hc
  refine q_iconst (pc := 8) (v := 0) C d_Ho_addAppliance_8 (by decide) ?_
  exact q_zret (pc := 9) C hr d_Ho_addAppliance_9 bz0 h
theorem d_Tr_takesKind_0 : decode prog_6_method_6_code 0 = .ok (.aload_n 0, 1) := by decide +kernel
theorem d_Tr_takesKind_1 : decode prog_6_method_6_code 1 = .ok (.iconst 3, 1) := by decide +kernel
theorem d_Tr_takesKind_2 : decode prog_6_method_6_code 2 = .ok (.putfield 22, 3) := by decide +kernel
theorem d_Tr_takesKind_5 : decode prog_6_method_6_code 5 = .ok (.iload_n 1, 1) := by decide +kernel
theorem d_Tr_takesKind_6 : decode prog_6_method_6_code 6 = .ok (.lookupswitch 61 #[(68, 52), (72, 43), (80, 34)], 34) := by decide +kernel
theorem d_Tr_takesKind_40 : decode prog_6_method_6_code 40 = .ok (.aload_n 0, 1) := by decide +kernel
theorem d_Tr_takesKind_41 : decode prog_6_method_6_code 41 = .ok (.getfield 12, 3) := by decide +kernel
theorem d_Tr_takesKind_44 : decode prog_6_method_6_code 44 = .ok (.iconst 0, 1) := by decide +kernel
theorem d_Tr_takesKind_45 : decode prog_6_method_6_code 45 = .ok (.invokevirtual 47, 3) := by decide +kernel
theorem d_Tr_takesKind_48 : decode prog_6_method_6_code 48 = .ok (.ireturn, 1) := by decide +kernel
theorem d_Tr_takesKind_49 : decode prog_6_method_6_code 49 = .ok (.aload_n 0, 1) := by decide +kernel
theorem d_Tr_takesKind_50 : decode prog_6_method_6_code 50 = .ok (.getfield 12, 3) := by decide +kernel
theorem d_Tr_takesKind_53 : decode prog_6_method_6_code 53 = .ok (.iconst 1, 1) := by decide +kernel
theorem d_Tr_takesKind_54 : decode prog_6_method_6_code 54 = .ok (.invokevirtual 47, 3) := by decide +kernel
theorem d_Tr_takesKind_57 : decode prog_6_method_6_code 57 = .ok (.ireturn, 1) := by decide +kernel
theorem d_Tr_takesKind_58 : decode prog_6_method_6_code 58 = .ok (.aload_n 0, 1) := by decide +kernel
theorem d_Tr_takesKind_59 : decode prog_6_method_6_code 59 = .ok (.getfield 12, 3) := by decide +kernel
theorem d_Tr_takesKind_62 : decode prog_6_method_6_code 62 = .ok (.iconst 2, 1) := by decide +kernel
theorem d_Tr_takesKind_63 : decode prog_6_method_6_code 63 = .ok (.invokevirtual 47, 3) := by decide +kernel
theorem d_Tr_takesKind_66 : decode prog_6_method_6_code 66 = .ok (.ireturn, 1) := by decide +kernel
theorem d_Tr_takesKind_67 : decode prog_6_method_6_code 67 = .ok (.iconst 0, 1) := by decide +kernel
theorem d_Tr_takesKind_68 : decode prog_6_method_6_code 68 = .ok (.ireturn, 1) := by decide +kernel
abbrev y_Tr_takesKind : MethodName := ⟨"LoadCycles$TextReader", "takesKind", "(I)Z"⟩
theorem mi_Tr_takesKind : miV y_Tr_takesKind prog_6_method_6_code 2 (some .boolean) 1 := ⟨wd_317, wd_4, wd_69, wd_318, by decide, by decide, by decide +kernel⟩
def w_Tr_takesKind (x1 : Int32) (σ : Sg) (K : Int32 → Sg → Prop) : Prop :=
  (∀ τ2 : Sg, τ2 = s2 σ 28 1 (3 : Int32) → ((x1 = (68 : Int32) → w_Ho_addAppliance 11 (2 : Int32) τ2 (fun u63 τ63 => (bz u63 ∧ K u63 τ63))) ∧ (x1 = (72 : Int32) → w_Ho_addAppliance 11 (1 : Int32) τ2 (fun u54 τ54 => (bz u54 ∧ K u54 τ54))) ∧ (x1 = (80 : Int32) → w_Ho_addAppliance 11 (0 : Int32) τ2 (fun u45 τ45 => (bz u45 ∧ K u45 τ45))) ∧ (¬ x1 = (68 : Int32) → ¬ x1 = (72 : Int32) → ¬ x1 = (80 : Int32) → K (0 : Int32) τ2)))
set_option maxHeartbeats 4000000 in
theorem m_Tr_takesKind {Y : Yx} {x1 : Int32} {σ : Sg} {K : Int32 → Sg → Prop} (hY : YD Y)  (h : w_Tr_takesKind x1 σ K) : MetI Y y_Tr_takesKind prog_6_method_6_code 2 (.boolean) 1 21 [.ref (ya Y 28), .int x1] σ K := by
  refine met_I [(0, .ref (ya Y 28)), (1, .int x1)] hY (by decide) (Nat.le_of_ble_eq_true rfl) rfl (fun X C hr => ?_)
  unfold w_Tr_takesKind at h
  refine q_aload_n (pc := 0) C d_Tr_takesKind_0 rfl 0 rfl ?_
  refine q_iconst (pc := 1) (v := 3) C d_Tr_takesKind_1 (by decide) ?_
  refine q_put (pc := 2) (c := 28) (ci := 4) (k := 1) C rfl (by decide) (by decide) wd_190 rfl rfl rfl fs_4_1 d_Tr_takesKind_2 ?_
  refine q_nms (fun τ2 eτ2 => ?_)
  replace h := h τ2 eτ2
  refine q_iload_n (pc := 5) C d_Tr_takesKind_5 rfl 1 rfl ?_
  obtain ⟨h3, h6, h9, h10⟩ := h
  by_cases h2 : x1 = (68 : Int32)
  · refine q_lookupK (pc := 6) 58 (k := 68) (off := 52) C h2 (by decide) d_Tr_takesKind_6 (by decide) (by decide) (by decide) ?_
    have h := h3 h2
    refine q_aload_n (pc := 58) C d_Tr_takesKind_58 rfl 0 rfl ?_
    refine q_get (pc := 59) (c := 28) (ci := 4) (k := 0) (v := .ref (ya Y 11)) C rfl (by decide) (by decide) wd_188 rfl d_Tr_takesKind_59 ?_
    refine q_iconst (pc := 62) (v := 2) C d_Tr_takesKind_62 (by decide) ?_
    refine q_callVI (pc := 63) (st := []) (d := 11) C (m_Ho_addAppliance hY rfl h) mi_Ho_addAppliance rfl (by decide) rfl wd_319 rfl rfl (Nat.le_of_ble_eq_true rfl) (by decide) (by decide) d_Tr_takesKind_63 (fun u63 τ63 h => ?_)
    obtain ⟨h1, h⟩ := h
    exact q_zret (pc := 66) C hr d_Tr_takesKind_66 h1 h
  by_cases h5 : x1 = (72 : Int32)
  · refine q_lookupK (pc := 6) 49 (k := 72) (off := 43) C h5 (by decide) d_Tr_takesKind_6 (by decide) (by decide) (by decide) ?_
    have h := h6 h5
    refine q_aload_n (pc := 49) C d_Tr_takesKind_49 rfl 0 rfl ?_
    refine q_get (pc := 50) (c := 28) (ci := 4) (k := 0) (v := .ref (ya Y 11)) C rfl (by decide) (by decide) wd_188 rfl d_Tr_takesKind_50 ?_
    refine q_iconst (pc := 53) (v := 1) C d_Tr_takesKind_53 (by decide) ?_
    refine q_callVI (pc := 54) (st := []) (d := 11) C (m_Ho_addAppliance hY rfl h) mi_Ho_addAppliance rfl (by decide) rfl wd_319 rfl rfl (Nat.le_of_ble_eq_true rfl) (by decide) (by decide) d_Tr_takesKind_54 (fun u54 τ54 h => ?_)
    obtain ⟨h4, h⟩ := h
    exact q_zret (pc := 57) C hr d_Tr_takesKind_57 h4 h
  by_cases h8 : x1 = (80 : Int32)
  · refine q_lookupK (pc := 6) 40 (k := 80) (off := 34) C h8 (by decide) d_Tr_takesKind_6 (by decide) (by decide) (by decide) ?_
    have h := h9 h8
    refine q_aload_n (pc := 40) C d_Tr_takesKind_40 rfl 0 rfl ?_
    refine q_get (pc := 41) (c := 28) (ci := 4) (k := 0) (v := .ref (ya Y 11)) C rfl (by decide) (by decide) wd_188 rfl d_Tr_takesKind_41 ?_
    refine q_iconst (pc := 44) (v := 0) C d_Tr_takesKind_44 (by decide) ?_
    refine q_callVI (pc := 45) (st := []) (d := 11) C (m_Ho_addAppliance hY rfl h) mi_Ho_addAppliance rfl (by decide) rfl wd_319 rfl rfl (Nat.le_of_ble_eq_true rfl) (by decide) (by decide) d_Tr_takesKind_45 (fun u45 τ45 h => ?_)
    obtain ⟨h7, h⟩ := h
    exact q_zret (pc := 48) C hr d_Tr_takesKind_48 h7 h
  refine q_lookup (pc := 6) 67 (off := 61) C d_Tr_takesKind_6 (by decide) (by show Op.lookupswitch.offset [(68, 52), (72, 43), (80, 34)] 61 _ = _; rw [Op.lookupswitch.offset_cons, if_neg (Ne.symm (sw_ne (k := 68) rfl h2)), Op.lookupswitch.offset_cons, if_neg (Ne.symm (sw_ne (k := 72) rfl h5)), Op.lookupswitch.offset_cons, if_neg (Ne.symm (sw_ne (k := 80) rfl h8))]; rfl) (by decide) ?_
  have h := h10 h2 h5 h8
  refine q_iconst (pc := 67) (v := 0) C d_Tr_takesKind_67 (by decide) ?_
  exact q_zret (pc := 68) C hr d_Tr_takesKind_68 bz0 h
theorem d_Lc_isLevelValue_0 : decode prog_1_method_36_code 0 = .ok (.iload_n 0, 1) := by decide +kernel
theorem d_Lc_isLevelValue_1 : decode prog_1_method_36_code 1 = .ok (.iconst 1, 1) := by decide +kernel
theorem d_Lc_isLevelValue_2 : decode prog_1_method_36_code 2 = .ok (.if_icmp .lt 13, 3) := by decide +kernel
theorem d_Lc_isLevelValue_5 : decode prog_1_method_36_code 5 = .ok (.iload_n 0, 1) := by decide +kernel
theorem d_Lc_isLevelValue_6 : decode prog_1_method_36_code 6 = .ok (.bipush 9, 2) := by decide +kernel
theorem d_Lc_isLevelValue_8 : decode prog_1_method_36_code 8 = .ok (.if_icmp .gt 7, 3) := by decide +kernel
theorem d_Lc_isLevelValue_11 : decode prog_1_method_36_code 11 = .ok (.iconst 1, 1) := by decide +kernel
theorem d_Lc_isLevelValue_12 : decode prog_1_method_36_code 12 = .ok (.goto 4, 3) := by decide +kernel
theorem d_Lc_isLevelValue_15 : decode prog_1_method_36_code 15 = .ok (.iconst 0, 1) := by decide +kernel
theorem d_Lc_isLevelValue_16 : decode prog_1_method_36_code 16 = .ok (.ireturn, 1) := by decide +kernel
abbrev y_Lc_isLevelValue : MethodName := ⟨"LoadCycles", "isLevelValue", "(I)Z"⟩
theorem mi_Lc_isLevelValue : miS y_Lc_isLevelValue prog_1_method_36_code 1 (some .boolean) 1 := ⟨wd_328, wd_65, wd_329, by decide, by decide, by decide +kernel⟩
def w_Lc_isLevelValue (x0 : Int32) (σ : Sg) (K : Int32 → Prop) : Prop :=
  ((x0 < (1 : Int32) → K (0 : Int32)) ∧ (¬ x0 < (1 : Int32) → (((9 : Int32) < x0 → K (0 : Int32)) ∧ (¬ (9 : Int32) < x0 → K (1 : Int32)))))
set_option maxHeartbeats 4000000 in
theorem m_Lc_isLevelValue {Y : Yx} {x0 : Int32} {σ : Sg} {K : Int32 → Prop} (hY : YD Y)  (h : w_Lc_isLevelValue x0 σ K) : MetI Y y_Lc_isLevelValue prog_1_method_36_code 1 (.boolean) 0 0 [.int x0] σ (fun r τ => τ = σ ∧ K r) := by
  refine met_I [(0, .int x0)] hY (by decide) (Nat.le_of_ble_eq_true rfl) rfl (fun X C hr => ?_)
  unfold w_Lc_isLevelValue at h
  refine q_iload_n (pc := 0) C d_Lc_isLevelValue_0 rfl 0 rfl ?_
  refine q_iconst (pc := 1) (v := 1) C d_Lc_isLevelValue_1 (by decide) ?_
  obtain ⟨h3, h4⟩ := h
  refine q_icmp_lt (pc := 2) 15 C d_Lc_isLevelValue_2 (by decide) (fun hc => ?_) (fun hc => ?_)
  · have h := h3 hc
    refine q_iconst (pc := 15) (v := 0) C d_Lc_isLevelValue_15 (by decide) ?_
    exact q_zret (pc := 16) C hr d_Lc_isLevelValue_16 bz0 ⟨rfl, h⟩
  have h := h4 hc
  refine q_iload_n (pc := 5) C d_Lc_isLevelValue_5 rfl 0 rfl ?_
  refine q_bipush (pc := 6) (v := 9) C d_Lc_isLevelValue_6 (by decide) ?_
  obtain ⟨h1, h2⟩ := h
  refine q_icmp_gt (pc := 8) 15 C d_Lc_isLevelValue_8 (by decide) (fun hc => ?_) (fun hc => ?_)
  · have h := h1 hc
    refine q_iconst (pc := 15) (v := 0) C d_Lc_isLevelValue_15 (by decide) ?_
    exact q_zret (pc := 16) C hr d_Lc_isLevelValue_16 bz0 ⟨rfl, h⟩
  have h := h2 hc
  refine q_iconst (pc := 11) (v := 1) C d_Lc_isLevelValue_11 (by decide) ?_
  refine q_goto (pc := 12) 16 C d_Lc_isLevelValue_12 (by decide) ?_
  exact q_zret (pc := 16) C hr d_Lc_isLevelValue_16 bz1 ⟨rfl, h⟩
theorem d_Ho_setLevel_0 : decode prog_4_method_9_code 0 = .ok (.aload_n 0, 1) := by decide +kernel
theorem d_Ho_setLevel_1 : decode prog_4_method_9_code 1 = .ok (.getfield 18, 3) := by decide +kernel
theorem d_Ho_setLevel_4 : decode prog_4_method_9_code 4 = .ok (.iconst 3, 1) := by decide +kernel
theorem d_Ho_setLevel_5 : decode prog_4_method_9_code 5 = .ok (.iload_n 1, 1) := by decide +kernel
theorem d_Ho_setLevel_6 : decode prog_4_method_9_code 6 = .ok (.imul, 1) := by decide +kernel
theorem d_Ho_setLevel_7 : decode prog_4_method_9_code 7 = .ok (.iload_n 2, 1) := by decide +kernel
theorem d_Ho_setLevel_8 : decode prog_4_method_9_code 8 = .ok (.iadd, 1) := by decide +kernel
theorem d_Ho_setLevel_9 : decode prog_4_method_9_code 9 = .ok (.iload_n 3, 1) := by decide +kernel
theorem d_Ho_setLevel_10 : decode prog_4_method_9_code 10 = .ok (.iastore, 1) := by decide +kernel
theorem d_Ho_setLevel_11 : decode prog_4_method_9_code 11 = .ok (.return_, 1) := by decide +kernel
abbrev y_Ho_setLevel : MethodName := ⟨"LoadCycles$House", "setLevel", "(III)V"⟩
theorem mi_Ho_setLevel : miV y_Ho_setLevel prog_4_method_9_code 4 none 3 := ⟨wd_335, wd_336, wd_66, wd_337, by decide, by decide, by decide +kernel⟩
def w_Ho_setLevel (o : Nat) (x1 : Int32) (x2 : Int32) (x3 : Int32) (σ : Sg) (K : Sg → Prop) : Prop :=
  (vp_in (((3 : Int32) * x1) + x2) 12 ∧ (∀ τ10 : Sg, τ10 = s2 σ (o + 3) (((3 : Int32) * x1) + x2).toNatClampNeg x3 → K τ10))
set_option maxHeartbeats 4000000 in
theorem m_Ho_setLevel {Y : Yx} {o : Nat} {x1 : Int32} {x2 : Int32} {x3 : Int32} {σ : Sg} {K : Sg → Prop} (hY : YD Y) (ho : kd o = 2) (h : w_Ho_setLevel o x1 x2 x3 σ K) : MetV Y y_Ho_setLevel prog_4_method_9_code 4 0 0 [.ref (ya Y o), .int x1, .int x2, .int x3] σ K := by
  refine met_V [(0, .ref (ya Y o)), (1, .int x1), (2, .int x2), (3, .int x3)] hY (by decide) (Nat.le_of_ble_eq_true rfl) rfl (fun X C hr => ?_)
  unfold w_Ho_setLevel at h
  refine q_aload_n (pc := 0) C d_Ho_setLevel_0 rfl 0 rfl ?_
  refine q_get (pc := 1) (c := o) (ci := 2) (k := 2) (v := .ref (ya Y (o + 3))) C ho (by decide) (by decide) wd_96 rfl d_Ho_setLevel_1 ?_
  refine q_iconst (pc := 4) (v := 3) C d_Ho_setLevel_4 (by decide) ?_
  refine q_iload_n (pc := 5) C d_Ho_setLevel_5 rfl 1 rfl ?_
  refine q_imul (pc := 6) C d_Ho_setLevel_6 ?_
  refine q_iload_n (pc := 7) C d_Ho_setLevel_7 rfl 2 rfl ?_
  refine q_iadd (pc := 8) C d_Ho_setLevel_8 ?_
  refine q_iload_n (pc := 9) C d_Ho_setLevel_9 rfl 3 rfl ?_
  obtain ⟨h1, h⟩ := h
  refine q_iast (pc := 10) (c := (o + 3)) C (k2_3 ho) h1 d_Ho_setLevel_10 ?_
  refine q_nms (fun τ10 eτ10 => ?_)
  replace h := h τ10 eτ10
  exact q_vret (pc := 11) C hr d_Ho_setLevel_11 h
theorem d_Ho_addLevel_0 : decode prog_4_method_7_code 0 = .ok (.aload_n 0, 1) := by decide +kernel
theorem d_Ho_addLevel_1 : decode prog_4_method_7_code 1 = .ok (.getfield 30, 3) := by decide +kernel
theorem d_Ho_addLevel_4 : decode prog_4_method_7_code 4 = .ok (.iconst 1, 1) := by decide +kernel
theorem d_Ho_addLevel_5 : decode prog_4_method_7_code 5 = .ok (.isub, 1) := by decide +kernel
theorem d_Ho_addLevel_6 : decode prog_4_method_7_code 6 = .ok (.istore_n 2, 1) := by decide +kernel
theorem d_Ho_addLevel_7 : decode prog_4_method_7_code 7 = .ok (.iload_n 2, 1) := by decide +kernel
theorem d_Ho_addLevel_8 : decode prog_4_method_7_code 8 = .ok (.ifCond .lt 13, 3) := by decide +kernel
theorem d_Ho_addLevel_11 : decode prog_4_method_7_code 11 = .ok (.aload_n 0, 1) := by decide +kernel
theorem d_Ho_addLevel_12 : decode prog_4_method_7_code 12 = .ok (.getfield 15, 3) := by decide +kernel
theorem d_Ho_addLevel_15 : decode prog_4_method_7_code 15 = .ok (.iload_n 2, 1) := by decide +kernel
theorem d_Ho_addLevel_16 : decode prog_4_method_7_code 16 = .ok (.iaload, 1) := by decide +kernel
theorem d_Ho_addLevel_17 : decode prog_4_method_7_code 17 = .ok (.iconst 3, 1) := by decide +kernel
theorem d_Ho_addLevel_18 : decode prog_4_method_7_code 18 = .ok (.if_icmp .lt 5, 3) := by decide +kernel
theorem d_Ho_addLevel_21 : decode prog_4_method_7_code 21 = .ok (.iconst 0, 1) := by decide +kernel
theorem d_Ho_addLevel_22 : decode prog_4_method_7_code 22 = .ok (.ireturn, 1) := by decide +kernel
theorem d_Ho_addLevel_23 : decode prog_4_method_7_code 23 = .ok (.aload_n 0, 1) := by decide +kernel
theorem d_Ho_addLevel_24 : decode prog_4_method_7_code 24 = .ok (.getfield 15, 3) := by decide +kernel
theorem d_Ho_addLevel_27 : decode prog_4_method_7_code 27 = .ok (.iload_n 2, 1) := by decide +kernel
theorem d_Ho_addLevel_28 : decode prog_4_method_7_code 28 = .ok (.dup2, 1) := by decide +kernel
theorem d_Ho_addLevel_29 : decode prog_4_method_7_code 29 = .ok (.iaload, 1) := by decide +kernel
theorem d_Ho_addLevel_30 : decode prog_4_method_7_code 30 = .ok (.iconst 1, 1) := by decide +kernel
theorem d_Ho_addLevel_31 : decode prog_4_method_7_code 31 = .ok (.iadd, 1) := by decide +kernel
theorem d_Ho_addLevel_32 : decode prog_4_method_7_code 32 = .ok (.iastore, 1) := by decide +kernel
theorem d_Ho_addLevel_33 : decode prog_4_method_7_code 33 = .ok (.aload_n 0, 1) := by decide +kernel
theorem d_Ho_addLevel_34 : decode prog_4_method_7_code 34 = .ok (.iload_n 2, 1) := by decide +kernel
theorem d_Ho_addLevel_35 : decode prog_4_method_7_code 35 = .ok (.aload_n 0, 1) := by decide +kernel
theorem d_Ho_addLevel_36 : decode prog_4_method_7_code 36 = .ok (.getfield 15, 3) := by decide +kernel
theorem d_Ho_addLevel_39 : decode prog_4_method_7_code 39 = .ok (.iload_n 2, 1) := by decide +kernel
theorem d_Ho_addLevel_40 : decode prog_4_method_7_code 40 = .ok (.iaload, 1) := by decide +kernel
theorem d_Ho_addLevel_41 : decode prog_4_method_7_code 41 = .ok (.iconst 1, 1) := by decide +kernel
theorem d_Ho_addLevel_42 : decode prog_4_method_7_code 42 = .ok (.isub, 1) := by decide +kernel
theorem d_Ho_addLevel_43 : decode prog_4_method_7_code 43 = .ok (.iload_n 1, 1) := by decide +kernel
theorem d_Ho_addLevel_44 : decode prog_4_method_7_code 44 = .ok (.invokevirtual 40, 3) := by decide +kernel
theorem d_Ho_addLevel_47 : decode prog_4_method_7_code 47 = .ok (.iconst 1, 1) := by decide +kernel
theorem d_Ho_addLevel_48 : decode prog_4_method_7_code 48 = .ok (.ireturn, 1) := by decide +kernel
abbrev y_Ho_addLevel : MethodName := ⟨"LoadCycles$House", "addLevel", "(I)Z"⟩
theorem mi_Ho_addLevel : miV y_Ho_addLevel prog_4_method_7_code 3 (some .boolean) 1 := ⟨wd_331, wd_332, wd_66, wd_333, by decide, by decide, by decide +kernel⟩
def w_Ho_addLevel (o : Nat) (x1 : Int32) (σ : Sg) (K : Int32 → Sg → Prop) : Prop :=
  (∀ y2_6 : Int32, y2_6 = ((σ o 4) - (1 : Int32)) → ((y2_6 < 0 → K (0 : Int32) σ) ∧ (¬ y2_6 < 0 → (vp_in y2_6 4 ∧ (((σ (o + 2) y2_6.toNatClampNeg) < (3 : Int32) → (vp_in y2_6 4 ∧ (vp_in y2_6 4 ∧ (∀ τ32 : Sg, τ32 = s2 σ (o + 2) y2_6.toNatClampNeg ((σ (o + 2) y2_6.toNatClampNeg) + (1 : Int32)) → (vp_in y2_6 4 ∧ w_Ho_setLevel o y2_6 ((τ32 (o + 2) y2_6.toNatClampNeg) - (1 : Int32)) x1 τ32 (fun τ44 => K (1 : Int32) τ44)))))) ∧ (¬ (σ (o + 2) y2_6.toNatClampNeg) < (3 : Int32) → K (0 : Int32) σ))))))
set_option maxHeartbeats 4000000 in
theorem m_Ho_addLevel {Y : Yx} {o : Nat} {x1 : Int32} {σ : Sg} {K : Int32 → Sg → Prop} (hY : YD Y) (ho : kd o = 2) (h : w_Ho_addLevel o x1 σ K) : MetI Y y_Ho_addLevel prog_4_method_7_code 3 (.boolean) 1 23 [.ref (ya Y o), .int x1] σ K := by
  refine met_I [(0, .ref (ya Y o)), (1, .int x1)] hY (by decide) (Nat.le_of_ble_eq_true rfl) rfl (fun X C hr => ?_)
  unfold w_Ho_addLevel at h
  refine q_aload_n (pc := 0) C d_Ho_addLevel_0 rfl 0 rfl ?_
  refine q_get (pc := 1) (c := o) (ci := 2) (k := 4) (v := .int (σ o 4)) C ho (by decide) (by decide) wd_102 rfl d_Ho_addLevel_1 ?_
  refine q_iconst (pc := 4) (v := 1) C d_Ho_addLevel_4 (by decide) ?_
  refine q_isub (pc := 5) C d_Ho_addLevel_5 ?_
  refine q_nmi (fun y2_6 ey2_6 => ?_)
  replace h := h y2_6 ey2_6
  refine q_istore_n (pc := 6) [(2, .int y2_6), (0, .ref (ya Y o)), (1, .int x1)] C d_Ho_addLevel_6 rfl (by decide) rfl ?_
  refine q_iload_n (pc := 7) C d_Ho_addLevel_7 rfl 0 rfl ?_
  obtain ⟨h7, h8⟩ := h
  refine q_if_lt (pc := 8) 21 C d_Ho_addLevel_8 (by decide) (fun hc => ?_) (fun hc => ?_)
  · have h := h7 hc
    refine q_iconst (pc := 21) (v := 0) C d_Ho_addLevel_21 (by decide) ?_
    exact q_zret (pc := 22) C hr d_Ho_addLevel_22 bz0 h
  have h := h8 hc
  refine q_aload_n (pc := 11) C d_Ho_addLevel_11 rfl 1 rfl ?_
  refine q_get (pc := 12) (c := o) (ci := 2) (k := 1) (v := .ref (ya Y (o + 2))) C ho (by decide) (by decide) wd_93 rfl d_Ho_addLevel_12 ?_
  refine q_iload_n (pc := 15) C d_Ho_addLevel_15 rfl 0 rfl ?_
  obtain ⟨h1, h⟩ := h
  refine q_iald (pc := 16) (c := (o + 2)) C (k2_2 ho) h1 d_Ho_addLevel_16 ?_
  refine q_iconst (pc := 17) (v := 3) C d_Ho_addLevel_17 (by decide) ?_
  obtain ⟨h5, h6⟩ := h
  refine q_icmp_lt (pc := 18) 23 C d_Ho_addLevel_18 (by decide) (fun hc => ?_) (fun hc => ?_)
  · have h := h5 hc
    refine q_aload_n (pc := 23) C d_Ho_addLevel_23 rfl 1 rfl ?_
    refine q_get (pc := 24) (c := o) (ci := 2) (k := 1) (v := .ref (ya Y (o + 2))) C ho (by decide) (by decide) wd_93 rfl d_Ho_addLevel_24 ?_
    refine q_iload_n (pc := 27) C d_Ho_addLevel_27 rfl 0 rfl ?_
    refine q_dup2 (pc := 28) C d_Ho_addLevel_28 rfl rfl ?_
    obtain ⟨h2, h⟩ := h
    refine q_iald (pc := 29) (c := (o + 2)) C (k2_2 ho) h2 d_Ho_addLevel_29 ?_
    refine q_iconst (pc := 30) (v := 1) C d_Ho_addLevel_30 (by decide) ?_
    refine q_iadd (pc := 31) C d_Ho_addLevel_31 ?_
    obtain ⟨h3, h⟩ := h
    refine q_iast (pc := 32) (c := (o + 2)) C (k2_2 ho) h3 d_Ho_addLevel_32 ?_
    refine q_nms (fun τ32 eτ32 => ?_)
    replace h := h τ32 eτ32
    refine q_aload_n (pc := 33) C d_Ho_addLevel_33 rfl 1 rfl ?_
    refine q_iload_n (pc := 34) C d_Ho_addLevel_34 rfl 0 rfl ?_
    refine q_aload_n (pc := 35) C d_Ho_addLevel_35 rfl 1 rfl ?_
    refine q_get (pc := 36) (c := o) (ci := 2) (k := 1) (v := .ref (ya Y (o + 2))) C ho (by decide) (by decide) wd_93 rfl d_Ho_addLevel_36 ?_
    refine q_iload_n (pc := 39) C d_Ho_addLevel_39 rfl 0 rfl ?_
    obtain ⟨h4, h⟩ := h
    refine q_iald (pc := 40) (c := (o + 2)) C (k2_2 ho) h4 d_Ho_addLevel_40 ?_
    refine q_iconst (pc := 41) (v := 1) C d_Ho_addLevel_41 (by decide) ?_
    refine q_isub (pc := 42) C d_Ho_addLevel_42 ?_
    refine q_iload_n (pc := 43) C d_Ho_addLevel_43 rfl 2 rfl ?_
    refine q_callVV (pc := 44) (st := []) (d := o) C (m_Ho_setLevel hY ho h) mi_Ho_setLevel ho (by decide) rfl wd_334 rfl rfl (Nat.le_of_ble_eq_true rfl) (by decide) (by decide) d_Ho_addLevel_44 (fun τ44 h => ?_)
    refine q_iconst (pc := 47) (v := 1) C d_Ho_addLevel_47 (by decide) ?_
    exact q_zret (pc := 48) C hr d_Ho_addLevel_48 bz1 h
  have h := h6 hc
  refine q_iconst (pc := 21) (v := 0) C d_Ho_addLevel_21 (by decide) ?_
  exact q_zret (pc := 22) C hr d_Ho_addLevel_22 bz0 h
theorem d_Tr_takesLevel_0 : decode prog_6_method_7_code 0 = .ok (.aload_n 0, 1) := by decide +kernel
theorem d_Tr_takesLevel_1 : decode prog_6_method_7_code 1 = .ok (.iconst 4, 1) := by decide +kernel
theorem d_Tr_takesLevel_2 : decode prog_6_method_7_code 2 = .ok (.putfield 22, 3) := by decide +kernel
theorem d_Tr_takesLevel_5 : decode prog_6_method_7_code 5 = .ok (.iload_n 1, 1) := by decide +kernel
theorem d_Tr_takesLevel_6 : decode prog_6_method_7_code 6 = .ok (.bipush 48, 2) := by decide +kernel
theorem d_Tr_takesLevel_8 : decode prog_6_method_7_code 8 = .ok (.isub, 1) := by decide +kernel
theorem d_Tr_takesLevel_9 : decode prog_6_method_7_code 9 = .ok (.invokestatic 50, 3) := by decide +kernel
theorem d_Tr_takesLevel_12 : decode prog_6_method_7_code 12 = .ok (.ifCond .eq 21, 3) := by decide +kernel
theorem d_Tr_takesLevel_15 : decode prog_6_method_7_code 15 = .ok (.aload_n 0, 1) := by decide +kernel
theorem d_Tr_takesLevel_16 : decode prog_6_method_7_code 16 = .ok (.getfield 12, 3) := by decide +kernel
theorem d_Tr_takesLevel_19 : decode prog_6_method_7_code 19 = .ok (.iload_n 1, 1) := by decide +kernel
theorem d_Tr_takesLevel_20 : decode prog_6_method_7_code 20 = .ok (.bipush 48, 2) := by decide +kernel
theorem d_Tr_takesLevel_22 : decode prog_6_method_7_code 22 = .ok (.isub, 1) := by decide +kernel
theorem d_Tr_takesLevel_23 : decode prog_6_method_7_code 23 = .ok (.invokevirtual 53, 3) := by decide +kernel
theorem d_Tr_takesLevel_26 : decode prog_6_method_7_code 26 = .ok (.ifCond .eq 7, 3) := by decide +kernel
theorem d_Tr_takesLevel_29 : decode prog_6_method_7_code 29 = .ok (.iconst 1, 1) := by decide +kernel
theorem d_Tr_takesLevel_30 : decode prog_6_method_7_code 30 = .ok (.goto 4, 3) := by decide +kernel
theorem d_Tr_takesLevel_33 : decode prog_6_method_7_code 33 = .ok (.iconst 0, 1) := by decide +kernel
theorem d_Tr_takesLevel_34 : decode prog_6_method_7_code 34 = .ok (.ireturn, 1) := by decide +kernel
abbrev y_Tr_takesLevel : MethodName := ⟨"LoadCycles$TextReader", "takesLevel", "(I)Z"⟩
theorem mi_Tr_takesLevel : miV y_Tr_takesLevel prog_6_method_7_code 2 (some .boolean) 1 := ⟨wd_325, wd_5, wd_69, wd_326, by decide, by decide, by decide +kernel⟩
def w_Tr_takesLevel (x1 : Int32) (σ : Sg) (K : Int32 → Sg → Prop) : Prop :=
  (∀ τ2 : Sg, τ2 = s2 σ 28 1 (4 : Int32) → w_Lc_isLevelValue (x1 - (48 : Int32)) τ2 (fun u9 => ((u9 = 0 → K (0 : Int32) τ2) ∧ (¬ u9 = 0 → w_Ho_addLevel 11 (x1 - (48 : Int32)) τ2 (fun u23 τ23 => ((u23 = 0 → K (0 : Int32) τ23) ∧ (¬ u23 = 0 → K (1 : Int32) τ23)))))))
set_option maxHeartbeats 4000000 in
theorem m_Tr_takesLevel {Y : Yx} {x1 : Int32} {σ : Sg} {K : Int32 → Sg → Prop} (hY : YD Y)  (h : w_Tr_takesLevel x1 σ K) : MetI Y y_Tr_takesLevel prog_6_method_7_code 2 (.boolean) 2 45 [.ref (ya Y 28), .int x1] σ K := by
  refine met_I [(0, .ref (ya Y 28)), (1, .int x1)] hY (by decide) (Nat.le_of_ble_eq_true rfl) rfl (fun X C hr => ?_)
  unfold w_Tr_takesLevel at h
  refine q_aload_n (pc := 0) C d_Tr_takesLevel_0 rfl 0 rfl ?_
  refine q_iconst (pc := 1) (v := 4) C d_Tr_takesLevel_1 (by decide) ?_
  refine q_put (pc := 2) (c := 28) (ci := 4) (k := 1) C rfl (by decide) (by decide) wd_190 rfl rfl rfl fs_4_1 d_Tr_takesLevel_2 ?_
  refine q_nms (fun τ2 eτ2 => ?_)
  replace h := h τ2 eτ2
  refine q_iload_n (pc := 5) C d_Tr_takesLevel_5 rfl 1 rfl ?_
  refine q_bipush (pc := 6) (v := 48) C d_Tr_takesLevel_6 (by decide) ?_
  refine q_isub (pc := 8) C d_Tr_takesLevel_8 ?_
  refine q_callNIr (pc := 9) (st := []) C (m_Lc_isLevelValue hY h) mi_Lc_isLevelValue rfl rfl rfl (Nat.le_of_ble_eq_true rfl) (by decide) (by decide) d_Tr_takesLevel_9 (fun u9 h => ?_)
  obtain ⟨h3, h4⟩ := h
  refine q_if_eq (pc := 12) 33 C d_Tr_takesLevel_12 (by decide) (fun hc => ?_) (fun hc => ?_)
  · have h := h3 hc
    refine q_iconst (pc := 33) (v := 0) C d_Tr_takesLevel_33 (by decide) ?_
    exact q_zret (pc := 34) C hr d_Tr_takesLevel_34 bz0 h
  have h := h4 hc
  refine q_aload_n (pc := 15) C d_Tr_takesLevel_15 rfl 0 rfl ?_
  refine q_get (pc := 16) (c := 28) (ci := 4) (k := 0) (v := .ref (ya Y 11)) C rfl (by decide) (by decide) wd_188 rfl d_Tr_takesLevel_16 ?_
  refine q_iload_n (pc := 19) C d_Tr_takesLevel_19 rfl 1 rfl ?_
  refine q_bipush (pc := 20) (v := 48) C d_Tr_takesLevel_20 (by decide) ?_
  refine q_isub (pc := 22) C d_Tr_takesLevel_22 ?_
  refine q_callVI (pc := 23) (st := []) (d := 11) C (m_Ho_addLevel hY rfl h) mi_Ho_addLevel rfl (by decide) rfl wd_330 rfl rfl (Nat.le_of_ble_eq_true rfl) (by decide) (by decide) d_Tr_takesLevel_23 (fun u23 τ23 h => ?_)
  obtain ⟨h1, h2⟩ := h
  refine q_if_eq (pc := 26) 33 C d_Tr_takesLevel_26 (by decide) (fun hc => ?_) (fun hc => ?_)
  · have h := h1 hc
    refine q_iconst (pc := 33) (v := 0) C d_Tr_takesLevel_33 (by decide) ?_
    exact q_zret (pc := 34) C hr d_Tr_takesLevel_34 bz0 h
  have h := h2 hc
  refine q_iconst (pc := 29) (v := 1) C d_Tr_takesLevel_29 (by decide) ?_
  refine q_goto (pc := 30) 34 C d_Tr_takesLevel_30 (by decide) ?_
  exact q_zret (pc := 34) C hr d_Tr_takesLevel_34 bz1 h
theorem d_Tr_goesOn_0 : decode prog_6_method_3_code 0 = .ok (.aload_n 0, 1) := by decide +kernel
theorem d_Tr_goesOn_1 : decode prog_6_method_3_code 1 = .ok (.getfield 22, 3) := by decide +kernel
theorem d_Tr_goesOn_4 : decode prog_6_method_3_code 4 = .ok (.tableswitch 56 0 3 #[32, 38, 44, 50], 32) := by decide +kernel
theorem d_Tr_goesOn_36 : decode prog_6_method_3_code 36 = .ok (.aload_n 0, 1) := by decide +kernel
theorem d_Tr_goesOn_37 : decode prog_6_method_3_code 37 = .ok (.iload_n 1, 1) := by decide +kernel
theorem d_Tr_goesOn_38 : decode prog_6_method_3_code 38 = .ok (.invokevirtual 35, 3) := by decide +kernel
theorem d_Tr_goesOn_41 : decode prog_6_method_3_code 41 = .ok (.ireturn, 1) := by decide +kernel
theorem d_Tr_goesOn_42 : decode prog_6_method_3_code 42 = .ok (.aload_n 0, 1) := by decide +kernel
theorem d_Tr_goesOn_43 : decode prog_6_method_3_code 43 = .ok (.iload_n 1, 1) := by decide +kernel
theorem d_Tr_goesOn_44 : decode prog_6_method_3_code 44 = .ok (.invokevirtual 38, 3) := by decide +kernel
theorem d_Tr_goesOn_47 : decode prog_6_method_3_code 47 = .ok (.ireturn, 1) := by decide +kernel
theorem d_Tr_goesOn_48 : decode prog_6_method_3_code 48 = .ok (.aload_n 0, 1) := by decide +kernel
theorem d_Tr_goesOn_49 : decode prog_6_method_3_code 49 = .ok (.iload_n 1, 1) := by decide +kernel
theorem d_Tr_goesOn_50 : decode prog_6_method_3_code 50 = .ok (.invokevirtual 41, 3) := by decide +kernel
theorem d_Tr_goesOn_53 : decode prog_6_method_3_code 53 = .ok (.ireturn, 1) := by decide +kernel
theorem d_Tr_goesOn_54 : decode prog_6_method_3_code 54 = .ok (.aload_n 0, 1) := by decide +kernel
theorem d_Tr_goesOn_55 : decode prog_6_method_3_code 55 = .ok (.iload_n 1, 1) := by decide +kernel
theorem d_Tr_goesOn_56 : decode prog_6_method_3_code 56 = .ok (.invokevirtual 44, 3) := by decide +kernel
theorem d_Tr_goesOn_59 : decode prog_6_method_3_code 59 = .ok (.ireturn, 1) := by decide +kernel
theorem d_Tr_goesOn_60 : decode prog_6_method_3_code 60 = .ok (.aload_n 0, 1) := by decide +kernel
theorem d_Tr_goesOn_61 : decode prog_6_method_3_code 61 = .ok (.iload_n 1, 1) := by decide +kernel
theorem d_Tr_goesOn_62 : decode prog_6_method_3_code 62 = .ok (.invokevirtual 44, 3) := by decide +kernel
theorem d_Tr_goesOn_65 : decode prog_6_method_3_code 65 = .ok (.ifCond .ne 11, 3) := by decide +kernel
theorem d_Tr_goesOn_68 : decode prog_6_method_3_code 68 = .ok (.aload_n 0, 1) := by decide +kernel
theorem d_Tr_goesOn_69 : decode prog_6_method_3_code 69 = .ok (.iload_n 1, 1) := by decide +kernel
theorem d_Tr_goesOn_70 : decode prog_6_method_3_code 70 = .ok (.invokevirtual 38, 3) := by decide +kernel
theorem d_Tr_goesOn_73 : decode prog_6_method_3_code 73 = .ok (.ifCond .eq 7, 3) := by decide +kernel
theorem d_Tr_goesOn_76 : decode prog_6_method_3_code 76 = .ok (.iconst 1, 1) := by decide +kernel
theorem d_Tr_goesOn_77 : decode prog_6_method_3_code 77 = .ok (.goto 4, 3) := by decide +kernel
theorem d_Tr_goesOn_80 : decode prog_6_method_3_code 80 = .ok (.iconst 0, 1) := by decide +kernel
theorem d_Tr_goesOn_81 : decode prog_6_method_3_code 81 = .ok (.ireturn, 1) := by decide +kernel
abbrev y_Tr_goesOn : MethodName := ⟨"LoadCycles$TextReader", "goesOn", "(I)Z"⟩
theorem mi_Tr_goesOn : miV y_Tr_goesOn prog_6_method_3_code 2 (some .boolean) 1 := ⟨wd_305, wd_1, wd_69, wd_306, by decide, by decide, by decide +kernel⟩
def w_Tr_goesOn (x1 : Int32) (σ : Sg) (K : Int32 → Sg → Prop) : Prop :=
  (((σ 28 1) = (0 : Int32) → w_Tr_takesOpening x1 σ (fun u38 τ38 => (bz u38 ∧ K u38 τ38))) ∧ ((σ 28 1) = (1 : Int32) → w_Tr_takesMark x1 σ (fun u44 τ44 => (bz u44 ∧ K u44 τ44))) ∧ ((σ 28 1) = (2 : Int32) → w_Tr_takesKind x1 σ (fun u50 τ50 => (bz u50 ∧ K u50 τ50))) ∧ ((σ 28 1) = (3 : Int32) → w_Tr_takesLevel x1 σ (fun u56 τ56 => (bz u56 ∧ K u56 τ56))) ∧ (¬ (σ 28 1) = (0 : Int32) → ¬ (σ 28 1) = (1 : Int32) → ¬ (σ 28 1) = (2 : Int32) → ¬ (σ 28 1) = (3 : Int32) → w_Tr_takesLevel x1 σ (fun u62 τ62 => ((¬ u62 = 0 → K (1 : Int32) τ62) ∧ (u62 = 0 → w_Tr_takesMark x1 τ62 (fun u70 τ70 => ((u70 = 0 → K (0 : Int32) τ70) ∧ (¬ u70 = 0 → K (1 : Int32) τ70))))))))
set_option maxHeartbeats 4000000 in
theorem m_Tr_goesOn {Y : Yx} {x1 : Int32} {σ : Sg} {K : Int32 → Sg → Prop} (hY : YD Y)  (h : w_Tr_goesOn x1 σ K) : MetI Y y_Tr_goesOn prog_6_method_3_code 2 (.boolean) 3 66 [.ref (ya Y 28), .int x1] σ K := by
  refine met_I [(0, .ref (ya Y 28)), (1, .int x1)] hY (by decide) (Nat.le_of_ble_eq_true rfl) rfl (fun X C hr => ?_)
  unfold w_Tr_goesOn at h
  refine q_aload_n (pc := 0) C d_Tr_goesOn_0 rfl 0 rfl ?_
  refine q_get (pc := 1) (c := 28) (ci := 4) (k := 1) (v := .int (σ 28 1)) C rfl (by decide) (by decide) wd_190 rfl d_Tr_goesOn_1 ?_
  obtain ⟨h3, h6, h9, h12, h17⟩ := h
  by_cases h2 : (σ 28 1) = (0 : Int32)
  · refine q_tableK (pc := 4) 36 (k := 0) (off := 32) C h2 (by decide) d_Tr_goesOn_4 (by decide) (by decide) (by decide) (by decide) ?_
    have h := h3 h2
    refine q_aload_n (pc := 36) C d_Tr_goesOn_36 rfl 0 rfl ?_
    refine q_iload_n (pc := 37) C d_Tr_goesOn_37 rfl 1 rfl ?_
    refine q_callVI (pc := 38) (st := []) (d := 28) C (m_Tr_takesOpening hY h) mi_Tr_takesOpening rfl (by decide) rfl wd_307 rfl rfl (Nat.le_of_ble_eq_true rfl) (by decide) (by decide) d_Tr_goesOn_38 (fun u38 τ38 h => ?_)
    obtain ⟨h1, h⟩ := h
    exact q_zret (pc := 41) C hr d_Tr_goesOn_41 h1 h
  by_cases h5 : (σ 28 1) = (1 : Int32)
  · refine q_tableK (pc := 4) 42 (k := 1) (off := 38) C h5 (by decide) d_Tr_goesOn_4 (by decide) (by decide) (by decide) (by decide) ?_
    have h := h6 h5
    refine q_aload_n (pc := 42) C d_Tr_goesOn_42 rfl 0 rfl ?_
    refine q_iload_n (pc := 43) C d_Tr_goesOn_43 rfl 1 rfl ?_
    refine q_callVI (pc := 44) (st := []) (d := 28) C (m_Tr_takesMark hY h) mi_Tr_takesMark rfl (by decide) rfl wd_311 rfl rfl (Nat.le_of_ble_eq_true rfl) (by decide) (by decide) d_Tr_goesOn_44 (fun u44 τ44 h => ?_)
    obtain ⟨h4, h⟩ := h
    exact q_zret (pc := 47) C hr d_Tr_goesOn_47 h4 h
  by_cases h8 : (σ 28 1) = (2 : Int32)
  · refine q_tableK (pc := 4) 48 (k := 2) (off := 44) C h8 (by decide) d_Tr_goesOn_4 (by decide) (by decide) (by decide) (by decide) ?_
    have h := h9 h8
    refine q_aload_n (pc := 48) C d_Tr_goesOn_48 rfl 0 rfl ?_
    refine q_iload_n (pc := 49) C d_Tr_goesOn_49 rfl 1 rfl ?_
    refine q_callVI (pc := 50) (st := []) (d := 28) C (m_Tr_takesKind hY h) mi_Tr_takesKind rfl (by decide) rfl wd_315 rfl rfl (Nat.le_of_ble_eq_true rfl) (by decide) (by decide) d_Tr_goesOn_50 (fun u50 τ50 h => ?_)
    obtain ⟨h7, h⟩ := h
    exact q_zret (pc := 53) C hr d_Tr_goesOn_53 h7 h
  by_cases h11 : (σ 28 1) = (3 : Int32)
  · refine q_tableK (pc := 4) 54 (k := 3) (off := 50) C h11 (by decide) d_Tr_goesOn_4 (by decide) (by decide) (by decide) (by decide) ?_
    have h := h12 h11
    refine q_aload_n (pc := 54) C d_Tr_goesOn_54 rfl 0 rfl ?_
    refine q_iload_n (pc := 55) C d_Tr_goesOn_55 rfl 1 rfl ?_
    refine q_callVI (pc := 56) (st := []) (d := 28) C (m_Tr_takesLevel hY h) mi_Tr_takesLevel rfl (by decide) rfl wd_323 rfl rfl (Nat.le_of_ble_eq_true rfl) (by decide) (by decide) d_Tr_goesOn_56 (fun u56 τ56 h => ?_)
    obtain ⟨h10, h⟩ := h
    exact q_zret (pc := 59) C hr d_Tr_goesOn_59 h10 h
  refine q_tableOut (pc := 4) 60 C d_Tr_goesOn_4 (by have g0 := sw_ne (k := 0) rfl h2; have g1 := sw_ne (k := 1) rfl h5; have g2 := sw_ne (k := 2) rfl h8; have g3 := sw_ne (k := 3) rfl h11; omega) (by decide) ?_
  have h := h17 h2 h5 h8 h11
  refine q_aload_n (pc := 60) C d_Tr_goesOn_60 rfl 0 rfl ?_
  refine q_iload_n (pc := 61) C d_Tr_goesOn_61 rfl 1 rfl ?_
  refine q_callVI (pc := 62) (st := []) (d := 28) C (m_Tr_takesLevel hY h) mi_Tr_takesLevel rfl (by decide) rfl wd_323 rfl rfl (Nat.le_of_ble_eq_true rfl) (by decide) (by decide) d_Tr_goesOn_62 (fun u62 τ62 h => ?_)
  obtain ⟨h15, h16⟩ := h
  refine q_if_ne (pc := 65) 76 C d_Tr_goesOn_65 (by decide) (fun hc => ?_) (fun hc => ?_)
  · have h := h15 hc
    refine q_iconst (pc := 76) (v := 1) C d_Tr_goesOn_76 (by decide) ?_
    refine q_goto (pc := 77) 81 C d_Tr_goesOn_77 (by decide) ?_
    exact q_zret (pc := 81) C hr d_Tr_goesOn_81 bz1 h
  have h := h16 hc
  refine q_aload_n (pc := 68) C d_Tr_goesOn_68 rfl 0 rfl ?_
  refine q_iload_n (pc := 69) C d_Tr_goesOn_69 rfl 1 rfl ?_
  refine q_callVI (pc := 70) (st := []) (d := 28) C (m_Tr_takesMark hY h) mi_Tr_takesMark rfl (by decide) rfl wd_311 rfl rfl (Nat.le_of_ble_eq_true rfl) (by decide) (by decide) d_Tr_goesOn_70 (fun u70 τ70 h => ?_)
  obtain ⟨h13, h14⟩ := h
  refine q_if_eq (pc := 73) 80 C d_Tr_goesOn_73 (by decide) (fun hc => ?_) (fun hc => ?_)
  · have h := h13 hc
    refine q_iconst (pc := 80) (v := 0) C d_Tr_goesOn_80 (by decide) ?_
    exact q_zret (pc := 81) C hr d_Tr_goesOn_81 bz0 h
  have h := h14 hc
  refine q_iconst (pc := 76) (v := 1) C d_Tr_goesOn_76 (by decide) ?_
  refine q_goto (pc := 77) 81 C d_Tr_goesOn_77 (by decide) ?_
  exact q_zret (pc := 81) C hr d_Tr_goesOn_81 bz1 h
theorem d_Tr_firstFault_0 : decode prog_6_method_2_code 0 = .ok (.aload_n 0, 1) := by decide +kernel
theorem d_Tr_firstFault_1 : decode prog_6_method_2_code 1 = .ok (.getfield 12, 3) := by decide +kernel
theorem d_Tr_firstFault_4 : decode prog_6_method_2_code 4 = .ok (.iconst 0, 1) := by decide +kernel
theorem d_Tr_firstFault_5 : decode prog_6_method_2_code 5 = .ok (.putfield 18, 3) := by decide +kernel
theorem d_Tr_firstFault_8 : decode prog_6_method_2_code 8 = .ok (.aload_n 0, 1) := by decide +kernel
theorem d_Tr_firstFault_9 : decode prog_6_method_2_code 9 = .ok (.iconst 0, 1) := by decide +kernel
theorem d_Tr_firstFault_10 : decode prog_6_method_2_code 10 = .ok (.putfield 22, 3) := by decide +kernel
theorem d_Tr_firstFault_13 : decode prog_6_method_2_code 13 = .ok (.iconst 0, 1) := by decide +kernel
theorem d_Tr_firstFault_14 : decode prog_6_method_2_code 14 = .ok (.istore 4, 2) := by decide +kernel
theorem d_Tr_firstFault_16 : decode prog_6_method_2_code 16 = .ok (.iload 4, 2) := by decide +kernel
theorem d_Tr_firstFault_18 : decode prog_6_method_2_code 18 = .ok (.iload_n 3, 1) := by decide +kernel
theorem d_Tr_firstFault_19 : decode prog_6_method_2_code 19 = .ok (.if_icmp .ge 28, 3) := by decide +kernel
theorem d_Tr_firstFault_22 : decode prog_6_method_2_code 22 = .ok (.aload_n 0, 1) := by decide +kernel
theorem d_Tr_firstFault_23 : decode prog_6_method_2_code 23 = .ok (.aload_n 1, 1) := by decide +kernel
theorem d_Tr_firstFault_24 : decode prog_6_method_2_code 24 = .ok (.getfield 25, 3) := by decide +kernel
theorem d_Tr_firstFault_27 : decode prog_6_method_2_code 27 = .ok (.iload_n 2, 1) := by decide +kernel
theorem d_Tr_firstFault_28 : decode prog_6_method_2_code 28 = .ok (.iload 4, 2) := by decide +kernel
theorem d_Tr_firstFault_30 : decode prog_6_method_2_code 30 = .ok (.iadd, 1) := by decide +kernel
theorem d_Tr_firstFault_31 : decode prog_6_method_2_code 31 = .ok (.iaload, 1) := by decide +kernel
theorem d_Tr_firstFault_32 : decode prog_6_method_2_code 32 = .ok (.invokevirtual 31, 3) := by decide +kernel
theorem d_Tr_firstFault_35 : decode prog_6_method_2_code 35 = .ok (.ifCond .ne 6, 3) := by decide +kernel
theorem d_Tr_firstFault_38 : decode prog_6_method_2_code 38 = .ok (.iload 4, 2) := by decide +kernel
theorem d_Tr_firstFault_40 : decode prog_6_method_2_code 40 = .ok (.ireturn, 1) := by decide +kernel
theorem d_Tr_firstFault_41 : decode prog_6_method_2_code 41 = .ok (.iinc 4 1, 3) := by decide +kernel
theorem d_Tr_firstFault_44 : decode prog_6_method_2_code 44 = .ok (.goto (-28), 3) := by decide +kernel
theorem d_Tr_firstFault_47 : decode prog_6_method_2_code 47 = .ok (.aload_n 0, 1) := by decide +kernel
theorem d_Tr_firstFault_48 : decode prog_6_method_2_code 48 = .ok (.getfield 22, 3) := by decide +kernel
theorem d_Tr_firstFault_51 : decode prog_6_method_2_code 51 = .ok (.iconst 4, 1) := by decide +kernel
theorem d_Tr_firstFault_52 : decode prog_6_method_2_code 52 = .ok (.if_icmp .ne 8, 3) := by decide +kernel
theorem d_Tr_firstFault_55 : decode prog_6_method_2_code 55 = .ok (.bipush (-9), 2) := by decide +kernel
theorem d_Tr_firstFault_57 : decode prog_6_method_2_code 57 = .ok (.goto 4, 3) := by decide +kernel
theorem d_Tr_firstFault_60 : decode prog_6_method_2_code 60 = .ok (.iload_n 3, 1) := by decide +kernel
theorem d_Tr_firstFault_61 : decode prog_6_method_2_code 61 = .ok (.ireturn, 1) := by decide +kernel
abbrev y_Tr_firstFault : MethodName := ⟨"LoadCycles$TextReader", "firstFault", "(LLoadCycles$Sheet;II)I"⟩
theorem mi_Tr_firstFault : miV y_Tr_firstFault prog_6_method_2_code 5 (some .int) 3 := ⟨wd_300, wd_301, wd_69, wd_302, by decide, by decide, by decide +kernel⟩
def L_Tr_firstFault_16 (o1 : Nat) (x2 : Int32) (x3 : Int32) (K : Int32 → Sg → Prop) : Nat → Int32 → Sg → Prop
  | 0, _, _ => False
  | n + 1, v4, σ =>
    ((x3 ≤ v4 → ((¬ (σ 28 1) = (4 : Int32) → K x3 σ) ∧ ((σ 28 1) = (4 : Int32) → K (-9 : Int32) σ))) ∧ (¬ x3 ≤ v4 → (vp_in (x2 + v4) 60 ∧ w_Tr_goesOn (σ (o1 + 1) (x2 + v4).toNatClampNeg) σ (fun u32 τ32 => ((¬ u32 = 0 → L_Tr_firstFault_16 o1 x2 x3 K n (v4 + (1 : Int32)) τ32) ∧ (u32 = 0 → K v4 τ32))))))
theorem t_Tr_firstFault_16 {X : Bx} {Y : Yx} {o1 : Nat} {x2 : Int32} {x3 : Int32} {K : Int32 → Sg → Prop}  (hY : YD Y) (C : Cx X Y prog_6_method_2_code 5 "LoadCycles$TextReader" 4 87) (hr : (xh X).sig.returnType = some .int) (ho1 : kd o1 = 3) : ∀ (n : Nat) (v4 : Int32) (σ : Sg), L_Tr_firstFault_16 o1 x2 x3 K n v4 σ → St X Y 5 (QI X Y K) 16 [(0, .ref (ya Y 28)), (1, .ref (ya Y o1)), (2, .int x2), (3, .int x3), (4, .int v4)] [] σ := by
  intro n
  induction n with
  | zero => intro v4 σ h; exact h.elim
  | succ n ih =>
    intro v4 σ h
    unfold L_Tr_firstFault_16 at h
    refine q_iload (pc := 16) C d_Tr_firstFault_16 4 rfl ?_
    refine q_iload_n (pc := 18) C d_Tr_firstFault_18 rfl 3 rfl ?_
    obtain ⟨h6, h7⟩ := h
    refine q_icmp_ge (pc := 19) 47 C d_Tr_firstFault_19 (by decide) (fun hc => ?_) (fun hc => ?_)
    · have h := h6 hc
      refine q_aload_n (pc := 47) C d_Tr_firstFault_47 rfl 0 rfl ?_
      refine q_get (pc := 48) (c := 28) (ci := 4) (k := 1) (v := .int (σ 28 1)) C rfl (by decide) (by decide) wd_190 rfl d_Tr_firstFault_48 ?_
      refine q_iconst (pc := 51) (v := 4) C d_Tr_firstFault_51 (by decide) ?_
      obtain ⟨h1, h2⟩ := h
      refine q_icmp_ne (pc := 52) 60 C d_Tr_firstFault_52 (by decide) (fun hc => ?_) (fun hc => ?_)
      · have h := h1 hc
        refine q_iload_n (pc := 60) C d_Tr_firstFault_60 rfl 3 rfl ?_
        exact q_iret (pc := 61) C hr d_Tr_firstFault_61 h
      have h := h2 hc
      refine q_bipush (pc := 55) (v := -9) C d_Tr_firstFault_55 (by decide) ?_
      refine q_goto (pc := 57) 61 C d_Tr_firstFault_57 (by decide) ?_
      exact q_iret (pc := 61) C hr d_Tr_firstFault_61 h
    have h := h7 hc
    refine q_aload_n (pc := 22) C d_Tr_firstFault_22 rfl 0 rfl ?_
    refine q_aload_n (pc := 23) C d_Tr_firstFault_23 rfl 1 rfl ?_
    refine q_get (pc := 24) (c := o1) (ci := 3) (k := 0) (v := .ref (ya Y (o1 + 1))) C ho1 (by decide) (by decide) wd_218 rfl d_Tr_firstFault_24 ?_
    refine q_iload_n (pc := 27) C d_Tr_firstFault_27 rfl 2 rfl ?_
    refine q_iload (pc := 28) C d_Tr_firstFault_28 4 rfl ?_
    refine q_iadd (pc := 30) C d_Tr_firstFault_30 ?_
    obtain ⟨h3, h⟩ := h
    refine q_iald (pc := 31) (c := (o1 + 1)) C (k3_1 ho1) h3 d_Tr_firstFault_31 ?_
    refine q_callVI (pc := 32) (st := []) (d := 28) C (m_Tr_goesOn hY h) mi_Tr_goesOn rfl (by decide) rfl wd_303 rfl rfl (Nat.le_of_ble_eq_true rfl) (by decide) (by decide) d_Tr_firstFault_32 (fun u32 τ32 h => ?_)
    obtain ⟨h4, h5⟩ := h
    refine q_if_ne (pc := 35) 41 C d_Tr_firstFault_35 (by decide) (fun hc => ?_) (fun hc => ?_)
    · have h := h4 hc
      refine q_iinc (pc := 41) (v4 + (1 : Int32)) [(4, .int (v4 + (1 : Int32))), (0, .ref (ya Y 28)), (1, .ref (ya Y o1)), (2, .int x2), (3, .int x3)] C d_Tr_firstFault_41 4 rfl rfl (by decide) rfl ?_
      refine q_goto (pc := 44) 16 C d_Tr_firstFault_44 (by decide) ?_
      refine q_sub [(0, .ref (ya Y 28)), (1, .ref (ya Y o1)), (2, .int x2), (3, .int x3), (4, .int (v4 + (1 : Int32)))] [1, 2, 3, 4, 0] rfl ?_
      exact ih (v4 + (1 : Int32)) τ32 h
    have h := h5 hc
    refine q_iload (pc := 38) C d_Tr_firstFault_38 4 rfl ?_
    exact q_iret (pc := 40) C hr d_Tr_firstFault_40 h
def w_Tr_firstFault (o1 : Nat) (x2 : Int32) (x3 : Int32) (σ : Sg) (K : Int32 → Sg → Prop) : Prop :=
  (∀ τ5 : Sg, τ5 = s2 σ 11 4 (0 : Int32) → (∀ τ10 : Sg, τ10 = s2 τ5 28 1 (0 : Int32) → (∃ n8 : Nat, L_Tr_firstFault_16 o1 x2 x3 K n8 (0 : Int32) τ10)))
set_option maxHeartbeats 4000000 in
theorem m_Tr_firstFault {Y : Yx} {o1 : Nat} {x2 : Int32} {x3 : Int32} {σ : Sg} {K : Int32 → Sg → Prop} (hY : YD Y) (ho1 : kd o1 = 3) (h : w_Tr_firstFault o1 x2 x3 σ K) : MetI Y y_Tr_firstFault prog_6_method_2_code 5 (.int) 4 87 [.ref (ya Y 28), .ref (ya Y o1), .int x2, .int x3] σ K := by
  refine met_I [(0, .ref (ya Y 28)), (1, .ref (ya Y o1)), (2, .int x2), (3, .int x3)] hY (by decide) (Nat.le_of_ble_eq_true rfl) rfl (fun X C hr => ?_)
  unfold w_Tr_firstFault at h
  refine q_aload_n (pc := 0) C d_Tr_firstFault_0 rfl 0 rfl ?_
  refine q_get (pc := 1) (c := 28) (ci := 4) (k := 0) (v := .ref (ya Y 11)) C rfl (by decide) (by decide) wd_188 rfl d_Tr_firstFault_1 ?_
  refine q_iconst (pc := 4) (v := 0) C d_Tr_firstFault_4 (by decide) ?_
  refine q_put (pc := 5) (c := 11) (ci := 2) (k := 4) C rfl (by decide) (by decide) wd_100 rfl rfl rfl fs_2_4 d_Tr_firstFault_5 ?_
  refine q_nms (fun τ5 eτ5 => ?_)
  replace h := h τ5 eτ5
  refine q_aload_n (pc := 8) C d_Tr_firstFault_8 rfl 0 rfl ?_
  refine q_iconst (pc := 9) (v := 0) C d_Tr_firstFault_9 (by decide) ?_
  refine q_put (pc := 10) (c := 28) (ci := 4) (k := 1) C rfl (by decide) (by decide) wd_190 rfl rfl rfl fs_4_1 d_Tr_firstFault_10 ?_
  refine q_nms (fun τ10 eτ10 => ?_)
  replace h := h τ10 eτ10
  refine q_iconst (pc := 13) (v := 0) C d_Tr_firstFault_13 (by decide) ?_
  refine q_istore (pc := 14) [(4, .int (0 : Int32)), (0, .ref (ya Y 28)), (1, .ref (ya Y o1)), (2, .int x2), (3, .int x3)] C d_Tr_firstFault_14 (by decide) rfl ?_
  obtain ⟨n8, h⟩ := h
  refine q_sub [(0, .ref (ya Y 28)), (1, .ref (ya Y o1)), (2, .int x2), (3, .int x3), (4, .int (0 : Int32))] [1, 2, 3, 4, 0] rfl ?_
  exact t_Tr_firstFault_16 hY C hr ho1 n8 (0 : Int32) τ10 h
theorem d_Ho_become_0 : decode prog_4_method_2_code 0 = .ok (.aload_n 1, 1) := by decide +kernel
theorem d_Ho_become_1 : decode prog_4_method_2_code 1 = .ok (.getfield 9, 3) := by decide +kernel
theorem d_Ho_become_4 : decode prog_4_method_2_code 4 = .ok (.iconst 0, 1) := by decide +kernel
theorem d_Ho_become_5 : decode prog_4_method_2_code 5 = .ok (.aload_n 0, 1) := by decide +kernel
theorem d_Ho_become_6 : decode prog_4_method_2_code 6 = .ok (.getfield 9, 3) := by decide +kernel
theorem d_Ho_become_9 : decode prog_4_method_2_code 9 = .ok (.iconst 0, 1) := by decide +kernel
theorem d_Ho_become_10 : decode prog_4_method_2_code 10 = .ok (.iconst 4, 1) := by decide +kernel
theorem d_Ho_become_11 : decode prog_4_method_2_code 11 = .ok (.invokestatic 24, 3) := by decide +kernel
theorem d_Ho_become_14 : decode prog_4_method_2_code 14 = .ok (.aload_n 1, 1) := by decide +kernel
theorem d_Ho_become_15 : decode prog_4_method_2_code 15 = .ok (.getfield 15, 3) := by decide +kernel
theorem d_Ho_become_18 : decode prog_4_method_2_code 18 = .ok (.iconst 0, 1) := by decide +kernel
theorem d_Ho_become_19 : decode prog_4_method_2_code 19 = .ok (.aload_n 0, 1) := by decide +kernel
theorem d_Ho_become_20 : decode prog_4_method_2_code 20 = .ok (.getfield 15, 3) := by decide +kernel
theorem d_Ho_become_23 : decode prog_4_method_2_code 23 = .ok (.iconst 0, 1) := by decide +kernel
theorem d_Ho_become_24 : decode prog_4_method_2_code 24 = .ok (.iconst 4, 1) := by decide +kernel
theorem d_Ho_become_25 : decode prog_4_method_2_code 25 = .ok (.invokestatic 24, 3) := by decide +kernel
theorem d_Ho_become_28 : decode prog_4_method_2_code 28 = .ok (.aload_n 1, 1) := by decide +kernel
theorem d_Ho_become_29 : decode prog_4_method_2_code 29 = .ok (.getfield 18, 3) := by decide +kernel
theorem d_Ho_become_32 : decode prog_4_method_2_code 32 = .ok (.iconst 0, 1) := by decide +kernel
theorem d_Ho_become_33 : decode prog_4_method_2_code 33 = .ok (.aload_n 0, 1) := by decide +kernel
theorem d_Ho_become_34 : decode prog_4_method_2_code 34 = .ok (.getfield 18, 3) := by decide +kernel
theorem d_Ho_become_37 : decode prog_4_method_2_code 37 = .ok (.iconst 0, 1) := by decide +kernel
theorem d_Ho_become_38 : decode prog_4_method_2_code 38 = .ok (.bipush 12, 2) := by decide +kernel
theorem d_Ho_become_40 : decode prog_4_method_2_code 40 = .ok (.invokestatic 24, 3) := by decide +kernel
theorem d_Ho_become_43 : decode prog_4_method_2_code 43 = .ok (.aload_n 1, 1) := by decide +kernel
theorem d_Ho_become_44 : decode prog_4_method_2_code 44 = .ok (.getfield 21, 3) := by decide +kernel
theorem d_Ho_become_47 : decode prog_4_method_2_code 47 = .ok (.iconst 0, 1) := by decide +kernel
theorem d_Ho_become_48 : decode prog_4_method_2_code 48 = .ok (.aload_n 0, 1) := by decide +kernel
theorem d_Ho_become_49 : decode prog_4_method_2_code 49 = .ok (.getfield 21, 3) := by decide +kernel
theorem d_Ho_become_52 : decode prog_4_method_2_code 52 = .ok (.iconst 0, 1) := by decide +kernel
theorem d_Ho_become_53 : decode prog_4_method_2_code 53 = .ok (.bipush 20, 2) := by decide +kernel
theorem d_Ho_become_55 : decode prog_4_method_2_code 55 = .ok (.invokestatic 24, 3) := by decide +kernel
theorem d_Ho_become_58 : decode prog_4_method_2_code 58 = .ok (.aload_n 0, 1) := by decide +kernel
theorem d_Ho_become_59 : decode prog_4_method_2_code 59 = .ok (.aload_n 1, 1) := by decide +kernel
theorem d_Ho_become_60 : decode prog_4_method_2_code 60 = .ok (.getfield 30, 3) := by decide +kernel
theorem d_Ho_become_63 : decode prog_4_method_2_code 63 = .ok (.putfield 30, 3) := by decide +kernel
theorem d_Ho_become_66 : decode prog_4_method_2_code 66 = .ok (.aload_n 0, 1) := by decide +kernel
theorem d_Ho_become_67 : decode prog_4_method_2_code 67 = .ok (.aload_n 1, 1) := by decide +kernel
theorem d_Ho_become_68 : decode prog_4_method_2_code 68 = .ok (.getfield 34, 3) := by decide +kernel
theorem d_Ho_become_71 : decode prog_4_method_2_code 71 = .ok (.putfield 34, 3) := by decide +kernel
theorem d_Ho_become_74 : decode prog_4_method_2_code 74 = .ok (.aload_n 0, 1) := by decide +kernel
theorem d_Ho_become_75 : decode prog_4_method_2_code 75 = .ok (.aload_n 1, 1) := by decide +kernel
theorem d_Ho_become_76 : decode prog_4_method_2_code 76 = .ok (.getfield 37, 3) := by decide +kernel
theorem d_Ho_become_79 : decode prog_4_method_2_code 79 = .ok (.putfield 37, 3) := by decide +kernel
theorem d_Ho_become_82 : decode prog_4_method_2_code 82 = .ok (.return_, 1) := by decide +kernel
abbrev y_Ho_become : MethodName := ⟨"LoadCycles$House", "become", "(LLoadCycles$House;)V"⟩
theorem mi_Ho_become : miV y_Ho_become prog_4_method_2_code 2 none 1 := ⟨wd_339, wd_340, wd_66, wd_341, by decide, by decide, by decide +kernel⟩
def w_Ho_become (o : Nat) (o1 : Nat) (σ : Sg) (K : Sg → Prop) : Prop :=
  (cpk (0 : Int32) (0 : Int32) (4 : Int32) 4 4 ∧ (∀ τ11 : Sg, τ11 = s1 σ (o + 1) (va_cpy (σ (o1 + 1)) (σ (o + 1)) (0 : Int32).toNatClampNeg (0 : Int32).toNatClampNeg (4 : Int32).toNatClampNeg) → (cpk (0 : Int32) (0 : Int32) (4 : Int32) 4 4 ∧ (∀ τ25 : Sg, τ25 = s1 τ11 (o + 2) (va_cpy (τ11 (o1 + 2)) (τ11 (o + 2)) (0 : Int32).toNatClampNeg (0 : Int32).toNatClampNeg (4 : Int32).toNatClampNeg) → (cpk (0 : Int32) (0 : Int32) (12 : Int32) 12 12 ∧ (∀ τ40 : Sg, τ40 = s1 τ25 (o + 3) (va_cpy (τ25 (o1 + 3)) (τ25 (o + 3)) (0 : Int32).toNatClampNeg (0 : Int32).toNatClampNeg (12 : Int32).toNatClampNeg) → (cpk (0 : Int32) (0 : Int32) (20 : Int32) 20 20 ∧ (∀ τ55 : Sg, τ55 = s1 τ40 (o + 4) (va_cpy (τ40 (o1 + 4)) (τ40 (o + 4)) (0 : Int32).toNatClampNeg (0 : Int32).toNatClampNeg (20 : Int32).toNatClampNeg) → (∀ τ63 : Sg, τ63 = s2 τ55 o 4 (τ55 o1 4) → (∀ τ71 : Sg, τ71 = s2 τ63 o 5 (τ63 o1 5) → (∀ τ79 : Sg, τ79 = s2 τ71 o 6 (τ71 o1 6) → K τ79)))))))))))
set_option maxHeartbeats 4000000 in
theorem m_Ho_become {Y : Yx} {o : Nat} {o1 : Nat} {σ : Sg} {K : Sg → Prop} (hY : YD Y) (ho : kd o = 2) (ho1 : kd o1 = 2) (h : w_Ho_become o o1 σ K) : MetV Y y_Ho_become prog_4_method_2_code 2 1 60 [.ref (ya Y o), .ref (ya Y o1)] σ K := by
  refine met_V [(0, .ref (ya Y o)), (1, .ref (ya Y o1))] hY (by decide) (Nat.le_of_ble_eq_true rfl) rfl (fun X C hr => ?_)
  unfold w_Ho_become at h
  refine q_aload_n (pc := 0) C d_Ho_become_0 rfl 1 rfl ?_
  refine q_get (pc := 1) (c := o1) (ci := 2) (k := 0) (v := .ref (ya Y (o1 + 1))) C ho1 (by decide) (by decide) wd_91 rfl d_Ho_become_1 ?_
  refine q_iconst (pc := 4) (v := 0) C d_Ho_become_4 (by decide) ?_
  refine q_aload_n (pc := 5) C d_Ho_become_5 rfl 0 rfl ?_
  refine q_get (pc := 6) (c := o) (ci := 2) (k := 0) (v := .ref (ya Y (o + 1))) C ho (by decide) (by decide) wd_91 rfl d_Ho_become_6 ?_
  refine q_iconst (pc := 9) (v := 0) C d_Ho_become_9 (by decide) ?_
  refine q_iconst (pc := 10) (v := 4) C d_Ho_become_10 (by decide) ?_
  obtain ⟨h1, h⟩ := h
  refine q_copy (pc := 11) (c0 := (o1 + 1)) (c1 := (o + 1)) (st := []) C (k2_1 ho1) (k2_1 ho) h1 wd_342 wd_344 wd_343 wd_73 (by decide) (by decide) d_Ho_become_11 ?_
  refine q_nms (fun τ11 eτ11 => ?_)
  replace h := h τ11 eτ11
  refine q_aload_n (pc := 14) C d_Ho_become_14 rfl 1 rfl ?_
  refine q_get (pc := 15) (c := o1) (ci := 2) (k := 1) (v := .ref (ya Y (o1 + 2))) C ho1 (by decide) (by decide) wd_93 rfl d_Ho_become_15 ?_
  refine q_iconst (pc := 18) (v := 0) C d_Ho_become_18 (by decide) ?_
  refine q_aload_n (pc := 19) C d_Ho_become_19 rfl 0 rfl ?_
  refine q_get (pc := 20) (c := o) (ci := 2) (k := 1) (v := .ref (ya Y (o + 2))) C ho (by decide) (by decide) wd_93 rfl d_Ho_become_20 ?_
  refine q_iconst (pc := 23) (v := 0) C d_Ho_become_23 (by decide) ?_
  refine q_iconst (pc := 24) (v := 4) C d_Ho_become_24 (by decide) ?_
  obtain ⟨h2, h⟩ := h
  refine q_copy (pc := 25) (c0 := (o1 + 2)) (c1 := (o + 2)) (st := []) C (k2_2 ho1) (k2_2 ho) h2 wd_342 wd_344 wd_343 wd_73 (by decide) (by decide) d_Ho_become_25 ?_
  refine q_nms (fun τ25 eτ25 => ?_)
  replace h := h τ25 eτ25
  refine q_aload_n (pc := 28) C d_Ho_become_28 rfl 1 rfl ?_
  refine q_get (pc := 29) (c := o1) (ci := 2) (k := 2) (v := .ref (ya Y (o1 + 3))) C ho1 (by decide) (by decide) wd_96 rfl d_Ho_become_29 ?_
  refine q_iconst (pc := 32) (v := 0) C d_Ho_become_32 (by decide) ?_
  refine q_aload_n (pc := 33) C d_Ho_become_33 rfl 0 rfl ?_
  refine q_get (pc := 34) (c := o) (ci := 2) (k := 2) (v := .ref (ya Y (o + 3))) C ho (by decide) (by decide) wd_96 rfl d_Ho_become_34 ?_
  refine q_iconst (pc := 37) (v := 0) C d_Ho_become_37 (by decide) ?_
  refine q_bipush (pc := 38) (v := 12) C d_Ho_become_38 (by decide) ?_
  obtain ⟨h3, h⟩ := h
  refine q_copy (pc := 40) (c0 := (o1 + 3)) (c1 := (o + 3)) (st := []) C (k2_3 ho1) (k2_3 ho) h3 wd_342 wd_344 wd_343 wd_73 (by decide) (by decide) d_Ho_become_40 ?_
  refine q_nms (fun τ40 eτ40 => ?_)
  replace h := h τ40 eτ40
  refine q_aload_n (pc := 43) C d_Ho_become_43 rfl 1 rfl ?_
  refine q_get (pc := 44) (c := o1) (ci := 2) (k := 3) (v := .ref (ya Y (o1 + 4))) C ho1 (by decide) (by decide) wd_97 rfl d_Ho_become_44 ?_
  refine q_iconst (pc := 47) (v := 0) C d_Ho_become_47 (by decide) ?_
  refine q_aload_n (pc := 48) C d_Ho_become_48 rfl 0 rfl ?_
  refine q_get (pc := 49) (c := o) (ci := 2) (k := 3) (v := .ref (ya Y (o + 4))) C ho (by decide) (by decide) wd_97 rfl d_Ho_become_49 ?_
  refine q_iconst (pc := 52) (v := 0) C d_Ho_become_52 (by decide) ?_
  refine q_bipush (pc := 53) (v := 20) C d_Ho_become_53 (by decide) ?_
  obtain ⟨h4, h⟩ := h
  refine q_copy (pc := 55) (c0 := (o1 + 4)) (c1 := (o + 4)) (st := []) C (k2_4 ho1) (k2_4 ho) h4 wd_342 wd_344 wd_343 wd_73 (by decide) (by decide) d_Ho_become_55 ?_
  refine q_nms (fun τ55 eτ55 => ?_)
  replace h := h τ55 eτ55
  refine q_aload_n (pc := 58) C d_Ho_become_58 rfl 0 rfl ?_
  refine q_aload_n (pc := 59) C d_Ho_become_59 rfl 1 rfl ?_
  refine q_get (pc := 60) (c := o1) (ci := 2) (k := 4) (v := .int (τ55 o1 4)) C ho1 (by decide) (by decide) wd_102 rfl d_Ho_become_60 ?_
  refine q_put (pc := 63) (c := o) (ci := 2) (k := 4) C ho (by decide) (by decide) wd_102 rfl rfl rfl fs_2_4 d_Ho_become_63 ?_
  refine q_nms (fun τ63 eτ63 => ?_)
  replace h := h τ63 eτ63
  refine q_aload_n (pc := 66) C d_Ho_become_66 rfl 0 rfl ?_
  refine q_aload_n (pc := 67) C d_Ho_become_67 rfl 1 rfl ?_
  refine q_get (pc := 68) (c := o1) (ci := 2) (k := 5) (v := .int (τ63 o1 5)) C ho1 (by decide) (by decide) wd_105 rfl d_Ho_become_68 ?_
  refine q_put (pc := 71) (c := o) (ci := 2) (k := 5) C ho (by decide) (by decide) wd_105 rfl rfl rfl fs_2_5 d_Ho_become_71 ?_
  refine q_nms (fun τ71 eτ71 => ?_)
  replace h := h τ71 eτ71
  refine q_aload_n (pc := 74) C d_Ho_become_74 rfl 0 rfl ?_
  refine q_aload_n (pc := 75) C d_Ho_become_75 rfl 1 rfl ?_
  refine q_get (pc := 76) (c := o1) (ci := 2) (k := 6) (v := .int (τ71 o1 6)) C ho1 (by decide) (by decide) wd_108 rfl d_Ho_become_76 ?_
  refine q_put (pc := 79) (c := o) (ci := 2) (k := 6) C ho (by decide) (by decide) wd_108 rfl rfl rfl fs_2_6 d_Ho_become_79 ?_
  refine q_nms (fun τ79 eτ79 => ?_)
  replace h := h τ79 eτ79
  exact q_vret (pc := 82) C hr d_Ho_become_82 h
theorem d_Gu_forget_0 : decode prog_3_method_2_code 0 = .ok (.iconst 0, 1) := by decide +kernel
theorem d_Gu_forget_1 : decode prog_3_method_2_code 1 = .ok (.istore_n 1, 1) := by decide +kernel
theorem d_Gu_forget_2 : decode prog_3_method_2_code 2 = .ok (.iload_n 1, 1) := by decide +kernel
theorem d_Gu_forget_3 : decode prog_3_method_2_code 3 = .ok (.aload_n 0, 1) := by decide +kernel
theorem d_Gu_forget_4 : decode prog_3_method_2_code 4 = .ok (.getfield 11, 3) := by decide +kernel
theorem d_Gu_forget_7 : decode prog_3_method_2_code 7 = .ok (.arraylength, 1) := by decide +kernel
theorem d_Gu_forget_8 : decode prog_3_method_2_code 8 = .ok (.if_icmp .ge 16, 3) := by decide +kernel
theorem d_Gu_forget_11 : decode prog_3_method_2_code 11 = .ok (.aload_n 0, 1) := by decide +kernel
theorem d_Gu_forget_12 : decode prog_3_method_2_code 12 = .ok (.getfield 11, 3) := by decide +kernel
theorem d_Gu_forget_15 : decode prog_3_method_2_code 15 = .ok (.iload_n 1, 1) := by decide +kernel
theorem d_Gu_forget_16 : decode prog_3_method_2_code 16 = .ok (.iconst 0, 1) := by decide +kernel
theorem d_Gu_forget_17 : decode prog_3_method_2_code 17 = .ok (.bastore, 1) := by decide +kernel
theorem d_Gu_forget_18 : decode prog_3_method_2_code 18 = .ok (.iinc 1 1, 3) := by decide +kernel
theorem d_Gu_forget_21 : decode prog_3_method_2_code 21 = .ok (.goto (-19), 3) := by decide +kernel
theorem d_Gu_forget_24 : decode prog_3_method_2_code 24 = .ok (.return_, 1) := by decide +kernel
abbrev y_Gu_forget : MethodName := ⟨"LoadCycles$Guesses", "forget", "()V"⟩
theorem mi_Gu_forget : miV y_Gu_forget prog_3_method_2_code 2 none 0 := ⟨wd_350, wd_351, wd_70, wd_352, by decide, by decide, by decide +kernel⟩
def L_Gu_forget_2 (K : Sg → Prop) : Nat → Int32 → Sg → Prop
  | 0, _, _ => False
  | n + 1, v1, σ =>
    (((48 : Int32) ≤ v1 → K σ) ∧ (¬ (48 : Int32) ≤ v1 → (vp_in v1 48 ∧ (∀ τ17 : Sg, τ17 = s2 σ 30 v1.toNatClampNeg (0 : Int32) → L_Gu_forget_2 K n (v1 + (1 : Int32)) τ17))))
theorem t_Gu_forget_2 {X : Bx} {Y : Yx}  {K : Sg → Prop}  (hY : YD Y) (C : Cx X Y prog_3_method_2_code 2 "LoadCycles$Guesses" 0 0) (hr : (xh X).sig.returnType = none)  : ∀ (n : Nat) (v1 : Int32) (σ : Sg), L_Gu_forget_2 K n v1 σ → St X Y 2 (QV X Y K) 2 [(0, .ref (ya Y 29)), (1, .int v1)] [] σ := by
  intro n
  induction n with
  | zero => intro v1 σ h; exact h.elim
  | succ n ih =>
    intro v1 σ h
    unfold L_Gu_forget_2 at h
    refine q_iload_n (pc := 2) C d_Gu_forget_2 rfl 1 rfl ?_
    refine q_aload_n (pc := 3) C d_Gu_forget_3 rfl 0 rfl ?_
    refine q_get (pc := 4) (c := 29) (ci := 1) (k := 0) (v := .ref (ya Y 30)) C rfl (by decide) (by decide) wd_202 rfl d_Gu_forget_4 ?_
    refine q_alenZ (pc := 7) (c := 30) (48 : Int32) C ⟨rfl, rfl⟩ rfl d_Gu_forget_7 ?_
    obtain ⟨h2, h3⟩ := h
    refine q_icmp_ge (pc := 8) 24 C d_Gu_forget_8 (by decide) (fun hc => ?_) (fun hc => ?_)
    · have h := h2 hc
      exact q_vret (pc := 24) C hr d_Gu_forget_24 h
    have h := h3 hc
    refine q_aload_n (pc := 11) C d_Gu_forget_11 rfl 0 rfl ?_
    refine q_get (pc := 12) (c := 29) (ci := 1) (k := 0) (v := .ref (ya Y 30)) C rfl (by decide) (by decide) wd_202 rfl d_Gu_forget_12 ?_
    refine q_iload_n (pc := 15) C d_Gu_forget_15 rfl 1 rfl ?_
    refine q_iconst (pc := 16) (v := 0) C d_Gu_forget_16 (by decide) ?_
    obtain ⟨h1, h⟩ := h
    refine q_zast (pc := 17) (c := 30) C ⟨rfl, rfl⟩ h1 rfl d_Gu_forget_17 ?_
    refine q_nms (fun τ17 eτ17 => ?_)
    replace h := h τ17 eτ17
    refine q_iinc (pc := 18) (v1 + (1 : Int32)) [(1, .int (v1 + (1 : Int32))), (0, .ref (ya Y 29))] C d_Gu_forget_18 1 rfl rfl (by decide) rfl ?_
    refine q_goto (pc := 21) 2 C d_Gu_forget_21 (by decide) ?_
    refine q_sub [(0, .ref (ya Y 29)), (1, .int (v1 + (1 : Int32)))] [1, 0] rfl ?_
    exact ih (v1 + (1 : Int32)) τ17 h
def w_Gu_forget  (σ : Sg) (K : Sg → Prop) : Prop :=
  (∃ n4 : Nat, L_Gu_forget_2 K n4 (0 : Int32) σ)
set_option maxHeartbeats 4000000 in
theorem m_Gu_forget {Y : Yx}  {σ : Sg} {K : Sg → Prop} (hY : YD Y)  (h : w_Gu_forget σ K) : MetV Y y_Gu_forget prog_3_method_2_code 2 0 0 [.ref (ya Y 29)] σ K := by
  refine met_V [(0, .ref (ya Y 29))] hY (by decide) (Nat.le_of_ble_eq_true rfl) rfl (fun X C hr => ?_)
  unfold w_Gu_forget at h
  refine q_iconst (pc := 0) (v := 0) C d_Gu_forget_0 (by decide) ?_
  refine q_istore_n (pc := 1) [(1, .int (0 : Int32)), (0, .ref (ya Y 29))] C d_Gu_forget_1 rfl (by decide) rfl ?_
  obtain ⟨n4, h⟩ := h
  refine q_sub [(0, .ref (ya Y 29)), (1, .int (0 : Int32))] [1, 0] rfl ?_
  exact t_Gu_forget_2 hY C hr n4 (0 : Int32) σ h
theorem d_Lc_forgetBest_0 : decode prog_1_method_40_code 0 = .ok (.aload_n 0, 1) := by decide +kernel
theorem d_Lc_forgetBest_1 : decode prog_1_method_40_code 1 = .ok (.iconst 0, 1) := by decide +kernel
theorem d_Lc_forgetBest_2 : decode prog_1_method_40_code 2 = .ok (.putfield 263, 3) := by decide +kernel
theorem d_Lc_forgetBest_5 : decode prog_1_method_40_code 5 = .ok (.aload_n 0, 1) := by decide +kernel
theorem d_Lc_forgetBest_6 : decode prog_1_method_40_code 6 = .ok (.getfield 48, 3) := by decide +kernel
theorem d_Lc_forgetBest_9 : decode prog_1_method_40_code 9 = .ok (.invokevirtual 267, 3) := by decide +kernel
theorem d_Lc_forgetBest_12 : decode prog_1_method_40_code 12 = .ok (.return_, 1) := by decide +kernel
abbrev y_Lc_forgetBest : MethodName := ⟨"LoadCycles", "forgetBest", "()V"⟩
theorem mi_Lc_forgetBest : miV y_Lc_forgetBest prog_1_method_40_code 1 none 0 := ⟨wd_347, wd_6, wd_65, wd_348, by decide, by decide, by decide +kernel⟩
def w_Lc_forgetBest  (σ : Sg) (K : Sg → Prop) : Prop :=
  (∀ τ2 : Sg, τ2 = s2 σ 0 11 (0 : Int32) → w_Gu_forget τ2 (fun τ9 => K τ9))
set_option maxHeartbeats 4000000 in
theorem m_Lc_forgetBest {Y : Yx}  {σ : Sg} {K : Sg → Prop} (hY : YD Y)  (h : w_Lc_forgetBest σ K) : MetV Y y_Lc_forgetBest prog_1_method_40_code 1 1 21 [.ref (ya Y 0)] σ K := by
  refine met_V [(0, .ref (ya Y 0))] hY (by decide) (Nat.le_of_ble_eq_true rfl) rfl (fun X C hr => ?_)
  unfold w_Lc_forgetBest at h
  refine q_aload_n (pc := 0) C d_Lc_forgetBest_0 rfl 0 rfl ?_
  refine q_iconst (pc := 1) (v := 0) C d_Lc_forgetBest_1 (by decide) ?_
  refine q_put (pc := 2) (c := 0) (ci := 6) (k := 11) C rfl (by decide) (by decide) wd_241 rfl rfl rfl fs_6_11 d_Lc_forgetBest_2 ?_
  refine q_nms (fun τ2 eτ2 => ?_)
  replace h := h τ2 eτ2
  refine q_aload_n (pc := 5) C d_Lc_forgetBest_5 rfl 0 rfl ?_
  refine q_get (pc := 6) (c := 0) (ci := 6) (k := 6) (v := .ref (ya Y 29)) C rfl (by decide) (by decide) wd_236 rfl d_Lc_forgetBest_6 ?_
  refine q_callVV (pc := 9) (st := []) (d := 29) C (m_Gu_forget hY h) mi_Gu_forget rfl (by decide) rfl wd_349 rfl rfl (Nat.le_of_ble_eq_true rfl) (by decide) (by decide) d_Lc_forgetBest_9 (fun τ9 h => ?_)
  exact q_vret (pc := 12) C hr d_Lc_forgetBest_12 h
theorem d_Lc_house_0 : decode prog_1_method_2_code 0 = .ok (.aload_n 0, 1) := by decide +kernel
theorem d_Lc_house_1 : decode prog_1_method_2_code 1 = .ok (.iconst 0, 1) := by decide +kernel
theorem d_Lc_house_2 : decode prog_1_method_2_code 2 = .ok (.putfield 66, 3) := by decide +kernel
theorem d_Lc_house_5 : decode prog_1_method_2_code 5 = .ok (.iload_n 1, 1) := by decide +kernel
theorem d_Lc_house_6 : decode prog_1_method_2_code 6 = .ok (.invokestatic 70, 3) := by decide +kernel
theorem d_Lc_house_9 : decode prog_1_method_2_code 9 = .ok (.ifCond .ne 5, 3) := by decide +kernel
theorem d_Lc_house_12 : decode prog_1_method_2_code 12 = .ok (.iconst (-1), 1) := by decide +kernel
theorem d_Lc_house_13 : decode prog_1_method_2_code 13 = .ok (.ireturn, 1) := by decide +kernel
theorem d_Lc_house_14 : decode prog_1_method_2_code 14 = .ok (.iload_n 2, 1) := by decide +kernel
theorem d_Lc_house_15 : decode prog_1_method_2_code 15 = .ok (.invokestatic 74, 3) := by decide +kernel
theorem d_Lc_house_18 : decode prog_1_method_2_code 18 = .ok (.ifCond .ne 6, 3) := by decide +kernel
theorem d_Lc_house_21 : decode prog_1_method_2_code 21 = .ok (.bipush (-2), 2) := by decide +kernel
theorem d_Lc_house_23 : decode prog_1_method_2_code 23 = .ok (.ireturn, 1) := by decide +kernel
theorem d_Lc_house_24 : decode prog_1_method_2_code 24 = .ok (.aload_n 0, 1) := by decide +kernel
theorem d_Lc_house_25 : decode prog_1_method_2_code 25 = .ok (.getfield 54, 3) := by decide +kernel
theorem d_Lc_house_28 : decode prog_1_method_2_code 28 = .ok (.iload_n 1, 1) := by decide +kernel
theorem d_Lc_house_29 : decode prog_1_method_2_code 29 = .ok (.aaload, 1) := by decide +kernel
theorem d_Lc_house_30 : decode prog_1_method_2_code 30 = .ok (.astore 5, 2) := by decide +kernel
theorem d_Lc_house_32 : decode prog_1_method_2_code 32 = .ok (.aload 5, 2) := by decide +kernel
theorem d_Lc_house_34 : decode prog_1_method_2_code 34 = .ok (.iload_n 2, 1) := by decide +kernel
theorem d_Lc_house_35 : decode prog_1_method_2_code 35 = .ok (.invokevirtual 77, 3) := by decide +kernel
theorem d_Lc_house_38 : decode prog_1_method_2_code 38 = .ok (.istore 6, 2) := by decide +kernel
theorem d_Lc_house_40 : decode prog_1_method_2_code 40 = .ok (.iload 6, 2) := by decide +kernel
theorem d_Lc_house_42 : decode prog_1_method_2_code 42 = .ok (.ifCond .ne 11, 3) := by decide +kernel
theorem d_Lc_house_45 : decode prog_1_method_2_code 45 = .ok (.iload 4, 2) := by decide +kernel
theorem d_Lc_house_47 : decode prog_1_method_2_code 47 = .ok (.ifCond .ge 6, 3) := by decide +kernel
theorem d_Lc_house_50 : decode prog_1_method_2_code 50 = .ok (.iconst 4, 1) := by decide +kernel
theorem d_Lc_house_51 : decode prog_1_method_2_code 51 = .ok (.istore 6, 2) := by decide +kernel
theorem d_Lc_house_53 : decode prog_1_method_2_code 53 = .ok (.iload 6, 2) := by decide +kernel
theorem d_Lc_house_55 : decode prog_1_method_2_code 55 = .ok (.ifCond .ne 17, 3) := by decide +kernel
theorem d_Lc_house_58 : decode prog_1_method_2_code 58 = .ok (.aload 5, 2) := by decide +kernel
theorem d_Lc_house_60 : decode prog_1_method_2_code 60 = .ok (.iload_n 3, 1) := by decide +kernel
theorem d_Lc_house_61 : decode prog_1_method_2_code 61 = .ok (.iload 4, 2) := by decide +kernel
theorem d_Lc_house_63 : decode prog_1_method_2_code 63 = .ok (.invokevirtual 81, 3) := by decide +kernel
theorem d_Lc_house_66 : decode prog_1_method_2_code 66 = .ok (.ifCond .ne 6, 3) := by decide +kernel
theorem d_Lc_house_69 : decode prog_1_method_2_code 69 = .ok (.iconst 3, 1) := by decide +kernel
theorem d_Lc_house_70 : decode prog_1_method_2_code 70 = .ok (.istore 6, 2) := by decide +kernel
theorem d_Lc_house_72 : decode prog_1_method_2_code 72 = .ok (.iload 6, 2) := by decide +kernel
theorem d_Lc_house_74 : decode prog_1_method_2_code 74 = .ok (.ifCond .eq 10, 3) := by decide +kernel
theorem d_Lc_house_77 : decode prog_1_method_2_code 77 = .ok (.aload_n 0, 1) := by decide +kernel
theorem d_Lc_house_78 : decode prog_1_method_2_code 78 = .ok (.iload 6, 2) := by decide +kernel
theorem d_Lc_house_80 : decode prog_1_method_2_code 80 = .ok (.invokevirtual 85, 3) := by decide +kernel
theorem d_Lc_house_83 : decode prog_1_method_2_code 83 = .ok (.ireturn, 1) := by decide +kernel
theorem d_Lc_house_84 : decode prog_1_method_2_code 84 = .ok (.aload_n 0, 1) := by decide +kernel
theorem d_Lc_house_85 : decode prog_1_method_2_code 85 = .ok (.getfield 41, 3) := by decide +kernel
theorem d_Lc_house_88 : decode prog_1_method_2_code 88 = .ok (.aload 5, 2) := by decide +kernel
theorem d_Lc_house_90 : decode prog_1_method_2_code 90 = .ok (.iload_n 3, 1) := by decide +kernel
theorem d_Lc_house_91 : decode prog_1_method_2_code 91 = .ok (.iload 4, 2) := by decide +kernel
theorem d_Lc_house_93 : decode prog_1_method_2_code 93 = .ok (.invokevirtual 88, 3) := by decide +kernel
theorem d_Lc_house_96 : decode prog_1_method_2_code 96 = .ok (.istore 7, 2) := by decide +kernel
theorem d_Lc_house_98 : decode prog_1_method_2_code 98 = .ok (.iload 7, 2) := by decide +kernel
theorem d_Lc_house_100 : decode prog_1_method_2_code 100 = .ok (.bipush (-9), 2) := by decide +kernel
theorem d_Lc_house_102 : decode prog_1_method_2_code 102 = .ok (.if_icmp .eq 9, 3) := by decide +kernel
theorem d_Lc_house_105 : decode prog_1_method_2_code 105 = .ok (.bipush (-100), 2) := by decide +kernel
theorem d_Lc_house_107 : decode prog_1_method_2_code 107 = .ok (.iload 7, 2) := by decide +kernel
theorem d_Lc_house_109 : decode prog_1_method_2_code 109 = .ok (.isub, 1) := by decide +kernel
theorem d_Lc_house_110 : decode prog_1_method_2_code 110 = .ok (.ireturn, 1) := by decide +kernel
theorem d_Lc_house_111 : decode prog_1_method_2_code 111 = .ok (.aload_n 0, 1) := by decide +kernel
theorem d_Lc_house_112 : decode prog_1_method_2_code 112 = .ok (.getfield 12, 3) := by decide +kernel
theorem d_Lc_house_115 : decode prog_1_method_2_code 115 = .ok (.aload_n 0, 1) := by decide +kernel
theorem d_Lc_house_116 : decode prog_1_method_2_code 116 = .ok (.getfield 41, 3) := by decide +kernel
theorem d_Lc_house_119 : decode prog_1_method_2_code 119 = .ok (.getfield 92, 3) := by decide +kernel
theorem d_Lc_house_122 : decode prog_1_method_2_code 122 = .ok (.invokevirtual 95, 3) := by decide +kernel
theorem d_Lc_house_125 : decode prog_1_method_2_code 125 = .ok (.aload_n 0, 1) := by decide +kernel
theorem d_Lc_house_126 : decode prog_1_method_2_code 126 = .ok (.iconst 0, 1) := by decide +kernel
theorem d_Lc_house_127 : decode prog_1_method_2_code 127 = .ok (.putfield 99, 3) := by decide +kernel
theorem d_Lc_house_130 : decode prog_1_method_2_code 130 = .ok (.aload_n 0, 1) := by decide +kernel
theorem d_Lc_house_131 : decode prog_1_method_2_code 131 = .ok (.invokevirtual 102, 3) := by decide +kernel
theorem d_Lc_house_134 : decode prog_1_method_2_code 134 = .ok (.aload_n 0, 1) := by decide +kernel
theorem d_Lc_house_135 : decode prog_1_method_2_code 135 = .ok (.getfield 12, 3) := by decide +kernel
theorem d_Lc_house_138 : decode prog_1_method_2_code 138 = .ok (.getfield 105, 3) := by decide +kernel
theorem d_Lc_house_141 : decode prog_1_method_2_code 141 = .ok (.ireturn, 1) := by decide +kernel
abbrev y_Lc_house : MethodName := ⟨"LoadCycles", "house", "(IIII)I"⟩
theorem mi_Lc_house : miV y_Lc_house prog_1_method_2_code 8 (some .int) 4 := ⟨wd_274, wd_275, wd_65, wd_276, by decide, by decide, by decide +kernel⟩
def B_Lc_house_72 (x1 : Int32) (x2 : Int32) (x3 : Int32) (x4 : Int32) (K : Int32 → Sg → Prop) (c5 : Nat) (v6 : Int32) (σ : Sg) : Prop :=
  ((v6 = 0 → w_Tr_firstFault c5 x3 x4 σ (fun u93 τ93 => ((u93 = (-9 : Int32) → w_Ho_become 1 11 τ93 (fun τ122 => (∀ τ127 : Sg, τ127 = s2 τ122 0 10 (0 : Int32) → w_Lc_forgetBest τ127 (fun τ131 => K (τ131 1 4) τ131)))) ∧ (¬ u93 = (-9 : Int32) → K ((-100 : Int32) - u93) τ93)))) ∧ (¬ v6 = 0 → w_Lc_faulted v6 σ (fun u80 τ80 => K u80 τ80)))
theorem t_Lc_house_72 {X : Bx} {Y : Yx} {x1 : Int32} {x2 : Int32} {x3 : Int32} {x4 : Int32} {c5 : Nat} {v6 : Int32} {K : Int32 → Sg → Prop}  (hY : YD Y) (C : Cx X Y prog_1_method_2_code 8 "LoadCycles" 5 111) (hr : (xh X).sig.returnType = some .int) (hkc5 : kd c5 = 3)  {σ : Sg} (h : B_Lc_house_72 x1 x2 x3 x4 K c5 v6 σ) : St X Y 8 (QI X Y K) 72 [(0, .ref (ya Y 0)), (3, .int x3), (4, .int x4), (5, .ref (ya Y c5)), (6, .int v6)] [] σ := by
  unfold B_Lc_house_72 at h
  refine q_iload (pc := 72) C d_Lc_house_72 4 rfl ?_
  obtain ⟨h4, h5⟩ := h
  refine q_if_eq (pc := 74) 84 C d_Lc_house_74 (by decide) (fun hc => ?_) (fun hc => ?_)
  · have h := h4 hc
    refine q_aload_n (pc := 84) C d_Lc_house_84 rfl 0 rfl ?_
    refine q_get (pc := 85) (c := 0) (ci := 6) (k := 5) (v := .ref (ya Y 28)) C rfl (by decide) (by decide) wd_235 rfl d_Lc_house_85 ?_
    refine q_aload (pc := 88) C d_Lc_house_88 3 rfl ?_
    refine q_iload_n (pc := 90) C d_Lc_house_90 rfl 1 rfl ?_
    refine q_iload (pc := 91) C d_Lc_house_91 2 rfl ?_
    refine q_callVI (pc := 93) (st := []) (d := 28) C (m_Tr_firstFault hY hkc5 h) mi_Tr_firstFault rfl (by decide) rfl wd_299 rfl rfl (Nat.le_of_ble_eq_true rfl) (by decide) (by decide) d_Lc_house_93 (fun u93 τ93 h => ?_)
    refine q_istore (pc := 96) [(7, .int u93), (0, .ref (ya Y 0)), (3, .int x3), (4, .int x4), (5, .ref (ya Y c5)), (6, .int v6)] C d_Lc_house_96 (by decide) rfl ?_
    refine q_iload (pc := 98) C d_Lc_house_98 0 rfl ?_
    refine q_bipush (pc := 100) (v := -9) C d_Lc_house_100 (by decide) ?_
    obtain ⟨h2, h3⟩ := h
    refine q_icmp_eq (pc := 102) 111 C d_Lc_house_102 (by decide) (fun hc => ?_) (fun hc => ?_)
    · have h := h2 hc
      refine q_aload_n (pc := 111) C d_Lc_house_111 rfl 1 rfl ?_
      refine q_get (pc := 112) (c := 0) (ci := 6) (k := 0) (v := .ref (ya Y 1)) C rfl (by decide) (by decide) wd_230 rfl d_Lc_house_112 ?_
      refine q_aload_n (pc := 115) C d_Lc_house_115 rfl 1 rfl ?_
      refine q_get (pc := 116) (c := 0) (ci := 6) (k := 5) (v := .ref (ya Y 28)) C rfl (by decide) (by decide) wd_235 rfl d_Lc_house_116 ?_
      refine q_get (pc := 119) (c := 28) (ci := 4) (k := 0) (v := .ref (ya Y 11)) C rfl (by decide) (by decide) wd_189 rfl d_Lc_house_119 ?_
      refine q_callVV (pc := 122) (st := []) (d := 1) C (m_Ho_become hY rfl rfl h) mi_Ho_become rfl (by decide) rfl wd_338 rfl rfl (Nat.le_of_ble_eq_true rfl) (by decide) (by decide) d_Lc_house_122 (fun τ122 h => ?_)
      refine q_aload_n (pc := 125) C d_Lc_house_125 rfl 1 rfl ?_
      refine q_iconst (pc := 126) (v := 0) C d_Lc_house_126 (by decide) ?_
      refine q_put (pc := 127) (c := 0) (ci := 6) (k := 10) C rfl (by decide) (by decide) wd_240 rfl rfl rfl fs_6_10 d_Lc_house_127 ?_
      refine q_nms (fun τ127 eτ127 => ?_)
      replace h := h τ127 eτ127
      refine q_aload_n (pc := 130) C d_Lc_house_130 rfl 1 rfl ?_
      refine q_callVV (pc := 131) (st := []) (d := 0) C (m_Lc_forgetBest hY h) mi_Lc_forgetBest rfl (by decide) rfl wd_345 rfl rfl (Nat.le_of_ble_eq_true rfl) (by decide) (by decide) d_Lc_house_131 (fun τ131 h => ?_)
      refine q_aload_n (pc := 134) C d_Lc_house_134 rfl 1 rfl ?_
      refine q_get (pc := 135) (c := 0) (ci := 6) (k := 0) (v := .ref (ya Y 1)) C rfl (by decide) (by decide) wd_230 rfl d_Lc_house_135 ?_
      refine q_get (pc := 138) (c := 1) (ci := 2) (k := 4) (v := .int (τ131 1 4)) C rfl (by decide) (by decide) wd_103 rfl d_Lc_house_138 ?_
      exact q_iret (pc := 141) C hr d_Lc_house_141 h
    have h := h3 hc
    refine q_bipush (pc := 105) (v := -100) C d_Lc_house_105 (by decide) ?_
    refine q_iload (pc := 107) C d_Lc_house_107 0 rfl ?_
    refine q_isub (pc := 109) C d_Lc_house_109 ?_
    exact q_iret (pc := 110) C hr d_Lc_house_110 h
  have h := h5 hc
  refine q_aload_n (pc := 77) C d_Lc_house_77 rfl 0 rfl ?_
  refine q_iload (pc := 78) C d_Lc_house_78 4 rfl ?_
  refine q_callVI (pc := 80) (st := []) (d := 0) C (m_Lc_faulted hY h) mi_Lc_faulted rfl (by decide) rfl wd_295 rfl rfl (Nat.le_of_ble_eq_true rfl) (by decide) (by decide) d_Lc_house_80 (fun u80 τ80 h => ?_)
  exact q_iret (pc := 83) C hr d_Lc_house_83 h
def B_Lc_house_53 (x1 : Int32) (x2 : Int32) (x3 : Int32) (x4 : Int32) (K : Int32 → Sg → Prop) (c5 : Nat) (v6 : Int32) (σ : Sg) : Prop :=
  ((¬ v6 = 0 → B_Lc_house_72 x1 x2 x3 x4 K c5 v6 σ) ∧ (v6 = 0 → w_Sh_holds c5 x3 x4 σ (fun u63 => ((¬ u63 = 0 → B_Lc_house_72 x1 x2 x3 x4 K c5 v6 σ) ∧ (u63 = 0 → B_Lc_house_72 x1 x2 x3 x4 K c5 (3 : Int32) σ)))))
theorem t_Lc_house_53 {X : Bx} {Y : Yx} {x1 : Int32} {x2 : Int32} {x3 : Int32} {x4 : Int32} {c5 : Nat} {v6 : Int32} {K : Int32 → Sg → Prop}  (hY : YD Y) (C : Cx X Y prog_1_method_2_code 8 "LoadCycles" 5 111) (hr : (xh X).sig.returnType = some .int) (hkc5 : kd c5 = 3)  {σ : Sg} (h : B_Lc_house_53 x1 x2 x3 x4 K c5 v6 σ) : St X Y 8 (QI X Y K) 53 [(0, .ref (ya Y 0)), (3, .int x3), (4, .int x4), (5, .ref (ya Y c5)), (6, .int v6)] [] σ := by
  unfold B_Lc_house_53 at h
  refine q_iload (pc := 53) C d_Lc_house_53 4 rfl ?_
  obtain ⟨h8, h9⟩ := h
  refine q_if_ne (pc := 55) 72 C d_Lc_house_55 (by decide) (fun hc => ?_) (fun hc => ?_)
  · have h := h8 hc
    exact t_Lc_house_72 hY C hr hkc5 h
  have h := h9 hc
  refine q_aload (pc := 58) C d_Lc_house_58 3 rfl ?_
  refine q_iload_n (pc := 60) C d_Lc_house_60 rfl 1 rfl ?_
  refine q_iload (pc := 61) C d_Lc_house_61 2 rfl ?_
  refine q_callVIr (pc := 63) (st := []) (d := c5) C (m_Sh_holds hY hkc5 h) mi_Sh_holds hkc5 (by decide) rfl wd_291 rfl rfl (Nat.le_of_ble_eq_true rfl) (by decide) (by decide) d_Lc_house_63 (fun u63 h => ?_)
  obtain ⟨h6, h7⟩ := h
  refine q_if_ne (pc := 66) 72 C d_Lc_house_66 (by decide) (fun hc => ?_) (fun hc => ?_)
  · have h := h6 hc
    exact t_Lc_house_72 hY C hr hkc5 h
  have h := h7 hc
  refine q_iconst (pc := 69) (v := 3) C d_Lc_house_69 (by decide) ?_
  refine q_istore (pc := 70) [(6, .int (3 : Int32)), (0, .ref (ya Y 0)), (3, .int x3), (4, .int x4), (5, .ref (ya Y c5))] C d_Lc_house_70 (by decide) rfl ?_
  refine q_sub [(0, .ref (ya Y 0)), (3, .int x3), (4, .int x4), (5, .ref (ya Y c5)), (6, .int (3 : Int32))] [1, 2, 3, 4, 0] rfl ?_
  exact t_Lc_house_72 hY C hr hkc5 h
def w_Lc_house (x1 : Int32) (x2 : Int32) (x3 : Int32) (x4 : Int32) (σ : Sg) (K : Int32 → Sg → Prop) : Prop :=
  (∀ τ2 : Sg, τ2 = s2 σ 0 13 (0 : Int32) → w_Lc_isSheet x1 τ2 (fun u6 => ((¬ u6 = 0 → w_Lc_isLane x2 τ2 (fun u15 => ((¬ u15 = 0 → (vp_in x1 4 ∧ w_Sh_faultOfRow (33 + 2 * x1.toNatClampNeg) x2 τ2 (fun u35 => ((¬ u35 = 0 → B_Lc_house_53 x1 x2 x3 x4 K (33 + 2 * x1.toNatClampNeg) u35 τ2) ∧ (u35 = 0 → ((0 ≤ x4 → B_Lc_house_53 x1 x2 x3 x4 K (33 + 2 * x1.toNatClampNeg) u35 τ2) ∧ (¬ 0 ≤ x4 → B_Lc_house_53 x1 x2 x3 x4 K (33 + 2 * x1.toNatClampNeg) (4 : Int32) τ2))))))) ∧ (u15 = 0 → K (-2 : Int32) τ2)))) ∧ (u6 = 0 → K (-1 : Int32) τ2))))
set_option maxHeartbeats 4000000 in
theorem m_Lc_house {Y : Yx} {x1 : Int32} {x2 : Int32} {x3 : Int32} {x4 : Int32} {σ : Sg} {K : Int32 → Sg → Prop} (hY : YD Y)  (h : w_Lc_house x1 x2 x3 x4 σ K) : MetI Y y_Lc_house prog_1_method_2_code 8 (.int) 5 111 [.ref (ya Y 0), .int x1, .int x2, .int x3, .int x4] σ K := by
  refine met_I [(0, .ref (ya Y 0)), (1, .int x1), (2, .int x2), (3, .int x3), (4, .int x4)] hY (by decide) (Nat.le_of_ble_eq_true rfl) rfl (fun X C hr => ?_)
  unfold w_Lc_house at h
  refine q_aload_n (pc := 0) C d_Lc_house_0 rfl 0 rfl ?_
  refine q_iconst (pc := 1) (v := 0) C d_Lc_house_1 (by decide) ?_
  refine q_put (pc := 2) (c := 0) (ci := 6) (k := 13) C rfl (by decide) (by decide) wd_243 rfl rfl rfl fs_6_13 d_Lc_house_2 ?_
  refine q_nms (fun τ2 eτ2 => ?_)
  replace h := h τ2 eτ2
  refine q_iload_n (pc := 5) C d_Lc_house_5 rfl 1 rfl ?_
  refine q_callSIr (pc := 6) (st := []) C (m_Lc_isSheet hY h) mi_Lc_isSheet wd_277 rfl rfl (Nat.le_of_ble_eq_true rfl) (by decide) (by decide) d_Lc_house_6 (fun u6 h => ?_)
  obtain ⟨h16, h17⟩ := h
  refine q_if_ne (pc := 9) 14 C d_Lc_house_9 (by decide) (fun hc => ?_) (fun hc => ?_)
  · have h := h16 hc
    refine q_iload_n (pc := 14) C d_Lc_house_14 rfl 2 rfl ?_
    refine q_callSIr (pc := 15) (st := []) C (m_Lc_isLane hY h) mi_Lc_isLane wd_280 rfl rfl (Nat.le_of_ble_eq_true rfl) (by decide) (by decide) d_Lc_house_15 (fun u15 h => ?_)
    obtain ⟨h14, h15⟩ := h
    refine q_if_ne (pc := 18) 24 C d_Lc_house_18 (by decide) (fun hc => ?_) (fun hc => ?_)
    · have h := h14 hc
      refine q_aload_n (pc := 24) C d_Lc_house_24 rfl 0 rfl ?_
      refine q_get (pc := 25) (c := 0) (ci := 6) (k := 7) (v := .ref (ya Y 32)) C rfl (by decide) (by decide) wd_237 rfl d_Lc_house_25 ?_
      refine q_iload_n (pc := 28) C d_Lc_house_28 rfl 1 rfl ?_
      obtain ⟨h1, h⟩ := h
      refine q_aald (pc := 29) C h1 d_Lc_house_29 ?_
      refine q_astore (pc := 30) [(5, .ref (ya Y (33 + 2 * x1.toNatClampNeg))), (0, .ref (ya Y 0)), (1, .int x1), (2, .int x2), (3, .int x3), (4, .int x4)] C d_Lc_house_30 (by decide) rfl ?_
      refine q_aload (pc := 32) C d_Lc_house_32 0 rfl ?_
      refine q_iload_n (pc := 34) C d_Lc_house_34 rfl 3 rfl ?_
      refine q_callVIr (pc := 35) (st := []) (d := (33 + 2 * x1.toNatClampNeg)) C (m_Sh_faultOfRow hY (iaS h1) h) mi_Sh_faultOfRow (iaS h1) (by decide) rfl wd_283 rfl rfl (Nat.le_of_ble_eq_true rfl) (by decide) (by decide) d_Lc_house_35 (fun u35 h => ?_)
      refine q_istore (pc := 38) [(6, .int u35), (5, .ref (ya Y (33 + 2 * x1.toNatClampNeg))), (0, .ref (ya Y 0)), (1, .int x1), (2, .int x2), (3, .int x3), (4, .int x4)] C d_Lc_house_38 (by decide) rfl ?_
      refine q_iload (pc := 40) C d_Lc_house_40 0 rfl ?_
      obtain ⟨h12, h13⟩ := h
      refine q_if_ne (pc := 42) 53 C d_Lc_house_42 (by decide) (fun hc => ?_) (fun hc => ?_)
      · have h := h12 hc
        refine q_sub [(0, .ref (ya Y 0)), (3, .int x3), (4, .int x4), (5, .ref (ya Y (33 + 2 * x1.toNatClampNeg))), (6, .int u35)] [2, 5, 6, 1, 0] rfl ?_
        exact t_Lc_house_53 hY C hr ((iaS h1)) h
      have h := h13 hc
      refine q_iload (pc := 45) C d_Lc_house_45 6 rfl ?_
      obtain ⟨h10, h11⟩ := h
      refine q_if_ge (pc := 47) 53 C d_Lc_house_47 (by decide) (fun hc => ?_) (fun hc => ?_)
      · have h := h10 hc
        refine q_sub [(0, .ref (ya Y 0)), (3, .int x3), (4, .int x4), (5, .ref (ya Y (33 + 2 * x1.toNatClampNeg))), (6, .int u35)] [2, 5, 6, 1, 0] rfl ?_
        exact t_Lc_house_53 hY C hr ((iaS h1)) h
      have h := h11 hc
      refine q_iconst (pc := 50) (v := 4) C d_Lc_house_50 (by decide) ?_
      refine q_istore (pc := 51) [(6, .int (4 : Int32)), (5, .ref (ya Y (33 + 2 * x1.toNatClampNeg))), (0, .ref (ya Y 0)), (1, .int x1), (2, .int x2), (3, .int x3), (4, .int x4)] C d_Lc_house_51 (by decide) rfl ?_
      refine q_sub [(0, .ref (ya Y 0)), (3, .int x3), (4, .int x4), (5, .ref (ya Y (33 + 2 * x1.toNatClampNeg))), (6, .int (4 : Int32))] [2, 5, 6, 1, 0] rfl ?_
      exact t_Lc_house_53 hY C hr ((iaS h1)) h
    have h := h15 hc
    refine q_bipush (pc := 21) (v := -2) C d_Lc_house_21 (by decide) ?_
    exact q_iret (pc := 23) C hr d_Lc_house_23 h
  have h := h17 hc
  refine q_iconst (pc := 12) (v := -1) C d_Lc_house_12 (by decide) ?_
  exact q_iret (pc := 13) C hr d_Lc_house_13 h
theorem d_Ho_hasAppliance_0 : decode prog_4_method_3_code 0 = .ok (.iload_n 1, 1) := by decide +kernel
theorem d_Ho_hasAppliance_1 : decode prog_4_method_3_code 1 = .ok (.ifCond .lt 15, 3) := by decide +kernel
theorem d_Ho_hasAppliance_4 : decode prog_4_method_3_code 4 = .ok (.iload_n 1, 1) := by decide +kernel
theorem d_Ho_hasAppliance_5 : decode prog_4_method_3_code 5 = .ok (.aload_n 0, 1) := by decide +kernel
theorem d_Ho_hasAppliance_6 : decode prog_4_method_3_code 6 = .ok (.getfield 30, 3) := by decide +kernel
theorem d_Ho_hasAppliance_9 : decode prog_4_method_3_code 9 = .ok (.if_icmp .ge 7, 3) := by decide +kernel
theorem d_Ho_hasAppliance_12 : decode prog_4_method_3_code 12 = .ok (.iconst 1, 1) := by decide +kernel
theorem d_Ho_hasAppliance_13 : decode prog_4_method_3_code 13 = .ok (.goto 4, 3) := by decide +kernel
theorem d_Ho_hasAppliance_16 : decode prog_4_method_3_code 16 = .ok (.iconst 0, 1) := by decide +kernel
theorem d_Ho_hasAppliance_17 : decode prog_4_method_3_code 17 = .ok (.ireturn, 1) := by decide +kernel
abbrev y_Ho_hasAppliance : MethodName := ⟨"LoadCycles$House", "hasAppliance", "(I)Z"⟩
theorem mi_Ho_hasAppliance : miV y_Ho_hasAppliance prog_4_method_3_code 2 (some .boolean) 1 := ⟨wd_358, wd_359, wd_66, wd_360, by decide, by decide, by decide +kernel⟩
def w_Ho_hasAppliance (o : Nat) (x1 : Int32) (σ : Sg) (K : Int32 → Prop) : Prop :=
  ((x1 < 0 → K (0 : Int32)) ∧ (¬ x1 < 0 → (((σ o 4) ≤ x1 → K (0 : Int32)) ∧ (¬ (σ o 4) ≤ x1 → K (1 : Int32)))))
set_option maxHeartbeats 4000000 in
theorem m_Ho_hasAppliance {Y : Yx} {o : Nat} {x1 : Int32} {σ : Sg} {K : Int32 → Prop} (hY : YD Y) (ho : kd o = 2) (h : w_Ho_hasAppliance o x1 σ K) : MetI Y y_Ho_hasAppliance prog_4_method_3_code 2 (.boolean) 0 0 [.ref (ya Y o), .int x1] σ (fun r τ => τ = σ ∧ K r) := by
  refine met_I [(0, .ref (ya Y o)), (1, .int x1)] hY (by decide) (Nat.le_of_ble_eq_true rfl) rfl (fun X C hr => ?_)
  unfold w_Ho_hasAppliance at h
  refine q_iload_n (pc := 0) C d_Ho_hasAppliance_0 rfl 1 rfl ?_
  obtain ⟨h3, h4⟩ := h
  refine q_if_lt (pc := 1) 16 C d_Ho_hasAppliance_1 (by decide) (fun hc => ?_) (fun hc => ?_)
  · have h := h3 hc
    refine q_iconst (pc := 16) (v := 0) C d_Ho_hasAppliance_16 (by decide) ?_
    exact q_zret (pc := 17) C hr d_Ho_hasAppliance_17 bz0 ⟨rfl, h⟩
  have h := h4 hc
  refine q_iload_n (pc := 4) C d_Ho_hasAppliance_4 rfl 1 rfl ?_
  refine q_aload_n (pc := 5) C d_Ho_hasAppliance_5 rfl 0 rfl ?_
  refine q_get (pc := 6) (c := o) (ci := 2) (k := 4) (v := .int (σ o 4)) C ho (by decide) (by decide) wd_102 rfl d_Ho_hasAppliance_6 ?_
  obtain ⟨h1, h2⟩ := h
  refine q_icmp_ge (pc := 9) 16 C d_Ho_hasAppliance_9 (by decide) (fun hc => ?_) (fun hc => ?_)
  · have h := h1 hc
    refine q_iconst (pc := 16) (v := 0) C d_Ho_hasAppliance_16 (by decide) ?_
    exact q_zret (pc := 17) C hr d_Ho_hasAppliance_17 bz0 ⟨rfl, h⟩
  have h := h2 hc
  refine q_iconst (pc := 12) (v := 1) C d_Ho_hasAppliance_12 (by decide) ?_
  refine q_goto (pc := 13) 17 C d_Ho_hasAppliance_13 (by decide) ?_
  exact q_zret (pc := 17) C hr d_Ho_hasAppliance_17 bz1 ⟨rfl, h⟩
theorem d_Ho_hasLevel_0 : decode prog_4_method_4_code 0 = .ok (.iload_n 2, 1) := by decide +kernel
theorem d_Ho_hasLevel_1 : decode prog_4_method_4_code 1 = .ok (.ifCond .lt 17, 3) := by decide +kernel
theorem d_Ho_hasLevel_4 : decode prog_4_method_4_code 4 = .ok (.iload_n 2, 1) := by decide +kernel
theorem d_Ho_hasLevel_5 : decode prog_4_method_4_code 5 = .ok (.aload_n 0, 1) := by decide +kernel
theorem d_Ho_hasLevel_6 : decode prog_4_method_4_code 6 = .ok (.getfield 15, 3) := by decide +kernel
theorem d_Ho_hasLevel_9 : decode prog_4_method_4_code 9 = .ok (.iload_n 1, 1) := by decide +kernel
theorem d_Ho_hasLevel_10 : decode prog_4_method_4_code 10 = .ok (.iaload, 1) := by decide +kernel
theorem d_Ho_hasLevel_11 : decode prog_4_method_4_code 11 = .ok (.if_icmp .ge 7, 3) := by decide +kernel
theorem d_Ho_hasLevel_14 : decode prog_4_method_4_code 14 = .ok (.iconst 1, 1) := by decide +kernel
theorem d_Ho_hasLevel_15 : decode prog_4_method_4_code 15 = .ok (.goto 4, 3) := by decide +kernel
theorem d_Ho_hasLevel_18 : decode prog_4_method_4_code 18 = .ok (.iconst 0, 1) := by decide +kernel
theorem d_Ho_hasLevel_19 : decode prog_4_method_4_code 19 = .ok (.ireturn, 1) := by decide +kernel
abbrev y_Ho_hasLevel : MethodName := ⟨"LoadCycles$House", "hasLevel", "(II)Z"⟩
theorem mi_Ho_hasLevel : miV y_Ho_hasLevel prog_4_method_4_code 3 (some .boolean) 2 := ⟨wd_362, wd_363, wd_66, wd_364, by decide, by decide, by decide +kernel⟩
def w_Ho_hasLevel (o : Nat) (x1 : Int32) (x2 : Int32) (σ : Sg) (K : Int32 → Prop) : Prop :=
  ((x2 < 0 → K (0 : Int32)) ∧ (¬ x2 < 0 → (vp_in x1 4 ∧ (((σ (o + 2) x1.toNatClampNeg) ≤ x2 → K (0 : Int32)) ∧ (¬ (σ (o + 2) x1.toNatClampNeg) ≤ x2 → K (1 : Int32))))))
set_option maxHeartbeats 4000000 in
theorem m_Ho_hasLevel {Y : Yx} {o : Nat} {x1 : Int32} {x2 : Int32} {σ : Sg} {K : Int32 → Prop} (hY : YD Y) (ho : kd o = 2) (h : w_Ho_hasLevel o x1 x2 σ K) : MetI Y y_Ho_hasLevel prog_4_method_4_code 3 (.boolean) 0 0 [.ref (ya Y o), .int x1, .int x2] σ (fun r τ => τ = σ ∧ K r) := by
  refine met_I [(0, .ref (ya Y o)), (1, .int x1), (2, .int x2)] hY (by decide) (Nat.le_of_ble_eq_true rfl) rfl (fun X C hr => ?_)
  unfold w_Ho_hasLevel at h
  refine q_iload_n (pc := 0) C d_Ho_hasLevel_0 rfl 2 rfl ?_
  obtain ⟨h4, h5⟩ := h
  refine q_if_lt (pc := 1) 18 C d_Ho_hasLevel_1 (by decide) (fun hc => ?_) (fun hc => ?_)
  · have h := h4 hc
    refine q_iconst (pc := 18) (v := 0) C d_Ho_hasLevel_18 (by decide) ?_
    exact q_zret (pc := 19) C hr d_Ho_hasLevel_19 bz0 ⟨rfl, h⟩
  have h := h5 hc
  refine q_iload_n (pc := 4) C d_Ho_hasLevel_4 rfl 2 rfl ?_
  refine q_aload_n (pc := 5) C d_Ho_hasLevel_5 rfl 0 rfl ?_
  refine q_get (pc := 6) (c := o) (ci := 2) (k := 1) (v := .ref (ya Y (o + 2))) C ho (by decide) (by decide) wd_93 rfl d_Ho_hasLevel_6 ?_
  refine q_iload_n (pc := 9) C d_Ho_hasLevel_9 rfl 1 rfl ?_
  obtain ⟨h1, h⟩ := h
  refine q_iald (pc := 10) (c := (o + 2)) C (k2_2 ho) h1 d_Ho_hasLevel_10 ?_
  obtain ⟨h2, h3⟩ := h
  refine q_icmp_ge (pc := 11) 18 C d_Ho_hasLevel_11 (by decide) (fun hc => ?_) (fun hc => ?_)
  · have h := h2 hc
    refine q_iconst (pc := 18) (v := 0) C d_Ho_hasLevel_18 (by decide) ?_
    exact q_zret (pc := 19) C hr d_Ho_hasLevel_19 bz0 ⟨rfl, h⟩
  have h := h3 hc
  refine q_iconst (pc := 14) (v := 1) C d_Ho_hasLevel_14 (by decide) ?_
  refine q_goto (pc := 15) 19 C d_Ho_hasLevel_15 (by decide) ?_
  exact q_zret (pc := 19) C hr d_Ho_hasLevel_19 bz1 ⟨rfl, h⟩
theorem d_Ho_toldLevel_0 : decode prog_4_method_8_code 0 = .ok (.aload_n 0, 1) := by decide +kernel
theorem d_Ho_toldLevel_1 : decode prog_4_method_8_code 1 = .ok (.getfield 18, 3) := by decide +kernel
theorem d_Ho_toldLevel_4 : decode prog_4_method_8_code 4 = .ok (.iconst 3, 1) := by decide +kernel
theorem d_Ho_toldLevel_5 : decode prog_4_method_8_code 5 = .ok (.iload_n 1, 1) := by decide +kernel
theorem d_Ho_toldLevel_6 : decode prog_4_method_8_code 6 = .ok (.imul, 1) := by decide +kernel
theorem d_Ho_toldLevel_7 : decode prog_4_method_8_code 7 = .ok (.iload_n 2, 1) := by decide +kernel
theorem d_Ho_toldLevel_8 : decode prog_4_method_8_code 8 = .ok (.iadd, 1) := by decide +kernel
theorem d_Ho_toldLevel_9 : decode prog_4_method_8_code 9 = .ok (.iaload, 1) := by decide +kernel
theorem d_Ho_toldLevel_10 : decode prog_4_method_8_code 10 = .ok (.ireturn, 1) := by decide +kernel
abbrev y_Ho_toldLevel : MethodName := ⟨"LoadCycles$House", "toldLevel", "(II)I"⟩
theorem mi_Ho_toldLevel : miV y_Ho_toldLevel prog_4_method_8_code 3 (some .int) 2 := ⟨wd_366, wd_367, wd_66, wd_368, by decide, by decide, by decide +kernel⟩
def w_Ho_toldLevel (o : Nat) (x1 : Int32) (x2 : Int32) (σ : Sg) (K : Int32 → Prop) : Prop :=
  (vp_in (((3 : Int32) * x1) + x2) 12 ∧ K (σ (o + 3) (((3 : Int32) * x1) + x2).toNatClampNeg))
set_option maxHeartbeats 4000000 in
theorem m_Ho_toldLevel {Y : Yx} {o : Nat} {x1 : Int32} {x2 : Int32} {σ : Sg} {K : Int32 → Prop} (hY : YD Y) (ho : kd o = 2) (h : w_Ho_toldLevel o x1 x2 σ K) : MetI Y y_Ho_toldLevel prog_4_method_8_code 3 (.int) 0 0 [.ref (ya Y o), .int x1, .int x2] σ (fun r τ => τ = σ ∧ K r) := by
  refine met_I [(0, .ref (ya Y o)), (1, .int x1), (2, .int x2)] hY (by decide) (Nat.le_of_ble_eq_true rfl) rfl (fun X C hr => ?_)
  unfold w_Ho_toldLevel at h
  refine q_aload_n (pc := 0) C d_Ho_toldLevel_0 rfl 0 rfl ?_
  refine q_get (pc := 1) (c := o) (ci := 2) (k := 2) (v := .ref (ya Y (o + 3))) C ho (by decide) (by decide) wd_96 rfl d_Ho_toldLevel_1 ?_
  refine q_iconst (pc := 4) (v := 3) C d_Ho_toldLevel_4 (by decide) ?_
  refine q_iload_n (pc := 5) C d_Ho_toldLevel_5 rfl 1 rfl ?_
  refine q_imul (pc := 6) C d_Ho_toldLevel_6 ?_
  refine q_iload_n (pc := 7) C d_Ho_toldLevel_7 rfl 2 rfl ?_
  refine q_iadd (pc := 8) C d_Ho_toldLevel_8 ?_
  obtain ⟨h1, h⟩ := h
  refine q_iald (pc := 9) (c := (o + 3)) C (k2_3 ho) h1 d_Ho_toldLevel_9 ?_
  exact q_iret (pc := 10) C hr d_Ho_toldLevel_10 ⟨rfl, h⟩
theorem d_Ho_powerOf_0 : decode prog_4_method_10_code 0 = .ok (.aload_n 0, 1) := by decide +kernel
theorem d_Ho_powerOf_1 : decode prog_4_method_10_code 1 = .ok (.getfield 18, 3) := by decide +kernel
theorem d_Ho_powerOf_4 : decode prog_4_method_10_code 4 = .ok (.iconst 3, 1) := by decide +kernel
theorem d_Ho_powerOf_5 : decode prog_4_method_10_code 5 = .ok (.iload_n 1, 1) := by decide +kernel
theorem d_Ho_powerOf_6 : decode prog_4_method_10_code 6 = .ok (.imul, 1) := by decide +kernel
theorem d_Ho_powerOf_7 : decode prog_4_method_10_code 7 = .ok (.iload_n 2, 1) := by decide +kernel
theorem d_Ho_powerOf_8 : decode prog_4_method_10_code 8 = .ok (.iadd, 1) := by decide +kernel
theorem d_Ho_powerOf_9 : decode prog_4_method_10_code 9 = .ok (.iaload, 1) := by decide +kernel
theorem d_Ho_powerOf_10 : decode prog_4_method_10_code 10 = .ok (.istore_n 3, 1) := by decide +kernel
theorem d_Ho_powerOf_11 : decode prog_4_method_10_code 11 = .ok (.aload_n 0, 1) := by decide +kernel
theorem d_Ho_powerOf_12 : decode prog_4_method_10_code 12 = .ok (.getfield 9, 3) := by decide +kernel
theorem d_Ho_powerOf_15 : decode prog_4_method_10_code 15 = .ok (.iload_n 1, 1) := by decide +kernel
theorem d_Ho_powerOf_16 : decode prog_4_method_10_code 16 = .ok (.iaload, 1) := by decide +kernel
theorem d_Ho_powerOf_17 : decode prog_4_method_10_code 17 = .ok (.lookupswitch 33 #[(0, 27), (1, 29)], 27) := by decide +kernel
theorem d_Ho_powerOf_44 : decode prog_4_method_10_code 44 = .ok (.iload_n 3, 1) := by decide +kernel
theorem d_Ho_powerOf_45 : decode prog_4_method_10_code 45 = .ok (.ireturn, 1) := by decide +kernel
theorem d_Ho_powerOf_46 : decode prog_4_method_10_code 46 = .ok (.iload_n 3, 1) := by decide +kernel
theorem d_Ho_powerOf_47 : decode prog_4_method_10_code 47 = .ok (.iconst 1, 1) := by decide +kernel
theorem d_Ho_powerOf_48 : decode prog_4_method_10_code 48 = .ok (.iadd, 1) := by decide +kernel
theorem d_Ho_powerOf_49 : decode prog_4_method_10_code 49 = .ok (.ireturn, 1) := by decide +kernel
theorem d_Ho_powerOf_50 : decode prog_4_method_10_code 50 = .ok (.iconst 2, 1) := by decide +kernel
theorem d_Ho_powerOf_51 : decode prog_4_method_10_code 51 = .ok (.iload_n 3, 1) := by decide +kernel
theorem d_Ho_powerOf_52 : decode prog_4_method_10_code 52 = .ok (.imul, 1) := by decide +kernel
theorem d_Ho_powerOf_53 : decode prog_4_method_10_code 53 = .ok (.ireturn, 1) := by decide +kernel
abbrev y_Ho_powerOf : MethodName := ⟨"LoadCycles$House", "powerOf", "(II)I"⟩
theorem mi_Ho_powerOf : miV y_Ho_powerOf prog_4_method_10_code 4 (some .int) 2 := ⟨wd_370, wd_371, wd_66, wd_372, by decide, by decide, by decide +kernel⟩
def w_Ho_powerOf (o : Nat) (x1 : Int32) (x2 : Int32) (σ : Sg) (K : Int32 → Prop) : Prop :=
  (vp_in (((3 : Int32) * x1) + x2) 12 ∧ (∀ y3_10 : Int32, y3_10 = (σ (o + 3) (((3 : Int32) * x1) + x2).toNatClampNeg) → (vp_in x1 4 ∧ (((σ (o + 1) x1.toNatClampNeg) = (0 : Int32) → K y3_10) ∧ ((σ (o + 1) x1.toNatClampNeg) = (1 : Int32) → K (y3_10 + (1 : Int32))) ∧ (¬ (σ (o + 1) x1.toNatClampNeg) = (0 : Int32) → ¬ (σ (o + 1) x1.toNatClampNeg) = (1 : Int32) → K ((2 : Int32) * y3_10))))))
set_option maxHeartbeats 4000000 in
theorem m_Ho_powerOf {Y : Yx} {o : Nat} {x1 : Int32} {x2 : Int32} {σ : Sg} {K : Int32 → Prop} (hY : YD Y) (ho : kd o = 2) (h : w_Ho_powerOf o x1 x2 σ K) : MetI Y y_Ho_powerOf prog_4_method_10_code 4 (.int) 0 0 [.ref (ya Y o), .int x1, .int x2] σ (fun r τ => τ = σ ∧ K r) := by
  refine met_I [(0, .ref (ya Y o)), (1, .int x1), (2, .int x2)] hY (by decide) (Nat.le_of_ble_eq_true rfl) rfl (fun X C hr => ?_)
  unfold w_Ho_powerOf at h
  refine q_aload_n (pc := 0) C d_Ho_powerOf_0 rfl 0 rfl ?_
  refine q_get (pc := 1) (c := o) (ci := 2) (k := 2) (v := .ref (ya Y (o + 3))) C ho (by decide) (by decide) wd_96 rfl d_Ho_powerOf_1 ?_
  refine q_iconst (pc := 4) (v := 3) C d_Ho_powerOf_4 (by decide) ?_
  refine q_iload_n (pc := 5) C d_Ho_powerOf_5 rfl 1 rfl ?_
  refine q_imul (pc := 6) C d_Ho_powerOf_6 ?_
  refine q_iload_n (pc := 7) C d_Ho_powerOf_7 rfl 2 rfl ?_
  refine q_iadd (pc := 8) C d_Ho_powerOf_8 ?_
  obtain ⟨h1, h⟩ := h
  refine q_iald (pc := 9) (c := (o + 3)) C (k2_3 ho) h1 d_Ho_powerOf_9 ?_
  refine q_nmi (fun y3_10 ey3_10 => ?_)
  replace h := h y3_10 ey3_10
  refine q_istore_n (pc := 10) [(3, .int y3_10), (0, .ref (ya Y o)), (1, .int x1), (2, .int x2)] C d_Ho_powerOf_10 rfl (by decide) rfl ?_
  refine q_aload_n (pc := 11) C d_Ho_powerOf_11 rfl 1 rfl ?_
  refine q_get (pc := 12) (c := o) (ci := 2) (k := 0) (v := .ref (ya Y (o + 1))) C ho (by decide) (by decide) wd_91 rfl d_Ho_powerOf_12 ?_
  refine q_iload_n (pc := 15) C d_Ho_powerOf_15 rfl 2 rfl ?_
  obtain ⟨h2, h⟩ := h
  refine q_iald (pc := 16) (c := (o + 1)) C (k2_1 ho) h2 d_Ho_powerOf_16 ?_
  obtain ⟨h4, h6, h7⟩ := h
  by_cases h3 : (σ (o + 1) x1.toNatClampNeg) = (0 : Int32)
  · refine q_lookupK (pc := 17) 44 (k := 0) (off := 27) C h3 (by decide) d_Ho_powerOf_17 (by decide) (by decide) (by decide) ?_
    have h := h4 h3
    refine q_iload_n (pc := 44) C d_Ho_powerOf_44 rfl 0 rfl ?_
    exact q_iret (pc := 45) C hr d_Ho_powerOf_45 ⟨rfl, h⟩
  by_cases h5 : (σ (o + 1) x1.toNatClampNeg) = (1 : Int32)
  · refine q_lookupK (pc := 17) 46 (k := 1) (off := 29) C h5 (by decide) d_Ho_powerOf_17 (by decide) (by decide) (by decide) ?_
    have h := h6 h5
    refine q_iload_n (pc := 46) C d_Ho_powerOf_46 rfl 0 rfl ?_
    refine q_iconst (pc := 47) (v := 1) C d_Ho_powerOf_47 (by decide) ?_
    refine q_iadd (pc := 48) C d_Ho_powerOf_48 ?_
    exact q_iret (pc := 49) C hr d_Ho_powerOf_49 ⟨rfl, h⟩
  refine q_lookup (pc := 17) 50 (off := 33) C d_Ho_powerOf_17 (by decide) (by show Op.lookupswitch.offset [(0, 27), (1, 29)] 33 _ = _; rw [Op.lookupswitch.offset_cons, if_neg (Ne.symm (sw_ne (k := 0) rfl h3)), Op.lookupswitch.offset_cons, if_neg (Ne.symm (sw_ne (k := 1) rfl h5))]; rfl) (by decide) ?_
  have h := h7 h3 h5
  refine q_iconst (pc := 50) (v := 2) C d_Ho_powerOf_50 (by decide) ?_
  refine q_iload_n (pc := 51) C d_Ho_powerOf_51 rfl 0 rfl ?_
  refine q_imul (pc := 52) C d_Ho_powerOf_52 ?_
  exact q_iret (pc := 53) C hr d_Ho_powerOf_53 ⟨rfl, h⟩
end
section
theorem d_Lc_ofAppliance_0 : decode prog_1_method_3_code 0 = .ok (.aload_n 0, 1) := by decide +kernel
theorem d_Lc_ofAppliance_1 : decode prog_1_method_3_code 1 = .ok (.getfield 12, 3) := by decide +kernel
theorem d_Lc_ofAppliance_4 : decode prog_1_method_3_code 4 = .ok (.iload_n 1, 1) := by decide +kernel
theorem d_Lc_ofAppliance_5 : decode prog_1_method_3_code 5 = .ok (.invokevirtual 108, 3) := by decide +kernel
theorem d_Lc_ofAppliance_8 : decode prog_1_method_3_code 8 = .ok (.ifCond .ne 5, 3) := by decide +kernel
theorem d_Lc_ofAppliance_11 : decode prog_1_method_3_code 11 = .ok (.iconst (-1), 1) := by decide +kernel
theorem d_Lc_ofAppliance_12 : decode prog_1_method_3_code 12 = .ok (.ireturn, 1) := by decide +kernel
theorem d_Lc_ofAppliance_13 : decode prog_1_method_3_code 13 = .ok (.iload_n 2, 1) := by decide +kernel
theorem d_Lc_ofAppliance_14 : decode prog_1_method_3_code 14 = .ok (.ifCond .ne 13, 3) := by decide +kernel
theorem d_Lc_ofAppliance_17 : decode prog_1_method_3_code 17 = .ok (.aload_n 0, 1) := by decide +kernel
theorem d_Lc_ofAppliance_18 : decode prog_1_method_3_code 18 = .ok (.getfield 12, 3) := by decide +kernel
theorem d_Lc_ofAppliance_21 : decode prog_1_method_3_code 21 = .ok (.getfield 111, 3) := by decide +kernel
theorem d_Lc_ofAppliance_24 : decode prog_1_method_3_code 24 = .ok (.iload_n 1, 1) := by decide +kernel
theorem d_Lc_ofAppliance_25 : decode prog_1_method_3_code 25 = .ok (.iaload, 1) := by decide +kernel
theorem d_Lc_ofAppliance_26 : decode prog_1_method_3_code 26 = .ok (.ireturn, 1) := by decide +kernel
theorem d_Lc_ofAppliance_27 : decode prog_1_method_3_code 27 = .ok (.iload_n 2, 1) := by decide +kernel
theorem d_Lc_ofAppliance_28 : decode prog_1_method_3_code 28 = .ok (.iconst 1, 1) := by decide +kernel
theorem d_Lc_ofAppliance_29 : decode prog_1_method_3_code 29 = .ok (.if_icmp .ne 13, 3) := by decide +kernel
theorem d_Lc_ofAppliance_32 : decode prog_1_method_3_code 32 = .ok (.aload_n 0, 1) := by decide +kernel
theorem d_Lc_ofAppliance_33 : decode prog_1_method_3_code 33 = .ok (.getfield 12, 3) := by decide +kernel
theorem d_Lc_ofAppliance_36 : decode prog_1_method_3_code 36 = .ok (.getfield 114, 3) := by decide +kernel
theorem d_Lc_ofAppliance_39 : decode prog_1_method_3_code 39 = .ok (.iload_n 1, 1) := by decide +kernel
theorem d_Lc_ofAppliance_40 : decode prog_1_method_3_code 40 = .ok (.iaload, 1) := by decide +kernel
theorem d_Lc_ofAppliance_41 : decode prog_1_method_3_code 41 = .ok (.ireturn, 1) := by decide +kernel
theorem d_Lc_ofAppliance_42 : decode prog_1_method_3_code 42 = .ok (.iload_n 2, 1) := by decide +kernel
theorem d_Lc_ofAppliance_43 : decode prog_1_method_3_code 43 = .ok (.bipush 10, 2) := by decide +kernel
theorem d_Lc_ofAppliance_45 : decode prog_1_method_3_code 45 = .ok (.if_icmp .lt 42, 3) := by decide +kernel
theorem d_Lc_ofAppliance_48 : decode prog_1_method_3_code 48 = .ok (.iload_n 2, 1) := by decide +kernel
theorem d_Lc_ofAppliance_49 : decode prog_1_method_3_code 49 = .ok (.bipush 13, 2) := by decide +kernel
theorem d_Lc_ofAppliance_51 : decode prog_1_method_3_code 51 = .ok (.if_icmp .ge 36, 3) := by decide +kernel
theorem d_Lc_ofAppliance_54 : decode prog_1_method_3_code 54 = .ok (.aload_n 0, 1) := by decide +kernel
theorem d_Lc_ofAppliance_55 : decode prog_1_method_3_code 55 = .ok (.getfield 12, 3) := by decide +kernel
theorem d_Lc_ofAppliance_58 : decode prog_1_method_3_code 58 = .ok (.iload_n 1, 1) := by decide +kernel
theorem d_Lc_ofAppliance_59 : decode prog_1_method_3_code 59 = .ok (.iload_n 2, 1) := by decide +kernel
theorem d_Lc_ofAppliance_60 : decode prog_1_method_3_code 60 = .ok (.bipush 10, 2) := by decide +kernel
theorem d_Lc_ofAppliance_62 : decode prog_1_method_3_code 62 = .ok (.isub, 1) := by decide +kernel
theorem d_Lc_ofAppliance_63 : decode prog_1_method_3_code 63 = .ok (.invokevirtual 117, 3) := by decide +kernel
theorem d_Lc_ofAppliance_66 : decode prog_1_method_3_code 66 = .ok (.ifCond .eq 18, 3) := by decide +kernel
theorem d_Lc_ofAppliance_69 : decode prog_1_method_3_code 69 = .ok (.aload_n 0, 1) := by decide +kernel
theorem d_Lc_ofAppliance_70 : decode prog_1_method_3_code 70 = .ok (.getfield 12, 3) := by decide +kernel
theorem d_Lc_ofAppliance_73 : decode prog_1_method_3_code 73 = .ok (.iload_n 1, 1) := by decide +kernel
theorem d_Lc_ofAppliance_74 : decode prog_1_method_3_code 74 = .ok (.iload_n 2, 1) := by decide +kernel
theorem d_Lc_ofAppliance_75 : decode prog_1_method_3_code 75 = .ok (.bipush 10, 2) := by decide +kernel
theorem d_Lc_ofAppliance_77 : decode prog_1_method_3_code 77 = .ok (.isub, 1) := by decide +kernel
theorem d_Lc_ofAppliance_78 : decode prog_1_method_3_code 78 = .ok (.invokevirtual 120, 3) := by decide +kernel
theorem d_Lc_ofAppliance_81 : decode prog_1_method_3_code 81 = .ok (.goto 5, 3) := by decide +kernel
theorem d_Lc_ofAppliance_84 : decode prog_1_method_3_code 84 = .ok (.bipush (-9), 2) := by decide +kernel
theorem d_Lc_ofAppliance_86 : decode prog_1_method_3_code 86 = .ok (.ireturn, 1) := by decide +kernel
theorem d_Lc_ofAppliance_87 : decode prog_1_method_3_code 87 = .ok (.iload_n 2, 1) := by decide +kernel
theorem d_Lc_ofAppliance_88 : decode prog_1_method_3_code 88 = .ok (.bipush 20, 2) := by decide +kernel
theorem d_Lc_ofAppliance_90 : decode prog_1_method_3_code 90 = .ok (.if_icmp .lt 42, 3) := by decide +kernel
theorem d_Lc_ofAppliance_93 : decode prog_1_method_3_code 93 = .ok (.iload_n 2, 1) := by decide +kernel
theorem d_Lc_ofAppliance_94 : decode prog_1_method_3_code 94 = .ok (.bipush 23, 2) := by decide +kernel
theorem d_Lc_ofAppliance_96 : decode prog_1_method_3_code 96 = .ok (.if_icmp .ge 36, 3) := by decide +kernel
theorem d_Lc_ofAppliance_99 : decode prog_1_method_3_code 99 = .ok (.aload_n 0, 1) := by decide +kernel
theorem d_Lc_ofAppliance_100 : decode prog_1_method_3_code 100 = .ok (.getfield 12, 3) := by decide +kernel
theorem d_Lc_ofAppliance_103 : decode prog_1_method_3_code 103 = .ok (.iload_n 1, 1) := by decide +kernel
theorem d_Lc_ofAppliance_104 : decode prog_1_method_3_code 104 = .ok (.iload_n 2, 1) := by decide +kernel
theorem d_Lc_ofAppliance_105 : decode prog_1_method_3_code 105 = .ok (.bipush 20, 2) := by decide +kernel
theorem d_Lc_ofAppliance_107 : decode prog_1_method_3_code 107 = .ok (.isub, 1) := by decide +kernel
theorem d_Lc_ofAppliance_108 : decode prog_1_method_3_code 108 = .ok (.invokevirtual 117, 3) := by decide +kernel
theorem d_Lc_ofAppliance_111 : decode prog_1_method_3_code 111 = .ok (.ifCond .eq 18, 3) := by decide +kernel
theorem d_Lc_ofAppliance_114 : decode prog_1_method_3_code 114 = .ok (.aload_n 0, 1) := by decide +kernel
theorem d_Lc_ofAppliance_115 : decode prog_1_method_3_code 115 = .ok (.getfield 12, 3) := by decide +kernel
theorem d_Lc_ofAppliance_118 : decode prog_1_method_3_code 118 = .ok (.iload_n 1, 1) := by decide +kernel
theorem d_Lc_ofAppliance_119 : decode prog_1_method_3_code 119 = .ok (.iload_n 2, 1) := by decide +kernel
theorem d_Lc_ofAppliance_120 : decode prog_1_method_3_code 120 = .ok (.bipush 20, 2) := by decide +kernel
theorem d_Lc_ofAppliance_122 : decode prog_1_method_3_code 122 = .ok (.isub, 1) := by decide +kernel
theorem d_Lc_ofAppliance_123 : decode prog_1_method_3_code 123 = .ok (.invokevirtual 124, 3) := by decide +kernel
theorem d_Lc_ofAppliance_126 : decode prog_1_method_3_code 126 = .ok (.goto 5, 3) := by decide +kernel
theorem d_Lc_ofAppliance_129 : decode prog_1_method_3_code 129 = .ok (.bipush (-9), 2) := by decide +kernel
theorem d_Lc_ofAppliance_131 : decode prog_1_method_3_code 131 = .ok (.ireturn, 1) := by decide +kernel
theorem d_Lc_ofAppliance_132 : decode prog_1_method_3_code 132 = .ok (.bipush (-2), 2) := by decide +kernel
theorem d_Lc_ofAppliance_134 : decode prog_1_method_3_code 134 = .ok (.ireturn, 1) := by decide +kernel
abbrev y_Lc_ofAppliance : MethodName := ⟨"LoadCycles", "ofAppliance", "(II)I"⟩
theorem mi_Lc_ofAppliance : miV y_Lc_ofAppliance prog_1_method_3_code 3 (some .int) 2 := ⟨wd_354, wd_355, wd_65, wd_356, by decide, by decide, by decide +kernel⟩
def B_Lc_ofAppliance_87 (x1 : Int32) (x2 : Int32) (σ : Sg) (K : Int32 → Prop)  : Prop :=
  ((x2 < (20 : Int32) → K (-2 : Int32)) ∧ (¬ x2 < (20 : Int32) → (((23 : Int32) ≤ x2 → K (-2 : Int32)) ∧ (¬ (23 : Int32) ≤ x2 → w_Ho_hasLevel 1 x1 (x2 - (20 : Int32)) σ (fun u108 => ((u108 = 0 → K (-9 : Int32)) ∧ (¬ u108 = 0 → w_Ho_powerOf 1 x1 (x2 - (20 : Int32)) σ (fun u123 => K u123))))))))
theorem t_Lc_ofAppliance_87 {X : Bx} {Y : Yx} {x1 : Int32} {x2 : Int32} {σ : Sg} {K : Int32 → Prop}  (hY : YD Y) (C : Cx X Y prog_1_method_3_code 3 "LoadCycles" 1 23) (hr : (xh X).sig.returnType = some .int)   (h : B_Lc_ofAppliance_87 x1 x2 σ K) : St X Y 3 (QI X Y (fun r τ => τ = σ ∧ K r)) 87 [(0, .ref (ya Y 0)), (1, .int x1), (2, .int x2)] [] σ := by
  unfold B_Lc_ofAppliance_87 at h
  refine q_iload_n (pc := 87) C d_Lc_ofAppliance_87 rfl 2 rfl ?_
  refine q_bipush (pc := 88) (v := 20) C d_Lc_ofAppliance_88 (by decide) ?_
  obtain ⟨h5, h6⟩ := h
  refine q_icmp_lt (pc := 90) 132 C d_Lc_ofAppliance_90 (by decide) (fun hc => ?_) (fun hc => ?_)
  · have h := h5 hc
    refine q_bipush (pc := 132) (v := -2) C d_Lc_ofAppliance_132 (by decide) ?_
    exact q_iret (pc := 134) C hr d_Lc_ofAppliance_134 ⟨rfl, h⟩
  have h := h6 hc
  refine q_iload_n (pc := 93) C d_Lc_ofAppliance_93 rfl 2 rfl ?_
  refine q_bipush (pc := 94) (v := 23) C d_Lc_ofAppliance_94 (by decide) ?_
  obtain ⟨h3, h4⟩ := h
  refine q_icmp_ge (pc := 96) 132 C d_Lc_ofAppliance_96 (by decide) (fun hc => ?_) (fun hc => ?_)
  · have h := h3 hc
    refine q_bipush (pc := 132) (v := -2) C d_Lc_ofAppliance_132 (by decide) ?_
    exact q_iret (pc := 134) C hr d_Lc_ofAppliance_134 ⟨rfl, h⟩
  have h := h4 hc
  refine q_aload_n (pc := 99) C d_Lc_ofAppliance_99 rfl 0 rfl ?_
  refine q_get (pc := 100) (c := 0) (ci := 6) (k := 0) (v := .ref (ya Y 1)) C rfl (by decide) (by decide) wd_230 rfl d_Lc_ofAppliance_100 ?_
  refine q_iload_n (pc := 103) C d_Lc_ofAppliance_103 rfl 1 rfl ?_
  refine q_iload_n (pc := 104) C d_Lc_ofAppliance_104 rfl 2 rfl ?_
  refine q_bipush (pc := 105) (v := 20) C d_Lc_ofAppliance_105 (by decide) ?_
  refine q_isub (pc := 107) C d_Lc_ofAppliance_107 ?_
  refine q_callVIr (pc := 108) (st := []) (d := 1) C (m_Ho_hasLevel hY rfl h) mi_Ho_hasLevel rfl (by decide) rfl wd_361 rfl rfl (Nat.le_of_ble_eq_true rfl) (by decide) (by decide) d_Lc_ofAppliance_108 (fun u108 h => ?_)
  obtain ⟨h1, h2⟩ := h
  refine q_if_eq (pc := 111) 129 C d_Lc_ofAppliance_111 (by decide) (fun hc => ?_) (fun hc => ?_)
  · have h := h1 hc
    refine q_bipush (pc := 129) (v := -9) C d_Lc_ofAppliance_129 (by decide) ?_
    exact q_iret (pc := 131) C hr d_Lc_ofAppliance_131 ⟨rfl, h⟩
  have h := h2 hc
  refine q_aload_n (pc := 114) C d_Lc_ofAppliance_114 rfl 0 rfl ?_
  refine q_get (pc := 115) (c := 0) (ci := 6) (k := 0) (v := .ref (ya Y 1)) C rfl (by decide) (by decide) wd_230 rfl d_Lc_ofAppliance_115 ?_
  refine q_iload_n (pc := 118) C d_Lc_ofAppliance_118 rfl 1 rfl ?_
  refine q_iload_n (pc := 119) C d_Lc_ofAppliance_119 rfl 2 rfl ?_
  refine q_bipush (pc := 120) (v := 20) C d_Lc_ofAppliance_120 (by decide) ?_
  refine q_isub (pc := 122) C d_Lc_ofAppliance_122 ?_
  refine q_callVIr (pc := 123) (st := []) (d := 1) C (m_Ho_powerOf hY rfl h) mi_Ho_powerOf rfl (by decide) rfl wd_369 rfl rfl (Nat.le_of_ble_eq_true rfl) (by decide) (by decide) d_Lc_ofAppliance_123 (fun u123 h => ?_)
  refine q_goto (pc := 126) 131 C d_Lc_ofAppliance_126 (by decide) ?_
  exact q_iret (pc := 131) C hr d_Lc_ofAppliance_131 ⟨rfl, h⟩
def w_Lc_ofAppliance (x1 : Int32) (x2 : Int32) (σ : Sg) (K : Int32 → Prop) : Prop :=
  w_Ho_hasAppliance 1 x1 σ (fun u5 => ((¬ u5 = 0 → ((¬ x2 = 0 → ((¬ x2 = (1 : Int32) → ((x2 < (10 : Int32) → B_Lc_ofAppliance_87 x1 x2 σ K) ∧ (¬ x2 < (10 : Int32) → (((13 : Int32) ≤ x2 → B_Lc_ofAppliance_87 x1 x2 σ K) ∧ (¬ (13 : Int32) ≤ x2 → w_Ho_hasLevel 1 x1 (x2 - (10 : Int32)) σ (fun u63 => ((u63 = 0 → K (-9 : Int32)) ∧ (¬ u63 = 0 → w_Ho_toldLevel 1 x1 (x2 - (10 : Int32)) σ (fun u78 => K u78))))))))) ∧ (x2 = (1 : Int32) → (vp_in x1 4 ∧ K (σ 3 x1.toNatClampNeg))))) ∧ (x2 = 0 → (vp_in x1 4 ∧ K (σ 2 x1.toNatClampNeg))))) ∧ (u5 = 0 → K (-1 : Int32))))
set_option maxHeartbeats 4000000 in
theorem m_Lc_ofAppliance {Y : Yx} {x1 : Int32} {x2 : Int32} {σ : Sg} {K : Int32 → Prop} (hY : YD Y)  (h : w_Lc_ofAppliance x1 x2 σ K) : MetI Y y_Lc_ofAppliance prog_1_method_3_code 3 (.int) 1 23 [.ref (ya Y 0), .int x1, .int x2] σ (fun r τ => τ = σ ∧ K r) := by
  refine met_I [(0, .ref (ya Y 0)), (1, .int x1), (2, .int x2)] hY (by decide) (Nat.le_of_ble_eq_true rfl) rfl (fun X C hr => ?_)
  unfold w_Lc_ofAppliance at h
  refine q_aload_n (pc := 0) C d_Lc_ofAppliance_0 rfl 0 rfl ?_
  refine q_get (pc := 1) (c := 0) (ci := 6) (k := 0) (v := .ref (ya Y 1)) C rfl (by decide) (by decide) wd_230 rfl d_Lc_ofAppliance_1 ?_
  refine q_iload_n (pc := 4) C d_Lc_ofAppliance_4 rfl 1 rfl ?_
  refine q_callVIr (pc := 5) (st := []) (d := 1) C (m_Ho_hasAppliance hY rfl h) mi_Ho_hasAppliance rfl (by decide) rfl wd_357 rfl rfl (Nat.le_of_ble_eq_true rfl) (by decide) (by decide) d_Lc_ofAppliance_5 (fun u5 h => ?_)
  obtain ⟨h19, h20⟩ := h
  refine q_if_ne (pc := 8) 13 C d_Lc_ofAppliance_8 (by decide) (fun hc => ?_) (fun hc => ?_)
  · have h := h19 hc
    refine q_iload_n (pc := 13) C d_Lc_ofAppliance_13 rfl 2 rfl ?_
    obtain ⟨h17, h18⟩ := h
    refine q_if_ne (pc := 14) 27 C d_Lc_ofAppliance_14 (by decide) (fun hc => ?_) (fun hc => ?_)
    · have h := h17 hc
      refine q_iload_n (pc := 27) C d_Lc_ofAppliance_27 rfl 2 rfl ?_
      refine q_iconst (pc := 28) (v := 1) C d_Lc_ofAppliance_28 (by decide) ?_
      obtain ⟨h14, h15⟩ := h
      refine q_icmp_ne (pc := 29) 42 C d_Lc_ofAppliance_29 (by decide) (fun hc => ?_) (fun hc => ?_)
      · have h := h14 hc
        refine q_iload_n (pc := 42) C d_Lc_ofAppliance_42 rfl 2 rfl ?_
        refine q_bipush (pc := 43) (v := 10) C d_Lc_ofAppliance_43 (by decide) ?_
        obtain ⟨h11, h12⟩ := h
        refine q_icmp_lt (pc := 45) 87 C d_Lc_ofAppliance_45 (by decide) (fun hc => ?_) (fun hc => ?_)
        · have h := h11 hc
          exact t_Lc_ofAppliance_87 hY C hr h
        have h := h12 hc
        refine q_iload_n (pc := 48) C d_Lc_ofAppliance_48 rfl 2 rfl ?_
        refine q_bipush (pc := 49) (v := 13) C d_Lc_ofAppliance_49 (by decide) ?_
        obtain ⟨h9, h10⟩ := h
        refine q_icmp_ge (pc := 51) 87 C d_Lc_ofAppliance_51 (by decide) (fun hc => ?_) (fun hc => ?_)
        · have h := h9 hc
          exact t_Lc_ofAppliance_87 hY C hr h
        have h := h10 hc
        refine q_aload_n (pc := 54) C d_Lc_ofAppliance_54 rfl 0 rfl ?_
        refine q_get (pc := 55) (c := 0) (ci := 6) (k := 0) (v := .ref (ya Y 1)) C rfl (by decide) (by decide) wd_230 rfl d_Lc_ofAppliance_55 ?_
        refine q_iload_n (pc := 58) C d_Lc_ofAppliance_58 rfl 1 rfl ?_
        refine q_iload_n (pc := 59) C d_Lc_ofAppliance_59 rfl 2 rfl ?_
        refine q_bipush (pc := 60) (v := 10) C d_Lc_ofAppliance_60 (by decide) ?_
        refine q_isub (pc := 62) C d_Lc_ofAppliance_62 ?_
        refine q_callVIr (pc := 63) (st := []) (d := 1) C (m_Ho_hasLevel hY rfl h) mi_Ho_hasLevel rfl (by decide) rfl wd_361 rfl rfl (Nat.le_of_ble_eq_true rfl) (by decide) (by decide) d_Lc_ofAppliance_63 (fun u63 h => ?_)
        obtain ⟨h7, h8⟩ := h
        refine q_if_eq (pc := 66) 84 C d_Lc_ofAppliance_66 (by decide) (fun hc => ?_) (fun hc => ?_)
        · have h := h7 hc
          refine q_bipush (pc := 84) (v := -9) C d_Lc_ofAppliance_84 (by decide) ?_
          exact q_iret (pc := 86) C hr d_Lc_ofAppliance_86 ⟨rfl, h⟩
        have h := h8 hc
        refine q_aload_n (pc := 69) C d_Lc_ofAppliance_69 rfl 0 rfl ?_
        refine q_get (pc := 70) (c := 0) (ci := 6) (k := 0) (v := .ref (ya Y 1)) C rfl (by decide) (by decide) wd_230 rfl d_Lc_ofAppliance_70 ?_
        refine q_iload_n (pc := 73) C d_Lc_ofAppliance_73 rfl 1 rfl ?_
        refine q_iload_n (pc := 74) C d_Lc_ofAppliance_74 rfl 2 rfl ?_
        refine q_bipush (pc := 75) (v := 10) C d_Lc_ofAppliance_75 (by decide) ?_
        refine q_isub (pc := 77) C d_Lc_ofAppliance_77 ?_
        refine q_callVIr (pc := 78) (st := []) (d := 1) C (m_Ho_toldLevel hY rfl h) mi_Ho_toldLevel rfl (by decide) rfl wd_365 rfl rfl (Nat.le_of_ble_eq_true rfl) (by decide) (by decide) d_Lc_ofAppliance_78 (fun u78 h => ?_)
        refine q_goto (pc := 81) 86 C d_Lc_ofAppliance_81 (by decide) ?_
        exact q_iret (pc := 86) C hr d_Lc_ofAppliance_86 ⟨rfl, h⟩
      have h := h15 hc
      refine q_aload_n (pc := 32) C d_Lc_ofAppliance_32 rfl 0 rfl ?_
      refine q_get (pc := 33) (c := 0) (ci := 6) (k := 0) (v := .ref (ya Y 1)) C rfl (by decide) (by decide) wd_230 rfl d_Lc_ofAppliance_33 ?_
      refine q_get (pc := 36) (c := 1) (ci := 2) (k := 1) (v := .ref (ya Y 3)) C rfl (by decide) (by decide) wd_94 rfl d_Lc_ofAppliance_36 ?_
      refine q_iload_n (pc := 39) C d_Lc_ofAppliance_39 rfl 1 rfl ?_
      obtain ⟨h13, h⟩ := h
      refine q_iald (pc := 40) (c := 3) C ⟨rfl, rfl⟩ h13 d_Lc_ofAppliance_40 ?_
      exact q_iret (pc := 41) C hr d_Lc_ofAppliance_41 ⟨rfl, h⟩
    have h := h18 hc
    refine q_aload_n (pc := 17) C d_Lc_ofAppliance_17 rfl 0 rfl ?_
    refine q_get (pc := 18) (c := 0) (ci := 6) (k := 0) (v := .ref (ya Y 1)) C rfl (by decide) (by decide) wd_230 rfl d_Lc_ofAppliance_18 ?_
    refine q_get (pc := 21) (c := 1) (ci := 2) (k := 0) (v := .ref (ya Y 2)) C rfl (by decide) (by decide) wd_92 rfl d_Lc_ofAppliance_21 ?_
    refine q_iload_n (pc := 24) C d_Lc_ofAppliance_24 rfl 1 rfl ?_
    obtain ⟨h16, h⟩ := h
    refine q_iald (pc := 25) (c := 2) C ⟨rfl, rfl⟩ h16 d_Lc_ofAppliance_25 ?_
    exact q_iret (pc := 26) C hr d_Lc_ofAppliance_26 ⟨rfl, h⟩
  have h := h20 hc
  refine q_iconst (pc := 11) (v := -1) C d_Lc_ofAppliance_11 (by decide) ?_
  exact q_iret (pc := 12) C hr d_Lc_ofAppliance_12 ⟨rfl, h⟩
theorem d_Lc_level_0 : decode prog_1_method_4_code 0 = .ok (.aload_n 0, 1) := by decide +kernel
theorem d_Lc_level_1 : decode prog_1_method_4_code 1 = .ok (.getfield 12, 3) := by decide +kernel
theorem d_Lc_level_4 : decode prog_1_method_4_code 4 = .ok (.iload_n 1, 1) := by decide +kernel
theorem d_Lc_level_5 : decode prog_1_method_4_code 5 = .ok (.invokevirtual 108, 3) := by decide +kernel
theorem d_Lc_level_8 : decode prog_1_method_4_code 8 = .ok (.ifCond .eq 15, 3) := by decide +kernel
theorem d_Lc_level_11 : decode prog_1_method_4_code 11 = .ok (.aload_n 0, 1) := by decide +kernel
theorem d_Lc_level_12 : decode prog_1_method_4_code 12 = .ok (.getfield 12, 3) := by decide +kernel
theorem d_Lc_level_15 : decode prog_1_method_4_code 15 = .ok (.iload_n 1, 1) := by decide +kernel
theorem d_Lc_level_16 : decode prog_1_method_4_code 16 = .ok (.iload_n 2, 1) := by decide +kernel
theorem d_Lc_level_17 : decode prog_1_method_4_code 17 = .ok (.invokevirtual 117, 3) := by decide +kernel
theorem d_Lc_level_20 : decode prog_1_method_4_code 20 = .ok (.ifCond .ne 5, 3) := by decide +kernel
theorem d_Lc_level_23 : decode prog_1_method_4_code 23 = .ok (.iconst (-1), 1) := by decide +kernel
theorem d_Lc_level_24 : decode prog_1_method_4_code 24 = .ok (.ireturn, 1) := by decide +kernel
theorem d_Lc_level_25 : decode prog_1_method_4_code 25 = .ok (.iload_n 3, 1) := by decide +kernel
theorem d_Lc_level_26 : decode prog_1_method_4_code 26 = .ok (.invokestatic 127, 3) := by decide +kernel
theorem d_Lc_level_29 : decode prog_1_method_4_code 29 = .ok (.ifCond .ne 6, 3) := by decide +kernel
theorem d_Lc_level_32 : decode prog_1_method_4_code 32 = .ok (.bipush (-2), 2) := by decide +kernel
theorem d_Lc_level_34 : decode prog_1_method_4_code 34 = .ok (.ireturn, 1) := by decide +kernel
theorem d_Lc_level_35 : decode prog_1_method_4_code 35 = .ok (.aload_n 0, 1) := by decide +kernel
theorem d_Lc_level_36 : decode prog_1_method_4_code 36 = .ok (.getfield 12, 3) := by decide +kernel
theorem d_Lc_level_39 : decode prog_1_method_4_code 39 = .ok (.iload_n 1, 1) := by decide +kernel
theorem d_Lc_level_40 : decode prog_1_method_4_code 40 = .ok (.iload_n 2, 1) := by decide +kernel
theorem d_Lc_level_41 : decode prog_1_method_4_code 41 = .ok (.invokevirtual 120, 3) := by decide +kernel
theorem d_Lc_level_44 : decode prog_1_method_4_code 44 = .ok (.istore 4, 2) := by decide +kernel
theorem d_Lc_level_46 : decode prog_1_method_4_code 46 = .ok (.aload_n 0, 1) := by decide +kernel
theorem d_Lc_level_47 : decode prog_1_method_4_code 47 = .ok (.getfield 12, 3) := by decide +kernel
theorem d_Lc_level_50 : decode prog_1_method_4_code 50 = .ok (.iload_n 1, 1) := by decide +kernel
theorem d_Lc_level_51 : decode prog_1_method_4_code 51 = .ok (.iload_n 2, 1) := by decide +kernel
theorem d_Lc_level_52 : decode prog_1_method_4_code 52 = .ok (.iload_n 3, 1) := by decide +kernel
theorem d_Lc_level_53 : decode prog_1_method_4_code 53 = .ok (.invokevirtual 130, 3) := by decide +kernel
theorem d_Lc_level_56 : decode prog_1_method_4_code 56 = .ok (.aload_n 0, 1) := by decide +kernel
theorem d_Lc_level_57 : decode prog_1_method_4_code 57 = .ok (.invokevirtual 102, 3) := by decide +kernel
theorem d_Lc_level_60 : decode prog_1_method_4_code 60 = .ok (.iload 4, 2) := by decide +kernel
theorem d_Lc_level_62 : decode prog_1_method_4_code 62 = .ok (.ireturn, 1) := by decide +kernel
abbrev y_Lc_level : MethodName := ⟨"LoadCycles", "level", "(III)I"⟩
theorem mi_Lc_level : miV y_Lc_level prog_1_method_4_code 5 (some .int) 3 := ⟨wd_374, wd_375, wd_65, wd_376, by decide, by decide, by decide +kernel⟩
def w_Lc_level (x1 : Int32) (x2 : Int32) (x3 : Int32) (σ : Sg) (K : Int32 → Sg → Prop) : Prop :=
  w_Ho_hasAppliance 1 x1 σ (fun u5 => ((u5 = 0 → K (-1 : Int32) σ) ∧ (¬ u5 = 0 → w_Ho_hasLevel 1 x1 x2 σ (fun u17 => ((¬ u17 = 0 → w_Lc_isLevelValue x3 σ (fun u26 => ((¬ u26 = 0 → w_Ho_toldLevel 1 x1 x2 σ (fun u41 => w_Ho_setLevel 1 x1 x2 x3 σ (fun τ53 => w_Lc_forgetBest τ53 (fun τ57 => K u41 τ57)))) ∧ (u26 = 0 → K (-2 : Int32) σ)))) ∧ (u17 = 0 → K (-1 : Int32) σ))))))
set_option maxHeartbeats 4000000 in
theorem m_Lc_level {Y : Yx} {x1 : Int32} {x2 : Int32} {x3 : Int32} {σ : Sg} {K : Int32 → Sg → Prop} (hY : YD Y)  (h : w_Lc_level x1 x2 x3 σ K) : MetI Y y_Lc_level prog_1_method_4_code 5 (.int) 2 41 [.ref (ya Y 0), .int x1, .int x2, .int x3] σ K := by
  refine met_I [(0, .ref (ya Y 0)), (1, .int x1), (2, .int x2), (3, .int x3)] hY (by decide) (Nat.le_of_ble_eq_true rfl) rfl (fun X C hr => ?_)
  unfold w_Lc_level at h
  refine q_aload_n (pc := 0) C d_Lc_level_0 rfl 0 rfl ?_
  refine q_get (pc := 1) (c := 0) (ci := 6) (k := 0) (v := .ref (ya Y 1)) C rfl (by decide) (by decide) wd_230 rfl d_Lc_level_1 ?_
  refine q_iload_n (pc := 4) C d_Lc_level_4 rfl 1 rfl ?_
  refine q_callVIr (pc := 5) (st := []) (d := 1) C (m_Ho_hasAppliance hY rfl h) mi_Ho_hasAppliance rfl (by decide) rfl wd_357 rfl rfl (Nat.le_of_ble_eq_true rfl) (by decide) (by decide) d_Lc_level_5 (fun u5 h => ?_)
  obtain ⟨h5, h6⟩ := h
  refine q_if_eq (pc := 8) 23 C d_Lc_level_8 (by decide) (fun hc => ?_) (fun hc => ?_)
  · have h := h5 hc
    refine q_iconst (pc := 23) (v := -1) C d_Lc_level_23 (by decide) ?_
    exact q_iret (pc := 24) C hr d_Lc_level_24 h
  have h := h6 hc
  refine q_aload_n (pc := 11) C d_Lc_level_11 rfl 0 rfl ?_
  refine q_get (pc := 12) (c := 0) (ci := 6) (k := 0) (v := .ref (ya Y 1)) C rfl (by decide) (by decide) wd_230 rfl d_Lc_level_12 ?_
  refine q_iload_n (pc := 15) C d_Lc_level_15 rfl 1 rfl ?_
  refine q_iload_n (pc := 16) C d_Lc_level_16 rfl 2 rfl ?_
  refine q_callVIr (pc := 17) (st := []) (d := 1) C (m_Ho_hasLevel hY rfl h) mi_Ho_hasLevel rfl (by decide) rfl wd_361 rfl rfl (Nat.le_of_ble_eq_true rfl) (by decide) (by decide) d_Lc_level_17 (fun u17 h => ?_)
  obtain ⟨h3, h4⟩ := h
  refine q_if_ne (pc := 20) 25 C d_Lc_level_20 (by decide) (fun hc => ?_) (fun hc => ?_)
  · have h := h3 hc
    refine q_iload_n (pc := 25) C d_Lc_level_25 rfl 3 rfl ?_
    refine q_callSIr (pc := 26) (st := []) C (m_Lc_isLevelValue hY h) mi_Lc_isLevelValue wd_377 rfl rfl (Nat.le_of_ble_eq_true rfl) (by decide) (by decide) d_Lc_level_26 (fun u26 h => ?_)
    obtain ⟨h1, h2⟩ := h
    refine q_if_ne (pc := 29) 35 C d_Lc_level_29 (by decide) (fun hc => ?_) (fun hc => ?_)
    · have h := h1 hc
      refine q_aload_n (pc := 35) C d_Lc_level_35 rfl 0 rfl ?_
      refine q_get (pc := 36) (c := 0) (ci := 6) (k := 0) (v := .ref (ya Y 1)) C rfl (by decide) (by decide) wd_230 rfl d_Lc_level_36 ?_
      refine q_iload_n (pc := 39) C d_Lc_level_39 rfl 1 rfl ?_
      refine q_iload_n (pc := 40) C d_Lc_level_40 rfl 2 rfl ?_
      refine q_callVIr (pc := 41) (st := []) (d := 1) C (m_Ho_toldLevel hY rfl h) mi_Ho_toldLevel rfl (by decide) rfl wd_365 rfl rfl (Nat.le_of_ble_eq_true rfl) (by decide) (by decide) d_Lc_level_41 (fun u41 h => ?_)
      refine q_istore (pc := 44) [(4, .int u41), (0, .ref (ya Y 0)), (1, .int x1), (2, .int x2), (3, .int x3)] C d_Lc_level_44 (by decide) rfl ?_
      refine q_aload_n (pc := 46) C d_Lc_level_46 rfl 1 rfl ?_
      refine q_get (pc := 47) (c := 0) (ci := 6) (k := 0) (v := .ref (ya Y 1)) C rfl (by decide) (by decide) wd_230 rfl d_Lc_level_47 ?_
      refine q_iload_n (pc := 50) C d_Lc_level_50 rfl 2 rfl ?_
      refine q_iload_n (pc := 51) C d_Lc_level_51 rfl 3 rfl ?_
      refine q_iload_n (pc := 52) C d_Lc_level_52 rfl 4 rfl ?_
      refine q_callVV (pc := 53) (st := []) (d := 1) C (m_Ho_setLevel hY rfl h) mi_Ho_setLevel rfl (by decide) rfl wd_378 rfl rfl (Nat.le_of_ble_eq_true rfl) (by decide) (by decide) d_Lc_level_53 (fun τ53 h => ?_)
      refine q_aload_n (pc := 56) C d_Lc_level_56 rfl 1 rfl ?_
      refine q_callVV (pc := 57) (st := []) (d := 0) C (m_Lc_forgetBest hY h) mi_Lc_forgetBest rfl (by decide) rfl wd_345 rfl rfl (Nat.le_of_ble_eq_true rfl) (by decide) (by decide) d_Lc_level_57 (fun τ57 h => ?_)
      refine q_iload (pc := 60) C d_Lc_level_60 0 rfl ?_
      exact q_iret (pc := 62) C hr d_Lc_level_62 h
    have h := h2 hc
    refine q_bipush (pc := 32) (v := -2) C d_Lc_level_32 (by decide) ?_
    exact q_iret (pc := 34) C hr d_Lc_level_34 h
  have h := h4 hc
  refine q_iconst (pc := 23) (v := -1) C d_Lc_level_23 (by decide) ?_
  exact q_iret (pc := 24) C hr d_Lc_level_24 h
theorem d_Sh_faultOfCells_0 : decode prog_5_method_8_code 0 = .ok (.aload_n 0, 1) := by decide +kernel
theorem d_Sh_faultOfCells_1 : decode prog_5_method_8_code 1 = .ok (.iload_n 1, 1) := by decide +kernel
theorem d_Sh_faultOfCells_2 : decode prog_5_method_8_code 2 = .ok (.invokevirtual 32, 3) := by decide +kernel
theorem d_Sh_faultOfCells_5 : decode prog_5_method_8_code 5 = .ok (.istore 4, 2) := by decide +kernel
theorem d_Sh_faultOfCells_7 : decode prog_5_method_8_code 7 = .ok (.iload 4, 2) := by decide +kernel
theorem d_Sh_faultOfCells_9 : decode prog_5_method_8_code 9 = .ok (.ifCond .ne 16, 3) := by decide +kernel
theorem d_Sh_faultOfCells_12 : decode prog_5_method_8_code 12 = .ok (.aload_n 0, 1) := by decide +kernel
theorem d_Sh_faultOfCells_13 : decode prog_5_method_8_code 13 = .ok (.iload_n 2, 1) := by decide +kernel
theorem d_Sh_faultOfCells_14 : decode prog_5_method_8_code 14 = .ok (.iload_n 3, 1) := by decide +kernel
theorem d_Sh_faultOfCells_15 : decode prog_5_method_8_code 15 = .ok (.invokevirtual 36, 3) := by decide +kernel
theorem d_Sh_faultOfCells_18 : decode prog_5_method_8_code 18 = .ok (.ifCond .ne 7, 3) := by decide +kernel
theorem d_Sh_faultOfCells_21 : decode prog_5_method_8_code 21 = .ok (.iconst 3, 1) := by decide +kernel
theorem d_Sh_faultOfCells_22 : decode prog_5_method_8_code 22 = .ok (.goto 5, 3) := by decide +kernel
theorem d_Sh_faultOfCells_25 : decode prog_5_method_8_code 25 = .ok (.iload 4, 2) := by decide +kernel
theorem d_Sh_faultOfCells_27 : decode prog_5_method_8_code 27 = .ok (.ireturn, 1) := by decide +kernel
abbrev y_Sh_faultOfCells : MethodName := ⟨"LoadCycles$Sheet", "faultOfCells", "(III)I"⟩
theorem mi_Sh_faultOfCells : miV y_Sh_faultOfCells prog_5_method_8_code 5 (some .int) 3 := ⟨wd_384, wd_385, wd_71, wd_386, by decide, by decide, by decide +kernel⟩
def w_Sh_faultOfCells (o : Nat) (x1 : Int32) (x2 : Int32) (x3 : Int32) (σ : Sg) (K : Int32 → Prop) : Prop :=
  w_Sh_faultOfRow o x1 σ (fun u2 => ((¬ u2 = 0 → K u2) ∧ (u2 = 0 → w_Sh_holds o x2 x3 σ (fun u15 => ((¬ u15 = 0 → K u2) ∧ (u15 = 0 → K (3 : Int32)))))))
set_option maxHeartbeats 4000000 in
theorem m_Sh_faultOfCells {Y : Yx} {o : Nat} {x1 : Int32} {x2 : Int32} {x3 : Int32} {σ : Sg} {K : Int32 → Prop} (hY : YD Y) (ho : kd o = 3) (h : w_Sh_faultOfCells o x1 x2 x3 σ K) : MetI Y y_Sh_faultOfCells prog_5_method_8_code 5 (.int) 2 41 [.ref (ya Y o), .int x1, .int x2, .int x3] σ (fun r τ => τ = σ ∧ K r) := by
  refine met_I [(0, .ref (ya Y o)), (1, .int x1), (2, .int x2), (3, .int x3)] hY (by decide) (Nat.le_of_ble_eq_true rfl) rfl (fun X C hr => ?_)
  unfold w_Sh_faultOfCells at h
  refine q_aload_n (pc := 0) C d_Sh_faultOfCells_0 rfl 0 rfl ?_
  refine q_iload_n (pc := 1) C d_Sh_faultOfCells_1 rfl 1 rfl ?_
  refine q_callVIr (pc := 2) (st := []) (d := o) C (m_Sh_faultOfRow hY ho h) mi_Sh_faultOfRow ho (by decide) rfl wd_387 rfl rfl (Nat.le_of_ble_eq_true rfl) (by decide) (by decide) d_Sh_faultOfCells_2 (fun u2 h => ?_)
  refine q_istore (pc := 5) [(4, .int u2), (0, .ref (ya Y o)), (1, .int x1), (2, .int x2), (3, .int x3)] C d_Sh_faultOfCells_5 (by decide) rfl ?_
  refine q_iload (pc := 7) C d_Sh_faultOfCells_7 0 rfl ?_
  obtain ⟨h3, h4⟩ := h
  refine q_if_ne (pc := 9) 25 C d_Sh_faultOfCells_9 (by decide) (fun hc => ?_) (fun hc => ?_)
  · have h := h3 hc
    refine q_iload (pc := 25) C d_Sh_faultOfCells_25 0 rfl ?_
    exact q_iret (pc := 27) C hr d_Sh_faultOfCells_27 ⟨rfl, h⟩
  have h := h4 hc
  refine q_aload_n (pc := 12) C d_Sh_faultOfCells_12 rfl 1 rfl ?_
  refine q_iload_n (pc := 13) C d_Sh_faultOfCells_13 rfl 3 rfl ?_
  refine q_iload_n (pc := 14) C d_Sh_faultOfCells_14 rfl 4 rfl ?_
  refine q_callVIr (pc := 15) (st := []) (d := o) C (m_Sh_holds hY ho h) mi_Sh_holds ho (by decide) rfl wd_388 rfl rfl (Nat.le_of_ble_eq_true rfl) (by decide) (by decide) d_Sh_faultOfCells_15 (fun u15 h => ?_)
  obtain ⟨h1, h2⟩ := h
  refine q_if_ne (pc := 18) 25 C d_Sh_faultOfCells_18 (by decide) (fun hc => ?_) (fun hc => ?_)
  · have h := h1 hc
    refine q_iload (pc := 25) C d_Sh_faultOfCells_25 0 rfl ?_
    exact q_iret (pc := 27) C hr d_Sh_faultOfCells_27 ⟨rfl, h⟩
  have h := h2 hc
  refine q_iconst (pc := 21) (v := 3) C d_Sh_faultOfCells_21 (by decide) ?_
  refine q_goto (pc := 22) 27 C d_Sh_faultOfCells_22 (by decide) ?_
  exact q_iret (pc := 27) C hr d_Sh_faultOfCells_27 ⟨rfl, h⟩
theorem d_Lc_hasHouse_0 : decode prog_1_method_38_code 0 = .ok (.aload_n 0, 1) := by decide +kernel
theorem d_Lc_hasHouse_1 : decode prog_1_method_38_code 1 = .ok (.getfield 12, 3) := by decide +kernel
theorem d_Lc_hasHouse_4 : decode prog_1_method_38_code 4 = .ok (.getfield 105, 3) := by decide +kernel
theorem d_Lc_hasHouse_7 : decode prog_1_method_38_code 7 = .ok (.ifCond .le 7, 3) := by decide +kernel
theorem d_Lc_hasHouse_10 : decode prog_1_method_38_code 10 = .ok (.iconst 1, 1) := by decide +kernel
theorem d_Lc_hasHouse_11 : decode prog_1_method_38_code 11 = .ok (.goto 4, 3) := by decide +kernel
theorem d_Lc_hasHouse_14 : decode prog_1_method_38_code 14 = .ok (.iconst 0, 1) := by decide +kernel
theorem d_Lc_hasHouse_15 : decode prog_1_method_38_code 15 = .ok (.ireturn, 1) := by decide +kernel
abbrev y_Lc_hasHouse : MethodName := ⟨"LoadCycles", "hasHouse", "()Z"⟩
theorem mi_Lc_hasHouse : miV y_Lc_hasHouse prog_1_method_38_code 1 (some .boolean) 0 := ⟨wd_391, wd_7, wd_65, wd_392, by decide, by decide, by decide +kernel⟩
def w_Lc_hasHouse  (σ : Sg) (K : Int32 → Prop) : Prop :=
  (((σ 1 4) ≤ 0 → K (0 : Int32)) ∧ (¬ (σ 1 4) ≤ 0 → K (1 : Int32)))
set_option maxHeartbeats 4000000 in
theorem m_Lc_hasHouse {Y : Yx}  {σ : Sg} {K : Int32 → Prop} (hY : YD Y)  (h : w_Lc_hasHouse σ K) : MetI Y y_Lc_hasHouse prog_1_method_38_code 1 (.boolean) 0 0 [.ref (ya Y 0)] σ (fun r τ => τ = σ ∧ K r) := by
  refine met_I [(0, .ref (ya Y 0))] hY (by decide) (Nat.le_of_ble_eq_true rfl) rfl (fun X C hr => ?_)
  unfold w_Lc_hasHouse at h
  refine q_aload_n (pc := 0) C d_Lc_hasHouse_0 rfl 0 rfl ?_
  refine q_get (pc := 1) (c := 0) (ci := 6) (k := 0) (v := .ref (ya Y 1)) C rfl (by decide) (by decide) wd_230 rfl d_Lc_hasHouse_1 ?_
  refine q_get (pc := 4) (c := 1) (ci := 2) (k := 4) (v := .int (σ 1 4)) C rfl (by decide) (by decide) wd_103 rfl d_Lc_hasHouse_4 ?_
  obtain ⟨h1, h2⟩ := h
  refine q_if_le (pc := 7) 14 C d_Lc_hasHouse_7 (by decide) (fun hc => ?_) (fun hc => ?_)
  · have h := h1 hc
    refine q_iconst (pc := 14) (v := 0) C d_Lc_hasHouse_14 (by decide) ?_
    exact q_zret (pc := 15) C hr d_Lc_hasHouse_15 bz0 ⟨rfl, h⟩
  have h := h2 hc
  refine q_iconst (pc := 10) (v := 1) C d_Lc_hasHouse_10 (by decide) ?_
  refine q_goto (pc := 11) 15 C d_Lc_hasHouse_11 (by decide) ?_
  exact q_zret (pc := 15) C hr d_Lc_hasHouse_15 bz1 ⟨rfl, h⟩
theorem d_Lc_meter_0 : decode prog_1_method_5_code 0 = .ok (.aload_n 0, 1) := by decide +kernel
theorem d_Lc_meter_1 : decode prog_1_method_5_code 1 = .ok (.iconst 0, 1) := by decide +kernel
theorem d_Lc_meter_2 : decode prog_1_method_5_code 2 = .ok (.putfield 66, 3) := by decide +kernel
theorem d_Lc_meter_5 : decode prog_1_method_5_code 5 = .ok (.iload_n 1, 1) := by decide +kernel
theorem d_Lc_meter_6 : decode prog_1_method_5_code 6 = .ok (.invokestatic 70, 3) := by decide +kernel
theorem d_Lc_meter_9 : decode prog_1_method_5_code 9 = .ok (.ifCond .ne 5, 3) := by decide +kernel
theorem d_Lc_meter_12 : decode prog_1_method_5_code 12 = .ok (.iconst (-1), 1) := by decide +kernel
theorem d_Lc_meter_13 : decode prog_1_method_5_code 13 = .ok (.ireturn, 1) := by decide +kernel
theorem d_Lc_meter_14 : decode prog_1_method_5_code 14 = .ok (.iload_n 2, 1) := by decide +kernel
theorem d_Lc_meter_15 : decode prog_1_method_5_code 15 = .ok (.invokestatic 74, 3) := by decide +kernel
theorem d_Lc_meter_18 : decode prog_1_method_5_code 18 = .ok (.ifCond .eq 15, 3) := by decide +kernel
theorem d_Lc_meter_21 : decode prog_1_method_5_code 21 = .ok (.iload 4, 2) := by decide +kernel
theorem d_Lc_meter_23 : decode prog_1_method_5_code 23 = .ok (.ifCond .lt 10, 3) := by decide +kernel
theorem d_Lc_meter_26 : decode prog_1_method_5_code 26 = .ok (.iload 4, 2) := by decide +kernel
theorem d_Lc_meter_28 : decode prog_1_method_5_code 28 = .ok (.bipush 20, 2) := by decide +kernel
theorem d_Lc_meter_30 : decode prog_1_method_5_code 30 = .ok (.if_icmp .le 6, 3) := by decide +kernel
theorem d_Lc_meter_33 : decode prog_1_method_5_code 33 = .ok (.bipush (-2), 2) := by decide +kernel
theorem d_Lc_meter_35 : decode prog_1_method_5_code 35 = .ok (.ireturn, 1) := by decide +kernel
theorem d_Lc_meter_36 : decode prog_1_method_5_code 36 = .ok (.aload_n 0, 1) := by decide +kernel
theorem d_Lc_meter_37 : decode prog_1_method_5_code 37 = .ok (.getfield 54, 3) := by decide +kernel
theorem d_Lc_meter_40 : decode prog_1_method_5_code 40 = .ok (.iload_n 1, 1) := by decide +kernel
theorem d_Lc_meter_41 : decode prog_1_method_5_code 41 = .ok (.aaload, 1) := by decide +kernel
theorem d_Lc_meter_42 : decode prog_1_method_5_code 42 = .ok (.astore 5, 2) := by decide +kernel
theorem d_Lc_meter_44 : decode prog_1_method_5_code 44 = .ok (.aload 5, 2) := by decide +kernel
theorem d_Lc_meter_46 : decode prog_1_method_5_code 46 = .ok (.iload_n 2, 1) := by decide +kernel
theorem d_Lc_meter_47 : decode prog_1_method_5_code 47 = .ok (.iload_n 3, 1) := by decide +kernel
theorem d_Lc_meter_48 : decode prog_1_method_5_code 48 = .ok (.iload 4, 2) := by decide +kernel
theorem d_Lc_meter_50 : decode prog_1_method_5_code 50 = .ok (.invokevirtual 134, 3) := by decide +kernel
theorem d_Lc_meter_53 : decode prog_1_method_5_code 53 = .ok (.istore 6, 2) := by decide +kernel
theorem d_Lc_meter_55 : decode prog_1_method_5_code 55 = .ok (.iload 6, 2) := by decide +kernel
theorem d_Lc_meter_57 : decode prog_1_method_5_code 57 = .ok (.ifCond .eq 10, 3) := by decide +kernel
theorem d_Lc_meter_60 : decode prog_1_method_5_code 60 = .ok (.aload_n 0, 1) := by decide +kernel
theorem d_Lc_meter_61 : decode prog_1_method_5_code 61 = .ok (.iload 6, 2) := by decide +kernel
theorem d_Lc_meter_63 : decode prog_1_method_5_code 63 = .ok (.invokevirtual 85, 3) := by decide +kernel
theorem d_Lc_meter_66 : decode prog_1_method_5_code 66 = .ok (.ireturn, 1) := by decide +kernel
theorem d_Lc_meter_67 : decode prog_1_method_5_code 67 = .ok (.aload_n 0, 1) := by decide +kernel
theorem d_Lc_meter_68 : decode prog_1_method_5_code 68 = .ok (.invokevirtual 138, 3) := by decide +kernel
theorem d_Lc_meter_71 : decode prog_1_method_5_code 71 = .ok (.ifCond .ne 6, 3) := by decide +kernel
theorem d_Lc_meter_74 : decode prog_1_method_5_code 74 = .ok (.bipush (-3), 2) := by decide +kernel
theorem d_Lc_meter_76 : decode prog_1_method_5_code 76 = .ok (.ireturn, 1) := by decide +kernel
theorem d_Lc_meter_77 : decode prog_1_method_5_code 77 = .ok (.iconst 0, 1) := by decide +kernel
theorem d_Lc_meter_78 : decode prog_1_method_5_code 78 = .ok (.istore 7, 2) := by decide +kernel
theorem d_Lc_meter_80 : decode prog_1_method_5_code 80 = .ok (.iload 7, 2) := by decide +kernel
theorem d_Lc_meter_82 : decode prog_1_method_5_code 82 = .ok (.iload 4, 2) := by decide +kernel
theorem d_Lc_meter_84 : decode prog_1_method_5_code 84 = .ok (.if_icmp .ge 47, 3) := by decide +kernel
theorem d_Lc_meter_87 : decode prog_1_method_5_code 87 = .ok (.aload 5, 2) := by decide +kernel
theorem d_Lc_meter_89 : decode prog_1_method_5_code 89 = .ok (.getfield 142, 3) := by decide +kernel
theorem d_Lc_meter_92 : decode prog_1_method_5_code 92 = .ok (.iload_n 3, 1) := by decide +kernel
theorem d_Lc_meter_93 : decode prog_1_method_5_code 93 = .ok (.iload 7, 2) := by decide +kernel
theorem d_Lc_meter_95 : decode prog_1_method_5_code 95 = .ok (.iadd, 1) := by decide +kernel
theorem d_Lc_meter_96 : decode prog_1_method_5_code 96 = .ok (.iaload, 1) := by decide +kernel
theorem d_Lc_meter_97 : decode prog_1_method_5_code 97 = .ok (.aload_n 0, 1) := by decide +kernel
theorem d_Lc_meter_98 : decode prog_1_method_5_code 98 = .ok (.getfield 12, 3) := by decide +kernel
theorem d_Lc_meter_101 : decode prog_1_method_5_code 101 = .ok (.getfield 145, 3) := by decide +kernel
theorem d_Lc_meter_104 : decode prog_1_method_5_code 104 = .ok (.if_icmp .lt 18, 3) := by decide +kernel
theorem d_Lc_meter_107 : decode prog_1_method_5_code 107 = .ok (.aload 5, 2) := by decide +kernel
theorem d_Lc_meter_109 : decode prog_1_method_5_code 109 = .ok (.getfield 142, 3) := by decide +kernel
theorem d_Lc_meter_112 : decode prog_1_method_5_code 112 = .ok (.iload_n 3, 1) := by decide +kernel
theorem d_Lc_meter_113 : decode prog_1_method_5_code 113 = .ok (.iload 7, 2) := by decide +kernel
theorem d_Lc_meter_115 : decode prog_1_method_5_code 115 = .ok (.iadd, 1) := by decide +kernel
theorem d_Lc_meter_116 : decode prog_1_method_5_code 116 = .ok (.iaload, 1) := by decide +kernel
theorem d_Lc_meter_117 : decode prog_1_method_5_code 117 = .ok (.bipush 99, 2) := by decide +kernel
theorem d_Lc_meter_119 : decode prog_1_method_5_code 119 = .ok (.if_icmp .le 6, 3) := by decide +kernel
theorem d_Lc_meter_122 : decode prog_1_method_5_code 122 = .ok (.bipush (-2), 2) := by decide +kernel
theorem d_Lc_meter_124 : decode prog_1_method_5_code 124 = .ok (.ireturn, 1) := by decide +kernel
theorem d_Lc_meter_125 : decode prog_1_method_5_code 125 = .ok (.iinc 7 1, 3) := by decide +kernel
theorem d_Lc_meter_128 : decode prog_1_method_5_code 128 = .ok (.goto (-48), 3) := by decide +kernel
theorem d_Lc_meter_131 : decode prog_1_method_5_code 131 = .ok (.aload 5, 2) := by decide +kernel
theorem d_Lc_meter_133 : decode prog_1_method_5_code 133 = .ok (.getfield 142, 3) := by decide +kernel
theorem d_Lc_meter_136 : decode prog_1_method_5_code 136 = .ok (.iload_n 3, 1) := by decide +kernel
theorem d_Lc_meter_137 : decode prog_1_method_5_code 137 = .ok (.aload_n 0, 1) := by decide +kernel
theorem d_Lc_meter_138 : decode prog_1_method_5_code 138 = .ok (.getfield 12, 3) := by decide +kernel
theorem d_Lc_meter_141 : decode prog_1_method_5_code 141 = .ok (.getfield 148, 3) := by decide +kernel
theorem d_Lc_meter_144 : decode prog_1_method_5_code 144 = .ok (.iconst 0, 1) := by decide +kernel
theorem d_Lc_meter_145 : decode prog_1_method_5_code 145 = .ok (.iload 4, 2) := by decide +kernel
theorem d_Lc_meter_147 : decode prog_1_method_5_code 147 = .ok (.invokestatic 151, 3) := by decide +kernel
theorem d_Lc_meter_150 : decode prog_1_method_5_code 150 = .ok (.aload_n 0, 1) := by decide +kernel
theorem d_Lc_meter_151 : decode prog_1_method_5_code 151 = .ok (.getfield 12, 3) := by decide +kernel
theorem d_Lc_meter_154 : decode prog_1_method_5_code 154 = .ok (.iload 4, 2) := by decide +kernel
theorem d_Lc_meter_156 : decode prog_1_method_5_code 156 = .ok (.putfield 157, 3) := by decide +kernel
theorem d_Lc_meter_159 : decode prog_1_method_5_code 159 = .ok (.aload_n 0, 1) := by decide +kernel
theorem d_Lc_meter_160 : decode prog_1_method_5_code 160 = .ok (.invokevirtual 102, 3) := by decide +kernel
theorem d_Lc_meter_163 : decode prog_1_method_5_code 163 = .ok (.iload 4, 2) := by decide +kernel
theorem d_Lc_meter_165 : decode prog_1_method_5_code 165 = .ok (.ireturn, 1) := by decide +kernel
abbrev y_Lc_meter : MethodName := ⟨"LoadCycles", "meter", "(IIII)I"⟩
theorem mi_Lc_meter : miV y_Lc_meter prog_1_method_5_code 8 (some .int) 4 := ⟨wd_380, wd_381, wd_65, wd_382, by decide, by decide, by decide +kernel⟩
def L_Lc_meter_80 (x1 : Int32) (x2 : Int32) (x3 : Int32) (x4 : Int32) (c5 : Nat) (K : Int32 → Sg → Prop) : Nat → Int32 → Sg → Prop
  | 0, _, _ => False
  | n + 1, v7, σ =>
    ((x4 ≤ v7 → (cpk x3 (0 : Int32) x4 60 20 ∧ (∀ τ147 : Sg, τ147 = s1 σ 5 (va_cpy (σ (c5 + 1)) (σ 5) x3.toNatClampNeg (0 : Int32).toNatClampNeg x4.toNatClampNeg) → (∀ τ156 : Sg, τ156 = s2 τ147 1 5 x4 → w_Lc_forgetBest τ156 (fun τ160 => K x4 τ160))))) ∧ (¬ x4 ≤ v7 → (vp_in (x3 + v7) 60 ∧ (((σ (c5 + 1) (x3 + v7).toNatClampNeg) < (σ 1 6) → K (-2 : Int32) σ) ∧ (¬ (σ (c5 + 1) (x3 + v7).toNatClampNeg) < (σ 1 6) → (vp_in (x3 + v7) 60 ∧ (((σ (c5 + 1) (x3 + v7).toNatClampNeg) ≤ (99 : Int32) → L_Lc_meter_80 x1 x2 x3 x4 c5 K n (v7 + (1 : Int32)) σ) ∧ (¬ (σ (c5 + 1) (x3 + v7).toNatClampNeg) ≤ (99 : Int32) → K (-2 : Int32) σ))))))))
theorem t_Lc_meter_80 {X : Bx} {Y : Yx} {x1 : Int32} {x2 : Int32} {x3 : Int32} {x4 : Int32} {c5 : Nat} {K : Int32 → Sg → Prop}  (hY : YD Y) (C : Cx X Y prog_1_method_5_code 8 "LoadCycles" 3 65) (hr : (xh X).sig.returnType = some .int) (hkc5 : kd c5 = 3) : ∀ (n : Nat) (v7 : Int32) (σ : Sg), L_Lc_meter_80 x1 x2 x3 x4 c5 K n v7 σ → St X Y 8 (QI X Y K) 80 [(0, .ref (ya Y 0)), (3, .int x3), (4, .int x4), (5, .ref (ya Y c5)), (7, .int v7)] [] σ := by
  intro n
  induction n with
  | zero => intro v7 σ h; exact h.elim
  | succ n ih =>
    intro v7 σ h
    unfold L_Lc_meter_80 at h
    refine q_iload (pc := 80) C d_Lc_meter_80 4 rfl ?_
    refine q_iload (pc := 82) C d_Lc_meter_82 2 rfl ?_
    obtain ⟨h9, h10⟩ := h
    refine q_icmp_ge (pc := 84) 131 C d_Lc_meter_84 (by decide) (fun hc => ?_) (fun hc => ?_)
    · have h := h9 hc
      refine q_aload (pc := 131) C d_Lc_meter_131 3 rfl ?_
      refine q_get (pc := 133) (c := c5) (ci := 3) (k := 0) (v := .ref (ya Y (c5 + 1))) C hkc5 (by decide) (by decide) wd_219 rfl d_Lc_meter_133 ?_
      refine q_iload_n (pc := 136) C d_Lc_meter_136 rfl 1 rfl ?_
      refine q_aload_n (pc := 137) C d_Lc_meter_137 rfl 0 rfl ?_
      refine q_get (pc := 138) (c := 0) (ci := 6) (k := 0) (v := .ref (ya Y 1)) C rfl (by decide) (by decide) wd_230 rfl d_Lc_meter_138 ?_
      refine q_get (pc := 141) (c := 1) (ci := 2) (k := 3) (v := .ref (ya Y 5)) C rfl (by decide) (by decide) wd_98 rfl d_Lc_meter_141 ?_
      refine q_iconst (pc := 144) (v := 0) C d_Lc_meter_144 (by decide) ?_
      refine q_iload (pc := 145) C d_Lc_meter_145 2 rfl ?_
      obtain ⟨h2, h⟩ := h
      refine q_copy (pc := 147) (c0 := (c5 + 1)) (c1 := 5) (st := []) C (k3_1 hkc5) ⟨rfl, rfl⟩ h2 wd_393 wd_344 wd_343 wd_73 (by decide) (by decide) d_Lc_meter_147 ?_
      refine q_nms (fun τ147 eτ147 => ?_)
      replace h := h τ147 eτ147
      refine q_aload_n (pc := 150) C d_Lc_meter_150 rfl 0 rfl ?_
      refine q_get (pc := 151) (c := 0) (ci := 6) (k := 0) (v := .ref (ya Y 1)) C rfl (by decide) (by decide) wd_230 rfl d_Lc_meter_151 ?_
      refine q_iload (pc := 154) C d_Lc_meter_154 2 rfl ?_
      refine q_put (pc := 156) (c := 1) (ci := 2) (k := 5) C rfl (by decide) (by decide) wd_107 rfl rfl rfl fs_2_5 d_Lc_meter_156 ?_
      refine q_nms (fun τ156 eτ156 => ?_)
      replace h := h τ156 eτ156
      refine q_aload_n (pc := 159) C d_Lc_meter_159 rfl 0 rfl ?_
      refine q_callVV (pc := 160) (st := []) (d := 0) C (m_Lc_forgetBest hY h) mi_Lc_forgetBest rfl (by decide) rfl wd_345 rfl rfl (Nat.le_of_ble_eq_true rfl) (by decide) (by decide) d_Lc_meter_160 (fun τ160 h => ?_)
      refine q_iload (pc := 163) C d_Lc_meter_163 2 rfl ?_
      exact q_iret (pc := 165) C hr d_Lc_meter_165 h
    have h := h10 hc
    refine q_aload (pc := 87) C d_Lc_meter_87 3 rfl ?_
    refine q_get (pc := 89) (c := c5) (ci := 3) (k := 0) (v := .ref (ya Y (c5 + 1))) C hkc5 (by decide) (by decide) wd_219 rfl d_Lc_meter_89 ?_
    refine q_iload_n (pc := 92) C d_Lc_meter_92 rfl 1 rfl ?_
    refine q_iload (pc := 93) C d_Lc_meter_93 4 rfl ?_
    refine q_iadd (pc := 95) C d_Lc_meter_95 ?_
    obtain ⟨h3, h⟩ := h
    refine q_iald (pc := 96) (c := (c5 + 1)) C (k3_1 hkc5) h3 d_Lc_meter_96 ?_
    refine q_aload_n (pc := 97) C d_Lc_meter_97 rfl 0 rfl ?_
    refine q_get (pc := 98) (c := 0) (ci := 6) (k := 0) (v := .ref (ya Y 1)) C rfl (by decide) (by decide) wd_230 rfl d_Lc_meter_98 ?_
    refine q_get (pc := 101) (c := 1) (ci := 2) (k := 6) (v := .int (σ 1 6)) C rfl (by decide) (by decide) wd_110 rfl d_Lc_meter_101 ?_
    obtain ⟨h7, h8⟩ := h
    refine q_icmp_lt (pc := 104) 122 C d_Lc_meter_104 (by decide) (fun hc => ?_) (fun hc => ?_)
    · have h := h7 hc
      refine q_bipush (pc := 122) (v := -2) C d_Lc_meter_122 (by decide) ?_
      exact q_iret (pc := 124) C hr d_Lc_meter_124 h
    have h := h8 hc
    refine q_aload (pc := 107) C d_Lc_meter_107 3 rfl ?_
    refine q_get (pc := 109) (c := c5) (ci := 3) (k := 0) (v := .ref (ya Y (c5 + 1))) C hkc5 (by decide) (by decide) wd_219 rfl d_Lc_meter_109 ?_
    refine q_iload_n (pc := 112) C d_Lc_meter_112 rfl 1 rfl ?_
    refine q_iload (pc := 113) C d_Lc_meter_113 4 rfl ?_
    refine q_iadd (pc := 115) C d_Lc_meter_115 ?_
    obtain ⟨h4, h⟩ := h
    refine q_iald (pc := 116) (c := (c5 + 1)) C (k3_1 hkc5) h4 d_Lc_meter_116 ?_
    refine q_bipush (pc := 117) (v := 99) C d_Lc_meter_117 (by decide) ?_
    obtain ⟨h5, h6⟩ := h
    refine q_icmp_le (pc := 119) 125 C d_Lc_meter_119 (by decide) (fun hc => ?_) (fun hc => ?_)
    · have h := h5 hc
      refine q_iinc (pc := 125) (v7 + (1 : Int32)) [(7, .int (v7 + (1 : Int32))), (0, .ref (ya Y 0)), (3, .int x3), (4, .int x4), (5, .ref (ya Y c5))] C d_Lc_meter_125 4 rfl rfl (by decide) rfl ?_
      refine q_goto (pc := 128) 80 C d_Lc_meter_128 (by decide) ?_
      refine q_sub [(0, .ref (ya Y 0)), (3, .int x3), (4, .int x4), (5, .ref (ya Y c5)), (7, .int (v7 + (1 : Int32)))] [1, 2, 3, 4, 0] rfl ?_
      exact ih (v7 + (1 : Int32)) σ h
    have h := h6 hc
    refine q_bipush (pc := 122) (v := -2) C d_Lc_meter_122 (by decide) ?_
    exact q_iret (pc := 124) C hr d_Lc_meter_124 h
def w_Lc_meter (x1 : Int32) (x2 : Int32) (x3 : Int32) (x4 : Int32) (σ : Sg) (K : Int32 → Sg → Prop) : Prop :=
  (∀ τ2 : Sg, τ2 = s2 σ 0 13 (0 : Int32) → w_Lc_isSheet x1 τ2 (fun u6 => ((¬ u6 = 0 → w_Lc_isLane x2 τ2 (fun u15 => ((u15 = 0 → K (-2 : Int32) τ2) ∧ (¬ u15 = 0 → ((x4 < 0 → K (-2 : Int32) τ2) ∧ (¬ x4 < 0 → ((x4 ≤ (20 : Int32) → (vp_in x1 4 ∧ w_Sh_faultOfCells (33 + 2 * x1.toNatClampNeg) x2 x3 x4 τ2 (fun u50 => ((u50 = 0 → w_Lc_hasHouse τ2 (fun u68 => ((¬ u68 = 0 → (∃ n11 : Nat, L_Lc_meter_80 x1 x2 x3 x4 (33 + 2 * x1.toNatClampNeg) K n11 (0 : Int32) τ2)) ∧ (u68 = 0 → K (-3 : Int32) τ2)))) ∧ (¬ u50 = 0 → w_Lc_faulted u50 τ2 (fun u63 τ63 => K u63 τ63)))))) ∧ (¬ x4 ≤ (20 : Int32) → K (-2 : Int32) τ2)))))))) ∧ (u6 = 0 → K (-1 : Int32) τ2))))
set_option maxHeartbeats 4000000 in
theorem m_Lc_meter {Y : Yx} {x1 : Int32} {x2 : Int32} {x3 : Int32} {x4 : Int32} {σ : Sg} {K : Int32 → Sg → Prop} (hY : YD Y)  (h : w_Lc_meter x1 x2 x3 x4 σ K) : MetI Y y_Lc_meter prog_1_method_5_code 8 (.int) 3 65 [.ref (ya Y 0), .int x1, .int x2, .int x3, .int x4] σ K := by
  refine met_I [(0, .ref (ya Y 0)), (1, .int x1), (2, .int x2), (3, .int x3), (4, .int x4)] hY (by decide) (Nat.le_of_ble_eq_true rfl) rfl (fun X C hr => ?_)
  unfold w_Lc_meter at h
  refine q_aload_n (pc := 0) C d_Lc_meter_0 rfl 0 rfl ?_
  refine q_iconst (pc := 1) (v := 0) C d_Lc_meter_1 (by decide) ?_
  refine q_put (pc := 2) (c := 0) (ci := 6) (k := 13) C rfl (by decide) (by decide) wd_243 rfl rfl rfl fs_6_13 d_Lc_meter_2 ?_
  refine q_nms (fun τ2 eτ2 => ?_)
  replace h := h τ2 eτ2
  refine q_iload_n (pc := 5) C d_Lc_meter_5 rfl 1 rfl ?_
  refine q_callSIr (pc := 6) (st := []) C (m_Lc_isSheet hY h) mi_Lc_isSheet wd_277 rfl rfl (Nat.le_of_ble_eq_true rfl) (by decide) (by decide) d_Lc_meter_6 (fun u6 h => ?_)
  obtain ⟨h22, h23⟩ := h
  refine q_if_ne (pc := 9) 14 C d_Lc_meter_9 (by decide) (fun hc => ?_) (fun hc => ?_)
  · have h := h22 hc
    refine q_iload_n (pc := 14) C d_Lc_meter_14 rfl 2 rfl ?_
    refine q_callSIr (pc := 15) (st := []) C (m_Lc_isLane hY h) mi_Lc_isLane wd_280 rfl rfl (Nat.le_of_ble_eq_true rfl) (by decide) (by decide) d_Lc_meter_15 (fun u15 h => ?_)
    obtain ⟨h20, h21⟩ := h
    refine q_if_eq (pc := 18) 33 C d_Lc_meter_18 (by decide) (fun hc => ?_) (fun hc => ?_)
    · have h := h20 hc
      refine q_bipush (pc := 33) (v := -2) C d_Lc_meter_33 (by decide) ?_
      exact q_iret (pc := 35) C hr d_Lc_meter_35 h
    have h := h21 hc
    refine q_iload (pc := 21) C d_Lc_meter_21 4 rfl ?_
    obtain ⟨h18, h19⟩ := h
    refine q_if_lt (pc := 23) 33 C d_Lc_meter_23 (by decide) (fun hc => ?_) (fun hc => ?_)
    · have h := h18 hc
      refine q_bipush (pc := 33) (v := -2) C d_Lc_meter_33 (by decide) ?_
      exact q_iret (pc := 35) C hr d_Lc_meter_35 h
    have h := h19 hc
    refine q_iload (pc := 26) C d_Lc_meter_26 4 rfl ?_
    refine q_bipush (pc := 28) (v := 20) C d_Lc_meter_28 (by decide) ?_
    obtain ⟨h16, h17⟩ := h
    refine q_icmp_le (pc := 30) 36 C d_Lc_meter_30 (by decide) (fun hc => ?_) (fun hc => ?_)
    · have h := h16 hc
      refine q_aload_n (pc := 36) C d_Lc_meter_36 rfl 0 rfl ?_
      refine q_get (pc := 37) (c := 0) (ci := 6) (k := 7) (v := .ref (ya Y 32)) C rfl (by decide) (by decide) wd_237 rfl d_Lc_meter_37 ?_
      refine q_iload_n (pc := 40) C d_Lc_meter_40 rfl 1 rfl ?_
      obtain ⟨h1, h⟩ := h
      refine q_aald (pc := 41) C h1 d_Lc_meter_41 ?_
      refine q_astore (pc := 42) [(5, .ref (ya Y (33 + 2 * x1.toNatClampNeg))), (0, .ref (ya Y 0)), (1, .int x1), (2, .int x2), (3, .int x3), (4, .int x4)] C d_Lc_meter_42 (by decide) rfl ?_
      refine q_aload (pc := 44) C d_Lc_meter_44 0 rfl ?_
      refine q_iload_n (pc := 46) C d_Lc_meter_46 rfl 3 rfl ?_
      refine q_iload_n (pc := 47) C d_Lc_meter_47 rfl 4 rfl ?_
      refine q_iload (pc := 48) C d_Lc_meter_48 5 rfl ?_
      refine q_callVIr (pc := 50) (st := []) (d := (33 + 2 * x1.toNatClampNeg)) C (m_Sh_faultOfCells hY (iaS h1) h) mi_Sh_faultOfCells (iaS h1) (by decide) rfl wd_383 rfl rfl (Nat.le_of_ble_eq_true rfl) (by decide) (by decide) d_Lc_meter_50 (fun u50 h => ?_)
      refine q_istore (pc := 53) [(6, .int u50), (5, .ref (ya Y (33 + 2 * x1.toNatClampNeg))), (0, .ref (ya Y 0)), (1, .int x1), (2, .int x2), (3, .int x3), (4, .int x4)] C d_Lc_meter_53 (by decide) rfl ?_
      refine q_iload (pc := 55) C d_Lc_meter_55 0 rfl ?_
      obtain ⟨h14, h15⟩ := h
      refine q_if_eq (pc := 57) 67 C d_Lc_meter_57 (by decide) (fun hc => ?_) (fun hc => ?_)
      · have h := h14 hc
        refine q_aload_n (pc := 67) C d_Lc_meter_67 rfl 2 rfl ?_
        refine q_callVIr (pc := 68) (st := []) (d := 0) C (m_Lc_hasHouse hY h) mi_Lc_hasHouse rfl (by decide) rfl wd_389 rfl rfl (Nat.le_of_ble_eq_true rfl) (by decide) (by decide) d_Lc_meter_68 (fun u68 h => ?_)
        obtain ⟨h12, h13⟩ := h
        refine q_if_ne (pc := 71) 77 C d_Lc_meter_71 (by decide) (fun hc => ?_) (fun hc => ?_)
        · have h := h12 hc
          refine q_iconst (pc := 77) (v := 0) C d_Lc_meter_77 (by decide) ?_
          refine q_istore (pc := 78) [(7, .int (0 : Int32)), (6, .int u50), (5, .ref (ya Y (33 + 2 * x1.toNatClampNeg))), (0, .ref (ya Y 0)), (1, .int x1), (2, .int x2), (3, .int x3), (4, .int x4)] C d_Lc_meter_78 (by decide) rfl ?_
          obtain ⟨n11, h⟩ := h
          refine q_sub [(0, .ref (ya Y 0)), (3, .int x3), (4, .int x4), (5, .ref (ya Y (33 + 2 * x1.toNatClampNeg))), (7, .int (0 : Int32))] [3, 6, 7, 2, 0] rfl ?_
          exact t_Lc_meter_80 hY C hr ((iaS h1)) n11 (0 : Int32) τ2 h
        have h := h13 hc
        refine q_bipush (pc := 74) (v := -3) C d_Lc_meter_74 (by decide) ?_
        exact q_iret (pc := 76) C hr d_Lc_meter_76 h
      have h := h15 hc
      refine q_aload_n (pc := 60) C d_Lc_meter_60 rfl 2 rfl ?_
      refine q_iload (pc := 61) C d_Lc_meter_61 0 rfl ?_
      refine q_callVI (pc := 63) (st := []) (d := 0) C (m_Lc_faulted hY h) mi_Lc_faulted rfl (by decide) rfl wd_295 rfl rfl (Nat.le_of_ble_eq_true rfl) (by decide) (by decide) d_Lc_meter_63 (fun u63 τ63 h => ?_)
      exact q_iret (pc := 66) C hr d_Lc_meter_66 h
    have h := h17 hc
    refine q_bipush (pc := 33) (v := -2) C d_Lc_meter_33 (by decide) ?_
    exact q_iret (pc := 35) C hr d_Lc_meter_35 h
  have h := h23 hc
  refine q_iconst (pc := 12) (v := -1) C d_Lc_meter_12 (by decide) ?_
  exact q_iret (pc := 13) C hr d_Lc_meter_13 h
theorem d_Ho_hasTime_0 : decode prog_4_method_5_code 0 = .ok (.iload_n 1, 1) := by decide +kernel
theorem d_Ho_hasTime_1 : decode prog_4_method_5_code 1 = .ok (.ifCond .lt 15, 3) := by decide +kernel
theorem d_Ho_hasTime_4 : decode prog_4_method_5_code 4 = .ok (.iload_n 1, 1) := by decide +kernel
theorem d_Ho_hasTime_5 : decode prog_4_method_5_code 5 = .ok (.aload_n 0, 1) := by decide +kernel
theorem d_Ho_hasTime_6 : decode prog_4_method_5_code 6 = .ok (.getfield 34, 3) := by decide +kernel
theorem d_Ho_hasTime_9 : decode prog_4_method_5_code 9 = .ok (.if_icmp .ge 7, 3) := by decide +kernel
theorem d_Ho_hasTime_12 : decode prog_4_method_5_code 12 = .ok (.iconst 1, 1) := by decide +kernel
theorem d_Ho_hasTime_13 : decode prog_4_method_5_code 13 = .ok (.goto 4, 3) := by decide +kernel
theorem d_Ho_hasTime_16 : decode prog_4_method_5_code 16 = .ok (.iconst 0, 1) := by decide +kernel
theorem d_Ho_hasTime_17 : decode prog_4_method_5_code 17 = .ok (.ireturn, 1) := by decide +kernel
abbrev y_Ho_hasTime : MethodName := ⟨"LoadCycles$House", "hasTime", "(I)Z"⟩
theorem mi_Ho_hasTime : miV y_Ho_hasTime prog_4_method_5_code 2 (some .boolean) 1 := ⟨wd_399, wd_400, wd_66, wd_401, by decide, by decide, by decide +kernel⟩
def w_Ho_hasTime (o : Nat) (x1 : Int32) (σ : Sg) (K : Int32 → Prop) : Prop :=
  ((x1 < 0 → K (0 : Int32)) ∧ (¬ x1 < 0 → (((σ o 5) ≤ x1 → K (0 : Int32)) ∧ (¬ (σ o 5) ≤ x1 → K (1 : Int32)))))
set_option maxHeartbeats 4000000 in
theorem m_Ho_hasTime {Y : Yx} {o : Nat} {x1 : Int32} {σ : Sg} {K : Int32 → Prop} (hY : YD Y) (ho : kd o = 2) (h : w_Ho_hasTime o x1 σ K) : MetI Y y_Ho_hasTime prog_4_method_5_code 2 (.boolean) 0 0 [.ref (ya Y o), .int x1] σ (fun r τ => τ = σ ∧ K r) := by
  refine met_I [(0, .ref (ya Y o)), (1, .int x1)] hY (by decide) (Nat.le_of_ble_eq_true rfl) rfl (fun X C hr => ?_)
  unfold w_Ho_hasTime at h
  refine q_iload_n (pc := 0) C d_Ho_hasTime_0 rfl 1 rfl ?_
  obtain ⟨h3, h4⟩ := h
  refine q_if_lt (pc := 1) 16 C d_Ho_hasTime_1 (by decide) (fun hc => ?_) (fun hc => ?_)
  · have h := h3 hc
    refine q_iconst (pc := 16) (v := 0) C d_Ho_hasTime_16 (by decide) ?_
    exact q_zret (pc := 17) C hr d_Ho_hasTime_17 bz0 ⟨rfl, h⟩
  have h := h4 hc
  refine q_iload_n (pc := 4) C d_Ho_hasTime_4 rfl 1 rfl ?_
  refine q_aload_n (pc := 5) C d_Ho_hasTime_5 rfl 0 rfl ?_
  refine q_get (pc := 6) (c := o) (ci := 2) (k := 5) (v := .int (σ o 5)) C ho (by decide) (by decide) wd_105 rfl d_Ho_hasTime_6 ?_
  obtain ⟨h1, h2⟩ := h
  refine q_icmp_ge (pc := 9) 16 C d_Ho_hasTime_9 (by decide) (fun hc => ?_) (fun hc => ?_)
  · have h := h1 hc
    refine q_iconst (pc := 16) (v := 0) C d_Ho_hasTime_16 (by decide) ?_
    exact q_zret (pc := 17) C hr d_Ho_hasTime_17 bz0 ⟨rfl, h⟩
  have h := h2 hc
  refine q_iconst (pc := 12) (v := 1) C d_Ho_hasTime_12 (by decide) ?_
  refine q_goto (pc := 13) 17 C d_Ho_hasTime_13 (by decide) ?_
  exact q_zret (pc := 17) C hr d_Ho_hasTime_17 bz1 ⟨rfl, h⟩
theorem d_Lc_value_0 : decode prog_1_method_6_code 0 = .ok (.aload_n 0, 1) := by decide +kernel
theorem d_Lc_value_1 : decode prog_1_method_6_code 1 = .ok (.getfield 12, 3) := by decide +kernel
theorem d_Lc_value_4 : decode prog_1_method_6_code 4 = .ok (.iload_n 1, 1) := by decide +kernel
theorem d_Lc_value_5 : decode prog_1_method_6_code 5 = .ok (.invokevirtual 160, 3) := by decide +kernel
theorem d_Lc_value_8 : decode prog_1_method_6_code 8 = .ok (.ifCond .eq 15, 3) := by decide +kernel
theorem d_Lc_value_11 : decode prog_1_method_6_code 11 = .ok (.aload_n 0, 1) := by decide +kernel
theorem d_Lc_value_12 : decode prog_1_method_6_code 12 = .ok (.getfield 12, 3) := by decide +kernel
theorem d_Lc_value_15 : decode prog_1_method_6_code 15 = .ok (.getfield 148, 3) := by decide +kernel
theorem d_Lc_value_18 : decode prog_1_method_6_code 18 = .ok (.iload_n 1, 1) := by decide +kernel
theorem d_Lc_value_19 : decode prog_1_method_6_code 19 = .ok (.iaload, 1) := by decide +kernel
theorem d_Lc_value_20 : decode prog_1_method_6_code 20 = .ok (.goto 4, 3) := by decide +kernel
theorem d_Lc_value_23 : decode prog_1_method_6_code 23 = .ok (.iconst (-1), 1) := by decide +kernel
theorem d_Lc_value_24 : decode prog_1_method_6_code 24 = .ok (.ireturn, 1) := by decide +kernel
abbrev y_Lc_value : MethodName := ⟨"LoadCycles", "value", "(I)I"⟩
theorem mi_Lc_value : miV y_Lc_value prog_1_method_6_code 2 (some .int) 1 := ⟨wd_395, wd_396, wd_65, wd_397, by decide, by decide, by decide +kernel⟩
def w_Lc_value (x1 : Int32) (σ : Sg) (K : Int32 → Prop) : Prop :=
  w_Ho_hasTime 1 x1 σ (fun u5 => ((u5 = 0 → K (-1 : Int32)) ∧ (¬ u5 = 0 → (vp_in x1 20 ∧ K (σ 5 x1.toNatClampNeg)))))
set_option maxHeartbeats 4000000 in
theorem m_Lc_value {Y : Yx} {x1 : Int32} {σ : Sg} {K : Int32 → Prop} (hY : YD Y)  (h : w_Lc_value x1 σ K) : MetI Y y_Lc_value prog_1_method_6_code 2 (.int) 1 21 [.ref (ya Y 0), .int x1] σ (fun r τ => τ = σ ∧ K r) := by
  refine met_I [(0, .ref (ya Y 0)), (1, .int x1)] hY (by decide) (Nat.le_of_ble_eq_true rfl) rfl (fun X C hr => ?_)
  unfold w_Lc_value at h
  refine q_aload_n (pc := 0) C d_Lc_value_0 rfl 0 rfl ?_
  refine q_get (pc := 1) (c := 0) (ci := 6) (k := 0) (v := .ref (ya Y 1)) C rfl (by decide) (by decide) wd_230 rfl d_Lc_value_1 ?_
  refine q_iload_n (pc := 4) C d_Lc_value_4 rfl 1 rfl ?_
  refine q_callVIr (pc := 5) (st := []) (d := 1) C (m_Ho_hasTime hY rfl h) mi_Ho_hasTime rfl (by decide) rfl wd_398 rfl rfl (Nat.le_of_ble_eq_true rfl) (by decide) (by decide) d_Lc_value_5 (fun u5 h => ?_)
  obtain ⟨h2, h3⟩ := h
  refine q_if_eq (pc := 8) 23 C d_Lc_value_8 (by decide) (fun hc => ?_) (fun hc => ?_)
  · have h := h2 hc
    refine q_iconst (pc := 23) (v := -1) C d_Lc_value_23 (by decide) ?_
    exact q_iret (pc := 24) C hr d_Lc_value_24 ⟨rfl, h⟩
  have h := h3 hc
  refine q_aload_n (pc := 11) C d_Lc_value_11 rfl 0 rfl ?_
  refine q_get (pc := 12) (c := 0) (ci := 6) (k := 0) (v := .ref (ya Y 1)) C rfl (by decide) (by decide) wd_230 rfl d_Lc_value_12 ?_
  refine q_get (pc := 15) (c := 1) (ci := 2) (k := 3) (v := .ref (ya Y 5)) C rfl (by decide) (by decide) wd_98 rfl d_Lc_value_15 ?_
  refine q_iload_n (pc := 18) C d_Lc_value_18 rfl 1 rfl ?_
  obtain ⟨h1, h⟩ := h
  refine q_iald (pc := 19) (c := 5) C ⟨rfl, rfl⟩ h1 d_Lc_value_19 ?_
  refine q_goto (pc := 20) 24 C d_Lc_value_20 (by decide) ?_
  exact q_iret (pc := 24) C hr d_Lc_value_24 ⟨rfl, h⟩
theorem d_Lc_isMeterValue_0 : decode prog_1_method_37_code 0 = .ok (.iload_n 0, 1) := by decide +kernel
theorem d_Lc_isMeterValue_1 : decode prog_1_method_37_code 1 = .ok (.ifCond .lt 13, 3) := by decide +kernel
theorem d_Lc_isMeterValue_4 : decode prog_1_method_37_code 4 = .ok (.iload_n 0, 1) := by decide +kernel
theorem d_Lc_isMeterValue_5 : decode prog_1_method_37_code 5 = .ok (.bipush 99, 2) := by decide +kernel
theorem d_Lc_isMeterValue_7 : decode prog_1_method_37_code 7 = .ok (.if_icmp .gt 7, 3) := by decide +kernel
theorem d_Lc_isMeterValue_10 : decode prog_1_method_37_code 10 = .ok (.iconst 1, 1) := by decide +kernel
theorem d_Lc_isMeterValue_11 : decode prog_1_method_37_code 11 = .ok (.goto 4, 3) := by decide +kernel
theorem d_Lc_isMeterValue_14 : decode prog_1_method_37_code 14 = .ok (.iconst 0, 1) := by decide +kernel
theorem d_Lc_isMeterValue_15 : decode prog_1_method_37_code 15 = .ok (.ireturn, 1) := by decide +kernel
abbrev y_Lc_isMeterValue : MethodName := ⟨"LoadCycles", "isMeterValue", "(I)Z"⟩
theorem mi_Lc_isMeterValue : miS y_Lc_isMeterValue prog_1_method_37_code 1 (some .boolean) 1 := ⟨wd_407, wd_65, wd_408, by decide, by decide, by decide +kernel⟩
def w_Lc_isMeterValue (x0 : Int32) (σ : Sg) (K : Int32 → Prop) : Prop :=
  ((x0 < 0 → K (0 : Int32)) ∧ (¬ x0 < 0 → (((99 : Int32) < x0 → K (0 : Int32)) ∧ (¬ (99 : Int32) < x0 → K (1 : Int32)))))
set_option maxHeartbeats 4000000 in
theorem m_Lc_isMeterValue {Y : Yx} {x0 : Int32} {σ : Sg} {K : Int32 → Prop} (hY : YD Y)  (h : w_Lc_isMeterValue x0 σ K) : MetI Y y_Lc_isMeterValue prog_1_method_37_code 1 (.boolean) 0 0 [.int x0] σ (fun r τ => τ = σ ∧ K r) := by
  refine met_I [(0, .int x0)] hY (by decide) (Nat.le_of_ble_eq_true rfl) rfl (fun X C hr => ?_)
  unfold w_Lc_isMeterValue at h
  refine q_iload_n (pc := 0) C d_Lc_isMeterValue_0 rfl 0 rfl ?_
  obtain ⟨h3, h4⟩ := h
  refine q_if_lt (pc := 1) 14 C d_Lc_isMeterValue_1 (by decide) (fun hc => ?_) (fun hc => ?_)
  · have h := h3 hc
    refine q_iconst (pc := 14) (v := 0) C d_Lc_isMeterValue_14 (by decide) ?_
    exact q_zret (pc := 15) C hr d_Lc_isMeterValue_15 bz0 ⟨rfl, h⟩
  have h := h4 hc
  refine q_iload_n (pc := 4) C d_Lc_isMeterValue_4 rfl 0 rfl ?_
  refine q_bipush (pc := 5) (v := 99) C d_Lc_isMeterValue_5 (by decide) ?_
  obtain ⟨h1, h2⟩ := h
  refine q_icmp_gt (pc := 7) 14 C d_Lc_isMeterValue_7 (by decide) (fun hc => ?_) (fun hc => ?_)
  · have h := h1 hc
    refine q_iconst (pc := 14) (v := 0) C d_Lc_isMeterValue_14 (by decide) ?_
    exact q_zret (pc := 15) C hr d_Lc_isMeterValue_15 bz0 ⟨rfl, h⟩
  have h := h2 hc
  refine q_iconst (pc := 10) (v := 1) C d_Lc_isMeterValue_10 (by decide) ?_
  refine q_goto (pc := 11) 15 C d_Lc_isMeterValue_11 (by decide) ?_
  exact q_zret (pc := 15) C hr d_Lc_isMeterValue_15 bz1 ⟨rfl, h⟩
theorem d_Ho_allowsBase_0 : decode prog_4_method_16_code 0 = .ok (.iconst 0, 1) := by decide +kernel
theorem d_Ho_allowsBase_1 : decode prog_4_method_16_code 1 = .ok (.istore_n 2, 1) := by decide +kernel
theorem d_Ho_allowsBase_2 : decode prog_4_method_16_code 2 = .ok (.iload_n 2, 1) := by decide +kernel
theorem d_Ho_allowsBase_3 : decode prog_4_method_16_code 3 = .ok (.aload_n 0, 1) := by decide +kernel
theorem d_Ho_allowsBase_4 : decode prog_4_method_16_code 4 = .ok (.getfield 34, 3) := by decide +kernel
theorem d_Ho_allowsBase_7 : decode prog_4_method_16_code 7 = .ok (.if_icmp .ge 21, 3) := by decide +kernel
theorem d_Ho_allowsBase_10 : decode prog_4_method_16_code 10 = .ok (.aload_n 0, 1) := by decide +kernel
theorem d_Ho_allowsBase_11 : decode prog_4_method_16_code 11 = .ok (.getfield 21, 3) := by decide +kernel
theorem d_Ho_allowsBase_14 : decode prog_4_method_16_code 14 = .ok (.iload_n 2, 1) := by decide +kernel
theorem d_Ho_allowsBase_15 : decode prog_4_method_16_code 15 = .ok (.iaload, 1) := by decide +kernel
theorem d_Ho_allowsBase_16 : decode prog_4_method_16_code 16 = .ok (.iload_n 1, 1) := by decide +kernel
theorem d_Ho_allowsBase_17 : decode prog_4_method_16_code 17 = .ok (.if_icmp .ge 5, 3) := by decide +kernel
theorem d_Ho_allowsBase_20 : decode prog_4_method_16_code 20 = .ok (.iconst 0, 1) := by decide +kernel
theorem d_Ho_allowsBase_21 : decode prog_4_method_16_code 21 = .ok (.ireturn, 1) := by decide +kernel
theorem d_Ho_allowsBase_22 : decode prog_4_method_16_code 22 = .ok (.iinc 2 1, 3) := by decide +kernel
theorem d_Ho_allowsBase_25 : decode prog_4_method_16_code 25 = .ok (.goto (-23), 3) := by decide +kernel
theorem d_Ho_allowsBase_28 : decode prog_4_method_16_code 28 = .ok (.iconst 1, 1) := by decide +kernel
theorem d_Ho_allowsBase_29 : decode prog_4_method_16_code 29 = .ok (.ireturn, 1) := by decide +kernel
abbrev y_Ho_allowsBase : MethodName := ⟨"LoadCycles$House", "allowsBase", "(I)Z"⟩
theorem mi_Ho_allowsBase : miV y_Ho_allowsBase prog_4_method_16_code 3 (some .boolean) 1 := ⟨wd_410, wd_411, wd_66, wd_412, by decide, by decide, by decide +kernel⟩
def L_Ho_allowsBase_2 (o : Nat) (x1 : Int32) (σ : Sg) (K : Int32 → Prop) : Nat → Int32 → Prop
  | 0, _ => False
  | n + 1, v2 =>
    (((σ o 5) ≤ v2 → K (1 : Int32)) ∧ (¬ (σ o 5) ≤ v2 → (vp_in v2 20 ∧ ((x1 ≤ (σ (o + 4) v2.toNatClampNeg) → L_Ho_allowsBase_2 o x1 σ K n (v2 + (1 : Int32))) ∧ (¬ x1 ≤ (σ (o + 4) v2.toNatClampNeg) → K (0 : Int32))))))
theorem t_Ho_allowsBase_2 {X : Bx} {Y : Yx} {o : Nat} {x1 : Int32} {σ : Sg} {K : Int32 → Prop}  (hY : YD Y) (C : Cx X Y prog_4_method_16_code 3 "LoadCycles$House" 0 0) (hr : (xh X).sig.returnType = some .boolean) (ho : kd o = 2) : ∀ (n : Nat) (v2 : Int32), L_Ho_allowsBase_2 o x1 σ K n v2 → St X Y 3 (QI X Y (fun r τ => τ = σ ∧ K r)) 2 [(0, .ref (ya Y o)), (1, .int x1), (2, .int v2)] [] σ := by
  intro n
  induction n with
  | zero => intro v2 h; exact h.elim
  | succ n ih =>
    intro v2 h
    unfold L_Ho_allowsBase_2 at h
    refine q_iload_n (pc := 2) C d_Ho_allowsBase_2 rfl 2 rfl ?_
    refine q_aload_n (pc := 3) C d_Ho_allowsBase_3 rfl 0 rfl ?_
    refine q_get (pc := 4) (c := o) (ci := 2) (k := 5) (v := .int (σ o 5)) C ho (by decide) (by decide) wd_105 rfl d_Ho_allowsBase_4 ?_
    obtain ⟨h4, h5⟩ := h
    refine q_icmp_ge (pc := 7) 28 C d_Ho_allowsBase_7 (by decide) (fun hc => ?_) (fun hc => ?_)
    · have h := h4 hc
      refine q_iconst (pc := 28) (v := 1) C d_Ho_allowsBase_28 (by decide) ?_
      exact q_zret (pc := 29) C hr d_Ho_allowsBase_29 bz1 ⟨rfl, h⟩
    have h := h5 hc
    refine q_aload_n (pc := 10) C d_Ho_allowsBase_10 rfl 0 rfl ?_
    refine q_get (pc := 11) (c := o) (ci := 2) (k := 3) (v := .ref (ya Y (o + 4))) C ho (by decide) (by decide) wd_97 rfl d_Ho_allowsBase_11 ?_
    refine q_iload_n (pc := 14) C d_Ho_allowsBase_14 rfl 2 rfl ?_
    obtain ⟨h1, h⟩ := h
    refine q_iald (pc := 15) (c := (o + 4)) C (k2_4 ho) h1 d_Ho_allowsBase_15 ?_
    refine q_iload_n (pc := 16) C d_Ho_allowsBase_16 rfl 1 rfl ?_
    obtain ⟨h2, h3⟩ := h
    refine q_icmp_ge (pc := 17) 22 C d_Ho_allowsBase_17 (by decide) (fun hc => ?_) (fun hc => ?_)
    · have h := h2 hc
      refine q_iinc (pc := 22) (v2 + (1 : Int32)) [(2, .int (v2 + (1 : Int32))), (0, .ref (ya Y o)), (1, .int x1)] C d_Ho_allowsBase_22 2 rfl rfl (by decide) rfl ?_
      refine q_goto (pc := 25) 2 C d_Ho_allowsBase_25 (by decide) ?_
      refine q_sub [(0, .ref (ya Y o)), (1, .int x1), (2, .int (v2 + (1 : Int32)))] [1, 2, 0] rfl ?_
      exact ih (v2 + (1 : Int32)) h
    have h := h3 hc
    refine q_iconst (pc := 20) (v := 0) C d_Ho_allowsBase_20 (by decide) ?_
    exact q_zret (pc := 21) C hr d_Ho_allowsBase_21 bz0 ⟨rfl, h⟩
def w_Ho_allowsBase (o : Nat) (x1 : Int32) (σ : Sg) (K : Int32 → Prop) : Prop :=
  (∃ n6 : Nat, L_Ho_allowsBase_2 o x1 σ K n6 (0 : Int32))
set_option maxHeartbeats 4000000 in
theorem m_Ho_allowsBase {Y : Yx} {o : Nat} {x1 : Int32} {σ : Sg} {K : Int32 → Prop} (hY : YD Y) (ho : kd o = 2) (h : w_Ho_allowsBase o x1 σ K) : MetI Y y_Ho_allowsBase prog_4_method_16_code 3 (.boolean) 0 0 [.ref (ya Y o), .int x1] σ (fun r τ => τ = σ ∧ K r) := by
  refine met_I [(0, .ref (ya Y o)), (1, .int x1)] hY (by decide) (Nat.le_of_ble_eq_true rfl) rfl (fun X C hr => ?_)
  unfold w_Ho_allowsBase at h
  refine q_iconst (pc := 0) (v := 0) C d_Ho_allowsBase_0 (by decide) ?_
  refine q_istore_n (pc := 1) [(2, .int (0 : Int32)), (0, .ref (ya Y o)), (1, .int x1)] C d_Ho_allowsBase_1 rfl (by decide) rfl ?_
  obtain ⟨n6, h⟩ := h
  refine q_sub [(0, .ref (ya Y o)), (1, .int x1), (2, .int (0 : Int32))] [1, 2, 0] rfl ?_
  exact t_Ho_allowsBase_2 hY C hr ho n6 (0 : Int32) h
theorem d_Lc_base_0 : decode prog_1_method_7_code 0 = .ok (.iload_n 1, 1) := by decide +kernel
theorem d_Lc_base_1 : decode prog_1_method_7_code 1 = .ok (.invokestatic 163, 3) := by decide +kernel
theorem d_Lc_base_4 : decode prog_1_method_7_code 4 = .ok (.ifCond .ne 6, 3) := by decide +kernel
theorem d_Lc_base_7 : decode prog_1_method_7_code 7 = .ok (.bipush (-2), 2) := by decide +kernel
theorem d_Lc_base_9 : decode prog_1_method_7_code 9 = .ok (.ireturn, 1) := by decide +kernel
theorem d_Lc_base_10 : decode prog_1_method_7_code 10 = .ok (.aload_n 0, 1) := by decide +kernel
theorem d_Lc_base_11 : decode prog_1_method_7_code 11 = .ok (.invokevirtual 138, 3) := by decide +kernel
theorem d_Lc_base_14 : decode prog_1_method_7_code 14 = .ok (.ifCond .eq 14, 3) := by decide +kernel
theorem d_Lc_base_17 : decode prog_1_method_7_code 17 = .ok (.aload_n 0, 1) := by decide +kernel
theorem d_Lc_base_18 : decode prog_1_method_7_code 18 = .ok (.getfield 12, 3) := by decide +kernel
theorem d_Lc_base_21 : decode prog_1_method_7_code 21 = .ok (.iload_n 1, 1) := by decide +kernel
theorem d_Lc_base_22 : decode prog_1_method_7_code 22 = .ok (.invokevirtual 166, 3) := by decide +kernel
theorem d_Lc_base_25 : decode prog_1_method_7_code 25 = .ok (.ifCond .ne 6, 3) := by decide +kernel
theorem d_Lc_base_28 : decode prog_1_method_7_code 28 = .ok (.bipush (-3), 2) := by decide +kernel
theorem d_Lc_base_30 : decode prog_1_method_7_code 30 = .ok (.ireturn, 1) := by decide +kernel
theorem d_Lc_base_31 : decode prog_1_method_7_code 31 = .ok (.aload_n 0, 1) := by decide +kernel
theorem d_Lc_base_32 : decode prog_1_method_7_code 32 = .ok (.getfield 12, 3) := by decide +kernel
theorem d_Lc_base_35 : decode prog_1_method_7_code 35 = .ok (.getfield 145, 3) := by decide +kernel
theorem d_Lc_base_38 : decode prog_1_method_7_code 38 = .ok (.istore_n 2, 1) := by decide +kernel
theorem d_Lc_base_39 : decode prog_1_method_7_code 39 = .ok (.aload_n 0, 1) := by decide +kernel
theorem d_Lc_base_40 : decode prog_1_method_7_code 40 = .ok (.getfield 12, 3) := by decide +kernel
theorem d_Lc_base_43 : decode prog_1_method_7_code 43 = .ok (.iload_n 1, 1) := by decide +kernel
theorem d_Lc_base_44 : decode prog_1_method_7_code 44 = .ok (.putfield 145, 3) := by decide +kernel
theorem d_Lc_base_47 : decode prog_1_method_7_code 47 = .ok (.aload_n 0, 1) := by decide +kernel
theorem d_Lc_base_48 : decode prog_1_method_7_code 48 = .ok (.invokevirtual 102, 3) := by decide +kernel
theorem d_Lc_base_51 : decode prog_1_method_7_code 51 = .ok (.iload_n 2, 1) := by decide +kernel
theorem d_Lc_base_52 : decode prog_1_method_7_code 52 = .ok (.ireturn, 1) := by decide +kernel
abbrev y_Lc_base : MethodName := ⟨"LoadCycles", "base", "(I)I"⟩
theorem mi_Lc_base : miV y_Lc_base prog_1_method_7_code 3 (some .int) 1 := ⟨wd_403, wd_404, wd_65, wd_405, by decide, by decide, by decide +kernel⟩
def w_Lc_base (x1 : Int32) (σ : Sg) (K : Int32 → Sg → Prop) : Prop :=
  w_Lc_isMeterValue x1 σ (fun u1 => ((¬ u1 = 0 → w_Lc_hasHouse σ (fun u11 => ((u11 = 0 → K (-3 : Int32) σ) ∧ (¬ u11 = 0 → w_Ho_allowsBase 1 x1 σ (fun u22 => ((¬ u22 = 0 → (∀ y2_38 : Int32, y2_38 = (σ 1 6) → (∀ τ44 : Sg, τ44 = s2 σ 1 6 x1 → w_Lc_forgetBest τ44 (fun τ48 => K y2_38 τ48)))) ∧ (u22 = 0 → K (-3 : Int32) σ))))))) ∧ (u1 = 0 → K (-2 : Int32) σ)))
set_option maxHeartbeats 4000000 in
theorem m_Lc_base {Y : Yx} {x1 : Int32} {σ : Sg} {K : Int32 → Sg → Prop} (hY : YD Y)  (h : w_Lc_base x1 σ K) : MetI Y y_Lc_base prog_1_method_7_code 3 (.int) 2 41 [.ref (ya Y 0), .int x1] σ K := by
  refine met_I [(0, .ref (ya Y 0)), (1, .int x1)] hY (by decide) (Nat.le_of_ble_eq_true rfl) rfl (fun X C hr => ?_)
  unfold w_Lc_base at h
  refine q_iload_n (pc := 0) C d_Lc_base_0 rfl 1 rfl ?_
  refine q_callSIr (pc := 1) (st := []) C (m_Lc_isMeterValue hY h) mi_Lc_isMeterValue wd_406 rfl rfl (Nat.le_of_ble_eq_true rfl) (by decide) (by decide) d_Lc_base_1 (fun u1 h => ?_)
  obtain ⟨h5, h6⟩ := h
  refine q_if_ne (pc := 4) 10 C d_Lc_base_4 (by decide) (fun hc => ?_) (fun hc => ?_)
  · have h := h5 hc
    refine q_aload_n (pc := 10) C d_Lc_base_10 rfl 0 rfl ?_
    refine q_callVIr (pc := 11) (st := []) (d := 0) C (m_Lc_hasHouse hY h) mi_Lc_hasHouse rfl (by decide) rfl wd_389 rfl rfl (Nat.le_of_ble_eq_true rfl) (by decide) (by decide) d_Lc_base_11 (fun u11 h => ?_)
    obtain ⟨h3, h4⟩ := h
    refine q_if_eq (pc := 14) 28 C d_Lc_base_14 (by decide) (fun hc => ?_) (fun hc => ?_)
    · have h := h3 hc
      refine q_bipush (pc := 28) (v := -3) C d_Lc_base_28 (by decide) ?_
      exact q_iret (pc := 30) C hr d_Lc_base_30 h
    have h := h4 hc
    refine q_aload_n (pc := 17) C d_Lc_base_17 rfl 0 rfl ?_
    refine q_get (pc := 18) (c := 0) (ci := 6) (k := 0) (v := .ref (ya Y 1)) C rfl (by decide) (by decide) wd_230 rfl d_Lc_base_18 ?_
    refine q_iload_n (pc := 21) C d_Lc_base_21 rfl 1 rfl ?_
    refine q_callVIr (pc := 22) (st := []) (d := 1) C (m_Ho_allowsBase hY rfl h) mi_Ho_allowsBase rfl (by decide) rfl wd_409 rfl rfl (Nat.le_of_ble_eq_true rfl) (by decide) (by decide) d_Lc_base_22 (fun u22 h => ?_)
    obtain ⟨h1, h2⟩ := h
    refine q_if_ne (pc := 25) 31 C d_Lc_base_25 (by decide) (fun hc => ?_) (fun hc => ?_)
    · have h := h1 hc
      refine q_aload_n (pc := 31) C d_Lc_base_31 rfl 0 rfl ?_
      refine q_get (pc := 32) (c := 0) (ci := 6) (k := 0) (v := .ref (ya Y 1)) C rfl (by decide) (by decide) wd_230 rfl d_Lc_base_32 ?_
      refine q_get (pc := 35) (c := 1) (ci := 2) (k := 6) (v := .int (σ 1 6)) C rfl (by decide) (by decide) wd_110 rfl d_Lc_base_35 ?_
      refine q_nmi (fun y2_38 ey2_38 => ?_)
      replace h := h y2_38 ey2_38
      refine q_istore_n (pc := 38) [(2, .int y2_38), (0, .ref (ya Y 0)), (1, .int x1)] C d_Lc_base_38 rfl (by decide) rfl ?_
      refine q_aload_n (pc := 39) C d_Lc_base_39 rfl 1 rfl ?_
      refine q_get (pc := 40) (c := 0) (ci := 6) (k := 0) (v := .ref (ya Y 1)) C rfl (by decide) (by decide) wd_230 rfl d_Lc_base_40 ?_
      refine q_iload_n (pc := 43) C d_Lc_base_43 rfl 2 rfl ?_
      refine q_put (pc := 44) (c := 1) (ci := 2) (k := 6) C rfl (by decide) (by decide) wd_110 rfl rfl rfl fs_2_6 d_Lc_base_44 ?_
      refine q_nms (fun τ44 eτ44 => ?_)
      replace h := h τ44 eτ44
      refine q_aload_n (pc := 47) C d_Lc_base_47 rfl 1 rfl ?_
      refine q_callVV (pc := 48) (st := []) (d := 0) C (m_Lc_forgetBest hY h) mi_Lc_forgetBest rfl (by decide) rfl wd_345 rfl rfl (Nat.le_of_ble_eq_true rfl) (by decide) (by decide) d_Lc_base_48 (fun τ48 h => ?_)
      refine q_iload_n (pc := 51) C d_Lc_base_51 rfl 0 rfl ?_
      exact q_iret (pc := 52) C hr d_Lc_base_52 h
    have h := h2 hc
    refine q_bipush (pc := 28) (v := -3) C d_Lc_base_28 (by decide) ?_
    exact q_iret (pc := 30) C hr d_Lc_base_30 h
  have h := h6 hc
  refine q_bipush (pc := 7) (v := -2) C d_Lc_base_7 (by decide) ?_
  exact q_iret (pc := 9) C hr d_Lc_base_9 h
theorem d_Ho_powerIn_0 : decode prog_4_method_11_code 0 = .ok (.iload_n 2, 1) := by decide +kernel
theorem d_Ho_powerIn_1 : decode prog_4_method_11_code 1 = .ok (.ifCond .ne 7, 3) := by decide +kernel
theorem d_Ho_powerIn_4 : decode prog_4_method_11_code 4 = .ok (.iconst 0, 1) := by decide +kernel
theorem d_Ho_powerIn_5 : decode prog_4_method_11_code 5 = .ok (.goto 11, 3) := by decide +kernel
theorem d_Ho_powerIn_8 : decode prog_4_method_11_code 8 = .ok (.aload_n 0, 1) := by decide +kernel
theorem d_Ho_powerIn_9 : decode prog_4_method_11_code 9 = .ok (.iload_n 1, 1) := by decide +kernel
theorem d_Ho_powerIn_10 : decode prog_4_method_11_code 10 = .ok (.iload_n 2, 1) := by decide +kernel
theorem d_Ho_powerIn_11 : decode prog_4_method_11_code 11 = .ok (.iconst 1, 1) := by decide +kernel
theorem d_Ho_powerIn_12 : decode prog_4_method_11_code 12 = .ok (.isub, 1) := by decide +kernel
theorem d_Ho_powerIn_13 : decode prog_4_method_11_code 13 = .ok (.invokevirtual 44, 3) := by decide +kernel
theorem d_Ho_powerIn_16 : decode prog_4_method_11_code 16 = .ok (.ireturn, 1) := by decide +kernel
abbrev y_Ho_powerIn : MethodName := ⟨"LoadCycles$House", "powerIn", "(II)I"⟩
theorem mi_Ho_powerIn : miV y_Ho_powerIn prog_4_method_11_code 3 (some .int) 2 := ⟨wd_434, wd_435, wd_66, wd_436, by decide, by decide, by decide +kernel⟩
def w_Ho_powerIn (o : Nat) (x1 : Int32) (x2 : Int32) (σ : Sg) (K : Int32 → Prop) : Prop :=
  ((¬ x2 = 0 → w_Ho_powerOf o x1 (x2 - (1 : Int32)) σ (fun u13 => K u13)) ∧ (x2 = 0 → K (0 : Int32)))
set_option maxHeartbeats 4000000 in
theorem m_Ho_powerIn {Y : Yx} {o : Nat} {x1 : Int32} {x2 : Int32} {σ : Sg} {K : Int32 → Prop} (hY : YD Y) (ho : kd o = 2) (h : w_Ho_powerIn o x1 x2 σ K) : MetI Y y_Ho_powerIn prog_4_method_11_code 3 (.int) 1 23 [.ref (ya Y o), .int x1, .int x2] σ (fun r τ => τ = σ ∧ K r) := by
  refine met_I [(0, .ref (ya Y o)), (1, .int x1), (2, .int x2)] hY (by decide) (Nat.le_of_ble_eq_true rfl) rfl (fun X C hr => ?_)
  unfold w_Ho_powerIn at h
  refine q_iload_n (pc := 0) C d_Ho_powerIn_0 rfl 2 rfl ?_
  obtain ⟨h1, h2⟩ := h
  refine q_if_ne (pc := 1) 8 C d_Ho_powerIn_1 (by decide) (fun hc => ?_) (fun hc => ?_)
  · have h := h1 hc
    refine q_aload_n (pc := 8) C d_Ho_powerIn_8 rfl 0 rfl ?_
    refine q_iload_n (pc := 9) C d_Ho_powerIn_9 rfl 1 rfl ?_
    refine q_iload_n (pc := 10) C d_Ho_powerIn_10 rfl 2 rfl ?_
    refine q_iconst (pc := 11) (v := 1) C d_Ho_powerIn_11 (by decide) ?_
    refine q_isub (pc := 12) C d_Ho_powerIn_12 ?_
    refine q_callVIr (pc := 13) (st := []) (d := o) C (m_Ho_powerOf hY ho h) mi_Ho_powerOf ho (by decide) rfl wd_437 rfl rfl (Nat.le_of_ble_eq_true rfl) (by decide) (by decide) d_Ho_powerIn_13 (fun u13 h => ?_)
    exact q_iret (pc := 16) C hr d_Ho_powerIn_16 ⟨rfl, h⟩
  have h := h2 hc
  refine q_iconst (pc := 4) (v := 0) C d_Ho_powerIn_4 (by decide) ?_
  refine q_goto (pc := 5) 16 C d_Ho_powerIn_5 (by decide) ?_
  exact q_iret (pc := 16) C hr d_Ho_powerIn_16 ⟨rfl, h⟩
theorem d_Ho_stateAfter_0 : decode prog_4_method_12_code 0 = .ok (.iload_n 2, 1) := by decide +kernel
theorem d_Ho_stateAfter_1 : decode prog_4_method_12_code 1 = .ok (.aload_n 0, 1) := by decide +kernel
theorem d_Ho_stateAfter_2 : decode prog_4_method_12_code 2 = .ok (.getfield 15, 3) := by decide +kernel
theorem d_Ho_stateAfter_5 : decode prog_4_method_12_code 5 = .ok (.iload_n 1, 1) := by decide +kernel
theorem d_Ho_stateAfter_6 : decode prog_4_method_12_code 6 = .ok (.iaload, 1) := by decide +kernel
theorem d_Ho_stateAfter_7 : decode prog_4_method_12_code 7 = .ok (.if_icmp .ge 9, 3) := by decide +kernel
theorem d_Ho_stateAfter_10 : decode prog_4_method_12_code 10 = .ok (.iload_n 2, 1) := by decide +kernel
theorem d_Ho_stateAfter_11 : decode prog_4_method_12_code 11 = .ok (.iconst 1, 1) := by decide +kernel
theorem d_Ho_stateAfter_12 : decode prog_4_method_12_code 12 = .ok (.iadd, 1) := by decide +kernel
theorem d_Ho_stateAfter_13 : decode prog_4_method_12_code 13 = .ok (.goto 4, 3) := by decide +kernel
theorem d_Ho_stateAfter_16 : decode prog_4_method_12_code 16 = .ok (.iconst 0, 1) := by decide +kernel
theorem d_Ho_stateAfter_17 : decode prog_4_method_12_code 17 = .ok (.ireturn, 1) := by decide +kernel
abbrev y_Ho_stateAfter : MethodName := ⟨"LoadCycles$House", "stateAfter", "(II)I"⟩
theorem mi_Ho_stateAfter : miV y_Ho_stateAfter prog_4_method_12_code 3 (some .int) 2 := ⟨wd_439, wd_440, wd_66, wd_441, by decide, by decide, by decide +kernel⟩
def w_Ho_stateAfter (o : Nat) (x1 : Int32) (x2 : Int32) (σ : Sg) (K : Int32 → Prop) : Prop :=
  (vp_in x1 4 ∧ (((σ (o + 2) x1.toNatClampNeg) ≤ x2 → K (0 : Int32)) ∧ (¬ (σ (o + 2) x1.toNatClampNeg) ≤ x2 → K (x2 + (1 : Int32)))))
set_option maxHeartbeats 4000000 in
theorem m_Ho_stateAfter {Y : Yx} {o : Nat} {x1 : Int32} {x2 : Int32} {σ : Sg} {K : Int32 → Prop} (hY : YD Y) (ho : kd o = 2) (h : w_Ho_stateAfter o x1 x2 σ K) : MetI Y y_Ho_stateAfter prog_4_method_12_code 3 (.int) 0 0 [.ref (ya Y o), .int x1, .int x2] σ (fun r τ => τ = σ ∧ K r) := by
  refine met_I [(0, .ref (ya Y o)), (1, .int x1), (2, .int x2)] hY (by decide) (Nat.le_of_ble_eq_true rfl) rfl (fun X C hr => ?_)
  unfold w_Ho_stateAfter at h
  refine q_iload_n (pc := 0) C d_Ho_stateAfter_0 rfl 2 rfl ?_
  refine q_aload_n (pc := 1) C d_Ho_stateAfter_1 rfl 0 rfl ?_
  refine q_get (pc := 2) (c := o) (ci := 2) (k := 1) (v := .ref (ya Y (o + 2))) C ho (by decide) (by decide) wd_93 rfl d_Ho_stateAfter_2 ?_
  refine q_iload_n (pc := 5) C d_Ho_stateAfter_5 rfl 1 rfl ?_
  obtain ⟨h1, h⟩ := h
  refine q_iald (pc := 6) (c := (o + 2)) C (k2_2 ho) h1 d_Ho_stateAfter_6 ?_
  obtain ⟨h2, h3⟩ := h
  refine q_icmp_ge (pc := 7) 16 C d_Ho_stateAfter_7 (by decide) (fun hc => ?_) (fun hc => ?_)
  · have h := h2 hc
    refine q_iconst (pc := 16) (v := 0) C d_Ho_stateAfter_16 (by decide) ?_
    exact q_iret (pc := 17) C hr d_Ho_stateAfter_17 ⟨rfl, h⟩
  have h := h3 hc
  refine q_iload_n (pc := 10) C d_Ho_stateAfter_10 rfl 2 rfl ?_
  refine q_iconst (pc := 11) (v := 1) C d_Ho_stateAfter_11 (by decide) ?_
  refine q_iadd (pc := 12) C d_Ho_stateAfter_12 ?_
  refine q_goto (pc := 13) 17 C d_Ho_stateAfter_13 (by decide) ?_
  exact q_iret (pc := 17) C hr d_Ho_stateAfter_17 ⟨rfl, h⟩
theorem d_Un_repeatAfter_0 : decode prog_7_method_5_code 0 = .ok (.iload_n 1, 1) := by decide +kernel
theorem d_Un_repeatAfter_1 : decode prog_7_method_5_code 1 = .ok (.sipush 256, 3) := by decide +kernel
theorem d_Un_repeatAfter_4 : decode prog_7_method_5_code 4 = .ok (.imul, 1) := by decide +kernel
theorem d_Un_repeatAfter_5 : decode prog_7_method_5_code 5 = .ok (.istore 4, 2) := by decide +kernel
theorem d_Un_repeatAfter_7 : decode prog_7_method_5_code 7 = .ok (.iconst 0, 1) := by decide +kernel
theorem d_Un_repeatAfter_8 : decode prog_7_method_5_code 8 = .ok (.istore 5, 2) := by decide +kernel
theorem d_Un_repeatAfter_10 : decode prog_7_method_5_code 10 = .ok (.iload 5, 2) := by decide +kernel
theorem d_Un_repeatAfter_12 : decode prog_7_method_5_code 12 = .ok (.iload_n 3, 1) := by decide +kernel
theorem d_Un_repeatAfter_13 : decode prog_7_method_5_code 13 = .ok (.if_icmp .ge 33, 3) := by decide +kernel
theorem d_Un_repeatAfter_16 : decode prog_7_method_5_code 16 = .ok (.aload_n 0, 1) := by decide +kernel
theorem d_Un_repeatAfter_17 : decode prog_7_method_5_code 17 = .ok (.getfield 15, 3) := by decide +kernel
theorem d_Un_repeatAfter_20 : decode prog_7_method_5_code 20 = .ok (.iload 4, 2) := by decide +kernel
theorem d_Un_repeatAfter_22 : decode prog_7_method_5_code 22 = .ok (.iload_n 2, 1) := by decide +kernel
theorem d_Un_repeatAfter_23 : decode prog_7_method_5_code 23 = .ok (.iadd, 1) := by decide +kernel
theorem d_Un_repeatAfter_24 : decode prog_7_method_5_code 24 = .ok (.iload 5, 2) := by decide +kernel
theorem d_Un_repeatAfter_26 : decode prog_7_method_5_code 26 = .ok (.iadd, 1) := by decide +kernel
theorem d_Un_repeatAfter_27 : decode prog_7_method_5_code 27 = .ok (.iload_n 2, 1) := by decide +kernel
theorem d_Un_repeatAfter_28 : decode prog_7_method_5_code 28 = .ok (.aload_n 0, 1) := by decide +kernel
theorem d_Un_repeatAfter_29 : decode prog_7_method_5_code 29 = .ok (.getfield 15, 3) := by decide +kernel
theorem d_Un_repeatAfter_32 : decode prog_7_method_5_code 32 = .ok (.iload 4, 2) := by decide +kernel
theorem d_Un_repeatAfter_34 : decode prog_7_method_5_code 34 = .ok (.iload 5, 2) := by decide +kernel
theorem d_Un_repeatAfter_36 : decode prog_7_method_5_code 36 = .ok (.iadd, 1) := by decide +kernel
theorem d_Un_repeatAfter_37 : decode prog_7_method_5_code 37 = .ok (.iaload, 1) := by decide +kernel
theorem d_Un_repeatAfter_38 : decode prog_7_method_5_code 38 = .ok (.iadd, 1) := by decide +kernel
theorem d_Un_repeatAfter_39 : decode prog_7_method_5_code 39 = .ok (.iastore, 1) := by decide +kernel
theorem d_Un_repeatAfter_40 : decode prog_7_method_5_code 40 = .ok (.iinc 5 1, 3) := by decide +kernel
theorem d_Un_repeatAfter_43 : decode prog_7_method_5_code 43 = .ok (.goto (-33), 3) := by decide +kernel
theorem d_Un_repeatAfter_46 : decode prog_7_method_5_code 46 = .ok (.return_, 1) := by decide +kernel
abbrev y_Un_repeatAfter : MethodName := ⟨"LoadCycles$Unmixer", "repeatAfter", "(III)V"⟩
theorem mi_Un_repeatAfter : miV y_Un_repeatAfter prog_7_method_5_code 6 none 3 := ⟨wd_444, wd_11, wd_68, wd_445, by decide, by decide, by decide +kernel⟩
def L_Un_repeatAfter_10 (x1 : Int32) (x2 : Int32) (x3 : Int32) (v4 : Int32) (K : Sg → Prop) : Nat → Int32 → Sg → Prop
  | 0, _, _ => False
  | n + 1, v5, σ =>
    ((x3 ≤ v5 → K σ) ∧ (¬ x3 ≤ v5 → (vp_in (v4 + v5) 1024 ∧ (vp_in ((v4 + x2) + v5) 1024 ∧ (∀ τ39 : Sg, τ39 = s2 σ 24 ((v4 + x2) + v5).toNatClampNeg (x2 + (σ 24 (v4 + v5).toNatClampNeg)) → L_Un_repeatAfter_10 x1 x2 x3 v4 K n (v5 + (1 : Int32)) τ39)))))
theorem t_Un_repeatAfter_10 {X : Bx} {Y : Yx} {x1 : Int32} {x2 : Int32} {x3 : Int32} {v4 : Int32} {K : Sg → Prop}  (hY : YD Y) (C : Cx X Y prog_7_method_5_code 6 "LoadCycles$Unmixer" 0 0) (hr : (xh X).sig.returnType = none)  : ∀ (n : Nat) (v5 : Int32) (σ : Sg), L_Un_repeatAfter_10 x1 x2 x3 v4 K n v5 σ → St X Y 6 (QV X Y K) 10 [(0, .ref (ya Y 22)), (2, .int x2), (3, .int x3), (4, .int v4), (5, .int v5)] [] σ := by
  intro n
  induction n with
  | zero => intro v5 σ h; exact h.elim
  | succ n ih =>
    intro v5 σ h
    unfold L_Un_repeatAfter_10 at h
    refine q_iload (pc := 10) C d_Un_repeatAfter_10 4 rfl ?_
    refine q_iload_n (pc := 12) C d_Un_repeatAfter_12 rfl 2 rfl ?_
    obtain ⟨h3, h4⟩ := h
    refine q_icmp_ge (pc := 13) 46 C d_Un_repeatAfter_13 (by decide) (fun hc => ?_) (fun hc => ?_)
    · have h := h3 hc
      exact q_vret (pc := 46) C hr d_Un_repeatAfter_46 h
    have h := h4 hc
    refine q_aload_n (pc := 16) C d_Un_repeatAfter_16 rfl 0 rfl ?_
    refine q_get (pc := 17) (c := 22) (ci := 5) (k := 1) (v := .ref (ya Y 24)) C rfl (by decide) (by decide) wd_162 rfl d_Un_repeatAfter_17 ?_
    refine q_iload (pc := 20) C d_Un_repeatAfter_20 3 rfl ?_
    refine q_iload_n (pc := 22) C d_Un_repeatAfter_22 rfl 1 rfl ?_
    refine q_iadd (pc := 23) C d_Un_repeatAfter_23 ?_
    refine q_iload (pc := 24) C d_Un_repeatAfter_24 4 rfl ?_
    refine q_iadd (pc := 26) C d_Un_repeatAfter_26 ?_
    refine q_iload_n (pc := 27) C d_Un_repeatAfter_27 rfl 1 rfl ?_
    refine q_aload_n (pc := 28) C d_Un_repeatAfter_28 rfl 0 rfl ?_
    refine q_get (pc := 29) (c := 22) (ci := 5) (k := 1) (v := .ref (ya Y 24)) C rfl (by decide) (by decide) wd_162 rfl d_Un_repeatAfter_29 ?_
    refine q_iload (pc := 32) C d_Un_repeatAfter_32 3 rfl ?_
    refine q_iload (pc := 34) C d_Un_repeatAfter_34 4 rfl ?_
    refine q_iadd (pc := 36) C d_Un_repeatAfter_36 ?_
    obtain ⟨h1, h⟩ := h
    refine q_iald (pc := 37) (c := 24) C ⟨rfl, rfl⟩ h1 d_Un_repeatAfter_37 ?_
    refine q_iadd (pc := 38) C d_Un_repeatAfter_38 ?_
    obtain ⟨h2, h⟩ := h
    refine q_iast (pc := 39) (c := 24) C ⟨rfl, rfl⟩ h2 d_Un_repeatAfter_39 ?_
    refine q_nms (fun τ39 eτ39 => ?_)
    replace h := h τ39 eτ39
    refine q_iinc (pc := 40) (v5 + (1 : Int32)) [(5, .int (v5 + (1 : Int32))), (0, .ref (ya Y 22)), (2, .int x2), (3, .int x3), (4, .int v4)] C d_Un_repeatAfter_40 4 rfl rfl (by decide) rfl ?_
    refine q_goto (pc := 43) 10 C d_Un_repeatAfter_43 (by decide) ?_
    refine q_sub [(0, .ref (ya Y 22)), (2, .int x2), (3, .int x3), (4, .int v4), (5, .int (v5 + (1 : Int32)))] [1, 2, 3, 4, 0] rfl ?_
    exact ih (v5 + (1 : Int32)) τ39 h
def w_Un_repeatAfter (x1 : Int32) (x2 : Int32) (x3 : Int32) (σ : Sg) (K : Sg → Prop) : Prop :=
  (∀ y4_5 : Int32, y4_5 = (x1 * (256 : Int32)) → (∃ n5 : Nat, L_Un_repeatAfter_10 x1 x2 x3 y4_5 K n5 (0 : Int32) σ))
set_option maxHeartbeats 4000000 in
theorem m_Un_repeatAfter {Y : Yx} {x1 : Int32} {x2 : Int32} {x3 : Int32} {σ : Sg} {K : Sg → Prop} (hY : YD Y)  (h : w_Un_repeatAfter x1 x2 x3 σ K) : MetV Y y_Un_repeatAfter prog_7_method_5_code 6 0 0 [.ref (ya Y 22), .int x1, .int x2, .int x3] σ K := by
  refine met_V [(0, .ref (ya Y 22)), (1, .int x1), (2, .int x2), (3, .int x3)] hY (by decide) (Nat.le_of_ble_eq_true rfl) rfl (fun X C hr => ?_)
  unfold w_Un_repeatAfter at h
  refine q_iload_n (pc := 0) C d_Un_repeatAfter_0 rfl 1 rfl ?_
  refine q_sipush (pc := 1) (v := 256) C d_Un_repeatAfter_1 (by decide) ?_
  refine q_imul (pc := 4) C d_Un_repeatAfter_4 ?_
  refine q_nmi (fun y4_5 ey4_5 => ?_)
  replace h := h y4_5 ey4_5
  refine q_istore (pc := 5) [(4, .int y4_5), (0, .ref (ya Y 22)), (1, .int x1), (2, .int x2), (3, .int x3)] C d_Un_repeatAfter_5 (by decide) rfl ?_
  refine q_iconst (pc := 7) (v := 0) C d_Un_repeatAfter_7 (by decide) ?_
  refine q_istore (pc := 8) [(5, .int (0 : Int32)), (4, .int y4_5), (0, .ref (ya Y 22)), (1, .int x1), (2, .int x2), (3, .int x3)] C d_Un_repeatAfter_8 (by decide) rfl ?_
  obtain ⟨n5, h⟩ := h
  refine q_sub [(0, .ref (ya Y 22)), (2, .int x2), (3, .int x3), (4, .int y4_5), (5, .int (0 : Int32))] [2, 4, 5, 1, 0] rfl ?_
  exact t_Un_repeatAfter_10 hY C hr n5 (0 : Int32) σ h
theorem d_Un_listWith_0 : decode prog_7_method_4_code 0 = .ok (.aload_n 0, 1) := by decide +kernel
theorem d_Un_listWith_1 : decode prog_7_method_4_code 1 = .ok (.getfield 59, 3) := by decide +kernel
theorem d_Un_listWith_4 : decode prog_7_method_4_code 4 = .ok (.istore_n 3, 1) := by decide +kernel
theorem d_Un_listWith_5 : decode prog_7_method_4_code 5 = .ok (.iconst 0, 1) := by decide +kernel
theorem d_Un_listWith_6 : decode prog_7_method_4_code 6 = .ok (.istore 4, 2) := by decide +kernel
theorem d_Un_listWith_8 : decode prog_7_method_4_code 8 = .ok (.iload 4, 2) := by decide +kernel
theorem d_Un_listWith_10 : decode prog_7_method_4_code 10 = .ok (.aload_n 1, 1) := by decide +kernel
theorem d_Un_listWith_11 : decode prog_7_method_4_code 11 = .ok (.getfield 66, 3) := by decide +kernel
theorem d_Un_listWith_14 : decode prog_7_method_4_code 14 = .ok (.iload_n 2, 1) := by decide +kernel
theorem d_Un_listWith_15 : decode prog_7_method_4_code 15 = .ok (.iaload, 1) := by decide +kernel
theorem d_Un_listWith_16 : decode prog_7_method_4_code 16 = .ok (.if_icmp .gt 120, 3) := by decide +kernel
theorem d_Un_listWith_19 : decode prog_7_method_4_code 19 = .ok (.aload_n 1, 1) := by decide +kernel
theorem d_Un_listWith_20 : decode prog_7_method_4_code 20 = .ok (.iload_n 2, 1) := by decide +kernel
theorem d_Un_listWith_21 : decode prog_7_method_4_code 21 = .ok (.iload 4, 2) := by decide +kernel
theorem d_Un_listWith_23 : decode prog_7_method_4_code 23 = .ok (.invokevirtual 69, 3) := by decide +kernel
theorem d_Un_listWith_26 : decode prog_7_method_4_code 26 = .ok (.istore 5, 2) := by decide +kernel
theorem d_Un_listWith_28 : decode prog_7_method_4_code 28 = .ok (.iload 4, 2) := by decide +kernel
theorem d_Un_listWith_30 : decode prog_7_method_4_code 30 = .ok (.iload_n 3, 1) := by decide +kernel
theorem d_Un_listWith_31 : decode prog_7_method_4_code 31 = .ok (.imul, 1) := by decide +kernel
theorem d_Un_listWith_32 : decode prog_7_method_4_code 32 = .ok (.istore 6, 2) := by decide +kernel
theorem d_Un_listWith_34 : decode prog_7_method_4_code 34 = .ok (.aload_n 1, 1) := by decide +kernel
theorem d_Un_listWith_35 : decode prog_7_method_4_code 35 = .ok (.iload_n 2, 1) := by decide +kernel
theorem d_Un_listWith_36 : decode prog_7_method_4_code 36 = .ok (.iload 4, 2) := by decide +kernel
theorem d_Un_listWith_38 : decode prog_7_method_4_code 38 = .ok (.invokevirtual 73, 3) := by decide +kernel
theorem d_Un_listWith_41 : decode prog_7_method_4_code 41 = .ok (.iload_n 3, 1) := by decide +kernel
theorem d_Un_listWith_42 : decode prog_7_method_4_code 42 = .ok (.imul, 1) := by decide +kernel
theorem d_Un_listWith_43 : decode prog_7_method_4_code 43 = .ok (.istore 7, 2) := by decide +kernel
theorem d_Un_listWith_45 : decode prog_7_method_4_code 45 = .ok (.iconst 0, 1) := by decide +kernel
theorem d_Un_listWith_46 : decode prog_7_method_4_code 46 = .ok (.istore 8, 2) := by decide +kernel
theorem d_Un_listWith_48 : decode prog_7_method_4_code 48 = .ok (.iload 8, 2) := by decide +kernel
theorem d_Un_listWith_50 : decode prog_7_method_4_code 50 = .ok (.iload_n 3, 1) := by decide +kernel
theorem d_Un_listWith_51 : decode prog_7_method_4_code 51 = .ok (.if_icmp .ge 50, 3) := by decide +kernel
theorem d_Un_listWith_54 : decode prog_7_method_4_code 54 = .ok (.aload_n 0, 1) := by decide +kernel
theorem d_Un_listWith_55 : decode prog_7_method_4_code 55 = .ok (.getfield 9, 3) := by decide +kernel
theorem d_Un_listWith_58 : decode prog_7_method_4_code 58 = .ok (.iload 6, 2) := by decide +kernel
theorem d_Un_listWith_60 : decode prog_7_method_4_code 60 = .ok (.iload 8, 2) := by decide +kernel
theorem d_Un_listWith_62 : decode prog_7_method_4_code 62 = .ok (.iadd, 1) := by decide +kernel
theorem d_Un_listWith_63 : decode prog_7_method_4_code 63 = .ok (.aload_n 0, 1) := by decide +kernel
theorem d_Un_listWith_64 : decode prog_7_method_4_code 64 = .ok (.getfield 9, 3) := by decide +kernel
theorem d_Un_listWith_67 : decode prog_7_method_4_code 67 = .ok (.iload 8, 2) := by decide +kernel
theorem d_Un_listWith_69 : decode prog_7_method_4_code 69 = .ok (.iaload, 1) := by decide +kernel
theorem d_Un_listWith_70 : decode prog_7_method_4_code 70 = .ok (.iload 5, 2) := by decide +kernel
theorem d_Un_listWith_72 : decode prog_7_method_4_code 72 = .ok (.iadd, 1) := by decide +kernel
theorem d_Un_listWith_73 : decode prog_7_method_4_code 73 = .ok (.iastore, 1) := by decide +kernel
theorem d_Un_listWith_74 : decode prog_7_method_4_code 74 = .ok (.aload_n 0, 1) := by decide +kernel
theorem d_Un_listWith_75 : decode prog_7_method_4_code 75 = .ok (.getfield 15, 3) := by decide +kernel
theorem d_Un_listWith_78 : decode prog_7_method_4_code 78 = .ok (.iload_n 2, 1) := by decide +kernel
theorem d_Un_listWith_79 : decode prog_7_method_4_code 79 = .ok (.sipush 256, 3) := by decide +kernel
theorem d_Un_listWith_82 : decode prog_7_method_4_code 82 = .ok (.imul, 1) := by decide +kernel
theorem d_Un_listWith_83 : decode prog_7_method_4_code 83 = .ok (.iload 6, 2) := by decide +kernel
theorem d_Un_listWith_85 : decode prog_7_method_4_code 85 = .ok (.iadd, 1) := by decide +kernel
theorem d_Un_listWith_86 : decode prog_7_method_4_code 86 = .ok (.iload 8, 2) := by decide +kernel
theorem d_Un_listWith_88 : decode prog_7_method_4_code 88 = .ok (.iadd, 1) := by decide +kernel
theorem d_Un_listWith_89 : decode prog_7_method_4_code 89 = .ok (.iload 7, 2) := by decide +kernel
theorem d_Un_listWith_91 : decode prog_7_method_4_code 91 = .ok (.iload 8, 2) := by decide +kernel
theorem d_Un_listWith_93 : decode prog_7_method_4_code 93 = .ok (.iadd, 1) := by decide +kernel
theorem d_Un_listWith_94 : decode prog_7_method_4_code 94 = .ok (.iastore, 1) := by decide +kernel
theorem d_Un_listWith_95 : decode prog_7_method_4_code 95 = .ok (.iinc 8 1, 3) := by decide +kernel
theorem d_Un_listWith_98 : decode prog_7_method_4_code 98 = .ok (.goto (-50), 3) := by decide +kernel
theorem d_Un_listWith_101 : decode prog_7_method_4_code 101 = .ok (.iload_n 2, 1) := by decide +kernel
theorem d_Un_listWith_102 : decode prog_7_method_4_code 102 = .ok (.iconst 1, 1) := by decide +kernel
theorem d_Un_listWith_103 : decode prog_7_method_4_code 103 = .ok (.iadd, 1) := by decide +kernel
theorem d_Un_listWith_104 : decode prog_7_method_4_code 104 = .ok (.istore 8, 2) := by decide +kernel
theorem d_Un_listWith_106 : decode prog_7_method_4_code 106 = .ok (.iload 8, 2) := by decide +kernel
theorem d_Un_listWith_108 : decode prog_7_method_4_code 108 = .ok (.aload_n 1, 1) := by decide +kernel
theorem d_Un_listWith_109 : decode prog_7_method_4_code 109 = .ok (.getfield 52, 3) := by decide +kernel
theorem d_Un_listWith_112 : decode prog_7_method_4_code 112 = .ok (.if_icmp .ge 18, 3) := by decide +kernel
theorem d_Un_listWith_115 : decode prog_7_method_4_code 115 = .ok (.aload_n 0, 1) := by decide +kernel
theorem d_Un_listWith_116 : decode prog_7_method_4_code 116 = .ok (.iload 8, 2) := by decide +kernel
theorem d_Un_listWith_118 : decode prog_7_method_4_code 118 = .ok (.iload 6, 2) := by decide +kernel
theorem d_Un_listWith_120 : decode prog_7_method_4_code 120 = .ok (.iload_n 3, 1) := by decide +kernel
theorem d_Un_listWith_121 : decode prog_7_method_4_code 121 = .ok (.invokevirtual 76, 3) := by decide +kernel
theorem d_Un_listWith_124 : decode prog_7_method_4_code 124 = .ok (.iinc 8 1, 3) := by decide +kernel
theorem d_Un_listWith_127 : decode prog_7_method_4_code 127 = .ok (.goto (-21), 3) := by decide +kernel
theorem d_Un_listWith_130 : decode prog_7_method_4_code 130 = .ok (.iinc 4 1, 3) := by decide +kernel
theorem d_Un_listWith_133 : decode prog_7_method_4_code 133 = .ok (.goto (-125), 3) := by decide +kernel
theorem d_Un_listWith_136 : decode prog_7_method_4_code 136 = .ok (.aload_n 0, 1) := by decide +kernel
theorem d_Un_listWith_137 : decode prog_7_method_4_code 137 = .ok (.iload_n 3, 1) := by decide +kernel
theorem d_Un_listWith_138 : decode prog_7_method_4_code 138 = .ok (.aload_n 1, 1) := by decide +kernel
theorem d_Un_listWith_139 : decode prog_7_method_4_code 139 = .ok (.getfield 66, 3) := by decide +kernel
theorem d_Un_listWith_142 : decode prog_7_method_4_code 142 = .ok (.iload_n 2, 1) := by decide +kernel
theorem d_Un_listWith_143 : decode prog_7_method_4_code 143 = .ok (.iaload, 1) := by decide +kernel
theorem d_Un_listWith_144 : decode prog_7_method_4_code 144 = .ok (.iconst 1, 1) := by decide +kernel
theorem d_Un_listWith_145 : decode prog_7_method_4_code 145 = .ok (.iadd, 1) := by decide +kernel
theorem d_Un_listWith_146 : decode prog_7_method_4_code 146 = .ok (.imul, 1) := by decide +kernel
theorem d_Un_listWith_147 : decode prog_7_method_4_code 147 = .ok (.putfield 59, 3) := by decide +kernel
theorem d_Un_listWith_150 : decode prog_7_method_4_code 150 = .ok (.return_, 1) := by decide +kernel
abbrev y_Un_listWith : MethodName := ⟨"LoadCycles$Unmixer", "listWith", "(LLoadCycles$House;I)V"⟩
theorem mi_Un_listWith : miV y_Un_listWith prog_7_method_4_code 9 none 2 := ⟨wd_431, wd_10, wd_68, wd_432, by decide, by decide, by decide +kernel⟩
def L_Un_listWith_106 (o1 : Nat) (x2 : Int32) (v3 : Int32) (v4 : Int32) (v6 : Int32) (K : Sg → Prop) (r8 : Int32 → Sg → Prop) : Nat → Int32 → Sg → Prop
  | 0, _, _ => False
  | n + 1, v8, σ =>
    (((σ o1 4) ≤ v8 → r8 (v4 + (1 : Int32)) σ) ∧ (¬ (σ o1 4) ≤ v8 → w_Un_repeatAfter v8 v6 v3 σ (fun τ121 => L_Un_listWith_106 o1 x2 v3 v4 v6 K r8 n (v8 + (1 : Int32)) τ121)))
theorem t_Un_listWith_106 {X : Bx} {Y : Yx} {o1 : Nat} {x2 : Int32} {v3 : Int32} {v4 : Int32} {v6 : Int32} {K : Sg → Prop} {r8 : Int32 → Sg → Prop} (hY : YD Y) (C : Cx X Y prog_7_method_4_code 9 "LoadCycles$Unmixer" 2 45) (hr : (xh X).sig.returnType = none) (ho1 : kd o1 = 2) (H8 : ∀ (v4 : Int32) (σ : Sg), r8 v4 σ → St X Y 9 (QV X Y K) 8 [(0, .ref (ya Y 22)), (1, .ref (ya Y o1)), (2, .int x2), (3, .int v3), (4, .int v4)] [] σ) : ∀ (n : Nat) (v8 : Int32) (σ : Sg), L_Un_listWith_106 o1 x2 v3 v4 v6 K r8 n v8 σ → St X Y 9 (QV X Y K) 106 [(0, .ref (ya Y 22)), (1, .ref (ya Y o1)), (2, .int x2), (3, .int v3), (4, .int v4), (6, .int v6), (8, .int v8)] [] σ := by
  intro n
  induction n with
  | zero => intro v8 σ h; exact h.elim
  | succ n ih =>
    intro v8 σ h
    unfold L_Un_listWith_106 at h
    refine q_iload (pc := 106) C d_Un_listWith_106 6 rfl ?_
    refine q_aload_n (pc := 108) C d_Un_listWith_108 rfl 1 rfl ?_
    refine q_get (pc := 109) (c := o1) (ci := 2) (k := 4) (v := .int (σ o1 4)) C ho1 (by decide) (by decide) wd_101 rfl d_Un_listWith_109 ?_
    obtain ⟨h3, h4⟩ := h
    refine q_icmp_ge (pc := 112) 130 C d_Un_listWith_112 (by decide) (fun hc => ?_) (fun hc => ?_)
    · have h := h3 hc
      refine q_iinc (pc := 130) (v4 + (1 : Int32)) [(4, .int (v4 + (1 : Int32))), (0, .ref (ya Y 22)), (1, .ref (ya Y o1)), (2, .int x2), (3, .int v3), (6, .int v6), (8, .int v8)] C d_Un_listWith_130 4 rfl rfl (by decide) rfl ?_
      refine q_goto (pc := 133) 8 C d_Un_listWith_133 (by decide) ?_
      refine q_sub [(0, .ref (ya Y 22)), (1, .ref (ya Y o1)), (2, .int x2), (3, .int v3), (4, .int (v4 + (1 : Int32)))] [1, 2, 3, 4, 0] rfl ?_
      exact H8 (v4 + (1 : Int32)) σ h
    have h := h4 hc
    refine q_aload_n (pc := 115) C d_Un_listWith_115 rfl 0 rfl ?_
    refine q_iload (pc := 116) C d_Un_listWith_116 6 rfl ?_
    refine q_iload (pc := 118) C d_Un_listWith_118 5 rfl ?_
    refine q_iload_n (pc := 120) C d_Un_listWith_120 rfl 3 rfl ?_
    refine q_callVV (pc := 121) (st := []) (d := 22) C (m_Un_repeatAfter hY h) mi_Un_repeatAfter rfl (by decide) rfl wd_442 rfl rfl (Nat.le_of_ble_eq_true rfl) (by decide) (by decide) d_Un_listWith_121 (fun τ121 h => ?_)
    refine q_iinc (pc := 124) (v8 + (1 : Int32)) [(8, .int (v8 + (1 : Int32))), (0, .ref (ya Y 22)), (1, .ref (ya Y o1)), (2, .int x2), (3, .int v3), (4, .int v4), (6, .int v6)] C d_Un_listWith_124 6 rfl rfl (by decide) rfl ?_
    refine q_goto (pc := 127) 106 C d_Un_listWith_127 (by decide) ?_
    refine q_sub [(0, .ref (ya Y 22)), (1, .ref (ya Y o1)), (2, .int x2), (3, .int v3), (4, .int v4), (6, .int v6), (8, .int (v8 + (1 : Int32)))] [1, 2, 3, 4, 5, 6, 0] rfl ?_
    exact ih (v8 + (1 : Int32)) τ121 h
def L_Un_listWith_48 (o1 : Nat) (x2 : Int32) (v3 : Int32) (v4 : Int32) (v5 : Int32) (v6 : Int32) (v7 : Int32) (K : Sg → Prop) (r8 : Int32 → Sg → Prop) : Nat → Int32 → Sg → Prop
  | 0, _, _ => False
  | n + 1, v8, σ =>
    ((v3 ≤ v8 → (∀ y8_104 : Int32, y8_104 = (x2 + (1 : Int32)) → (∃ n5 : Nat, L_Un_listWith_106 o1 x2 v3 v4 v6 K r8 n5 y8_104 σ))) ∧ (¬ v3 ≤ v8 → (vp_in v8 256 ∧ (vp_in (v6 + v8) 256 ∧ (∀ τ73 : Sg, τ73 = s2 σ 23 (v6 + v8).toNatClampNeg ((σ 23 v8.toNatClampNeg) + v5) → (vp_in (((x2 * (256 : Int32)) + v6) + v8) 1024 ∧ (∀ τ94 : Sg, τ94 = s2 τ73 24 (((x2 * (256 : Int32)) + v6) + v8).toNatClampNeg (v7 + v8) → L_Un_listWith_48 o1 x2 v3 v4 v5 v6 v7 K r8 n (v8 + (1 : Int32)) τ94)))))))
theorem t_Un_listWith_48 {X : Bx} {Y : Yx} {o1 : Nat} {x2 : Int32} {v3 : Int32} {v4 : Int32} {v5 : Int32} {v6 : Int32} {v7 : Int32} {K : Sg → Prop} {r8 : Int32 → Sg → Prop} (hY : YD Y) (C : Cx X Y prog_7_method_4_code 9 "LoadCycles$Unmixer" 2 45) (hr : (xh X).sig.returnType = none) (ho1 : kd o1 = 2) (H8 : ∀ (v4 : Int32) (σ : Sg), r8 v4 σ → St X Y 9 (QV X Y K) 8 [(0, .ref (ya Y 22)), (1, .ref (ya Y o1)), (2, .int x2), (3, .int v3), (4, .int v4)] [] σ) : ∀ (n : Nat) (v8 : Int32) (σ : Sg), L_Un_listWith_48 o1 x2 v3 v4 v5 v6 v7 K r8 n v8 σ → St X Y 9 (QV X Y K) 48 [(0, .ref (ya Y 22)), (1, .ref (ya Y o1)), (2, .int x2), (3, .int v3), (4, .int v4), (5, .int v5), (6, .int v6), (7, .int v7), (8, .int v8)] [] σ := by
  intro n
  induction n with
  | zero => intro v8 σ h; exact h.elim
  | succ n ih =>
    intro v8 σ h
    unfold L_Un_listWith_48 at h
    refine q_iload (pc := 48) C d_Un_listWith_48 8 rfl ?_
    refine q_iload_n (pc := 50) C d_Un_listWith_50 rfl 3 rfl ?_
    obtain ⟨h9, h10⟩ := h
    refine q_icmp_ge (pc := 51) 101 C d_Un_listWith_51 (by decide) (fun hc => ?_) (fun hc => ?_)
    · have h := h9 hc
      refine q_iload_n (pc := 101) C d_Un_listWith_101 rfl 2 rfl ?_
      refine q_iconst (pc := 102) (v := 1) C d_Un_listWith_102 (by decide) ?_
      refine q_iadd (pc := 103) C d_Un_listWith_103 ?_
      refine q_nmi (fun y8_104 ey8_104 => ?_)
      replace h := h y8_104 ey8_104
      refine q_istore (pc := 104) [(8, .int y8_104), (0, .ref (ya Y 22)), (1, .ref (ya Y o1)), (2, .int x2), (3, .int v3), (4, .int v4), (5, .int v5), (6, .int v6), (7, .int v7)] C d_Un_listWith_104 (by decide) rfl ?_
      obtain ⟨n5, h⟩ := h
      refine q_sub [(0, .ref (ya Y 22)), (1, .ref (ya Y o1)), (2, .int x2), (3, .int v3), (4, .int v4), (6, .int v6), (8, .int y8_104)] [1, 2, 3, 4, 5, 7, 0] rfl ?_
      exact t_Un_listWith_106 hY C hr ho1 H8 n5 y8_104 σ h
    have h := h10 hc
    refine q_aload_n (pc := 54) C d_Un_listWith_54 rfl 0 rfl ?_
    refine q_get (pc := 55) (c := 22) (ci := 5) (k := 0) (v := .ref (ya Y 23)) C rfl (by decide) (by decide) wd_161 rfl d_Un_listWith_55 ?_
    refine q_iload (pc := 58) C d_Un_listWith_58 6 rfl ?_
    refine q_iload (pc := 60) C d_Un_listWith_60 8 rfl ?_
    refine q_iadd (pc := 62) C d_Un_listWith_62 ?_
    refine q_aload_n (pc := 63) C d_Un_listWith_63 rfl 0 rfl ?_
    refine q_get (pc := 64) (c := 22) (ci := 5) (k := 0) (v := .ref (ya Y 23)) C rfl (by decide) (by decide) wd_161 rfl d_Un_listWith_64 ?_
    refine q_iload (pc := 67) C d_Un_listWith_67 8 rfl ?_
    obtain ⟨h6, h⟩ := h
    refine q_iald (pc := 69) (c := 23) C ⟨rfl, rfl⟩ h6 d_Un_listWith_69 ?_
    refine q_iload (pc := 70) C d_Un_listWith_70 5 rfl ?_
    refine q_iadd (pc := 72) C d_Un_listWith_72 ?_
    obtain ⟨h7, h⟩ := h
    refine q_iast (pc := 73) (c := 23) C ⟨rfl, rfl⟩ h7 d_Un_listWith_73 ?_
    refine q_nms (fun τ73 eτ73 => ?_)
    replace h := h τ73 eτ73
    refine q_aload_n (pc := 74) C d_Un_listWith_74 rfl 0 rfl ?_
    refine q_get (pc := 75) (c := 22) (ci := 5) (k := 1) (v := .ref (ya Y 24)) C rfl (by decide) (by decide) wd_162 rfl d_Un_listWith_75 ?_
    refine q_iload_n (pc := 78) C d_Un_listWith_78 rfl 2 rfl ?_
    refine q_sipush (pc := 79) (v := 256) C d_Un_listWith_79 (by decide) ?_
    refine q_imul (pc := 82) C d_Un_listWith_82 ?_
    refine q_iload (pc := 83) C d_Un_listWith_83 6 rfl ?_
    refine q_iadd (pc := 85) C d_Un_listWith_85 ?_
    refine q_iload (pc := 86) C d_Un_listWith_86 8 rfl ?_
    refine q_iadd (pc := 88) C d_Un_listWith_88 ?_
    refine q_iload (pc := 89) C d_Un_listWith_89 7 rfl ?_
    refine q_iload (pc := 91) C d_Un_listWith_91 8 rfl ?_
    refine q_iadd (pc := 93) C d_Un_listWith_93 ?_
    obtain ⟨h8, h⟩ := h
    refine q_iast (pc := 94) (c := 24) C ⟨rfl, rfl⟩ h8 d_Un_listWith_94 ?_
    refine q_nms (fun τ94 eτ94 => ?_)
    replace h := h τ94 eτ94
    refine q_iinc (pc := 95) (v8 + (1 : Int32)) [(8, .int (v8 + (1 : Int32))), (0, .ref (ya Y 22)), (1, .ref (ya Y o1)), (2, .int x2), (3, .int v3), (4, .int v4), (5, .int v5), (6, .int v6), (7, .int v7)] C d_Un_listWith_95 8 rfl rfl (by decide) rfl ?_
    refine q_goto (pc := 98) 48 C d_Un_listWith_98 (by decide) ?_
    refine q_sub [(0, .ref (ya Y 22)), (1, .ref (ya Y o1)), (2, .int x2), (3, .int v3), (4, .int v4), (5, .int v5), (6, .int v6), (7, .int v7), (8, .int (v8 + (1 : Int32)))] [1, 2, 3, 4, 5, 6, 7, 8, 0] rfl ?_
    exact ih (v8 + (1 : Int32)) τ94 h
def L_Un_listWith_8 (o1 : Nat) (x2 : Int32) (v3 : Int32) (K : Sg → Prop) : Nat → Int32 → Sg → Prop
  | 0, _, _ => False
  | n + 1, v4, σ =>
    (vp_in x2 4 ∧ (((σ (o1 + 2) x2.toNatClampNeg) < v4 → (vp_in x2 4 ∧ (∀ τ147 : Sg, τ147 = s2 σ 22 5 (v3 * ((σ (o1 + 2) x2.toNatClampNeg) + (1 : Int32))) → K τ147))) ∧ (¬ (σ (o1 + 2) x2.toNatClampNeg) < v4 → w_Ho_powerIn o1 x2 v4 σ (fun u23 => (∀ y6_32 : Int32, y6_32 = (v4 * v3) → w_Ho_stateAfter o1 x2 v4 σ (fun u38 => (∀ y7_43 : Int32, y7_43 = (u38 * v3) → (∃ n11 : Nat, L_Un_listWith_48 o1 x2 v3 v4 u23 y6_32 y7_43 K (fun a0 a1 => L_Un_listWith_8 o1 x2 v3 K n a0 a1) n11 (0 : Int32) σ))))))))
theorem t_Un_listWith_8 {X : Bx} {Y : Yx} {o1 : Nat} {x2 : Int32} {v3 : Int32} {K : Sg → Prop}  (hY : YD Y) (C : Cx X Y prog_7_method_4_code 9 "LoadCycles$Unmixer" 2 45) (hr : (xh X).sig.returnType = none) (ho1 : kd o1 = 2) : ∀ (n : Nat) (v4 : Int32) (σ : Sg), L_Un_listWith_8 o1 x2 v3 K n v4 σ → St X Y 9 (QV X Y K) 8 [(0, .ref (ya Y 22)), (1, .ref (ya Y o1)), (2, .int x2), (3, .int v3), (4, .int v4)] [] σ := by
  intro n
  induction n with
  | zero => intro v4 σ h; exact h.elim
  | succ n ih =>
    intro v4 σ h
    unfold L_Un_listWith_8 at h
    refine q_iload (pc := 8) C d_Un_listWith_8 4 rfl ?_
    refine q_aload_n (pc := 10) C d_Un_listWith_10 rfl 1 rfl ?_
    refine q_get (pc := 11) (c := o1) (ci := 2) (k := 1) (v := .ref (ya Y (o1 + 2))) C ho1 (by decide) (by decide) wd_95 rfl d_Un_listWith_11 ?_
    refine q_iload_n (pc := 14) C d_Un_listWith_14 rfl 2 rfl ?_
    obtain ⟨h1, h⟩ := h
    refine q_iald (pc := 15) (c := (o1 + 2)) C (k2_2 ho1) h1 d_Un_listWith_15 ?_
    obtain ⟨h12, h13⟩ := h
    refine q_icmp_gt (pc := 16) 136 C d_Un_listWith_16 (by decide) (fun hc => ?_) (fun hc => ?_)
    · have h := h12 hc
      refine q_aload_n (pc := 136) C d_Un_listWith_136 rfl 0 rfl ?_
      refine q_iload_n (pc := 137) C d_Un_listWith_137 rfl 3 rfl ?_
      refine q_aload_n (pc := 138) C d_Un_listWith_138 rfl 1 rfl ?_
      refine q_get (pc := 139) (c := o1) (ci := 2) (k := 1) (v := .ref (ya Y (o1 + 2))) C ho1 (by decide) (by decide) wd_95 rfl d_Un_listWith_139 ?_
      refine q_iload_n (pc := 142) C d_Un_listWith_142 rfl 2 rfl ?_
      obtain ⟨h2, h⟩ := h
      refine q_iald (pc := 143) (c := (o1 + 2)) C (k2_2 ho1) h2 d_Un_listWith_143 ?_
      refine q_iconst (pc := 144) (v := 1) C d_Un_listWith_144 (by decide) ?_
      refine q_iadd (pc := 145) C d_Un_listWith_145 ?_
      refine q_imul (pc := 146) C d_Un_listWith_146 ?_
      refine q_put (pc := 147) (c := 22) (ci := 5) (k := 5) C rfl (by decide) (by decide) wd_166 rfl rfl rfl fs_5_5 d_Un_listWith_147 ?_
      refine q_nms (fun τ147 eτ147 => ?_)
      replace h := h τ147 eτ147
      exact q_vret (pc := 150) C hr d_Un_listWith_150 h
    have h := h13 hc
    refine q_aload_n (pc := 19) C d_Un_listWith_19 rfl 1 rfl ?_
    refine q_iload_n (pc := 20) C d_Un_listWith_20 rfl 2 rfl ?_
    refine q_iload (pc := 21) C d_Un_listWith_21 4 rfl ?_
    refine q_callVIr (pc := 23) (st := []) (d := o1) C (m_Ho_powerIn hY ho1 h) mi_Ho_powerIn ho1 (by decide) rfl wd_433 rfl rfl (Nat.le_of_ble_eq_true rfl) (by decide) (by decide) d_Un_listWith_23 (fun u23 h => ?_)
    refine q_istore (pc := 26) [(5, .int u23), (0, .ref (ya Y 22)), (1, .ref (ya Y o1)), (2, .int x2), (3, .int v3), (4, .int v4)] C d_Un_listWith_26 (by decide) rfl ?_
    refine q_iload (pc := 28) C d_Un_listWith_28 5 rfl ?_
    refine q_iload_n (pc := 30) C d_Un_listWith_30 rfl 4 rfl ?_
    refine q_imul (pc := 31) C d_Un_listWith_31 ?_
    refine q_nmi (fun y6_32 ey6_32 => ?_)
    replace h := h y6_32 ey6_32
    refine q_istore (pc := 32) [(6, .int y6_32), (5, .int u23), (0, .ref (ya Y 22)), (1, .ref (ya Y o1)), (2, .int x2), (3, .int v3), (4, .int v4)] C d_Un_listWith_32 (by decide) rfl ?_
    refine q_aload_n (pc := 34) C d_Un_listWith_34 rfl 3 rfl ?_
    refine q_iload_n (pc := 35) C d_Un_listWith_35 rfl 4 rfl ?_
    refine q_iload (pc := 36) C d_Un_listWith_36 6 rfl ?_
    refine q_callVIr (pc := 38) (st := []) (d := o1) C (m_Ho_stateAfter hY ho1 h) mi_Ho_stateAfter ho1 (by decide) rfl wd_438 rfl rfl (Nat.le_of_ble_eq_true rfl) (by decide) (by decide) d_Un_listWith_38 (fun u38 h => ?_)
    refine q_iload_n (pc := 41) C d_Un_listWith_41 rfl 5 rfl ?_
    refine q_imul (pc := 42) C d_Un_listWith_42 ?_
    refine q_nmi (fun y7_43 ey7_43 => ?_)
    replace h := h y7_43 ey7_43
    refine q_istore (pc := 43) [(7, .int y7_43), (6, .int y6_32), (5, .int u23), (0, .ref (ya Y 22)), (1, .ref (ya Y o1)), (2, .int x2), (3, .int v3), (4, .int v4)] C d_Un_listWith_43 (by decide) rfl ?_
    refine q_iconst (pc := 45) (v := 0) C d_Un_listWith_45 (by decide) ?_
    refine q_istore (pc := 46) [(8, .int (0 : Int32)), (7, .int y7_43), (6, .int y6_32), (5, .int u23), (0, .ref (ya Y 22)), (1, .ref (ya Y o1)), (2, .int x2), (3, .int v3), (4, .int v4)] C d_Un_listWith_46 (by decide) rfl ?_
    obtain ⟨n11, h⟩ := h
    refine q_sub [(0, .ref (ya Y 22)), (1, .ref (ya Y o1)), (2, .int x2), (3, .int v3), (4, .int v4), (5, .int u23), (6, .int y6_32), (7, .int y7_43), (8, .int (0 : Int32))] [4, 5, 6, 7, 8, 3, 2, 1, 0] rfl ?_
    exact t_Un_listWith_48 hY C hr ho1 ih n11 (0 : Int32) σ h
def w_Un_listWith (o1 : Nat) (x2 : Int32) (σ : Sg) (K : Sg → Prop) : Prop :=
  (∀ y3_4 : Int32, y3_4 = (σ 22 5) → (∃ n14 : Nat, L_Un_listWith_8 o1 x2 y3_4 K n14 (0 : Int32) σ))
set_option maxHeartbeats 4000000 in
theorem m_Un_listWith {Y : Yx} {o1 : Nat} {x2 : Int32} {σ : Sg} {K : Sg → Prop} (hY : YD Y) (ho1 : kd o1 = 2) (h : w_Un_listWith o1 x2 σ K) : MetV Y y_Un_listWith prog_7_method_4_code 9 2 45 [.ref (ya Y 22), .ref (ya Y o1), .int x2] σ K := by
  refine met_V [(0, .ref (ya Y 22)), (1, .ref (ya Y o1)), (2, .int x2)] hY (by decide) (Nat.le_of_ble_eq_true rfl) rfl (fun X C hr => ?_)
  unfold w_Un_listWith at h
  refine q_aload_n (pc := 0) C d_Un_listWith_0 rfl 0 rfl ?_
  refine q_get (pc := 1) (c := 22) (ci := 5) (k := 5) (v := .int (σ 22 5)) C rfl (by decide) (by decide) wd_166 rfl d_Un_listWith_1 ?_
  refine q_nmi (fun y3_4 ey3_4 => ?_)
  replace h := h y3_4 ey3_4
  refine q_istore_n (pc := 4) [(3, .int y3_4), (0, .ref (ya Y 22)), (1, .ref (ya Y o1)), (2, .int x2)] C d_Un_listWith_4 rfl (by decide) rfl ?_
  refine q_iconst (pc := 5) (v := 0) C d_Un_listWith_5 (by decide) ?_
  refine q_istore (pc := 6) [(4, .int (0 : Int32)), (3, .int y3_4), (0, .ref (ya Y 22)), (1, .ref (ya Y o1)), (2, .int x2)] C d_Un_listWith_6 (by decide) rfl ?_
  obtain ⟨n14, h⟩ := h
  refine q_sub [(0, .ref (ya Y 22)), (1, .ref (ya Y o1)), (2, .int x2), (3, .int y3_4), (4, .int (0 : Int32))] [2, 3, 4, 1, 0] rfl ?_
  exact t_Un_listWith_8 hY C hr ho1 n14 (0 : Int32) σ h
theorem d_Un_listMixes_0 : decode prog_7_method_3_code 0 = .ok (.aload_n 0, 1) := by decide +kernel
theorem d_Un_listMixes_1 : decode prog_7_method_3_code 1 = .ok (.getfield 9, 3) := by decide +kernel
theorem d_Un_listMixes_4 : decode prog_7_method_3_code 4 = .ok (.iconst 0, 1) := by decide +kernel
theorem d_Un_listMixes_5 : decode prog_7_method_3_code 5 = .ok (.iconst 0, 1) := by decide +kernel
theorem d_Un_listMixes_6 : decode prog_7_method_3_code 6 = .ok (.iastore, 1) := by decide +kernel
theorem d_Un_listMixes_7 : decode prog_7_method_3_code 7 = .ok (.aload_n 0, 1) := by decide +kernel
theorem d_Un_listMixes_8 : decode prog_7_method_3_code 8 = .ok (.iconst 1, 1) := by decide +kernel
theorem d_Un_listMixes_9 : decode prog_7_method_3_code 9 = .ok (.putfield 59, 3) := by decide +kernel
theorem d_Un_listMixes_12 : decode prog_7_method_3_code 12 = .ok (.aload_n 1, 1) := by decide +kernel
theorem d_Un_listMixes_13 : decode prog_7_method_3_code 13 = .ok (.getfield 52, 3) := by decide +kernel
theorem d_Un_listMixes_16 : decode prog_7_method_3_code 16 = .ok (.iconst 1, 1) := by decide +kernel
theorem d_Un_listMixes_17 : decode prog_7_method_3_code 17 = .ok (.isub, 1) := by decide +kernel
theorem d_Un_listMixes_18 : decode prog_7_method_3_code 18 = .ok (.istore_n 2, 1) := by decide +kernel
theorem d_Un_listMixes_19 : decode prog_7_method_3_code 19 = .ok (.iload_n 2, 1) := by decide +kernel
theorem d_Un_listMixes_20 : decode prog_7_method_3_code 20 = .ok (.ifCond .lt 15, 3) := by decide +kernel
theorem d_Un_listMixes_23 : decode prog_7_method_3_code 23 = .ok (.aload_n 0, 1) := by decide +kernel
theorem d_Un_listMixes_24 : decode prog_7_method_3_code 24 = .ok (.aload_n 1, 1) := by decide +kernel
theorem d_Un_listMixes_25 : decode prog_7_method_3_code 25 = .ok (.iload_n 2, 1) := by decide +kernel
theorem d_Un_listMixes_26 : decode prog_7_method_3_code 26 = .ok (.invokevirtual 62, 3) := by decide +kernel
theorem d_Un_listMixes_29 : decode prog_7_method_3_code 29 = .ok (.iinc 2 (-1), 3) := by decide +kernel
theorem d_Un_listMixes_32 : decode prog_7_method_3_code 32 = .ok (.goto (-13), 3) := by decide +kernel
theorem d_Un_listMixes_35 : decode prog_7_method_3_code 35 = .ok (.return_, 1) := by decide +kernel
abbrev y_Un_listMixes : MethodName := ⟨"LoadCycles$Unmixer", "listMixes", "(LLoadCycles$House;)V"⟩
theorem mi_Un_listMixes : miV y_Un_listMixes prog_7_method_3_code 3 none 1 := ⟨wd_427, wd_9, wd_68, wd_428, by decide, by decide, by decide +kernel⟩
def L_Un_listMixes_19 (o1 : Nat) (K : Sg → Prop) : Nat → Int32 → Sg → Prop
  | 0, _, _ => False
  | n + 1, v2, σ =>
    ((v2 < 0 → K σ) ∧ (¬ v2 < 0 → w_Un_listWith o1 v2 σ (fun τ26 => L_Un_listMixes_19 o1 K n (v2 + (-1 : Int32)) τ26)))
theorem t_Un_listMixes_19 {X : Bx} {Y : Yx} {o1 : Nat} {K : Sg → Prop}  (hY : YD Y) (C : Cx X Y prog_7_method_3_code 3 "LoadCycles$Unmixer" 3 73) (hr : (xh X).sig.returnType = none) (ho1 : kd o1 = 2) : ∀ (n : Nat) (v2 : Int32) (σ : Sg), L_Un_listMixes_19 o1 K n v2 σ → St X Y 3 (QV X Y K) 19 [(0, .ref (ya Y 22)), (1, .ref (ya Y o1)), (2, .int v2)] [] σ := by
  intro n
  induction n with
  | zero => intro v2 σ h; exact h.elim
  | succ n ih =>
    intro v2 σ h
    unfold L_Un_listMixes_19 at h
    refine q_iload_n (pc := 19) C d_Un_listMixes_19 rfl 2 rfl ?_
    obtain ⟨h2, h3⟩ := h
    refine q_if_lt (pc := 20) 35 C d_Un_listMixes_20 (by decide) (fun hc => ?_) (fun hc => ?_)
    · have h := h2 hc
      exact q_vret (pc := 35) C hr d_Un_listMixes_35 h
    have h := h3 hc
    refine q_aload_n (pc := 23) C d_Un_listMixes_23 rfl 0 rfl ?_
    refine q_aload_n (pc := 24) C d_Un_listMixes_24 rfl 1 rfl ?_
    refine q_iload_n (pc := 25) C d_Un_listMixes_25 rfl 2 rfl ?_
    refine q_callVV (pc := 26) (st := []) (d := 22) C (m_Un_listWith hY ho1 h) mi_Un_listWith rfl (by decide) rfl wd_429 rfl rfl (Nat.le_of_ble_eq_true rfl) (by decide) (by decide) d_Un_listMixes_26 (fun τ26 h => ?_)
    refine q_iinc (pc := 29) (v2 + (-1 : Int32)) [(2, .int (v2 + (-1 : Int32))), (0, .ref (ya Y 22)), (1, .ref (ya Y o1))] C d_Un_listMixes_29 2 rfl rfl (by decide) rfl ?_
    refine q_goto (pc := 32) 19 C d_Un_listMixes_32 (by decide) ?_
    refine q_sub [(0, .ref (ya Y 22)), (1, .ref (ya Y o1)), (2, .int (v2 + (-1 : Int32)))] [1, 2, 0] rfl ?_
    exact ih (v2 + (-1 : Int32)) τ26 h
def w_Un_listMixes (o1 : Nat) (σ : Sg) (K : Sg → Prop) : Prop :=
  (vp_in (0 : Int32) 256 ∧ (∀ τ6 : Sg, τ6 = s2 σ 23 (0 : Int32).toNatClampNeg (0 : Int32) → (∀ τ9 : Sg, τ9 = s2 τ6 22 5 (1 : Int32) → (∀ y2_18 : Int32, y2_18 = ((τ9 o1 4) - (1 : Int32)) → (∃ n4 : Nat, L_Un_listMixes_19 o1 K n4 y2_18 τ9)))))
set_option maxHeartbeats 4000000 in
theorem m_Un_listMixes {Y : Yx} {o1 : Nat} {σ : Sg} {K : Sg → Prop} (hY : YD Y) (ho1 : kd o1 = 2) (h : w_Un_listMixes o1 σ K) : MetV Y y_Un_listMixes prog_7_method_3_code 3 3 73 [.ref (ya Y 22), .ref (ya Y o1)] σ K := by
  refine met_V [(0, .ref (ya Y 22)), (1, .ref (ya Y o1))] hY (by decide) (Nat.le_of_ble_eq_true rfl) rfl (fun X C hr => ?_)
  unfold w_Un_listMixes at h
  refine q_aload_n (pc := 0) C d_Un_listMixes_0 rfl 0 rfl ?_
  refine q_get (pc := 1) (c := 22) (ci := 5) (k := 0) (v := .ref (ya Y 23)) C rfl (by decide) (by decide) wd_161 rfl d_Un_listMixes_1 ?_
  refine q_iconst (pc := 4) (v := 0) C d_Un_listMixes_4 (by decide) ?_
  refine q_iconst (pc := 5) (v := 0) C d_Un_listMixes_5 (by decide) ?_
  obtain ⟨h1, h⟩ := h
  refine q_iast (pc := 6) (c := 23) C ⟨rfl, rfl⟩ h1 d_Un_listMixes_6 ?_
  refine q_nms (fun τ6 eτ6 => ?_)
  replace h := h τ6 eτ6
  refine q_aload_n (pc := 7) C d_Un_listMixes_7 rfl 0 rfl ?_
  refine q_iconst (pc := 8) (v := 1) C d_Un_listMixes_8 (by decide) ?_
  refine q_put (pc := 9) (c := 22) (ci := 5) (k := 5) C rfl (by decide) (by decide) wd_166 rfl rfl rfl fs_5_5 d_Un_listMixes_9 ?_
  refine q_nms (fun τ9 eτ9 => ?_)
  replace h := h τ9 eτ9
  refine q_aload_n (pc := 12) C d_Un_listMixes_12 rfl 1 rfl ?_
  refine q_get (pc := 13) (c := o1) (ci := 2) (k := 4) (v := .int (τ9 o1 4)) C ho1 (by decide) (by decide) wd_101 rfl d_Un_listMixes_13 ?_
  refine q_iconst (pc := 16) (v := 1) C d_Un_listMixes_16 (by decide) ?_
  refine q_isub (pc := 17) C d_Un_listMixes_17 ?_
  refine q_nmi (fun y2_18 ey2_18 => ?_)
  replace h := h y2_18 ey2_18
  refine q_istore_n (pc := 18) [(2, .int y2_18), (0, .ref (ya Y 22)), (1, .ref (ya Y o1))] C d_Un_listMixes_18 rfl (by decide) rfl ?_
  obtain ⟨n4, h⟩ := h
  refine q_sub [(0, .ref (ya Y 22)), (1, .ref (ya Y o1)), (2, .int y2_18)] [1, 2, 0] rfl ?_
  exact t_Un_listMixes_19 hY C hr ho1 n4 y2_18 τ9 h
theorem d_Ja_fill_0 : decode prog_13_method_103_code 0 = .ok (.iconst 0, 1) := by decide +kernel
theorem d_Ja_fill_1 : decode prog_13_method_103_code 1 = .ok (.istore_n 2, 1) := by decide +kernel
theorem d_Ja_fill_2 : decode prog_13_method_103_code 2 = .ok (.aload_n 0, 1) := by decide +kernel
theorem d_Ja_fill_3 : decode prog_13_method_103_code 3 = .ok (.arraylength, 1) := by decide +kernel
theorem d_Ja_fill_4 : decode prog_13_method_103_code 4 = .ok (.istore_n 3, 1) := by decide +kernel
theorem d_Ja_fill_5 : decode prog_13_method_103_code 5 = .ok (.iload_n 2, 1) := by decide +kernel
theorem d_Ja_fill_6 : decode prog_13_method_103_code 6 = .ok (.iload_n 3, 1) := by decide +kernel
theorem d_Ja_fill_7 : decode prog_13_method_103_code 7 = .ok (.if_icmp .ge 13, 3) := by decide +kernel
theorem d_Ja_fill_10 : decode prog_13_method_103_code 10 = .ok (.aload_n 0, 1) := by decide +kernel
theorem d_Ja_fill_11 : decode prog_13_method_103_code 11 = .ok (.iload_n 2, 1) := by decide +kernel
theorem d_Ja_fill_12 : decode prog_13_method_103_code 12 = .ok (.iload_n 1, 1) := by decide +kernel
theorem d_Ja_fill_13 : decode prog_13_method_103_code 13 = .ok (.iastore, 1) := by decide +kernel
theorem d_Ja_fill_14 : decode prog_13_method_103_code 14 = .ok (.iinc 2 1, 3) := by decide +kernel
theorem d_Ja_fill_17 : decode prog_13_method_103_code 17 = .ok (.goto (-12), 3) := by decide +kernel
theorem d_Ja_fill_20 : decode prog_13_method_103_code 20 = .ok (.return_, 1) := by decide +kernel
abbrev y_Ja_fill : MethodName := ⟨"java/util/Arrays", "fill", "([II)V"⟩
theorem mi_Ja_fill : miS y_Ja_fill prog_13_method_103_code 4 none 2 := ⟨wd_451, wd_74, wd_452, by decide, by decide, by decide +kernel⟩
def L_Ja_fill_5 (o0 : Nat) (x1 : Int32) (v3 : Int32) (K : Sg → Prop) : Nat → Int32 → Sg → Prop
  | 0, _, _ => False
  | n + 1, v2, σ =>
    ((v3 ≤ v2 → K σ) ∧ (¬ v3 ≤ v2 → (vp_in v2 (ln o0) ∧ (∀ τ13 : Sg, τ13 = s2 σ o0 v2.toNatClampNeg x1 → L_Ja_fill_5 o0 x1 v3 K n (v2 + (1 : Int32)) τ13))))
theorem t_Ja_fill_5 {X : Bx} {Y : Yx} {o0 : Nat} {x1 : Int32} {v3 : Int32} {K : Sg → Prop}  (hY : YD Y) (C : Cx X Y prog_13_method_103_code 4 "java/util/Arrays" 0 0) (hr : (xh X).sig.returnType = none) (ho0 : ia o0 (ln o0)) : ∀ (n : Nat) (v2 : Int32) (σ : Sg), L_Ja_fill_5 o0 x1 v3 K n v2 σ → St X Y 4 (QV X Y K) 5 [(0, .ref (ya Y o0)), (1, .int x1), (2, .int v2), (3, .int v3)] [] σ := by
  intro n
  induction n with
  | zero => intro v2 σ h; exact h.elim
  | succ n ih =>
    intro v2 σ h
    unfold L_Ja_fill_5 at h
    refine q_iload_n (pc := 5) C d_Ja_fill_5 rfl 2 rfl ?_
    refine q_iload_n (pc := 6) C d_Ja_fill_6 rfl 3 rfl ?_
    obtain ⟨h2, h3⟩ := h
    refine q_icmp_ge (pc := 7) 20 C d_Ja_fill_7 (by decide) (fun hc => ?_) (fun hc => ?_)
    · have h := h2 hc
      exact q_vret (pc := 20) C hr d_Ja_fill_20 h
    have h := h3 hc
    refine q_aload_n (pc := 10) C d_Ja_fill_10 rfl 0 rfl ?_
    refine q_iload_n (pc := 11) C d_Ja_fill_11 rfl 2 rfl ?_
    refine q_iload_n (pc := 12) C d_Ja_fill_12 rfl 1 rfl ?_
    obtain ⟨h1, h⟩ := h
    refine q_iast (pc := 13) (c := o0) C ho0 h1 d_Ja_fill_13 ?_
    refine q_nms (fun τ13 eτ13 => ?_)
    replace h := h τ13 eτ13
    refine q_iinc (pc := 14) (v2 + (1 : Int32)) [(2, .int (v2 + (1 : Int32))), (0, .ref (ya Y o0)), (1, .int x1), (3, .int v3)] C d_Ja_fill_14 2 rfl rfl (by decide) rfl ?_
    refine q_goto (pc := 17) 5 C d_Ja_fill_17 (by decide) ?_
    refine q_sub [(0, .ref (ya Y o0)), (1, .int x1), (2, .int (v2 + (1 : Int32))), (3, .int v3)] [1, 2, 0, 3] rfl ?_
    exact ih (v2 + (1 : Int32)) τ13 h
def w_Ja_fill (o0 : Nat) (x1 : Int32) (σ : Sg) (K : Sg → Prop) : Prop :=
  (∀ y3_4 : Int32, y3_4 = (Int32.ofNat (ln o0)) → (∃ n4 : Nat, L_Ja_fill_5 o0 x1 y3_4 K n4 (0 : Int32) σ))
set_option maxHeartbeats 4000000 in
theorem m_Ja_fill {Y : Yx} {o0 : Nat} {x1 : Int32} {σ : Sg} {K : Sg → Prop} (hY : YD Y) (ho0 : ia o0 (ln o0)) (h : w_Ja_fill o0 x1 σ K) : MetV Y y_Ja_fill prog_13_method_103_code 4 0 0 [.ref (ya Y o0), .int x1] σ K := by
  refine met_V [(0, .ref (ya Y o0)), (1, .int x1)] hY (by decide) (Nat.le_of_ble_eq_true rfl) rfl (fun X C hr => ?_)
  unfold w_Ja_fill at h
  refine q_iconst (pc := 0) (v := 0) C d_Ja_fill_0 (by decide) ?_
  refine q_istore_n (pc := 1) [(2, .int (0 : Int32)), (0, .ref (ya Y o0)), (1, .int x1)] C d_Ja_fill_1 rfl (by decide) rfl ?_
  refine q_aload_n (pc := 2) C d_Ja_fill_2 rfl 1 rfl ?_
  refine q_alenI (pc := 3) (c := o0) (Int32.ofNat (ln o0)) C ho0 rfl d_Ja_fill_3 ?_
  refine q_nmi (fun y3_4 ey3_4 => ?_)
  replace h := h y3_4 ey3_4
  refine q_istore_n (pc := 4) [(3, .int y3_4), (2, .int (0 : Int32)), (0, .ref (ya Y o0)), (1, .int x1)] C d_Ja_fill_4 rfl (by decide) rfl ?_
  obtain ⟨n4, h⟩ := h
  refine q_sub [(0, .ref (ya Y o0)), (1, .int x1), (2, .int (0 : Int32)), (3, .int y3_4)] [2, 3, 1, 0] rfl ?_
  exact t_Ja_fill_5 hY C hr ho0 n4 (0 : Int32) σ h
theorem d_Un_letGoOn_0 : decode prog_7_method_7_code 0 = .ok (.iload_n 1, 1) := by decide +kernel
theorem d_Un_letGoOn_1 : decode prog_7_method_7_code 1 = .ok (.sipush 256, 3) := by decide +kernel
theorem d_Un_letGoOn_4 : decode prog_7_method_7_code 4 = .ok (.imul, 1) := by decide +kernel
theorem d_Un_letGoOn_5 : decode prog_7_method_7_code 5 = .ok (.istore_n 2, 1) := by decide +kernel
theorem d_Un_letGoOn_6 : decode prog_7_method_7_code 6 = .ok (.iconst 0, 1) := by decide +kernel
theorem d_Un_letGoOn_7 : decode prog_7_method_7_code 7 = .ok (.istore_n 3, 1) := by decide +kernel
theorem d_Un_letGoOn_8 : decode prog_7_method_7_code 8 = .ok (.iload_n 3, 1) := by decide +kernel
theorem d_Un_letGoOn_9 : decode prog_7_method_7_code 9 = .ok (.aload_n 0, 1) := by decide +kernel
theorem d_Un_letGoOn_10 : decode prog_7_method_7_code 10 = .ok (.getfield 59, 3) := by decide +kernel
theorem d_Un_letGoOn_13 : decode prog_7_method_7_code 13 = .ok (.if_icmp .ge 39, 3) := by decide +kernel
theorem d_Un_letGoOn_16 : decode prog_7_method_7_code 16 = .ok (.aload_n 0, 1) := by decide +kernel
theorem d_Un_letGoOn_17 : decode prog_7_method_7_code 17 = .ok (.getfield 24, 3) := by decide +kernel
theorem d_Un_letGoOn_20 : decode prog_7_method_7_code 20 = .ok (.iload_n 3, 1) := by decide +kernel
theorem d_Un_letGoOn_21 : decode prog_7_method_7_code 21 = .ok (.aload_n 0, 1) := by decide +kernel
theorem d_Un_letGoOn_22 : decode prog_7_method_7_code 22 = .ok (.getfield 21, 3) := by decide +kernel
theorem d_Un_letGoOn_25 : decode prog_7_method_7_code 25 = .ok (.iload_n 3, 1) := by decide +kernel
theorem d_Un_letGoOn_26 : decode prog_7_method_7_code 26 = .ok (.iaload, 1) := by decide +kernel
theorem d_Un_letGoOn_27 : decode prog_7_method_7_code 27 = .ok (.aload_n 0, 1) := by decide +kernel
theorem d_Un_letGoOn_28 : decode prog_7_method_7_code 28 = .ok (.getfield 21, 3) := by decide +kernel
theorem d_Un_letGoOn_31 : decode prog_7_method_7_code 31 = .ok (.aload_n 0, 1) := by decide +kernel
theorem d_Un_letGoOn_32 : decode prog_7_method_7_code 32 = .ok (.getfield 15, 3) := by decide +kernel
theorem d_Un_letGoOn_35 : decode prog_7_method_7_code 35 = .ok (.iload_n 2, 1) := by decide +kernel
theorem d_Un_letGoOn_36 : decode prog_7_method_7_code 36 = .ok (.iload_n 3, 1) := by decide +kernel
theorem d_Un_letGoOn_37 : decode prog_7_method_7_code 37 = .ok (.iadd, 1) := by decide +kernel
theorem d_Un_letGoOn_38 : decode prog_7_method_7_code 38 = .ok (.iaload, 1) := by decide +kernel
theorem d_Un_letGoOn_39 : decode prog_7_method_7_code 39 = .ok (.iaload, 1) := by decide +kernel
theorem d_Un_letGoOn_40 : decode prog_7_method_7_code 40 = .ok (.iconst 1, 1) := by decide +kernel
theorem d_Un_letGoOn_41 : decode prog_7_method_7_code 41 = .ok (.iadd, 1) := by decide +kernel
theorem d_Un_letGoOn_42 : decode prog_7_method_7_code 42 = .ok (.invokestatic 103, 3) := by decide +kernel
theorem d_Un_letGoOn_45 : decode prog_7_method_7_code 45 = .ok (.iastore, 1) := by decide +kernel
theorem d_Un_letGoOn_46 : decode prog_7_method_7_code 46 = .ok (.iinc 3 1, 3) := by decide +kernel
theorem d_Un_letGoOn_49 : decode prog_7_method_7_code 49 = .ok (.goto (-41), 3) := by decide +kernel
theorem d_Un_letGoOn_52 : decode prog_7_method_7_code 52 = .ok (.aload_n 0, 1) := by decide +kernel
theorem d_Un_letGoOn_53 : decode prog_7_method_7_code 53 = .ok (.getfield 24, 3) := by decide +kernel
theorem d_Un_letGoOn_56 : decode prog_7_method_7_code 56 = .ok (.astore_n 3, 1) := by decide +kernel
theorem d_Un_letGoOn_57 : decode prog_7_method_7_code 57 = .ok (.aload_n 0, 1) := by decide +kernel
theorem d_Un_letGoOn_58 : decode prog_7_method_7_code 58 = .ok (.aload_n 0, 1) := by decide +kernel
theorem d_Un_letGoOn_59 : decode prog_7_method_7_code 59 = .ok (.getfield 21, 3) := by decide +kernel
theorem d_Un_letGoOn_62 : decode prog_7_method_7_code 62 = .ok (.putfield 24, 3) := by decide +kernel
theorem d_Un_letGoOn_65 : decode prog_7_method_7_code 65 = .ok (.aload_n 0, 1) := by decide +kernel
theorem d_Un_letGoOn_66 : decode prog_7_method_7_code 66 = .ok (.aload_n 3, 1) := by decide +kernel
theorem d_Un_letGoOn_67 : decode prog_7_method_7_code 67 = .ok (.putfield 21, 3) := by decide +kernel
theorem d_Un_letGoOn_70 : decode prog_7_method_7_code 70 = .ok (.return_, 1) := by decide +kernel
abbrev y_Un_letGoOn : MethodName := ⟨"LoadCycles$Unmixer", "letGoOn", "(I)V"⟩
theorem mi_Un_letGoOn : miV y_Un_letGoOn prog_7_method_7_code 4 none 1 := ⟨wd_457, wd_13, wd_68, wd_458, by decide, by decide, by decide +kernel⟩
def L_Un_letGoOn_8 (x1 : Int32) (v2 : Int32) (K : Sg → Prop) : Nat → Int32 → Sg → Prop
  | 0, _, _ => False
  | n + 1, v3, σ =>
    (((σ 22 5) ≤ v3 → (ia (σ 22 4).toNatClampNeg 256 ∧ (ia (σ 22 3).toNatClampNeg 256 ∧ (∀ τ62 : Sg, τ62 = s2 σ 22 4 (nI (σ 22 3).toNatClampNeg) → (∀ τ67 : Sg, τ67 = s2 τ62 22 3 (nI (σ 22 4).toNatClampNeg) → K τ67))))) ∧ (¬ (σ 22 5) ≤ v3 → (ia (σ 22 4).toNatClampNeg 256 ∧ (ia (σ 22 3).toNatClampNeg 256 ∧ (vp_in v3 256 ∧ (ia (σ 22 3).toNatClampNeg 256 ∧ (vp_in (v2 + v3) 1024 ∧ (vp_in (σ 24 (v2 + v3).toNatClampNeg) 256 ∧ (vp_in v3 256 ∧ (∀ τ45 : Sg, τ45 = s2 σ (σ 22 4).toNatClampNeg v3.toNatClampNeg (if ((σ (σ 22 3).toNatClampNeg (σ 24 (v2 + v3).toNatClampNeg).toNatClampNeg) + (1 : Int32)) < (σ (σ 22 3).toNatClampNeg v3.toNatClampNeg) then ((σ (σ 22 3).toNatClampNeg (σ 24 (v2 + v3).toNatClampNeg).toNatClampNeg) + (1 : Int32)) else (σ (σ 22 3).toNatClampNeg v3.toNatClampNeg)) → L_Un_letGoOn_8 x1 v2 K n (v3 + (1 : Int32)) τ45))))))))))
theorem t_Un_letGoOn_8 {X : Bx} {Y : Yx} {x1 : Int32} {v2 : Int32} {K : Sg → Prop}  (hY : YD Y) (C : Cx X Y prog_7_method_7_code 4 "LoadCycles$Unmixer" 1 24) (hr : (xh X).sig.returnType = none)  : ∀ (n : Nat) (v3 : Int32) (σ : Sg), L_Un_letGoOn_8 x1 v2 K n v3 σ → St X Y 4 (QV X Y K) 8 [(0, .ref (ya Y 22)), (2, .int v2), (3, .int v3)] [] σ := by
  intro n
  induction n with
  | zero => intro v3 σ h; exact h.elim
  | succ n ih =>
    intro v3 σ h
    unfold L_Un_letGoOn_8 at h
    refine q_iload_n (pc := 8) C d_Un_letGoOn_8 rfl 2 rfl ?_
    refine q_aload_n (pc := 9) C d_Un_letGoOn_9 rfl 0 rfl ?_
    refine q_get (pc := 10) (c := 22) (ci := 5) (k := 5) (v := .int (σ 22 5)) C rfl (by decide) (by decide) wd_166 rfl d_Un_letGoOn_10 ?_
    obtain ⟨h10, h11⟩ := h
    refine q_icmp_ge (pc := 13) 52 C d_Un_letGoOn_13 (by decide) (fun hc => ?_) (fun hc => ?_)
    · have h := h10 hc
      refine q_aload_n (pc := 52) C d_Un_letGoOn_52 rfl 0 rfl ?_
      obtain ⟨h1, h⟩ := h
      refine q_get (pc := 53) (c := 22) (ci := 5) (k := 4) (v := .ref (ya Y (σ 22 4).toNatClampNeg)) C rfl (by decide) (by decide) wd_165 rfl d_Un_letGoOn_53 ?_
      refine q_astore_n (pc := 56) [(3, .ref (ya Y (σ 22 4).toNatClampNeg)), (0, .ref (ya Y 22)), (2, .int v2)] C d_Un_letGoOn_56 rfl (by decide) rfl ?_
      refine q_aload_n (pc := 57) C d_Un_letGoOn_57 rfl 1 rfl ?_
      refine q_aload_n (pc := 58) C d_Un_letGoOn_58 rfl 1 rfl ?_
      obtain ⟨h2, h⟩ := h
      refine q_get (pc := 59) (c := 22) (ci := 5) (k := 3) (v := .ref (ya Y (σ 22 3).toNatClampNeg)) C rfl (by decide) (by decide) wd_164 rfl d_Un_letGoOn_59 ?_
      refine q_putR (pc := 62) (c := 22) (ci := 5) (k := 4) C rfl (by decide) (by decide) wd_165 rfl rfl (ia.lt h2) (fr_5_4 (ia.lt h2)) d_Un_letGoOn_62 ?_
      refine q_nms (fun τ62 eτ62 => ?_)
      replace h := h τ62 eτ62
      refine q_aload_n (pc := 65) C d_Un_letGoOn_65 rfl 1 rfl ?_
      refine q_aload_n (pc := 66) C d_Un_letGoOn_66 rfl 0 rfl ?_
      refine q_putR (pc := 67) (c := 22) (ci := 5) (k := 3) C rfl (by decide) (by decide) wd_164 rfl rfl (ia.lt h1) (fr_5_3 (ia.lt h1)) d_Un_letGoOn_67 ?_
      refine q_nms (fun τ67 eτ67 => ?_)
      replace h := h τ67 eτ67
      exact q_vret (pc := 70) C hr d_Un_letGoOn_70 h
    have h := h11 hc
    refine q_aload_n (pc := 16) C d_Un_letGoOn_16 rfl 0 rfl ?_
    obtain ⟨h3, h⟩ := h
    refine q_get (pc := 17) (c := 22) (ci := 5) (k := 4) (v := .ref (ya Y (σ 22 4).toNatClampNeg)) C rfl (by decide) (by decide) wd_165 rfl d_Un_letGoOn_17 ?_
    refine q_iload_n (pc := 20) C d_Un_letGoOn_20 rfl 2 rfl ?_
    refine q_aload_n (pc := 21) C d_Un_letGoOn_21 rfl 0 rfl ?_
    obtain ⟨h4, h⟩ := h
    refine q_get (pc := 22) (c := 22) (ci := 5) (k := 3) (v := .ref (ya Y (σ 22 3).toNatClampNeg)) C rfl (by decide) (by decide) wd_164 rfl d_Un_letGoOn_22 ?_
    refine q_iload_n (pc := 25) C d_Un_letGoOn_25 rfl 2 rfl ?_
    obtain ⟨h5, h⟩ := h
    refine q_iald (pc := 26) (c := (σ 22 3).toNatClampNeg) C h4 h5 d_Un_letGoOn_26 ?_
    refine q_aload_n (pc := 27) C d_Un_letGoOn_27 rfl 0 rfl ?_
    obtain ⟨h6, h⟩ := h
    refine q_get (pc := 28) (c := 22) (ci := 5) (k := 3) (v := .ref (ya Y (σ 22 3).toNatClampNeg)) C rfl (by decide) (by decide) wd_164 rfl d_Un_letGoOn_28 ?_
    refine q_aload_n (pc := 31) C d_Un_letGoOn_31 rfl 0 rfl ?_
    refine q_get (pc := 32) (c := 22) (ci := 5) (k := 1) (v := .ref (ya Y 24)) C rfl (by decide) (by decide) wd_162 rfl d_Un_letGoOn_32 ?_
    refine q_iload_n (pc := 35) C d_Un_letGoOn_35 rfl 1 rfl ?_
    refine q_iload_n (pc := 36) C d_Un_letGoOn_36 rfl 2 rfl ?_
    refine q_iadd (pc := 37) C d_Un_letGoOn_37 ?_
    obtain ⟨h7, h⟩ := h
    refine q_iald (pc := 38) (c := 24) C ⟨rfl, rfl⟩ h7 d_Un_letGoOn_38 ?_
    obtain ⟨h8, h⟩ := h
    refine q_iald (pc := 39) (c := (σ 22 3).toNatClampNeg) C h6 h8 d_Un_letGoOn_39 ?_
    refine q_iconst (pc := 40) (v := 1) C d_Un_letGoOn_40 (by decide) ?_
    refine q_iadd (pc := 41) C d_Un_letGoOn_41 ?_
    refine q_mmin (pc := 42) (st := [.int v3, .ref (ya Y (σ 22 4).toNatClampNeg)]) C wd_459 wd_460 wd_75 wd_461 (by decide) (Nat.le_of_ble_eq_true rfl) d_Un_letGoOn_42 ?_
    obtain ⟨h9, h⟩ := h
    refine q_iast (pc := 45) (c := (σ 22 4).toNatClampNeg) C h3 h9 d_Un_letGoOn_45 ?_
    refine q_nms (fun τ45 eτ45 => ?_)
    replace h := h τ45 eτ45
    refine q_iinc (pc := 46) (v3 + (1 : Int32)) [(3, .int (v3 + (1 : Int32))), (0, .ref (ya Y 22)), (2, .int v2)] C d_Un_letGoOn_46 2 rfl rfl (by decide) rfl ?_
    refine q_goto (pc := 49) 8 C d_Un_letGoOn_49 (by decide) ?_
    refine q_sub [(0, .ref (ya Y 22)), (2, .int v2), (3, .int (v3 + (1 : Int32)))] [1, 2, 0] rfl ?_
    exact ih (v3 + (1 : Int32)) τ45 h
def w_Un_letGoOn (x1 : Int32) (σ : Sg) (K : Sg → Prop) : Prop :=
  (∀ y2_5 : Int32, y2_5 = (x1 * (256 : Int32)) → (∃ n12 : Nat, L_Un_letGoOn_8 x1 y2_5 K n12 (0 : Int32) σ))
set_option maxHeartbeats 4000000 in
theorem m_Un_letGoOn {Y : Yx} {x1 : Int32} {σ : Sg} {K : Sg → Prop} (hY : YD Y)  (h : w_Un_letGoOn x1 σ K) : MetV Y y_Un_letGoOn prog_7_method_7_code 4 1 24 [.ref (ya Y 22), .int x1] σ K := by
  refine met_V [(0, .ref (ya Y 22)), (1, .int x1)] hY (by decide) (Nat.le_of_ble_eq_true rfl) rfl (fun X C hr => ?_)
  unfold w_Un_letGoOn at h
  refine q_iload_n (pc := 0) C d_Un_letGoOn_0 rfl 1 rfl ?_
  refine q_sipush (pc := 1) (v := 256) C d_Un_letGoOn_1 (by decide) ?_
  refine q_imul (pc := 4) C d_Un_letGoOn_4 ?_
  refine q_nmi (fun y2_5 ey2_5 => ?_)
  replace h := h y2_5 ey2_5
  refine q_istore_n (pc := 5) [(2, .int y2_5), (0, .ref (ya Y 22)), (1, .int x1)] C d_Un_letGoOn_5 rfl (by decide) rfl ?_
  refine q_iconst (pc := 6) (v := 0) C d_Un_letGoOn_6 (by decide) ?_
  refine q_istore_n (pc := 7) [(3, .int (0 : Int32)), (2, .int y2_5), (0, .ref (ya Y 22)), (1, .int x1)] C d_Un_letGoOn_7 rfl (by decide) rfl ?_
  obtain ⟨n12, h⟩ := h
  refine q_sub [(0, .ref (ya Y 22)), (2, .int y2_5), (3, .int (0 : Int32))] [2, 1, 0] rfl ?_
  exact t_Un_letGoOn_8 hY C hr n12 (0 : Int32) σ h
end
section
theorem d_Un_findCosts_0 : decode prog_7_method_6_code 0 = .ok (.aload_n 0, 1) := by decide +kernel
theorem d_Un_findCosts_1 : decode prog_7_method_6_code 1 = .ok (.getfield 21, 3) := by decide +kernel
theorem d_Un_findCosts_4 : decode prog_7_method_6_code 4 = .ok (.iconst 0, 1) := by decide +kernel
theorem d_Un_findCosts_5 : decode prog_7_method_6_code 5 = .ok (.invokestatic 80, 3) := by decide +kernel
theorem d_Un_findCosts_8 : decode prog_7_method_6_code 8 = .ok (.aload_n 1, 1) := by decide +kernel
theorem d_Un_findCosts_9 : decode prog_7_method_6_code 9 = .ok (.getfield 39, 3) := by decide +kernel
theorem d_Un_findCosts_12 : decode prog_7_method_6_code 12 = .ok (.iconst 1, 1) := by decide +kernel
theorem d_Un_findCosts_13 : decode prog_7_method_6_code 13 = .ok (.isub, 1) := by decide +kernel
theorem d_Un_findCosts_14 : decode prog_7_method_6_code 14 = .ok (.istore_n 2, 1) := by decide +kernel
theorem d_Un_findCosts_15 : decode prog_7_method_6_code 15 = .ok (.iload_n 2, 1) := by decide +kernel
theorem d_Un_findCosts_16 : decode prog_7_method_6_code 16 = .ok (.ifCond .lt 126, 3) := by decide +kernel
theorem d_Un_findCosts_19 : decode prog_7_method_6_code 19 = .ok (.aload_n 1, 1) := by decide +kernel
theorem d_Un_findCosts_20 : decode prog_7_method_6_code 20 = .ok (.getfield 86, 3) := by decide +kernel
theorem d_Un_findCosts_23 : decode prog_7_method_6_code 23 = .ok (.iload_n 2, 1) := by decide +kernel
theorem d_Un_findCosts_24 : decode prog_7_method_6_code 24 = .ok (.iaload, 1) := by decide +kernel
theorem d_Un_findCosts_25 : decode prog_7_method_6_code 25 = .ok (.aload_n 1, 1) := by decide +kernel
theorem d_Un_findCosts_26 : decode prog_7_method_6_code 26 = .ok (.getfield 89, 3) := by decide +kernel
theorem d_Un_findCosts_29 : decode prog_7_method_6_code 29 = .ok (.isub, 1) := by decide +kernel
theorem d_Un_findCosts_30 : decode prog_7_method_6_code 30 = .ok (.istore_n 3, 1) := by decide +kernel
theorem d_Un_findCosts_31 : decode prog_7_method_6_code 31 = .ok (.iconst 0, 1) := by decide +kernel
theorem d_Un_findCosts_32 : decode prog_7_method_6_code 32 = .ok (.istore 4, 2) := by decide +kernel
theorem d_Un_findCosts_34 : decode prog_7_method_6_code 34 = .ok (.iload 4, 2) := by decide +kernel
theorem d_Un_findCosts_36 : decode prog_7_method_6_code 36 = .ok (.aload_n 0, 1) := by decide +kernel
theorem d_Un_findCosts_37 : decode prog_7_method_6_code 37 = .ok (.getfield 59, 3) := by decide +kernel
theorem d_Un_findCosts_40 : decode prog_7_method_6_code 40 = .ok (.if_icmp .ge 51, 3) := by decide +kernel
theorem d_Un_findCosts_43 : decode prog_7_method_6_code 43 = .ok (.iload_n 3, 1) := by decide +kernel
theorem d_Un_findCosts_44 : decode prog_7_method_6_code 44 = .ok (.aload_n 0, 1) := by decide +kernel
theorem d_Un_findCosts_45 : decode prog_7_method_6_code 45 = .ok (.getfield 9, 3) := by decide +kernel
theorem d_Un_findCosts_48 : decode prog_7_method_6_code 48 = .ok (.iload 4, 2) := by decide +kernel
theorem d_Un_findCosts_50 : decode prog_7_method_6_code 50 = .ok (.iaload, 1) := by decide +kernel
theorem d_Un_findCosts_51 : decode prog_7_method_6_code 51 = .ok (.isub, 1) := by decide +kernel
theorem d_Un_findCosts_52 : decode prog_7_method_6_code 52 = .ok (.istore 5, 2) := by decide +kernel
theorem d_Un_findCosts_54 : decode prog_7_method_6_code 54 = .ok (.aload_n 0, 1) := by decide +kernel
theorem d_Un_findCosts_55 : decode prog_7_method_6_code 55 = .ok (.getfield 21, 3) := by decide +kernel
theorem d_Un_findCosts_58 : decode prog_7_method_6_code 58 = .ok (.iload 4, 2) := by decide +kernel
theorem d_Un_findCosts_60 : decode prog_7_method_6_code 60 = .ok (.iload 5, 2) := by decide +kernel
theorem d_Un_findCosts_62 : decode prog_7_method_6_code 62 = .ok (.ifCond .ge 8, 3) := by decide +kernel
theorem d_Un_findCosts_65 : decode prog_7_method_6_code 65 = .ok (.ldc 92, 2) := by decide +kernel
theorem d_Un_findCosts_67 : decode prog_7_method_6_code 67 = .ok (.goto 17, 3) := by decide +kernel
theorem d_Un_findCosts_70 : decode prog_7_method_6_code 70 = .ok (.iload 5, 2) := by decide +kernel
theorem d_Un_findCosts_72 : decode prog_7_method_6_code 72 = .ok (.sipush 1000, 3) := by decide +kernel
theorem d_Un_findCosts_75 : decode prog_7_method_6_code 75 = .ok (.imul, 1) := by decide +kernel
theorem d_Un_findCosts_76 : decode prog_7_method_6_code 76 = .ok (.aload_n 0, 1) := by decide +kernel
theorem d_Un_findCosts_77 : decode prog_7_method_6_code 77 = .ok (.getfield 21, 3) := by decide +kernel
theorem d_Un_findCosts_80 : decode prog_7_method_6_code 80 = .ok (.iload 4, 2) := by decide +kernel
theorem d_Un_findCosts_82 : decode prog_7_method_6_code 82 = .ok (.iaload, 1) := by decide +kernel
theorem d_Un_findCosts_83 : decode prog_7_method_6_code 83 = .ok (.iadd, 1) := by decide +kernel
theorem d_Un_findCosts_84 : decode prog_7_method_6_code 84 = .ok (.iastore, 1) := by decide +kernel
theorem d_Un_findCosts_85 : decode prog_7_method_6_code 85 = .ok (.iinc 4 1, 3) := by decide +kernel
theorem d_Un_findCosts_88 : decode prog_7_method_6_code 88 = .ok (.goto (-54), 3) := by decide +kernel
theorem d_Un_findCosts_91 : decode prog_7_method_6_code 91 = .ok (.aload_n 0, 1) := by decide +kernel
theorem d_Un_findCosts_92 : decode prog_7_method_6_code 92 = .ok (.getfield 21, 3) := by decide +kernel
theorem d_Un_findCosts_95 : decode prog_7_method_6_code 95 = .ok (.iconst 0, 1) := by decide +kernel
theorem d_Un_findCosts_96 : decode prog_7_method_6_code 96 = .ok (.aload_n 0, 1) := by decide +kernel
theorem d_Un_findCosts_97 : decode prog_7_method_6_code 97 = .ok (.getfield 18, 3) := by decide +kernel
theorem d_Un_findCosts_100 : decode prog_7_method_6_code 100 = .ok (.iload_n 2, 1) := by decide +kernel
theorem d_Un_findCosts_101 : decode prog_7_method_6_code 101 = .ok (.sipush 256, 3) := by decide +kernel
theorem d_Un_findCosts_104 : decode prog_7_method_6_code 104 = .ok (.imul, 1) := by decide +kernel
theorem d_Un_findCosts_105 : decode prog_7_method_6_code 105 = .ok (.aload_n 0, 1) := by decide +kernel
theorem d_Un_findCosts_106 : decode prog_7_method_6_code 106 = .ok (.getfield 59, 3) := by decide +kernel
theorem d_Un_findCosts_109 : decode prog_7_method_6_code 109 = .ok (.invokestatic 93, 3) := by decide +kernel
theorem d_Un_findCosts_112 : decode prog_7_method_6_code 112 = .ok (.iconst 0, 1) := by decide +kernel
theorem d_Un_findCosts_113 : decode prog_7_method_6_code 113 = .ok (.istore 4, 2) := by decide +kernel
theorem d_Un_findCosts_115 : decode prog_7_method_6_code 115 = .ok (.iload 4, 2) := by decide +kernel
theorem d_Un_findCosts_117 : decode prog_7_method_6_code 117 = .ok (.aload_n 1, 1) := by decide +kernel
theorem d_Un_findCosts_118 : decode prog_7_method_6_code 118 = .ok (.getfield 52, 3) := by decide +kernel
theorem d_Un_findCosts_121 : decode prog_7_method_6_code 121 = .ok (.if_icmp .ge 15, 3) := by decide +kernel
theorem d_Un_findCosts_124 : decode prog_7_method_6_code 124 = .ok (.aload_n 0, 1) := by decide +kernel
theorem d_Un_findCosts_125 : decode prog_7_method_6_code 125 = .ok (.iload 4, 2) := by decide +kernel
theorem d_Un_findCosts_127 : decode prog_7_method_6_code 127 = .ok (.invokevirtual 99, 3) := by decide +kernel
theorem d_Un_findCosts_130 : decode prog_7_method_6_code 130 = .ok (.iinc 4 1, 3) := by decide +kernel
theorem d_Un_findCosts_133 : decode prog_7_method_6_code 133 = .ok (.goto (-18), 3) := by decide +kernel
theorem d_Un_findCosts_136 : decode prog_7_method_6_code 136 = .ok (.iinc 2 (-1), 3) := by decide +kernel
theorem d_Un_findCosts_139 : decode prog_7_method_6_code 139 = .ok (.goto (-124), 3) := by decide +kernel
theorem d_Un_findCosts_142 : decode prog_7_method_6_code 142 = .ok (.return_, 1) := by decide +kernel
abbrev y_Un_findCosts : MethodName := ⟨"LoadCycles$Unmixer", "findCosts", "(LLoadCycles$House;)V"⟩
theorem mi_Un_findCosts : miV y_Un_findCosts prog_7_method_6_code 6 none 1 := ⟨wd_448, wd_12, wd_68, wd_449, by decide, by decide, by decide +kernel⟩
def L_Un_findCosts_115 (o1 : Nat) (v2 : Int32) (K : Sg → Prop) (r15 : Int32 → Sg → Prop) : Nat → Int32 → Sg → Prop
  | 0, _, _ => False
  | n + 1, v4, σ =>
    (((σ o1 4) ≤ v4 → r15 (v2 + (-1 : Int32)) σ) ∧ (¬ (σ o1 4) ≤ v4 → w_Un_letGoOn v4 σ (fun τ127 => L_Un_findCosts_115 o1 v2 K r15 n (v4 + (1 : Int32)) τ127)))
theorem t_Un_findCosts_115 {X : Bx} {Y : Yx} {o1 : Nat} {v2 : Int32} {K : Sg → Prop} {r15 : Int32 → Sg → Prop} (hY : YD Y) (C : Cx X Y prog_7_method_6_code 6 "LoadCycles$Unmixer" 2 60) (hr : (xh X).sig.returnType = none) (ho1 : kd o1 = 2) (H15 : ∀ (v2 : Int32) (σ : Sg), r15 v2 σ → St X Y 6 (QV X Y K) 15 [(0, .ref (ya Y 22)), (1, .ref (ya Y o1)), (2, .int v2)] [] σ) : ∀ (n : Nat) (v4 : Int32) (σ : Sg), L_Un_findCosts_115 o1 v2 K r15 n v4 σ → St X Y 6 (QV X Y K) 115 [(0, .ref (ya Y 22)), (1, .ref (ya Y o1)), (2, .int v2), (4, .int v4)] [] σ := by
  intro n
  induction n with
  | zero => intro v4 σ h; exact h.elim
  | succ n ih =>
    intro v4 σ h
    unfold L_Un_findCosts_115 at h
    refine q_iload (pc := 115) C d_Un_findCosts_115 3 rfl ?_
    refine q_aload_n (pc := 117) C d_Un_findCosts_117 rfl 1 rfl ?_
    refine q_get (pc := 118) (c := o1) (ci := 2) (k := 4) (v := .int (σ o1 4)) C ho1 (by decide) (by decide) wd_101 rfl d_Un_findCosts_118 ?_
    obtain ⟨h5, h6⟩ := h
    refine q_icmp_ge (pc := 121) 136 C d_Un_findCosts_121 (by decide) (fun hc => ?_) (fun hc => ?_)
    · have h := h5 hc
      refine q_iinc (pc := 136) (v2 + (-1 : Int32)) [(2, .int (v2 + (-1 : Int32))), (0, .ref (ya Y 22)), (1, .ref (ya Y o1)), (4, .int v4)] C d_Un_findCosts_136 2 rfl rfl (by decide) rfl ?_
      refine q_goto (pc := 139) 15 C d_Un_findCosts_139 (by decide) ?_
      refine q_sub [(0, .ref (ya Y 22)), (1, .ref (ya Y o1)), (2, .int (v2 + (-1 : Int32)))] [1, 2, 0] rfl ?_
      exact H15 (v2 + (-1 : Int32)) σ h
    have h := h6 hc
    refine q_aload_n (pc := 124) C d_Un_findCosts_124 rfl 0 rfl ?_
    refine q_iload (pc := 125) C d_Un_findCosts_125 3 rfl ?_
    refine q_callVV (pc := 127) (st := []) (d := 22) C (m_Un_letGoOn hY h) mi_Un_letGoOn rfl (by decide) rfl wd_455 rfl rfl (Nat.le_of_ble_eq_true rfl) (by decide) (by decide) d_Un_findCosts_127 (fun τ127 h => ?_)
    refine q_iinc (pc := 130) (v4 + (1 : Int32)) [(4, .int (v4 + (1 : Int32))), (0, .ref (ya Y 22)), (1, .ref (ya Y o1)), (2, .int v2)] C d_Un_findCosts_130 3 rfl rfl (by decide) rfl ?_
    refine q_goto (pc := 133) 115 C d_Un_findCosts_133 (by decide) ?_
    refine q_sub [(0, .ref (ya Y 22)), (1, .ref (ya Y o1)), (2, .int v2), (4, .int (v4 + (1 : Int32)))] [1, 2, 3, 0] rfl ?_
    exact ih (v4 + (1 : Int32)) τ127 h
def B_Un_findCosts_84 (o1 : Nat) (K : Sg → Prop) (r15 : Int32 → Sg → Prop) (r34 : Int32 → Sg → Prop) (v2 : Int32) (v3 : Int32) (v4 : Int32) (vs0 : Int32) (vs1 : Int32) (cs2 : Nat) (σ : Sg) : Prop :=
  (vp_in vs1 256 ∧ (∀ τ84 : Sg, τ84 = s2 σ cs2 vs1.toNatClampNeg vs0 → r34 (v4 + (1 : Int32)) τ84))
theorem t_Un_findCosts_84 {X : Bx} {Y : Yx} {o1 : Nat} {v2 : Int32} {v3 : Int32} {v4 : Int32} {vs0 : Int32} {vs1 : Int32} {cs2 : Nat} {K : Sg → Prop} {r15 : Int32 → Sg → Prop} {r34 : Int32 → Sg → Prop} (hY : YD Y) (C : Cx X Y prog_7_method_6_code 6 "LoadCycles$Unmixer" 2 60) (hr : (xh X).sig.returnType = none) (ho1 : kd o1 = 2) (hkcs2 : ia cs2 256) (H15 : ∀ (v2 : Int32) (σ : Sg), r15 v2 σ → St X Y 6 (QV X Y K) 15 [(0, .ref (ya Y 22)), (1, .ref (ya Y o1)), (2, .int v2)] [] σ) (H34 : ∀ (v4 : Int32) (σ : Sg), r34 v4 σ → St X Y 6 (QV X Y K) 34 [(0, .ref (ya Y 22)), (1, .ref (ya Y o1)), (2, .int v2), (3, .int v3), (4, .int v4)] [] σ)  {σ : Sg} (h : B_Un_findCosts_84 o1 K r15 r34 v2 v3 v4 vs0 vs1 cs2 σ) : St X Y 6 (QV X Y K) 84 [(0, .ref (ya Y 22)), (1, .ref (ya Y o1)), (2, .int v2), (3, .int v3), (4, .int v4)] [.int vs0, .int vs1, .ref (ya Y cs2)] σ := by
  unfold B_Un_findCosts_84 at h
  obtain ⟨h12, h⟩ := h
  refine q_iast (pc := 84) (c := cs2) C hkcs2 h12 d_Un_findCosts_84 ?_
  refine q_nms (fun τ84 eτ84 => ?_)
  replace h := h τ84 eτ84
  refine q_iinc (pc := 85) (v4 + (1 : Int32)) [(4, .int (v4 + (1 : Int32))), (0, .ref (ya Y 22)), (1, .ref (ya Y o1)), (2, .int v2), (3, .int v3)] C d_Un_findCosts_85 4 rfl rfl (by decide) rfl ?_
  refine q_goto (pc := 88) 34 C d_Un_findCosts_88 (by decide) ?_
  refine q_sub [(0, .ref (ya Y 22)), (1, .ref (ya Y o1)), (2, .int v2), (3, .int v3), (4, .int (v4 + (1 : Int32)))] [1, 2, 3, 4, 0] rfl ?_
  exact H34 (v4 + (1 : Int32)) τ84 h
def L_Un_findCosts_34 (o1 : Nat) (v2 : Int32) (v3 : Int32) (K : Sg → Prop) (r15 : Int32 → Sg → Prop) : Nat → Int32 → Sg → Prop
  | 0, _, _ => False
  | n + 1, v4, σ =>
    (((σ 22 5) ≤ v4 → (ia (σ 22 3).toNatClampNeg 256 ∧ (cpk (0 : Int32) (v2 * (256 : Int32)) (σ 22 5) 256 5120 ∧ (∀ τ109 : Sg, τ109 = s1 σ 25 (va_cpy (σ (σ 22 3).toNatClampNeg) (σ 25) (0 : Int32).toNatClampNeg (v2 * (256 : Int32)).toNatClampNeg (σ 22 5).toNatClampNeg) → (∃ n7 : Nat, L_Un_findCosts_115 o1 v2 K r15 n7 (0 : Int32) τ109))))) ∧ (¬ (σ 22 5) ≤ v4 → (vp_in v4 256 ∧ (∀ y5_52 : Int32, y5_52 = (v3 - (σ 23 v4.toNatClampNeg)) → (ia (σ 22 3).toNatClampNeg 256 ∧ ((0 ≤ y5_52 → (ia (σ 22 3).toNatClampNeg 256 ∧ (vp_in v4 256 ∧ B_Un_findCosts_84 o1 K r15 (fun a0 a1 => L_Un_findCosts_34 o1 v2 v3 K r15 n a0 a1) v2 v3 v4 ((y5_52 * (1000 : Int32)) + (σ (σ 22 3).toNatClampNeg v4.toNatClampNeg)) v4 (σ 22 3).toNatClampNeg σ))) ∧ (¬ 0 ≤ y5_52 → B_Un_findCosts_84 o1 K r15 (fun a0 a1 => L_Un_findCosts_34 o1 v2 v3 K r15 n a0 a1) v2 v3 v4 (536870912 : Int32) v4 (σ 22 3).toNatClampNeg σ)))))))
theorem t_Un_findCosts_34 {X : Bx} {Y : Yx} {o1 : Nat} {v2 : Int32} {v3 : Int32} {K : Sg → Prop} {r15 : Int32 → Sg → Prop} (hY : YD Y) (C : Cx X Y prog_7_method_6_code 6 "LoadCycles$Unmixer" 2 60) (hr : (xh X).sig.returnType = none) (ho1 : kd o1 = 2) (H15 : ∀ (v2 : Int32) (σ : Sg), r15 v2 σ → St X Y 6 (QV X Y K) 15 [(0, .ref (ya Y 22)), (1, .ref (ya Y o1)), (2, .int v2)] [] σ) : ∀ (n : Nat) (v4 : Int32) (σ : Sg), L_Un_findCosts_34 o1 v2 v3 K r15 n v4 σ → St X Y 6 (QV X Y K) 34 [(0, .ref (ya Y 22)), (1, .ref (ya Y o1)), (2, .int v2), (3, .int v3), (4, .int v4)] [] σ := by
  intro n
  induction n with
  | zero => intro v4 σ h; exact h.elim
  | succ n ih =>
    intro v4 σ h
    unfold L_Un_findCosts_34 at h
    refine q_iload (pc := 34) C d_Un_findCosts_34 4 rfl ?_
    refine q_aload_n (pc := 36) C d_Un_findCosts_36 rfl 0 rfl ?_
    refine q_get (pc := 37) (c := 22) (ci := 5) (k := 5) (v := .int (σ 22 5)) C rfl (by decide) (by decide) wd_166 rfl d_Un_findCosts_37 ?_
    obtain ⟨h15, h16⟩ := h
    refine q_icmp_ge (pc := 40) 91 C d_Un_findCosts_40 (by decide) (fun hc => ?_) (fun hc => ?_)
    · have h := h15 hc
      refine q_aload_n (pc := 91) C d_Un_findCosts_91 rfl 0 rfl ?_
      obtain ⟨h3, h⟩ := h
      refine q_get (pc := 92) (c := 22) (ci := 5) (k := 3) (v := .ref (ya Y (σ 22 3).toNatClampNeg)) C rfl (by decide) (by decide) wd_164 rfl d_Un_findCosts_92 ?_
      refine q_iconst (pc := 95) (v := 0) C d_Un_findCosts_95 (by decide) ?_
      refine q_aload_n (pc := 96) C d_Un_findCosts_96 rfl 0 rfl ?_
      refine q_get (pc := 97) (c := 22) (ci := 5) (k := 2) (v := .ref (ya Y 25)) C rfl (by decide) (by decide) wd_163 rfl d_Un_findCosts_97 ?_
      refine q_iload_n (pc := 100) C d_Un_findCosts_100 rfl 2 rfl ?_
      refine q_sipush (pc := 101) (v := 256) C d_Un_findCosts_101 (by decide) ?_
      refine q_imul (pc := 104) C d_Un_findCosts_104 ?_
      refine q_aload_n (pc := 105) C d_Un_findCosts_105 rfl 0 rfl ?_
      refine q_get (pc := 106) (c := 22) (ci := 5) (k := 5) (v := .int (σ 22 5)) C rfl (by decide) (by decide) wd_166 rfl d_Un_findCosts_106 ?_
      obtain ⟨h4, h⟩ := h
      refine q_copy (pc := 109) (c0 := (σ 22 3).toNatClampNeg) (c1 := 25) (st := []) C h3 ⟨rfl, rfl⟩ h4 wd_454 wd_344 wd_343 wd_73 (by decide) (by decide) d_Un_findCosts_109 ?_
      refine q_nms (fun τ109 eτ109 => ?_)
      replace h := h τ109 eτ109
      refine q_iconst (pc := 112) (v := 0) C d_Un_findCosts_112 (by decide) ?_
      refine q_istore (pc := 113) [(4, .int (0 : Int32)), (0, .ref (ya Y 22)), (1, .ref (ya Y o1)), (2, .int v2), (3, .int v3)] C d_Un_findCosts_113 (by decide) rfl ?_
      obtain ⟨n7, h⟩ := h
      refine q_sub [(0, .ref (ya Y 22)), (1, .ref (ya Y o1)), (2, .int v2), (4, .int (0 : Int32))] [1, 2, 3, 0] rfl ?_
      exact t_Un_findCosts_115 hY C hr ho1 H15 n7 (0 : Int32) τ109 h
    have h := h16 hc
    refine q_iload_n (pc := 43) C d_Un_findCosts_43 rfl 3 rfl ?_
    refine q_aload_n (pc := 44) C d_Un_findCosts_44 rfl 0 rfl ?_
    refine q_get (pc := 45) (c := 22) (ci := 5) (k := 0) (v := .ref (ya Y 23)) C rfl (by decide) (by decide) wd_161 rfl d_Un_findCosts_45 ?_
    refine q_iload (pc := 48) C d_Un_findCosts_48 4 rfl ?_
    obtain ⟨h8, h⟩ := h
    refine q_iald (pc := 50) (c := 23) C ⟨rfl, rfl⟩ h8 d_Un_findCosts_50 ?_
    refine q_isub (pc := 51) C d_Un_findCosts_51 ?_
    refine q_nmi (fun y5_52 ey5_52 => ?_)
    replace h := h y5_52 ey5_52
    refine q_istore (pc := 52) [(5, .int y5_52), (0, .ref (ya Y 22)), (1, .ref (ya Y o1)), (2, .int v2), (3, .int v3), (4, .int v4)] C d_Un_findCosts_52 (by decide) rfl ?_
    refine q_aload_n (pc := 54) C d_Un_findCosts_54 rfl 1 rfl ?_
    obtain ⟨h9, h⟩ := h
    refine q_get (pc := 55) (c := 22) (ci := 5) (k := 3) (v := .ref (ya Y (σ 22 3).toNatClampNeg)) C rfl (by decide) (by decide) wd_164 rfl d_Un_findCosts_55 ?_
    refine q_iload (pc := 58) C d_Un_findCosts_58 5 rfl ?_
    refine q_iload (pc := 60) C d_Un_findCosts_60 0 rfl ?_
    obtain ⟨h13, h14⟩ := h
    refine q_if_ge (pc := 62) 70 C d_Un_findCosts_62 (by decide) (fun hc => ?_) (fun hc => ?_)
    · have h := h13 hc
      refine q_iload (pc := 70) C d_Un_findCosts_70 0 rfl ?_
      refine q_sipush (pc := 72) (v := 1000) C d_Un_findCosts_72 (by decide) ?_
      refine q_imul (pc := 75) C d_Un_findCosts_75 ?_
      refine q_aload_n (pc := 76) C d_Un_findCosts_76 rfl 1 rfl ?_
      obtain ⟨h10, h⟩ := h
      refine q_get (pc := 77) (c := 22) (ci := 5) (k := 3) (v := .ref (ya Y (σ 22 3).toNatClampNeg)) C rfl (by decide) (by decide) wd_164 rfl d_Un_findCosts_77 ?_
      refine q_iload (pc := 80) C d_Un_findCosts_80 5 rfl ?_
      obtain ⟨h11, h⟩ := h
      refine q_iald (pc := 82) (c := (σ 22 3).toNatClampNeg) C h10 h11 d_Un_findCosts_82 ?_
      refine q_iadd (pc := 83) C d_Un_findCosts_83 ?_
      refine q_sub [(0, .ref (ya Y 22)), (1, .ref (ya Y o1)), (2, .int v2), (3, .int v3), (4, .int v4)] [1, 2, 3, 4, 5] rfl ?_
      exact t_Un_findCosts_84 hY C hr ho1 h9 H15 ih h
    have h := h14 hc
    refine q_ldc (pc := 65) C wd_453 d_Un_findCosts_65 ?_
    refine q_goto (pc := 67) 84 C d_Un_findCosts_67 (by decide) ?_
    refine q_sub [(0, .ref (ya Y 22)), (1, .ref (ya Y o1)), (2, .int v2), (3, .int v3), (4, .int v4)] [1, 2, 3, 4, 5] rfl ?_
    exact t_Un_findCosts_84 hY C hr ho1 h9 H15 ih h
def L_Un_findCosts_15 (o1 : Nat) (K : Sg → Prop) : Nat → Int32 → Sg → Prop
  | 0, _, _ => False
  | n + 1, v2, σ =>
    ((v2 < 0 → K σ) ∧ (¬ v2 < 0 → (vp_in v2 20 ∧ (∀ y3_30 : Int32, y3_30 = ((σ (o1 + 4) v2.toNatClampNeg) - (σ o1 6)) → (∃ n17 : Nat, L_Un_findCosts_34 o1 v2 y3_30 K (fun a0 a1 => L_Un_findCosts_15 o1 K n a0 a1) n17 (0 : Int32) σ)))))
theorem t_Un_findCosts_15 {X : Bx} {Y : Yx} {o1 : Nat} {K : Sg → Prop}  (hY : YD Y) (C : Cx X Y prog_7_method_6_code 6 "LoadCycles$Unmixer" 2 60) (hr : (xh X).sig.returnType = none) (ho1 : kd o1 = 2) : ∀ (n : Nat) (v2 : Int32) (σ : Sg), L_Un_findCosts_15 o1 K n v2 σ → St X Y 6 (QV X Y K) 15 [(0, .ref (ya Y 22)), (1, .ref (ya Y o1)), (2, .int v2)] [] σ := by
  intro n
  induction n with
  | zero => intro v2 σ h; exact h.elim
  | succ n ih =>
    intro v2 σ h
    unfold L_Un_findCosts_15 at h
    refine q_iload_n (pc := 15) C d_Un_findCosts_15 rfl 2 rfl ?_
    obtain ⟨h18, h19⟩ := h
    refine q_if_lt (pc := 16) 142 C d_Un_findCosts_16 (by decide) (fun hc => ?_) (fun hc => ?_)
    · have h := h18 hc
      exact q_vret (pc := 142) C hr d_Un_findCosts_142 h
    have h := h19 hc
    refine q_aload_n (pc := 19) C d_Un_findCosts_19 rfl 1 rfl ?_
    refine q_get (pc := 20) (c := o1) (ci := 2) (k := 3) (v := .ref (ya Y (o1 + 4))) C ho1 (by decide) (by decide) wd_99 rfl d_Un_findCosts_20 ?_
    refine q_iload_n (pc := 23) C d_Un_findCosts_23 rfl 2 rfl ?_
    obtain ⟨h2, h⟩ := h
    refine q_iald (pc := 24) (c := (o1 + 4)) C (k2_4 ho1) h2 d_Un_findCosts_24 ?_
    refine q_aload_n (pc := 25) C d_Un_findCosts_25 rfl 1 rfl ?_
    refine q_get (pc := 26) (c := o1) (ci := 2) (k := 6) (v := .int (σ o1 6)) C ho1 (by decide) (by decide) wd_111 rfl d_Un_findCosts_26 ?_
    refine q_isub (pc := 29) C d_Un_findCosts_29 ?_
    refine q_nmi (fun y3_30 ey3_30 => ?_)
    replace h := h y3_30 ey3_30
    refine q_istore_n (pc := 30) [(3, .int y3_30), (0, .ref (ya Y 22)), (1, .ref (ya Y o1)), (2, .int v2)] C d_Un_findCosts_30 rfl (by decide) rfl ?_
    refine q_iconst (pc := 31) (v := 0) C d_Un_findCosts_31 (by decide) ?_
    refine q_istore (pc := 32) [(4, .int (0 : Int32)), (3, .int y3_30), (0, .ref (ya Y 22)), (1, .ref (ya Y o1)), (2, .int v2)] C d_Un_findCosts_32 (by decide) rfl ?_
    obtain ⟨n17, h⟩ := h
    refine q_sub [(0, .ref (ya Y 22)), (1, .ref (ya Y o1)), (2, .int v2), (3, .int y3_30), (4, .int (0 : Int32))] [2, 3, 4, 1, 0] rfl ?_
    exact t_Un_findCosts_34 hY C hr ho1 ih n17 (0 : Int32) σ h
def w_Un_findCosts (o1 : Nat) (σ : Sg) (K : Sg → Prop) : Prop :=
  (ia (σ 22 3).toNatClampNeg 256 ∧ w_Ja_fill (σ 22 3).toNatClampNeg (0 : Int32) σ (fun τ5 => (∀ y2_14 : Int32, y2_14 = ((τ5 o1 5) - (1 : Int32)) → (∃ n20 : Nat, L_Un_findCosts_15 o1 K n20 y2_14 τ5))))
set_option maxHeartbeats 4000000 in
theorem m_Un_findCosts {Y : Yx} {o1 : Nat} {σ : Sg} {K : Sg → Prop} (hY : YD Y) (ho1 : kd o1 = 2) (h : w_Un_findCosts o1 σ K) : MetV Y y_Un_findCosts prog_7_method_6_code 6 2 60 [.ref (ya Y 22), .ref (ya Y o1)] σ K := by
  refine met_V [(0, .ref (ya Y 22)), (1, .ref (ya Y o1))] hY (by decide) (Nat.le_of_ble_eq_true rfl) rfl (fun X C hr => ?_)
  unfold w_Un_findCosts at h
  refine q_aload_n (pc := 0) C d_Un_findCosts_0 rfl 0 rfl ?_
  obtain ⟨h1, h⟩ := h
  refine q_get (pc := 1) (c := 22) (ci := 5) (k := 3) (v := .ref (ya Y (σ 22 3).toNatClampNeg)) C rfl (by decide) (by decide) wd_164 rfl d_Un_findCosts_1 ?_
  refine q_iconst (pc := 4) (v := 0) C d_Un_findCosts_4 (by decide) ?_
  refine q_callSV (pc := 5) (st := []) C (m_Ja_fill hY (iaL h1 : ia (σ 22 3).toNatClampNeg (ln (σ 22 3).toNatClampNeg)) h) mi_Ja_fill wd_450 rfl rfl (Nat.le_of_ble_eq_true rfl) (by decide) (by decide) d_Un_findCosts_5 (fun τ5 h => ?_)
  refine q_aload_n (pc := 8) C d_Un_findCosts_8 rfl 1 rfl ?_
  refine q_get (pc := 9) (c := o1) (ci := 2) (k := 5) (v := .int (τ5 o1 5)) C ho1 (by decide) (by decide) wd_104 rfl d_Un_findCosts_9 ?_
  refine q_iconst (pc := 12) (v := 1) C d_Un_findCosts_12 (by decide) ?_
  refine q_isub (pc := 13) C d_Un_findCosts_13 ?_
  refine q_nmi (fun y2_14 ey2_14 => ?_)
  replace h := h y2_14 ey2_14
  refine q_istore_n (pc := 14) [(2, .int y2_14), (0, .ref (ya Y 22)), (1, .ref (ya Y o1))] C d_Un_findCosts_14 rfl (by decide) rfl ?_
  obtain ⟨n20, h⟩ := h
  refine q_sub [(0, .ref (ya Y 22)), (1, .ref (ya Y o1)), (2, .int y2_14)] [1, 2, 0] rfl ?_
  exact t_Un_findCosts_15 hY C hr ho1 n20 y2_14 τ5 h
theorem d_Ho_allValues_0 : decode prog_4_method_14_code 0 = .ok (.iconst 0, 1) := by decide +kernel
theorem d_Ho_allValues_1 : decode prog_4_method_14_code 1 = .ok (.istore_n 1, 1) := by decide +kernel
theorem d_Ho_allValues_2 : decode prog_4_method_14_code 2 = .ok (.iconst 0, 1) := by decide +kernel
theorem d_Ho_allValues_3 : decode prog_4_method_14_code 3 = .ok (.istore_n 2, 1) := by decide +kernel
theorem d_Ho_allValues_4 : decode prog_4_method_14_code 4 = .ok (.iload_n 2, 1) := by decide +kernel
theorem d_Ho_allValues_5 : decode prog_4_method_14_code 5 = .ok (.aload_n 0, 1) := by decide +kernel
theorem d_Ho_allValues_6 : decode prog_4_method_14_code 6 = .ok (.getfield 34, 3) := by decide +kernel
theorem d_Ho_allValues_9 : decode prog_4_method_14_code 9 = .ok (.if_icmp .ge 18, 3) := by decide +kernel
theorem d_Ho_allValues_12 : decode prog_4_method_14_code 12 = .ok (.iload_n 1, 1) := by decide +kernel
theorem d_Ho_allValues_13 : decode prog_4_method_14_code 13 = .ok (.aload_n 0, 1) := by decide +kernel
theorem d_Ho_allValues_14 : decode prog_4_method_14_code 14 = .ok (.getfield 21, 3) := by decide +kernel
theorem d_Ho_allValues_17 : decode prog_4_method_14_code 17 = .ok (.iload_n 2, 1) := by decide +kernel
theorem d_Ho_allValues_18 : decode prog_4_method_14_code 18 = .ok (.iaload, 1) := by decide +kernel
theorem d_Ho_allValues_19 : decode prog_4_method_14_code 19 = .ok (.iadd, 1) := by decide +kernel
theorem d_Ho_allValues_20 : decode prog_4_method_14_code 20 = .ok (.istore_n 1, 1) := by decide +kernel
theorem d_Ho_allValues_21 : decode prog_4_method_14_code 21 = .ok (.iinc 2 1, 3) := by decide +kernel
theorem d_Ho_allValues_24 : decode prog_4_method_14_code 24 = .ok (.goto (-20), 3) := by decide +kernel
theorem d_Ho_allValues_27 : decode prog_4_method_14_code 27 = .ok (.iload_n 1, 1) := by decide +kernel
theorem d_Ho_allValues_28 : decode prog_4_method_14_code 28 = .ok (.ireturn, 1) := by decide +kernel
abbrev y_Ho_allValues : MethodName := ⟨"LoadCycles$House", "allValues", "()I"⟩
theorem mi_Ho_allValues : miV y_Ho_allValues prog_4_method_14_code 3 (some .int) 0 := ⟨wd_468, wd_469, wd_66, wd_470, by decide, by decide, by decide +kernel⟩
def L_Ho_allValues_4 (o : Nat) (σ : Sg) (K : Int32 → Prop) : Nat → Int32 → Int32 → Prop
  | 0, _, _ => False
  | n + 1, v1, v2 =>
    (((σ o 5) ≤ v2 → K v1) ∧ (¬ (σ o 5) ≤ v2 → (vp_in v2 20 ∧ (∀ y1_20 : Int32, y1_20 = (v1 + (σ (o + 4) v2.toNatClampNeg)) → L_Ho_allValues_4 o σ K n y1_20 (v2 + (1 : Int32))))))
theorem t_Ho_allValues_4 {X : Bx} {Y : Yx} {o : Nat} {σ : Sg} {K : Int32 → Prop}  (hY : YD Y) (C : Cx X Y prog_4_method_14_code 3 "LoadCycles$House" 0 0) (hr : (xh X).sig.returnType = some .int) (ho : kd o = 2) : ∀ (n : Nat) (v1 : Int32) (v2 : Int32), L_Ho_allValues_4 o σ K n v1 v2 → St X Y 3 (QI X Y (fun r τ => τ = σ ∧ K r)) 4 [(0, .ref (ya Y o)), (1, .int v1), (2, .int v2)] [] σ := by
  intro n
  induction n with
  | zero => intro v1 v2 h; exact h.elim
  | succ n ih =>
    intro v1 v2 h
    unfold L_Ho_allValues_4 at h
    refine q_iload_n (pc := 4) C d_Ho_allValues_4 rfl 2 rfl ?_
    refine q_aload_n (pc := 5) C d_Ho_allValues_5 rfl 0 rfl ?_
    refine q_get (pc := 6) (c := o) (ci := 2) (k := 5) (v := .int (σ o 5)) C ho (by decide) (by decide) wd_105 rfl d_Ho_allValues_6 ?_
    obtain ⟨h2, h3⟩ := h
    refine q_icmp_ge (pc := 9) 27 C d_Ho_allValues_9 (by decide) (fun hc => ?_) (fun hc => ?_)
    · have h := h2 hc
      refine q_iload_n (pc := 27) C d_Ho_allValues_27 rfl 1 rfl ?_
      exact q_iret (pc := 28) C hr d_Ho_allValues_28 ⟨rfl, h⟩
    have h := h3 hc
    refine q_iload_n (pc := 12) C d_Ho_allValues_12 rfl 1 rfl ?_
    refine q_aload_n (pc := 13) C d_Ho_allValues_13 rfl 0 rfl ?_
    refine q_get (pc := 14) (c := o) (ci := 2) (k := 3) (v := .ref (ya Y (o + 4))) C ho (by decide) (by decide) wd_97 rfl d_Ho_allValues_14 ?_
    refine q_iload_n (pc := 17) C d_Ho_allValues_17 rfl 2 rfl ?_
    obtain ⟨h1, h⟩ := h
    refine q_iald (pc := 18) (c := (o + 4)) C (k2_4 ho) h1 d_Ho_allValues_18 ?_
    refine q_iadd (pc := 19) C d_Ho_allValues_19 ?_
    refine q_nmi (fun y1_20 ey1_20 => ?_)
    replace h := h y1_20 ey1_20
    refine q_istore_n (pc := 20) [(1, .int y1_20), (0, .ref (ya Y o)), (2, .int v2)] C d_Ho_allValues_20 rfl (by decide) rfl ?_
    refine q_iinc (pc := 21) (v2 + (1 : Int32)) [(2, .int (v2 + (1 : Int32))), (1, .int y1_20), (0, .ref (ya Y o))] C d_Ho_allValues_21 2 rfl rfl (by decide) rfl ?_
    refine q_goto (pc := 24) 4 C d_Ho_allValues_24 (by decide) ?_
    refine q_sub [(0, .ref (ya Y o)), (1, .int y1_20), (2, .int (v2 + (1 : Int32)))] [2, 1, 0] rfl ?_
    exact ih y1_20 (v2 + (1 : Int32)) h
def w_Ho_allValues (o : Nat) (σ : Sg) (K : Int32 → Prop) : Prop :=
  (∃ n4 : Nat, L_Ho_allValues_4 o σ K n4 (0 : Int32) (0 : Int32))
set_option maxHeartbeats 4000000 in
theorem m_Ho_allValues {Y : Yx} {o : Nat} {σ : Sg} {K : Int32 → Prop} (hY : YD Y) (ho : kd o = 2) (h : w_Ho_allValues o σ K) : MetI Y y_Ho_allValues prog_4_method_14_code 3 (.int) 0 0 [.ref (ya Y o)] σ (fun r τ => τ = σ ∧ K r) := by
  refine met_I [(0, .ref (ya Y o))] hY (by decide) (Nat.le_of_ble_eq_true rfl) rfl (fun X C hr => ?_)
  unfold w_Ho_allValues at h
  refine q_iconst (pc := 0) (v := 0) C d_Ho_allValues_0 (by decide) ?_
  refine q_istore_n (pc := 1) [(1, .int (0 : Int32)), (0, .ref (ya Y o))] C d_Ho_allValues_1 rfl (by decide) rfl ?_
  refine q_iconst (pc := 2) (v := 0) C d_Ho_allValues_2 (by decide) ?_
  refine q_istore_n (pc := 3) [(2, .int (0 : Int32)), (1, .int (0 : Int32)), (0, .ref (ya Y o))] C d_Ho_allValues_3 rfl (by decide) rfl ?_
  obtain ⟨n4, h⟩ := h
  refine q_sub [(0, .ref (ya Y o)), (1, .int (0 : Int32)), (2, .int (0 : Int32))] [2, 1, 0] rfl ?_
  exact t_Ho_allValues_4 hY C hr ho n4 (0 : Int32) (0 : Int32) h
theorem d_Do_begin_0 : decode prog_2_method_5_code 0 = .ok (.aload_n 0, 1) := by decide +kernel
theorem d_Do_begin_1 : decode prog_2_method_5_code 1 = .ok (.getfield 15, 3) := by decide +kernel
theorem d_Do_begin_4 : decode prog_2_method_5_code 4 = .ok (.iconst 0, 1) := by decide +kernel
theorem d_Do_begin_5 : decode prog_2_method_5_code 5 = .ok (.invokestatic 35, 3) := by decide +kernel
theorem d_Do_begin_8 : decode prog_2_method_5_code 8 = .ok (.aload_n 0, 1) := by decide +kernel
theorem d_Do_begin_9 : decode prog_2_method_5_code 9 = .ok (.iconst 0, 1) := by decide +kernel
theorem d_Do_begin_10 : decode prog_2_method_5_code 10 = .ok (.putfield 32, 3) := by decide +kernel
theorem d_Do_begin_13 : decode prog_2_method_5_code 13 = .ok (.aload_n 0, 1) := by decide +kernel
theorem d_Do_begin_14 : decode prog_2_method_5_code 14 = .ok (.aload_n 1, 1) := by decide +kernel
theorem d_Do_begin_15 : decode prog_2_method_5_code 15 = .ok (.invokevirtual 41, 3) := by decide +kernel
theorem d_Do_begin_18 : decode prog_2_method_5_code 18 = .ok (.aload_n 1, 1) := by decide +kernel
theorem d_Do_begin_19 : decode prog_2_method_5_code 19 = .ok (.getfield 47, 3) := by decide +kernel
theorem d_Do_begin_22 : decode prog_2_method_5_code 22 = .ok (.aload_n 1, 1) := by decide +kernel
theorem d_Do_begin_23 : decode prog_2_method_5_code 23 = .ok (.getfield 50, 3) := by decide +kernel
theorem d_Do_begin_26 : decode prog_2_method_5_code 26 = .ok (.imul, 1) := by decide +kernel
theorem d_Do_begin_27 : decode prog_2_method_5_code 27 = .ok (.isub, 1) := by decide +kernel
theorem d_Do_begin_28 : decode prog_2_method_5_code 28 = .ok (.putfield 22, 3) := by decide +kernel
theorem d_Do_begin_31 : decode prog_2_method_5_code 31 = .ok (.aload_n 0, 1) := by decide +kernel
theorem d_Do_begin_32 : decode prog_2_method_5_code 32 = .ok (.iconst 0, 1) := by decide +kernel
theorem d_Do_begin_33 : decode prog_2_method_5_code 33 = .ok (.putfield 26, 3) := by decide +kernel
theorem d_Do_begin_36 : decode prog_2_method_5_code 36 = .ok (.aload_n 0, 1) := by decide +kernel
theorem d_Do_begin_37 : decode prog_2_method_5_code 37 = .ok (.iconst 0, 1) := by decide +kernel
theorem d_Do_begin_38 : decode prog_2_method_5_code 38 = .ok (.putfield 29, 3) := by decide +kernel
theorem d_Do_begin_41 : decode prog_2_method_5_code 41 = .ok (.return_, 1) := by decide +kernel
abbrev y_Do_begin : MethodName := ⟨"LoadCycles$Doing", "begin", "(LLoadCycles$House;)V"⟩
theorem mi_Do_begin : miV y_Do_begin prog_2_method_5_code 2 none 1 := ⟨wd_463, wd_464, wd_67, wd_465, by decide, by decide, by decide +kernel⟩
def w_Do_begin (o : Nat) (o1 : Nat) (σ : Sg) (K : Sg → Prop) : Prop :=
  w_Ja_fill (o + 2) (0 : Int32) σ (fun τ5 => (∀ τ10 : Sg, τ10 = s2 τ5 o 2 (0 : Int32) → w_Ho_allValues o1 τ10 (fun u15 => (∀ τ28 : Sg, τ28 = s2 τ10 o 3 (u15 - ((τ10 o1 5) * (τ10 o1 6))) → (∀ τ33 : Sg, τ33 = s2 τ28 o 4 (0 : Int32) → (∀ τ38 : Sg, τ38 = s2 τ33 o 5 (0 : Int32) → K τ38))))))
set_option maxHeartbeats 4000000 in
theorem m_Do_begin {Y : Yx} {o : Nat} {o1 : Nat} {σ : Sg} {K : Sg → Prop} (hY : YD Y) (ho : kd o = 0) (ho1 : kd o1 = 2) (h : w_Do_begin o o1 σ K) : MetV Y y_Do_begin prog_2_method_5_code 2 1 23 [.ref (ya Y o), .ref (ya Y o1)] σ K := by
  refine met_V [(0, .ref (ya Y o)), (1, .ref (ya Y o1))] hY (by decide) (Nat.le_of_ble_eq_true rfl) rfl (fun X C hr => ?_)
  unfold w_Do_begin at h
  refine q_aload_n (pc := 0) C d_Do_begin_0 rfl 0 rfl ?_
  refine q_get (pc := 1) (c := o) (ci := 0) (k := 1) (v := .ref (ya Y (o + 2))) C ho (by decide) (by decide) wd_135 rfl d_Do_begin_1 ?_
  refine q_iconst (pc := 4) (v := 0) C d_Do_begin_4 (by decide) ?_
  refine q_callSV (pc := 5) (st := []) C (m_Ja_fill hY (iaL (k0_2 ho) : ia (o + 2) (ln (o + 2))) h) mi_Ja_fill wd_466 rfl rfl (Nat.le_of_ble_eq_true rfl) (by decide) (by decide) d_Do_begin_5 (fun τ5 h => ?_)
  refine q_aload_n (pc := 8) C d_Do_begin_8 rfl 0 rfl ?_
  refine q_iconst (pc := 9) (v := 0) C d_Do_begin_9 (by decide) ?_
  refine q_put (pc := 10) (c := o) (ci := 0) (k := 2) C ho (by decide) (by decide) wd_138 rfl rfl rfl fs_0_2 d_Do_begin_10 ?_
  refine q_nms (fun τ10 eτ10 => ?_)
  replace h := h τ10 eτ10
  refine q_aload_n (pc := 13) C d_Do_begin_13 rfl 0 rfl ?_
  refine q_aload_n (pc := 14) C d_Do_begin_14 rfl 1 rfl ?_
  refine q_callVIr (pc := 15) (st := [.ref (ya Y o)]) (d := o1) C (m_Ho_allValues hY ho1 h) mi_Ho_allValues ho1 (by decide) rfl wd_467 rfl rfl (Nat.le_of_ble_eq_true rfl) (by decide) (by decide) d_Do_begin_15 (fun u15 h => ?_)
  refine q_aload_n (pc := 18) C d_Do_begin_18 rfl 1 rfl ?_
  refine q_get (pc := 19) (c := o1) (ci := 2) (k := 5) (v := .int (τ10 o1 5)) C ho1 (by decide) (by decide) wd_106 rfl d_Do_begin_19 ?_
  refine q_aload_n (pc := 22) C d_Do_begin_22 rfl 1 rfl ?_
  refine q_get (pc := 23) (c := o1) (ci := 2) (k := 6) (v := .int (τ10 o1 6)) C ho1 (by decide) (by decide) wd_109 rfl d_Do_begin_23 ?_
  refine q_imul (pc := 26) C d_Do_begin_26 ?_
  refine q_isub (pc := 27) C d_Do_begin_27 ?_
  refine q_put (pc := 28) (c := o) (ci := 0) (k := 3) C ho (by decide) (by decide) wd_139 rfl rfl rfl fs_0_3 d_Do_begin_28 ?_
  refine q_nms (fun τ28 eτ28 => ?_)
  replace h := h τ28 eτ28
  refine q_aload_n (pc := 31) C d_Do_begin_31 rfl 0 rfl ?_
  refine q_iconst (pc := 32) (v := 0) C d_Do_begin_32 (by decide) ?_
  refine q_put (pc := 33) (c := o) (ci := 0) (k := 4) C ho (by decide) (by decide) wd_140 rfl rfl rfl fs_0_4 d_Do_begin_33 ?_
  refine q_nms (fun τ33 eτ33 => ?_)
  replace h := h τ33 eτ33
  refine q_aload_n (pc := 36) C d_Do_begin_36 rfl 0 rfl ?_
  refine q_iconst (pc := 37) (v := 0) C d_Do_begin_37 (by decide) ?_
  refine q_put (pc := 38) (c := o) (ci := 0) (k := 5) C ho (by decide) (by decide) wd_141 rfl rfl rfl fs_0_5 d_Do_begin_38 ?_
  refine q_nms (fun τ38 eτ38 => ?_)
  replace h := h τ38 eτ38
  exact q_vret (pc := 41) C hr d_Do_begin_41 h
theorem d_Un_mixBehind_0 : decode prog_7_method_9_code 0 = .ok (.iload_n 2, 1) := by decide +kernel
theorem d_Un_mixBehind_1 : decode prog_7_method_9_code 1 = .ok (.istore 4, 2) := by decide +kernel
theorem d_Un_mixBehind_3 : decode prog_7_method_9_code 3 = .ok (.iconst 0, 1) := by decide +kernel
theorem d_Un_mixBehind_4 : decode prog_7_method_9_code 4 = .ok (.istore 5, 2) := by decide +kernel
theorem d_Un_mixBehind_6 : decode prog_7_method_9_code 6 = .ok (.iload 5, 2) := by decide +kernel
theorem d_Un_mixBehind_8 : decode prog_7_method_9_code 8 = .ok (.aload_n 1, 1) := by decide +kernel
theorem d_Un_mixBehind_9 : decode prog_7_method_9_code 9 = .ok (.getfield 52, 3) := by decide +kernel
theorem d_Un_mixBehind_12 : decode prog_7_method_9_code 12 = .ok (.if_icmp .ge 35, 3) := by decide +kernel
theorem d_Un_mixBehind_15 : decode prog_7_method_9_code 15 = .ok (.iload_n 3, 1) := by decide +kernel
theorem d_Un_mixBehind_16 : decode prog_7_method_9_code 16 = .ok (.iload 5, 2) := by decide +kernel
theorem d_Un_mixBehind_18 : decode prog_7_method_9_code 18 = .ok (.ishr, 1) := by decide +kernel
theorem d_Un_mixBehind_19 : decode prog_7_method_9_code 19 = .ok (.iconst 1, 1) := by decide +kernel
theorem d_Un_mixBehind_20 : decode prog_7_method_9_code 20 = .ok (.iand, 1) := by decide +kernel
theorem d_Un_mixBehind_21 : decode prog_7_method_9_code 21 = .ok (.iconst 1, 1) := by decide +kernel
theorem d_Un_mixBehind_22 : decode prog_7_method_9_code 22 = .ok (.if_icmp .ne 19, 3) := by decide +kernel
theorem d_Un_mixBehind_25 : decode prog_7_method_9_code 25 = .ok (.aload_n 0, 1) := by decide +kernel
theorem d_Un_mixBehind_26 : decode prog_7_method_9_code 26 = .ok (.getfield 15, 3) := by decide +kernel
theorem d_Un_mixBehind_29 : decode prog_7_method_9_code 29 = .ok (.iload 5, 2) := by decide +kernel
theorem d_Un_mixBehind_31 : decode prog_7_method_9_code 31 = .ok (.sipush 256, 3) := by decide +kernel
theorem d_Un_mixBehind_34 : decode prog_7_method_9_code 34 = .ok (.imul, 1) := by decide +kernel
theorem d_Un_mixBehind_35 : decode prog_7_method_9_code 35 = .ok (.iload 4, 2) := by decide +kernel
theorem d_Un_mixBehind_37 : decode prog_7_method_9_code 37 = .ok (.iadd, 1) := by decide +kernel
theorem d_Un_mixBehind_38 : decode prog_7_method_9_code 38 = .ok (.iaload, 1) := by decide +kernel
theorem d_Un_mixBehind_39 : decode prog_7_method_9_code 39 = .ok (.istore 4, 2) := by decide +kernel
theorem d_Un_mixBehind_41 : decode prog_7_method_9_code 41 = .ok (.iinc 5 1, 3) := by decide +kernel
theorem d_Un_mixBehind_44 : decode prog_7_method_9_code 44 = .ok (.goto (-38), 3) := by decide +kernel
theorem d_Un_mixBehind_47 : decode prog_7_method_9_code 47 = .ok (.iload 4, 2) := by decide +kernel
theorem d_Un_mixBehind_49 : decode prog_7_method_9_code 49 = .ok (.ireturn, 1) := by decide +kernel
abbrev y_Un_mixBehind : MethodName := ⟨"LoadCycles$Unmixer", "mixBehind", "(LLoadCycles$House;II)I"⟩
theorem mi_Un_mixBehind : miV y_Un_mixBehind prog_7_method_9_code 6 (some .int) 3 := ⟨wd_477, wd_15, wd_68, wd_478, by decide, by decide, by decide +kernel⟩
def L_Un_mixBehind_6 (o1 : Nat) (x2 : Int32) (x3 : Int32) (σ : Sg) (K : Int32 → Prop) : Nat → Int32 → Int32 → Prop
  | 0, _, _ => False
  | n + 1, v4, v5 =>
    (((σ o1 4) ≤ v5 → K v4) ∧ (¬ (σ o1 4) ≤ v5 → ((¬ ((x3 >>> (v5 &&& 31)) &&& (1 : Int32)) = (1 : Int32) → L_Un_mixBehind_6 o1 x2 x3 σ K n v4 (v5 + (1 : Int32))) ∧ (((x3 >>> (v5 &&& 31)) &&& (1 : Int32)) = (1 : Int32) → (vp_in ((v5 * (256 : Int32)) + v4) 1024 ∧ (∀ y4_39 : Int32, y4_39 = (σ 24 ((v5 * (256 : Int32)) + v4).toNatClampNeg) → L_Un_mixBehind_6 o1 x2 x3 σ K n y4_39 (v5 + (1 : Int32))))))))
theorem t_Un_mixBehind_6 {X : Bx} {Y : Yx} {o1 : Nat} {x2 : Int32} {x3 : Int32} {σ : Sg} {K : Int32 → Prop}  (hY : YD Y) (C : Cx X Y prog_7_method_9_code 6 "LoadCycles$Unmixer" 0 0) (hr : (xh X).sig.returnType = some .int) (ho1 : kd o1 = 2) : ∀ (n : Nat) (v4 : Int32) (v5 : Int32), L_Un_mixBehind_6 o1 x2 x3 σ K n v4 v5 → St X Y 6 (QI X Y (fun r τ => τ = σ ∧ K r)) 6 [(0, .ref (ya Y 22)), (1, .ref (ya Y o1)), (3, .int x3), (4, .int v4), (5, .int v5)] [] σ := by
  intro n
  induction n with
  | zero => intro v4 v5 h; exact h.elim
  | succ n ih =>
    intro v4 v5 h
    unfold L_Un_mixBehind_6 at h
    refine q_iload (pc := 6) C d_Un_mixBehind_6 4 rfl ?_
    refine q_aload_n (pc := 8) C d_Un_mixBehind_8 rfl 1 rfl ?_
    refine q_get (pc := 9) (c := o1) (ci := 2) (k := 4) (v := .int (σ o1 4)) C ho1 (by decide) (by decide) wd_101 rfl d_Un_mixBehind_9 ?_
    obtain ⟨h4, h5⟩ := h
    refine q_icmp_ge (pc := 12) 47 C d_Un_mixBehind_12 (by decide) (fun hc => ?_) (fun hc => ?_)
    · have h := h4 hc
      refine q_iload (pc := 47) C d_Un_mixBehind_47 3 rfl ?_
      exact q_iret (pc := 49) C hr d_Un_mixBehind_49 ⟨rfl, h⟩
    have h := h5 hc
    refine q_iload_n (pc := 15) C d_Un_mixBehind_15 rfl 2 rfl ?_
    refine q_iload (pc := 16) C d_Un_mixBehind_16 4 rfl ?_
    refine q_ishr (pc := 18) C d_Un_mixBehind_18 ?_
    refine q_iconst (pc := 19) (v := 1) C d_Un_mixBehind_19 (by decide) ?_
    refine q_iand (pc := 20) C d_Un_mixBehind_20 ?_
    refine q_iconst (pc := 21) (v := 1) C d_Un_mixBehind_21 (by decide) ?_
    obtain ⟨h2, h3⟩ := h
    refine q_icmp_ne (pc := 22) 41 C d_Un_mixBehind_22 (by decide) (fun hc => ?_) (fun hc => ?_)
    · have h := h2 hc
      refine q_iinc (pc := 41) (v5 + (1 : Int32)) [(5, .int (v5 + (1 : Int32))), (0, .ref (ya Y 22)), (1, .ref (ya Y o1)), (3, .int x3), (4, .int v4)] C d_Un_mixBehind_41 4 rfl rfl (by decide) rfl ?_
      refine q_goto (pc := 44) 6 C d_Un_mixBehind_44 (by decide) ?_
      refine q_sub [(0, .ref (ya Y 22)), (1, .ref (ya Y o1)), (3, .int x3), (4, .int v4), (5, .int (v5 + (1 : Int32)))] [1, 2, 3, 4, 0] rfl ?_
      exact ih v4 (v5 + (1 : Int32)) h
    have h := h3 hc
    refine q_aload_n (pc := 25) C d_Un_mixBehind_25 rfl 0 rfl ?_
    refine q_get (pc := 26) (c := 22) (ci := 5) (k := 1) (v := .ref (ya Y 24)) C rfl (by decide) (by decide) wd_162 rfl d_Un_mixBehind_26 ?_
    refine q_iload (pc := 29) C d_Un_mixBehind_29 4 rfl ?_
    refine q_sipush (pc := 31) (v := 256) C d_Un_mixBehind_31 (by decide) ?_
    refine q_imul (pc := 34) C d_Un_mixBehind_34 ?_
    refine q_iload (pc := 35) C d_Un_mixBehind_35 3 rfl ?_
    refine q_iadd (pc := 37) C d_Un_mixBehind_37 ?_
    obtain ⟨h1, h⟩ := h
    refine q_iald (pc := 38) (c := 24) C ⟨rfl, rfl⟩ h1 d_Un_mixBehind_38 ?_
    refine q_nmi (fun y4_39 ey4_39 => ?_)
    replace h := h y4_39 ey4_39
    refine q_istore (pc := 39) [(4, .int y4_39), (0, .ref (ya Y 22)), (1, .ref (ya Y o1)), (3, .int x3), (5, .int v5)] C d_Un_mixBehind_39 (by decide) rfl ?_
    refine q_iinc (pc := 41) (v5 + (1 : Int32)) [(5, .int (v5 + (1 : Int32))), (4, .int y4_39), (0, .ref (ya Y 22)), (1, .ref (ya Y o1)), (3, .int x3)] C d_Un_mixBehind_41 4 rfl rfl (by decide) rfl ?_
    refine q_goto (pc := 44) 6 C d_Un_mixBehind_44 (by decide) ?_
    refine q_sub [(0, .ref (ya Y 22)), (1, .ref (ya Y o1)), (3, .int x3), (4, .int y4_39), (5, .int (v5 + (1 : Int32)))] [2, 3, 4, 1, 0] rfl ?_
    exact ih y4_39 (v5 + (1 : Int32)) h
def w_Un_mixBehind (o1 : Nat) (x2 : Int32) (x3 : Int32) (σ : Sg) (K : Int32 → Prop) : Prop :=
  (∃ n6 : Nat, L_Un_mixBehind_6 o1 x2 x3 σ K n6 x2 (0 : Int32))
set_option maxHeartbeats 4000000 in
theorem m_Un_mixBehind {Y : Yx} {o1 : Nat} {x2 : Int32} {x3 : Int32} {σ : Sg} {K : Int32 → Prop} (hY : YD Y) (ho1 : kd o1 = 2) (h : w_Un_mixBehind o1 x2 x3 σ K) : MetI Y y_Un_mixBehind prog_7_method_9_code 6 (.int) 0 0 [.ref (ya Y 22), .ref (ya Y o1), .int x2, .int x3] σ (fun r τ => τ = σ ∧ K r) := by
  refine met_I [(0, .ref (ya Y 22)), (1, .ref (ya Y o1)), (2, .int x2), (3, .int x3)] hY (by decide) (Nat.le_of_ble_eq_true rfl) rfl (fun X C hr => ?_)
  unfold w_Un_mixBehind at h
  refine q_iload_n (pc := 0) C d_Un_mixBehind_0 rfl 2 rfl ?_
  refine q_istore (pc := 1) [(4, .int x2), (0, .ref (ya Y 22)), (1, .ref (ya Y o1)), (2, .int x2), (3, .int x3)] C d_Un_mixBehind_1 (by decide) rfl ?_
  refine q_iconst (pc := 3) (v := 0) C d_Un_mixBehind_3 (by decide) ?_
  refine q_istore (pc := 4) [(5, .int (0 : Int32)), (4, .int x2), (0, .ref (ya Y 22)), (1, .ref (ya Y o1)), (2, .int x2), (3, .int x3)] C d_Un_mixBehind_4 (by decide) rfl ?_
  obtain ⟨n6, h⟩ := h
  refine q_sub [(0, .ref (ya Y 22)), (1, .ref (ya Y o1)), (3, .int x3), (4, .int x2), (5, .int (0 : Int32))] [2, 3, 5, 1, 0] rfl ?_
  exact t_Un_mixBehind_6 hY C hr ho1 n6 x2 (0 : Int32) h
theorem d_Ji_bitCount_0 : decode prog_10_method_49_code 0 = .ok (.iload_n 0, 1) := by decide +kernel
theorem d_Ji_bitCount_1 : decode prog_10_method_49_code 1 = .ok (.iload_n 0, 1) := by decide +kernel
theorem d_Ji_bitCount_2 : decode prog_10_method_49_code 2 = .ok (.iconst 1, 1) := by decide +kernel
theorem d_Ji_bitCount_3 : decode prog_10_method_49_code 3 = .ok (.iushr, 1) := by decide +kernel
theorem d_Ji_bitCount_4 : decode prog_10_method_49_code 4 = .ok (.ldc_w 265, 3) := by decide +kernel
theorem d_Ji_bitCount_7 : decode prog_10_method_49_code 7 = .ok (.iand, 1) := by decide +kernel
theorem d_Ji_bitCount_8 : decode prog_10_method_49_code 8 = .ok (.isub, 1) := by decide +kernel
theorem d_Ji_bitCount_9 : decode prog_10_method_49_code 9 = .ok (.istore_n 0, 1) := by decide +kernel
theorem d_Ji_bitCount_10 : decode prog_10_method_49_code 10 = .ok (.iload_n 0, 1) := by decide +kernel
theorem d_Ji_bitCount_11 : decode prog_10_method_49_code 11 = .ok (.ldc_w 266, 3) := by decide +kernel
theorem d_Ji_bitCount_14 : decode prog_10_method_49_code 14 = .ok (.iand, 1) := by decide +kernel
theorem d_Ji_bitCount_15 : decode prog_10_method_49_code 15 = .ok (.iload_n 0, 1) := by decide +kernel
theorem d_Ji_bitCount_16 : decode prog_10_method_49_code 16 = .ok (.iconst 2, 1) := by decide +kernel
theorem d_Ji_bitCount_17 : decode prog_10_method_49_code 17 = .ok (.iushr, 1) := by decide +kernel
theorem d_Ji_bitCount_18 : decode prog_10_method_49_code 18 = .ok (.ldc_w 266, 3) := by decide +kernel
theorem d_Ji_bitCount_21 : decode prog_10_method_49_code 21 = .ok (.iand, 1) := by decide +kernel
theorem d_Ji_bitCount_22 : decode prog_10_method_49_code 22 = .ok (.iadd, 1) := by decide +kernel
theorem d_Ji_bitCount_23 : decode prog_10_method_49_code 23 = .ok (.istore_n 0, 1) := by decide +kernel
theorem d_Ji_bitCount_24 : decode prog_10_method_49_code 24 = .ok (.iload_n 0, 1) := by decide +kernel
theorem d_Ji_bitCount_25 : decode prog_10_method_49_code 25 = .ok (.iload_n 0, 1) := by decide +kernel
theorem d_Ji_bitCount_26 : decode prog_10_method_49_code 26 = .ok (.iconst 4, 1) := by decide +kernel
theorem d_Ji_bitCount_27 : decode prog_10_method_49_code 27 = .ok (.iushr, 1) := by decide +kernel
theorem d_Ji_bitCount_28 : decode prog_10_method_49_code 28 = .ok (.iadd, 1) := by decide +kernel
theorem d_Ji_bitCount_29 : decode prog_10_method_49_code 29 = .ok (.ldc_w 267, 3) := by decide +kernel
theorem d_Ji_bitCount_32 : decode prog_10_method_49_code 32 = .ok (.iand, 1) := by decide +kernel
theorem d_Ji_bitCount_33 : decode prog_10_method_49_code 33 = .ok (.istore_n 0, 1) := by decide +kernel
theorem d_Ji_bitCount_34 : decode prog_10_method_49_code 34 = .ok (.iload_n 0, 1) := by decide +kernel
theorem d_Ji_bitCount_35 : decode prog_10_method_49_code 35 = .ok (.iload_n 0, 1) := by decide +kernel
theorem d_Ji_bitCount_36 : decode prog_10_method_49_code 36 = .ok (.bipush 8, 2) := by decide +kernel
theorem d_Ji_bitCount_38 : decode prog_10_method_49_code 38 = .ok (.iushr, 1) := by decide +kernel
theorem d_Ji_bitCount_39 : decode prog_10_method_49_code 39 = .ok (.iadd, 1) := by decide +kernel
theorem d_Ji_bitCount_40 : decode prog_10_method_49_code 40 = .ok (.istore_n 0, 1) := by decide +kernel
theorem d_Ji_bitCount_41 : decode prog_10_method_49_code 41 = .ok (.iload_n 0, 1) := by decide +kernel
theorem d_Ji_bitCount_42 : decode prog_10_method_49_code 42 = .ok (.iload_n 0, 1) := by decide +kernel
theorem d_Ji_bitCount_43 : decode prog_10_method_49_code 43 = .ok (.bipush 16, 2) := by decide +kernel
theorem d_Ji_bitCount_45 : decode prog_10_method_49_code 45 = .ok (.iushr, 1) := by decide +kernel
theorem d_Ji_bitCount_46 : decode prog_10_method_49_code 46 = .ok (.iadd, 1) := by decide +kernel
theorem d_Ji_bitCount_47 : decode prog_10_method_49_code 47 = .ok (.istore_n 0, 1) := by decide +kernel
theorem d_Ji_bitCount_48 : decode prog_10_method_49_code 48 = .ok (.iload_n 0, 1) := by decide +kernel
theorem d_Ji_bitCount_49 : decode prog_10_method_49_code 49 = .ok (.bipush 63, 2) := by decide +kernel
theorem d_Ji_bitCount_51 : decode prog_10_method_49_code 51 = .ok (.iand, 1) := by decide +kernel
theorem d_Ji_bitCount_52 : decode prog_10_method_49_code 52 = .ok (.ireturn, 1) := by decide +kernel
abbrev y_Ji_bitCount : MethodName := ⟨"java/lang/Integer", "bitCount", "(I)I"⟩
theorem mi_Ji_bitCount : miS y_Ji_bitCount prog_10_method_49_code 1 (some .int) 1 := ⟨wd_480, wd_76, wd_481, by decide, by decide, by decide +kernel⟩
def w_Ji_bitCount (x0 : Int32) (σ : Sg) (K : Int32 → Prop) : Prop :=
  (∀ y0_9 : Int32, y0_9 = (x0 - ((x0.toUInt32 >>> ((1 : Int32).toUInt32 &&& Int32.toUInt32 31)).toInt32 &&& (1431655765 : Int32))) → (∀ y0_23 : Int32, y0_23 = ((y0_9 &&& (858993459 : Int32)) + ((y0_9.toUInt32 >>> ((2 : Int32).toUInt32 &&& Int32.toUInt32 31)).toInt32 &&& (858993459 : Int32))) → (∀ y0_33 : Int32, y0_33 = ((y0_23 + (y0_23.toUInt32 >>> ((4 : Int32).toUInt32 &&& Int32.toUInt32 31)).toInt32) &&& (252645135 : Int32)) → (∀ y0_40 : Int32, y0_40 = (y0_33 + (y0_33.toUInt32 >>> ((8 : Int32).toUInt32 &&& Int32.toUInt32 31)).toInt32) → (∀ y0_47 : Int32, y0_47 = (y0_40 + (y0_40.toUInt32 >>> ((16 : Int32).toUInt32 &&& Int32.toUInt32 31)).toInt32) → K (y0_47 &&& (63 : Int32)))))))
set_option maxHeartbeats 4000000 in
theorem m_Ji_bitCount {Y : Yx} {x0 : Int32} {σ : Sg} {K : Int32 → Prop} (hY : YD Y)  (h : w_Ji_bitCount x0 σ K) : MetI Y y_Ji_bitCount prog_10_method_49_code 1 (.int) 0 0 [.int x0] σ (fun r τ => τ = σ ∧ K r) := by
  refine met_I [(0, .int x0)] hY (by decide) (Nat.le_of_ble_eq_true rfl) rfl (fun X C hr => ?_)
  unfold w_Ji_bitCount at h
  refine q_iload_n (pc := 0) C d_Ji_bitCount_0 rfl 0 rfl ?_
  refine q_iload_n (pc := 1) C d_Ji_bitCount_1 rfl 0 rfl ?_
  refine q_iconst (pc := 2) (v := 1) C d_Ji_bitCount_2 (by decide) ?_
  refine q_iushr (pc := 3) C d_Ji_bitCount_3 ?_
  refine q_ldcw (pc := 4) C wd_482 d_Ji_bitCount_4 ?_
  refine q_iand (pc := 7) C d_Ji_bitCount_7 ?_
  refine q_isub (pc := 8) C d_Ji_bitCount_8 ?_
  refine q_nmi (fun y0_9 ey0_9 => ?_)
  replace h := h y0_9 ey0_9
  refine q_istore_n (pc := 9) [(0, .int y0_9)] C d_Ji_bitCount_9 rfl (by decide) rfl ?_
  refine q_iload_n (pc := 10) C d_Ji_bitCount_10 rfl 0 rfl ?_
  refine q_ldcw (pc := 11) C wd_483 d_Ji_bitCount_11 ?_
  refine q_iand (pc := 14) C d_Ji_bitCount_14 ?_
  refine q_iload_n (pc := 15) C d_Ji_bitCount_15 rfl 0 rfl ?_
  refine q_iconst (pc := 16) (v := 2) C d_Ji_bitCount_16 (by decide) ?_
  refine q_iushr (pc := 17) C d_Ji_bitCount_17 ?_
  refine q_ldcw (pc := 18) C wd_483 d_Ji_bitCount_18 ?_
  refine q_iand (pc := 21) C d_Ji_bitCount_21 ?_
  refine q_iadd (pc := 22) C d_Ji_bitCount_22 ?_
  refine q_nmi (fun y0_23 ey0_23 => ?_)
  replace h := h y0_23 ey0_23
  refine q_istore_n (pc := 23) [(0, .int y0_23)] C d_Ji_bitCount_23 rfl (by decide) rfl ?_
  refine q_iload_n (pc := 24) C d_Ji_bitCount_24 rfl 0 rfl ?_
  refine q_iload_n (pc := 25) C d_Ji_bitCount_25 rfl 0 rfl ?_
  refine q_iconst (pc := 26) (v := 4) C d_Ji_bitCount_26 (by decide) ?_
  refine q_iushr (pc := 27) C d_Ji_bitCount_27 ?_
  refine q_iadd (pc := 28) C d_Ji_bitCount_28 ?_
  refine q_ldcw (pc := 29) C wd_484 d_Ji_bitCount_29 ?_
  refine q_iand (pc := 32) C d_Ji_bitCount_32 ?_
  refine q_nmi (fun y0_33 ey0_33 => ?_)
  replace h := h y0_33 ey0_33
  refine q_istore_n (pc := 33) [(0, .int y0_33)] C d_Ji_bitCount_33 rfl (by decide) rfl ?_
  refine q_iload_n (pc := 34) C d_Ji_bitCount_34 rfl 0 rfl ?_
  refine q_iload_n (pc := 35) C d_Ji_bitCount_35 rfl 0 rfl ?_
  refine q_bipush (pc := 36) (v := 8) C d_Ji_bitCount_36 (by decide) ?_
  refine q_iushr (pc := 38) C d_Ji_bitCount_38 ?_
  refine q_iadd (pc := 39) C d_Ji_bitCount_39 ?_
  refine q_nmi (fun y0_40 ey0_40 => ?_)
  replace h := h y0_40 ey0_40
  refine q_istore_n (pc := 40) [(0, .int y0_40)] C d_Ji_bitCount_40 rfl (by decide) rfl ?_
  refine q_iload_n (pc := 41) C d_Ji_bitCount_41 rfl 0 rfl ?_
  refine q_iload_n (pc := 42) C d_Ji_bitCount_42 rfl 0 rfl ?_
  refine q_bipush (pc := 43) (v := 16) C d_Ji_bitCount_43 (by decide) ?_
  refine q_iushr (pc := 45) C d_Ji_bitCount_45 ?_
  refine q_iadd (pc := 46) C d_Ji_bitCount_46 ?_
  refine q_nmi (fun y0_47 ey0_47 => ?_)
  replace h := h y0_47 ey0_47
  refine q_istore_n (pc := 47) [(0, .int y0_47)] C d_Ji_bitCount_47 rfl (by decide) rfl ?_
  refine q_iload_n (pc := 48) C d_Ji_bitCount_48 rfl 0 rfl ?_
  refine q_bipush (pc := 49) (v := 63) C d_Ji_bitCount_49 (by decide) ?_
  refine q_iand (pc := 51) C d_Ji_bitCount_51 ?_
  exact q_iret (pc := 52) C hr d_Ji_bitCount_52 ⟨rfl, h⟩
theorem d_Un_bestSet_0 : decode prog_7_method_8_code 0 = .ok (.iconst 0, 1) := by decide +kernel
theorem d_Un_bestSet_1 : decode prog_7_method_8_code 1 = .ok (.istore 4, 2) := by decide +kernel
theorem d_Un_bestSet_3 : decode prog_7_method_8_code 3 = .ok (.iload_n 3, 1) := by decide +kernel
theorem d_Un_bestSet_4 : decode prog_7_method_8_code 4 = .ok (.istore 5, 2) := by decide +kernel
theorem d_Un_bestSet_6 : decode prog_7_method_8_code 6 = .ok (.aload_n 0, 1) := by decide +kernel
theorem d_Un_bestSet_7 : decode prog_7_method_8_code 7 = .ok (.getfield 18, 3) := by decide +kernel
theorem d_Un_bestSet_10 : decode prog_7_method_8_code 10 = .ok (.iload_n 2, 1) := by decide +kernel
theorem d_Un_bestSet_11 : decode prog_7_method_8_code 11 = .ok (.sipush 256, 3) := by decide +kernel
theorem d_Un_bestSet_14 : decode prog_7_method_8_code 14 = .ok (.imul, 1) := by decide +kernel
theorem d_Un_bestSet_15 : decode prog_7_method_8_code 15 = .ok (.iload_n 3, 1) := by decide +kernel
theorem d_Un_bestSet_16 : decode prog_7_method_8_code 16 = .ok (.iadd, 1) := by decide +kernel
theorem d_Un_bestSet_17 : decode prog_7_method_8_code 17 = .ok (.iaload, 1) := by decide +kernel
theorem d_Un_bestSet_18 : decode prog_7_method_8_code 18 = .ok (.istore 6, 2) := by decide +kernel
theorem d_Un_bestSet_20 : decode prog_7_method_8_code 20 = .ok (.iconst 1, 1) := by decide +kernel
theorem d_Un_bestSet_21 : decode prog_7_method_8_code 21 = .ok (.istore 7, 2) := by decide +kernel
theorem d_Un_bestSet_23 : decode prog_7_method_8_code 23 = .ok (.iload 7, 2) := by decide +kernel
theorem d_Un_bestSet_25 : decode prog_7_method_8_code 25 = .ok (.iconst 1, 1) := by decide +kernel
theorem d_Un_bestSet_26 : decode prog_7_method_8_code 26 = .ok (.aload_n 1, 1) := by decide +kernel
theorem d_Un_bestSet_27 : decode prog_7_method_8_code 27 = .ok (.getfield 52, 3) := by decide +kernel
theorem d_Un_bestSet_30 : decode prog_7_method_8_code 30 = .ok (.ishl, 1) := by decide +kernel
theorem d_Un_bestSet_31 : decode prog_7_method_8_code 31 = .ok (.if_icmp .ge 73, 3) := by decide +kernel
theorem d_Un_bestSet_34 : decode prog_7_method_8_code 34 = .ok (.aload_n 0, 1) := by decide +kernel
theorem d_Un_bestSet_35 : decode prog_7_method_8_code 35 = .ok (.aload_n 1, 1) := by decide +kernel
theorem d_Un_bestSet_36 : decode prog_7_method_8_code 36 = .ok (.iload_n 3, 1) := by decide +kernel
theorem d_Un_bestSet_37 : decode prog_7_method_8_code 37 = .ok (.iload 7, 2) := by decide +kernel
theorem d_Un_bestSet_39 : decode prog_7_method_8_code 39 = .ok (.invokevirtual 49, 3) := by decide +kernel
theorem d_Un_bestSet_42 : decode prog_7_method_8_code 42 = .ok (.istore 8, 2) := by decide +kernel
theorem d_Un_bestSet_44 : decode prog_7_method_8_code 44 = .ok (.aload_n 0, 1) := by decide +kernel
theorem d_Un_bestSet_45 : decode prog_7_method_8_code 45 = .ok (.getfield 18, 3) := by decide +kernel
theorem d_Un_bestSet_48 : decode prog_7_method_8_code 48 = .ok (.iload_n 2, 1) := by decide +kernel
theorem d_Un_bestSet_49 : decode prog_7_method_8_code 49 = .ok (.sipush 256, 3) := by decide +kernel
theorem d_Un_bestSet_52 : decode prog_7_method_8_code 52 = .ok (.imul, 1) := by decide +kernel
theorem d_Un_bestSet_53 : decode prog_7_method_8_code 53 = .ok (.iload 8, 2) := by decide +kernel
theorem d_Un_bestSet_55 : decode prog_7_method_8_code 55 = .ok (.iadd, 1) := by decide +kernel
theorem d_Un_bestSet_56 : decode prog_7_method_8_code 56 = .ok (.iaload, 1) := by decide +kernel
theorem d_Un_bestSet_57 : decode prog_7_method_8_code 57 = .ok (.iload 7, 2) := by decide +kernel
theorem d_Un_bestSet_59 : decode prog_7_method_8_code 59 = .ok (.invokestatic 108, 3) := by decide +kernel
theorem d_Un_bestSet_62 : decode prog_7_method_8_code 62 = .ok (.iadd, 1) := by decide +kernel
theorem d_Un_bestSet_63 : decode prog_7_method_8_code 63 = .ok (.istore 9, 2) := by decide +kernel
theorem d_Un_bestSet_65 : decode prog_7_method_8_code 65 = .ok (.iload 9, 2) := by decide +kernel
theorem d_Un_bestSet_67 : decode prog_7_method_8_code 67 = .ok (.iload 6, 2) := by decide +kernel
theorem d_Un_bestSet_69 : decode prog_7_method_8_code 69 = .ok (.if_icmp .lt 17, 3) := by decide +kernel
theorem d_Un_bestSet_72 : decode prog_7_method_8_code 72 = .ok (.iload 9, 2) := by decide +kernel
theorem d_Un_bestSet_74 : decode prog_7_method_8_code 74 = .ok (.iload 6, 2) := by decide +kernel
theorem d_Un_bestSet_76 : decode prog_7_method_8_code 76 = .ok (.if_icmp .ne 22, 3) := by decide +kernel
theorem d_Un_bestSet_79 : decode prog_7_method_8_code 79 = .ok (.iload 8, 2) := by decide +kernel
theorem d_Un_bestSet_81 : decode prog_7_method_8_code 81 = .ok (.iload 5, 2) := by decide +kernel
theorem d_Un_bestSet_83 : decode prog_7_method_8_code 83 = .ok (.if_icmp .ge 15, 3) := by decide +kernel
theorem d_Un_bestSet_86 : decode prog_7_method_8_code 86 = .ok (.iload 7, 2) := by decide +kernel
theorem d_Un_bestSet_88 : decode prog_7_method_8_code 88 = .ok (.istore 4, 2) := by decide +kernel
theorem d_Un_bestSet_90 : decode prog_7_method_8_code 90 = .ok (.iload 8, 2) := by decide +kernel
theorem d_Un_bestSet_92 : decode prog_7_method_8_code 92 = .ok (.istore 5, 2) := by decide +kernel
theorem d_Un_bestSet_94 : decode prog_7_method_8_code 94 = .ok (.iload 9, 2) := by decide +kernel
theorem d_Un_bestSet_96 : decode prog_7_method_8_code 96 = .ok (.istore 6, 2) := by decide +kernel
theorem d_Un_bestSet_98 : decode prog_7_method_8_code 98 = .ok (.iinc 7 1, 3) := by decide +kernel
theorem d_Un_bestSet_101 : decode prog_7_method_8_code 101 = .ok (.goto (-78), 3) := by decide +kernel
theorem d_Un_bestSet_104 : decode prog_7_method_8_code 104 = .ok (.iload 4, 2) := by decide +kernel
theorem d_Un_bestSet_106 : decode prog_7_method_8_code 106 = .ok (.ireturn, 1) := by decide +kernel
abbrev y_Un_bestSet : MethodName := ⟨"LoadCycles$Unmixer", "bestSet", "(LLoadCycles$House;II)I"⟩
theorem mi_Un_bestSet : miV y_Un_bestSet prog_7_method_8_code 10 (some .int) 3 := ⟨wd_473, wd_14, wd_68, wd_474, by decide, by decide, by decide +kernel⟩
def B_Un_bestSet_86 (o1 : Nat) (x2 : Int32) (x3 : Int32) (σ : Sg) (K : Int32 → Prop) (r23 : Int32 → Int32 → Int32 → Int32 → Prop) (v7 : Int32) (v8 : Int32) (v9 : Int32) : Prop :=
  r23 v7 v8 v9 (v7 + (1 : Int32))
theorem t_Un_bestSet_86 {X : Bx} {Y : Yx} {o1 : Nat} {x2 : Int32} {x3 : Int32} {v7 : Int32} {v8 : Int32} {v9 : Int32} {σ : Sg} {K : Int32 → Prop} {r23 : Int32 → Int32 → Int32 → Int32 → Prop} (hY : YD Y) (C : Cx X Y prog_7_method_8_code 10 "LoadCycles$Unmixer" 1 25) (hr : (xh X).sig.returnType = some .int) (ho1 : kd o1 = 2) (H23 : ∀ (v4 : Int32) (v5 : Int32) (v6 : Int32) (v7 : Int32), r23 v4 v5 v6 v7 → St X Y 10 (QI X Y (fun r τ => τ = σ ∧ K r)) 23 [(0, .ref (ya Y 22)), (1, .ref (ya Y o1)), (2, .int x2), (3, .int x3), (4, .int v4), (5, .int v5), (6, .int v6), (7, .int v7)] [] σ)  (h : B_Un_bestSet_86 o1 x2 x3 σ K r23 v7 v8 v9) : St X Y 10 (QI X Y (fun r τ => τ = σ ∧ K r)) 86 [(0, .ref (ya Y 22)), (1, .ref (ya Y o1)), (2, .int x2), (3, .int x3), (7, .int v7), (8, .int v8), (9, .int v9)] [] σ := by
  unfold B_Un_bestSet_86 at h
  refine q_iload (pc := 86) C d_Un_bestSet_86 4 rfl ?_
  refine q_istore (pc := 88) [(4, .int v7), (0, .ref (ya Y 22)), (1, .ref (ya Y o1)), (2, .int x2), (3, .int x3), (7, .int v7), (8, .int v8), (9, .int v9)] C d_Un_bestSet_88 (by decide) rfl ?_
  refine q_iload (pc := 90) C d_Un_bestSet_90 6 rfl ?_
  refine q_istore (pc := 92) [(5, .int v8), (4, .int v7), (0, .ref (ya Y 22)), (1, .ref (ya Y o1)), (2, .int x2), (3, .int x3), (7, .int v7), (8, .int v8), (9, .int v9)] C d_Un_bestSet_92 (by decide) rfl ?_
  refine q_iload (pc := 94) C d_Un_bestSet_94 8 rfl ?_
  refine q_istore (pc := 96) [(6, .int v9), (5, .int v8), (4, .int v7), (0, .ref (ya Y 22)), (1, .ref (ya Y o1)), (2, .int x2), (3, .int x3), (7, .int v7), (8, .int v8), (9, .int v9)] C d_Un_bestSet_96 (by decide) rfl ?_
  refine q_iinc (pc := 98) (v7 + (1 : Int32)) [(7, .int (v7 + (1 : Int32))), (6, .int v9), (5, .int v8), (4, .int v7), (0, .ref (ya Y 22)), (1, .ref (ya Y o1)), (2, .int x2), (3, .int x3), (8, .int v8), (9, .int v9)] C d_Un_bestSet_98 7 rfl rfl (by decide) rfl ?_
  refine q_goto (pc := 101) 23 C d_Un_bestSet_101 (by decide) ?_
  refine q_sub [(0, .ref (ya Y 22)), (1, .ref (ya Y o1)), (2, .int x2), (3, .int x3), (4, .int v7), (5, .int v8), (6, .int v9), (7, .int (v7 + (1 : Int32)))] [4, 5, 6, 7, 3, 2, 1, 0] rfl ?_
  exact H23 v7 v8 v9 (v7 + (1 : Int32)) h
def L_Un_bestSet_23 (o1 : Nat) (x2 : Int32) (x3 : Int32) (σ : Sg) (K : Int32 → Prop) : Nat → Int32 → Int32 → Int32 → Int32 → Prop
  | 0, _, _, _, _ => False
  | n + 1, v4, v5, v6, v7 =>
    ((((1 : Int32) <<< ((σ o1 4) &&& 31)) ≤ v7 → K v4) ∧ (¬ ((1 : Int32) <<< ((σ o1 4) &&& 31)) ≤ v7 → w_Un_mixBehind o1 x3 v7 σ (fun u39 => (vp_in ((x2 * (256 : Int32)) + u39) 5120 ∧ w_Ji_bitCount v7 σ (fun u59 => (∀ y9_63 : Int32, y9_63 = ((σ 25 ((x2 * (256 : Int32)) + u39).toNatClampNeg) + u59) → ((y9_63 < v6 → B_Un_bestSet_86 o1 x2 x3 σ K (fun a0 a1 a2 a3 => L_Un_bestSet_23 o1 x2 x3 σ K n a0 a1 a2 a3) v7 u39 y9_63) ∧ (¬ y9_63 < v6 → ((¬ y9_63 = v6 → L_Un_bestSet_23 o1 x2 x3 σ K n v4 v5 v6 (v7 + (1 : Int32))) ∧ (y9_63 = v6 → ((v5 ≤ u39 → L_Un_bestSet_23 o1 x2 x3 σ K n v4 v5 v6 (v7 + (1 : Int32))) ∧ (¬ v5 ≤ u39 → B_Un_bestSet_86 o1 x2 x3 σ K (fun a0 a1 a2 a3 => L_Un_bestSet_23 o1 x2 x3 σ K n a0 a1 a2 a3) v7 u39 y9_63))))))))))))
theorem t_Un_bestSet_23 {X : Bx} {Y : Yx} {o1 : Nat} {x2 : Int32} {x3 : Int32} {σ : Sg} {K : Int32 → Prop}  (hY : YD Y) (C : Cx X Y prog_7_method_8_code 10 "LoadCycles$Unmixer" 1 25) (hr : (xh X).sig.returnType = some .int) (ho1 : kd o1 = 2) : ∀ (n : Nat) (v4 : Int32) (v5 : Int32) (v6 : Int32) (v7 : Int32), L_Un_bestSet_23 o1 x2 x3 σ K n v4 v5 v6 v7 → St X Y 10 (QI X Y (fun r τ => τ = σ ∧ K r)) 23 [(0, .ref (ya Y 22)), (1, .ref (ya Y o1)), (2, .int x2), (3, .int x3), (4, .int v4), (5, .int v5), (6, .int v6), (7, .int v7)] [] σ := by
  intro n
  induction n with
  | zero => intro v4 v5 v6 v7 h; exact h.elim
  | succ n ih =>
    intro v4 v5 v6 v7 h
    unfold L_Un_bestSet_23 at h
    refine q_iload (pc := 23) C d_Un_bestSet_23 7 rfl ?_
    refine q_iconst (pc := 25) (v := 1) C d_Un_bestSet_25 (by decide) ?_
    refine q_aload_n (pc := 26) C d_Un_bestSet_26 rfl 1 rfl ?_
    refine q_get (pc := 27) (c := o1) (ci := 2) (k := 4) (v := .int (σ o1 4)) C ho1 (by decide) (by decide) wd_101 rfl d_Un_bestSet_27 ?_
    refine q_ishl (pc := 30) C d_Un_bestSet_30 ?_
    obtain ⟨h9, h10⟩ := h
    refine q_icmp_ge (pc := 31) 104 C d_Un_bestSet_31 (by decide) (fun hc => ?_) (fun hc => ?_)
    · have h := h9 hc
      refine q_iload (pc := 104) C d_Un_bestSet_104 4 rfl ?_
      exact q_iret (pc := 106) C hr d_Un_bestSet_106 ⟨rfl, h⟩
    have h := h10 hc
    refine q_aload_n (pc := 34) C d_Un_bestSet_34 rfl 0 rfl ?_
    refine q_aload_n (pc := 35) C d_Un_bestSet_35 rfl 1 rfl ?_
    refine q_iload_n (pc := 36) C d_Un_bestSet_36 rfl 3 rfl ?_
    refine q_iload (pc := 37) C d_Un_bestSet_37 7 rfl ?_
    refine q_callVIr (pc := 39) (st := []) (d := 22) C (m_Un_mixBehind hY ho1 h) mi_Un_mixBehind rfl (by decide) rfl wd_475 rfl rfl (Nat.le_of_ble_eq_true rfl) (by decide) (by decide) d_Un_bestSet_39 (fun u39 h => ?_)
    refine q_istore (pc := 42) [(8, .int u39), (0, .ref (ya Y 22)), (1, .ref (ya Y o1)), (2, .int x2), (3, .int x3), (4, .int v4), (5, .int v5), (6, .int v6), (7, .int v7)] C d_Un_bestSet_42 (by decide) rfl ?_
    refine q_aload_n (pc := 44) C d_Un_bestSet_44 rfl 1 rfl ?_
    refine q_get (pc := 45) (c := 22) (ci := 5) (k := 2) (v := .ref (ya Y 25)) C rfl (by decide) (by decide) wd_163 rfl d_Un_bestSet_45 ?_
    refine q_iload_n (pc := 48) C d_Un_bestSet_48 rfl 3 rfl ?_
    refine q_sipush (pc := 49) (v := 256) C d_Un_bestSet_49 (by decide) ?_
    refine q_imul (pc := 52) C d_Un_bestSet_52 ?_
    refine q_iload (pc := 53) C d_Un_bestSet_53 0 rfl ?_
    refine q_iadd (pc := 55) C d_Un_bestSet_55 ?_
    obtain ⟨h2, h⟩ := h
    refine q_iald (pc := 56) (c := 25) C ⟨rfl, rfl⟩ h2 d_Un_bestSet_56 ?_
    refine q_iload (pc := 57) C d_Un_bestSet_57 8 rfl ?_
    refine q_callSIr (pc := 59) (st := [.int (σ 25 ((x2 * (256 : Int32)) + u39).toNatClampNeg)]) C (m_Ji_bitCount hY h) mi_Ji_bitCount wd_479 rfl rfl (Nat.le_of_ble_eq_true rfl) (by decide) (by decide) d_Un_bestSet_59 (fun u59 h => ?_)
    refine q_iadd (pc := 62) C d_Un_bestSet_62 ?_
    refine q_nmi (fun y9_63 ey9_63 => ?_)
    replace h := h y9_63 ey9_63
    refine q_istore (pc := 63) [(9, .int y9_63), (8, .int u39), (0, .ref (ya Y 22)), (1, .ref (ya Y o1)), (2, .int x2), (3, .int x3), (4, .int v4), (5, .int v5), (6, .int v6), (7, .int v7)] C d_Un_bestSet_63 (by decide) rfl ?_
    refine q_iload (pc := 65) C d_Un_bestSet_65 0 rfl ?_
    refine q_iload (pc := 67) C d_Un_bestSet_67 8 rfl ?_
    obtain ⟨h7, h8⟩ := h
    refine q_icmp_lt (pc := 69) 86 C d_Un_bestSet_69 (by decide) (fun hc => ?_) (fun hc => ?_)
    · have h := h7 hc
      refine q_sub [(0, .ref (ya Y 22)), (1, .ref (ya Y o1)), (2, .int x2), (3, .int x3), (7, .int v7), (8, .int u39), (9, .int y9_63)] [2, 3, 4, 5, 9, 1, 0] rfl ?_
      exact t_Un_bestSet_86 hY C hr ho1 ih h
    have h := h8 hc
    refine q_iload (pc := 72) C d_Un_bestSet_72 0 rfl ?_
    refine q_iload (pc := 74) C d_Un_bestSet_74 8 rfl ?_
    obtain ⟨h5, h6⟩ := h
    refine q_icmp_ne (pc := 76) 98 C d_Un_bestSet_76 (by decide) (fun hc => ?_) (fun hc => ?_)
    · have h := h5 hc
      refine q_iinc (pc := 98) (v7 + (1 : Int32)) [(7, .int (v7 + (1 : Int32))), (9, .int y9_63), (8, .int u39), (0, .ref (ya Y 22)), (1, .ref (ya Y o1)), (2, .int x2), (3, .int x3), (4, .int v4), (5, .int v5), (6, .int v6)] C d_Un_bestSet_98 9 rfl rfl (by decide) rfl ?_
      refine q_goto (pc := 101) 23 C d_Un_bestSet_101 (by decide) ?_
      refine q_sub [(0, .ref (ya Y 22)), (1, .ref (ya Y o1)), (2, .int x2), (3, .int x3), (4, .int v4), (5, .int v5), (6, .int v6), (7, .int (v7 + (1 : Int32)))] [3, 4, 5, 6, 7, 8, 9, 0] rfl ?_
      exact ih v4 v5 v6 (v7 + (1 : Int32)) h
    have h := h6 hc
    refine q_iload (pc := 79) C d_Un_bestSet_79 1 rfl ?_
    refine q_iload (pc := 81) C d_Un_bestSet_81 7 rfl ?_
    obtain ⟨h3, h4⟩ := h
    refine q_icmp_ge (pc := 83) 98 C d_Un_bestSet_83 (by decide) (fun hc => ?_) (fun hc => ?_)
    · have h := h3 hc
      refine q_iinc (pc := 98) (v7 + (1 : Int32)) [(7, .int (v7 + (1 : Int32))), (9, .int y9_63), (8, .int u39), (0, .ref (ya Y 22)), (1, .ref (ya Y o1)), (2, .int x2), (3, .int x3), (4, .int v4), (5, .int v5), (6, .int v6)] C d_Un_bestSet_98 9 rfl rfl (by decide) rfl ?_
      refine q_goto (pc := 101) 23 C d_Un_bestSet_101 (by decide) ?_
      refine q_sub [(0, .ref (ya Y 22)), (1, .ref (ya Y o1)), (2, .int x2), (3, .int x3), (4, .int v4), (5, .int v5), (6, .int v6), (7, .int (v7 + (1 : Int32)))] [3, 4, 5, 6, 7, 8, 9, 0] rfl ?_
      exact ih v4 v5 v6 (v7 + (1 : Int32)) h
    have h := h4 hc
    refine q_sub [(0, .ref (ya Y 22)), (1, .ref (ya Y o1)), (2, .int x2), (3, .int x3), (7, .int v7), (8, .int u39), (9, .int y9_63)] [2, 3, 4, 5, 9, 1, 0] rfl ?_
    exact t_Un_bestSet_86 hY C hr ho1 ih h
def w_Un_bestSet (o1 : Nat) (x2 : Int32) (x3 : Int32) (σ : Sg) (K : Int32 → Prop) : Prop :=
  (vp_in ((x2 * (256 : Int32)) + x3) 5120 ∧ (∀ y6_18 : Int32, y6_18 = (σ 25 ((x2 * (256 : Int32)) + x3).toNatClampNeg) → (∃ n11 : Nat, L_Un_bestSet_23 o1 x2 x3 σ K n11 (0 : Int32) x3 y6_18 (1 : Int32))))
set_option maxHeartbeats 4000000 in
theorem m_Un_bestSet {Y : Yx} {o1 : Nat} {x2 : Int32} {x3 : Int32} {σ : Sg} {K : Int32 → Prop} (hY : YD Y) (ho1 : kd o1 = 2) (h : w_Un_bestSet o1 x2 x3 σ K) : MetI Y y_Un_bestSet prog_7_method_8_code 10 (.int) 1 25 [.ref (ya Y 22), .ref (ya Y o1), .int x2, .int x3] σ (fun r τ => τ = σ ∧ K r) := by
  refine met_I [(0, .ref (ya Y 22)), (1, .ref (ya Y o1)), (2, .int x2), (3, .int x3)] hY (by decide) (Nat.le_of_ble_eq_true rfl) rfl (fun X C hr => ?_)
  unfold w_Un_bestSet at h
  refine q_iconst (pc := 0) (v := 0) C d_Un_bestSet_0 (by decide) ?_
  refine q_istore (pc := 1) [(4, .int (0 : Int32)), (0, .ref (ya Y 22)), (1, .ref (ya Y o1)), (2, .int x2), (3, .int x3)] C d_Un_bestSet_1 (by decide) rfl ?_
  refine q_iload_n (pc := 3) C d_Un_bestSet_3 rfl 4 rfl ?_
  refine q_istore (pc := 4) [(5, .int x3), (4, .int (0 : Int32)), (0, .ref (ya Y 22)), (1, .ref (ya Y o1)), (2, .int x2), (3, .int x3)] C d_Un_bestSet_4 (by decide) rfl ?_
  refine q_aload_n (pc := 6) C d_Un_bestSet_6 rfl 2 rfl ?_
  refine q_get (pc := 7) (c := 22) (ci := 5) (k := 2) (v := .ref (ya Y 25)) C rfl (by decide) (by decide) wd_163 rfl d_Un_bestSet_7 ?_
  refine q_iload_n (pc := 10) C d_Un_bestSet_10 rfl 4 rfl ?_
  refine q_sipush (pc := 11) (v := 256) C d_Un_bestSet_11 (by decide) ?_
  refine q_imul (pc := 14) C d_Un_bestSet_14 ?_
  refine q_iload_n (pc := 15) C d_Un_bestSet_15 rfl 5 rfl ?_
  refine q_iadd (pc := 16) C d_Un_bestSet_16 ?_
  obtain ⟨h1, h⟩ := h
  refine q_iald (pc := 17) (c := 25) C ⟨rfl, rfl⟩ h1 d_Un_bestSet_17 ?_
  refine q_nmi (fun y6_18 ey6_18 => ?_)
  replace h := h y6_18 ey6_18
  refine q_istore (pc := 18) [(6, .int y6_18), (5, .int x3), (4, .int (0 : Int32)), (0, .ref (ya Y 22)), (1, .ref (ya Y o1)), (2, .int x2), (3, .int x3)] C d_Un_bestSet_18 (by decide) rfl ?_
  refine q_iconst (pc := 20) (v := 1) C d_Un_bestSet_20 (by decide) ?_
  refine q_istore (pc := 21) [(7, .int (1 : Int32)), (6, .int y6_18), (5, .int x3), (4, .int (0 : Int32)), (0, .ref (ya Y 22)), (1, .ref (ya Y o1)), (2, .int x2), (3, .int x3)] C d_Un_bestSet_21 (by decide) rfl ?_
  obtain ⟨n11, h⟩ := h
  refine q_sub [(0, .ref (ya Y 22)), (1, .ref (ya Y o1)), (2, .int x2), (3, .int x3), (4, .int (0 : Int32)), (5, .int x3), (6, .int y6_18), (7, .int (1 : Int32))] [4, 5, 6, 7, 3, 2, 1, 0] rfl ?_
  exact t_Un_bestSet_23 hY C hr ho1 n11 (0 : Int32) x3 y6_18 (1 : Int32) h
theorem d_Do_stateOf_0 : decode prog_2_method_2_code 0 = .ok (.aload_n 0, 1) := by decide +kernel
theorem d_Do_stateOf_1 : decode prog_2_method_2_code 1 = .ok (.getfield 9, 3) := by decide +kernel
theorem d_Do_stateOf_4 : decode prog_2_method_2_code 4 = .ok (.iload_n 1, 1) := by decide +kernel
theorem d_Do_stateOf_5 : decode prog_2_method_2_code 5 = .ok (.iconst 4, 1) := by decide +kernel
theorem d_Do_stateOf_6 : decode prog_2_method_2_code 6 = .ok (.imul, 1) := by decide +kernel
theorem d_Do_stateOf_7 : decode prog_2_method_2_code 7 = .ok (.iload_n 2, 1) := by decide +kernel
theorem d_Do_stateOf_8 : decode prog_2_method_2_code 8 = .ok (.iadd, 1) := by decide +kernel
theorem d_Do_stateOf_9 : decode prog_2_method_2_code 9 = .ok (.iaload, 1) := by decide +kernel
theorem d_Do_stateOf_10 : decode prog_2_method_2_code 10 = .ok (.ireturn, 1) := by decide +kernel
abbrev y_Do_stateOf : MethodName := ⟨"LoadCycles$Doing", "stateOf", "(II)I"⟩
theorem mi_Do_stateOf : miV y_Do_stateOf prog_2_method_2_code 3 (some .int) 2 := ⟨wd_494, wd_495, wd_67, wd_496, by decide, by decide, by decide +kernel⟩
def w_Do_stateOf (o : Nat) (x1 : Int32) (x2 : Int32) (σ : Sg) (K : Int32 → Prop) : Prop :=
  (vp_in ((x1 * (4 : Int32)) + x2) 80 ∧ K (σ (o + 1) ((x1 * (4 : Int32)) + x2).toNatClampNeg))
set_option maxHeartbeats 4000000 in
theorem m_Do_stateOf {Y : Yx} {o : Nat} {x1 : Int32} {x2 : Int32} {σ : Sg} {K : Int32 → Prop} (hY : YD Y) (ho : kd o = 0) (h : w_Do_stateOf o x1 x2 σ K) : MetI Y y_Do_stateOf prog_2_method_2_code 3 (.int) 0 0 [.ref (ya Y o), .int x1, .int x2] σ (fun r τ => τ = σ ∧ K r) := by
  refine met_I [(0, .ref (ya Y o)), (1, .int x1), (2, .int x2)] hY (by decide) (Nat.le_of_ble_eq_true rfl) rfl (fun X C hr => ?_)
  unfold w_Do_stateOf at h
  refine q_aload_n (pc := 0) C d_Do_stateOf_0 rfl 0 rfl ?_
  refine q_get (pc := 1) (c := o) (ci := 0) (k := 0) (v := .ref (ya Y (o + 1))) C ho (by decide) (by decide) wd_134 rfl d_Do_stateOf_1 ?_
  refine q_iload_n (pc := 4) C d_Do_stateOf_4 rfl 1 rfl ?_
  refine q_iconst (pc := 5) (v := 4) C d_Do_stateOf_5 (by decide) ?_
  refine q_imul (pc := 6) C d_Do_stateOf_6 ?_
  refine q_iload_n (pc := 7) C d_Do_stateOf_7 rfl 2 rfl ?_
  refine q_iadd (pc := 8) C d_Do_stateOf_8 ?_
  obtain ⟨h1, h⟩ := h
  refine q_iald (pc := 9) (c := (o + 1)) C (k0_1 ho) h1 d_Do_stateOf_9 ?_
  exact q_iret (pc := 10) C hr d_Do_stateOf_10 ⟨rfl, h⟩
theorem d_Do_stateAhead_0 : decode prog_2_method_3_code 0 = .ok (.iload_n 1, 1) := by decide +kernel
theorem d_Do_stateAhead_1 : decode prog_2_method_3_code 1 = .ok (.ifCond .ne 7, 3) := by decide +kernel
theorem d_Do_stateAhead_4 : decode prog_2_method_3_code 4 = .ok (.iconst 0, 1) := by decide +kernel
theorem d_Do_stateAhead_5 : decode prog_2_method_3_code 5 = .ok (.goto 11, 3) := by decide +kernel
theorem d_Do_stateAhead_8 : decode prog_2_method_3_code 8 = .ok (.aload_n 0, 1) := by decide +kernel
theorem d_Do_stateAhead_9 : decode prog_2_method_3_code 9 = .ok (.iload_n 1, 1) := by decide +kernel
theorem d_Do_stateAhead_10 : decode prog_2_method_3_code 10 = .ok (.iconst 1, 1) := by decide +kernel
theorem d_Do_stateAhead_11 : decode prog_2_method_3_code 11 = .ok (.isub, 1) := by decide +kernel
theorem d_Do_stateAhead_12 : decode prog_2_method_3_code 12 = .ok (.iload_n 2, 1) := by decide +kernel
theorem d_Do_stateAhead_13 : decode prog_2_method_3_code 13 = .ok (.invokevirtual 18, 3) := by decide +kernel
theorem d_Do_stateAhead_16 : decode prog_2_method_3_code 16 = .ok (.ireturn, 1) := by decide +kernel
abbrev y_Do_stateAhead : MethodName := ⟨"LoadCycles$Doing", "stateAhead", "(II)I"⟩
theorem mi_Do_stateAhead : miV y_Do_stateAhead prog_2_method_3_code 3 (some .int) 2 := ⟨wd_490, wd_491, wd_67, wd_492, by decide, by decide, by decide +kernel⟩
def w_Do_stateAhead (o : Nat) (x1 : Int32) (x2 : Int32) (σ : Sg) (K : Int32 → Prop) : Prop :=
  ((¬ x1 = 0 → w_Do_stateOf o (x1 - (1 : Int32)) x2 σ (fun u13 => K u13)) ∧ (x1 = 0 → K (0 : Int32)))
set_option maxHeartbeats 4000000 in
theorem m_Do_stateAhead {Y : Yx} {o : Nat} {x1 : Int32} {x2 : Int32} {σ : Sg} {K : Int32 → Prop} (hY : YD Y) (ho : kd o = 0) (h : w_Do_stateAhead o x1 x2 σ K) : MetI Y y_Do_stateAhead prog_2_method_3_code 3 (.int) 1 22 [.ref (ya Y o), .int x1, .int x2] σ (fun r τ => τ = σ ∧ K r) := by
  refine met_I [(0, .ref (ya Y o)), (1, .int x1), (2, .int x2)] hY (by decide) (Nat.le_of_ble_eq_true rfl) rfl (fun X C hr => ?_)
  unfold w_Do_stateAhead at h
  refine q_iload_n (pc := 0) C d_Do_stateAhead_0 rfl 1 rfl ?_
  obtain ⟨h1, h2⟩ := h
  refine q_if_ne (pc := 1) 8 C d_Do_stateAhead_1 (by decide) (fun hc => ?_) (fun hc => ?_)
  · have h := h1 hc
    refine q_aload_n (pc := 8) C d_Do_stateAhead_8 rfl 0 rfl ?_
    refine q_iload_n (pc := 9) C d_Do_stateAhead_9 rfl 1 rfl ?_
    refine q_iconst (pc := 10) (v := 1) C d_Do_stateAhead_10 (by decide) ?_
    refine q_isub (pc := 11) C d_Do_stateAhead_11 ?_
    refine q_iload_n (pc := 12) C d_Do_stateAhead_12 rfl 2 rfl ?_
    refine q_callVIr (pc := 13) (st := []) (d := o) C (m_Do_stateOf hY ho h) mi_Do_stateOf ho (by decide) rfl wd_493 rfl rfl (Nat.le_of_ble_eq_true rfl) (by decide) (by decide) d_Do_stateAhead_13 (fun u13 h => ?_)
    exact q_iret (pc := 16) C hr d_Do_stateAhead_16 ⟨rfl, h⟩
  have h := h2 hc
  refine q_iconst (pc := 4) (v := 0) C d_Do_stateAhead_4 (by decide) ?_
  refine q_goto (pc := 5) 16 C d_Do_stateAhead_5 (by decide) ?_
  exact q_iret (pc := 16) C hr d_Do_stateAhead_16 ⟨rfl, h⟩
theorem d_Do_add_0 : decode prog_2_method_6_code 0 = .ok (.aload_n 0, 1) := by decide +kernel
theorem d_Do_add_1 : decode prog_2_method_6_code 1 = .ok (.iload_n 2, 1) := by decide +kernel
theorem d_Do_add_2 : decode prog_2_method_6_code 2 = .ok (.iload_n 3, 1) := by decide +kernel
theorem d_Do_add_3 : decode prog_2_method_6_code 3 = .ok (.invokevirtual 53, 3) := by decide +kernel
theorem d_Do_add_6 : decode prog_2_method_6_code 6 = .ok (.istore 5, 2) := by decide +kernel
theorem d_Do_add_8 : decode prog_2_method_6_code 8 = .ok (.iload 4, 2) := by decide +kernel
theorem d_Do_add_10 : decode prog_2_method_6_code 10 = .ok (.ifCond .eq 13, 3) := by decide +kernel
theorem d_Do_add_13 : decode prog_2_method_6_code 13 = .ok (.aload_n 1, 1) := by decide +kernel
theorem d_Do_add_14 : decode prog_2_method_6_code 14 = .ok (.iload_n 3, 1) := by decide +kernel
theorem d_Do_add_15 : decode prog_2_method_6_code 15 = .ok (.iload 5, 2) := by decide +kernel
theorem d_Do_add_17 : decode prog_2_method_6_code 17 = .ok (.invokevirtual 56, 3) := by decide +kernel
theorem d_Do_add_20 : decode prog_2_method_6_code 20 = .ok (.goto 5, 3) := by decide +kernel
theorem d_Do_add_23 : decode prog_2_method_6_code 23 = .ok (.iload 5, 2) := by decide +kernel
theorem d_Do_add_25 : decode prog_2_method_6_code 25 = .ok (.istore 6, 2) := by decide +kernel
theorem d_Do_add_27 : decode prog_2_method_6_code 27 = .ok (.aload_n 1, 1) := by decide +kernel
theorem d_Do_add_28 : decode prog_2_method_6_code 28 = .ok (.iload_n 3, 1) := by decide +kernel
theorem d_Do_add_29 : decode prog_2_method_6_code 29 = .ok (.iload 6, 2) := by decide +kernel
theorem d_Do_add_31 : decode prog_2_method_6_code 31 = .ok (.invokevirtual 59, 3) := by decide +kernel
theorem d_Do_add_34 : decode prog_2_method_6_code 34 = .ok (.istore 7, 2) := by decide +kernel
theorem d_Do_add_36 : decode prog_2_method_6_code 36 = .ok (.aload_n 0, 1) := by decide +kernel
theorem d_Do_add_37 : decode prog_2_method_6_code 37 = .ok (.getfield 9, 3) := by decide +kernel
theorem d_Do_add_40 : decode prog_2_method_6_code 40 = .ok (.iload_n 2, 1) := by decide +kernel
theorem d_Do_add_41 : decode prog_2_method_6_code 41 = .ok (.iconst 4, 1) := by decide +kernel
theorem d_Do_add_42 : decode prog_2_method_6_code 42 = .ok (.imul, 1) := by decide +kernel
theorem d_Do_add_43 : decode prog_2_method_6_code 43 = .ok (.iload_n 3, 1) := by decide +kernel
theorem d_Do_add_44 : decode prog_2_method_6_code 44 = .ok (.iadd, 1) := by decide +kernel
theorem d_Do_add_45 : decode prog_2_method_6_code 45 = .ok (.iload 6, 2) := by decide +kernel
theorem d_Do_add_47 : decode prog_2_method_6_code 47 = .ok (.iastore, 1) := by decide +kernel
theorem d_Do_add_48 : decode prog_2_method_6_code 48 = .ok (.aload_n 0, 1) := by decide +kernel
theorem d_Do_add_49 : decode prog_2_method_6_code 49 = .ok (.getfield 15, 3) := by decide +kernel
theorem d_Do_add_52 : decode prog_2_method_6_code 52 = .ok (.iload_n 3, 1) := by decide +kernel
theorem d_Do_add_53 : decode prog_2_method_6_code 53 = .ok (.dup2, 1) := by decide +kernel
theorem d_Do_add_54 : decode prog_2_method_6_code 54 = .ok (.iaload, 1) := by decide +kernel
theorem d_Do_add_55 : decode prog_2_method_6_code 55 = .ok (.iload 7, 2) := by decide +kernel
theorem d_Do_add_57 : decode prog_2_method_6_code 57 = .ok (.iadd, 1) := by decide +kernel
theorem d_Do_add_58 : decode prog_2_method_6_code 58 = .ok (.iastore, 1) := by decide +kernel
theorem d_Do_add_59 : decode prog_2_method_6_code 59 = .ok (.aload_n 0, 1) := by decide +kernel
theorem d_Do_add_60 : decode prog_2_method_6_code 60 = .ok (.dup, 1) := by decide +kernel
theorem d_Do_add_61 : decode prog_2_method_6_code 61 = .ok (.getfield 32, 3) := by decide +kernel
theorem d_Do_add_64 : decode prog_2_method_6_code 64 = .ok (.iload 7, 2) := by decide +kernel
theorem d_Do_add_66 : decode prog_2_method_6_code 66 = .ok (.iadd, 1) := by decide +kernel
theorem d_Do_add_67 : decode prog_2_method_6_code 67 = .ok (.putfield 32, 3) := by decide +kernel
theorem d_Do_add_70 : decode prog_2_method_6_code 70 = .ok (.aload_n 0, 1) := by decide +kernel
theorem d_Do_add_71 : decode prog_2_method_6_code 71 = .ok (.dup, 1) := by decide +kernel
theorem d_Do_add_72 : decode prog_2_method_6_code 72 = .ok (.getfield 22, 3) := by decide +kernel
theorem d_Do_add_75 : decode prog_2_method_6_code 75 = .ok (.iload 7, 2) := by decide +kernel
theorem d_Do_add_77 : decode prog_2_method_6_code 77 = .ok (.isub, 1) := by decide +kernel
theorem d_Do_add_78 : decode prog_2_method_6_code 78 = .ok (.putfield 22, 3) := by decide +kernel
theorem d_Do_add_81 : decode prog_2_method_6_code 81 = .ok (.iload 4, 2) := by decide +kernel
theorem d_Do_add_83 : decode prog_2_method_6_code 83 = .ok (.ifCond .eq 32, 3) := by decide +kernel
theorem d_Do_add_86 : decode prog_2_method_6_code 86 = .ok (.aload_n 0, 1) := by decide +kernel
theorem d_Do_add_87 : decode prog_2_method_6_code 87 = .ok (.dup, 1) := by decide +kernel
theorem d_Do_add_88 : decode prog_2_method_6_code 88 = .ok (.getfield 26, 3) := by decide +kernel
theorem d_Do_add_91 : decode prog_2_method_6_code 91 = .ok (.iconst 1, 1) := by decide +kernel
theorem d_Do_add_92 : decode prog_2_method_6_code 92 = .ok (.iadd, 1) := by decide +kernel
theorem d_Do_add_93 : decode prog_2_method_6_code 93 = .ok (.putfield 26, 3) := by decide +kernel
theorem d_Do_add_96 : decode prog_2_method_6_code 96 = .ok (.aload_n 0, 1) := by decide +kernel
theorem d_Do_add_97 : decode prog_2_method_6_code 97 = .ok (.dup, 1) := by decide +kernel
theorem d_Do_add_98 : decode prog_2_method_6_code 98 = .ok (.getfield 29, 3) := by decide +kernel
theorem d_Do_add_101 : decode prog_2_method_6_code 101 = .ok (.iload 5, 2) := by decide +kernel
theorem d_Do_add_103 : decode prog_2_method_6_code 103 = .ok (.ifCond .ne 7, 3) := by decide +kernel
theorem d_Do_add_106 : decode prog_2_method_6_code 106 = .ok (.iconst 1, 1) := by decide +kernel
theorem d_Do_add_107 : decode prog_2_method_6_code 107 = .ok (.goto 4, 3) := by decide +kernel
theorem d_Do_add_110 : decode prog_2_method_6_code 110 = .ok (.iconst 0, 1) := by decide +kernel
theorem d_Do_add_111 : decode prog_2_method_6_code 111 = .ok (.iadd, 1) := by decide +kernel
theorem d_Do_add_112 : decode prog_2_method_6_code 112 = .ok (.putfield 29, 3) := by decide +kernel
theorem d_Do_add_115 : decode prog_2_method_6_code 115 = .ok (.return_, 1) := by decide +kernel
abbrev y_Do_add : MethodName := ⟨"LoadCycles$Doing", "add", "(LLoadCycles$House;IIZ)V"⟩
theorem mi_Do_add : miV y_Do_add prog_2_method_6_code 8 none 4 := ⟨wd_486, wd_487, wd_67, wd_488, by decide, by decide, by decide +kernel⟩
def B_Do_add_111 (o : Nat) (o1 : Nat) (x2 : Int32) (x3 : Int32) (x4 : Int32) (K : Sg → Prop) (vs0 : Int32) (vs1 : Int32) (σ : Sg) : Prop :=
  (∀ τ112 : Sg, τ112 = s2 σ o 5 (vs1 + vs0) → K τ112)
theorem t_Do_add_111 {X : Bx} {Y : Yx} {o : Nat} {o1 : Nat} {x2 : Int32} {x3 : Int32} {x4 : Int32} {vs0 : Int32} {vs1 : Int32} {K : Sg → Prop}  (hY : YD Y) (C : Cx X Y prog_2_method_6_code 8 "LoadCycles$Doing" 2 45) (hr : (xh X).sig.returnType = none) (ho : kd o = 0) (ho1 : kd o1 = 2)  {σ : Sg} (h : B_Do_add_111 o o1 x2 x3 x4 K vs0 vs1 σ) : St X Y 8 (QV X Y K) 111 [] [.int vs0, .int vs1, .ref (ya Y o)] σ := by
  unfold B_Do_add_111 at h
  refine q_iadd (pc := 111) C d_Do_add_111 ?_
  refine q_put (pc := 112) (c := o) (ci := 0) (k := 5) C ho (by decide) (by decide) wd_141 rfl rfl rfl fs_0_5 d_Do_add_112 ?_
  refine q_nms (fun τ112 eτ112 => ?_)
  replace h := h τ112 eτ112
  exact q_vret (pc := 115) C hr d_Do_add_115 h
def B_Do_add_25 (o : Nat) (o1 : Nat) (x2 : Int32) (x3 : Int32) (x4 : Int32) (K : Sg → Prop) (v5 : Int32) (vs0 : Int32) (σ : Sg) : Prop :=
  w_Ho_powerIn o1 x3 vs0 σ (fun u31 => (vp_in ((x2 * (4 : Int32)) + x3) 80 ∧ (∀ τ47 : Sg, τ47 = s2 σ (o + 1) ((x2 * (4 : Int32)) + x3).toNatClampNeg vs0 → (vp_in x3 4 ∧ (vp_in x3 4 ∧ (∀ τ58 : Sg, τ58 = s2 τ47 (o + 2) x3.toNatClampNeg ((τ47 (o + 2) x3.toNatClampNeg) + u31) → (∀ τ67 : Sg, τ67 = s2 τ58 o 2 ((τ58 o 2) + u31) → (∀ τ78 : Sg, τ78 = s2 τ67 o 3 ((τ67 o 3) - u31) → ((x4 = 0 → K τ78) ∧ (¬ x4 = 0 → (∀ τ93 : Sg, τ93 = s2 τ78 o 4 ((τ78 o 4) + (1 : Int32)) → ((¬ v5 = 0 → B_Do_add_111 o o1 x2 x3 x4 K (0 : Int32) (τ93 o 5) τ93) ∧ (v5 = 0 → B_Do_add_111 o o1 x2 x3 x4 K (1 : Int32) (τ93 o 5) τ93)))))))))))))
theorem t_Do_add_25 {X : Bx} {Y : Yx} {o : Nat} {o1 : Nat} {x2 : Int32} {x3 : Int32} {x4 : Int32} {v5 : Int32} {vs0 : Int32} {K : Sg → Prop}  (hY : YD Y) (C : Cx X Y prog_2_method_6_code 8 "LoadCycles$Doing" 2 45) (hr : (xh X).sig.returnType = none) (ho : kd o = 0) (ho1 : kd o1 = 2)  {σ : Sg} (h : B_Do_add_25 o o1 x2 x3 x4 K v5 vs0 σ) : St X Y 8 (QV X Y K) 25 [(0, .ref (ya Y o)), (1, .ref (ya Y o1)), (2, .int x2), (3, .int x3), (4, .int x4), (5, .int v5)] [.int vs0] σ := by
  unfold B_Do_add_25 at h
  refine q_istore (pc := 25) [(6, .int vs0), (0, .ref (ya Y o)), (1, .ref (ya Y o1)), (2, .int x2), (3, .int x3), (4, .int x4), (5, .int v5)] C d_Do_add_25 (by decide) rfl ?_
  refine q_aload_n (pc := 27) C d_Do_add_27 rfl 2 rfl ?_
  refine q_iload_n (pc := 28) C d_Do_add_28 rfl 4 rfl ?_
  refine q_iload (pc := 29) C d_Do_add_29 0 rfl ?_
  refine q_callVIr (pc := 31) (st := []) (d := o1) C (m_Ho_powerIn hY ho1 h) mi_Ho_powerIn ho1 (by decide) rfl wd_498 rfl rfl (Nat.le_of_ble_eq_true rfl) (by decide) (by decide) d_Do_add_31 (fun u31 h => ?_)
  refine q_istore (pc := 34) [(7, .int u31), (6, .int vs0), (0, .ref (ya Y o)), (1, .ref (ya Y o1)), (2, .int x2), (3, .int x3), (4, .int x4), (5, .int v5)] C d_Do_add_34 (by decide) rfl ?_
  refine q_aload_n (pc := 36) C d_Do_add_36 rfl 2 rfl ?_
  refine q_get (pc := 37) (c := o) (ci := 0) (k := 0) (v := .ref (ya Y (o + 1))) C ho (by decide) (by decide) wd_134 rfl d_Do_add_37 ?_
  refine q_iload_n (pc := 40) C d_Do_add_40 rfl 4 rfl ?_
  refine q_iconst (pc := 41) (v := 4) C d_Do_add_41 (by decide) ?_
  refine q_imul (pc := 42) C d_Do_add_42 ?_
  refine q_iload_n (pc := 43) C d_Do_add_43 rfl 5 rfl ?_
  refine q_iadd (pc := 44) C d_Do_add_44 ?_
  refine q_iload (pc := 45) C d_Do_add_45 1 rfl ?_
  obtain ⟨h1, h⟩ := h
  refine q_iast (pc := 47) (c := (o + 1)) C (k0_1 ho) h1 d_Do_add_47 ?_
  refine q_nms (fun τ47 eτ47 => ?_)
  replace h := h τ47 eτ47
  refine q_aload_n (pc := 48) C d_Do_add_48 rfl 2 rfl ?_
  refine q_get (pc := 49) (c := o) (ci := 0) (k := 1) (v := .ref (ya Y (o + 2))) C ho (by decide) (by decide) wd_135 rfl d_Do_add_49 ?_
  refine q_iload_n (pc := 52) C d_Do_add_52 rfl 5 rfl ?_
  refine q_dup2 (pc := 53) C d_Do_add_53 rfl rfl ?_
  obtain ⟨h2, h⟩ := h
  refine q_iald (pc := 54) (c := (o + 2)) C (k0_2 ho) h2 d_Do_add_54 ?_
  refine q_iload (pc := 55) C d_Do_add_55 0 rfl ?_
  refine q_iadd (pc := 57) C d_Do_add_57 ?_
  obtain ⟨h3, h⟩ := h
  refine q_iast (pc := 58) (c := (o + 2)) C (k0_2 ho) h3 d_Do_add_58 ?_
  refine q_nms (fun τ58 eτ58 => ?_)
  replace h := h τ58 eτ58
  refine q_aload_n (pc := 59) C d_Do_add_59 rfl 2 rfl ?_
  refine q_dup (pc := 60) C d_Do_add_60 rfl ?_
  refine q_get (pc := 61) (c := o) (ci := 0) (k := 2) (v := .int (τ58 o 2)) C ho (by decide) (by decide) wd_138 rfl d_Do_add_61 ?_
  refine q_iload (pc := 64) C d_Do_add_64 0 rfl ?_
  refine q_iadd (pc := 66) C d_Do_add_66 ?_
  refine q_put (pc := 67) (c := o) (ci := 0) (k := 2) C ho (by decide) (by decide) wd_138 rfl rfl rfl fs_0_2 d_Do_add_67 ?_
  refine q_nms (fun τ67 eτ67 => ?_)
  replace h := h τ67 eτ67
  refine q_aload_n (pc := 70) C d_Do_add_70 rfl 2 rfl ?_
  refine q_dup (pc := 71) C d_Do_add_71 rfl ?_
  refine q_get (pc := 72) (c := o) (ci := 0) (k := 3) (v := .int (τ67 o 3)) C ho (by decide) (by decide) wd_139 rfl d_Do_add_72 ?_
  refine q_iload (pc := 75) C d_Do_add_75 0 rfl ?_
  refine q_isub (pc := 77) C d_Do_add_77 ?_
  refine q_put (pc := 78) (c := o) (ci := 0) (k := 3) C ho (by decide) (by decide) wd_139 rfl rfl rfl fs_0_3 d_Do_add_78 ?_
  refine q_nms (fun τ78 eτ78 => ?_)
  replace h := h τ78 eτ78
  refine q_iload (pc := 81) C d_Do_add_81 6 rfl ?_
  obtain ⟨h6, h7⟩ := h
  refine q_if_eq (pc := 83) 115 C d_Do_add_83 (by decide) (fun hc => ?_) (fun hc => ?_)
  · have h := h6 hc
    exact q_vret (pc := 115) C hr d_Do_add_115 h
  have h := h7 hc
  refine q_aload_n (pc := 86) C d_Do_add_86 rfl 2 rfl ?_
  refine q_dup (pc := 87) C d_Do_add_87 rfl ?_
  refine q_get (pc := 88) (c := o) (ci := 0) (k := 4) (v := .int (τ78 o 4)) C ho (by decide) (by decide) wd_140 rfl d_Do_add_88 ?_
  refine q_iconst (pc := 91) (v := 1) C d_Do_add_91 (by decide) ?_
  refine q_iadd (pc := 92) C d_Do_add_92 ?_
  refine q_put (pc := 93) (c := o) (ci := 0) (k := 4) C ho (by decide) (by decide) wd_140 rfl rfl rfl fs_0_4 d_Do_add_93 ?_
  refine q_nms (fun τ93 eτ93 => ?_)
  replace h := h τ93 eτ93
  refine q_aload_n (pc := 96) C d_Do_add_96 rfl 2 rfl ?_
  refine q_dup (pc := 97) C d_Do_add_97 rfl ?_
  refine q_get (pc := 98) (c := o) (ci := 0) (k := 5) (v := .int (τ93 o 5)) C ho (by decide) (by decide) wd_141 rfl d_Do_add_98 ?_
  refine q_iload (pc := 101) C d_Do_add_101 7 rfl ?_
  obtain ⟨h4, h5⟩ := h
  refine q_if_ne (pc := 103) 110 C d_Do_add_103 (by decide) (fun hc => ?_) (fun hc => ?_)
  · have h := h4 hc
    refine q_iconst (pc := 110) (v := 0) C d_Do_add_110 (by decide) ?_
    refine q_sub [] [] rfl ?_
    exact t_Do_add_111 hY C hr ho ho1 h
  have h := h5 hc
  refine q_iconst (pc := 106) (v := 1) C d_Do_add_106 (by decide) ?_
  refine q_goto (pc := 107) 111 C d_Do_add_107 (by decide) ?_
  refine q_sub [] [] rfl ?_
  exact t_Do_add_111 hY C hr ho ho1 h
def w_Do_add (o : Nat) (o1 : Nat) (x2 : Int32) (x3 : Int32) (x4 : Int32) (σ : Sg) (K : Sg → Prop) : Prop :=
  w_Do_stateAhead o x2 x3 σ (fun u3 => ((x4 = 0 → B_Do_add_25 o o1 x2 x3 x4 K u3 u3 σ) ∧ (¬ x4 = 0 → w_Ho_stateAfter o1 x3 u3 σ (fun u17 => B_Do_add_25 o o1 x2 x3 x4 K u3 u17 σ))))
set_option maxHeartbeats 4000000 in
theorem m_Do_add {Y : Yx} {o : Nat} {o1 : Nat} {x2 : Int32} {x3 : Int32} {x4 : Int32} {σ : Sg} {K : Sg → Prop} (hY : YD Y) (ho : kd o = 0) (ho1 : kd o1 = 2) (h : w_Do_add o o1 x2 x3 x4 σ K) : MetV Y y_Do_add prog_2_method_6_code 8 2 45 [.ref (ya Y o), .ref (ya Y o1), .int x2, .int x3, .int x4] σ K := by
  refine met_V [(0, .ref (ya Y o)), (1, .ref (ya Y o1)), (2, .int x2), (3, .int x3), (4, .int x4)] hY (by decide) (Nat.le_of_ble_eq_true rfl) rfl (fun X C hr => ?_)
  unfold w_Do_add at h
  refine q_aload_n (pc := 0) C d_Do_add_0 rfl 0 rfl ?_
  refine q_iload_n (pc := 1) C d_Do_add_1 rfl 2 rfl ?_
  refine q_iload_n (pc := 2) C d_Do_add_2 rfl 3 rfl ?_
  refine q_callVIr (pc := 3) (st := []) (d := o) C (m_Do_stateAhead hY ho h) mi_Do_stateAhead ho (by decide) rfl wd_489 rfl rfl (Nat.le_of_ble_eq_true rfl) (by decide) (by decide) d_Do_add_3 (fun u3 h => ?_)
  refine q_istore (pc := 6) [(5, .int u3), (0, .ref (ya Y o)), (1, .ref (ya Y o1)), (2, .int x2), (3, .int x3), (4, .int x4)] C d_Do_add_6 (by decide) rfl ?_
  refine q_iload (pc := 8) C d_Do_add_8 5 rfl ?_
  obtain ⟨h8, h9⟩ := h
  refine q_if_eq (pc := 10) 23 C d_Do_add_10 (by decide) (fun hc => ?_) (fun hc => ?_)
  · have h := h8 hc
    refine q_iload (pc := 23) C d_Do_add_23 0 rfl ?_
    refine q_sub [(0, .ref (ya Y o)), (1, .ref (ya Y o1)), (2, .int x2), (3, .int x3), (4, .int x4), (5, .int u3)] [1, 2, 3, 4, 5, 0] rfl ?_
    exact t_Do_add_25 hY C hr ho ho1 h
  have h := h9 hc
  refine q_aload_n (pc := 13) C d_Do_add_13 rfl 2 rfl ?_
  refine q_iload_n (pc := 14) C d_Do_add_14 rfl 4 rfl ?_
  refine q_iload (pc := 15) C d_Do_add_15 0 rfl ?_
  refine q_callVIr (pc := 17) (st := []) (d := o1) C (m_Ho_stateAfter hY ho1 h) mi_Ho_stateAfter ho1 (by decide) rfl wd_497 rfl rfl (Nat.le_of_ble_eq_true rfl) (by decide) (by decide) d_Do_add_17 (fun u17 h => ?_)
  refine q_goto (pc := 20) 25 C d_Do_add_20 (by decide) ?_
  refine q_sub [(0, .ref (ya Y o)), (1, .ref (ya Y o1)), (2, .int x2), (3, .int x3), (4, .int x4), (5, .int u3)] [1, 2, 3, 4, 5, 0] rfl ?_
  exact t_Do_add_25 hY C hr ho ho1 h
theorem d_Un_unmix_0 : decode prog_7_method_2_code 0 = .ok (.aload_n 0, 1) := by decide +kernel
theorem d_Un_unmix_1 : decode prog_7_method_2_code 1 = .ok (.aload_n 1, 1) := by decide +kernel
theorem d_Un_unmix_2 : decode prog_7_method_2_code 2 = .ok (.invokevirtual 27, 3) := by decide +kernel
theorem d_Un_unmix_5 : decode prog_7_method_2_code 5 = .ok (.aload_n 0, 1) := by decide +kernel
theorem d_Un_unmix_6 : decode prog_7_method_2_code 6 = .ok (.aload_n 1, 1) := by decide +kernel
theorem d_Un_unmix_7 : decode prog_7_method_2_code 7 = .ok (.invokevirtual 31, 3) := by decide +kernel
theorem d_Un_unmix_10 : decode prog_7_method_2_code 10 = .ok (.aload_n 2, 1) := by decide +kernel
theorem d_Un_unmix_11 : decode prog_7_method_2_code 11 = .ok (.aload_n 1, 1) := by decide +kernel
theorem d_Un_unmix_12 : decode prog_7_method_2_code 12 = .ok (.invokevirtual 34, 3) := by decide +kernel
theorem d_Un_unmix_15 : decode prog_7_method_2_code 15 = .ok (.iconst 0, 1) := by decide +kernel
theorem d_Un_unmix_16 : decode prog_7_method_2_code 16 = .ok (.istore_n 3, 1) := by decide +kernel
theorem d_Un_unmix_17 : decode prog_7_method_2_code 17 = .ok (.iconst 0, 1) := by decide +kernel
theorem d_Un_unmix_18 : decode prog_7_method_2_code 18 = .ok (.istore 4, 2) := by decide +kernel
theorem d_Un_unmix_20 : decode prog_7_method_2_code 20 = .ok (.iload 4, 2) := by decide +kernel
theorem d_Un_unmix_22 : decode prog_7_method_2_code 22 = .ok (.aload_n 1, 1) := by decide +kernel
theorem d_Un_unmix_23 : decode prog_7_method_2_code 23 = .ok (.getfield 39, 3) := by decide +kernel
theorem d_Un_unmix_26 : decode prog_7_method_2_code 26 = .ok (.if_icmp .ge 71, 3) := by decide +kernel
theorem d_Un_unmix_29 : decode prog_7_method_2_code 29 = .ok (.aload_n 0, 1) := by decide +kernel
theorem d_Un_unmix_30 : decode prog_7_method_2_code 30 = .ok (.aload_n 1, 1) := by decide +kernel
theorem d_Un_unmix_31 : decode prog_7_method_2_code 31 = .ok (.iload 4, 2) := by decide +kernel
theorem d_Un_unmix_33 : decode prog_7_method_2_code 33 = .ok (.iload_n 3, 1) := by decide +kernel
theorem d_Un_unmix_34 : decode prog_7_method_2_code 34 = .ok (.invokevirtual 45, 3) := by decide +kernel
theorem d_Un_unmix_37 : decode prog_7_method_2_code 37 = .ok (.istore 5, 2) := by decide +kernel
theorem d_Un_unmix_39 : decode prog_7_method_2_code 39 = .ok (.aload_n 0, 1) := by decide +kernel
theorem d_Un_unmix_40 : decode prog_7_method_2_code 40 = .ok (.aload_n 1, 1) := by decide +kernel
theorem d_Un_unmix_41 : decode prog_7_method_2_code 41 = .ok (.iload_n 3, 1) := by decide +kernel
theorem d_Un_unmix_42 : decode prog_7_method_2_code 42 = .ok (.iload 5, 2) := by decide +kernel
theorem d_Un_unmix_44 : decode prog_7_method_2_code 44 = .ok (.invokevirtual 49, 3) := by decide +kernel
theorem d_Un_unmix_47 : decode prog_7_method_2_code 47 = .ok (.istore_n 3, 1) := by decide +kernel
theorem d_Un_unmix_48 : decode prog_7_method_2_code 48 = .ok (.iconst 0, 1) := by decide +kernel
theorem d_Un_unmix_49 : decode prog_7_method_2_code 49 = .ok (.istore 6, 2) := by decide +kernel
theorem d_Un_unmix_51 : decode prog_7_method_2_code 51 = .ok (.iload 6, 2) := by decide +kernel
theorem d_Un_unmix_53 : decode prog_7_method_2_code 53 = .ok (.aload_n 1, 1) := by decide +kernel
theorem d_Un_unmix_54 : decode prog_7_method_2_code 54 = .ok (.getfield 52, 3) := by decide +kernel
theorem d_Un_unmix_57 : decode prog_7_method_2_code 57 = .ok (.if_icmp .ge 34, 3) := by decide +kernel
theorem d_Un_unmix_60 : decode prog_7_method_2_code 60 = .ok (.aload_n 2, 1) := by decide +kernel
theorem d_Un_unmix_61 : decode prog_7_method_2_code 61 = .ok (.aload_n 1, 1) := by decide +kernel
theorem d_Un_unmix_62 : decode prog_7_method_2_code 62 = .ok (.iload 4, 2) := by decide +kernel
theorem d_Un_unmix_64 : decode prog_7_method_2_code 64 = .ok (.iload 6, 2) := by decide +kernel
theorem d_Un_unmix_66 : decode prog_7_method_2_code 66 = .ok (.iload 5, 2) := by decide +kernel
theorem d_Un_unmix_68 : decode prog_7_method_2_code 68 = .ok (.iload 6, 2) := by decide +kernel
theorem d_Un_unmix_70 : decode prog_7_method_2_code 70 = .ok (.ishr, 1) := by decide +kernel
theorem d_Un_unmix_71 : decode prog_7_method_2_code 71 = .ok (.iconst 1, 1) := by decide +kernel
theorem d_Un_unmix_72 : decode prog_7_method_2_code 72 = .ok (.iand, 1) := by decide +kernel
theorem d_Un_unmix_73 : decode prog_7_method_2_code 73 = .ok (.iconst 1, 1) := by decide +kernel
theorem d_Un_unmix_74 : decode prog_7_method_2_code 74 = .ok (.if_icmp .ne 7, 3) := by decide +kernel
theorem d_Un_unmix_77 : decode prog_7_method_2_code 77 = .ok (.iconst 1, 1) := by decide +kernel
theorem d_Un_unmix_78 : decode prog_7_method_2_code 78 = .ok (.goto 4, 3) := by decide +kernel
theorem d_Un_unmix_81 : decode prog_7_method_2_code 81 = .ok (.iconst 0, 1) := by decide +kernel
theorem d_Un_unmix_82 : decode prog_7_method_2_code 82 = .ok (.invokevirtual 55, 3) := by decide +kernel
theorem d_Un_unmix_85 : decode prog_7_method_2_code 85 = .ok (.iinc 6 1, 3) := by decide +kernel
theorem d_Un_unmix_88 : decode prog_7_method_2_code 88 = .ok (.goto (-37), 3) := by decide +kernel
theorem d_Un_unmix_91 : decode prog_7_method_2_code 91 = .ok (.iinc 4 1, 3) := by decide +kernel
theorem d_Un_unmix_94 : decode prog_7_method_2_code 94 = .ok (.goto (-74), 3) := by decide +kernel
theorem d_Un_unmix_97 : decode prog_7_method_2_code 97 = .ok (.return_, 1) := by decide +kernel
abbrev y_Un_unmix : MethodName := ⟨"LoadCycles$Unmixer", "unmix", "(LLoadCycles$House;LLoadCycles$Doing;)V"⟩
theorem mi_Un_unmix : miV y_Un_unmix prog_7_method_2_code 7 none 2 := ⟨wd_422, wd_423, wd_68, wd_424, by decide, by decide, by decide +kernel⟩
def B_Un_unmix_82 (o1 : Nat) (o2 : Nat) (K : Sg → Prop) (r20 : Int32 → Int32 → Sg → Prop) (r51 : Int32 → Sg → Prop) (v3 : Int32) (v4 : Int32) (v5 : Int32) (v6 : Int32) (vs0 : Int32) (vs1 : Int32) (vs2 : Int32) (σ : Sg) : Prop :=
  w_Do_add o2 o1 vs2 vs1 vs0 σ (fun τ82 => r51 (v6 + (1 : Int32)) τ82)
theorem t_Un_unmix_82 {X : Bx} {Y : Yx} {o1 : Nat} {o2 : Nat} {v3 : Int32} {v4 : Int32} {v5 : Int32} {v6 : Int32} {vs0 : Int32} {vs1 : Int32} {vs2 : Int32} {K : Sg → Prop} {r20 : Int32 → Int32 → Sg → Prop} {r51 : Int32 → Sg → Prop} (hY : YD Y) (C : Cx X Y prog_7_method_2_code 7 "LoadCycles$Unmixer" 4 95) (hr : (xh X).sig.returnType = none) (ho1 : kd o1 = 2) (ho2 : kd o2 = 0) (H20 : ∀ (v3 : Int32) (v4 : Int32) (σ : Sg), r20 v3 v4 σ → St X Y 7 (QV X Y K) 20 [(0, .ref (ya Y 22)), (1, .ref (ya Y o1)), (2, .ref (ya Y o2)), (3, .int v3), (4, .int v4)] [] σ) (H51 : ∀ (v6 : Int32) (σ : Sg), r51 v6 σ → St X Y 7 (QV X Y K) 51 [(0, .ref (ya Y 22)), (1, .ref (ya Y o1)), (2, .ref (ya Y o2)), (3, .int v3), (4, .int v4), (5, .int v5), (6, .int v6)] [] σ)  {σ : Sg} (h : B_Un_unmix_82 o1 o2 K r20 r51 v3 v4 v5 v6 vs0 vs1 vs2 σ) : St X Y 7 (QV X Y K) 82 [(0, .ref (ya Y 22)), (1, .ref (ya Y o1)), (2, .ref (ya Y o2)), (3, .int v3), (4, .int v4), (5, .int v5), (6, .int v6)] [.int vs0, .int vs1, .int vs2, .ref (ya Y o1), .ref (ya Y o2)] σ := by
  unfold B_Un_unmix_82 at h
  refine q_callVV (pc := 82) (st := []) (d := o2) C (m_Do_add hY ho2 ho1 h) mi_Do_add ho2 (by decide) rfl wd_485 rfl rfl (Nat.le_of_ble_eq_true rfl) (by decide) (by decide) d_Un_unmix_82 (fun τ82 h => ?_)
  refine q_iinc (pc := 85) (v6 + (1 : Int32)) [(6, .int (v6 + (1 : Int32))), (0, .ref (ya Y 22)), (1, .ref (ya Y o1)), (2, .ref (ya Y o2)), (3, .int v3), (4, .int v4), (5, .int v5)] C d_Un_unmix_85 6 rfl rfl (by decide) rfl ?_
  refine q_goto (pc := 88) 51 C d_Un_unmix_88 (by decide) ?_
  refine q_sub [(0, .ref (ya Y 22)), (1, .ref (ya Y o1)), (2, .ref (ya Y o2)), (3, .int v3), (4, .int v4), (5, .int v5), (6, .int (v6 + (1 : Int32)))] [1, 2, 3, 4, 5, 6, 0] rfl ?_
  exact H51 (v6 + (1 : Int32)) τ82 h
def L_Un_unmix_51 (o1 : Nat) (o2 : Nat) (v3 : Int32) (v4 : Int32) (v5 : Int32) (K : Sg → Prop) (r20 : Int32 → Int32 → Sg → Prop) : Nat → Int32 → Sg → Prop
  | 0, _, _ => False
  | n + 1, v6, σ =>
    (((σ o1 4) ≤ v6 → r20 v3 (v4 + (1 : Int32)) σ) ∧ (¬ (σ o1 4) ≤ v6 → ((¬ ((v5 >>> (v6 &&& 31)) &&& (1 : Int32)) = (1 : Int32) → B_Un_unmix_82 o1 o2 K r20 (fun a0 a1 => L_Un_unmix_51 o1 o2 v3 v4 v5 K r20 n a0 a1) v3 v4 v5 v6 (0 : Int32) v6 v4 σ) ∧ (((v5 >>> (v6 &&& 31)) &&& (1 : Int32)) = (1 : Int32) → B_Un_unmix_82 o1 o2 K r20 (fun a0 a1 => L_Un_unmix_51 o1 o2 v3 v4 v5 K r20 n a0 a1) v3 v4 v5 v6 (1 : Int32) v6 v4 σ))))
theorem t_Un_unmix_51 {X : Bx} {Y : Yx} {o1 : Nat} {o2 : Nat} {v3 : Int32} {v4 : Int32} {v5 : Int32} {K : Sg → Prop} {r20 : Int32 → Int32 → Sg → Prop} (hY : YD Y) (C : Cx X Y prog_7_method_2_code 7 "LoadCycles$Unmixer" 4 95) (hr : (xh X).sig.returnType = none) (ho1 : kd o1 = 2) (ho2 : kd o2 = 0) (H20 : ∀ (v3 : Int32) (v4 : Int32) (σ : Sg), r20 v3 v4 σ → St X Y 7 (QV X Y K) 20 [(0, .ref (ya Y 22)), (1, .ref (ya Y o1)), (2, .ref (ya Y o2)), (3, .int v3), (4, .int v4)] [] σ) : ∀ (n : Nat) (v6 : Int32) (σ : Sg), L_Un_unmix_51 o1 o2 v3 v4 v5 K r20 n v6 σ → St X Y 7 (QV X Y K) 51 [(0, .ref (ya Y 22)), (1, .ref (ya Y o1)), (2, .ref (ya Y o2)), (3, .int v3), (4, .int v4), (5, .int v5), (6, .int v6)] [] σ := by
  intro n
  induction n with
  | zero => intro v6 σ h; exact h.elim
  | succ n ih =>
    intro v6 σ h
    unfold L_Un_unmix_51 at h
    refine q_iload (pc := 51) C d_Un_unmix_51 6 rfl ?_
    refine q_aload_n (pc := 53) C d_Un_unmix_53 rfl 1 rfl ?_
    refine q_get (pc := 54) (c := o1) (ci := 2) (k := 4) (v := .int (σ o1 4)) C ho1 (by decide) (by decide) wd_101 rfl d_Un_unmix_54 ?_
    obtain ⟨h3, h4⟩ := h
    refine q_icmp_ge (pc := 57) 91 C d_Un_unmix_57 (by decide) (fun hc => ?_) (fun hc => ?_)
    · have h := h3 hc
      refine q_iinc (pc := 91) (v4 + (1 : Int32)) [(4, .int (v4 + (1 : Int32))), (0, .ref (ya Y 22)), (1, .ref (ya Y o1)), (2, .ref (ya Y o2)), (3, .int v3), (5, .int v5), (6, .int v6)] C d_Un_unmix_91 4 rfl rfl (by decide) rfl ?_
      refine q_goto (pc := 94) 20 C d_Un_unmix_94 (by decide) ?_
      refine q_sub [(0, .ref (ya Y 22)), (1, .ref (ya Y o1)), (2, .ref (ya Y o2)), (3, .int v3), (4, .int (v4 + (1 : Int32)))] [1, 2, 3, 4, 0] rfl ?_
      exact H20 v3 (v4 + (1 : Int32)) σ h
    have h := h4 hc
    refine q_aload_n (pc := 60) C d_Un_unmix_60 rfl 2 rfl ?_
    refine q_aload_n (pc := 61) C d_Un_unmix_61 rfl 1 rfl ?_
    refine q_iload (pc := 62) C d_Un_unmix_62 4 rfl ?_
    refine q_iload (pc := 64) C d_Un_unmix_64 6 rfl ?_
    refine q_iload (pc := 66) C d_Un_unmix_66 5 rfl ?_
    refine q_iload (pc := 68) C d_Un_unmix_68 6 rfl ?_
    refine q_ishr (pc := 70) C d_Un_unmix_70 ?_
    refine q_iconst (pc := 71) (v := 1) C d_Un_unmix_71 (by decide) ?_
    refine q_iand (pc := 72) C d_Un_unmix_72 ?_
    refine q_iconst (pc := 73) (v := 1) C d_Un_unmix_73 (by decide) ?_
    obtain ⟨h1, h2⟩ := h
    refine q_icmp_ne (pc := 74) 81 C d_Un_unmix_74 (by decide) (fun hc => ?_) (fun hc => ?_)
    · have h := h1 hc
      refine q_iconst (pc := 81) (v := 0) C d_Un_unmix_81 (by decide) ?_
      exact t_Un_unmix_82 hY C hr ho1 ho2 H20 ih h
    have h := h2 hc
    refine q_iconst (pc := 77) (v := 1) C d_Un_unmix_77 (by decide) ?_
    refine q_goto (pc := 78) 82 C d_Un_unmix_78 (by decide) ?_
    exact t_Un_unmix_82 hY C hr ho1 ho2 H20 ih h
def L_Un_unmix_20 (o1 : Nat) (o2 : Nat) (K : Sg → Prop) : Nat → Int32 → Int32 → Sg → Prop
  | 0, _, _, _ => False
  | n + 1, v3, v4, σ =>
    (((σ o1 5) ≤ v4 → K σ) ∧ (¬ (σ o1 5) ≤ v4 → w_Un_bestSet o1 v4 v3 σ (fun u34 => w_Un_mixBehind o1 v3 u34 σ (fun u44 => (∃ n5 : Nat, L_Un_unmix_51 o1 o2 u44 v4 u34 K (fun a0 a1 a2 => L_Un_unmix_20 o1 o2 K n a0 a1 a2) n5 (0 : Int32) σ)))))
theorem t_Un_unmix_20 {X : Bx} {Y : Yx} {o1 : Nat} {o2 : Nat} {K : Sg → Prop}  (hY : YD Y) (C : Cx X Y prog_7_method_2_code 7 "LoadCycles$Unmixer" 4 95) (hr : (xh X).sig.returnType = none) (ho1 : kd o1 = 2) (ho2 : kd o2 = 0) : ∀ (n : Nat) (v3 : Int32) (v4 : Int32) (σ : Sg), L_Un_unmix_20 o1 o2 K n v3 v4 σ → St X Y 7 (QV X Y K) 20 [(0, .ref (ya Y 22)), (1, .ref (ya Y o1)), (2, .ref (ya Y o2)), (3, .int v3), (4, .int v4)] [] σ := by
  intro n
  induction n with
  | zero => intro v3 v4 σ h; exact h.elim
  | succ n ih =>
    intro v3 v4 σ h
    unfold L_Un_unmix_20 at h
    refine q_iload (pc := 20) C d_Un_unmix_20 4 rfl ?_
    refine q_aload_n (pc := 22) C d_Un_unmix_22 rfl 1 rfl ?_
    refine q_get (pc := 23) (c := o1) (ci := 2) (k := 5) (v := .int (σ o1 5)) C ho1 (by decide) (by decide) wd_104 rfl d_Un_unmix_23 ?_
    obtain ⟨h6, h7⟩ := h
    refine q_icmp_ge (pc := 26) 97 C d_Un_unmix_26 (by decide) (fun hc => ?_) (fun hc => ?_)
    · have h := h6 hc
      exact q_vret (pc := 97) C hr d_Un_unmix_97 h
    have h := h7 hc
    refine q_aload_n (pc := 29) C d_Un_unmix_29 rfl 0 rfl ?_
    refine q_aload_n (pc := 30) C d_Un_unmix_30 rfl 1 rfl ?_
    refine q_iload (pc := 31) C d_Un_unmix_31 4 rfl ?_
    refine q_iload_n (pc := 33) C d_Un_unmix_33 rfl 3 rfl ?_
    refine q_callVIr (pc := 34) (st := []) (d := 22) C (m_Un_bestSet hY ho1 h) mi_Un_bestSet rfl (by decide) rfl wd_471 rfl rfl (Nat.le_of_ble_eq_true rfl) (by decide) (by decide) d_Un_unmix_34 (fun u34 h => ?_)
    refine q_istore (pc := 37) [(5, .int u34), (0, .ref (ya Y 22)), (1, .ref (ya Y o1)), (2, .ref (ya Y o2)), (3, .int v3), (4, .int v4)] C d_Un_unmix_37 (by decide) rfl ?_
    refine q_aload_n (pc := 39) C d_Un_unmix_39 rfl 1 rfl ?_
    refine q_aload_n (pc := 40) C d_Un_unmix_40 rfl 2 rfl ?_
    refine q_iload_n (pc := 41) C d_Un_unmix_41 rfl 4 rfl ?_
    refine q_iload (pc := 42) C d_Un_unmix_42 0 rfl ?_
    refine q_callVIr (pc := 44) (st := []) (d := 22) C (m_Un_mixBehind hY ho1 h) mi_Un_mixBehind rfl (by decide) rfl wd_475 rfl rfl (Nat.le_of_ble_eq_true rfl) (by decide) (by decide) d_Un_unmix_44 (fun u44 h => ?_)
    refine q_istore_n (pc := 47) [(3, .int u44), (5, .int u34), (0, .ref (ya Y 22)), (1, .ref (ya Y o1)), (2, .ref (ya Y o2)), (4, .int v4)] C d_Un_unmix_47 rfl (by decide) rfl ?_
    refine q_iconst (pc := 48) (v := 0) C d_Un_unmix_48 (by decide) ?_
    refine q_istore (pc := 49) [(6, .int (0 : Int32)), (3, .int u44), (5, .int u34), (0, .ref (ya Y 22)), (1, .ref (ya Y o1)), (2, .ref (ya Y o2)), (4, .int v4)] C d_Un_unmix_49 (by decide) rfl ?_
    obtain ⟨n5, h⟩ := h
    refine q_sub [(0, .ref (ya Y 22)), (1, .ref (ya Y o1)), (2, .ref (ya Y o2)), (3, .int u44), (4, .int v4), (5, .int u34), (6, .int (0 : Int32))] [3, 4, 5, 1, 6, 2, 0] rfl ?_
    exact t_Un_unmix_51 hY C hr ho1 ho2 ih n5 (0 : Int32) σ h
def w_Un_unmix (o1 : Nat) (o2 : Nat) (σ : Sg) (K : Sg → Prop) : Prop :=
  w_Un_listMixes o1 σ (fun τ2 => w_Un_findCosts o1 τ2 (fun τ7 => w_Do_begin o2 o1 τ7 (fun τ12 => (∃ n8 : Nat, L_Un_unmix_20 o1 o2 K n8 (0 : Int32) (0 : Int32) τ12))))
set_option maxHeartbeats 4000000 in
theorem m_Un_unmix {Y : Yx} {o1 : Nat} {o2 : Nat} {σ : Sg} {K : Sg → Prop} (hY : YD Y) (ho1 : kd o1 = 2) (ho2 : kd o2 = 0) (h : w_Un_unmix o1 o2 σ K) : MetV Y y_Un_unmix prog_7_method_2_code 7 4 95 [.ref (ya Y 22), .ref (ya Y o1), .ref (ya Y o2)] σ K := by
  refine met_V [(0, .ref (ya Y 22)), (1, .ref (ya Y o1)), (2, .ref (ya Y o2))] hY (by decide) (Nat.le_of_ble_eq_true rfl) rfl (fun X C hr => ?_)
  unfold w_Un_unmix at h
  refine q_aload_n (pc := 0) C d_Un_unmix_0 rfl 0 rfl ?_
  refine q_aload_n (pc := 1) C d_Un_unmix_1 rfl 1 rfl ?_
  refine q_callVV (pc := 2) (st := []) (d := 22) C (m_Un_listMixes hY ho1 h) mi_Un_listMixes rfl (by decide) rfl wd_425 rfl rfl (Nat.le_of_ble_eq_true rfl) (by decide) (by decide) d_Un_unmix_2 (fun τ2 h => ?_)
  refine q_aload_n (pc := 5) C d_Un_unmix_5 rfl 0 rfl ?_
  refine q_aload_n (pc := 6) C d_Un_unmix_6 rfl 1 rfl ?_
  refine q_callVV (pc := 7) (st := []) (d := 22) C (m_Un_findCosts hY ho1 h) mi_Un_findCosts rfl (by decide) rfl wd_446 rfl rfl (Nat.le_of_ble_eq_true rfl) (by decide) (by decide) d_Un_unmix_7 (fun τ7 h => ?_)
  refine q_aload_n (pc := 10) C d_Un_unmix_10 rfl 2 rfl ?_
  refine q_aload_n (pc := 11) C d_Un_unmix_11 rfl 1 rfl ?_
  refine q_callVV (pc := 12) (st := []) (d := o2) C (m_Do_begin hY ho2 ho1 h) mi_Do_begin ho2 (by decide) rfl wd_462 rfl rfl (Nat.le_of_ble_eq_true rfl) (by decide) (by decide) d_Un_unmix_12 (fun τ12 h => ?_)
  refine q_iconst (pc := 15) (v := 0) C d_Un_unmix_15 (by decide) ?_
  refine q_istore_n (pc := 16) [(3, .int (0 : Int32)), (0, .ref (ya Y 22)), (1, .ref (ya Y o1)), (2, .ref (ya Y o2))] C d_Un_unmix_16 rfl (by decide) rfl ?_
  refine q_iconst (pc := 17) (v := 0) C d_Un_unmix_17 (by decide) ?_
  refine q_istore (pc := 18) [(4, .int (0 : Int32)), (3, .int (0 : Int32)), (0, .ref (ya Y 22)), (1, .ref (ya Y o1)), (2, .ref (ya Y o2))] C d_Un_unmix_18 (by decide) rfl ?_
  obtain ⟨n8, h⟩ := h
  refine q_sub [(0, .ref (ya Y 22)), (1, .ref (ya Y o1)), (2, .ref (ya Y o2)), (3, .int (0 : Int32)), (4, .int (0 : Int32))] [2, 3, 4, 1, 0] rfl ?_
  exact t_Un_unmix_20 hY C hr ho1 ho2 n8 (0 : Int32) (0 : Int32) τ12 h
theorem d_Lc_knownBest_0 : decode prog_1_method_41_code 0 = .ok (.aload_n 0, 1) := by decide +kernel
theorem d_Lc_knownBest_1 : decode prog_1_method_41_code 1 = .ok (.getfield 263, 3) := by decide +kernel
theorem d_Lc_knownBest_4 : decode prog_1_method_41_code 4 = .ok (.ifCond .ne 23, 3) := by decide +kernel
theorem d_Lc_knownBest_7 : decode prog_1_method_41_code 7 = .ok (.aload_n 0, 1) := by decide +kernel
theorem d_Lc_knownBest_8 : decode prog_1_method_41_code 8 = .ok (.getfield 34, 3) := by decide +kernel
theorem d_Lc_knownBest_11 : decode prog_1_method_41_code 11 = .ok (.aload_n 0, 1) := by decide +kernel
theorem d_Lc_knownBest_12 : decode prog_1_method_41_code 12 = .ok (.getfield 12, 3) := by decide +kernel
theorem d_Lc_knownBest_15 : decode prog_1_method_41_code 15 = .ok (.aload_n 0, 1) := by decide +kernel
theorem d_Lc_knownBest_16 : decode prog_1_method_41_code 16 = .ok (.getfield 24, 3) := by decide +kernel
theorem d_Lc_knownBest_19 : decode prog_1_method_41_code 19 = .ok (.invokevirtual 270, 3) := by decide +kernel
theorem d_Lc_knownBest_22 : decode prog_1_method_41_code 22 = .ok (.aload_n 0, 1) := by decide +kernel
theorem d_Lc_knownBest_23 : decode prog_1_method_41_code 23 = .ok (.iconst 1, 1) := by decide +kernel
theorem d_Lc_knownBest_24 : decode prog_1_method_41_code 24 = .ok (.putfield 263, 3) := by decide +kernel
theorem d_Lc_knownBest_27 : decode prog_1_method_41_code 27 = .ok (.aload_n 0, 1) := by decide +kernel
theorem d_Lc_knownBest_28 : decode prog_1_method_41_code 28 = .ok (.getfield 24, 3) := by decide +kernel
theorem d_Lc_knownBest_31 : decode prog_1_method_41_code 31 = .ok (.areturn, 1) := by decide +kernel
abbrev y_Lc_knownBest : MethodName := ⟨"LoadCycles", "knownBest", "()LLoadCycles$Doing;"⟩
theorem mi_Lc_knownBest : miV y_Lc_knownBest prog_1_method_41_code 1 (some (.object "LoadCycles$Doing")) 0 := ⟨wd_419, wd_8, wd_65, wd_420, by decide, by decide, by decide +kernel⟩
def B_Lc_knownBest_27 (K : Nat → Sg → Prop)  (σ : Sg) : Prop :=
  K 16 σ
theorem t_Lc_knownBest_27 {X : Bx} {Y : Yx}  {K : Nat → Sg → Prop}  (hY : YD Y) (C : Cx X Y prog_1_method_41_code 1 "LoadCycles" 5 121) (hr : (xh X).sig.returnType = some (.object "LoadCycles$Doing"))   {σ : Sg} (h : B_Lc_knownBest_27 K σ) : St X Y 1 (QR X Y K) 27 [(0, .ref (ya Y 0))] [] σ := by
  unfold B_Lc_knownBest_27 at h
  refine q_aload_n (pc := 27) C d_Lc_knownBest_27 rfl 0 rfl ?_
  refine q_get (pc := 28) (c := 0) (ci := 6) (k := 2) (v := .ref (ya Y 16)) C rfl (by decide) (by decide) wd_232 rfl d_Lc_knownBest_28 ?_
  exact q_aret (pc := 31) C hr d_Lc_knownBest_31 h
def w_Lc_knownBest  (σ : Sg) (K : Nat → Sg → Prop) : Prop :=
  ((¬ (σ 0 11) = 0 → B_Lc_knownBest_27 K σ) ∧ ((σ 0 11) = 0 → w_Un_unmix 1 16 σ (fun τ19 => (∀ τ24 : Sg, τ24 = s2 τ19 0 11 (1 : Int32) → B_Lc_knownBest_27 K τ24))))
set_option maxHeartbeats 4000000 in
theorem m_Lc_knownBest {Y : Yx}  {σ : Sg} {K : Nat → Sg → Prop} (hY : YD Y)  (h : w_Lc_knownBest σ K) : MetR Y y_Lc_knownBest prog_1_method_41_code 1 ((.object "LoadCycles$Doing")) 5 121 [.ref (ya Y 0)] σ K := by
  refine met_R [(0, .ref (ya Y 0))] hY (by decide) (Nat.le_of_ble_eq_true rfl) rfl (fun X C hr => ?_)
  unfold w_Lc_knownBest at h
  refine q_aload_n (pc := 0) C d_Lc_knownBest_0 rfl 0 rfl ?_
  refine q_get (pc := 1) (c := 0) (ci := 6) (k := 11) (v := .int (σ 0 11)) C rfl (by decide) (by decide) wd_241 rfl d_Lc_knownBest_1 ?_
  obtain ⟨h1, h2⟩ := h
  refine q_if_ne (pc := 4) 27 C d_Lc_knownBest_4 (by decide) (fun hc => ?_) (fun hc => ?_)
  · have h := h1 hc
    exact t_Lc_knownBest_27 hY C hr h
  have h := h2 hc
  refine q_aload_n (pc := 7) C d_Lc_knownBest_7 rfl 0 rfl ?_
  refine q_get (pc := 8) (c := 0) (ci := 6) (k := 4) (v := .ref (ya Y 22)) C rfl (by decide) (by decide) wd_234 rfl d_Lc_knownBest_8 ?_
  refine q_aload_n (pc := 11) C d_Lc_knownBest_11 rfl 0 rfl ?_
  refine q_get (pc := 12) (c := 0) (ci := 6) (k := 0) (v := .ref (ya Y 1)) C rfl (by decide) (by decide) wd_230 rfl d_Lc_knownBest_12 ?_
  refine q_aload_n (pc := 15) C d_Lc_knownBest_15 rfl 0 rfl ?_
  refine q_get (pc := 16) (c := 0) (ci := 6) (k := 2) (v := .ref (ya Y 16)) C rfl (by decide) (by decide) wd_232 rfl d_Lc_knownBest_16 ?_
  refine q_callVV (pc := 19) (st := []) (d := 22) C (m_Un_unmix hY rfl rfl h) mi_Un_unmix rfl (by decide) rfl wd_421 rfl rfl (Nat.le_of_ble_eq_true rfl) (by decide) (by decide) d_Lc_knownBest_19 (fun τ19 h => ?_)
  refine q_aload_n (pc := 22) C d_Lc_knownBest_22 rfl 0 rfl ?_
  refine q_iconst (pc := 23) (v := 1) C d_Lc_knownBest_23 (by decide) ?_
  refine q_put (pc := 24) (c := 0) (ci := 6) (k := 11) C rfl (by decide) (by decide) wd_241 rfl rfl rfl fs_6_11 d_Lc_knownBest_24 ?_
  refine q_nms (fun τ24 eτ24 => ?_)
  replace h := h τ24 eτ24
  exact t_Lc_knownBest_27 hY C hr h
theorem d_Lc_at_0 : decode prog_1_method_8_code 0 = .ok (.aload_n 0, 1) := by decide +kernel
theorem d_Lc_at_1 : decode prog_1_method_8_code 1 = .ok (.getfield 12, 3) := by decide +kernel
theorem d_Lc_at_4 : decode prog_1_method_8_code 4 = .ok (.iload_n 1, 1) := by decide +kernel
theorem d_Lc_at_5 : decode prog_1_method_8_code 5 = .ok (.invokevirtual 160, 3) := by decide +kernel
theorem d_Lc_at_8 : decode prog_1_method_8_code 8 = .ok (.ifCond .eq 14, 3) := by decide +kernel
theorem d_Lc_at_11 : decode prog_1_method_8_code 11 = .ok (.aload_n 0, 1) := by decide +kernel
theorem d_Lc_at_12 : decode prog_1_method_8_code 12 = .ok (.getfield 12, 3) := by decide +kernel
theorem d_Lc_at_15 : decode prog_1_method_8_code 15 = .ok (.iload_n 2, 1) := by decide +kernel
theorem d_Lc_at_16 : decode prog_1_method_8_code 16 = .ok (.invokevirtual 108, 3) := by decide +kernel
theorem d_Lc_at_19 : decode prog_1_method_8_code 19 = .ok (.ifCond .ne 5, 3) := by decide +kernel
theorem d_Lc_at_22 : decode prog_1_method_8_code 22 = .ok (.iconst (-1), 1) := by decide +kernel
theorem d_Lc_at_23 : decode prog_1_method_8_code 23 = .ok (.ireturn, 1) := by decide +kernel
theorem d_Lc_at_24 : decode prog_1_method_8_code 24 = .ok (.aload_n 0, 1) := by decide +kernel
theorem d_Lc_at_25 : decode prog_1_method_8_code 25 = .ok (.invokevirtual 169, 3) := by decide +kernel
theorem d_Lc_at_28 : decode prog_1_method_8_code 28 = .ok (.iload_n 1, 1) := by decide +kernel
theorem d_Lc_at_29 : decode prog_1_method_8_code 29 = .ok (.iload_n 2, 1) := by decide +kernel
theorem d_Lc_at_30 : decode prog_1_method_8_code 30 = .ok (.invokevirtual 173, 3) := by decide +kernel
theorem d_Lc_at_33 : decode prog_1_method_8_code 33 = .ok (.ireturn, 1) := by decide +kernel
abbrev y_Lc_at : MethodName := ⟨"LoadCycles", "at", "(II)I"⟩
theorem mi_Lc_at : miV y_Lc_at prog_1_method_8_code 3 (some .int) 2 := ⟨wd_414, wd_415, wd_65, wd_416, by decide, by decide, by decide +kernel⟩
def w_Lc_at (x1 : Int32) (x2 : Int32) (σ : Sg) (K : Int32 → Sg → Prop) : Prop :=
  w_Ho_hasTime 1 x1 σ (fun u5 => ((u5 = 0 → K (-1 : Int32) σ) ∧ (¬ u5 = 0 → w_Ho_hasAppliance 1 x2 σ (fun u16 => ((¬ u16 = 0 → w_Lc_knownBest σ (fun u25 τ25 => (kd u25 = 0 ∧ w_Do_stateOf u25 x1 x2 τ25 (fun u30 => K u30 τ25)))) ∧ (u16 = 0 → K (-1 : Int32) σ))))))
set_option maxHeartbeats 4000000 in
theorem m_Lc_at {Y : Yx} {x1 : Int32} {x2 : Int32} {σ : Sg} {K : Int32 → Sg → Prop} (hY : YD Y)  (h : w_Lc_at x1 x2 σ K) : MetI Y y_Lc_at prog_1_method_8_code 3 (.int) 6 141 [.ref (ya Y 0), .int x1, .int x2] σ K := by
  refine met_I [(0, .ref (ya Y 0)), (1, .int x1), (2, .int x2)] hY (by decide) (Nat.le_of_ble_eq_true rfl) rfl (fun X C hr => ?_)
  unfold w_Lc_at at h
  refine q_aload_n (pc := 0) C d_Lc_at_0 rfl 0 rfl ?_
  refine q_get (pc := 1) (c := 0) (ci := 6) (k := 0) (v := .ref (ya Y 1)) C rfl (by decide) (by decide) wd_230 rfl d_Lc_at_1 ?_
  refine q_iload_n (pc := 4) C d_Lc_at_4 rfl 1 rfl ?_
  refine q_callVIr (pc := 5) (st := []) (d := 1) C (m_Ho_hasTime hY rfl h) mi_Ho_hasTime rfl (by decide) rfl wd_398 rfl rfl (Nat.le_of_ble_eq_true rfl) (by decide) (by decide) d_Lc_at_5 (fun u5 h => ?_)
  obtain ⟨h4, h5⟩ := h
  refine q_if_eq (pc := 8) 22 C d_Lc_at_8 (by decide) (fun hc => ?_) (fun hc => ?_)
  · have h := h4 hc
    refine q_iconst (pc := 22) (v := -1) C d_Lc_at_22 (by decide) ?_
    exact q_iret (pc := 23) C hr d_Lc_at_23 h
  have h := h5 hc
  refine q_aload_n (pc := 11) C d_Lc_at_11 rfl 0 rfl ?_
  refine q_get (pc := 12) (c := 0) (ci := 6) (k := 0) (v := .ref (ya Y 1)) C rfl (by decide) (by decide) wd_230 rfl d_Lc_at_12 ?_
  refine q_iload_n (pc := 15) C d_Lc_at_15 rfl 2 rfl ?_
  refine q_callVIr (pc := 16) (st := []) (d := 1) C (m_Ho_hasAppliance hY rfl h) mi_Ho_hasAppliance rfl (by decide) rfl wd_357 rfl rfl (Nat.le_of_ble_eq_true rfl) (by decide) (by decide) d_Lc_at_16 (fun u16 h => ?_)
  obtain ⟨h2, h3⟩ := h
  refine q_if_ne (pc := 19) 24 C d_Lc_at_19 (by decide) (fun hc => ?_) (fun hc => ?_)
  · have h := h2 hc
    refine q_aload_n (pc := 24) C d_Lc_at_24 rfl 0 rfl ?_
    refine q_callVR (pc := 25) (st := []) (d := 0) C (m_Lc_knownBest hY h) mi_Lc_knownBest rfl (by decide) rfl wd_417 rfl rfl (Nat.le_of_ble_eq_true rfl) (by decide) (by decide) d_Lc_at_25 (fun u25 τ25 h => ?_)
    obtain ⟨h1, h⟩ := h
    refine q_iload_n (pc := 28) C d_Lc_at_28 rfl 1 rfl ?_
    refine q_iload_n (pc := 29) C d_Lc_at_29 rfl 2 rfl ?_
    refine q_callVIr (pc := 30) (st := []) (d := u25) C (m_Do_stateOf hY h1 h) mi_Do_stateOf h1 (by decide) rfl wd_499 rfl rfl (Nat.le_of_ble_eq_true rfl) (by decide) (by decide) d_Lc_at_30 (fun u30 h => ?_)
    exact q_iret (pc := 33) C hr d_Lc_at_33 h
  have h := h3 hc
  refine q_iconst (pc := 22) (v := -1) C d_Lc_at_22 (by decide) ?_
  exact q_iret (pc := 23) C hr d_Lc_at_23 h
theorem d_Lc_rest_0 : decode prog_1_method_9_code 0 = .ok (.aload_n 0, 1) := by decide +kernel
theorem d_Lc_rest_1 : decode prog_1_method_9_code 1 = .ok (.getfield 12, 3) := by decide +kernel
theorem d_Lc_rest_4 : decode prog_1_method_9_code 4 = .ok (.iload_n 1, 1) := by decide +kernel
theorem d_Lc_rest_5 : decode prog_1_method_9_code 5 = .ok (.invokevirtual 160, 3) := by decide +kernel
theorem d_Lc_rest_8 : decode prog_1_method_9_code 8 = .ok (.ifCond .ne 5, 3) := by decide +kernel
theorem d_Lc_rest_11 : decode prog_1_method_9_code 11 = .ok (.iconst (-1), 1) := by decide +kernel
theorem d_Lc_rest_12 : decode prog_1_method_9_code 12 = .ok (.ireturn, 1) := by decide +kernel
theorem d_Lc_rest_13 : decode prog_1_method_9_code 13 = .ok (.aload_n 0, 1) := by decide +kernel
theorem d_Lc_rest_14 : decode prog_1_method_9_code 14 = .ok (.invokevirtual 169, 3) := by decide +kernel
theorem d_Lc_rest_17 : decode prog_1_method_9_code 17 = .ok (.astore_n 2, 1) := by decide +kernel
theorem d_Lc_rest_18 : decode prog_1_method_9_code 18 = .ok (.aload_n 0, 1) := by decide +kernel
theorem d_Lc_rest_19 : decode prog_1_method_9_code 19 = .ok (.getfield 12, 3) := by decide +kernel
theorem d_Lc_rest_22 : decode prog_1_method_9_code 22 = .ok (.getfield 148, 3) := by decide +kernel
theorem d_Lc_rest_25 : decode prog_1_method_9_code 25 = .ok (.iload_n 1, 1) := by decide +kernel
theorem d_Lc_rest_26 : decode prog_1_method_9_code 26 = .ok (.iaload, 1) := by decide +kernel
theorem d_Lc_rest_27 : decode prog_1_method_9_code 27 = .ok (.aload_n 0, 1) := by decide +kernel
theorem d_Lc_rest_28 : decode prog_1_method_9_code 28 = .ok (.getfield 12, 3) := by decide +kernel
theorem d_Lc_rest_31 : decode prog_1_method_9_code 31 = .ok (.getfield 145, 3) := by decide +kernel
theorem d_Lc_rest_34 : decode prog_1_method_9_code 34 = .ok (.isub, 1) := by decide +kernel
theorem d_Lc_rest_35 : decode prog_1_method_9_code 35 = .ok (.istore_n 3, 1) := by decide +kernel
theorem d_Lc_rest_36 : decode prog_1_method_9_code 36 = .ok (.iconst 0, 1) := by decide +kernel
theorem d_Lc_rest_37 : decode prog_1_method_9_code 37 = .ok (.istore 4, 2) := by decide +kernel
theorem d_Lc_rest_39 : decode prog_1_method_9_code 39 = .ok (.iload 4, 2) := by decide +kernel
theorem d_Lc_rest_41 : decode prog_1_method_9_code 41 = .ok (.aload_n 0, 1) := by decide +kernel
theorem d_Lc_rest_42 : decode prog_1_method_9_code 42 = .ok (.getfield 12, 3) := by decide +kernel
theorem d_Lc_rest_45 : decode prog_1_method_9_code 45 = .ok (.getfield 105, 3) := by decide +kernel
theorem d_Lc_rest_48 : decode prog_1_method_9_code 48 = .ok (.if_icmp .ge 28, 3) := by decide +kernel
theorem d_Lc_rest_51 : decode prog_1_method_9_code 51 = .ok (.iload_n 3, 1) := by decide +kernel
theorem d_Lc_rest_52 : decode prog_1_method_9_code 52 = .ok (.aload_n 0, 1) := by decide +kernel
theorem d_Lc_rest_53 : decode prog_1_method_9_code 53 = .ok (.getfield 12, 3) := by decide +kernel
theorem d_Lc_rest_56 : decode prog_1_method_9_code 56 = .ok (.iload 4, 2) := by decide +kernel
theorem d_Lc_rest_58 : decode prog_1_method_9_code 58 = .ok (.aload_n 2, 1) := by decide +kernel
theorem d_Lc_rest_59 : decode prog_1_method_9_code 59 = .ok (.iload_n 1, 1) := by decide +kernel
theorem d_Lc_rest_60 : decode prog_1_method_9_code 60 = .ok (.iload 4, 2) := by decide +kernel
theorem d_Lc_rest_62 : decode prog_1_method_9_code 62 = .ok (.invokevirtual 173, 3) := by decide +kernel
theorem d_Lc_rest_65 : decode prog_1_method_9_code 65 = .ok (.invokevirtual 176, 3) := by decide +kernel
theorem d_Lc_rest_68 : decode prog_1_method_9_code 68 = .ok (.isub, 1) := by decide +kernel
theorem d_Lc_rest_69 : decode prog_1_method_9_code 69 = .ok (.istore_n 3, 1) := by decide +kernel
theorem d_Lc_rest_70 : decode prog_1_method_9_code 70 = .ok (.iinc 4 1, 3) := by decide +kernel
theorem d_Lc_rest_73 : decode prog_1_method_9_code 73 = .ok (.goto (-34), 3) := by decide +kernel
theorem d_Lc_rest_76 : decode prog_1_method_9_code 76 = .ok (.iload_n 3, 1) := by decide +kernel
theorem d_Lc_rest_77 : decode prog_1_method_9_code 77 = .ok (.ireturn, 1) := by decide +kernel
abbrev y_Lc_rest : MethodName := ⟨"LoadCycles", "rest", "(I)I"⟩
theorem mi_Lc_rest : miV y_Lc_rest prog_1_method_9_code 5 (some .int) 1 := ⟨wd_501, wd_502, wd_65, wd_503, by decide, by decide, by decide +kernel⟩
def L_Lc_rest_39 (x1 : Int32) (c2 : Nat) (K : Int32 → Sg → Prop) : Nat → Int32 → Int32 → Sg → Prop
  | 0, _, _, _ => False
  | n + 1, v3, v4, σ =>
    (((σ 1 4) ≤ v4 → K v3 σ) ∧ (¬ (σ 1 4) ≤ v4 → w_Do_stateOf c2 x1 v4 σ (fun u62 => w_Ho_powerIn 1 v4 u62 σ (fun u65 => (∀ y3_69 : Int32, y3_69 = (v3 - u65) → L_Lc_rest_39 x1 c2 K n y3_69 (v4 + (1 : Int32)) σ)))))
theorem t_Lc_rest_39 {X : Bx} {Y : Yx} {x1 : Int32} {c2 : Nat} {K : Int32 → Sg → Prop}  (hY : YD Y) (C : Cx X Y prog_1_method_9_code 5 "LoadCycles" 6 141) (hr : (xh X).sig.returnType = some .int) (hkc2 : kd c2 = 0) : ∀ (n : Nat) (v3 : Int32) (v4 : Int32) (σ : Sg), L_Lc_rest_39 x1 c2 K n v3 v4 σ → St X Y 5 (QI X Y K) 39 [(0, .ref (ya Y 0)), (1, .int x1), (2, .ref (ya Y c2)), (3, .int v3), (4, .int v4)] [] σ := by
  intro n
  induction n with
  | zero => intro v3 v4 σ h; exact h.elim
  | succ n ih =>
    intro v3 v4 σ h
    unfold L_Lc_rest_39 at h
    refine q_iload (pc := 39) C d_Lc_rest_39 4 rfl ?_
    refine q_aload_n (pc := 41) C d_Lc_rest_41 rfl 0 rfl ?_
    refine q_get (pc := 42) (c := 0) (ci := 6) (k := 0) (v := .ref (ya Y 1)) C rfl (by decide) (by decide) wd_230 rfl d_Lc_rest_42 ?_
    refine q_get (pc := 45) (c := 1) (ci := 2) (k := 4) (v := .int (σ 1 4)) C rfl (by decide) (by decide) wd_103 rfl d_Lc_rest_45 ?_
    obtain ⟨h3, h4⟩ := h
    refine q_icmp_ge (pc := 48) 76 C d_Lc_rest_48 (by decide) (fun hc => ?_) (fun hc => ?_)
    · have h := h3 hc
      refine q_iload_n (pc := 76) C d_Lc_rest_76 rfl 3 rfl ?_
      exact q_iret (pc := 77) C hr d_Lc_rest_77 h
    have h := h4 hc
    refine q_iload_n (pc := 51) C d_Lc_rest_51 rfl 3 rfl ?_
    refine q_aload_n (pc := 52) C d_Lc_rest_52 rfl 0 rfl ?_
    refine q_get (pc := 53) (c := 0) (ci := 6) (k := 0) (v := .ref (ya Y 1)) C rfl (by decide) (by decide) wd_230 rfl d_Lc_rest_53 ?_
    refine q_iload (pc := 56) C d_Lc_rest_56 4 rfl ?_
    refine q_aload_n (pc := 58) C d_Lc_rest_58 rfl 2 rfl ?_
    refine q_iload_n (pc := 59) C d_Lc_rest_59 rfl 1 rfl ?_
    refine q_iload (pc := 60) C d_Lc_rest_60 4 rfl ?_
    refine q_callVIr (pc := 62) (st := [.int v4, .ref (ya Y 1), .int v3]) (d := c2) C (m_Do_stateOf hY hkc2 h) mi_Do_stateOf hkc2 (by decide) rfl wd_499 rfl rfl (Nat.le_of_ble_eq_true rfl) (by decide) (by decide) d_Lc_rest_62 (fun u62 h => ?_)
    refine q_callVIr (pc := 65) (st := [.int v3]) (d := 1) C (m_Ho_powerIn hY rfl h) mi_Ho_powerIn rfl (by decide) rfl wd_504 rfl rfl (Nat.le_of_ble_eq_true rfl) (by decide) (by decide) d_Lc_rest_65 (fun u65 h => ?_)
    refine q_isub (pc := 68) C d_Lc_rest_68 ?_
    refine q_nmi (fun y3_69 ey3_69 => ?_)
    replace h := h y3_69 ey3_69
    refine q_istore_n (pc := 69) [(3, .int y3_69), (0, .ref (ya Y 0)), (1, .int x1), (2, .ref (ya Y c2)), (4, .int v4)] C d_Lc_rest_69 rfl (by decide) rfl ?_
    refine q_iinc (pc := 70) (v4 + (1 : Int32)) [(4, .int (v4 + (1 : Int32))), (3, .int y3_69), (0, .ref (ya Y 0)), (1, .int x1), (2, .ref (ya Y c2))] C d_Lc_rest_70 4 rfl rfl (by decide) rfl ?_
    refine q_goto (pc := 73) 39 C d_Lc_rest_73 (by decide) ?_
    refine q_sub [(0, .ref (ya Y 0)), (1, .int x1), (2, .ref (ya Y c2)), (3, .int y3_69), (4, .int (v4 + (1 : Int32)))] [2, 3, 4, 1, 0] rfl ?_
    exact ih y3_69 (v4 + (1 : Int32)) σ h
def w_Lc_rest (x1 : Int32) (σ : Sg) (K : Int32 → Sg → Prop) : Prop :=
  w_Ho_hasTime 1 x1 σ (fun u5 => ((¬ u5 = 0 → w_Lc_knownBest σ (fun u14 τ14 => (kd u14 = 0 ∧ (vp_in x1 20 ∧ (∀ y3_35 : Int32, y3_35 = ((τ14 5 x1.toNatClampNeg) - (τ14 1 6)) → (∃ n5 : Nat, L_Lc_rest_39 x1 u14 K n5 y3_35 (0 : Int32) τ14)))))) ∧ (u5 = 0 → K (-1 : Int32) σ)))
set_option maxHeartbeats 4000000 in
theorem m_Lc_rest {Y : Yx} {x1 : Int32} {σ : Sg} {K : Int32 → Sg → Prop} (hY : YD Y)  (h : w_Lc_rest x1 σ K) : MetI Y y_Lc_rest prog_1_method_9_code 5 (.int) 6 141 [.ref (ya Y 0), .int x1] σ K := by
  refine met_I [(0, .ref (ya Y 0)), (1, .int x1)] hY (by decide) (Nat.le_of_ble_eq_true rfl) rfl (fun X C hr => ?_)
  unfold w_Lc_rest at h
  refine q_aload_n (pc := 0) C d_Lc_rest_0 rfl 0 rfl ?_
  refine q_get (pc := 1) (c := 0) (ci := 6) (k := 0) (v := .ref (ya Y 1)) C rfl (by decide) (by decide) wd_230 rfl d_Lc_rest_1 ?_
  refine q_iload_n (pc := 4) C d_Lc_rest_4 rfl 1 rfl ?_
  refine q_callVIr (pc := 5) (st := []) (d := 1) C (m_Ho_hasTime hY rfl h) mi_Ho_hasTime rfl (by decide) rfl wd_398 rfl rfl (Nat.le_of_ble_eq_true rfl) (by decide) (by decide) d_Lc_rest_5 (fun u5 h => ?_)
  obtain ⟨h6, h7⟩ := h
  refine q_if_ne (pc := 8) 13 C d_Lc_rest_8 (by decide) (fun hc => ?_) (fun hc => ?_)
  · have h := h6 hc
    refine q_aload_n (pc := 13) C d_Lc_rest_13 rfl 0 rfl ?_
    refine q_callVR (pc := 14) (st := []) (d := 0) C (m_Lc_knownBest hY h) mi_Lc_knownBest rfl (by decide) rfl wd_417 rfl rfl (Nat.le_of_ble_eq_true rfl) (by decide) (by decide) d_Lc_rest_14 (fun u14 τ14 h => ?_)
    obtain ⟨h1, h⟩ := h
    refine q_astore_n (pc := 17) [(2, .ref (ya Y u14)), (0, .ref (ya Y 0)), (1, .int x1)] C d_Lc_rest_17 rfl (by decide) rfl ?_
    refine q_aload_n (pc := 18) C d_Lc_rest_18 rfl 1 rfl ?_
    refine q_get (pc := 19) (c := 0) (ci := 6) (k := 0) (v := .ref (ya Y 1)) C rfl (by decide) (by decide) wd_230 rfl d_Lc_rest_19 ?_
    refine q_get (pc := 22) (c := 1) (ci := 2) (k := 3) (v := .ref (ya Y 5)) C rfl (by decide) (by decide) wd_98 rfl d_Lc_rest_22 ?_
    refine q_iload_n (pc := 25) C d_Lc_rest_25 rfl 2 rfl ?_
    obtain ⟨h2, h⟩ := h
    refine q_iald (pc := 26) (c := 5) C ⟨rfl, rfl⟩ h2 d_Lc_rest_26 ?_
    refine q_aload_n (pc := 27) C d_Lc_rest_27 rfl 1 rfl ?_
    refine q_get (pc := 28) (c := 0) (ci := 6) (k := 0) (v := .ref (ya Y 1)) C rfl (by decide) (by decide) wd_230 rfl d_Lc_rest_28 ?_
    refine q_get (pc := 31) (c := 1) (ci := 2) (k := 6) (v := .int (τ14 1 6)) C rfl (by decide) (by decide) wd_110 rfl d_Lc_rest_31 ?_
    refine q_isub (pc := 34) C d_Lc_rest_34 ?_
    refine q_nmi (fun y3_35 ey3_35 => ?_)
    replace h := h y3_35 ey3_35
    refine q_istore_n (pc := 35) [(3, .int y3_35), (2, .ref (ya Y u14)), (0, .ref (ya Y 0)), (1, .int x1)] C d_Lc_rest_35 rfl (by decide) rfl ?_
    refine q_iconst (pc := 36) (v := 0) C d_Lc_rest_36 (by decide) ?_
    refine q_istore (pc := 37) [(4, .int (0 : Int32)), (3, .int y3_35), (2, .ref (ya Y u14)), (0, .ref (ya Y 0)), (1, .int x1)] C d_Lc_rest_37 (by decide) rfl ?_
    obtain ⟨n5, h⟩ := h
    refine q_sub [(0, .ref (ya Y 0)), (1, .int x1), (2, .ref (ya Y u14)), (3, .int y3_35), (4, .int (0 : Int32))] [3, 4, 2, 1, 0] rfl ?_
    exact t_Lc_rest_39 hY C hr h1 n5 y3_35 (0 : Int32) τ14 h
  have h := h7 hc
  refine q_iconst (pc := 11) (v := -1) C d_Lc_rest_11 (by decide) ?_
  exact q_iret (pc := 12) C hr d_Lc_rest_12 h
theorem d_Do_numberOf_0 : decode prog_2_method_4_code 0 = .ok (.iload_n 1, 1) := by decide +kernel
theorem d_Do_numberOf_1 : decode prog_2_method_4_code 1 = .ok (.tableswitch 42 0 2 #[27, 32, 37], 27) := by decide +kernel
theorem d_Do_numberOf_28 : decode prog_2_method_4_code 28 = .ok (.aload_n 0, 1) := by decide +kernel
theorem d_Do_numberOf_29 : decode prog_2_method_4_code 29 = .ok (.getfield 22, 3) := by decide +kernel
theorem d_Do_numberOf_32 : decode prog_2_method_4_code 32 = .ok (.ireturn, 1) := by decide +kernel
theorem d_Do_numberOf_33 : decode prog_2_method_4_code 33 = .ok (.aload_n 0, 1) := by decide +kernel
theorem d_Do_numberOf_34 : decode prog_2_method_4_code 34 = .ok (.getfield 26, 3) := by decide +kernel
theorem d_Do_numberOf_37 : decode prog_2_method_4_code 37 = .ok (.ireturn, 1) := by decide +kernel
theorem d_Do_numberOf_38 : decode prog_2_method_4_code 38 = .ok (.aload_n 0, 1) := by decide +kernel
theorem d_Do_numberOf_39 : decode prog_2_method_4_code 39 = .ok (.getfield 29, 3) := by decide +kernel
theorem d_Do_numberOf_42 : decode prog_2_method_4_code 42 = .ok (.ireturn, 1) := by decide +kernel
theorem d_Do_numberOf_43 : decode prog_2_method_4_code 43 = .ok (.aload_n 0, 1) := by decide +kernel
theorem d_Do_numberOf_44 : decode prog_2_method_4_code 44 = .ok (.getfield 32, 3) := by decide +kernel
theorem d_Do_numberOf_47 : decode prog_2_method_4_code 47 = .ok (.ireturn, 1) := by decide +kernel
abbrev y_Do_numberOf : MethodName := ⟨"LoadCycles$Doing", "numberOf", "(I)I"⟩
theorem mi_Do_numberOf : miV y_Do_numberOf prog_2_method_4_code 2 (some .int) 1 := ⟨wd_510, wd_511, wd_67, wd_512, by decide, by decide, by decide +kernel⟩
def w_Do_numberOf (o : Nat) (x1 : Int32) (σ : Sg) (K : Int32 → Prop) : Prop :=
  ((x1 = (0 : Int32) → K (σ o 3)) ∧ (x1 = (1 : Int32) → K (σ o 4)) ∧ (x1 = (2 : Int32) → K (σ o 5)) ∧ (¬ x1 = (0 : Int32) → ¬ x1 = (1 : Int32) → ¬ x1 = (2 : Int32) → K (σ o 2)))
set_option maxHeartbeats 4000000 in
theorem m_Do_numberOf {Y : Yx} {o : Nat} {x1 : Int32} {σ : Sg} {K : Int32 → Prop} (hY : YD Y) (ho : kd o = 0) (h : w_Do_numberOf o x1 σ K) : MetI Y y_Do_numberOf prog_2_method_4_code 2 (.int) 0 0 [.ref (ya Y o), .int x1] σ (fun r τ => τ = σ ∧ K r) := by
  refine met_I [(0, .ref (ya Y o)), (1, .int x1)] hY (by decide) (Nat.le_of_ble_eq_true rfl) rfl (fun X C hr => ?_)
  unfold w_Do_numberOf at h
  refine q_iload_n (pc := 0) C d_Do_numberOf_0 rfl 1 rfl ?_
  obtain ⟨h2, h4, h6, h7⟩ := h
  by_cases h1 : x1 = (0 : Int32)
  · refine q_tableK (pc := 1) 28 (k := 0) (off := 27) C h1 (by decide) d_Do_numberOf_1 (by decide) (by decide) (by decide) (by decide) ?_
    have h := h2 h1
    refine q_aload_n (pc := 28) C d_Do_numberOf_28 rfl 0 rfl ?_
    refine q_get (pc := 29) (c := o) (ci := 0) (k := 3) (v := .int (σ o 3)) C ho (by decide) (by decide) wd_139 rfl d_Do_numberOf_29 ?_
    exact q_iret (pc := 32) C hr d_Do_numberOf_32 ⟨rfl, h⟩
  by_cases h3 : x1 = (1 : Int32)
  · refine q_tableK (pc := 1) 33 (k := 1) (off := 32) C h3 (by decide) d_Do_numberOf_1 (by decide) (by decide) (by decide) (by decide) ?_
    have h := h4 h3
    refine q_aload_n (pc := 33) C d_Do_numberOf_33 rfl 0 rfl ?_
    refine q_get (pc := 34) (c := o) (ci := 0) (k := 4) (v := .int (σ o 4)) C ho (by decide) (by decide) wd_140 rfl d_Do_numberOf_34 ?_
    exact q_iret (pc := 37) C hr d_Do_numberOf_37 ⟨rfl, h⟩
  by_cases h5 : x1 = (2 : Int32)
  · refine q_tableK (pc := 1) 38 (k := 2) (off := 37) C h5 (by decide) d_Do_numberOf_1 (by decide) (by decide) (by decide) (by decide) ?_
    have h := h6 h5
    refine q_aload_n (pc := 38) C d_Do_numberOf_38 rfl 0 rfl ?_
    refine q_get (pc := 39) (c := o) (ci := 0) (k := 5) (v := .int (σ o 5)) C ho (by decide) (by decide) wd_141 rfl d_Do_numberOf_39 ?_
    exact q_iret (pc := 42) C hr d_Do_numberOf_42 ⟨rfl, h⟩
  refine q_tableOut (pc := 1) 43 C d_Do_numberOf_1 (by have g0 := sw_ne (k := 0) rfl h1; have g1 := sw_ne (k := 1) rfl h3; have g2 := sw_ne (k := 2) rfl h5; omega) (by decide) ?_
  have h := h7 h1 h3 h5
  refine q_aload_n (pc := 43) C d_Do_numberOf_43 rfl 0 rfl ?_
  refine q_get (pc := 44) (c := o) (ci := 0) (k := 2) (v := .int (σ o 2)) C ho (by decide) (by decide) wd_138 rfl d_Do_numberOf_44 ?_
  exact q_iret (pc := 47) C hr d_Do_numberOf_47 ⟨rfl, h⟩
theorem d_Lc_best_0 : decode prog_1_method_10_code 0 = .ok (.iload_n 1, 1) := by decide +kernel
theorem d_Lc_best_1 : decode prog_1_method_10_code 1 = .ok (.ifCond .lt 8, 3) := by decide +kernel
theorem d_Lc_best_4 : decode prog_1_method_10_code 4 = .ok (.iload_n 1, 1) := by decide +kernel
theorem d_Lc_best_5 : decode prog_1_method_10_code 5 = .ok (.iconst 3, 1) := by decide +kernel
theorem d_Lc_best_6 : decode prog_1_method_10_code 6 = .ok (.if_icmp .le 6, 3) := by decide +kernel
theorem d_Lc_best_9 : decode prog_1_method_10_code 9 = .ok (.bipush (-2), 2) := by decide +kernel
theorem d_Lc_best_11 : decode prog_1_method_10_code 11 = .ok (.ireturn, 1) := by decide +kernel
theorem d_Lc_best_12 : decode prog_1_method_10_code 12 = .ok (.aload_n 0, 1) := by decide +kernel
theorem d_Lc_best_13 : decode prog_1_method_10_code 13 = .ok (.invokevirtual 138, 3) := by decide +kernel
theorem d_Lc_best_16 : decode prog_1_method_10_code 16 = .ok (.ifCond .ne 6, 3) := by decide +kernel
theorem d_Lc_best_19 : decode prog_1_method_10_code 19 = .ok (.bipush (-3), 2) := by decide +kernel
theorem d_Lc_best_21 : decode prog_1_method_10_code 21 = .ok (.ireturn, 1) := by decide +kernel
theorem d_Lc_best_22 : decode prog_1_method_10_code 22 = .ok (.aload_n 0, 1) := by decide +kernel
theorem d_Lc_best_23 : decode prog_1_method_10_code 23 = .ok (.invokevirtual 169, 3) := by decide +kernel
theorem d_Lc_best_26 : decode prog_1_method_10_code 26 = .ok (.iload_n 1, 1) := by decide +kernel
theorem d_Lc_best_27 : decode prog_1_method_10_code 27 = .ok (.invokevirtual 179, 3) := by decide +kernel
theorem d_Lc_best_30 : decode prog_1_method_10_code 30 = .ok (.ireturn, 1) := by decide +kernel
abbrev y_Lc_best : MethodName := ⟨"LoadCycles", "best", "(I)I"⟩
theorem mi_Lc_best : miV y_Lc_best prog_1_method_10_code 2 (some .int) 1 := ⟨wd_506, wd_507, wd_65, wd_508, by decide, by decide, by decide +kernel⟩
def w_Lc_best (x1 : Int32) (σ : Sg) (K : Int32 → Sg → Prop) : Prop :=
  ((x1 < 0 → K (-2 : Int32) σ) ∧ (¬ x1 < 0 → ((x1 ≤ (3 : Int32) → w_Lc_hasHouse σ (fun u13 => ((¬ u13 = 0 → w_Lc_knownBest σ (fun u23 τ23 => (kd u23 = 0 ∧ w_Do_numberOf u23 x1 τ23 (fun u27 => K u27 τ23)))) ∧ (u13 = 0 → K (-3 : Int32) σ)))) ∧ (¬ x1 ≤ (3 : Int32) → K (-2 : Int32) σ))))
set_option maxHeartbeats 4000000 in
theorem m_Lc_best {Y : Yx} {x1 : Int32} {σ : Sg} {K : Int32 → Sg → Prop} (hY : YD Y)  (h : w_Lc_best x1 σ K) : MetI Y y_Lc_best prog_1_method_10_code 2 (.int) 6 141 [.ref (ya Y 0), .int x1] σ K := by
  refine met_I [(0, .ref (ya Y 0)), (1, .int x1)] hY (by decide) (Nat.le_of_ble_eq_true rfl) rfl (fun X C hr => ?_)
  unfold w_Lc_best at h
  refine q_iload_n (pc := 0) C d_Lc_best_0 rfl 1 rfl ?_
  obtain ⟨h6, h7⟩ := h
  refine q_if_lt (pc := 1) 9 C d_Lc_best_1 (by decide) (fun hc => ?_) (fun hc => ?_)
  · have h := h6 hc
    refine q_bipush (pc := 9) (v := -2) C d_Lc_best_9 (by decide) ?_
    exact q_iret (pc := 11) C hr d_Lc_best_11 h
  have h := h7 hc
  refine q_iload_n (pc := 4) C d_Lc_best_4 rfl 1 rfl ?_
  refine q_iconst (pc := 5) (v := 3) C d_Lc_best_5 (by decide) ?_
  obtain ⟨h4, h5⟩ := h
  refine q_icmp_le (pc := 6) 12 C d_Lc_best_6 (by decide) (fun hc => ?_) (fun hc => ?_)
  · have h := h4 hc
    refine q_aload_n (pc := 12) C d_Lc_best_12 rfl 0 rfl ?_
    refine q_callVIr (pc := 13) (st := []) (d := 0) C (m_Lc_hasHouse hY h) mi_Lc_hasHouse rfl (by decide) rfl wd_389 rfl rfl (Nat.le_of_ble_eq_true rfl) (by decide) (by decide) d_Lc_best_13 (fun u13 h => ?_)
    obtain ⟨h2, h3⟩ := h
    refine q_if_ne (pc := 16) 22 C d_Lc_best_16 (by decide) (fun hc => ?_) (fun hc => ?_)
    · have h := h2 hc
      refine q_aload_n (pc := 22) C d_Lc_best_22 rfl 0 rfl ?_
      refine q_callVR (pc := 23) (st := []) (d := 0) C (m_Lc_knownBest hY h) mi_Lc_knownBest rfl (by decide) rfl wd_417 rfl rfl (Nat.le_of_ble_eq_true rfl) (by decide) (by decide) d_Lc_best_23 (fun u23 τ23 h => ?_)
      obtain ⟨h1, h⟩ := h
      refine q_iload_n (pc := 26) C d_Lc_best_26 rfl 1 rfl ?_
      refine q_callVIr (pc := 27) (st := []) (d := u23) C (m_Do_numberOf hY h1 h) mi_Do_numberOf h1 (by decide) rfl wd_509 rfl rfl (Nat.le_of_ble_eq_true rfl) (by decide) (by decide) d_Lc_best_27 (fun u27 h => ?_)
      exact q_iret (pc := 30) C hr d_Lc_best_30 h
    have h := h3 hc
    refine q_bipush (pc := 19) (v := -3) C d_Lc_best_19 (by decide) ?_
    exact q_iret (pc := 21) C hr d_Lc_best_21 h
  have h := h5 hc
  refine q_bipush (pc := 9) (v := -2) C d_Lc_best_9 (by decide) ?_
  exact q_iret (pc := 11) C hr d_Lc_best_11 h
theorem d_Lc_energy_0 : decode prog_1_method_11_code 0 = .ok (.aload_n 0, 1) := by decide +kernel
theorem d_Lc_energy_1 : decode prog_1_method_11_code 1 = .ok (.getfield 12, 3) := by decide +kernel
theorem d_Lc_energy_4 : decode prog_1_method_11_code 4 = .ok (.iload_n 1, 1) := by decide +kernel
theorem d_Lc_energy_5 : decode prog_1_method_11_code 5 = .ok (.invokevirtual 108, 3) := by decide +kernel
theorem d_Lc_energy_8 : decode prog_1_method_11_code 8 = .ok (.ifCond .eq 15, 3) := by decide +kernel
theorem d_Lc_energy_11 : decode prog_1_method_11_code 11 = .ok (.aload_n 0, 1) := by decide +kernel
theorem d_Lc_energy_12 : decode prog_1_method_11_code 12 = .ok (.invokevirtual 169, 3) := by decide +kernel
theorem d_Lc_energy_15 : decode prog_1_method_11_code 15 = .ok (.getfield 182, 3) := by decide +kernel
theorem d_Lc_energy_18 : decode prog_1_method_11_code 18 = .ok (.iload_n 1, 1) := by decide +kernel
theorem d_Lc_energy_19 : decode prog_1_method_11_code 19 = .ok (.iaload, 1) := by decide +kernel
theorem d_Lc_energy_20 : decode prog_1_method_11_code 20 = .ok (.goto 4, 3) := by decide +kernel
theorem d_Lc_energy_23 : decode prog_1_method_11_code 23 = .ok (.iconst (-1), 1) := by decide +kernel
theorem d_Lc_energy_24 : decode prog_1_method_11_code 24 = .ok (.ireturn, 1) := by decide +kernel
abbrev y_Lc_energy : MethodName := ⟨"LoadCycles", "energy", "(I)I"⟩
theorem mi_Lc_energy : miV y_Lc_energy prog_1_method_11_code 2 (some .int) 1 := ⟨wd_514, wd_515, wd_65, wd_516, by decide, by decide, by decide +kernel⟩
def w_Lc_energy (x1 : Int32) (σ : Sg) (K : Int32 → Sg → Prop) : Prop :=
  w_Ho_hasAppliance 1 x1 σ (fun u5 => ((u5 = 0 → K (-1 : Int32) σ) ∧ (¬ u5 = 0 → w_Lc_knownBest σ (fun u12 τ12 => (kd u12 = 0 ∧ (vp_in x1 4 ∧ K (τ12 (u12 + 2) x1.toNatClampNeg) τ12))))))
set_option maxHeartbeats 4000000 in
theorem m_Lc_energy {Y : Yx} {x1 : Int32} {σ : Sg} {K : Int32 → Sg → Prop} (hY : YD Y)  (h : w_Lc_energy x1 σ K) : MetI Y y_Lc_energy prog_1_method_11_code 2 (.int) 6 141 [.ref (ya Y 0), .int x1] σ K := by
  refine met_I [(0, .ref (ya Y 0)), (1, .int x1)] hY (by decide) (Nat.le_of_ble_eq_true rfl) rfl (fun X C hr => ?_)
  unfold w_Lc_energy at h
  refine q_aload_n (pc := 0) C d_Lc_energy_0 rfl 0 rfl ?_
  refine q_get (pc := 1) (c := 0) (ci := 6) (k := 0) (v := .ref (ya Y 1)) C rfl (by decide) (by decide) wd_230 rfl d_Lc_energy_1 ?_
  refine q_iload_n (pc := 4) C d_Lc_energy_4 rfl 1 rfl ?_
  refine q_callVIr (pc := 5) (st := []) (d := 1) C (m_Ho_hasAppliance hY rfl h) mi_Ho_hasAppliance rfl (by decide) rfl wd_357 rfl rfl (Nat.le_of_ble_eq_true rfl) (by decide) (by decide) d_Lc_energy_5 (fun u5 h => ?_)
  obtain ⟨h3, h4⟩ := h
  refine q_if_eq (pc := 8) 23 C d_Lc_energy_8 (by decide) (fun hc => ?_) (fun hc => ?_)
  · have h := h3 hc
    refine q_iconst (pc := 23) (v := -1) C d_Lc_energy_23 (by decide) ?_
    exact q_iret (pc := 24) C hr d_Lc_energy_24 h
  have h := h4 hc
  refine q_aload_n (pc := 11) C d_Lc_energy_11 rfl 0 rfl ?_
  refine q_callVR (pc := 12) (st := []) (d := 0) C (m_Lc_knownBest hY h) mi_Lc_knownBest rfl (by decide) rfl wd_417 rfl rfl (Nat.le_of_ble_eq_true rfl) (by decide) (by decide) d_Lc_energy_12 (fun u12 τ12 h => ?_)
  obtain ⟨h1, h⟩ := h
  refine q_get (pc := 15) (c := u12) (ci := 0) (k := 1) (v := .ref (ya Y (u12 + 2))) C h1 (by decide) (by decide) wd_137 rfl d_Lc_energy_15 ?_
  refine q_iload_n (pc := 18) C d_Lc_energy_18 rfl 1 rfl ?_
  obtain ⟨h2, h⟩ := h
  refine q_iald (pc := 19) (c := (u12 + 2)) C (k0_2 h1) h2 d_Lc_energy_19 ?_
  refine q_goto (pc := 20) 24 C d_Lc_energy_20 (by decide) ?_
  exact q_iret (pc := 24) C hr d_Lc_energy_24 h
end
