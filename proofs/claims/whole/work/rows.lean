section
-- ===== PART A: goes FIRST, ahead of the names: the tables' words, and 'selects' of the private methods out of them =====
/-- a private method of a class that the tables say can be made, by its rows of tables_1 -/
def lw_okq (q : MethodName × Nat) : Prop := (q.1.cls ≠ "java/lang/invoke/MethodHandle" ∧ q.1.cls ≠ "java/lang/invoke/VarHandle") ∧ Cond.instantiable q.1.cls q.2 ∈ tables_1 ∧ Cond.privateMethod q.1 ∈ tables_1 ∧ Cond.instanceMethod q.1 ∈ tables_1
theorem lw_p0 : lw_okq (⟨"LoadCycles", "faulted", "(I)I"⟩, 14) := ⟨⟨by decide +kernel, by decide +kernel⟩, List.mem_of_getElem? (i := 14) (by decide +kernel), List.mem_of_getElem? (i := 232) (by decide +kernel), List.mem_of_getElem? (i := 233) (by decide +kernel)⟩
theorem lw_p1 : lw_okq (⟨"LoadCycles$TextReader", "goesOn", "(I)Z"⟩, 2) := ⟨⟨by decide +kernel, by decide +kernel⟩, List.mem_of_getElem? (i := 117) (by decide +kernel), List.mem_of_getElem? (i := 240) (by decide +kernel), List.mem_of_getElem? (i := 241) (by decide +kernel)⟩
theorem lw_p2 : lw_okq (⟨"LoadCycles$TextReader", "takesOpening", "(I)Z"⟩, 2) := ⟨⟨by decide +kernel, by decide +kernel⟩, List.mem_of_getElem? (i := 117) (by decide +kernel), List.mem_of_getElem? (i := 244) (by decide +kernel), List.mem_of_getElem? (i := 245) (by decide +kernel)⟩
theorem lw_p3 : lw_okq (⟨"LoadCycles$TextReader", "takesMark", "(I)Z"⟩, 2) := ⟨⟨by decide +kernel, by decide +kernel⟩, List.mem_of_getElem? (i := 117) (by decide +kernel), List.mem_of_getElem? (i := 248) (by decide +kernel), List.mem_of_getElem? (i := 249) (by decide +kernel)⟩
theorem lw_p4 : lw_okq (⟨"LoadCycles$TextReader", "takesKind", "(I)Z"⟩, 2) := ⟨⟨by decide +kernel, by decide +kernel⟩, List.mem_of_getElem? (i := 117) (by decide +kernel), List.mem_of_getElem? (i := 252) (by decide +kernel), List.mem_of_getElem? (i := 253) (by decide +kernel)⟩
theorem lw_p5 : lw_okq (⟨"LoadCycles$TextReader", "takesLevel", "(I)Z"⟩, 2) := ⟨⟨by decide +kernel, by decide +kernel⟩, List.mem_of_getElem? (i := 117) (by decide +kernel), List.mem_of_getElem? (i := 260) (by decide +kernel), List.mem_of_getElem? (i := 261) (by decide +kernel)⟩
theorem lw_p6 : lw_okq (⟨"LoadCycles", "forgetBest", "()V"⟩, 14) := ⟨⟨by decide +kernel, by decide +kernel⟩, List.mem_of_getElem? (i := 14) (by decide +kernel), List.mem_of_getElem? (i := 282) (by decide +kernel), List.mem_of_getElem? (i := 283) (by decide +kernel)⟩
theorem lw_p7 : lw_okq (⟨"LoadCycles", "hasHouse", "()Z"⟩, 14) := ⟨⟨by decide +kernel, by decide +kernel⟩, List.mem_of_getElem? (i := 14) (by decide +kernel), List.mem_of_getElem? (i := 326) (by decide +kernel), List.mem_of_getElem? (i := 327) (by decide +kernel)⟩
theorem lw_p8 : lw_okq (⟨"LoadCycles", "knownBest", "()LLoadCycles$Doing;"⟩, 14) := ⟨⟨by decide +kernel, by decide +kernel⟩, List.mem_of_getElem? (i := 14) (by decide +kernel), List.mem_of_getElem? (i := 354) (by decide +kernel), List.mem_of_getElem? (i := 355) (by decide +kernel)⟩
theorem lw_p9 : lw_okq (⟨"LoadCycles$Unmixer", "listMixes", "(LLoadCycles$House;)V"⟩, 6) := ⟨⟨by decide +kernel, by decide +kernel⟩, List.mem_of_getElem? (i := 92) (by decide +kernel), List.mem_of_getElem? (i := 362) (by decide +kernel), List.mem_of_getElem? (i := 363) (by decide +kernel)⟩
theorem lw_p10 : lw_okq (⟨"LoadCycles$Unmixer", "listWith", "(LLoadCycles$House;I)V"⟩, 6) := ⟨⟨by decide +kernel, by decide +kernel⟩, List.mem_of_getElem? (i := 92) (by decide +kernel), List.mem_of_getElem? (i := 366) (by decide +kernel), List.mem_of_getElem? (i := 367) (by decide +kernel)⟩
theorem lw_p11 : lw_okq (⟨"LoadCycles$Unmixer", "repeatAfter", "(III)V"⟩, 6) := ⟨⟨by decide +kernel, by decide +kernel⟩, List.mem_of_getElem? (i := 92) (by decide +kernel), List.mem_of_getElem? (i := 379) (by decide +kernel), List.mem_of_getElem? (i := 380) (by decide +kernel)⟩
theorem lw_p12 : lw_okq (⟨"LoadCycles$Unmixer", "findCosts", "(LLoadCycles$House;)V"⟩, 6) := ⟨⟨by decide +kernel, by decide +kernel⟩, List.mem_of_getElem? (i := 92) (by decide +kernel), List.mem_of_getElem? (i := 383) (by decide +kernel), List.mem_of_getElem? (i := 384) (by decide +kernel)⟩
theorem lw_p13 : lw_okq (⟨"LoadCycles$Unmixer", "letGoOn", "(I)V"⟩, 6) := ⟨⟨by decide +kernel, by decide +kernel⟩, List.mem_of_getElem? (i := 92) (by decide +kernel), List.mem_of_getElem? (i := 392) (by decide +kernel), List.mem_of_getElem? (i := 393) (by decide +kernel)⟩
theorem lw_p14 : lw_okq (⟨"LoadCycles$Unmixer", "bestSet", "(LLoadCycles$House;II)I"⟩, 6) := ⟨⟨by decide +kernel, by decide +kernel⟩, List.mem_of_getElem? (i := 92) (by decide +kernel), List.mem_of_getElem? (i := 408) (by decide +kernel), List.mem_of_getElem? (i := 409) (by decide +kernel)⟩
theorem lw_p15 : lw_okq (⟨"LoadCycles$Unmixer", "mixBehind", "(LLoadCycles$House;II)I"⟩, 6) := ⟨⟨by decide +kernel, by decide +kernel⟩, List.mem_of_getElem? (i := 92) (by decide +kernel), List.mem_of_getElem? (i := 412) (by decide +kernel), List.mem_of_getElem? (i := 413) (by decide +kernel)⟩
def lw_privs_1 : List (MethodName × Nat) := [(⟨"LoadCycles", "faulted", "(I)I"⟩, 14), (⟨"LoadCycles$TextReader", "goesOn", "(I)Z"⟩, 2), (⟨"LoadCycles$TextReader", "takesOpening", "(I)Z"⟩, 2), (⟨"LoadCycles$TextReader", "takesMark", "(I)Z"⟩, 2), (⟨"LoadCycles$TextReader", "takesKind", "(I)Z"⟩, 2), (⟨"LoadCycles$TextReader", "takesLevel", "(I)Z"⟩, 2), (⟨"LoadCycles", "forgetBest", "()V"⟩, 14), (⟨"LoadCycles", "hasHouse", "()Z"⟩, 14), (⟨"LoadCycles", "knownBest", "()LLoadCycles$Doing;"⟩, 14), (⟨"LoadCycles$Unmixer", "listMixes", "(LLoadCycles$House;)V"⟩, 6), (⟨"LoadCycles$Unmixer", "listWith", "(LLoadCycles$House;I)V"⟩, 6), (⟨"LoadCycles$Unmixer", "repeatAfter", "(III)V"⟩, 6), (⟨"LoadCycles$Unmixer", "findCosts", "(LLoadCycles$House;)V"⟩, 6), (⟨"LoadCycles$Unmixer", "letGoOn", "(I)V"⟩, 6), (⟨"LoadCycles$Unmixer", "bestSet", "(LLoadCycles$House;II)I"⟩, 6), (⟨"LoadCycles$Unmixer", "mixBehind", "(LLoadCycles$House;II)I"⟩, 6)]
theorem lw_r1 : ∀ q ∈ lw_privs_1, lw_okq q := List.forall_mem_cons.mpr ⟨lw_p0, List.forall_mem_cons.mpr ⟨lw_p1, List.forall_mem_cons.mpr ⟨lw_p2, List.forall_mem_cons.mpr ⟨lw_p3, List.forall_mem_cons.mpr ⟨lw_p4, List.forall_mem_cons.mpr ⟨lw_p5, List.forall_mem_cons.mpr ⟨lw_p6, List.forall_mem_cons.mpr ⟨lw_p7, List.forall_mem_cons.mpr ⟨lw_p8, List.forall_mem_cons.mpr ⟨lw_p9, List.forall_mem_cons.mpr ⟨lw_p10, List.forall_mem_cons.mpr ⟨lw_p11, List.forall_mem_cons.mpr ⟨lw_p12, List.forall_mem_cons.mpr ⟨lw_p13, List.forall_mem_cons.mpr ⟨lw_p14, List.forall_mem_cons.mpr ⟨lw_p15, fun _ h => absurd h List.not_mem_nil⟩⟩⟩⟩⟩⟩⟩⟩⟩⟩⟩⟩⟩⟩⟩⟩
theorem lw_p16 : lw_okq (⟨"LoadCycles", "liveTrialDay", "(LLoadCycles$Sheet;II)I"⟩, 14) := ⟨⟨by decide +kernel, by decide +kernel⟩, List.mem_of_getElem? (i := 14) (by decide +kernel), List.mem_of_getElem? (i := 467) (by decide +kernel), List.mem_of_getElem? (i := 468) (by decide +kernel)⟩
theorem lw_p17 : lw_okq (⟨"LoadCycles$House", "actedOnBase", "(I)Z"⟩, 7) := ⟨⟨by decide +kernel, by decide +kernel⟩, List.mem_of_getElem? (i := 22) (by decide +kernel), List.mem_of_getElem? (i := 475) (by decide +kernel), List.mem_of_getElem? (i := 476) (by decide +kernel)⟩
theorem lw_p18 : lw_okq (⟨"LoadCycles$House", "actedOnValue", "(II)Z"⟩, 7) := ⟨⟨by decide +kernel, by decide +kernel⟩, List.mem_of_getElem? (i := 22) (by decide +kernel), List.mem_of_getElem? (i := 480) (by decide +kernel), List.mem_of_getElem? (i := 481) (by decide +kernel)⟩
theorem lw_p19 : lw_okq (⟨"LoadCycles$House", "actedOnLevel", "(III)Z"⟩, 7) := ⟨⟨by decide +kernel, by decide +kernel⟩, List.mem_of_getElem? (i := 22) (by decide +kernel), List.mem_of_getElem? (i := 485) (by decide +kernel), List.mem_of_getElem? (i := 486) (by decide +kernel)⟩
theorem lw_p20 : lw_okq (⟨"LoadCycles", "answerOfTrialDay", "(I)I"⟩, 14) := ⟨⟨by decide +kernel, by decide +kernel⟩, List.mem_of_getElem? (i := 14) (by decide +kernel), List.mem_of_getElem? (i := 491) (by decide +kernel), List.mem_of_getElem? (i := 492) (by decide +kernel)⟩
theorem lw_p21 : lw_okq (⟨"LoadCycles", "powerGain", "(LLoadCycles$Doing;II)I"⟩, 14) := ⟨⟨by decide +kernel, by decide +kernel⟩, List.mem_of_getElem? (i := 14) (by decide +kernel), List.mem_of_getElem? (i := 507) (by decide +kernel), List.mem_of_getElem? (i := 508) (by decide +kernel)⟩
theorem lw_p22 : lw_okq (⟨"LoadCycles", "readingsHold", "(II)Z"⟩, 14) := ⟨⟨by decide +kernel, by decide +kernel⟩, List.mem_of_getElem? (i := 14) (by decide +kernel), List.mem_of_getElem? (i := 546) (by decide +kernel), List.mem_of_getElem? (i := 547) (by decide +kernel)⟩
theorem lw_p23 : lw_okq (⟨"LoadCycles", "unmixGuess", "(II)V"⟩, 14) := ⟨⟨by decide +kernel, by decide +kernel⟩, List.mem_of_getElem? (i := 14) (by decide +kernel), List.mem_of_getElem? (i := 554) (by decide +kernel), List.mem_of_getElem? (i := 555) (by decide +kernel)⟩
theorem lw_p24 : lw_okq (⟨"LoadCycles", "tellPlain", "(I)I"⟩, 14) := ⟨⟨by decide +kernel, by decide +kernel⟩, List.mem_of_getElem? (i := 14) (by decide +kernel), List.mem_of_getElem? (i := 616) (by decide +kernel), List.mem_of_getElem? (i := 617) (by decide +kernel)⟩
theorem lw_p25 : lw_okq (⟨"LoadCycles", "leaveTrace", "(I)V"⟩, 14) := ⟨⟨by decide +kernel, by decide +kernel⟩, List.mem_of_getElem? (i := 14) (by decide +kernel), List.mem_of_getElem? (i := 620) (by decide +kernel), List.mem_of_getElem? (i := 621) (by decide +kernel)⟩
theorem lw_p26 : lw_okq (⟨"LoadCycles", "tellHeavy", "(I)I"⟩, 14) := ⟨⟨by decide +kernel, by decide +kernel⟩, List.mem_of_getElem? (i := 14) (by decide +kernel), List.mem_of_getElem? (i := 624) (by decide +kernel), List.mem_of_getElem? (i := 625) (by decide +kernel)⟩
theorem lw_p27 : lw_okq (⟨"LoadCycles", "tellDouble", "(I)I"⟩, 14) := ⟨⟨by decide +kernel, by decide +kernel⟩, List.mem_of_getElem? (i := 14) (by decide +kernel), List.mem_of_getElem? (i := 628) (by decide +kernel), List.mem_of_getElem? (i := 629) (by decide +kernel)⟩
theorem lw_p28 : lw_okq (⟨"LoadCycles", "ownMetering", "()I"⟩, 14) := ⟨⟨by decide +kernel, by decide +kernel⟩, List.mem_of_getElem? (i := 14) (by decide +kernel), List.mem_of_getElem? (i := 636) (by decide +kernel), List.mem_of_getElem? (i := 637) (by decide +kernel)⟩
theorem lw_p29 : lw_okq (⟨"LoadCycles", "lentMetering", "(I)I"⟩, 14) := ⟨⟨by decide +kernel, by decide +kernel⟩, List.mem_of_getElem? (i := 14) (by decide +kernel), List.mem_of_getElem? (i := 640) (by decide +kernel), List.mem_of_getElem? (i := 641) (by decide +kernel)⟩
theorem lw_p30 : lw_okq (⟨"LoadCyclesModel", "against", "(IIII)I"⟩, 33) := ⟨⟨by decide +kernel, by decide +kernel⟩, List.mem_of_getElem? (i := 664) (by decide +kernel), List.mem_of_getElem? (i := 785) (by decide +kernel), List.mem_of_getElem? (i := 786) (by decide +kernel)⟩
theorem lw_p31 : lw_okq (⟨"LoadCyclesModel", "fails", "(I)I"⟩, 33) := ⟨⟨by decide +kernel, by decide +kernel⟩, List.mem_of_getElem? (i := 664) (by decide +kernel), List.mem_of_getElem? (i := 789) (by decide +kernel), List.mem_of_getElem? (i := 790) (by decide +kernel)⟩
def lw_privs_2 : List (MethodName × Nat) := [(⟨"LoadCycles", "liveTrialDay", "(LLoadCycles$Sheet;II)I"⟩, 14), (⟨"LoadCycles$House", "actedOnBase", "(I)Z"⟩, 7), (⟨"LoadCycles$House", "actedOnValue", "(II)Z"⟩, 7), (⟨"LoadCycles$House", "actedOnLevel", "(III)Z"⟩, 7), (⟨"LoadCycles", "answerOfTrialDay", "(I)I"⟩, 14), (⟨"LoadCycles", "powerGain", "(LLoadCycles$Doing;II)I"⟩, 14), (⟨"LoadCycles", "readingsHold", "(II)Z"⟩, 14), (⟨"LoadCycles", "unmixGuess", "(II)V"⟩, 14), (⟨"LoadCycles", "tellPlain", "(I)I"⟩, 14), (⟨"LoadCycles", "leaveTrace", "(I)V"⟩, 14), (⟨"LoadCycles", "tellHeavy", "(I)I"⟩, 14), (⟨"LoadCycles", "tellDouble", "(I)I"⟩, 14), (⟨"LoadCycles", "ownMetering", "()I"⟩, 14), (⟨"LoadCycles", "lentMetering", "(I)I"⟩, 14), (⟨"LoadCyclesModel", "against", "(IIII)I"⟩, 33), (⟨"LoadCyclesModel", "fails", "(I)I"⟩, 33)]
theorem lw_r2 : ∀ q ∈ lw_privs_2, lw_okq q := List.forall_mem_cons.mpr ⟨lw_p16, List.forall_mem_cons.mpr ⟨lw_p17, List.forall_mem_cons.mpr ⟨lw_p18, List.forall_mem_cons.mpr ⟨lw_p19, List.forall_mem_cons.mpr ⟨lw_p20, List.forall_mem_cons.mpr ⟨lw_p21, List.forall_mem_cons.mpr ⟨lw_p22, List.forall_mem_cons.mpr ⟨lw_p23, List.forall_mem_cons.mpr ⟨lw_p24, List.forall_mem_cons.mpr ⟨lw_p25, List.forall_mem_cons.mpr ⟨lw_p26, List.forall_mem_cons.mpr ⟨lw_p27, List.forall_mem_cons.mpr ⟨lw_p28, List.forall_mem_cons.mpr ⟨lw_p29, List.forall_mem_cons.mpr ⟨lw_p30, List.forall_mem_cons.mpr ⟨lw_p31, fun _ h => absurd h List.not_mem_nil⟩⟩⟩⟩⟩⟩⟩⟩⟩⟩⟩⟩⟩⟩⟩⟩
theorem lw_p32 : lw_okq (⟨"LoadCyclesModel", "readAll", "(I)Z"⟩, 33) := ⟨⟨by decide +kernel, by decide +kernel⟩, List.mem_of_getElem? (i := 664) (by decide +kernel), List.mem_of_getElem? (i := 793) (by decide +kernel), List.mem_of_getElem? (i := 794) (by decide +kernel)⟩
theorem lw_p33 : lw_okq (⟨"LoadCyclesModel", "isSign", "(II)Z"⟩, 33) := ⟨⟨by decide +kernel, by decide +kernel⟩, List.mem_of_getElem? (i := 664) (by decide +kernel), List.mem_of_getElem? (i := 797) (by decide +kernel), List.mem_of_getElem? (i := 798) (by decide +kernel)⟩
theorem lw_p34 : lw_okq (⟨"LoadCyclesModel", "readAppliance", "(I)Z"⟩, 33) := ⟨⟨by decide +kernel, by decide +kernel⟩, List.mem_of_getElem? (i := 664) (by decide +kernel), List.mem_of_getElem? (i := 801) (by decide +kernel), List.mem_of_getElem? (i := 802) (by decide +kernel)⟩
theorem lw_p35 : lw_okq (⟨"LoadCyclesModel", "isAppliance", "(I)Z"⟩, 33) := ⟨⟨by decide +kernel, by decide +kernel⟩, List.mem_of_getElem? (i := 664) (by decide +kernel), List.mem_of_getElem? (i := 814) (by decide +kernel), List.mem_of_getElem? (i := 815) (by decide +kernel)⟩
theorem lw_p36 : lw_okq (⟨"LoadCyclesModel", "powerOf", "(II)I"⟩, 33) := ⟨⟨by decide +kernel, by decide +kernel⟩, List.mem_of_getElem? (i := 664) (by decide +kernel), List.mem_of_getElem? (i := 822) (by decide +kernel), List.mem_of_getElem? (i := 823) (by decide +kernel)⟩
theorem lw_p37 : lw_okq (⟨"LoadCyclesModel", "isTime", "(I)Z"⟩, 33) := ⟨⟨by decide +kernel, by decide +kernel⟩, List.mem_of_getElem? (i := 664) (by decide +kernel), List.mem_of_getElem? (i := 840) (by decide +kernel), List.mem_of_getElem? (i := 841) (by decide +kernel)⟩
theorem lw_p38 : lw_okq (⟨"LoadCyclesModel", "canBase", "(I)Z"⟩, 33) := ⟨⟨by decide +kernel, by decide +kernel⟩, List.mem_of_getElem? (i := 664) (by decide +kernel), List.mem_of_getElem? (i := 848) (by decide +kernel), List.mem_of_getElem? (i := 849) (by decide +kernel)⟩
theorem lw_p39 : lw_okq (⟨"LoadCyclesModel", "findBest", "()V"⟩, 33) := ⟨⟨by decide +kernel, by decide +kernel⟩, List.mem_of_getElem? (i := 664) (by decide +kernel), List.mem_of_getElem? (i := 856) (by decide +kernel), List.mem_of_getElem? (i := 857) (by decide +kernel)⟩
theorem lw_p40 : lw_okq (⟨"LoadCyclesModel", "prepare", "()V"⟩, 33) := ⟨⟨by decide +kernel, by decide +kernel⟩, List.mem_of_getElem? (i := 664) (by decide +kernel), List.mem_of_getElem? (i := 860) (by decide +kernel), List.mem_of_getElem? (i := 861) (by decide +kernel)⟩
theorem lw_p41 : lw_okq (⟨"LoadCyclesModel", "powerOfRow", "(I)I"⟩, 33) := ⟨⟨by decide +kernel, by decide +kernel⟩, List.mem_of_getElem? (i := 664) (by decide +kernel), List.mem_of_getElem? (i := 864) (by decide +kernel), List.mem_of_getElem? (i := 865) (by decide +kernel)⟩
theorem lw_p42 : lw_okq (⟨"LoadCyclesModel", "goesOn", "(II)I"⟩, 33) := ⟨⟨by decide +kernel, by decide +kernel⟩, List.mem_of_getElem? (i := 664) (by decide +kernel), List.mem_of_getElem? (i := 871) (by decide +kernel), List.mem_of_getElem? (i := 872) (by decide +kernel)⟩
theorem lw_p43 : lw_okq (⟨"LoadCyclesModel", "goFrom", "(II)V"⟩, 33) := ⟨⟨by decide +kernel, by decide +kernel⟩, List.mem_of_getElem? (i := 664) (by decide +kernel), List.mem_of_getElem? (i := 875) (by decide +kernel), List.mem_of_getElem? (i := 876) (by decide +kernel)⟩
theorem lw_p44 : lw_okq (⟨"LoadCyclesModel", "isBetter", "(IIII)Z"⟩, 33) := ⟨⟨by decide +kernel, by decide +kernel⟩, List.mem_of_getElem? (i := 664) (by decide +kernel), List.mem_of_getElem? (i := 882) (by decide +kernel), List.mem_of_getElem? (i := 883) (by decide +kernel)⟩
theorem lw_p45 : lw_okq (⟨"LoadCyclesModel", "rankAll", "(I)V"⟩, 33) := ⟨⟨by decide +kernel, by decide +kernel⟩, List.mem_of_getElem? (i := 664) (by decide +kernel), List.mem_of_getElem? (i := 886) (by decide +kernel), List.mem_of_getElem? (i := 887) (by decide +kernel)⟩
theorem lw_p46 : lw_okq (⟨"LoadCyclesModel", "walkBack", "()V"⟩, 33) := ⟨⟨by decide +kernel, by decide +kernel⟩, List.mem_of_getElem? (i := 664) (by decide +kernel), List.mem_of_getElem? (i := 890) (by decide +kernel), List.mem_of_getElem? (i := 891) (by decide +kernel)⟩
theorem lw_p47 : lw_okq (⟨"LoadCyclesModel", "restOf", "(I)I"⟩, 33) := ⟨⟨by decide +kernel, by decide +kernel⟩, List.mem_of_getElem? (i := 664) (by decide +kernel), List.mem_of_getElem? (i := 898) (by decide +kernel), List.mem_of_getElem? (i := 899) (by decide +kernel)⟩
def lw_privs_3 : List (MethodName × Nat) := [(⟨"LoadCyclesModel", "readAll", "(I)Z"⟩, 33), (⟨"LoadCyclesModel", "isSign", "(II)Z"⟩, 33), (⟨"LoadCyclesModel", "readAppliance", "(I)Z"⟩, 33), (⟨"LoadCyclesModel", "isAppliance", "(I)Z"⟩, 33), (⟨"LoadCyclesModel", "powerOf", "(II)I"⟩, 33), (⟨"LoadCyclesModel", "isTime", "(I)Z"⟩, 33), (⟨"LoadCyclesModel", "canBase", "(I)Z"⟩, 33), (⟨"LoadCyclesModel", "findBest", "()V"⟩, 33), (⟨"LoadCyclesModel", "prepare", "()V"⟩, 33), (⟨"LoadCyclesModel", "powerOfRow", "(I)I"⟩, 33), (⟨"LoadCyclesModel", "goesOn", "(II)I"⟩, 33), (⟨"LoadCyclesModel", "goFrom", "(II)V"⟩, 33), (⟨"LoadCyclesModel", "isBetter", "(IIII)Z"⟩, 33), (⟨"LoadCyclesModel", "rankAll", "(I)V"⟩, 33), (⟨"LoadCyclesModel", "walkBack", "()V"⟩, 33), (⟨"LoadCyclesModel", "restOf", "(I)I"⟩, 33)]
theorem lw_r3 : ∀ q ∈ lw_privs_3, lw_okq q := List.forall_mem_cons.mpr ⟨lw_p32, List.forall_mem_cons.mpr ⟨lw_p33, List.forall_mem_cons.mpr ⟨lw_p34, List.forall_mem_cons.mpr ⟨lw_p35, List.forall_mem_cons.mpr ⟨lw_p36, List.forall_mem_cons.mpr ⟨lw_p37, List.forall_mem_cons.mpr ⟨lw_p38, List.forall_mem_cons.mpr ⟨lw_p39, List.forall_mem_cons.mpr ⟨lw_p40, List.forall_mem_cons.mpr ⟨lw_p41, List.forall_mem_cons.mpr ⟨lw_p42, List.forall_mem_cons.mpr ⟨lw_p43, List.forall_mem_cons.mpr ⟨lw_p44, List.forall_mem_cons.mpr ⟨lw_p45, List.forall_mem_cons.mpr ⟨lw_p46, List.forall_mem_cons.mpr ⟨lw_p47, fun _ h => absurd h List.not_mem_nil⟩⟩⟩⟩⟩⟩⟩⟩⟩⟩⟩⟩⟩⟩⟩⟩
theorem lw_p48 : lw_okq (⟨"LoadCyclesModel", "rests", "()I"⟩, 33) := ⟨⟨by decide +kernel, by decide +kernel⟩, List.mem_of_getElem? (i := 664) (by decide +kernel), List.mem_of_getElem? (i := 906) (by decide +kernel), List.mem_of_getElem? (i := 907) (by decide +kernel)⟩
theorem lw_p49 : lw_okq (⟨"LoadCyclesModel", "changes", "(Z)I"⟩, 33) := ⟨⟨by decide +kernel, by decide +kernel⟩, List.mem_of_getElem? (i := 664) (by decide +kernel), List.mem_of_getElem? (i := 910) (by decide +kernel), List.mem_of_getElem? (i := 911) (by decide +kernel)⟩
theorem lw_p50 : lw_okq (⟨"LoadCyclesModel", "ahead", "(II)I"⟩, 33) := ⟨⟨by decide +kernel, by decide +kernel⟩, List.mem_of_getElem? (i := 664) (by decide +kernel), List.mem_of_getElem? (i := 914) (by decide +kernel), List.mem_of_getElem? (i := 915) (by decide +kernel)⟩
theorem lw_p51 : lw_okq (⟨"LoadCyclesModel", "energies", "()I"⟩, 33) := ⟨⟨by decide +kernel, by decide +kernel⟩, List.mem_of_getElem? (i := 664) (by decide +kernel), List.mem_of_getElem? (i := 918) (by decide +kernel), List.mem_of_getElem? (i := 919) (by decide +kernel)⟩
theorem lw_p52 : lw_okq (⟨"LoadCyclesModel", "energyOf", "(I)I"⟩, 33) := ⟨⟨by decide +kernel, by decide +kernel⟩, List.mem_of_getElem? (i := 664) (by decide +kernel), List.mem_of_getElem? (i := 922) (by decide +kernel), List.mem_of_getElem? (i := 923) (by decide +kernel)⟩
theorem lw_p53 : lw_okq (⟨"LoadCyclesModel", "keep", "()V"⟩, 33) := ⟨⟨by decide +kernel, by decide +kernel⟩, List.mem_of_getElem? (i := 664) (by decide +kernel), List.mem_of_getElem? (i := 941) (by decide +kernel), List.mem_of_getElem? (i := 942) (by decide +kernel)⟩
theorem lw_p54 : lw_okq (⟨"LoadCyclesModel", "goDay", "(II)I"⟩, 33) := ⟨⟨by decide +kernel, by decide +kernel⟩, List.mem_of_getElem? (i := 664) (by decide +kernel), List.mem_of_getElem? (i := 945) (by decide +kernel), List.mem_of_getElem? (i := 946) (by decide +kernel)⟩
theorem lw_p55 : lw_okq (⟨"LoadCyclesModel", "canAct", "(II)Z"⟩, 33) := ⟨⟨by decide +kernel, by decide +kernel⟩, List.mem_of_getElem? (i := 664) (by decide +kernel), List.mem_of_getElem? (i := 949) (by decide +kernel), List.mem_of_getElem? (i := 950) (by decide +kernel)⟩
theorem lw_p56 : lw_okq (⟨"LoadCyclesModel", "tellDay", "(I)I"⟩, 33) := ⟨⟨by decide +kernel, by decide +kernel⟩, List.mem_of_getElem? (i := 664) (by decide +kernel), List.mem_of_getElem? (i := 953) (by decide +kernel), List.mem_of_getElem? (i := 954) (by decide +kernel)⟩
theorem lw_p57 : lw_okq (⟨"LoadCyclesModel", "putBack", "()V"⟩, 33) := ⟨⟨by decide +kernel, by decide +kernel⟩, List.mem_of_getElem? (i := 664) (by decide +kernel), List.mem_of_getElem? (i := 957) (by decide +kernel), List.mem_of_getElem? (i := 958) (by decide +kernel)⟩
theorem lw_p58 : lw_okq (⟨"LoadCyclesModel", "jumpOf", "(I)I"⟩, 33) := ⟨⟨by decide +kernel, by decide +kernel⟩, List.mem_of_getElem? (i := 664) (by decide +kernel), List.mem_of_getElem? (i := 965) (by decide +kernel), List.mem_of_getElem? (i := 966) (by decide +kernel)⟩
theorem lw_p59 : lw_okq (⟨"LoadCyclesModel", "moreOf", "(II)I"⟩, 33) := ⟨⟨by decide +kernel, by decide +kernel⟩, List.mem_of_getElem? (i := 664) (by decide +kernel), List.mem_of_getElem? (i := 973) (by decide +kernel), List.mem_of_getElem? (i := 974) (by decide +kernel)⟩
theorem lw_p60 : lw_okq (⟨"LoadCyclesModel", "allValues", "()I"⟩, 33) := ⟨⟨by decide +kernel, by decide +kernel⟩, List.mem_of_getElem? (i := 664) (by decide +kernel), List.mem_of_getElem? (i := 985) (by decide +kernel), List.mem_of_getElem? (i := 986) (by decide +kernel)⟩
theorem lw_p61 : lw_okq (⟨"LoadCyclesModel", "areSo", "()Z"⟩, 33) := ⟨⟨by decide +kernel, by decide +kernel⟩, List.mem_of_getElem? (i := 664) (by decide +kernel), List.mem_of_getElem? (i := 1010) (by decide +kernel), List.mem_of_getElem? (i := 1011) (by decide +kernel)⟩
theorem lw_p62 : lw_okq (⟨"LoadCyclesModel", "lost", "(I)J"⟩, 33) := ⟨⟨by decide +kernel, by decide +kernel⟩, List.mem_of_getElem? (i := 664) (by decide +kernel), List.mem_of_getElem? (i := 1041) (by decide +kernel), List.mem_of_getElem? (i := 1042) (by decide +kernel)⟩
theorem lw_p63 : lw_okq (⟨"LoadCyclesModel", "begins", "(I)V"⟩, 33) := ⟨⟨by decide +kernel, by decide +kernel⟩, List.mem_of_getElem? (i := 664) (by decide +kernel), List.mem_of_getElem? (i := 1053) (by decide +kernel), List.mem_of_getElem? (i := 1054) (by decide +kernel)⟩
def lw_privs_4 : List (MethodName × Nat) := [(⟨"LoadCyclesModel", "rests", "()I"⟩, 33), (⟨"LoadCyclesModel", "changes", "(Z)I"⟩, 33), (⟨"LoadCyclesModel", "ahead", "(II)I"⟩, 33), (⟨"LoadCyclesModel", "energies", "()I"⟩, 33), (⟨"LoadCyclesModel", "energyOf", "(I)I"⟩, 33), (⟨"LoadCyclesModel", "keep", "()V"⟩, 33), (⟨"LoadCyclesModel", "goDay", "(II)I"⟩, 33), (⟨"LoadCyclesModel", "canAct", "(II)Z"⟩, 33), (⟨"LoadCyclesModel", "tellDay", "(I)I"⟩, 33), (⟨"LoadCyclesModel", "putBack", "()V"⟩, 33), (⟨"LoadCyclesModel", "jumpOf", "(I)I"⟩, 33), (⟨"LoadCyclesModel", "moreOf", "(II)I"⟩, 33), (⟨"LoadCyclesModel", "allValues", "()I"⟩, 33), (⟨"LoadCyclesModel", "areSo", "()Z"⟩, 33), (⟨"LoadCyclesModel", "lost", "(I)J"⟩, 33), (⟨"LoadCyclesModel", "begins", "(I)V"⟩, 33)]
theorem lw_r4 : ∀ q ∈ lw_privs_4, lw_okq q := List.forall_mem_cons.mpr ⟨lw_p48, List.forall_mem_cons.mpr ⟨lw_p49, List.forall_mem_cons.mpr ⟨lw_p50, List.forall_mem_cons.mpr ⟨lw_p51, List.forall_mem_cons.mpr ⟨lw_p52, List.forall_mem_cons.mpr ⟨lw_p53, List.forall_mem_cons.mpr ⟨lw_p54, List.forall_mem_cons.mpr ⟨lw_p55, List.forall_mem_cons.mpr ⟨lw_p56, List.forall_mem_cons.mpr ⟨lw_p57, List.forall_mem_cons.mpr ⟨lw_p58, List.forall_mem_cons.mpr ⟨lw_p59, List.forall_mem_cons.mpr ⟨lw_p60, List.forall_mem_cons.mpr ⟨lw_p61, List.forall_mem_cons.mpr ⟨lw_p62, List.forall_mem_cons.mpr ⟨lw_p63, fun _ h => absurd h List.not_mem_nil⟩⟩⟩⟩⟩⟩⟩⟩⟩⟩⟩⟩⟩⟩⟩⟩
def lw_privs : List (MethodName × Nat) := lw_privs_1 ++ (lw_privs_2 ++ (lw_privs_3 ++ (lw_privs_4)))
def lw_tbl : List Cond := k2_sels lw_privs ++ tables_1
theorem lw_privs_ok : ∀ q ∈ lw_privs, lw_okq q := by
  show ∀ q ∈ lw_privs_1 ++ (lw_privs_2 ++ (lw_privs_3 ++ (lw_privs_4))), lw_okq q
  exact List.forall_mem_append.mpr ⟨lw_r1, List.forall_mem_append.mpr ⟨lw_r2, List.forall_mem_append.mpr ⟨lw_r3, lw_r4⟩⟩⟩
/-- the words that every method's contract takes: those of the tables that stay as the tables warm -/
def TB : List Cond := lw_tbl.filter goodWord
theorem tb_of {w : Cond} (h : w ∈ lw_tbl) (hg : goodWord w = true) : w ∈ TB := List.mem_filter.mpr ⟨h, hg⟩
theorem tb_goodIn : GoodIn TB TB := fun _ h => ⟨h, good_of_word (List.mem_filter.mp h).2⟩
theorem wd_0 : (.selects "LoadCycles" ⟨"LoadCycles", "faulted", "(I)I"⟩ ⟨"LoadCycles", "faulted", "(I)I"⟩ : Cond) ∈ TB := tb_of (List.mem_of_getElem? (i := 0) (by decide +kernel)) rfl
theorem wd_1 : (.selects "LoadCycles$TextReader" ⟨"LoadCycles$TextReader", "goesOn", "(I)Z"⟩ ⟨"LoadCycles$TextReader", "goesOn", "(I)Z"⟩ : Cond) ∈ TB := tb_of (List.mem_of_getElem? (i := 1) (by decide +kernel)) rfl
theorem wd_2 : (.selects "LoadCycles$TextReader" ⟨"LoadCycles$TextReader", "takesOpening", "(I)Z"⟩ ⟨"LoadCycles$TextReader", "takesOpening", "(I)Z"⟩ : Cond) ∈ TB := tb_of (List.mem_of_getElem? (i := 2) (by decide +kernel)) rfl
theorem wd_3 : (.selects "LoadCycles$TextReader" ⟨"LoadCycles$TextReader", "takesMark", "(I)Z"⟩ ⟨"LoadCycles$TextReader", "takesMark", "(I)Z"⟩ : Cond) ∈ TB := tb_of (List.mem_of_getElem? (i := 3) (by decide +kernel)) rfl
theorem wd_4 : (.selects "LoadCycles$TextReader" ⟨"LoadCycles$TextReader", "takesKind", "(I)Z"⟩ ⟨"LoadCycles$TextReader", "takesKind", "(I)Z"⟩ : Cond) ∈ TB := tb_of (List.mem_of_getElem? (i := 4) (by decide +kernel)) rfl
theorem wd_5 : (.selects "LoadCycles$TextReader" ⟨"LoadCycles$TextReader", "takesLevel", "(I)Z"⟩ ⟨"LoadCycles$TextReader", "takesLevel", "(I)Z"⟩ : Cond) ∈ TB := tb_of (List.mem_of_getElem? (i := 5) (by decide +kernel)) rfl
theorem wd_6 : (.selects "LoadCycles" ⟨"LoadCycles", "forgetBest", "()V"⟩ ⟨"LoadCycles", "forgetBest", "()V"⟩ : Cond) ∈ TB := tb_of (List.mem_of_getElem? (i := 6) (by decide +kernel)) rfl
theorem wd_7 : (.selects "LoadCycles" ⟨"LoadCycles", "hasHouse", "()Z"⟩ ⟨"LoadCycles", "hasHouse", "()Z"⟩ : Cond) ∈ TB := tb_of (List.mem_of_getElem? (i := 7) (by decide +kernel)) rfl
theorem wd_8 : (.selects "LoadCycles" ⟨"LoadCycles", "knownBest", "()LLoadCycles$Doing;"⟩ ⟨"LoadCycles", "knownBest", "()LLoadCycles$Doing;"⟩ : Cond) ∈ TB := tb_of (List.mem_of_getElem? (i := 8) (by decide +kernel)) rfl
theorem wd_9 : (.selects "LoadCycles$Unmixer" ⟨"LoadCycles$Unmixer", "listMixes", "(LLoadCycles$House;)V"⟩ ⟨"LoadCycles$Unmixer", "listMixes", "(LLoadCycles$House;)V"⟩ : Cond) ∈ TB := tb_of (List.mem_of_getElem? (i := 9) (by decide +kernel)) rfl
theorem wd_10 : (.selects "LoadCycles$Unmixer" ⟨"LoadCycles$Unmixer", "listWith", "(LLoadCycles$House;I)V"⟩ ⟨"LoadCycles$Unmixer", "listWith", "(LLoadCycles$House;I)V"⟩ : Cond) ∈ TB := tb_of (List.mem_of_getElem? (i := 10) (by decide +kernel)) rfl
theorem wd_11 : (.selects "LoadCycles$Unmixer" ⟨"LoadCycles$Unmixer", "repeatAfter", "(III)V"⟩ ⟨"LoadCycles$Unmixer", "repeatAfter", "(III)V"⟩ : Cond) ∈ TB := tb_of (List.mem_of_getElem? (i := 11) (by decide +kernel)) rfl
theorem wd_12 : (.selects "LoadCycles$Unmixer" ⟨"LoadCycles$Unmixer", "findCosts", "(LLoadCycles$House;)V"⟩ ⟨"LoadCycles$Unmixer", "findCosts", "(LLoadCycles$House;)V"⟩ : Cond) ∈ TB := tb_of (List.mem_of_getElem? (i := 12) (by decide +kernel)) rfl
theorem wd_13 : (.selects "LoadCycles$Unmixer" ⟨"LoadCycles$Unmixer", "letGoOn", "(I)V"⟩ ⟨"LoadCycles$Unmixer", "letGoOn", "(I)V"⟩ : Cond) ∈ TB := tb_of (List.mem_of_getElem? (i := 13) (by decide +kernel)) rfl
theorem wd_14 : (.selects "LoadCycles$Unmixer" ⟨"LoadCycles$Unmixer", "bestSet", "(LLoadCycles$House;II)I"⟩ ⟨"LoadCycles$Unmixer", "bestSet", "(LLoadCycles$House;II)I"⟩ : Cond) ∈ TB := tb_of (List.mem_of_getElem? (i := 14) (by decide +kernel)) rfl
theorem wd_15 : (.selects "LoadCycles$Unmixer" ⟨"LoadCycles$Unmixer", "mixBehind", "(LLoadCycles$House;II)I"⟩ ⟨"LoadCycles$Unmixer", "mixBehind", "(LLoadCycles$House;II)I"⟩ : Cond) ∈ TB := tb_of (List.mem_of_getElem? (i := 15) (by decide +kernel)) rfl
theorem wd_16 : (.selects "LoadCycles" ⟨"LoadCycles", "liveTrialDay", "(LLoadCycles$Sheet;II)I"⟩ ⟨"LoadCycles", "liveTrialDay", "(LLoadCycles$Sheet;II)I"⟩ : Cond) ∈ TB := tb_of (List.mem_of_getElem? (i := 16) (by decide +kernel)) rfl
theorem wd_17 : (.selects "LoadCycles$House" ⟨"LoadCycles$House", "actedOnBase", "(I)Z"⟩ ⟨"LoadCycles$House", "actedOnBase", "(I)Z"⟩ : Cond) ∈ TB := tb_of (List.mem_of_getElem? (i := 17) (by decide +kernel)) rfl
theorem wd_18 : (.selects "LoadCycles$House" ⟨"LoadCycles$House", "actedOnValue", "(II)Z"⟩ ⟨"LoadCycles$House", "actedOnValue", "(II)Z"⟩ : Cond) ∈ TB := tb_of (List.mem_of_getElem? (i := 18) (by decide +kernel)) rfl
theorem wd_19 : (.selects "LoadCycles$House" ⟨"LoadCycles$House", "actedOnLevel", "(III)Z"⟩ ⟨"LoadCycles$House", "actedOnLevel", "(III)Z"⟩ : Cond) ∈ TB := tb_of (List.mem_of_getElem? (i := 19) (by decide +kernel)) rfl
theorem wd_20 : (.selects "LoadCycles" ⟨"LoadCycles", "answerOfTrialDay", "(I)I"⟩ ⟨"LoadCycles", "answerOfTrialDay", "(I)I"⟩ : Cond) ∈ TB := tb_of (List.mem_of_getElem? (i := 20) (by decide +kernel)) rfl
theorem wd_21 : (.selects "LoadCycles" ⟨"LoadCycles", "powerGain", "(LLoadCycles$Doing;II)I"⟩ ⟨"LoadCycles", "powerGain", "(LLoadCycles$Doing;II)I"⟩ : Cond) ∈ TB := tb_of (List.mem_of_getElem? (i := 21) (by decide +kernel)) rfl
theorem wd_22 : (.selects "LoadCycles" ⟨"LoadCycles", "readingsHold", "(II)Z"⟩ ⟨"LoadCycles", "readingsHold", "(II)Z"⟩ : Cond) ∈ TB := tb_of (List.mem_of_getElem? (i := 22) (by decide +kernel)) rfl
theorem wd_23 : (.selects "LoadCycles" ⟨"LoadCycles", "unmixGuess", "(II)V"⟩ ⟨"LoadCycles", "unmixGuess", "(II)V"⟩ : Cond) ∈ TB := tb_of (List.mem_of_getElem? (i := 23) (by decide +kernel)) rfl
theorem wd_24 : (.selects "LoadCycles" ⟨"LoadCycles", "tellPlain", "(I)I"⟩ ⟨"LoadCycles", "tellPlain", "(I)I"⟩ : Cond) ∈ TB := tb_of (List.mem_of_getElem? (i := 24) (by decide +kernel)) rfl
theorem wd_25 : (.selects "LoadCycles" ⟨"LoadCycles", "leaveTrace", "(I)V"⟩ ⟨"LoadCycles", "leaveTrace", "(I)V"⟩ : Cond) ∈ TB := tb_of (List.mem_of_getElem? (i := 25) (by decide +kernel)) rfl
theorem wd_26 : (.selects "LoadCycles" ⟨"LoadCycles", "tellHeavy", "(I)I"⟩ ⟨"LoadCycles", "tellHeavy", "(I)I"⟩ : Cond) ∈ TB := tb_of (List.mem_of_getElem? (i := 26) (by decide +kernel)) rfl
theorem wd_27 : (.selects "LoadCycles" ⟨"LoadCycles", "tellDouble", "(I)I"⟩ ⟨"LoadCycles", "tellDouble", "(I)I"⟩ : Cond) ∈ TB := tb_of (List.mem_of_getElem? (i := 27) (by decide +kernel)) rfl
theorem wd_28 : (.selects "LoadCycles" ⟨"LoadCycles", "ownMetering", "()I"⟩ ⟨"LoadCycles", "ownMetering", "()I"⟩ : Cond) ∈ TB := tb_of (List.mem_of_getElem? (i := 28) (by decide +kernel)) rfl
theorem wd_29 : (.selects "LoadCycles" ⟨"LoadCycles", "lentMetering", "(I)I"⟩ ⟨"LoadCycles", "lentMetering", "(I)I"⟩ : Cond) ∈ TB := tb_of (List.mem_of_getElem? (i := 29) (by decide +kernel)) rfl
theorem wd_30 : (.selects "LoadCyclesModel" ⟨"LoadCyclesModel", "against", "(IIII)I"⟩ ⟨"LoadCyclesModel", "against", "(IIII)I"⟩ : Cond) ∈ TB := tb_of (List.mem_of_getElem? (i := 30) (by decide +kernel)) rfl
theorem wd_31 : (.selects "LoadCyclesModel" ⟨"LoadCyclesModel", "fails", "(I)I"⟩ ⟨"LoadCyclesModel", "fails", "(I)I"⟩ : Cond) ∈ TB := tb_of (List.mem_of_getElem? (i := 31) (by decide +kernel)) rfl
theorem wd_32 : (.selects "LoadCyclesModel" ⟨"LoadCyclesModel", "readAll", "(I)Z"⟩ ⟨"LoadCyclesModel", "readAll", "(I)Z"⟩ : Cond) ∈ TB := tb_of (List.mem_of_getElem? (i := 32) (by decide +kernel)) rfl
theorem wd_33 : (.selects "LoadCyclesModel" ⟨"LoadCyclesModel", "isSign", "(II)Z"⟩ ⟨"LoadCyclesModel", "isSign", "(II)Z"⟩ : Cond) ∈ TB := tb_of (List.mem_of_getElem? (i := 33) (by decide +kernel)) rfl
theorem wd_34 : (.selects "LoadCyclesModel" ⟨"LoadCyclesModel", "readAppliance", "(I)Z"⟩ ⟨"LoadCyclesModel", "readAppliance", "(I)Z"⟩ : Cond) ∈ TB := tb_of (List.mem_of_getElem? (i := 34) (by decide +kernel)) rfl
theorem wd_35 : (.selects "LoadCyclesModel" ⟨"LoadCyclesModel", "isAppliance", "(I)Z"⟩ ⟨"LoadCyclesModel", "isAppliance", "(I)Z"⟩ : Cond) ∈ TB := tb_of (List.mem_of_getElem? (i := 35) (by decide +kernel)) rfl
theorem wd_36 : (.selects "LoadCyclesModel" ⟨"LoadCyclesModel", "powerOf", "(II)I"⟩ ⟨"LoadCyclesModel", "powerOf", "(II)I"⟩ : Cond) ∈ TB := tb_of (List.mem_of_getElem? (i := 36) (by decide +kernel)) rfl
theorem wd_37 : (.selects "LoadCyclesModel" ⟨"LoadCyclesModel", "isTime", "(I)Z"⟩ ⟨"LoadCyclesModel", "isTime", "(I)Z"⟩ : Cond) ∈ TB := tb_of (List.mem_of_getElem? (i := 37) (by decide +kernel)) rfl
theorem wd_38 : (.selects "LoadCyclesModel" ⟨"LoadCyclesModel", "canBase", "(I)Z"⟩ ⟨"LoadCyclesModel", "canBase", "(I)Z"⟩ : Cond) ∈ TB := tb_of (List.mem_of_getElem? (i := 38) (by decide +kernel)) rfl
theorem wd_39 : (.selects "LoadCyclesModel" ⟨"LoadCyclesModel", "findBest", "()V"⟩ ⟨"LoadCyclesModel", "findBest", "()V"⟩ : Cond) ∈ TB := tb_of (List.mem_of_getElem? (i := 39) (by decide +kernel)) rfl
theorem wd_40 : (.selects "LoadCyclesModel" ⟨"LoadCyclesModel", "prepare", "()V"⟩ ⟨"LoadCyclesModel", "prepare", "()V"⟩ : Cond) ∈ TB := tb_of (List.mem_of_getElem? (i := 40) (by decide +kernel)) rfl
theorem wd_41 : (.selects "LoadCyclesModel" ⟨"LoadCyclesModel", "powerOfRow", "(I)I"⟩ ⟨"LoadCyclesModel", "powerOfRow", "(I)I"⟩ : Cond) ∈ TB := tb_of (List.mem_of_getElem? (i := 41) (by decide +kernel)) rfl
theorem wd_42 : (.selects "LoadCyclesModel" ⟨"LoadCyclesModel", "goesOn", "(II)I"⟩ ⟨"LoadCyclesModel", "goesOn", "(II)I"⟩ : Cond) ∈ TB := tb_of (List.mem_of_getElem? (i := 42) (by decide +kernel)) rfl
theorem wd_43 : (.selects "LoadCyclesModel" ⟨"LoadCyclesModel", "goFrom", "(II)V"⟩ ⟨"LoadCyclesModel", "goFrom", "(II)V"⟩ : Cond) ∈ TB := tb_of (List.mem_of_getElem? (i := 43) (by decide +kernel)) rfl
theorem wd_44 : (.selects "LoadCyclesModel" ⟨"LoadCyclesModel", "isBetter", "(IIII)Z"⟩ ⟨"LoadCyclesModel", "isBetter", "(IIII)Z"⟩ : Cond) ∈ TB := tb_of (List.mem_of_getElem? (i := 44) (by decide +kernel)) rfl
theorem wd_45 : (.selects "LoadCyclesModel" ⟨"LoadCyclesModel", "rankAll", "(I)V"⟩ ⟨"LoadCyclesModel", "rankAll", "(I)V"⟩ : Cond) ∈ TB := tb_of (List.mem_of_getElem? (i := 45) (by decide +kernel)) rfl
theorem wd_46 : (.selects "LoadCyclesModel" ⟨"LoadCyclesModel", "walkBack", "()V"⟩ ⟨"LoadCyclesModel", "walkBack", "()V"⟩ : Cond) ∈ TB := tb_of (List.mem_of_getElem? (i := 46) (by decide +kernel)) rfl
theorem wd_47 : (.selects "LoadCyclesModel" ⟨"LoadCyclesModel", "restOf", "(I)I"⟩ ⟨"LoadCyclesModel", "restOf", "(I)I"⟩ : Cond) ∈ TB := tb_of (List.mem_of_getElem? (i := 47) (by decide +kernel)) rfl
theorem wd_48 : (.selects "LoadCyclesModel" ⟨"LoadCyclesModel", "rests", "()I"⟩ ⟨"LoadCyclesModel", "rests", "()I"⟩ : Cond) ∈ TB := tb_of (List.mem_of_getElem? (i := 48) (by decide +kernel)) rfl
theorem wd_49 : (.selects "LoadCyclesModel" ⟨"LoadCyclesModel", "changes", "(Z)I"⟩ ⟨"LoadCyclesModel", "changes", "(Z)I"⟩ : Cond) ∈ TB := tb_of (List.mem_of_getElem? (i := 49) (by decide +kernel)) rfl
theorem wd_50 : (.selects "LoadCyclesModel" ⟨"LoadCyclesModel", "ahead", "(II)I"⟩ ⟨"LoadCyclesModel", "ahead", "(II)I"⟩ : Cond) ∈ TB := tb_of (List.mem_of_getElem? (i := 50) (by decide +kernel)) rfl
theorem wd_51 : (.selects "LoadCyclesModel" ⟨"LoadCyclesModel", "energies", "()I"⟩ ⟨"LoadCyclesModel", "energies", "()I"⟩ : Cond) ∈ TB := tb_of (List.mem_of_getElem? (i := 51) (by decide +kernel)) rfl
theorem wd_52 : (.selects "LoadCyclesModel" ⟨"LoadCyclesModel", "energyOf", "(I)I"⟩ ⟨"LoadCyclesModel", "energyOf", "(I)I"⟩ : Cond) ∈ TB := tb_of (List.mem_of_getElem? (i := 52) (by decide +kernel)) rfl
theorem wd_53 : (.selects "LoadCyclesModel" ⟨"LoadCyclesModel", "keep", "()V"⟩ ⟨"LoadCyclesModel", "keep", "()V"⟩ : Cond) ∈ TB := tb_of (List.mem_of_getElem? (i := 53) (by decide +kernel)) rfl
theorem wd_54 : (.selects "LoadCyclesModel" ⟨"LoadCyclesModel", "goDay", "(II)I"⟩ ⟨"LoadCyclesModel", "goDay", "(II)I"⟩ : Cond) ∈ TB := tb_of (List.mem_of_getElem? (i := 54) (by decide +kernel)) rfl
theorem wd_55 : (.selects "LoadCyclesModel" ⟨"LoadCyclesModel", "canAct", "(II)Z"⟩ ⟨"LoadCyclesModel", "canAct", "(II)Z"⟩ : Cond) ∈ TB := tb_of (List.mem_of_getElem? (i := 55) (by decide +kernel)) rfl
theorem wd_56 : (.selects "LoadCyclesModel" ⟨"LoadCyclesModel", "tellDay", "(I)I"⟩ ⟨"LoadCyclesModel", "tellDay", "(I)I"⟩ : Cond) ∈ TB := tb_of (List.mem_of_getElem? (i := 56) (by decide +kernel)) rfl
theorem wd_57 : (.selects "LoadCyclesModel" ⟨"LoadCyclesModel", "putBack", "()V"⟩ ⟨"LoadCyclesModel", "putBack", "()V"⟩ : Cond) ∈ TB := tb_of (List.mem_of_getElem? (i := 57) (by decide +kernel)) rfl
theorem wd_58 : (.selects "LoadCyclesModel" ⟨"LoadCyclesModel", "jumpOf", "(I)I"⟩ ⟨"LoadCyclesModel", "jumpOf", "(I)I"⟩ : Cond) ∈ TB := tb_of (List.mem_of_getElem? (i := 58) (by decide +kernel)) rfl
theorem wd_59 : (.selects "LoadCyclesModel" ⟨"LoadCyclesModel", "moreOf", "(II)I"⟩ ⟨"LoadCyclesModel", "moreOf", "(II)I"⟩ : Cond) ∈ TB := tb_of (List.mem_of_getElem? (i := 59) (by decide +kernel)) rfl
theorem wd_60 : (.selects "LoadCyclesModel" ⟨"LoadCyclesModel", "allValues", "()I"⟩ ⟨"LoadCyclesModel", "allValues", "()I"⟩ : Cond) ∈ TB := tb_of (List.mem_of_getElem? (i := 60) (by decide +kernel)) rfl
theorem wd_61 : (.selects "LoadCyclesModel" ⟨"LoadCyclesModel", "areSo", "()Z"⟩ ⟨"LoadCyclesModel", "areSo", "()Z"⟩ : Cond) ∈ TB := tb_of (List.mem_of_getElem? (i := 61) (by decide +kernel)) rfl
theorem wd_62 : (.selects "LoadCyclesModel" ⟨"LoadCyclesModel", "lost", "(I)J"⟩ ⟨"LoadCyclesModel", "lost", "(I)J"⟩ : Cond) ∈ TB := tb_of (List.mem_of_getElem? (i := 62) (by decide +kernel)) rfl
theorem wd_63 : (.selects "LoadCyclesModel" ⟨"LoadCyclesModel", "begins", "(I)V"⟩ ⟨"LoadCyclesModel", "begins", "(I)V"⟩ : Cond) ∈ TB := tb_of (List.mem_of_getElem? (i := 63) (by decide +kernel)) rfl
theorem wd_64 : (.initialized "LoadCyclesLaw" : Cond) ∈ TB := tb_of (List.mem_of_getElem? (i := 64) (by decide +kernel)) rfl
theorem wd_65 : (.initialized "LoadCycles" : Cond) ∈ TB := tb_of (List.mem_of_getElem? (i := 65) (by decide +kernel)) rfl
theorem wd_66 : (.initialized "LoadCycles$House" : Cond) ∈ TB := tb_of (List.mem_of_getElem? (i := 66) (by decide +kernel)) rfl
theorem wd_67 : (.initialized "LoadCycles$Doing" : Cond) ∈ TB := tb_of (List.mem_of_getElem? (i := 67) (by decide +kernel)) rfl
theorem wd_68 : (.initialized "LoadCycles$Unmixer" : Cond) ∈ TB := tb_of (List.mem_of_getElem? (i := 68) (by decide +kernel)) rfl
theorem wd_69 : (.initialized "LoadCycles$TextReader" : Cond) ∈ TB := tb_of (List.mem_of_getElem? (i := 69) (by decide +kernel)) rfl
theorem wd_70 : (.initialized "LoadCycles$Guesses" : Cond) ∈ TB := tb_of (List.mem_of_getElem? (i := 70) (by decide +kernel)) rfl
theorem wd_71 : (.initialized "LoadCycles$Sheet" : Cond) ∈ TB := tb_of (List.mem_of_getElem? (i := 71) (by decide +kernel)) rfl
theorem wd_72 : (.initialized "LoadCyclesModel" : Cond) ∈ TB := tb_of (List.mem_of_getElem? (i := 72) (by decide +kernel)) rfl
theorem wd_73 : (.initialized "java/lang/System" : Cond) ∈ TB := tb_of (List.mem_of_getElem? (i := 73) (by decide +kernel)) rfl
theorem wd_74 : (.initialized "java/util/Arrays" : Cond) ∈ TB := tb_of (List.mem_of_getElem? (i := 74) (by decide +kernel)) rfl
theorem wd_75 : (.initialized "java/lang/Math" : Cond) ∈ TB := tb_of (List.mem_of_getElem? (i := 75) (by decide +kernel)) rfl
theorem wd_76 : (.initialized "java/lang/Integer" : Cond) ∈ TB := tb_of (List.mem_of_getElem? (i := 76) (by decide +kernel)) rfl
theorem wd_77 : (.classLink "LoadCyclesLaw" 7 "LoadCycles" : Cond) ∈ TB := tb_of (List.mem_of_getElem? (i := 77) (by decide +kernel)) rfl
theorem wd_78 : (.instantiable "LoadCycles" 14 : Cond) ∈ TB := tb_of (List.mem_of_getElem? (i := 78) (by decide +kernel)) rfl
theorem wd_79 : (.methodLink "LoadCyclesLaw" 9 ⟨"LoadCycles", "<init>", "()V"⟩ : Cond) ∈ TB := tb_of (List.mem_of_getElem? (i := 79) (by decide +kernel)) rfl
theorem wd_80 : (.instanceMethod ⟨"LoadCycles", "<init>", "()V"⟩ : Cond) ∈ TB := tb_of (List.mem_of_getElem? (i := 80) (by decide +kernel)) rfl
set_option maxRecDepth 20000 in
theorem wd_81 : (.code ⟨"LoadCycles", "<init>", "()V"⟩ prog_1_method_1_code 2 (none : Option FieldType) : Cond) ∈ TB := tb_of (List.mem_of_getElem? (i := 81) rfl) rfl
theorem wd_82 : (.methodLink "LoadCycles" 3 ⟨"java/lang/Object", "<init>", "()V"⟩ : Cond) ∈ TB := tb_of (List.mem_of_getElem? (i := 82) (by decide +kernel)) rfl
theorem wd_83 : (.instanceMethod ⟨"java/lang/Object", "<init>", "()V"⟩ : Cond) ∈ TB := tb_of (List.mem_of_getElem? (i := 83) (by decide +kernel)) rfl
set_option maxRecDepth 20000 in
theorem wd_84 : (.code ⟨"java/lang/Object", "<init>", "()V"⟩ object_method_1_code 1 (none : Option FieldType) : Cond) ∈ TB := tb_of (List.mem_of_getElem? (i := 84) rfl) rfl
theorem wd_85 : (.classLink "LoadCycles" 9 "LoadCycles$House" : Cond) ∈ TB := tb_of (List.mem_of_getElem? (i := 85) (by decide +kernel)) rfl
theorem wd_86 : (.instantiable "LoadCycles$House" 7 : Cond) ∈ TB := tb_of (List.mem_of_getElem? (i := 86) (by decide +kernel)) rfl
theorem wd_87 : (.methodLinkNest "LoadCycles" 11 ⟨"LoadCycles$House", "<init>", "()V"⟩ "LoadCycles" : Cond) ∈ lw_tbl := List.mem_of_getElem? (i := 87) (by decide +kernel)
theorem wd_88 : (.instanceMethod ⟨"LoadCycles$House", "<init>", "()V"⟩ : Cond) ∈ TB := tb_of (List.mem_of_getElem? (i := 88) (by decide +kernel)) rfl
set_option maxRecDepth 20000 in
theorem wd_89 : (.code ⟨"LoadCycles$House", "<init>", "()V"⟩ prog_4_method_1_code 1 (none : Option FieldType) : Cond) ∈ TB := tb_of (List.mem_of_getElem? (i := 89) rfl) rfl
theorem wd_90 : (.methodLink "LoadCycles$House" 3 ⟨"java/lang/Object", "<init>", "()V"⟩ : Cond) ∈ TB := tb_of (List.mem_of_getElem? (i := 90) (by decide +kernel)) rfl
theorem wd_91 : (.fieldLink "LoadCycles$House" 9 "LoadCycles$House" "kindOf" "[I" : Cond) ∈ TB := tb_of (List.mem_of_getElem? (i := 91) (by decide +kernel)) rfl
theorem wd_92 : (.fieldLink "LoadCycles" 111 "LoadCycles$House" "kindOf" "[I" : Cond) ∈ TB := tb_of (List.mem_of_getElem? (i := 92) (by decide +kernel)) rfl
theorem wd_93 : (.fieldLink "LoadCycles$House" 15 "LoadCycles$House" "levelsOf" "[I" : Cond) ∈ TB := tb_of (List.mem_of_getElem? (i := 93) (by decide +kernel)) rfl
theorem wd_94 : (.fieldLink "LoadCycles" 114 "LoadCycles$House" "levelsOf" "[I" : Cond) ∈ TB := tb_of (List.mem_of_getElem? (i := 94) (by decide +kernel)) rfl
theorem wd_95 : (.fieldLink "LoadCycles$Unmixer" 66 "LoadCycles$House" "levelsOf" "[I" : Cond) ∈ TB := tb_of (List.mem_of_getElem? (i := 95) (by decide +kernel)) rfl
theorem wd_96 : (.fieldLink "LoadCycles$House" 18 "LoadCycles$House" "told" "[I" : Cond) ∈ TB := tb_of (List.mem_of_getElem? (i := 96) (by decide +kernel)) rfl
theorem wd_97 : (.fieldLink "LoadCycles$House" 21 "LoadCycles$House" "values" "[I" : Cond) ∈ TB := tb_of (List.mem_of_getElem? (i := 97) (by decide +kernel)) rfl
theorem wd_98 : (.fieldLink "LoadCycles" 148 "LoadCycles$House" "values" "[I" : Cond) ∈ TB := tb_of (List.mem_of_getElem? (i := 98) (by decide +kernel)) rfl
theorem wd_99 : (.fieldLink "LoadCycles$Unmixer" 86 "LoadCycles$House" "values" "[I" : Cond) ∈ TB := tb_of (List.mem_of_getElem? (i := 99) (by decide +kernel)) rfl
theorem wd_100 : (.fieldLink "LoadCycles$TextReader" 18 "LoadCycles$House" "appliances" "I" : Cond) ∈ TB := tb_of (List.mem_of_getElem? (i := 100) (by decide +kernel)) rfl
theorem wd_101 : (.fieldLink "LoadCycles$Unmixer" 52 "LoadCycles$House" "appliances" "I" : Cond) ∈ TB := tb_of (List.mem_of_getElem? (i := 101) (by decide +kernel)) rfl
theorem wd_102 : (.fieldLink "LoadCycles$House" 30 "LoadCycles$House" "appliances" "I" : Cond) ∈ TB := tb_of (List.mem_of_getElem? (i := 102) (by decide +kernel)) rfl
theorem wd_103 : (.fieldLink "LoadCycles" 105 "LoadCycles$House" "appliances" "I" : Cond) ∈ TB := tb_of (List.mem_of_getElem? (i := 103) (by decide +kernel)) rfl
theorem wd_104 : (.fieldLink "LoadCycles$Unmixer" 39 "LoadCycles$House" "times" "I" : Cond) ∈ TB := tb_of (List.mem_of_getElem? (i := 104) (by decide +kernel)) rfl
theorem wd_105 : (.fieldLink "LoadCycles$House" 34 "LoadCycles$House" "times" "I" : Cond) ∈ TB := tb_of (List.mem_of_getElem? (i := 105) (by decide +kernel)) rfl
theorem wd_106 : (.fieldLink "LoadCycles$Doing" 47 "LoadCycles$House" "times" "I" : Cond) ∈ TB := tb_of (List.mem_of_getElem? (i := 106) (by decide +kernel)) rfl
theorem wd_107 : (.fieldLink "LoadCycles" 157 "LoadCycles$House" "times" "I" : Cond) ∈ TB := tb_of (List.mem_of_getElem? (i := 107) (by decide +kernel)) rfl
theorem wd_108 : (.fieldLink "LoadCycles$House" 37 "LoadCycles$House" "always" "I" : Cond) ∈ TB := tb_of (List.mem_of_getElem? (i := 108) (by decide +kernel)) rfl
theorem wd_109 : (.fieldLink "LoadCycles$Doing" 50 "LoadCycles$House" "always" "I" : Cond) ∈ TB := tb_of (List.mem_of_getElem? (i := 109) (by decide +kernel)) rfl
theorem wd_110 : (.fieldLink "LoadCycles" 145 "LoadCycles$House" "always" "I" : Cond) ∈ TB := tb_of (List.mem_of_getElem? (i := 110) (by decide +kernel)) rfl
theorem wd_111 : (.fieldLink "LoadCycles$Unmixer" 89 "LoadCycles$House" "always" "I" : Cond) ∈ TB := tb_of (List.mem_of_getElem? (i := 111) (by decide +kernel)) rfl
theorem wd_112 : (.laysFinal "LoadCycles$House" "LoadCycles$House" "kindOf" "[I" : Cond) ∈ TB := tb_of (List.mem_of_getElem? (i := 112) (by decide +kernel)) rfl
theorem wd_114 : (.laysFinal "LoadCycles$House" "LoadCycles$House" "levelsOf" "[I" : Cond) ∈ TB := tb_of (List.mem_of_getElem? (i := 114) (by decide +kernel)) rfl
theorem wd_116 : (.laysFinal "LoadCycles$House" "LoadCycles$House" "told" "[I" : Cond) ∈ TB := tb_of (List.mem_of_getElem? (i := 116) (by decide +kernel)) rfl
theorem wd_118 : (.laysFinal "LoadCycles$House" "LoadCycles$House" "values" "[I" : Cond) ∈ TB := tb_of (List.mem_of_getElem? (i := 118) (by decide +kernel)) rfl
theorem wd_120 : (.lays "LoadCycles$House" "LoadCycles$House" "appliances" "I" : Cond) ∈ TB := tb_of (List.mem_of_getElem? (i := 120) (by decide +kernel)) rfl
theorem wd_122 : (.lays "LoadCycles$House" "LoadCycles$House" "times" "I" : Cond) ∈ TB := tb_of (List.mem_of_getElem? (i := 122) (by decide +kernel)) rfl
theorem wd_124 : (.lays "LoadCycles$House" "LoadCycles$House" "always" "I" : Cond) ∈ TB := tb_of (List.mem_of_getElem? (i := 124) (by decide +kernel)) rfl
theorem wd_127 : (.arrayClass .int : Cond) ∈ TB := tb_of (List.mem_of_getElem? (i := 127) (by decide +kernel)) rfl
theorem wd_128 : (.classLink "LoadCycles" 21 "LoadCycles$Doing" : Cond) ∈ TB := tb_of (List.mem_of_getElem? (i := 128) (by decide +kernel)) rfl
theorem wd_129 : (.instantiable "LoadCycles$Doing" 6 : Cond) ∈ TB := tb_of (List.mem_of_getElem? (i := 129) (by decide +kernel)) rfl
theorem wd_130 : (.methodLinkNest "LoadCycles" 23 ⟨"LoadCycles$Doing", "<init>", "()V"⟩ "LoadCycles" : Cond) ∈ lw_tbl := List.mem_of_getElem? (i := 130) (by decide +kernel)
theorem wd_131 : (.instanceMethod ⟨"LoadCycles$Doing", "<init>", "()V"⟩ : Cond) ∈ TB := tb_of (List.mem_of_getElem? (i := 131) (by decide +kernel)) rfl
set_option maxRecDepth 20000 in
theorem wd_132 : (.code ⟨"LoadCycles$Doing", "<init>", "()V"⟩ prog_2_method_1_code 1 (none : Option FieldType) : Cond) ∈ TB := tb_of (List.mem_of_getElem? (i := 132) rfl) rfl
theorem wd_133 : (.methodLink "LoadCycles$Doing" 3 ⟨"java/lang/Object", "<init>", "()V"⟩ : Cond) ∈ TB := tb_of (List.mem_of_getElem? (i := 133) (by decide +kernel)) rfl
theorem wd_134 : (.fieldLink "LoadCycles$Doing" 9 "LoadCycles$Doing" "states" "[I" : Cond) ∈ TB := tb_of (List.mem_of_getElem? (i := 134) (by decide +kernel)) rfl
theorem wd_135 : (.fieldLink "LoadCycles$Doing" 15 "LoadCycles$Doing" "energies" "[I" : Cond) ∈ TB := tb_of (List.mem_of_getElem? (i := 135) (by decide +kernel)) rfl
theorem wd_136 : (.fieldLink "LoadCycles$Guesses" 19 "LoadCycles$Doing" "energies" "[I" : Cond) ∈ TB := tb_of (List.mem_of_getElem? (i := 136) (by decide +kernel)) rfl
theorem wd_137 : (.fieldLink "LoadCycles" 182 "LoadCycles$Doing" "energies" "[I" : Cond) ∈ TB := tb_of (List.mem_of_getElem? (i := 137) (by decide +kernel)) rfl
theorem wd_138 : (.fieldLink "LoadCycles$Doing" 32 "LoadCycles$Doing" "allEnergies" "I" : Cond) ∈ TB := tb_of (List.mem_of_getElem? (i := 138) (by decide +kernel)) rfl
theorem wd_139 : (.fieldLink "LoadCycles$Doing" 22 "LoadCycles$Doing" "allRests" "I" : Cond) ∈ TB := tb_of (List.mem_of_getElem? (i := 139) (by decide +kernel)) rfl
theorem wd_140 : (.fieldLink "LoadCycles$Doing" 26 "LoadCycles$Doing" "changes" "I" : Cond) ∈ TB := tb_of (List.mem_of_getElem? (i := 140) (by decide +kernel)) rfl
theorem wd_141 : (.fieldLink "LoadCycles$Doing" 29 "LoadCycles$Doing" "starts" "I" : Cond) ∈ TB := tb_of (List.mem_of_getElem? (i := 141) (by decide +kernel)) rfl
theorem wd_142 : (.laysFinal "LoadCycles$Doing" "LoadCycles$Doing" "states" "[I" : Cond) ∈ TB := tb_of (List.mem_of_getElem? (i := 142) (by decide +kernel)) rfl
theorem wd_144 : (.laysFinal "LoadCycles$Doing" "LoadCycles$Doing" "energies" "[I" : Cond) ∈ TB := tb_of (List.mem_of_getElem? (i := 144) (by decide +kernel)) rfl
theorem wd_146 : (.lays "LoadCycles$Doing" "LoadCycles$Doing" "allEnergies" "I" : Cond) ∈ TB := tb_of (List.mem_of_getElem? (i := 146) (by decide +kernel)) rfl
theorem wd_148 : (.lays "LoadCycles$Doing" "LoadCycles$Doing" "allRests" "I" : Cond) ∈ TB := tb_of (List.mem_of_getElem? (i := 148) (by decide +kernel)) rfl
theorem wd_150 : (.lays "LoadCycles$Doing" "LoadCycles$Doing" "changes" "I" : Cond) ∈ TB := tb_of (List.mem_of_getElem? (i := 150) (by decide +kernel)) rfl
theorem wd_152 : (.lays "LoadCycles$Doing" "LoadCycles$Doing" "starts" "I" : Cond) ∈ TB := tb_of (List.mem_of_getElem? (i := 152) (by decide +kernel)) rfl
theorem wd_155 : (.classLink "LoadCycles" 31 "LoadCycles$Unmixer" : Cond) ∈ TB := tb_of (List.mem_of_getElem? (i := 155) (by decide +kernel)) rfl
theorem wd_156 : (.instantiable "LoadCycles$Unmixer" 6 : Cond) ∈ TB := tb_of (List.mem_of_getElem? (i := 156) (by decide +kernel)) rfl
theorem wd_157 : (.methodLinkNest "LoadCycles" 33 ⟨"LoadCycles$Unmixer", "<init>", "()V"⟩ "LoadCycles" : Cond) ∈ lw_tbl := List.mem_of_getElem? (i := 157) (by decide +kernel)
theorem wd_158 : (.instanceMethod ⟨"LoadCycles$Unmixer", "<init>", "()V"⟩ : Cond) ∈ TB := tb_of (List.mem_of_getElem? (i := 158) (by decide +kernel)) rfl
set_option maxRecDepth 20000 in
theorem wd_159 : (.code ⟨"LoadCycles$Unmixer", "<init>", "()V"⟩ prog_7_method_1_code 1 (none : Option FieldType) : Cond) ∈ TB := tb_of (List.mem_of_getElem? (i := 159) rfl) rfl
theorem wd_160 : (.methodLink "LoadCycles$Unmixer" 3 ⟨"java/lang/Object", "<init>", "()V"⟩ : Cond) ∈ TB := tb_of (List.mem_of_getElem? (i := 160) (by decide +kernel)) rfl
theorem wd_161 : (.fieldLink "LoadCycles$Unmixer" 9 "LoadCycles$Unmixer" "powers" "[I" : Cond) ∈ TB := tb_of (List.mem_of_getElem? (i := 161) (by decide +kernel)) rfl
theorem wd_162 : (.fieldLink "LoadCycles$Unmixer" 15 "LoadCycles$Unmixer" "mixAfter" "[I" : Cond) ∈ TB := tb_of (List.mem_of_getElem? (i := 162) (by decide +kernel)) rfl
theorem wd_163 : (.fieldLink "LoadCycles$Unmixer" 18 "LoadCycles$Unmixer" "costs" "[I" : Cond) ∈ TB := tb_of (List.mem_of_getElem? (i := 163) (by decide +kernel)) rfl
theorem wd_164 : (.fieldLink "LoadCycles$Unmixer" 21 "LoadCycles$Unmixer" "ahead" "[I" : Cond) ∈ TB := tb_of (List.mem_of_getElem? (i := 164) (by decide +kernel)) rfl
theorem wd_165 : (.fieldLink "LoadCycles$Unmixer" 24 "LoadCycles$Unmixer" "spare" "[I" : Cond) ∈ TB := tb_of (List.mem_of_getElem? (i := 165) (by decide +kernel)) rfl
theorem wd_166 : (.fieldLink "LoadCycles$Unmixer" 59 "LoadCycles$Unmixer" "mixes" "I" : Cond) ∈ TB := tb_of (List.mem_of_getElem? (i := 166) (by decide +kernel)) rfl
theorem wd_167 : (.laysFinal "LoadCycles$Unmixer" "LoadCycles$Unmixer" "powers" "[I" : Cond) ∈ TB := tb_of (List.mem_of_getElem? (i := 167) (by decide +kernel)) rfl
theorem wd_169 : (.laysFinal "LoadCycles$Unmixer" "LoadCycles$Unmixer" "mixAfter" "[I" : Cond) ∈ TB := tb_of (List.mem_of_getElem? (i := 169) (by decide +kernel)) rfl
theorem wd_171 : (.laysFinal "LoadCycles$Unmixer" "LoadCycles$Unmixer" "costs" "[I" : Cond) ∈ TB := tb_of (List.mem_of_getElem? (i := 171) (by decide +kernel)) rfl
theorem wd_173 : (.lays "LoadCycles$Unmixer" "LoadCycles$Unmixer" "ahead" "[I" : Cond) ∈ TB := tb_of (List.mem_of_getElem? (i := 173) (by decide +kernel)) rfl
theorem wd_175 : (.lays "LoadCycles$Unmixer" "LoadCycles$Unmixer" "spare" "[I" : Cond) ∈ TB := tb_of (List.mem_of_getElem? (i := 175) (by decide +kernel)) rfl
theorem wd_177 : (.lays "LoadCycles$Unmixer" "LoadCycles$Unmixer" "mixes" "I" : Cond) ∈ TB := tb_of (List.mem_of_getElem? (i := 177) (by decide +kernel)) rfl
theorem wd_180 : (.classLink "LoadCycles" 38 "LoadCycles$TextReader" : Cond) ∈ TB := tb_of (List.mem_of_getElem? (i := 180) (by decide +kernel)) rfl
theorem wd_181 : (.instantiable "LoadCycles$TextReader" 2 : Cond) ∈ TB := tb_of (List.mem_of_getElem? (i := 181) (by decide +kernel)) rfl
theorem wd_182 : (.methodLinkNest "LoadCycles" 40 ⟨"LoadCycles$TextReader", "<init>", "()V"⟩ "LoadCycles" : Cond) ∈ lw_tbl := List.mem_of_getElem? (i := 182) (by decide +kernel)
theorem wd_183 : (.instanceMethod ⟨"LoadCycles$TextReader", "<init>", "()V"⟩ : Cond) ∈ TB := tb_of (List.mem_of_getElem? (i := 183) (by decide +kernel)) rfl
set_option maxRecDepth 20000 in
theorem wd_184 : (.code ⟨"LoadCycles$TextReader", "<init>", "()V"⟩ prog_6_method_1_code 1 (none : Option FieldType) : Cond) ∈ TB := tb_of (List.mem_of_getElem? (i := 184) rfl) rfl
theorem wd_185 : (.methodLink "LoadCycles$TextReader" 3 ⟨"java/lang/Object", "<init>", "()V"⟩ : Cond) ∈ TB := tb_of (List.mem_of_getElem? (i := 185) (by decide +kernel)) rfl
theorem wd_186 : (.classLink "LoadCycles$TextReader" 9 "LoadCycles$House" : Cond) ∈ TB := tb_of (List.mem_of_getElem? (i := 186) (by decide +kernel)) rfl
theorem wd_187 : (.methodLinkNest "LoadCycles$TextReader" 11 ⟨"LoadCycles$House", "<init>", "()V"⟩ "LoadCycles" : Cond) ∈ lw_tbl := List.mem_of_getElem? (i := 187) (by decide +kernel)
theorem wd_188 : (.fieldLink "LoadCycles$TextReader" 12 "LoadCycles$TextReader" "house" "LLoadCycles$House;" : Cond) ∈ TB := tb_of (List.mem_of_getElem? (i := 188) (by decide +kernel)) rfl
theorem wd_189 : (.fieldLink "LoadCycles" 92 "LoadCycles$TextReader" "house" "LLoadCycles$House;" : Cond) ∈ TB := tb_of (List.mem_of_getElem? (i := 189) (by decide +kernel)) rfl
theorem wd_190 : (.fieldLink "LoadCycles$TextReader" 22 "LoadCycles$TextReader" "awaits" "I" : Cond) ∈ TB := tb_of (List.mem_of_getElem? (i := 190) (by decide +kernel)) rfl
theorem wd_191 : (.laysFinal "LoadCycles$TextReader" "LoadCycles$TextReader" "house" "LLoadCycles$House;" : Cond) ∈ TB := tb_of (List.mem_of_getElem? (i := 191) (by decide +kernel)) rfl
theorem wd_193 : (.lays "LoadCycles$TextReader" "LoadCycles$TextReader" "awaits" "I" : Cond) ∈ TB := tb_of (List.mem_of_getElem? (i := 193) (by decide +kernel)) rfl
theorem wd_196 : (.classLink "LoadCycles" 45 "LoadCycles$Guesses" : Cond) ∈ TB := tb_of (List.mem_of_getElem? (i := 196) (by decide +kernel)) rfl
theorem wd_197 : (.instantiable "LoadCycles$Guesses" 2 : Cond) ∈ TB := tb_of (List.mem_of_getElem? (i := 197) (by decide +kernel)) rfl
theorem wd_198 : (.methodLinkNest "LoadCycles" 47 ⟨"LoadCycles$Guesses", "<init>", "()V"⟩ "LoadCycles" : Cond) ∈ lw_tbl := List.mem_of_getElem? (i := 198) (by decide +kernel)
theorem wd_199 : (.instanceMethod ⟨"LoadCycles$Guesses", "<init>", "()V"⟩ : Cond) ∈ TB := tb_of (List.mem_of_getElem? (i := 199) (by decide +kernel)) rfl
set_option maxRecDepth 20000 in
theorem wd_200 : (.code ⟨"LoadCycles$Guesses", "<init>", "()V"⟩ prog_3_method_1_code 1 (none : Option FieldType) : Cond) ∈ TB := tb_of (List.mem_of_getElem? (i := 200) rfl) rfl
theorem wd_201 : (.methodLink "LoadCycles$Guesses" 3 ⟨"java/lang/Object", "<init>", "()V"⟩ : Cond) ∈ TB := tb_of (List.mem_of_getElem? (i := 201) (by decide +kernel)) rfl
theorem wd_202 : (.fieldLink "LoadCycles$Guesses" 11 "LoadCycles$Guesses" "known" "[Z" : Cond) ∈ TB := tb_of (List.mem_of_getElem? (i := 202) (by decide +kernel)) rfl
theorem wd_203 : (.fieldLink "LoadCycles$Guesses" 15 "LoadCycles$Guesses" "energies" "[I" : Cond) ∈ TB := tb_of (List.mem_of_getElem? (i := 203) (by decide +kernel)) rfl
theorem wd_204 : (.laysFinal "LoadCycles$Guesses" "LoadCycles$Guesses" "known" "[Z" : Cond) ∈ TB := tb_of (List.mem_of_getElem? (i := 204) (by decide +kernel)) rfl
theorem wd_206 : (.laysFinal "LoadCycles$Guesses" "LoadCycles$Guesses" "energies" "[I" : Cond) ∈ TB := tb_of (List.mem_of_getElem? (i := 206) (by decide +kernel)) rfl
theorem wd_209 : (.arrayClass .boolean : Cond) ∈ TB := tb_of (List.mem_of_getElem? (i := 209) (by decide +kernel)) rfl
theorem wd_210 : (.classLink "LoadCycles" 52 "LoadCycles$Sheet" : Cond) ∈ TB := tb_of (List.mem_of_getElem? (i := 210) (by decide +kernel)) rfl
theorem wd_211 : (.arrayOver (.object "LoadCycles$Sheet") : Cond) ∈ lw_tbl := List.mem_of_getElem? (i := 211) (by decide +kernel)
theorem wd_212 : (.instantiable "LoadCycles$Sheet" 3 : Cond) ∈ TB := tb_of (List.mem_of_getElem? (i := 212) (by decide +kernel)) rfl
theorem wd_213 : (.methodLinkNest "LoadCycles" 65 ⟨"LoadCycles$Sheet", "<init>", "()V"⟩ "LoadCycles" : Cond) ∈ lw_tbl := List.mem_of_getElem? (i := 213) (by decide +kernel)
theorem wd_214 : (.instanceMethod ⟨"LoadCycles$Sheet", "<init>", "()V"⟩ : Cond) ∈ TB := tb_of (List.mem_of_getElem? (i := 214) (by decide +kernel)) rfl
set_option maxRecDepth 20000 in
theorem wd_215 : (.code ⟨"LoadCycles$Sheet", "<init>", "()V"⟩ prog_5_method_1_code 1 (none : Option FieldType) : Cond) ∈ TB := tb_of (List.mem_of_getElem? (i := 215) rfl) rfl
theorem wd_216 : (.methodLink "LoadCycles$Sheet" 3 ⟨"java/lang/Object", "<init>", "()V"⟩ : Cond) ∈ TB := tb_of (List.mem_of_getElem? (i := 216) (by decide +kernel)) rfl
theorem wd_217 : (.fieldLink "LoadCycles$Sheet" 9 "LoadCycles$Sheet" "cells" "[I" : Cond) ∈ TB := tb_of (List.mem_of_getElem? (i := 217) (by decide +kernel)) rfl
theorem wd_218 : (.fieldLink "LoadCycles$TextReader" 25 "LoadCycles$Sheet" "cells" "[I" : Cond) ∈ TB := tb_of (List.mem_of_getElem? (i := 218) (by decide +kernel)) rfl
theorem wd_219 : (.fieldLink "LoadCycles" 142 "LoadCycles$Sheet" "cells" "[I" : Cond) ∈ TB := tb_of (List.mem_of_getElem? (i := 219) (by decide +kernel)) rfl
theorem wd_220 : (.fieldLink "LoadCycles$Sheet" 19 "LoadCycles$Sheet" "lane" "I" : Cond) ∈ TB := tb_of (List.mem_of_getElem? (i := 220) (by decide +kernel)) rfl
theorem wd_221 : (.fieldLink "LoadCycles" 239 "LoadCycles$Sheet" "lane" "I" : Cond) ∈ TB := tb_of (List.mem_of_getElem? (i := 221) (by decide +kernel)) rfl
theorem wd_222 : (.fieldLink "LoadCycles$Sheet" 15 "LoadCycles$Sheet" "length" "I" : Cond) ∈ TB := tb_of (List.mem_of_getElem? (i := 222) (by decide +kernel)) rfl
theorem wd_223 : (.laysFinal "LoadCycles$Sheet" "LoadCycles$Sheet" "cells" "[I" : Cond) ∈ TB := tb_of (List.mem_of_getElem? (i := 223) (by decide +kernel)) rfl
theorem wd_225 : (.lays "LoadCycles$Sheet" "LoadCycles$Sheet" "lane" "I" : Cond) ∈ TB := tb_of (List.mem_of_getElem? (i := 225) (by decide +kernel)) rfl
theorem wd_227 : (.lays "LoadCycles$Sheet" "LoadCycles$Sheet" "length" "I" : Cond) ∈ TB := tb_of (List.mem_of_getElem? (i := 227) (by decide +kernel)) rfl
theorem wd_230 : (.fieldLink "LoadCycles" 12 "LoadCycles" "current" "LLoadCycles$House;" : Cond) ∈ TB := tb_of (List.mem_of_getElem? (i := 230) (by decide +kernel)) rfl
theorem wd_231 : (.fieldLink "LoadCycles" 18 "LoadCycles" "trial" "LLoadCycles$House;" : Cond) ∈ TB := tb_of (List.mem_of_getElem? (i := 231) (by decide +kernel)) rfl
theorem wd_232 : (.fieldLink "LoadCycles" 24 "LoadCycles" "currentBest" "LLoadCycles$Doing;" : Cond) ∈ TB := tb_of (List.mem_of_getElem? (i := 232) (by decide +kernel)) rfl
theorem wd_233 : (.fieldLink "LoadCycles" 28 "LoadCycles" "trialBest" "LLoadCycles$Doing;" : Cond) ∈ TB := tb_of (List.mem_of_getElem? (i := 233) (by decide +kernel)) rfl
theorem wd_234 : (.fieldLink "LoadCycles" 34 "LoadCycles" "unmixer" "LLoadCycles$Unmixer;" : Cond) ∈ TB := tb_of (List.mem_of_getElem? (i := 234) (by decide +kernel)) rfl
theorem wd_235 : (.fieldLink "LoadCycles" 41 "LoadCycles" "reader" "LLoadCycles$TextReader;" : Cond) ∈ TB := tb_of (List.mem_of_getElem? (i := 235) (by decide +kernel)) rfl
theorem wd_236 : (.fieldLink "LoadCycles" 48 "LoadCycles" "guesses" "LLoadCycles$Guesses;" : Cond) ∈ TB := tb_of (List.mem_of_getElem? (i := 236) (by decide +kernel)) rfl
theorem wd_237 : (.fieldLink "LoadCycles" 54 "LoadCycles" "sheets" "[LLoadCycles$Sheet;" : Cond) ∈ TB := tb_of (List.mem_of_getElem? (i := 237) (by decide +kernel)) rfl
theorem wd_238 : (.fieldLink "LoadCycles" 58 "LoadCycles" "readingAppliances" "[I" : Cond) ∈ TB := tb_of (List.mem_of_getElem? (i := 238) (by decide +kernel)) rfl
theorem wd_239 : (.fieldLink "LoadCycles" 62 "LoadCycles" "readingEnergies" "[I" : Cond) ∈ TB := tb_of (List.mem_of_getElem? (i := 239) (by decide +kernel)) rfl
theorem wd_240 : (.fieldLink "LoadCycles" 99 "LoadCycles" "readings" "I" : Cond) ∈ TB := tb_of (List.mem_of_getElem? (i := 240) (by decide +kernel)) rfl
theorem wd_241 : (.fieldLink "LoadCycles" 263 "LoadCycles" "bestIsKnown" "Z" : Cond) ∈ TB := tb_of (List.mem_of_getElem? (i := 241) (by decide +kernel)) rfl
theorem wd_242 : (.fieldLink "LoadCycles" 257 "LoadCycles" "traceNumber" "I" : Cond) ∈ TB := tb_of (List.mem_of_getElem? (i := 242) (by decide +kernel)) rfl
theorem wd_243 : (.fieldLink "LoadCycles" 66 "LoadCycles" "faultNumber" "I" : Cond) ∈ TB := tb_of (List.mem_of_getElem? (i := 243) (by decide +kernel)) rfl
theorem wd_244 : (.laysFinal "LoadCycles" "LoadCycles" "current" "LLoadCycles$House;" : Cond) ∈ TB := tb_of (List.mem_of_getElem? (i := 244) (by decide +kernel)) rfl
theorem wd_246 : (.laysFinal "LoadCycles" "LoadCycles" "trial" "LLoadCycles$House;" : Cond) ∈ TB := tb_of (List.mem_of_getElem? (i := 246) (by decide +kernel)) rfl
theorem wd_248 : (.laysFinal "LoadCycles" "LoadCycles" "currentBest" "LLoadCycles$Doing;" : Cond) ∈ TB := tb_of (List.mem_of_getElem? (i := 248) (by decide +kernel)) rfl
theorem wd_250 : (.laysFinal "LoadCycles" "LoadCycles" "trialBest" "LLoadCycles$Doing;" : Cond) ∈ TB := tb_of (List.mem_of_getElem? (i := 250) (by decide +kernel)) rfl
theorem wd_252 : (.laysFinal "LoadCycles" "LoadCycles" "unmixer" "LLoadCycles$Unmixer;" : Cond) ∈ TB := tb_of (List.mem_of_getElem? (i := 252) (by decide +kernel)) rfl
theorem wd_254 : (.laysFinal "LoadCycles" "LoadCycles" "reader" "LLoadCycles$TextReader;" : Cond) ∈ TB := tb_of (List.mem_of_getElem? (i := 254) (by decide +kernel)) rfl
theorem wd_256 : (.laysFinal "LoadCycles" "LoadCycles" "guesses" "LLoadCycles$Guesses;" : Cond) ∈ TB := tb_of (List.mem_of_getElem? (i := 256) (by decide +kernel)) rfl
theorem wd_258 : (.laysFinal "LoadCycles" "LoadCycles" "sheets" "[LLoadCycles$Sheet;" : Cond) ∈ TB := tb_of (List.mem_of_getElem? (i := 258) (by decide +kernel)) rfl
theorem wd_260 : (.laysFinal "LoadCycles" "LoadCycles" "readingAppliances" "[I" : Cond) ∈ TB := tb_of (List.mem_of_getElem? (i := 260) (by decide +kernel)) rfl
theorem wd_262 : (.laysFinal "LoadCycles" "LoadCycles" "readingEnergies" "[I" : Cond) ∈ TB := tb_of (List.mem_of_getElem? (i := 262) (by decide +kernel)) rfl
theorem wd_264 : (.lays "LoadCycles" "LoadCycles" "readings" "I" : Cond) ∈ TB := tb_of (List.mem_of_getElem? (i := 264) (by decide +kernel)) rfl
theorem wd_266 : (.lays "LoadCycles" "LoadCycles" "bestIsKnown" "Z" : Cond) ∈ TB := tb_of (List.mem_of_getElem? (i := 266) (by decide +kernel)) rfl
theorem wd_268 : (.lays "LoadCycles" "LoadCycles" "traceNumber" "I" : Cond) ∈ TB := tb_of (List.mem_of_getElem? (i := 268) (by decide +kernel)) rfl
theorem wd_270 : (.lays "LoadCycles" "LoadCycles" "faultNumber" "I" : Cond) ∈ TB := tb_of (List.mem_of_getElem? (i := 270) (by decide +kernel)) rfl
theorem wd_273 : (.methodLink "LoadCyclesLaw" 13 ⟨"LoadCycles", "house", "(IIII)I"⟩ : Cond) ∈ TB := tb_of (List.mem_of_getElem? (i := 273) (by decide +kernel)) rfl
theorem wd_274 : (.instanceMethod ⟨"LoadCycles", "house", "(IIII)I"⟩ : Cond) ∈ TB := tb_of (List.mem_of_getElem? (i := 274) (by decide +kernel)) rfl
theorem wd_275 : (.selects "LoadCycles" ⟨"LoadCycles", "house", "(IIII)I"⟩ ⟨"LoadCycles", "house", "(IIII)I"⟩ : Cond) ∈ TB := tb_of (List.mem_of_getElem? (i := 275) (by decide +kernel)) rfl
set_option maxRecDepth 20000 in
theorem wd_276 : (.code ⟨"LoadCycles", "house", "(IIII)I"⟩ prog_1_method_2_code 8 (some .int) : Cond) ∈ TB := tb_of (List.mem_of_getElem? (i := 276) rfl) rfl
theorem wd_277 : (.methodLink "LoadCycles" 70 ⟨"LoadCycles", "isSheet", "(I)Z"⟩ : Cond) ∈ TB := tb_of (List.mem_of_getElem? (i := 277) (by decide +kernel)) rfl
theorem wd_278 : (.static ⟨"LoadCycles", "isSheet", "(I)Z"⟩ : Cond) ∈ TB := tb_of (List.mem_of_getElem? (i := 278) (by decide +kernel)) rfl
set_option maxRecDepth 20000 in
theorem wd_279 : (.code ⟨"LoadCycles", "isSheet", "(I)Z"⟩ prog_1_method_34_code 1 (some .boolean) : Cond) ∈ TB := tb_of (List.mem_of_getElem? (i := 279) rfl) rfl
theorem wd_280 : (.methodLink "LoadCycles" 74 ⟨"LoadCycles", "isLane", "(I)Z"⟩ : Cond) ∈ TB := tb_of (List.mem_of_getElem? (i := 280) (by decide +kernel)) rfl
theorem wd_281 : (.static ⟨"LoadCycles", "isLane", "(I)Z"⟩ : Cond) ∈ TB := tb_of (List.mem_of_getElem? (i := 281) (by decide +kernel)) rfl
set_option maxRecDepth 20000 in
theorem wd_282 : (.code ⟨"LoadCycles", "isLane", "(I)Z"⟩ prog_1_method_35_code 1 (some .boolean) : Cond) ∈ TB := tb_of (List.mem_of_getElem? (i := 282) rfl) rfl
theorem wd_283 : (.methodLink "LoadCycles" 77 ⟨"LoadCycles$Sheet", "faultOfRow", "(I)I"⟩ : Cond) ∈ TB := tb_of (List.mem_of_getElem? (i := 283) (by decide +kernel)) rfl
theorem wd_284 : (.instanceMethod ⟨"LoadCycles$Sheet", "faultOfRow", "(I)I"⟩ : Cond) ∈ TB := tb_of (List.mem_of_getElem? (i := 284) (by decide +kernel)) rfl
theorem wd_285 : (.selects "LoadCycles$Sheet" ⟨"LoadCycles$Sheet", "faultOfRow", "(I)I"⟩ ⟨"LoadCycles$Sheet", "faultOfRow", "(I)I"⟩ : Cond) ∈ TB := tb_of (List.mem_of_getElem? (i := 285) (by decide +kernel)) rfl
set_option maxRecDepth 20000 in
theorem wd_286 : (.code ⟨"LoadCycles$Sheet", "faultOfRow", "(I)I"⟩ prog_5_method_7_code 2 (some .int) : Cond) ∈ TB := tb_of (List.mem_of_getElem? (i := 286) rfl) rfl
theorem wd_287 : (.methodLink "LoadCycles$Sheet" 28 ⟨"LoadCycles$Sheet", "hasRow", "()Z"⟩ : Cond) ∈ TB := tb_of (List.mem_of_getElem? (i := 287) (by decide +kernel)) rfl
theorem wd_288 : (.instanceMethod ⟨"LoadCycles$Sheet", "hasRow", "()Z"⟩ : Cond) ∈ TB := tb_of (List.mem_of_getElem? (i := 288) (by decide +kernel)) rfl
theorem wd_289 : (.selects "LoadCycles$Sheet" ⟨"LoadCycles$Sheet", "hasRow", "()Z"⟩ ⟨"LoadCycles$Sheet", "hasRow", "()Z"⟩ : Cond) ∈ TB := tb_of (List.mem_of_getElem? (i := 289) (by decide +kernel)) rfl
set_option maxRecDepth 20000 in
theorem wd_290 : (.code ⟨"LoadCycles$Sheet", "hasRow", "()Z"⟩ prog_5_method_2_code 1 (some .boolean) : Cond) ∈ TB := tb_of (List.mem_of_getElem? (i := 290) rfl) rfl
theorem wd_291 : (.methodLink "LoadCycles" 81 ⟨"LoadCycles$Sheet", "holds", "(II)Z"⟩ : Cond) ∈ TB := tb_of (List.mem_of_getElem? (i := 291) (by decide +kernel)) rfl
theorem wd_292 : (.instanceMethod ⟨"LoadCycles$Sheet", "holds", "(II)Z"⟩ : Cond) ∈ TB := tb_of (List.mem_of_getElem? (i := 292) (by decide +kernel)) rfl
theorem wd_293 : (.selects "LoadCycles$Sheet" ⟨"LoadCycles$Sheet", "holds", "(II)Z"⟩ ⟨"LoadCycles$Sheet", "holds", "(II)Z"⟩ : Cond) ∈ TB := tb_of (List.mem_of_getElem? (i := 293) (by decide +kernel)) rfl
set_option maxRecDepth 20000 in
theorem wd_294 : (.code ⟨"LoadCycles$Sheet", "holds", "(II)Z"⟩ prog_5_method_5_code 3 (some .boolean) : Cond) ∈ TB := tb_of (List.mem_of_getElem? (i := 294) rfl) rfl
theorem wd_295 : (.methodLink "LoadCycles" 85 ⟨"LoadCycles", "faulted", "(I)I"⟩ : Cond) ∈ TB := tb_of (List.mem_of_getElem? (i := 295) (by decide +kernel)) rfl
theorem wd_297 : (.instanceMethod ⟨"LoadCycles", "faulted", "(I)I"⟩ : Cond) ∈ TB := tb_of (List.mem_of_getElem? (i := 297) (by decide +kernel)) rfl
set_option maxRecDepth 20000 in
theorem wd_298 : (.code ⟨"LoadCycles", "faulted", "(I)I"⟩ prog_1_method_39_code 2 (some .int) : Cond) ∈ TB := tb_of (List.mem_of_getElem? (i := 298) rfl) rfl
theorem wd_299 : (.methodLink "LoadCycles" 88 ⟨"LoadCycles$TextReader", "firstFault", "(LLoadCycles$Sheet;II)I"⟩ : Cond) ∈ TB := tb_of (List.mem_of_getElem? (i := 299) (by decide +kernel)) rfl
theorem wd_300 : (.instanceMethod ⟨"LoadCycles$TextReader", "firstFault", "(LLoadCycles$Sheet;II)I"⟩ : Cond) ∈ TB := tb_of (List.mem_of_getElem? (i := 300) (by decide +kernel)) rfl
theorem wd_301 : (.selects "LoadCycles$TextReader" ⟨"LoadCycles$TextReader", "firstFault", "(LLoadCycles$Sheet;II)I"⟩ ⟨"LoadCycles$TextReader", "firstFault", "(LLoadCycles$Sheet;II)I"⟩ : Cond) ∈ TB := tb_of (List.mem_of_getElem? (i := 301) (by decide +kernel)) rfl
set_option maxRecDepth 20000 in
theorem wd_302 : (.code ⟨"LoadCycles$TextReader", "firstFault", "(LLoadCycles$Sheet;II)I"⟩ prog_6_method_2_code 5 (some .int) : Cond) ∈ TB := tb_of (List.mem_of_getElem? (i := 302) rfl) rfl
theorem wd_303 : (.methodLink "LoadCycles$TextReader" 31 ⟨"LoadCycles$TextReader", "goesOn", "(I)Z"⟩ : Cond) ∈ TB := tb_of (List.mem_of_getElem? (i := 303) (by decide +kernel)) rfl
theorem wd_305 : (.instanceMethod ⟨"LoadCycles$TextReader", "goesOn", "(I)Z"⟩ : Cond) ∈ TB := tb_of (List.mem_of_getElem? (i := 305) (by decide +kernel)) rfl
set_option maxRecDepth 20000 in
theorem wd_306 : (.code ⟨"LoadCycles$TextReader", "goesOn", "(I)Z"⟩ prog_6_method_3_code 2 (some .boolean) : Cond) ∈ TB := tb_of (List.mem_of_getElem? (i := 306) rfl) rfl
theorem wd_307 : (.methodLink "LoadCycles$TextReader" 35 ⟨"LoadCycles$TextReader", "takesOpening", "(I)Z"⟩ : Cond) ∈ TB := tb_of (List.mem_of_getElem? (i := 307) (by decide +kernel)) rfl
theorem wd_309 : (.instanceMethod ⟨"LoadCycles$TextReader", "takesOpening", "(I)Z"⟩ : Cond) ∈ TB := tb_of (List.mem_of_getElem? (i := 309) (by decide +kernel)) rfl
set_option maxRecDepth 20000 in
theorem wd_310 : (.code ⟨"LoadCycles$TextReader", "takesOpening", "(I)Z"⟩ prog_6_method_4_code 2 (some .boolean) : Cond) ∈ TB := tb_of (List.mem_of_getElem? (i := 310) rfl) rfl
theorem wd_311 : (.methodLink "LoadCycles$TextReader" 38 ⟨"LoadCycles$TextReader", "takesMark", "(I)Z"⟩ : Cond) ∈ TB := tb_of (List.mem_of_getElem? (i := 311) (by decide +kernel)) rfl
theorem wd_313 : (.instanceMethod ⟨"LoadCycles$TextReader", "takesMark", "(I)Z"⟩ : Cond) ∈ TB := tb_of (List.mem_of_getElem? (i := 313) (by decide +kernel)) rfl
set_option maxRecDepth 20000 in
theorem wd_314 : (.code ⟨"LoadCycles$TextReader", "takesMark", "(I)Z"⟩ prog_6_method_5_code 2 (some .boolean) : Cond) ∈ TB := tb_of (List.mem_of_getElem? (i := 314) rfl) rfl
theorem wd_315 : (.methodLink "LoadCycles$TextReader" 41 ⟨"LoadCycles$TextReader", "takesKind", "(I)Z"⟩ : Cond) ∈ TB := tb_of (List.mem_of_getElem? (i := 315) (by decide +kernel)) rfl
theorem wd_317 : (.instanceMethod ⟨"LoadCycles$TextReader", "takesKind", "(I)Z"⟩ : Cond) ∈ TB := tb_of (List.mem_of_getElem? (i := 317) (by decide +kernel)) rfl
set_option maxRecDepth 20000 in
theorem wd_318 : (.code ⟨"LoadCycles$TextReader", "takesKind", "(I)Z"⟩ prog_6_method_6_code 2 (some .boolean) : Cond) ∈ TB := tb_of (List.mem_of_getElem? (i := 318) rfl) rfl
theorem wd_319 : (.methodLink "LoadCycles$TextReader" 47 ⟨"LoadCycles$House", "addAppliance", "(I)Z"⟩ : Cond) ∈ TB := tb_of (List.mem_of_getElem? (i := 319) (by decide +kernel)) rfl
theorem wd_320 : (.instanceMethod ⟨"LoadCycles$House", "addAppliance", "(I)Z"⟩ : Cond) ∈ TB := tb_of (List.mem_of_getElem? (i := 320) (by decide +kernel)) rfl
theorem wd_321 : (.selects "LoadCycles$House" ⟨"LoadCycles$House", "addAppliance", "(I)Z"⟩ ⟨"LoadCycles$House", "addAppliance", "(I)Z"⟩ : Cond) ∈ TB := tb_of (List.mem_of_getElem? (i := 321) (by decide +kernel)) rfl
set_option maxRecDepth 20000 in
theorem wd_322 : (.code ⟨"LoadCycles$House", "addAppliance", "(I)Z"⟩ prog_4_method_6_code 2 (some .boolean) : Cond) ∈ TB := tb_of (List.mem_of_getElem? (i := 322) rfl) rfl
theorem wd_323 : (.methodLink "LoadCycles$TextReader" 44 ⟨"LoadCycles$TextReader", "takesLevel", "(I)Z"⟩ : Cond) ∈ TB := tb_of (List.mem_of_getElem? (i := 323) (by decide +kernel)) rfl
theorem wd_325 : (.instanceMethod ⟨"LoadCycles$TextReader", "takesLevel", "(I)Z"⟩ : Cond) ∈ TB := tb_of (List.mem_of_getElem? (i := 325) (by decide +kernel)) rfl
set_option maxRecDepth 20000 in
theorem wd_326 : (.code ⟨"LoadCycles$TextReader", "takesLevel", "(I)Z"⟩ prog_6_method_7_code 2 (some .boolean) : Cond) ∈ TB := tb_of (List.mem_of_getElem? (i := 326) rfl) rfl
theorem wd_327 : (.methodLinkNest "LoadCycles$TextReader" 50 ⟨"LoadCycles", "isLevelValue", "(I)Z"⟩ "LoadCycles" : Cond) ∈ lw_tbl := List.mem_of_getElem? (i := 327) (by decide +kernel)
theorem wd_328 : (.static ⟨"LoadCycles", "isLevelValue", "(I)Z"⟩ : Cond) ∈ TB := tb_of (List.mem_of_getElem? (i := 328) (by decide +kernel)) rfl
set_option maxRecDepth 20000 in
theorem wd_329 : (.code ⟨"LoadCycles", "isLevelValue", "(I)Z"⟩ prog_1_method_36_code 1 (some .boolean) : Cond) ∈ TB := tb_of (List.mem_of_getElem? (i := 329) rfl) rfl
theorem wd_330 : (.methodLink "LoadCycles$TextReader" 53 ⟨"LoadCycles$House", "addLevel", "(I)Z"⟩ : Cond) ∈ TB := tb_of (List.mem_of_getElem? (i := 330) (by decide +kernel)) rfl
theorem wd_331 : (.instanceMethod ⟨"LoadCycles$House", "addLevel", "(I)Z"⟩ : Cond) ∈ TB := tb_of (List.mem_of_getElem? (i := 331) (by decide +kernel)) rfl
theorem wd_332 : (.selects "LoadCycles$House" ⟨"LoadCycles$House", "addLevel", "(I)Z"⟩ ⟨"LoadCycles$House", "addLevel", "(I)Z"⟩ : Cond) ∈ TB := tb_of (List.mem_of_getElem? (i := 332) (by decide +kernel)) rfl
set_option maxRecDepth 20000 in
theorem wd_333 : (.code ⟨"LoadCycles$House", "addLevel", "(I)Z"⟩ prog_4_method_7_code 3 (some .boolean) : Cond) ∈ TB := tb_of (List.mem_of_getElem? (i := 333) rfl) rfl
theorem wd_334 : (.methodLink "LoadCycles$House" 40 ⟨"LoadCycles$House", "setLevel", "(III)V"⟩ : Cond) ∈ TB := tb_of (List.mem_of_getElem? (i := 334) (by decide +kernel)) rfl
theorem wd_335 : (.instanceMethod ⟨"LoadCycles$House", "setLevel", "(III)V"⟩ : Cond) ∈ TB := tb_of (List.mem_of_getElem? (i := 335) (by decide +kernel)) rfl
theorem wd_336 : (.selects "LoadCycles$House" ⟨"LoadCycles$House", "setLevel", "(III)V"⟩ ⟨"LoadCycles$House", "setLevel", "(III)V"⟩ : Cond) ∈ TB := tb_of (List.mem_of_getElem? (i := 336) (by decide +kernel)) rfl
set_option maxRecDepth 20000 in
theorem wd_337 : (.code ⟨"LoadCycles$House", "setLevel", "(III)V"⟩ prog_4_method_9_code 4 (none : Option FieldType) : Cond) ∈ TB := tb_of (List.mem_of_getElem? (i := 337) rfl) rfl
theorem wd_338 : (.methodLink "LoadCycles" 95 ⟨"LoadCycles$House", "become", "(LLoadCycles$House;)V"⟩ : Cond) ∈ TB := tb_of (List.mem_of_getElem? (i := 338) (by decide +kernel)) rfl
theorem wd_339 : (.instanceMethod ⟨"LoadCycles$House", "become", "(LLoadCycles$House;)V"⟩ : Cond) ∈ TB := tb_of (List.mem_of_getElem? (i := 339) (by decide +kernel)) rfl
theorem wd_340 : (.selects "LoadCycles$House" ⟨"LoadCycles$House", "become", "(LLoadCycles$House;)V"⟩ ⟨"LoadCycles$House", "become", "(LLoadCycles$House;)V"⟩ : Cond) ∈ TB := tb_of (List.mem_of_getElem? (i := 340) (by decide +kernel)) rfl
set_option maxRecDepth 20000 in
theorem wd_341 : (.code ⟨"LoadCycles$House", "become", "(LLoadCycles$House;)V"⟩ prog_4_method_2_code 2 (none : Option FieldType) : Cond) ∈ TB := tb_of (List.mem_of_getElem? (i := 341) rfl) rfl
theorem wd_342 : (.methodLink "LoadCycles$House" 24 ⟨"java/lang/System", "arraycopy", "(Ljava/lang/Object;ILjava/lang/Object;II)V"⟩ : Cond) ∈ TB := tb_of (List.mem_of_getElem? (i := 342) (by decide +kernel)) rfl
theorem wd_343 : (.static ⟨"java/lang/System", "arraycopy", "(Ljava/lang/Object;ILjava/lang/Object;II)V"⟩ : Cond) ∈ TB := tb_of (List.mem_of_getElem? (i := 343) (by decide +kernel)) rfl
theorem wd_344 : (.native ⟨"java/lang/System", "arraycopy", "(Ljava/lang/Object;ILjava/lang/Object;II)V"⟩ : Cond) ∈ TB := tb_of (List.mem_of_getElem? (i := 344) (by decide +kernel)) rfl
theorem wd_345 : (.methodLink "LoadCycles" 102 ⟨"LoadCycles", "forgetBest", "()V"⟩ : Cond) ∈ TB := tb_of (List.mem_of_getElem? (i := 345) (by decide +kernel)) rfl
theorem wd_347 : (.instanceMethod ⟨"LoadCycles", "forgetBest", "()V"⟩ : Cond) ∈ TB := tb_of (List.mem_of_getElem? (i := 347) (by decide +kernel)) rfl
set_option maxRecDepth 20000 in
theorem wd_348 : (.code ⟨"LoadCycles", "forgetBest", "()V"⟩ prog_1_method_40_code 1 (none : Option FieldType) : Cond) ∈ TB := tb_of (List.mem_of_getElem? (i := 348) rfl) rfl
theorem wd_349 : (.methodLink "LoadCycles" 267 ⟨"LoadCycles$Guesses", "forget", "()V"⟩ : Cond) ∈ TB := tb_of (List.mem_of_getElem? (i := 349) (by decide +kernel)) rfl
theorem wd_350 : (.instanceMethod ⟨"LoadCycles$Guesses", "forget", "()V"⟩ : Cond) ∈ TB := tb_of (List.mem_of_getElem? (i := 350) (by decide +kernel)) rfl
theorem wd_351 : (.selects "LoadCycles$Guesses" ⟨"LoadCycles$Guesses", "forget", "()V"⟩ ⟨"LoadCycles$Guesses", "forget", "()V"⟩ : Cond) ∈ TB := tb_of (List.mem_of_getElem? (i := 351) (by decide +kernel)) rfl
set_option maxRecDepth 20000 in
theorem wd_352 : (.code ⟨"LoadCycles$Guesses", "forget", "()V"⟩ prog_3_method_2_code 2 (none : Option FieldType) : Cond) ∈ TB := tb_of (List.mem_of_getElem? (i := 352) rfl) rfl
theorem wd_353 : (.methodLink "LoadCyclesLaw" 18 ⟨"LoadCycles", "ofAppliance", "(II)I"⟩ : Cond) ∈ TB := tb_of (List.mem_of_getElem? (i := 353) (by decide +kernel)) rfl
theorem wd_354 : (.instanceMethod ⟨"LoadCycles", "ofAppliance", "(II)I"⟩ : Cond) ∈ TB := tb_of (List.mem_of_getElem? (i := 354) (by decide +kernel)) rfl
theorem wd_355 : (.selects "LoadCycles" ⟨"LoadCycles", "ofAppliance", "(II)I"⟩ ⟨"LoadCycles", "ofAppliance", "(II)I"⟩ : Cond) ∈ TB := tb_of (List.mem_of_getElem? (i := 355) (by decide +kernel)) rfl
set_option maxRecDepth 20000 in
theorem wd_356 : (.code ⟨"LoadCycles", "ofAppliance", "(II)I"⟩ prog_1_method_3_code 3 (some .int) : Cond) ∈ TB := tb_of (List.mem_of_getElem? (i := 356) rfl) rfl
theorem wd_357 : (.methodLink "LoadCycles" 108 ⟨"LoadCycles$House", "hasAppliance", "(I)Z"⟩ : Cond) ∈ TB := tb_of (List.mem_of_getElem? (i := 357) (by decide +kernel)) rfl
theorem wd_358 : (.instanceMethod ⟨"LoadCycles$House", "hasAppliance", "(I)Z"⟩ : Cond) ∈ TB := tb_of (List.mem_of_getElem? (i := 358) (by decide +kernel)) rfl
theorem wd_359 : (.selects "LoadCycles$House" ⟨"LoadCycles$House", "hasAppliance", "(I)Z"⟩ ⟨"LoadCycles$House", "hasAppliance", "(I)Z"⟩ : Cond) ∈ TB := tb_of (List.mem_of_getElem? (i := 359) (by decide +kernel)) rfl
set_option maxRecDepth 20000 in
theorem wd_360 : (.code ⟨"LoadCycles$House", "hasAppliance", "(I)Z"⟩ prog_4_method_3_code 2 (some .boolean) : Cond) ∈ TB := tb_of (List.mem_of_getElem? (i := 360) rfl) rfl
theorem wd_361 : (.methodLink "LoadCycles" 117 ⟨"LoadCycles$House", "hasLevel", "(II)Z"⟩ : Cond) ∈ TB := tb_of (List.mem_of_getElem? (i := 361) (by decide +kernel)) rfl
theorem wd_362 : (.instanceMethod ⟨"LoadCycles$House", "hasLevel", "(II)Z"⟩ : Cond) ∈ TB := tb_of (List.mem_of_getElem? (i := 362) (by decide +kernel)) rfl
theorem wd_363 : (.selects "LoadCycles$House" ⟨"LoadCycles$House", "hasLevel", "(II)Z"⟩ ⟨"LoadCycles$House", "hasLevel", "(II)Z"⟩ : Cond) ∈ TB := tb_of (List.mem_of_getElem? (i := 363) (by decide +kernel)) rfl
set_option maxRecDepth 20000 in
theorem wd_364 : (.code ⟨"LoadCycles$House", "hasLevel", "(II)Z"⟩ prog_4_method_4_code 3 (some .boolean) : Cond) ∈ TB := tb_of (List.mem_of_getElem? (i := 364) rfl) rfl
theorem wd_365 : (.methodLink "LoadCycles" 120 ⟨"LoadCycles$House", "toldLevel", "(II)I"⟩ : Cond) ∈ TB := tb_of (List.mem_of_getElem? (i := 365) (by decide +kernel)) rfl
theorem wd_366 : (.instanceMethod ⟨"LoadCycles$House", "toldLevel", "(II)I"⟩ : Cond) ∈ TB := tb_of (List.mem_of_getElem? (i := 366) (by decide +kernel)) rfl
theorem wd_367 : (.selects "LoadCycles$House" ⟨"LoadCycles$House", "toldLevel", "(II)I"⟩ ⟨"LoadCycles$House", "toldLevel", "(II)I"⟩ : Cond) ∈ TB := tb_of (List.mem_of_getElem? (i := 367) (by decide +kernel)) rfl
set_option maxRecDepth 20000 in
theorem wd_368 : (.code ⟨"LoadCycles$House", "toldLevel", "(II)I"⟩ prog_4_method_8_code 3 (some .int) : Cond) ∈ TB := tb_of (List.mem_of_getElem? (i := 368) rfl) rfl
theorem wd_369 : (.methodLink "LoadCycles" 124 ⟨"LoadCycles$House", "powerOf", "(II)I"⟩ : Cond) ∈ TB := tb_of (List.mem_of_getElem? (i := 369) (by decide +kernel)) rfl
theorem wd_370 : (.instanceMethod ⟨"LoadCycles$House", "powerOf", "(II)I"⟩ : Cond) ∈ TB := tb_of (List.mem_of_getElem? (i := 370) (by decide +kernel)) rfl
theorem wd_371 : (.selects "LoadCycles$House" ⟨"LoadCycles$House", "powerOf", "(II)I"⟩ ⟨"LoadCycles$House", "powerOf", "(II)I"⟩ : Cond) ∈ TB := tb_of (List.mem_of_getElem? (i := 371) (by decide +kernel)) rfl
set_option maxRecDepth 20000 in
theorem wd_372 : (.code ⟨"LoadCycles$House", "powerOf", "(II)I"⟩ prog_4_method_10_code 4 (some .int) : Cond) ∈ TB := tb_of (List.mem_of_getElem? (i := 372) rfl) rfl
theorem wd_373 : (.methodLink "LoadCyclesLaw" 23 ⟨"LoadCycles", "level", "(III)I"⟩ : Cond) ∈ TB := tb_of (List.mem_of_getElem? (i := 373) (by decide +kernel)) rfl
theorem wd_374 : (.instanceMethod ⟨"LoadCycles", "level", "(III)I"⟩ : Cond) ∈ TB := tb_of (List.mem_of_getElem? (i := 374) (by decide +kernel)) rfl
theorem wd_375 : (.selects "LoadCycles" ⟨"LoadCycles", "level", "(III)I"⟩ ⟨"LoadCycles", "level", "(III)I"⟩ : Cond) ∈ TB := tb_of (List.mem_of_getElem? (i := 375) (by decide +kernel)) rfl
set_option maxRecDepth 20000 in
theorem wd_376 : (.code ⟨"LoadCycles", "level", "(III)I"⟩ prog_1_method_4_code 5 (some .int) : Cond) ∈ TB := tb_of (List.mem_of_getElem? (i := 376) rfl) rfl
theorem wd_377 : (.methodLink "LoadCycles" 127 ⟨"LoadCycles", "isLevelValue", "(I)Z"⟩ : Cond) ∈ TB := tb_of (List.mem_of_getElem? (i := 377) (by decide +kernel)) rfl
theorem wd_378 : (.methodLink "LoadCycles" 130 ⟨"LoadCycles$House", "setLevel", "(III)V"⟩ : Cond) ∈ TB := tb_of (List.mem_of_getElem? (i := 378) (by decide +kernel)) rfl
theorem wd_379 : (.methodLink "LoadCyclesLaw" 28 ⟨"LoadCycles", "meter", "(IIII)I"⟩ : Cond) ∈ TB := tb_of (List.mem_of_getElem? (i := 379) (by decide +kernel)) rfl
theorem wd_380 : (.instanceMethod ⟨"LoadCycles", "meter", "(IIII)I"⟩ : Cond) ∈ TB := tb_of (List.mem_of_getElem? (i := 380) (by decide +kernel)) rfl
theorem wd_381 : (.selects "LoadCycles" ⟨"LoadCycles", "meter", "(IIII)I"⟩ ⟨"LoadCycles", "meter", "(IIII)I"⟩ : Cond) ∈ TB := tb_of (List.mem_of_getElem? (i := 381) (by decide +kernel)) rfl
set_option maxRecDepth 20000 in
theorem wd_382 : (.code ⟨"LoadCycles", "meter", "(IIII)I"⟩ prog_1_method_5_code 8 (some .int) : Cond) ∈ TB := tb_of (List.mem_of_getElem? (i := 382) rfl) rfl
theorem wd_383 : (.methodLink "LoadCycles" 134 ⟨"LoadCycles$Sheet", "faultOfCells", "(III)I"⟩ : Cond) ∈ TB := tb_of (List.mem_of_getElem? (i := 383) (by decide +kernel)) rfl
theorem wd_384 : (.instanceMethod ⟨"LoadCycles$Sheet", "faultOfCells", "(III)I"⟩ : Cond) ∈ TB := tb_of (List.mem_of_getElem? (i := 384) (by decide +kernel)) rfl
theorem wd_385 : (.selects "LoadCycles$Sheet" ⟨"LoadCycles$Sheet", "faultOfCells", "(III)I"⟩ ⟨"LoadCycles$Sheet", "faultOfCells", "(III)I"⟩ : Cond) ∈ TB := tb_of (List.mem_of_getElem? (i := 385) (by decide +kernel)) rfl
set_option maxRecDepth 20000 in
theorem wd_386 : (.code ⟨"LoadCycles$Sheet", "faultOfCells", "(III)I"⟩ prog_5_method_8_code 5 (some .int) : Cond) ∈ TB := tb_of (List.mem_of_getElem? (i := 386) rfl) rfl
theorem wd_387 : (.methodLink "LoadCycles$Sheet" 32 ⟨"LoadCycles$Sheet", "faultOfRow", "(I)I"⟩ : Cond) ∈ TB := tb_of (List.mem_of_getElem? (i := 387) (by decide +kernel)) rfl
theorem wd_388 : (.methodLink "LoadCycles$Sheet" 36 ⟨"LoadCycles$Sheet", "holds", "(II)Z"⟩ : Cond) ∈ TB := tb_of (List.mem_of_getElem? (i := 388) (by decide +kernel)) rfl
theorem wd_389 : (.methodLink "LoadCycles" 138 ⟨"LoadCycles", "hasHouse", "()Z"⟩ : Cond) ∈ TB := tb_of (List.mem_of_getElem? (i := 389) (by decide +kernel)) rfl
theorem wd_391 : (.instanceMethod ⟨"LoadCycles", "hasHouse", "()Z"⟩ : Cond) ∈ TB := tb_of (List.mem_of_getElem? (i := 391) (by decide +kernel)) rfl
set_option maxRecDepth 20000 in
theorem wd_392 : (.code ⟨"LoadCycles", "hasHouse", "()Z"⟩ prog_1_method_38_code 1 (some .boolean) : Cond) ∈ TB := tb_of (List.mem_of_getElem? (i := 392) rfl) rfl
theorem wd_393 : (.methodLink "LoadCycles" 151 ⟨"java/lang/System", "arraycopy", "(Ljava/lang/Object;ILjava/lang/Object;II)V"⟩ : Cond) ∈ TB := tb_of (List.mem_of_getElem? (i := 393) (by decide +kernel)) rfl
theorem wd_394 : (.methodLink "LoadCyclesLaw" 32 ⟨"LoadCycles", "value", "(I)I"⟩ : Cond) ∈ TB := tb_of (List.mem_of_getElem? (i := 394) (by decide +kernel)) rfl
theorem wd_395 : (.instanceMethod ⟨"LoadCycles", "value", "(I)I"⟩ : Cond) ∈ TB := tb_of (List.mem_of_getElem? (i := 395) (by decide +kernel)) rfl
theorem wd_396 : (.selects "LoadCycles" ⟨"LoadCycles", "value", "(I)I"⟩ ⟨"LoadCycles", "value", "(I)I"⟩ : Cond) ∈ TB := tb_of (List.mem_of_getElem? (i := 396) (by decide +kernel)) rfl
set_option maxRecDepth 20000 in
theorem wd_397 : (.code ⟨"LoadCycles", "value", "(I)I"⟩ prog_1_method_6_code 2 (some .int) : Cond) ∈ TB := tb_of (List.mem_of_getElem? (i := 397) rfl) rfl
theorem wd_398 : (.methodLink "LoadCycles" 160 ⟨"LoadCycles$House", "hasTime", "(I)Z"⟩ : Cond) ∈ TB := tb_of (List.mem_of_getElem? (i := 398) (by decide +kernel)) rfl
theorem wd_399 : (.instanceMethod ⟨"LoadCycles$House", "hasTime", "(I)Z"⟩ : Cond) ∈ TB := tb_of (List.mem_of_getElem? (i := 399) (by decide +kernel)) rfl
theorem wd_400 : (.selects "LoadCycles$House" ⟨"LoadCycles$House", "hasTime", "(I)Z"⟩ ⟨"LoadCycles$House", "hasTime", "(I)Z"⟩ : Cond) ∈ TB := tb_of (List.mem_of_getElem? (i := 400) (by decide +kernel)) rfl
set_option maxRecDepth 20000 in
theorem wd_401 : (.code ⟨"LoadCycles$House", "hasTime", "(I)Z"⟩ prog_4_method_5_code 2 (some .boolean) : Cond) ∈ TB := tb_of (List.mem_of_getElem? (i := 401) rfl) rfl
theorem wd_402 : (.methodLink "LoadCyclesLaw" 37 ⟨"LoadCycles", "base", "(I)I"⟩ : Cond) ∈ TB := tb_of (List.mem_of_getElem? (i := 402) (by decide +kernel)) rfl
theorem wd_403 : (.instanceMethod ⟨"LoadCycles", "base", "(I)I"⟩ : Cond) ∈ TB := tb_of (List.mem_of_getElem? (i := 403) (by decide +kernel)) rfl
theorem wd_404 : (.selects "LoadCycles" ⟨"LoadCycles", "base", "(I)I"⟩ ⟨"LoadCycles", "base", "(I)I"⟩ : Cond) ∈ TB := tb_of (List.mem_of_getElem? (i := 404) (by decide +kernel)) rfl
set_option maxRecDepth 20000 in
theorem wd_405 : (.code ⟨"LoadCycles", "base", "(I)I"⟩ prog_1_method_7_code 3 (some .int) : Cond) ∈ TB := tb_of (List.mem_of_getElem? (i := 405) rfl) rfl
theorem wd_406 : (.methodLink "LoadCycles" 163 ⟨"LoadCycles", "isMeterValue", "(I)Z"⟩ : Cond) ∈ TB := tb_of (List.mem_of_getElem? (i := 406) (by decide +kernel)) rfl
theorem wd_407 : (.static ⟨"LoadCycles", "isMeterValue", "(I)Z"⟩ : Cond) ∈ TB := tb_of (List.mem_of_getElem? (i := 407) (by decide +kernel)) rfl
set_option maxRecDepth 20000 in
theorem wd_408 : (.code ⟨"LoadCycles", "isMeterValue", "(I)Z"⟩ prog_1_method_37_code 1 (some .boolean) : Cond) ∈ TB := tb_of (List.mem_of_getElem? (i := 408) rfl) rfl
theorem wd_409 : (.methodLink "LoadCycles" 166 ⟨"LoadCycles$House", "allowsBase", "(I)Z"⟩ : Cond) ∈ TB := tb_of (List.mem_of_getElem? (i := 409) (by decide +kernel)) rfl
theorem wd_410 : (.instanceMethod ⟨"LoadCycles$House", "allowsBase", "(I)Z"⟩ : Cond) ∈ TB := tb_of (List.mem_of_getElem? (i := 410) (by decide +kernel)) rfl
theorem wd_411 : (.selects "LoadCycles$House" ⟨"LoadCycles$House", "allowsBase", "(I)Z"⟩ ⟨"LoadCycles$House", "allowsBase", "(I)Z"⟩ : Cond) ∈ TB := tb_of (List.mem_of_getElem? (i := 411) (by decide +kernel)) rfl
set_option maxRecDepth 20000 in
theorem wd_412 : (.code ⟨"LoadCycles$House", "allowsBase", "(I)Z"⟩ prog_4_method_16_code 3 (some .boolean) : Cond) ∈ TB := tb_of (List.mem_of_getElem? (i := 412) rfl) rfl
theorem wd_413 : (.methodLink "LoadCyclesLaw" 41 ⟨"LoadCycles", "at", "(II)I"⟩ : Cond) ∈ TB := tb_of (List.mem_of_getElem? (i := 413) (by decide +kernel)) rfl
theorem wd_414 : (.instanceMethod ⟨"LoadCycles", "at", "(II)I"⟩ : Cond) ∈ TB := tb_of (List.mem_of_getElem? (i := 414) (by decide +kernel)) rfl
theorem wd_415 : (.selects "LoadCycles" ⟨"LoadCycles", "at", "(II)I"⟩ ⟨"LoadCycles", "at", "(II)I"⟩ : Cond) ∈ TB := tb_of (List.mem_of_getElem? (i := 415) (by decide +kernel)) rfl
set_option maxRecDepth 20000 in
theorem wd_416 : (.code ⟨"LoadCycles", "at", "(II)I"⟩ prog_1_method_8_code 3 (some .int) : Cond) ∈ TB := tb_of (List.mem_of_getElem? (i := 416) rfl) rfl
theorem wd_417 : (.methodLink "LoadCycles" 169 ⟨"LoadCycles", "knownBest", "()LLoadCycles$Doing;"⟩ : Cond) ∈ TB := tb_of (List.mem_of_getElem? (i := 417) (by decide +kernel)) rfl
theorem wd_419 : (.instanceMethod ⟨"LoadCycles", "knownBest", "()LLoadCycles$Doing;"⟩ : Cond) ∈ TB := tb_of (List.mem_of_getElem? (i := 419) (by decide +kernel)) rfl
set_option maxRecDepth 20000 in
theorem wd_420 : (.code ⟨"LoadCycles", "knownBest", "()LLoadCycles$Doing;"⟩ prog_1_method_41_code 1 (some (.object "LoadCycles$Doing")) : Cond) ∈ TB := tb_of (List.mem_of_getElem? (i := 420) rfl) rfl
theorem wd_421 : (.methodLink "LoadCycles" 270 ⟨"LoadCycles$Unmixer", "unmix", "(LLoadCycles$House;LLoadCycles$Doing;)V"⟩ : Cond) ∈ TB := tb_of (List.mem_of_getElem? (i := 421) (by decide +kernel)) rfl
theorem wd_422 : (.instanceMethod ⟨"LoadCycles$Unmixer", "unmix", "(LLoadCycles$House;LLoadCycles$Doing;)V"⟩ : Cond) ∈ TB := tb_of (List.mem_of_getElem? (i := 422) (by decide +kernel)) rfl
theorem wd_423 : (.selects "LoadCycles$Unmixer" ⟨"LoadCycles$Unmixer", "unmix", "(LLoadCycles$House;LLoadCycles$Doing;)V"⟩ ⟨"LoadCycles$Unmixer", "unmix", "(LLoadCycles$House;LLoadCycles$Doing;)V"⟩ : Cond) ∈ TB := tb_of (List.mem_of_getElem? (i := 423) (by decide +kernel)) rfl
set_option maxRecDepth 20000 in
theorem wd_424 : (.code ⟨"LoadCycles$Unmixer", "unmix", "(LLoadCycles$House;LLoadCycles$Doing;)V"⟩ prog_7_method_2_code 7 (none : Option FieldType) : Cond) ∈ TB := tb_of (List.mem_of_getElem? (i := 424) rfl) rfl
theorem wd_425 : (.methodLink "LoadCycles$Unmixer" 27 ⟨"LoadCycles$Unmixer", "listMixes", "(LLoadCycles$House;)V"⟩ : Cond) ∈ TB := tb_of (List.mem_of_getElem? (i := 425) (by decide +kernel)) rfl
theorem wd_427 : (.instanceMethod ⟨"LoadCycles$Unmixer", "listMixes", "(LLoadCycles$House;)V"⟩ : Cond) ∈ TB := tb_of (List.mem_of_getElem? (i := 427) (by decide +kernel)) rfl
set_option maxRecDepth 20000 in
theorem wd_428 : (.code ⟨"LoadCycles$Unmixer", "listMixes", "(LLoadCycles$House;)V"⟩ prog_7_method_3_code 3 (none : Option FieldType) : Cond) ∈ TB := tb_of (List.mem_of_getElem? (i := 428) rfl) rfl
theorem wd_429 : (.methodLink "LoadCycles$Unmixer" 62 ⟨"LoadCycles$Unmixer", "listWith", "(LLoadCycles$House;I)V"⟩ : Cond) ∈ TB := tb_of (List.mem_of_getElem? (i := 429) (by decide +kernel)) rfl
theorem wd_431 : (.instanceMethod ⟨"LoadCycles$Unmixer", "listWith", "(LLoadCycles$House;I)V"⟩ : Cond) ∈ TB := tb_of (List.mem_of_getElem? (i := 431) (by decide +kernel)) rfl
set_option maxRecDepth 20000 in
theorem wd_432 : (.code ⟨"LoadCycles$Unmixer", "listWith", "(LLoadCycles$House;I)V"⟩ prog_7_method_4_code 9 (none : Option FieldType) : Cond) ∈ TB := tb_of (List.mem_of_getElem? (i := 432) rfl) rfl
theorem wd_433 : (.methodLink "LoadCycles$Unmixer" 69 ⟨"LoadCycles$House", "powerIn", "(II)I"⟩ : Cond) ∈ TB := tb_of (List.mem_of_getElem? (i := 433) (by decide +kernel)) rfl
theorem wd_434 : (.instanceMethod ⟨"LoadCycles$House", "powerIn", "(II)I"⟩ : Cond) ∈ TB := tb_of (List.mem_of_getElem? (i := 434) (by decide +kernel)) rfl
theorem wd_435 : (.selects "LoadCycles$House" ⟨"LoadCycles$House", "powerIn", "(II)I"⟩ ⟨"LoadCycles$House", "powerIn", "(II)I"⟩ : Cond) ∈ TB := tb_of (List.mem_of_getElem? (i := 435) (by decide +kernel)) rfl
set_option maxRecDepth 20000 in
theorem wd_436 : (.code ⟨"LoadCycles$House", "powerIn", "(II)I"⟩ prog_4_method_11_code 3 (some .int) : Cond) ∈ TB := tb_of (List.mem_of_getElem? (i := 436) rfl) rfl
theorem wd_437 : (.methodLink "LoadCycles$House" 44 ⟨"LoadCycles$House", "powerOf", "(II)I"⟩ : Cond) ∈ TB := tb_of (List.mem_of_getElem? (i := 437) (by decide +kernel)) rfl
theorem wd_438 : (.methodLink "LoadCycles$Unmixer" 73 ⟨"LoadCycles$House", "stateAfter", "(II)I"⟩ : Cond) ∈ TB := tb_of (List.mem_of_getElem? (i := 438) (by decide +kernel)) rfl
theorem wd_439 : (.instanceMethod ⟨"LoadCycles$House", "stateAfter", "(II)I"⟩ : Cond) ∈ TB := tb_of (List.mem_of_getElem? (i := 439) (by decide +kernel)) rfl
theorem wd_440 : (.selects "LoadCycles$House" ⟨"LoadCycles$House", "stateAfter", "(II)I"⟩ ⟨"LoadCycles$House", "stateAfter", "(II)I"⟩ : Cond) ∈ TB := tb_of (List.mem_of_getElem? (i := 440) (by decide +kernel)) rfl
set_option maxRecDepth 20000 in
theorem wd_441 : (.code ⟨"LoadCycles$House", "stateAfter", "(II)I"⟩ prog_4_method_12_code 3 (some .int) : Cond) ∈ TB := tb_of (List.mem_of_getElem? (i := 441) rfl) rfl
theorem wd_442 : (.methodLink "LoadCycles$Unmixer" 76 ⟨"LoadCycles$Unmixer", "repeatAfter", "(III)V"⟩ : Cond) ∈ TB := tb_of (List.mem_of_getElem? (i := 442) (by decide +kernel)) rfl
theorem wd_444 : (.instanceMethod ⟨"LoadCycles$Unmixer", "repeatAfter", "(III)V"⟩ : Cond) ∈ TB := tb_of (List.mem_of_getElem? (i := 444) (by decide +kernel)) rfl
set_option maxRecDepth 20000 in
theorem wd_445 : (.code ⟨"LoadCycles$Unmixer", "repeatAfter", "(III)V"⟩ prog_7_method_5_code 6 (none : Option FieldType) : Cond) ∈ TB := tb_of (List.mem_of_getElem? (i := 445) rfl) rfl
theorem wd_446 : (.methodLink "LoadCycles$Unmixer" 31 ⟨"LoadCycles$Unmixer", "findCosts", "(LLoadCycles$House;)V"⟩ : Cond) ∈ TB := tb_of (List.mem_of_getElem? (i := 446) (by decide +kernel)) rfl
theorem wd_448 : (.instanceMethod ⟨"LoadCycles$Unmixer", "findCosts", "(LLoadCycles$House;)V"⟩ : Cond) ∈ TB := tb_of (List.mem_of_getElem? (i := 448) (by decide +kernel)) rfl
set_option maxRecDepth 20000 in
theorem wd_449 : (.code ⟨"LoadCycles$Unmixer", "findCosts", "(LLoadCycles$House;)V"⟩ prog_7_method_6_code 6 (none : Option FieldType) : Cond) ∈ TB := tb_of (List.mem_of_getElem? (i := 449) rfl) rfl
theorem wd_450 : (.methodLink "LoadCycles$Unmixer" 80 ⟨"java/util/Arrays", "fill", "([II)V"⟩ : Cond) ∈ TB := tb_of (List.mem_of_getElem? (i := 450) (by decide +kernel)) rfl
theorem wd_451 : (.static ⟨"java/util/Arrays", "fill", "([II)V"⟩ : Cond) ∈ TB := tb_of (List.mem_of_getElem? (i := 451) (by decide +kernel)) rfl
set_option maxRecDepth 20000 in
theorem wd_452 : (.code ⟨"java/util/Arrays", "fill", "([II)V"⟩ prog_13_method_103_code 4 (none : Option FieldType) : Cond) ∈ TB := tb_of (List.mem_of_getElem? (i := 452) rfl) rfl
theorem wd_453 : (.constant "LoadCycles$Unmixer" 92 (536870912 : Int32) : Cond) ∈ TB := tb_of (List.mem_of_getElem? (i := 453) (by decide +kernel)) rfl
theorem wd_454 : (.methodLink "LoadCycles$Unmixer" 93 ⟨"java/lang/System", "arraycopy", "(Ljava/lang/Object;ILjava/lang/Object;II)V"⟩ : Cond) ∈ TB := tb_of (List.mem_of_getElem? (i := 454) (by decide +kernel)) rfl
theorem wd_455 : (.methodLink "LoadCycles$Unmixer" 99 ⟨"LoadCycles$Unmixer", "letGoOn", "(I)V"⟩ : Cond) ∈ TB := tb_of (List.mem_of_getElem? (i := 455) (by decide +kernel)) rfl
theorem wd_457 : (.instanceMethod ⟨"LoadCycles$Unmixer", "letGoOn", "(I)V"⟩ : Cond) ∈ TB := tb_of (List.mem_of_getElem? (i := 457) (by decide +kernel)) rfl
set_option maxRecDepth 20000 in
theorem wd_458 : (.code ⟨"LoadCycles$Unmixer", "letGoOn", "(I)V"⟩ prog_7_method_7_code 4 (none : Option FieldType) : Cond) ∈ TB := tb_of (List.mem_of_getElem? (i := 458) rfl) rfl
theorem wd_459 : (.methodLink "LoadCycles$Unmixer" 103 ⟨"java/lang/Math", "min", "(II)I"⟩ : Cond) ∈ TB := tb_of (List.mem_of_getElem? (i := 459) (by decide +kernel)) rfl
theorem wd_460 : (.static ⟨"java/lang/Math", "min", "(II)I"⟩ : Cond) ∈ TB := tb_of (List.mem_of_getElem? (i := 460) (by decide +kernel)) rfl
set_option maxRecDepth 20000 in
theorem wd_461 : (.code ⟨"java/lang/Math", "min", "(II)I"⟩ prog_11_method_69_code 2 (some .int) : Cond) ∈ TB := tb_of (List.mem_of_getElem? (i := 461) rfl) rfl
theorem wd_462 : (.methodLink "LoadCycles$Unmixer" 34 ⟨"LoadCycles$Doing", "begin", "(LLoadCycles$House;)V"⟩ : Cond) ∈ TB := tb_of (List.mem_of_getElem? (i := 462) (by decide +kernel)) rfl
theorem wd_463 : (.instanceMethod ⟨"LoadCycles$Doing", "begin", "(LLoadCycles$House;)V"⟩ : Cond) ∈ TB := tb_of (List.mem_of_getElem? (i := 463) (by decide +kernel)) rfl
theorem wd_464 : (.selects "LoadCycles$Doing" ⟨"LoadCycles$Doing", "begin", "(LLoadCycles$House;)V"⟩ ⟨"LoadCycles$Doing", "begin", "(LLoadCycles$House;)V"⟩ : Cond) ∈ TB := tb_of (List.mem_of_getElem? (i := 464) (by decide +kernel)) rfl
set_option maxRecDepth 20000 in
theorem wd_465 : (.code ⟨"LoadCycles$Doing", "begin", "(LLoadCycles$House;)V"⟩ prog_2_method_5_code 2 (none : Option FieldType) : Cond) ∈ TB := tb_of (List.mem_of_getElem? (i := 465) rfl) rfl
theorem wd_466 : (.methodLink "LoadCycles$Doing" 35 ⟨"java/util/Arrays", "fill", "([II)V"⟩ : Cond) ∈ TB := tb_of (List.mem_of_getElem? (i := 466) (by decide +kernel)) rfl
theorem wd_467 : (.methodLink "LoadCycles$Doing" 41 ⟨"LoadCycles$House", "allValues", "()I"⟩ : Cond) ∈ TB := tb_of (List.mem_of_getElem? (i := 467) (by decide +kernel)) rfl
theorem wd_468 : (.instanceMethod ⟨"LoadCycles$House", "allValues", "()I"⟩ : Cond) ∈ TB := tb_of (List.mem_of_getElem? (i := 468) (by decide +kernel)) rfl
theorem wd_469 : (.selects "LoadCycles$House" ⟨"LoadCycles$House", "allValues", "()I"⟩ ⟨"LoadCycles$House", "allValues", "()I"⟩ : Cond) ∈ TB := tb_of (List.mem_of_getElem? (i := 469) (by decide +kernel)) rfl
set_option maxRecDepth 20000 in
theorem wd_470 : (.code ⟨"LoadCycles$House", "allValues", "()I"⟩ prog_4_method_14_code 3 (some .int) : Cond) ∈ TB := tb_of (List.mem_of_getElem? (i := 470) rfl) rfl
theorem wd_471 : (.methodLink "LoadCycles$Unmixer" 45 ⟨"LoadCycles$Unmixer", "bestSet", "(LLoadCycles$House;II)I"⟩ : Cond) ∈ TB := tb_of (List.mem_of_getElem? (i := 471) (by decide +kernel)) rfl
theorem wd_473 : (.instanceMethod ⟨"LoadCycles$Unmixer", "bestSet", "(LLoadCycles$House;II)I"⟩ : Cond) ∈ TB := tb_of (List.mem_of_getElem? (i := 473) (by decide +kernel)) rfl
set_option maxRecDepth 20000 in
theorem wd_474 : (.code ⟨"LoadCycles$Unmixer", "bestSet", "(LLoadCycles$House;II)I"⟩ prog_7_method_8_code 10 (some .int) : Cond) ∈ TB := tb_of (List.mem_of_getElem? (i := 474) rfl) rfl
theorem wd_475 : (.methodLink "LoadCycles$Unmixer" 49 ⟨"LoadCycles$Unmixer", "mixBehind", "(LLoadCycles$House;II)I"⟩ : Cond) ∈ TB := tb_of (List.mem_of_getElem? (i := 475) (by decide +kernel)) rfl
theorem wd_477 : (.instanceMethod ⟨"LoadCycles$Unmixer", "mixBehind", "(LLoadCycles$House;II)I"⟩ : Cond) ∈ TB := tb_of (List.mem_of_getElem? (i := 477) (by decide +kernel)) rfl
set_option maxRecDepth 20000 in
theorem wd_478 : (.code ⟨"LoadCycles$Unmixer", "mixBehind", "(LLoadCycles$House;II)I"⟩ prog_7_method_9_code 6 (some .int) : Cond) ∈ TB := tb_of (List.mem_of_getElem? (i := 478) rfl) rfl
theorem wd_479 : (.methodLink "LoadCycles$Unmixer" 108 ⟨"java/lang/Integer", "bitCount", "(I)I"⟩ : Cond) ∈ TB := tb_of (List.mem_of_getElem? (i := 479) (by decide +kernel)) rfl
theorem wd_480 : (.static ⟨"java/lang/Integer", "bitCount", "(I)I"⟩ : Cond) ∈ TB := tb_of (List.mem_of_getElem? (i := 480) (by decide +kernel)) rfl
set_option maxRecDepth 20000 in
theorem wd_481 : (.code ⟨"java/lang/Integer", "bitCount", "(I)I"⟩ prog_10_method_49_code 1 (some .int) : Cond) ∈ TB := tb_of (List.mem_of_getElem? (i := 481) rfl) rfl
theorem wd_482 : (.constant "java/lang/Integer" 265 (1431655765 : Int32) : Cond) ∈ TB := tb_of (List.mem_of_getElem? (i := 482) (by decide +kernel)) rfl
theorem wd_483 : (.constant "java/lang/Integer" 266 (858993459 : Int32) : Cond) ∈ TB := tb_of (List.mem_of_getElem? (i := 483) (by decide +kernel)) rfl
theorem wd_484 : (.constant "java/lang/Integer" 267 (252645135 : Int32) : Cond) ∈ TB := tb_of (List.mem_of_getElem? (i := 484) (by decide +kernel)) rfl
theorem wd_485 : (.methodLink "LoadCycles$Unmixer" 55 ⟨"LoadCycles$Doing", "add", "(LLoadCycles$House;IIZ)V"⟩ : Cond) ∈ TB := tb_of (List.mem_of_getElem? (i := 485) (by decide +kernel)) rfl
theorem wd_486 : (.instanceMethod ⟨"LoadCycles$Doing", "add", "(LLoadCycles$House;IIZ)V"⟩ : Cond) ∈ TB := tb_of (List.mem_of_getElem? (i := 486) (by decide +kernel)) rfl
theorem wd_487 : (.selects "LoadCycles$Doing" ⟨"LoadCycles$Doing", "add", "(LLoadCycles$House;IIZ)V"⟩ ⟨"LoadCycles$Doing", "add", "(LLoadCycles$House;IIZ)V"⟩ : Cond) ∈ TB := tb_of (List.mem_of_getElem? (i := 487) (by decide +kernel)) rfl
set_option maxRecDepth 20000 in
theorem wd_488 : (.code ⟨"LoadCycles$Doing", "add", "(LLoadCycles$House;IIZ)V"⟩ prog_2_method_6_code 8 (none : Option FieldType) : Cond) ∈ TB := tb_of (List.mem_of_getElem? (i := 488) rfl) rfl
theorem wd_489 : (.methodLink "LoadCycles$Doing" 53 ⟨"LoadCycles$Doing", "stateAhead", "(II)I"⟩ : Cond) ∈ TB := tb_of (List.mem_of_getElem? (i := 489) (by decide +kernel)) rfl
theorem wd_490 : (.instanceMethod ⟨"LoadCycles$Doing", "stateAhead", "(II)I"⟩ : Cond) ∈ TB := tb_of (List.mem_of_getElem? (i := 490) (by decide +kernel)) rfl
theorem wd_491 : (.selects "LoadCycles$Doing" ⟨"LoadCycles$Doing", "stateAhead", "(II)I"⟩ ⟨"LoadCycles$Doing", "stateAhead", "(II)I"⟩ : Cond) ∈ TB := tb_of (List.mem_of_getElem? (i := 491) (by decide +kernel)) rfl
set_option maxRecDepth 20000 in
theorem wd_492 : (.code ⟨"LoadCycles$Doing", "stateAhead", "(II)I"⟩ prog_2_method_3_code 3 (some .int) : Cond) ∈ TB := tb_of (List.mem_of_getElem? (i := 492) rfl) rfl
theorem wd_493 : (.methodLink "LoadCycles$Doing" 18 ⟨"LoadCycles$Doing", "stateOf", "(II)I"⟩ : Cond) ∈ TB := tb_of (List.mem_of_getElem? (i := 493) (by decide +kernel)) rfl
theorem wd_494 : (.instanceMethod ⟨"LoadCycles$Doing", "stateOf", "(II)I"⟩ : Cond) ∈ TB := tb_of (List.mem_of_getElem? (i := 494) (by decide +kernel)) rfl
theorem wd_495 : (.selects "LoadCycles$Doing" ⟨"LoadCycles$Doing", "stateOf", "(II)I"⟩ ⟨"LoadCycles$Doing", "stateOf", "(II)I"⟩ : Cond) ∈ TB := tb_of (List.mem_of_getElem? (i := 495) (by decide +kernel)) rfl
set_option maxRecDepth 20000 in
theorem wd_496 : (.code ⟨"LoadCycles$Doing", "stateOf", "(II)I"⟩ prog_2_method_2_code 3 (some .int) : Cond) ∈ TB := tb_of (List.mem_of_getElem? (i := 496) rfl) rfl
theorem wd_497 : (.methodLink "LoadCycles$Doing" 56 ⟨"LoadCycles$House", "stateAfter", "(II)I"⟩ : Cond) ∈ TB := tb_of (List.mem_of_getElem? (i := 497) (by decide +kernel)) rfl
theorem wd_498 : (.methodLink "LoadCycles$Doing" 59 ⟨"LoadCycles$House", "powerIn", "(II)I"⟩ : Cond) ∈ TB := tb_of (List.mem_of_getElem? (i := 498) (by decide +kernel)) rfl
theorem wd_499 : (.methodLink "LoadCycles" 173 ⟨"LoadCycles$Doing", "stateOf", "(II)I"⟩ : Cond) ∈ TB := tb_of (List.mem_of_getElem? (i := 499) (by decide +kernel)) rfl
theorem wd_500 : (.methodLink "LoadCyclesLaw" 45 ⟨"LoadCycles", "rest", "(I)I"⟩ : Cond) ∈ TB := tb_of (List.mem_of_getElem? (i := 500) (by decide +kernel)) rfl
theorem wd_501 : (.instanceMethod ⟨"LoadCycles", "rest", "(I)I"⟩ : Cond) ∈ TB := tb_of (List.mem_of_getElem? (i := 501) (by decide +kernel)) rfl
theorem wd_502 : (.selects "LoadCycles" ⟨"LoadCycles", "rest", "(I)I"⟩ ⟨"LoadCycles", "rest", "(I)I"⟩ : Cond) ∈ TB := tb_of (List.mem_of_getElem? (i := 502) (by decide +kernel)) rfl
set_option maxRecDepth 20000 in
theorem wd_503 : (.code ⟨"LoadCycles", "rest", "(I)I"⟩ prog_1_method_9_code 5 (some .int) : Cond) ∈ TB := tb_of (List.mem_of_getElem? (i := 503) rfl) rfl
theorem wd_504 : (.methodLink "LoadCycles" 176 ⟨"LoadCycles$House", "powerIn", "(II)I"⟩ : Cond) ∈ TB := tb_of (List.mem_of_getElem? (i := 504) (by decide +kernel)) rfl
theorem wd_505 : (.methodLink "LoadCyclesLaw" 49 ⟨"LoadCycles", "best", "(I)I"⟩ : Cond) ∈ TB := tb_of (List.mem_of_getElem? (i := 505) (by decide +kernel)) rfl
theorem wd_506 : (.instanceMethod ⟨"LoadCycles", "best", "(I)I"⟩ : Cond) ∈ TB := tb_of (List.mem_of_getElem? (i := 506) (by decide +kernel)) rfl
theorem wd_507 : (.selects "LoadCycles" ⟨"LoadCycles", "best", "(I)I"⟩ ⟨"LoadCycles", "best", "(I)I"⟩ : Cond) ∈ TB := tb_of (List.mem_of_getElem? (i := 507) (by decide +kernel)) rfl
set_option maxRecDepth 20000 in
theorem wd_508 : (.code ⟨"LoadCycles", "best", "(I)I"⟩ prog_1_method_10_code 2 (some .int) : Cond) ∈ TB := tb_of (List.mem_of_getElem? (i := 508) rfl) rfl
theorem wd_509 : (.methodLink "LoadCycles" 179 ⟨"LoadCycles$Doing", "numberOf", "(I)I"⟩ : Cond) ∈ TB := tb_of (List.mem_of_getElem? (i := 509) (by decide +kernel)) rfl
theorem wd_510 : (.instanceMethod ⟨"LoadCycles$Doing", "numberOf", "(I)I"⟩ : Cond) ∈ TB := tb_of (List.mem_of_getElem? (i := 510) (by decide +kernel)) rfl
theorem wd_511 : (.selects "LoadCycles$Doing" ⟨"LoadCycles$Doing", "numberOf", "(I)I"⟩ ⟨"LoadCycles$Doing", "numberOf", "(I)I"⟩ : Cond) ∈ TB := tb_of (List.mem_of_getElem? (i := 511) (by decide +kernel)) rfl
set_option maxRecDepth 20000 in
theorem wd_512 : (.code ⟨"LoadCycles$Doing", "numberOf", "(I)I"⟩ prog_2_method_4_code 2 (some .int) : Cond) ∈ TB := tb_of (List.mem_of_getElem? (i := 512) rfl) rfl
theorem wd_513 : (.methodLink "LoadCyclesLaw" 53 ⟨"LoadCycles", "energy", "(I)I"⟩ : Cond) ∈ TB := tb_of (List.mem_of_getElem? (i := 513) (by decide +kernel)) rfl
theorem wd_514 : (.instanceMethod ⟨"LoadCycles", "energy", "(I)I"⟩ : Cond) ∈ TB := tb_of (List.mem_of_getElem? (i := 514) (by decide +kernel)) rfl
theorem wd_515 : (.selects "LoadCycles" ⟨"LoadCycles", "energy", "(I)I"⟩ ⟨"LoadCycles", "energy", "(I)I"⟩ : Cond) ∈ TB := tb_of (List.mem_of_getElem? (i := 515) (by decide +kernel)) rfl
set_option maxRecDepth 20000 in
theorem wd_516 : (.code ⟨"LoadCycles", "energy", "(I)I"⟩ prog_1_method_11_code 2 (some .int) : Cond) ∈ TB := tb_of (List.mem_of_getElem? (i := 516) rfl) rfl
theorem wd_517 : (.methodLink "LoadCyclesLaw" 57 ⟨"LoadCycles", "day", "(IIIII)I"⟩ : Cond) ∈ TB := tb_of (List.mem_of_getElem? (i := 517) (by decide +kernel)) rfl
theorem wd_518 : (.instanceMethod ⟨"LoadCycles", "day", "(IIIII)I"⟩ : Cond) ∈ TB := tb_of (List.mem_of_getElem? (i := 518) (by decide +kernel)) rfl
theorem wd_519 : (.selects "LoadCycles" ⟨"LoadCycles", "day", "(IIIII)I"⟩ ⟨"LoadCycles", "day", "(IIIII)I"⟩ : Cond) ∈ TB := tb_of (List.mem_of_getElem? (i := 519) (by decide +kernel)) rfl
set_option maxRecDepth 20000 in
theorem wd_520 : (.code ⟨"LoadCycles", "day", "(IIIII)I"⟩ prog_1_method_12_code 9 (some .int) : Cond) ∈ TB := tb_of (List.mem_of_getElem? (i := 520) rfl) rfl
theorem wd_521 : (.methodLink "LoadCycles" 185 ⟨"LoadCycles", "isAskedOfDay", "(I)Z"⟩ : Cond) ∈ TB := tb_of (List.mem_of_getElem? (i := 521) (by decide +kernel)) rfl
theorem wd_522 : (.static ⟨"LoadCycles", "isAskedOfDay", "(I)Z"⟩ : Cond) ∈ TB := tb_of (List.mem_of_getElem? (i := 522) (by decide +kernel)) rfl
set_option maxRecDepth 20000 in
theorem wd_523 : (.code ⟨"LoadCycles", "isAskedOfDay", "(I)Z"⟩ prog_1_method_42_code 1 (some .boolean) : Cond) ∈ TB := tb_of (List.mem_of_getElem? (i := 523) rfl) rfl
theorem wd_524 : (.methodLink "LoadCycles" 188 ⟨"LoadCycles", "arePairs", "(LLoadCycles$Sheet;II)Z"⟩ : Cond) ∈ TB := tb_of (List.mem_of_getElem? (i := 524) (by decide +kernel)) rfl
theorem wd_525 : (.static ⟨"LoadCycles", "arePairs", "(LLoadCycles$Sheet;II)Z"⟩ : Cond) ∈ TB := tb_of (List.mem_of_getElem? (i := 525) (by decide +kernel)) rfl
set_option maxRecDepth 20000 in
theorem wd_526 : (.code ⟨"LoadCycles", "arePairs", "(LLoadCycles$Sheet;II)Z"⟩ prog_1_method_43_code 4 (some .boolean) : Cond) ∈ TB := tb_of (List.mem_of_getElem? (i := 526) rfl) rfl
theorem wd_527 : (.methodLink "LoadCycles" 274 ⟨"LoadCycles", "isPair", "(II)Z"⟩ : Cond) ∈ TB := tb_of (List.mem_of_getElem? (i := 527) (by decide +kernel)) rfl
theorem wd_528 : (.static ⟨"LoadCycles", "isPair", "(II)Z"⟩ : Cond) ∈ TB := tb_of (List.mem_of_getElem? (i := 528) (by decide +kernel)) rfl
set_option maxRecDepth 20000 in
theorem wd_529 : (.code ⟨"LoadCycles", "isPair", "(II)Z"⟩ prog_1_method_44_code 2 (some .boolean) : Cond) ∈ TB := tb_of (List.mem_of_getElem? (i := 529) rfl) rfl
theorem wd_530 : (.methodLink "LoadCycles" 192 ⟨"LoadCycles", "liveTrialDay", "(LLoadCycles$Sheet;II)I"⟩ : Cond) ∈ TB := tb_of (List.mem_of_getElem? (i := 530) (by decide +kernel)) rfl
theorem wd_532 : (.instanceMethod ⟨"LoadCycles", "liveTrialDay", "(LLoadCycles$Sheet;II)I"⟩ : Cond) ∈ TB := tb_of (List.mem_of_getElem? (i := 532) (by decide +kernel)) rfl
set_option maxRecDepth 20000 in
theorem wd_533 : (.code ⟨"LoadCycles", "liveTrialDay", "(LLoadCycles$Sheet;II)I"⟩ prog_1_method_45_code 5 (some .int) : Cond) ∈ TB := tb_of (List.mem_of_getElem? (i := 533) rfl) rfl
theorem wd_534 : (.methodLink "LoadCycles" 277 ⟨"LoadCycles$House", "acted", "(II)Z"⟩ : Cond) ∈ TB := tb_of (List.mem_of_getElem? (i := 534) (by decide +kernel)) rfl
theorem wd_535 : (.instanceMethod ⟨"LoadCycles$House", "acted", "(II)Z"⟩ : Cond) ∈ TB := tb_of (List.mem_of_getElem? (i := 535) (by decide +kernel)) rfl
theorem wd_536 : (.selects "LoadCycles$House" ⟨"LoadCycles$House", "acted", "(II)Z"⟩ ⟨"LoadCycles$House", "acted", "(II)Z"⟩ : Cond) ∈ TB := tb_of (List.mem_of_getElem? (i := 536) (by decide +kernel)) rfl
set_option maxRecDepth 20000 in
theorem wd_537 : (.code ⟨"LoadCycles$House", "acted", "(II)Z"⟩ prog_4_method_17_code 3 (some .boolean) : Cond) ∈ TB := tb_of (List.mem_of_getElem? (i := 537) rfl) rfl
theorem wd_538 : (.methodLink "LoadCycles$House" 48 ⟨"LoadCycles$House", "actedOnBase", "(I)Z"⟩ : Cond) ∈ TB := tb_of (List.mem_of_getElem? (i := 538) (by decide +kernel)) rfl
theorem wd_540 : (.instanceMethod ⟨"LoadCycles$House", "actedOnBase", "(I)Z"⟩ : Cond) ∈ TB := tb_of (List.mem_of_getElem? (i := 540) (by decide +kernel)) rfl
set_option maxRecDepth 20000 in
theorem wd_541 : (.code ⟨"LoadCycles$House", "actedOnBase", "(I)Z"⟩ prog_4_method_18_code 2 (some .boolean) : Cond) ∈ TB := tb_of (List.mem_of_getElem? (i := 541) rfl) rfl
theorem wd_542 : (.methodLink "LoadCycles$House" 60 ⟨"LoadCycles$House", "allowsBase", "(I)Z"⟩ : Cond) ∈ TB := tb_of (List.mem_of_getElem? (i := 542) (by decide +kernel)) rfl
theorem wd_543 : (.methodLink "LoadCycles$House" 52 ⟨"LoadCycles$House", "actedOnValue", "(II)Z"⟩ : Cond) ∈ TB := tb_of (List.mem_of_getElem? (i := 543) (by decide +kernel)) rfl
theorem wd_545 : (.instanceMethod ⟨"LoadCycles$House", "actedOnValue", "(II)Z"⟩ : Cond) ∈ TB := tb_of (List.mem_of_getElem? (i := 545) (by decide +kernel)) rfl
set_option maxRecDepth 20000 in
theorem wd_546 : (.code ⟨"LoadCycles$House", "actedOnValue", "(II)Z"⟩ prog_4_method_19_code 3 (some .boolean) : Cond) ∈ TB := tb_of (List.mem_of_getElem? (i := 546) rfl) rfl
theorem wd_547 : (.methodLink "LoadCycles$House" 63 ⟨"LoadCycles$House", "hasTime", "(I)Z"⟩ : Cond) ∈ TB := tb_of (List.mem_of_getElem? (i := 547) (by decide +kernel)) rfl
theorem wd_548 : (.methodLink "LoadCycles$House" 56 ⟨"LoadCycles$House", "actedOnLevel", "(III)Z"⟩ : Cond) ∈ TB := tb_of (List.mem_of_getElem? (i := 548) (by decide +kernel)) rfl
theorem wd_550 : (.instanceMethod ⟨"LoadCycles$House", "actedOnLevel", "(III)Z"⟩ : Cond) ∈ TB := tb_of (List.mem_of_getElem? (i := 550) (by decide +kernel)) rfl
set_option maxRecDepth 20000 in
theorem wd_551 : (.code ⟨"LoadCycles$House", "actedOnLevel", "(III)Z"⟩ prog_4_method_20_code 4 (some .boolean) : Cond) ∈ TB := tb_of (List.mem_of_getElem? (i := 551) rfl) rfl
theorem wd_552 : (.methodLink "LoadCycles$House" 66 ⟨"LoadCycles$House", "hasAppliance", "(I)Z"⟩ : Cond) ∈ TB := tb_of (List.mem_of_getElem? (i := 552) (by decide +kernel)) rfl
theorem wd_553 : (.methodLink "LoadCycles$House" 69 ⟨"LoadCycles$House", "hasLevel", "(II)Z"⟩ : Cond) ∈ TB := tb_of (List.mem_of_getElem? (i := 553) (by decide +kernel)) rfl
theorem wd_554 : (.methodLink "LoadCycles" 195 ⟨"LoadCycles", "answerOfTrialDay", "(I)I"⟩ : Cond) ∈ TB := tb_of (List.mem_of_getElem? (i := 554) (by decide +kernel)) rfl
theorem wd_556 : (.instanceMethod ⟨"LoadCycles", "answerOfTrialDay", "(I)I"⟩ : Cond) ∈ TB := tb_of (List.mem_of_getElem? (i := 556) (by decide +kernel)) rfl
set_option maxRecDepth 20000 in
theorem wd_557 : (.code ⟨"LoadCycles", "answerOfTrialDay", "(I)I"⟩ prog_1_method_46_code 2 (some .int) : Cond) ∈ TB := tb_of (List.mem_of_getElem? (i := 557) rfl) rfl
theorem wd_558 : (.methodLink "LoadCyclesLaw" 62 ⟨"LoadCycles", "jump", "(I)I"⟩ : Cond) ∈ TB := tb_of (List.mem_of_getElem? (i := 558) (by decide +kernel)) rfl
theorem wd_559 : (.instanceMethod ⟨"LoadCycles", "jump", "(I)I"⟩ : Cond) ∈ TB := tb_of (List.mem_of_getElem? (i := 559) (by decide +kernel)) rfl
theorem wd_560 : (.selects "LoadCycles" ⟨"LoadCycles", "jump", "(I)I"⟩ ⟨"LoadCycles", "jump", "(I)I"⟩ : Cond) ∈ TB := tb_of (List.mem_of_getElem? (i := 560) (by decide +kernel)) rfl
set_option maxRecDepth 20000 in
theorem wd_561 : (.code ⟨"LoadCycles", "jump", "(I)I"⟩ prog_1_method_13_code 2 (some .int) : Cond) ∈ TB := tb_of (List.mem_of_getElem? (i := 561) rfl) rfl
theorem wd_562 : (.methodLink "LoadCycles" 198 ⟨"LoadCycles$House", "jumpTo", "(I)I"⟩ : Cond) ∈ TB := tb_of (List.mem_of_getElem? (i := 562) (by decide +kernel)) rfl
theorem wd_563 : (.instanceMethod ⟨"LoadCycles$House", "jumpTo", "(I)I"⟩ : Cond) ∈ TB := tb_of (List.mem_of_getElem? (i := 563) (by decide +kernel)) rfl
theorem wd_564 : (.selects "LoadCycles$House" ⟨"LoadCycles$House", "jumpTo", "(I)I"⟩ ⟨"LoadCycles$House", "jumpTo", "(I)I"⟩ : Cond) ∈ TB := tb_of (List.mem_of_getElem? (i := 564) (by decide +kernel)) rfl
set_option maxRecDepth 20000 in
theorem wd_565 : (.code ⟨"LoadCycles$House", "jumpTo", "(I)I"⟩ prog_4_method_15_code 2 (some .int) : Cond) ∈ TB := tb_of (List.mem_of_getElem? (i := 565) rfl) rfl
theorem wd_566 : (.methodLink "LoadCyclesLaw" 66 ⟨"LoadCycles", "ways", "(I)I"⟩ : Cond) ∈ TB := tb_of (List.mem_of_getElem? (i := 566) (by decide +kernel)) rfl
theorem wd_567 : (.instanceMethod ⟨"LoadCycles", "ways", "(I)I"⟩ : Cond) ∈ TB := tb_of (List.mem_of_getElem? (i := 567) (by decide +kernel)) rfl
theorem wd_568 : (.selects "LoadCycles" ⟨"LoadCycles", "ways", "(I)I"⟩ ⟨"LoadCycles", "ways", "(I)I"⟩ : Cond) ∈ TB := tb_of (List.mem_of_getElem? (i := 568) (by decide +kernel)) rfl
set_option maxRecDepth 20000 in
theorem wd_569 : (.code ⟨"LoadCycles", "ways", "(I)I"⟩ prog_1_method_14_code 6 (some .int) : Cond) ∈ TB := tb_of (List.mem_of_getElem? (i := 569) rfl) rfl
theorem wd_570 : (.methodLink "LoadCycles" 201 ⟨"LoadCycles", "powerGain", "(LLoadCycles$Doing;II)I"⟩ : Cond) ∈ TB := tb_of (List.mem_of_getElem? (i := 570) (by decide +kernel)) rfl
theorem wd_572 : (.instanceMethod ⟨"LoadCycles", "powerGain", "(LLoadCycles$Doing;II)I"⟩ : Cond) ∈ TB := tb_of (List.mem_of_getElem? (i := 572) (by decide +kernel)) rfl
set_option maxRecDepth 20000 in
theorem wd_573 : (.code ⟨"LoadCycles", "powerGain", "(LLoadCycles$Doing;II)I"⟩ prog_1_method_47_code 7 (some .int) : Cond) ∈ TB := tb_of (List.mem_of_getElem? (i := 573) rfl) rfl
theorem wd_574 : (.methodLink "LoadCycles" 280 ⟨"LoadCycles$Doing", "stateAhead", "(II)I"⟩ : Cond) ∈ TB := tb_of (List.mem_of_getElem? (i := 574) (by decide +kernel)) rfl
theorem wd_575 : (.methodLink "LoadCycles" 283 ⟨"LoadCycles$House", "stateAfter", "(II)I"⟩ : Cond) ∈ TB := tb_of (List.mem_of_getElem? (i := 575) (by decide +kernel)) rfl
theorem wd_576 : (.methodLink "LoadCyclesLaw" 70 ⟨"LoadCycles", "longest", "(I)I"⟩ : Cond) ∈ TB := tb_of (List.mem_of_getElem? (i := 576) (by decide +kernel)) rfl
theorem wd_577 : (.instanceMethod ⟨"LoadCycles", "longest", "(I)I"⟩ : Cond) ∈ TB := tb_of (List.mem_of_getElem? (i := 577) (by decide +kernel)) rfl
theorem wd_578 : (.selects "LoadCycles" ⟨"LoadCycles", "longest", "(I)I"⟩ ⟨"LoadCycles", "longest", "(I)I"⟩ : Cond) ∈ TB := tb_of (List.mem_of_getElem? (i := 578) (by decide +kernel)) rfl
set_option maxRecDepth 20000 in
theorem wd_579 : (.code ⟨"LoadCycles", "longest", "(I)I"⟩ prog_1_method_15_code 6 (some .int) : Cond) ∈ TB := tb_of (List.mem_of_getElem? (i := 579) rfl) rfl
theorem wd_580 : (.methodLink "LoadCycles" 205 ⟨"java/lang/Math", "max", "(II)I"⟩ : Cond) ∈ TB := tb_of (List.mem_of_getElem? (i := 580) (by decide +kernel)) rfl
theorem wd_581 : (.static ⟨"java/lang/Math", "max", "(II)I"⟩ : Cond) ∈ TB := tb_of (List.mem_of_getElem? (i := 581) (by decide +kernel)) rfl
set_option maxRecDepth 20000 in
theorem wd_582 : (.code ⟨"java/lang/Math", "max", "(II)I"⟩ prog_11_method_65_code 2 (some .int) : Cond) ∈ TB := tb_of (List.mem_of_getElem? (i := 582) rfl) rfl
theorem wd_583 : (.methodLink "LoadCyclesLaw" 74 ⟨"LoadCycles", "share", "(I)I"⟩ : Cond) ∈ TB := tb_of (List.mem_of_getElem? (i := 583) (by decide +kernel)) rfl
theorem wd_584 : (.instanceMethod ⟨"LoadCycles", "share", "(I)I"⟩ : Cond) ∈ TB := tb_of (List.mem_of_getElem? (i := 584) (by decide +kernel)) rfl
theorem wd_585 : (.selects "LoadCycles" ⟨"LoadCycles", "share", "(I)I"⟩ ⟨"LoadCycles", "share", "(I)I"⟩ : Cond) ∈ TB := tb_of (List.mem_of_getElem? (i := 585) (by decide +kernel)) rfl
set_option maxRecDepth 20000 in
theorem wd_586 : (.code ⟨"LoadCycles", "share", "(I)I"⟩ prog_1_method_16_code 2 (some .int) : Cond) ∈ TB := tb_of (List.mem_of_getElem? (i := 586) rfl) rfl
theorem wd_587 : (.methodLink "LoadCycles" 210 ⟨"LoadCycles$House", "allValues", "()I"⟩ : Cond) ∈ TB := tb_of (List.mem_of_getElem? (i := 587) (by decide +kernel)) rfl
theorem wd_588 : (.methodLink "LoadCycles" 214 ⟨"LoadCycles", "nearestBits", "(JJII)J"⟩ : Cond) ∈ TB := tb_of (List.mem_of_getElem? (i := 588) (by decide +kernel)) rfl
theorem wd_589 : (.static ⟨"LoadCycles", "nearestBits", "(JJII)J"⟩ : Cond) ∈ TB := tb_of (List.mem_of_getElem? (i := 589) (by decide +kernel)) rfl
set_option maxRecDepth 20000 in
theorem wd_590 : (.code ⟨"LoadCycles", "nearestBits", "(JJII)J"⟩ prog_1_method_51_code 15 (some .long) : Cond) ∈ TB := tb_of (List.mem_of_getElem? (i := 590) rfl) rfl
theorem wd_591 : (.constantLong "LoadCycles" 299 (2 : Int64) : Cond) ∈ TB := tb_of (List.mem_of_getElem? (i := 591) (by decide +kernel)) rfl
theorem wd_592 : (.methodLink "LoadCyclesLaw" 78 ⟨"LoadCycles", "mean", "()J"⟩ : Cond) ∈ TB := tb_of (List.mem_of_getElem? (i := 592) (by decide +kernel)) rfl
theorem wd_593 : (.instanceMethod ⟨"LoadCycles", "mean", "()J"⟩ : Cond) ∈ TB := tb_of (List.mem_of_getElem? (i := 593) (by decide +kernel)) rfl
theorem wd_594 : (.selects "LoadCycles" ⟨"LoadCycles", "mean", "()J"⟩ ⟨"LoadCycles", "mean", "()J"⟩ : Cond) ∈ TB := tb_of (List.mem_of_getElem? (i := 594) (by decide +kernel)) rfl
set_option maxRecDepth 20000 in
theorem wd_595 : (.code ⟨"LoadCycles", "mean", "()J"⟩ prog_1_method_17_code 1 (some .long) : Cond) ∈ TB := tb_of (List.mem_of_getElem? (i := 595) rfl) rfl
theorem wd_596 : (.constantLong "LoadCycles" 218 (-9223372036854775808 : Int64) : Cond) ∈ TB := tb_of (List.mem_of_getElem? (i := 596) (by decide +kernel)) rfl
theorem wd_597 : (.methodLink "LoadCyclesLaw" 83 ⟨"LoadCycles", "reading", "(II)I"⟩ : Cond) ∈ TB := tb_of (List.mem_of_getElem? (i := 597) (by decide +kernel)) rfl
theorem wd_598 : (.instanceMethod ⟨"LoadCycles", "reading", "(II)I"⟩ : Cond) ∈ TB := tb_of (List.mem_of_getElem? (i := 598) (by decide +kernel)) rfl
theorem wd_599 : (.selects "LoadCycles" ⟨"LoadCycles", "reading", "(II)I"⟩ ⟨"LoadCycles", "reading", "(II)I"⟩ : Cond) ∈ TB := tb_of (List.mem_of_getElem? (i := 599) (by decide +kernel)) rfl
set_option maxRecDepth 20000 in
theorem wd_600 : (.code ⟨"LoadCycles", "reading", "(II)I"⟩ prog_1_method_18_code 3 (some .int) : Cond) ∈ TB := tb_of (List.mem_of_getElem? (i := 600) rfl) rfl
theorem wd_601 : (.methodLink "LoadCyclesLaw" 87 ⟨"LoadCycles", "back", "(I)I"⟩ : Cond) ∈ TB := tb_of (List.mem_of_getElem? (i := 601) (by decide +kernel)) rfl
theorem wd_602 : (.instanceMethod ⟨"LoadCycles", "back", "(I)I"⟩ : Cond) ∈ TB := tb_of (List.mem_of_getElem? (i := 602) (by decide +kernel)) rfl
theorem wd_603 : (.selects "LoadCycles" ⟨"LoadCycles", "back", "(I)I"⟩ ⟨"LoadCycles", "back", "(I)I"⟩ : Cond) ∈ TB := tb_of (List.mem_of_getElem? (i := 603) (by decide +kernel)) rfl
set_option maxRecDepth 20000 in
theorem wd_604 : (.code ⟨"LoadCycles", "back", "(I)I"⟩ prog_1_method_19_code 2 (some .int) : Cond) ∈ TB := tb_of (List.mem_of_getElem? (i := 604) rfl) rfl
theorem wd_605 : (.methodLink "LoadCyclesLaw" 91 ⟨"LoadCycles", "kinds", "(I)I"⟩ : Cond) ∈ TB := tb_of (List.mem_of_getElem? (i := 605) (by decide +kernel)) rfl
theorem wd_606 : (.instanceMethod ⟨"LoadCycles", "kinds", "(I)I"⟩ : Cond) ∈ TB := tb_of (List.mem_of_getElem? (i := 606) (by decide +kernel)) rfl
theorem wd_607 : (.selects "LoadCycles" ⟨"LoadCycles", "kinds", "(I)I"⟩ ⟨"LoadCycles", "kinds", "(I)I"⟩ : Cond) ∈ TB := tb_of (List.mem_of_getElem? (i := 607) (by decide +kernel)) rfl
set_option maxRecDepth 20000 in
theorem wd_608 : (.code ⟨"LoadCycles", "kinds", "(I)I"⟩ prog_1_method_20_code 4 (some .int) : Cond) ∈ TB := tb_of (List.mem_of_getElem? (i := 608) rfl) rfl
theorem wd_609 : (.methodLink "LoadCycles" 220 ⟨"LoadCycles", "readingsHold", "(II)Z"⟩ : Cond) ∈ TB := tb_of (List.mem_of_getElem? (i := 609) (by decide +kernel)) rfl
theorem wd_611 : (.instanceMethod ⟨"LoadCycles", "readingsHold", "(II)Z"⟩ : Cond) ∈ TB := tb_of (List.mem_of_getElem? (i := 611) (by decide +kernel)) rfl
set_option maxRecDepth 20000 in
theorem wd_612 : (.code ⟨"LoadCycles", "readingsHold", "(II)Z"⟩ prog_1_method_48_code 4 (some .boolean) : Cond) ∈ TB := tb_of (List.mem_of_getElem? (i := 612) rfl) rfl
theorem wd_613 : (.methodLink "LoadCycles" 286 ⟨"LoadCycles$Guesses", "isKnown", "(II)Z"⟩ : Cond) ∈ TB := tb_of (List.mem_of_getElem? (i := 613) (by decide +kernel)) rfl
theorem wd_614 : (.instanceMethod ⟨"LoadCycles$Guesses", "isKnown", "(II)Z"⟩ : Cond) ∈ TB := tb_of (List.mem_of_getElem? (i := 614) (by decide +kernel)) rfl
theorem wd_615 : (.selects "LoadCycles$Guesses" ⟨"LoadCycles$Guesses", "isKnown", "(II)Z"⟩ ⟨"LoadCycles$Guesses", "isKnown", "(II)Z"⟩ : Cond) ∈ TB := tb_of (List.mem_of_getElem? (i := 615) (by decide +kernel)) rfl
set_option maxRecDepth 20000 in
theorem wd_616 : (.code ⟨"LoadCycles$Guesses", "isKnown", "(II)Z"⟩ prog_3_method_3_code 3 (some .boolean) : Cond) ∈ TB := tb_of (List.mem_of_getElem? (i := 616) rfl) rfl
theorem wd_617 : (.methodLink "LoadCycles" 289 ⟨"LoadCycles", "unmixGuess", "(II)V"⟩ : Cond) ∈ TB := tb_of (List.mem_of_getElem? (i := 617) (by decide +kernel)) rfl
theorem wd_619 : (.instanceMethod ⟨"LoadCycles", "unmixGuess", "(II)V"⟩ : Cond) ∈ TB := tb_of (List.mem_of_getElem? (i := 619) (by decide +kernel)) rfl
set_option maxRecDepth 20000 in
theorem wd_620 : (.code ⟨"LoadCycles", "unmixGuess", "(II)V"⟩ prog_1_method_49_code 3 (none : Option FieldType) : Cond) ∈ TB := tb_of (List.mem_of_getElem? (i := 620) rfl) rfl
theorem wd_621 : (.methodLink "LoadCycles" 292 ⟨"LoadCycles$Guesses", "keep", "(IILLoadCycles$Doing;)V"⟩ : Cond) ∈ TB := tb_of (List.mem_of_getElem? (i := 621) (by decide +kernel)) rfl
theorem wd_622 : (.instanceMethod ⟨"LoadCycles$Guesses", "keep", "(IILLoadCycles$Doing;)V"⟩ : Cond) ∈ TB := tb_of (List.mem_of_getElem? (i := 622) (by decide +kernel)) rfl
theorem wd_623 : (.selects "LoadCycles$Guesses" ⟨"LoadCycles$Guesses", "keep", "(IILLoadCycles$Doing;)V"⟩ ⟨"LoadCycles$Guesses", "keep", "(IILLoadCycles$Doing;)V"⟩ : Cond) ∈ TB := tb_of (List.mem_of_getElem? (i := 623) (by decide +kernel)) rfl
set_option maxRecDepth 20000 in
theorem wd_624 : (.code ⟨"LoadCycles$Guesses", "keep", "(IILLoadCycles$Doing;)V"⟩ prog_3_method_5_code 5 (none : Option FieldType) : Cond) ∈ TB := tb_of (List.mem_of_getElem? (i := 624) rfl) rfl
theorem wd_625 : (.methodLink "LoadCycles$Guesses" 22 ⟨"java/lang/System", "arraycopy", "(Ljava/lang/Object;ILjava/lang/Object;II)V"⟩ : Cond) ∈ TB := tb_of (List.mem_of_getElem? (i := 625) (by decide +kernel)) rfl
theorem wd_626 : (.methodLink "LoadCycles" 296 ⟨"LoadCycles$Guesses", "energyOf", "(III)I"⟩ : Cond) ∈ TB := tb_of (List.mem_of_getElem? (i := 626) (by decide +kernel)) rfl
theorem wd_627 : (.instanceMethod ⟨"LoadCycles$Guesses", "energyOf", "(III)I"⟩ : Cond) ∈ TB := tb_of (List.mem_of_getElem? (i := 627) (by decide +kernel)) rfl
theorem wd_628 : (.selects "LoadCycles$Guesses" ⟨"LoadCycles$Guesses", "energyOf", "(III)I"⟩ ⟨"LoadCycles$Guesses", "energyOf", "(III)I"⟩ : Cond) ∈ TB := tb_of (List.mem_of_getElem? (i := 628) (by decide +kernel)) rfl
set_option maxRecDepth 20000 in
theorem wd_629 : (.code ⟨"LoadCycles$Guesses", "energyOf", "(III)I"⟩ prog_3_method_4_code 4 (some .int) : Cond) ∈ TB := tb_of (List.mem_of_getElem? (i := 629) rfl) rfl
theorem wd_630 : (.methodLink "LoadCyclesLaw" 95 ⟨"LoadCycles", "firsts", "(I)I"⟩ : Cond) ∈ TB := tb_of (List.mem_of_getElem? (i := 630) (by decide +kernel)) rfl
theorem wd_631 : (.instanceMethod ⟨"LoadCycles", "firsts", "(I)I"⟩ : Cond) ∈ TB := tb_of (List.mem_of_getElem? (i := 631) (by decide +kernel)) rfl
theorem wd_632 : (.selects "LoadCycles" ⟨"LoadCycles", "firsts", "(I)I"⟩ ⟨"LoadCycles", "firsts", "(I)I"⟩ : Cond) ∈ TB := tb_of (List.mem_of_getElem? (i := 632) (by decide +kernel)) rfl
set_option maxRecDepth 20000 in
theorem wd_633 : (.code ⟨"LoadCycles", "firsts", "(I)I"⟩ prog_1_method_21_code 4 (some .int) : Cond) ∈ TB := tb_of (List.mem_of_getElem? (i := 633) rfl) rfl
theorem wd_634 : (.methodLink "LoadCyclesLaw" 99 ⟨"LoadCycles", "odds", "(II)J"⟩ : Cond) ∈ TB := tb_of (List.mem_of_getElem? (i := 634) (by decide +kernel)) rfl
theorem wd_635 : (.instanceMethod ⟨"LoadCycles", "odds", "(II)J"⟩ : Cond) ∈ TB := tb_of (List.mem_of_getElem? (i := 635) (by decide +kernel)) rfl
theorem wd_636 : (.selects "LoadCycles" ⟨"LoadCycles", "odds", "(II)J"⟩ ⟨"LoadCycles", "odds", "(II)J"⟩ : Cond) ∈ TB := tb_of (List.mem_of_getElem? (i := 636) (by decide +kernel)) rfl
set_option maxRecDepth 20000 in
theorem wd_637 : (.code ⟨"LoadCycles", "odds", "(II)J"⟩ prog_1_method_22_code 6 (some .long) : Cond) ∈ TB := tb_of (List.mem_of_getElem? (i := 637) rfl) rfl
theorem wd_638 : (.methodLink "LoadCycles" 223 ⟨"LoadCycles", "commonDivisor", "(II)I"⟩ : Cond) ∈ TB := tb_of (List.mem_of_getElem? (i := 638) (by decide +kernel)) rfl
theorem wd_639 : (.static ⟨"LoadCycles", "commonDivisor", "(II)I"⟩ : Cond) ∈ TB := tb_of (List.mem_of_getElem? (i := 639) (by decide +kernel)) rfl
set_option maxRecDepth 20000 in
theorem wd_640 : (.code ⟨"LoadCycles", "commonDivisor", "(II)I"⟩ prog_1_method_50_code 3 (some .int) : Cond) ∈ TB := tb_of (List.mem_of_getElem? (i := 640) rfl) rfl
theorem wd_641 : (.methodLink "LoadCyclesLaw" 104 ⟨"LoadCycles", "sheet", "(III)I"⟩ : Cond) ∈ TB := tb_of (List.mem_of_getElem? (i := 641) (by decide +kernel)) rfl
theorem wd_642 : (.instanceMethod ⟨"LoadCycles", "sheet", "(III)I"⟩ : Cond) ∈ TB := tb_of (List.mem_of_getElem? (i := 642) (by decide +kernel)) rfl
theorem wd_643 : (.selects "LoadCycles" ⟨"LoadCycles", "sheet", "(III)I"⟩ ⟨"LoadCycles", "sheet", "(III)I"⟩ : Cond) ∈ TB := tb_of (List.mem_of_getElem? (i := 643) (by decide +kernel)) rfl
set_option maxRecDepth 20000 in
theorem wd_644 : (.code ⟨"LoadCycles", "sheet", "(III)I"⟩ prog_1_method_23_code 4 (some .int) : Cond) ∈ TB := tb_of (List.mem_of_getElem? (i := 644) rfl) rfl
theorem wd_645 : (.methodLink "LoadCycles" 226 ⟨"LoadCycles$Sheet", "renew", "(II)V"⟩ : Cond) ∈ TB := tb_of (List.mem_of_getElem? (i := 645) (by decide +kernel)) rfl
theorem wd_646 : (.instanceMethod ⟨"LoadCycles$Sheet", "renew", "(II)V"⟩ : Cond) ∈ TB := tb_of (List.mem_of_getElem? (i := 646) (by decide +kernel)) rfl
theorem wd_647 : (.selects "LoadCycles$Sheet" ⟨"LoadCycles$Sheet", "renew", "(II)V"⟩ ⟨"LoadCycles$Sheet", "renew", "(II)V"⟩ : Cond) ∈ TB := tb_of (List.mem_of_getElem? (i := 647) (by decide +kernel)) rfl
set_option maxRecDepth 20000 in
theorem wd_648 : (.code ⟨"LoadCycles$Sheet", "renew", "(II)V"⟩ prog_5_method_4_code 3 (none : Option FieldType) : Cond) ∈ TB := tb_of (List.mem_of_getElem? (i := 648) rfl) rfl
theorem wd_649 : (.methodLink "LoadCycles$Sheet" 22 ⟨"java/util/Arrays", "fill", "([II)V"⟩ : Cond) ∈ TB := tb_of (List.mem_of_getElem? (i := 649) (by decide +kernel)) rfl
theorem wd_650 : (.methodLink "LoadCyclesLaw" 108 ⟨"LoadCycles", "lose", "(I)I"⟩ : Cond) ∈ TB := tb_of (List.mem_of_getElem? (i := 650) (by decide +kernel)) rfl
theorem wd_651 : (.instanceMethod ⟨"LoadCycles", "lose", "(I)I"⟩ : Cond) ∈ TB := tb_of (List.mem_of_getElem? (i := 651) (by decide +kernel)) rfl
theorem wd_652 : (.selects "LoadCycles" ⟨"LoadCycles", "lose", "(I)I"⟩ ⟨"LoadCycles", "lose", "(I)I"⟩ : Cond) ∈ TB := tb_of (List.mem_of_getElem? (i := 652) (by decide +kernel)) rfl
set_option maxRecDepth 20000 in
theorem wd_653 : (.code ⟨"LoadCycles", "lose", "(I)I"⟩ prog_1_method_24_code 3 (some .int) : Cond) ∈ TB := tb_of (List.mem_of_getElem? (i := 653) rfl) rfl
theorem wd_654 : (.methodLink "LoadCycles" 230 ⟨"LoadCycles$Sheet", "hasRow", "()Z"⟩ : Cond) ∈ TB := tb_of (List.mem_of_getElem? (i := 654) (by decide +kernel)) rfl
theorem wd_655 : (.methodLink "LoadCycles" 233 ⟨"LoadCycles$Sheet", "empty", "()V"⟩ : Cond) ∈ TB := tb_of (List.mem_of_getElem? (i := 655) (by decide +kernel)) rfl
theorem wd_656 : (.instanceMethod ⟨"LoadCycles$Sheet", "empty", "()V"⟩ : Cond) ∈ TB := tb_of (List.mem_of_getElem? (i := 656) (by decide +kernel)) rfl
theorem wd_657 : (.selects "LoadCycles$Sheet" ⟨"LoadCycles$Sheet", "empty", "()V"⟩ ⟨"LoadCycles$Sheet", "empty", "()V"⟩ : Cond) ∈ TB := tb_of (List.mem_of_getElem? (i := 657) (by decide +kernel)) rfl
set_option maxRecDepth 20000 in
theorem wd_658 : (.code ⟨"LoadCycles$Sheet", "empty", "()V"⟩ prog_5_method_3_code 1 (none : Option FieldType) : Cond) ∈ TB := tb_of (List.mem_of_getElem? (i := 658) rfl) rfl
theorem wd_659 : (.methodLink "LoadCyclesLaw" 112 ⟨"LoadCycles", "put", "(III)I"⟩ : Cond) ∈ TB := tb_of (List.mem_of_getElem? (i := 659) (by decide +kernel)) rfl
theorem wd_660 : (.instanceMethod ⟨"LoadCycles", "put", "(III)I"⟩ : Cond) ∈ TB := tb_of (List.mem_of_getElem? (i := 660) (by decide +kernel)) rfl
theorem wd_661 : (.selects "LoadCycles" ⟨"LoadCycles", "put", "(III)I"⟩ ⟨"LoadCycles", "put", "(III)I"⟩ : Cond) ∈ TB := tb_of (List.mem_of_getElem? (i := 661) (by decide +kernel)) rfl
set_option maxRecDepth 20000 in
theorem wd_662 : (.code ⟨"LoadCycles", "put", "(III)I"⟩ prog_1_method_25_code 5 (some .int) : Cond) ∈ TB := tb_of (List.mem_of_getElem? (i := 662) rfl) rfl
theorem wd_663 : (.methodLink "LoadCycles" 236 ⟨"LoadCycles$Sheet", "cut", "(I)I"⟩ : Cond) ∈ TB := tb_of (List.mem_of_getElem? (i := 663) (by decide +kernel)) rfl
theorem wd_664 : (.instanceMethod ⟨"LoadCycles$Sheet", "cut", "(I)I"⟩ : Cond) ∈ TB := tb_of (List.mem_of_getElem? (i := 664) (by decide +kernel)) rfl
theorem wd_665 : (.selects "LoadCycles$Sheet" ⟨"LoadCycles$Sheet", "cut", "(I)I"⟩ ⟨"LoadCycles$Sheet", "cut", "(I)I"⟩ : Cond) ∈ TB := tb_of (List.mem_of_getElem? (i := 665) (by decide +kernel)) rfl
set_option maxRecDepth 20000 in
theorem wd_666 : (.code ⟨"LoadCycles$Sheet", "cut", "(I)I"⟩ prog_5_method_6_code 2 (some .int) : Cond) ∈ TB := tb_of (List.mem_of_getElem? (i := 666) rfl) rfl
theorem wd_667 : (.methodLink "LoadCyclesLaw" 116 ⟨"LoadCycles", "cell", "(III)J"⟩ : Cond) ∈ TB := tb_of (List.mem_of_getElem? (i := 667) (by decide +kernel)) rfl
theorem wd_668 : (.instanceMethod ⟨"LoadCycles", "cell", "(III)J"⟩ : Cond) ∈ TB := tb_of (List.mem_of_getElem? (i := 668) (by decide +kernel)) rfl
theorem wd_669 : (.selects "LoadCycles" ⟨"LoadCycles", "cell", "(III)J"⟩ ⟨"LoadCycles", "cell", "(III)J"⟩ : Cond) ∈ TB := tb_of (List.mem_of_getElem? (i := 669) (by decide +kernel)) rfl
set_option maxRecDepth 20000 in
theorem wd_670 : (.code ⟨"LoadCycles", "cell", "(III)J"⟩ prog_1_method_26_code 5 (some .long) : Cond) ∈ TB := tb_of (List.mem_of_getElem? (i := 670) rfl) rfl
theorem wd_671 : (.methodLink "LoadCyclesLaw" 121 ⟨"LoadCycles", "copy", "(IIIII)I"⟩ : Cond) ∈ TB := tb_of (List.mem_of_getElem? (i := 671) (by decide +kernel)) rfl
theorem wd_672 : (.instanceMethod ⟨"LoadCycles", "copy", "(IIIII)I"⟩ : Cond) ∈ TB := tb_of (List.mem_of_getElem? (i := 672) (by decide +kernel)) rfl
theorem wd_673 : (.selects "LoadCycles" ⟨"LoadCycles", "copy", "(IIIII)I"⟩ ⟨"LoadCycles", "copy", "(IIIII)I"⟩ : Cond) ∈ TB := tb_of (List.mem_of_getElem? (i := 673) (by decide +kernel)) rfl
set_option maxRecDepth 20000 in
theorem wd_674 : (.code ⟨"LoadCycles", "copy", "(IIIII)I"⟩ prog_1_method_27_code 8 (some .int) : Cond) ∈ TB := tb_of (List.mem_of_getElem? (i := 674) rfl) rfl
theorem wd_675 : (.methodLink "LoadCyclesLaw" 125 ⟨"LoadCycles", "tell", "(I)I"⟩ : Cond) ∈ TB := tb_of (List.mem_of_getElem? (i := 675) (by decide +kernel)) rfl
theorem wd_676 : (.instanceMethod ⟨"LoadCycles", "tell", "(I)I"⟩ : Cond) ∈ TB := tb_of (List.mem_of_getElem? (i := 676) (by decide +kernel)) rfl
theorem wd_677 : (.selects "LoadCycles" ⟨"LoadCycles", "tell", "(I)I"⟩ ⟨"LoadCycles", "tell", "(I)I"⟩ : Cond) ∈ TB := tb_of (List.mem_of_getElem? (i := 677) (by decide +kernel)) rfl
set_option maxRecDepth 20000 in
theorem wd_678 : (.code ⟨"LoadCycles", "tell", "(I)I"⟩ prog_1_method_28_code 2 (some .int) : Cond) ∈ TB := tb_of (List.mem_of_getElem? (i := 678) rfl) rfl
theorem wd_679 : (.methodLink "LoadCycles" 242 ⟨"LoadCycles", "tellPlain", "(I)I"⟩ : Cond) ∈ TB := tb_of (List.mem_of_getElem? (i := 679) (by decide +kernel)) rfl
theorem wd_681 : (.instanceMethod ⟨"LoadCycles", "tellPlain", "(I)I"⟩ : Cond) ∈ TB := tb_of (List.mem_of_getElem? (i := 681) (by decide +kernel)) rfl
set_option maxRecDepth 20000 in
theorem wd_682 : (.code ⟨"LoadCycles", "tellPlain", "(I)I"⟩ prog_1_method_53_code 2 (some .int) : Cond) ∈ TB := tb_of (List.mem_of_getElem? (i := 682) rfl) rfl
theorem wd_683 : (.methodLink "LoadCycles" 301 ⟨"LoadCycles", "leaveTrace", "(I)V"⟩ : Cond) ∈ TB := tb_of (List.mem_of_getElem? (i := 683) (by decide +kernel)) rfl
theorem wd_685 : (.instanceMethod ⟨"LoadCycles", "leaveTrace", "(I)V"⟩ : Cond) ∈ TB := tb_of (List.mem_of_getElem? (i := 685) (by decide +kernel)) rfl
set_option maxRecDepth 20000 in
theorem wd_686 : (.code ⟨"LoadCycles", "leaveTrace", "(I)V"⟩ prog_1_method_52_code 2 (none : Option FieldType) : Cond) ∈ TB := tb_of (List.mem_of_getElem? (i := 686) rfl) rfl
theorem wd_687 : (.methodLink "LoadCycles" 245 ⟨"LoadCycles", "tellHeavy", "(I)I"⟩ : Cond) ∈ TB := tb_of (List.mem_of_getElem? (i := 687) (by decide +kernel)) rfl
theorem wd_689 : (.instanceMethod ⟨"LoadCycles", "tellHeavy", "(I)I"⟩ : Cond) ∈ TB := tb_of (List.mem_of_getElem? (i := 689) (by decide +kernel)) rfl
set_option maxRecDepth 20000 in
theorem wd_690 : (.code ⟨"LoadCycles", "tellHeavy", "(I)I"⟩ prog_1_method_54_code 2 (some .int) : Cond) ∈ TB := tb_of (List.mem_of_getElem? (i := 690) rfl) rfl
theorem wd_691 : (.methodLink "LoadCycles" 248 ⟨"LoadCycles", "tellDouble", "(I)I"⟩ : Cond) ∈ TB := tb_of (List.mem_of_getElem? (i := 691) (by decide +kernel)) rfl
theorem wd_693 : (.instanceMethod ⟨"LoadCycles", "tellDouble", "(I)I"⟩ : Cond) ∈ TB := tb_of (List.mem_of_getElem? (i := 693) (by decide +kernel)) rfl
set_option maxRecDepth 20000 in
theorem wd_694 : (.code ⟨"LoadCycles", "tellDouble", "(I)I"⟩ prog_1_method_55_code 3 (some .int) : Cond) ∈ TB := tb_of (List.mem_of_getElem? (i := 694) rfl) rfl
theorem wd_695 : (.methodLink "LoadCyclesLaw" 129 ⟨"LoadCycles", "metered", "(I)I"⟩ : Cond) ∈ TB := tb_of (List.mem_of_getElem? (i := 695) (by decide +kernel)) rfl
theorem wd_696 : (.instanceMethod ⟨"LoadCycles", "metered", "(I)I"⟩ : Cond) ∈ TB := tb_of (List.mem_of_getElem? (i := 696) (by decide +kernel)) rfl
theorem wd_697 : (.selects "LoadCycles" ⟨"LoadCycles", "metered", "(I)I"⟩ ⟨"LoadCycles", "metered", "(I)I"⟩ : Cond) ∈ TB := tb_of (List.mem_of_getElem? (i := 697) (by decide +kernel)) rfl
set_option maxRecDepth 20000 in
theorem wd_698 : (.code ⟨"LoadCycles", "metered", "(I)I"⟩ prog_1_method_29_code 2 (some .int) : Cond) ∈ TB := tb_of (List.mem_of_getElem? (i := 698) rfl) rfl
theorem wd_699 : (.methodLink "LoadCycles" 251 ⟨"LoadCycles", "ownMetering", "()I"⟩ : Cond) ∈ TB := tb_of (List.mem_of_getElem? (i := 699) (by decide +kernel)) rfl
theorem wd_701 : (.instanceMethod ⟨"LoadCycles", "ownMetering", "()I"⟩ : Cond) ∈ TB := tb_of (List.mem_of_getElem? (i := 701) (by decide +kernel)) rfl
set_option maxRecDepth 20000 in
theorem wd_702 : (.code ⟨"LoadCycles", "ownMetering", "()I"⟩ prog_1_method_57_code 1 (some .int) : Cond) ∈ TB := tb_of (List.mem_of_getElem? (i := 702) rfl) rfl
theorem wd_703 : (.methodLink "LoadCycles" 254 ⟨"LoadCycles", "lentMetering", "(I)I"⟩ : Cond) ∈ TB := tb_of (List.mem_of_getElem? (i := 703) (by decide +kernel)) rfl
theorem wd_705 : (.instanceMethod ⟨"LoadCycles", "lentMetering", "(I)I"⟩ : Cond) ∈ TB := tb_of (List.mem_of_getElem? (i := 705) (by decide +kernel)) rfl
set_option maxRecDepth 20000 in
theorem wd_706 : (.code ⟨"LoadCycles", "lentMetering", "(I)I"⟩ prog_1_method_56_code 4 (some .int) : Cond) ∈ TB := tb_of (List.mem_of_getElem? (i := 706) rfl) rfl
theorem wd_707 : (.methodLink "LoadCyclesLaw" 133 ⟨"LoadCycles", "as", "(II)I"⟩ : Cond) ∈ TB := tb_of (List.mem_of_getElem? (i := 707) (by decide +kernel)) rfl
theorem wd_708 : (.instanceMethod ⟨"LoadCycles", "as", "(II)I"⟩ : Cond) ∈ TB := tb_of (List.mem_of_getElem? (i := 708) (by decide +kernel)) rfl
theorem wd_709 : (.selects "LoadCycles" ⟨"LoadCycles", "as", "(II)I"⟩ ⟨"LoadCycles", "as", "(II)I"⟩ : Cond) ∈ TB := tb_of (List.mem_of_getElem? (i := 709) (by decide +kernel)) rfl
set_option maxRecDepth 20000 in
theorem wd_710 : (.code ⟨"LoadCycles", "as", "(II)I"⟩ prog_1_method_30_code 3 (some .int) : Cond) ∈ TB := tb_of (List.mem_of_getElem? (i := 710) rfl) rfl
theorem wd_711 : (.methodLink "LoadCyclesLaw" 137 ⟨"LoadCycles", "trace", "()I"⟩ : Cond) ∈ TB := tb_of (List.mem_of_getElem? (i := 711) (by decide +kernel)) rfl
theorem wd_712 : (.instanceMethod ⟨"LoadCycles", "trace", "()I"⟩ : Cond) ∈ TB := tb_of (List.mem_of_getElem? (i := 712) (by decide +kernel)) rfl
theorem wd_713 : (.selects "LoadCycles" ⟨"LoadCycles", "trace", "()I"⟩ ⟨"LoadCycles", "trace", "()I"⟩ : Cond) ∈ TB := tb_of (List.mem_of_getElem? (i := 713) (by decide +kernel)) rfl
set_option maxRecDepth 20000 in
theorem wd_714 : (.code ⟨"LoadCycles", "trace", "()I"⟩ prog_1_method_31_code 1 (some .int) : Cond) ∈ TB := tb_of (List.mem_of_getElem? (i := 714) rfl) rfl
theorem wd_715 : (.methodLink "LoadCyclesLaw" 142 ⟨"LoadCycles", "fault", "()I"⟩ : Cond) ∈ TB := tb_of (List.mem_of_getElem? (i := 715) (by decide +kernel)) rfl
theorem wd_716 : (.instanceMethod ⟨"LoadCycles", "fault", "()I"⟩ : Cond) ∈ TB := tb_of (List.mem_of_getElem? (i := 716) (by decide +kernel)) rfl
theorem wd_717 : (.selects "LoadCycles" ⟨"LoadCycles", "fault", "()I"⟩ ⟨"LoadCycles", "fault", "()I"⟩ : Cond) ∈ TB := tb_of (List.mem_of_getElem? (i := 717) (by decide +kernel)) rfl
set_option maxRecDepth 20000 in
theorem wd_718 : (.code ⟨"LoadCycles", "fault", "()I"⟩ prog_1_method_32_code 1 (some .int) : Cond) ∈ TB := tb_of (List.mem_of_getElem? (i := 718) rfl) rfl
theorem wd_719 : (.methodLink "LoadCyclesLaw" 146 ⟨"LoadCycles", "many", "(I)I"⟩ : Cond) ∈ TB := tb_of (List.mem_of_getElem? (i := 719) (by decide +kernel)) rfl
theorem wd_720 : (.instanceMethod ⟨"LoadCycles", "many", "(I)I"⟩ : Cond) ∈ TB := tb_of (List.mem_of_getElem? (i := 720) (by decide +kernel)) rfl
theorem wd_721 : (.selects "LoadCycles" ⟨"LoadCycles", "many", "(I)I"⟩ ⟨"LoadCycles", "many", "(I)I"⟩ : Cond) ∈ TB := tb_of (List.mem_of_getElem? (i := 721) (by decide +kernel)) rfl
set_option maxRecDepth 20000 in
theorem wd_722 : (.code ⟨"LoadCycles", "many", "(I)I"⟩ prog_1_method_33_code 2 (some .int) : Cond) ∈ TB := tb_of (List.mem_of_getElem? (i := 722) rfl) rfl
theorem wd_723 : (.methodLink "LoadCycles" 260 ⟨"LoadCycles$House", "allLevels", "()I"⟩ : Cond) ∈ TB := tb_of (List.mem_of_getElem? (i := 723) (by decide +kernel)) rfl
theorem wd_724 : (.instanceMethod ⟨"LoadCycles$House", "allLevels", "()I"⟩ : Cond) ∈ TB := tb_of (List.mem_of_getElem? (i := 724) (by decide +kernel)) rfl
theorem wd_725 : (.selects "LoadCycles$House" ⟨"LoadCycles$House", "allLevels", "()I"⟩ ⟨"LoadCycles$House", "allLevels", "()I"⟩ : Cond) ∈ TB := tb_of (List.mem_of_getElem? (i := 725) (by decide +kernel)) rfl
set_option maxRecDepth 20000 in
theorem wd_726 : (.code ⟨"LoadCycles$House", "allLevels", "()I"⟩ prog_4_method_13_code 3 (some .int) : Cond) ∈ TB := tb_of (List.mem_of_getElem? (i := 726) rfl) rfl
theorem wd_727 : (.classLink "LoadCyclesLaw" 10 "LoadCyclesModel" : Cond) ∈ TB := tb_of (List.mem_of_getElem? (i := 727) (by decide +kernel)) rfl
theorem wd_728 : (.instantiable "LoadCyclesModel" 33 : Cond) ∈ TB := tb_of (List.mem_of_getElem? (i := 728) (by decide +kernel)) rfl
theorem wd_729 : (.methodLink "LoadCyclesLaw" 12 ⟨"LoadCyclesModel", "<init>", "()V"⟩ : Cond) ∈ TB := tb_of (List.mem_of_getElem? (i := 729) (by decide +kernel)) rfl
theorem wd_730 : (.instanceMethod ⟨"LoadCyclesModel", "<init>", "()V"⟩ : Cond) ∈ TB := tb_of (List.mem_of_getElem? (i := 730) (by decide +kernel)) rfl
set_option maxRecDepth 20000 in
theorem wd_731 : (.code ⟨"LoadCyclesModel", "<init>", "()V"⟩ prog_9_method_1_code 1 (none : Option FieldType) : Cond) ∈ TB := tb_of (List.mem_of_getElem? (i := 731) rfl) rfl
theorem wd_732 : (.methodLink "LoadCyclesModel" 1 ⟨"java/lang/Object", "<init>", "()V"⟩ : Cond) ∈ TB := tb_of (List.mem_of_getElem? (i := 732) (by decide +kernel)) rfl
theorem wd_733 : (.fieldLink "LoadCyclesModel" 79 "LoadCyclesModel" "fault" "I" : Cond) ∈ TB := tb_of (List.mem_of_getElem? (i := 733) (by decide +kernel)) rfl
theorem wd_734 : (.fieldLink "LoadCyclesModel" 281 "LoadCyclesModel" "trace" "I" : Cond) ∈ TB := tb_of (List.mem_of_getElem? (i := 734) (by decide +kernel)) rfl
theorem wd_735 : (.fieldLink "LoadCyclesModel" 9 "LoadCyclesModel" "sorts" "[I" : Cond) ∈ TB := tb_of (List.mem_of_getElem? (i := 735) (by decide +kernel)) rfl
theorem wd_736 : (.fieldLink "LoadCyclesModel" 13 "LoadCyclesModel" "sheetLong" "[I" : Cond) ∈ TB := tb_of (List.mem_of_getElem? (i := 736) (by decide +kernel)) rfl
theorem wd_737 : (.fieldLink "LoadCyclesModel" 16 "LoadCyclesModel" "cells" "[I" : Cond) ∈ TB := tb_of (List.mem_of_getElem? (i := 737) (by decide +kernel)) rfl
theorem wd_738 : (.fieldLink "LoadCyclesModel" 93 "LoadCyclesModel" "many" "I" : Cond) ∈ TB := tb_of (List.mem_of_getElem? (i := 738) (by decide +kernel)) rfl
theorem wd_739 : (.fieldLink "LoadCyclesModel" 19 "LoadCyclesModel" "kind" "[I" : Cond) ∈ TB := tb_of (List.mem_of_getElem? (i := 739) (by decide +kernel)) rfl
theorem wd_740 : (.fieldLink "LoadCyclesModel" 22 "LoadCyclesModel" "levels" "[I" : Cond) ∈ TB := tb_of (List.mem_of_getElem? (i := 740) (by decide +kernel)) rfl
theorem wd_741 : (.fieldLink "LoadCyclesModel" 25 "LoadCyclesModel" "told" "[I" : Cond) ∈ TB := tb_of (List.mem_of_getElem? (i := 741) (by decide +kernel)) rfl
theorem wd_742 : (.fieldLink "LoadCyclesModel" 96 "LoadCyclesModel" "times" "I" : Cond) ∈ TB := tb_of (List.mem_of_getElem? (i := 742) (by decide +kernel)) rfl
theorem wd_743 : (.fieldLink "LoadCyclesModel" 28 "LoadCyclesModel" "value" "[I" : Cond) ∈ TB := tb_of (List.mem_of_getElem? (i := 743) (by decide +kernel)) rfl
theorem wd_744 : (.fieldLink "LoadCyclesModel" 137 "LoadCyclesModel" "base" "I" : Cond) ∈ TB := tb_of (List.mem_of_getElem? (i := 744) (by decide +kernel)) rfl
theorem wd_745 : (.fieldLink "LoadCyclesModel" 99 "LoadCyclesModel" "at" "I" : Cond) ∈ TB := tb_of (List.mem_of_getElem? (i := 745) (by decide +kernel)) rfl
theorem wd_746 : (.fieldLink "LoadCyclesModel" 110 "LoadCyclesModel" "readMany" "I" : Cond) ∈ TB := tb_of (List.mem_of_getElem? (i := 746) (by decide +kernel)) rfl
theorem wd_747 : (.fieldLink "LoadCyclesModel" 31 "LoadCyclesModel" "readKind" "[I" : Cond) ∈ TB := tb_of (List.mem_of_getElem? (i := 747) (by decide +kernel)) rfl
theorem wd_748 : (.fieldLink "LoadCyclesModel" 34 "LoadCyclesModel" "readLevels" "[I" : Cond) ∈ TB := tb_of (List.mem_of_getElem? (i := 748) (by decide +kernel)) rfl
theorem wd_749 : (.fieldLink "LoadCyclesModel" 37 "LoadCyclesModel" "readTold" "[I" : Cond) ∈ TB := tb_of (List.mem_of_getElem? (i := 749) (by decide +kernel)) rfl
theorem wd_750 : (.fieldLink "LoadCyclesModel" 143 "LoadCyclesModel" "isFound" "Z" : Cond) ∈ TB := tb_of (List.mem_of_getElem? (i := 750) (by decide +kernel)) rfl
theorem wd_751 : (.fieldLink "LoadCyclesModel" 40 "LoadCyclesModel" "power" "[I" : Cond) ∈ TB := tb_of (List.mem_of_getElem? (i := 751) (by decide +kernel)) rfl
theorem wd_752 : (.fieldLink "LoadCyclesModel" 43 "LoadCyclesModel" "goes" "[I" : Cond) ∈ TB := tb_of (List.mem_of_getElem? (i := 752) (by decide +kernel)) rfl
theorem wd_753 : (.fieldLink "LoadCyclesModel" 46 "LoadCyclesModel" "cost" "[I" : Cond) ∈ TB := tb_of (List.mem_of_getElem? (i := 753) (by decide +kernel)) rfl
theorem wd_754 : (.fieldLink "LoadCyclesModel" 49 "LoadCyclesModel" "rank" "[I" : Cond) ∈ TB := tb_of (List.mem_of_getElem? (i := 754) (by decide +kernel)) rfl
theorem wd_755 : (.fieldLink "LoadCyclesModel" 52 "LoadCyclesModel" "thenCost" "[I" : Cond) ∈ TB := tb_of (List.mem_of_getElem? (i := 755) (by decide +kernel)) rfl
theorem wd_756 : (.fieldLink "LoadCyclesModel" 55 "LoadCyclesModel" "thenRank" "[I" : Cond) ∈ TB := tb_of (List.mem_of_getElem? (i := 756) (by decide +kernel)) rfl
theorem wd_757 : (.fieldLink "LoadCyclesModel" 58 "LoadCyclesModel" "start" "[I" : Cond) ∈ TB := tb_of (List.mem_of_getElem? (i := 757) (by decide +kernel)) rfl
theorem wd_758 : (.fieldLink "LoadCyclesModel" 61 "LoadCyclesModel" "from" "[I" : Cond) ∈ TB := tb_of (List.mem_of_getElem? (i := 758) (by decide +kernel)) rfl
theorem wd_759 : (.fieldLink "LoadCyclesModel" 64 "LoadCyclesModel" "best" "[I" : Cond) ∈ TB := tb_of (List.mem_of_getElem? (i := 759) (by decide +kernel)) rfl
theorem wd_760 : (.fieldLink "LoadCyclesModel" 67 "LoadCyclesModel" "keptTold" "[I" : Cond) ∈ TB := tb_of (List.mem_of_getElem? (i := 760) (by decide +kernel)) rfl
theorem wd_761 : (.fieldLink "LoadCyclesModel" 70 "LoadCyclesModel" "keptValue" "[I" : Cond) ∈ TB := tb_of (List.mem_of_getElem? (i := 761) (by decide +kernel)) rfl
theorem wd_762 : (.fieldLink "LoadCyclesModel" 225 "LoadCyclesModel" "keptBase" "I" : Cond) ∈ TB := tb_of (List.mem_of_getElem? (i := 762) (by decide +kernel)) rfl
theorem wd_763 : (.fieldLink "LoadCyclesModel" 140 "LoadCyclesModel" "readings" "I" : Cond) ∈ TB := tb_of (List.mem_of_getElem? (i := 763) (by decide +kernel)) rfl
theorem wd_764 : (.fieldLink "LoadCyclesModel" 73 "LoadCyclesModel" "readOf" "[I" : Cond) ∈ TB := tb_of (List.mem_of_getElem? (i := 764) (by decide +kernel)) rfl
theorem wd_765 : (.fieldLink "LoadCyclesModel" 76 "LoadCyclesModel" "readEnergy" "[I" : Cond) ∈ TB := tb_of (List.mem_of_getElem? (i := 765) (by decide +kernel)) rfl
theorem wd_766 : (.lays "LoadCyclesModel" "LoadCyclesModel" "fault" "I" : Cond) ∈ TB := tb_of (List.mem_of_getElem? (i := 766) (by decide +kernel)) rfl
theorem wd_768 : (.lays "LoadCyclesModel" "LoadCyclesModel" "trace" "I" : Cond) ∈ TB := tb_of (List.mem_of_getElem? (i := 768) (by decide +kernel)) rfl
theorem wd_770 : (.laysFinal "LoadCyclesModel" "LoadCyclesModel" "sorts" "[I" : Cond) ∈ TB := tb_of (List.mem_of_getElem? (i := 770) (by decide +kernel)) rfl
theorem wd_772 : (.laysFinal "LoadCyclesModel" "LoadCyclesModel" "sheetLong" "[I" : Cond) ∈ TB := tb_of (List.mem_of_getElem? (i := 772) (by decide +kernel)) rfl
theorem wd_774 : (.laysFinal "LoadCyclesModel" "LoadCyclesModel" "cells" "[I" : Cond) ∈ TB := tb_of (List.mem_of_getElem? (i := 774) (by decide +kernel)) rfl
theorem wd_776 : (.lays "LoadCyclesModel" "LoadCyclesModel" "many" "I" : Cond) ∈ TB := tb_of (List.mem_of_getElem? (i := 776) (by decide +kernel)) rfl
theorem wd_778 : (.laysFinal "LoadCyclesModel" "LoadCyclesModel" "kind" "[I" : Cond) ∈ TB := tb_of (List.mem_of_getElem? (i := 778) (by decide +kernel)) rfl
theorem wd_780 : (.laysFinal "LoadCyclesModel" "LoadCyclesModel" "levels" "[I" : Cond) ∈ TB := tb_of (List.mem_of_getElem? (i := 780) (by decide +kernel)) rfl
theorem wd_782 : (.laysFinal "LoadCyclesModel" "LoadCyclesModel" "told" "[I" : Cond) ∈ TB := tb_of (List.mem_of_getElem? (i := 782) (by decide +kernel)) rfl
theorem wd_784 : (.lays "LoadCyclesModel" "LoadCyclesModel" "times" "I" : Cond) ∈ TB := tb_of (List.mem_of_getElem? (i := 784) (by decide +kernel)) rfl
theorem wd_786 : (.laysFinal "LoadCyclesModel" "LoadCyclesModel" "value" "[I" : Cond) ∈ TB := tb_of (List.mem_of_getElem? (i := 786) (by decide +kernel)) rfl
theorem wd_788 : (.lays "LoadCyclesModel" "LoadCyclesModel" "base" "I" : Cond) ∈ TB := tb_of (List.mem_of_getElem? (i := 788) (by decide +kernel)) rfl
theorem wd_790 : (.lays "LoadCyclesModel" "LoadCyclesModel" "at" "I" : Cond) ∈ TB := tb_of (List.mem_of_getElem? (i := 790) (by decide +kernel)) rfl
theorem wd_792 : (.lays "LoadCyclesModel" "LoadCyclesModel" "readMany" "I" : Cond) ∈ TB := tb_of (List.mem_of_getElem? (i := 792) (by decide +kernel)) rfl
theorem wd_794 : (.laysFinal "LoadCyclesModel" "LoadCyclesModel" "readKind" "[I" : Cond) ∈ TB := tb_of (List.mem_of_getElem? (i := 794) (by decide +kernel)) rfl
theorem wd_796 : (.laysFinal "LoadCyclesModel" "LoadCyclesModel" "readLevels" "[I" : Cond) ∈ TB := tb_of (List.mem_of_getElem? (i := 796) (by decide +kernel)) rfl
theorem wd_798 : (.laysFinal "LoadCyclesModel" "LoadCyclesModel" "readTold" "[I" : Cond) ∈ TB := tb_of (List.mem_of_getElem? (i := 798) (by decide +kernel)) rfl
theorem wd_800 : (.lays "LoadCyclesModel" "LoadCyclesModel" "isFound" "Z" : Cond) ∈ TB := tb_of (List.mem_of_getElem? (i := 800) (by decide +kernel)) rfl
theorem wd_802 : (.laysFinal "LoadCyclesModel" "LoadCyclesModel" "power" "[I" : Cond) ∈ TB := tb_of (List.mem_of_getElem? (i := 802) (by decide +kernel)) rfl
theorem wd_804 : (.laysFinal "LoadCyclesModel" "LoadCyclesModel" "goes" "[I" : Cond) ∈ TB := tb_of (List.mem_of_getElem? (i := 804) (by decide +kernel)) rfl
theorem wd_806 : (.laysFinal "LoadCyclesModel" "LoadCyclesModel" "cost" "[I" : Cond) ∈ TB := tb_of (List.mem_of_getElem? (i := 806) (by decide +kernel)) rfl
theorem wd_808 : (.laysFinal "LoadCyclesModel" "LoadCyclesModel" "rank" "[I" : Cond) ∈ TB := tb_of (List.mem_of_getElem? (i := 808) (by decide +kernel)) rfl
theorem wd_810 : (.laysFinal "LoadCyclesModel" "LoadCyclesModel" "thenCost" "[I" : Cond) ∈ TB := tb_of (List.mem_of_getElem? (i := 810) (by decide +kernel)) rfl
theorem wd_812 : (.laysFinal "LoadCyclesModel" "LoadCyclesModel" "thenRank" "[I" : Cond) ∈ TB := tb_of (List.mem_of_getElem? (i := 812) (by decide +kernel)) rfl
theorem wd_814 : (.laysFinal "LoadCyclesModel" "LoadCyclesModel" "start" "[I" : Cond) ∈ TB := tb_of (List.mem_of_getElem? (i := 814) (by decide +kernel)) rfl
theorem wd_816 : (.laysFinal "LoadCyclesModel" "LoadCyclesModel" "from" "[I" : Cond) ∈ TB := tb_of (List.mem_of_getElem? (i := 816) (by decide +kernel)) rfl
theorem wd_818 : (.laysFinal "LoadCyclesModel" "LoadCyclesModel" "best" "[I" : Cond) ∈ TB := tb_of (List.mem_of_getElem? (i := 818) (by decide +kernel)) rfl
theorem wd_820 : (.laysFinal "LoadCyclesModel" "LoadCyclesModel" "keptTold" "[I" : Cond) ∈ TB := tb_of (List.mem_of_getElem? (i := 820) (by decide +kernel)) rfl
theorem wd_822 : (.laysFinal "LoadCyclesModel" "LoadCyclesModel" "keptValue" "[I" : Cond) ∈ TB := tb_of (List.mem_of_getElem? (i := 822) (by decide +kernel)) rfl
theorem wd_824 : (.lays "LoadCyclesModel" "LoadCyclesModel" "keptBase" "I" : Cond) ∈ TB := tb_of (List.mem_of_getElem? (i := 824) (by decide +kernel)) rfl
theorem wd_826 : (.lays "LoadCyclesModel" "LoadCyclesModel" "readings" "I" : Cond) ∈ TB := tb_of (List.mem_of_getElem? (i := 826) (by decide +kernel)) rfl
theorem wd_828 : (.laysFinal "LoadCyclesModel" "LoadCyclesModel" "readOf" "[I" : Cond) ∈ TB := tb_of (List.mem_of_getElem? (i := 828) (by decide +kernel)) rfl
theorem wd_830 : (.laysFinal "LoadCyclesModel" "LoadCyclesModel" "readEnergy" "[I" : Cond) ∈ TB := tb_of (List.mem_of_getElem? (i := 830) (by decide +kernel)) rfl
theorem wd_833 : (.methodLink "LoadCyclesLaw" 17 ⟨"LoadCyclesModel", "house", "(IIII)I"⟩ : Cond) ∈ TB := tb_of (List.mem_of_getElem? (i := 833) (by decide +kernel)) rfl
theorem wd_834 : (.instanceMethod ⟨"LoadCyclesModel", "house", "(IIII)I"⟩ : Cond) ∈ TB := tb_of (List.mem_of_getElem? (i := 834) (by decide +kernel)) rfl
theorem wd_835 : (.selects "LoadCyclesModel" ⟨"LoadCyclesModel", "house", "(IIII)I"⟩ ⟨"LoadCyclesModel", "house", "(IIII)I"⟩ : Cond) ∈ TB := tb_of (List.mem_of_getElem? (i := 835) (by decide +kernel)) rfl
set_option maxRecDepth 20000 in
theorem wd_836 : (.code ⟨"LoadCyclesModel", "house", "(IIII)I"⟩ prog_9_method_14_code 9 (some .int) : Cond) ∈ TB := tb_of (List.mem_of_getElem? (i := 836) rfl) rfl
theorem wd_837 : (.methodLink "LoadCyclesModel" 121 ⟨"LoadCyclesModel", "isSheet", "(I)Z"⟩ : Cond) ∈ TB := tb_of (List.mem_of_getElem? (i := 837) (by decide +kernel)) rfl
theorem wd_838 : (.static ⟨"LoadCyclesModel", "isSheet", "(I)Z"⟩ : Cond) ∈ TB := tb_of (List.mem_of_getElem? (i := 838) (by decide +kernel)) rfl
set_option maxRecDepth 20000 in
theorem wd_839 : (.code ⟨"LoadCyclesModel", "isSheet", "(I)Z"⟩ prog_9_method_5_code 1 (some .boolean) : Cond) ∈ TB := tb_of (List.mem_of_getElem? (i := 839) rfl) rfl
theorem wd_840 : (.constantLong "LoadCyclesModel" 85 (3 : Int64) : Cond) ∈ TB := tb_of (List.mem_of_getElem? (i := 840) (by decide +kernel)) rfl
theorem wd_841 : (.methodLink "LoadCyclesModel" 87 ⟨"LoadCyclesModel", "within", "(JJJ)Z"⟩ : Cond) ∈ TB := tb_of (List.mem_of_getElem? (i := 841) (by decide +kernel)) rfl
theorem wd_842 : (.static ⟨"LoadCyclesModel", "within", "(JJJ)Z"⟩ : Cond) ∈ TB := tb_of (List.mem_of_getElem? (i := 842) (by decide +kernel)) rfl
set_option maxRecDepth 20000 in
theorem wd_843 : (.code ⟨"LoadCyclesModel", "within", "(JJJ)Z"⟩ prog_9_method_4_code 6 (some .boolean) : Cond) ∈ TB := tb_of (List.mem_of_getElem? (i := 843) rfl) rfl
theorem wd_844 : (.methodLink "LoadCyclesModel" 124 ⟨"LoadCyclesModel", "isSort", "(I)Z"⟩ : Cond) ∈ TB := tb_of (List.mem_of_getElem? (i := 844) (by decide +kernel)) rfl
theorem wd_845 : (.static ⟨"LoadCyclesModel", "isSort", "(I)Z"⟩ : Cond) ∈ TB := tb_of (List.mem_of_getElem? (i := 845) (by decide +kernel)) rfl
set_option maxRecDepth 20000 in
theorem wd_846 : (.code ⟨"LoadCyclesModel", "isSort", "(I)Z"⟩ prog_9_method_6_code 1 (some .boolean) : Cond) ∈ TB := tb_of (List.mem_of_getElem? (i := 846) rfl) rfl
theorem wd_847 : (.constantLong "LoadCyclesModel" 91 (2 : Int64) : Cond) ∈ TB := tb_of (List.mem_of_getElem? (i := 847) (by decide +kernel)) rfl
theorem wd_848 : (.methodLink "LoadCyclesModel" 127 ⟨"LoadCyclesModel", "against", "(IIII)I"⟩ : Cond) ∈ TB := tb_of (List.mem_of_getElem? (i := 848) (by decide +kernel)) rfl
theorem wd_850 : (.instanceMethod ⟨"LoadCyclesModel", "against", "(IIII)I"⟩ : Cond) ∈ TB := tb_of (List.mem_of_getElem? (i := 850) (by decide +kernel)) rfl
set_option maxRecDepth 20000 in
theorem wd_851 : (.code ⟨"LoadCyclesModel", "against", "(IIII)I"⟩ prog_9_method_7_code 5 (some .int) : Cond) ∈ TB := tb_of (List.mem_of_getElem? (i := 851) rfl) rfl
theorem wd_852 : (.methodLink "LoadCyclesModel" 131 ⟨"LoadCyclesModel", "fails", "(I)I"⟩ : Cond) ∈ TB := tb_of (List.mem_of_getElem? (i := 852) (by decide +kernel)) rfl
theorem wd_854 : (.instanceMethod ⟨"LoadCyclesModel", "fails", "(I)I"⟩ : Cond) ∈ TB := tb_of (List.mem_of_getElem? (i := 854) (by decide +kernel)) rfl
set_option maxRecDepth 20000 in
theorem wd_855 : (.code ⟨"LoadCyclesModel", "fails", "(I)I"⟩ prog_9_method_2_code 2 (some .int) : Cond) ∈ TB := tb_of (List.mem_of_getElem? (i := 855) rfl) rfl
theorem wd_856 : (.methodLink "LoadCyclesModel" 134 ⟨"LoadCyclesModel", "readAll", "(I)Z"⟩ : Cond) ∈ TB := tb_of (List.mem_of_getElem? (i := 856) (by decide +kernel)) rfl
theorem wd_858 : (.instanceMethod ⟨"LoadCyclesModel", "readAll", "(I)Z"⟩ : Cond) ∈ TB := tb_of (List.mem_of_getElem? (i := 858) (by decide +kernel)) rfl
set_option maxRecDepth 20000 in
theorem wd_859 : (.code ⟨"LoadCyclesModel", "readAll", "(I)Z"⟩ prog_9_method_13_code 2 (some .boolean) : Cond) ∈ TB := tb_of (List.mem_of_getElem? (i := 859) rfl) rfl
theorem wd_860 : (.methodLink "LoadCyclesModel" 113 ⟨"LoadCyclesModel", "isSign", "(II)Z"⟩ : Cond) ∈ TB := tb_of (List.mem_of_getElem? (i := 860) (by decide +kernel)) rfl
theorem wd_862 : (.instanceMethod ⟨"LoadCyclesModel", "isSign", "(II)Z"⟩ : Cond) ∈ TB := tb_of (List.mem_of_getElem? (i := 862) (by decide +kernel)) rfl
set_option maxRecDepth 20000 in
theorem wd_863 : (.code ⟨"LoadCyclesModel", "isSign", "(II)Z"⟩ prog_9_method_10_code 3 (some .boolean) : Cond) ∈ TB := tb_of (List.mem_of_getElem? (i := 863) rfl) rfl
theorem wd_864 : (.methodLink "LoadCyclesModel" 117 ⟨"LoadCyclesModel", "readAppliance", "(I)Z"⟩ : Cond) ∈ TB := tb_of (List.mem_of_getElem? (i := 864) (by decide +kernel)) rfl
theorem wd_866 : (.instanceMethod ⟨"LoadCyclesModel", "readAppliance", "(I)Z"⟩ : Cond) ∈ TB := tb_of (List.mem_of_getElem? (i := 866) (by decide +kernel)) rfl
set_option maxRecDepth 20000 in
theorem wd_867 : (.code ⟨"LoadCyclesModel", "readAppliance", "(I)Z"⟩ prog_9_method_12_code 4 (some .boolean) : Cond) ∈ TB := tb_of (List.mem_of_getElem? (i := 867) rfl) rfl
theorem wd_868 : (.methodLink "LoadCyclesModel" 102 ⟨"LoadCyclesModel", "kindBy", "(I)I"⟩ : Cond) ∈ TB := tb_of (List.mem_of_getElem? (i := 868) (by decide +kernel)) rfl
theorem wd_869 : (.static ⟨"LoadCyclesModel", "kindBy", "(I)I"⟩ : Cond) ∈ TB := tb_of (List.mem_of_getElem? (i := 869) (by decide +kernel)) rfl
set_option maxRecDepth 20000 in
theorem wd_870 : (.code ⟨"LoadCyclesModel", "kindBy", "(I)I"⟩ prog_9_method_11_code 1 (some .int) : Cond) ∈ TB := tb_of (List.mem_of_getElem? (i := 870) rfl) rfl
theorem wd_871 : (.constantLong "LoadCyclesModel" 106 (49 : Int64) : Cond) ∈ TB := tb_of (List.mem_of_getElem? (i := 871) (by decide +kernel)) rfl
theorem wd_872 : (.constantLong "LoadCyclesModel" 108 (57 : Int64) : Cond) ∈ TB := tb_of (List.mem_of_getElem? (i := 872) (by decide +kernel)) rfl
theorem wd_873 : (.methodLink "LoadCyclesLaw" 22 ⟨"LoadCyclesModel", "ofAppliance", "(II)I"⟩ : Cond) ∈ TB := tb_of (List.mem_of_getElem? (i := 873) (by decide +kernel)) rfl
theorem wd_874 : (.instanceMethod ⟨"LoadCyclesModel", "ofAppliance", "(II)I"⟩ : Cond) ∈ TB := tb_of (List.mem_of_getElem? (i := 874) (by decide +kernel)) rfl
theorem wd_875 : (.selects "LoadCyclesModel" ⟨"LoadCyclesModel", "ofAppliance", "(II)I"⟩ ⟨"LoadCyclesModel", "ofAppliance", "(II)I"⟩ : Cond) ∈ TB := tb_of (List.mem_of_getElem? (i := 875) (by decide +kernel)) rfl
set_option maxRecDepth 20000 in
theorem wd_876 : (.code ⟨"LoadCyclesModel", "ofAppliance", "(II)I"⟩ prog_9_method_16_code 3 (some .int) : Cond) ∈ TB := tb_of (List.mem_of_getElem? (i := 876) rfl) rfl
theorem wd_877 : (.methodLink "LoadCyclesModel" 147 ⟨"LoadCyclesModel", "isAppliance", "(I)Z"⟩ : Cond) ∈ TB := tb_of (List.mem_of_getElem? (i := 877) (by decide +kernel)) rfl
theorem wd_879 : (.instanceMethod ⟨"LoadCyclesModel", "isAppliance", "(I)Z"⟩ : Cond) ∈ TB := tb_of (List.mem_of_getElem? (i := 879) (by decide +kernel)) rfl
set_option maxRecDepth 20000 in
theorem wd_880 : (.code ⟨"LoadCyclesModel", "isAppliance", "(I)Z"⟩ prog_9_method_8_code 2 (some .boolean) : Cond) ∈ TB := tb_of (List.mem_of_getElem? (i := 880) rfl) rfl
theorem wd_881 : (.constantLong "LoadCyclesModel" 150 (10 : Int64) : Cond) ∈ TB := tb_of (List.mem_of_getElem? (i := 881) (by decide +kernel)) rfl
theorem wd_882 : (.constantLong "LoadCyclesModel" 152 (12 : Int64) : Cond) ∈ TB := tb_of (List.mem_of_getElem? (i := 882) (by decide +kernel)) rfl
theorem wd_883 : (.constantLong "LoadCyclesModel" 154 (20 : Int64) : Cond) ∈ TB := tb_of (List.mem_of_getElem? (i := 883) (by decide +kernel)) rfl
theorem wd_884 : (.constantLong "LoadCyclesModel" 156 (22 : Int64) : Cond) ∈ TB := tb_of (List.mem_of_getElem? (i := 884) (by decide +kernel)) rfl
theorem wd_885 : (.methodLink "LoadCyclesModel" 158 ⟨"LoadCyclesModel", "powerOf", "(II)I"⟩ : Cond) ∈ TB := tb_of (List.mem_of_getElem? (i := 885) (by decide +kernel)) rfl
theorem wd_887 : (.instanceMethod ⟨"LoadCyclesModel", "powerOf", "(II)I"⟩ : Cond) ∈ TB := tb_of (List.mem_of_getElem? (i := 887) (by decide +kernel)) rfl
set_option maxRecDepth 20000 in
theorem wd_888 : (.code ⟨"LoadCyclesModel", "powerOf", "(II)I"⟩ prog_9_method_15_code 4 (some .int) : Cond) ∈ TB := tb_of (List.mem_of_getElem? (i := 888) rfl) rfl
theorem wd_889 : (.methodLink "LoadCyclesLaw" 27 ⟨"LoadCyclesModel", "level", "(III)I"⟩ : Cond) ∈ TB := tb_of (List.mem_of_getElem? (i := 889) (by decide +kernel)) rfl
theorem wd_890 : (.instanceMethod ⟨"LoadCyclesModel", "level", "(III)I"⟩ : Cond) ∈ TB := tb_of (List.mem_of_getElem? (i := 890) (by decide +kernel)) rfl
theorem wd_891 : (.selects "LoadCyclesModel" ⟨"LoadCyclesModel", "level", "(III)I"⟩ ⟨"LoadCyclesModel", "level", "(III)I"⟩ : Cond) ∈ TB := tb_of (List.mem_of_getElem? (i := 891) (by decide +kernel)) rfl
set_option maxRecDepth 20000 in
theorem wd_892 : (.code ⟨"LoadCyclesModel", "level", "(III)I"⟩ prog_9_method_17_code 5 (some .int) : Cond) ∈ TB := tb_of (List.mem_of_getElem? (i := 892) rfl) rfl
theorem wd_893 : (.constantLong "LoadCyclesModel" 162 (9 : Int64) : Cond) ∈ TB := tb_of (List.mem_of_getElem? (i := 893) (by decide +kernel)) rfl
theorem wd_894 : (.methodLink "LoadCyclesLaw" 31 ⟨"LoadCyclesModel", "meter", "(IIII)I"⟩ : Cond) ∈ TB := tb_of (List.mem_of_getElem? (i := 894) (by decide +kernel)) rfl
theorem wd_895 : (.instanceMethod ⟨"LoadCyclesModel", "meter", "(IIII)I"⟩ : Cond) ∈ TB := tb_of (List.mem_of_getElem? (i := 895) (by decide +kernel)) rfl
theorem wd_896 : (.selects "LoadCyclesModel" ⟨"LoadCyclesModel", "meter", "(IIII)I"⟩ ⟨"LoadCyclesModel", "meter", "(IIII)I"⟩ : Cond) ∈ TB := tb_of (List.mem_of_getElem? (i := 896) (by decide +kernel)) rfl
set_option maxRecDepth 20000 in
theorem wd_897 : (.code ⟨"LoadCyclesModel", "meter", "(IIII)I"⟩ prog_9_method_18_code 8 (some .int) : Cond) ∈ TB := tb_of (List.mem_of_getElem? (i := 897) rfl) rfl
theorem wd_898 : (.constantLong "LoadCyclesModel" 164 (99 : Int64) : Cond) ∈ TB := tb_of (List.mem_of_getElem? (i := 898) (by decide +kernel)) rfl
theorem wd_899 : (.methodLink "LoadCyclesLaw" 36 ⟨"LoadCyclesModel", "value", "(I)I"⟩ : Cond) ∈ TB := tb_of (List.mem_of_getElem? (i := 899) (by decide +kernel)) rfl
theorem wd_900 : (.instanceMethod ⟨"LoadCyclesModel", "value", "(I)I"⟩ : Cond) ∈ TB := tb_of (List.mem_of_getElem? (i := 900) (by decide +kernel)) rfl
theorem wd_901 : (.selects "LoadCyclesModel" ⟨"LoadCyclesModel", "value", "(I)I"⟩ ⟨"LoadCyclesModel", "value", "(I)I"⟩ : Cond) ∈ TB := tb_of (List.mem_of_getElem? (i := 901) (by decide +kernel)) rfl
set_option maxRecDepth 20000 in
theorem wd_902 : (.code ⟨"LoadCyclesModel", "value", "(I)I"⟩ prog_9_method_19_code 2 (some .int) : Cond) ∈ TB := tb_of (List.mem_of_getElem? (i := 902) rfl) rfl
theorem wd_903 : (.methodLink "LoadCyclesModel" 166 ⟨"LoadCyclesModel", "isTime", "(I)Z"⟩ : Cond) ∈ TB := tb_of (List.mem_of_getElem? (i := 903) (by decide +kernel)) rfl
theorem wd_905 : (.instanceMethod ⟨"LoadCyclesModel", "isTime", "(I)Z"⟩ : Cond) ∈ TB := tb_of (List.mem_of_getElem? (i := 905) (by decide +kernel)) rfl
set_option maxRecDepth 20000 in
theorem wd_906 : (.code ⟨"LoadCyclesModel", "isTime", "(I)Z"⟩ prog_9_method_9_code 2 (some .boolean) : Cond) ∈ TB := tb_of (List.mem_of_getElem? (i := 906) rfl) rfl
theorem wd_907 : (.methodLink "LoadCyclesLaw" 40 ⟨"LoadCyclesModel", "base", "(I)I"⟩ : Cond) ∈ TB := tb_of (List.mem_of_getElem? (i := 907) (by decide +kernel)) rfl
theorem wd_908 : (.instanceMethod ⟨"LoadCyclesModel", "base", "(I)I"⟩ : Cond) ∈ TB := tb_of (List.mem_of_getElem? (i := 908) (by decide +kernel)) rfl
theorem wd_909 : (.selects "LoadCyclesModel" ⟨"LoadCyclesModel", "base", "(I)I"⟩ ⟨"LoadCyclesModel", "base", "(I)I"⟩ : Cond) ∈ TB := tb_of (List.mem_of_getElem? (i := 909) (by decide +kernel)) rfl
set_option maxRecDepth 20000 in
theorem wd_910 : (.code ⟨"LoadCyclesModel", "base", "(I)I"⟩ prog_9_method_21_code 3 (some .int) : Cond) ∈ TB := tb_of (List.mem_of_getElem? (i := 910) rfl) rfl
theorem wd_911 : (.methodLink "LoadCyclesModel" 169 ⟨"LoadCyclesModel", "canBase", "(I)Z"⟩ : Cond) ∈ TB := tb_of (List.mem_of_getElem? (i := 911) (by decide +kernel)) rfl
theorem wd_913 : (.instanceMethod ⟨"LoadCyclesModel", "canBase", "(I)Z"⟩ : Cond) ∈ TB := tb_of (List.mem_of_getElem? (i := 913) (by decide +kernel)) rfl
set_option maxRecDepth 20000 in
theorem wd_914 : (.code ⟨"LoadCyclesModel", "canBase", "(I)Z"⟩ prog_9_method_20_code 3 (some .boolean) : Cond) ∈ TB := tb_of (List.mem_of_getElem? (i := 914) rfl) rfl
theorem wd_915 : (.methodLink "LoadCyclesLaw" 44 ⟨"LoadCyclesModel", "at", "(II)I"⟩ : Cond) ∈ TB := tb_of (List.mem_of_getElem? (i := 915) (by decide +kernel)) rfl
theorem wd_916 : (.instanceMethod ⟨"LoadCyclesModel", "at", "(II)I"⟩ : Cond) ∈ TB := tb_of (List.mem_of_getElem? (i := 916) (by decide +kernel)) rfl
theorem wd_917 : (.selects "LoadCyclesModel" ⟨"LoadCyclesModel", "at", "(II)I"⟩ ⟨"LoadCyclesModel", "at", "(II)I"⟩ : Cond) ∈ TB := tb_of (List.mem_of_getElem? (i := 917) (by decide +kernel)) rfl
set_option maxRecDepth 20000 in
theorem wd_918 : (.code ⟨"LoadCyclesModel", "at", "(II)I"⟩ prog_9_method_38_code 3 (some .int) : Cond) ∈ TB := tb_of (List.mem_of_getElem? (i := 918) rfl) rfl
theorem wd_919 : (.methodLink "LoadCyclesModel" 202 ⟨"LoadCyclesModel", "findBest", "()V"⟩ : Cond) ∈ TB := tb_of (List.mem_of_getElem? (i := 919) (by decide +kernel)) rfl
theorem wd_921 : (.instanceMethod ⟨"LoadCyclesModel", "findBest", "()V"⟩ : Cond) ∈ TB := tb_of (List.mem_of_getElem? (i := 921) (by decide +kernel)) rfl
set_option maxRecDepth 20000 in
theorem wd_922 : (.code ⟨"LoadCyclesModel", "findBest", "()V"⟩ prog_9_method_30_code 3 (none : Option FieldType) : Cond) ∈ TB := tb_of (List.mem_of_getElem? (i := 922) rfl) rfl
theorem wd_923 : (.methodLink "LoadCyclesModel" 188 ⟨"LoadCyclesModel", "prepare", "()V"⟩ : Cond) ∈ TB := tb_of (List.mem_of_getElem? (i := 923) (by decide +kernel)) rfl
theorem wd_925 : (.instanceMethod ⟨"LoadCyclesModel", "prepare", "()V"⟩ : Cond) ∈ TB := tb_of (List.mem_of_getElem? (i := 925) (by decide +kernel)) rfl
set_option maxRecDepth 20000 in
theorem wd_926 : (.code ⟨"LoadCyclesModel", "prepare", "()V"⟩ prog_9_method_26_code 3 (none : Option FieldType) : Cond) ∈ TB := tb_of (List.mem_of_getElem? (i := 926) rfl) rfl
theorem wd_927 : (.methodLink "LoadCyclesModel" 175 ⟨"LoadCyclesModel", "powerOfRow", "(I)I"⟩ : Cond) ∈ TB := tb_of (List.mem_of_getElem? (i := 927) (by decide +kernel)) rfl
theorem wd_929 : (.instanceMethod ⟨"LoadCyclesModel", "powerOfRow", "(I)I"⟩ : Cond) ∈ TB := tb_of (List.mem_of_getElem? (i := 929) (by decide +kernel)) rfl
set_option maxRecDepth 20000 in
theorem wd_930 : (.code ⟨"LoadCyclesModel", "powerOfRow", "(I)I"⟩ prog_9_method_23_code 5 (some .int) : Cond) ∈ TB := tb_of (List.mem_of_getElem? (i := 930) rfl) rfl
theorem wd_931 : (.methodLink "LoadCyclesModel" 172 ⟨"LoadCyclesModel", "digit", "(II)I"⟩ : Cond) ∈ TB := tb_of (List.mem_of_getElem? (i := 931) (by decide +kernel)) rfl
theorem wd_932 : (.static ⟨"LoadCyclesModel", "digit", "(II)I"⟩ : Cond) ∈ TB := tb_of (List.mem_of_getElem? (i := 932) (by decide +kernel)) rfl
set_option maxRecDepth 20000 in
theorem wd_933 : (.code ⟨"LoadCyclesModel", "digit", "(II)I"⟩ prog_9_method_22_code 2 (some .int) : Cond) ∈ TB := tb_of (List.mem_of_getElem? (i := 933) rfl) rfl
theorem wd_934 : (.methodLink "LoadCyclesModel" 178 ⟨"LoadCyclesModel", "goesOn", "(II)I"⟩ : Cond) ∈ TB := tb_of (List.mem_of_getElem? (i := 934) (by decide +kernel)) rfl
theorem wd_936 : (.instanceMethod ⟨"LoadCyclesModel", "goesOn", "(II)I"⟩ : Cond) ∈ TB := tb_of (List.mem_of_getElem? (i := 936) (by decide +kernel)) rfl
set_option maxRecDepth 20000 in
theorem wd_937 : (.code ⟨"LoadCyclesModel", "goesOn", "(II)I"⟩ prog_9_method_24_code 7 (some .int) : Cond) ∈ TB := tb_of (List.mem_of_getElem? (i := 937) rfl) rfl
theorem wd_938 : (.methodLink "LoadCyclesModel" 191 ⟨"LoadCyclesModel", "goFrom", "(II)V"⟩ : Cond) ∈ TB := tb_of (List.mem_of_getElem? (i := 938) (by decide +kernel)) rfl
theorem wd_940 : (.instanceMethod ⟨"LoadCyclesModel", "goFrom", "(II)V"⟩ : Cond) ∈ TB := tb_of (List.mem_of_getElem? (i := 940) (by decide +kernel)) rfl
set_option maxRecDepth 20000 in
theorem wd_941 : (.code ⟨"LoadCyclesModel", "goFrom", "(II)V"⟩ prog_9_method_28_code 7 (none : Option FieldType) : Cond) ∈ TB := tb_of (List.mem_of_getElem? (i := 941) rfl) rfl
theorem wd_942 : (.methodLink "LoadCyclesModel" 181 ⟨"LoadCyclesModel", "sizeOf", "(I)I"⟩ : Cond) ∈ TB := tb_of (List.mem_of_getElem? (i := 942) (by decide +kernel)) rfl
theorem wd_943 : (.static ⟨"LoadCyclesModel", "sizeOf", "(I)I"⟩ : Cond) ∈ TB := tb_of (List.mem_of_getElem? (i := 943) (by decide +kernel)) rfl
set_option maxRecDepth 20000 in
theorem wd_944 : (.code ⟨"LoadCyclesModel", "sizeOf", "(I)I"⟩ prog_9_method_25_code 1 (some .int) : Cond) ∈ TB := tb_of (List.mem_of_getElem? (i := 944) rfl) rfl
theorem wd_945 : (.methodLink "LoadCyclesModel" 184 ⟨"LoadCyclesModel", "isBetter", "(IIII)Z"⟩ : Cond) ∈ TB := tb_of (List.mem_of_getElem? (i := 945) (by decide +kernel)) rfl
theorem wd_947 : (.instanceMethod ⟨"LoadCyclesModel", "isBetter", "(IIII)Z"⟩ : Cond) ∈ TB := tb_of (List.mem_of_getElem? (i := 947) (by decide +kernel)) rfl
set_option maxRecDepth 20000 in
theorem wd_948 : (.code ⟨"LoadCyclesModel", "isBetter", "(IIII)Z"⟩ prog_9_method_27_code 6 (some .boolean) : Cond) ∈ TB := tb_of (List.mem_of_getElem? (i := 948) rfl) rfl
theorem wd_949 : (.methodLink "LoadCyclesModel" 195 ⟨"LoadCyclesModel", "rankAll", "(I)V"⟩ : Cond) ∈ TB := tb_of (List.mem_of_getElem? (i := 949) (by decide +kernel)) rfl
theorem wd_951 : (.instanceMethod ⟨"LoadCyclesModel", "rankAll", "(I)V"⟩ : Cond) ∈ TB := tb_of (List.mem_of_getElem? (i := 951) (by decide +kernel)) rfl
set_option maxRecDepth 20000 in
theorem wd_952 : (.code ⟨"LoadCyclesModel", "rankAll", "(I)V"⟩ prog_9_method_29_code 4 (none : Option FieldType) : Cond) ∈ TB := tb_of (List.mem_of_getElem? (i := 952) rfl) rfl
theorem wd_953 : (.methodLink "LoadCyclesModel" 199 ⟨"LoadCyclesModel", "walkBack", "()V"⟩ : Cond) ∈ TB := tb_of (List.mem_of_getElem? (i := 953) (by decide +kernel)) rfl
theorem wd_955 : (.instanceMethod ⟨"LoadCyclesModel", "walkBack", "()V"⟩ : Cond) ∈ TB := tb_of (List.mem_of_getElem? (i := 955) (by decide +kernel)) rfl
set_option maxRecDepth 20000 in
theorem wd_956 : (.code ⟨"LoadCyclesModel", "walkBack", "()V"⟩ prog_9_method_31_code 4 (none : Option FieldType) : Cond) ∈ TB := tb_of (List.mem_of_getElem? (i := 956) rfl) rfl
theorem wd_957 : (.methodLink "LoadCyclesLaw" 48 ⟨"LoadCyclesModel", "rest", "(I)I"⟩ : Cond) ∈ TB := tb_of (List.mem_of_getElem? (i := 957) (by decide +kernel)) rfl
theorem wd_958 : (.instanceMethod ⟨"LoadCyclesModel", "rest", "(I)I"⟩ : Cond) ∈ TB := tb_of (List.mem_of_getElem? (i := 958) (by decide +kernel)) rfl
theorem wd_959 : (.selects "LoadCyclesModel" ⟨"LoadCyclesModel", "rest", "(I)I"⟩ ⟨"LoadCyclesModel", "rest", "(I)I"⟩ : Cond) ∈ TB := tb_of (List.mem_of_getElem? (i := 959) (by decide +kernel)) rfl
set_option maxRecDepth 20000 in
theorem wd_960 : (.code ⟨"LoadCyclesModel", "rest", "(I)I"⟩ prog_9_method_39_code 2 (some .int) : Cond) ∈ TB := tb_of (List.mem_of_getElem? (i := 960) rfl) rfl
theorem wd_961 : (.methodLink "LoadCyclesModel" 205 ⟨"LoadCyclesModel", "restOf", "(I)I"⟩ : Cond) ∈ TB := tb_of (List.mem_of_getElem? (i := 961) (by decide +kernel)) rfl
theorem wd_963 : (.instanceMethod ⟨"LoadCyclesModel", "restOf", "(I)I"⟩ : Cond) ∈ TB := tb_of (List.mem_of_getElem? (i := 963) (by decide +kernel)) rfl
set_option maxRecDepth 20000 in
theorem wd_964 : (.code ⟨"LoadCyclesModel", "restOf", "(I)I"⟩ prog_9_method_33_code 2 (some .int) : Cond) ∈ TB := tb_of (List.mem_of_getElem? (i := 964) rfl) rfl
theorem wd_965 : (.methodLink "LoadCyclesLaw" 52 ⟨"LoadCyclesModel", "best", "(I)I"⟩ : Cond) ∈ TB := tb_of (List.mem_of_getElem? (i := 965) (by decide +kernel)) rfl
theorem wd_966 : (.instanceMethod ⟨"LoadCyclesModel", "best", "(I)I"⟩ : Cond) ∈ TB := tb_of (List.mem_of_getElem? (i := 966) (by decide +kernel)) rfl
theorem wd_967 : (.selects "LoadCyclesModel" ⟨"LoadCyclesModel", "best", "(I)I"⟩ ⟨"LoadCyclesModel", "best", "(I)I"⟩ : Cond) ∈ TB := tb_of (List.mem_of_getElem? (i := 967) (by decide +kernel)) rfl
set_option maxRecDepth 20000 in
theorem wd_968 : (.code ⟨"LoadCyclesModel", "best", "(I)I"⟩ prog_9_method_40_code 2 (some .int) : Cond) ∈ TB := tb_of (List.mem_of_getElem? (i := 968) rfl) rfl
theorem wd_969 : (.methodLink "LoadCyclesModel" 214 ⟨"LoadCyclesModel", "rests", "()I"⟩ : Cond) ∈ TB := tb_of (List.mem_of_getElem? (i := 969) (by decide +kernel)) rfl
theorem wd_971 : (.instanceMethod ⟨"LoadCyclesModel", "rests", "()I"⟩ : Cond) ∈ TB := tb_of (List.mem_of_getElem? (i := 971) (by decide +kernel)) rfl
set_option maxRecDepth 20000 in
theorem wd_972 : (.code ⟨"LoadCyclesModel", "rests", "()I"⟩ prog_9_method_35_code 3 (some .int) : Cond) ∈ TB := tb_of (List.mem_of_getElem? (i := 972) rfl) rfl
theorem wd_973 : (.methodLink "LoadCyclesModel" 218 ⟨"LoadCyclesModel", "changes", "(Z)I"⟩ : Cond) ∈ TB := tb_of (List.mem_of_getElem? (i := 973) (by decide +kernel)) rfl
theorem wd_975 : (.instanceMethod ⟨"LoadCyclesModel", "changes", "(Z)I"⟩ : Cond) ∈ TB := tb_of (List.mem_of_getElem? (i := 975) (by decide +kernel)) rfl
set_option maxRecDepth 20000 in
theorem wd_976 : (.code ⟨"LoadCyclesModel", "changes", "(Z)I"⟩ prog_9_method_36_code 7 (some .int) : Cond) ∈ TB := tb_of (List.mem_of_getElem? (i := 976) rfl) rfl
theorem wd_977 : (.methodLink "LoadCyclesModel" 208 ⟨"LoadCyclesModel", "ahead", "(II)I"⟩ : Cond) ∈ TB := tb_of (List.mem_of_getElem? (i := 977) (by decide +kernel)) rfl
theorem wd_979 : (.instanceMethod ⟨"LoadCyclesModel", "ahead", "(II)I"⟩ : Cond) ∈ TB := tb_of (List.mem_of_getElem? (i := 979) (by decide +kernel)) rfl
set_option maxRecDepth 20000 in
theorem wd_980 : (.code ⟨"LoadCyclesModel", "ahead", "(II)I"⟩ prog_9_method_32_code 3 (some .int) : Cond) ∈ TB := tb_of (List.mem_of_getElem? (i := 980) rfl) rfl
theorem wd_981 : (.methodLink "LoadCyclesModel" 222 ⟨"LoadCyclesModel", "energies", "()I"⟩ : Cond) ∈ TB := tb_of (List.mem_of_getElem? (i := 981) (by decide +kernel)) rfl
theorem wd_983 : (.instanceMethod ⟨"LoadCyclesModel", "energies", "()I"⟩ : Cond) ∈ TB := tb_of (List.mem_of_getElem? (i := 983) (by decide +kernel)) rfl
set_option maxRecDepth 20000 in
theorem wd_984 : (.code ⟨"LoadCyclesModel", "energies", "()I"⟩ prog_9_method_37_code 3 (some .int) : Cond) ∈ TB := tb_of (List.mem_of_getElem? (i := 984) rfl) rfl
theorem wd_985 : (.methodLink "LoadCyclesModel" 211 ⟨"LoadCyclesModel", "energyOf", "(I)I"⟩ : Cond) ∈ TB := tb_of (List.mem_of_getElem? (i := 985) (by decide +kernel)) rfl
theorem wd_987 : (.instanceMethod ⟨"LoadCyclesModel", "energyOf", "(I)I"⟩ : Cond) ∈ TB := tb_of (List.mem_of_getElem? (i := 987) (by decide +kernel)) rfl
set_option maxRecDepth 20000 in
theorem wd_988 : (.code ⟨"LoadCyclesModel", "energyOf", "(I)I"⟩ prog_9_method_34_code 5 (some .int) : Cond) ∈ TB := tb_of (List.mem_of_getElem? (i := 988) rfl) rfl
theorem wd_989 : (.methodLink "LoadCyclesLaw" 56 ⟨"LoadCyclesModel", "energy", "(I)I"⟩ : Cond) ∈ TB := tb_of (List.mem_of_getElem? (i := 989) (by decide +kernel)) rfl
theorem wd_990 : (.instanceMethod ⟨"LoadCyclesModel", "energy", "(I)I"⟩ : Cond) ∈ TB := tb_of (List.mem_of_getElem? (i := 990) (by decide +kernel)) rfl
theorem wd_991 : (.selects "LoadCyclesModel" ⟨"LoadCyclesModel", "energy", "(I)I"⟩ ⟨"LoadCyclesModel", "energy", "(I)I"⟩ : Cond) ∈ TB := tb_of (List.mem_of_getElem? (i := 991) (by decide +kernel)) rfl
set_option maxRecDepth 20000 in
theorem wd_992 : (.code ⟨"LoadCyclesModel", "energy", "(I)I"⟩ prog_9_method_41_code 2 (some .int) : Cond) ∈ TB := tb_of (List.mem_of_getElem? (i := 992) rfl) rfl
theorem wd_993 : (.methodLink "LoadCyclesLaw" 61 ⟨"LoadCyclesModel", "day", "(IIIII)I"⟩ : Cond) ∈ TB := tb_of (List.mem_of_getElem? (i := 993) (by decide +kernel)) rfl
theorem wd_994 : (.instanceMethod ⟨"LoadCyclesModel", "day", "(IIIII)I"⟩ : Cond) ∈ TB := tb_of (List.mem_of_getElem? (i := 994) (by decide +kernel)) rfl
theorem wd_995 : (.selects "LoadCyclesModel" ⟨"LoadCyclesModel", "day", "(IIIII)I"⟩ ⟨"LoadCyclesModel", "day", "(IIIII)I"⟩ : Cond) ∈ TB := tb_of (List.mem_of_getElem? (i := 995) (by decide +kernel)) rfl
set_option maxRecDepth 20000 in
theorem wd_996 : (.code ⟨"LoadCyclesModel", "day", "(IIIII)I"⟩ prog_9_method_47_code 10 (some .int) : Cond) ∈ TB := tb_of (List.mem_of_getElem? (i := 996) rfl) rfl
theorem wd_997 : (.constantLong "LoadCyclesModel" 235 (4 : Int64) : Cond) ∈ TB := tb_of (List.mem_of_getElem? (i := 997) (by decide +kernel)) rfl
theorem wd_998 : (.constantLong "LoadCyclesModel" 237 (13 : Int64) : Cond) ∈ TB := tb_of (List.mem_of_getElem? (i := 998) (by decide +kernel)) rfl
theorem wd_999 : (.methodLink "LoadCyclesModel" 239 ⟨"LoadCyclesModel", "isPair", "(II)Z"⟩ : Cond) ∈ TB := tb_of (List.mem_of_getElem? (i := 999) (by decide +kernel)) rfl
theorem wd_1000 : (.static ⟨"LoadCyclesModel", "isPair", "(II)Z"⟩ : Cond) ∈ TB := tb_of (List.mem_of_getElem? (i := 1000) (by decide +kernel)) rfl
set_option maxRecDepth 20000 in
theorem wd_1001 : (.code ⟨"LoadCyclesModel", "isPair", "(II)Z"⟩ prog_9_method_44_code 2 (some .boolean) : Cond) ∈ TB := tb_of (List.mem_of_getElem? (i := 1001) rfl) rfl
theorem wd_1002 : (.constantLong "LoadCyclesModel" 228 (11 : Int64) : Cond) ∈ TB := tb_of (List.mem_of_getElem? (i := 1002) (by decide +kernel)) rfl
theorem wd_1003 : (.constantLong "LoadCyclesModel" 230 (30 : Int64) : Cond) ∈ TB := tb_of (List.mem_of_getElem? (i := 1003) (by decide +kernel)) rfl
theorem wd_1004 : (.methodLink "LoadCyclesModel" 242 ⟨"LoadCyclesModel", "keep", "()V"⟩ : Cond) ∈ TB := tb_of (List.mem_of_getElem? (i := 1004) (by decide +kernel)) rfl
theorem wd_1006 : (.instanceMethod ⟨"LoadCyclesModel", "keep", "()V"⟩ : Cond) ∈ TB := tb_of (List.mem_of_getElem? (i := 1006) (by decide +kernel)) rfl
set_option maxRecDepth 20000 in
theorem wd_1007 : (.code ⟨"LoadCyclesModel", "keep", "()V"⟩ prog_9_method_42_code 2 (none : Option FieldType) : Cond) ∈ TB := tb_of (List.mem_of_getElem? (i := 1007) rfl) rfl
theorem wd_1008 : (.methodLink "LoadCyclesModel" 245 ⟨"LoadCyclesModel", "goDay", "(II)I"⟩ : Cond) ∈ TB := tb_of (List.mem_of_getElem? (i := 1008) (by decide +kernel)) rfl
theorem wd_1010 : (.instanceMethod ⟨"LoadCyclesModel", "goDay", "(II)I"⟩ : Cond) ∈ TB := tb_of (List.mem_of_getElem? (i := 1010) (by decide +kernel)) rfl
set_option maxRecDepth 20000 in
theorem wd_1011 : (.code ⟨"LoadCyclesModel", "goDay", "(II)I"⟩ prog_9_method_46_code 6 (some .int) : Cond) ∈ TB := tb_of (List.mem_of_getElem? (i := 1011) rfl) rfl
theorem wd_1012 : (.methodLink "LoadCyclesModel" 232 ⟨"LoadCyclesModel", "canAct", "(II)Z"⟩ : Cond) ∈ TB := tb_of (List.mem_of_getElem? (i := 1012) (by decide +kernel)) rfl
theorem wd_1014 : (.instanceMethod ⟨"LoadCyclesModel", "canAct", "(II)Z"⟩ : Cond) ∈ TB := tb_of (List.mem_of_getElem? (i := 1014) (by decide +kernel)) rfl
set_option maxRecDepth 20000 in
theorem wd_1015 : (.code ⟨"LoadCyclesModel", "canAct", "(II)Z"⟩ prog_9_method_45_code 3 (some .boolean) : Cond) ∈ TB := tb_of (List.mem_of_getElem? (i := 1015) rfl) rfl
theorem wd_1016 : (.methodLink "LoadCyclesModel" 248 ⟨"LoadCyclesModel", "tellDay", "(I)I"⟩ : Cond) ∈ TB := tb_of (List.mem_of_getElem? (i := 1016) (by decide +kernel)) rfl
theorem wd_1018 : (.instanceMethod ⟨"LoadCyclesModel", "tellDay", "(I)I"⟩ : Cond) ∈ TB := tb_of (List.mem_of_getElem? (i := 1018) (by decide +kernel)) rfl
set_option maxRecDepth 20000 in
theorem wd_1019 : (.code ⟨"LoadCyclesModel", "tellDay", "(I)I"⟩ prog_9_method_48_code 2 (some .int) : Cond) ∈ TB := tb_of (List.mem_of_getElem? (i := 1019) rfl) rfl
theorem wd_1020 : (.methodLink "LoadCyclesModel" 251 ⟨"LoadCyclesModel", "putBack", "()V"⟩ : Cond) ∈ TB := tb_of (List.mem_of_getElem? (i := 1020) (by decide +kernel)) rfl
theorem wd_1022 : (.instanceMethod ⟨"LoadCyclesModel", "putBack", "()V"⟩ : Cond) ∈ TB := tb_of (List.mem_of_getElem? (i := 1022) (by decide +kernel)) rfl
set_option maxRecDepth 20000 in
theorem wd_1023 : (.code ⟨"LoadCyclesModel", "putBack", "()V"⟩ prog_9_method_43_code 2 (none : Option FieldType) : Cond) ∈ TB := tb_of (List.mem_of_getElem? (i := 1023) rfl) rfl
theorem wd_1024 : (.methodLink "LoadCyclesLaw" 65 ⟨"LoadCyclesModel", "jump", "(I)I"⟩ : Cond) ∈ TB := tb_of (List.mem_of_getElem? (i := 1024) (by decide +kernel)) rfl
theorem wd_1025 : (.instanceMethod ⟨"LoadCyclesModel", "jump", "(I)I"⟩ : Cond) ∈ TB := tb_of (List.mem_of_getElem? (i := 1025) (by decide +kernel)) rfl
theorem wd_1026 : (.selects "LoadCyclesModel" ⟨"LoadCyclesModel", "jump", "(I)I"⟩ ⟨"LoadCyclesModel", "jump", "(I)I"⟩ : Cond) ∈ TB := tb_of (List.mem_of_getElem? (i := 1026) (by decide +kernel)) rfl
set_option maxRecDepth 20000 in
theorem wd_1027 : (.code ⟨"LoadCyclesModel", "jump", "(I)I"⟩ prog_9_method_50_code 2 (some .int) : Cond) ∈ TB := tb_of (List.mem_of_getElem? (i := 1027) rfl) rfl
theorem wd_1028 : (.methodLink "LoadCyclesModel" 254 ⟨"LoadCyclesModel", "jumpOf", "(I)I"⟩ : Cond) ∈ TB := tb_of (List.mem_of_getElem? (i := 1028) (by decide +kernel)) rfl
theorem wd_1030 : (.instanceMethod ⟨"LoadCyclesModel", "jumpOf", "(I)I"⟩ : Cond) ∈ TB := tb_of (List.mem_of_getElem? (i := 1030) (by decide +kernel)) rfl
set_option maxRecDepth 20000 in
theorem wd_1031 : (.code ⟨"LoadCyclesModel", "jumpOf", "(I)I"⟩ prog_9_method_49_code 2 (some .int) : Cond) ∈ TB := tb_of (List.mem_of_getElem? (i := 1031) rfl) rfl
theorem wd_1032 : (.methodLink "LoadCyclesLaw" 69 ⟨"LoadCyclesModel", "ways", "(I)I"⟩ : Cond) ∈ TB := tb_of (List.mem_of_getElem? (i := 1032) (by decide +kernel)) rfl
theorem wd_1033 : (.instanceMethod ⟨"LoadCyclesModel", "ways", "(I)I"⟩ : Cond) ∈ TB := tb_of (List.mem_of_getElem? (i := 1033) (by decide +kernel)) rfl
theorem wd_1034 : (.selects "LoadCyclesModel" ⟨"LoadCyclesModel", "ways", "(I)I"⟩ ⟨"LoadCyclesModel", "ways", "(I)I"⟩ : Cond) ∈ TB := tb_of (List.mem_of_getElem? (i := 1034) (by decide +kernel)) rfl
set_option maxRecDepth 20000 in
theorem wd_1035 : (.code ⟨"LoadCyclesModel", "ways", "(I)I"⟩ prog_9_method_52_code 6 (some .int) : Cond) ∈ TB := tb_of (List.mem_of_getElem? (i := 1035) rfl) rfl
theorem wd_1036 : (.methodLink "LoadCyclesModel" 257 ⟨"LoadCyclesModel", "moreOf", "(II)I"⟩ : Cond) ∈ TB := tb_of (List.mem_of_getElem? (i := 1036) (by decide +kernel)) rfl
theorem wd_1038 : (.instanceMethod ⟨"LoadCyclesModel", "moreOf", "(II)I"⟩ : Cond) ∈ TB := tb_of (List.mem_of_getElem? (i := 1038) (by decide +kernel)) rfl
set_option maxRecDepth 20000 in
theorem wd_1039 : (.code ⟨"LoadCyclesModel", "moreOf", "(II)I"⟩ prog_9_method_51_code 5 (some .int) : Cond) ∈ TB := tb_of (List.mem_of_getElem? (i := 1039) rfl) rfl
theorem wd_1040 : (.methodLink "LoadCyclesLaw" 73 ⟨"LoadCyclesModel", "longest", "(I)I"⟩ : Cond) ∈ TB := tb_of (List.mem_of_getElem? (i := 1040) (by decide +kernel)) rfl
theorem wd_1041 : (.instanceMethod ⟨"LoadCyclesModel", "longest", "(I)I"⟩ : Cond) ∈ TB := tb_of (List.mem_of_getElem? (i := 1041) (by decide +kernel)) rfl
theorem wd_1042 : (.selects "LoadCyclesModel" ⟨"LoadCyclesModel", "longest", "(I)I"⟩ ⟨"LoadCyclesModel", "longest", "(I)I"⟩ : Cond) ∈ TB := tb_of (List.mem_of_getElem? (i := 1042) (by decide +kernel)) rfl
set_option maxRecDepth 20000 in
theorem wd_1043 : (.code ⟨"LoadCyclesModel", "longest", "(I)I"⟩ prog_9_method_53_code 5 (some .int) : Cond) ∈ TB := tb_of (List.mem_of_getElem? (i := 1043) rfl) rfl
theorem wd_1044 : (.methodLink "LoadCyclesLaw" 77 ⟨"LoadCyclesModel", "share", "(I)I"⟩ : Cond) ∈ TB := tb_of (List.mem_of_getElem? (i := 1044) (by decide +kernel)) rfl
theorem wd_1045 : (.instanceMethod ⟨"LoadCyclesModel", "share", "(I)I"⟩ : Cond) ∈ TB := tb_of (List.mem_of_getElem? (i := 1045) (by decide +kernel)) rfl
theorem wd_1046 : (.selects "LoadCyclesModel" ⟨"LoadCyclesModel", "share", "(I)I"⟩ ⟨"LoadCyclesModel", "share", "(I)I"⟩ : Cond) ∈ TB := tb_of (List.mem_of_getElem? (i := 1046) (by decide +kernel)) rfl
set_option maxRecDepth 20000 in
theorem wd_1047 : (.code ⟨"LoadCyclesModel", "share", "(I)I"⟩ prog_9_method_56_code 3 (some .int) : Cond) ∈ TB := tb_of (List.mem_of_getElem? (i := 1047) rfl) rfl
theorem wd_1048 : (.methodLink "LoadCyclesModel" 260 ⟨"LoadCyclesModel", "allValues", "()I"⟩ : Cond) ∈ TB := tb_of (List.mem_of_getElem? (i := 1048) (by decide +kernel)) rfl
theorem wd_1050 : (.instanceMethod ⟨"LoadCyclesModel", "allValues", "()I"⟩ : Cond) ∈ TB := tb_of (List.mem_of_getElem? (i := 1050) (by decide +kernel)) rfl
set_option maxRecDepth 20000 in
theorem wd_1051 : (.code ⟨"LoadCyclesModel", "allValues", "()I"⟩ prog_9_method_54_code 3 (some .int) : Cond) ∈ TB := tb_of (List.mem_of_getElem? (i := 1051) rfl) rfl
theorem wd_1052 : (.methodLink "LoadCyclesModel" 263 ⟨"LoadCyclesModel", "nearestBits", "(IIII)J"⟩ : Cond) ∈ TB := tb_of (List.mem_of_getElem? (i := 1052) (by decide +kernel)) rfl
theorem wd_1053 : (.static ⟨"LoadCyclesModel", "nearestBits", "(IIII)J"⟩ : Cond) ∈ TB := tb_of (List.mem_of_getElem? (i := 1053) (by decide +kernel)) rfl
set_option maxRecDepth 20000 in
theorem wd_1054 : (.code ⟨"LoadCyclesModel", "nearestBits", "(IIII)J"⟩ prog_9_method_55_code 13 (some .long) : Cond) ∈ TB := tb_of (List.mem_of_getElem? (i := 1054) rfl) rfl
theorem wd_1055 : (.methodLink "LoadCyclesLaw" 82 ⟨"LoadCyclesModel", "mean", "()J"⟩ : Cond) ∈ TB := tb_of (List.mem_of_getElem? (i := 1055) (by decide +kernel)) rfl
theorem wd_1056 : (.instanceMethod ⟨"LoadCyclesModel", "mean", "()J"⟩ : Cond) ∈ TB := tb_of (List.mem_of_getElem? (i := 1056) (by decide +kernel)) rfl
theorem wd_1057 : (.selects "LoadCyclesModel" ⟨"LoadCyclesModel", "mean", "()J"⟩ ⟨"LoadCyclesModel", "mean", "()J"⟩ : Cond) ∈ TB := tb_of (List.mem_of_getElem? (i := 1057) (by decide +kernel)) rfl
set_option maxRecDepth 20000 in
theorem wd_1058 : (.code ⟨"LoadCyclesModel", "mean", "()J"⟩ prog_9_method_57_code 1 (some .long) : Cond) ∈ TB := tb_of (List.mem_of_getElem? (i := 1058) rfl) rfl
theorem wd_1059 : (.constantLong "LoadCyclesModel" 83 (-9223372036854775808 : Int64) : Cond) ∈ TB := tb_of (List.mem_of_getElem? (i := 1059) (by decide +kernel)) rfl
theorem wd_1060 : (.methodLink "LoadCyclesLaw" 86 ⟨"LoadCyclesModel", "reading", "(II)I"⟩ : Cond) ∈ TB := tb_of (List.mem_of_getElem? (i := 1060) (by decide +kernel)) rfl
theorem wd_1061 : (.instanceMethod ⟨"LoadCyclesModel", "reading", "(II)I"⟩ : Cond) ∈ TB := tb_of (List.mem_of_getElem? (i := 1061) (by decide +kernel)) rfl
theorem wd_1062 : (.selects "LoadCyclesModel" ⟨"LoadCyclesModel", "reading", "(II)I"⟩ ⟨"LoadCyclesModel", "reading", "(II)I"⟩ : Cond) ∈ TB := tb_of (List.mem_of_getElem? (i := 1062) (by decide +kernel)) rfl
set_option maxRecDepth 20000 in
theorem wd_1063 : (.code ⟨"LoadCyclesModel", "reading", "(II)I"⟩ prog_9_method_58_code 3 (some .int) : Cond) ∈ TB := tb_of (List.mem_of_getElem? (i := 1063) rfl) rfl
theorem wd_1064 : (.constantLong "LoadCyclesModel" 267 (2000 : Int64) : Cond) ∈ TB := tb_of (List.mem_of_getElem? (i := 1064) (by decide +kernel)) rfl
theorem wd_1065 : (.methodLink "LoadCyclesLaw" 90 ⟨"LoadCyclesModel", "back", "(I)I"⟩ : Cond) ∈ TB := tb_of (List.mem_of_getElem? (i := 1065) (by decide +kernel)) rfl
theorem wd_1066 : (.instanceMethod ⟨"LoadCyclesModel", "back", "(I)I"⟩ : Cond) ∈ TB := tb_of (List.mem_of_getElem? (i := 1066) (by decide +kernel)) rfl
theorem wd_1067 : (.selects "LoadCyclesModel" ⟨"LoadCyclesModel", "back", "(I)I"⟩ ⟨"LoadCyclesModel", "back", "(I)I"⟩ : Cond) ∈ TB := tb_of (List.mem_of_getElem? (i := 1067) (by decide +kernel)) rfl
set_option maxRecDepth 20000 in
theorem wd_1068 : (.code ⟨"LoadCyclesModel", "back", "(I)I"⟩ prog_9_method_59_code 2 (some .int) : Cond) ∈ TB := tb_of (List.mem_of_getElem? (i := 1068) rfl) rfl
theorem wd_1069 : (.methodLink "LoadCyclesLaw" 94 ⟨"LoadCyclesModel", "kinds", "(I)I"⟩ : Cond) ∈ TB := tb_of (List.mem_of_getElem? (i := 1069) (by decide +kernel)) rfl
theorem wd_1070 : (.instanceMethod ⟨"LoadCyclesModel", "kinds", "(I)I"⟩ : Cond) ∈ TB := tb_of (List.mem_of_getElem? (i := 1070) (by decide +kernel)) rfl
theorem wd_1071 : (.selects "LoadCyclesModel" ⟨"LoadCyclesModel", "kinds", "(I)I"⟩ ⟨"LoadCyclesModel", "kinds", "(I)I"⟩ : Cond) ∈ TB := tb_of (List.mem_of_getElem? (i := 1071) (by decide +kernel)) rfl
set_option maxRecDepth 20000 in
theorem wd_1072 : (.code ⟨"LoadCyclesModel", "kinds", "(I)I"⟩ prog_9_method_61_code 5 (some .int) : Cond) ∈ TB := tb_of (List.mem_of_getElem? (i := 1072) rfl) rfl
theorem wd_1073 : (.methodLink "LoadCyclesModel" 269 ⟨"LoadCyclesModel", "areSo", "()Z"⟩ : Cond) ∈ TB := tb_of (List.mem_of_getElem? (i := 1073) (by decide +kernel)) rfl
theorem wd_1075 : (.instanceMethod ⟨"LoadCyclesModel", "areSo", "()Z"⟩ : Cond) ∈ TB := tb_of (List.mem_of_getElem? (i := 1075) (by decide +kernel)) rfl
set_option maxRecDepth 20000 in
theorem wd_1076 : (.code ⟨"LoadCyclesModel", "areSo", "()Z"⟩ prog_9_method_60_code 2 (some .boolean) : Cond) ∈ TB := tb_of (List.mem_of_getElem? (i := 1076) rfl) rfl
theorem wd_1077 : (.methodLink "LoadCyclesLaw" 98 ⟨"LoadCyclesModel", "firsts", "(I)I"⟩ : Cond) ∈ TB := tb_of (List.mem_of_getElem? (i := 1077) (by decide +kernel)) rfl
theorem wd_1078 : (.instanceMethod ⟨"LoadCyclesModel", "firsts", "(I)I"⟩ : Cond) ∈ TB := tb_of (List.mem_of_getElem? (i := 1078) (by decide +kernel)) rfl
theorem wd_1079 : (.selects "LoadCyclesModel" ⟨"LoadCyclesModel", "firsts", "(I)I"⟩ ⟨"LoadCyclesModel", "firsts", "(I)I"⟩ : Cond) ∈ TB := tb_of (List.mem_of_getElem? (i := 1079) (by decide +kernel)) rfl
set_option maxRecDepth 20000 in
theorem wd_1080 : (.code ⟨"LoadCyclesModel", "firsts", "(I)I"⟩ prog_9_method_62_code 5 (some .int) : Cond) ∈ TB := tb_of (List.mem_of_getElem? (i := 1080) rfl) rfl
theorem wd_1081 : (.methodLink "LoadCyclesLaw" 103 ⟨"LoadCyclesModel", "odds", "(II)J"⟩ : Cond) ∈ TB := tb_of (List.mem_of_getElem? (i := 1081) (by decide +kernel)) rfl
theorem wd_1082 : (.instanceMethod ⟨"LoadCyclesModel", "odds", "(II)J"⟩ : Cond) ∈ TB := tb_of (List.mem_of_getElem? (i := 1082) (by decide +kernel)) rfl
theorem wd_1083 : (.selects "LoadCyclesModel" ⟨"LoadCyclesModel", "odds", "(II)J"⟩ ⟨"LoadCyclesModel", "odds", "(II)J"⟩ : Cond) ∈ TB := tb_of (List.mem_of_getElem? (i := 1083) (by decide +kernel)) rfl
set_option maxRecDepth 20000 in
theorem wd_1084 : (.code ⟨"LoadCyclesModel", "odds", "(II)J"⟩ prog_9_method_64_code 5 (some .long) : Cond) ∈ TB := tb_of (List.mem_of_getElem? (i := 1084) rfl) rfl
theorem wd_1085 : (.methodLink "LoadCyclesModel" 273 ⟨"LoadCyclesModel", "inLeastTerms", "(III)J"⟩ : Cond) ∈ TB := tb_of (List.mem_of_getElem? (i := 1085) (by decide +kernel)) rfl
theorem wd_1086 : (.static ⟨"LoadCyclesModel", "inLeastTerms", "(III)J"⟩ : Cond) ∈ TB := tb_of (List.mem_of_getElem? (i := 1086) (by decide +kernel)) rfl
set_option maxRecDepth 20000 in
theorem wd_1087 : (.code ⟨"LoadCyclesModel", "inLeastTerms", "(III)J"⟩ prog_9_method_63_code 6 (some .long) : Cond) ∈ TB := tb_of (List.mem_of_getElem? (i := 1087) rfl) rfl
theorem wd_1088 : (.methodLink "LoadCyclesLaw" 107 ⟨"LoadCyclesModel", "sheet", "(III)I"⟩ : Cond) ∈ TB := tb_of (List.mem_of_getElem? (i := 1088) (by decide +kernel)) rfl
theorem wd_1089 : (.instanceMethod ⟨"LoadCyclesModel", "sheet", "(III)I"⟩ : Cond) ∈ TB := tb_of (List.mem_of_getElem? (i := 1089) (by decide +kernel)) rfl
theorem wd_1090 : (.selects "LoadCyclesModel" ⟨"LoadCyclesModel", "sheet", "(III)I"⟩ ⟨"LoadCyclesModel", "sheet", "(III)I"⟩ : Cond) ∈ TB := tb_of (List.mem_of_getElem? (i := 1090) (by decide +kernel)) rfl
set_option maxRecDepth 20000 in
theorem wd_1091 : (.code ⟨"LoadCyclesModel", "sheet", "(III)I"⟩ prog_9_method_65_code 5 (some .int) : Cond) ∈ TB := tb_of (List.mem_of_getElem? (i := 1091) rfl) rfl
theorem wd_1092 : (.methodLink "LoadCyclesLaw" 111 ⟨"LoadCyclesModel", "lose", "(I)I"⟩ : Cond) ∈ TB := tb_of (List.mem_of_getElem? (i := 1092) (by decide +kernel)) rfl
theorem wd_1093 : (.instanceMethod ⟨"LoadCyclesModel", "lose", "(I)I"⟩ : Cond) ∈ TB := tb_of (List.mem_of_getElem? (i := 1093) (by decide +kernel)) rfl
theorem wd_1094 : (.selects "LoadCyclesModel" ⟨"LoadCyclesModel", "lose", "(I)I"⟩ ⟨"LoadCyclesModel", "lose", "(I)I"⟩ : Cond) ∈ TB := tb_of (List.mem_of_getElem? (i := 1094) (by decide +kernel)) rfl
set_option maxRecDepth 20000 in
theorem wd_1095 : (.code ⟨"LoadCyclesModel", "lose", "(I)I"⟩ prog_9_method_66_code 3 (some .int) : Cond) ∈ TB := tb_of (List.mem_of_getElem? (i := 1095) rfl) rfl
theorem wd_1096 : (.methodLink "LoadCyclesLaw" 115 ⟨"LoadCyclesModel", "put", "(III)I"⟩ : Cond) ∈ TB := tb_of (List.mem_of_getElem? (i := 1096) (by decide +kernel)) rfl
theorem wd_1097 : (.instanceMethod ⟨"LoadCyclesModel", "put", "(III)I"⟩ : Cond) ∈ TB := tb_of (List.mem_of_getElem? (i := 1097) (by decide +kernel)) rfl
theorem wd_1098 : (.selects "LoadCyclesModel" ⟨"LoadCyclesModel", "put", "(III)I"⟩ ⟨"LoadCyclesModel", "put", "(III)I"⟩ : Cond) ∈ TB := tb_of (List.mem_of_getElem? (i := 1098) (by decide +kernel)) rfl
set_option maxRecDepth 20000 in
theorem wd_1099 : (.code ⟨"LoadCyclesModel", "put", "(III)I"⟩ prog_9_method_67_code 4 (some .int) : Cond) ∈ TB := tb_of (List.mem_of_getElem? (i := 1099) rfl) rfl
theorem wd_1100 : (.methodLink "LoadCyclesLaw" 120 ⟨"LoadCyclesModel", "cell", "(III)J"⟩ : Cond) ∈ TB := tb_of (List.mem_of_getElem? (i := 1100) (by decide +kernel)) rfl
theorem wd_1101 : (.instanceMethod ⟨"LoadCyclesModel", "cell", "(III)J"⟩ : Cond) ∈ TB := tb_of (List.mem_of_getElem? (i := 1101) (by decide +kernel)) rfl
theorem wd_1102 : (.selects "LoadCyclesModel" ⟨"LoadCyclesModel", "cell", "(III)J"⟩ ⟨"LoadCyclesModel", "cell", "(III)J"⟩ : Cond) ∈ TB := tb_of (List.mem_of_getElem? (i := 1102) (by decide +kernel)) rfl
set_option maxRecDepth 20000 in
theorem wd_1103 : (.code ⟨"LoadCyclesModel", "cell", "(III)J"⟩ prog_9_method_68_code 4 (some .long) : Cond) ∈ TB := tb_of (List.mem_of_getElem? (i := 1103) rfl) rfl
theorem wd_1104 : (.methodLink "LoadCyclesModel" 277 ⟨"LoadCyclesModel", "lost", "(I)J"⟩ : Cond) ∈ TB := tb_of (List.mem_of_getElem? (i := 1104) (by decide +kernel)) rfl
theorem wd_1106 : (.instanceMethod ⟨"LoadCyclesModel", "lost", "(I)J"⟩ : Cond) ∈ TB := tb_of (List.mem_of_getElem? (i := 1106) (by decide +kernel)) rfl
set_option maxRecDepth 20000 in
theorem wd_1107 : (.code ⟨"LoadCyclesModel", "lost", "(I)J"⟩ prog_9_method_3_code 2 (some .long) : Cond) ∈ TB := tb_of (List.mem_of_getElem? (i := 1107) rfl) rfl
theorem wd_1108 : (.methodLink "LoadCyclesLaw" 124 ⟨"LoadCyclesModel", "copy", "(IIIII)I"⟩ : Cond) ∈ TB := tb_of (List.mem_of_getElem? (i := 1108) (by decide +kernel)) rfl
theorem wd_1109 : (.instanceMethod ⟨"LoadCyclesModel", "copy", "(IIIII)I"⟩ : Cond) ∈ TB := tb_of (List.mem_of_getElem? (i := 1109) (by decide +kernel)) rfl
theorem wd_1110 : (.selects "LoadCyclesModel" ⟨"LoadCyclesModel", "copy", "(IIIII)I"⟩ ⟨"LoadCyclesModel", "copy", "(IIIII)I"⟩ : Cond) ∈ TB := tb_of (List.mem_of_getElem? (i := 1110) (by decide +kernel)) rfl
set_option maxRecDepth 20000 in
theorem wd_1111 : (.code ⟨"LoadCyclesModel", "copy", "(IIIII)I"⟩ prog_9_method_69_code 10 (some .int) : Cond) ∈ TB := tb_of (List.mem_of_getElem? (i := 1111) rfl) rfl
theorem wd_1112 : (.methodLink "LoadCyclesLaw" 128 ⟨"LoadCyclesModel", "tell", "(I)I"⟩ : Cond) ∈ TB := tb_of (List.mem_of_getElem? (i := 1112) (by decide +kernel)) rfl
theorem wd_1113 : (.instanceMethod ⟨"LoadCyclesModel", "tell", "(I)I"⟩ : Cond) ∈ TB := tb_of (List.mem_of_getElem? (i := 1113) (by decide +kernel)) rfl
theorem wd_1114 : (.selects "LoadCyclesModel" ⟨"LoadCyclesModel", "tell", "(I)I"⟩ ⟨"LoadCyclesModel", "tell", "(I)I"⟩ : Cond) ∈ TB := tb_of (List.mem_of_getElem? (i := 1114) (by decide +kernel)) rfl
set_option maxRecDepth 20000 in
theorem wd_1115 : (.code ⟨"LoadCyclesModel", "tell", "(I)I"⟩ prog_9_method_71_code 3 (some .int) : Cond) ∈ TB := tb_of (List.mem_of_getElem? (i := 1115) rfl) rfl
theorem wd_1116 : (.methodLink "LoadCyclesModel" 284 ⟨"LoadCyclesModel", "begins", "(I)V"⟩ : Cond) ∈ TB := tb_of (List.mem_of_getElem? (i := 1116) (by decide +kernel)) rfl
theorem wd_1118 : (.instanceMethod ⟨"LoadCyclesModel", "begins", "(I)V"⟩ : Cond) ∈ TB := tb_of (List.mem_of_getElem? (i := 1118) (by decide +kernel)) rfl
set_option maxRecDepth 20000 in
theorem wd_1119 : (.code ⟨"LoadCyclesModel", "begins", "(I)V"⟩ prog_9_method_70_code 2 (none : Option FieldType) : Cond) ∈ TB := tb_of (List.mem_of_getElem? (i := 1119) rfl) rfl
theorem wd_1120 : (.methodLink "LoadCyclesLaw" 132 ⟨"LoadCyclesModel", "metered", "(I)I"⟩ : Cond) ∈ TB := tb_of (List.mem_of_getElem? (i := 1120) (by decide +kernel)) rfl
theorem wd_1121 : (.instanceMethod ⟨"LoadCyclesModel", "metered", "(I)I"⟩ : Cond) ∈ TB := tb_of (List.mem_of_getElem? (i := 1121) (by decide +kernel)) rfl
theorem wd_1122 : (.selects "LoadCyclesModel" ⟨"LoadCyclesModel", "metered", "(I)I"⟩ ⟨"LoadCyclesModel", "metered", "(I)I"⟩ : Cond) ∈ TB := tb_of (List.mem_of_getElem? (i := 1122) (by decide +kernel)) rfl
set_option maxRecDepth 20000 in
theorem wd_1123 : (.code ⟨"LoadCyclesModel", "metered", "(I)I"⟩ prog_9_method_72_code 2 (some .int) : Cond) ∈ TB := tb_of (List.mem_of_getElem? (i := 1123) rfl) rfl
theorem wd_1124 : (.methodLink "LoadCyclesLaw" 136 ⟨"LoadCyclesModel", "as", "(II)I"⟩ : Cond) ∈ TB := tb_of (List.mem_of_getElem? (i := 1124) (by decide +kernel)) rfl
theorem wd_1125 : (.instanceMethod ⟨"LoadCyclesModel", "as", "(II)I"⟩ : Cond) ∈ TB := tb_of (List.mem_of_getElem? (i := 1125) (by decide +kernel)) rfl
theorem wd_1126 : (.selects "LoadCyclesModel" ⟨"LoadCyclesModel", "as", "(II)I"⟩ ⟨"LoadCyclesModel", "as", "(II)I"⟩ : Cond) ∈ TB := tb_of (List.mem_of_getElem? (i := 1126) (by decide +kernel)) rfl
set_option maxRecDepth 20000 in
theorem wd_1127 : (.code ⟨"LoadCyclesModel", "as", "(II)I"⟩ prog_9_method_73_code 3 (some .int) : Cond) ∈ TB := tb_of (List.mem_of_getElem? (i := 1127) rfl) rfl
theorem wd_1128 : (.methodLink "LoadCyclesLaw" 141 ⟨"LoadCyclesModel", "trace", "()I"⟩ : Cond) ∈ TB := tb_of (List.mem_of_getElem? (i := 1128) (by decide +kernel)) rfl
theorem wd_1129 : (.instanceMethod ⟨"LoadCyclesModel", "trace", "()I"⟩ : Cond) ∈ TB := tb_of (List.mem_of_getElem? (i := 1129) (by decide +kernel)) rfl
theorem wd_1130 : (.selects "LoadCyclesModel" ⟨"LoadCyclesModel", "trace", "()I"⟩ ⟨"LoadCyclesModel", "trace", "()I"⟩ : Cond) ∈ TB := tb_of (List.mem_of_getElem? (i := 1130) (by decide +kernel)) rfl
set_option maxRecDepth 20000 in
theorem wd_1131 : (.code ⟨"LoadCyclesModel", "trace", "()I"⟩ prog_9_method_74_code 1 (some .int) : Cond) ∈ TB := tb_of (List.mem_of_getElem? (i := 1131) rfl) rfl
theorem wd_1132 : (.methodLink "LoadCyclesLaw" 145 ⟨"LoadCyclesModel", "fault", "()I"⟩ : Cond) ∈ TB := tb_of (List.mem_of_getElem? (i := 1132) (by decide +kernel)) rfl
theorem wd_1133 : (.instanceMethod ⟨"LoadCyclesModel", "fault", "()I"⟩ : Cond) ∈ TB := tb_of (List.mem_of_getElem? (i := 1133) (by decide +kernel)) rfl
theorem wd_1134 : (.selects "LoadCyclesModel" ⟨"LoadCyclesModel", "fault", "()I"⟩ ⟨"LoadCyclesModel", "fault", "()I"⟩ : Cond) ∈ TB := tb_of (List.mem_of_getElem? (i := 1134) (by decide +kernel)) rfl
set_option maxRecDepth 20000 in
theorem wd_1135 : (.code ⟨"LoadCyclesModel", "fault", "()I"⟩ prog_9_method_75_code 1 (some .int) : Cond) ∈ TB := tb_of (List.mem_of_getElem? (i := 1135) rfl) rfl
theorem wd_1136 : (.methodLink "LoadCyclesLaw" 149 ⟨"LoadCyclesModel", "many", "(I)I"⟩ : Cond) ∈ TB := tb_of (List.mem_of_getElem? (i := 1136) (by decide +kernel)) rfl
theorem wd_1137 : (.instanceMethod ⟨"LoadCyclesModel", "many", "(I)I"⟩ : Cond) ∈ TB := tb_of (List.mem_of_getElem? (i := 1137) (by decide +kernel)) rfl
theorem wd_1138 : (.selects "LoadCyclesModel" ⟨"LoadCyclesModel", "many", "(I)I"⟩ ⟨"LoadCyclesModel", "many", "(I)I"⟩ : Cond) ∈ TB := tb_of (List.mem_of_getElem? (i := 1138) (by decide +kernel)) rfl
set_option maxRecDepth 20000 in
theorem wd_1139 : (.code ⟨"LoadCyclesModel", "many", "(I)I"⟩ prog_9_method_76_code 2 (some .int) : Cond) ∈ TB := tb_of (List.mem_of_getElem? (i := 1139) rfl) rfl
end
section
/-! ===== names: classes, fields ===== -/
def RC : Nat → String
  | 0 => "LoadCycles$Doing"
  | 1 => "LoadCycles$Guesses"
  | 2 => "LoadCycles$House"
  | 3 => "LoadCycles$Sheet"
  | 4 => "LoadCycles$TextReader"
  | 5 => "LoadCycles$Unmixer"
  | 6 => "LoadCycles"
  | _ => "LoadCyclesModel"
def TC0 : u_T := fun k => match k with
  | 0 => ("LoadCycles$Doing", "states", "[I", true)
  | 1 => ("LoadCycles$Doing", "energies", "[I", true)
  | 2 => ("LoadCycles$Doing", "allEnergies", "I", false)
  | 3 => ("LoadCycles$Doing", "allRests", "I", false)
  | 4 => ("LoadCycles$Doing", "changes", "I", false)
  | _ => ("LoadCycles$Doing", "starts", "I", false)
def TC1 : u_T := fun k => match k with
  | 0 => ("LoadCycles$Guesses", "known", "[Z", true)
  | _ => ("LoadCycles$Guesses", "energies", "[I", true)
def TC2 : u_T := fun k => match k with
  | 0 => ("LoadCycles$House", "kindOf", "[I", true)
  | 1 => ("LoadCycles$House", "levelsOf", "[I", true)
  | 2 => ("LoadCycles$House", "told", "[I", true)
  | 3 => ("LoadCycles$House", "values", "[I", true)
  | 4 => ("LoadCycles$House", "appliances", "I", false)
  | 5 => ("LoadCycles$House", "times", "I", false)
  | _ => ("LoadCycles$House", "always", "I", false)
def TC3 : u_T := fun k => match k with
  | 0 => ("LoadCycles$Sheet", "cells", "[I", true)
  | 1 => ("LoadCycles$Sheet", "lane", "I", false)
  | _ => ("LoadCycles$Sheet", "length", "I", false)
def TC4 : u_T := fun k => match k with
  | 0 => ("LoadCycles$TextReader", "house", "LLoadCycles$House;", true)
  | _ => ("LoadCycles$TextReader", "awaits", "I", false)
def TC5 : u_T := fun k => match k with
  | 0 => ("LoadCycles$Unmixer", "powers", "[I", true)
  | 1 => ("LoadCycles$Unmixer", "mixAfter", "[I", true)
  | 2 => ("LoadCycles$Unmixer", "costs", "[I", true)
  | 3 => ("LoadCycles$Unmixer", "ahead", "[I", false)
  | 4 => ("LoadCycles$Unmixer", "spare", "[I", false)
  | _ => ("LoadCycles$Unmixer", "mixes", "I", false)
def TC6 : u_T := fun k => match k with
  | 0 => ("LoadCycles", "current", "LLoadCycles$House;", true)
  | 1 => ("LoadCycles", "trial", "LLoadCycles$House;", true)
  | 2 => ("LoadCycles", "currentBest", "LLoadCycles$Doing;", true)
  | 3 => ("LoadCycles", "trialBest", "LLoadCycles$Doing;", true)
  | 4 => ("LoadCycles", "unmixer", "LLoadCycles$Unmixer;", true)
  | 5 => ("LoadCycles", "reader", "LLoadCycles$TextReader;", true)
  | 6 => ("LoadCycles", "guesses", "LLoadCycles$Guesses;", true)
  | 7 => ("LoadCycles", "sheets", "[LLoadCycles$Sheet;", true)
  | 8 => ("LoadCycles", "readingAppliances", "[I", true)
  | 9 => ("LoadCycles", "readingEnergies", "[I", true)
  | 10 => ("LoadCycles", "readings", "I", false)
  | 11 => ("LoadCycles", "bestIsKnown", "Z", false)
  | 12 => ("LoadCycles", "traceNumber", "I", false)
  | _ => ("LoadCycles", "faultNumber", "I", false)
def TC7 : u_T := fun k => match k with
  | 0 => ("LoadCyclesModel", "fault", "I", false)
  | 1 => ("LoadCyclesModel", "trace", "I", false)
  | 2 => ("LoadCyclesModel", "sorts", "[I", true)
  | 3 => ("LoadCyclesModel", "sheetLong", "[I", true)
  | 4 => ("LoadCyclesModel", "cells", "[I", true)
  | 5 => ("LoadCyclesModel", "many", "I", false)
  | 6 => ("LoadCyclesModel", "kind", "[I", true)
  | 7 => ("LoadCyclesModel", "levels", "[I", true)
  | 8 => ("LoadCyclesModel", "told", "[I", true)
  | 9 => ("LoadCyclesModel", "times", "I", false)
  | 10 => ("LoadCyclesModel", "value", "[I", true)
  | 11 => ("LoadCyclesModel", "base", "I", false)
  | 12 => ("LoadCyclesModel", "at", "I", false)
  | 13 => ("LoadCyclesModel", "readMany", "I", false)
  | 14 => ("LoadCyclesModel", "readKind", "[I", true)
  | 15 => ("LoadCyclesModel", "readLevels", "[I", true)
  | 16 => ("LoadCyclesModel", "readTold", "[I", true)
  | 17 => ("LoadCyclesModel", "isFound", "Z", false)
  | 18 => ("LoadCyclesModel", "power", "[I", true)
  | 19 => ("LoadCyclesModel", "goes", "[I", true)
  | 20 => ("LoadCyclesModel", "cost", "[I", true)
  | 21 => ("LoadCyclesModel", "rank", "[I", true)
  | 22 => ("LoadCyclesModel", "thenCost", "[I", true)
  | 23 => ("LoadCyclesModel", "thenRank", "[I", true)
  | 24 => ("LoadCyclesModel", "start", "[I", true)
  | 25 => ("LoadCyclesModel", "from", "[I", true)
  | 26 => ("LoadCyclesModel", "best", "[I", true)
  | 27 => ("LoadCyclesModel", "keptTold", "[I", true)
  | 28 => ("LoadCyclesModel", "keptValue", "[I", true)
  | 29 => ("LoadCyclesModel", "keptBase", "I", false)
  | 30 => ("LoadCyclesModel", "readings", "I", false)
  | 31 => ("LoadCyclesModel", "readOf", "[I", true)
  | _ => ("LoadCyclesModel", "readEnergy", "[I", true)
def TC : Nat → u_T
  | 0 => TC0
  | 1 => TC1
  | 2 => TC2
  | 3 => TC3
  | 4 => TC4
  | 5 => TC5
  | 6 => TC6
  | _ => TC7
def NC : Nat → Nat
  | 0 => 6
  | 1 => 2
  | 2 => 7
  | 3 => 3
  | 4 => 2
  | 5 => 6
  | 6 => 14
  | _ => 33
def yC0 : Nat → FieldType := fun k => match k with
  | 0 => .array .int
  | 1 => .array .int
  | 2 => .int
  | 3 => .int
  | 4 => .int
  | _ => .int
def yC1 : Nat → FieldType := fun k => match k with
  | 0 => .array .boolean
  | _ => .array .int
def yC2 : Nat → FieldType := fun k => match k with
  | 0 => .array .int
  | 1 => .array .int
  | 2 => .array .int
  | 3 => .array .int
  | 4 => .int
  | 5 => .int
  | _ => .int
def yC3 : Nat → FieldType := fun k => match k with
  | 0 => .array .int
  | 1 => .int
  | _ => .int
def yC4 : Nat → FieldType := fun k => match k with
  | 0 => .object "LoadCycles$House"
  | _ => .int
def yC5 : Nat → FieldType := fun k => match k with
  | 0 => .array .int
  | 1 => .array .int
  | 2 => .array .int
  | 3 => .array .int
  | 4 => .array .int
  | _ => .int
def yC6 : Nat → FieldType := fun k => match k with
  | 0 => .object "LoadCycles$House"
  | 1 => .object "LoadCycles$House"
  | 2 => .object "LoadCycles$Doing"
  | 3 => .object "LoadCycles$Doing"
  | 4 => .object "LoadCycles$Unmixer"
  | 5 => .object "LoadCycles$TextReader"
  | 6 => .object "LoadCycles$Guesses"
  | 7 => .array (.object "LoadCycles$Sheet")
  | 8 => .array .int
  | 9 => .array .int
  | 10 => .int
  | 11 => .boolean
  | 12 => .int
  | _ => .int
def yC7 : Nat → FieldType := fun k => match k with
  | 0 => .int
  | 1 => .int
  | 2 => .array .int
  | 3 => .array .int
  | 4 => .array .int
  | 5 => .int
  | 6 => .array .int
  | 7 => .array .int
  | 8 => .array .int
  | 9 => .int
  | 10 => .array .int
  | 11 => .int
  | 12 => .int
  | 13 => .int
  | 14 => .array .int
  | 15 => .array .int
  | 16 => .array .int
  | 17 => .boolean
  | 18 => .array .int
  | 19 => .array .int
  | 20 => .array .int
  | 21 => .array .int
  | 22 => .array .int
  | 23 => .array .int
  | 24 => .array .int
  | 25 => .array .int
  | 26 => .array .int
  | 27 => .array .int
  | 28 => .array .int
  | 29 => .int
  | 30 => .int
  | 31 => .array .int
  | _ => .array .int
def yC : Nat → Nat → FieldType
  | 0 => yC0
  | 1 => yC1
  | 2 => yC2
  | 3 => yC3
  | 4 => yC4
  | 5 => yC5
  | 6 => yC6
  | _ => yC7
abbrev classes : List vw_C := [(RC 0, TC 0, NC 0), (RC 1, TC 1, NC 1), (RC 2, TC 2, NC 2), (RC 3, TC 3, NC 3), (RC 4, TC 4, NC 4), (RC 5, TC 5, NC 5), (RC 6, TC 6, NC 6), (RC 7, TC 7, NC 7)]
theorem cls_at : ∀ {ci : Nat}, ci < 8 → classes[ci]? = some (RC ci, TC ci, NC ci)
  | 0, _ => rfl
  | 1, _ => rfl
  | 2, _ => rfl
  | 3, _ => rfl
  | 4, _ => rfl
  | 5, _ => rfl
  | 6, _ => rfl
  | 7, _ => rfl
  | n + 8, h => absurd h (by omega)
theorem cls_in0 : ∀ k, k < 6 → u_lay (RC 0) (TC 0) k ∈ TB
  | 0, _ => wd_142
  | 1, _ => wd_144
  | 2, _ => wd_146
  | 3, _ => wd_148
  | 4, _ => wd_150
  | 5, _ => wd_152
  | n + 6, h => absurd h (by omega)
theorem cls_in1 : ∀ k, k < 2 → u_lay (RC 1) (TC 1) k ∈ TB
  | 0, _ => wd_204
  | 1, _ => wd_206
  | n + 2, h => absurd h (by omega)
theorem cls_in2 : ∀ k, k < 7 → u_lay (RC 2) (TC 2) k ∈ TB
  | 0, _ => wd_112
  | 1, _ => wd_114
  | 2, _ => wd_116
  | 3, _ => wd_118
  | 4, _ => wd_120
  | 5, _ => wd_122
  | 6, _ => wd_124
  | n + 7, h => absurd h (by omega)
theorem cls_in3 : ∀ k, k < 3 → u_lay (RC 3) (TC 3) k ∈ TB
  | 0, _ => wd_223
  | 1, _ => wd_225
  | 2, _ => wd_227
  | n + 3, h => absurd h (by omega)
theorem cls_in4 : ∀ k, k < 2 → u_lay (RC 4) (TC 4) k ∈ TB
  | 0, _ => wd_191
  | 1, _ => wd_193
  | n + 2, h => absurd h (by omega)
theorem cls_in5 : ∀ k, k < 6 → u_lay (RC 5) (TC 5) k ∈ TB
  | 0, _ => wd_167
  | 1, _ => wd_169
  | 2, _ => wd_171
  | 3, _ => wd_173
  | 4, _ => wd_175
  | 5, _ => wd_177
  | n + 6, h => absurd h (by omega)
theorem cls_in6 : ∀ k, k < 14 → u_lay (RC 6) (TC 6) k ∈ TB
  | 0, _ => wd_244
  | 1, _ => wd_246
  | 2, _ => wd_248
  | 3, _ => wd_250
  | 4, _ => wd_252
  | 5, _ => wd_254
  | 6, _ => wd_256
  | 7, _ => wd_258
  | 8, _ => wd_260
  | 9, _ => wd_262
  | 10, _ => wd_264
  | 11, _ => wd_266
  | 12, _ => wd_268
  | 13, _ => wd_270
  | n + 14, h => absurd h (by omega)
theorem cls_in7 : ∀ k, k < 33 → u_lay (RC 7) (TC 7) k ∈ TB
  | 0, _ => wd_766
  | 1, _ => wd_768
  | 2, _ => wd_770
  | 3, _ => wd_772
  | 4, _ => wd_774
  | 5, _ => wd_776
  | 6, _ => wd_778
  | 7, _ => wd_780
  | 8, _ => wd_782
  | 9, _ => wd_784
  | 10, _ => wd_786
  | 11, _ => wd_788
  | 12, _ => wd_790
  | 13, _ => wd_792
  | 14, _ => wd_794
  | 15, _ => wd_796
  | 16, _ => wd_798
  | 17, _ => wd_800
  | 18, _ => wd_802
  | 19, _ => wd_804
  | 20, _ => wd_806
  | 21, _ => wd_808
  | 22, _ => wd_810
  | 23, _ => wd_812
  | 24, _ => wd_814
  | 25, _ => wd_816
  | 26, _ => wd_818
  | 27, _ => wd_820
  | 28, _ => wd_822
  | 29, _ => wd_824
  | 30, _ => wd_826
  | 31, _ => wd_828
  | 32, _ => wd_830
  | n + 33, h => absurd h (by omega)
theorem cls_in : ∀ {ci : Nat}, ci < 8 → ∀ w ∈ u_ws (RC ci) (TC ci) (NC ci), w ∈ TB := by
  intro ci hci w hw
  obtain ⟨k, hk, rfl⟩ := List.mem_map.mp hw
  have hk := List.mem_range.mp hk
  match ci, hci, hk with
  | 0, _, hk => exact cls_in0 k hk
  | 1, _, hk => exact cls_in1 k hk
  | 2, _, hk => exact cls_in2 k hk
  | 3, _, hk => exact cls_in3 k hk
  | 4, _, hk => exact cls_in4 k hk
  | 5, _, hk => exact cls_in5 k hk
  | 6, _, hk => exact cls_in6 k hk
  | 7, _, hk => exact cls_in7 k hk
theorem cls_ty : ∀ {ci : Nat}, ci < 8 → ∀ k, k < NC ci → parseFieldDescriptor (TC ci k).2.2.1 = some (yC ci k) := by decide +kernel
theorem cls_nm : ∀ {ci : Nat}, ci < 8 → ∀ a, a < NC ci → ∀ b, b < NC ci → a ≠ b → (TC ci a).2.1 ≠ (TC ci b).2.1 := by decide +kernel
/-! ===== the world ===== -/
abbrev Sg : Type := Nat → Nat → Int32
def s1 (σ : Sg) (c : Nat) (f : Nat → Int32) : Sg := fun d => if d = c then f else σ d
def s2 (σ : Sg) (c i : Nat) (v : Int32) : Sg := s1 σ c (upd (σ c) i v)
def kdL : List Nat := [6, 2, 8, 8, 8, 8, 2, 8, 8, 8, 8, 2, 8, 8, 8, 8, 0, 8, 8, 0, 8, 8, 5, 8, 8, 8, 8, 8, 4, 1, 9, 8, 10, 3, 8, 3, 8, 3, 8, 3, 8, 8, 8, 7, 8, 8, 8, 8, 8, 8, 8, 8, 8, 8, 8, 8, 8, 8, 8, 8, 8, 8, 8, 8, 8, 8, 8]
def lnL : List Nat := [0, 0, 4, 4, 12, 20, 0, 4, 4, 12, 20, 0, 4, 4, 12, 20, 0, 80, 4, 0, 80, 4, 0, 256, 1024, 5120, 256, 256, 0, 0, 48, 192, 4, 0, 60, 0, 60, 0, 60, 0, 60, 8, 8, 0, 4, 4, 240, 4, 4, 12, 20, 4, 4, 12, 256, 4096, 256, 256, 256, 256, 257, 5120, 20, 12, 20, 8, 8]
def kd (c : Nat) : Nat := kdL.getD c 11
def ln (c : Nat) : Nat := lnL.getD c 0
theorem kd_lt {c : Nat} (h : kd c ≠ 11) : c < 67 := by
  rcases Nat.lt_or_ge c 67 with q | q
  · exact q
  · exact absurd (show kd c = 11 by unfold kd; rw [List.getD_eq_getElem?_getD, List.getElem?_eq_none (by exact q)]; rfl) h
abbrev Yx : Type := Launch × va_G × (Nat → Prop) × (Nat → Nat) × ClassId × ClassId × ClassId
abbrev yl (Y : Yx) : Launch := Y.1
abbrev yD (Y : Yx) : va_G := Y.2.1
abbrev yA (Y : Yx) : Nat → Prop := Y.2.2.1
abbrev ya (Y : Yx) : Nat → Nat := Y.2.2.2.1
abbrev yI (Y : Yx) : ClassId := Y.2.2.2.2.1
abbrev yZ (Y : Yx) : ClassId := Y.2.2.2.2.2.1
abbrev yS (Y : Yx) : ClassId := Y.2.2.2.2.2.2
abbrev tys (Y : Yx) : List (ClassId × FieldType) := [(yI Y, .int), (yZ Y, .boolean), (yS Y, .object "LoadCycles$Sheet")]
def flds (ad : Nat → Nat) (ci c : Nat) (f : Nat → Int32) : List Value := match ci with
  | 0 => [.ref (ad (c + 1)), .ref (ad (c + 2)), .int (f 2), .int (f 3), .int (f 4), .int (f 5)]
  | 1 => [.ref (ad (c + 1)), .ref (ad (c + 2))]
  | 2 => [.ref (ad (c + 1)), .ref (ad (c + 2)), .ref (ad (c + 3)), .ref (ad (c + 4)), .int (f 4), .int (f 5), .int (f 6)]
  | 3 => [.ref (ad (c + 1)), .int (f 1), .int (f 2)]
  | 4 => [.ref (ad 11), .int (f 1)]
  | 5 => [.ref (ad (c + 1)), .ref (ad (c + 2)), .ref (ad (c + 3)), .ref (ad (f 3).toNatClampNeg), .ref (ad (f 4).toNatClampNeg), .int (f 5)]
  | 6 => [.ref (ad 1), .ref (ad 6), .ref (ad 16), .ref (ad 19), .ref (ad 22), .ref (ad 28), .ref (ad 29), .ref (ad 32), .ref (ad 41), .ref (ad 42), .int (f 10), .int (f 11), .int (f 12), .int (f 13)]
  | _ => [.int (f 0), .int (f 1), .ref (ad 44), .ref (ad 45), .ref (ad 46), .int (f 5), .ref (ad 47), .ref (ad 48), .ref (ad 49), .int (f 9), .ref (ad 50), .int (f 11), .int (f 12), .int (f 13), .ref (ad 51), .ref (ad 52), .ref (ad 53), .int (f 17), .ref (ad 54), .ref (ad 55), .ref (ad 56), .ref (ad 57), .ref (ad 58), .ref (ad 59), .ref (ad 60), .ref (ad 61), .ref (ad 62), .ref (ad 63), .ref (ad 64), .int (f 29), .int (f 30), .ref (ad 65), .ref (ad 66)]
theorem flds_len (ad : Nat → Nat) (c : Nat) (f : Nat → Int32) : ∀ {ci : Nat}, ci < 8 → (flds ad ci c f).length = NC ci
  | 0, _ => rfl
  | 1, _ => rfl
  | 2, _ => rfl
  | 3, _ => rfl
  | 4, _ => rfl
  | 5, _ => rfl
  | 6, _ => rfl
  | 7, _ => rfl
  | n + 8, h => absurd h (by omega)
def shr (ad : Nat → Nat) : Nat → Option Nat := fun k => if k < 4 then some (ad (33 + 2 * k)) else none
def ce (Y : Yx) (c : Nat) (f : Nat → Int32) : va_E := match kd c with
  | 8 => .inl (yI Y, (ln c, .inl f))
  | 9 => .inl (yZ Y, (ln c, .inl f))
  | 10 => .inl (yS Y, (4, .inr (.inr (.inr (.inr (shr (ya Y)))))))
  | ci => .inr (ci, flds (ya Y) ci c f)
def GW (Y : Yx) (σ : Sg) : va_W := (List.range 67).map (fun c => (ya Y c, ce Y c (σ c)))
theorem GW_at {Y : Yx} {σ : Sg} {c : Nat} (h : c < 67) : (GW Y σ)[c]? = some (ya Y c, ce Y c (σ c)) := by
  unfold GW
  rw [List.getElem?_map, List.getElem?_range h]
  rfl
theorem GW_none {Y : Yx} {σ : Sg} {c : Nat} (h : ¬ c < 67) : (GW Y σ)[c]? = none := List.getElem?_eq_none (by unfold GW; simp; omega)
theorem GW_set {Y : Yx} {σ : Sg} {c : Nat} {f : Nat → Int32} {x : va_E} (h : c < 67) (hx : ce Y c f = x) : (GW Y σ).set c (ya Y c, x) = GW Y (s1 σ c f) := by
  apply List.ext_getElem?
  intro i
  by_cases hi : i < 67
  · rw [GW_at hi]
    by_cases hic : c = i
    · subst hic
      rw [List.getElem?_set_self (by unfold GW; simpa using h)]
      simp [s1, hx]
    · rw [List.getElem?_set_ne hic, GW_at hi]
      simp [s1, Ne.symm hic]
  · rw [GW_none hi]
    exact List.getElem?_eq_none (by rw [List.length_set]; unfold GW; simp; omega)
def YD (Y : Yx) : Prop := (∀ i j, i < 67 → j < 67 → ya Y i = ya Y j → i = j) ∧ ∀ c, c < 67 → yA Y (ya Y c)
theorem YD.D {Y : Yx} (h : YD Y) (σ : Sg) : va_D (yA Y) (GW Y σ) := by
  refine ⟨fun i j p q hi hj e => ?_, fun k q hk => ?_⟩
  · by_cases h1 : i < 67
    · by_cases h2 : j < 67
      · rw [GW_at h1] at hi
        rw [GW_at h2] at hj
        cases hi; cases hj
        exact h.1 i j h1 h2 e
      · rw [GW_none h2] at hj; cases hj
    · rw [GW_none h1] at hi; cases hi
  · by_cases h1 : k < 67
    · rw [GW_at h1] at hk
      cases hk
      exact h.2 k h1
    · rw [GW_none h1] at hk; cases hk
theorem ce_o {Y : Yx} {c ci : Nat} {f : Nat → Int32} (h : kd c = ci) (hc : ci < 8) : ce Y c f = .inr (ci, flds (ya Y) ci c f) := by
  unfold ce
  rw [h]
  match ci, hc with

  | 0, _ => rfl
  | 1, _ => rfl
  | 2, _ => rfl
  | 3, _ => rfl
  | 4, _ => rfl
  | 5, _ => rfl
  | 6, _ => rfl
  | 7, _ => rfl
theorem ce_i {Y : Yx} {c n : Nat} {f : Nat → Int32} (h : kd c = 8 ∧ ln c = n) : ce Y c f = .inl (yI Y, (n, .inl f)) := by
  unfold ce
  rw [h.1, ← h.2]
  rfl
theorem ce_z {Y : Yx} {c n : Nat} {f : Nat → Int32} (h : kd c = 9 ∧ ln c = n) : ce Y c f = .inl (yZ Y, (n, .inl f)) := by
  unfold ce
  rw [h.1, ← h.2]
  rfl
theorem ce_s {Y : Yx} {f : Nat → Int32} : ce Y 32 f = .inl (yS Y, (4, .inr (.inr (.inr (.inr (shr (ya Y))))))) := rfl
def ia (c n : Nat) : Prop := kd c = 8 ∧ ln c = n
def za (c n : Nat) : Prop := kd c = 9 ∧ ln c = n
theorem ia.lt {c n : Nat} (h : ia c n) : c < 67 := kd_lt (by rw [h.1]; decide)
theorem za.lt {c n : Nat} (h : za c n) : c < 67 := kd_lt (by rw [h.1]; decide)
theorem kd_all {P : Nat → Prop} {k : Nat} (hk : k ≠ 11) (h : ∀ c, c < 67 → kd c = k → P c) {c : Nat} (hc : kd c = k) : P c := h c (kd_lt (by rw [hc]; exact hk)) hc
theorem kH : ∀ c, c < 67 → kd c = 2 → (kd (c + 1) = 8 ∧ ln (c + 1) = 4) ∧ (kd (c + 2) = 8 ∧ ln (c + 2) = 4) ∧ (kd (c + 3) = 8 ∧ ln (c + 3) = 12) ∧ (kd (c + 4) = 8 ∧ ln (c + 4) = 20) := by decide +kernel
theorem kDo : ∀ c, c < 67 → kd c = 0 → (kd (c + 1) = 8 ∧ ln (c + 1) = 80) ∧ (kd (c + 2) = 8 ∧ ln (c + 2) = 4) := by decide +kernel
theorem kSh : ∀ c, c < 67 → kd c = 3 → (kd (c + 1) = 8 ∧ ln (c + 1) = 60) := by decide +kernel
theorem k2_1 {c : Nat} (h : kd c = 2) : ia (c + 1) 4 := (kH c (kd_lt (by rw [h]; decide)) h).1
theorem k2_2 {c : Nat} (h : kd c = 2) : ia (c + 2) 4 := (kH c (kd_lt (by rw [h]; decide)) h).2.1
theorem k2_3 {c : Nat} (h : kd c = 2) : ia (c + 3) 12 := (kH c (kd_lt (by rw [h]; decide)) h).2.2.1
theorem k2_4 {c : Nat} (h : kd c = 2) : ia (c + 4) 20 := (kH c (kd_lt (by rw [h]; decide)) h).2.2.2
theorem k0_1 {c : Nat} (h : kd c = 0) : ia (c + 1) 80 := (kDo c (kd_lt (by rw [h]; decide)) h).1
theorem k0_2 {c : Nat} (h : kd c = 0) : ia (c + 2) 4 := (kDo c (kd_lt (by rw [h]; decide)) h).2
theorem k3_1 {c : Nat} (h : kd c = 3) : ia (c + 1) 60 := kSh c (kd_lt (by rw [h]; decide)) h
theorem kS : ∀ k, k < 4 → kd (33 + 2 * k) = 3 := by decide +kernel
/-! ===== the walk's judgement ===== -/
abbrev Bx : Type := Program × Env × Room × State × MethodId × Array Value × List Frame × Method × Code × Nat × Nat
abbrev xp (X : Bx) : Program := X.1
abbrev xe (X : Bx) : Env := X.2.1
abbrev xR (X : Bx) : Room := X.2.2.1
abbrev xs (X : Bx) : State := X.2.2.2.1
abbrev xm (X : Bx) : MethodId := X.2.2.2.2.1
abbrev xa (X : Bx) : Array Value := X.2.2.2.2.2.1
abbrev xb (X : Bx) : List Frame := X.2.2.2.2.2.2.1
abbrev xh (X : Bx) : Method := X.2.2.2.2.2.2.2.1
abbrev xc (X : Bx) : Code := X.2.2.2.2.2.2.2.2.1
abbrev xk (X : Bx) : Nat := X.2.2.2.2.2.2.2.2.2.1
abbrev xn (X : Bx) : Nat := X.2.2.2.2.2.2.2.2.2.2
abbrev WX (X : Bx) (Y : Yx) (H : Heap) (locs : List Loc) (Q : State → Prop) (g : JFrame) : Prop := W (xp X) (yl Y) (xe X) (xR X) (xs X) (xm X) (xa X) (xb X) (xh X) (xc X) H locs (xk X) (xn X) Q g
abbrev nestW : Cond := .methodLinkNest "LoadCycles$TextReader" 50 ⟨"LoadCycles", "isLevelValue", "(I)Z"⟩ "LoadCycles"
/-- what a walk of a method stands on -/
def Cx (X : Bx) (Y : Yx) (cc : ByteArray) (nL : Nat) (own : String) (F L : Nat) : Prop :=
  (xp X).tables.exec = Jvm.exec ∧ (xc X).code = cc ∧ (xc X).maxLocals = nL ∧ (xs X).vm.findClass own = some (xm X).cls ∧ (∀ w ∈ TB, w.before (xa X) (xs X) = true) ∧ va_K (yD Y) classes (tys Y) (xs X) ∧ YD Y ∧ (xh X).locks = false ∧ va_Nw nestW (xs X) ∧ (F ≤ (xR X).frames ∧ L ≤ (xR X).locals ∧ xk X ≤ (xR X).cells ∧ xn X ≤ (xR X).slots)
def St (X : Bx) (Y : Yx) (nL : Nat) (Q : State → Prop) (pc : Nat) (lv : List (Nat × Value)) (st : List Value) (σ : Sg) : Prop :=
  ∀ (H : Heap) (locs : List Loc) (ls : Array Slot), va_P (yD Y) classes (GW Y σ) H → va_S (yA Y) (xs X).heap H locs → lv_has ls nL lv → WX X Y H locs Q (F0 (xm X) pc ls st)
def GI (Y : Yx) (σ : Sg) (U : State) : Prop := va_P (yD Y) classes (GW Y σ) U.heap ∧ va_K (yD Y) classes (tys Y) U ∧ va_Nw nestW U
def GO (Y : Yx) (σ : Sg) (t : State) : Prop := va_P (yD Y) classes (GW Y σ) t.heap
abbrev rmX (F L : Nat) : Room := { frames := F, cells := 0, slots := 0, locals := L }
def MetI (Y : Yx) (y : MethodName) (cc : ByteArray) (n : Nat) (rt : FieldType) (F L : Nat) (av : List Value) (σ : Sg) (K : Int32 → Sg → Prop) : Prop :=
  Met (yl Y) y (.code y cc n (some rt) :: TB) (rmX F L) (va_Pc av (GI Y σ)) (va_Qi K (GO Y) (yA Y)) 0 0 (yA Y)
def MetL (Y : Yx) (y : MethodName) (cc : ByteArray) (n : Nat) (F L : Nat) (av : List Value) (σ : Sg) (K : Int64 → Sg → Prop) : Prop :=
  Met (yl Y) y (.code y cc n (some .long) :: TB) (rmX F L) (va_Pc av (GI Y σ)) (va_Ql K (GO Y) (yA Y)) 0 0 (yA Y)
def MetV (Y : Yx) (y : MethodName) (cc : ByteArray) (n : Nat) (F L : Nat) (av : List Value) (σ : Sg) (K : Sg → Prop) : Prop :=
  Met (yl Y) y (.code y cc n none :: TB) (rmX F L) (va_Pc av (GI Y σ)) (va_Qv K (GO Y) (yA Y)) 0 0 (yA Y)
def MetR (Y : Yx) (y : MethodName) (cc : ByteArray) (n : Nat) (rt : FieldType) (F L : Nat) (av : List Value) (σ : Sg) (K : Nat → Sg → Prop) : Prop :=
  Met (yl Y) y (.code y cc n (some rt) :: TB) (rmX F L) (va_Pc av (GI Y σ)) (va_Qr (fun u : Nat × Sg => K u.1 u.2) (fun u a t => a = ya Y u.1 ∧ GO Y u.2 t) (yA Y)) 0 0 (yA Y)
def QI (X : Bx) (Y : Yx) (K : Int32 → Sg → Prop) : State → Prop := MQ (xb X) (va_Qi K (GO Y) (yA Y)) (xa X) (xs X) (xk X) (xn X) (yA Y)
def QL (X : Bx) (Y : Yx) (K : Int64 → Sg → Prop) : State → Prop := MQ (xb X) (va_Ql K (GO Y) (yA Y)) (xa X) (xs X) (xk X) (xn X) (yA Y)
def QV (X : Bx) (Y : Yx) (K : Sg → Prop) : State → Prop := MQ (xb X) (va_Qv K (GO Y) (yA Y)) (xa X) (xs X) (xk X) (xn X) (yA Y)
def QR (X : Bx) (Y : Yx) (K : Nat → Sg → Prop) : State → Prop := MQ (xb X) (va_Qr (fun u : Nat × Sg => K u.1 u.2) (fun u a t => a = ya Y u.1 ∧ GO Y u.2 t) (yA Y)) (xa X) (xs X) (xk X) (xn X) (yA Y)

theorem met_I {Y : Yx} {y : MethodName} {cc : ByteArray} {n : Nat} {rt : FieldType} {F L : Nat} {av : List Value} {σ : Sg} {K : Int32 → Sg → Prop} (lv : List (Nat × Value)) (hY : YD Y) (hy : plainName y.cls = true) (hn : (lg_sl av).length ≤ n) (hlv : lv_args 0 av = lv)
    (h : ∀ X : Bx, Cx X Y cc n y.cls F L → (xh X).sig.returnType = (some rt) → St X Y n (QI X Y K) 0 lv [] σ) : MetI Y y cc n rt F L av σ K := by
  refine Met.ofW (cc := cc) (maxL := n) (ret := (some rt)) hy rfl ?_
  intro p e s m args below meth c s₁ B hml hv
  obtain ⟨rfl, hP, hK, hN⟩ := hv
  have hts := atoms_spec (ws := .code y cc n (some rt) :: TB) B.pre
  have hown : s.vm.findClass y.cls = some m.cls := findClass_of_methodNamed B.named
  have hl := lv_entry av (n := n) hn
  rw [lg_entry_eq]
  generalize (lg_sl av ++ List.replicate (n - (lg_sl av).length) Slot.unset).toArray = ls at hl ⊢
  rw [hlv] at hl
  exact h (p, e, rmX F L, s, m, av.toArray, below, meth, c, 0, 0) ⟨B.exec, B.bytes, hml, hown, fun w hw => hts w (List.mem_cons_of_mem _ hw), hK, hY, B.notSynchronized, hN, Nat.le_refl _, Nat.le_refl _, Nat.le_refl _, Nat.le_refl _⟩ B.returns s.heap [] ls hP va_S.rf hl
theorem met_L {Y : Yx} {y : MethodName} {cc : ByteArray} {n : Nat} {F L : Nat} {av : List Value} {σ : Sg} {K : Int64 → Sg → Prop} (lv : List (Nat × Value)) (hY : YD Y) (hy : plainName y.cls = true) (hn : (lg_sl av).length ≤ n) (hlv : lv_args 0 av = lv)
    (h : ∀ X : Bx, Cx X Y cc n y.cls F L → (xh X).sig.returnType = (some .long) → St X Y n (QL X Y K) 0 lv [] σ) : MetL Y y cc n F L av σ K := by
  refine Met.ofW (cc := cc) (maxL := n) (ret := (some .long)) hy rfl ?_
  intro p e s m args below meth c s₁ B hml hv
  obtain ⟨rfl, hP, hK, hN⟩ := hv
  have hts := atoms_spec (ws := .code y cc n (some .long) :: TB) B.pre
  have hown : s.vm.findClass y.cls = some m.cls := findClass_of_methodNamed B.named
  have hl := lv_entry av (n := n) hn
  rw [lg_entry_eq]
  generalize (lg_sl av ++ List.replicate (n - (lg_sl av).length) Slot.unset).toArray = ls at hl ⊢
  rw [hlv] at hl
  exact h (p, e, rmX F L, s, m, av.toArray, below, meth, c, 0, 0) ⟨B.exec, B.bytes, hml, hown, fun w hw => hts w (List.mem_cons_of_mem _ hw), hK, hY, B.notSynchronized, hN, Nat.le_refl _, Nat.le_refl _, Nat.le_refl _, Nat.le_refl _⟩ B.returns s.heap [] ls hP va_S.rf hl
theorem met_V {Y : Yx} {y : MethodName} {cc : ByteArray} {n : Nat} {F L : Nat} {av : List Value} {σ : Sg} {K : Sg → Prop} (lv : List (Nat × Value)) (hY : YD Y) (hy : plainName y.cls = true) (hn : (lg_sl av).length ≤ n) (hlv : lv_args 0 av = lv)
    (h : ∀ X : Bx, Cx X Y cc n y.cls F L → (xh X).sig.returnType = none → St X Y n (QV X Y K) 0 lv [] σ) : MetV Y y cc n F L av σ K := by
  refine Met.ofW (cc := cc) (maxL := n) (ret := none) hy rfl ?_
  intro p e s m args below meth c s₁ B hml hv
  obtain ⟨rfl, hP, hK, hN⟩ := hv
  have hts := atoms_spec (ws := .code y cc n none :: TB) B.pre
  have hown : s.vm.findClass y.cls = some m.cls := findClass_of_methodNamed B.named
  have hl := lv_entry av (n := n) hn
  rw [lg_entry_eq]
  generalize (lg_sl av ++ List.replicate (n - (lg_sl av).length) Slot.unset).toArray = ls at hl ⊢
  rw [hlv] at hl
  exact h (p, e, rmX F L, s, m, av.toArray, below, meth, c, 0, 0) ⟨B.exec, B.bytes, hml, hown, fun w hw => hts w (List.mem_cons_of_mem _ hw), hK, hY, B.notSynchronized, hN, Nat.le_refl _, Nat.le_refl _, Nat.le_refl _, Nat.le_refl _⟩ B.returns s.heap [] ls hP va_S.rf hl
theorem met_R {Y : Yx} {y : MethodName} {cc : ByteArray} {n : Nat} {rt : FieldType} {F L : Nat} {av : List Value} {σ : Sg} {K : Nat → Sg → Prop} (lv : List (Nat × Value)) (hY : YD Y) (hy : plainName y.cls = true) (hn : (lg_sl av).length ≤ n) (hlv : lv_args 0 av = lv)
    (h : ∀ X : Bx, Cx X Y cc n y.cls F L → (xh X).sig.returnType = (some rt) → St X Y n (QR X Y K) 0 lv [] σ) : MetR Y y cc n rt F L av σ K := by
  refine Met.ofW (cc := cc) (maxL := n) (ret := (some rt)) hy rfl ?_
  intro p e s m args below meth c s₁ B hml hv
  obtain ⟨rfl, hP, hK, hN⟩ := hv
  have hts := atoms_spec (ws := .code y cc n (some rt) :: TB) B.pre
  have hown : s.vm.findClass y.cls = some m.cls := findClass_of_methodNamed B.named
  have hl := lv_entry av (n := n) hn
  rw [lg_entry_eq]
  generalize (lg_sl av ++ List.replicate (n - (lg_sl av).length) Slot.unset).toArray = ls at hl ⊢
  rw [hlv] at hl
  exact h (p, e, rmX F L, s, m, av.toArray, below, meth, c, 0, 0) ⟨B.exec, B.bytes, hml, hown, fun w hw => hts w (List.mem_cons_of_mem _ hw), hK, hY, B.notSynchronized, hN, Nat.le_refl _, Nat.le_refl _, Nat.le_refl _, Nat.le_refl _⟩ B.returns s.heap [] ls hP va_S.rf hl
end
section
section Rows
variable {X : Bx} {Y : Yx} {cc : ByteArray} {nL : Nat} {own : String} {F L : Nat} {Q : State → Prop} {pc : Nat} {lv : List (Nat × Value)} {st : List Value} {σ : Sg}
theorem q_iadd {x y : Int32} (C : Cx X Y cc nL own F L) (hd : decode cc pc = .ok (.iadd, 1))  (h : St X Y nL Q (pc + 1) lv (.int (x + y) :: st) σ) : St X Y nL Q pc lv (.int y :: .int x :: st) σ := fun H locs ls hP hS hl => lv_iadd C.1 C.2.1 hd  (h H locs ls hP hS hl)
theorem q_isub {x y : Int32} (C : Cx X Y cc nL own F L) (hd : decode cc pc = .ok (.isub, 1))  (h : St X Y nL Q (pc + 1) lv (.int (x - y) :: st) σ) : St X Y nL Q pc lv (.int y :: .int x :: st) σ := fun H locs ls hP hS hl => lv_isub C.1 C.2.1 hd  (h H locs ls hP hS hl)
theorem q_imul {x y : Int32} (C : Cx X Y cc nL own F L) (hd : decode cc pc = .ok (.imul, 1))  (h : St X Y nL Q (pc + 1) lv (.int (x * y) :: st) σ) : St X Y nL Q pc lv (.int y :: .int x :: st) σ := fun H locs ls hP hS hl => lv_imul C.1 C.2.1 hd  (h H locs ls hP hS hl)
theorem q_iand {x y : Int32} (C : Cx X Y cc nL own F L) (hd : decode cc pc = .ok (.iand, 1))  (h : St X Y nL Q (pc + 1) lv (.int (x &&& y) :: st) σ) : St X Y nL Q pc lv (.int y :: .int x :: st) σ := fun H locs ls hP hS hl => lv_iand C.1 C.2.1 hd  (h H locs ls hP hS hl)
theorem q_ior {x y : Int32} (C : Cx X Y cc nL own F L) (hd : decode cc pc = .ok (.ior, 1))  (h : St X Y nL Q (pc + 1) lv (.int (x ||| y) :: st) σ) : St X Y nL Q pc lv (.int y :: .int x :: st) σ := fun H locs ls hP hS hl => lv_ior C.1 C.2.1 hd  (h H locs ls hP hS hl)
theorem q_ishl {x y : Int32} (C : Cx X Y cc nL own F L) (hd : decode cc pc = .ok (.ishl, 1))  (h : St X Y nL Q (pc + 1) lv (.int (x <<< (y &&& 31)) :: st) σ) : St X Y nL Q pc lv (.int y :: .int x :: st) σ := fun H locs ls hP hS hl => lv_ishl C.1 C.2.1 hd  (h H locs ls hP hS hl)
theorem q_ishr {x y : Int32} (C : Cx X Y cc nL own F L) (hd : decode cc pc = .ok (.ishr, 1))  (h : St X Y nL Q (pc + 1) lv (.int (x >>> (y &&& 31)) :: st) σ) : St X Y nL Q pc lv (.int y :: .int x :: st) σ := fun H locs ls hP hS hl => lv_ishr C.1 C.2.1 hd  (h H locs ls hP hS hl)
theorem q_iushr {x y : Int32} (C : Cx X Y cc nL own F L) (hd : decode cc pc = .ok (.iushr, 1))  (h : St X Y nL Q (pc + 1) lv (.int ((x.toUInt32 >>> (y.toUInt32 &&& Int32.toUInt32 31)).toInt32) :: st) σ) : St X Y nL Q pc lv (.int y :: .int x :: st) σ := fun H locs ls hP hS hl => lv_iushr C.1 C.2.1 hd rfl (h H locs ls hP hS hl)
theorem q_idiv {x y : Int32} (C : Cx X Y cc nL own F L) (hd : decode cc pc = .ok (.idiv, 1)) (hne : ¬ y = 0) (h : St X Y nL Q (pc + 1) lv (.int (x / y) :: st) σ) : St X Y nL Q pc lv (.int y :: .int x :: st) σ := fun H locs ls hP hS hl => lv_idiv C.1 C.2.1 hd hne (h H locs ls hP hS hl)
theorem q_irem {x y : Int32} (C : Cx X Y cc nL own F L) (hd : decode cc pc = .ok (.irem, 1)) (hne : ¬ y = 0) (h : St X Y nL Q (pc + 1) lv (.int (x - x / y * y) :: st) σ) : St X Y nL Q pc lv (.int y :: .int x :: st) σ := fun H locs ls hP hS hl => lv_irem C.1 C.2.1 hd hne (h H locs ls hP hS hl)
theorem q_ladd {x y : Int64} (C : Cx X Y cc nL own F L) (hd : decode cc pc = .ok (.ladd, 1))  (h : St X Y nL Q (pc + 1) lv (.long (x + y) :: st) σ) : St X Y nL Q pc lv (.long y :: .long x :: st) σ := fun H locs ls hP hS hl => lv_ladd C.1 C.2.1 hd  (h H locs ls hP hS hl)
theorem q_lsub {x y : Int64} (C : Cx X Y cc nL own F L) (hd : decode cc pc = .ok (.lsub, 1))  (h : St X Y nL Q (pc + 1) lv (.long (x - y) :: st) σ) : St X Y nL Q pc lv (.long y :: .long x :: st) σ := fun H locs ls hP hS hl => lv_lsub C.1 C.2.1 hd  (h H locs ls hP hS hl)
theorem q_lmul {x y : Int64} (C : Cx X Y cc nL own F L) (hd : decode cc pc = .ok (.lmul, 1))  (h : St X Y nL Q (pc + 1) lv (.long (x * y) :: st) σ) : St X Y nL Q pc lv (.long y :: .long x :: st) σ := fun H locs ls hP hS hl => lv_lmul C.1 C.2.1 hd  (h H locs ls hP hS hl)
theorem q_land {x y : Int64} (C : Cx X Y cc nL own F L) (hd : decode cc pc = .ok (.land, 1))  (h : St X Y nL Q (pc + 1) lv (.long (x &&& y) :: st) σ) : St X Y nL Q pc lv (.long y :: .long x :: st) σ := fun H locs ls hP hS hl => lv_land C.1 C.2.1 hd  (h H locs ls hP hS hl)
theorem q_ldiv {x y : Int64} (C : Cx X Y cc nL own F L) (hd : decode cc pc = .ok (.ldiv, 1)) (hne : ¬ y = 0) (h : St X Y nL Q (pc + 1) lv (.long (x / y) :: st) σ) : St X Y nL Q pc lv (.long y :: .long x :: st) σ := fun H locs ls hP hS hl => lv_ldiv C.1 C.2.1 hd hne (h H locs ls hP hS hl)
theorem q_lrem {x y : Int64} (C : Cx X Y cc nL own F L) (hd : decode cc pc = .ok (.lrem, 1)) (hne : ¬ y = 0) (h : St X Y nL Q (pc + 1) lv (.long (x - x / y * y) :: st) σ) : St X Y nL Q pc lv (.long y :: .long x :: st) σ := fun H locs ls hP hS hl => lv_lrem C.1 C.2.1 hd hne (h H locs ls hP hS hl)
theorem q_lshl {x : Int64} {y : Int32} (C : Cx X Y cc nL own F L) (hd : decode cc pc = .ok (.lshl, 1))  (h : St X Y nL Q (pc + 1) lv (.long (x <<< (y.toInt64 &&& 63)) :: st) σ) : St X Y nL Q pc lv (.int y :: .long x :: st) σ := fun H locs ls hP hS hl => lv_lshl C.1 C.2.1 hd rfl (h H locs ls hP hS hl)
theorem q_lcmp {x y : Int64} (C : Cx X Y cc nL own F L) (hd : decode cc pc = .ok (.lcmp, 1))  (h : St X Y nL Q (pc + 1) lv (.int (lg_cmp x y) :: st) σ) : St X Y nL Q pc lv (.long y :: .long x :: st) σ := fun H locs ls hP hS hl => W.lcmp C.1 C.2.1 hd  (h H locs ls hP hS hl)
theorem q_i2l {x : Int32} (C : Cx X Y cc nL own F L) (hd : decode cc pc = .ok (.i2l, 1))  (h : St X Y nL Q (pc + 1) lv (.long x.toInt64 :: st) σ) : St X Y nL Q pc lv (.int x :: st) σ := fun H locs ls hP hS hl => lv_i2l C.1 C.2.1 hd rfl (h H locs ls hP hS hl)
theorem q_l2i {x : Int64} (C : Cx X Y cc nL own F L) (hd : decode cc pc = .ok (.l2i, 1))  (h : St X Y nL Q (pc + 1) lv (.int x.toInt32 :: st) σ) : St X Y nL Q pc lv (.long x :: st) σ := fun H locs ls hP hS hl => lv_l2i C.1 C.2.1 hd rfl (h H locs ls hP hS hl)
theorem q_i2b {x : Int32} (C : Cx X Y cc nL own F L) (hd : decode cc pc = .ok (.i2b, 1))  (h : St X Y nL Q (pc + 1) lv (.int x.toInt8.toInt32 :: st) σ) : St X Y nL Q pc lv (.int x :: st) σ := fun H locs ls hP hS hl => lv_i2b C.1 C.2.1 hd rfl (h H locs ls hP hS hl)
theorem q_i2s {x : Int32} (C : Cx X Y cc nL own F L) (hd : decode cc pc = .ok (.i2s, 1))  (h : St X Y nL Q (pc + 1) lv (.int x.toInt16.toInt32 :: st) σ) : St X Y nL Q pc lv (.int x :: st) σ := fun H locs ls hP hS hl => lv_i2s C.1 C.2.1 hd rfl (h H locs ls hP hS hl)
theorem q_iconst {n : Int} {v : Int32} (C : Cx X Y cc nL own F L) (hd : decode cc pc = .ok (.iconst n, 1)) (hv : Int32.ofInt n = v) (h : St X Y nL Q (pc + 1) lv (.int v :: st) σ) : St X Y nL Q pc lv (st) σ := fun H locs ls hP hS hl => lv_iconst C.1 C.2.1 hd hv (h H locs ls hP hS hl)
theorem q_bipush {n : Int} {v : Int32} (C : Cx X Y cc nL own F L) (hd : decode cc pc = .ok (.bipush n, 2)) (hv : (Int8.ofInt n).toInt32 = v) (h : St X Y nL Q (pc + 2) lv (.int v :: st) σ) : St X Y nL Q pc lv (st) σ := fun H locs ls hP hS hl => lv_bipush C.1 C.2.1 hd hv (h H locs ls hP hS hl)
theorem q_sipush {n : Int} {v : Int32} (C : Cx X Y cc nL own F L) (hd : decode cc pc = .ok (.sipush n, 3)) (hv : (Int16.ofInt n).toInt32 = v) (h : St X Y nL Q (pc + 3) lv (.int v :: st) σ) : St X Y nL Q pc lv (st) σ := fun H locs ls hP hS hl => lv_sipush C.1 C.2.1 hd hv (h H locs ls hP hS hl)
theorem q_lconst {n : Fin 2} {v : Int64} (C : Cx X Y cc nL own F L) (hd : decode cc pc = .ok (.lconst n, 1)) (hv : Int64.ofNat (n : Nat) = v) (h : St X Y nL Q (pc + 1) lv (.long v :: st) σ) : St X Y nL Q pc lv (st) σ := fun H locs ls hP hS hl => lv_lconst C.1 C.2.1 hd hv (h H locs ls hP hS hl)
theorem q_dup {va : Value} (C : Cx X Y cc nL own F L) (hd : decode cc pc = .ok (.dup, 1)) (hva : va.category = 1) (h : St X Y nL Q (pc + 1) lv (va :: va :: st) σ) : St X Y nL Q pc lv (va :: st) σ := fun H locs ls hP hS hl => lv_dup C.1 C.2.1 hd hva (h H locs ls hP hS hl)
theorem q_dup2 {va vb : Value} (C : Cx X Y cc nL own F L) (hd : decode cc pc = .ok (.dup2, 1)) (hva : va.category = 1) (hvb : vb.category = 1) (h : St X Y nL Q (pc + 1) lv (va :: vb :: va :: vb :: st) σ) : St X Y nL Q pc lv (va :: vb :: st) σ := fun H locs ls hP hS hl => lv_dup2_11 C.1 C.2.1 hd hva hvb (h H locs ls hP hS hl)
theorem q_iload {i : Nat} {x : Int32} (C : Cx X Y cc nL own F L) (hd : decode cc pc = .ok (.iload i, 2)) (k : Nat) (hk : lv[k]? = some (i, .int x)) (h : St X Y nL Q (pc + 2) lv (.int x :: st) σ) : St X Y nL Q pc lv st σ := fun H locs ls hP hS hl => lv_iload C.1 C.2.1 hd (lv_at hl k hk) (h H locs ls hP hS hl)
theorem q_iload_n {i : Nat} {j : Fin 4} {x : Int32} (C : Cx X Y cc nL own F L) (hd : decode cc pc = .ok (.iload_n j, 1)) (hi : (j : Nat) = i) (k : Nat) (hk : lv[k]? = some (i, .int x)) (h : St X Y nL Q (pc + 1) lv (.int x :: st) σ) : St X Y nL Q pc lv st σ := fun H locs ls hP hS hl => lv_iload_n C.1 C.2.1 hd hi (lv_at hl k hk) (h H locs ls hP hS hl)
theorem q_istore {i : Nat} {x : Int32} (lv2 : List (Nat × Value)) (C : Cx X Y cc nL own F L) (hd : decode cc pc = .ok (.istore i, 2)) (hn : i < nL) (hf : (i, Value.int x) :: lv.filter (fun q => !(q.1 == i) && !(q.1 + 1 == i && q.2.category == 2)) = lv2) (h : St X Y nL Q (pc + 2) lv2 st σ) : St X Y nL Q pc lv (.int x :: st) σ := fun H locs ls hP hS hl => lv_istore C.1 C.2.1 hd hl hn hf (fun ls2 hl2 => h H locs ls2 hP hS hl2)
theorem q_istore_n {i : Nat} {j : Fin 4} {x : Int32} (lv2 : List (Nat × Value)) (C : Cx X Y cc nL own F L) (hd : decode cc pc = .ok (.istore_n j, 1)) (hi : (j : Nat) = i) (hn : i < nL) (hf : (i, Value.int x) :: lv.filter (fun q => !(q.1 == i) && !(q.1 + 1 == i && q.2.category == 2)) = lv2) (h : St X Y nL Q (pc + 1) lv2 st σ) : St X Y nL Q pc lv (.int x :: st) σ := fun H locs ls hP hS hl => lv_istore_n C.1 C.2.1 hd hi hl hn hf (fun ls2 hl2 => h H locs ls2 hP hS hl2)
theorem q_lload {i : Nat} {x : Int64} (C : Cx X Y cc nL own F L) (hd : decode cc pc = .ok (.lload i, 2)) (k : Nat) (hk : lv[k]? = some (i, .long x)) (h : St X Y nL Q (pc + 2) lv (.long x :: st) σ) : St X Y nL Q pc lv st σ := fun H locs ls hP hS hl => lv_lload C.1 C.2.1 hd (lv_at hl k hk) (h H locs ls hP hS hl)
theorem q_lload_n {i : Nat} {j : Fin 4} {x : Int64} (C : Cx X Y cc nL own F L) (hd : decode cc pc = .ok (.lload_n j, 1)) (hi : (j : Nat) = i) (k : Nat) (hk : lv[k]? = some (i, .long x)) (h : St X Y nL Q (pc + 1) lv (.long x :: st) σ) : St X Y nL Q pc lv st σ := fun H locs ls hP hS hl => lv_lload_n C.1 C.2.1 hd hi (lv_at hl k hk) (h H locs ls hP hS hl)
theorem q_lstore {i : Nat} {x : Int64} (lv2 : List (Nat × Value)) (C : Cx X Y cc nL own F L) (hd : decode cc pc = .ok (.lstore i, 2)) (hn : i + 1 < nL) (hf : (i, Value.long x) :: lv.filter (fun q => !(q.1 == i) && (!(q.1 == i + 1) && !(q.1 + 1 == i && q.2.category == 2))) = lv2) (h : St X Y nL Q (pc + 2) lv2 st σ) : St X Y nL Q pc lv (.long x :: st) σ := fun H locs ls hP hS hl => lv_lstore C.1 C.2.1 hd hl hn hf (fun ls2 hl2 => h H locs ls2 hP hS hl2)
theorem q_lstore_n {i : Nat} {j : Fin 4} {x : Int64} (lv2 : List (Nat × Value)) (C : Cx X Y cc nL own F L) (hd : decode cc pc = .ok (.lstore_n j, 1)) (hi : (j : Nat) = i) (hn : i + 1 < nL) (hf : (i, Value.long x) :: lv.filter (fun q => !(q.1 == i) && (!(q.1 == i + 1) && !(q.1 + 1 == i && q.2.category == 2))) = lv2) (h : St X Y nL Q (pc + 1) lv2 st σ) : St X Y nL Q pc lv (.long x :: st) σ := fun H locs ls hP hS hl => lv_lstore_n C.1 C.2.1 hd hi hl hn hf (fun ls2 hl2 => h H locs ls2 hP hS hl2)
theorem q_aload {i : Nat} {x : Nat} (C : Cx X Y cc nL own F L) (hd : decode cc pc = .ok (.aload i, 2)) (k : Nat) (hk : lv[k]? = some (i, .ref x)) (h : St X Y nL Q (pc + 2) lv (.ref x :: st) σ) : St X Y nL Q pc lv st σ := fun H locs ls hP hS hl => lv_aload C.1 C.2.1 hd (lv_at hl k hk) (h H locs ls hP hS hl)
theorem q_aload_n {i : Nat} {j : Fin 4} {x : Nat} (C : Cx X Y cc nL own F L) (hd : decode cc pc = .ok (.aload_n j, 1)) (hi : (j : Nat) = i) (k : Nat) (hk : lv[k]? = some (i, .ref x)) (h : St X Y nL Q (pc + 1) lv (.ref x :: st) σ) : St X Y nL Q pc lv st σ := fun H locs ls hP hS hl => lv_aload_n C.1 C.2.1 hd hi (lv_at hl k hk) (h H locs ls hP hS hl)
theorem q_astore {i : Nat} {x : Nat} (lv2 : List (Nat × Value)) (C : Cx X Y cc nL own F L) (hd : decode cc pc = .ok (.astore i, 2)) (hn : i < nL) (hf : (i, Value.ref x) :: lv.filter (fun q => !(q.1 == i) && !(q.1 + 1 == i && q.2.category == 2)) = lv2) (h : St X Y nL Q (pc + 2) lv2 st σ) : St X Y nL Q pc lv (.ref x :: st) σ := fun H locs ls hP hS hl => lv_astore C.1 C.2.1 hd hl hn hf (fun ls2 hl2 => h H locs ls2 hP hS hl2)
theorem q_astore_n {i : Nat} {j : Fin 4} {x : Nat} (lv2 : List (Nat × Value)) (C : Cx X Y cc nL own F L) (hd : decode cc pc = .ok (.astore_n j, 1)) (hi : (j : Nat) = i) (hn : i < nL) (hf : (i, Value.ref x) :: lv.filter (fun q => !(q.1 == i) && !(q.1 + 1 == i && q.2.category == 2)) = lv2) (h : St X Y nL Q (pc + 1) lv2 st σ) : St X Y nL Q pc lv (.ref x :: st) σ := fun H locs ls hP hS hl => lv_astore_n C.1 C.2.1 hd hi hl hn hf (fun ls2 hl2 => h H locs ls2 hP hS hl2)
theorem q_iinc {i : Nat} {n : Int} {x : Int32} (v : Int32) (lv2 : List (Nat × Value)) (C : Cx X Y cc nL own F L) (hd : decode cc pc = .ok (.iinc i n, 3)) (k : Nat) (hk : lv[k]? = some (i, .int x)) (hv : x + Int32.ofInt n = v) (hn : i < nL) (hf : (i, Value.int v) :: lv.filter (fun q => !(q.1 == i) && !(q.1 + 1 == i && q.2.category == 2)) = lv2) (h : St X Y nL Q (pc + 3) lv2 st σ) : St X Y nL Q pc lv st σ := fun H locs ls hP hS hl => lv_iinc C.1 C.2.1 hd hl hk hv hn hf (fun ls2 hl2 => h H locs ls2 hP hS hl2)
theorem q_sub (lv2 : List (Nat × Value)) (ks : List Nat) (hf : lv_pick lv ks = lv2) (h : St X Y nL Q pc lv2 st σ) : St X Y nL Q pc lv st σ := fun H locs ls hP hS hl => h H locs ls hP hS (lv_sub hl ks hf)
theorem q_if_eq {x : Int32} {off : Int} (tgt : Nat) (C : Cx X Y cc nL own F L) (hd : decode cc pc = .ok (.ifCond .eq off, 3)) (ht : (pc : Int) + off = (tgt : Int)) (kt : x = 0 → St X Y nL Q tgt lv st σ) (kf : ¬ x = 0 → St X Y nL Q (pc + 3) lv st σ) : St X Y nL Q pc lv (.int x :: st) σ := fun H locs ls hP hS hl => lv_if_eq C.1 C.2.1 hd ht (fun hc => kt hc H locs ls hP hS hl) (fun hc => kf hc H locs ls hP hS hl)
theorem q_if_ne {x : Int32} {off : Int} (tgt : Nat) (C : Cx X Y cc nL own F L) (hd : decode cc pc = .ok (.ifCond .ne off, 3)) (ht : (pc : Int) + off = (tgt : Int)) (kt : ¬ x = 0 → St X Y nL Q tgt lv st σ) (kf : x = 0 → St X Y nL Q (pc + 3) lv st σ) : St X Y nL Q pc lv (.int x :: st) σ := fun H locs ls hP hS hl => lv_if_ne C.1 C.2.1 hd ht (fun hc => kt hc H locs ls hP hS hl) (fun hc => kf hc H locs ls hP hS hl)
theorem q_if_lt {x : Int32} {off : Int} (tgt : Nat) (C : Cx X Y cc nL own F L) (hd : decode cc pc = .ok (.ifCond .lt off, 3)) (ht : (pc : Int) + off = (tgt : Int)) (kt : x < 0 → St X Y nL Q tgt lv st σ) (kf : ¬ x < 0 → St X Y nL Q (pc + 3) lv st σ) : St X Y nL Q pc lv (.int x :: st) σ := fun H locs ls hP hS hl => lv_if_lt C.1 C.2.1 hd ht (fun hc => kt hc H locs ls hP hS hl) (fun hc => kf hc H locs ls hP hS hl)
theorem q_if_ge {x : Int32} {off : Int} (tgt : Nat) (C : Cx X Y cc nL own F L) (hd : decode cc pc = .ok (.ifCond .ge off, 3)) (ht : (pc : Int) + off = (tgt : Int)) (kt : 0 ≤ x → St X Y nL Q tgt lv st σ) (kf : ¬ 0 ≤ x → St X Y nL Q (pc + 3) lv st σ) : St X Y nL Q pc lv (.int x :: st) σ := fun H locs ls hP hS hl => lv_if_ge C.1 C.2.1 hd ht (fun hc => kt hc H locs ls hP hS hl) (fun hc => kf hc H locs ls hP hS hl)
theorem q_if_gt {x : Int32} {off : Int} (tgt : Nat) (C : Cx X Y cc nL own F L) (hd : decode cc pc = .ok (.ifCond .gt off, 3)) (ht : (pc : Int) + off = (tgt : Int)) (kt : 0 < x → St X Y nL Q tgt lv st σ) (kf : ¬ 0 < x → St X Y nL Q (pc + 3) lv st σ) : St X Y nL Q pc lv (.int x :: st) σ := fun H locs ls hP hS hl => lv_if_gt C.1 C.2.1 hd ht (fun hc => kt hc H locs ls hP hS hl) (fun hc => kf hc H locs ls hP hS hl)
theorem q_if_le {x : Int32} {off : Int} (tgt : Nat) (C : Cx X Y cc nL own F L) (hd : decode cc pc = .ok (.ifCond .le off, 3)) (ht : (pc : Int) + off = (tgt : Int)) (kt : x ≤ 0 → St X Y nL Q tgt lv st σ) (kf : ¬ x ≤ 0 → St X Y nL Q (pc + 3) lv st σ) : St X Y nL Q pc lv (.int x :: st) σ := fun H locs ls hP hS hl => lv_if_le C.1 C.2.1 hd ht (fun hc => kt hc H locs ls hP hS hl) (fun hc => kf hc H locs ls hP hS hl)
theorem q_icmp_eq {x y : Int32} {off : Int} (tgt : Nat) (C : Cx X Y cc nL own F L) (hd : decode cc pc = .ok (.if_icmp .eq off, 3)) (ht : (pc : Int) + off = (tgt : Int)) (kt : x = y → St X Y nL Q tgt lv st σ) (kf : ¬ x = y → St X Y nL Q (pc + 3) lv st σ) : St X Y nL Q pc lv (.int y :: .int x :: st) σ := fun H locs ls hP hS hl => lv_icmp_eq C.1 C.2.1 hd ht (fun hc => kt hc H locs ls hP hS hl) (fun hc => kf hc H locs ls hP hS hl)
theorem q_icmp_ne {x y : Int32} {off : Int} (tgt : Nat) (C : Cx X Y cc nL own F L) (hd : decode cc pc = .ok (.if_icmp .ne off, 3)) (ht : (pc : Int) + off = (tgt : Int)) (kt : ¬ x = y → St X Y nL Q tgt lv st σ) (kf : x = y → St X Y nL Q (pc + 3) lv st σ) : St X Y nL Q pc lv (.int y :: .int x :: st) σ := fun H locs ls hP hS hl => lv_icmp_ne C.1 C.2.1 hd ht (fun hc => kt hc H locs ls hP hS hl) (fun hc => kf hc H locs ls hP hS hl)
theorem q_icmp_lt {x y : Int32} {off : Int} (tgt : Nat) (C : Cx X Y cc nL own F L) (hd : decode cc pc = .ok (.if_icmp .lt off, 3)) (ht : (pc : Int) + off = (tgt : Int)) (kt : x < y → St X Y nL Q tgt lv st σ) (kf : ¬ x < y → St X Y nL Q (pc + 3) lv st σ) : St X Y nL Q pc lv (.int y :: .int x :: st) σ := fun H locs ls hP hS hl => lv_icmp_lt C.1 C.2.1 hd ht (fun hc => kt hc H locs ls hP hS hl) (fun hc => kf hc H locs ls hP hS hl)
theorem q_icmp_ge {x y : Int32} {off : Int} (tgt : Nat) (C : Cx X Y cc nL own F L) (hd : decode cc pc = .ok (.if_icmp .ge off, 3)) (ht : (pc : Int) + off = (tgt : Int)) (kt : y ≤ x → St X Y nL Q tgt lv st σ) (kf : ¬ y ≤ x → St X Y nL Q (pc + 3) lv st σ) : St X Y nL Q pc lv (.int y :: .int x :: st) σ := fun H locs ls hP hS hl => lv_icmp_ge C.1 C.2.1 hd ht (fun hc => kt hc H locs ls hP hS hl) (fun hc => kf hc H locs ls hP hS hl)
theorem q_icmp_gt {x y : Int32} {off : Int} (tgt : Nat) (C : Cx X Y cc nL own F L) (hd : decode cc pc = .ok (.if_icmp .gt off, 3)) (ht : (pc : Int) + off = (tgt : Int)) (kt : y < x → St X Y nL Q tgt lv st σ) (kf : ¬ y < x → St X Y nL Q (pc + 3) lv st σ) : St X Y nL Q pc lv (.int y :: .int x :: st) σ := fun H locs ls hP hS hl => lv_icmp_gt C.1 C.2.1 hd ht (fun hc => kt hc H locs ls hP hS hl) (fun hc => kf hc H locs ls hP hS hl)
theorem q_icmp_le {x y : Int32} {off : Int} (tgt : Nat) (C : Cx X Y cc nL own F L) (hd : decode cc pc = .ok (.if_icmp .le off, 3)) (ht : (pc : Int) + off = (tgt : Int)) (kt : x ≤ y → St X Y nL Q tgt lv st σ) (kf : ¬ x ≤ y → St X Y nL Q (pc + 3) lv st σ) : St X Y nL Q pc lv (.int y :: .int x :: st) σ := fun H locs ls hP hS hl => lv_icmp_le C.1 C.2.1 hd ht (fun hc => kt hc H locs ls hP hS hl) (fun hc => kf hc H locs ls hP hS hl)
theorem q_goto {off : Int} (tgt : Nat) (C : Cx X Y cc nL own F L) (hd : decode cc pc = .ok (.goto off, 3)) (ht : (pc : Int) + off = (tgt : Int)) (h : St X Y nL Q tgt lv st σ) : St X Y nL Q pc lv st σ := fun H locs ls hP hS hl => lv_goto C.1 C.2.1 hd ht (h H locs ls hP hS hl)
theorem q_lookup {dflt : Int} {ps : Array (Int × Int)} {len : Nat} {x : Int32} {off : Int} (tgt : Nat) (C : Cx X Y cc nL own F L) (hd : decode cc pc = .ok (.lookupswitch dflt ps, len)) (hp : (ps.toList.zip (ps.toList.drop 1)).all (fun (a, next) => a.1 < next.1) = true) (ho : Op.lookupswitch.offset ps.toList dflt x.toInt = off) (ht : (pc : Int) + off = (tgt : Int)) (h : St X Y nL Q tgt lv st σ) : St X Y nL Q pc lv (.int x :: st) σ := fun H locs ls hP hS hl => lv_lookup C.1 C.2.1 hd hp ho ht (h H locs ls hP hS hl)
theorem q_tableOut {dflt lo hi : Int} {offs : Array Int} {len : Nat} {x : Int32} (tgt : Nat) (C : Cx X Y cc nL own F L) (hd : decode cc pc = .ok (.tableswitch dflt lo hi offs, len)) (hx : x.toInt < lo ∨ hi < x.toInt) (ht : (pc : Int) + dflt = (tgt : Int)) (h : St X Y nL Q tgt lv st σ) : St X Y nL Q pc lv (.int x :: st) σ := fun H locs ls hP hS hl => lv_tableOut C.1 C.2.1 hd hx ht (h H locs ls hP hS hl)
theorem q_tableIn {dflt lo hi : Int} {offs : Array Int} {len : Nat} {x : Int32} {off : Int} (tgt : Nat) (C : Cx X Y cc nL own F L) (hd : decode cc pc = .ok (.tableswitch dflt lo hi offs, len)) (h1 : ¬ x.toInt < lo) (h2 : ¬ hi < x.toInt) (ho : offs[(x.toInt - lo).toNat]? = some off) (ht : (pc : Int) + off = (tgt : Int)) (h : St X Y nL Q tgt lv st σ) : St X Y nL Q pc lv (.int x :: st) σ := fun H locs ls hP hS hl => lv_tableIn C.1 C.2.1 hd h1 h2 ho ht (h H locs ls hP hS hl)
theorem q_nmi {x : Int32} (h : ∀ y : Int32, y = x → St X Y nL Q pc lv (.int y :: st) σ) : St X Y nL Q pc lv (.int x :: st) σ := h x rfl
theorem q_nml {x : Int64} (h : ∀ y : Int64, y = x → St X Y nL Q pc lv (.long y :: st) σ) : St X Y nL Q pc lv (.long x :: st) σ := h x rfl
theorem q_ldc {index : Nat} {v : Int32} (C : Cx X Y cc nL own F L) (hw : Cond.constant own index v ∈ TB) (hd : decode cc pc = .ok (.ldc index, 2)) (h : St X Y nL Q (pc + 2) lv (.int v :: st) σ) : St X Y nL Q pc lv st σ := fun H locs ls hP hS hl => lv_ldc C.1 C.2.1 C.2.2.2.1 (C.2.2.2.2.1 _ hw) hd (h H locs ls hP hS hl)
theorem q_ldcw {index : Nat} {v : Int32} (C : Cx X Y cc nL own F L) (hw : Cond.constant own index v ∈ TB) (hd : decode cc pc = .ok (.ldc_w index, 3)) (h : St X Y nL Q (pc + 3) lv (.int v :: st) σ) : St X Y nL Q pc lv st σ := fun H locs ls hP hS hl => lv_ldcw C.1 C.2.1 C.2.2.2.1 (C.2.2.2.2.1 _ hw) hd (h H locs ls hP hS hl)
theorem q_ldc2 {index : Nat} {v : Int64} (C : Cx X Y cc nL own F L) (hw : Cond.constantLong own index v ∈ TB) (hd : decode cc pc = .ok (.ldc2_w index, 3)) (h : St X Y nL Q (pc + 3) lv (.long v :: st) σ) : St X Y nL Q pc lv st σ := fun H locs ls hP hS hl => lv_ldc2 C.1 C.2.1 C.2.2.2.1 (C.2.2.2.2.1 _ hw) hd (h H locs ls hP hS hl)
/-- a field is read -/
theorem q_get {c ci k index : Nat} {v : Value} (C : Cx X Y cc nL own F L) (hk : kd c = ci) (hci : ci < 8) (hkn : k < NC ci) (hw : Cond.fieldLink own index (TC ci k).1 (TC ci k).2.1 (TC ci k).2.2.1 ∈ TB) (hv : (flds (ya Y) ci c (σ c))[k]? = some v) (hd : decode cc pc = .ok (.getfield index, 3)) (h : St X Y nL Q (pc + 3) lv (v :: st) σ) : St X Y nL Q pc lv (.ref (ya Y c) :: st) σ := by
  intro H locs ls hP hS hl
  have hlt : c < 67 := kd_lt (by rw [hk]; omega)
  exact va_get (D := yD Y) (cl := classes) (tys := tys Y) (Ts := TB) (C := RC ci) (T := TC ci) (N := NC ci) C.1 C.2.1 C.2.2.2.2.1 (cls_in hci) C.2.2.2.1 C.2.2.2.2.2.1 hP c (by rw [GW_at hlt, ce_o hk hci]) (cls_at hci) k hkn (C.2.2.2.2.1 _ hw) (fun _ h9 => h9) hv hd (h H locs ls hP hS hl)
/-- a field is written: of ints -/
theorem q_put {c ci k index : Nat} {x : Int32} (C : Cx X Y cc nL own F L) (hk : kd c = ci) (hci : ci < 8) (hkn : k < NC ci) (hw : Cond.fieldLink own index (TC ci k).1 (TC ci k).2.1 (TC ci k).2.2.1 ∈ TB) (hfin : (TC ci k).2.2.2 = false) (hn : narrow (yC ci k) (.int x) = .int x) (hfit : fits (yC ci k) (.int x) = true) (hset : (flds (ya Y) ci c (σ c)).set k (.int x) = flds (ya Y) ci c (upd (σ c) k x)) (hd : decode cc pc = .ok (.putfield index, 3)) (h : St X Y nL Q (pc + 3) lv st (s2 σ c k x)) : St X Y nL Q pc lv (.int x :: .ref (ya Y c) :: st) σ := by
  intro H locs ls hP hS hl
  have hlt : c < 67 := kd_lt (by rw [hk]; omega)
  refine va_put (D := yD Y) (cl := classes) (tys := tys Y) (Ts := TB) (A := yA Y) (H0 := (xs X).heap) (C := RC ci) (T := TC ci) (N := NC ci) (ty := yC ci k) C.1 C.2.1 C.2.2.2.2.1 (cls_in hci) (yC ci) (cls_ty hci) (cls_nm hci) C.2.2.2.1 C.2.2.2.2.2.1 hP (C.2.2.2.2.2.2.1.D σ) hS c (by rw [GW_at hlt, ce_o hk hci]) (cls_at hci) k hkn (C.2.2.2.2.1 _ hw) (fun _ h9 => h9) hfin (cls_ty hci k hkn) hn hfit (by rw [flds_len _ _ _ hci]; exact hkn) hd (fun H1 locs1 hP1 hD1 hS1 => ?_)
  rw [hset, GW_set (f := upd (σ c) k x) hlt (ce_o hk hci)] at hP1
  exact h H1 locs1 ls hP1 hS1 hl
/-- a field of a row that is put anew is written (ahead, spare) -/
theorem q_putR {c ci k index d : Nat} {ty : FieldType} (C : Cx X Y cc nL own F L) (hk : kd c = ci) (hci : ci < 8) (hkn : k < NC ci) (hw : Cond.fieldLink own index (TC ci k).1 (TC ci k).2.1 (TC ci k).2.2.1 ∈ TB) (hfin : (TC ci k).2.2.2 = false) (hy : yC ci k = .array ty) (hd67 : d < 67) (hset : (flds (ya Y) ci c (σ c)).set k (.ref (ya Y d)) = flds (ya Y) ci c (upd (σ c) k (nI d))) (hd : decode cc pc = .ok (.putfield index, 3)) (h : St X Y nL Q (pc + 3) lv st (s2 σ c k (nI d))) : St X Y nL Q pc lv (.ref (ya Y d) :: .ref (ya Y c) :: st) σ := by
  intro H locs ls hP hS hl
  have hlt : c < 67 := kd_lt (by rw [hk]; omega)
  refine va_put (D := yD Y) (cl := classes) (tys := tys Y) (Ts := TB) (A := yA Y) (H0 := (xs X).heap) (C := RC ci) (T := TC ci) (N := NC ci) (ty := yC ci k) C.1 C.2.1 C.2.2.2.2.1 (cls_in hci) (yC ci) (cls_ty hci) (cls_nm hci) C.2.2.2.1 C.2.2.2.2.2.1 hP (C.2.2.2.2.2.2.1.D σ) hS c (by rw [GW_at hlt, ce_o hk hci]) (cls_at hci) k hkn (C.2.2.2.2.1 _ hw) (fun _ h9 => h9) hfin (cls_ty hci k hkn) (by rw [hy]; rfl) (by rw [hy]; rfl) (by rw [flds_len _ _ _ hci]; exact hkn) hd (fun H1 locs1 hP1 hD1 hS1 => ?_)
  rw [hset, GW_set (f := upd (σ c) k (nI d)) hlt (ce_o hk hci)] at hP1
  exact h H1 locs1 ls hP1 hS1 hl
theorem q_iald {c n : Nat} {i : Int32} (C : Cx X Y cc nL own F L) (ha : ia c n) (hin : vp_in i n) (hd : decode cc pc = .ok (.iaload, 1)) (h : St X Y nL Q (pc + 1) lv (.int (σ c i.toNatClampNeg) :: st) σ) : St X Y nL Q pc lv (.int i :: .ref (ya Y c) :: st) σ := fun H locs ls hP hS hl =>
  va_iald (D := yD Y) (cl := classes) (tys := tys Y) C.1 C.2.1 C.2.2.2.2.2.1 hP c 0 (by rw [GW_at ha.lt, ce_i ha]) rfl hin hd (h H locs ls hP hS hl)
theorem q_zald {c n : Nat} {i : Int32} (C : Cx X Y cc nL own F L) (ha : za c n) (hin : vp_in i n) (hd : decode cc pc = .ok (.baload, 1)) (h : St X Y nL Q (pc + 1) lv (.int (σ c i.toNatClampNeg) :: st) σ) : St X Y nL Q pc lv (.int i :: .ref (ya Y c) :: st) σ := fun H locs ls hP hS hl =>
  va_zald (D := yD Y) (cl := classes) (tys := tys Y) C.1 C.2.1 C.2.2.2.2.2.1 hP c 1 (by rw [GW_at ha.lt, ce_z ha]) rfl hin hd (h H locs ls hP hS hl)
theorem q_aald {i : Int32} (C : Cx X Y cc nL own F L) (hin : vp_in i 4) (hd : decode cc pc = .ok (.aaload, 1)) (h : St X Y nL Q (pc + 1) lv (.ref (ya Y (33 + 2 * i.toNatClampNeg)) :: st) σ) : St X Y nL Q pc lv (.int i :: .ref (ya Y 32) :: st) σ := by
  intro H locs ls hP hS hl
  refine va_aldq (D := yD Y) (cl := classes) (tys := tys Y) (n := 4) (f := shr (ya Y)) (cA := yS Y) (C := "LoadCycles$Sheet") C.1 C.2.1 C.2.2.2.2.2.1 hP 32 2 (by rw [GW_at (by decide), ce_s]) rfl hin hd ?_
  have e : shr (ya Y) i.toNatClampNeg = some (ya Y (33 + 2 * i.toNatClampNeg)) := if_pos (by
    rcases Nat.lt_or_ge i.toNatClampNeg 4 with q | q
    · exact q
    · exact absurd (Or.inr q) hin)
  rw [e]
  exact h H locs ls hP hS hl
theorem q_alenI {c n : Nat} (v : Int32) (C : Cx X Y cc nL own F L) (ha : ia c n) (hv : Int32.ofNat n = v) (hd : decode cc pc = .ok (.arraylength, 1)) (h : St X Y nL Q (pc + 1) lv (.int v :: st) σ) : St X Y nL Q pc lv (.ref (ya Y c) :: st) σ := fun H locs ls hP hS hl =>
  va_alen (D := yD Y) (cl := classes) (tys := tys Y) C.1 C.2.1 C.2.2.2.2.2.1 hP c 0 (by rw [GW_at ha.lt, ce_i ha]) rfl hv hd (h H locs ls hP hS hl)
theorem q_alenZ {c n : Nat} (v : Int32) (C : Cx X Y cc nL own F L) (ha : za c n) (hv : Int32.ofNat n = v) (hd : decode cc pc = .ok (.arraylength, 1)) (h : St X Y nL Q (pc + 1) lv (.int v :: st) σ) : St X Y nL Q pc lv (.ref (ya Y c) :: st) σ := fun H locs ls hP hS hl =>
  va_alen (D := yD Y) (cl := classes) (tys := tys Y) C.1 C.2.1 C.2.2.2.2.2.1 hP c 1 (by rw [GW_at ha.lt, ce_z ha]) rfl hv hd (h H locs ls hP hS hl)
theorem q_iast {c n : Nat} {i x : Int32} (C : Cx X Y cc nL own F L) (ha : ia c n) (hin : vp_in i n) (hd : decode cc pc = .ok (.iastore, 1)) (h : St X Y nL Q (pc + 1) lv st (s2 σ c i.toNatClampNeg x)) : St X Y nL Q pc lv (.int x :: .int i :: .ref (ya Y c) :: st) σ := by
  intro H locs ls hP hS hl
  refine va_iast (D := yD Y) (cl := classes) (tys := tys Y) (A := yA Y) (H0 := (xs X).heap) C.1 C.2.1 C.2.2.2.2.2.1 hP (C.2.2.2.2.2.2.1.D σ) hS c 0 (by rw [GW_at ha.lt, ce_i ha]) rfl hin hd (fun H1 locs1 hP1 hD1 hS1 => ?_)
  rw [GW_set (f := upd (σ c) i.toNatClampNeg x) ha.lt (ce_i ha)] at hP1
  exact h H1 locs1 ls hP1 hS1 hl
theorem q_zast {c n : Nat} {i x : Int32} (C : Cx X Y cc nL own F L) (ha : za c n) (hin : vp_in i n) (hx : vp_nar .boolean x = x) (hd : decode cc pc = .ok (.bastore, 1)) (h : St X Y nL Q (pc + 1) lv st (s2 σ c i.toNatClampNeg x)) : St X Y nL Q pc lv (.int x :: .int i :: .ref (ya Y c) :: st) σ := by
  intro H locs ls hP hS hl
  refine va_zast (D := yD Y) (cl := classes) (tys := tys Y) (A := yA Y) (H0 := (xs X).heap) C.1 C.2.1 C.2.2.2.2.2.1 hP (C.2.2.2.2.2.2.1.D σ) hS c 1 (by rw [GW_at ha.lt, ce_z ha]) rfl hin hd (fun H1 locs1 hP1 hD1 hS1 => ?_)
  rw [hx, GW_set (f := upd (σ c) i.toNatClampNeg x) ha.lt (ce_z ha)] at hP1
  exact h H1 locs1 ls hP1 hS1 hl
/-- what System.arraycopy asks of ints -/
def cpk (sp dp n : Int32) (n0 n1 : Nat) : Prop := ¬ sp < 0 ∧ ¬ dp < 0 ∧ ¬ n < 0 ∧ sp.toNatClampNeg + n.toNatClampNeg ≤ n0 ∧ dp.toNatClampNeg + n.toNatClampNeg ≤ n1
theorem q_copy {c0 c1 n0 n1 index : Nat} {sp dp n : Int32} (C : Cx X Y cc nL own F L) (ha0 : ia c0 n0) (ha1 : ia c1 n1) (hc : cpk sp dp n n0 n1) (hw : Cond.methodLink own index arraycopyName ∈ TB) (hw1 : Cond.native arraycopyName ∈ TB) (hw2 : Cond.static arraycopyName ∈ TB) (hw3 : Cond.initialized "java/lang/System" ∈ TB) (hF : 1 ≤ F) (hL : (st.map fun v => v.category).sum + (nativeFrameWords "java/lang/System" "arraycopy" 5 + 11) ≤ L) (hd : decode cc pc = .ok (.invokestatic index, 3)) (h : St X Y nL Q (pc + 3) lv st (s1 σ c1 (va_cpy (σ c0) (σ c1) sp.toNatClampNeg dp.toNatClampNeg n.toNatClampNeg))) : St X Y nL Q pc lv (.int n :: .int dp :: .ref (ya Y c1) :: .int sp :: .ref (ya Y c0) :: st) σ := by
  intro H locs ls hP hS hl
  refine va_copyi (D := yD Y) (cl := classes) (tys := tys Y) (A := yA Y) (H0 := (xs X).heap) (ty := .int) C.1 C.2.1 (by rw [C.2.2.1]; exact hl.1.symm) C.2.2.2.1 (C.2.2.2.2.1 _ hw) (C.2.2.2.2.1 _ hw1) (C.2.2.2.2.1 _ hw2) (C.2.2.2.2.1 _ hw3) C.2.2.2.2.2.1 hP (C.2.2.2.2.2.2.1.D σ) hS c0 c1 0 0 (by rw [GW_at ha0.lt, ce_i ha0]) (by rw [GW_at ha1.lt, ce_i ha1]) rfl rfl rfl hc.1 hc.2.1 hc.2.2.1 hc.2.2.2.1 hc.2.2.2.2 (fun _ _ => rfl) (Nat.le_trans hF C.2.2.2.2.2.2.2.2.2.1) (Nat.le_trans hL C.2.2.2.2.2.2.2.2.2.2.1) hd (fun H1 locs1 hP1 hD1 hS1 => ?_)
  rw [GW_set (f := va_cpy (σ c0) (σ c1) sp.toNatClampNeg dp.toNatClampNeg n.toNatClampNeg) ha1.lt (ce_i ha1)] at hP1
  exact h H1 locs1 ls hP1 hS1 hl
/-! returns -/
theorem q_iret {K : Int32 → Sg → Prop} {x : Int32} (C : Cx X Y cc nL own F L) (hr : (xh X).sig.returnType = some .int) (hd : decode cc pc = .ok (.ireturn, 1)) (h : K x σ) : St X Y nL (QI X Y K) pc lv [.int x] σ := fun H locs ls hP hS hl =>
  W.iret (v := x) C.1 C.2.1 hr (fun t ht hW => ⟨⟨x, σ, rfl, h, by unfold GO; rw [ht]; exact hP⟩, hS.F ht⟩) hS.2.2 hd C.2.2.2.2.2.2.2.1
def bz (x : Int32) : Prop := narrow .boolean (.int x) = .int x
theorem bz0 : bz 0 := rfl
theorem bz1 : bz 1 := rfl
theorem q_zret {K : Int32 → Sg → Prop} {x : Int32} (C : Cx X Y cc nL own F L) (hr : (xh X).sig.returnType = some .boolean) (hd : decode cc pc = .ok (.ireturn, 1)) (hz : bz x) (h : K x σ) : St X Y nL (QI X Y K) pc lv [.int x] σ := fun H locs ls hP hS hl =>
  W.zret (v := x) C.1 C.2.1 hr hz (fun t ht hW => ⟨⟨x, σ, rfl, h, by unfold GO; rw [ht]; exact hP⟩, hS.F ht⟩) hS.2.2 hd C.2.2.2.2.2.2.2.1
theorem q_lret {K : Int64 → Sg → Prop} {x : Int64} (C : Cx X Y cc nL own F L) (hr : (xh X).sig.returnType = some .long) (hd : decode cc pc = .ok (.lreturn, 1)) (h : K x σ) : St X Y nL (QL X Y K) pc lv [.long x] σ := fun H locs ls hP hS hl =>
  W.lret (v := x) C.1 C.2.1 hr (fun t ht hW => ⟨⟨x, σ, rfl, h, by unfold GO; rw [ht]; exact hP⟩, hS.F ht⟩) hS.2.2 hd C.2.2.2.2.2.2.2.1
theorem q_vret {K : Sg → Prop} (C : Cx X Y cc nL own F L) (hr : (xh X).sig.returnType = none) (hd : decode cc pc = .ok (.return_, 1)) (h : K σ) : St X Y nL (QV X Y K) pc lv [] σ := fun H locs ls hP hS hl =>
  W.vret C.1 C.2.1 hr (fun t ht hW => ⟨⟨σ, rfl, h, by unfold GO; rw [ht]; exact hP⟩, hS.F ht⟩) hS.2.2 hd C.2.2.2.2.2.2.2.1
theorem q_aret {K : Nat → Sg → Prop} {d : Nat} {cn : String} (C : Cx X Y cc nL own F L) (hr : (xh X).sig.returnType = some (.object cn)) (hd : decode cc pc = .ok (.areturn, 1)) (h : K d σ) : St X Y nL (QR X Y K) pc lv [.ref (ya Y d)] σ := fun H locs ls hP hS hl =>
  W.aret C.1 C.2.1 hr (Or.inl ⟨_, rfl⟩) (Or.inr ⟨_, rfl⟩) (fun t ht hW => ⟨⟨(d, σ), ya Y d, rfl, h, rfl, by unfold GO; rw [ht]; exact hP⟩, hS.F ht⟩) hS.2.2 hd C.2.2.2.2.2.2.2.1
/-! calls -/
/-- what the tables say of a method that is called: an instance method, a static one -/
def miV (y : MethodName) (b : ByteArray) (n : Nat) (rt : Option FieldType) (np : Nat) : Prop := Cond.instanceMethod y ∈ TB ∧ Cond.selects y.cls y y ∈ TB ∧ Cond.initialized y.cls ∈ TB ∧ Cond.code y b n rt ∈ TB ∧ y.cls ≠ "java/lang/invoke/MethodHandle" ∧ y.cls ≠ "java/lang/invoke/VarHandle" ∧ (parseMethodDescriptor y.desc).map (fun d => d.parameters.length) = some np
def miS (y : MethodName) (b : ByteArray) (n : Nat) (rt : Option FieldType) (np : Nat) : Prop := Cond.static y ∈ TB ∧ Cond.initialized y.cls ∈ TB ∧ Cond.code y b n rt ∈ TB ∧ y.cls ≠ "java/lang/invoke/MethodHandle" ∧ y.cls ≠ "java/lang/invoke/VarHandle" ∧ (parseMethodDescriptor y.desc).map (fun d => d.parameters.length) = some np
theorem gd_code {y : MethodName} {b : ByteArray} {n : Nat} {rt : Option FieldType} (h : Cond.code y b n rt ∈ TB) : GoodIn TB (Cond.code y b n rt :: TB) := by
  intro w hw
  rcases List.mem_cons.mp hw with rfl | hw
  · exact tb_goodIn _ h
  · exact tb_goodIn _ hw
theorem gd_V {y : MethodName} {b : ByteArray} {n np index : Nat} {rt : Option FieldType} (h : miV y b n rt np) (hl : Cond.methodLink own index y ∈ TB) : GoodIn TB (wsV own index y.cls y (Cond.code y b n rt :: TB)) := by
  intro w hw
  unfold wsV at hw
  rcases List.mem_append.mp hw with hw | hw
  · simp only [List.mem_cons, List.not_mem_nil, or_false] at hw
    rcases hw with rfl | rfl | rfl | rfl
    · exact tb_goodIn _ hl
    · exact tb_goodIn _ h.1
    · exact tb_goodIn _ h.2.1
    · exact tb_goodIn _ h.2.2.1
  · exact gd_code h.2.2.2.1 w hw
theorem GI_blind {av : List Value} {τ : Sg} : FrameBlind (va_Pc av (GI Y τ)) := fun a U g mk q => by
  obtain ⟨q0, qP, qK, qN⟩ := q
  exact ⟨q0, qP, va_K.moved (u := U) (U := U.calling g mk a) (Vm.Alike.refl U.vm) qK, va_Nw.same rfl (u := U) (U := U.calling g mk a) rfl qN⟩
theorem GI_pre {av : List Value} {H : Heap} (C : Cx X Y cc nL own F L) (hP : va_P (yD Y) classes (GW Y σ) H) : ∀ U : State, U.heap = H → (xs X).WarmedH U.vm → va_Pc av (GI Y σ) av.toArray U := fun U hU hW => ⟨rfl, by rw [hU]; exact hP, va_K.moved hW.alike C.2.2.2.2.2.1, va_Nw.warmM hW C.2.2.2.2.2.2.2.2.1⟩

theorem q_callVI {y : MethodName} {b : ByteArray} {n np index F2 L2 : Nat} {rt : FieldType} {d ci : Nat} {As : List Value} {stk : List Value} {K : Int32 → Sg → Prop} (C : Cx X Y cc nL own F L) (hM : MetI Y y b n rt F2 L2 (.ref (ya Y d) :: As) σ K) (hi : miV y b n (some rt) np) (hdk : kd d = ci) (hci : ci < 8) (hyc : y.cls = RC ci) (hw : Cond.methodLink own index y ∈ TB) (hn : As.length = np) (hstk : As.reverse ++ .ref (ya Y d) :: st = stk) (hcat : (st.map fun v => v.category).sum ≤ 8) (hF : F2 + 1 ≤ F) (hL : 8 + (n + 11) + L2 ≤ L) (hd : decode cc pc = .ok (.invokevirtual index, 3)) (hk : ∀ (r : Int32) (τ : Sg), K r τ → St X Y nL Q (pc + 3) lv (.int r :: st) τ) : St X Y nL Q pc lv stk σ := by
  intro H locs ls hP hS hl
  subst hstk
  have hlt : d < 67 := kd_lt (by rw [hdk]; omega)
  have hrec := va_recv (a := ya Y d) (q0 := d) (ci := ci) C.2.2.2.2.2.1 hP (cls_at hci) (by rw [GW_at hlt, ce_o hdk hci])
  refine va_calli (A0 := yA Y) (H0 := (xs X).heap) (va_runV (As := As) (rest := st) (Ts := TB) ⟨C.1, C.2.1, C.2.2.1, C.2.2.2.1, C.2.2.2.2.1⟩ hM (cwV np C.2.2.2.2.1 (gd_V hi hw) rfl rfl rfl ⟨rfl, hi.2.2.2.2⟩ ⟨Nat.le_trans hF C.2.2.2.2.2.2.2.2.2.1, Nat.le_trans hL C.2.2.2.2.2.2.2.2.2.2.1⟩) ⟨GI_blind, (by rw [hyc]; exact hrec), GI_pre C hP⟩ rfl hn hl.1 rfl (lv_room hcat) hd ⟨C.2.2.2.2.2.2.2.2.2.2.2.1, C.2.2.2.2.2.2.2.2.2.2.2.2⟩) hS (fun _ _ h => h) (fun _ h => h) (fun r u t H1 locs1 ht hvm hw2 hB hz1 hk1 hS1 => ?_)
  exact hk r u hw2 H1 locs1 ls (by rw [← ht]; exact hB) hS1 hl
theorem q_callSI {y : MethodName} {b : ByteArray} {n np index F2 L2 : Nat} {rt : FieldType}  {As : List Value} {stk : List Value} {K : Int32 → Sg → Prop} (C : Cx X Y cc nL own F L) (hM : MetI Y y b n rt F2 L2 As σ K) (hi : miS y b n (some rt) np) (hw : Cond.methodLink own index y ∈ TB) (hn : As.length = np) (hstk : As.reverse ++ st = stk) (hcat : (st.map fun v => v.category).sum ≤ 8) (hF : F2 + 1 ≤ F) (hL : 8 + (n + 11) + L2 ≤ L) (hd : decode cc pc = .ok (.invokestatic index, 3)) (hk : ∀ (r : Int32) (τ : Sg), K r τ → St X Y nL Q (pc + 3) lv (.int r :: st) τ) : St X Y nL Q pc lv stk σ := by
  intro H locs ls hP hS hl
  subst hstk
  refine va_calli (A0 := yA Y) (H0 := (xs X).heap) (va_runS (As := As) (rest := st) (Ts := TB) ⟨C.1, C.2.1, C.2.2.1, C.2.2.2.1, C.2.2.2.2.1⟩ hM ⟨callB_of np C.2.2.2.2.1 (gd_code hi.2.2.1) rfl rfl rfl (C.2.2.2.2.1 _ hi.2.1) (C.2.2.2.2.1 _ hw) hi.2.2.2 ⟨Nat.le_trans hF C.2.2.2.2.2.2.2.2.2.1, Nat.le_trans hL C.2.2.2.2.2.2.2.2.2.2.1⟩, C.2.2.2.2.1 _ hi.1⟩ ⟨GI_blind, GI_pre C hP⟩ rfl hn hl.1 rfl (lv_room hcat) hd ⟨C.2.2.2.2.2.2.2.2.2.2.2.1, C.2.2.2.2.2.2.2.2.2.2.2.2⟩) hS (fun _ _ h => h) (fun _ h => h) (fun r u t H1 locs1 ht hvm hw2 hB hz1 hk1 hS1 => ?_)
  exact hk r u hw2 H1 locs1 ls (by rw [← ht]; exact hB) hS1 hl
theorem q_callNI {y : MethodName} {b : ByteArray} {n np index F2 L2 : Nat} {rt : FieldType}  {As : List Value} {stk : List Value} {K : Int32 → Sg → Prop} (C : Cx X Y cc nL own F L) (hM : MetI Y y b n rt F2 L2 As σ K) (hi : miS y b n (some rt) np) (hnw : Cond.methodLinkNest own index y "LoadCycles" = nestW) (hn : As.length = np) (hstk : As.reverse ++ st = stk) (hcat : (st.map fun v => v.category).sum ≤ 8) (hF : F2 + 1 ≤ F) (hL : 8 + (n + 11) + L2 ≤ L) (hd : decode cc pc = .ok (.invokestatic index, 3)) (hk : ∀ (r : Int32) (τ : Sg), K r τ → St X Y nL Q (pc + 3) lv (.int r :: st) τ) : St X Y nL Q pc lv stk σ := by
  intro H locs ls hP hS hl
  subst hstk
  refine va_calli (A0 := yA Y) (H0 := (xs X).heap) (va_runSN (As := As) (rest := st) (Ts := TB) (host := "LoadCycles") ⟨C.1, C.2.1, C.2.2.1, C.2.2.2.1, C.2.2.2.2.1⟩ hM ⟨va_cnB np C.2.2.2.2.1 (gd_code hi.2.2.1) rfl rfl rfl (by rw [hnw]; exact C.2.2.2.2.2.2.2.2.1) (C.2.2.2.2.1 _ hi.2.1) hi.2.2.2 ⟨Nat.le_trans hF C.2.2.2.2.2.2.2.2.2.1, Nat.le_trans hL C.2.2.2.2.2.2.2.2.2.2.1⟩, C.2.2.2.2.1 _ hi.1, trivial⟩ ⟨GI_blind, GI_pre C hP⟩ rfl hn hl.1 rfl (lv_room hcat) hd ⟨C.2.2.2.2.2.2.2.2.2.2.2.1, C.2.2.2.2.2.2.2.2.2.2.2.2⟩) hS (fun _ _ h => h) (fun _ h => h) (fun r u t H1 locs1 ht hvm hw2 hB hz1 hk1 hS1 => ?_)
  exact hk r u hw2 H1 locs1 ls (by rw [← ht]; exact hB) hS1 hl
theorem q_callVL {y : MethodName} {b : ByteArray} {n np index F2 L2 : Nat}  {d ci : Nat} {As : List Value} {stk : List Value} {K : Int64 → Sg → Prop} (C : Cx X Y cc nL own F L) (hM : MetL Y y b n F2 L2 (.ref (ya Y d) :: As) σ K) (hi : miV y b n (some .long) np) (hdk : kd d = ci) (hci : ci < 8) (hyc : y.cls = RC ci) (hw : Cond.methodLink own index y ∈ TB) (hn : As.length = np) (hstk : As.reverse ++ .ref (ya Y d) :: st = stk) (hcat : (st.map fun v => v.category).sum ≤ 8) (hF : F2 + 1 ≤ F) (hL : 8 + (n + 11) + L2 ≤ L) (hd : decode cc pc = .ok (.invokevirtual index, 3)) (hk : ∀ (r : Int64) (τ : Sg), K r τ → St X Y nL Q (pc + 3) lv (.long r :: st) τ) : St X Y nL Q pc lv stk σ := by
  intro H locs ls hP hS hl
  subst hstk
  have hlt : d < 67 := kd_lt (by rw [hdk]; omega)
  have hrec := va_recv (a := ya Y d) (q0 := d) (ci := ci) C.2.2.2.2.2.1 hP (cls_at hci) (by rw [GW_at hlt, ce_o hdk hci])
  refine va_calll (A0 := yA Y) (H0 := (xs X).heap) (va_runV (As := As) (rest := st) (Ts := TB) ⟨C.1, C.2.1, C.2.2.1, C.2.2.2.1, C.2.2.2.2.1⟩ hM (cwV np C.2.2.2.2.1 (gd_V hi hw) rfl rfl rfl ⟨rfl, hi.2.2.2.2⟩ ⟨Nat.le_trans hF C.2.2.2.2.2.2.2.2.2.1, Nat.le_trans hL C.2.2.2.2.2.2.2.2.2.2.1⟩) ⟨GI_blind, (by rw [hyc]; exact hrec), GI_pre C hP⟩ rfl hn hl.1 rfl (lv_room hcat) hd ⟨C.2.2.2.2.2.2.2.2.2.2.2.1, C.2.2.2.2.2.2.2.2.2.2.2.2⟩) hS (fun _ _ h => h) (fun _ h => h) (fun r u t H1 locs1 ht hvm hw2 hB hz1 hk1 hS1 => ?_)
  exact hk r u hw2 H1 locs1 ls (by rw [← ht]; exact hB) hS1 hl
theorem q_callSL {y : MethodName} {b : ByteArray} {n np index F2 L2 : Nat}   {As : List Value} {stk : List Value} {K : Int64 → Sg → Prop} (C : Cx X Y cc nL own F L) (hM : MetL Y y b n F2 L2 As σ K) (hi : miS y b n (some .long) np) (hw : Cond.methodLink own index y ∈ TB) (hn : As.length = np) (hstk : As.reverse ++ st = stk) (hcat : (st.map fun v => v.category).sum ≤ 8) (hF : F2 + 1 ≤ F) (hL : 8 + (n + 11) + L2 ≤ L) (hd : decode cc pc = .ok (.invokestatic index, 3)) (hk : ∀ (r : Int64) (τ : Sg), K r τ → St X Y nL Q (pc + 3) lv (.long r :: st) τ) : St X Y nL Q pc lv stk σ := by
  intro H locs ls hP hS hl
  subst hstk
  refine va_calll (A0 := yA Y) (H0 := (xs X).heap) (va_runS (As := As) (rest := st) (Ts := TB) ⟨C.1, C.2.1, C.2.2.1, C.2.2.2.1, C.2.2.2.2.1⟩ hM ⟨callB_of np C.2.2.2.2.1 (gd_code hi.2.2.1) rfl rfl rfl (C.2.2.2.2.1 _ hi.2.1) (C.2.2.2.2.1 _ hw) hi.2.2.2 ⟨Nat.le_trans hF C.2.2.2.2.2.2.2.2.2.1, Nat.le_trans hL C.2.2.2.2.2.2.2.2.2.2.1⟩, C.2.2.2.2.1 _ hi.1⟩ ⟨GI_blind, GI_pre C hP⟩ rfl hn hl.1 rfl (lv_room hcat) hd ⟨C.2.2.2.2.2.2.2.2.2.2.2.1, C.2.2.2.2.2.2.2.2.2.2.2.2⟩) hS (fun _ _ h => h) (fun _ h => h) (fun r u t H1 locs1 ht hvm hw2 hB hz1 hk1 hS1 => ?_)
  exact hk r u hw2 H1 locs1 ls (by rw [← ht]; exact hB) hS1 hl
theorem q_callVV {y : MethodName} {b : ByteArray} {n np index F2 L2 : Nat}  {d ci : Nat} {As : List Value} {stk : List Value} {K : Sg → Prop} (C : Cx X Y cc nL own F L) (hM : MetV Y y b n F2 L2 (.ref (ya Y d) :: As) σ K) (hi : miV y b n none np) (hdk : kd d = ci) (hci : ci < 8) (hyc : y.cls = RC ci) (hw : Cond.methodLink own index y ∈ TB) (hn : As.length = np) (hstk : As.reverse ++ .ref (ya Y d) :: st = stk) (hcat : (st.map fun v => v.category).sum ≤ 8) (hF : F2 + 1 ≤ F) (hL : 8 + (n + 11) + L2 ≤ L) (hd : decode cc pc = .ok (.invokevirtual index, 3)) (hk : ∀ (τ : Sg), K τ → St X Y nL Q (pc + 3) lv ( st) τ) : St X Y nL Q pc lv stk σ := by
  intro H locs ls hP hS hl
  subst hstk
  have hlt : d < 67 := kd_lt (by rw [hdk]; omega)
  have hrec := va_recv (a := ya Y d) (q0 := d) (ci := ci) C.2.2.2.2.2.1 hP (cls_at hci) (by rw [GW_at hlt, ce_o hdk hci])
  refine va_callv (A0 := yA Y) (H0 := (xs X).heap) (va_runV (As := As) (rest := st) (Ts := TB) ⟨C.1, C.2.1, C.2.2.1, C.2.2.2.1, C.2.2.2.2.1⟩ hM (cwV np C.2.2.2.2.1 (gd_V hi hw) rfl rfl rfl ⟨rfl, hi.2.2.2.2⟩ ⟨Nat.le_trans hF C.2.2.2.2.2.2.2.2.2.1, Nat.le_trans hL C.2.2.2.2.2.2.2.2.2.2.1⟩) ⟨GI_blind, (by rw [hyc]; exact hrec), GI_pre C hP⟩ rfl hn hl.1 rfl (lv_room hcat) hd ⟨C.2.2.2.2.2.2.2.2.2.2.2.1, C.2.2.2.2.2.2.2.2.2.2.2.2⟩) hS (fun _ _ h => h) (fun _ h => h) (fun u t H1 locs1 ht hvm hw2 hB hz1 hk1 hS1 => ?_)
  exact hk u hw2 H1 locs1 ls (by rw [← ht]; exact hB) hS1 hl
theorem q_callSV {y : MethodName} {b : ByteArray} {n np index F2 L2 : Nat}   {As : List Value} {stk : List Value} {K : Sg → Prop} (C : Cx X Y cc nL own F L) (hM : MetV Y y b n F2 L2 As σ K) (hi : miS y b n none np) (hw : Cond.methodLink own index y ∈ TB) (hn : As.length = np) (hstk : As.reverse ++ st = stk) (hcat : (st.map fun v => v.category).sum ≤ 8) (hF : F2 + 1 ≤ F) (hL : 8 + (n + 11) + L2 ≤ L) (hd : decode cc pc = .ok (.invokestatic index, 3)) (hk : ∀ (τ : Sg), K τ → St X Y nL Q (pc + 3) lv ( st) τ) : St X Y nL Q pc lv stk σ := by
  intro H locs ls hP hS hl
  subst hstk
  refine va_callv (A0 := yA Y) (H0 := (xs X).heap) (va_runS (As := As) (rest := st) (Ts := TB) ⟨C.1, C.2.1, C.2.2.1, C.2.2.2.1, C.2.2.2.2.1⟩ hM ⟨callB_of np C.2.2.2.2.1 (gd_code hi.2.2.1) rfl rfl rfl (C.2.2.2.2.1 _ hi.2.1) (C.2.2.2.2.1 _ hw) hi.2.2.2 ⟨Nat.le_trans hF C.2.2.2.2.2.2.2.2.2.1, Nat.le_trans hL C.2.2.2.2.2.2.2.2.2.2.1⟩, C.2.2.2.2.1 _ hi.1⟩ ⟨GI_blind, GI_pre C hP⟩ rfl hn hl.1 rfl (lv_room hcat) hd ⟨C.2.2.2.2.2.2.2.2.2.2.2.1, C.2.2.2.2.2.2.2.2.2.2.2.2⟩) hS (fun _ _ h => h) (fun _ h => h) (fun u t H1 locs1 ht hvm hw2 hB hz1 hk1 hS1 => ?_)
  exact hk u hw2 H1 locs1 ls (by rw [← ht]; exact hB) hS1 hl
theorem q_callVR {y : MethodName} {b : ByteArray} {n np index F2 L2 : Nat} {rt : FieldType} {d ci : Nat} {As : List Value} {stk : List Value} {K : Nat → Sg → Prop} (C : Cx X Y cc nL own F L) (hM : MetR Y y b n rt F2 L2 (.ref (ya Y d) :: As) σ K) (hi : miV y b n (some rt) np) (hdk : kd d = ci) (hci : ci < 8) (hyc : y.cls = RC ci) (hw : Cond.methodLink own index y ∈ TB) (hn : As.length = np) (hstk : As.reverse ++ .ref (ya Y d) :: st = stk) (hcat : (st.map fun v => v.category).sum ≤ 8) (hF : F2 + 1 ≤ F) (hL : 8 + (n + 11) + L2 ≤ L) (hd : decode cc pc = .ok (.invokevirtual index, 3)) (hk : ∀ (r : Nat) (τ : Sg), K r τ → St X Y nL Q (pc + 3) lv (.ref (ya Y r) :: st) τ) : St X Y nL Q pc lv stk σ := by
  intro H locs ls hP hS hl
  subst hstk
  have hlt : d < 67 := kd_lt (by rw [hdk]; omega)
  have hrec := va_recv (a := ya Y d) (q0 := d) (ci := ci) C.2.2.2.2.2.1 hP (cls_at hci) (by rw [GW_at hlt, ce_o hdk hci])
  refine va_callr (A0 := yA Y) (H0 := (xs X).heap) (va_runV (As := As) (rest := st) (Ts := TB) ⟨C.1, C.2.1, C.2.2.1, C.2.2.2.1, C.2.2.2.2.1⟩ hM (cwV np C.2.2.2.2.1 (gd_V hi hw) rfl rfl rfl ⟨rfl, hi.2.2.2.2⟩ ⟨Nat.le_trans hF C.2.2.2.2.2.2.2.2.2.1, Nat.le_trans hL C.2.2.2.2.2.2.2.2.2.2.1⟩) ⟨GI_blind, (by rw [hyc]; exact hrec), GI_pre C hP⟩ rfl hn hl.1 rfl (lv_room hcat) hd ⟨C.2.2.2.2.2.2.2.2.2.2.2.1, C.2.2.2.2.2.2.2.2.2.2.2.2⟩) hS (fun _ _ h => h) (fun _ h => h) (fun u ra t H1 locs1 ht hvm hw2 hB hz1 hk1 hS1 => ?_)
  obtain ⟨rfl, hB⟩ := hB
  exact hk u.1 u.2 hw2 H1 locs1 ls (by rw [← ht]; exact hB) hS1 hl
theorem q_callSR {y : MethodName} {b : ByteArray} {n np index F2 L2 : Nat} {rt : FieldType}  {As : List Value} {stk : List Value} {K : Nat → Sg → Prop} (C : Cx X Y cc nL own F L) (hM : MetR Y y b n rt F2 L2 As σ K) (hi : miS y b n (some rt) np) (hw : Cond.methodLink own index y ∈ TB) (hn : As.length = np) (hstk : As.reverse ++ st = stk) (hcat : (st.map fun v => v.category).sum ≤ 8) (hF : F2 + 1 ≤ F) (hL : 8 + (n + 11) + L2 ≤ L) (hd : decode cc pc = .ok (.invokestatic index, 3)) (hk : ∀ (r : Nat) (τ : Sg), K r τ → St X Y nL Q (pc + 3) lv (.ref (ya Y r) :: st) τ) : St X Y nL Q pc lv stk σ := by
  intro H locs ls hP hS hl
  subst hstk
  refine va_callr (A0 := yA Y) (H0 := (xs X).heap) (va_runS (As := As) (rest := st) (Ts := TB) ⟨C.1, C.2.1, C.2.2.1, C.2.2.2.1, C.2.2.2.2.1⟩ hM ⟨callB_of np C.2.2.2.2.1 (gd_code hi.2.2.1) rfl rfl rfl (C.2.2.2.2.1 _ hi.2.1) (C.2.2.2.2.1 _ hw) hi.2.2.2 ⟨Nat.le_trans hF C.2.2.2.2.2.2.2.2.2.1, Nat.le_trans hL C.2.2.2.2.2.2.2.2.2.2.1⟩, C.2.2.2.2.1 _ hi.1⟩ ⟨GI_blind, GI_pre C hP⟩ rfl hn hl.1 rfl (lv_room hcat) hd ⟨C.2.2.2.2.2.2.2.2.2.2.2.1, C.2.2.2.2.2.2.2.2.2.2.2.2⟩) hS (fun _ _ h => h) (fun _ h => h) (fun u ra t H1 locs1 ht hvm hw2 hB hz1 hk1 hS1 => ?_)
  obtain ⟨rfl, hB⟩ := hB
  exact hk u.1 u.2 hw2 H1 locs1 ls (by rw [← ht]; exact hB) hS1 hl
end Rows
end
section
section Rows2
variable {X : Bx} {Y : Yx} {cc : ByteArray} {nL : Nat} {own : String} {F L : Nat} {Q : State → Prop} {pc : Nat} {lv : List (Nat × Value)} {st : List Value} {σ : Sg}
/-- a call that changes nothing -/
theorem q_callVIr {y : MethodName} {b : ByteArray} {n np index F2 L2 : Nat} {rt : FieldType} {d ci : Nat} {As : List Value} {stk : List Value} {K : Int32 → Prop} (C : Cx X Y cc nL own F L) (hM : MetI Y y b n rt F2 L2 (.ref (ya Y d) :: As) σ (fun r τ => τ = σ ∧ K r)) (hi : miV y b n (some rt) np) (hdk : kd d = ci) (hci : ci < 8) (hyc : y.cls = RC ci) (hw : Cond.methodLink own index y ∈ TB) (hn : As.length = np) (hstk : As.reverse ++ .ref (ya Y d) :: st = stk) (hcat : (st.map fun v => v.category).sum ≤ 8) (hF : F2 + 1 ≤ F) (hL : 8 + (n + 11) + L2 ≤ L) (hd : decode cc pc = .ok (.invokevirtual index, 3)) (hk : ∀ (r : Int32), K r → St X Y nL Q (pc + 3) lv (.int r :: st) σ) : St X Y nL Q pc lv stk σ :=
  q_callVI C hM hi hdk hci hyc hw hn hstk hcat hF hL hd (fun r τ h => by obtain ⟨e, h⟩ := h; rw [e]; exact hk r h)
/-- a call that changes nothing -/
theorem q_callSIr {y : MethodName} {b : ByteArray} {n np index F2 L2 : Nat} {rt : FieldType}  {As : List Value} {stk : List Value} {K : Int32 → Prop} (C : Cx X Y cc nL own F L) (hM : MetI Y y b n rt F2 L2 As σ (fun r τ => τ = σ ∧ K r)) (hi : miS y b n (some rt) np) (hw : Cond.methodLink own index y ∈ TB) (hn : As.length = np) (hstk : As.reverse ++ st = stk) (hcat : (st.map fun v => v.category).sum ≤ 8) (hF : F2 + 1 ≤ F) (hL : 8 + (n + 11) + L2 ≤ L) (hd : decode cc pc = .ok (.invokestatic index, 3)) (hk : ∀ (r : Int32), K r → St X Y nL Q (pc + 3) lv (.int r :: st) σ) : St X Y nL Q pc lv stk σ :=
  q_callSI C hM hi hw hn hstk hcat hF hL hd (fun r τ h => by obtain ⟨e, h⟩ := h; rw [e]; exact hk r h)
/-- a call that changes nothing -/
theorem q_callNIr {y : MethodName} {b : ByteArray} {n np index F2 L2 : Nat} {rt : FieldType}  {As : List Value} {stk : List Value} {K : Int32 → Prop} (C : Cx X Y cc nL own F L) (hM : MetI Y y b n rt F2 L2 As σ (fun r τ => τ = σ ∧ K r)) (hi : miS y b n (some rt) np) (hnw : Cond.methodLinkNest own index y "LoadCycles" = nestW) (hn : As.length = np) (hstk : As.reverse ++ st = stk) (hcat : (st.map fun v => v.category).sum ≤ 8) (hF : F2 + 1 ≤ F) (hL : 8 + (n + 11) + L2 ≤ L) (hd : decode cc pc = .ok (.invokestatic index, 3)) (hk : ∀ (r : Int32), K r → St X Y nL Q (pc + 3) lv (.int r :: st) σ) : St X Y nL Q pc lv stk σ :=
  q_callNI C hM hi hnw hn hstk hcat hF hL hd (fun r τ h => by obtain ⟨e, h⟩ := h; rw [e]; exact hk r h)
/-- a call that changes nothing -/
theorem q_callVLr {y : MethodName} {b : ByteArray} {n np index F2 L2 : Nat}  {d ci : Nat} {As : List Value} {stk : List Value} {K : Int64 → Prop} (C : Cx X Y cc nL own F L) (hM : MetL Y y b n F2 L2 (.ref (ya Y d) :: As) σ (fun r τ => τ = σ ∧ K r)) (hi : miV y b n (some .long) np) (hdk : kd d = ci) (hci : ci < 8) (hyc : y.cls = RC ci) (hw : Cond.methodLink own index y ∈ TB) (hn : As.length = np) (hstk : As.reverse ++ .ref (ya Y d) :: st = stk) (hcat : (st.map fun v => v.category).sum ≤ 8) (hF : F2 + 1 ≤ F) (hL : 8 + (n + 11) + L2 ≤ L) (hd : decode cc pc = .ok (.invokevirtual index, 3)) (hk : ∀ (r : Int64), K r → St X Y nL Q (pc + 3) lv (.long r :: st) σ) : St X Y nL Q pc lv stk σ :=
  q_callVL C hM hi hdk hci hyc hw hn hstk hcat hF hL hd (fun r τ h => by obtain ⟨e, h⟩ := h; rw [e]; exact hk r h)
/-- a call that changes nothing -/
theorem q_callSLr {y : MethodName} {b : ByteArray} {n np index F2 L2 : Nat}   {As : List Value} {stk : List Value} {K : Int64 → Prop} (C : Cx X Y cc nL own F L) (hM : MetL Y y b n F2 L2 As σ (fun r τ => τ = σ ∧ K r)) (hi : miS y b n (some .long) np) (hw : Cond.methodLink own index y ∈ TB) (hn : As.length = np) (hstk : As.reverse ++ st = stk) (hcat : (st.map fun v => v.category).sum ≤ 8) (hF : F2 + 1 ≤ F) (hL : 8 + (n + 11) + L2 ≤ L) (hd : decode cc pc = .ok (.invokestatic index, 3)) (hk : ∀ (r : Int64), K r → St X Y nL Q (pc + 3) lv (.long r :: st) σ) : St X Y nL Q pc lv stk σ :=
  q_callSL C hM hi hw hn hstk hcat hF hL hd (fun r τ h => by obtain ⟨e, h⟩ := h; rw [e]; exact hk r h)
theorem q_nms {τ : Sg} (h : ∀ y : Sg, y = τ → St X Y nL Q pc lv st y) : St X Y nL Q pc lv st τ := h τ rfl
theorem q_lookupK {dflt k : Int} {ps : Array (Int × Int)} {len : Nat} {x v : Int32} {off : Int} (tgt : Nat) (C : Cx X Y cc nL own F L) (hx : x = v) (hv : v.toInt = k) (hd : decode cc pc = .ok (.lookupswitch dflt ps, len)) (hp : (ps.toList.zip (ps.toList.drop 1)).all (fun (a, next) => a.1 < next.1) = true) (ho : Op.lookupswitch.offset ps.toList dflt k = off) (ht : (pc : Int) + off = (tgt : Int)) (h : St X Y nL Q tgt lv st σ) : St X Y nL Q pc lv (.int x :: st) σ := q_lookup tgt C hd hp (by rw [hx, hv]; exact ho) ht h
theorem q_tableK {dflt lo hi k : Int} {offs : Array Int} {len : Nat} {x v : Int32} {off : Int} (tgt : Nat) (C : Cx X Y cc nL own F L) (hx : x = v) (hv : v.toInt = k) (hd : decode cc pc = .ok (.tableswitch dflt lo hi offs, len)) (h1 : ¬ k < lo) (h2 : ¬ hi < k) (ho : offs[(k - lo).toNat]? = some off) (ht : (pc : Int) + off = (tgt : Int)) (h : St X Y nL Q tgt lv st σ) : St X Y nL Q pc lv (.int x :: st) σ := q_tableIn tgt C hd (by rw [hx, hv]; exact h1) (by rw [hx, hv]; exact h2) (by rw [hx, hv]; exact ho) ht h
theorem q_mmax {index : Nat} {x y : Int32} (C : Cx X Y cc nL own F L) (hw : Cond.methodLink own index Lib.Math.max.name ∈ TB) (hw1 : Cond.static Lib.Math.max.name ∈ TB) (hw2 : Cond.initialized "java/lang/Math" ∈ TB) (hw3 : Cond.code Lib.Math.max.name Lib.Math.max.code 2 (some .int) ∈ TB) (hF : 1 ≤ F) (hL : (st.map fun v => v.category).sum + 13 ≤ L) (hd : decode cc pc = .ok (.invokestatic index, 3)) (h : St X Y nL Q (pc + 3) lv (.int (if x < y then y else x) :: st) σ) : St X Y nL Q pc lv (.int y :: .int x :: st) σ := fun H locs ls hP hS hl =>
  va_mmax C.1 C.2.1 (by rw [C.2.2.1]; exact hl.1.symm) C.2.2.2.1 (C.2.2.2.2.1 _ hw) (C.2.2.2.2.1 _ hw1) (C.2.2.2.2.1 _ hw2) (C.2.2.2.2.1 _ hw3) (Nat.le_trans hF C.2.2.2.2.2.2.2.2.2.1) (Nat.le_trans hL C.2.2.2.2.2.2.2.2.2.2.1) C.2.2.2.2.2.2.2.2.2.2.2.1 C.2.2.2.2.2.2.2.2.2.2.2.2 hd (h H locs ls hP hS hl)
theorem q_mmin {index : Nat} {x y : Int32} (C : Cx X Y cc nL own F L) (hw : Cond.methodLink own index Lib.Math.min.name ∈ TB) (hw1 : Cond.static Lib.Math.min.name ∈ TB) (hw2 : Cond.initialized "java/lang/Math" ∈ TB) (hw3 : Cond.code Lib.Math.min.name Lib.Math.min.code 2 (some .int) ∈ TB) (hF : 1 ≤ F) (hL : (st.map fun v => v.category).sum + 13 ≤ L) (hd : decode cc pc = .ok (.invokestatic index, 3)) (h : St X Y nL Q (pc + 3) lv (.int (if y < x then y else x) :: st) σ) : St X Y nL Q pc lv (.int y :: .int x :: st) σ := fun H locs ls hP hS hl =>
  va_mmin C.1 C.2.1 (by rw [C.2.2.1]; exact hl.1.symm) C.2.2.2.1 (C.2.2.2.2.1 _ hw) (C.2.2.2.2.1 _ hw1) (C.2.2.2.2.1 _ hw2) (C.2.2.2.2.1 _ hw3) (Nat.le_trans hF C.2.2.2.2.2.2.2.2.2.1) (Nat.le_trans hL C.2.2.2.2.2.2.2.2.2.2.1) C.2.2.2.2.2.2.2.2.2.2.2.1 C.2.2.2.2.2.2.2.2.2.2.2.2 hd (h H locs ls hP hS hl)
end Rows2
theorem vin_lt {i : Int32} {n : Nat} (h : vp_in i n) : i.toNatClampNeg < n := by
  rcases Nat.lt_or_ge i.toNatClampNeg n with q | q
  · exact q
  · exact absurd (Or.inr q) h
theorem sw_ne {x v : Int32} {k : Int} (hv : Int32.ofInt k = v) (h : ¬ x = v) : x.toInt ≠ k := fun e => h (by rw [← hv, ← e]; exact (Int32.ofInt_toInt x).symm)
theorem iaS {i : Int32} (h : vp_in i 4) : kd (33 + 2 * i.toNatClampNeg) = 3 := kS _ (vin_lt h)
theorem fs_0_2 {ad : Nat → Nat} {c : Nat} {f : Nat → Int32} {x : Int32} : (flds ad 0 c f).set 2 (.int x) = flds ad 0 c (upd f 2 x) := rfl
theorem fs_0_3 {ad : Nat → Nat} {c : Nat} {f : Nat → Int32} {x : Int32} : (flds ad 0 c f).set 3 (.int x) = flds ad 0 c (upd f 3 x) := rfl
theorem fs_0_4 {ad : Nat → Nat} {c : Nat} {f : Nat → Int32} {x : Int32} : (flds ad 0 c f).set 4 (.int x) = flds ad 0 c (upd f 4 x) := rfl
theorem fs_0_5 {ad : Nat → Nat} {c : Nat} {f : Nat → Int32} {x : Int32} : (flds ad 0 c f).set 5 (.int x) = flds ad 0 c (upd f 5 x) := rfl
theorem fs_2_4 {ad : Nat → Nat} {c : Nat} {f : Nat → Int32} {x : Int32} : (flds ad 2 c f).set 4 (.int x) = flds ad 2 c (upd f 4 x) := rfl
theorem fs_2_5 {ad : Nat → Nat} {c : Nat} {f : Nat → Int32} {x : Int32} : (flds ad 2 c f).set 5 (.int x) = flds ad 2 c (upd f 5 x) := rfl
theorem fs_2_6 {ad : Nat → Nat} {c : Nat} {f : Nat → Int32} {x : Int32} : (flds ad 2 c f).set 6 (.int x) = flds ad 2 c (upd f 6 x) := rfl
theorem fs_3_1 {ad : Nat → Nat} {c : Nat} {f : Nat → Int32} {x : Int32} : (flds ad 3 c f).set 1 (.int x) = flds ad 3 c (upd f 1 x) := rfl
theorem fs_3_2 {ad : Nat → Nat} {c : Nat} {f : Nat → Int32} {x : Int32} : (flds ad 3 c f).set 2 (.int x) = flds ad 3 c (upd f 2 x) := rfl
theorem fs_4_1 {ad : Nat → Nat} {c : Nat} {f : Nat → Int32} {x : Int32} : (flds ad 4 c f).set 1 (.int x) = flds ad 4 c (upd f 1 x) := rfl
theorem fr_5_3 {ad : Nat → Nat} {c d : Nat} {f : Nat → Int32} (h : d < 67) : (flds ad 5 c f).set 3 (.ref (ad d)) = flds ad 5 c (upd f 3 (nI d)) := by
  have e : (upd f 3 (nI d) 3).toNatClampNeg = d := by rw [pk_us]; exact nI_clamp (by omega)
  show _ = ([.ref (ad (c + 1)), .ref (ad (c + 2)), .ref (ad (c + 3)), .ref (ad (upd f 3 (nI d) 3).toNatClampNeg), .ref (ad (upd f 3 (nI d) 4).toNatClampNeg), .int (upd f 3 (nI d) 5)] : List Value)
  rw [e]
  rfl
theorem fr_5_4 {ad : Nat → Nat} {c d : Nat} {f : Nat → Int32} (h : d < 67) : (flds ad 5 c f).set 4 (.ref (ad d)) = flds ad 5 c (upd f 4 (nI d)) := by
  have e : (upd f 4 (nI d) 4).toNatClampNeg = d := by rw [pk_us]; exact nI_clamp (by omega)
  show _ = ([.ref (ad (c + 1)), .ref (ad (c + 2)), .ref (ad (c + 3)), .ref (ad (upd f 4 (nI d) 3).toNatClampNeg), .ref (ad (upd f 4 (nI d) 4).toNatClampNeg), .int (upd f 4 (nI d) 5)] : List Value)
  rw [e]
  rfl
theorem fs_5_5 {ad : Nat → Nat} {c : Nat} {f : Nat → Int32} {x : Int32} : (flds ad 5 c f).set 5 (.int x) = flds ad 5 c (upd f 5 x) := rfl
theorem fs_6_10 {ad : Nat → Nat} {c : Nat} {f : Nat → Int32} {x : Int32} : (flds ad 6 c f).set 10 (.int x) = flds ad 6 c (upd f 10 x) := rfl
theorem fs_6_11 {ad : Nat → Nat} {c : Nat} {f : Nat → Int32} {x : Int32} : (flds ad 6 c f).set 11 (.int x) = flds ad 6 c (upd f 11 x) := rfl
theorem fs_6_12 {ad : Nat → Nat} {c : Nat} {f : Nat → Int32} {x : Int32} : (flds ad 6 c f).set 12 (.int x) = flds ad 6 c (upd f 12 x) := rfl
theorem fs_6_13 {ad : Nat → Nat} {c : Nat} {f : Nat → Int32} {x : Int32} : (flds ad 6 c f).set 13 (.int x) = flds ad 6 c (upd f 13 x) := rfl
theorem fs_7_0 {ad : Nat → Nat} {c : Nat} {f : Nat → Int32} {x : Int32} : (flds ad 7 c f).set 0 (.int x) = flds ad 7 c (upd f 0 x) := rfl
theorem fs_7_1 {ad : Nat → Nat} {c : Nat} {f : Nat → Int32} {x : Int32} : (flds ad 7 c f).set 1 (.int x) = flds ad 7 c (upd f 1 x) := rfl
theorem fs_7_5 {ad : Nat → Nat} {c : Nat} {f : Nat → Int32} {x : Int32} : (flds ad 7 c f).set 5 (.int x) = flds ad 7 c (upd f 5 x) := rfl
theorem fs_7_9 {ad : Nat → Nat} {c : Nat} {f : Nat → Int32} {x : Int32} : (flds ad 7 c f).set 9 (.int x) = flds ad 7 c (upd f 9 x) := rfl
theorem fs_7_11 {ad : Nat → Nat} {c : Nat} {f : Nat → Int32} {x : Int32} : (flds ad 7 c f).set 11 (.int x) = flds ad 7 c (upd f 11 x) := rfl
theorem fs_7_12 {ad : Nat → Nat} {c : Nat} {f : Nat → Int32} {x : Int32} : (flds ad 7 c f).set 12 (.int x) = flds ad 7 c (upd f 12 x) := rfl
theorem fs_7_13 {ad : Nat → Nat} {c : Nat} {f : Nat → Int32} {x : Int32} : (flds ad 7 c f).set 13 (.int x) = flds ad 7 c (upd f 13 x) := rfl
theorem fs_7_17 {ad : Nat → Nat} {c : Nat} {f : Nat → Int32} {x : Int32} : (flds ad 7 c f).set 17 (.int x) = flds ad 7 c (upd f 17 x) := rfl
theorem fs_7_29 {ad : Nat → Nat} {c : Nat} {f : Nat → Int32} {x : Int32} : (flds ad 7 c f).set 29 (.int x) = flds ad 7 c (upd f 29 x) := rfl
theorem fs_7_30 {ad : Nat → Nat} {c : Nat} {f : Nat → Int32} {x : Int32} : (flds ad 7 c f).set 30 (.int x) = flds ad 7 c (upd f 30 x) := rfl
end
section
/-! ===== constructors: a world that grows ===== -/
def nestL : List Cond := [.methodLinkNest "LoadCycles" 11 ⟨"LoadCycles$House", "<init>", "()V"⟩ "LoadCycles", .methodLinkNest "LoadCycles" 23 ⟨"LoadCycles$Doing", "<init>", "()V"⟩ "LoadCycles", .methodLinkNest "LoadCycles" 33 ⟨"LoadCycles$Unmixer", "<init>", "()V"⟩ "LoadCycles", .methodLinkNest "LoadCycles" 40 ⟨"LoadCycles$TextReader", "<init>", "()V"⟩ "LoadCycles", .methodLinkNest "LoadCycles$TextReader" 11 ⟨"LoadCycles$House", "<init>", "()V"⟩ "LoadCycles", .methodLinkNest "LoadCycles" 47 ⟨"LoadCycles$Guesses", "<init>", "()V"⟩ "LoadCycles", .methodLinkNest "LoadCycles" 65 ⟨"LoadCycles$Sheet", "<init>", "()V"⟩ "LoadCycles", .methodLinkNest "LoadCycles$TextReader" 50 ⟨"LoadCycles", "isLevelValue", "(I)Z"⟩ "LoadCycles"]
def blk (ci : Nat) : List Value := match ci with
  | 0 => [.null, .null, .int 0, .int 0, .int 0, .int 0]
  | 1 => [.null, .null]
  | 2 => [.null, .null, .null, .null, .int 0, .int 0, .int 0]
  | 3 => [.null, .int 0, .int 0]
  | 4 => [.null, .int 0]
  | 5 => [.null, .null, .null, .null, .null, .int 0]
  | 6 => [.null, .null, .null, .null, .null, .null, .null, .null, .null, .null, .int 0, .int 0, .int 0, .int 0]
  | _ => [.int 0, .int 0, .null, .null, .null, .int 0, .null, .null, .null, .int 0, .null, .int 0, .int 0, .int 0, .null, .null, .null, .int 0, .null, .null, .null, .null, .null, .null, .null, .null, .null, .null, .null, .int 0, .int 0, .null, .null]
theorem blk_ok0 : ∀ j, j < 6 → defaultValue (yC 0 j) = vp_V (blk 0) j
  | 0, _ => rfl
  | 1, _ => rfl
  | 2, _ => rfl
  | 3, _ => rfl
  | 4, _ => rfl
  | 5, _ => rfl
  | n + 6, h => absurd h (by omega)
theorem blk_ok1 : ∀ j, j < 2 → defaultValue (yC 1 j) = vp_V (blk 1) j
  | 0, _ => rfl
  | 1, _ => rfl
  | n + 2, h => absurd h (by omega)
theorem blk_ok2 : ∀ j, j < 7 → defaultValue (yC 2 j) = vp_V (blk 2) j
  | 0, _ => rfl
  | 1, _ => rfl
  | 2, _ => rfl
  | 3, _ => rfl
  | 4, _ => rfl
  | 5, _ => rfl
  | 6, _ => rfl
  | n + 7, h => absurd h (by omega)
theorem blk_ok3 : ∀ j, j < 3 → defaultValue (yC 3 j) = vp_V (blk 3) j
  | 0, _ => rfl
  | 1, _ => rfl
  | 2, _ => rfl
  | n + 3, h => absurd h (by omega)
theorem blk_ok4 : ∀ j, j < 2 → defaultValue (yC 4 j) = vp_V (blk 4) j
  | 0, _ => rfl
  | 1, _ => rfl
  | n + 2, h => absurd h (by omega)
theorem blk_ok5 : ∀ j, j < 6 → defaultValue (yC 5 j) = vp_V (blk 5) j
  | 0, _ => rfl
  | 1, _ => rfl
  | 2, _ => rfl
  | 3, _ => rfl
  | 4, _ => rfl
  | 5, _ => rfl
  | n + 6, h => absurd h (by omega)
theorem blk_ok6 : ∀ j, j < 14 → defaultValue (yC 6 j) = vp_V (blk 6) j
  | 0, _ => rfl
  | 1, _ => rfl
  | 2, _ => rfl
  | 3, _ => rfl
  | 4, _ => rfl
  | 5, _ => rfl
  | 6, _ => rfl
  | 7, _ => rfl
  | 8, _ => rfl
  | 9, _ => rfl
  | 10, _ => rfl
  | 11, _ => rfl
  | 12, _ => rfl
  | 13, _ => rfl
  | n + 14, h => absurd h (by omega)
theorem blk_ok7 : ∀ j, j < 33 → defaultValue (yC 7 j) = vp_V (blk 7) j
  | 0, _ => rfl
  | 1, _ => rfl
  | 2, _ => rfl
  | 3, _ => rfl
  | 4, _ => rfl
  | 5, _ => rfl
  | 6, _ => rfl
  | 7, _ => rfl
  | 8, _ => rfl
  | 9, _ => rfl
  | 10, _ => rfl
  | 11, _ => rfl
  | 12, _ => rfl
  | 13, _ => rfl
  | 14, _ => rfl
  | 15, _ => rfl
  | 16, _ => rfl
  | 17, _ => rfl
  | 18, _ => rfl
  | 19, _ => rfl
  | 20, _ => rfl
  | 21, _ => rfl
  | 22, _ => rfl
  | 23, _ => rfl
  | 24, _ => rfl
  | 25, _ => rfl
  | 26, _ => rfl
  | 27, _ => rfl
  | 28, _ => rfl
  | 29, _ => rfl
  | 30, _ => rfl
  | 31, _ => rfl
  | 32, _ => rfl
  | n + 33, h => absurd h (by omega)
theorem blk_ok : ∀ {ci : Nat}, ci < 8 → ∀ j, j < NC ci → defaultValue (yC ci j) = vp_V (blk ci) j
  | 0, _ => blk_ok0
  | 1, _ => blk_ok1
  | 2, _ => blk_ok2
  | 3, _ => blk_ok3
  | 4, _ => blk_ok4
  | 5, _ => blk_ok5
  | 6, _ => blk_ok6
  | 7, _ => blk_ok7
  | n + 8, h => absurd h (by omega)
def CI (Y : Yx) (w : va_W) (U : State) : Prop := va_P (yD Y) classes w U.heap ∧ va_K (yD Y) classes (tys Y) U ∧ (∀ x ∈ nestL, va_Nw x U) ∧ va_AO "LoadCycles$Sheet" U ∧ va_D (yA Y) w ∧ ∀ q, U.heap.size ≤ q → yA Y q
def CO (Y : Yx) (ws u : va_W) (t : State) : Prop := va_P (yD Y) classes (ws ++ u) t.heap ∧ va_D (yA Y) (ws ++ u)
def MetC (Y : Yx) (y : MethodName) (cc : ByteArray) (n F L mc ms h0 : Nat) (ws : va_W) (ci : Nat) (post : va_W → Prop) : Prop :=
  Met (yl Y) y (.code y cc n none :: TB) { frames := F, cells := mc, slots := ms, locals := L } (va_Pc [.ref h0] (CI Y (ws ++ [(h0, .inr (ci, blk ci))]))) (va_Qv post (CO Y ws) (yA Y)) mc ms (yA Y)
def Cc (X : Bx) (Y : Yx) (cc : ByteArray) (nL : Nat) (own : String) (F L mc ms : Nat) : Prop :=
  (xp X).tables.exec = Jvm.exec ∧ (xc X).code = cc ∧ (xc X).maxLocals = nL ∧ (xs X).vm.findClass own = some (xm X).cls ∧ (∀ w ∈ TB, w.before (xa X) (xs X) = true) ∧ va_K (yD Y) classes (tys Y) (xs X) ∧ (∀ x ∈ nestL, va_Nw x (xs X)) ∧ va_AO "LoadCycles$Sheet" (xs X) ∧ (∀ q, (xs X).heap.size ≤ q → yA Y q) ∧ (xh X).locks = false ∧ (F ≤ (xR X).frames ∧ L ≤ (xR X).locals ∧ mc ≤ (xR X).cells ∧ ms ≤ (xR X).slots)
def Sc (X : Bx) (Y : Yx) (nL : Nat) (Q : State → Prop) (pc : Nat) (lv : List (Nat × Value)) (st : List Value) (ws u : va_W) (kc ks : Nat) : Prop :=
  ∀ (H : Heap) (locs : List Loc) (ls : Array Slot), va_P (yD Y) classes (ws ++ u) H → va_D (yA Y) (ws ++ u) → va_S (yA Y) (xs X).heap H locs → lv_has ls nL lv → W (xp X) (yl Y) (xe X) (xR X) (xs X) (xm X) (xa X) (xb X) (xh X) (xc X) H locs kc ks Q (F0 (xm X) pc ls st)
def QC (X : Bx) (Y : Yx) (ws : va_W) (mc ms : Nat) (post : va_W → Prop) : State → Prop := MQ (xb X) (va_Qv post (CO Y ws) (yA Y)) (xa X) (xs X) mc ms (yA Y)
theorem met_C {Y : Yx} {y : MethodName} {cc : ByteArray} {n F L mc ms h0 : Nat} {ws : va_W} {ci : Nat} {post : va_W → Prop} (lv : List (Nat × Value)) (hy : plainName y.cls = true) (hn : (lg_sl [Value.ref h0]).length ≤ n) (hlv : lv_args 0 [Value.ref h0] = lv)
    (h : ∀ X : Bx, Cc X Y cc n y.cls F L mc ms → (xh X).sig.returnType = none → (xh X).name = y.name → Sc X Y n (QC X Y ws mc ms post) 0 lv [] ws [(h0, .inr (ci, blk ci))] 0 0) : MetC Y y cc n F L mc ms h0 ws ci post := by
  refine Met.ofW (cc := cc) (maxL := n) (ret := none) hy rfl ?_
  intro p e s m args below meth c s₁ B hml hv
  obtain ⟨rfl, hP, hK, hN, hAO, hD, hA⟩ := hv
  have hts := atoms_spec (ws := .code y cc n none :: TB) B.pre
  have hown : s.vm.findClass y.cls = some m.cls := findClass_of_methodNamed B.named
  have hl := lv_entry [Value.ref h0] (n := n) hn
  rw [lg_entry_eq]
  generalize (lg_sl [Value.ref h0] ++ List.replicate (n - (lg_sl [Value.ref h0]).length) Slot.unset).toArray = ls at hl ⊢
  rw [hlv] at hl
  exact h (p, e, { frames := F, cells := mc, slots := ms, locals := L }, s, m, [Value.ref h0].toArray, below, meth, c, 0, 0) ⟨B.exec, B.bytes, hml, hown, fun w hw => hts w (List.mem_cons_of_mem _ hw), hK, hN, hAO, hA, B.notSynchronized, Nat.le_refl _, Nat.le_refl _, Nat.le_refl _, Nat.le_refl _⟩ B.returns (name_of_methodNamed B.named B.method).1 s.heap [] ls hP hD va_S.rf hl
theorem ap_get {α : Type} (ws u : List α) (j : Nat) : (ws ++ u)[ws.length + j]? = u[j]? := by
  rw [List.getElem?_append_right (by omega)]
  congr 1
  omega
theorem ap_set {α : Type} (ws u : List α) (j : Nat) (x : α) : (ws ++ u).set (ws.length + j) x = ws ++ u.set j x := by
  rw [List.set_append_right _ _ (by omega)]
  congr 2
  omega
section CRows
variable {X : Bx} {Y : Yx} {cc : ByteArray} {nL : Nat} {own : String} {F L mc ms : Nat} {Q : State → Prop} {pc : Nat} {lv : List (Nat × Value)} {st : List Value} {ws u : va_W} {kc ks : Nat}
theorem c_aload_n {i : Nat} {j : Fin 4} {x : Nat} (C : Cc X Y cc nL own F L mc ms) (hd : decode cc pc = .ok (.aload_n j, 1)) (hi : (j : Nat) = i) (k : Nat) (hk : lv[k]? = some (i, .ref x)) (h : Sc X Y nL Q (pc + 1) lv (.ref x :: st) ws u kc ks) : Sc X Y nL Q pc lv st ws u kc ks := fun H locs ls hP hD hS hl => lv_aload_n C.1 C.2.1 hd hi (lv_at hl k hk) (h H locs ls hP hD hS hl)
theorem c_iload_n {i : Nat} {j : Fin 4} {x : Int32} (C : Cc X Y cc nL own F L mc ms) (hd : decode cc pc = .ok (.iload_n j, 1)) (hi : (j : Nat) = i) (k : Nat) (hk : lv[k]? = some (i, .int x)) (h : Sc X Y nL Q (pc + 1) lv (.int x :: st) ws u kc ks) : Sc X Y nL Q pc lv st ws u kc ks := fun H locs ls hP hD hS hl => lv_iload_n C.1 C.2.1 hd hi (lv_at hl k hk) (h H locs ls hP hD hS hl)
theorem c_astore_n {i : Nat} {j : Fin 4} {x : Nat} (lv2 : List (Nat × Value)) (C : Cc X Y cc nL own F L mc ms) (hd : decode cc pc = .ok (.astore_n j, 1)) (hi : (j : Nat) = i) (hn : i < nL) (hf : (i, Value.ref x) :: lv.filter (fun q => !(q.1 == i) && !(q.1 + 1 == i && q.2.category == 2)) = lv2) (h : Sc X Y nL Q (pc + 1) lv2 st ws u kc ks) : Sc X Y nL Q pc lv (.ref x :: st) ws u kc ks := fun H locs ls hP hD hS hl => lv_astore_n C.1 C.2.1 hd hi hl hn hf (fun ls2 hl2 => h H locs ls2 hP hD hS hl2)
theorem c_istore_n {i : Nat} {j : Fin 4} {x : Int32} (lv2 : List (Nat × Value)) (C : Cc X Y cc nL own F L mc ms) (hd : decode cc pc = .ok (.istore_n j, 1)) (hi : (j : Nat) = i) (hn : i < nL) (hf : (i, Value.int x) :: lv.filter (fun q => !(q.1 == i) && !(q.1 + 1 == i && q.2.category == 2)) = lv2) (h : Sc X Y nL Q (pc + 1) lv2 st ws u kc ks) : Sc X Y nL Q pc lv (.int x :: st) ws u kc ks := fun H locs ls hP hD hS hl => lv_istore_n C.1 C.2.1 hd hi hl hn hf (fun ls2 hl2 => h H locs ls2 hP hD hS hl2)
theorem c_iinc {i : Nat} {n : Int} {x : Int32} (v : Int32) (lv2 : List (Nat × Value)) (C : Cc X Y cc nL own F L mc ms) (hd : decode cc pc = .ok (.iinc i n, 3)) (k : Nat) (hk : lv[k]? = some (i, .int x)) (hv : x + Int32.ofInt n = v) (hn : i < nL) (hf : (i, Value.int v) :: lv.filter (fun q => !(q.1 == i) && !(q.1 + 1 == i && q.2.category == 2)) = lv2) (h : Sc X Y nL Q (pc + 3) lv2 st ws u kc ks) : Sc X Y nL Q pc lv st ws u kc ks := fun H locs ls hP hD hS hl => lv_iinc C.1 C.2.1 hd hl hk hv hn hf (fun ls2 hl2 => h H locs ls2 hP hD hS hl2)
theorem c_goto {off : Int} (tgt : Nat) (C : Cc X Y cc nL own F L mc ms) (hd : decode cc pc = .ok (.goto off, 3)) (ht : (pc : Int) + off = (tgt : Int)) (h : Sc X Y nL Q tgt lv st ws u kc ks) : Sc X Y nL Q pc lv st ws u kc ks := fun H locs ls hP hD hS hl => lv_goto C.1 C.2.1 hd ht (h H locs ls hP hD hS hl)
theorem c_icmp_ge {x y : Int32} {off : Int} (tgt : Nat) (C : Cc X Y cc nL own F L mc ms) (hd : decode cc pc = .ok (.if_icmp .ge off, 3)) (ht : (pc : Int) + off = (tgt : Int)) (kt : y ≤ x → Sc X Y nL Q tgt lv st ws u kc ks) (kf : ¬ y ≤ x → Sc X Y nL Q (pc + 3) lv st ws u kc ks) : Sc X Y nL Q pc lv (.int y :: .int x :: st) ws u kc ks := fun H locs ls hP hD hS hl => lv_icmp_ge C.1 C.2.1 hd ht (fun hc => kt hc H locs ls hP hD hS hl) (fun hc => kf hc H locs ls hP hD hS hl)
theorem c_dup {va : Value} (C : Cc X Y cc nL own F L mc ms) (hd : decode cc pc = .ok (.dup, 1)) (hva : va.category = 1) (h : Sc X Y nL Q (pc + 1) lv (va :: va :: st) ws u kc ks) : Sc X Y nL Q pc lv (va :: st) ws u kc ks := fun H locs ls hP hD hS hl => lv_dup C.1 C.2.1 hd hva (h H locs ls hP hD hS hl)
theorem c_iconst {n : Int} {v : Int32} (C : Cc X Y cc nL own F L mc ms) (hd : decode cc pc = .ok (.iconst n, 1)) (hv : Int32.ofInt n = v) (h : Sc X Y nL Q (pc + 1) lv (.int v :: st) ws u kc ks) : Sc X Y nL Q pc lv st ws u kc ks := fun H locs ls hP hD hS hl => lv_iconst C.1 C.2.1 hd hv (h H locs ls hP hD hS hl)
theorem c_bipush {n : Int} {v : Int32} (C : Cc X Y cc nL own F L mc ms) (hd : decode cc pc = .ok (.bipush n, 2)) (hv : (Int8.ofInt n).toInt32 = v) (h : Sc X Y nL Q (pc + 2) lv (.int v :: st) ws u kc ks) : Sc X Y nL Q pc lv st ws u kc ks := fun H locs ls hP hD hS hl => lv_bipush C.1 C.2.1 hd hv (h H locs ls hP hD hS hl)
theorem c_sipush {n : Int} {v : Int32} (C : Cc X Y cc nL own F L mc ms) (hd : decode cc pc = .ok (.sipush n, 3)) (hv : (Int16.ofInt n).toInt32 = v) (h : Sc X Y nL Q (pc + 3) lv (.int v :: st) ws u kc ks) : Sc X Y nL Q pc lv st ws u kc ks := fun H locs ls hP hD hS hl => lv_sipush C.1 C.2.1 hd hv (h H locs ls hP hD hS hl)
theorem c_objInit {index a : Nat} (C : Cc X Y cc nL own F L mc ms) (hw : Cond.methodLink own index objectInit ∈ TB) (hw1 : Cond.instanceMethod objectInit ∈ TB) (hw2 : Cond.code objectInit ⟨#[0xb1]⟩ 1 none ∈ TB) (hF : 1 ≤ F) (hL : 12 ≤ L) (hd : decode cc pc = .ok (.invokespecial index, 3)) (h : Sc X Y nL Q (pc + 3) lv [] ws u kc ks) : Sc X Y nL Q pc lv [.ref a] ws u kc ks := fun H locs ls hP hD hS hl =>
  W.objInit C.1 C.2.1 C.2.2.2.1 (C.2.2.2.2.1 _ hw) (C.2.2.2.2.1 _ hw1) (C.2.2.2.2.1 _ hw2) rfl (by rw [C.2.2.1]; exact hl.1) rfl hd (Nat.le_trans hF C.2.2.2.2.2.2.2.2.2.2.1) (Nat.le_trans hL C.2.2.2.2.2.2.2.2.2.2.2.1) (h H locs ls hP hD hS hl)
/-- the class of an array of ints is one -/
theorem ra_I {q : ClassId} {U : State} (h : va_K (yD Y) classes (tys Y) U) (h2 : va_RA U q .int) : q = yI Y := by
  have e := (h.2 0 _ rfl).2
  have e1 : U.vm.findClass ("[" ++ (FieldType.int).toString) = some q := h2
  have e2 : U.vm.findClass ("[" ++ (FieldType.int).toString) = some (yI Y) := e
  exact Option.some.inj (e1.symm.trans e2)
theorem ra_Z {q : ClassId} {U : State} (h : va_K (yD Y) classes (tys Y) U) (h2 : va_RA U q .boolean) : q = yZ Y := by
  have e := (h.2 1 _ rfl).2
  have e1 : U.vm.findClass ("[" ++ (FieldType.boolean).toString) = some q := h2
  have e2 : U.vm.findClass ("[" ++ (FieldType.boolean).toString) = some (yZ Y) := e
  exact Option.some.inj (e1.symm.trans e2)
theorem ra_S {q : ClassId} {U : State} (h : va_K (yD Y) classes (tys Y) U) (h2 : va_RA U q (.object "LoadCycles$Sheet")) : q = yS Y := by
  obtain ⟨kA, comp, -, -, -, e2⟩ := (h.2 2 _ rfl).2
  obtain ⟨kA', comp', -, -, -, e1⟩ := h2
  exact Option.some.inj (e1.symm.trans e2)
theorem c_newI {n : Int32} {N : Nat} (kc2 ks2 : Nat) (C : Cc X Y cc nL own F L mc ms) (hw : Cond.arrayClass .int ∈ TB) (hn : ¬ n < 0) (hN : n.toNatClampNeg = N) (hbytes : N * 4 ≤ 536870912) (hk : kc + 1 = kc2) (hs : ks + N = ks2) (hc : kc2 ≤ mc) (hcs : ks2 ≤ ms) (hd : decode cc pc = .ok (.newarray .int, 2)) (h : ∀ q, Sc X Y nL Q (pc + 2) lv (.ref q :: st) ws (u ++ [(q, .inl (yI Y, (N, .inl (fun _ => 0))))]) kc2 ks2) : Sc X Y nL Q pc lv (.int n :: st) ws u kc ks := by
  intro H locs ls hP hD hS hl
  subst hk; subst hs
  refine va_newa (D := yD Y) (cl := classes) (tys := tys Y) (A := yA Y) (H0 := (xs X).heap) (atype := .int) (ty := .int) (a0 := (N, .inl (fun _ => 0))) C.1 C.2.1 (C.2.2.2.2.1 _ hw) rfl C.2.2.2.2.2.1 hP hD hS C.2.2.2.2.2.2.2.2.1 (fun cA => rfl) hn hN hbytes (Nat.le_trans hc C.2.2.2.2.2.2.2.2.2.2.2.2.1) (Nat.le_trans hcs C.2.2.2.2.2.2.2.2.2.2.2.2.2) hd (fun q cA H1 hK1 hP1 hD1 hS1 => ?_)
  have e : cA = yI Y := ra_I C.2.2.2.2.2.1 (hK1.2 3 (cA, .int) rfl).2
  subst e
  rw [List.append_assoc] at hP1 hD1
  exact h q H1 locs ls hP1 hD1 hS1 hl
theorem c_newZ {n : Int32} {N : Nat} (kc2 ks2 : Nat) (C : Cc X Y cc nL own F L mc ms) (hw : Cond.arrayClass .boolean ∈ TB) (hn : ¬ n < 0) (hN : n.toNatClampNeg = N) (hbytes : N * 4 ≤ 536870912) (hk : kc + 1 = kc2) (hs : ks + N = ks2) (hc : kc2 ≤ mc) (hcs : ks2 ≤ ms) (hd : decode cc pc = .ok (.newarray .boolean, 2)) (h : ∀ q, Sc X Y nL Q (pc + 2) lv (.ref q :: st) ws (u ++ [(q, .inl (yZ Y, (N, .inl (fun _ => 0))))]) kc2 ks2) : Sc X Y nL Q pc lv (.int n :: st) ws u kc ks := by
  intro H locs ls hP hD hS hl
  subst hk; subst hs
  refine va_newa (D := yD Y) (cl := classes) (tys := tys Y) (A := yA Y) (H0 := (xs X).heap) (atype := .boolean) (ty := .boolean) (a0 := (N, .inl (fun _ => 0))) C.1 C.2.1 (C.2.2.2.2.1 _ hw) rfl C.2.2.2.2.2.1 hP hD hS C.2.2.2.2.2.2.2.2.1 (fun cA => rfl) hn hN (by have : componentBytes .boolean = 1 := rfl; rw [this]; omega) (Nat.le_trans hc C.2.2.2.2.2.2.2.2.2.2.2.2.1) (Nat.le_trans hcs C.2.2.2.2.2.2.2.2.2.2.2.2.2) hd (fun q cA H1 hK1 hP1 hD1 hS1 => ?_)
  have e : cA = yZ Y := ra_Z C.2.2.2.2.2.1 (hK1.2 3 (cA, .boolean) rfl).2
  subst e
  rw [List.append_assoc] at hP1 hD1
  exact h q H1 locs ls hP1 hD1 hS1 hl
theorem c_newS {index : Nat} {n : Int32} {N : Nat} (kc2 ks2 : Nat) (C : Cc X Y cc nL own F L mc ms) (hw : Cond.classLink own index "LoadCycles$Sheet" ∈ TB) (hn : ¬ n < 0) (hN : n.toNatClampNeg = N) (hbytes : N * 4 ≤ 536870912) (hk : kc + 1 = kc2) (hs : ks + N = ks2) (hc : kc2 ≤ mc) (hcs : ks2 ≤ ms) (hd : decode cc pc = .ok (.anewarray index, 3)) (h : ∀ q, Sc X Y nL Q (pc + 3) lv (.ref q :: st) ws (u ++ [(q, .inl (yS Y, (N, .inr (.inr (.inr (.inr (fun _ => none)))))))]) kc2 ks2) : Sc X Y nL Q pc lv (.int n :: st) ws u kc ks := by
  intro H locs ls hP hD hS hl
  subst hk; subst hs
  refine va_newq (D := yD Y) (cl := classes) (tys := tys Y) (A := yA Y) (H0 := (xs X).heap) (C := "LoadCycles$Sheet") C.1 C.2.1 C.2.2.2.1 (C.2.2.2.2.1 _ hw) C.2.2.2.2.2.2.2.1 C.2.2.2.2.2.1 hP hD hS C.2.2.2.2.2.2.2.2.1 hn hN hbytes (Nat.le_trans hc C.2.2.2.2.2.2.2.2.2.2.2.2.1) (Nat.le_trans hcs C.2.2.2.2.2.2.2.2.2.2.2.2.2) hd (fun q cA H1 hK1 hP1 hD1 hS1 => ?_)
  have e : cA = yS Y := ra_S C.2.2.2.2.2.1 (hK1.2 3 (cA, .object "LoadCycles$Sheet") rfl).2
  subst e
  rw [List.append_assoc] at hP1 hD1
  exact h q H1 locs ls hP1 hD1 hS1 hl
theorem c_new {index : Nat} (ci kc2 ks2 : Nat) (C : Cc X Y cc nL own F L mc ms) (hci : ci < 8) (hw : Cond.classLink own index (RC ci) ∈ TB) (hw1 : Cond.instantiable (RC ci) (NC ci) ∈ TB) (hw2 : Cond.initialized (RC ci) ∈ TB) (hk : kc + 1 = kc2) (hs : ks + NC ci = ks2) (hc : kc2 ≤ mc) (hcs : ks2 ≤ ms) (hd : decode cc pc = .ok (.new index, 3)) (h : ∀ q, Sc X Y nL Q (pc + 3) lv (.ref q :: st) ws (u ++ [(q, .inr (ci, blk ci))]) kc2 ks2) : Sc X Y nL Q pc lv st ws u kc ks := by
  intro H locs ls hP hD hS hl
  subst hk; subst hs
  refine va_new (D := yD Y) (cl := classes) (tys := tys Y) (A := yA Y) (H0 := (xs X).heap) (Ts := TB) (C := RC ci) (T := TC ci) (N := NC ci) (ci := ci) (fs := blk ci) C.1 C.2.1 C.2.2.2.2.1 (cls_in hci) (yC ci) (cls_ty hci) C.2.2.2.1 (C.2.2.2.2.1 _ hw) (C.2.2.2.2.1 _ hw1) (C.2.2.2.2.1 _ hw2) C.2.2.2.2.2.1 hP hD hS C.2.2.2.2.2.2.2.2.1 (cls_at hci) (blk_ok hci) (Nat.le_trans hc C.2.2.2.2.2.2.2.2.2.2.2.2.1) (Nat.le_trans hcs C.2.2.2.2.2.2.2.2.2.2.2.2.2) hd (fun q H1 hP1 hD1 hS1 => ?_)
  rw [List.append_assoc] at hP1 hD1
  exact h q H1 locs ls hP1 hD1 hS1 hl
theorem c_putF {index j ci k a : Nat} {fs : List Value} {v : Value} (u2 : va_W) (C : Cc X Y cc nL own F L mc ms) (hi : (xh X).name = "<init>") (hu : u[j]? = some (a, .inr (ci, fs))) (hci : ci < 8) (hkn : k < NC ci) (hw : Cond.fieldLink own index (TC ci k).1 (TC ci k).2.1 (TC ci k).2.2.1 ∈ TB) (hfin : (TC ci k).2.2.2 = true) (ho : (TC ci k).1 = own) (hn : narrow (yC ci k) v = v) (hfit : fits (yC ci k) v = true) (hl0 : k < fs.length) (hu2 : u.set j (a, .inr (ci, fs.set k v)) = u2) (hd : decode cc pc = .ok (.putfield index, 3)) (h : Sc X Y nL Q (pc + 3) lv st ws u2 kc ks) : Sc X Y nL Q pc lv (v :: .ref a :: st) ws u kc ks := by
  intro H locs ls hP hD hS hl
  refine va_putF (D := yD Y) (cl := classes) (tys := tys Y) (Ts := TB) (A := yA Y) (H0 := (xs X).heap) (C := RC ci) (T := TC ci) (N := NC ci) (ty := yC ci k) C.1 C.2.1 C.2.2.2.2.1 (cls_in hci) (yC ci) (cls_ty hci) (cls_nm hci) C.2.2.2.1 C.2.2.2.2.2.1 hP hD hS (ws.length + j) (by rw [ap_get]; exact hu) (cls_at hci) k hkn (C.2.2.2.2.1 _ hw) (fun _ h9 => h9) hfin hi ho (cls_ty hci k hkn) hn hfit hl0 hd (fun H1 locs1 hP1 hD1 hS1 => ?_)
  rw [ap_set, hu2] at hP1 hD1
  exact h H1 locs1 ls hP1 hD1 hS1 hl
theorem c_put {index j ci k a : Nat} {fs : List Value} {v : Value} (u2 : va_W) (C : Cc X Y cc nL own F L mc ms) (hu : u[j]? = some (a, .inr (ci, fs))) (hci : ci < 8) (hkn : k < NC ci) (hw : Cond.fieldLink own index (TC ci k).1 (TC ci k).2.1 (TC ci k).2.2.1 ∈ TB) (hfin : (TC ci k).2.2.2 = false) (hn : narrow (yC ci k) v = v) (hfit : fits (yC ci k) v = true) (hl0 : k < fs.length) (hu2 : u.set j (a, .inr (ci, fs.set k v)) = u2) (hd : decode cc pc = .ok (.putfield index, 3)) (h : Sc X Y nL Q (pc + 3) lv st ws u2 kc ks) : Sc X Y nL Q pc lv (v :: .ref a :: st) ws u kc ks := by
  intro H locs ls hP hD hS hl
  refine va_put (D := yD Y) (cl := classes) (tys := tys Y) (Ts := TB) (A := yA Y) (H0 := (xs X).heap) (C := RC ci) (T := TC ci) (N := NC ci) (ty := yC ci k) C.1 C.2.1 C.2.2.2.2.1 (cls_in hci) (yC ci) (cls_ty hci) (cls_nm hci) C.2.2.2.1 C.2.2.2.2.2.1 hP hD hS (ws.length + j) (by rw [ap_get]; exact hu) (cls_at hci) k hkn (C.2.2.2.2.1 _ hw) (fun _ h9 => h9) hfin (cls_ty hci k hkn) hn hfit hl0 hd (fun H1 locs1 hP1 hD1 hS1 => ?_)
  rw [ap_set, hu2] at hP1 hD1
  exact h H1 locs1 ls hP1 hD1 hS1 hl
theorem c_get {index j ci k a : Nat} {fs : List Value} {v : Value} (C : Cc X Y cc nL own F L mc ms) (hu : u[j]? = some (a, .inr (ci, fs))) (hci : ci < 8) (hkn : k < NC ci) (hw : Cond.fieldLink own index (TC ci k).1 (TC ci k).2.1 (TC ci k).2.2.1 ∈ TB) (hv : fs[k]? = some v) (hd : decode cc pc = .ok (.getfield index, 3)) (h : Sc X Y nL Q (pc + 3) lv (v :: st) ws u kc ks) : Sc X Y nL Q pc lv (.ref a :: st) ws u kc ks := fun H locs ls hP hD hS hl =>
  va_get (D := yD Y) (cl := classes) (tys := tys Y) (Ts := TB) (C := RC ci) (T := TC ci) (N := NC ci) C.1 C.2.1 C.2.2.2.2.1 (cls_in hci) C.2.2.2.1 C.2.2.2.2.2.1 hP (ws.length + j) (by rw [ap_get]; exact hu) (cls_at hci) k hkn (C.2.2.2.2.1 _ hw) (fun _ h9 => h9) hv hd (h H locs ls hP hD hS hl)
theorem c_iast {j a n : Nat} {f : Nat → Int32} {i x : Int32} (u2 : va_W) (C : Cc X Y cc nL own F L mc ms) (hu : u[j]? = some (a, .inl (yI Y, n, .inl f))) (hin : vp_in i n) (hu2 : u.set j (a, .inl (yI Y, n, .inl (upd f i.toNatClampNeg x))) = u2) (hd : decode cc pc = .ok (.iastore, 1)) (h : Sc X Y nL Q (pc + 1) lv st ws u2 kc ks) : Sc X Y nL Q pc lv (.int x :: .int i :: .ref a :: st) ws u kc ks := by
  intro H locs ls hP hD hS hl
  refine va_iast (D := yD Y) (cl := classes) (tys := tys Y) (A := yA Y) (H0 := (xs X).heap) C.1 C.2.1 C.2.2.2.2.2.1 hP hD hS (ws.length + j) 0 (by rw [ap_get]; exact hu) rfl hin hd (fun H1 locs1 hP1 hD1 hS1 => ?_)
  rw [ap_set, hu2] at hP1 hD1
  exact h H1 locs1 ls hP1 hD1 hS1 hl
theorem c_aast {j jv a n v : Nat} {f : Nat → Option Nat} {vs : List Value} {i : Int32} (u2 : va_W) (C : Cc X Y cc nL own F L mc ms) (hu : u[j]? = some (a, .inl (yS Y, n, .inr (.inr (.inr (.inr f)))))) (huv : u[jv]? = some (v, .inr (3, vs))) (hin : vp_in i n) (hu2 : u.set j (a, .inl (yS Y, n, .inr (.inr (.inr (.inr (va_up f i.toNatClampNeg (some v))))))) = u2) (hd : decode cc pc = .ok (.aastore, 1)) (h : Sc X Y nL Q (pc + 1) lv st ws u2 kc ks) : Sc X Y nL Q pc lv (.ref v :: .int i :: .ref a :: st) ws u kc ks := by
  intro H locs ls hP hD hS hl
  refine va_astq (D := yD Y) (cl := classes) (tys := tys Y) (A := yA Y) (H0 := (xs X).heap) (r := (RC 3, TC 3, NC 3)) C.1 C.2.1 C.2.2.2.2.2.1 hP hD hS (ws.length + j) 2 (ws.length + jv) 3 (by rw [ap_get]; exact hu) rfl (by rw [ap_get]; exact huv) rfl hin hd (fun H1 locs1 hP1 hD1 hS1 => ?_)
  rw [ap_set, hu2] at hP1 hD1
  exact h H1 locs1 ls hP1 hD1 hS1 hl
theorem c_vret {post : va_W → Prop} (C : Cc X Y cc nL own F L mc ms) (hr : (xh X).sig.returnType = none) (hd : decode cc pc = .ok (.return_, 1)) (h : post u) : Sc X Y nL (QC X Y ws kc ks post) pc lv [] ws u kc ks := fun H locs ls hP hD hS hl =>
  W.vret C.1 C.2.1 hr (fun t ht hW => ⟨⟨u, rfl, h, by unfold CO; rw [ht]; exact ⟨hP, hD⟩⟩, hS.F ht⟩) hS.2.2 hd C.2.2.2.2.2.2.2.2.2.1
def miC (y : MethodName) (b : ByteArray) (n : Nat) : Prop := Cond.instanceMethod y ∈ TB ∧ Cond.initialized y.cls ∈ TB ∧ Cond.code y b n none ∈ TB ∧ y.cls ≠ "java/lang/invoke/MethodHandle" ∧ y.cls ≠ "java/lang/invoke/VarHandle" ∧ (parseMethodDescriptor y.desc).map (fun d => d.parameters.length) = some 0
theorem CI_blind {av : List Value} {w : va_W} : FrameBlind (va_Pc av (CI Y w)) := fun a U g mk q => by
  obtain ⟨q0, qP, qK, qN, qA, qD, qh⟩ := q
  exact ⟨q0, qP, va_K.moved (u := U) (U := U.calling g mk a) (Vm.Alike.refl U.vm) qK, fun x hx => va_Nw.same (by
    simp only [nestL, List.mem_cons, List.not_mem_nil, or_false] at hx
    rcases hx with rfl | rfl | rfl | rfl | rfl | rfl | rfl | rfl <;> rfl) (u := U) (U := U.calling g mk a) rfl (qN x hx), va_AO.moved (u := U) (U := U.calling g mk a) (Vm.Alike.refl U.vm) qA, qD, qh⟩
theorem nest_warm {x : Cond} {U : State} (hW : (xs X).WarmedH U.vm) (hx : x ∈ nestL) (h : va_Nw x (xs X)) : va_Nw x U := by
  simp only [nestL, List.mem_cons, List.not_mem_nil, or_false] at hx
  rcases hx with rfl | rfl | rfl | rfl | rfl | rfl | rfl | rfl <;> exact va_Nw.warmM hW h
theorem CI_pre {av : List Value} {H : Heap} {w : va_W} {locs : List Loc} (C : Cc X Y cc nL own F L mc ms) (hP : va_P (yD Y) classes w H) (hD : va_D (yA Y) w) (hS : va_S (yA Y) (xs X).heap H locs) : ∀ U : State, U.heap = H → (xs X).WarmedH U.vm → va_Pc av (CI Y w) av.toArray U := fun U hU hW => ⟨rfl, by rw [hU]; exact hP, va_K.moved hW.alike C.2.2.2.2.2.1, fun x hx => nest_warm hW hx (C.2.2.2.2.2.2.1 x hx), va_AO.moved hW.alike C.2.2.2.2.2.2.2.1, hD, by rw [hU]; exact fun q hq => C.2.2.2.2.2.2.2.2.1 q (Nat.le_trans hS.1 hq)⟩
/-- a constructor of a nest mate is called on the cell that was made last -/
theorem c_callN {y : MethodName} {b : ByteArray} {n index F2 L2 mc2 ms2 q ci : Nat} {u0 : va_W} {post : va_W → Prop} (kc2 ks2 : Nat) (C : Cc X Y cc nL own F L mc ms) (hM : MetC Y y b n F2 L2 mc2 ms2 q (ws ++ u0) ci post) (hi : miC y b n) (hy : y.name = "<init>") (hnl : Cond.methodLinkNest own index y "LoadCycles" ∈ nestL) (hcat : (st.map fun v => v.category).sum ≤ 8) (hF : F2 + 1 ≤ F) (hL : 8 + (n + 11) + L2 ≤ L) (hk : kc + mc2 = kc2) (hs : ks + ms2 = ks2) (hc : kc2 ≤ mc) (hcs : ks2 ≤ ms) (hd : decode cc pc = .ok (.invokespecial index, 3)) (h : ∀ u1, post u1 → Sc X Y nL Q (pc + 3) lv st ws (u0 ++ u1) kc2 ks2) : Sc X Y nL Q pc lv (.ref q :: st) ws (u0 ++ [(q, .inr (ci, blk ci))]) kc ks := by
  intro H locs ls hP hD hS hl
  subst hk; subst hs
  rw [← List.append_assoc] at hP hD
  refine va_callv (A0 := yA Y) (H0 := (xs X).heap) (va_runIN (As := []) (rest := st) (Ts := TB) (host := "LoadCycles") ⟨C.1, C.2.1, C.2.2.1, C.2.2.2.1, C.2.2.2.2.1⟩ hM ⟨va_cnB 0 C.2.2.2.2.1 (gd_code hi.2.2.1) rfl rfl rfl (C.2.2.2.2.2.2.1 _ hnl) (C.2.2.2.2.1 _ hi.2.1) hi.2.2.2 ⟨Nat.le_trans hF C.2.2.2.2.2.2.2.2.2.2.1, Nat.le_trans hL C.2.2.2.2.2.2.2.2.2.2.2.1⟩, hy, C.2.2.2.2.1 _ hi.1⟩ ⟨CI_blind, CI_pre C hP hD hS⟩ rfl rfl hl.1 rfl (lv_room hcat) hd ⟨Nat.le_trans hc C.2.2.2.2.2.2.2.2.2.2.2.2.1, Nat.le_trans hcs C.2.2.2.2.2.2.2.2.2.2.2.2.2⟩) hS (fun _ _ h => h) (fun _ h => h) (fun u1 t H1 locs1 ht hvm hw2 hB hz1 hk1 hS1 => ?_)
  obtain ⟨hP1, hD1⟩ := hB
  rw [List.append_assoc] at hP1 hD1
  rw [ht] at hP1
  exact h u1 hw2 H1 locs1 ls hP1 hD1 hS1 hl
/-- a public constructor is called on the cell that was made last -/
theorem c_callI {y : MethodName} {b : ByteArray} {n index F2 L2 mc2 ms2 q ci : Nat} {u0 : va_W} {post : va_W → Prop} (kc2 ks2 : Nat) (C : Cc X Y cc nL own F L mc ms) (hM : MetC Y y b n F2 L2 mc2 ms2 q (ws ++ u0) ci post) (hi : miC y b n) (hy : y.name = "<init>") (hw : Cond.methodLink own index y ∈ TB) (hcat : (st.map fun v => v.category).sum ≤ 8) (hF : F2 + 1 ≤ F) (hL : 8 + (n + 11) + L2 ≤ L) (hk : kc + mc2 = kc2) (hs : ks + ms2 = ks2) (hc : kc2 ≤ mc) (hcs : ks2 ≤ ms) (hd : decode cc pc = .ok (.invokespecial index, 3)) (h : ∀ u1, post u1 → Sc X Y nL Q (pc + 3) lv st ws (u0 ++ u1) kc2 ks2) : Sc X Y nL Q pc lv (.ref q :: st) ws (u0 ++ [(q, .inr (ci, blk ci))]) kc ks := by
  intro H locs ls hP hD hS hl
  subst hk; subst hs
  rw [← List.append_assoc] at hP hD
  refine va_callv (A0 := yA Y) (H0 := (xs X).heap) (va_runI (As := []) (rest := st) (Ts := TB) ⟨C.1, C.2.1, C.2.2.1, C.2.2.2.1, C.2.2.2.2.1⟩ hM (cwI 0 C.2.2.2.2.1 (gd_code hi.2.2.1) rfl rfl rfl (C.2.2.2.2.1 _ hi.2.1) (C.2.2.2.2.1 _ hw) (C.2.2.2.2.1 _ hi.1) hy hi.2.2.2 ⟨Nat.le_trans hF C.2.2.2.2.2.2.2.2.2.2.1, Nat.le_trans hL C.2.2.2.2.2.2.2.2.2.2.2.1⟩) ⟨CI_blind, CI_pre C hP hD hS⟩ rfl rfl hl.1 rfl (lv_room hcat) hd ⟨Nat.le_trans hc C.2.2.2.2.2.2.2.2.2.2.2.2.1, Nat.le_trans hcs C.2.2.2.2.2.2.2.2.2.2.2.2.2⟩) hS (fun _ _ h => h) (fun _ h => h) (fun u1 t H1 locs1 ht hvm hw2 hB hz1 hk1 hS1 => ?_)
  obtain ⟨hP1, hD1⟩ := hB
  rw [List.append_assoc] at hP1 hD1
  rw [ht] at hP1
  exact h u1 hw2 H1 locs1 ls hP1 hD1 hS1 hl
end CRows
end
section
theorem d_Ho_init_0 : decode prog_4_method_1_code 0 = .ok (.aload_n 0, 1) := by decide +kernel
theorem d_Ho_init_1 : decode prog_4_method_1_code 1 = .ok (.invokespecial 3, 3) := by decide +kernel
theorem d_Ho_init_4 : decode prog_4_method_1_code 4 = .ok (.aload_n 0, 1) := by decide +kernel
theorem d_Ho_init_5 : decode prog_4_method_1_code 5 = .ok (.iconst 4, 1) := by decide +kernel
theorem d_Ho_init_6 : decode prog_4_method_1_code 6 = .ok (.newarray .int, 2) := by decide +kernel
theorem d_Ho_init_8 : decode prog_4_method_1_code 8 = .ok (.putfield 9, 3) := by decide +kernel
theorem d_Ho_init_11 : decode prog_4_method_1_code 11 = .ok (.aload_n 0, 1) := by decide +kernel
theorem d_Ho_init_12 : decode prog_4_method_1_code 12 = .ok (.iconst 4, 1) := by decide +kernel
theorem d_Ho_init_13 : decode prog_4_method_1_code 13 = .ok (.newarray .int, 2) := by decide +kernel
theorem d_Ho_init_15 : decode prog_4_method_1_code 15 = .ok (.putfield 15, 3) := by decide +kernel
theorem d_Ho_init_18 : decode prog_4_method_1_code 18 = .ok (.aload_n 0, 1) := by decide +kernel
theorem d_Ho_init_19 : decode prog_4_method_1_code 19 = .ok (.bipush 12, 2) := by decide +kernel
theorem d_Ho_init_21 : decode prog_4_method_1_code 21 = .ok (.newarray .int, 2) := by decide +kernel
theorem d_Ho_init_23 : decode prog_4_method_1_code 23 = .ok (.putfield 18, 3) := by decide +kernel
theorem d_Ho_init_26 : decode prog_4_method_1_code 26 = .ok (.aload_n 0, 1) := by decide +kernel
theorem d_Ho_init_27 : decode prog_4_method_1_code 27 = .ok (.bipush 20, 2) := by decide +kernel
theorem d_Ho_init_29 : decode prog_4_method_1_code 29 = .ok (.newarray .int, 2) := by decide +kernel
theorem d_Ho_init_31 : decode prog_4_method_1_code 31 = .ok (.putfield 21, 3) := by decide +kernel
theorem d_Ho_init_34 : decode prog_4_method_1_code 34 = .ok (.return_, 1) := by decide +kernel
abbrev y_Ho_init : MethodName := ⟨"LoadCycles$House", "<init>", "()V"⟩
theorem mc_Ho_init : miC y_Ho_init prog_4_method_1_code 1 := ⟨wd_88, wd_66, wd_89, by decide, by decide, by decide +kernel⟩
def po_Ho_init (Y : Yx) (h0 : Nat) (u : va_W) : Prop := ∃ q1 q2 q3 q4 : Nat, u = [(h0, .inr (2, [.ref q1, .ref q2, .ref q3, .ref q4, .int 0, .int 0, .int 0])), (q1, .inl (yI Y, (4, .inl (fun _ => 0)))), (q2, .inl (yI Y, (4, .inl (fun _ => 0)))), (q3, .inl (yI Y, (12, .inl (fun _ => 0)))), (q4, .inl (yI Y, (20, .inl (fun _ => 0))))]
set_option maxHeartbeats 4000000 in
set_option maxRecDepth 20000 in
theorem k_Ho_init {Y : Yx} {ws : va_W} {h0 : Nat} : MetC Y y_Ho_init prog_4_method_1_code 1 1 20 4 40 h0 ws 2 (po_Ho_init Y h0) := by
  refine met_C [(0, .ref h0)] (by decide) (Nat.le_of_ble_eq_true rfl) rfl (fun X C hr hi => ?_)
  refine c_aload_n (pc := 0) C d_Ho_init_0 rfl 0 rfl ?_
  refine c_objInit (pc := 1) C wd_90 wd_83 wd_84 (by decide) (by decide) d_Ho_init_1 ?_
  refine c_aload_n (pc := 4) C d_Ho_init_4 rfl 0 rfl ?_
  refine c_iconst (pc := 5) (v := 4) C d_Ho_init_5 (by decide) ?_
  refine c_newI (pc := 6) (N := 4) 1 4 C wd_127 (by decide) (by decide) (by decide) rfl rfl (by decide) (by decide) d_Ho_init_6 (fun q1 => ?_)
  refine c_putF (pc := 8) (j := 0) (k := 0) [(h0, .inr (2, [.ref q1, .null, .null, .null, .int 0, .int 0, .int 0])), (q1, .inl (yI Y, (4, .inl (fun _ => 0))))] C hi rfl (by decide) (by decide) wd_91 rfl rfl rfl rfl (Nat.le_of_ble_eq_true rfl) rfl d_Ho_init_8 ?_
  refine c_aload_n (pc := 11) C d_Ho_init_11 rfl 0 rfl ?_
  refine c_iconst (pc := 12) (v := 4) C d_Ho_init_12 (by decide) ?_
  refine c_newI (pc := 13) (N := 4) 2 8 C wd_127 (by decide) (by decide) (by decide) rfl rfl (by decide) (by decide) d_Ho_init_13 (fun q2 => ?_)
  refine c_putF (pc := 15) (j := 0) (k := 1) [(h0, .inr (2, [.ref q1, .ref q2, .null, .null, .int 0, .int 0, .int 0])), (q1, .inl (yI Y, (4, .inl (fun _ => 0)))), (q2, .inl (yI Y, (4, .inl (fun _ => 0))))] C hi rfl (by decide) (by decide) wd_93 rfl rfl rfl rfl (Nat.le_of_ble_eq_true rfl) rfl d_Ho_init_15 ?_
  refine c_aload_n (pc := 18) C d_Ho_init_18 rfl 0 rfl ?_
  refine c_bipush (pc := 19) (v := 12) C d_Ho_init_19 (by decide) ?_
  refine c_newI (pc := 21) (N := 12) 3 20 C wd_127 (by decide) (by decide) (by decide) rfl rfl (by decide) (by decide) d_Ho_init_21 (fun q3 => ?_)
  refine c_putF (pc := 23) (j := 0) (k := 2) [(h0, .inr (2, [.ref q1, .ref q2, .ref q3, .null, .int 0, .int 0, .int 0])), (q1, .inl (yI Y, (4, .inl (fun _ => 0)))), (q2, .inl (yI Y, (4, .inl (fun _ => 0)))), (q3, .inl (yI Y, (12, .inl (fun _ => 0))))] C hi rfl (by decide) (by decide) wd_96 rfl rfl rfl rfl (Nat.le_of_ble_eq_true rfl) rfl d_Ho_init_23 ?_
  refine c_aload_n (pc := 26) C d_Ho_init_26 rfl 0 rfl ?_
  refine c_bipush (pc := 27) (v := 20) C d_Ho_init_27 (by decide) ?_
  refine c_newI (pc := 29) (N := 20) 4 40 C wd_127 (by decide) (by decide) (by decide) rfl rfl (by decide) (by decide) d_Ho_init_29 (fun q4 => ?_)
  refine c_putF (pc := 31) (j := 0) (k := 3) [(h0, .inr (2, [.ref q1, .ref q2, .ref q3, .ref q4, .int 0, .int 0, .int 0])), (q1, .inl (yI Y, (4, .inl (fun _ => 0)))), (q2, .inl (yI Y, (4, .inl (fun _ => 0)))), (q3, .inl (yI Y, (12, .inl (fun _ => 0)))), (q4, .inl (yI Y, (20, .inl (fun _ => 0))))] C hi rfl (by decide) (by decide) wd_97 rfl rfl rfl rfl (Nat.le_of_ble_eq_true rfl) rfl d_Ho_init_31 ?_
  exact c_vret (pc := 34) C hr d_Ho_init_34 ⟨q1, q2, q3, q4, rfl⟩
theorem d_Do_init_0 : decode prog_2_method_1_code 0 = .ok (.aload_n 0, 1) := by decide +kernel
theorem d_Do_init_1 : decode prog_2_method_1_code 1 = .ok (.invokespecial 3, 3) := by decide +kernel
theorem d_Do_init_4 : decode prog_2_method_1_code 4 = .ok (.aload_n 0, 1) := by decide +kernel
theorem d_Do_init_5 : decode prog_2_method_1_code 5 = .ok (.bipush 80, 2) := by decide +kernel
theorem d_Do_init_7 : decode prog_2_method_1_code 7 = .ok (.newarray .int, 2) := by decide +kernel
theorem d_Do_init_9 : decode prog_2_method_1_code 9 = .ok (.putfield 9, 3) := by decide +kernel
theorem d_Do_init_12 : decode prog_2_method_1_code 12 = .ok (.aload_n 0, 1) := by decide +kernel
theorem d_Do_init_13 : decode prog_2_method_1_code 13 = .ok (.iconst 4, 1) := by decide +kernel
theorem d_Do_init_14 : decode prog_2_method_1_code 14 = .ok (.newarray .int, 2) := by decide +kernel
theorem d_Do_init_16 : decode prog_2_method_1_code 16 = .ok (.putfield 15, 3) := by decide +kernel
theorem d_Do_init_19 : decode prog_2_method_1_code 19 = .ok (.return_, 1) := by decide +kernel
abbrev y_Do_init : MethodName := ⟨"LoadCycles$Doing", "<init>", "()V"⟩
theorem mc_Do_init : miC y_Do_init prog_2_method_1_code 1 := ⟨wd_131, wd_67, wd_132, by decide, by decide, by decide +kernel⟩
def po_Do_init (Y : Yx) (h0 : Nat) (u : va_W) : Prop := ∃ q1 q2 : Nat, u = [(h0, .inr (0, [.ref q1, .ref q2, .int 0, .int 0, .int 0, .int 0])), (q1, .inl (yI Y, (80, .inl (fun _ => 0)))), (q2, .inl (yI Y, (4, .inl (fun _ => 0))))]
set_option maxHeartbeats 4000000 in
set_option maxRecDepth 20000 in
theorem k_Do_init {Y : Yx} {ws : va_W} {h0 : Nat} : MetC Y y_Do_init prog_2_method_1_code 1 1 20 2 84 h0 ws 0 (po_Do_init Y h0) := by
  refine met_C [(0, .ref h0)] (by decide) (Nat.le_of_ble_eq_true rfl) rfl (fun X C hr hi => ?_)
  refine c_aload_n (pc := 0) C d_Do_init_0 rfl 0 rfl ?_
  refine c_objInit (pc := 1) C wd_133 wd_83 wd_84 (by decide) (by decide) d_Do_init_1 ?_
  refine c_aload_n (pc := 4) C d_Do_init_4 rfl 0 rfl ?_
  refine c_bipush (pc := 5) (v := 80) C d_Do_init_5 (by decide) ?_
  refine c_newI (pc := 7) (N := 80) 1 80 C wd_127 (by decide) (by decide) (by decide) rfl rfl (by decide) (by decide) d_Do_init_7 (fun q1 => ?_)
  refine c_putF (pc := 9) (j := 0) (k := 0) [(h0, .inr (0, [.ref q1, .null, .int 0, .int 0, .int 0, .int 0])), (q1, .inl (yI Y, (80, .inl (fun _ => 0))))] C hi rfl (by decide) (by decide) wd_134 rfl rfl rfl rfl (Nat.le_of_ble_eq_true rfl) rfl d_Do_init_9 ?_
  refine c_aload_n (pc := 12) C d_Do_init_12 rfl 0 rfl ?_
  refine c_iconst (pc := 13) (v := 4) C d_Do_init_13 (by decide) ?_
  refine c_newI (pc := 14) (N := 4) 2 84 C wd_127 (by decide) (by decide) (by decide) rfl rfl (by decide) (by decide) d_Do_init_14 (fun q2 => ?_)
  refine c_putF (pc := 16) (j := 0) (k := 1) [(h0, .inr (0, [.ref q1, .ref q2, .int 0, .int 0, .int 0, .int 0])), (q1, .inl (yI Y, (80, .inl (fun _ => 0)))), (q2, .inl (yI Y, (4, .inl (fun _ => 0))))] C hi rfl (by decide) (by decide) wd_135 rfl rfl rfl rfl (Nat.le_of_ble_eq_true rfl) rfl d_Do_init_16 ?_
  exact c_vret (pc := 19) C hr d_Do_init_19 ⟨q1, q2, rfl⟩
theorem d_Gu_init_0 : decode prog_3_method_1_code 0 = .ok (.aload_n 0, 1) := by decide +kernel
theorem d_Gu_init_1 : decode prog_3_method_1_code 1 = .ok (.invokespecial 3, 3) := by decide +kernel
theorem d_Gu_init_4 : decode prog_3_method_1_code 4 = .ok (.aload_n 0, 1) := by decide +kernel
theorem d_Gu_init_5 : decode prog_3_method_1_code 5 = .ok (.bipush 48, 2) := by decide +kernel
theorem d_Gu_init_7 : decode prog_3_method_1_code 7 = .ok (.newarray .boolean, 2) := by decide +kernel
theorem d_Gu_init_9 : decode prog_3_method_1_code 9 = .ok (.putfield 11, 3) := by decide +kernel
theorem d_Gu_init_12 : decode prog_3_method_1_code 12 = .ok (.aload_n 0, 1) := by decide +kernel
theorem d_Gu_init_13 : decode prog_3_method_1_code 13 = .ok (.sipush 192, 3) := by decide +kernel
theorem d_Gu_init_16 : decode prog_3_method_1_code 16 = .ok (.newarray .int, 2) := by decide +kernel
theorem d_Gu_init_18 : decode prog_3_method_1_code 18 = .ok (.putfield 15, 3) := by decide +kernel
theorem d_Gu_init_21 : decode prog_3_method_1_code 21 = .ok (.return_, 1) := by decide +kernel
abbrev y_Gu_init : MethodName := ⟨"LoadCycles$Guesses", "<init>", "()V"⟩
theorem mc_Gu_init : miC y_Gu_init prog_3_method_1_code 1 := ⟨wd_199, wd_70, wd_200, by decide, by decide, by decide +kernel⟩
def po_Gu_init (Y : Yx) (h0 : Nat) (u : va_W) : Prop := ∃ q1 q2 : Nat, u = [(h0, .inr (1, [.ref q1, .ref q2])), (q1, .inl (yZ Y, (48, .inl (fun _ => 0)))), (q2, .inl (yI Y, (192, .inl (fun _ => 0))))]
set_option maxHeartbeats 4000000 in
set_option maxRecDepth 20000 in
theorem k_Gu_init {Y : Yx} {ws : va_W} {h0 : Nat} : MetC Y y_Gu_init prog_3_method_1_code 1 1 20 2 240 h0 ws 1 (po_Gu_init Y h0) := by
  refine met_C [(0, .ref h0)] (by decide) (Nat.le_of_ble_eq_true rfl) rfl (fun X C hr hi => ?_)
  refine c_aload_n (pc := 0) C d_Gu_init_0 rfl 0 rfl ?_
  refine c_objInit (pc := 1) C wd_201 wd_83 wd_84 (by decide) (by decide) d_Gu_init_1 ?_
  refine c_aload_n (pc := 4) C d_Gu_init_4 rfl 0 rfl ?_
  refine c_bipush (pc := 5) (v := 48) C d_Gu_init_5 (by decide) ?_
  refine c_newZ (pc := 7) (N := 48) 1 48 C wd_209 (by decide) (by decide) (by decide) rfl rfl (by decide) (by decide) d_Gu_init_7 (fun q1 => ?_)
  refine c_putF (pc := 9) (j := 0) (k := 0) [(h0, .inr (1, [.ref q1, .null])), (q1, .inl (yZ Y, (48, .inl (fun _ => 0))))] C hi rfl (by decide) (by decide) wd_202 rfl rfl rfl rfl (Nat.le_of_ble_eq_true rfl) rfl d_Gu_init_9 ?_
  refine c_aload_n (pc := 12) C d_Gu_init_12 rfl 0 rfl ?_
  refine c_sipush (pc := 13) (v := 192) C d_Gu_init_13 (by decide) ?_
  refine c_newI (pc := 16) (N := 192) 2 240 C wd_127 (by decide) (by decide) (by decide) rfl rfl (by decide) (by decide) d_Gu_init_16 (fun q2 => ?_)
  refine c_putF (pc := 18) (j := 0) (k := 1) [(h0, .inr (1, [.ref q1, .ref q2])), (q1, .inl (yZ Y, (48, .inl (fun _ => 0)))), (q2, .inl (yI Y, (192, .inl (fun _ => 0))))] C hi rfl (by decide) (by decide) wd_203 rfl rfl rfl rfl (Nat.le_of_ble_eq_true rfl) rfl d_Gu_init_18 ?_
  exact c_vret (pc := 21) C hr d_Gu_init_21 ⟨q1, q2, rfl⟩
theorem d_Sh_init_0 : decode prog_5_method_1_code 0 = .ok (.aload_n 0, 1) := by decide +kernel
theorem d_Sh_init_1 : decode prog_5_method_1_code 1 = .ok (.invokespecial 3, 3) := by decide +kernel
theorem d_Sh_init_4 : decode prog_5_method_1_code 4 = .ok (.aload_n 0, 1) := by decide +kernel
theorem d_Sh_init_5 : decode prog_5_method_1_code 5 = .ok (.bipush 60, 2) := by decide +kernel
theorem d_Sh_init_7 : decode prog_5_method_1_code 7 = .ok (.newarray .int, 2) := by decide +kernel
theorem d_Sh_init_9 : decode prog_5_method_1_code 9 = .ok (.putfield 9, 3) := by decide +kernel
theorem d_Sh_init_12 : decode prog_5_method_1_code 12 = .ok (.aload_n 0, 1) := by decide +kernel
theorem d_Sh_init_13 : decode prog_5_method_1_code 13 = .ok (.iconst (-1), 1) := by decide +kernel
theorem d_Sh_init_14 : decode prog_5_method_1_code 14 = .ok (.putfield 15, 3) := by decide +kernel
theorem d_Sh_init_17 : decode prog_5_method_1_code 17 = .ok (.return_, 1) := by decide +kernel
abbrev y_Sh_init : MethodName := ⟨"LoadCycles$Sheet", "<init>", "()V"⟩
theorem mc_Sh_init : miC y_Sh_init prog_5_method_1_code 1 := ⟨wd_214, wd_71, wd_215, by decide, by decide, by decide +kernel⟩
def po_Sh_init (Y : Yx) (h0 : Nat) (u : va_W) : Prop := ∃ q1 : Nat, u = [(h0, .inr (3, [.ref q1, .int 0, .int (-1)])), (q1, .inl (yI Y, (60, .inl (fun _ => 0))))]
set_option maxHeartbeats 4000000 in
set_option maxRecDepth 20000 in
theorem k_Sh_init {Y : Yx} {ws : va_W} {h0 : Nat} : MetC Y y_Sh_init prog_5_method_1_code 1 1 20 1 60 h0 ws 3 (po_Sh_init Y h0) := by
  refine met_C [(0, .ref h0)] (by decide) (Nat.le_of_ble_eq_true rfl) rfl (fun X C hr hi => ?_)
  refine c_aload_n (pc := 0) C d_Sh_init_0 rfl 0 rfl ?_
  refine c_objInit (pc := 1) C wd_216 wd_83 wd_84 (by decide) (by decide) d_Sh_init_1 ?_
  refine c_aload_n (pc := 4) C d_Sh_init_4 rfl 0 rfl ?_
  refine c_bipush (pc := 5) (v := 60) C d_Sh_init_5 (by decide) ?_
  refine c_newI (pc := 7) (N := 60) 1 60 C wd_127 (by decide) (by decide) (by decide) rfl rfl (by decide) (by decide) d_Sh_init_7 (fun q1 => ?_)
  refine c_putF (pc := 9) (j := 0) (k := 0) [(h0, .inr (3, [.ref q1, .int 0, .int 0])), (q1, .inl (yI Y, (60, .inl (fun _ => 0))))] C hi rfl (by decide) (by decide) wd_217 rfl rfl rfl rfl (Nat.le_of_ble_eq_true rfl) rfl d_Sh_init_9 ?_
  refine c_aload_n (pc := 12) C d_Sh_init_12 rfl 0 rfl ?_
  refine c_iconst (pc := 13) (v := -1) C d_Sh_init_13 (by decide) ?_
  refine c_put (pc := 14) (j := 0) (k := 2) [(h0, .inr (3, [.ref q1, .int 0, .int (-1)])), (q1, .inl (yI Y, (60, .inl (fun _ => 0))))] C rfl (by decide) (by decide) wd_222 rfl rfl rfl (Nat.le_of_ble_eq_true rfl) rfl d_Sh_init_14 ?_
  exact c_vret (pc := 17) C hr d_Sh_init_17 ⟨q1, rfl⟩
theorem d_Un_init_0 : decode prog_7_method_1_code 0 = .ok (.aload_n 0, 1) := by decide +kernel
theorem d_Un_init_1 : decode prog_7_method_1_code 1 = .ok (.invokespecial 3, 3) := by decide +kernel
theorem d_Un_init_4 : decode prog_7_method_1_code 4 = .ok (.aload_n 0, 1) := by decide +kernel
theorem d_Un_init_5 : decode prog_7_method_1_code 5 = .ok (.sipush 256, 3) := by decide +kernel
theorem d_Un_init_8 : decode prog_7_method_1_code 8 = .ok (.newarray .int, 2) := by decide +kernel
theorem d_Un_init_10 : decode prog_7_method_1_code 10 = .ok (.putfield 9, 3) := by decide +kernel
theorem d_Un_init_13 : decode prog_7_method_1_code 13 = .ok (.aload_n 0, 1) := by decide +kernel
theorem d_Un_init_14 : decode prog_7_method_1_code 14 = .ok (.sipush 1024, 3) := by decide +kernel
theorem d_Un_init_17 : decode prog_7_method_1_code 17 = .ok (.newarray .int, 2) := by decide +kernel
theorem d_Un_init_19 : decode prog_7_method_1_code 19 = .ok (.putfield 15, 3) := by decide +kernel
theorem d_Un_init_22 : decode prog_7_method_1_code 22 = .ok (.aload_n 0, 1) := by decide +kernel
theorem d_Un_init_23 : decode prog_7_method_1_code 23 = .ok (.sipush 5120, 3) := by decide +kernel
theorem d_Un_init_26 : decode prog_7_method_1_code 26 = .ok (.newarray .int, 2) := by decide +kernel
theorem d_Un_init_28 : decode prog_7_method_1_code 28 = .ok (.putfield 18, 3) := by decide +kernel
theorem d_Un_init_31 : decode prog_7_method_1_code 31 = .ok (.aload_n 0, 1) := by decide +kernel
theorem d_Un_init_32 : decode prog_7_method_1_code 32 = .ok (.sipush 256, 3) := by decide +kernel
theorem d_Un_init_35 : decode prog_7_method_1_code 35 = .ok (.newarray .int, 2) := by decide +kernel
theorem d_Un_init_37 : decode prog_7_method_1_code 37 = .ok (.putfield 21, 3) := by decide +kernel
theorem d_Un_init_40 : decode prog_7_method_1_code 40 = .ok (.aload_n 0, 1) := by decide +kernel
theorem d_Un_init_41 : decode prog_7_method_1_code 41 = .ok (.sipush 256, 3) := by decide +kernel
theorem d_Un_init_44 : decode prog_7_method_1_code 44 = .ok (.newarray .int, 2) := by decide +kernel
theorem d_Un_init_46 : decode prog_7_method_1_code 46 = .ok (.putfield 24, 3) := by decide +kernel
theorem d_Un_init_49 : decode prog_7_method_1_code 49 = .ok (.return_, 1) := by decide +kernel
abbrev y_Un_init : MethodName := ⟨"LoadCycles$Unmixer", "<init>", "()V"⟩
theorem mc_Un_init : miC y_Un_init prog_7_method_1_code 1 := ⟨wd_158, wd_68, wd_159, by decide, by decide, by decide +kernel⟩
def po_Un_init (Y : Yx) (h0 : Nat) (u : va_W) : Prop := ∃ q1 q2 q3 q4 q5 : Nat, u = [(h0, .inr (5, [.ref q1, .ref q2, .ref q3, .ref q4, .ref q5, .int 0])), (q1, .inl (yI Y, (256, .inl (fun _ => 0)))), (q2, .inl (yI Y, (1024, .inl (fun _ => 0)))), (q3, .inl (yI Y, (5120, .inl (fun _ => 0)))), (q4, .inl (yI Y, (256, .inl (fun _ => 0)))), (q5, .inl (yI Y, (256, .inl (fun _ => 0))))]
set_option maxHeartbeats 4000000 in
set_option maxRecDepth 20000 in
theorem k_Un_init {Y : Yx} {ws : va_W} {h0 : Nat} : MetC Y y_Un_init prog_7_method_1_code 1 1 20 5 6912 h0 ws 5 (po_Un_init Y h0) := by
  refine met_C [(0, .ref h0)] (by decide) (Nat.le_of_ble_eq_true rfl) rfl (fun X C hr hi => ?_)
  refine c_aload_n (pc := 0) C d_Un_init_0 rfl 0 rfl ?_
  refine c_objInit (pc := 1) C wd_160 wd_83 wd_84 (by decide) (by decide) d_Un_init_1 ?_
  refine c_aload_n (pc := 4) C d_Un_init_4 rfl 0 rfl ?_
  refine c_sipush (pc := 5) (v := 256) C d_Un_init_5 (by decide) ?_
  refine c_newI (pc := 8) (N := 256) 1 256 C wd_127 (by decide) (by decide) (by decide) rfl rfl (by decide) (by decide) d_Un_init_8 (fun q1 => ?_)
  refine c_putF (pc := 10) (j := 0) (k := 0) [(h0, .inr (5, [.ref q1, .null, .null, .null, .null, .int 0])), (q1, .inl (yI Y, (256, .inl (fun _ => 0))))] C hi rfl (by decide) (by decide) wd_161 rfl rfl rfl rfl (Nat.le_of_ble_eq_true rfl) rfl d_Un_init_10 ?_
  refine c_aload_n (pc := 13) C d_Un_init_13 rfl 0 rfl ?_
  refine c_sipush (pc := 14) (v := 1024) C d_Un_init_14 (by decide) ?_
  refine c_newI (pc := 17) (N := 1024) 2 1280 C wd_127 (by decide) (by decide) (by decide) rfl rfl (by decide) (by decide) d_Un_init_17 (fun q2 => ?_)
  refine c_putF (pc := 19) (j := 0) (k := 1) [(h0, .inr (5, [.ref q1, .ref q2, .null, .null, .null, .int 0])), (q1, .inl (yI Y, (256, .inl (fun _ => 0)))), (q2, .inl (yI Y, (1024, .inl (fun _ => 0))))] C hi rfl (by decide) (by decide) wd_162 rfl rfl rfl rfl (Nat.le_of_ble_eq_true rfl) rfl d_Un_init_19 ?_
  refine c_aload_n (pc := 22) C d_Un_init_22 rfl 0 rfl ?_
  refine c_sipush (pc := 23) (v := 5120) C d_Un_init_23 (by decide) ?_
  refine c_newI (pc := 26) (N := 5120) 3 6400 C wd_127 (by decide) (by decide) (by decide) rfl rfl (by decide) (by decide) d_Un_init_26 (fun q3 => ?_)
  refine c_putF (pc := 28) (j := 0) (k := 2) [(h0, .inr (5, [.ref q1, .ref q2, .ref q3, .null, .null, .int 0])), (q1, .inl (yI Y, (256, .inl (fun _ => 0)))), (q2, .inl (yI Y, (1024, .inl (fun _ => 0)))), (q3, .inl (yI Y, (5120, .inl (fun _ => 0))))] C hi rfl (by decide) (by decide) wd_163 rfl rfl rfl rfl (Nat.le_of_ble_eq_true rfl) rfl d_Un_init_28 ?_
  refine c_aload_n (pc := 31) C d_Un_init_31 rfl 0 rfl ?_
  refine c_sipush (pc := 32) (v := 256) C d_Un_init_32 (by decide) ?_
  refine c_newI (pc := 35) (N := 256) 4 6656 C wd_127 (by decide) (by decide) (by decide) rfl rfl (by decide) (by decide) d_Un_init_35 (fun q4 => ?_)
  refine c_put (pc := 37) (j := 0) (k := 3) [(h0, .inr (5, [.ref q1, .ref q2, .ref q3, .ref q4, .null, .int 0])), (q1, .inl (yI Y, (256, .inl (fun _ => 0)))), (q2, .inl (yI Y, (1024, .inl (fun _ => 0)))), (q3, .inl (yI Y, (5120, .inl (fun _ => 0)))), (q4, .inl (yI Y, (256, .inl (fun _ => 0))))] C rfl (by decide) (by decide) wd_164 rfl rfl rfl (Nat.le_of_ble_eq_true rfl) rfl d_Un_init_37 ?_
  refine c_aload_n (pc := 40) C d_Un_init_40 rfl 0 rfl ?_
  refine c_sipush (pc := 41) (v := 256) C d_Un_init_41 (by decide) ?_
  refine c_newI (pc := 44) (N := 256) 5 6912 C wd_127 (by decide) (by decide) (by decide) rfl rfl (by decide) (by decide) d_Un_init_44 (fun q5 => ?_)
  refine c_put (pc := 46) (j := 0) (k := 4) [(h0, .inr (5, [.ref q1, .ref q2, .ref q3, .ref q4, .ref q5, .int 0])), (q1, .inl (yI Y, (256, .inl (fun _ => 0)))), (q2, .inl (yI Y, (1024, .inl (fun _ => 0)))), (q3, .inl (yI Y, (5120, .inl (fun _ => 0)))), (q4, .inl (yI Y, (256, .inl (fun _ => 0)))), (q5, .inl (yI Y, (256, .inl (fun _ => 0))))] C rfl (by decide) (by decide) wd_165 rfl rfl rfl (Nat.le_of_ble_eq_true rfl) rfl d_Un_init_46 ?_
  exact c_vret (pc := 49) C hr d_Un_init_49 ⟨q1, q2, q3, q4, q5, rfl⟩
theorem d_Tr_init_0 : decode prog_6_method_1_code 0 = .ok (.aload_n 0, 1) := by decide +kernel
theorem d_Tr_init_1 : decode prog_6_method_1_code 1 = .ok (.invokespecial 3, 3) := by decide +kernel
theorem d_Tr_init_4 : decode prog_6_method_1_code 4 = .ok (.aload_n 0, 1) := by decide +kernel
theorem d_Tr_init_5 : decode prog_6_method_1_code 5 = .ok (.new 9, 3) := by decide +kernel
theorem d_Tr_init_8 : decode prog_6_method_1_code 8 = .ok (.dup, 1) := by decide +kernel
theorem d_Tr_init_9 : decode prog_6_method_1_code 9 = .ok (.invokespecial 11, 3) := by decide +kernel
theorem d_Tr_init_12 : decode prog_6_method_1_code 12 = .ok (.putfield 12, 3) := by decide +kernel
theorem d_Tr_init_15 : decode prog_6_method_1_code 15 = .ok (.return_, 1) := by decide +kernel
abbrev y_Tr_init : MethodName := ⟨"LoadCycles$TextReader", "<init>", "()V"⟩
theorem mc_Tr_init : miC y_Tr_init prog_6_method_1_code 1 := ⟨wd_183, wd_69, wd_184, by decide, by decide, by decide +kernel⟩
def po_Tr_init (Y : Yx) (h0 : Nat) (u : va_W) : Prop := ∃ q1 q2 q3 q4 q5 : Nat, u = [(h0, .inr (4, [.ref q1, .int 0])), (q1, .inr (2, [.ref q2, .ref q3, .ref q4, .ref q5, .int 0, .int 0, .int 0])), (q2, .inl (yI Y, (4, .inl (fun _ => 0)))), (q3, .inl (yI Y, (4, .inl (fun _ => 0)))), (q4, .inl (yI Y, (12, .inl (fun _ => 0)))), (q5, .inl (yI Y, (20, .inl (fun _ => 0))))]
set_option maxHeartbeats 4000000 in
set_option maxRecDepth 20000 in
theorem k_Tr_init {Y : Yx} {ws : va_W} {h0 : Nat} : MetC Y y_Tr_init prog_6_method_1_code 1 2 40 5 47 h0 ws 4 (po_Tr_init Y h0) := by
  refine met_C [(0, .ref h0)] (by decide) (Nat.le_of_ble_eq_true rfl) rfl (fun X C hr hi => ?_)
  refine c_aload_n (pc := 0) C d_Tr_init_0 rfl 0 rfl ?_
  refine c_objInit (pc := 1) C wd_185 wd_83 wd_84 (by decide) (by decide) d_Tr_init_1 ?_
  refine c_aload_n (pc := 4) C d_Tr_init_4 rfl 0 rfl ?_
  refine c_new (pc := 5) 2 1 7 C (by decide) wd_186 wd_86 wd_66 rfl rfl (by decide) (by decide) d_Tr_init_5 (fun q1 => ?_)
  refine c_dup (pc := 8) C d_Tr_init_8 rfl ?_
  refine c_callN (pc := 9) 5 47 C (k_Ho_init) mc_Ho_init rfl (List.mem_of_getElem? (i := 4) rfl) (Nat.le_of_ble_eq_true rfl) (by decide) (by decide) rfl rfl (by decide) (by decide) d_Tr_init_9 (fun u1 hu1 => ?_)
  obtain ⟨q2, q3, q4, q5, rfl⟩ := hu1
  refine c_putF (pc := 12) (j := 0) (k := 0) [(h0, .inr (4, [.ref q1, .int 0])), (q1, .inr (2, [.ref q2, .ref q3, .ref q4, .ref q5, .int 0, .int 0, .int 0])), (q2, .inl (yI Y, (4, .inl (fun _ => 0)))), (q3, .inl (yI Y, (4, .inl (fun _ => 0)))), (q4, .inl (yI Y, (12, .inl (fun _ => 0)))), (q5, .inl (yI Y, (20, .inl (fun _ => 0))))] C hi rfl (by decide) (by decide) wd_188 rfl rfl rfl rfl (Nat.le_of_ble_eq_true rfl) rfl d_Tr_init_12 ?_
  exact c_vret (pc := 15) C hr d_Tr_init_15 ⟨q1, q2, q3, q4, q5, rfl⟩
theorem d_Lc_init_0 : decode prog_1_method_1_code 0 = .ok (.aload_n 0, 1) := by decide +kernel
theorem d_Lc_init_1 : decode prog_1_method_1_code 1 = .ok (.invokespecial 3, 3) := by decide +kernel
theorem d_Lc_init_4 : decode prog_1_method_1_code 4 = .ok (.aload_n 0, 1) := by decide +kernel
theorem d_Lc_init_5 : decode prog_1_method_1_code 5 = .ok (.new 9, 3) := by decide +kernel
theorem d_Lc_init_8 : decode prog_1_method_1_code 8 = .ok (.dup, 1) := by decide +kernel
theorem d_Lc_init_9 : decode prog_1_method_1_code 9 = .ok (.invokespecial 11, 3) := by decide +kernel
theorem d_Lc_init_12 : decode prog_1_method_1_code 12 = .ok (.putfield 12, 3) := by decide +kernel
theorem d_Lc_init_15 : decode prog_1_method_1_code 15 = .ok (.aload_n 0, 1) := by decide +kernel
theorem d_Lc_init_16 : decode prog_1_method_1_code 16 = .ok (.new 9, 3) := by decide +kernel
theorem d_Lc_init_19 : decode prog_1_method_1_code 19 = .ok (.dup, 1) := by decide +kernel
theorem d_Lc_init_20 : decode prog_1_method_1_code 20 = .ok (.invokespecial 11, 3) := by decide +kernel
theorem d_Lc_init_23 : decode prog_1_method_1_code 23 = .ok (.putfield 18, 3) := by decide +kernel
theorem d_Lc_init_26 : decode prog_1_method_1_code 26 = .ok (.aload_n 0, 1) := by decide +kernel
theorem d_Lc_init_27 : decode prog_1_method_1_code 27 = .ok (.new 21, 3) := by decide +kernel
theorem d_Lc_init_30 : decode prog_1_method_1_code 30 = .ok (.dup, 1) := by decide +kernel
theorem d_Lc_init_31 : decode prog_1_method_1_code 31 = .ok (.invokespecial 23, 3) := by decide +kernel
theorem d_Lc_init_34 : decode prog_1_method_1_code 34 = .ok (.putfield 24, 3) := by decide +kernel
theorem d_Lc_init_37 : decode prog_1_method_1_code 37 = .ok (.aload_n 0, 1) := by decide +kernel
theorem d_Lc_init_38 : decode prog_1_method_1_code 38 = .ok (.new 21, 3) := by decide +kernel
theorem d_Lc_init_41 : decode prog_1_method_1_code 41 = .ok (.dup, 1) := by decide +kernel
theorem d_Lc_init_42 : decode prog_1_method_1_code 42 = .ok (.invokespecial 23, 3) := by decide +kernel
theorem d_Lc_init_45 : decode prog_1_method_1_code 45 = .ok (.putfield 28, 3) := by decide +kernel
theorem d_Lc_init_48 : decode prog_1_method_1_code 48 = .ok (.aload_n 0, 1) := by decide +kernel
theorem d_Lc_init_49 : decode prog_1_method_1_code 49 = .ok (.new 31, 3) := by decide +kernel
theorem d_Lc_init_52 : decode prog_1_method_1_code 52 = .ok (.dup, 1) := by decide +kernel
theorem d_Lc_init_53 : decode prog_1_method_1_code 53 = .ok (.invokespecial 33, 3) := by decide +kernel
theorem d_Lc_init_56 : decode prog_1_method_1_code 56 = .ok (.putfield 34, 3) := by decide +kernel
theorem d_Lc_init_59 : decode prog_1_method_1_code 59 = .ok (.aload_n 0, 1) := by decide +kernel
theorem d_Lc_init_60 : decode prog_1_method_1_code 60 = .ok (.new 38, 3) := by decide +kernel
theorem d_Lc_init_63 : decode prog_1_method_1_code 63 = .ok (.dup, 1) := by decide +kernel
theorem d_Lc_init_64 : decode prog_1_method_1_code 64 = .ok (.invokespecial 40, 3) := by decide +kernel
theorem d_Lc_init_67 : decode prog_1_method_1_code 67 = .ok (.putfield 41, 3) := by decide +kernel
theorem d_Lc_init_70 : decode prog_1_method_1_code 70 = .ok (.aload_n 0, 1) := by decide +kernel
theorem d_Lc_init_71 : decode prog_1_method_1_code 71 = .ok (.new 45, 3) := by decide +kernel
theorem d_Lc_init_74 : decode prog_1_method_1_code 74 = .ok (.dup, 1) := by decide +kernel
theorem d_Lc_init_75 : decode prog_1_method_1_code 75 = .ok (.invokespecial 47, 3) := by decide +kernel
theorem d_Lc_init_78 : decode prog_1_method_1_code 78 = .ok (.putfield 48, 3) := by decide +kernel
theorem d_Lc_init_81 : decode prog_1_method_1_code 81 = .ok (.aload_n 0, 1) := by decide +kernel
theorem d_Lc_init_82 : decode prog_1_method_1_code 82 = .ok (.iconst 4, 1) := by decide +kernel
theorem d_Lc_init_83 : decode prog_1_method_1_code 83 = .ok (.anewarray 52, 3) := by decide +kernel
theorem d_Lc_init_86 : decode prog_1_method_1_code 86 = .ok (.putfield 54, 3) := by decide +kernel
theorem d_Lc_init_89 : decode prog_1_method_1_code 89 = .ok (.aload_n 0, 1) := by decide +kernel
theorem d_Lc_init_90 : decode prog_1_method_1_code 90 = .ok (.bipush 8, 2) := by decide +kernel
theorem d_Lc_init_92 : decode prog_1_method_1_code 92 = .ok (.newarray .int, 2) := by decide +kernel
theorem d_Lc_init_94 : decode prog_1_method_1_code 94 = .ok (.putfield 58, 3) := by decide +kernel
theorem d_Lc_init_97 : decode prog_1_method_1_code 97 = .ok (.aload_n 0, 1) := by decide +kernel
theorem d_Lc_init_98 : decode prog_1_method_1_code 98 = .ok (.bipush 8, 2) := by decide +kernel
theorem d_Lc_init_100 : decode prog_1_method_1_code 100 = .ok (.newarray .int, 2) := by decide +kernel
theorem d_Lc_init_102 : decode prog_1_method_1_code 102 = .ok (.putfield 62, 3) := by decide +kernel
theorem d_Lc_init_105 : decode prog_1_method_1_code 105 = .ok (.iconst 0, 1) := by decide +kernel
theorem d_Lc_init_106 : decode prog_1_method_1_code 106 = .ok (.istore_n 1, 1) := by decide +kernel
theorem d_Lc_init_107 : decode prog_1_method_1_code 107 = .ok (.iload_n 1, 1) := by decide +kernel
theorem d_Lc_init_108 : decode prog_1_method_1_code 108 = .ok (.iconst 4, 1) := by decide +kernel
theorem d_Lc_init_109 : decode prog_1_method_1_code 109 = .ok (.if_icmp .ge 22, 3) := by decide +kernel
theorem d_Lc_init_112 : decode prog_1_method_1_code 112 = .ok (.aload_n 0, 1) := by decide +kernel
theorem d_Lc_init_113 : decode prog_1_method_1_code 113 = .ok (.getfield 54, 3) := by decide +kernel
theorem d_Lc_init_116 : decode prog_1_method_1_code 116 = .ok (.iload_n 1, 1) := by decide +kernel
theorem d_Lc_init_117 : decode prog_1_method_1_code 117 = .ok (.new 52, 3) := by decide +kernel
theorem d_Lc_init_120 : decode prog_1_method_1_code 120 = .ok (.dup, 1) := by decide +kernel
theorem d_Lc_init_121 : decode prog_1_method_1_code 121 = .ok (.invokespecial 65, 3) := by decide +kernel
theorem d_Lc_init_124 : decode prog_1_method_1_code 124 = .ok (.aastore, 1) := by decide +kernel
theorem d_Lc_init_125 : decode prog_1_method_1_code 125 = .ok (.iinc 1 1, 3) := by decide +kernel
theorem d_Lc_init_128 : decode prog_1_method_1_code 128 = .ok (.goto (-21), 3) := by decide +kernel
theorem d_Lc_init_131 : decode prog_1_method_1_code 131 = .ok (.return_, 1) := by decide +kernel
abbrev y_Lc_init : MethodName := ⟨"LoadCycles", "<init>", "()V"⟩
theorem mc_Lc_init : miC y_Lc_init prog_1_method_1_code 2 := ⟨wd_80, wd_65, wd_81, by decide, by decide, by decide +kernel⟩
def po_Lc_init (Y : Yx) (h0 : Nat) (u : va_W) : Prop := ∃ q1 q2 q3 q4 q5 q6 q7 q8 q9 q10 q11 q12 q13 q14 q15 q16 q17 q18 q19 q20 q21 q22 q23 q24 q25 q26 q27 q28 q29 q30 q31 q32 q33 q34 q35 q36 q37 q38 q39 q40 q41 q42 : Nat, u = [(h0, .inr (6, [.ref q1, .ref q6, .ref q11, .ref q14, .ref q17, .ref q23, .ref q29, .ref q32, .ref q33, .ref q34, .int 0, .int 0, .int 0, .int 0])), (q1, .inr (2, [.ref q2, .ref q3, .ref q4, .ref q5, .int 0, .int 0, .int 0])), (q2, .inl (yI Y, (4, .inl (fun _ => 0)))), (q3, .inl (yI Y, (4, .inl (fun _ => 0)))), (q4, .inl (yI Y, (12, .inl (fun _ => 0)))), (q5, .inl (yI Y, (20, .inl (fun _ => 0)))), (q6, .inr (2, [.ref q7, .ref q8, .ref q9, .ref q10, .int 0, .int 0, .int 0])), (q7, .inl (yI Y, (4, .inl (fun _ => 0)))), (q8, .inl (yI Y, (4, .inl (fun _ => 0)))), (q9, .inl (yI Y, (12, .inl (fun _ => 0)))), (q10, .inl (yI Y, (20, .inl (fun _ => 0)))), (q11, .inr (0, [.ref q12, .ref q13, .int 0, .int 0, .int 0, .int 0])), (q12, .inl (yI Y, (80, .inl (fun _ => 0)))), (q13, .inl (yI Y, (4, .inl (fun _ => 0)))), (q14, .inr (0, [.ref q15, .ref q16, .int 0, .int 0, .int 0, .int 0])), (q15, .inl (yI Y, (80, .inl (fun _ => 0)))), (q16, .inl (yI Y, (4, .inl (fun _ => 0)))), (q17, .inr (5, [.ref q18, .ref q19, .ref q20, .ref q21, .ref q22, .int 0])), (q18, .inl (yI Y, (256, .inl (fun _ => 0)))), (q19, .inl (yI Y, (1024, .inl (fun _ => 0)))), (q20, .inl (yI Y, (5120, .inl (fun _ => 0)))), (q21, .inl (yI Y, (256, .inl (fun _ => 0)))), (q22, .inl (yI Y, (256, .inl (fun _ => 0)))), (q23, .inr (4, [.ref q24, .int 0])), (q24, .inr (2, [.ref q25, .ref q26, .ref q27, .ref q28, .int 0, .int 0, .int 0])), (q25, .inl (yI Y, (4, .inl (fun _ => 0)))), (q26, .inl (yI Y, (4, .inl (fun _ => 0)))), (q27, .inl (yI Y, (12, .inl (fun _ => 0)))), (q28, .inl (yI Y, (20, .inl (fun _ => 0)))), (q29, .inr (1, [.ref q30, .ref q31])), (q30, .inl (yZ Y, (48, .inl (fun _ => 0)))), (q31, .inl (yI Y, (192, .inl (fun _ => 0)))), (q32, .inl (yS Y, (4, .inr (.inr (.inr (.inr (va_up (va_up (va_up (va_up (fun _ => none) (0 : Int32).toNatClampNeg (some q35)) (1 : Int32).toNatClampNeg (some q37)) (2 : Int32).toNatClampNeg (some q39)) (3 : Int32).toNatClampNeg (some q41)))))))), (q33, .inl (yI Y, (8, .inl (fun _ => 0)))), (q34, .inl (yI Y, (8, .inl (fun _ => 0)))), (q35, .inr (3, [.ref q36, .int 0, .int (-1)])), (q36, .inl (yI Y, (60, .inl (fun _ => 0)))), (q37, .inr (3, [.ref q38, .int 0, .int (-1)])), (q38, .inl (yI Y, (60, .inl (fun _ => 0)))), (q39, .inr (3, [.ref q40, .int 0, .int (-1)])), (q40, .inl (yI Y, (60, .inl (fun _ => 0)))), (q41, .inr (3, [.ref q42, .int 0, .int (-1)])), (q42, .inl (yI Y, (60, .inl (fun _ => 0))))]
set_option maxHeartbeats 4000000 in
set_option maxRecDepth 20000 in
theorem k_Lc_init {Y : Yx} {ws : va_W} {h0 : Nat} : MetC Y y_Lc_init prog_1_method_1_code 2 3 60 42 7755 h0 ws 6 (po_Lc_init Y h0) := by
  refine met_C [(0, .ref h0)] (by decide) (Nat.le_of_ble_eq_true rfl) rfl (fun X C hr hi => ?_)
  refine c_aload_n (pc := 0) C d_Lc_init_0 rfl 0 rfl ?_
  refine c_objInit (pc := 1) C wd_82 wd_83 wd_84 (by decide) (by decide) d_Lc_init_1 ?_
  refine c_aload_n (pc := 4) C d_Lc_init_4 rfl 0 rfl ?_
  refine c_new (pc := 5) 2 1 7 C (by decide) wd_85 wd_86 wd_66 rfl rfl (by decide) (by decide) d_Lc_init_5 (fun q1 => ?_)
  refine c_dup (pc := 8) C d_Lc_init_8 rfl ?_
  refine c_callN (pc := 9) 5 47 C (k_Ho_init) mc_Ho_init rfl (List.mem_of_getElem? (i := 0) rfl) (Nat.le_of_ble_eq_true rfl) (by decide) (by decide) rfl rfl (by decide) (by decide) d_Lc_init_9 (fun u1 hu1 => ?_)
  obtain ⟨q2, q3, q4, q5, rfl⟩ := hu1
  refine c_putF (pc := 12) (j := 0) (k := 0) [(h0, .inr (6, [.ref q1, .null, .null, .null, .null, .null, .null, .null, .null, .null, .int 0, .int 0, .int 0, .int 0])), (q1, .inr (2, [.ref q2, .ref q3, .ref q4, .ref q5, .int 0, .int 0, .int 0])), (q2, .inl (yI Y, (4, .inl (fun _ => 0)))), (q3, .inl (yI Y, (4, .inl (fun _ => 0)))), (q4, .inl (yI Y, (12, .inl (fun _ => 0)))), (q5, .inl (yI Y, (20, .inl (fun _ => 0))))] C hi rfl (by decide) (by decide) wd_230 rfl rfl rfl rfl (Nat.le_of_ble_eq_true rfl) rfl d_Lc_init_12 ?_
  refine c_aload_n (pc := 15) C d_Lc_init_15 rfl 0 rfl ?_
  refine c_new (pc := 16) 2 6 54 C (by decide) wd_85 wd_86 wd_66 rfl rfl (by decide) (by decide) d_Lc_init_16 (fun q6 => ?_)
  refine c_dup (pc := 19) C d_Lc_init_19 rfl ?_
  refine c_callN (pc := 20) 10 94 C (k_Ho_init) mc_Ho_init rfl (List.mem_of_getElem? (i := 0) rfl) (Nat.le_of_ble_eq_true rfl) (by decide) (by decide) rfl rfl (by decide) (by decide) d_Lc_init_20 (fun u1 hu1 => ?_)
  obtain ⟨q7, q8, q9, q10, rfl⟩ := hu1
  refine c_putF (pc := 23) (j := 0) (k := 1) [(h0, .inr (6, [.ref q1, .ref q6, .null, .null, .null, .null, .null, .null, .null, .null, .int 0, .int 0, .int 0, .int 0])), (q1, .inr (2, [.ref q2, .ref q3, .ref q4, .ref q5, .int 0, .int 0, .int 0])), (q2, .inl (yI Y, (4, .inl (fun _ => 0)))), (q3, .inl (yI Y, (4, .inl (fun _ => 0)))), (q4, .inl (yI Y, (12, .inl (fun _ => 0)))), (q5, .inl (yI Y, (20, .inl (fun _ => 0)))), (q6, .inr (2, [.ref q7, .ref q8, .ref q9, .ref q10, .int 0, .int 0, .int 0])), (q7, .inl (yI Y, (4, .inl (fun _ => 0)))), (q8, .inl (yI Y, (4, .inl (fun _ => 0)))), (q9, .inl (yI Y, (12, .inl (fun _ => 0)))), (q10, .inl (yI Y, (20, .inl (fun _ => 0))))] C hi rfl (by decide) (by decide) wd_231 rfl rfl rfl rfl (Nat.le_of_ble_eq_true rfl) rfl d_Lc_init_23 ?_
  refine c_aload_n (pc := 26) C d_Lc_init_26 rfl 0 rfl ?_
  refine c_new (pc := 27) 0 11 100 C (by decide) wd_128 wd_129 wd_67 rfl rfl (by decide) (by decide) d_Lc_init_27 (fun q11 => ?_)
  refine c_dup (pc := 30) C d_Lc_init_30 rfl ?_
  refine c_callN (pc := 31) 13 184 C (k_Do_init) mc_Do_init rfl (List.mem_of_getElem? (i := 1) rfl) (Nat.le_of_ble_eq_true rfl) (by decide) (by decide) rfl rfl (by decide) (by decide) d_Lc_init_31 (fun u1 hu1 => ?_)
  obtain ⟨q12, q13, rfl⟩ := hu1
  refine c_putF (pc := 34) (j := 0) (k := 2) [(h0, .inr (6, [.ref q1, .ref q6, .ref q11, .null, .null, .null, .null, .null, .null, .null, .int 0, .int 0, .int 0, .int 0])), (q1, .inr (2, [.ref q2, .ref q3, .ref q4, .ref q5, .int 0, .int 0, .int 0])), (q2, .inl (yI Y, (4, .inl (fun _ => 0)))), (q3, .inl (yI Y, (4, .inl (fun _ => 0)))), (q4, .inl (yI Y, (12, .inl (fun _ => 0)))), (q5, .inl (yI Y, (20, .inl (fun _ => 0)))), (q6, .inr (2, [.ref q7, .ref q8, .ref q9, .ref q10, .int 0, .int 0, .int 0])), (q7, .inl (yI Y, (4, .inl (fun _ => 0)))), (q8, .inl (yI Y, (4, .inl (fun _ => 0)))), (q9, .inl (yI Y, (12, .inl (fun _ => 0)))), (q10, .inl (yI Y, (20, .inl (fun _ => 0)))), (q11, .inr (0, [.ref q12, .ref q13, .int 0, .int 0, .int 0, .int 0])), (q12, .inl (yI Y, (80, .inl (fun _ => 0)))), (q13, .inl (yI Y, (4, .inl (fun _ => 0))))] C hi rfl (by decide) (by decide) wd_232 rfl rfl rfl rfl (Nat.le_of_ble_eq_true rfl) rfl d_Lc_init_34 ?_
  refine c_aload_n (pc := 37) C d_Lc_init_37 rfl 0 rfl ?_
  refine c_new (pc := 38) 0 14 190 C (by decide) wd_128 wd_129 wd_67 rfl rfl (by decide) (by decide) d_Lc_init_38 (fun q14 => ?_)
  refine c_dup (pc := 41) C d_Lc_init_41 rfl ?_
  refine c_callN (pc := 42) 16 274 C (k_Do_init) mc_Do_init rfl (List.mem_of_getElem? (i := 1) rfl) (Nat.le_of_ble_eq_true rfl) (by decide) (by decide) rfl rfl (by decide) (by decide) d_Lc_init_42 (fun u1 hu1 => ?_)
  obtain ⟨q15, q16, rfl⟩ := hu1
  refine c_putF (pc := 45) (j := 0) (k := 3) [(h0, .inr (6, [.ref q1, .ref q6, .ref q11, .ref q14, .null, .null, .null, .null, .null, .null, .int 0, .int 0, .int 0, .int 0])), (q1, .inr (2, [.ref q2, .ref q3, .ref q4, .ref q5, .int 0, .int 0, .int 0])), (q2, .inl (yI Y, (4, .inl (fun _ => 0)))), (q3, .inl (yI Y, (4, .inl (fun _ => 0)))), (q4, .inl (yI Y, (12, .inl (fun _ => 0)))), (q5, .inl (yI Y, (20, .inl (fun _ => 0)))), (q6, .inr (2, [.ref q7, .ref q8, .ref q9, .ref q10, .int 0, .int 0, .int 0])), (q7, .inl (yI Y, (4, .inl (fun _ => 0)))), (q8, .inl (yI Y, (4, .inl (fun _ => 0)))), (q9, .inl (yI Y, (12, .inl (fun _ => 0)))), (q10, .inl (yI Y, (20, .inl (fun _ => 0)))), (q11, .inr (0, [.ref q12, .ref q13, .int 0, .int 0, .int 0, .int 0])), (q12, .inl (yI Y, (80, .inl (fun _ => 0)))), (q13, .inl (yI Y, (4, .inl (fun _ => 0)))), (q14, .inr (0, [.ref q15, .ref q16, .int 0, .int 0, .int 0, .int 0])), (q15, .inl (yI Y, (80, .inl (fun _ => 0)))), (q16, .inl (yI Y, (4, .inl (fun _ => 0))))] C hi rfl (by decide) (by decide) wd_233 rfl rfl rfl rfl (Nat.le_of_ble_eq_true rfl) rfl d_Lc_init_45 ?_
  refine c_aload_n (pc := 48) C d_Lc_init_48 rfl 0 rfl ?_
  refine c_new (pc := 49) 5 17 280 C (by decide) wd_155 wd_156 wd_68 rfl rfl (by decide) (by decide) d_Lc_init_49 (fun q17 => ?_)
  refine c_dup (pc := 52) C d_Lc_init_52 rfl ?_
  refine c_callN (pc := 53) 22 7192 C (k_Un_init) mc_Un_init rfl (List.mem_of_getElem? (i := 2) rfl) (Nat.le_of_ble_eq_true rfl) (by decide) (by decide) rfl rfl (by decide) (by decide) d_Lc_init_53 (fun u1 hu1 => ?_)
  obtain ⟨q18, q19, q20, q21, q22, rfl⟩ := hu1
  refine c_putF (pc := 56) (j := 0) (k := 4) [(h0, .inr (6, [.ref q1, .ref q6, .ref q11, .ref q14, .ref q17, .null, .null, .null, .null, .null, .int 0, .int 0, .int 0, .int 0])), (q1, .inr (2, [.ref q2, .ref q3, .ref q4, .ref q5, .int 0, .int 0, .int 0])), (q2, .inl (yI Y, (4, .inl (fun _ => 0)))), (q3, .inl (yI Y, (4, .inl (fun _ => 0)))), (q4, .inl (yI Y, (12, .inl (fun _ => 0)))), (q5, .inl (yI Y, (20, .inl (fun _ => 0)))), (q6, .inr (2, [.ref q7, .ref q8, .ref q9, .ref q10, .int 0, .int 0, .int 0])), (q7, .inl (yI Y, (4, .inl (fun _ => 0)))), (q8, .inl (yI Y, (4, .inl (fun _ => 0)))), (q9, .inl (yI Y, (12, .inl (fun _ => 0)))), (q10, .inl (yI Y, (20, .inl (fun _ => 0)))), (q11, .inr (0, [.ref q12, .ref q13, .int 0, .int 0, .int 0, .int 0])), (q12, .inl (yI Y, (80, .inl (fun _ => 0)))), (q13, .inl (yI Y, (4, .inl (fun _ => 0)))), (q14, .inr (0, [.ref q15, .ref q16, .int 0, .int 0, .int 0, .int 0])), (q15, .inl (yI Y, (80, .inl (fun _ => 0)))), (q16, .inl (yI Y, (4, .inl (fun _ => 0)))), (q17, .inr (5, [.ref q18, .ref q19, .ref q20, .ref q21, .ref q22, .int 0])), (q18, .inl (yI Y, (256, .inl (fun _ => 0)))), (q19, .inl (yI Y, (1024, .inl (fun _ => 0)))), (q20, .inl (yI Y, (5120, .inl (fun _ => 0)))), (q21, .inl (yI Y, (256, .inl (fun _ => 0)))), (q22, .inl (yI Y, (256, .inl (fun _ => 0))))] C hi rfl (by decide) (by decide) wd_234 rfl rfl rfl rfl (Nat.le_of_ble_eq_true rfl) rfl d_Lc_init_56 ?_
  refine c_aload_n (pc := 59) C d_Lc_init_59 rfl 0 rfl ?_
  refine c_new (pc := 60) 4 23 7194 C (by decide) wd_180 wd_181 wd_69 rfl rfl (by decide) (by decide) d_Lc_init_60 (fun q23 => ?_)
  refine c_dup (pc := 63) C d_Lc_init_63 rfl ?_
  refine c_callN (pc := 64) 28 7241 C (k_Tr_init) mc_Tr_init rfl (List.mem_of_getElem? (i := 3) rfl) (Nat.le_of_ble_eq_true rfl) (by decide) (by decide) rfl rfl (by decide) (by decide) d_Lc_init_64 (fun u1 hu1 => ?_)
  obtain ⟨q24, q25, q26, q27, q28, rfl⟩ := hu1
  refine c_putF (pc := 67) (j := 0) (k := 5) [(h0, .inr (6, [.ref q1, .ref q6, .ref q11, .ref q14, .ref q17, .ref q23, .null, .null, .null, .null, .int 0, .int 0, .int 0, .int 0])), (q1, .inr (2, [.ref q2, .ref q3, .ref q4, .ref q5, .int 0, .int 0, .int 0])), (q2, .inl (yI Y, (4, .inl (fun _ => 0)))), (q3, .inl (yI Y, (4, .inl (fun _ => 0)))), (q4, .inl (yI Y, (12, .inl (fun _ => 0)))), (q5, .inl (yI Y, (20, .inl (fun _ => 0)))), (q6, .inr (2, [.ref q7, .ref q8, .ref q9, .ref q10, .int 0, .int 0, .int 0])), (q7, .inl (yI Y, (4, .inl (fun _ => 0)))), (q8, .inl (yI Y, (4, .inl (fun _ => 0)))), (q9, .inl (yI Y, (12, .inl (fun _ => 0)))), (q10, .inl (yI Y, (20, .inl (fun _ => 0)))), (q11, .inr (0, [.ref q12, .ref q13, .int 0, .int 0, .int 0, .int 0])), (q12, .inl (yI Y, (80, .inl (fun _ => 0)))), (q13, .inl (yI Y, (4, .inl (fun _ => 0)))), (q14, .inr (0, [.ref q15, .ref q16, .int 0, .int 0, .int 0, .int 0])), (q15, .inl (yI Y, (80, .inl (fun _ => 0)))), (q16, .inl (yI Y, (4, .inl (fun _ => 0)))), (q17, .inr (5, [.ref q18, .ref q19, .ref q20, .ref q21, .ref q22, .int 0])), (q18, .inl (yI Y, (256, .inl (fun _ => 0)))), (q19, .inl (yI Y, (1024, .inl (fun _ => 0)))), (q20, .inl (yI Y, (5120, .inl (fun _ => 0)))), (q21, .inl (yI Y, (256, .inl (fun _ => 0)))), (q22, .inl (yI Y, (256, .inl (fun _ => 0)))), (q23, .inr (4, [.ref q24, .int 0])), (q24, .inr (2, [.ref q25, .ref q26, .ref q27, .ref q28, .int 0, .int 0, .int 0])), (q25, .inl (yI Y, (4, .inl (fun _ => 0)))), (q26, .inl (yI Y, (4, .inl (fun _ => 0)))), (q27, .inl (yI Y, (12, .inl (fun _ => 0)))), (q28, .inl (yI Y, (20, .inl (fun _ => 0))))] C hi rfl (by decide) (by decide) wd_235 rfl rfl rfl rfl (Nat.le_of_ble_eq_true rfl) rfl d_Lc_init_67 ?_
  refine c_aload_n (pc := 70) C d_Lc_init_70 rfl 0 rfl ?_
  refine c_new (pc := 71) 1 29 7243 C (by decide) wd_196 wd_197 wd_70 rfl rfl (by decide) (by decide) d_Lc_init_71 (fun q29 => ?_)
  refine c_dup (pc := 74) C d_Lc_init_74 rfl ?_
  refine c_callN (pc := 75) 31 7483 C (k_Gu_init) mc_Gu_init rfl (List.mem_of_getElem? (i := 5) rfl) (Nat.le_of_ble_eq_true rfl) (by decide) (by decide) rfl rfl (by decide) (by decide) d_Lc_init_75 (fun u1 hu1 => ?_)
  obtain ⟨q30, q31, rfl⟩ := hu1
  refine c_putF (pc := 78) (j := 0) (k := 6) [(h0, .inr (6, [.ref q1, .ref q6, .ref q11, .ref q14, .ref q17, .ref q23, .ref q29, .null, .null, .null, .int 0, .int 0, .int 0, .int 0])), (q1, .inr (2, [.ref q2, .ref q3, .ref q4, .ref q5, .int 0, .int 0, .int 0])), (q2, .inl (yI Y, (4, .inl (fun _ => 0)))), (q3, .inl (yI Y, (4, .inl (fun _ => 0)))), (q4, .inl (yI Y, (12, .inl (fun _ => 0)))), (q5, .inl (yI Y, (20, .inl (fun _ => 0)))), (q6, .inr (2, [.ref q7, .ref q8, .ref q9, .ref q10, .int 0, .int 0, .int 0])), (q7, .inl (yI Y, (4, .inl (fun _ => 0)))), (q8, .inl (yI Y, (4, .inl (fun _ => 0)))), (q9, .inl (yI Y, (12, .inl (fun _ => 0)))), (q10, .inl (yI Y, (20, .inl (fun _ => 0)))), (q11, .inr (0, [.ref q12, .ref q13, .int 0, .int 0, .int 0, .int 0])), (q12, .inl (yI Y, (80, .inl (fun _ => 0)))), (q13, .inl (yI Y, (4, .inl (fun _ => 0)))), (q14, .inr (0, [.ref q15, .ref q16, .int 0, .int 0, .int 0, .int 0])), (q15, .inl (yI Y, (80, .inl (fun _ => 0)))), (q16, .inl (yI Y, (4, .inl (fun _ => 0)))), (q17, .inr (5, [.ref q18, .ref q19, .ref q20, .ref q21, .ref q22, .int 0])), (q18, .inl (yI Y, (256, .inl (fun _ => 0)))), (q19, .inl (yI Y, (1024, .inl (fun _ => 0)))), (q20, .inl (yI Y, (5120, .inl (fun _ => 0)))), (q21, .inl (yI Y, (256, .inl (fun _ => 0)))), (q22, .inl (yI Y, (256, .inl (fun _ => 0)))), (q23, .inr (4, [.ref q24, .int 0])), (q24, .inr (2, [.ref q25, .ref q26, .ref q27, .ref q28, .int 0, .int 0, .int 0])), (q25, .inl (yI Y, (4, .inl (fun _ => 0)))), (q26, .inl (yI Y, (4, .inl (fun _ => 0)))), (q27, .inl (yI Y, (12, .inl (fun _ => 0)))), (q28, .inl (yI Y, (20, .inl (fun _ => 0)))), (q29, .inr (1, [.ref q30, .ref q31])), (q30, .inl (yZ Y, (48, .inl (fun _ => 0)))), (q31, .inl (yI Y, (192, .inl (fun _ => 0))))] C hi rfl (by decide) (by decide) wd_236 rfl rfl rfl rfl (Nat.le_of_ble_eq_true rfl) rfl d_Lc_init_78 ?_
  refine c_aload_n (pc := 81) C d_Lc_init_81 rfl 0 rfl ?_
  refine c_iconst (pc := 82) (v := 4) C d_Lc_init_82 (by decide) ?_
  refine c_newS (pc := 83) (N := 4) 32 7487 C wd_210 (by decide) (by decide) (by decide) rfl rfl (by decide) (by decide) d_Lc_init_83 (fun q32 => ?_)
  refine c_putF (pc := 86) (j := 0) (k := 7) [(h0, .inr (6, [.ref q1, .ref q6, .ref q11, .ref q14, .ref q17, .ref q23, .ref q29, .ref q32, .null, .null, .int 0, .int 0, .int 0, .int 0])), (q1, .inr (2, [.ref q2, .ref q3, .ref q4, .ref q5, .int 0, .int 0, .int 0])), (q2, .inl (yI Y, (4, .inl (fun _ => 0)))), (q3, .inl (yI Y, (4, .inl (fun _ => 0)))), (q4, .inl (yI Y, (12, .inl (fun _ => 0)))), (q5, .inl (yI Y, (20, .inl (fun _ => 0)))), (q6, .inr (2, [.ref q7, .ref q8, .ref q9, .ref q10, .int 0, .int 0, .int 0])), (q7, .inl (yI Y, (4, .inl (fun _ => 0)))), (q8, .inl (yI Y, (4, .inl (fun _ => 0)))), (q9, .inl (yI Y, (12, .inl (fun _ => 0)))), (q10, .inl (yI Y, (20, .inl (fun _ => 0)))), (q11, .inr (0, [.ref q12, .ref q13, .int 0, .int 0, .int 0, .int 0])), (q12, .inl (yI Y, (80, .inl (fun _ => 0)))), (q13, .inl (yI Y, (4, .inl (fun _ => 0)))), (q14, .inr (0, [.ref q15, .ref q16, .int 0, .int 0, .int 0, .int 0])), (q15, .inl (yI Y, (80, .inl (fun _ => 0)))), (q16, .inl (yI Y, (4, .inl (fun _ => 0)))), (q17, .inr (5, [.ref q18, .ref q19, .ref q20, .ref q21, .ref q22, .int 0])), (q18, .inl (yI Y, (256, .inl (fun _ => 0)))), (q19, .inl (yI Y, (1024, .inl (fun _ => 0)))), (q20, .inl (yI Y, (5120, .inl (fun _ => 0)))), (q21, .inl (yI Y, (256, .inl (fun _ => 0)))), (q22, .inl (yI Y, (256, .inl (fun _ => 0)))), (q23, .inr (4, [.ref q24, .int 0])), (q24, .inr (2, [.ref q25, .ref q26, .ref q27, .ref q28, .int 0, .int 0, .int 0])), (q25, .inl (yI Y, (4, .inl (fun _ => 0)))), (q26, .inl (yI Y, (4, .inl (fun _ => 0)))), (q27, .inl (yI Y, (12, .inl (fun _ => 0)))), (q28, .inl (yI Y, (20, .inl (fun _ => 0)))), (q29, .inr (1, [.ref q30, .ref q31])), (q30, .inl (yZ Y, (48, .inl (fun _ => 0)))), (q31, .inl (yI Y, (192, .inl (fun _ => 0)))), (q32, .inl (yS Y, (4, .inr (.inr (.inr (.inr (fun _ => none)))))))] C hi rfl (by decide) (by decide) wd_237 rfl rfl rfl rfl (Nat.le_of_ble_eq_true rfl) rfl d_Lc_init_86 ?_
  refine c_aload_n (pc := 89) C d_Lc_init_89 rfl 0 rfl ?_
  refine c_bipush (pc := 90) (v := 8) C d_Lc_init_90 (by decide) ?_
  refine c_newI (pc := 92) (N := 8) 33 7495 C wd_127 (by decide) (by decide) (by decide) rfl rfl (by decide) (by decide) d_Lc_init_92 (fun q33 => ?_)
  refine c_putF (pc := 94) (j := 0) (k := 8) [(h0, .inr (6, [.ref q1, .ref q6, .ref q11, .ref q14, .ref q17, .ref q23, .ref q29, .ref q32, .ref q33, .null, .int 0, .int 0, .int 0, .int 0])), (q1, .inr (2, [.ref q2, .ref q3, .ref q4, .ref q5, .int 0, .int 0, .int 0])), (q2, .inl (yI Y, (4, .inl (fun _ => 0)))), (q3, .inl (yI Y, (4, .inl (fun _ => 0)))), (q4, .inl (yI Y, (12, .inl (fun _ => 0)))), (q5, .inl (yI Y, (20, .inl (fun _ => 0)))), (q6, .inr (2, [.ref q7, .ref q8, .ref q9, .ref q10, .int 0, .int 0, .int 0])), (q7, .inl (yI Y, (4, .inl (fun _ => 0)))), (q8, .inl (yI Y, (4, .inl (fun _ => 0)))), (q9, .inl (yI Y, (12, .inl (fun _ => 0)))), (q10, .inl (yI Y, (20, .inl (fun _ => 0)))), (q11, .inr (0, [.ref q12, .ref q13, .int 0, .int 0, .int 0, .int 0])), (q12, .inl (yI Y, (80, .inl (fun _ => 0)))), (q13, .inl (yI Y, (4, .inl (fun _ => 0)))), (q14, .inr (0, [.ref q15, .ref q16, .int 0, .int 0, .int 0, .int 0])), (q15, .inl (yI Y, (80, .inl (fun _ => 0)))), (q16, .inl (yI Y, (4, .inl (fun _ => 0)))), (q17, .inr (5, [.ref q18, .ref q19, .ref q20, .ref q21, .ref q22, .int 0])), (q18, .inl (yI Y, (256, .inl (fun _ => 0)))), (q19, .inl (yI Y, (1024, .inl (fun _ => 0)))), (q20, .inl (yI Y, (5120, .inl (fun _ => 0)))), (q21, .inl (yI Y, (256, .inl (fun _ => 0)))), (q22, .inl (yI Y, (256, .inl (fun _ => 0)))), (q23, .inr (4, [.ref q24, .int 0])), (q24, .inr (2, [.ref q25, .ref q26, .ref q27, .ref q28, .int 0, .int 0, .int 0])), (q25, .inl (yI Y, (4, .inl (fun _ => 0)))), (q26, .inl (yI Y, (4, .inl (fun _ => 0)))), (q27, .inl (yI Y, (12, .inl (fun _ => 0)))), (q28, .inl (yI Y, (20, .inl (fun _ => 0)))), (q29, .inr (1, [.ref q30, .ref q31])), (q30, .inl (yZ Y, (48, .inl (fun _ => 0)))), (q31, .inl (yI Y, (192, .inl (fun _ => 0)))), (q32, .inl (yS Y, (4, .inr (.inr (.inr (.inr (fun _ => none))))))), (q33, .inl (yI Y, (8, .inl (fun _ => 0))))] C hi rfl (by decide) (by decide) wd_238 rfl rfl rfl rfl (Nat.le_of_ble_eq_true rfl) rfl d_Lc_init_94 ?_
  refine c_aload_n (pc := 97) C d_Lc_init_97 rfl 0 rfl ?_
  refine c_bipush (pc := 98) (v := 8) C d_Lc_init_98 (by decide) ?_
  refine c_newI (pc := 100) (N := 8) 34 7503 C wd_127 (by decide) (by decide) (by decide) rfl rfl (by decide) (by decide) d_Lc_init_100 (fun q34 => ?_)
  refine c_putF (pc := 102) (j := 0) (k := 9) [(h0, .inr (6, [.ref q1, .ref q6, .ref q11, .ref q14, .ref q17, .ref q23, .ref q29, .ref q32, .ref q33, .ref q34, .int 0, .int 0, .int 0, .int 0])), (q1, .inr (2, [.ref q2, .ref q3, .ref q4, .ref q5, .int 0, .int 0, .int 0])), (q2, .inl (yI Y, (4, .inl (fun _ => 0)))), (q3, .inl (yI Y, (4, .inl (fun _ => 0)))), (q4, .inl (yI Y, (12, .inl (fun _ => 0)))), (q5, .inl (yI Y, (20, .inl (fun _ => 0)))), (q6, .inr (2, [.ref q7, .ref q8, .ref q9, .ref q10, .int 0, .int 0, .int 0])), (q7, .inl (yI Y, (4, .inl (fun _ => 0)))), (q8, .inl (yI Y, (4, .inl (fun _ => 0)))), (q9, .inl (yI Y, (12, .inl (fun _ => 0)))), (q10, .inl (yI Y, (20, .inl (fun _ => 0)))), (q11, .inr (0, [.ref q12, .ref q13, .int 0, .int 0, .int 0, .int 0])), (q12, .inl (yI Y, (80, .inl (fun _ => 0)))), (q13, .inl (yI Y, (4, .inl (fun _ => 0)))), (q14, .inr (0, [.ref q15, .ref q16, .int 0, .int 0, .int 0, .int 0])), (q15, .inl (yI Y, (80, .inl (fun _ => 0)))), (q16, .inl (yI Y, (4, .inl (fun _ => 0)))), (q17, .inr (5, [.ref q18, .ref q19, .ref q20, .ref q21, .ref q22, .int 0])), (q18, .inl (yI Y, (256, .inl (fun _ => 0)))), (q19, .inl (yI Y, (1024, .inl (fun _ => 0)))), (q20, .inl (yI Y, (5120, .inl (fun _ => 0)))), (q21, .inl (yI Y, (256, .inl (fun _ => 0)))), (q22, .inl (yI Y, (256, .inl (fun _ => 0)))), (q23, .inr (4, [.ref q24, .int 0])), (q24, .inr (2, [.ref q25, .ref q26, .ref q27, .ref q28, .int 0, .int 0, .int 0])), (q25, .inl (yI Y, (4, .inl (fun _ => 0)))), (q26, .inl (yI Y, (4, .inl (fun _ => 0)))), (q27, .inl (yI Y, (12, .inl (fun _ => 0)))), (q28, .inl (yI Y, (20, .inl (fun _ => 0)))), (q29, .inr (1, [.ref q30, .ref q31])), (q30, .inl (yZ Y, (48, .inl (fun _ => 0)))), (q31, .inl (yI Y, (192, .inl (fun _ => 0)))), (q32, .inl (yS Y, (4, .inr (.inr (.inr (.inr (fun _ => none))))))), (q33, .inl (yI Y, (8, .inl (fun _ => 0)))), (q34, .inl (yI Y, (8, .inl (fun _ => 0))))] C hi rfl (by decide) (by decide) wd_239 rfl rfl rfl rfl (Nat.le_of_ble_eq_true rfl) rfl d_Lc_init_102 ?_
  refine c_iconst (pc := 105) (v := 0) C d_Lc_init_105 (by decide) ?_
  refine c_istore_n (pc := 106) [(1, .int 0), (0, .ref h0)] C d_Lc_init_106 rfl (by decide) rfl ?_
  refine c_iload_n (pc := 107) C d_Lc_init_107 rfl 0 rfl ?_
  refine c_iconst (pc := 108) (v := 4) C d_Lc_init_108 (by decide) ?_
  refine c_icmp_ge (pc := 109) 131 C d_Lc_init_109 (by decide) (fun hc => absurd hc (by decide)) (fun _ => ?_)
  refine c_aload_n (pc := 112) C d_Lc_init_112 rfl 1 rfl ?_
  refine c_get (pc := 113) (j := 0) (k := 7) C rfl (by decide) (by decide) wd_237 rfl d_Lc_init_113 ?_
  refine c_iload_n (pc := 116) C d_Lc_init_116 rfl 0 rfl ?_
  refine c_new (pc := 117) 3 35 7506 C (by decide) wd_210 wd_212 wd_71 rfl rfl (by decide) (by decide) d_Lc_init_117 (fun q35 => ?_)
  refine c_dup (pc := 120) C d_Lc_init_120 rfl ?_
  refine c_callN (pc := 121) 36 7566 C (k_Sh_init) mc_Sh_init rfl (List.mem_of_getElem? (i := 6) rfl) (Nat.le_of_ble_eq_true rfl) (by decide) (by decide) rfl rfl (by decide) (by decide) d_Lc_init_121 (fun u1 hu1 => ?_)
  obtain ⟨q36, rfl⟩ := hu1
  refine c_aast (pc := 124) (j := 32) (jv := 35) [(h0, .inr (6, [.ref q1, .ref q6, .ref q11, .ref q14, .ref q17, .ref q23, .ref q29, .ref q32, .ref q33, .ref q34, .int 0, .int 0, .int 0, .int 0])), (q1, .inr (2, [.ref q2, .ref q3, .ref q4, .ref q5, .int 0, .int 0, .int 0])), (q2, .inl (yI Y, (4, .inl (fun _ => 0)))), (q3, .inl (yI Y, (4, .inl (fun _ => 0)))), (q4, .inl (yI Y, (12, .inl (fun _ => 0)))), (q5, .inl (yI Y, (20, .inl (fun _ => 0)))), (q6, .inr (2, [.ref q7, .ref q8, .ref q9, .ref q10, .int 0, .int 0, .int 0])), (q7, .inl (yI Y, (4, .inl (fun _ => 0)))), (q8, .inl (yI Y, (4, .inl (fun _ => 0)))), (q9, .inl (yI Y, (12, .inl (fun _ => 0)))), (q10, .inl (yI Y, (20, .inl (fun _ => 0)))), (q11, .inr (0, [.ref q12, .ref q13, .int 0, .int 0, .int 0, .int 0])), (q12, .inl (yI Y, (80, .inl (fun _ => 0)))), (q13, .inl (yI Y, (4, .inl (fun _ => 0)))), (q14, .inr (0, [.ref q15, .ref q16, .int 0, .int 0, .int 0, .int 0])), (q15, .inl (yI Y, (80, .inl (fun _ => 0)))), (q16, .inl (yI Y, (4, .inl (fun _ => 0)))), (q17, .inr (5, [.ref q18, .ref q19, .ref q20, .ref q21, .ref q22, .int 0])), (q18, .inl (yI Y, (256, .inl (fun _ => 0)))), (q19, .inl (yI Y, (1024, .inl (fun _ => 0)))), (q20, .inl (yI Y, (5120, .inl (fun _ => 0)))), (q21, .inl (yI Y, (256, .inl (fun _ => 0)))), (q22, .inl (yI Y, (256, .inl (fun _ => 0)))), (q23, .inr (4, [.ref q24, .int 0])), (q24, .inr (2, [.ref q25, .ref q26, .ref q27, .ref q28, .int 0, .int 0, .int 0])), (q25, .inl (yI Y, (4, .inl (fun _ => 0)))), (q26, .inl (yI Y, (4, .inl (fun _ => 0)))), (q27, .inl (yI Y, (12, .inl (fun _ => 0)))), (q28, .inl (yI Y, (20, .inl (fun _ => 0)))), (q29, .inr (1, [.ref q30, .ref q31])), (q30, .inl (yZ Y, (48, .inl (fun _ => 0)))), (q31, .inl (yI Y, (192, .inl (fun _ => 0)))), (q32, .inl (yS Y, (4, .inr (.inr (.inr (.inr (va_up (fun _ => none) (0 : Int32).toNatClampNeg (some q35)))))))), (q33, .inl (yI Y, (8, .inl (fun _ => 0)))), (q34, .inl (yI Y, (8, .inl (fun _ => 0)))), (q35, .inr (3, [.ref q36, .int 0, .int (-1)])), (q36, .inl (yI Y, (60, .inl (fun _ => 0))))] C rfl rfl (by unfold vp_in; decide) rfl d_Lc_init_124 ?_
  refine c_iinc (pc := 125) 1 [(1, .int 1), (0, .ref h0)] C d_Lc_init_125 0 rfl (by decide) (by decide) rfl ?_
  refine c_goto (pc := 128) 107 C d_Lc_init_128 (by decide) ?_
  refine c_iload_n (pc := 107) C d_Lc_init_107 rfl 0 rfl ?_
  refine c_iconst (pc := 108) (v := 4) C d_Lc_init_108 (by decide) ?_
  refine c_icmp_ge (pc := 109) 131 C d_Lc_init_109 (by decide) (fun hc => absurd hc (by decide)) (fun _ => ?_)
  refine c_aload_n (pc := 112) C d_Lc_init_112 rfl 1 rfl ?_
  refine c_get (pc := 113) (j := 0) (k := 7) C rfl (by decide) (by decide) wd_237 rfl d_Lc_init_113 ?_
  refine c_iload_n (pc := 116) C d_Lc_init_116 rfl 0 rfl ?_
  refine c_new (pc := 117) 3 37 7569 C (by decide) wd_210 wd_212 wd_71 rfl rfl (by decide) (by decide) d_Lc_init_117 (fun q37 => ?_)
  refine c_dup (pc := 120) C d_Lc_init_120 rfl ?_
  refine c_callN (pc := 121) 38 7629 C (k_Sh_init) mc_Sh_init rfl (List.mem_of_getElem? (i := 6) rfl) (Nat.le_of_ble_eq_true rfl) (by decide) (by decide) rfl rfl (by decide) (by decide) d_Lc_init_121 (fun u1 hu1 => ?_)
  obtain ⟨q38, rfl⟩ := hu1
  refine c_aast (pc := 124) (j := 32) (jv := 37) [(h0, .inr (6, [.ref q1, .ref q6, .ref q11, .ref q14, .ref q17, .ref q23, .ref q29, .ref q32, .ref q33, .ref q34, .int 0, .int 0, .int 0, .int 0])), (q1, .inr (2, [.ref q2, .ref q3, .ref q4, .ref q5, .int 0, .int 0, .int 0])), (q2, .inl (yI Y, (4, .inl (fun _ => 0)))), (q3, .inl (yI Y, (4, .inl (fun _ => 0)))), (q4, .inl (yI Y, (12, .inl (fun _ => 0)))), (q5, .inl (yI Y, (20, .inl (fun _ => 0)))), (q6, .inr (2, [.ref q7, .ref q8, .ref q9, .ref q10, .int 0, .int 0, .int 0])), (q7, .inl (yI Y, (4, .inl (fun _ => 0)))), (q8, .inl (yI Y, (4, .inl (fun _ => 0)))), (q9, .inl (yI Y, (12, .inl (fun _ => 0)))), (q10, .inl (yI Y, (20, .inl (fun _ => 0)))), (q11, .inr (0, [.ref q12, .ref q13, .int 0, .int 0, .int 0, .int 0])), (q12, .inl (yI Y, (80, .inl (fun _ => 0)))), (q13, .inl (yI Y, (4, .inl (fun _ => 0)))), (q14, .inr (0, [.ref q15, .ref q16, .int 0, .int 0, .int 0, .int 0])), (q15, .inl (yI Y, (80, .inl (fun _ => 0)))), (q16, .inl (yI Y, (4, .inl (fun _ => 0)))), (q17, .inr (5, [.ref q18, .ref q19, .ref q20, .ref q21, .ref q22, .int 0])), (q18, .inl (yI Y, (256, .inl (fun _ => 0)))), (q19, .inl (yI Y, (1024, .inl (fun _ => 0)))), (q20, .inl (yI Y, (5120, .inl (fun _ => 0)))), (q21, .inl (yI Y, (256, .inl (fun _ => 0)))), (q22, .inl (yI Y, (256, .inl (fun _ => 0)))), (q23, .inr (4, [.ref q24, .int 0])), (q24, .inr (2, [.ref q25, .ref q26, .ref q27, .ref q28, .int 0, .int 0, .int 0])), (q25, .inl (yI Y, (4, .inl (fun _ => 0)))), (q26, .inl (yI Y, (4, .inl (fun _ => 0)))), (q27, .inl (yI Y, (12, .inl (fun _ => 0)))), (q28, .inl (yI Y, (20, .inl (fun _ => 0)))), (q29, .inr (1, [.ref q30, .ref q31])), (q30, .inl (yZ Y, (48, .inl (fun _ => 0)))), (q31, .inl (yI Y, (192, .inl (fun _ => 0)))), (q32, .inl (yS Y, (4, .inr (.inr (.inr (.inr (va_up (va_up (fun _ => none) (0 : Int32).toNatClampNeg (some q35)) (1 : Int32).toNatClampNeg (some q37)))))))), (q33, .inl (yI Y, (8, .inl (fun _ => 0)))), (q34, .inl (yI Y, (8, .inl (fun _ => 0)))), (q35, .inr (3, [.ref q36, .int 0, .int (-1)])), (q36, .inl (yI Y, (60, .inl (fun _ => 0)))), (q37, .inr (3, [.ref q38, .int 0, .int (-1)])), (q38, .inl (yI Y, (60, .inl (fun _ => 0))))] C rfl rfl (by unfold vp_in; decide) rfl d_Lc_init_124 ?_
  refine c_iinc (pc := 125) 2 [(1, .int 2), (0, .ref h0)] C d_Lc_init_125 0 rfl (by decide) (by decide) rfl ?_
  refine c_goto (pc := 128) 107 C d_Lc_init_128 (by decide) ?_
  refine c_iload_n (pc := 107) C d_Lc_init_107 rfl 0 rfl ?_
  refine c_iconst (pc := 108) (v := 4) C d_Lc_init_108 (by decide) ?_
  refine c_icmp_ge (pc := 109) 131 C d_Lc_init_109 (by decide) (fun hc => absurd hc (by decide)) (fun _ => ?_)
  refine c_aload_n (pc := 112) C d_Lc_init_112 rfl 1 rfl ?_
  refine c_get (pc := 113) (j := 0) (k := 7) C rfl (by decide) (by decide) wd_237 rfl d_Lc_init_113 ?_
  refine c_iload_n (pc := 116) C d_Lc_init_116 rfl 0 rfl ?_
  refine c_new (pc := 117) 3 39 7632 C (by decide) wd_210 wd_212 wd_71 rfl rfl (by decide) (by decide) d_Lc_init_117 (fun q39 => ?_)
  refine c_dup (pc := 120) C d_Lc_init_120 rfl ?_
  refine c_callN (pc := 121) 40 7692 C (k_Sh_init) mc_Sh_init rfl (List.mem_of_getElem? (i := 6) rfl) (Nat.le_of_ble_eq_true rfl) (by decide) (by decide) rfl rfl (by decide) (by decide) d_Lc_init_121 (fun u1 hu1 => ?_)
  obtain ⟨q40, rfl⟩ := hu1
  refine c_aast (pc := 124) (j := 32) (jv := 39) [(h0, .inr (6, [.ref q1, .ref q6, .ref q11, .ref q14, .ref q17, .ref q23, .ref q29, .ref q32, .ref q33, .ref q34, .int 0, .int 0, .int 0, .int 0])), (q1, .inr (2, [.ref q2, .ref q3, .ref q4, .ref q5, .int 0, .int 0, .int 0])), (q2, .inl (yI Y, (4, .inl (fun _ => 0)))), (q3, .inl (yI Y, (4, .inl (fun _ => 0)))), (q4, .inl (yI Y, (12, .inl (fun _ => 0)))), (q5, .inl (yI Y, (20, .inl (fun _ => 0)))), (q6, .inr (2, [.ref q7, .ref q8, .ref q9, .ref q10, .int 0, .int 0, .int 0])), (q7, .inl (yI Y, (4, .inl (fun _ => 0)))), (q8, .inl (yI Y, (4, .inl (fun _ => 0)))), (q9, .inl (yI Y, (12, .inl (fun _ => 0)))), (q10, .inl (yI Y, (20, .inl (fun _ => 0)))), (q11, .inr (0, [.ref q12, .ref q13, .int 0, .int 0, .int 0, .int 0])), (q12, .inl (yI Y, (80, .inl (fun _ => 0)))), (q13, .inl (yI Y, (4, .inl (fun _ => 0)))), (q14, .inr (0, [.ref q15, .ref q16, .int 0, .int 0, .int 0, .int 0])), (q15, .inl (yI Y, (80, .inl (fun _ => 0)))), (q16, .inl (yI Y, (4, .inl (fun _ => 0)))), (q17, .inr (5, [.ref q18, .ref q19, .ref q20, .ref q21, .ref q22, .int 0])), (q18, .inl (yI Y, (256, .inl (fun _ => 0)))), (q19, .inl (yI Y, (1024, .inl (fun _ => 0)))), (q20, .inl (yI Y, (5120, .inl (fun _ => 0)))), (q21, .inl (yI Y, (256, .inl (fun _ => 0)))), (q22, .inl (yI Y, (256, .inl (fun _ => 0)))), (q23, .inr (4, [.ref q24, .int 0])), (q24, .inr (2, [.ref q25, .ref q26, .ref q27, .ref q28, .int 0, .int 0, .int 0])), (q25, .inl (yI Y, (4, .inl (fun _ => 0)))), (q26, .inl (yI Y, (4, .inl (fun _ => 0)))), (q27, .inl (yI Y, (12, .inl (fun _ => 0)))), (q28, .inl (yI Y, (20, .inl (fun _ => 0)))), (q29, .inr (1, [.ref q30, .ref q31])), (q30, .inl (yZ Y, (48, .inl (fun _ => 0)))), (q31, .inl (yI Y, (192, .inl (fun _ => 0)))), (q32, .inl (yS Y, (4, .inr (.inr (.inr (.inr (va_up (va_up (va_up (fun _ => none) (0 : Int32).toNatClampNeg (some q35)) (1 : Int32).toNatClampNeg (some q37)) (2 : Int32).toNatClampNeg (some q39)))))))), (q33, .inl (yI Y, (8, .inl (fun _ => 0)))), (q34, .inl (yI Y, (8, .inl (fun _ => 0)))), (q35, .inr (3, [.ref q36, .int 0, .int (-1)])), (q36, .inl (yI Y, (60, .inl (fun _ => 0)))), (q37, .inr (3, [.ref q38, .int 0, .int (-1)])), (q38, .inl (yI Y, (60, .inl (fun _ => 0)))), (q39, .inr (3, [.ref q40, .int 0, .int (-1)])), (q40, .inl (yI Y, (60, .inl (fun _ => 0))))] C rfl rfl (by unfold vp_in; decide) rfl d_Lc_init_124 ?_
  refine c_iinc (pc := 125) 3 [(1, .int 3), (0, .ref h0)] C d_Lc_init_125 0 rfl (by decide) (by decide) rfl ?_
  refine c_goto (pc := 128) 107 C d_Lc_init_128 (by decide) ?_
  refine c_iload_n (pc := 107) C d_Lc_init_107 rfl 0 rfl ?_
  refine c_iconst (pc := 108) (v := 4) C d_Lc_init_108 (by decide) ?_
  refine c_icmp_ge (pc := 109) 131 C d_Lc_init_109 (by decide) (fun hc => absurd hc (by decide)) (fun _ => ?_)
  refine c_aload_n (pc := 112) C d_Lc_init_112 rfl 1 rfl ?_
  refine c_get (pc := 113) (j := 0) (k := 7) C rfl (by decide) (by decide) wd_237 rfl d_Lc_init_113 ?_
  refine c_iload_n (pc := 116) C d_Lc_init_116 rfl 0 rfl ?_
  refine c_new (pc := 117) 3 41 7695 C (by decide) wd_210 wd_212 wd_71 rfl rfl (by decide) (by decide) d_Lc_init_117 (fun q41 => ?_)
  refine c_dup (pc := 120) C d_Lc_init_120 rfl ?_
  refine c_callN (pc := 121) 42 7755 C (k_Sh_init) mc_Sh_init rfl (List.mem_of_getElem? (i := 6) rfl) (Nat.le_of_ble_eq_true rfl) (by decide) (by decide) rfl rfl (by decide) (by decide) d_Lc_init_121 (fun u1 hu1 => ?_)
  obtain ⟨q42, rfl⟩ := hu1
  refine c_aast (pc := 124) (j := 32) (jv := 41) [(h0, .inr (6, [.ref q1, .ref q6, .ref q11, .ref q14, .ref q17, .ref q23, .ref q29, .ref q32, .ref q33, .ref q34, .int 0, .int 0, .int 0, .int 0])), (q1, .inr (2, [.ref q2, .ref q3, .ref q4, .ref q5, .int 0, .int 0, .int 0])), (q2, .inl (yI Y, (4, .inl (fun _ => 0)))), (q3, .inl (yI Y, (4, .inl (fun _ => 0)))), (q4, .inl (yI Y, (12, .inl (fun _ => 0)))), (q5, .inl (yI Y, (20, .inl (fun _ => 0)))), (q6, .inr (2, [.ref q7, .ref q8, .ref q9, .ref q10, .int 0, .int 0, .int 0])), (q7, .inl (yI Y, (4, .inl (fun _ => 0)))), (q8, .inl (yI Y, (4, .inl (fun _ => 0)))), (q9, .inl (yI Y, (12, .inl (fun _ => 0)))), (q10, .inl (yI Y, (20, .inl (fun _ => 0)))), (q11, .inr (0, [.ref q12, .ref q13, .int 0, .int 0, .int 0, .int 0])), (q12, .inl (yI Y, (80, .inl (fun _ => 0)))), (q13, .inl (yI Y, (4, .inl (fun _ => 0)))), (q14, .inr (0, [.ref q15, .ref q16, .int 0, .int 0, .int 0, .int 0])), (q15, .inl (yI Y, (80, .inl (fun _ => 0)))), (q16, .inl (yI Y, (4, .inl (fun _ => 0)))), (q17, .inr (5, [.ref q18, .ref q19, .ref q20, .ref q21, .ref q22, .int 0])), (q18, .inl (yI Y, (256, .inl (fun _ => 0)))), (q19, .inl (yI Y, (1024, .inl (fun _ => 0)))), (q20, .inl (yI Y, (5120, .inl (fun _ => 0)))), (q21, .inl (yI Y, (256, .inl (fun _ => 0)))), (q22, .inl (yI Y, (256, .inl (fun _ => 0)))), (q23, .inr (4, [.ref q24, .int 0])), (q24, .inr (2, [.ref q25, .ref q26, .ref q27, .ref q28, .int 0, .int 0, .int 0])), (q25, .inl (yI Y, (4, .inl (fun _ => 0)))), (q26, .inl (yI Y, (4, .inl (fun _ => 0)))), (q27, .inl (yI Y, (12, .inl (fun _ => 0)))), (q28, .inl (yI Y, (20, .inl (fun _ => 0)))), (q29, .inr (1, [.ref q30, .ref q31])), (q30, .inl (yZ Y, (48, .inl (fun _ => 0)))), (q31, .inl (yI Y, (192, .inl (fun _ => 0)))), (q32, .inl (yS Y, (4, .inr (.inr (.inr (.inr (va_up (va_up (va_up (va_up (fun _ => none) (0 : Int32).toNatClampNeg (some q35)) (1 : Int32).toNatClampNeg (some q37)) (2 : Int32).toNatClampNeg (some q39)) (3 : Int32).toNatClampNeg (some q41)))))))), (q33, .inl (yI Y, (8, .inl (fun _ => 0)))), (q34, .inl (yI Y, (8, .inl (fun _ => 0)))), (q35, .inr (3, [.ref q36, .int 0, .int (-1)])), (q36, .inl (yI Y, (60, .inl (fun _ => 0)))), (q37, .inr (3, [.ref q38, .int 0, .int (-1)])), (q38, .inl (yI Y, (60, .inl (fun _ => 0)))), (q39, .inr (3, [.ref q40, .int 0, .int (-1)])), (q40, .inl (yI Y, (60, .inl (fun _ => 0)))), (q41, .inr (3, [.ref q42, .int 0, .int (-1)])), (q42, .inl (yI Y, (60, .inl (fun _ => 0))))] C rfl rfl (by unfold vp_in; decide) rfl d_Lc_init_124 ?_
  refine c_iinc (pc := 125) 4 [(1, .int 4), (0, .ref h0)] C d_Lc_init_125 0 rfl (by decide) (by decide) rfl ?_
  refine c_goto (pc := 128) 107 C d_Lc_init_128 (by decide) ?_
  refine c_iload_n (pc := 107) C d_Lc_init_107 rfl 0 rfl ?_
  refine c_iconst (pc := 108) (v := 4) C d_Lc_init_108 (by decide) ?_
  refine c_icmp_ge (pc := 109) 131 C d_Lc_init_109 (by decide) (fun _ => ?_) (fun hc => absurd (by decide) hc)
  exact c_vret (pc := 131) C hr d_Lc_init_131 ⟨q1, q2, q3, q4, q5, q6, q7, q8, q9, q10, q11, q12, q13, q14, q15, q16, q17, q18, q19, q20, q21, q22, q23, q24, q25, q26, q27, q28, q29, q30, q31, q32, q33, q34, q35, q36, q37, q38, q39, q40, q41, q42, rfl⟩
theorem d_Md_init_0 : decode prog_9_method_1_code 0 = .ok (.aload_n 0, 1) := by decide +kernel
theorem d_Md_init_1 : decode prog_9_method_1_code 1 = .ok (.invokespecial 1, 3) := by decide +kernel
theorem d_Md_init_4 : decode prog_9_method_1_code 4 = .ok (.aload_n 0, 1) := by decide +kernel
theorem d_Md_init_5 : decode prog_9_method_1_code 5 = .ok (.iconst 4, 1) := by decide +kernel
theorem d_Md_init_6 : decode prog_9_method_1_code 6 = .ok (.newarray .int, 2) := by decide +kernel
theorem d_Md_init_8 : decode prog_9_method_1_code 8 = .ok (.dup, 1) := by decide +kernel
theorem d_Md_init_9 : decode prog_9_method_1_code 9 = .ok (.iconst 0, 1) := by decide +kernel
theorem d_Md_init_10 : decode prog_9_method_1_code 10 = .ok (.bipush (-9), 2) := by decide +kernel
theorem d_Md_init_12 : decode prog_9_method_1_code 12 = .ok (.iastore, 1) := by decide +kernel
theorem d_Md_init_13 : decode prog_9_method_1_code 13 = .ok (.dup, 1) := by decide +kernel
theorem d_Md_init_14 : decode prog_9_method_1_code 14 = .ok (.iconst 1, 1) := by decide +kernel
theorem d_Md_init_15 : decode prog_9_method_1_code 15 = .ok (.bipush (-9), 2) := by decide +kernel
theorem d_Md_init_17 : decode prog_9_method_1_code 17 = .ok (.iastore, 1) := by decide +kernel
theorem d_Md_init_18 : decode prog_9_method_1_code 18 = .ok (.dup, 1) := by decide +kernel
theorem d_Md_init_19 : decode prog_9_method_1_code 19 = .ok (.iconst 2, 1) := by decide +kernel
theorem d_Md_init_20 : decode prog_9_method_1_code 20 = .ok (.bipush (-9), 2) := by decide +kernel
theorem d_Md_init_22 : decode prog_9_method_1_code 22 = .ok (.iastore, 1) := by decide +kernel
theorem d_Md_init_23 : decode prog_9_method_1_code 23 = .ok (.dup, 1) := by decide +kernel
theorem d_Md_init_24 : decode prog_9_method_1_code 24 = .ok (.iconst 3, 1) := by decide +kernel
theorem d_Md_init_25 : decode prog_9_method_1_code 25 = .ok (.bipush (-9), 2) := by decide +kernel
theorem d_Md_init_27 : decode prog_9_method_1_code 27 = .ok (.iastore, 1) := by decide +kernel
theorem d_Md_init_28 : decode prog_9_method_1_code 28 = .ok (.putfield 9, 3) := by decide +kernel
theorem d_Md_init_31 : decode prog_9_method_1_code 31 = .ok (.aload_n 0, 1) := by decide +kernel
theorem d_Md_init_32 : decode prog_9_method_1_code 32 = .ok (.iconst 4, 1) := by decide +kernel
theorem d_Md_init_33 : decode prog_9_method_1_code 33 = .ok (.newarray .int, 2) := by decide +kernel
theorem d_Md_init_35 : decode prog_9_method_1_code 35 = .ok (.putfield 13, 3) := by decide +kernel
theorem d_Md_init_38 : decode prog_9_method_1_code 38 = .ok (.aload_n 0, 1) := by decide +kernel
theorem d_Md_init_39 : decode prog_9_method_1_code 39 = .ok (.sipush 240, 3) := by decide +kernel
theorem d_Md_init_42 : decode prog_9_method_1_code 42 = .ok (.newarray .int, 2) := by decide +kernel
theorem d_Md_init_44 : decode prog_9_method_1_code 44 = .ok (.putfield 16, 3) := by decide +kernel
theorem d_Md_init_47 : decode prog_9_method_1_code 47 = .ok (.aload_n 0, 1) := by decide +kernel
theorem d_Md_init_48 : decode prog_9_method_1_code 48 = .ok (.iconst 4, 1) := by decide +kernel
theorem d_Md_init_49 : decode prog_9_method_1_code 49 = .ok (.newarray .int, 2) := by decide +kernel
theorem d_Md_init_51 : decode prog_9_method_1_code 51 = .ok (.putfield 19, 3) := by decide +kernel
theorem d_Md_init_54 : decode prog_9_method_1_code 54 = .ok (.aload_n 0, 1) := by decide +kernel
theorem d_Md_init_55 : decode prog_9_method_1_code 55 = .ok (.iconst 4, 1) := by decide +kernel
theorem d_Md_init_56 : decode prog_9_method_1_code 56 = .ok (.newarray .int, 2) := by decide +kernel
theorem d_Md_init_58 : decode prog_9_method_1_code 58 = .ok (.putfield 22, 3) := by decide +kernel
theorem d_Md_init_61 : decode prog_9_method_1_code 61 = .ok (.aload_n 0, 1) := by decide +kernel
theorem d_Md_init_62 : decode prog_9_method_1_code 62 = .ok (.bipush 12, 2) := by decide +kernel
theorem d_Md_init_64 : decode prog_9_method_1_code 64 = .ok (.newarray .int, 2) := by decide +kernel
theorem d_Md_init_66 : decode prog_9_method_1_code 66 = .ok (.putfield 25, 3) := by decide +kernel
theorem d_Md_init_69 : decode prog_9_method_1_code 69 = .ok (.aload_n 0, 1) := by decide +kernel
theorem d_Md_init_70 : decode prog_9_method_1_code 70 = .ok (.bipush 20, 2) := by decide +kernel
theorem d_Md_init_72 : decode prog_9_method_1_code 72 = .ok (.newarray .int, 2) := by decide +kernel
theorem d_Md_init_74 : decode prog_9_method_1_code 74 = .ok (.putfield 28, 3) := by decide +kernel
theorem d_Md_init_77 : decode prog_9_method_1_code 77 = .ok (.aload_n 0, 1) := by decide +kernel
theorem d_Md_init_78 : decode prog_9_method_1_code 78 = .ok (.iconst 4, 1) := by decide +kernel
theorem d_Md_init_79 : decode prog_9_method_1_code 79 = .ok (.newarray .int, 2) := by decide +kernel
theorem d_Md_init_81 : decode prog_9_method_1_code 81 = .ok (.putfield 31, 3) := by decide +kernel
theorem d_Md_init_84 : decode prog_9_method_1_code 84 = .ok (.aload_n 0, 1) := by decide +kernel
theorem d_Md_init_85 : decode prog_9_method_1_code 85 = .ok (.iconst 4, 1) := by decide +kernel
theorem d_Md_init_86 : decode prog_9_method_1_code 86 = .ok (.newarray .int, 2) := by decide +kernel
theorem d_Md_init_88 : decode prog_9_method_1_code 88 = .ok (.putfield 34, 3) := by decide +kernel
theorem d_Md_init_91 : decode prog_9_method_1_code 91 = .ok (.aload_n 0, 1) := by decide +kernel
theorem d_Md_init_92 : decode prog_9_method_1_code 92 = .ok (.bipush 12, 2) := by decide +kernel
theorem d_Md_init_94 : decode prog_9_method_1_code 94 = .ok (.newarray .int, 2) := by decide +kernel
theorem d_Md_init_96 : decode prog_9_method_1_code 96 = .ok (.putfield 37, 3) := by decide +kernel
theorem d_Md_init_99 : decode prog_9_method_1_code 99 = .ok (.aload_n 0, 1) := by decide +kernel
theorem d_Md_init_100 : decode prog_9_method_1_code 100 = .ok (.sipush 256, 3) := by decide +kernel
theorem d_Md_init_103 : decode prog_9_method_1_code 103 = .ok (.newarray .int, 2) := by decide +kernel
theorem d_Md_init_105 : decode prog_9_method_1_code 105 = .ok (.putfield 40, 3) := by decide +kernel
theorem d_Md_init_108 : decode prog_9_method_1_code 108 = .ok (.aload_n 0, 1) := by decide +kernel
theorem d_Md_init_109 : decode prog_9_method_1_code 109 = .ok (.sipush 4096, 3) := by decide +kernel
theorem d_Md_init_112 : decode prog_9_method_1_code 112 = .ok (.newarray .int, 2) := by decide +kernel
theorem d_Md_init_114 : decode prog_9_method_1_code 114 = .ok (.putfield 43, 3) := by decide +kernel
theorem d_Md_init_117 : decode prog_9_method_1_code 117 = .ok (.aload_n 0, 1) := by decide +kernel
theorem d_Md_init_118 : decode prog_9_method_1_code 118 = .ok (.sipush 256, 3) := by decide +kernel
theorem d_Md_init_121 : decode prog_9_method_1_code 121 = .ok (.newarray .int, 2) := by decide +kernel
theorem d_Md_init_123 : decode prog_9_method_1_code 123 = .ok (.putfield 46, 3) := by decide +kernel
theorem d_Md_init_126 : decode prog_9_method_1_code 126 = .ok (.aload_n 0, 1) := by decide +kernel
theorem d_Md_init_127 : decode prog_9_method_1_code 127 = .ok (.sipush 256, 3) := by decide +kernel
theorem d_Md_init_130 : decode prog_9_method_1_code 130 = .ok (.newarray .int, 2) := by decide +kernel
theorem d_Md_init_132 : decode prog_9_method_1_code 132 = .ok (.putfield 49, 3) := by decide +kernel
theorem d_Md_init_135 : decode prog_9_method_1_code 135 = .ok (.aload_n 0, 1) := by decide +kernel
theorem d_Md_init_136 : decode prog_9_method_1_code 136 = .ok (.sipush 256, 3) := by decide +kernel
theorem d_Md_init_139 : decode prog_9_method_1_code 139 = .ok (.newarray .int, 2) := by decide +kernel
theorem d_Md_init_141 : decode prog_9_method_1_code 141 = .ok (.putfield 52, 3) := by decide +kernel
theorem d_Md_init_144 : decode prog_9_method_1_code 144 = .ok (.aload_n 0, 1) := by decide +kernel
theorem d_Md_init_145 : decode prog_9_method_1_code 145 = .ok (.sipush 256, 3) := by decide +kernel
theorem d_Md_init_148 : decode prog_9_method_1_code 148 = .ok (.newarray .int, 2) := by decide +kernel
theorem d_Md_init_150 : decode prog_9_method_1_code 150 = .ok (.putfield 55, 3) := by decide +kernel
theorem d_Md_init_153 : decode prog_9_method_1_code 153 = .ok (.aload_n 0, 1) := by decide +kernel
theorem d_Md_init_154 : decode prog_9_method_1_code 154 = .ok (.sipush 257, 3) := by decide +kernel
theorem d_Md_init_157 : decode prog_9_method_1_code 157 = .ok (.newarray .int, 2) := by decide +kernel
theorem d_Md_init_159 : decode prog_9_method_1_code 159 = .ok (.putfield 58, 3) := by decide +kernel
theorem d_Md_init_162 : decode prog_9_method_1_code 162 = .ok (.aload_n 0, 1) := by decide +kernel
theorem d_Md_init_163 : decode prog_9_method_1_code 163 = .ok (.sipush 5120, 3) := by decide +kernel
theorem d_Md_init_166 : decode prog_9_method_1_code 166 = .ok (.newarray .int, 2) := by decide +kernel
theorem d_Md_init_168 : decode prog_9_method_1_code 168 = .ok (.putfield 61, 3) := by decide +kernel
theorem d_Md_init_171 : decode prog_9_method_1_code 171 = .ok (.aload_n 0, 1) := by decide +kernel
theorem d_Md_init_172 : decode prog_9_method_1_code 172 = .ok (.bipush 20, 2) := by decide +kernel
theorem d_Md_init_174 : decode prog_9_method_1_code 174 = .ok (.newarray .int, 2) := by decide +kernel
theorem d_Md_init_176 : decode prog_9_method_1_code 176 = .ok (.putfield 64, 3) := by decide +kernel
theorem d_Md_init_179 : decode prog_9_method_1_code 179 = .ok (.aload_n 0, 1) := by decide +kernel
theorem d_Md_init_180 : decode prog_9_method_1_code 180 = .ok (.bipush 12, 2) := by decide +kernel
theorem d_Md_init_182 : decode prog_9_method_1_code 182 = .ok (.newarray .int, 2) := by decide +kernel
theorem d_Md_init_184 : decode prog_9_method_1_code 184 = .ok (.putfield 67, 3) := by decide +kernel
theorem d_Md_init_187 : decode prog_9_method_1_code 187 = .ok (.aload_n 0, 1) := by decide +kernel
theorem d_Md_init_188 : decode prog_9_method_1_code 188 = .ok (.bipush 20, 2) := by decide +kernel
theorem d_Md_init_190 : decode prog_9_method_1_code 190 = .ok (.newarray .int, 2) := by decide +kernel
theorem d_Md_init_192 : decode prog_9_method_1_code 192 = .ok (.putfield 70, 3) := by decide +kernel
theorem d_Md_init_195 : decode prog_9_method_1_code 195 = .ok (.aload_n 0, 1) := by decide +kernel
theorem d_Md_init_196 : decode prog_9_method_1_code 196 = .ok (.bipush 8, 2) := by decide +kernel
theorem d_Md_init_198 : decode prog_9_method_1_code 198 = .ok (.newarray .int, 2) := by decide +kernel
theorem d_Md_init_200 : decode prog_9_method_1_code 200 = .ok (.putfield 73, 3) := by decide +kernel
theorem d_Md_init_203 : decode prog_9_method_1_code 203 = .ok (.aload_n 0, 1) := by decide +kernel
theorem d_Md_init_204 : decode prog_9_method_1_code 204 = .ok (.bipush 8, 2) := by decide +kernel
theorem d_Md_init_206 : decode prog_9_method_1_code 206 = .ok (.newarray .int, 2) := by decide +kernel
theorem d_Md_init_208 : decode prog_9_method_1_code 208 = .ok (.putfield 76, 3) := by decide +kernel
theorem d_Md_init_211 : decode prog_9_method_1_code 211 = .ok (.return_, 1) := by decide +kernel
abbrev y_Md_init : MethodName := ⟨"LoadCyclesModel", "<init>", "()V"⟩
theorem mc_Md_init : miC y_Md_init prog_9_method_1_code 1 := ⟨wd_730, wd_72, wd_731, by decide, by decide, by decide +kernel⟩
def po_Md_init (Y : Yx) (h0 : Nat) (u : va_W) : Prop := ∃ q1 q2 q3 q4 q5 q6 q7 q8 q9 q10 q11 q12 q13 q14 q15 q16 q17 q18 q19 q20 q21 q22 q23 : Nat, u = [(h0, .inr (7, [.int 0, .int 0, .ref q1, .ref q2, .ref q3, .int 0, .ref q4, .ref q5, .ref q6, .int 0, .ref q7, .int 0, .int 0, .int 0, .ref q8, .ref q9, .ref q10, .int 0, .ref q11, .ref q12, .ref q13, .ref q14, .ref q15, .ref q16, .ref q17, .ref q18, .ref q19, .ref q20, .ref q21, .int 0, .int 0, .ref q22, .ref q23])), (q1, .inl (yI Y, (4, .inl (upd (upd (upd (upd (fun _ => 0) (0 : Int32).toNatClampNeg (-9)) (1 : Int32).toNatClampNeg (-9)) (2 : Int32).toNatClampNeg (-9)) (3 : Int32).toNatClampNeg (-9))))), (q2, .inl (yI Y, (4, .inl (fun _ => 0)))), (q3, .inl (yI Y, (240, .inl (fun _ => 0)))), (q4, .inl (yI Y, (4, .inl (fun _ => 0)))), (q5, .inl (yI Y, (4, .inl (fun _ => 0)))), (q6, .inl (yI Y, (12, .inl (fun _ => 0)))), (q7, .inl (yI Y, (20, .inl (fun _ => 0)))), (q8, .inl (yI Y, (4, .inl (fun _ => 0)))), (q9, .inl (yI Y, (4, .inl (fun _ => 0)))), (q10, .inl (yI Y, (12, .inl (fun _ => 0)))), (q11, .inl (yI Y, (256, .inl (fun _ => 0)))), (q12, .inl (yI Y, (4096, .inl (fun _ => 0)))), (q13, .inl (yI Y, (256, .inl (fun _ => 0)))), (q14, .inl (yI Y, (256, .inl (fun _ => 0)))), (q15, .inl (yI Y, (256, .inl (fun _ => 0)))), (q16, .inl (yI Y, (256, .inl (fun _ => 0)))), (q17, .inl (yI Y, (257, .inl (fun _ => 0)))), (q18, .inl (yI Y, (5120, .inl (fun _ => 0)))), (q19, .inl (yI Y, (20, .inl (fun _ => 0)))), (q20, .inl (yI Y, (12, .inl (fun _ => 0)))), (q21, .inl (yI Y, (20, .inl (fun _ => 0)))), (q22, .inl (yI Y, (8, .inl (fun _ => 0)))), (q23, .inl (yI Y, (8, .inl (fun _ => 0))))]
set_option maxHeartbeats 4000000 in
set_option maxRecDepth 20000 in
theorem k_Md_init {Y : Yx} {ws : va_W} {h0 : Nat} : MetC Y y_Md_init prog_9_method_1_code 1 1 20 23 11129 h0 ws 7 (po_Md_init Y h0) := by
  refine met_C [(0, .ref h0)] (by decide) (Nat.le_of_ble_eq_true rfl) rfl (fun X C hr hi => ?_)
  refine c_aload_n (pc := 0) C d_Md_init_0 rfl 0 rfl ?_
  refine c_objInit (pc := 1) C wd_732 wd_83 wd_84 (by decide) (by decide) d_Md_init_1 ?_
  refine c_aload_n (pc := 4) C d_Md_init_4 rfl 0 rfl ?_
  refine c_iconst (pc := 5) (v := 4) C d_Md_init_5 (by decide) ?_
  refine c_newI (pc := 6) (N := 4) 1 4 C wd_127 (by decide) (by decide) (by decide) rfl rfl (by decide) (by decide) d_Md_init_6 (fun q1 => ?_)
  refine c_dup (pc := 8) C d_Md_init_8 rfl ?_
  refine c_iconst (pc := 9) (v := 0) C d_Md_init_9 (by decide) ?_
  refine c_bipush (pc := 10) (v := -9) C d_Md_init_10 (by decide) ?_
  refine c_iast (pc := 12) (j := 1) [(h0, .inr (7, blk 7)), (q1, .inl (yI Y, (4, .inl (upd (fun _ => 0) (0 : Int32).toNatClampNeg (-9)))))] C rfl (by unfold vp_in; decide) rfl d_Md_init_12 ?_
  refine c_dup (pc := 13) C d_Md_init_13 rfl ?_
  refine c_iconst (pc := 14) (v := 1) C d_Md_init_14 (by decide) ?_
  refine c_bipush (pc := 15) (v := -9) C d_Md_init_15 (by decide) ?_
  refine c_iast (pc := 17) (j := 1) [(h0, .inr (7, blk 7)), (q1, .inl (yI Y, (4, .inl (upd (upd (fun _ => 0) (0 : Int32).toNatClampNeg (-9)) (1 : Int32).toNatClampNeg (-9)))))] C rfl (by unfold vp_in; decide) rfl d_Md_init_17 ?_
  refine c_dup (pc := 18) C d_Md_init_18 rfl ?_
  refine c_iconst (pc := 19) (v := 2) C d_Md_init_19 (by decide) ?_
  refine c_bipush (pc := 20) (v := -9) C d_Md_init_20 (by decide) ?_
  refine c_iast (pc := 22) (j := 1) [(h0, .inr (7, blk 7)), (q1, .inl (yI Y, (4, .inl (upd (upd (upd (fun _ => 0) (0 : Int32).toNatClampNeg (-9)) (1 : Int32).toNatClampNeg (-9)) (2 : Int32).toNatClampNeg (-9)))))] C rfl (by unfold vp_in; decide) rfl d_Md_init_22 ?_
  refine c_dup (pc := 23) C d_Md_init_23 rfl ?_
  refine c_iconst (pc := 24) (v := 3) C d_Md_init_24 (by decide) ?_
  refine c_bipush (pc := 25) (v := -9) C d_Md_init_25 (by decide) ?_
  refine c_iast (pc := 27) (j := 1) [(h0, .inr (7, blk 7)), (q1, .inl (yI Y, (4, .inl (upd (upd (upd (upd (fun _ => 0) (0 : Int32).toNatClampNeg (-9)) (1 : Int32).toNatClampNeg (-9)) (2 : Int32).toNatClampNeg (-9)) (3 : Int32).toNatClampNeg (-9)))))] C rfl (by unfold vp_in; decide) rfl d_Md_init_27 ?_
  refine c_putF (pc := 28) (j := 0) (k := 2) [(h0, .inr (7, [.int 0, .int 0, .ref q1, .null, .null, .int 0, .null, .null, .null, .int 0, .null, .int 0, .int 0, .int 0, .null, .null, .null, .int 0, .null, .null, .null, .null, .null, .null, .null, .null, .null, .null, .null, .int 0, .int 0, .null, .null])), (q1, .inl (yI Y, (4, .inl (upd (upd (upd (upd (fun _ => 0) (0 : Int32).toNatClampNeg (-9)) (1 : Int32).toNatClampNeg (-9)) (2 : Int32).toNatClampNeg (-9)) (3 : Int32).toNatClampNeg (-9)))))] C hi rfl (by decide) (by decide) wd_735 rfl rfl rfl rfl (Nat.le_of_ble_eq_true rfl) rfl d_Md_init_28 ?_
  refine c_aload_n (pc := 31) C d_Md_init_31 rfl 0 rfl ?_
  refine c_iconst (pc := 32) (v := 4) C d_Md_init_32 (by decide) ?_
  refine c_newI (pc := 33) (N := 4) 2 8 C wd_127 (by decide) (by decide) (by decide) rfl rfl (by decide) (by decide) d_Md_init_33 (fun q2 => ?_)
  refine c_putF (pc := 35) (j := 0) (k := 3) [(h0, .inr (7, [.int 0, .int 0, .ref q1, .ref q2, .null, .int 0, .null, .null, .null, .int 0, .null, .int 0, .int 0, .int 0, .null, .null, .null, .int 0, .null, .null, .null, .null, .null, .null, .null, .null, .null, .null, .null, .int 0, .int 0, .null, .null])), (q1, .inl (yI Y, (4, .inl (upd (upd (upd (upd (fun _ => 0) (0 : Int32).toNatClampNeg (-9)) (1 : Int32).toNatClampNeg (-9)) (2 : Int32).toNatClampNeg (-9)) (3 : Int32).toNatClampNeg (-9))))), (q2, .inl (yI Y, (4, .inl (fun _ => 0))))] C hi rfl (by decide) (by decide) wd_736 rfl rfl rfl rfl (Nat.le_of_ble_eq_true rfl) rfl d_Md_init_35 ?_
  refine c_aload_n (pc := 38) C d_Md_init_38 rfl 0 rfl ?_
  refine c_sipush (pc := 39) (v := 240) C d_Md_init_39 (by decide) ?_
  refine c_newI (pc := 42) (N := 240) 3 248 C wd_127 (by decide) (by decide) (by decide) rfl rfl (by decide) (by decide) d_Md_init_42 (fun q3 => ?_)
  refine c_putF (pc := 44) (j := 0) (k := 4) [(h0, .inr (7, [.int 0, .int 0, .ref q1, .ref q2, .ref q3, .int 0, .null, .null, .null, .int 0, .null, .int 0, .int 0, .int 0, .null, .null, .null, .int 0, .null, .null, .null, .null, .null, .null, .null, .null, .null, .null, .null, .int 0, .int 0, .null, .null])), (q1, .inl (yI Y, (4, .inl (upd (upd (upd (upd (fun _ => 0) (0 : Int32).toNatClampNeg (-9)) (1 : Int32).toNatClampNeg (-9)) (2 : Int32).toNatClampNeg (-9)) (3 : Int32).toNatClampNeg (-9))))), (q2, .inl (yI Y, (4, .inl (fun _ => 0)))), (q3, .inl (yI Y, (240, .inl (fun _ => 0))))] C hi rfl (by decide) (by decide) wd_737 rfl rfl rfl rfl (Nat.le_of_ble_eq_true rfl) rfl d_Md_init_44 ?_
  refine c_aload_n (pc := 47) C d_Md_init_47 rfl 0 rfl ?_
  refine c_iconst (pc := 48) (v := 4) C d_Md_init_48 (by decide) ?_
  refine c_newI (pc := 49) (N := 4) 4 252 C wd_127 (by decide) (by decide) (by decide) rfl rfl (by decide) (by decide) d_Md_init_49 (fun q4 => ?_)
  refine c_putF (pc := 51) (j := 0) (k := 6) [(h0, .inr (7, [.int 0, .int 0, .ref q1, .ref q2, .ref q3, .int 0, .ref q4, .null, .null, .int 0, .null, .int 0, .int 0, .int 0, .null, .null, .null, .int 0, .null, .null, .null, .null, .null, .null, .null, .null, .null, .null, .null, .int 0, .int 0, .null, .null])), (q1, .inl (yI Y, (4, .inl (upd (upd (upd (upd (fun _ => 0) (0 : Int32).toNatClampNeg (-9)) (1 : Int32).toNatClampNeg (-9)) (2 : Int32).toNatClampNeg (-9)) (3 : Int32).toNatClampNeg (-9))))), (q2, .inl (yI Y, (4, .inl (fun _ => 0)))), (q3, .inl (yI Y, (240, .inl (fun _ => 0)))), (q4, .inl (yI Y, (4, .inl (fun _ => 0))))] C hi rfl (by decide) (by decide) wd_739 rfl rfl rfl rfl (Nat.le_of_ble_eq_true rfl) rfl d_Md_init_51 ?_
  refine c_aload_n (pc := 54) C d_Md_init_54 rfl 0 rfl ?_
  refine c_iconst (pc := 55) (v := 4) C d_Md_init_55 (by decide) ?_
  refine c_newI (pc := 56) (N := 4) 5 256 C wd_127 (by decide) (by decide) (by decide) rfl rfl (by decide) (by decide) d_Md_init_56 (fun q5 => ?_)
  refine c_putF (pc := 58) (j := 0) (k := 7) [(h0, .inr (7, [.int 0, .int 0, .ref q1, .ref q2, .ref q3, .int 0, .ref q4, .ref q5, .null, .int 0, .null, .int 0, .int 0, .int 0, .null, .null, .null, .int 0, .null, .null, .null, .null, .null, .null, .null, .null, .null, .null, .null, .int 0, .int 0, .null, .null])), (q1, .inl (yI Y, (4, .inl (upd (upd (upd (upd (fun _ => 0) (0 : Int32).toNatClampNeg (-9)) (1 : Int32).toNatClampNeg (-9)) (2 : Int32).toNatClampNeg (-9)) (3 : Int32).toNatClampNeg (-9))))), (q2, .inl (yI Y, (4, .inl (fun _ => 0)))), (q3, .inl (yI Y, (240, .inl (fun _ => 0)))), (q4, .inl (yI Y, (4, .inl (fun _ => 0)))), (q5, .inl (yI Y, (4, .inl (fun _ => 0))))] C hi rfl (by decide) (by decide) wd_740 rfl rfl rfl rfl (Nat.le_of_ble_eq_true rfl) rfl d_Md_init_58 ?_
  refine c_aload_n (pc := 61) C d_Md_init_61 rfl 0 rfl ?_
  refine c_bipush (pc := 62) (v := 12) C d_Md_init_62 (by decide) ?_
  refine c_newI (pc := 64) (N := 12) 6 268 C wd_127 (by decide) (by decide) (by decide) rfl rfl (by decide) (by decide) d_Md_init_64 (fun q6 => ?_)
  refine c_putF (pc := 66) (j := 0) (k := 8) [(h0, .inr (7, [.int 0, .int 0, .ref q1, .ref q2, .ref q3, .int 0, .ref q4, .ref q5, .ref q6, .int 0, .null, .int 0, .int 0, .int 0, .null, .null, .null, .int 0, .null, .null, .null, .null, .null, .null, .null, .null, .null, .null, .null, .int 0, .int 0, .null, .null])), (q1, .inl (yI Y, (4, .inl (upd (upd (upd (upd (fun _ => 0) (0 : Int32).toNatClampNeg (-9)) (1 : Int32).toNatClampNeg (-9)) (2 : Int32).toNatClampNeg (-9)) (3 : Int32).toNatClampNeg (-9))))), (q2, .inl (yI Y, (4, .inl (fun _ => 0)))), (q3, .inl (yI Y, (240, .inl (fun _ => 0)))), (q4, .inl (yI Y, (4, .inl (fun _ => 0)))), (q5, .inl (yI Y, (4, .inl (fun _ => 0)))), (q6, .inl (yI Y, (12, .inl (fun _ => 0))))] C hi rfl (by decide) (by decide) wd_741 rfl rfl rfl rfl (Nat.le_of_ble_eq_true rfl) rfl d_Md_init_66 ?_
  refine c_aload_n (pc := 69) C d_Md_init_69 rfl 0 rfl ?_
  refine c_bipush (pc := 70) (v := 20) C d_Md_init_70 (by decide) ?_
  refine c_newI (pc := 72) (N := 20) 7 288 C wd_127 (by decide) (by decide) (by decide) rfl rfl (by decide) (by decide) d_Md_init_72 (fun q7 => ?_)
  refine c_putF (pc := 74) (j := 0) (k := 10) [(h0, .inr (7, [.int 0, .int 0, .ref q1, .ref q2, .ref q3, .int 0, .ref q4, .ref q5, .ref q6, .int 0, .ref q7, .int 0, .int 0, .int 0, .null, .null, .null, .int 0, .null, .null, .null, .null, .null, .null, .null, .null, .null, .null, .null, .int 0, .int 0, .null, .null])), (q1, .inl (yI Y, (4, .inl (upd (upd (upd (upd (fun _ => 0) (0 : Int32).toNatClampNeg (-9)) (1 : Int32).toNatClampNeg (-9)) (2 : Int32).toNatClampNeg (-9)) (3 : Int32).toNatClampNeg (-9))))), (q2, .inl (yI Y, (4, .inl (fun _ => 0)))), (q3, .inl (yI Y, (240, .inl (fun _ => 0)))), (q4, .inl (yI Y, (4, .inl (fun _ => 0)))), (q5, .inl (yI Y, (4, .inl (fun _ => 0)))), (q6, .inl (yI Y, (12, .inl (fun _ => 0)))), (q7, .inl (yI Y, (20, .inl (fun _ => 0))))] C hi rfl (by decide) (by decide) wd_743 rfl rfl rfl rfl (Nat.le_of_ble_eq_true rfl) rfl d_Md_init_74 ?_
  refine c_aload_n (pc := 77) C d_Md_init_77 rfl 0 rfl ?_
  refine c_iconst (pc := 78) (v := 4) C d_Md_init_78 (by decide) ?_
  refine c_newI (pc := 79) (N := 4) 8 292 C wd_127 (by decide) (by decide) (by decide) rfl rfl (by decide) (by decide) d_Md_init_79 (fun q8 => ?_)
  refine c_putF (pc := 81) (j := 0) (k := 14) [(h0, .inr (7, [.int 0, .int 0, .ref q1, .ref q2, .ref q3, .int 0, .ref q4, .ref q5, .ref q6, .int 0, .ref q7, .int 0, .int 0, .int 0, .ref q8, .null, .null, .int 0, .null, .null, .null, .null, .null, .null, .null, .null, .null, .null, .null, .int 0, .int 0, .null, .null])), (q1, .inl (yI Y, (4, .inl (upd (upd (upd (upd (fun _ => 0) (0 : Int32).toNatClampNeg (-9)) (1 : Int32).toNatClampNeg (-9)) (2 : Int32).toNatClampNeg (-9)) (3 : Int32).toNatClampNeg (-9))))), (q2, .inl (yI Y, (4, .inl (fun _ => 0)))), (q3, .inl (yI Y, (240, .inl (fun _ => 0)))), (q4, .inl (yI Y, (4, .inl (fun _ => 0)))), (q5, .inl (yI Y, (4, .inl (fun _ => 0)))), (q6, .inl (yI Y, (12, .inl (fun _ => 0)))), (q7, .inl (yI Y, (20, .inl (fun _ => 0)))), (q8, .inl (yI Y, (4, .inl (fun _ => 0))))] C hi rfl (by decide) (by decide) wd_747 rfl rfl rfl rfl (Nat.le_of_ble_eq_true rfl) rfl d_Md_init_81 ?_
  refine c_aload_n (pc := 84) C d_Md_init_84 rfl 0 rfl ?_
  refine c_iconst (pc := 85) (v := 4) C d_Md_init_85 (by decide) ?_
  refine c_newI (pc := 86) (N := 4) 9 296 C wd_127 (by decide) (by decide) (by decide) rfl rfl (by decide) (by decide) d_Md_init_86 (fun q9 => ?_)
  refine c_putF (pc := 88) (j := 0) (k := 15) [(h0, .inr (7, [.int 0, .int 0, .ref q1, .ref q2, .ref q3, .int 0, .ref q4, .ref q5, .ref q6, .int 0, .ref q7, .int 0, .int 0, .int 0, .ref q8, .ref q9, .null, .int 0, .null, .null, .null, .null, .null, .null, .null, .null, .null, .null, .null, .int 0, .int 0, .null, .null])), (q1, .inl (yI Y, (4, .inl (upd (upd (upd (upd (fun _ => 0) (0 : Int32).toNatClampNeg (-9)) (1 : Int32).toNatClampNeg (-9)) (2 : Int32).toNatClampNeg (-9)) (3 : Int32).toNatClampNeg (-9))))), (q2, .inl (yI Y, (4, .inl (fun _ => 0)))), (q3, .inl (yI Y, (240, .inl (fun _ => 0)))), (q4, .inl (yI Y, (4, .inl (fun _ => 0)))), (q5, .inl (yI Y, (4, .inl (fun _ => 0)))), (q6, .inl (yI Y, (12, .inl (fun _ => 0)))), (q7, .inl (yI Y, (20, .inl (fun _ => 0)))), (q8, .inl (yI Y, (4, .inl (fun _ => 0)))), (q9, .inl (yI Y, (4, .inl (fun _ => 0))))] C hi rfl (by decide) (by decide) wd_748 rfl rfl rfl rfl (Nat.le_of_ble_eq_true rfl) rfl d_Md_init_88 ?_
  refine c_aload_n (pc := 91) C d_Md_init_91 rfl 0 rfl ?_
  refine c_bipush (pc := 92) (v := 12) C d_Md_init_92 (by decide) ?_
  refine c_newI (pc := 94) (N := 12) 10 308 C wd_127 (by decide) (by decide) (by decide) rfl rfl (by decide) (by decide) d_Md_init_94 (fun q10 => ?_)
  refine c_putF (pc := 96) (j := 0) (k := 16) [(h0, .inr (7, [.int 0, .int 0, .ref q1, .ref q2, .ref q3, .int 0, .ref q4, .ref q5, .ref q6, .int 0, .ref q7, .int 0, .int 0, .int 0, .ref q8, .ref q9, .ref q10, .int 0, .null, .null, .null, .null, .null, .null, .null, .null, .null, .null, .null, .int 0, .int 0, .null, .null])), (q1, .inl (yI Y, (4, .inl (upd (upd (upd (upd (fun _ => 0) (0 : Int32).toNatClampNeg (-9)) (1 : Int32).toNatClampNeg (-9)) (2 : Int32).toNatClampNeg (-9)) (3 : Int32).toNatClampNeg (-9))))), (q2, .inl (yI Y, (4, .inl (fun _ => 0)))), (q3, .inl (yI Y, (240, .inl (fun _ => 0)))), (q4, .inl (yI Y, (4, .inl (fun _ => 0)))), (q5, .inl (yI Y, (4, .inl (fun _ => 0)))), (q6, .inl (yI Y, (12, .inl (fun _ => 0)))), (q7, .inl (yI Y, (20, .inl (fun _ => 0)))), (q8, .inl (yI Y, (4, .inl (fun _ => 0)))), (q9, .inl (yI Y, (4, .inl (fun _ => 0)))), (q10, .inl (yI Y, (12, .inl (fun _ => 0))))] C hi rfl (by decide) (by decide) wd_749 rfl rfl rfl rfl (Nat.le_of_ble_eq_true rfl) rfl d_Md_init_96 ?_
  refine c_aload_n (pc := 99) C d_Md_init_99 rfl 0 rfl ?_
  refine c_sipush (pc := 100) (v := 256) C d_Md_init_100 (by decide) ?_
  refine c_newI (pc := 103) (N := 256) 11 564 C wd_127 (by decide) (by decide) (by decide) rfl rfl (by decide) (by decide) d_Md_init_103 (fun q11 => ?_)
  refine c_putF (pc := 105) (j := 0) (k := 18) [(h0, .inr (7, [.int 0, .int 0, .ref q1, .ref q2, .ref q3, .int 0, .ref q4, .ref q5, .ref q6, .int 0, .ref q7, .int 0, .int 0, .int 0, .ref q8, .ref q9, .ref q10, .int 0, .ref q11, .null, .null, .null, .null, .null, .null, .null, .null, .null, .null, .int 0, .int 0, .null, .null])), (q1, .inl (yI Y, (4, .inl (upd (upd (upd (upd (fun _ => 0) (0 : Int32).toNatClampNeg (-9)) (1 : Int32).toNatClampNeg (-9)) (2 : Int32).toNatClampNeg (-9)) (3 : Int32).toNatClampNeg (-9))))), (q2, .inl (yI Y, (4, .inl (fun _ => 0)))), (q3, .inl (yI Y, (240, .inl (fun _ => 0)))), (q4, .inl (yI Y, (4, .inl (fun _ => 0)))), (q5, .inl (yI Y, (4, .inl (fun _ => 0)))), (q6, .inl (yI Y, (12, .inl (fun _ => 0)))), (q7, .inl (yI Y, (20, .inl (fun _ => 0)))), (q8, .inl (yI Y, (4, .inl (fun _ => 0)))), (q9, .inl (yI Y, (4, .inl (fun _ => 0)))), (q10, .inl (yI Y, (12, .inl (fun _ => 0)))), (q11, .inl (yI Y, (256, .inl (fun _ => 0))))] C hi rfl (by decide) (by decide) wd_751 rfl rfl rfl rfl (Nat.le_of_ble_eq_true rfl) rfl d_Md_init_105 ?_
  refine c_aload_n (pc := 108) C d_Md_init_108 rfl 0 rfl ?_
  refine c_sipush (pc := 109) (v := 4096) C d_Md_init_109 (by decide) ?_
  refine c_newI (pc := 112) (N := 4096) 12 4660 C wd_127 (by decide) (by decide) (by decide) rfl rfl (by decide) (by decide) d_Md_init_112 (fun q12 => ?_)
  refine c_putF (pc := 114) (j := 0) (k := 19) [(h0, .inr (7, [.int 0, .int 0, .ref q1, .ref q2, .ref q3, .int 0, .ref q4, .ref q5, .ref q6, .int 0, .ref q7, .int 0, .int 0, .int 0, .ref q8, .ref q9, .ref q10, .int 0, .ref q11, .ref q12, .null, .null, .null, .null, .null, .null, .null, .null, .null, .int 0, .int 0, .null, .null])), (q1, .inl (yI Y, (4, .inl (upd (upd (upd (upd (fun _ => 0) (0 : Int32).toNatClampNeg (-9)) (1 : Int32).toNatClampNeg (-9)) (2 : Int32).toNatClampNeg (-9)) (3 : Int32).toNatClampNeg (-9))))), (q2, .inl (yI Y, (4, .inl (fun _ => 0)))), (q3, .inl (yI Y, (240, .inl (fun _ => 0)))), (q4, .inl (yI Y, (4, .inl (fun _ => 0)))), (q5, .inl (yI Y, (4, .inl (fun _ => 0)))), (q6, .inl (yI Y, (12, .inl (fun _ => 0)))), (q7, .inl (yI Y, (20, .inl (fun _ => 0)))), (q8, .inl (yI Y, (4, .inl (fun _ => 0)))), (q9, .inl (yI Y, (4, .inl (fun _ => 0)))), (q10, .inl (yI Y, (12, .inl (fun _ => 0)))), (q11, .inl (yI Y, (256, .inl (fun _ => 0)))), (q12, .inl (yI Y, (4096, .inl (fun _ => 0))))] C hi rfl (by decide) (by decide) wd_752 rfl rfl rfl rfl (Nat.le_of_ble_eq_true rfl) rfl d_Md_init_114 ?_
  refine c_aload_n (pc := 117) C d_Md_init_117 rfl 0 rfl ?_
  refine c_sipush (pc := 118) (v := 256) C d_Md_init_118 (by decide) ?_
  refine c_newI (pc := 121) (N := 256) 13 4916 C wd_127 (by decide) (by decide) (by decide) rfl rfl (by decide) (by decide) d_Md_init_121 (fun q13 => ?_)
  refine c_putF (pc := 123) (j := 0) (k := 20) [(h0, .inr (7, [.int 0, .int 0, .ref q1, .ref q2, .ref q3, .int 0, .ref q4, .ref q5, .ref q6, .int 0, .ref q7, .int 0, .int 0, .int 0, .ref q8, .ref q9, .ref q10, .int 0, .ref q11, .ref q12, .ref q13, .null, .null, .null, .null, .null, .null, .null, .null, .int 0, .int 0, .null, .null])), (q1, .inl (yI Y, (4, .inl (upd (upd (upd (upd (fun _ => 0) (0 : Int32).toNatClampNeg (-9)) (1 : Int32).toNatClampNeg (-9)) (2 : Int32).toNatClampNeg (-9)) (3 : Int32).toNatClampNeg (-9))))), (q2, .inl (yI Y, (4, .inl (fun _ => 0)))), (q3, .inl (yI Y, (240, .inl (fun _ => 0)))), (q4, .inl (yI Y, (4, .inl (fun _ => 0)))), (q5, .inl (yI Y, (4, .inl (fun _ => 0)))), (q6, .inl (yI Y, (12, .inl (fun _ => 0)))), (q7, .inl (yI Y, (20, .inl (fun _ => 0)))), (q8, .inl (yI Y, (4, .inl (fun _ => 0)))), (q9, .inl (yI Y, (4, .inl (fun _ => 0)))), (q10, .inl (yI Y, (12, .inl (fun _ => 0)))), (q11, .inl (yI Y, (256, .inl (fun _ => 0)))), (q12, .inl (yI Y, (4096, .inl (fun _ => 0)))), (q13, .inl (yI Y, (256, .inl (fun _ => 0))))] C hi rfl (by decide) (by decide) wd_753 rfl rfl rfl rfl (Nat.le_of_ble_eq_true rfl) rfl d_Md_init_123 ?_
  refine c_aload_n (pc := 126) C d_Md_init_126 rfl 0 rfl ?_
  refine c_sipush (pc := 127) (v := 256) C d_Md_init_127 (by decide) ?_
  refine c_newI (pc := 130) (N := 256) 14 5172 C wd_127 (by decide) (by decide) (by decide) rfl rfl (by decide) (by decide) d_Md_init_130 (fun q14 => ?_)
  refine c_putF (pc := 132) (j := 0) (k := 21) [(h0, .inr (7, [.int 0, .int 0, .ref q1, .ref q2, .ref q3, .int 0, .ref q4, .ref q5, .ref q6, .int 0, .ref q7, .int 0, .int 0, .int 0, .ref q8, .ref q9, .ref q10, .int 0, .ref q11, .ref q12, .ref q13, .ref q14, .null, .null, .null, .null, .null, .null, .null, .int 0, .int 0, .null, .null])), (q1, .inl (yI Y, (4, .inl (upd (upd (upd (upd (fun _ => 0) (0 : Int32).toNatClampNeg (-9)) (1 : Int32).toNatClampNeg (-9)) (2 : Int32).toNatClampNeg (-9)) (3 : Int32).toNatClampNeg (-9))))), (q2, .inl (yI Y, (4, .inl (fun _ => 0)))), (q3, .inl (yI Y, (240, .inl (fun _ => 0)))), (q4, .inl (yI Y, (4, .inl (fun _ => 0)))), (q5, .inl (yI Y, (4, .inl (fun _ => 0)))), (q6, .inl (yI Y, (12, .inl (fun _ => 0)))), (q7, .inl (yI Y, (20, .inl (fun _ => 0)))), (q8, .inl (yI Y, (4, .inl (fun _ => 0)))), (q9, .inl (yI Y, (4, .inl (fun _ => 0)))), (q10, .inl (yI Y, (12, .inl (fun _ => 0)))), (q11, .inl (yI Y, (256, .inl (fun _ => 0)))), (q12, .inl (yI Y, (4096, .inl (fun _ => 0)))), (q13, .inl (yI Y, (256, .inl (fun _ => 0)))), (q14, .inl (yI Y, (256, .inl (fun _ => 0))))] C hi rfl (by decide) (by decide) wd_754 rfl rfl rfl rfl (Nat.le_of_ble_eq_true rfl) rfl d_Md_init_132 ?_
  refine c_aload_n (pc := 135) C d_Md_init_135 rfl 0 rfl ?_
  refine c_sipush (pc := 136) (v := 256) C d_Md_init_136 (by decide) ?_
  refine c_newI (pc := 139) (N := 256) 15 5428 C wd_127 (by decide) (by decide) (by decide) rfl rfl (by decide) (by decide) d_Md_init_139 (fun q15 => ?_)
  refine c_putF (pc := 141) (j := 0) (k := 22) [(h0, .inr (7, [.int 0, .int 0, .ref q1, .ref q2, .ref q3, .int 0, .ref q4, .ref q5, .ref q6, .int 0, .ref q7, .int 0, .int 0, .int 0, .ref q8, .ref q9, .ref q10, .int 0, .ref q11, .ref q12, .ref q13, .ref q14, .ref q15, .null, .null, .null, .null, .null, .null, .int 0, .int 0, .null, .null])), (q1, .inl (yI Y, (4, .inl (upd (upd (upd (upd (fun _ => 0) (0 : Int32).toNatClampNeg (-9)) (1 : Int32).toNatClampNeg (-9)) (2 : Int32).toNatClampNeg (-9)) (3 : Int32).toNatClampNeg (-9))))), (q2, .inl (yI Y, (4, .inl (fun _ => 0)))), (q3, .inl (yI Y, (240, .inl (fun _ => 0)))), (q4, .inl (yI Y, (4, .inl (fun _ => 0)))), (q5, .inl (yI Y, (4, .inl (fun _ => 0)))), (q6, .inl (yI Y, (12, .inl (fun _ => 0)))), (q7, .inl (yI Y, (20, .inl (fun _ => 0)))), (q8, .inl (yI Y, (4, .inl (fun _ => 0)))), (q9, .inl (yI Y, (4, .inl (fun _ => 0)))), (q10, .inl (yI Y, (12, .inl (fun _ => 0)))), (q11, .inl (yI Y, (256, .inl (fun _ => 0)))), (q12, .inl (yI Y, (4096, .inl (fun _ => 0)))), (q13, .inl (yI Y, (256, .inl (fun _ => 0)))), (q14, .inl (yI Y, (256, .inl (fun _ => 0)))), (q15, .inl (yI Y, (256, .inl (fun _ => 0))))] C hi rfl (by decide) (by decide) wd_755 rfl rfl rfl rfl (Nat.le_of_ble_eq_true rfl) rfl d_Md_init_141 ?_
  refine c_aload_n (pc := 144) C d_Md_init_144 rfl 0 rfl ?_
  refine c_sipush (pc := 145) (v := 256) C d_Md_init_145 (by decide) ?_
  refine c_newI (pc := 148) (N := 256) 16 5684 C wd_127 (by decide) (by decide) (by decide) rfl rfl (by decide) (by decide) d_Md_init_148 (fun q16 => ?_)
  refine c_putF (pc := 150) (j := 0) (k := 23) [(h0, .inr (7, [.int 0, .int 0, .ref q1, .ref q2, .ref q3, .int 0, .ref q4, .ref q5, .ref q6, .int 0, .ref q7, .int 0, .int 0, .int 0, .ref q8, .ref q9, .ref q10, .int 0, .ref q11, .ref q12, .ref q13, .ref q14, .ref q15, .ref q16, .null, .null, .null, .null, .null, .int 0, .int 0, .null, .null])), (q1, .inl (yI Y, (4, .inl (upd (upd (upd (upd (fun _ => 0) (0 : Int32).toNatClampNeg (-9)) (1 : Int32).toNatClampNeg (-9)) (2 : Int32).toNatClampNeg (-9)) (3 : Int32).toNatClampNeg (-9))))), (q2, .inl (yI Y, (4, .inl (fun _ => 0)))), (q3, .inl (yI Y, (240, .inl (fun _ => 0)))), (q4, .inl (yI Y, (4, .inl (fun _ => 0)))), (q5, .inl (yI Y, (4, .inl (fun _ => 0)))), (q6, .inl (yI Y, (12, .inl (fun _ => 0)))), (q7, .inl (yI Y, (20, .inl (fun _ => 0)))), (q8, .inl (yI Y, (4, .inl (fun _ => 0)))), (q9, .inl (yI Y, (4, .inl (fun _ => 0)))), (q10, .inl (yI Y, (12, .inl (fun _ => 0)))), (q11, .inl (yI Y, (256, .inl (fun _ => 0)))), (q12, .inl (yI Y, (4096, .inl (fun _ => 0)))), (q13, .inl (yI Y, (256, .inl (fun _ => 0)))), (q14, .inl (yI Y, (256, .inl (fun _ => 0)))), (q15, .inl (yI Y, (256, .inl (fun _ => 0)))), (q16, .inl (yI Y, (256, .inl (fun _ => 0))))] C hi rfl (by decide) (by decide) wd_756 rfl rfl rfl rfl (Nat.le_of_ble_eq_true rfl) rfl d_Md_init_150 ?_
  refine c_aload_n (pc := 153) C d_Md_init_153 rfl 0 rfl ?_
  refine c_sipush (pc := 154) (v := 257) C d_Md_init_154 (by decide) ?_
  refine c_newI (pc := 157) (N := 257) 17 5941 C wd_127 (by decide) (by decide) (by decide) rfl rfl (by decide) (by decide) d_Md_init_157 (fun q17 => ?_)
  refine c_putF (pc := 159) (j := 0) (k := 24) [(h0, .inr (7, [.int 0, .int 0, .ref q1, .ref q2, .ref q3, .int 0, .ref q4, .ref q5, .ref q6, .int 0, .ref q7, .int 0, .int 0, .int 0, .ref q8, .ref q9, .ref q10, .int 0, .ref q11, .ref q12, .ref q13, .ref q14, .ref q15, .ref q16, .ref q17, .null, .null, .null, .null, .int 0, .int 0, .null, .null])), (q1, .inl (yI Y, (4, .inl (upd (upd (upd (upd (fun _ => 0) (0 : Int32).toNatClampNeg (-9)) (1 : Int32).toNatClampNeg (-9)) (2 : Int32).toNatClampNeg (-9)) (3 : Int32).toNatClampNeg (-9))))), (q2, .inl (yI Y, (4, .inl (fun _ => 0)))), (q3, .inl (yI Y, (240, .inl (fun _ => 0)))), (q4, .inl (yI Y, (4, .inl (fun _ => 0)))), (q5, .inl (yI Y, (4, .inl (fun _ => 0)))), (q6, .inl (yI Y, (12, .inl (fun _ => 0)))), (q7, .inl (yI Y, (20, .inl (fun _ => 0)))), (q8, .inl (yI Y, (4, .inl (fun _ => 0)))), (q9, .inl (yI Y, (4, .inl (fun _ => 0)))), (q10, .inl (yI Y, (12, .inl (fun _ => 0)))), (q11, .inl (yI Y, (256, .inl (fun _ => 0)))), (q12, .inl (yI Y, (4096, .inl (fun _ => 0)))), (q13, .inl (yI Y, (256, .inl (fun _ => 0)))), (q14, .inl (yI Y, (256, .inl (fun _ => 0)))), (q15, .inl (yI Y, (256, .inl (fun _ => 0)))), (q16, .inl (yI Y, (256, .inl (fun _ => 0)))), (q17, .inl (yI Y, (257, .inl (fun _ => 0))))] C hi rfl (by decide) (by decide) wd_757 rfl rfl rfl rfl (Nat.le_of_ble_eq_true rfl) rfl d_Md_init_159 ?_
  refine c_aload_n (pc := 162) C d_Md_init_162 rfl 0 rfl ?_
  refine c_sipush (pc := 163) (v := 5120) C d_Md_init_163 (by decide) ?_
  refine c_newI (pc := 166) (N := 5120) 18 11061 C wd_127 (by decide) (by decide) (by decide) rfl rfl (by decide) (by decide) d_Md_init_166 (fun q18 => ?_)
  refine c_putF (pc := 168) (j := 0) (k := 25) [(h0, .inr (7, [.int 0, .int 0, .ref q1, .ref q2, .ref q3, .int 0, .ref q4, .ref q5, .ref q6, .int 0, .ref q7, .int 0, .int 0, .int 0, .ref q8, .ref q9, .ref q10, .int 0, .ref q11, .ref q12, .ref q13, .ref q14, .ref q15, .ref q16, .ref q17, .ref q18, .null, .null, .null, .int 0, .int 0, .null, .null])), (q1, .inl (yI Y, (4, .inl (upd (upd (upd (upd (fun _ => 0) (0 : Int32).toNatClampNeg (-9)) (1 : Int32).toNatClampNeg (-9)) (2 : Int32).toNatClampNeg (-9)) (3 : Int32).toNatClampNeg (-9))))), (q2, .inl (yI Y, (4, .inl (fun _ => 0)))), (q3, .inl (yI Y, (240, .inl (fun _ => 0)))), (q4, .inl (yI Y, (4, .inl (fun _ => 0)))), (q5, .inl (yI Y, (4, .inl (fun _ => 0)))), (q6, .inl (yI Y, (12, .inl (fun _ => 0)))), (q7, .inl (yI Y, (20, .inl (fun _ => 0)))), (q8, .inl (yI Y, (4, .inl (fun _ => 0)))), (q9, .inl (yI Y, (4, .inl (fun _ => 0)))), (q10, .inl (yI Y, (12, .inl (fun _ => 0)))), (q11, .inl (yI Y, (256, .inl (fun _ => 0)))), (q12, .inl (yI Y, (4096, .inl (fun _ => 0)))), (q13, .inl (yI Y, (256, .inl (fun _ => 0)))), (q14, .inl (yI Y, (256, .inl (fun _ => 0)))), (q15, .inl (yI Y, (256, .inl (fun _ => 0)))), (q16, .inl (yI Y, (256, .inl (fun _ => 0)))), (q17, .inl (yI Y, (257, .inl (fun _ => 0)))), (q18, .inl (yI Y, (5120, .inl (fun _ => 0))))] C hi rfl (by decide) (by decide) wd_758 rfl rfl rfl rfl (Nat.le_of_ble_eq_true rfl) rfl d_Md_init_168 ?_
  refine c_aload_n (pc := 171) C d_Md_init_171 rfl 0 rfl ?_
  refine c_bipush (pc := 172) (v := 20) C d_Md_init_172 (by decide) ?_
  refine c_newI (pc := 174) (N := 20) 19 11081 C wd_127 (by decide) (by decide) (by decide) rfl rfl (by decide) (by decide) d_Md_init_174 (fun q19 => ?_)
  refine c_putF (pc := 176) (j := 0) (k := 26) [(h0, .inr (7, [.int 0, .int 0, .ref q1, .ref q2, .ref q3, .int 0, .ref q4, .ref q5, .ref q6, .int 0, .ref q7, .int 0, .int 0, .int 0, .ref q8, .ref q9, .ref q10, .int 0, .ref q11, .ref q12, .ref q13, .ref q14, .ref q15, .ref q16, .ref q17, .ref q18, .ref q19, .null, .null, .int 0, .int 0, .null, .null])), (q1, .inl (yI Y, (4, .inl (upd (upd (upd (upd (fun _ => 0) (0 : Int32).toNatClampNeg (-9)) (1 : Int32).toNatClampNeg (-9)) (2 : Int32).toNatClampNeg (-9)) (3 : Int32).toNatClampNeg (-9))))), (q2, .inl (yI Y, (4, .inl (fun _ => 0)))), (q3, .inl (yI Y, (240, .inl (fun _ => 0)))), (q4, .inl (yI Y, (4, .inl (fun _ => 0)))), (q5, .inl (yI Y, (4, .inl (fun _ => 0)))), (q6, .inl (yI Y, (12, .inl (fun _ => 0)))), (q7, .inl (yI Y, (20, .inl (fun _ => 0)))), (q8, .inl (yI Y, (4, .inl (fun _ => 0)))), (q9, .inl (yI Y, (4, .inl (fun _ => 0)))), (q10, .inl (yI Y, (12, .inl (fun _ => 0)))), (q11, .inl (yI Y, (256, .inl (fun _ => 0)))), (q12, .inl (yI Y, (4096, .inl (fun _ => 0)))), (q13, .inl (yI Y, (256, .inl (fun _ => 0)))), (q14, .inl (yI Y, (256, .inl (fun _ => 0)))), (q15, .inl (yI Y, (256, .inl (fun _ => 0)))), (q16, .inl (yI Y, (256, .inl (fun _ => 0)))), (q17, .inl (yI Y, (257, .inl (fun _ => 0)))), (q18, .inl (yI Y, (5120, .inl (fun _ => 0)))), (q19, .inl (yI Y, (20, .inl (fun _ => 0))))] C hi rfl (by decide) (by decide) wd_759 rfl rfl rfl rfl (Nat.le_of_ble_eq_true rfl) rfl d_Md_init_176 ?_
  refine c_aload_n (pc := 179) C d_Md_init_179 rfl 0 rfl ?_
  refine c_bipush (pc := 180) (v := 12) C d_Md_init_180 (by decide) ?_
  refine c_newI (pc := 182) (N := 12) 20 11093 C wd_127 (by decide) (by decide) (by decide) rfl rfl (by decide) (by decide) d_Md_init_182 (fun q20 => ?_)
  refine c_putF (pc := 184) (j := 0) (k := 27) [(h0, .inr (7, [.int 0, .int 0, .ref q1, .ref q2, .ref q3, .int 0, .ref q4, .ref q5, .ref q6, .int 0, .ref q7, .int 0, .int 0, .int 0, .ref q8, .ref q9, .ref q10, .int 0, .ref q11, .ref q12, .ref q13, .ref q14, .ref q15, .ref q16, .ref q17, .ref q18, .ref q19, .ref q20, .null, .int 0, .int 0, .null, .null])), (q1, .inl (yI Y, (4, .inl (upd (upd (upd (upd (fun _ => 0) (0 : Int32).toNatClampNeg (-9)) (1 : Int32).toNatClampNeg (-9)) (2 : Int32).toNatClampNeg (-9)) (3 : Int32).toNatClampNeg (-9))))), (q2, .inl (yI Y, (4, .inl (fun _ => 0)))), (q3, .inl (yI Y, (240, .inl (fun _ => 0)))), (q4, .inl (yI Y, (4, .inl (fun _ => 0)))), (q5, .inl (yI Y, (4, .inl (fun _ => 0)))), (q6, .inl (yI Y, (12, .inl (fun _ => 0)))), (q7, .inl (yI Y, (20, .inl (fun _ => 0)))), (q8, .inl (yI Y, (4, .inl (fun _ => 0)))), (q9, .inl (yI Y, (4, .inl (fun _ => 0)))), (q10, .inl (yI Y, (12, .inl (fun _ => 0)))), (q11, .inl (yI Y, (256, .inl (fun _ => 0)))), (q12, .inl (yI Y, (4096, .inl (fun _ => 0)))), (q13, .inl (yI Y, (256, .inl (fun _ => 0)))), (q14, .inl (yI Y, (256, .inl (fun _ => 0)))), (q15, .inl (yI Y, (256, .inl (fun _ => 0)))), (q16, .inl (yI Y, (256, .inl (fun _ => 0)))), (q17, .inl (yI Y, (257, .inl (fun _ => 0)))), (q18, .inl (yI Y, (5120, .inl (fun _ => 0)))), (q19, .inl (yI Y, (20, .inl (fun _ => 0)))), (q20, .inl (yI Y, (12, .inl (fun _ => 0))))] C hi rfl (by decide) (by decide) wd_760 rfl rfl rfl rfl (Nat.le_of_ble_eq_true rfl) rfl d_Md_init_184 ?_
  refine c_aload_n (pc := 187) C d_Md_init_187 rfl 0 rfl ?_
  refine c_bipush (pc := 188) (v := 20) C d_Md_init_188 (by decide) ?_
  refine c_newI (pc := 190) (N := 20) 21 11113 C wd_127 (by decide) (by decide) (by decide) rfl rfl (by decide) (by decide) d_Md_init_190 (fun q21 => ?_)
  refine c_putF (pc := 192) (j := 0) (k := 28) [(h0, .inr (7, [.int 0, .int 0, .ref q1, .ref q2, .ref q3, .int 0, .ref q4, .ref q5, .ref q6, .int 0, .ref q7, .int 0, .int 0, .int 0, .ref q8, .ref q9, .ref q10, .int 0, .ref q11, .ref q12, .ref q13, .ref q14, .ref q15, .ref q16, .ref q17, .ref q18, .ref q19, .ref q20, .ref q21, .int 0, .int 0, .null, .null])), (q1, .inl (yI Y, (4, .inl (upd (upd (upd (upd (fun _ => 0) (0 : Int32).toNatClampNeg (-9)) (1 : Int32).toNatClampNeg (-9)) (2 : Int32).toNatClampNeg (-9)) (3 : Int32).toNatClampNeg (-9))))), (q2, .inl (yI Y, (4, .inl (fun _ => 0)))), (q3, .inl (yI Y, (240, .inl (fun _ => 0)))), (q4, .inl (yI Y, (4, .inl (fun _ => 0)))), (q5, .inl (yI Y, (4, .inl (fun _ => 0)))), (q6, .inl (yI Y, (12, .inl (fun _ => 0)))), (q7, .inl (yI Y, (20, .inl (fun _ => 0)))), (q8, .inl (yI Y, (4, .inl (fun _ => 0)))), (q9, .inl (yI Y, (4, .inl (fun _ => 0)))), (q10, .inl (yI Y, (12, .inl (fun _ => 0)))), (q11, .inl (yI Y, (256, .inl (fun _ => 0)))), (q12, .inl (yI Y, (4096, .inl (fun _ => 0)))), (q13, .inl (yI Y, (256, .inl (fun _ => 0)))), (q14, .inl (yI Y, (256, .inl (fun _ => 0)))), (q15, .inl (yI Y, (256, .inl (fun _ => 0)))), (q16, .inl (yI Y, (256, .inl (fun _ => 0)))), (q17, .inl (yI Y, (257, .inl (fun _ => 0)))), (q18, .inl (yI Y, (5120, .inl (fun _ => 0)))), (q19, .inl (yI Y, (20, .inl (fun _ => 0)))), (q20, .inl (yI Y, (12, .inl (fun _ => 0)))), (q21, .inl (yI Y, (20, .inl (fun _ => 0))))] C hi rfl (by decide) (by decide) wd_761 rfl rfl rfl rfl (Nat.le_of_ble_eq_true rfl) rfl d_Md_init_192 ?_
  refine c_aload_n (pc := 195) C d_Md_init_195 rfl 0 rfl ?_
  refine c_bipush (pc := 196) (v := 8) C d_Md_init_196 (by decide) ?_
  refine c_newI (pc := 198) (N := 8) 22 11121 C wd_127 (by decide) (by decide) (by decide) rfl rfl (by decide) (by decide) d_Md_init_198 (fun q22 => ?_)
  refine c_putF (pc := 200) (j := 0) (k := 31) [(h0, .inr (7, [.int 0, .int 0, .ref q1, .ref q2, .ref q3, .int 0, .ref q4, .ref q5, .ref q6, .int 0, .ref q7, .int 0, .int 0, .int 0, .ref q8, .ref q9, .ref q10, .int 0, .ref q11, .ref q12, .ref q13, .ref q14, .ref q15, .ref q16, .ref q17, .ref q18, .ref q19, .ref q20, .ref q21, .int 0, .int 0, .ref q22, .null])), (q1, .inl (yI Y, (4, .inl (upd (upd (upd (upd (fun _ => 0) (0 : Int32).toNatClampNeg (-9)) (1 : Int32).toNatClampNeg (-9)) (2 : Int32).toNatClampNeg (-9)) (3 : Int32).toNatClampNeg (-9))))), (q2, .inl (yI Y, (4, .inl (fun _ => 0)))), (q3, .inl (yI Y, (240, .inl (fun _ => 0)))), (q4, .inl (yI Y, (4, .inl (fun _ => 0)))), (q5, .inl (yI Y, (4, .inl (fun _ => 0)))), (q6, .inl (yI Y, (12, .inl (fun _ => 0)))), (q7, .inl (yI Y, (20, .inl (fun _ => 0)))), (q8, .inl (yI Y, (4, .inl (fun _ => 0)))), (q9, .inl (yI Y, (4, .inl (fun _ => 0)))), (q10, .inl (yI Y, (12, .inl (fun _ => 0)))), (q11, .inl (yI Y, (256, .inl (fun _ => 0)))), (q12, .inl (yI Y, (4096, .inl (fun _ => 0)))), (q13, .inl (yI Y, (256, .inl (fun _ => 0)))), (q14, .inl (yI Y, (256, .inl (fun _ => 0)))), (q15, .inl (yI Y, (256, .inl (fun _ => 0)))), (q16, .inl (yI Y, (256, .inl (fun _ => 0)))), (q17, .inl (yI Y, (257, .inl (fun _ => 0)))), (q18, .inl (yI Y, (5120, .inl (fun _ => 0)))), (q19, .inl (yI Y, (20, .inl (fun _ => 0)))), (q20, .inl (yI Y, (12, .inl (fun _ => 0)))), (q21, .inl (yI Y, (20, .inl (fun _ => 0)))), (q22, .inl (yI Y, (8, .inl (fun _ => 0))))] C hi rfl (by decide) (by decide) wd_764 rfl rfl rfl rfl (Nat.le_of_ble_eq_true rfl) rfl d_Md_init_200 ?_
  refine c_aload_n (pc := 203) C d_Md_init_203 rfl 0 rfl ?_
  refine c_bipush (pc := 204) (v := 8) C d_Md_init_204 (by decide) ?_
  refine c_newI (pc := 206) (N := 8) 23 11129 C wd_127 (by decide) (by decide) (by decide) rfl rfl (by decide) (by decide) d_Md_init_206 (fun q23 => ?_)
  refine c_putF (pc := 208) (j := 0) (k := 32) [(h0, .inr (7, [.int 0, .int 0, .ref q1, .ref q2, .ref q3, .int 0, .ref q4, .ref q5, .ref q6, .int 0, .ref q7, .int 0, .int 0, .int 0, .ref q8, .ref q9, .ref q10, .int 0, .ref q11, .ref q12, .ref q13, .ref q14, .ref q15, .ref q16, .ref q17, .ref q18, .ref q19, .ref q20, .ref q21, .int 0, .int 0, .ref q22, .ref q23])), (q1, .inl (yI Y, (4, .inl (upd (upd (upd (upd (fun _ => 0) (0 : Int32).toNatClampNeg (-9)) (1 : Int32).toNatClampNeg (-9)) (2 : Int32).toNatClampNeg (-9)) (3 : Int32).toNatClampNeg (-9))))), (q2, .inl (yI Y, (4, .inl (fun _ => 0)))), (q3, .inl (yI Y, (240, .inl (fun _ => 0)))), (q4, .inl (yI Y, (4, .inl (fun _ => 0)))), (q5, .inl (yI Y, (4, .inl (fun _ => 0)))), (q6, .inl (yI Y, (12, .inl (fun _ => 0)))), (q7, .inl (yI Y, (20, .inl (fun _ => 0)))), (q8, .inl (yI Y, (4, .inl (fun _ => 0)))), (q9, .inl (yI Y, (4, .inl (fun _ => 0)))), (q10, .inl (yI Y, (12, .inl (fun _ => 0)))), (q11, .inl (yI Y, (256, .inl (fun _ => 0)))), (q12, .inl (yI Y, (4096, .inl (fun _ => 0)))), (q13, .inl (yI Y, (256, .inl (fun _ => 0)))), (q14, .inl (yI Y, (256, .inl (fun _ => 0)))), (q15, .inl (yI Y, (256, .inl (fun _ => 0)))), (q16, .inl (yI Y, (256, .inl (fun _ => 0)))), (q17, .inl (yI Y, (257, .inl (fun _ => 0)))), (q18, .inl (yI Y, (5120, .inl (fun _ => 0)))), (q19, .inl (yI Y, (20, .inl (fun _ => 0)))), (q20, .inl (yI Y, (12, .inl (fun _ => 0)))), (q21, .inl (yI Y, (20, .inl (fun _ => 0)))), (q22, .inl (yI Y, (8, .inl (fun _ => 0)))), (q23, .inl (yI Y, (8, .inl (fun _ => 0))))] C hi rfl (by decide) (by decide) wd_765 rfl rfl rfl rfl (Nat.le_of_ble_eq_true rfl) rfl d_Md_init_208 ?_
  exact c_vret (pc := 211) C hr d_Md_init_211 ⟨q1, q2, q3, q4, q5, q6, q7, q8, q9, q10, q11, q12, q13, q14, q15, q16, q17, q18, q19, q20, q21, q22, q23, rfl⟩
end
