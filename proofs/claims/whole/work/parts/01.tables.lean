-- ===== PART A: goes FIRST, ahead of the names: the tables' words, and 'selects' of the private methods out of them =====
/-- a private method of a class that the tables say can be made, by its rows of tables_1 -/
def lw_okq (q : MethodName × Nat) : Prop := (q.1.cls ≠ "java/lang/invoke/MethodHandle" ∧ q.1.cls ≠ "java/lang/invoke/VarHandle") ∧ Cond.instantiable q.1.cls q.2 ∈ tables_1 ∧ Cond.privateMethod q.1 ∈ tables_1 ∧ Cond.instanceMethod q.1 ∈ tables_1
theorem lw_p0 : lw_okq (⟨"LoadCycles", "faulted", "(I)I"⟩, 14) := ⟨⟨by decide +kernel, by decide +kernel⟩, List.mem_of_getElem? (i := 14) (by decide +kernel), List.mem_of_getElem? (i := 232) (by decide +kernel), List.mem_of_getElem? (i := 233) (by decide +kernel)⟩
theorem lw_p1 : lw_okq (⟨"LoadCycles$TextReader", "goesOn", "(I)Z"⟩, 2) := ⟨⟨by decide +kernel, by decide +kernel⟩, List.mem_of_getElem? (i := 117) (by decide +kernel), List.mem_of_getElem? (i := 240) (by decide +kernel), List.mem_of_getElem? (i := 241) (by decide +kernel)⟩
theorem lw_p2 : lw_okq (⟨"LoadCycles$TextReader", "takesOpening", "(I)Z"⟩, 2) := ⟨⟨by decide +kernel, by decide +kernel⟩, List.mem_of_getElem? (i := 117) (by decide +kernel), List.mem_of_getElem? (i := 244) (by decide +kernel), List.mem_of_getElem? (i := 245) (by decide +kernel)⟩
theorem lw_p3 : lw_okq (⟨"LoadCycles$TextReader", "takesMark", "(I)Z"⟩, 2) := ⟨⟨by decide +kernel, by decide +kernel⟩, List.mem_of_getElem? (i := 117) (by decide +kernel), List.mem_of_getElem? (i := 248) (by decide +kernel), List.mem_of_getElem? (i := 249) (by decide +kernel)⟩
theorem lw_p4 : lw_okq (⟨"LoadCycles$TextReader", "takesKind", "(I)Z"⟩, 2) := ⟨⟨by decide +kernel, by decide +kernel⟩, List.mem_of_getElem? (i := 117) (by decide +kernel), List.mem_of_getElem? (i := 252) (by decide +kernel), List.mem_of_getElem? (i := 253) (by decide +kernel)⟩
theorem lw_p5 : lw_okq (⟨"LoadCycles$TextReader", "takesLevel", "(I)Z"⟩, 2) := ⟨⟨by decide +kernel, by decide +kernel⟩, List.mem_of_getElem? (i := 117) (by decide +kernel), List.mem_of_getElem? (i := 260) (by decide +kernel), List.mem_of_getElem? (i := 261) (by decide +kernel)⟩
theorem lw_p6 : lw_okq (⟨"LoadCycles", "forgetBest", "()V"⟩, 14) := ⟨⟨by decide +kernel, by decide +kernel⟩, List.mem_of_getElem? (i := 14) (by decide +kernel), List.mem_of_getElem? (i := 282) (by decide +kernel), List.mem_of_getElem? (i := 283) (by decide +kernel)⟩
theorem lw_p7 : lw_okq (⟨"LoadCycles", "hasHouse", "()Z"⟩, 14) := ⟨⟨by decide +kernel, by decide +kernel⟩, List.mem_of_getElem? (i := 14) (by decide +kernel), List.mem_of_getElem? (i := 330) (by decide +kernel), List.mem_of_getElem? (i := 331) (by decide +kernel)⟩
theorem lw_p8 : lw_okq (⟨"LoadCycles", "knownBest", "()LLoadCycles$Doing;"⟩, 14) := ⟨⟨by decide +kernel, by decide +kernel⟩, List.mem_of_getElem? (i := 14) (by decide +kernel), List.mem_of_getElem? (i := 358) (by decide +kernel), List.mem_of_getElem? (i := 359) (by decide +kernel)⟩
theorem lw_p9 : lw_okq (⟨"LoadCycles$Unmixer", "listMixes", "(LLoadCycles$House;)V"⟩, 6) := ⟨⟨by decide +kernel, by decide +kernel⟩, List.mem_of_getElem? (i := 92) (by decide +kernel), List.mem_of_getElem? (i := 366) (by decide +kernel), List.mem_of_getElem? (i := 367) (by decide +kernel)⟩
theorem lw_p10 : lw_okq (⟨"LoadCycles$Unmixer", "listWith", "(LLoadCycles$House;I)V"⟩, 6) := ⟨⟨by decide +kernel, by decide +kernel⟩, List.mem_of_getElem? (i := 92) (by decide +kernel), List.mem_of_getElem? (i := 370) (by decide +kernel), List.mem_of_getElem? (i := 371) (by decide +kernel)⟩
theorem lw_p11 : lw_okq (⟨"LoadCycles$Unmixer", "repeatAfter", "(III)V"⟩, 6) := ⟨⟨by decide +kernel, by decide +kernel⟩, List.mem_of_getElem? (i := 92) (by decide +kernel), List.mem_of_getElem? (i := 379) (by decide +kernel), List.mem_of_getElem? (i := 380) (by decide +kernel)⟩
theorem lw_p12 : lw_okq (⟨"LoadCycles$Unmixer", "findCosts", "(LLoadCycles$House;)V"⟩, 6) := ⟨⟨by decide +kernel, by decide +kernel⟩, List.mem_of_getElem? (i := 92) (by decide +kernel), List.mem_of_getElem? (i := 383) (by decide +kernel), List.mem_of_getElem? (i := 384) (by decide +kernel)⟩
theorem lw_p13 : lw_okq (⟨"LoadCycles$Unmixer", "letGoOn", "(I)V"⟩, 6) := ⟨⟨by decide +kernel, by decide +kernel⟩, List.mem_of_getElem? (i := 92) (by decide +kernel), List.mem_of_getElem? (i := 392) (by decide +kernel), List.mem_of_getElem? (i := 393) (by decide +kernel)⟩
theorem lw_p14 : lw_okq (⟨"LoadCycles$Unmixer", "bestSet", "(LLoadCycles$House;II)I"⟩, 6) := ⟨⟨by decide +kernel, by decide +kernel⟩, List.mem_of_getElem? (i := 92) (by decide +kernel), List.mem_of_getElem? (i := 408) (by decide +kernel), List.mem_of_getElem? (i := 409) (by decide +kernel)⟩
theorem lw_p15 : lw_okq (⟨"LoadCycles$Unmixer", "mixBehind", "(LLoadCycles$House;II)I"⟩, 6) := ⟨⟨by decide +kernel, by decide +kernel⟩, List.mem_of_getElem? (i := 92) (by decide +kernel), List.mem_of_getElem? (i := 412) (by decide +kernel), List.mem_of_getElem? (i := 413) (by decide +kernel)⟩
def lw_privs_1 : List (MethodName × Nat) := [(⟨"LoadCycles", "faulted", "(I)I"⟩, 14), (⟨"LoadCycles$TextReader", "goesOn", "(I)Z"⟩, 2), (⟨"LoadCycles$TextReader", "takesOpening", "(I)Z"⟩, 2), (⟨"LoadCycles$TextReader", "takesMark", "(I)Z"⟩, 2), (⟨"LoadCycles$TextReader", "takesKind", "(I)Z"⟩, 2), (⟨"LoadCycles$TextReader", "takesLevel", "(I)Z"⟩, 2), (⟨"LoadCycles", "forgetBest", "()V"⟩, 14), (⟨"LoadCycles", "hasHouse", "()Z"⟩, 14), (⟨"LoadCycles", "knownBest", "()LLoadCycles$Doing;"⟩, 14), (⟨"LoadCycles$Unmixer", "listMixes", "(LLoadCycles$House;)V"⟩, 6), (⟨"LoadCycles$Unmixer", "listWith", "(LLoadCycles$House;I)V"⟩, 6), (⟨"LoadCycles$Unmixer", "repeatAfter", "(III)V"⟩, 6), (⟨"LoadCycles$Unmixer", "findCosts", "(LLoadCycles$House;)V"⟩, 6), (⟨"LoadCycles$Unmixer", "letGoOn", "(I)V"⟩, 6), (⟨"LoadCycles$Unmixer", "bestSet", "(LLoadCycles$House;II)I"⟩, 6), (⟨"LoadCycles$Unmixer", "mixBehind", "(LLoadCycles$House;II)I"⟩, 6)]
theorem lw_r1 : ∀ q ∈ lw_privs_1, lw_okq q := List.forall_mem_cons.mpr ⟨lw_p0, List.forall_mem_cons.mpr ⟨lw_p1, List.forall_mem_cons.mpr ⟨lw_p2, List.forall_mem_cons.mpr ⟨lw_p3, List.forall_mem_cons.mpr ⟨lw_p4, List.forall_mem_cons.mpr ⟨lw_p5, List.forall_mem_cons.mpr ⟨lw_p6, List.forall_mem_cons.mpr ⟨lw_p7, List.forall_mem_cons.mpr ⟨lw_p8, List.forall_mem_cons.mpr ⟨lw_p9, List.forall_mem_cons.mpr ⟨lw_p10, List.forall_mem_cons.mpr ⟨lw_p11, List.forall_mem_cons.mpr ⟨lw_p12, List.forall_mem_cons.mpr ⟨lw_p13, List.forall_mem_cons.mpr ⟨lw_p14, List.forall_mem_cons.mpr ⟨lw_p15, fun _ h => absurd h List.not_mem_nil⟩⟩⟩⟩⟩⟩⟩⟩⟩⟩⟩⟩⟩⟩⟩⟩
theorem lw_p16 : lw_okq (⟨"LoadCycles", "liveTrialDay", "(LLoadCycles$Sheet;II)I"⟩, 14) := ⟨⟨by decide +kernel, by decide +kernel⟩, List.mem_of_getElem? (i := 14) (by decide +kernel), List.mem_of_getElem? (i := 467) (by decide +kernel), List.mem_of_getElem? (i := 468) (by decide +kernel)⟩
theorem lw_p17 : lw_okq (⟨"LoadCycles$House", "actedOnBase", "(I)Z"⟩, 7) := ⟨⟨by decide +kernel, by decide +kernel⟩, List.mem_of_getElem? (i := 22) (by decide +kernel), List.mem_of_getElem? (i := 475) (by decide +kernel), List.mem_of_getElem? (i := 476) (by decide +kernel)⟩
theorem lw_p18 : lw_okq (⟨"LoadCycles$House", "actedOnValue", "(II)Z"⟩, 7) := ⟨⟨by decide +kernel, by decide +kernel⟩, List.mem_of_getElem? (i := 22) (by decide +kernel), List.mem_of_getElem? (i := 480) (by decide +kernel), List.mem_of_getElem? (i := 481) (by decide +kernel)⟩
theorem lw_p19 : lw_okq (⟨"LoadCycles$House", "actedOnLevel", "(III)Z"⟩, 7) := ⟨⟨by decide +kernel, by decide +kernel⟩, List.mem_of_getElem? (i := 22) (by decide +kernel), List.mem_of_getElem? (i := 485) (by decide +kernel), List.mem_of_getElem? (i := 486) (by decide +kernel)⟩
theorem lw_p20 : lw_okq (⟨"LoadCycles", "answerOfTrialDay", "(I)I"⟩, 14) := ⟨⟨by decide +kernel, by decide +kernel⟩, List.mem_of_getElem? (i := 14) (by decide +kernel), List.mem_of_getElem? (i := 491) (by decide +kernel), List.mem_of_getElem? (i := 492) (by decide +kernel)⟩
theorem lw_p21 : lw_okq (⟨"LoadCycles", "powerGain", "(LLoadCycles$Doing;II)I"⟩, 14) := ⟨⟨by decide +kernel, by decide +kernel⟩, List.mem_of_getElem? (i := 14) (by decide +kernel), List.mem_of_getElem? (i := 507) (by decide +kernel), List.mem_of_getElem? (i := 508) (by decide +kernel)⟩
theorem lw_p22 : lw_okq (⟨"LoadCycles", "readingsHold", "(II)Z"⟩, 14) := ⟨⟨by decide +kernel, by decide +kernel⟩, List.mem_of_getElem? (i := 14) (by decide +kernel), List.mem_of_getElem? (i := 546) (by decide +kernel), List.mem_of_getElem? (i := 547) (by decide +kernel)⟩
theorem lw_p23 : lw_okq (⟨"LoadCycles", "unmixGuess", "(II)V"⟩, 14) := ⟨⟨by decide +kernel, by decide +kernel⟩, List.mem_of_getElem? (i := 14) (by decide +kernel), List.mem_of_getElem? (i := 554) (by decide +kernel), List.mem_of_getElem? (i := 555) (by decide +kernel)⟩
theorem lw_p24 : lw_okq (⟨"LoadCycles", "tellPlain", "(I)I"⟩, 14) := ⟨⟨by decide +kernel, by decide +kernel⟩, List.mem_of_getElem? (i := 14) (by decide +kernel), List.mem_of_getElem? (i := 616) (by decide +kernel), List.mem_of_getElem? (i := 617) (by decide +kernel)⟩
theorem lw_p25 : lw_okq (⟨"LoadCycles", "leaveTrace", "(I)V"⟩, 14) := ⟨⟨by decide +kernel, by decide +kernel⟩, List.mem_of_getElem? (i := 14) (by decide +kernel), List.mem_of_getElem? (i := 620) (by decide +kernel), List.mem_of_getElem? (i := 621) (by decide +kernel)⟩
theorem lw_p26 : lw_okq (⟨"LoadCycles", "tellHeavy", "(I)I"⟩, 14) := ⟨⟨by decide +kernel, by decide +kernel⟩, List.mem_of_getElem? (i := 14) (by decide +kernel), List.mem_of_getElem? (i := 624) (by decide +kernel), List.mem_of_getElem? (i := 625) (by decide +kernel)⟩
theorem lw_p27 : lw_okq (⟨"LoadCycles", "tellDouble", "(I)I"⟩, 14) := ⟨⟨by decide +kernel, by decide +kernel⟩, List.mem_of_getElem? (i := 14) (by decide +kernel), List.mem_of_getElem? (i := 628) (by decide +kernel), List.mem_of_getElem? (i := 629) (by decide +kernel)⟩
theorem lw_p28 : lw_okq (⟨"LoadCycles", "ownMetering", "()I"⟩, 14) := ⟨⟨by decide +kernel, by decide +kernel⟩, List.mem_of_getElem? (i := 14) (by decide +kernel), List.mem_of_getElem? (i := 636) (by decide +kernel), List.mem_of_getElem? (i := 637) (by decide +kernel)⟩
theorem lw_p29 : lw_okq (⟨"LoadCycles", "lentMetering", "(I)I"⟩, 14) := ⟨⟨by decide +kernel, by decide +kernel⟩, List.mem_of_getElem? (i := 14) (by decide +kernel), List.mem_of_getElem? (i := 640) (by decide +kernel), List.mem_of_getElem? (i := 641) (by decide +kernel)⟩
theorem lw_p30 : lw_okq (⟨"LoadCyclesModel", "against", "(IIII)I"⟩, 33) := ⟨⟨by decide +kernel, by decide +kernel⟩, List.mem_of_getElem? (i := 664) (by decide +kernel), List.mem_of_getElem? (i := 785) (by decide +kernel), List.mem_of_getElem? (i := 786) (by decide +kernel)⟩
theorem lw_p31 : lw_okq (⟨"LoadCyclesModel", "fails", "(I)I"⟩, 33) := ⟨⟨by decide +kernel, by decide +kernel⟩, List.mem_of_getElem? (i := 664) (by decide +kernel), List.mem_of_getElem? (i := 789) (by decide +kernel), List.mem_of_getElem? (i := 790) (by decide +kernel)⟩
def lw_privs_2 : List (MethodName × Nat) := [(⟨"LoadCycles", "liveTrialDay", "(LLoadCycles$Sheet;II)I"⟩, 14), (⟨"LoadCycles$House", "actedOnBase", "(I)Z"⟩, 7), (⟨"LoadCycles$House", "actedOnValue", "(II)Z"⟩, 7), (⟨"LoadCycles$House", "actedOnLevel", "(III)Z"⟩, 7), (⟨"LoadCycles", "answerOfTrialDay", "(I)I"⟩, 14), (⟨"LoadCycles", "powerGain", "(LLoadCycles$Doing;II)I"⟩, 14), (⟨"LoadCycles", "readingsHold", "(II)Z"⟩, 14), (⟨"LoadCycles", "unmixGuess", "(II)V"⟩, 14), (⟨"LoadCycles", "tellPlain", "(I)I"⟩, 14), (⟨"LoadCycles", "leaveTrace", "(I)V"⟩, 14), (⟨"LoadCycles", "tellHeavy", "(I)I"⟩, 14), (⟨"LoadCycles", "tellDouble", "(I)I"⟩, 14), (⟨"LoadCycles", "ownMetering", "()I"⟩, 14), (⟨"LoadCycles", "lentMetering", "(I)I"⟩, 14), (⟨"LoadCyclesModel", "against", "(IIII)I"⟩, 33), (⟨"LoadCyclesModel", "fails", "(I)I"⟩, 33)]
theorem lw_r2 : ∀ q ∈ lw_privs_2, lw_okq q := List.forall_mem_cons.mpr ⟨lw_p16, List.forall_mem_cons.mpr ⟨lw_p17, List.forall_mem_cons.mpr ⟨lw_p18, List.forall_mem_cons.mpr ⟨lw_p19, List.forall_mem_cons.mpr ⟨lw_p20, List.forall_mem_cons.mpr ⟨lw_p21, List.forall_mem_cons.mpr ⟨lw_p22, List.forall_mem_cons.mpr ⟨lw_p23, List.forall_mem_cons.mpr ⟨lw_p24, List.forall_mem_cons.mpr ⟨lw_p25, List.forall_mem_cons.mpr ⟨lw_p26, List.forall_mem_cons.mpr ⟨lw_p27, List.forall_mem_cons.mpr ⟨lw_p28, List.forall_mem_cons.mpr ⟨lw_p29, List.forall_mem_cons.mpr ⟨lw_p30, List.forall_mem_cons.mpr ⟨lw_p31, fun _ h => absurd h List.not_mem_nil⟩⟩⟩⟩⟩⟩⟩⟩⟩⟩⟩⟩⟩⟩⟩⟩
theorem lw_p32 : lw_okq (⟨"LoadCyclesModel", "readAll", "(I)Z"⟩, 33) := ⟨⟨by decide +kernel, by decide +kernel⟩, List.mem_of_getElem? (i := 664) (by decide +kernel), List.mem_of_getElem? (i := 793) (by decide +kernel), List.mem_of_getElem? (i := 794) (by decide +kernel)⟩
theorem lw_p33 : lw_okq (⟨"LoadCyclesModel", "isSign", "(II)Z"⟩, 33) := ⟨⟨by decide +kernel, by decide +kernel⟩, List.mem_of_getElem? (i := 664) (by decide +kernel), List.mem_of_getElem? (i := 797) (by decide +kernel), List.mem_of_getElem? (i := 798) (by decide +kernel)⟩
theorem lw_p34 : lw_okq (⟨"LoadCyclesModel", "readAppliance", "(I)Z"⟩, 33) := ⟨⟨by decide +kernel, by decide +kernel⟩, List.mem_of_getElem? (i := 664) (by decide +kernel), List.mem_of_getElem? (i := 801) (by decide +kernel), List.mem_of_getElem? (i := 802) (by decide +kernel)⟩
theorem lw_p35 : lw_okq (⟨"LoadCyclesModel", "isAppliance", "(I)Z"⟩, 33) := ⟨⟨by decide +kernel, by decide +kernel⟩, List.mem_of_getElem? (i := 664) (by decide +kernel), List.mem_of_getElem? (i := 814) (by decide +kernel), List.mem_of_getElem? (i := 815) (by decide +kernel)⟩
theorem lw_p36 : lw_okq (⟨"LoadCyclesModel", "powerOf", "(II)I"⟩, 33) := ⟨⟨by decide +kernel, by decide +kernel⟩, List.mem_of_getElem? (i := 664) (by decide +kernel), List.mem_of_getElem? (i := 822) (by decide +kernel), List.mem_of_getElem? (i := 823) (by decide +kernel)⟩
theorem lw_p37 : lw_okq (⟨"LoadCyclesModel", "isTime", "(I)Z"⟩, 33) := ⟨⟨by decide +kernel, by decide +kernel⟩, List.mem_of_getElem? (i := 664) (by decide +kernel), List.mem_of_getElem? (i := 840) (by decide +kernel), List.mem_of_getElem? (i := 841) (by decide +kernel)⟩
theorem lw_p38 : lw_okq (⟨"LoadCyclesModel", "canBase", "(I)Z"⟩, 33) := ⟨⟨by decide +kernel, by decide +kernel⟩, List.mem_of_getElem? (i := 664) (by decide +kernel), List.mem_of_getElem? (i := 848) (by decide +kernel), List.mem_of_getElem? (i := 849) (by decide +kernel)⟩
theorem lw_p39 : lw_okq (⟨"LoadCyclesModel", "findBest", "()V"⟩, 33) := ⟨⟨by decide +kernel, by decide +kernel⟩, List.mem_of_getElem? (i := 664) (by decide +kernel), List.mem_of_getElem? (i := 856) (by decide +kernel), List.mem_of_getElem? (i := 857) (by decide +kernel)⟩
theorem lw_p40 : lw_okq (⟨"LoadCyclesModel", "prepare", "()V"⟩, 33) := ⟨⟨by decide +kernel, by decide +kernel⟩, List.mem_of_getElem? (i := 664) (by decide +kernel), List.mem_of_getElem? (i := 860) (by decide +kernel), List.mem_of_getElem? (i := 861) (by decide +kernel)⟩
theorem lw_p41 : lw_okq (⟨"LoadCyclesModel", "powerOfRow", "(I)I"⟩, 33) := ⟨⟨by decide +kernel, by decide +kernel⟩, List.mem_of_getElem? (i := 664) (by decide +kernel), List.mem_of_getElem? (i := 864) (by decide +kernel), List.mem_of_getElem? (i := 865) (by decide +kernel)⟩
theorem lw_p42 : lw_okq (⟨"LoadCyclesModel", "goesOn", "(II)I"⟩, 33) := ⟨⟨by decide +kernel, by decide +kernel⟩, List.mem_of_getElem? (i := 664) (by decide +kernel), List.mem_of_getElem? (i := 871) (by decide +kernel), List.mem_of_getElem? (i := 872) (by decide +kernel)⟩
theorem lw_p43 : lw_okq (⟨"LoadCyclesModel", "goFrom", "(II)V"⟩, 33) := ⟨⟨by decide +kernel, by decide +kernel⟩, List.mem_of_getElem? (i := 664) (by decide +kernel), List.mem_of_getElem? (i := 875) (by decide +kernel), List.mem_of_getElem? (i := 876) (by decide +kernel)⟩
theorem lw_p44 : lw_okq (⟨"LoadCyclesModel", "isBetter", "(IIII)Z"⟩, 33) := ⟨⟨by decide +kernel, by decide +kernel⟩, List.mem_of_getElem? (i := 664) (by decide +kernel), List.mem_of_getElem? (i := 882) (by decide +kernel), List.mem_of_getElem? (i := 883) (by decide +kernel)⟩
theorem lw_p45 : lw_okq (⟨"LoadCyclesModel", "rankAll", "(I)V"⟩, 33) := ⟨⟨by decide +kernel, by decide +kernel⟩, List.mem_of_getElem? (i := 664) (by decide +kernel), List.mem_of_getElem? (i := 886) (by decide +kernel), List.mem_of_getElem? (i := 887) (by decide +kernel)⟩
theorem lw_p46 : lw_okq (⟨"LoadCyclesModel", "walkBack", "()V"⟩, 33) := ⟨⟨by decide +kernel, by decide +kernel⟩, List.mem_of_getElem? (i := 664) (by decide +kernel), List.mem_of_getElem? (i := 890) (by decide +kernel), List.mem_of_getElem? (i := 891) (by decide +kernel)⟩
theorem lw_p47 : lw_okq (⟨"LoadCyclesModel", "restOf", "(I)I"⟩, 33) := ⟨⟨by decide +kernel, by decide +kernel⟩, List.mem_of_getElem? (i := 664) (by decide +kernel), List.mem_of_getElem? (i := 898) (by decide +kernel), List.mem_of_getElem? (i := 899) (by decide +kernel)⟩
def lw_privs_3 : List (MethodName × Nat) := [(⟨"LoadCyclesModel", "readAll", "(I)Z"⟩, 33), (⟨"LoadCyclesModel", "isSign", "(II)Z"⟩, 33), (⟨"LoadCyclesModel", "readAppliance", "(I)Z"⟩, 33), (⟨"LoadCyclesModel", "isAppliance", "(I)Z"⟩, 33), (⟨"LoadCyclesModel", "powerOf", "(II)I"⟩, 33), (⟨"LoadCyclesModel", "isTime", "(I)Z"⟩, 33), (⟨"LoadCyclesModel", "canBase", "(I)Z"⟩, 33), (⟨"LoadCyclesModel", "findBest", "()V"⟩, 33), (⟨"LoadCyclesModel", "prepare", "()V"⟩, 33), (⟨"LoadCyclesModel", "powerOfRow", "(I)I"⟩, 33), (⟨"LoadCyclesModel", "goesOn", "(II)I"⟩, 33), (⟨"LoadCyclesModel", "goFrom", "(II)V"⟩, 33), (⟨"LoadCyclesModel", "isBetter", "(IIII)Z"⟩, 33), (⟨"LoadCyclesModel", "rankAll", "(I)V"⟩, 33), (⟨"LoadCyclesModel", "walkBack", "()V"⟩, 33), (⟨"LoadCyclesModel", "restOf", "(I)I"⟩, 33)]
theorem lw_r3 : ∀ q ∈ lw_privs_3, lw_okq q := List.forall_mem_cons.mpr ⟨lw_p32, List.forall_mem_cons.mpr ⟨lw_p33, List.forall_mem_cons.mpr ⟨lw_p34, List.forall_mem_cons.mpr ⟨lw_p35, List.forall_mem_cons.mpr ⟨lw_p36, List.forall_mem_cons.mpr ⟨lw_p37, List.forall_mem_cons.mpr ⟨lw_p38, List.forall_mem_cons.mpr ⟨lw_p39, List.forall_mem_cons.mpr ⟨lw_p40, List.forall_mem_cons.mpr ⟨lw_p41, List.forall_mem_cons.mpr ⟨lw_p42, List.forall_mem_cons.mpr ⟨lw_p43, List.forall_mem_cons.mpr ⟨lw_p44, List.forall_mem_cons.mpr ⟨lw_p45, List.forall_mem_cons.mpr ⟨lw_p46, List.forall_mem_cons.mpr ⟨lw_p47, fun _ h => absurd h List.not_mem_nil⟩⟩⟩⟩⟩⟩⟩⟩⟩⟩⟩⟩⟩⟩⟩⟩
theorem lw_p48 : lw_okq (⟨"LoadCyclesModel", "rests", "()I"⟩, 33) := ⟨⟨by decide +kernel, by decide +kernel⟩, List.mem_of_getElem? (i := 664) (by decide +kernel), List.mem_of_getElem? (i := 906) (by decide +kernel), List.mem_of_getElem? (i := 907) (by decide +kernel)⟩
theorem lw_p49 : lw_okq (⟨"LoadCyclesModel", "changes", "(Z)I"⟩, 33) := ⟨⟨by decide +kernel, by decide +kernel⟩, List.mem_of_getElem? (i := 664) (by decide +kernel), List.mem_of_getElem? (i := 910) (by decide +kernel), List.mem_of_getElem? (i := 911) (by decide +kernel)⟩
theorem lw_p50 : lw_okq (⟨"LoadCyclesModel", "ahead", "(II)I"⟩, 33) := ⟨⟨by decide +kernel, by decide +kernel⟩, List.mem_of_getElem? (i := 664) (by decide +kernel), List.mem_of_getElem? (i := 914) (by decide +kernel), List.mem_of_getElem? (i := 915) (by decide +kernel)⟩
theorem lw_p51 : lw_okq (⟨"LoadCyclesModel", "energies", "()I"⟩, 33) := ⟨⟨by decide +kernel, by decide +kernel⟩, List.mem_of_getElem? (i := 664) (by decide +kernel), List.mem_of_getElem? (i := 918) (by decide +kernel), List.mem_of_getElem? (i := 919) (by decide +kernel)⟩
theorem lw_p52 : lw_okq (⟨"LoadCyclesModel", "energyOf", "(I)I"⟩, 33) := ⟨⟨by decide +kernel, by decide +kernel⟩, List.mem_of_getElem? (i := 664) (by decide +kernel), List.mem_of_getElem? (i := 922) (by decide +kernel), List.mem_of_getElem? (i := 923) (by decide +kernel)⟩
theorem lw_p53 : lw_okq (⟨"LoadCyclesModel", "keep", "()V"⟩, 33) := ⟨⟨by decide +kernel, by decide +kernel⟩, List.mem_of_getElem? (i := 664) (by decide +kernel), List.mem_of_getElem? (i := 941) (by decide +kernel), List.mem_of_getElem? (i := 942) (by decide +kernel)⟩
theorem lw_p54 : lw_okq (⟨"LoadCyclesModel", "goDay", "(II)I"⟩, 33) := ⟨⟨by decide +kernel, by decide +kernel⟩, List.mem_of_getElem? (i := 664) (by decide +kernel), List.mem_of_getElem? (i := 945) (by decide +kernel), List.mem_of_getElem? (i := 946) (by decide +kernel)⟩
theorem lw_p55 : lw_okq (⟨"LoadCyclesModel", "canAct", "(II)Z"⟩, 33) := ⟨⟨by decide +kernel, by decide +kernel⟩, List.mem_of_getElem? (i := 664) (by decide +kernel), List.mem_of_getElem? (i := 949) (by decide +kernel), List.mem_of_getElem? (i := 950) (by decide +kernel)⟩
theorem lw_p56 : lw_okq (⟨"LoadCyclesModel", "tellDay", "(I)I"⟩, 33) := ⟨⟨by decide +kernel, by decide +kernel⟩, List.mem_of_getElem? (i := 664) (by decide +kernel), List.mem_of_getElem? (i := 953) (by decide +kernel), List.mem_of_getElem? (i := 954) (by decide +kernel)⟩
theorem lw_p57 : lw_okq (⟨"LoadCyclesModel", "putBack", "()V"⟩, 33) := ⟨⟨by decide +kernel, by decide +kernel⟩, List.mem_of_getElem? (i := 664) (by decide +kernel), List.mem_of_getElem? (i := 957) (by decide +kernel), List.mem_of_getElem? (i := 958) (by decide +kernel)⟩
theorem lw_p58 : lw_okq (⟨"LoadCyclesModel", "jumpOf", "(I)I"⟩, 33) := ⟨⟨by decide +kernel, by decide +kernel⟩, List.mem_of_getElem? (i := 664) (by decide +kernel), List.mem_of_getElem? (i := 965) (by decide +kernel), List.mem_of_getElem? (i := 966) (by decide +kernel)⟩
theorem lw_p59 : lw_okq (⟨"LoadCyclesModel", "moreOf", "(II)I"⟩, 33) := ⟨⟨by decide +kernel, by decide +kernel⟩, List.mem_of_getElem? (i := 664) (by decide +kernel), List.mem_of_getElem? (i := 973) (by decide +kernel), List.mem_of_getElem? (i := 974) (by decide +kernel)⟩
theorem lw_p60 : lw_okq (⟨"LoadCyclesModel", "allValues", "()I"⟩, 33) := ⟨⟨by decide +kernel, by decide +kernel⟩, List.mem_of_getElem? (i := 664) (by decide +kernel), List.mem_of_getElem? (i := 985) (by decide +kernel), List.mem_of_getElem? (i := 986) (by decide +kernel)⟩
theorem lw_p61 : lw_okq (⟨"LoadCyclesModel", "areSo", "()Z"⟩, 33) := ⟨⟨by decide +kernel, by decide +kernel⟩, List.mem_of_getElem? (i := 664) (by decide +kernel), List.mem_of_getElem? (i := 1010) (by decide +kernel), List.mem_of_getElem? (i := 1011) (by decide +kernel)⟩
theorem lw_p62 : lw_okq (⟨"LoadCyclesModel", "lost", "(I)J"⟩, 33) := ⟨⟨by decide +kernel, by decide +kernel⟩, List.mem_of_getElem? (i := 664) (by decide +kernel), List.mem_of_getElem? (i := 1041) (by decide +kernel), List.mem_of_getElem? (i := 1042) (by decide +kernel)⟩
theorem lw_p63 : lw_okq (⟨"LoadCyclesModel", "begins", "(I)V"⟩, 33) := ⟨⟨by decide +kernel, by decide +kernel⟩, List.mem_of_getElem? (i := 664) (by decide +kernel), List.mem_of_getElem? (i := 1053) (by decide +kernel), List.mem_of_getElem? (i := 1054) (by decide +kernel)⟩
def lw_privs_4 : List (MethodName × Nat) := [(⟨"LoadCyclesModel", "rests", "()I"⟩, 33), (⟨"LoadCyclesModel", "changes", "(Z)I"⟩, 33), (⟨"LoadCyclesModel", "ahead", "(II)I"⟩, 33), (⟨"LoadCyclesModel", "energies", "()I"⟩, 33), (⟨"LoadCyclesModel", "energyOf", "(I)I"⟩, 33), (⟨"LoadCyclesModel", "keep", "()V"⟩, 33), (⟨"LoadCyclesModel", "goDay", "(II)I"⟩, 33), (⟨"LoadCyclesModel", "canAct", "(II)Z"⟩, 33), (⟨"LoadCyclesModel", "tellDay", "(I)I"⟩, 33), (⟨"LoadCyclesModel", "putBack", "()V"⟩, 33), (⟨"LoadCyclesModel", "jumpOf", "(I)I"⟩, 33), (⟨"LoadCyclesModel", "moreOf", "(II)I"⟩, 33), (⟨"LoadCyclesModel", "allValues", "()I"⟩, 33), (⟨"LoadCyclesModel", "areSo", "()Z"⟩, 33), (⟨"LoadCyclesModel", "lost", "(I)J"⟩, 33), (⟨"LoadCyclesModel", "begins", "(I)V"⟩, 33)]
theorem lw_r4 : ∀ q ∈ lw_privs_4, lw_okq q := List.forall_mem_cons.mpr ⟨lw_p48, List.forall_mem_cons.mpr ⟨lw_p49, List.forall_mem_cons.mpr ⟨lw_p50, List.forall_mem_cons.mpr ⟨lw_p51, List.forall_mem_cons.mpr ⟨lw_p52, List.forall_mem_cons.mpr ⟨lw_p53, List.forall_mem_cons.mpr ⟨lw_p54, List.forall_mem_cons.mpr ⟨lw_p55, List.forall_mem_cons.mpr ⟨lw_p56, List.forall_mem_cons.mpr ⟨lw_p57, List.forall_mem_cons.mpr ⟨lw_p58, List.forall_mem_cons.mpr ⟨lw_p59, List.forall_mem_cons.mpr ⟨lw_p60, List.forall_mem_cons.mpr ⟨lw_p61, List.forall_mem_cons.mpr ⟨lw_p62, List.forall_mem_cons.mpr ⟨lw_p63, fun _ h => absurd h List.not_mem_nil⟩⟩⟩⟩⟩⟩⟩⟩⟩⟩⟩⟩⟩⟩⟩⟩
def lw_privs : List (MethodName × Nat) := lw_privs_1 ++ (lw_privs_2 ++ (lw_privs_3 ++ (lw_privs_4)))
def lw_tbl : List Cond := k2_sels lw_privs ++ tables_1
theorem lw_privs_ok : ∀ q ∈ lw_privs, lw_okq q := by
  show ∀ q ∈ lw_privs_1 ++ (lw_privs_2 ++ (lw_privs_3 ++ (lw_privs_4))), lw_okq q
  exact List.forall_mem_append.mpr ⟨lw_r1, List.forall_mem_append.mpr ⟨lw_r2, List.forall_mem_append.mpr ⟨lw_r3, lw_r4⟩⟩⟩
/-- the words that every method's contract takes: those of the tables that stay as the tables warm -/
def TB : List Cond := lw_tbl.filter goodWord
theorem tb_of {w : Cond} (h : w ∈ lw_tbl) (hg : goodWord w = true) : w ∈ TB := List.mem_filter.mpr ⟨h, hg⟩
theorem tb_goodIn : GoodIn TB TB := fun _ h => ⟨h, good_of_word (List.mem_filter.mp h).2⟩
theorem wd_0 : (.selects "LoadCycles" ⟨"LoadCycles", "faulted", "(I)I"⟩ ⟨"LoadCycles", "faulted", "(I)I"⟩ : Cond) ∈ TB := tb_of (List.mem_of_getElem? (i := 0) (by decide +kernel)) rfl
theorem wd_1 : (.selects "LoadCycles$TextReader" ⟨"LoadCycles$TextReader", "goesOn", "(I)Z"⟩ ⟨"LoadCycles$TextReader", "goesOn", "(I)Z"⟩ : Cond) ∈ TB := tb_of (List.mem_of_getElem? (i := 1) (by decide +kernel)) rfl
theorem wd_2 : (.selects "LoadCycles$TextReader" ⟨"LoadCycles$TextReader", "takesOpening", "(I)Z"⟩ ⟨"LoadCycles$TextReader", "takesOpening", "(I)Z"⟩ : Cond) ∈ TB := tb_of (List.mem_of_getElem? (i := 2) (by decide +kernel)) rfl
theorem wd_3 : (.selects "LoadCycles$TextReader" ⟨"LoadCycles$TextReader", "takesMark", "(I)Z"⟩ ⟨"LoadCycles$TextReader", "takesMark", "(I)Z"⟩ : Cond) ∈ TB := tb_of (List.mem_of_getElem? (i := 3) (by decide +kernel)) rfl
theorem wd_4 : (.selects "LoadCycles$TextReader" ⟨"LoadCycles$TextReader", "takesKind", "(I)Z"⟩ ⟨"LoadCycles$TextReader", "takesKind", "(I)Z"⟩ : Cond) ∈ TB := tb_of (List.mem_of_getElem? (i := 4) (by decide +kernel)) rfl
theorem wd_5 : (.selects "LoadCycles$TextReader" ⟨"LoadCycles$TextReader", "takesLevel", "(I)Z"⟩ ⟨"LoadCycles$TextReader", "takesLevel", "(I)Z"⟩ : Cond) ∈ TB := tb_of (List.mem_of_getElem? (i := 5) (by decide +kernel)) rfl
theorem wd_6 : (.selects "LoadCycles" ⟨"LoadCycles", "forgetBest", "()V"⟩ ⟨"LoadCycles", "forgetBest", "()V"⟩ : Cond) ∈ TB := tb_of (List.mem_of_getElem? (i := 6) (by decide +kernel)) rfl
theorem wd_7 : (.selects "LoadCycles" ⟨"LoadCycles", "hasHouse", "()Z"⟩ ⟨"LoadCycles", "hasHouse", "()Z"⟩ : Cond) ∈ TB := tb_of (List.mem_of_getElem? (i := 7) (by decide +kernel)) rfl
theorem wd_8 : (.selects "LoadCycles" ⟨"LoadCycles", "knownBest", "()LLoadCycles$Doing;"⟩ ⟨"LoadCycles", "knownBest", "()LLoadCycles$Doing;"⟩ : Cond) ∈ TB := tb_of (List.mem_of_getElem? (i := 8) (by decide +kernel)) rfl
theorem wd_9 : (.selects "LoadCycles$Unmixer" ⟨"LoadCycles$Unmixer", "listMixes", "(LLoadCycles$House;)V"⟩ ⟨"LoadCycles$Unmixer", "listMixes", "(LLoadCycles$House;)V"⟩ : Cond) ∈ TB := tb_of (List.mem_of_getElem? (i := 9) (by decide +kernel)) rfl
theorem wd_10 : (.selects "LoadCycles$Unmixer" ⟨"LoadCycles$Unmixer", "listWith", "(LLoadCycles$House;I)V"⟩ ⟨"LoadCycles$Unmixer", "listWith", "(LLoadCycles$House;I)V"⟩ : Cond) ∈ TB := tb_of (List.mem_of_getElem? (i := 10) (by decide +kernel)) rfl
theorem wd_11 : (.selects "LoadCycles$Unmixer" ⟨"LoadCycles$Unmixer", "repeatAfter", "(III)V"⟩ ⟨"LoadCycles$Unmixer", "repeatAfter", "(III)V"⟩ : Cond) ∈ TB := tb_of (List.mem_of_getElem? (i := 11) (by decide +kernel)) rfl
theorem wd_12 : (.selects "LoadCycles$Unmixer" ⟨"LoadCycles$Unmixer", "findCosts", "(LLoadCycles$House;)V"⟩ ⟨"LoadCycles$Unmixer", "findCosts", "(LLoadCycles$House;)V"⟩ : Cond) ∈ TB := tb_of (List.mem_of_getElem? (i := 12) (by decide +kernel)) rfl
theorem wd_13 : (.selects "LoadCycles$Unmixer" ⟨"LoadCycles$Unmixer", "letGoOn", "(I)V"⟩ ⟨"LoadCycles$Unmixer", "letGoOn", "(I)V"⟩ : Cond) ∈ TB := tb_of (List.mem_of_getElem? (i := 13) (by decide +kernel)) rfl
theorem wd_14 : (.selects "LoadCycles$Unmixer" ⟨"LoadCycles$Unmixer", "bestSet", "(LLoadCycles$House;II)I"⟩ ⟨"LoadCycles$Unmixer", "bestSet", "(LLoadCycles$House;II)I"⟩ : Cond) ∈ TB := tb_of (List.mem_of_getElem? (i := 14) (by decide +kernel)) rfl
theorem wd_15 : (.selects "LoadCycles$Unmixer" ⟨"LoadCycles$Unmixer", "mixBehind", "(LLoadCycles$House;II)I"⟩ ⟨"LoadCycles$Unmixer", "mixBehind", "(LLoadCycles$House;II)I"⟩ : Cond) ∈ TB := tb_of (List.mem_of_getElem? (i := 15) (by decide +kernel)) rfl
theorem wd_16 : (.selects "LoadCycles" ⟨"LoadCycles", "liveTrialDay", "(LLoadCycles$Sheet;II)I"⟩ ⟨"LoadCycles", "liveTrialDay", "(LLoadCycles$Sheet;II)I"⟩ : Cond) ∈ TB := tb_of (List.mem_of_getElem? (i := 16) (by decide +kernel)) rfl
theorem wd_17 : (.selects "LoadCycles$House" ⟨"LoadCycles$House", "actedOnBase", "(I)Z"⟩ ⟨"LoadCycles$House", "actedOnBase", "(I)Z"⟩ : Cond) ∈ TB := tb_of (List.mem_of_getElem? (i := 17) (by decide +kernel)) rfl
theorem wd_18 : (.selects "LoadCycles$House" ⟨"LoadCycles$House", "actedOnValue", "(II)Z"⟩ ⟨"LoadCycles$House", "actedOnValue", "(II)Z"⟩ : Cond) ∈ TB := tb_of (List.mem_of_getElem? (i := 18) (by decide +kernel)) rfl
theorem wd_19 : (.selects "LoadCycles$House" ⟨"LoadCycles$House", "actedOnLevel", "(III)Z"⟩ ⟨"LoadCycles$House", "actedOnLevel", "(III)Z"⟩ : Cond) ∈ TB := tb_of (List.mem_of_getElem? (i := 19) (by decide +kernel)) rfl
theorem wd_20 : (.selects "LoadCycles" ⟨"LoadCycles", "answerOfTrialDay", "(I)I"⟩ ⟨"LoadCycles", "answerOfTrialDay", "(I)I"⟩ : Cond) ∈ TB := tb_of (List.mem_of_getElem? (i := 20) (by decide +kernel)) rfl
theorem wd_21 : (.selects "LoadCycles" ⟨"LoadCycles", "powerGain", "(LLoadCycles$Doing;II)I"⟩ ⟨"LoadCycles", "powerGain", "(LLoadCycles$Doing;II)I"⟩ : Cond) ∈ TB := tb_of (List.mem_of_getElem? (i := 21) (by decide +kernel)) rfl
theorem wd_22 : (.selects "LoadCycles" ⟨"LoadCycles", "readingsHold", "(II)Z"⟩ ⟨"LoadCycles", "readingsHold", "(II)Z"⟩ : Cond) ∈ TB := tb_of (List.mem_of_getElem? (i := 22) (by decide +kernel)) rfl
theorem wd_23 : (.selects "LoadCycles" ⟨"LoadCycles", "unmixGuess", "(II)V"⟩ ⟨"LoadCycles", "unmixGuess", "(II)V"⟩ : Cond) ∈ TB := tb_of (List.mem_of_getElem? (i := 23) (by decide +kernel)) rfl
theorem wd_24 : (.selects "LoadCycles" ⟨"LoadCycles", "tellPlain", "(I)I"⟩ ⟨"LoadCycles", "tellPlain", "(I)I"⟩ : Cond) ∈ TB := tb_of (List.mem_of_getElem? (i := 24) (by decide +kernel)) rfl
theorem wd_25 : (.selects "LoadCycles" ⟨"LoadCycles", "leaveTrace", "(I)V"⟩ ⟨"LoadCycles", "leaveTrace", "(I)V"⟩ : Cond) ∈ TB := tb_of (List.mem_of_getElem? (i := 25) (by decide +kernel)) rfl
theorem wd_26 : (.selects "LoadCycles" ⟨"LoadCycles", "tellHeavy", "(I)I"⟩ ⟨"LoadCycles", "tellHeavy", "(I)I"⟩ : Cond) ∈ TB := tb_of (List.mem_of_getElem? (i := 26) (by decide +kernel)) rfl
theorem wd_27 : (.selects "LoadCycles" ⟨"LoadCycles", "tellDouble", "(I)I"⟩ ⟨"LoadCycles", "tellDouble", "(I)I"⟩ : Cond) ∈ TB := tb_of (List.mem_of_getElem? (i := 27) (by decide +kernel)) rfl
theorem wd_28 : (.selects "LoadCycles" ⟨"LoadCycles", "ownMetering", "()I"⟩ ⟨"LoadCycles", "ownMetering", "()I"⟩ : Cond) ∈ TB := tb_of (List.mem_of_getElem? (i := 28) (by decide +kernel)) rfl
theorem wd_29 : (.selects "LoadCycles" ⟨"LoadCycles", "lentMetering", "(I)I"⟩ ⟨"LoadCycles", "lentMetering", "(I)I"⟩ : Cond) ∈ TB := tb_of (List.mem_of_getElem? (i := 29) (by decide +kernel)) rfl
theorem wd_30 : (.selects "LoadCyclesModel" ⟨"LoadCyclesModel", "against", "(IIII)I"⟩ ⟨"LoadCyclesModel", "against", "(IIII)I"⟩ : Cond) ∈ TB := tb_of (List.mem_of_getElem? (i := 30) (by decide +kernel)) rfl
theorem wd_31 : (.selects "LoadCyclesModel" ⟨"LoadCyclesModel", "fails", "(I)I"⟩ ⟨"LoadCyclesModel", "fails", "(I)I"⟩ : Cond) ∈ TB := tb_of (List.mem_of_getElem? (i := 31) (by decide +kernel)) rfl
theorem wd_32 : (.selects "LoadCyclesModel" ⟨"LoadCyclesModel", "readAll", "(I)Z"⟩ ⟨"LoadCyclesModel", "readAll", "(I)Z"⟩ : Cond) ∈ TB := tb_of (List.mem_of_getElem? (i := 32) (by decide +kernel)) rfl
theorem wd_33 : (.selects "LoadCyclesModel" ⟨"LoadCyclesModel", "isSign", "(II)Z"⟩ ⟨"LoadCyclesModel", "isSign", "(II)Z"⟩ : Cond) ∈ TB := tb_of (List.mem_of_getElem? (i := 33) (by decide +kernel)) rfl
theorem wd_34 : (.selects "LoadCyclesModel" ⟨"LoadCyclesModel", "readAppliance", "(I)Z"⟩ ⟨"LoadCyclesModel", "readAppliance", "(I)Z"⟩ : Cond) ∈ TB := tb_of (List.mem_of_getElem? (i := 34) (by decide +kernel)) rfl
theorem wd_35 : (.selects "LoadCyclesModel" ⟨"LoadCyclesModel", "isAppliance", "(I)Z"⟩ ⟨"LoadCyclesModel", "isAppliance", "(I)Z"⟩ : Cond) ∈ TB := tb_of (List.mem_of_getElem? (i := 35) (by decide +kernel)) rfl
theorem wd_36 : (.selects "LoadCyclesModel" ⟨"LoadCyclesModel", "powerOf", "(II)I"⟩ ⟨"LoadCyclesModel", "powerOf", "(II)I"⟩ : Cond) ∈ TB := tb_of (List.mem_of_getElem? (i := 36) (by decide +kernel)) rfl
theorem wd_37 : (.selects "LoadCyclesModel" ⟨"LoadCyclesModel", "isTime", "(I)Z"⟩ ⟨"LoadCyclesModel", "isTime", "(I)Z"⟩ : Cond) ∈ TB := tb_of (List.mem_of_getElem? (i := 37) (by decide +kernel)) rfl
theorem wd_38 : (.selects "LoadCyclesModel" ⟨"LoadCyclesModel", "canBase", "(I)Z"⟩ ⟨"LoadCyclesModel", "canBase", "(I)Z"⟩ : Cond) ∈ TB := tb_of (List.mem_of_getElem? (i := 38) (by decide +kernel)) rfl
theorem wd_39 : (.selects "LoadCyclesModel" ⟨"LoadCyclesModel", "findBest", "()V"⟩ ⟨"LoadCyclesModel", "findBest", "()V"⟩ : Cond) ∈ TB := tb_of (List.mem_of_getElem? (i := 39) (by decide +kernel)) rfl
theorem wd_40 : (.selects "LoadCyclesModel" ⟨"LoadCyclesModel", "prepare", "()V"⟩ ⟨"LoadCyclesModel", "prepare", "()V"⟩ : Cond) ∈ TB := tb_of (List.mem_of_getElem? (i := 40) (by decide +kernel)) rfl
theorem wd_41 : (.selects "LoadCyclesModel" ⟨"LoadCyclesModel", "powerOfRow", "(I)I"⟩ ⟨"LoadCyclesModel", "powerOfRow", "(I)I"⟩ : Cond) ∈ TB := tb_of (List.mem_of_getElem? (i := 41) (by decide +kernel)) rfl
theorem wd_42 : (.selects "LoadCyclesModel" ⟨"LoadCyclesModel", "goesOn", "(II)I"⟩ ⟨"LoadCyclesModel", "goesOn", "(II)I"⟩ : Cond) ∈ TB := tb_of (List.mem_of_getElem? (i := 42) (by decide +kernel)) rfl
theorem wd_43 : (.selects "LoadCyclesModel" ⟨"LoadCyclesModel", "goFrom", "(II)V"⟩ ⟨"LoadCyclesModel", "goFrom", "(II)V"⟩ : Cond) ∈ TB := tb_of (List.mem_of_getElem? (i := 43) (by decide +kernel)) rfl
theorem wd_44 : (.selects "LoadCyclesModel" ⟨"LoadCyclesModel", "isBetter", "(IIII)Z"⟩ ⟨"LoadCyclesModel", "isBetter", "(IIII)Z"⟩ : Cond) ∈ TB := tb_of (List.mem_of_getElem? (i := 44) (by decide +kernel)) rfl
theorem wd_45 : (.selects "LoadCyclesModel" ⟨"LoadCyclesModel", "rankAll", "(I)V"⟩ ⟨"LoadCyclesModel", "rankAll", "(I)V"⟩ : Cond) ∈ TB := tb_of (List.mem_of_getElem? (i := 45) (by decide +kernel)) rfl
theorem wd_46 : (.selects "LoadCyclesModel" ⟨"LoadCyclesModel", "walkBack", "()V"⟩ ⟨"LoadCyclesModel", "walkBack", "()V"⟩ : Cond) ∈ TB := tb_of (List.mem_of_getElem? (i := 46) (by decide +kernel)) rfl
theorem wd_47 : (.selects "LoadCyclesModel" ⟨"LoadCyclesModel", "restOf", "(I)I"⟩ ⟨"LoadCyclesModel", "restOf", "(I)I"⟩ : Cond) ∈ TB := tb_of (List.mem_of_getElem? (i := 47) (by decide +kernel)) rfl
theorem wd_48 : (.selects "LoadCyclesModel" ⟨"LoadCyclesModel", "rests", "()I"⟩ ⟨"LoadCyclesModel", "rests", "()I"⟩ : Cond) ∈ TB := tb_of (List.mem_of_getElem? (i := 48) (by decide +kernel)) rfl
theorem wd_49 : (.selects "LoadCyclesModel" ⟨"LoadCyclesModel", "changes", "(Z)I"⟩ ⟨"LoadCyclesModel", "changes", "(Z)I"⟩ : Cond) ∈ TB := tb_of (List.mem_of_getElem? (i := 49) (by decide +kernel)) rfl
theorem wd_50 : (.selects "LoadCyclesModel" ⟨"LoadCyclesModel", "ahead", "(II)I"⟩ ⟨"LoadCyclesModel", "ahead", "(II)I"⟩ : Cond) ∈ TB := tb_of (List.mem_of_getElem? (i := 50) (by decide +kernel)) rfl
theorem wd_51 : (.selects "LoadCyclesModel" ⟨"LoadCyclesModel", "energies", "()I"⟩ ⟨"LoadCyclesModel", "energies", "()I"⟩ : Cond) ∈ TB := tb_of (List.mem_of_getElem? (i := 51) (by decide +kernel)) rfl
theorem wd_52 : (.selects "LoadCyclesModel" ⟨"LoadCyclesModel", "energyOf", "(I)I"⟩ ⟨"LoadCyclesModel", "energyOf", "(I)I"⟩ : Cond) ∈ TB := tb_of (List.mem_of_getElem? (i := 52) (by decide +kernel)) rfl
theorem wd_53 : (.selects "LoadCyclesModel" ⟨"LoadCyclesModel", "keep", "()V"⟩ ⟨"LoadCyclesModel", "keep", "()V"⟩ : Cond) ∈ TB := tb_of (List.mem_of_getElem? (i := 53) (by decide +kernel)) rfl
theorem wd_54 : (.selects "LoadCyclesModel" ⟨"LoadCyclesModel", "goDay", "(II)I"⟩ ⟨"LoadCyclesModel", "goDay", "(II)I"⟩ : Cond) ∈ TB := tb_of (List.mem_of_getElem? (i := 54) (by decide +kernel)) rfl
theorem wd_55 : (.selects "LoadCyclesModel" ⟨"LoadCyclesModel", "canAct", "(II)Z"⟩ ⟨"LoadCyclesModel", "canAct", "(II)Z"⟩ : Cond) ∈ TB := tb_of (List.mem_of_getElem? (i := 55) (by decide +kernel)) rfl
theorem wd_56 : (.selects "LoadCyclesModel" ⟨"LoadCyclesModel", "tellDay", "(I)I"⟩ ⟨"LoadCyclesModel", "tellDay", "(I)I"⟩ : Cond) ∈ TB := tb_of (List.mem_of_getElem? (i := 56) (by decide +kernel)) rfl
theorem wd_57 : (.selects "LoadCyclesModel" ⟨"LoadCyclesModel", "putBack", "()V"⟩ ⟨"LoadCyclesModel", "putBack", "()V"⟩ : Cond) ∈ TB := tb_of (List.mem_of_getElem? (i := 57) (by decide +kernel)) rfl
theorem wd_58 : (.selects "LoadCyclesModel" ⟨"LoadCyclesModel", "jumpOf", "(I)I"⟩ ⟨"LoadCyclesModel", "jumpOf", "(I)I"⟩ : Cond) ∈ TB := tb_of (List.mem_of_getElem? (i := 58) (by decide +kernel)) rfl
theorem wd_59 : (.selects "LoadCyclesModel" ⟨"LoadCyclesModel", "moreOf", "(II)I"⟩ ⟨"LoadCyclesModel", "moreOf", "(II)I"⟩ : Cond) ∈ TB := tb_of (List.mem_of_getElem? (i := 59) (by decide +kernel)) rfl
theorem wd_60 : (.selects "LoadCyclesModel" ⟨"LoadCyclesModel", "allValues", "()I"⟩ ⟨"LoadCyclesModel", "allValues", "()I"⟩ : Cond) ∈ TB := tb_of (List.mem_of_getElem? (i := 60) (by decide +kernel)) rfl
theorem wd_61 : (.selects "LoadCyclesModel" ⟨"LoadCyclesModel", "areSo", "()Z"⟩ ⟨"LoadCyclesModel", "areSo", "()Z"⟩ : Cond) ∈ TB := tb_of (List.mem_of_getElem? (i := 61) (by decide +kernel)) rfl
theorem wd_62 : (.selects "LoadCyclesModel" ⟨"LoadCyclesModel", "lost", "(I)J"⟩ ⟨"LoadCyclesModel", "lost", "(I)J"⟩ : Cond) ∈ TB := tb_of (List.mem_of_getElem? (i := 62) (by decide +kernel)) rfl
theorem wd_63 : (.selects "LoadCyclesModel" ⟨"LoadCyclesModel", "begins", "(I)V"⟩ ⟨"LoadCyclesModel", "begins", "(I)V"⟩ : Cond) ∈ TB := tb_of (List.mem_of_getElem? (i := 63) (by decide +kernel)) rfl
theorem wd_64 : (.initialized "LoadCyclesLaw" : Cond) ∈ TB := tb_of (List.mem_of_getElem? (i := 64) (by decide +kernel)) rfl
theorem wd_65 : (.initialized "LoadCycles" : Cond) ∈ TB := tb_of (List.mem_of_getElem? (i := 65) (by decide +kernel)) rfl
theorem wd_66 : (.initialized "LoadCycles$House" : Cond) ∈ TB := tb_of (List.mem_of_getElem? (i := 66) (by decide +kernel)) rfl
theorem wd_67 : (.initialized "LoadCycles$Doing" : Cond) ∈ TB := tb_of (List.mem_of_getElem? (i := 67) (by decide +kernel)) rfl
theorem wd_68 : (.initialized "LoadCycles$Unmixer" : Cond) ∈ TB := tb_of (List.mem_of_getElem? (i := 68) (by decide +kernel)) rfl
theorem wd_69 : (.initialized "LoadCycles$TextReader" : Cond) ∈ TB := tb_of (List.mem_of_getElem? (i := 69) (by decide +kernel)) rfl
theorem wd_70 : (.initialized "LoadCycles$Guesses" : Cond) ∈ TB := tb_of (List.mem_of_getElem? (i := 70) (by decide +kernel)) rfl
theorem wd_71 : (.initialized "LoadCycles$Sheet" : Cond) ∈ TB := tb_of (List.mem_of_getElem? (i := 71) (by decide +kernel)) rfl
theorem wd_72 : (.initialized "LoadCyclesModel" : Cond) ∈ TB := tb_of (List.mem_of_getElem? (i := 72) (by decide +kernel)) rfl
theorem wd_73 : (.initialized "java/lang/System" : Cond) ∈ TB := tb_of (List.mem_of_getElem? (i := 73) (by decide +kernel)) rfl
theorem wd_74 : (.initialized "java/util/Arrays" : Cond) ∈ TB := tb_of (List.mem_of_getElem? (i := 74) (by decide +kernel)) rfl
theorem wd_75 : (.initialized "java/lang/Math" : Cond) ∈ TB := tb_of (List.mem_of_getElem? (i := 75) (by decide +kernel)) rfl
theorem wd_76 : (.initialized "java/lang/Integer" : Cond) ∈ TB := tb_of (List.mem_of_getElem? (i := 76) (by decide +kernel)) rfl
theorem wd_77 : (.classLink "LoadCyclesLaw" 7 "LoadCycles" : Cond) ∈ TB := tb_of (List.mem_of_getElem? (i := 77) (by decide +kernel)) rfl
theorem wd_78 : (.instantiable "LoadCycles" 14 : Cond) ∈ TB := tb_of (List.mem_of_getElem? (i := 78) (by decide +kernel)) rfl
theorem wd_79 : (.methodLink "LoadCyclesLaw" 9 ⟨"LoadCycles", "<init>", "()V"⟩ : Cond) ∈ TB := tb_of (List.mem_of_getElem? (i := 79) (by decide +kernel)) rfl
theorem wd_80 : (.instanceMethod ⟨"LoadCycles", "<init>", "()V"⟩ : Cond) ∈ TB := tb_of (List.mem_of_getElem? (i := 80) (by decide +kernel)) rfl
set_option maxRecDepth 20000 in
theorem wd_81 : (.code ⟨"LoadCycles", "<init>", "()V"⟩ prog_1_method_1_code 2 (none : Option FieldType) : Cond) ∈ TB := tb_of (List.mem_of_getElem? (i := 81) rfl) rfl
theorem wd_82 : (.methodLink "LoadCycles" 3 ⟨"java/lang/Object", "<init>", "()V"⟩ : Cond) ∈ TB := tb_of (List.mem_of_getElem? (i := 82) (by decide +kernel)) rfl
theorem wd_83 : (.instanceMethod ⟨"java/lang/Object", "<init>", "()V"⟩ : Cond) ∈ TB := tb_of (List.mem_of_getElem? (i := 83) (by decide +kernel)) rfl
set_option maxRecDepth 20000 in
theorem wd_84 : (.code ⟨"java/lang/Object", "<init>", "()V"⟩ object_method_1_code 1 (none : Option FieldType) : Cond) ∈ TB := tb_of (List.mem_of_getElem? (i := 84) rfl) rfl
theorem wd_85 : (.classLink "LoadCycles" 9 "LoadCycles$House" : Cond) ∈ TB := tb_of (List.mem_of_getElem? (i := 85) (by decide +kernel)) rfl
theorem wd_86 : (.instantiable "LoadCycles$House" 7 : Cond) ∈ TB := tb_of (List.mem_of_getElem? (i := 86) (by decide +kernel)) rfl
theorem wd_87 : (.methodLinkNest "LoadCycles" 11 ⟨"LoadCycles$House", "<init>", "()V"⟩ "LoadCycles" : Cond) ∈ lw_tbl := List.mem_of_getElem? (i := 87) (by decide +kernel)
theorem wd_88 : (.instanceMethod ⟨"LoadCycles$House", "<init>", "()V"⟩ : Cond) ∈ TB := tb_of (List.mem_of_getElem? (i := 88) (by decide +kernel)) rfl
set_option maxRecDepth 20000 in
theorem wd_89 : (.code ⟨"LoadCycles$House", "<init>", "()V"⟩ prog_4_method_1_code 1 (none : Option FieldType) : Cond) ∈ TB := tb_of (List.mem_of_getElem? (i := 89) rfl) rfl
theorem wd_90 : (.methodLink "LoadCycles$House" 3 ⟨"java/lang/Object", "<init>", "()V"⟩ : Cond) ∈ TB := tb_of (List.mem_of_getElem? (i := 90) (by decide +kernel)) rfl
theorem wd_91 : (.fieldLink "LoadCycles$House" 9 "LoadCycles$House" "kindOf" "[I" : Cond) ∈ TB := tb_of (List.mem_of_getElem? (i := 91) (by decide +kernel)) rfl
theorem wd_92 : (.fieldLink "LoadCycles" 111 "LoadCycles$House" "kindOf" "[I" : Cond) ∈ TB := tb_of (List.mem_of_getElem? (i := 92) (by decide +kernel)) rfl
theorem wd_93 : (.fieldLink "LoadCycles$House" 15 "LoadCycles$House" "levelsOf" "[I" : Cond) ∈ TB := tb_of (List.mem_of_getElem? (i := 93) (by decide +kernel)) rfl
theorem wd_94 : (.fieldLink "LoadCycles" 114 "LoadCycles$House" "levelsOf" "[I" : Cond) ∈ TB := tb_of (List.mem_of_getElem? (i := 94) (by decide +kernel)) rfl
theorem wd_95 : (.fieldLink "LoadCycles$Unmixer" 66 "LoadCycles$House" "levelsOf" "[I" : Cond) ∈ TB := tb_of (List.mem_of_getElem? (i := 95) (by decide +kernel)) rfl
theorem wd_96 : (.fieldLink "LoadCycles$House" 18 "LoadCycles$House" "told" "[I" : Cond) ∈ TB := tb_of (List.mem_of_getElem? (i := 96) (by decide +kernel)) rfl
theorem wd_97 : (.fieldLink "LoadCycles$House" 21 "LoadCycles$House" "values" "[I" : Cond) ∈ TB := tb_of (List.mem_of_getElem? (i := 97) (by decide +kernel)) rfl
theorem wd_98 : (.fieldLink "LoadCycles" 148 "LoadCycles$House" "values" "[I" : Cond) ∈ TB := tb_of (List.mem_of_getElem? (i := 98) (by decide +kernel)) rfl
theorem wd_99 : (.fieldLink "LoadCycles$Unmixer" 86 "LoadCycles$House" "values" "[I" : Cond) ∈ TB := tb_of (List.mem_of_getElem? (i := 99) (by decide +kernel)) rfl
theorem wd_100 : (.fieldLink "LoadCycles$TextReader" 18 "LoadCycles$House" "appliances" "I" : Cond) ∈ TB := tb_of (List.mem_of_getElem? (i := 100) (by decide +kernel)) rfl
theorem wd_101 : (.fieldLink "LoadCycles$Unmixer" 52 "LoadCycles$House" "appliances" "I" : Cond) ∈ TB := tb_of (List.mem_of_getElem? (i := 101) (by decide +kernel)) rfl
theorem wd_102 : (.fieldLink "LoadCycles$House" 30 "LoadCycles$House" "appliances" "I" : Cond) ∈ TB := tb_of (List.mem_of_getElem? (i := 102) (by decide +kernel)) rfl
theorem wd_103 : (.fieldLink "LoadCycles" 105 "LoadCycles$House" "appliances" "I" : Cond) ∈ TB := tb_of (List.mem_of_getElem? (i := 103) (by decide +kernel)) rfl
theorem wd_104 : (.fieldLink "LoadCycles$Unmixer" 39 "LoadCycles$House" "times" "I" : Cond) ∈ TB := tb_of (List.mem_of_getElem? (i := 104) (by decide +kernel)) rfl
theorem wd_105 : (.fieldLink "LoadCycles$House" 34 "LoadCycles$House" "times" "I" : Cond) ∈ TB := tb_of (List.mem_of_getElem? (i := 105) (by decide +kernel)) rfl
theorem wd_106 : (.fieldLink "LoadCycles$Doing" 47 "LoadCycles$House" "times" "I" : Cond) ∈ TB := tb_of (List.mem_of_getElem? (i := 106) (by decide +kernel)) rfl
theorem wd_107 : (.fieldLink "LoadCycles" 157 "LoadCycles$House" "times" "I" : Cond) ∈ TB := tb_of (List.mem_of_getElem? (i := 107) (by decide +kernel)) rfl
theorem wd_108 : (.fieldLink "LoadCycles$House" 37 "LoadCycles$House" "always" "I" : Cond) ∈ TB := tb_of (List.mem_of_getElem? (i := 108) (by decide +kernel)) rfl
theorem wd_109 : (.fieldLink "LoadCycles$Doing" 50 "LoadCycles$House" "always" "I" : Cond) ∈ TB := tb_of (List.mem_of_getElem? (i := 109) (by decide +kernel)) rfl
theorem wd_110 : (.fieldLink "LoadCycles" 145 "LoadCycles$House" "always" "I" : Cond) ∈ TB := tb_of (List.mem_of_getElem? (i := 110) (by decide +kernel)) rfl
theorem wd_111 : (.fieldLink "LoadCycles$Unmixer" 89 "LoadCycles$House" "always" "I" : Cond) ∈ TB := tb_of (List.mem_of_getElem? (i := 111) (by decide +kernel)) rfl
theorem wd_112 : (.laysFinal "LoadCycles$House" "LoadCycles$House" "kindOf" "[I" : Cond) ∈ TB := tb_of (List.mem_of_getElem? (i := 112) (by decide +kernel)) rfl
theorem wd_114 : (.laysFinal "LoadCycles$House" "LoadCycles$House" "levelsOf" "[I" : Cond) ∈ TB := tb_of (List.mem_of_getElem? (i := 114) (by decide +kernel)) rfl
theorem wd_116 : (.laysFinal "LoadCycles$House" "LoadCycles$House" "told" "[I" : Cond) ∈ TB := tb_of (List.mem_of_getElem? (i := 116) (by decide +kernel)) rfl
theorem wd_118 : (.laysFinal "LoadCycles$House" "LoadCycles$House" "values" "[I" : Cond) ∈ TB := tb_of (List.mem_of_getElem? (i := 118) (by decide +kernel)) rfl
theorem wd_120 : (.lays "LoadCycles$House" "LoadCycles$House" "appliances" "I" : Cond) ∈ TB := tb_of (List.mem_of_getElem? (i := 120) (by decide +kernel)) rfl
theorem wd_122 : (.lays "LoadCycles$House" "LoadCycles$House" "times" "I" : Cond) ∈ TB := tb_of (List.mem_of_getElem? (i := 122) (by decide +kernel)) rfl
theorem wd_124 : (.lays "LoadCycles$House" "LoadCycles$House" "always" "I" : Cond) ∈ TB := tb_of (List.mem_of_getElem? (i := 124) (by decide +kernel)) rfl
theorem wd_127 : (.arrayClass .int : Cond) ∈ TB := tb_of (List.mem_of_getElem? (i := 127) (by decide +kernel)) rfl
theorem wd_128 : (.classLink "LoadCycles" 21 "LoadCycles$Doing" : Cond) ∈ TB := tb_of (List.mem_of_getElem? (i := 128) (by decide +kernel)) rfl
theorem wd_129 : (.instantiable "LoadCycles$Doing" 6 : Cond) ∈ TB := tb_of (List.mem_of_getElem? (i := 129) (by decide +kernel)) rfl
theorem wd_130 : (.methodLinkNest "LoadCycles" 23 ⟨"LoadCycles$Doing", "<init>", "()V"⟩ "LoadCycles" : Cond) ∈ lw_tbl := List.mem_of_getElem? (i := 130) (by decide +kernel)
theorem wd_131 : (.instanceMethod ⟨"LoadCycles$Doing", "<init>", "()V"⟩ : Cond) ∈ TB := tb_of (List.mem_of_getElem? (i := 131) (by decide +kernel)) rfl
set_option maxRecDepth 20000 in
theorem wd_132 : (.code ⟨"LoadCycles$Doing", "<init>", "()V"⟩ prog_2_method_1_code 1 (none : Option FieldType) : Cond) ∈ TB := tb_of (List.mem_of_getElem? (i := 132) rfl) rfl
theorem wd_133 : (.methodLink "LoadCycles$Doing" 3 ⟨"java/lang/Object", "<init>", "()V"⟩ : Cond) ∈ TB := tb_of (List.mem_of_getElem? (i := 133) (by decide +kernel)) rfl
theorem wd_134 : (.fieldLink "LoadCycles$Doing" 9 "LoadCycles$Doing" "states" "[I" : Cond) ∈ TB := tb_of (List.mem_of_getElem? (i := 134) (by decide +kernel)) rfl
theorem wd_135 : (.fieldLink "LoadCycles$Doing" 15 "LoadCycles$Doing" "energies" "[I" : Cond) ∈ TB := tb_of (List.mem_of_getElem? (i := 135) (by decide +kernel)) rfl
theorem wd_136 : (.fieldLink "LoadCycles$Guesses" 19 "LoadCycles$Doing" "energies" "[I" : Cond) ∈ TB := tb_of (List.mem_of_getElem? (i := 136) (by decide +kernel)) rfl
theorem wd_137 : (.fieldLink "LoadCycles" 182 "LoadCycles$Doing" "energies" "[I" : Cond) ∈ TB := tb_of (List.mem_of_getElem? (i := 137) (by decide +kernel)) rfl
theorem wd_138 : (.fieldLink "LoadCycles$Doing" 32 "LoadCycles$Doing" "allEnergies" "I" : Cond) ∈ TB := tb_of (List.mem_of_getElem? (i := 138) (by decide +kernel)) rfl
theorem wd_139 : (.fieldLink "LoadCycles$Doing" 22 "LoadCycles$Doing" "allRests" "I" : Cond) ∈ TB := tb_of (List.mem_of_getElem? (i := 139) (by decide +kernel)) rfl
theorem wd_140 : (.fieldLink "LoadCycles$Doing" 26 "LoadCycles$Doing" "changes" "I" : Cond) ∈ TB := tb_of (List.mem_of_getElem? (i := 140) (by decide +kernel)) rfl
theorem wd_141 : (.fieldLink "LoadCycles$Doing" 29 "LoadCycles$Doing" "starts" "I" : Cond) ∈ TB := tb_of (List.mem_of_getElem? (i := 141) (by decide +kernel)) rfl
theorem wd_142 : (.laysFinal "LoadCycles$Doing" "LoadCycles$Doing" "states" "[I" : Cond) ∈ TB := tb_of (List.mem_of_getElem? (i := 142) (by decide +kernel)) rfl
theorem wd_144 : (.laysFinal "LoadCycles$Doing" "LoadCycles$Doing" "energies" "[I" : Cond) ∈ TB := tb_of (List.mem_of_getElem? (i := 144) (by decide +kernel)) rfl
theorem wd_146 : (.lays "LoadCycles$Doing" "LoadCycles$Doing" "allEnergies" "I" : Cond) ∈ TB := tb_of (List.mem_of_getElem? (i := 146) (by decide +kernel)) rfl
theorem wd_148 : (.lays "LoadCycles$Doing" "LoadCycles$Doing" "allRests" "I" : Cond) ∈ TB := tb_of (List.mem_of_getElem? (i := 148) (by decide +kernel)) rfl
theorem wd_150 : (.lays "LoadCycles$Doing" "LoadCycles$Doing" "changes" "I" : Cond) ∈ TB := tb_of (List.mem_of_getElem? (i := 150) (by decide +kernel)) rfl
theorem wd_152 : (.lays "LoadCycles$Doing" "LoadCycles$Doing" "starts" "I" : Cond) ∈ TB := tb_of (List.mem_of_getElem? (i := 152) (by decide +kernel)) rfl
theorem wd_155 : (.classLink "LoadCycles" 31 "LoadCycles$Unmixer" : Cond) ∈ TB := tb_of (List.mem_of_getElem? (i := 155) (by decide +kernel)) rfl
theorem wd_156 : (.instantiable "LoadCycles$Unmixer" 6 : Cond) ∈ TB := tb_of (List.mem_of_getElem? (i := 156) (by decide +kernel)) rfl
theorem wd_157 : (.methodLinkNest "LoadCycles" 33 ⟨"LoadCycles$Unmixer", "<init>", "()V"⟩ "LoadCycles" : Cond) ∈ lw_tbl := List.mem_of_getElem? (i := 157) (by decide +kernel)
theorem wd_158 : (.instanceMethod ⟨"LoadCycles$Unmixer", "<init>", "()V"⟩ : Cond) ∈ TB := tb_of (List.mem_of_getElem? (i := 158) (by decide +kernel)) rfl
set_option maxRecDepth 20000 in
theorem wd_159 : (.code ⟨"LoadCycles$Unmixer", "<init>", "()V"⟩ prog_7_method_1_code 1 (none : Option FieldType) : Cond) ∈ TB := tb_of (List.mem_of_getElem? (i := 159) rfl) rfl
theorem wd_160 : (.methodLink "LoadCycles$Unmixer" 3 ⟨"java/lang/Object", "<init>", "()V"⟩ : Cond) ∈ TB := tb_of (List.mem_of_getElem? (i := 160) (by decide +kernel)) rfl
theorem wd_161 : (.fieldLink "LoadCycles$Unmixer" 9 "LoadCycles$Unmixer" "powers" "[I" : Cond) ∈ TB := tb_of (List.mem_of_getElem? (i := 161) (by decide +kernel)) rfl
theorem wd_162 : (.fieldLink "LoadCycles$Unmixer" 15 "LoadCycles$Unmixer" "mixAfter" "[I" : Cond) ∈ TB := tb_of (List.mem_of_getElem? (i := 162) (by decide +kernel)) rfl
theorem wd_163 : (.fieldLink "LoadCycles$Unmixer" 18 "LoadCycles$Unmixer" "costs" "[I" : Cond) ∈ TB := tb_of (List.mem_of_getElem? (i := 163) (by decide +kernel)) rfl
theorem wd_164 : (.fieldLink "LoadCycles$Unmixer" 21 "LoadCycles$Unmixer" "ahead" "[I" : Cond) ∈ TB := tb_of (List.mem_of_getElem? (i := 164) (by decide +kernel)) rfl
theorem wd_165 : (.fieldLink "LoadCycles$Unmixer" 24 "LoadCycles$Unmixer" "spare" "[I" : Cond) ∈ TB := tb_of (List.mem_of_getElem? (i := 165) (by decide +kernel)) rfl
theorem wd_166 : (.fieldLink "LoadCycles$Unmixer" 59 "LoadCycles$Unmixer" "mixes" "I" : Cond) ∈ TB := tb_of (List.mem_of_getElem? (i := 166) (by decide +kernel)) rfl
theorem wd_167 : (.laysFinal "LoadCycles$Unmixer" "LoadCycles$Unmixer" "powers" "[I" : Cond) ∈ TB := tb_of (List.mem_of_getElem? (i := 167) (by decide +kernel)) rfl
theorem wd_169 : (.laysFinal "LoadCycles$Unmixer" "LoadCycles$Unmixer" "mixAfter" "[I" : Cond) ∈ TB := tb_of (List.mem_of_getElem? (i := 169) (by decide +kernel)) rfl
theorem wd_171 : (.laysFinal "LoadCycles$Unmixer" "LoadCycles$Unmixer" "costs" "[I" : Cond) ∈ TB := tb_of (List.mem_of_getElem? (i := 171) (by decide +kernel)) rfl
theorem wd_173 : (.lays "LoadCycles$Unmixer" "LoadCycles$Unmixer" "ahead" "[I" : Cond) ∈ TB := tb_of (List.mem_of_getElem? (i := 173) (by decide +kernel)) rfl
theorem wd_175 : (.lays "LoadCycles$Unmixer" "LoadCycles$Unmixer" "spare" "[I" : Cond) ∈ TB := tb_of (List.mem_of_getElem? (i := 175) (by decide +kernel)) rfl
theorem wd_177 : (.lays "LoadCycles$Unmixer" "LoadCycles$Unmixer" "mixes" "I" : Cond) ∈ TB := tb_of (List.mem_of_getElem? (i := 177) (by decide +kernel)) rfl
theorem wd_180 : (.classLink "LoadCycles" 38 "LoadCycles$TextReader" : Cond) ∈ TB := tb_of (List.mem_of_getElem? (i := 180) (by decide +kernel)) rfl
theorem wd_181 : (.instantiable "LoadCycles$TextReader" 2 : Cond) ∈ TB := tb_of (List.mem_of_getElem? (i := 181) (by decide +kernel)) rfl
theorem wd_182 : (.methodLinkNest "LoadCycles" 40 ⟨"LoadCycles$TextReader", "<init>", "()V"⟩ "LoadCycles" : Cond) ∈ lw_tbl := List.mem_of_getElem? (i := 182) (by decide +kernel)
theorem wd_183 : (.instanceMethod ⟨"LoadCycles$TextReader", "<init>", "()V"⟩ : Cond) ∈ TB := tb_of (List.mem_of_getElem? (i := 183) (by decide +kernel)) rfl
set_option maxRecDepth 20000 in
theorem wd_184 : (.code ⟨"LoadCycles$TextReader", "<init>", "()V"⟩ prog_6_method_1_code 1 (none : Option FieldType) : Cond) ∈ TB := tb_of (List.mem_of_getElem? (i := 184) rfl) rfl
theorem wd_185 : (.methodLink "LoadCycles$TextReader" 3 ⟨"java/lang/Object", "<init>", "()V"⟩ : Cond) ∈ TB := tb_of (List.mem_of_getElem? (i := 185) (by decide +kernel)) rfl
theorem wd_186 : (.classLink "LoadCycles$TextReader" 9 "LoadCycles$House" : Cond) ∈ TB := tb_of (List.mem_of_getElem? (i := 186) (by decide +kernel)) rfl
theorem wd_187 : (.methodLinkNest "LoadCycles$TextReader" 11 ⟨"LoadCycles$House", "<init>", "()V"⟩ "LoadCycles" : Cond) ∈ lw_tbl := List.mem_of_getElem? (i := 187) (by decide +kernel)
theorem wd_188 : (.fieldLink "LoadCycles$TextReader" 12 "LoadCycles$TextReader" "house" "LLoadCycles$House;" : Cond) ∈ TB := tb_of (List.mem_of_getElem? (i := 188) (by decide +kernel)) rfl
theorem wd_189 : (.fieldLink "LoadCycles" 92 "LoadCycles$TextReader" "house" "LLoadCycles$House;" : Cond) ∈ TB := tb_of (List.mem_of_getElem? (i := 189) (by decide +kernel)) rfl
theorem wd_190 : (.fieldLink "LoadCycles$TextReader" 22 "LoadCycles$TextReader" "awaits" "I" : Cond) ∈ TB := tb_of (List.mem_of_getElem? (i := 190) (by decide +kernel)) rfl
theorem wd_191 : (.laysFinal "LoadCycles$TextReader" "LoadCycles$TextReader" "house" "LLoadCycles$House;" : Cond) ∈ TB := tb_of (List.mem_of_getElem? (i := 191) (by decide +kernel)) rfl
theorem wd_193 : (.lays "LoadCycles$TextReader" "LoadCycles$TextReader" "awaits" "I" : Cond) ∈ TB := tb_of (List.mem_of_getElem? (i := 193) (by decide +kernel)) rfl
theorem wd_196 : (.classLink "LoadCycles" 45 "LoadCycles$Guesses" : Cond) ∈ TB := tb_of (List.mem_of_getElem? (i := 196) (by decide +kernel)) rfl
theorem wd_197 : (.instantiable "LoadCycles$Guesses" 2 : Cond) ∈ TB := tb_of (List.mem_of_getElem? (i := 197) (by decide +kernel)) rfl
theorem wd_198 : (.methodLinkNest "LoadCycles" 47 ⟨"LoadCycles$Guesses", "<init>", "()V"⟩ "LoadCycles" : Cond) ∈ lw_tbl := List.mem_of_getElem? (i := 198) (by decide +kernel)
theorem wd_199 : (.instanceMethod ⟨"LoadCycles$Guesses", "<init>", "()V"⟩ : Cond) ∈ TB := tb_of (List.mem_of_getElem? (i := 199) (by decide +kernel)) rfl
set_option maxRecDepth 20000 in
theorem wd_200 : (.code ⟨"LoadCycles$Guesses", "<init>", "()V"⟩ prog_3_method_1_code 1 (none : Option FieldType) : Cond) ∈ TB := tb_of (List.mem_of_getElem? (i := 200) rfl) rfl
theorem wd_201 : (.methodLink "LoadCycles$Guesses" 3 ⟨"java/lang/Object", "<init>", "()V"⟩ : Cond) ∈ TB := tb_of (List.mem_of_getElem? (i := 201) (by decide +kernel)) rfl
theorem wd_202 : (.fieldLink "LoadCycles$Guesses" 11 "LoadCycles$Guesses" "known" "[Z" : Cond) ∈ TB := tb_of (List.mem_of_getElem? (i := 202) (by decide +kernel)) rfl
theorem wd_203 : (.fieldLink "LoadCycles$Guesses" 15 "LoadCycles$Guesses" "energies" "[I" : Cond) ∈ TB := tb_of (List.mem_of_getElem? (i := 203) (by decide +kernel)) rfl
theorem wd_204 : (.laysFinal "LoadCycles$Guesses" "LoadCycles$Guesses" "known" "[Z" : Cond) ∈ TB := tb_of (List.mem_of_getElem? (i := 204) (by decide +kernel)) rfl
theorem wd_206 : (.laysFinal "LoadCycles$Guesses" "LoadCycles$Guesses" "energies" "[I" : Cond) ∈ TB := tb_of (List.mem_of_getElem? (i := 206) (by decide +kernel)) rfl
theorem wd_209 : (.arrayClass .boolean : Cond) ∈ TB := tb_of (List.mem_of_getElem? (i := 209) (by decide +kernel)) rfl
theorem wd_210 : (.classLink "LoadCycles" 52 "LoadCycles$Sheet" : Cond) ∈ TB := tb_of (List.mem_of_getElem? (i := 210) (by decide +kernel)) rfl
theorem wd_211 : (.arrayOver (.object "LoadCycles$Sheet") : Cond) ∈ lw_tbl := List.mem_of_getElem? (i := 211) (by decide +kernel)
theorem wd_212 : (.instantiable "LoadCycles$Sheet" 3 : Cond) ∈ TB := tb_of (List.mem_of_getElem? (i := 212) (by decide +kernel)) rfl
theorem wd_213 : (.methodLinkNest "LoadCycles" 65 ⟨"LoadCycles$Sheet", "<init>", "()V"⟩ "LoadCycles" : Cond) ∈ lw_tbl := List.mem_of_getElem? (i := 213) (by decide +kernel)
theorem wd_214 : (.instanceMethod ⟨"LoadCycles$Sheet", "<init>", "()V"⟩ : Cond) ∈ TB := tb_of (List.mem_of_getElem? (i := 214) (by decide +kernel)) rfl
set_option maxRecDepth 20000 in
theorem wd_215 : (.code ⟨"LoadCycles$Sheet", "<init>", "()V"⟩ prog_5_method_1_code 1 (none : Option FieldType) : Cond) ∈ TB := tb_of (List.mem_of_getElem? (i := 215) rfl) rfl
theorem wd_216 : (.methodLink "LoadCycles$Sheet" 3 ⟨"java/lang/Object", "<init>", "()V"⟩ : Cond) ∈ TB := tb_of (List.mem_of_getElem? (i := 216) (by decide +kernel)) rfl
theorem wd_217 : (.fieldLink "LoadCycles$Sheet" 9 "LoadCycles$Sheet" "cells" "[I" : Cond) ∈ TB := tb_of (List.mem_of_getElem? (i := 217) (by decide +kernel)) rfl
theorem wd_218 : (.fieldLink "LoadCycles$TextReader" 25 "LoadCycles$Sheet" "cells" "[I" : Cond) ∈ TB := tb_of (List.mem_of_getElem? (i := 218) (by decide +kernel)) rfl
theorem wd_219 : (.fieldLink "LoadCycles" 142 "LoadCycles$Sheet" "cells" "[I" : Cond) ∈ TB := tb_of (List.mem_of_getElem? (i := 219) (by decide +kernel)) rfl
theorem wd_220 : (.fieldLink "LoadCycles$Sheet" 19 "LoadCycles$Sheet" "lane" "I" : Cond) ∈ TB := tb_of (List.mem_of_getElem? (i := 220) (by decide +kernel)) rfl
theorem wd_221 : (.fieldLink "LoadCycles" 239 "LoadCycles$Sheet" "lane" "I" : Cond) ∈ TB := tb_of (List.mem_of_getElem? (i := 221) (by decide +kernel)) rfl
theorem wd_222 : (.fieldLink "LoadCycles$Sheet" 15 "LoadCycles$Sheet" "length" "I" : Cond) ∈ TB := tb_of (List.mem_of_getElem? (i := 222) (by decide +kernel)) rfl
theorem wd_223 : (.laysFinal "LoadCycles$Sheet" "LoadCycles$Sheet" "cells" "[I" : Cond) ∈ TB := tb_of (List.mem_of_getElem? (i := 223) (by decide +kernel)) rfl
theorem wd_225 : (.lays "LoadCycles$Sheet" "LoadCycles$Sheet" "lane" "I" : Cond) ∈ TB := tb_of (List.mem_of_getElem? (i := 225) (by decide +kernel)) rfl
theorem wd_227 : (.lays "LoadCycles$Sheet" "LoadCycles$Sheet" "length" "I" : Cond) ∈ TB := tb_of (List.mem_of_getElem? (i := 227) (by decide +kernel)) rfl
theorem wd_230 : (.fieldLink "LoadCycles" 12 "LoadCycles" "current" "LLoadCycles$House;" : Cond) ∈ TB := tb_of (List.mem_of_getElem? (i := 230) (by decide +kernel)) rfl
theorem wd_231 : (.fieldLink "LoadCycles" 18 "LoadCycles" "trial" "LLoadCycles$House;" : Cond) ∈ TB := tb_of (List.mem_of_getElem? (i := 231) (by decide +kernel)) rfl
theorem wd_232 : (.fieldLink "LoadCycles" 24 "LoadCycles" "currentBest" "LLoadCycles$Doing;" : Cond) ∈ TB := tb_of (List.mem_of_getElem? (i := 232) (by decide +kernel)) rfl
theorem wd_233 : (.fieldLink "LoadCycles" 28 "LoadCycles" "trialBest" "LLoadCycles$Doing;" : Cond) ∈ TB := tb_of (List.mem_of_getElem? (i := 233) (by decide +kernel)) rfl
theorem wd_234 : (.fieldLink "LoadCycles" 34 "LoadCycles" "unmixer" "LLoadCycles$Unmixer;" : Cond) ∈ TB := tb_of (List.mem_of_getElem? (i := 234) (by decide +kernel)) rfl
theorem wd_235 : (.fieldLink "LoadCycles" 41 "LoadCycles" "reader" "LLoadCycles$TextReader;" : Cond) ∈ TB := tb_of (List.mem_of_getElem? (i := 235) (by decide +kernel)) rfl
theorem wd_236 : (.fieldLink "LoadCycles" 48 "LoadCycles" "guesses" "LLoadCycles$Guesses;" : Cond) ∈ TB := tb_of (List.mem_of_getElem? (i := 236) (by decide +kernel)) rfl
theorem wd_237 : (.fieldLink "LoadCycles" 54 "LoadCycles" "sheets" "[LLoadCycles$Sheet;" : Cond) ∈ TB := tb_of (List.mem_of_getElem? (i := 237) (by decide +kernel)) rfl
theorem wd_238 : (.fieldLink "LoadCycles" 58 "LoadCycles" "readingAppliances" "[I" : Cond) ∈ TB := tb_of (List.mem_of_getElem? (i := 238) (by decide +kernel)) rfl
theorem wd_239 : (.fieldLink "LoadCycles" 62 "LoadCycles" "readingEnergies" "[I" : Cond) ∈ TB := tb_of (List.mem_of_getElem? (i := 239) (by decide +kernel)) rfl
theorem wd_240 : (.fieldLink "LoadCycles" 99 "LoadCycles" "readings" "I" : Cond) ∈ TB := tb_of (List.mem_of_getElem? (i := 240) (by decide +kernel)) rfl
theorem wd_241 : (.fieldLink "LoadCycles" 263 "LoadCycles" "bestIsKnown" "Z" : Cond) ∈ TB := tb_of (List.mem_of_getElem? (i := 241) (by decide +kernel)) rfl
theorem wd_242 : (.fieldLink "LoadCycles" 257 "LoadCycles" "traceNumber" "I" : Cond) ∈ TB := tb_of (List.mem_of_getElem? (i := 242) (by decide +kernel)) rfl
theorem wd_243 : (.fieldLink "LoadCycles" 66 "LoadCycles" "faultNumber" "I" : Cond) ∈ TB := tb_of (List.mem_of_getElem? (i := 243) (by decide +kernel)) rfl
theorem wd_244 : (.laysFinal "LoadCycles" "LoadCycles" "current" "LLoadCycles$House;" : Cond) ∈ TB := tb_of (List.mem_of_getElem? (i := 244) (by decide +kernel)) rfl
theorem wd_246 : (.laysFinal "LoadCycles" "LoadCycles" "trial" "LLoadCycles$House;" : Cond) ∈ TB := tb_of (List.mem_of_getElem? (i := 246) (by decide +kernel)) rfl
theorem wd_248 : (.laysFinal "LoadCycles" "LoadCycles" "currentBest" "LLoadCycles$Doing;" : Cond) ∈ TB := tb_of (List.mem_of_getElem? (i := 248) (by decide +kernel)) rfl
theorem wd_250 : (.laysFinal "LoadCycles" "LoadCycles" "trialBest" "LLoadCycles$Doing;" : Cond) ∈ TB := tb_of (List.mem_of_getElem? (i := 250) (by decide +kernel)) rfl
theorem wd_252 : (.laysFinal "LoadCycles" "LoadCycles" "unmixer" "LLoadCycles$Unmixer;" : Cond) ∈ TB := tb_of (List.mem_of_getElem? (i := 252) (by decide +kernel)) rfl
theorem wd_254 : (.laysFinal "LoadCycles" "LoadCycles" "reader" "LLoadCycles$TextReader;" : Cond) ∈ TB := tb_of (List.mem_of_getElem? (i := 254) (by decide +kernel)) rfl
theorem wd_256 : (.laysFinal "LoadCycles" "LoadCycles" "guesses" "LLoadCycles$Guesses;" : Cond) ∈ TB := tb_of (List.mem_of_getElem? (i := 256) (by decide +kernel)) rfl
theorem wd_258 : (.laysFinal "LoadCycles" "LoadCycles" "sheets" "[LLoadCycles$Sheet;" : Cond) ∈ TB := tb_of (List.mem_of_getElem? (i := 258) (by decide +kernel)) rfl
theorem wd_260 : (.laysFinal "LoadCycles" "LoadCycles" "readingAppliances" "[I" : Cond) ∈ TB := tb_of (List.mem_of_getElem? (i := 260) (by decide +kernel)) rfl
theorem wd_262 : (.laysFinal "LoadCycles" "LoadCycles" "readingEnergies" "[I" : Cond) ∈ TB := tb_of (List.mem_of_getElem? (i := 262) (by decide +kernel)) rfl
theorem wd_264 : (.lays "LoadCycles" "LoadCycles" "readings" "I" : Cond) ∈ TB := tb_of (List.mem_of_getElem? (i := 264) (by decide +kernel)) rfl
theorem wd_266 : (.lays "LoadCycles" "LoadCycles" "bestIsKnown" "Z" : Cond) ∈ TB := tb_of (List.mem_of_getElem? (i := 266) (by decide +kernel)) rfl
theorem wd_268 : (.lays "LoadCycles" "LoadCycles" "traceNumber" "I" : Cond) ∈ TB := tb_of (List.mem_of_getElem? (i := 268) (by decide +kernel)) rfl
theorem wd_270 : (.lays "LoadCycles" "LoadCycles" "faultNumber" "I" : Cond) ∈ TB := tb_of (List.mem_of_getElem? (i := 270) (by decide +kernel)) rfl
theorem wd_273 : (.methodLink "LoadCyclesLaw" 13 ⟨"LoadCycles", "house", "(IIII)I"⟩ : Cond) ∈ TB := tb_of (List.mem_of_getElem? (i := 273) (by decide +kernel)) rfl
theorem wd_274 : (.instanceMethod ⟨"LoadCycles", "house", "(IIII)I"⟩ : Cond) ∈ TB := tb_of (List.mem_of_getElem? (i := 274) (by decide +kernel)) rfl
theorem wd_275 : (.selects "LoadCycles" ⟨"LoadCycles", "house", "(IIII)I"⟩ ⟨"LoadCycles", "house", "(IIII)I"⟩ : Cond) ∈ TB := tb_of (List.mem_of_getElem? (i := 275) (by decide +kernel)) rfl
set_option maxRecDepth 20000 in
theorem wd_276 : (.code ⟨"LoadCycles", "house", "(IIII)I"⟩ prog_1_method_2_code 8 (some .int) : Cond) ∈ TB := tb_of (List.mem_of_getElem? (i := 276) rfl) rfl
theorem wd_277 : (.methodLink "LoadCycles" 70 ⟨"LoadCycles", "isSheet", "(I)Z"⟩ : Cond) ∈ TB := tb_of (List.mem_of_getElem? (i := 277) (by decide +kernel)) rfl
theorem wd_278 : (.static ⟨"LoadCycles", "isSheet", "(I)Z"⟩ : Cond) ∈ TB := tb_of (List.mem_of_getElem? (i := 278) (by decide +kernel)) rfl
set_option maxRecDepth 20000 in
theorem wd_279 : (.code ⟨"LoadCycles", "isSheet", "(I)Z"⟩ prog_1_method_34_code 1 (some .boolean) : Cond) ∈ TB := tb_of (List.mem_of_getElem? (i := 279) rfl) rfl
theorem wd_280 : (.methodLink "LoadCycles" 74 ⟨"LoadCycles", "isLane", "(I)Z"⟩ : Cond) ∈ TB := tb_of (List.mem_of_getElem? (i := 280) (by decide +kernel)) rfl
theorem wd_281 : (.static ⟨"LoadCycles", "isLane", "(I)Z"⟩ : Cond) ∈ TB := tb_of (List.mem_of_getElem? (i := 281) (by decide +kernel)) rfl
set_option maxRecDepth 20000 in
theorem wd_282 : (.code ⟨"LoadCycles", "isLane", "(I)Z"⟩ prog_1_method_35_code 1 (some .boolean) : Cond) ∈ TB := tb_of (List.mem_of_getElem? (i := 282) rfl) rfl
theorem wd_283 : (.methodLink "LoadCycles" 77 ⟨"LoadCycles$Sheet", "faultOfRow", "(I)I"⟩ : Cond) ∈ TB := tb_of (List.mem_of_getElem? (i := 283) (by decide +kernel)) rfl
theorem wd_284 : (.instanceMethod ⟨"LoadCycles$Sheet", "faultOfRow", "(I)I"⟩ : Cond) ∈ TB := tb_of (List.mem_of_getElem? (i := 284) (by decide +kernel)) rfl
theorem wd_285 : (.selects "LoadCycles$Sheet" ⟨"LoadCycles$Sheet", "faultOfRow", "(I)I"⟩ ⟨"LoadCycles$Sheet", "faultOfRow", "(I)I"⟩ : Cond) ∈ TB := tb_of (List.mem_of_getElem? (i := 285) (by decide +kernel)) rfl
set_option maxRecDepth 20000 in
theorem wd_286 : (.code ⟨"LoadCycles$Sheet", "faultOfRow", "(I)I"⟩ prog_5_method_7_code 2 (some .int) : Cond) ∈ TB := tb_of (List.mem_of_getElem? (i := 286) rfl) rfl
theorem wd_287 : (.methodLink "LoadCycles$Sheet" 28 ⟨"LoadCycles$Sheet", "hasRow", "()Z"⟩ : Cond) ∈ TB := tb_of (List.mem_of_getElem? (i := 287) (by decide +kernel)) rfl
theorem wd_288 : (.instanceMethod ⟨"LoadCycles$Sheet", "hasRow", "()Z"⟩ : Cond) ∈ TB := tb_of (List.mem_of_getElem? (i := 288) (by decide +kernel)) rfl
theorem wd_289 : (.selects "LoadCycles$Sheet" ⟨"LoadCycles$Sheet", "hasRow", "()Z"⟩ ⟨"LoadCycles$Sheet", "hasRow", "()Z"⟩ : Cond) ∈ TB := tb_of (List.mem_of_getElem? (i := 289) (by decide +kernel)) rfl
set_option maxRecDepth 20000 in
theorem wd_290 : (.code ⟨"LoadCycles$Sheet", "hasRow", "()Z"⟩ prog_5_method_2_code 1 (some .boolean) : Cond) ∈ TB := tb_of (List.mem_of_getElem? (i := 290) rfl) rfl
theorem wd_291 : (.methodLink "LoadCycles" 81 ⟨"LoadCycles$Sheet", "holds", "(II)Z"⟩ : Cond) ∈ TB := tb_of (List.mem_of_getElem? (i := 291) (by decide +kernel)) rfl
theorem wd_292 : (.instanceMethod ⟨"LoadCycles$Sheet", "holds", "(II)Z"⟩ : Cond) ∈ TB := tb_of (List.mem_of_getElem? (i := 292) (by decide +kernel)) rfl
theorem wd_293 : (.selects "LoadCycles$Sheet" ⟨"LoadCycles$Sheet", "holds", "(II)Z"⟩ ⟨"LoadCycles$Sheet", "holds", "(II)Z"⟩ : Cond) ∈ TB := tb_of (List.mem_of_getElem? (i := 293) (by decide +kernel)) rfl
set_option maxRecDepth 20000 in
theorem wd_294 : (.code ⟨"LoadCycles$Sheet", "holds", "(II)Z"⟩ prog_5_method_5_code 3 (some .boolean) : Cond) ∈ TB := tb_of (List.mem_of_getElem? (i := 294) rfl) rfl
theorem wd_295 : (.methodLink "LoadCycles" 85 ⟨"LoadCycles", "faulted", "(I)I"⟩ : Cond) ∈ TB := tb_of (List.mem_of_getElem? (i := 295) (by decide +kernel)) rfl
theorem wd_297 : (.instanceMethod ⟨"LoadCycles", "faulted", "(I)I"⟩ : Cond) ∈ TB := tb_of (List.mem_of_getElem? (i := 297) (by decide +kernel)) rfl
set_option maxRecDepth 20000 in
theorem wd_298 : (.code ⟨"LoadCycles", "faulted", "(I)I"⟩ prog_1_method_39_code 2 (some .int) : Cond) ∈ TB := tb_of (List.mem_of_getElem? (i := 298) rfl) rfl
theorem wd_299 : (.methodLink "LoadCycles" 88 ⟨"LoadCycles$TextReader", "firstFault", "(LLoadCycles$Sheet;II)I"⟩ : Cond) ∈ TB := tb_of (List.mem_of_getElem? (i := 299) (by decide +kernel)) rfl
theorem wd_300 : (.instanceMethod ⟨"LoadCycles$TextReader", "firstFault", "(LLoadCycles$Sheet;II)I"⟩ : Cond) ∈ TB := tb_of (List.mem_of_getElem? (i := 300) (by decide +kernel)) rfl
theorem wd_301 : (.selects "LoadCycles$TextReader" ⟨"LoadCycles$TextReader", "firstFault", "(LLoadCycles$Sheet;II)I"⟩ ⟨"LoadCycles$TextReader", "firstFault", "(LLoadCycles$Sheet;II)I"⟩ : Cond) ∈ TB := tb_of (List.mem_of_getElem? (i := 301) (by decide +kernel)) rfl
set_option maxRecDepth 20000 in
theorem wd_302 : (.code ⟨"LoadCycles$TextReader", "firstFault", "(LLoadCycles$Sheet;II)I"⟩ prog_6_method_2_code 5 (some .int) : Cond) ∈ TB := tb_of (List.mem_of_getElem? (i := 302) rfl) rfl
theorem wd_303 : (.methodLink "LoadCycles$TextReader" 31 ⟨"LoadCycles$TextReader", "goesOn", "(I)Z"⟩ : Cond) ∈ TB := tb_of (List.mem_of_getElem? (i := 303) (by decide +kernel)) rfl
theorem wd_305 : (.instanceMethod ⟨"LoadCycles$TextReader", "goesOn", "(I)Z"⟩ : Cond) ∈ TB := tb_of (List.mem_of_getElem? (i := 305) (by decide +kernel)) rfl
set_option maxRecDepth 20000 in
theorem wd_306 : (.code ⟨"LoadCycles$TextReader", "goesOn", "(I)Z"⟩ prog_6_method_3_code 2 (some .boolean) : Cond) ∈ TB := tb_of (List.mem_of_getElem? (i := 306) rfl) rfl
theorem wd_307 : (.methodLink "LoadCycles$TextReader" 35 ⟨"LoadCycles$TextReader", "takesOpening", "(I)Z"⟩ : Cond) ∈ TB := tb_of (List.mem_of_getElem? (i := 307) (by decide +kernel)) rfl
theorem wd_309 : (.instanceMethod ⟨"LoadCycles$TextReader", "takesOpening", "(I)Z"⟩ : Cond) ∈ TB := tb_of (List.mem_of_getElem? (i := 309) (by decide +kernel)) rfl
set_option maxRecDepth 20000 in
theorem wd_310 : (.code ⟨"LoadCycles$TextReader", "takesOpening", "(I)Z"⟩ prog_6_method_4_code 2 (some .boolean) : Cond) ∈ TB := tb_of (List.mem_of_getElem? (i := 310) rfl) rfl
theorem wd_311 : (.methodLink "LoadCycles$TextReader" 38 ⟨"LoadCycles$TextReader", "takesMark", "(I)Z"⟩ : Cond) ∈ TB := tb_of (List.mem_of_getElem? (i := 311) (by decide +kernel)) rfl
theorem wd_313 : (.instanceMethod ⟨"LoadCycles$TextReader", "takesMark", "(I)Z"⟩ : Cond) ∈ TB := tb_of (List.mem_of_getElem? (i := 313) (by decide +kernel)) rfl
set_option maxRecDepth 20000 in
theorem wd_314 : (.code ⟨"LoadCycles$TextReader", "takesMark", "(I)Z"⟩ prog_6_method_5_code 2 (some .boolean) : Cond) ∈ TB := tb_of (List.mem_of_getElem? (i := 314) rfl) rfl
theorem wd_315 : (.methodLink "LoadCycles$TextReader" 41 ⟨"LoadCycles$TextReader", "takesKind", "(I)Z"⟩ : Cond) ∈ TB := tb_of (List.mem_of_getElem? (i := 315) (by decide +kernel)) rfl
theorem wd_317 : (.instanceMethod ⟨"LoadCycles$TextReader", "takesKind", "(I)Z"⟩ : Cond) ∈ TB := tb_of (List.mem_of_getElem? (i := 317) (by decide +kernel)) rfl
set_option maxRecDepth 20000 in
theorem wd_318 : (.code ⟨"LoadCycles$TextReader", "takesKind", "(I)Z"⟩ prog_6_method_6_code 2 (some .boolean) : Cond) ∈ TB := tb_of (List.mem_of_getElem? (i := 318) rfl) rfl
theorem wd_319 : (.methodLink "LoadCycles$TextReader" 47 ⟨"LoadCycles$House", "addAppliance", "(I)Z"⟩ : Cond) ∈ TB := tb_of (List.mem_of_getElem? (i := 319) (by decide +kernel)) rfl
theorem wd_320 : (.instanceMethod ⟨"LoadCycles$House", "addAppliance", "(I)Z"⟩ : Cond) ∈ TB := tb_of (List.mem_of_getElem? (i := 320) (by decide +kernel)) rfl
theorem wd_321 : (.selects "LoadCycles$House" ⟨"LoadCycles$House", "addAppliance", "(I)Z"⟩ ⟨"LoadCycles$House", "addAppliance", "(I)Z"⟩ : Cond) ∈ TB := tb_of (List.mem_of_getElem? (i := 321) (by decide +kernel)) rfl
set_option maxRecDepth 20000 in
theorem wd_322 : (.code ⟨"LoadCycles$House", "addAppliance", "(I)Z"⟩ prog_4_method_6_code 2 (some .boolean) : Cond) ∈ TB := tb_of (List.mem_of_getElem? (i := 322) rfl) rfl
theorem wd_323 : (.methodLink "LoadCycles$TextReader" 44 ⟨"LoadCycles$TextReader", "takesLevel", "(I)Z"⟩ : Cond) ∈ TB := tb_of (List.mem_of_getElem? (i := 323) (by decide +kernel)) rfl
theorem wd_325 : (.instanceMethod ⟨"LoadCycles$TextReader", "takesLevel", "(I)Z"⟩ : Cond) ∈ TB := tb_of (List.mem_of_getElem? (i := 325) (by decide +kernel)) rfl
set_option maxRecDepth 20000 in
theorem wd_326 : (.code ⟨"LoadCycles$TextReader", "takesLevel", "(I)Z"⟩ prog_6_method_7_code 2 (some .boolean) : Cond) ∈ TB := tb_of (List.mem_of_getElem? (i := 326) rfl) rfl
theorem wd_327 : (.methodLinkNest "LoadCycles$TextReader" 50 ⟨"LoadCycles", "isLevelValue", "(I)Z"⟩ "LoadCycles" : Cond) ∈ lw_tbl := List.mem_of_getElem? (i := 327) (by decide +kernel)
theorem wd_328 : (.static ⟨"LoadCycles", "isLevelValue", "(I)Z"⟩ : Cond) ∈ TB := tb_of (List.mem_of_getElem? (i := 328) (by decide +kernel)) rfl
set_option maxRecDepth 20000 in
theorem wd_329 : (.code ⟨"LoadCycles", "isLevelValue", "(I)Z"⟩ prog_1_method_36_code 1 (some .boolean) : Cond) ∈ TB := tb_of (List.mem_of_getElem? (i := 329) rfl) rfl
theorem wd_330 : (.methodLink "LoadCycles$TextReader" 53 ⟨"LoadCycles$House", "addLevel", "(I)Z"⟩ : Cond) ∈ TB := tb_of (List.mem_of_getElem? (i := 330) (by decide +kernel)) rfl
theorem wd_331 : (.instanceMethod ⟨"LoadCycles$House", "addLevel", "(I)Z"⟩ : Cond) ∈ TB := tb_of (List.mem_of_getElem? (i := 331) (by decide +kernel)) rfl
theorem wd_332 : (.selects "LoadCycles$House" ⟨"LoadCycles$House", "addLevel", "(I)Z"⟩ ⟨"LoadCycles$House", "addLevel", "(I)Z"⟩ : Cond) ∈ TB := tb_of (List.mem_of_getElem? (i := 332) (by decide +kernel)) rfl
set_option maxRecDepth 20000 in
theorem wd_333 : (.code ⟨"LoadCycles$House", "addLevel", "(I)Z"⟩ prog_4_method_7_code 3 (some .boolean) : Cond) ∈ TB := tb_of (List.mem_of_getElem? (i := 333) rfl) rfl
theorem wd_334 : (.methodLink "LoadCycles$House" 40 ⟨"LoadCycles$House", "setLevel", "(III)V"⟩ : Cond) ∈ TB := tb_of (List.mem_of_getElem? (i := 334) (by decide +kernel)) rfl
theorem wd_335 : (.instanceMethod ⟨"LoadCycles$House", "setLevel", "(III)V"⟩ : Cond) ∈ TB := tb_of (List.mem_of_getElem? (i := 335) (by decide +kernel)) rfl
theorem wd_336 : (.selects "LoadCycles$House" ⟨"LoadCycles$House", "setLevel", "(III)V"⟩ ⟨"LoadCycles$House", "setLevel", "(III)V"⟩ : Cond) ∈ TB := tb_of (List.mem_of_getElem? (i := 336) (by decide +kernel)) rfl
set_option maxRecDepth 20000 in
theorem wd_337 : (.code ⟨"LoadCycles$House", "setLevel", "(III)V"⟩ prog_4_method_9_code 4 (none : Option FieldType) : Cond) ∈ TB := tb_of (List.mem_of_getElem? (i := 337) rfl) rfl
theorem wd_338 : (.methodLink "LoadCycles" 95 ⟨"LoadCycles$House", "become", "(LLoadCycles$House;)V"⟩ : Cond) ∈ TB := tb_of (List.mem_of_getElem? (i := 338) (by decide +kernel)) rfl
theorem wd_339 : (.instanceMethod ⟨"LoadCycles$House", "become", "(LLoadCycles$House;)V"⟩ : Cond) ∈ TB := tb_of (List.mem_of_getElem? (i := 339) (by decide +kernel)) rfl
theorem wd_340 : (.selects "LoadCycles$House" ⟨"LoadCycles$House", "become", "(LLoadCycles$House;)V"⟩ ⟨"LoadCycles$House", "become", "(LLoadCycles$House;)V"⟩ : Cond) ∈ TB := tb_of (List.mem_of_getElem? (i := 340) (by decide +kernel)) rfl
set_option maxRecDepth 20000 in
theorem wd_341 : (.code ⟨"LoadCycles$House", "become", "(LLoadCycles$House;)V"⟩ prog_4_method_2_code 2 (none : Option FieldType) : Cond) ∈ TB := tb_of (List.mem_of_getElem? (i := 341) rfl) rfl
theorem wd_342 : (.methodLink "LoadCycles$House" 24 ⟨"java/lang/System", "arraycopy", "(Ljava/lang/Object;ILjava/lang/Object;II)V"⟩ : Cond) ∈ TB := tb_of (List.mem_of_getElem? (i := 342) (by decide +kernel)) rfl
theorem wd_343 : (.static ⟨"java/lang/System", "arraycopy", "(Ljava/lang/Object;ILjava/lang/Object;II)V"⟩ : Cond) ∈ TB := tb_of (List.mem_of_getElem? (i := 343) (by decide +kernel)) rfl
theorem wd_344 : (.native ⟨"java/lang/System", "arraycopy", "(Ljava/lang/Object;ILjava/lang/Object;II)V"⟩ : Cond) ∈ TB := tb_of (List.mem_of_getElem? (i := 344) (by decide +kernel)) rfl
theorem wd_345 : (.methodLink "LoadCycles" 102 ⟨"LoadCycles", "forgetBest", "()V"⟩ : Cond) ∈ TB := tb_of (List.mem_of_getElem? (i := 345) (by decide +kernel)) rfl
theorem wd_347 : (.instanceMethod ⟨"LoadCycles", "forgetBest", "()V"⟩ : Cond) ∈ TB := tb_of (List.mem_of_getElem? (i := 347) (by decide +kernel)) rfl
set_option maxRecDepth 20000 in
theorem wd_348 : (.code ⟨"LoadCycles", "forgetBest", "()V"⟩ prog_1_method_40_code 1 (none : Option FieldType) : Cond) ∈ TB := tb_of (List.mem_of_getElem? (i := 348) rfl) rfl
theorem wd_349 : (.methodLink "LoadCycles" 267 ⟨"LoadCycles$Guesses", "forget", "()V"⟩ : Cond) ∈ TB := tb_of (List.mem_of_getElem? (i := 349) (by decide +kernel)) rfl
theorem wd_350 : (.instanceMethod ⟨"LoadCycles$Guesses", "forget", "()V"⟩ : Cond) ∈ TB := tb_of (List.mem_of_getElem? (i := 350) (by decide +kernel)) rfl
theorem wd_351 : (.selects "LoadCycles$Guesses" ⟨"LoadCycles$Guesses", "forget", "()V"⟩ ⟨"LoadCycles$Guesses", "forget", "()V"⟩ : Cond) ∈ TB := tb_of (List.mem_of_getElem? (i := 351) (by decide +kernel)) rfl
set_option maxRecDepth 20000 in
theorem wd_352 : (.code ⟨"LoadCycles$Guesses", "forget", "()V"⟩ prog_3_method_2_code 2 (none : Option FieldType) : Cond) ∈ TB := tb_of (List.mem_of_getElem? (i := 352) rfl) rfl
theorem wd_353 : (.methodLink "LoadCyclesLaw" 18 ⟨"LoadCycles", "ofAppliance", "(II)I"⟩ : Cond) ∈ TB := tb_of (List.mem_of_getElem? (i := 353) (by decide +kernel)) rfl
theorem wd_354 : (.instanceMethod ⟨"LoadCycles", "ofAppliance", "(II)I"⟩ : Cond) ∈ TB := tb_of (List.mem_of_getElem? (i := 354) (by decide +kernel)) rfl
theorem wd_355 : (.selects "LoadCycles" ⟨"LoadCycles", "ofAppliance", "(II)I"⟩ ⟨"LoadCycles", "ofAppliance", "(II)I"⟩ : Cond) ∈ TB := tb_of (List.mem_of_getElem? (i := 355) (by decide +kernel)) rfl
set_option maxRecDepth 20000 in
theorem wd_356 : (.code ⟨"LoadCycles", "ofAppliance", "(II)I"⟩ prog_1_method_3_code 3 (some .int) : Cond) ∈ TB := tb_of (List.mem_of_getElem? (i := 356) rfl) rfl
theorem wd_357 : (.methodLink "LoadCycles" 108 ⟨"LoadCycles$House", "hasAppliance", "(I)Z"⟩ : Cond) ∈ TB := tb_of (List.mem_of_getElem? (i := 357) (by decide +kernel)) rfl
theorem wd_358 : (.instanceMethod ⟨"LoadCycles$House", "hasAppliance", "(I)Z"⟩ : Cond) ∈ TB := tb_of (List.mem_of_getElem? (i := 358) (by decide +kernel)) rfl
theorem wd_359 : (.selects "LoadCycles$House" ⟨"LoadCycles$House", "hasAppliance", "(I)Z"⟩ ⟨"LoadCycles$House", "hasAppliance", "(I)Z"⟩ : Cond) ∈ TB := tb_of (List.mem_of_getElem? (i := 359) (by decide +kernel)) rfl
set_option maxRecDepth 20000 in
theorem wd_360 : (.code ⟨"LoadCycles$House", "hasAppliance", "(I)Z"⟩ prog_4_method_3_code 2 (some .boolean) : Cond) ∈ TB := tb_of (List.mem_of_getElem? (i := 360) rfl) rfl
theorem wd_361 : (.methodLink "LoadCycles" 117 ⟨"LoadCycles$House", "hasLevel", "(II)Z"⟩ : Cond) ∈ TB := tb_of (List.mem_of_getElem? (i := 361) (by decide +kernel)) rfl
theorem wd_362 : (.instanceMethod ⟨"LoadCycles$House", "hasLevel", "(II)Z"⟩ : Cond) ∈ TB := tb_of (List.mem_of_getElem? (i := 362) (by decide +kernel)) rfl
theorem wd_363 : (.selects "LoadCycles$House" ⟨"LoadCycles$House", "hasLevel", "(II)Z"⟩ ⟨"LoadCycles$House", "hasLevel", "(II)Z"⟩ : Cond) ∈ TB := tb_of (List.mem_of_getElem? (i := 363) (by decide +kernel)) rfl
set_option maxRecDepth 20000 in
theorem wd_364 : (.code ⟨"LoadCycles$House", "hasLevel", "(II)Z"⟩ prog_4_method_4_code 3 (some .boolean) : Cond) ∈ TB := tb_of (List.mem_of_getElem? (i := 364) rfl) rfl
theorem wd_365 : (.methodLink "LoadCycles" 120 ⟨"LoadCycles$House", "toldLevel", "(II)I"⟩ : Cond) ∈ TB := tb_of (List.mem_of_getElem? (i := 365) (by decide +kernel)) rfl
theorem wd_366 : (.instanceMethod ⟨"LoadCycles$House", "toldLevel", "(II)I"⟩ : Cond) ∈ TB := tb_of (List.mem_of_getElem? (i := 366) (by decide +kernel)) rfl
theorem wd_367 : (.selects "LoadCycles$House" ⟨"LoadCycles$House", "toldLevel", "(II)I"⟩ ⟨"LoadCycles$House", "toldLevel", "(II)I"⟩ : Cond) ∈ TB := tb_of (List.mem_of_getElem? (i := 367) (by decide +kernel)) rfl
set_option maxRecDepth 20000 in
theorem wd_368 : (.code ⟨"LoadCycles$House", "toldLevel", "(II)I"⟩ prog_4_method_8_code 3 (some .int) : Cond) ∈ TB := tb_of (List.mem_of_getElem? (i := 368) rfl) rfl
theorem wd_369 : (.methodLink "LoadCycles" 124 ⟨"LoadCycles$House", "powerOf", "(II)I"⟩ : Cond) ∈ TB := tb_of (List.mem_of_getElem? (i := 369) (by decide +kernel)) rfl
theorem wd_370 : (.instanceMethod ⟨"LoadCycles$House", "powerOf", "(II)I"⟩ : Cond) ∈ TB := tb_of (List.mem_of_getElem? (i := 370) (by decide +kernel)) rfl
theorem wd_371 : (.selects "LoadCycles$House" ⟨"LoadCycles$House", "powerOf", "(II)I"⟩ ⟨"LoadCycles$House", "powerOf", "(II)I"⟩ : Cond) ∈ TB := tb_of (List.mem_of_getElem? (i := 371) (by decide +kernel)) rfl
set_option maxRecDepth 20000 in
theorem wd_372 : (.code ⟨"LoadCycles$House", "powerOf", "(II)I"⟩ prog_4_method_10_code 3 (some .int) : Cond) ∈ TB := tb_of (List.mem_of_getElem? (i := 372) rfl) rfl
theorem wd_373 : (.methodLink "LoadCycles$House" 44 ⟨"LoadCycles$House", "powerIn", "(II)I"⟩ : Cond) ∈ TB := tb_of (List.mem_of_getElem? (i := 373) (by decide +kernel)) rfl
theorem wd_374 : (.instanceMethod ⟨"LoadCycles$House", "powerIn", "(II)I"⟩ : Cond) ∈ TB := tb_of (List.mem_of_getElem? (i := 374) (by decide +kernel)) rfl
theorem wd_375 : (.selects "LoadCycles$House" ⟨"LoadCycles$House", "powerIn", "(II)I"⟩ ⟨"LoadCycles$House", "powerIn", "(II)I"⟩ : Cond) ∈ TB := tb_of (List.mem_of_getElem? (i := 375) (by decide +kernel)) rfl
set_option maxRecDepth 20000 in
theorem wd_376 : (.code ⟨"LoadCycles$House", "powerIn", "(II)I"⟩ prog_4_method_11_code 4 (some .int) : Cond) ∈ TB := tb_of (List.mem_of_getElem? (i := 376) rfl) rfl
theorem wd_377 : (.methodLink "LoadCyclesLaw" 23 ⟨"LoadCycles", "level", "(III)I"⟩ : Cond) ∈ TB := tb_of (List.mem_of_getElem? (i := 377) (by decide +kernel)) rfl
theorem wd_378 : (.instanceMethod ⟨"LoadCycles", "level", "(III)I"⟩ : Cond) ∈ TB := tb_of (List.mem_of_getElem? (i := 378) (by decide +kernel)) rfl
theorem wd_379 : (.selects "LoadCycles" ⟨"LoadCycles", "level", "(III)I"⟩ ⟨"LoadCycles", "level", "(III)I"⟩ : Cond) ∈ TB := tb_of (List.mem_of_getElem? (i := 379) (by decide +kernel)) rfl
set_option maxRecDepth 20000 in
theorem wd_380 : (.code ⟨"LoadCycles", "level", "(III)I"⟩ prog_1_method_4_code 5 (some .int) : Cond) ∈ TB := tb_of (List.mem_of_getElem? (i := 380) rfl) rfl
theorem wd_381 : (.methodLink "LoadCycles" 127 ⟨"LoadCycles", "isLevelValue", "(I)Z"⟩ : Cond) ∈ TB := tb_of (List.mem_of_getElem? (i := 381) (by decide +kernel)) rfl
theorem wd_382 : (.methodLink "LoadCycles" 130 ⟨"LoadCycles$House", "setLevel", "(III)V"⟩ : Cond) ∈ TB := tb_of (List.mem_of_getElem? (i := 382) (by decide +kernel)) rfl
theorem wd_383 : (.methodLink "LoadCyclesLaw" 28 ⟨"LoadCycles", "meter", "(IIII)I"⟩ : Cond) ∈ TB := tb_of (List.mem_of_getElem? (i := 383) (by decide +kernel)) rfl
theorem wd_384 : (.instanceMethod ⟨"LoadCycles", "meter", "(IIII)I"⟩ : Cond) ∈ TB := tb_of (List.mem_of_getElem? (i := 384) (by decide +kernel)) rfl
theorem wd_385 : (.selects "LoadCycles" ⟨"LoadCycles", "meter", "(IIII)I"⟩ ⟨"LoadCycles", "meter", "(IIII)I"⟩ : Cond) ∈ TB := tb_of (List.mem_of_getElem? (i := 385) (by decide +kernel)) rfl
set_option maxRecDepth 20000 in
theorem wd_386 : (.code ⟨"LoadCycles", "meter", "(IIII)I"⟩ prog_1_method_5_code 8 (some .int) : Cond) ∈ TB := tb_of (List.mem_of_getElem? (i := 386) rfl) rfl
theorem wd_387 : (.methodLink "LoadCycles" 134 ⟨"LoadCycles$Sheet", "faultOfCells", "(III)I"⟩ : Cond) ∈ TB := tb_of (List.mem_of_getElem? (i := 387) (by decide +kernel)) rfl
theorem wd_388 : (.instanceMethod ⟨"LoadCycles$Sheet", "faultOfCells", "(III)I"⟩ : Cond) ∈ TB := tb_of (List.mem_of_getElem? (i := 388) (by decide +kernel)) rfl
theorem wd_389 : (.selects "LoadCycles$Sheet" ⟨"LoadCycles$Sheet", "faultOfCells", "(III)I"⟩ ⟨"LoadCycles$Sheet", "faultOfCells", "(III)I"⟩ : Cond) ∈ TB := tb_of (List.mem_of_getElem? (i := 389) (by decide +kernel)) rfl
set_option maxRecDepth 20000 in
theorem wd_390 : (.code ⟨"LoadCycles$Sheet", "faultOfCells", "(III)I"⟩ prog_5_method_8_code 5 (some .int) : Cond) ∈ TB := tb_of (List.mem_of_getElem? (i := 390) rfl) rfl
theorem wd_391 : (.methodLink "LoadCycles$Sheet" 32 ⟨"LoadCycles$Sheet", "faultOfRow", "(I)I"⟩ : Cond) ∈ TB := tb_of (List.mem_of_getElem? (i := 391) (by decide +kernel)) rfl
theorem wd_392 : (.methodLink "LoadCycles$Sheet" 36 ⟨"LoadCycles$Sheet", "holds", "(II)Z"⟩ : Cond) ∈ TB := tb_of (List.mem_of_getElem? (i := 392) (by decide +kernel)) rfl
theorem wd_393 : (.methodLink "LoadCycles" 138 ⟨"LoadCycles", "hasHouse", "()Z"⟩ : Cond) ∈ TB := tb_of (List.mem_of_getElem? (i := 393) (by decide +kernel)) rfl
theorem wd_395 : (.instanceMethod ⟨"LoadCycles", "hasHouse", "()Z"⟩ : Cond) ∈ TB := tb_of (List.mem_of_getElem? (i := 395) (by decide +kernel)) rfl
set_option maxRecDepth 20000 in
theorem wd_396 : (.code ⟨"LoadCycles", "hasHouse", "()Z"⟩ prog_1_method_38_code 1 (some .boolean) : Cond) ∈ TB := tb_of (List.mem_of_getElem? (i := 396) rfl) rfl
theorem wd_397 : (.methodLink "LoadCycles" 151 ⟨"java/lang/System", "arraycopy", "(Ljava/lang/Object;ILjava/lang/Object;II)V"⟩ : Cond) ∈ TB := tb_of (List.mem_of_getElem? (i := 397) (by decide +kernel)) rfl
theorem wd_398 : (.methodLink "LoadCyclesLaw" 32 ⟨"LoadCycles", "value", "(I)I"⟩ : Cond) ∈ TB := tb_of (List.mem_of_getElem? (i := 398) (by decide +kernel)) rfl
theorem wd_399 : (.instanceMethod ⟨"LoadCycles", "value", "(I)I"⟩ : Cond) ∈ TB := tb_of (List.mem_of_getElem? (i := 399) (by decide +kernel)) rfl
theorem wd_400 : (.selects "LoadCycles" ⟨"LoadCycles", "value", "(I)I"⟩ ⟨"LoadCycles", "value", "(I)I"⟩ : Cond) ∈ TB := tb_of (List.mem_of_getElem? (i := 400) (by decide +kernel)) rfl
set_option maxRecDepth 20000 in
theorem wd_401 : (.code ⟨"LoadCycles", "value", "(I)I"⟩ prog_1_method_6_code 2 (some .int) : Cond) ∈ TB := tb_of (List.mem_of_getElem? (i := 401) rfl) rfl
theorem wd_402 : (.methodLink "LoadCycles" 160 ⟨"LoadCycles$House", "hasTime", "(I)Z"⟩ : Cond) ∈ TB := tb_of (List.mem_of_getElem? (i := 402) (by decide +kernel)) rfl
theorem wd_403 : (.instanceMethod ⟨"LoadCycles$House", "hasTime", "(I)Z"⟩ : Cond) ∈ TB := tb_of (List.mem_of_getElem? (i := 403) (by decide +kernel)) rfl
theorem wd_404 : (.selects "LoadCycles$House" ⟨"LoadCycles$House", "hasTime", "(I)Z"⟩ ⟨"LoadCycles$House", "hasTime", "(I)Z"⟩ : Cond) ∈ TB := tb_of (List.mem_of_getElem? (i := 404) (by decide +kernel)) rfl
set_option maxRecDepth 20000 in
theorem wd_405 : (.code ⟨"LoadCycles$House", "hasTime", "(I)Z"⟩ prog_4_method_5_code 2 (some .boolean) : Cond) ∈ TB := tb_of (List.mem_of_getElem? (i := 405) rfl) rfl
theorem wd_406 : (.methodLink "LoadCyclesLaw" 37 ⟨"LoadCycles", "base", "(I)I"⟩ : Cond) ∈ TB := tb_of (List.mem_of_getElem? (i := 406) (by decide +kernel)) rfl
theorem wd_407 : (.instanceMethod ⟨"LoadCycles", "base", "(I)I"⟩ : Cond) ∈ TB := tb_of (List.mem_of_getElem? (i := 407) (by decide +kernel)) rfl
theorem wd_408 : (.selects "LoadCycles" ⟨"LoadCycles", "base", "(I)I"⟩ ⟨"LoadCycles", "base", "(I)I"⟩ : Cond) ∈ TB := tb_of (List.mem_of_getElem? (i := 408) (by decide +kernel)) rfl
set_option maxRecDepth 20000 in
theorem wd_409 : (.code ⟨"LoadCycles", "base", "(I)I"⟩ prog_1_method_7_code 3 (some .int) : Cond) ∈ TB := tb_of (List.mem_of_getElem? (i := 409) rfl) rfl
theorem wd_410 : (.methodLink "LoadCycles" 163 ⟨"LoadCycles", "isMeterValue", "(I)Z"⟩ : Cond) ∈ TB := tb_of (List.mem_of_getElem? (i := 410) (by decide +kernel)) rfl
theorem wd_411 : (.static ⟨"LoadCycles", "isMeterValue", "(I)Z"⟩ : Cond) ∈ TB := tb_of (List.mem_of_getElem? (i := 411) (by decide +kernel)) rfl
set_option maxRecDepth 20000 in
theorem wd_412 : (.code ⟨"LoadCycles", "isMeterValue", "(I)Z"⟩ prog_1_method_37_code 1 (some .boolean) : Cond) ∈ TB := tb_of (List.mem_of_getElem? (i := 412) rfl) rfl
theorem wd_413 : (.methodLink "LoadCycles" 166 ⟨"LoadCycles$House", "allowsBase", "(I)Z"⟩ : Cond) ∈ TB := tb_of (List.mem_of_getElem? (i := 413) (by decide +kernel)) rfl
theorem wd_414 : (.instanceMethod ⟨"LoadCycles$House", "allowsBase", "(I)Z"⟩ : Cond) ∈ TB := tb_of (List.mem_of_getElem? (i := 414) (by decide +kernel)) rfl
theorem wd_415 : (.selects "LoadCycles$House" ⟨"LoadCycles$House", "allowsBase", "(I)Z"⟩ ⟨"LoadCycles$House", "allowsBase", "(I)Z"⟩ : Cond) ∈ TB := tb_of (List.mem_of_getElem? (i := 415) (by decide +kernel)) rfl
set_option maxRecDepth 20000 in
theorem wd_416 : (.code ⟨"LoadCycles$House", "allowsBase", "(I)Z"⟩ prog_4_method_16_code 3 (some .boolean) : Cond) ∈ TB := tb_of (List.mem_of_getElem? (i := 416) rfl) rfl
theorem wd_417 : (.methodLink "LoadCyclesLaw" 41 ⟨"LoadCycles", "at", "(II)I"⟩ : Cond) ∈ TB := tb_of (List.mem_of_getElem? (i := 417) (by decide +kernel)) rfl
theorem wd_418 : (.instanceMethod ⟨"LoadCycles", "at", "(II)I"⟩ : Cond) ∈ TB := tb_of (List.mem_of_getElem? (i := 418) (by decide +kernel)) rfl
theorem wd_419 : (.selects "LoadCycles" ⟨"LoadCycles", "at", "(II)I"⟩ ⟨"LoadCycles", "at", "(II)I"⟩ : Cond) ∈ TB := tb_of (List.mem_of_getElem? (i := 419) (by decide +kernel)) rfl
set_option maxRecDepth 20000 in
theorem wd_420 : (.code ⟨"LoadCycles", "at", "(II)I"⟩ prog_1_method_8_code 3 (some .int) : Cond) ∈ TB := tb_of (List.mem_of_getElem? (i := 420) rfl) rfl
theorem wd_421 : (.methodLink "LoadCycles" 169 ⟨"LoadCycles", "knownBest", "()LLoadCycles$Doing;"⟩ : Cond) ∈ TB := tb_of (List.mem_of_getElem? (i := 421) (by decide +kernel)) rfl
theorem wd_423 : (.instanceMethod ⟨"LoadCycles", "knownBest", "()LLoadCycles$Doing;"⟩ : Cond) ∈ TB := tb_of (List.mem_of_getElem? (i := 423) (by decide +kernel)) rfl
set_option maxRecDepth 20000 in
theorem wd_424 : (.code ⟨"LoadCycles", "knownBest", "()LLoadCycles$Doing;"⟩ prog_1_method_41_code 1 (some (.object "LoadCycles$Doing")) : Cond) ∈ TB := tb_of (List.mem_of_getElem? (i := 424) rfl) rfl
theorem wd_425 : (.methodLink "LoadCycles" 270 ⟨"LoadCycles$Unmixer", "unmix", "(LLoadCycles$House;LLoadCycles$Doing;)V"⟩ : Cond) ∈ TB := tb_of (List.mem_of_getElem? (i := 425) (by decide +kernel)) rfl
theorem wd_426 : (.instanceMethod ⟨"LoadCycles$Unmixer", "unmix", "(LLoadCycles$House;LLoadCycles$Doing;)V"⟩ : Cond) ∈ TB := tb_of (List.mem_of_getElem? (i := 426) (by decide +kernel)) rfl
theorem wd_427 : (.selects "LoadCycles$Unmixer" ⟨"LoadCycles$Unmixer", "unmix", "(LLoadCycles$House;LLoadCycles$Doing;)V"⟩ ⟨"LoadCycles$Unmixer", "unmix", "(LLoadCycles$House;LLoadCycles$Doing;)V"⟩ : Cond) ∈ TB := tb_of (List.mem_of_getElem? (i := 427) (by decide +kernel)) rfl
set_option maxRecDepth 20000 in
theorem wd_428 : (.code ⟨"LoadCycles$Unmixer", "unmix", "(LLoadCycles$House;LLoadCycles$Doing;)V"⟩ prog_7_method_2_code 7 (none : Option FieldType) : Cond) ∈ TB := tb_of (List.mem_of_getElem? (i := 428) rfl) rfl
theorem wd_429 : (.methodLink "LoadCycles$Unmixer" 27 ⟨"LoadCycles$Unmixer", "listMixes", "(LLoadCycles$House;)V"⟩ : Cond) ∈ TB := tb_of (List.mem_of_getElem? (i := 429) (by decide +kernel)) rfl
theorem wd_431 : (.instanceMethod ⟨"LoadCycles$Unmixer", "listMixes", "(LLoadCycles$House;)V"⟩ : Cond) ∈ TB := tb_of (List.mem_of_getElem? (i := 431) (by decide +kernel)) rfl
set_option maxRecDepth 20000 in
theorem wd_432 : (.code ⟨"LoadCycles$Unmixer", "listMixes", "(LLoadCycles$House;)V"⟩ prog_7_method_3_code 3 (none : Option FieldType) : Cond) ∈ TB := tb_of (List.mem_of_getElem? (i := 432) rfl) rfl
theorem wd_433 : (.methodLink "LoadCycles$Unmixer" 62 ⟨"LoadCycles$Unmixer", "listWith", "(LLoadCycles$House;I)V"⟩ : Cond) ∈ TB := tb_of (List.mem_of_getElem? (i := 433) (by decide +kernel)) rfl
theorem wd_435 : (.instanceMethod ⟨"LoadCycles$Unmixer", "listWith", "(LLoadCycles$House;I)V"⟩ : Cond) ∈ TB := tb_of (List.mem_of_getElem? (i := 435) (by decide +kernel)) rfl
set_option maxRecDepth 20000 in
theorem wd_436 : (.code ⟨"LoadCycles$Unmixer", "listWith", "(LLoadCycles$House;I)V"⟩ prog_7_method_4_code 9 (none : Option FieldType) : Cond) ∈ TB := tb_of (List.mem_of_getElem? (i := 436) rfl) rfl
theorem wd_437 : (.methodLink "LoadCycles$Unmixer" 69 ⟨"LoadCycles$House", "powerIn", "(II)I"⟩ : Cond) ∈ TB := tb_of (List.mem_of_getElem? (i := 437) (by decide +kernel)) rfl
theorem wd_438 : (.methodLink "LoadCycles$Unmixer" 73 ⟨"LoadCycles$House", "stateAfter", "(II)I"⟩ : Cond) ∈ TB := tb_of (List.mem_of_getElem? (i := 438) (by decide +kernel)) rfl
theorem wd_439 : (.instanceMethod ⟨"LoadCycles$House", "stateAfter", "(II)I"⟩ : Cond) ∈ TB := tb_of (List.mem_of_getElem? (i := 439) (by decide +kernel)) rfl
theorem wd_440 : (.selects "LoadCycles$House" ⟨"LoadCycles$House", "stateAfter", "(II)I"⟩ ⟨"LoadCycles$House", "stateAfter", "(II)I"⟩ : Cond) ∈ TB := tb_of (List.mem_of_getElem? (i := 440) (by decide +kernel)) rfl
set_option maxRecDepth 20000 in
theorem wd_441 : (.code ⟨"LoadCycles$House", "stateAfter", "(II)I"⟩ prog_4_method_12_code 3 (some .int) : Cond) ∈ TB := tb_of (List.mem_of_getElem? (i := 441) rfl) rfl
theorem wd_442 : (.methodLink "LoadCycles$Unmixer" 76 ⟨"LoadCycles$Unmixer", "repeatAfter", "(III)V"⟩ : Cond) ∈ TB := tb_of (List.mem_of_getElem? (i := 442) (by decide +kernel)) rfl
theorem wd_444 : (.instanceMethod ⟨"LoadCycles$Unmixer", "repeatAfter", "(III)V"⟩ : Cond) ∈ TB := tb_of (List.mem_of_getElem? (i := 444) (by decide +kernel)) rfl
set_option maxRecDepth 20000 in
theorem wd_445 : (.code ⟨"LoadCycles$Unmixer", "repeatAfter", "(III)V"⟩ prog_7_method_5_code 6 (none : Option FieldType) : Cond) ∈ TB := tb_of (List.mem_of_getElem? (i := 445) rfl) rfl
theorem wd_446 : (.methodLink "LoadCycles$Unmixer" 31 ⟨"LoadCycles$Unmixer", "findCosts", "(LLoadCycles$House;)V"⟩ : Cond) ∈ TB := tb_of (List.mem_of_getElem? (i := 446) (by decide +kernel)) rfl
theorem wd_448 : (.instanceMethod ⟨"LoadCycles$Unmixer", "findCosts", "(LLoadCycles$House;)V"⟩ : Cond) ∈ TB := tb_of (List.mem_of_getElem? (i := 448) (by decide +kernel)) rfl
set_option maxRecDepth 20000 in
theorem wd_449 : (.code ⟨"LoadCycles$Unmixer", "findCosts", "(LLoadCycles$House;)V"⟩ prog_7_method_6_code 6 (none : Option FieldType) : Cond) ∈ TB := tb_of (List.mem_of_getElem? (i := 449) rfl) rfl
theorem wd_450 : (.methodLink "LoadCycles$Unmixer" 80 ⟨"java/util/Arrays", "fill", "([II)V"⟩ : Cond) ∈ TB := tb_of (List.mem_of_getElem? (i := 450) (by decide +kernel)) rfl
theorem wd_451 : (.static ⟨"java/util/Arrays", "fill", "([II)V"⟩ : Cond) ∈ TB := tb_of (List.mem_of_getElem? (i := 451) (by decide +kernel)) rfl
set_option maxRecDepth 20000 in
theorem wd_452 : (.code ⟨"java/util/Arrays", "fill", "([II)V"⟩ prog_13_method_103_code 4 (none : Option FieldType) : Cond) ∈ TB := tb_of (List.mem_of_getElem? (i := 452) rfl) rfl
theorem wd_453 : (.constant "LoadCycles$Unmixer" 92 (536870912 : Int32) : Cond) ∈ TB := tb_of (List.mem_of_getElem? (i := 453) (by decide +kernel)) rfl
theorem wd_454 : (.methodLink "LoadCycles$Unmixer" 93 ⟨"java/lang/System", "arraycopy", "(Ljava/lang/Object;ILjava/lang/Object;II)V"⟩ : Cond) ∈ TB := tb_of (List.mem_of_getElem? (i := 454) (by decide +kernel)) rfl
theorem wd_455 : (.methodLink "LoadCycles$Unmixer" 99 ⟨"LoadCycles$Unmixer", "letGoOn", "(I)V"⟩ : Cond) ∈ TB := tb_of (List.mem_of_getElem? (i := 455) (by decide +kernel)) rfl
theorem wd_457 : (.instanceMethod ⟨"LoadCycles$Unmixer", "letGoOn", "(I)V"⟩ : Cond) ∈ TB := tb_of (List.mem_of_getElem? (i := 457) (by decide +kernel)) rfl
set_option maxRecDepth 20000 in
theorem wd_458 : (.code ⟨"LoadCycles$Unmixer", "letGoOn", "(I)V"⟩ prog_7_method_7_code 4 (none : Option FieldType) : Cond) ∈ TB := tb_of (List.mem_of_getElem? (i := 458) rfl) rfl
theorem wd_459 : (.methodLink "LoadCycles$Unmixer" 103 ⟨"java/lang/Math", "min", "(II)I"⟩ : Cond) ∈ TB := tb_of (List.mem_of_getElem? (i := 459) (by decide +kernel)) rfl
theorem wd_460 : (.static ⟨"java/lang/Math", "min", "(II)I"⟩ : Cond) ∈ TB := tb_of (List.mem_of_getElem? (i := 460) (by decide +kernel)) rfl
set_option maxRecDepth 20000 in
theorem wd_461 : (.code ⟨"java/lang/Math", "min", "(II)I"⟩ prog_11_method_69_code 2 (some .int) : Cond) ∈ TB := tb_of (List.mem_of_getElem? (i := 461) rfl) rfl
theorem wd_462 : (.methodLink "LoadCycles$Unmixer" 34 ⟨"LoadCycles$Doing", "begin", "(LLoadCycles$House;)V"⟩ : Cond) ∈ TB := tb_of (List.mem_of_getElem? (i := 462) (by decide +kernel)) rfl
theorem wd_463 : (.instanceMethod ⟨"LoadCycles$Doing", "begin", "(LLoadCycles$House;)V"⟩ : Cond) ∈ TB := tb_of (List.mem_of_getElem? (i := 463) (by decide +kernel)) rfl
theorem wd_464 : (.selects "LoadCycles$Doing" ⟨"LoadCycles$Doing", "begin", "(LLoadCycles$House;)V"⟩ ⟨"LoadCycles$Doing", "begin", "(LLoadCycles$House;)V"⟩ : Cond) ∈ TB := tb_of (List.mem_of_getElem? (i := 464) (by decide +kernel)) rfl
set_option maxRecDepth 20000 in
theorem wd_465 : (.code ⟨"LoadCycles$Doing", "begin", "(LLoadCycles$House;)V"⟩ prog_2_method_5_code 2 (none : Option FieldType) : Cond) ∈ TB := tb_of (List.mem_of_getElem? (i := 465) rfl) rfl
theorem wd_466 : (.methodLink "LoadCycles$Doing" 35 ⟨"java/util/Arrays", "fill", "([II)V"⟩ : Cond) ∈ TB := tb_of (List.mem_of_getElem? (i := 466) (by decide +kernel)) rfl
theorem wd_467 : (.methodLink "LoadCycles$Doing" 41 ⟨"LoadCycles$House", "allValues", "()I"⟩ : Cond) ∈ TB := tb_of (List.mem_of_getElem? (i := 467) (by decide +kernel)) rfl
theorem wd_468 : (.instanceMethod ⟨"LoadCycles$House", "allValues", "()I"⟩ : Cond) ∈ TB := tb_of (List.mem_of_getElem? (i := 468) (by decide +kernel)) rfl
theorem wd_469 : (.selects "LoadCycles$House" ⟨"LoadCycles$House", "allValues", "()I"⟩ ⟨"LoadCycles$House", "allValues", "()I"⟩ : Cond) ∈ TB := tb_of (List.mem_of_getElem? (i := 469) (by decide +kernel)) rfl
set_option maxRecDepth 20000 in
theorem wd_470 : (.code ⟨"LoadCycles$House", "allValues", "()I"⟩ prog_4_method_14_code 3 (some .int) : Cond) ∈ TB := tb_of (List.mem_of_getElem? (i := 470) rfl) rfl
theorem wd_471 : (.methodLink "LoadCycles$Unmixer" 45 ⟨"LoadCycles$Unmixer", "bestSet", "(LLoadCycles$House;II)I"⟩ : Cond) ∈ TB := tb_of (List.mem_of_getElem? (i := 471) (by decide +kernel)) rfl
theorem wd_473 : (.instanceMethod ⟨"LoadCycles$Unmixer", "bestSet", "(LLoadCycles$House;II)I"⟩ : Cond) ∈ TB := tb_of (List.mem_of_getElem? (i := 473) (by decide +kernel)) rfl
set_option maxRecDepth 20000 in
theorem wd_474 : (.code ⟨"LoadCycles$Unmixer", "bestSet", "(LLoadCycles$House;II)I"⟩ prog_7_method_8_code 10 (some .int) : Cond) ∈ TB := tb_of (List.mem_of_getElem? (i := 474) rfl) rfl
theorem wd_475 : (.methodLink "LoadCycles$Unmixer" 49 ⟨"LoadCycles$Unmixer", "mixBehind", "(LLoadCycles$House;II)I"⟩ : Cond) ∈ TB := tb_of (List.mem_of_getElem? (i := 475) (by decide +kernel)) rfl
theorem wd_477 : (.instanceMethod ⟨"LoadCycles$Unmixer", "mixBehind", "(LLoadCycles$House;II)I"⟩ : Cond) ∈ TB := tb_of (List.mem_of_getElem? (i := 477) (by decide +kernel)) rfl
set_option maxRecDepth 20000 in
theorem wd_478 : (.code ⟨"LoadCycles$Unmixer", "mixBehind", "(LLoadCycles$House;II)I"⟩ prog_7_method_9_code 6 (some .int) : Cond) ∈ TB := tb_of (List.mem_of_getElem? (i := 478) rfl) rfl
theorem wd_479 : (.methodLink "LoadCycles$Unmixer" 108 ⟨"java/lang/Integer", "bitCount", "(I)I"⟩ : Cond) ∈ TB := tb_of (List.mem_of_getElem? (i := 479) (by decide +kernel)) rfl
theorem wd_480 : (.static ⟨"java/lang/Integer", "bitCount", "(I)I"⟩ : Cond) ∈ TB := tb_of (List.mem_of_getElem? (i := 480) (by decide +kernel)) rfl
set_option maxRecDepth 20000 in
theorem wd_481 : (.code ⟨"java/lang/Integer", "bitCount", "(I)I"⟩ prog_10_method_49_code 1 (some .int) : Cond) ∈ TB := tb_of (List.mem_of_getElem? (i := 481) rfl) rfl
theorem wd_482 : (.constant "java/lang/Integer" 265 (1431655765 : Int32) : Cond) ∈ TB := tb_of (List.mem_of_getElem? (i := 482) (by decide +kernel)) rfl
theorem wd_483 : (.constant "java/lang/Integer" 266 (858993459 : Int32) : Cond) ∈ TB := tb_of (List.mem_of_getElem? (i := 483) (by decide +kernel)) rfl
theorem wd_484 : (.constant "java/lang/Integer" 267 (252645135 : Int32) : Cond) ∈ TB := tb_of (List.mem_of_getElem? (i := 484) (by decide +kernel)) rfl
theorem wd_485 : (.methodLink "LoadCycles$Unmixer" 55 ⟨"LoadCycles$Doing", "add", "(LLoadCycles$House;IIZ)V"⟩ : Cond) ∈ TB := tb_of (List.mem_of_getElem? (i := 485) (by decide +kernel)) rfl
theorem wd_486 : (.instanceMethod ⟨"LoadCycles$Doing", "add", "(LLoadCycles$House;IIZ)V"⟩ : Cond) ∈ TB := tb_of (List.mem_of_getElem? (i := 486) (by decide +kernel)) rfl
theorem wd_487 : (.selects "LoadCycles$Doing" ⟨"LoadCycles$Doing", "add", "(LLoadCycles$House;IIZ)V"⟩ ⟨"LoadCycles$Doing", "add", "(LLoadCycles$House;IIZ)V"⟩ : Cond) ∈ TB := tb_of (List.mem_of_getElem? (i := 487) (by decide +kernel)) rfl
set_option maxRecDepth 20000 in
theorem wd_488 : (.code ⟨"LoadCycles$Doing", "add", "(LLoadCycles$House;IIZ)V"⟩ prog_2_method_6_code 8 (none : Option FieldType) : Cond) ∈ TB := tb_of (List.mem_of_getElem? (i := 488) rfl) rfl
theorem wd_489 : (.methodLink "LoadCycles$Doing" 53 ⟨"LoadCycles$Doing", "stateAhead", "(II)I"⟩ : Cond) ∈ TB := tb_of (List.mem_of_getElem? (i := 489) (by decide +kernel)) rfl
theorem wd_490 : (.instanceMethod ⟨"LoadCycles$Doing", "stateAhead", "(II)I"⟩ : Cond) ∈ TB := tb_of (List.mem_of_getElem? (i := 490) (by decide +kernel)) rfl
theorem wd_491 : (.selects "LoadCycles$Doing" ⟨"LoadCycles$Doing", "stateAhead", "(II)I"⟩ ⟨"LoadCycles$Doing", "stateAhead", "(II)I"⟩ : Cond) ∈ TB := tb_of (List.mem_of_getElem? (i := 491) (by decide +kernel)) rfl
set_option maxRecDepth 20000 in
theorem wd_492 : (.code ⟨"LoadCycles$Doing", "stateAhead", "(II)I"⟩ prog_2_method_3_code 3 (some .int) : Cond) ∈ TB := tb_of (List.mem_of_getElem? (i := 492) rfl) rfl
theorem wd_493 : (.methodLink "LoadCycles$Doing" 18 ⟨"LoadCycles$Doing", "stateOf", "(II)I"⟩ : Cond) ∈ TB := tb_of (List.mem_of_getElem? (i := 493) (by decide +kernel)) rfl
theorem wd_494 : (.instanceMethod ⟨"LoadCycles$Doing", "stateOf", "(II)I"⟩ : Cond) ∈ TB := tb_of (List.mem_of_getElem? (i := 494) (by decide +kernel)) rfl
theorem wd_495 : (.selects "LoadCycles$Doing" ⟨"LoadCycles$Doing", "stateOf", "(II)I"⟩ ⟨"LoadCycles$Doing", "stateOf", "(II)I"⟩ : Cond) ∈ TB := tb_of (List.mem_of_getElem? (i := 495) (by decide +kernel)) rfl
set_option maxRecDepth 20000 in
theorem wd_496 : (.code ⟨"LoadCycles$Doing", "stateOf", "(II)I"⟩ prog_2_method_2_code 3 (some .int) : Cond) ∈ TB := tb_of (List.mem_of_getElem? (i := 496) rfl) rfl
theorem wd_497 : (.methodLink "LoadCycles$Doing" 56 ⟨"LoadCycles$House", "stateAfter", "(II)I"⟩ : Cond) ∈ TB := tb_of (List.mem_of_getElem? (i := 497) (by decide +kernel)) rfl
theorem wd_498 : (.methodLink "LoadCycles$Doing" 59 ⟨"LoadCycles$House", "powerIn", "(II)I"⟩ : Cond) ∈ TB := tb_of (List.mem_of_getElem? (i := 498) (by decide +kernel)) rfl
theorem wd_499 : (.methodLink "LoadCycles" 173 ⟨"LoadCycles$Doing", "stateOf", "(II)I"⟩ : Cond) ∈ TB := tb_of (List.mem_of_getElem? (i := 499) (by decide +kernel)) rfl
theorem wd_500 : (.methodLink "LoadCyclesLaw" 45 ⟨"LoadCycles", "rest", "(I)I"⟩ : Cond) ∈ TB := tb_of (List.mem_of_getElem? (i := 500) (by decide +kernel)) rfl
theorem wd_501 : (.instanceMethod ⟨"LoadCycles", "rest", "(I)I"⟩ : Cond) ∈ TB := tb_of (List.mem_of_getElem? (i := 501) (by decide +kernel)) rfl
theorem wd_502 : (.selects "LoadCycles" ⟨"LoadCycles", "rest", "(I)I"⟩ ⟨"LoadCycles", "rest", "(I)I"⟩ : Cond) ∈ TB := tb_of (List.mem_of_getElem? (i := 502) (by decide +kernel)) rfl
set_option maxRecDepth 20000 in
theorem wd_503 : (.code ⟨"LoadCycles", "rest", "(I)I"⟩ prog_1_method_9_code 5 (some .int) : Cond) ∈ TB := tb_of (List.mem_of_getElem? (i := 503) rfl) rfl
theorem wd_504 : (.methodLink "LoadCycles" 176 ⟨"LoadCycles$House", "powerIn", "(II)I"⟩ : Cond) ∈ TB := tb_of (List.mem_of_getElem? (i := 504) (by decide +kernel)) rfl
theorem wd_505 : (.methodLink "LoadCyclesLaw" 49 ⟨"LoadCycles", "best", "(I)I"⟩ : Cond) ∈ TB := tb_of (List.mem_of_getElem? (i := 505) (by decide +kernel)) rfl
theorem wd_506 : (.instanceMethod ⟨"LoadCycles", "best", "(I)I"⟩ : Cond) ∈ TB := tb_of (List.mem_of_getElem? (i := 506) (by decide +kernel)) rfl
theorem wd_507 : (.selects "LoadCycles" ⟨"LoadCycles", "best", "(I)I"⟩ ⟨"LoadCycles", "best", "(I)I"⟩ : Cond) ∈ TB := tb_of (List.mem_of_getElem? (i := 507) (by decide +kernel)) rfl
set_option maxRecDepth 20000 in
theorem wd_508 : (.code ⟨"LoadCycles", "best", "(I)I"⟩ prog_1_method_10_code 2 (some .int) : Cond) ∈ TB := tb_of (List.mem_of_getElem? (i := 508) rfl) rfl
theorem wd_509 : (.methodLink "LoadCycles" 179 ⟨"LoadCycles$Doing", "numberOf", "(I)I"⟩ : Cond) ∈ TB := tb_of (List.mem_of_getElem? (i := 509) (by decide +kernel)) rfl
theorem wd_510 : (.instanceMethod ⟨"LoadCycles$Doing", "numberOf", "(I)I"⟩ : Cond) ∈ TB := tb_of (List.mem_of_getElem? (i := 510) (by decide +kernel)) rfl
theorem wd_511 : (.selects "LoadCycles$Doing" ⟨"LoadCycles$Doing", "numberOf", "(I)I"⟩ ⟨"LoadCycles$Doing", "numberOf", "(I)I"⟩ : Cond) ∈ TB := tb_of (List.mem_of_getElem? (i := 511) (by decide +kernel)) rfl
set_option maxRecDepth 20000 in
theorem wd_512 : (.code ⟨"LoadCycles$Doing", "numberOf", "(I)I"⟩ prog_2_method_4_code 2 (some .int) : Cond) ∈ TB := tb_of (List.mem_of_getElem? (i := 512) rfl) rfl
theorem wd_513 : (.methodLink "LoadCyclesLaw" 53 ⟨"LoadCycles", "energy", "(I)I"⟩ : Cond) ∈ TB := tb_of (List.mem_of_getElem? (i := 513) (by decide +kernel)) rfl
theorem wd_514 : (.instanceMethod ⟨"LoadCycles", "energy", "(I)I"⟩ : Cond) ∈ TB := tb_of (List.mem_of_getElem? (i := 514) (by decide +kernel)) rfl
theorem wd_515 : (.selects "LoadCycles" ⟨"LoadCycles", "energy", "(I)I"⟩ ⟨"LoadCycles", "energy", "(I)I"⟩ : Cond) ∈ TB := tb_of (List.mem_of_getElem? (i := 515) (by decide +kernel)) rfl
set_option maxRecDepth 20000 in
theorem wd_516 : (.code ⟨"LoadCycles", "energy", "(I)I"⟩ prog_1_method_11_code 2 (some .int) : Cond) ∈ TB := tb_of (List.mem_of_getElem? (i := 516) rfl) rfl
theorem wd_517 : (.methodLink "LoadCyclesLaw" 57 ⟨"LoadCycles", "day", "(IIIII)I"⟩ : Cond) ∈ TB := tb_of (List.mem_of_getElem? (i := 517) (by decide +kernel)) rfl
theorem wd_518 : (.instanceMethod ⟨"LoadCycles", "day", "(IIIII)I"⟩ : Cond) ∈ TB := tb_of (List.mem_of_getElem? (i := 518) (by decide +kernel)) rfl
theorem wd_519 : (.selects "LoadCycles" ⟨"LoadCycles", "day", "(IIIII)I"⟩ ⟨"LoadCycles", "day", "(IIIII)I"⟩ : Cond) ∈ TB := tb_of (List.mem_of_getElem? (i := 519) (by decide +kernel)) rfl
set_option maxRecDepth 20000 in
theorem wd_520 : (.code ⟨"LoadCycles", "day", "(IIIII)I"⟩ prog_1_method_12_code 9 (some .int) : Cond) ∈ TB := tb_of (List.mem_of_getElem? (i := 520) rfl) rfl
theorem wd_521 : (.methodLink "LoadCycles" 185 ⟨"LoadCycles", "isAskedOfDay", "(I)Z"⟩ : Cond) ∈ TB := tb_of (List.mem_of_getElem? (i := 521) (by decide +kernel)) rfl
theorem wd_522 : (.static ⟨"LoadCycles", "isAskedOfDay", "(I)Z"⟩ : Cond) ∈ TB := tb_of (List.mem_of_getElem? (i := 522) (by decide +kernel)) rfl
set_option maxRecDepth 20000 in
theorem wd_523 : (.code ⟨"LoadCycles", "isAskedOfDay", "(I)Z"⟩ prog_1_method_42_code 1 (some .boolean) : Cond) ∈ TB := tb_of (List.mem_of_getElem? (i := 523) rfl) rfl
theorem wd_524 : (.methodLink "LoadCycles" 188 ⟨"LoadCycles", "arePairs", "(LLoadCycles$Sheet;II)Z"⟩ : Cond) ∈ TB := tb_of (List.mem_of_getElem? (i := 524) (by decide +kernel)) rfl
theorem wd_525 : (.static ⟨"LoadCycles", "arePairs", "(LLoadCycles$Sheet;II)Z"⟩ : Cond) ∈ TB := tb_of (List.mem_of_getElem? (i := 525) (by decide +kernel)) rfl
set_option maxRecDepth 20000 in
theorem wd_526 : (.code ⟨"LoadCycles", "arePairs", "(LLoadCycles$Sheet;II)Z"⟩ prog_1_method_43_code 4 (some .boolean) : Cond) ∈ TB := tb_of (List.mem_of_getElem? (i := 526) rfl) rfl
theorem wd_527 : (.methodLink "LoadCycles" 274 ⟨"LoadCycles", "isPair", "(II)Z"⟩ : Cond) ∈ TB := tb_of (List.mem_of_getElem? (i := 527) (by decide +kernel)) rfl
theorem wd_528 : (.static ⟨"LoadCycles", "isPair", "(II)Z"⟩ : Cond) ∈ TB := tb_of (List.mem_of_getElem? (i := 528) (by decide +kernel)) rfl
set_option maxRecDepth 20000 in
theorem wd_529 : (.code ⟨"LoadCycles", "isPair", "(II)Z"⟩ prog_1_method_44_code 2 (some .boolean) : Cond) ∈ TB := tb_of (List.mem_of_getElem? (i := 529) rfl) rfl
theorem wd_530 : (.methodLink "LoadCycles" 192 ⟨"LoadCycles", "liveTrialDay", "(LLoadCycles$Sheet;II)I"⟩ : Cond) ∈ TB := tb_of (List.mem_of_getElem? (i := 530) (by decide +kernel)) rfl
theorem wd_532 : (.instanceMethod ⟨"LoadCycles", "liveTrialDay", "(LLoadCycles$Sheet;II)I"⟩ : Cond) ∈ TB := tb_of (List.mem_of_getElem? (i := 532) (by decide +kernel)) rfl
set_option maxRecDepth 20000 in
theorem wd_533 : (.code ⟨"LoadCycles", "liveTrialDay", "(LLoadCycles$Sheet;II)I"⟩ prog_1_method_45_code 5 (some .int) : Cond) ∈ TB := tb_of (List.mem_of_getElem? (i := 533) rfl) rfl
theorem wd_534 : (.methodLink "LoadCycles" 277 ⟨"LoadCycles$House", "acted", "(II)Z"⟩ : Cond) ∈ TB := tb_of (List.mem_of_getElem? (i := 534) (by decide +kernel)) rfl
theorem wd_535 : (.instanceMethod ⟨"LoadCycles$House", "acted", "(II)Z"⟩ : Cond) ∈ TB := tb_of (List.mem_of_getElem? (i := 535) (by decide +kernel)) rfl
theorem wd_536 : (.selects "LoadCycles$House" ⟨"LoadCycles$House", "acted", "(II)Z"⟩ ⟨"LoadCycles$House", "acted", "(II)Z"⟩ : Cond) ∈ TB := tb_of (List.mem_of_getElem? (i := 536) (by decide +kernel)) rfl
set_option maxRecDepth 20000 in
theorem wd_537 : (.code ⟨"LoadCycles$House", "acted", "(II)Z"⟩ prog_4_method_17_code 3 (some .boolean) : Cond) ∈ TB := tb_of (List.mem_of_getElem? (i := 537) rfl) rfl
theorem wd_538 : (.methodLink "LoadCycles$House" 48 ⟨"LoadCycles$House", "actedOnBase", "(I)Z"⟩ : Cond) ∈ TB := tb_of (List.mem_of_getElem? (i := 538) (by decide +kernel)) rfl
theorem wd_540 : (.instanceMethod ⟨"LoadCycles$House", "actedOnBase", "(I)Z"⟩ : Cond) ∈ TB := tb_of (List.mem_of_getElem? (i := 540) (by decide +kernel)) rfl
set_option maxRecDepth 20000 in
theorem wd_541 : (.code ⟨"LoadCycles$House", "actedOnBase", "(I)Z"⟩ prog_4_method_18_code 2 (some .boolean) : Cond) ∈ TB := tb_of (List.mem_of_getElem? (i := 541) rfl) rfl
theorem wd_542 : (.methodLink "LoadCycles$House" 60 ⟨"LoadCycles$House", "allowsBase", "(I)Z"⟩ : Cond) ∈ TB := tb_of (List.mem_of_getElem? (i := 542) (by decide +kernel)) rfl
theorem wd_543 : (.methodLink "LoadCycles$House" 52 ⟨"LoadCycles$House", "actedOnValue", "(II)Z"⟩ : Cond) ∈ TB := tb_of (List.mem_of_getElem? (i := 543) (by decide +kernel)) rfl
theorem wd_545 : (.instanceMethod ⟨"LoadCycles$House", "actedOnValue", "(II)Z"⟩ : Cond) ∈ TB := tb_of (List.mem_of_getElem? (i := 545) (by decide +kernel)) rfl
set_option maxRecDepth 20000 in
theorem wd_546 : (.code ⟨"LoadCycles$House", "actedOnValue", "(II)Z"⟩ prog_4_method_19_code 3 (some .boolean) : Cond) ∈ TB := tb_of (List.mem_of_getElem? (i := 546) rfl) rfl
theorem wd_547 : (.methodLink "LoadCycles$House" 63 ⟨"LoadCycles$House", "hasTime", "(I)Z"⟩ : Cond) ∈ TB := tb_of (List.mem_of_getElem? (i := 547) (by decide +kernel)) rfl
theorem wd_548 : (.methodLink "LoadCycles$House" 56 ⟨"LoadCycles$House", "actedOnLevel", "(III)Z"⟩ : Cond) ∈ TB := tb_of (List.mem_of_getElem? (i := 548) (by decide +kernel)) rfl
theorem wd_550 : (.instanceMethod ⟨"LoadCycles$House", "actedOnLevel", "(III)Z"⟩ : Cond) ∈ TB := tb_of (List.mem_of_getElem? (i := 550) (by decide +kernel)) rfl
set_option maxRecDepth 20000 in
theorem wd_551 : (.code ⟨"LoadCycles$House", "actedOnLevel", "(III)Z"⟩ prog_4_method_20_code 4 (some .boolean) : Cond) ∈ TB := tb_of (List.mem_of_getElem? (i := 551) rfl) rfl
theorem wd_552 : (.methodLink "LoadCycles$House" 66 ⟨"LoadCycles$House", "hasAppliance", "(I)Z"⟩ : Cond) ∈ TB := tb_of (List.mem_of_getElem? (i := 552) (by decide +kernel)) rfl
theorem wd_553 : (.methodLink "LoadCycles$House" 69 ⟨"LoadCycles$House", "hasLevel", "(II)Z"⟩ : Cond) ∈ TB := tb_of (List.mem_of_getElem? (i := 553) (by decide +kernel)) rfl
theorem wd_554 : (.methodLink "LoadCycles" 195 ⟨"LoadCycles", "answerOfTrialDay", "(I)I"⟩ : Cond) ∈ TB := tb_of (List.mem_of_getElem? (i := 554) (by decide +kernel)) rfl
theorem wd_556 : (.instanceMethod ⟨"LoadCycles", "answerOfTrialDay", "(I)I"⟩ : Cond) ∈ TB := tb_of (List.mem_of_getElem? (i := 556) (by decide +kernel)) rfl
set_option maxRecDepth 20000 in
theorem wd_557 : (.code ⟨"LoadCycles", "answerOfTrialDay", "(I)I"⟩ prog_1_method_46_code 2 (some .int) : Cond) ∈ TB := tb_of (List.mem_of_getElem? (i := 557) rfl) rfl
theorem wd_558 : (.methodLink "LoadCyclesLaw" 62 ⟨"LoadCycles", "jump", "(I)I"⟩ : Cond) ∈ TB := tb_of (List.mem_of_getElem? (i := 558) (by decide +kernel)) rfl
theorem wd_559 : (.instanceMethod ⟨"LoadCycles", "jump", "(I)I"⟩ : Cond) ∈ TB := tb_of (List.mem_of_getElem? (i := 559) (by decide +kernel)) rfl
theorem wd_560 : (.selects "LoadCycles" ⟨"LoadCycles", "jump", "(I)I"⟩ ⟨"LoadCycles", "jump", "(I)I"⟩ : Cond) ∈ TB := tb_of (List.mem_of_getElem? (i := 560) (by decide +kernel)) rfl
set_option maxRecDepth 20000 in
theorem wd_561 : (.code ⟨"LoadCycles", "jump", "(I)I"⟩ prog_1_method_13_code 2 (some .int) : Cond) ∈ TB := tb_of (List.mem_of_getElem? (i := 561) rfl) rfl
theorem wd_562 : (.methodLink "LoadCycles" 198 ⟨"LoadCycles$House", "jumpTo", "(I)I"⟩ : Cond) ∈ TB := tb_of (List.mem_of_getElem? (i := 562) (by decide +kernel)) rfl
theorem wd_563 : (.instanceMethod ⟨"LoadCycles$House", "jumpTo", "(I)I"⟩ : Cond) ∈ TB := tb_of (List.mem_of_getElem? (i := 563) (by decide +kernel)) rfl
theorem wd_564 : (.selects "LoadCycles$House" ⟨"LoadCycles$House", "jumpTo", "(I)I"⟩ ⟨"LoadCycles$House", "jumpTo", "(I)I"⟩ : Cond) ∈ TB := tb_of (List.mem_of_getElem? (i := 564) (by decide +kernel)) rfl
set_option maxRecDepth 20000 in
theorem wd_565 : (.code ⟨"LoadCycles$House", "jumpTo", "(I)I"⟩ prog_4_method_15_code 2 (some .int) : Cond) ∈ TB := tb_of (List.mem_of_getElem? (i := 565) rfl) rfl
theorem wd_566 : (.methodLink "LoadCyclesLaw" 66 ⟨"LoadCycles", "ways", "(I)I"⟩ : Cond) ∈ TB := tb_of (List.mem_of_getElem? (i := 566) (by decide +kernel)) rfl
theorem wd_567 : (.instanceMethod ⟨"LoadCycles", "ways", "(I)I"⟩ : Cond) ∈ TB := tb_of (List.mem_of_getElem? (i := 567) (by decide +kernel)) rfl
theorem wd_568 : (.selects "LoadCycles" ⟨"LoadCycles", "ways", "(I)I"⟩ ⟨"LoadCycles", "ways", "(I)I"⟩ : Cond) ∈ TB := tb_of (List.mem_of_getElem? (i := 568) (by decide +kernel)) rfl
set_option maxRecDepth 20000 in
theorem wd_569 : (.code ⟨"LoadCycles", "ways", "(I)I"⟩ prog_1_method_14_code 6 (some .int) : Cond) ∈ TB := tb_of (List.mem_of_getElem? (i := 569) rfl) rfl
theorem wd_570 : (.methodLink "LoadCycles" 201 ⟨"LoadCycles", "powerGain", "(LLoadCycles$Doing;II)I"⟩ : Cond) ∈ TB := tb_of (List.mem_of_getElem? (i := 570) (by decide +kernel)) rfl
theorem wd_572 : (.instanceMethod ⟨"LoadCycles", "powerGain", "(LLoadCycles$Doing;II)I"⟩ : Cond) ∈ TB := tb_of (List.mem_of_getElem? (i := 572) (by decide +kernel)) rfl
set_option maxRecDepth 20000 in
theorem wd_573 : (.code ⟨"LoadCycles", "powerGain", "(LLoadCycles$Doing;II)I"⟩ prog_1_method_47_code 7 (some .int) : Cond) ∈ TB := tb_of (List.mem_of_getElem? (i := 573) rfl) rfl
theorem wd_574 : (.methodLink "LoadCycles" 280 ⟨"LoadCycles$Doing", "stateAhead", "(II)I"⟩ : Cond) ∈ TB := tb_of (List.mem_of_getElem? (i := 574) (by decide +kernel)) rfl
theorem wd_575 : (.methodLink "LoadCycles" 283 ⟨"LoadCycles$House", "stateAfter", "(II)I"⟩ : Cond) ∈ TB := tb_of (List.mem_of_getElem? (i := 575) (by decide +kernel)) rfl
theorem wd_576 : (.methodLink "LoadCyclesLaw" 70 ⟨"LoadCycles", "longest", "(I)I"⟩ : Cond) ∈ TB := tb_of (List.mem_of_getElem? (i := 576) (by decide +kernel)) rfl
theorem wd_577 : (.instanceMethod ⟨"LoadCycles", "longest", "(I)I"⟩ : Cond) ∈ TB := tb_of (List.mem_of_getElem? (i := 577) (by decide +kernel)) rfl
theorem wd_578 : (.selects "LoadCycles" ⟨"LoadCycles", "longest", "(I)I"⟩ ⟨"LoadCycles", "longest", "(I)I"⟩ : Cond) ∈ TB := tb_of (List.mem_of_getElem? (i := 578) (by decide +kernel)) rfl
set_option maxRecDepth 20000 in
theorem wd_579 : (.code ⟨"LoadCycles", "longest", "(I)I"⟩ prog_1_method_15_code 6 (some .int) : Cond) ∈ TB := tb_of (List.mem_of_getElem? (i := 579) rfl) rfl
theorem wd_580 : (.methodLink "LoadCycles" 205 ⟨"java/lang/Math", "max", "(II)I"⟩ : Cond) ∈ TB := tb_of (List.mem_of_getElem? (i := 580) (by decide +kernel)) rfl
theorem wd_581 : (.static ⟨"java/lang/Math", "max", "(II)I"⟩ : Cond) ∈ TB := tb_of (List.mem_of_getElem? (i := 581) (by decide +kernel)) rfl
set_option maxRecDepth 20000 in
theorem wd_582 : (.code ⟨"java/lang/Math", "max", "(II)I"⟩ prog_11_method_65_code 2 (some .int) : Cond) ∈ TB := tb_of (List.mem_of_getElem? (i := 582) rfl) rfl
theorem wd_583 : (.methodLink "LoadCyclesLaw" 74 ⟨"LoadCycles", "share", "(I)I"⟩ : Cond) ∈ TB := tb_of (List.mem_of_getElem? (i := 583) (by decide +kernel)) rfl
theorem wd_584 : (.instanceMethod ⟨"LoadCycles", "share", "(I)I"⟩ : Cond) ∈ TB := tb_of (List.mem_of_getElem? (i := 584) (by decide +kernel)) rfl
theorem wd_585 : (.selects "LoadCycles" ⟨"LoadCycles", "share", "(I)I"⟩ ⟨"LoadCycles", "share", "(I)I"⟩ : Cond) ∈ TB := tb_of (List.mem_of_getElem? (i := 585) (by decide +kernel)) rfl
set_option maxRecDepth 20000 in
theorem wd_586 : (.code ⟨"LoadCycles", "share", "(I)I"⟩ prog_1_method_16_code 2 (some .int) : Cond) ∈ TB := tb_of (List.mem_of_getElem? (i := 586) rfl) rfl
theorem wd_587 : (.methodLink "LoadCycles" 210 ⟨"LoadCycles$House", "allValues", "()I"⟩ : Cond) ∈ TB := tb_of (List.mem_of_getElem? (i := 587) (by decide +kernel)) rfl
theorem wd_588 : (.methodLink "LoadCycles" 214 ⟨"LoadCycles", "nearestBits", "(JJII)J"⟩ : Cond) ∈ TB := tb_of (List.mem_of_getElem? (i := 588) (by decide +kernel)) rfl
theorem wd_589 : (.static ⟨"LoadCycles", "nearestBits", "(JJII)J"⟩ : Cond) ∈ TB := tb_of (List.mem_of_getElem? (i := 589) (by decide +kernel)) rfl
set_option maxRecDepth 20000 in
theorem wd_590 : (.code ⟨"LoadCycles", "nearestBits", "(JJII)J"⟩ prog_1_method_51_code 15 (some .long) : Cond) ∈ TB := tb_of (List.mem_of_getElem? (i := 590) rfl) rfl
theorem wd_591 : (.constantLong "LoadCycles" 299 (2 : Int64) : Cond) ∈ TB := tb_of (List.mem_of_getElem? (i := 591) (by decide +kernel)) rfl
theorem wd_592 : (.methodLink "LoadCyclesLaw" 78 ⟨"LoadCycles", "mean", "()J"⟩ : Cond) ∈ TB := tb_of (List.mem_of_getElem? (i := 592) (by decide +kernel)) rfl
theorem wd_593 : (.instanceMethod ⟨"LoadCycles", "mean", "()J"⟩ : Cond) ∈ TB := tb_of (List.mem_of_getElem? (i := 593) (by decide +kernel)) rfl
theorem wd_594 : (.selects "LoadCycles" ⟨"LoadCycles", "mean", "()J"⟩ ⟨"LoadCycles", "mean", "()J"⟩ : Cond) ∈ TB := tb_of (List.mem_of_getElem? (i := 594) (by decide +kernel)) rfl
set_option maxRecDepth 20000 in
theorem wd_595 : (.code ⟨"LoadCycles", "mean", "()J"⟩ prog_1_method_17_code 1 (some .long) : Cond) ∈ TB := tb_of (List.mem_of_getElem? (i := 595) rfl) rfl
theorem wd_596 : (.constantLong "LoadCycles" 218 (-9223372036854775808 : Int64) : Cond) ∈ TB := tb_of (List.mem_of_getElem? (i := 596) (by decide +kernel)) rfl
theorem wd_597 : (.methodLink "LoadCyclesLaw" 83 ⟨"LoadCycles", "reading", "(II)I"⟩ : Cond) ∈ TB := tb_of (List.mem_of_getElem? (i := 597) (by decide +kernel)) rfl
theorem wd_598 : (.instanceMethod ⟨"LoadCycles", "reading", "(II)I"⟩ : Cond) ∈ TB := tb_of (List.mem_of_getElem? (i := 598) (by decide +kernel)) rfl
theorem wd_599 : (.selects "LoadCycles" ⟨"LoadCycles", "reading", "(II)I"⟩ ⟨"LoadCycles", "reading", "(II)I"⟩ : Cond) ∈ TB := tb_of (List.mem_of_getElem? (i := 599) (by decide +kernel)) rfl
set_option maxRecDepth 20000 in
theorem wd_600 : (.code ⟨"LoadCycles", "reading", "(II)I"⟩ prog_1_method_18_code 3 (some .int) : Cond) ∈ TB := tb_of (List.mem_of_getElem? (i := 600) rfl) rfl
theorem wd_601 : (.methodLink "LoadCyclesLaw" 87 ⟨"LoadCycles", "back", "(I)I"⟩ : Cond) ∈ TB := tb_of (List.mem_of_getElem? (i := 601) (by decide +kernel)) rfl
theorem wd_602 : (.instanceMethod ⟨"LoadCycles", "back", "(I)I"⟩ : Cond) ∈ TB := tb_of (List.mem_of_getElem? (i := 602) (by decide +kernel)) rfl
theorem wd_603 : (.selects "LoadCycles" ⟨"LoadCycles", "back", "(I)I"⟩ ⟨"LoadCycles", "back", "(I)I"⟩ : Cond) ∈ TB := tb_of (List.mem_of_getElem? (i := 603) (by decide +kernel)) rfl
set_option maxRecDepth 20000 in
theorem wd_604 : (.code ⟨"LoadCycles", "back", "(I)I"⟩ prog_1_method_19_code 2 (some .int) : Cond) ∈ TB := tb_of (List.mem_of_getElem? (i := 604) rfl) rfl
theorem wd_605 : (.methodLink "LoadCyclesLaw" 91 ⟨"LoadCycles", "kinds", "(I)I"⟩ : Cond) ∈ TB := tb_of (List.mem_of_getElem? (i := 605) (by decide +kernel)) rfl
theorem wd_606 : (.instanceMethod ⟨"LoadCycles", "kinds", "(I)I"⟩ : Cond) ∈ TB := tb_of (List.mem_of_getElem? (i := 606) (by decide +kernel)) rfl
theorem wd_607 : (.selects "LoadCycles" ⟨"LoadCycles", "kinds", "(I)I"⟩ ⟨"LoadCycles", "kinds", "(I)I"⟩ : Cond) ∈ TB := tb_of (List.mem_of_getElem? (i := 607) (by decide +kernel)) rfl
set_option maxRecDepth 20000 in
theorem wd_608 : (.code ⟨"LoadCycles", "kinds", "(I)I"⟩ prog_1_method_20_code 4 (some .int) : Cond) ∈ TB := tb_of (List.mem_of_getElem? (i := 608) rfl) rfl
theorem wd_609 : (.methodLink "LoadCycles" 220 ⟨"LoadCycles", "readingsHold", "(II)Z"⟩ : Cond) ∈ TB := tb_of (List.mem_of_getElem? (i := 609) (by decide +kernel)) rfl
theorem wd_611 : (.instanceMethod ⟨"LoadCycles", "readingsHold", "(II)Z"⟩ : Cond) ∈ TB := tb_of (List.mem_of_getElem? (i := 611) (by decide +kernel)) rfl
set_option maxRecDepth 20000 in
theorem wd_612 : (.code ⟨"LoadCycles", "readingsHold", "(II)Z"⟩ prog_1_method_48_code 4 (some .boolean) : Cond) ∈ TB := tb_of (List.mem_of_getElem? (i := 612) rfl) rfl
theorem wd_613 : (.methodLink "LoadCycles" 286 ⟨"LoadCycles$Guesses", "isKnown", "(II)Z"⟩ : Cond) ∈ TB := tb_of (List.mem_of_getElem? (i := 613) (by decide +kernel)) rfl
theorem wd_614 : (.instanceMethod ⟨"LoadCycles$Guesses", "isKnown", "(II)Z"⟩ : Cond) ∈ TB := tb_of (List.mem_of_getElem? (i := 614) (by decide +kernel)) rfl
theorem wd_615 : (.selects "LoadCycles$Guesses" ⟨"LoadCycles$Guesses", "isKnown", "(II)Z"⟩ ⟨"LoadCycles$Guesses", "isKnown", "(II)Z"⟩ : Cond) ∈ TB := tb_of (List.mem_of_getElem? (i := 615) (by decide +kernel)) rfl
set_option maxRecDepth 20000 in
theorem wd_616 : (.code ⟨"LoadCycles$Guesses", "isKnown", "(II)Z"⟩ prog_3_method_3_code 3 (some .boolean) : Cond) ∈ TB := tb_of (List.mem_of_getElem? (i := 616) rfl) rfl
theorem wd_617 : (.methodLink "LoadCycles" 289 ⟨"LoadCycles", "unmixGuess", "(II)V"⟩ : Cond) ∈ TB := tb_of (List.mem_of_getElem? (i := 617) (by decide +kernel)) rfl
theorem wd_619 : (.instanceMethod ⟨"LoadCycles", "unmixGuess", "(II)V"⟩ : Cond) ∈ TB := tb_of (List.mem_of_getElem? (i := 619) (by decide +kernel)) rfl
set_option maxRecDepth 20000 in
theorem wd_620 : (.code ⟨"LoadCycles", "unmixGuess", "(II)V"⟩ prog_1_method_49_code 3 (none : Option FieldType) : Cond) ∈ TB := tb_of (List.mem_of_getElem? (i := 620) rfl) rfl
theorem wd_621 : (.methodLink "LoadCycles" 292 ⟨"LoadCycles$Guesses", "keep", "(IILLoadCycles$Doing;)V"⟩ : Cond) ∈ TB := tb_of (List.mem_of_getElem? (i := 621) (by decide +kernel)) rfl
theorem wd_622 : (.instanceMethod ⟨"LoadCycles$Guesses", "keep", "(IILLoadCycles$Doing;)V"⟩ : Cond) ∈ TB := tb_of (List.mem_of_getElem? (i := 622) (by decide +kernel)) rfl
theorem wd_623 : (.selects "LoadCycles$Guesses" ⟨"LoadCycles$Guesses", "keep", "(IILLoadCycles$Doing;)V"⟩ ⟨"LoadCycles$Guesses", "keep", "(IILLoadCycles$Doing;)V"⟩ : Cond) ∈ TB := tb_of (List.mem_of_getElem? (i := 623) (by decide +kernel)) rfl
set_option maxRecDepth 20000 in
theorem wd_624 : (.code ⟨"LoadCycles$Guesses", "keep", "(IILLoadCycles$Doing;)V"⟩ prog_3_method_5_code 5 (none : Option FieldType) : Cond) ∈ TB := tb_of (List.mem_of_getElem? (i := 624) rfl) rfl
theorem wd_625 : (.methodLink "LoadCycles$Guesses" 22 ⟨"java/lang/System", "arraycopy", "(Ljava/lang/Object;ILjava/lang/Object;II)V"⟩ : Cond) ∈ TB := tb_of (List.mem_of_getElem? (i := 625) (by decide +kernel)) rfl
theorem wd_626 : (.methodLink "LoadCycles" 296 ⟨"LoadCycles$Guesses", "energyOf", "(III)I"⟩ : Cond) ∈ TB := tb_of (List.mem_of_getElem? (i := 626) (by decide +kernel)) rfl
theorem wd_627 : (.instanceMethod ⟨"LoadCycles$Guesses", "energyOf", "(III)I"⟩ : Cond) ∈ TB := tb_of (List.mem_of_getElem? (i := 627) (by decide +kernel)) rfl
theorem wd_628 : (.selects "LoadCycles$Guesses" ⟨"LoadCycles$Guesses", "energyOf", "(III)I"⟩ ⟨"LoadCycles$Guesses", "energyOf", "(III)I"⟩ : Cond) ∈ TB := tb_of (List.mem_of_getElem? (i := 628) (by decide +kernel)) rfl
set_option maxRecDepth 20000 in
theorem wd_629 : (.code ⟨"LoadCycles$Guesses", "energyOf", "(III)I"⟩ prog_3_method_4_code 4 (some .int) : Cond) ∈ TB := tb_of (List.mem_of_getElem? (i := 629) rfl) rfl
theorem wd_630 : (.methodLink "LoadCyclesLaw" 95 ⟨"LoadCycles", "firsts", "(I)I"⟩ : Cond) ∈ TB := tb_of (List.mem_of_getElem? (i := 630) (by decide +kernel)) rfl
theorem wd_631 : (.instanceMethod ⟨"LoadCycles", "firsts", "(I)I"⟩ : Cond) ∈ TB := tb_of (List.mem_of_getElem? (i := 631) (by decide +kernel)) rfl
theorem wd_632 : (.selects "LoadCycles" ⟨"LoadCycles", "firsts", "(I)I"⟩ ⟨"LoadCycles", "firsts", "(I)I"⟩ : Cond) ∈ TB := tb_of (List.mem_of_getElem? (i := 632) (by decide +kernel)) rfl
set_option maxRecDepth 20000 in
theorem wd_633 : (.code ⟨"LoadCycles", "firsts", "(I)I"⟩ prog_1_method_21_code 4 (some .int) : Cond) ∈ TB := tb_of (List.mem_of_getElem? (i := 633) rfl) rfl
theorem wd_634 : (.methodLink "LoadCyclesLaw" 99 ⟨"LoadCycles", "odds", "(II)J"⟩ : Cond) ∈ TB := tb_of (List.mem_of_getElem? (i := 634) (by decide +kernel)) rfl
theorem wd_635 : (.instanceMethod ⟨"LoadCycles", "odds", "(II)J"⟩ : Cond) ∈ TB := tb_of (List.mem_of_getElem? (i := 635) (by decide +kernel)) rfl
theorem wd_636 : (.selects "LoadCycles" ⟨"LoadCycles", "odds", "(II)J"⟩ ⟨"LoadCycles", "odds", "(II)J"⟩ : Cond) ∈ TB := tb_of (List.mem_of_getElem? (i := 636) (by decide +kernel)) rfl
set_option maxRecDepth 20000 in
theorem wd_637 : (.code ⟨"LoadCycles", "odds", "(II)J"⟩ prog_1_method_22_code 6 (some .long) : Cond) ∈ TB := tb_of (List.mem_of_getElem? (i := 637) rfl) rfl
theorem wd_638 : (.methodLink "LoadCycles" 223 ⟨"LoadCycles", "commonDivisor", "(II)I"⟩ : Cond) ∈ TB := tb_of (List.mem_of_getElem? (i := 638) (by decide +kernel)) rfl
theorem wd_639 : (.static ⟨"LoadCycles", "commonDivisor", "(II)I"⟩ : Cond) ∈ TB := tb_of (List.mem_of_getElem? (i := 639) (by decide +kernel)) rfl
set_option maxRecDepth 20000 in
theorem wd_640 : (.code ⟨"LoadCycles", "commonDivisor", "(II)I"⟩ prog_1_method_50_code 3 (some .int) : Cond) ∈ TB := tb_of (List.mem_of_getElem? (i := 640) rfl) rfl
theorem wd_641 : (.methodLink "LoadCyclesLaw" 104 ⟨"LoadCycles", "sheet", "(III)I"⟩ : Cond) ∈ TB := tb_of (List.mem_of_getElem? (i := 641) (by decide +kernel)) rfl
theorem wd_642 : (.instanceMethod ⟨"LoadCycles", "sheet", "(III)I"⟩ : Cond) ∈ TB := tb_of (List.mem_of_getElem? (i := 642) (by decide +kernel)) rfl
theorem wd_643 : (.selects "LoadCycles" ⟨"LoadCycles", "sheet", "(III)I"⟩ ⟨"LoadCycles", "sheet", "(III)I"⟩ : Cond) ∈ TB := tb_of (List.mem_of_getElem? (i := 643) (by decide +kernel)) rfl
set_option maxRecDepth 20000 in
theorem wd_644 : (.code ⟨"LoadCycles", "sheet", "(III)I"⟩ prog_1_method_23_code 4 (some .int) : Cond) ∈ TB := tb_of (List.mem_of_getElem? (i := 644) rfl) rfl
theorem wd_645 : (.methodLink "LoadCycles" 226 ⟨"LoadCycles$Sheet", "renew", "(II)V"⟩ : Cond) ∈ TB := tb_of (List.mem_of_getElem? (i := 645) (by decide +kernel)) rfl
theorem wd_646 : (.instanceMethod ⟨"LoadCycles$Sheet", "renew", "(II)V"⟩ : Cond) ∈ TB := tb_of (List.mem_of_getElem? (i := 646) (by decide +kernel)) rfl
theorem wd_647 : (.selects "LoadCycles$Sheet" ⟨"LoadCycles$Sheet", "renew", "(II)V"⟩ ⟨"LoadCycles$Sheet", "renew", "(II)V"⟩ : Cond) ∈ TB := tb_of (List.mem_of_getElem? (i := 647) (by decide +kernel)) rfl
set_option maxRecDepth 20000 in
theorem wd_648 : (.code ⟨"LoadCycles$Sheet", "renew", "(II)V"⟩ prog_5_method_4_code 3 (none : Option FieldType) : Cond) ∈ TB := tb_of (List.mem_of_getElem? (i := 648) rfl) rfl
theorem wd_649 : (.methodLink "LoadCycles$Sheet" 22 ⟨"java/util/Arrays", "fill", "([II)V"⟩ : Cond) ∈ TB := tb_of (List.mem_of_getElem? (i := 649) (by decide +kernel)) rfl
theorem wd_650 : (.methodLink "LoadCyclesLaw" 108 ⟨"LoadCycles", "lose", "(I)I"⟩ : Cond) ∈ TB := tb_of (List.mem_of_getElem? (i := 650) (by decide +kernel)) rfl
theorem wd_651 : (.instanceMethod ⟨"LoadCycles", "lose", "(I)I"⟩ : Cond) ∈ TB := tb_of (List.mem_of_getElem? (i := 651) (by decide +kernel)) rfl
theorem wd_652 : (.selects "LoadCycles" ⟨"LoadCycles", "lose", "(I)I"⟩ ⟨"LoadCycles", "lose", "(I)I"⟩ : Cond) ∈ TB := tb_of (List.mem_of_getElem? (i := 652) (by decide +kernel)) rfl
set_option maxRecDepth 20000 in
theorem wd_653 : (.code ⟨"LoadCycles", "lose", "(I)I"⟩ prog_1_method_24_code 3 (some .int) : Cond) ∈ TB := tb_of (List.mem_of_getElem? (i := 653) rfl) rfl
theorem wd_654 : (.methodLink "LoadCycles" 230 ⟨"LoadCycles$Sheet", "hasRow", "()Z"⟩ : Cond) ∈ TB := tb_of (List.mem_of_getElem? (i := 654) (by decide +kernel)) rfl
theorem wd_655 : (.methodLink "LoadCycles" 233 ⟨"LoadCycles$Sheet", "empty", "()V"⟩ : Cond) ∈ TB := tb_of (List.mem_of_getElem? (i := 655) (by decide +kernel)) rfl
theorem wd_656 : (.instanceMethod ⟨"LoadCycles$Sheet", "empty", "()V"⟩ : Cond) ∈ TB := tb_of (List.mem_of_getElem? (i := 656) (by decide +kernel)) rfl
theorem wd_657 : (.selects "LoadCycles$Sheet" ⟨"LoadCycles$Sheet", "empty", "()V"⟩ ⟨"LoadCycles$Sheet", "empty", "()V"⟩ : Cond) ∈ TB := tb_of (List.mem_of_getElem? (i := 657) (by decide +kernel)) rfl
set_option maxRecDepth 20000 in
theorem wd_658 : (.code ⟨"LoadCycles$Sheet", "empty", "()V"⟩ prog_5_method_3_code 1 (none : Option FieldType) : Cond) ∈ TB := tb_of (List.mem_of_getElem? (i := 658) rfl) rfl
theorem wd_659 : (.methodLink "LoadCyclesLaw" 112 ⟨"LoadCycles", "put", "(III)I"⟩ : Cond) ∈ TB := tb_of (List.mem_of_getElem? (i := 659) (by decide +kernel)) rfl
theorem wd_660 : (.instanceMethod ⟨"LoadCycles", "put", "(III)I"⟩ : Cond) ∈ TB := tb_of (List.mem_of_getElem? (i := 660) (by decide +kernel)) rfl
theorem wd_661 : (.selects "LoadCycles" ⟨"LoadCycles", "put", "(III)I"⟩ ⟨"LoadCycles", "put", "(III)I"⟩ : Cond) ∈ TB := tb_of (List.mem_of_getElem? (i := 661) (by decide +kernel)) rfl
set_option maxRecDepth 20000 in
theorem wd_662 : (.code ⟨"LoadCycles", "put", "(III)I"⟩ prog_1_method_25_code 5 (some .int) : Cond) ∈ TB := tb_of (List.mem_of_getElem? (i := 662) rfl) rfl
theorem wd_663 : (.methodLink "LoadCycles" 236 ⟨"LoadCycles$Sheet", "cut", "(I)I"⟩ : Cond) ∈ TB := tb_of (List.mem_of_getElem? (i := 663) (by decide +kernel)) rfl
theorem wd_664 : (.instanceMethod ⟨"LoadCycles$Sheet", "cut", "(I)I"⟩ : Cond) ∈ TB := tb_of (List.mem_of_getElem? (i := 664) (by decide +kernel)) rfl
theorem wd_665 : (.selects "LoadCycles$Sheet" ⟨"LoadCycles$Sheet", "cut", "(I)I"⟩ ⟨"LoadCycles$Sheet", "cut", "(I)I"⟩ : Cond) ∈ TB := tb_of (List.mem_of_getElem? (i := 665) (by decide +kernel)) rfl
set_option maxRecDepth 20000 in
theorem wd_666 : (.code ⟨"LoadCycles$Sheet", "cut", "(I)I"⟩ prog_5_method_6_code 2 (some .int) : Cond) ∈ TB := tb_of (List.mem_of_getElem? (i := 666) rfl) rfl
theorem wd_667 : (.methodLink "LoadCyclesLaw" 116 ⟨"LoadCycles", "cell", "(III)J"⟩ : Cond) ∈ TB := tb_of (List.mem_of_getElem? (i := 667) (by decide +kernel)) rfl
theorem wd_668 : (.instanceMethod ⟨"LoadCycles", "cell", "(III)J"⟩ : Cond) ∈ TB := tb_of (List.mem_of_getElem? (i := 668) (by decide +kernel)) rfl
theorem wd_669 : (.selects "LoadCycles" ⟨"LoadCycles", "cell", "(III)J"⟩ ⟨"LoadCycles", "cell", "(III)J"⟩ : Cond) ∈ TB := tb_of (List.mem_of_getElem? (i := 669) (by decide +kernel)) rfl
set_option maxRecDepth 20000 in
theorem wd_670 : (.code ⟨"LoadCycles", "cell", "(III)J"⟩ prog_1_method_26_code 5 (some .long) : Cond) ∈ TB := tb_of (List.mem_of_getElem? (i := 670) rfl) rfl
theorem wd_671 : (.methodLink "LoadCyclesLaw" 121 ⟨"LoadCycles", "copy", "(IIIII)I"⟩ : Cond) ∈ TB := tb_of (List.mem_of_getElem? (i := 671) (by decide +kernel)) rfl
theorem wd_672 : (.instanceMethod ⟨"LoadCycles", "copy", "(IIIII)I"⟩ : Cond) ∈ TB := tb_of (List.mem_of_getElem? (i := 672) (by decide +kernel)) rfl
theorem wd_673 : (.selects "LoadCycles" ⟨"LoadCycles", "copy", "(IIIII)I"⟩ ⟨"LoadCycles", "copy", "(IIIII)I"⟩ : Cond) ∈ TB := tb_of (List.mem_of_getElem? (i := 673) (by decide +kernel)) rfl
set_option maxRecDepth 20000 in
theorem wd_674 : (.code ⟨"LoadCycles", "copy", "(IIIII)I"⟩ prog_1_method_27_code 8 (some .int) : Cond) ∈ TB := tb_of (List.mem_of_getElem? (i := 674) rfl) rfl
theorem wd_675 : (.methodLink "LoadCyclesLaw" 125 ⟨"LoadCycles", "tell", "(I)I"⟩ : Cond) ∈ TB := tb_of (List.mem_of_getElem? (i := 675) (by decide +kernel)) rfl
theorem wd_676 : (.instanceMethod ⟨"LoadCycles", "tell", "(I)I"⟩ : Cond) ∈ TB := tb_of (List.mem_of_getElem? (i := 676) (by decide +kernel)) rfl
theorem wd_677 : (.selects "LoadCycles" ⟨"LoadCycles", "tell", "(I)I"⟩ ⟨"LoadCycles", "tell", "(I)I"⟩ : Cond) ∈ TB := tb_of (List.mem_of_getElem? (i := 677) (by decide +kernel)) rfl
set_option maxRecDepth 20000 in
theorem wd_678 : (.code ⟨"LoadCycles", "tell", "(I)I"⟩ prog_1_method_28_code 2 (some .int) : Cond) ∈ TB := tb_of (List.mem_of_getElem? (i := 678) rfl) rfl
theorem wd_679 : (.methodLink "LoadCycles" 242 ⟨"LoadCycles", "tellPlain", "(I)I"⟩ : Cond) ∈ TB := tb_of (List.mem_of_getElem? (i := 679) (by decide +kernel)) rfl
theorem wd_681 : (.instanceMethod ⟨"LoadCycles", "tellPlain", "(I)I"⟩ : Cond) ∈ TB := tb_of (List.mem_of_getElem? (i := 681) (by decide +kernel)) rfl
set_option maxRecDepth 20000 in
theorem wd_682 : (.code ⟨"LoadCycles", "tellPlain", "(I)I"⟩ prog_1_method_53_code 2 (some .int) : Cond) ∈ TB := tb_of (List.mem_of_getElem? (i := 682) rfl) rfl
theorem wd_683 : (.methodLink "LoadCycles" 301 ⟨"LoadCycles", "leaveTrace", "(I)V"⟩ : Cond) ∈ TB := tb_of (List.mem_of_getElem? (i := 683) (by decide +kernel)) rfl
theorem wd_685 : (.instanceMethod ⟨"LoadCycles", "leaveTrace", "(I)V"⟩ : Cond) ∈ TB := tb_of (List.mem_of_getElem? (i := 685) (by decide +kernel)) rfl
set_option maxRecDepth 20000 in
theorem wd_686 : (.code ⟨"LoadCycles", "leaveTrace", "(I)V"⟩ prog_1_method_52_code 2 (none : Option FieldType) : Cond) ∈ TB := tb_of (List.mem_of_getElem? (i := 686) rfl) rfl
theorem wd_687 : (.methodLink "LoadCycles" 245 ⟨"LoadCycles", "tellHeavy", "(I)I"⟩ : Cond) ∈ TB := tb_of (List.mem_of_getElem? (i := 687) (by decide +kernel)) rfl
theorem wd_689 : (.instanceMethod ⟨"LoadCycles", "tellHeavy", "(I)I"⟩ : Cond) ∈ TB := tb_of (List.mem_of_getElem? (i := 689) (by decide +kernel)) rfl
set_option maxRecDepth 20000 in
theorem wd_690 : (.code ⟨"LoadCycles", "tellHeavy", "(I)I"⟩ prog_1_method_54_code 2 (some .int) : Cond) ∈ TB := tb_of (List.mem_of_getElem? (i := 690) rfl) rfl
theorem wd_691 : (.methodLink "LoadCycles" 248 ⟨"LoadCycles", "tellDouble", "(I)I"⟩ : Cond) ∈ TB := tb_of (List.mem_of_getElem? (i := 691) (by decide +kernel)) rfl
theorem wd_693 : (.instanceMethod ⟨"LoadCycles", "tellDouble", "(I)I"⟩ : Cond) ∈ TB := tb_of (List.mem_of_getElem? (i := 693) (by decide +kernel)) rfl
set_option maxRecDepth 20000 in
theorem wd_694 : (.code ⟨"LoadCycles", "tellDouble", "(I)I"⟩ prog_1_method_55_code 3 (some .int) : Cond) ∈ TB := tb_of (List.mem_of_getElem? (i := 694) rfl) rfl
theorem wd_695 : (.methodLink "LoadCyclesLaw" 129 ⟨"LoadCycles", "metered", "(I)I"⟩ : Cond) ∈ TB := tb_of (List.mem_of_getElem? (i := 695) (by decide +kernel)) rfl
theorem wd_696 : (.instanceMethod ⟨"LoadCycles", "metered", "(I)I"⟩ : Cond) ∈ TB := tb_of (List.mem_of_getElem? (i := 696) (by decide +kernel)) rfl
theorem wd_697 : (.selects "LoadCycles" ⟨"LoadCycles", "metered", "(I)I"⟩ ⟨"LoadCycles", "metered", "(I)I"⟩ : Cond) ∈ TB := tb_of (List.mem_of_getElem? (i := 697) (by decide +kernel)) rfl
set_option maxRecDepth 20000 in
theorem wd_698 : (.code ⟨"LoadCycles", "metered", "(I)I"⟩ prog_1_method_29_code 2 (some .int) : Cond) ∈ TB := tb_of (List.mem_of_getElem? (i := 698) rfl) rfl
theorem wd_699 : (.methodLink "LoadCycles" 251 ⟨"LoadCycles", "ownMetering", "()I"⟩ : Cond) ∈ TB := tb_of (List.mem_of_getElem? (i := 699) (by decide +kernel)) rfl
theorem wd_701 : (.instanceMethod ⟨"LoadCycles", "ownMetering", "()I"⟩ : Cond) ∈ TB := tb_of (List.mem_of_getElem? (i := 701) (by decide +kernel)) rfl
set_option maxRecDepth 20000 in
theorem wd_702 : (.code ⟨"LoadCycles", "ownMetering", "()I"⟩ prog_1_method_57_code 1 (some .int) : Cond) ∈ TB := tb_of (List.mem_of_getElem? (i := 702) rfl) rfl
theorem wd_703 : (.methodLink "LoadCycles" 254 ⟨"LoadCycles", "lentMetering", "(I)I"⟩ : Cond) ∈ TB := tb_of (List.mem_of_getElem? (i := 703) (by decide +kernel)) rfl
theorem wd_705 : (.instanceMethod ⟨"LoadCycles", "lentMetering", "(I)I"⟩ : Cond) ∈ TB := tb_of (List.mem_of_getElem? (i := 705) (by decide +kernel)) rfl
set_option maxRecDepth 20000 in
theorem wd_706 : (.code ⟨"LoadCycles", "lentMetering", "(I)I"⟩ prog_1_method_56_code 4 (some .int) : Cond) ∈ TB := tb_of (List.mem_of_getElem? (i := 706) rfl) rfl
theorem wd_707 : (.methodLink "LoadCyclesLaw" 133 ⟨"LoadCycles", "as", "(II)I"⟩ : Cond) ∈ TB := tb_of (List.mem_of_getElem? (i := 707) (by decide +kernel)) rfl
theorem wd_708 : (.instanceMethod ⟨"LoadCycles", "as", "(II)I"⟩ : Cond) ∈ TB := tb_of (List.mem_of_getElem? (i := 708) (by decide +kernel)) rfl
theorem wd_709 : (.selects "LoadCycles" ⟨"LoadCycles", "as", "(II)I"⟩ ⟨"LoadCycles", "as", "(II)I"⟩ : Cond) ∈ TB := tb_of (List.mem_of_getElem? (i := 709) (by decide +kernel)) rfl
set_option maxRecDepth 20000 in
theorem wd_710 : (.code ⟨"LoadCycles", "as", "(II)I"⟩ prog_1_method_30_code 3 (some .int) : Cond) ∈ TB := tb_of (List.mem_of_getElem? (i := 710) rfl) rfl
theorem wd_711 : (.methodLink "LoadCyclesLaw" 137 ⟨"LoadCycles", "trace", "()I"⟩ : Cond) ∈ TB := tb_of (List.mem_of_getElem? (i := 711) (by decide +kernel)) rfl
theorem wd_712 : (.instanceMethod ⟨"LoadCycles", "trace", "()I"⟩ : Cond) ∈ TB := tb_of (List.mem_of_getElem? (i := 712) (by decide +kernel)) rfl
theorem wd_713 : (.selects "LoadCycles" ⟨"LoadCycles", "trace", "()I"⟩ ⟨"LoadCycles", "trace", "()I"⟩ : Cond) ∈ TB := tb_of (List.mem_of_getElem? (i := 713) (by decide +kernel)) rfl
set_option maxRecDepth 20000 in
theorem wd_714 : (.code ⟨"LoadCycles", "trace", "()I"⟩ prog_1_method_31_code 1 (some .int) : Cond) ∈ TB := tb_of (List.mem_of_getElem? (i := 714) rfl) rfl
theorem wd_715 : (.methodLink "LoadCyclesLaw" 142 ⟨"LoadCycles", "fault", "()I"⟩ : Cond) ∈ TB := tb_of (List.mem_of_getElem? (i := 715) (by decide +kernel)) rfl
theorem wd_716 : (.instanceMethod ⟨"LoadCycles", "fault", "()I"⟩ : Cond) ∈ TB := tb_of (List.mem_of_getElem? (i := 716) (by decide +kernel)) rfl
theorem wd_717 : (.selects "LoadCycles" ⟨"LoadCycles", "fault", "()I"⟩ ⟨"LoadCycles", "fault", "()I"⟩ : Cond) ∈ TB := tb_of (List.mem_of_getElem? (i := 717) (by decide +kernel)) rfl
set_option maxRecDepth 20000 in
theorem wd_718 : (.code ⟨"LoadCycles", "fault", "()I"⟩ prog_1_method_32_code 1 (some .int) : Cond) ∈ TB := tb_of (List.mem_of_getElem? (i := 718) rfl) rfl
theorem wd_719 : (.methodLink "LoadCyclesLaw" 146 ⟨"LoadCycles", "many", "(I)I"⟩ : Cond) ∈ TB := tb_of (List.mem_of_getElem? (i := 719) (by decide +kernel)) rfl
theorem wd_720 : (.instanceMethod ⟨"LoadCycles", "many", "(I)I"⟩ : Cond) ∈ TB := tb_of (List.mem_of_getElem? (i := 720) (by decide +kernel)) rfl
theorem wd_721 : (.selects "LoadCycles" ⟨"LoadCycles", "many", "(I)I"⟩ ⟨"LoadCycles", "many", "(I)I"⟩ : Cond) ∈ TB := tb_of (List.mem_of_getElem? (i := 721) (by decide +kernel)) rfl
set_option maxRecDepth 20000 in
theorem wd_722 : (.code ⟨"LoadCycles", "many", "(I)I"⟩ prog_1_method_33_code 2 (some .int) : Cond) ∈ TB := tb_of (List.mem_of_getElem? (i := 722) rfl) rfl
theorem wd_723 : (.methodLink "LoadCycles" 260 ⟨"LoadCycles$House", "allLevels", "()I"⟩ : Cond) ∈ TB := tb_of (List.mem_of_getElem? (i := 723) (by decide +kernel)) rfl
theorem wd_724 : (.instanceMethod ⟨"LoadCycles$House", "allLevels", "()I"⟩ : Cond) ∈ TB := tb_of (List.mem_of_getElem? (i := 724) (by decide +kernel)) rfl
theorem wd_725 : (.selects "LoadCycles$House" ⟨"LoadCycles$House", "allLevels", "()I"⟩ ⟨"LoadCycles$House", "allLevels", "()I"⟩ : Cond) ∈ TB := tb_of (List.mem_of_getElem? (i := 725) (by decide +kernel)) rfl
set_option maxRecDepth 20000 in
theorem wd_726 : (.code ⟨"LoadCycles$House", "allLevels", "()I"⟩ prog_4_method_13_code 3 (some .int) : Cond) ∈ TB := tb_of (List.mem_of_getElem? (i := 726) rfl) rfl
theorem wd_727 : (.classLink "LoadCyclesLaw" 10 "LoadCyclesModel" : Cond) ∈ TB := tb_of (List.mem_of_getElem? (i := 727) (by decide +kernel)) rfl
theorem wd_728 : (.instantiable "LoadCyclesModel" 33 : Cond) ∈ TB := tb_of (List.mem_of_getElem? (i := 728) (by decide +kernel)) rfl
theorem wd_729 : (.methodLink "LoadCyclesLaw" 12 ⟨"LoadCyclesModel", "<init>", "()V"⟩ : Cond) ∈ TB := tb_of (List.mem_of_getElem? (i := 729) (by decide +kernel)) rfl
theorem wd_730 : (.instanceMethod ⟨"LoadCyclesModel", "<init>", "()V"⟩ : Cond) ∈ TB := tb_of (List.mem_of_getElem? (i := 730) (by decide +kernel)) rfl
set_option maxRecDepth 20000 in
theorem wd_731 : (.code ⟨"LoadCyclesModel", "<init>", "()V"⟩ prog_9_method_1_code 1 (none : Option FieldType) : Cond) ∈ TB := tb_of (List.mem_of_getElem? (i := 731) rfl) rfl
theorem wd_732 : (.methodLink "LoadCyclesModel" 1 ⟨"java/lang/Object", "<init>", "()V"⟩ : Cond) ∈ TB := tb_of (List.mem_of_getElem? (i := 732) (by decide +kernel)) rfl
theorem wd_733 : (.fieldLink "LoadCyclesModel" 79 "LoadCyclesModel" "fault" "I" : Cond) ∈ TB := tb_of (List.mem_of_getElem? (i := 733) (by decide +kernel)) rfl
theorem wd_734 : (.fieldLink "LoadCyclesModel" 281 "LoadCyclesModel" "trace" "I" : Cond) ∈ TB := tb_of (List.mem_of_getElem? (i := 734) (by decide +kernel)) rfl
theorem wd_735 : (.fieldLink "LoadCyclesModel" 9 "LoadCyclesModel" "sorts" "[I" : Cond) ∈ TB := tb_of (List.mem_of_getElem? (i := 735) (by decide +kernel)) rfl
theorem wd_736 : (.fieldLink "LoadCyclesModel" 13 "LoadCyclesModel" "sheetLong" "[I" : Cond) ∈ TB := tb_of (List.mem_of_getElem? (i := 736) (by decide +kernel)) rfl
theorem wd_737 : (.fieldLink "LoadCyclesModel" 16 "LoadCyclesModel" "cells" "[I" : Cond) ∈ TB := tb_of (List.mem_of_getElem? (i := 737) (by decide +kernel)) rfl
theorem wd_738 : (.fieldLink "LoadCyclesModel" 93 "LoadCyclesModel" "many" "I" : Cond) ∈ TB := tb_of (List.mem_of_getElem? (i := 738) (by decide +kernel)) rfl
theorem wd_739 : (.fieldLink "LoadCyclesModel" 19 "LoadCyclesModel" "kind" "[I" : Cond) ∈ TB := tb_of (List.mem_of_getElem? (i := 739) (by decide +kernel)) rfl
theorem wd_740 : (.fieldLink "LoadCyclesModel" 22 "LoadCyclesModel" "levels" "[I" : Cond) ∈ TB := tb_of (List.mem_of_getElem? (i := 740) (by decide +kernel)) rfl
theorem wd_741 : (.fieldLink "LoadCyclesModel" 25 "LoadCyclesModel" "told" "[I" : Cond) ∈ TB := tb_of (List.mem_of_getElem? (i := 741) (by decide +kernel)) rfl
theorem wd_742 : (.fieldLink "LoadCyclesModel" 96 "LoadCyclesModel" "times" "I" : Cond) ∈ TB := tb_of (List.mem_of_getElem? (i := 742) (by decide +kernel)) rfl
theorem wd_743 : (.fieldLink "LoadCyclesModel" 28 "LoadCyclesModel" "value" "[I" : Cond) ∈ TB := tb_of (List.mem_of_getElem? (i := 743) (by decide +kernel)) rfl
theorem wd_744 : (.fieldLink "LoadCyclesModel" 137 "LoadCyclesModel" "base" "I" : Cond) ∈ TB := tb_of (List.mem_of_getElem? (i := 744) (by decide +kernel)) rfl
theorem wd_745 : (.fieldLink "LoadCyclesModel" 99 "LoadCyclesModel" "at" "I" : Cond) ∈ TB := tb_of (List.mem_of_getElem? (i := 745) (by decide +kernel)) rfl
theorem wd_746 : (.fieldLink "LoadCyclesModel" 110 "LoadCyclesModel" "readMany" "I" : Cond) ∈ TB := tb_of (List.mem_of_getElem? (i := 746) (by decide +kernel)) rfl
theorem wd_747 : (.fieldLink "LoadCyclesModel" 31 "LoadCyclesModel" "readKind" "[I" : Cond) ∈ TB := tb_of (List.mem_of_getElem? (i := 747) (by decide +kernel)) rfl
theorem wd_748 : (.fieldLink "LoadCyclesModel" 34 "LoadCyclesModel" "readLevels" "[I" : Cond) ∈ TB := tb_of (List.mem_of_getElem? (i := 748) (by decide +kernel)) rfl
theorem wd_749 : (.fieldLink "LoadCyclesModel" 37 "LoadCyclesModel" "readTold" "[I" : Cond) ∈ TB := tb_of (List.mem_of_getElem? (i := 749) (by decide +kernel)) rfl
theorem wd_750 : (.fieldLink "LoadCyclesModel" 143 "LoadCyclesModel" "isFound" "Z" : Cond) ∈ TB := tb_of (List.mem_of_getElem? (i := 750) (by decide +kernel)) rfl
theorem wd_751 : (.fieldLink "LoadCyclesModel" 40 "LoadCyclesModel" "power" "[I" : Cond) ∈ TB := tb_of (List.mem_of_getElem? (i := 751) (by decide +kernel)) rfl
theorem wd_752 : (.fieldLink "LoadCyclesModel" 43 "LoadCyclesModel" "goes" "[I" : Cond) ∈ TB := tb_of (List.mem_of_getElem? (i := 752) (by decide +kernel)) rfl
theorem wd_753 : (.fieldLink "LoadCyclesModel" 46 "LoadCyclesModel" "cost" "[I" : Cond) ∈ TB := tb_of (List.mem_of_getElem? (i := 753) (by decide +kernel)) rfl
theorem wd_754 : (.fieldLink "LoadCyclesModel" 49 "LoadCyclesModel" "rank" "[I" : Cond) ∈ TB := tb_of (List.mem_of_getElem? (i := 754) (by decide +kernel)) rfl
theorem wd_755 : (.fieldLink "LoadCyclesModel" 52 "LoadCyclesModel" "thenCost" "[I" : Cond) ∈ TB := tb_of (List.mem_of_getElem? (i := 755) (by decide +kernel)) rfl
theorem wd_756 : (.fieldLink "LoadCyclesModel" 55 "LoadCyclesModel" "thenRank" "[I" : Cond) ∈ TB := tb_of (List.mem_of_getElem? (i := 756) (by decide +kernel)) rfl
theorem wd_757 : (.fieldLink "LoadCyclesModel" 58 "LoadCyclesModel" "start" "[I" : Cond) ∈ TB := tb_of (List.mem_of_getElem? (i := 757) (by decide +kernel)) rfl
theorem wd_758 : (.fieldLink "LoadCyclesModel" 61 "LoadCyclesModel" "from" "[I" : Cond) ∈ TB := tb_of (List.mem_of_getElem? (i := 758) (by decide +kernel)) rfl
theorem wd_759 : (.fieldLink "LoadCyclesModel" 64 "LoadCyclesModel" "best" "[I" : Cond) ∈ TB := tb_of (List.mem_of_getElem? (i := 759) (by decide +kernel)) rfl
theorem wd_760 : (.fieldLink "LoadCyclesModel" 67 "LoadCyclesModel" "keptTold" "[I" : Cond) ∈ TB := tb_of (List.mem_of_getElem? (i := 760) (by decide +kernel)) rfl
theorem wd_761 : (.fieldLink "LoadCyclesModel" 70 "LoadCyclesModel" "keptValue" "[I" : Cond) ∈ TB := tb_of (List.mem_of_getElem? (i := 761) (by decide +kernel)) rfl
theorem wd_762 : (.fieldLink "LoadCyclesModel" 225 "LoadCyclesModel" "keptBase" "I" : Cond) ∈ TB := tb_of (List.mem_of_getElem? (i := 762) (by decide +kernel)) rfl
theorem wd_763 : (.fieldLink "LoadCyclesModel" 140 "LoadCyclesModel" "readings" "I" : Cond) ∈ TB := tb_of (List.mem_of_getElem? (i := 763) (by decide +kernel)) rfl
theorem wd_764 : (.fieldLink "LoadCyclesModel" 73 "LoadCyclesModel" "readOf" "[I" : Cond) ∈ TB := tb_of (List.mem_of_getElem? (i := 764) (by decide +kernel)) rfl
theorem wd_765 : (.fieldLink "LoadCyclesModel" 76 "LoadCyclesModel" "readEnergy" "[I" : Cond) ∈ TB := tb_of (List.mem_of_getElem? (i := 765) (by decide +kernel)) rfl
theorem wd_766 : (.lays "LoadCyclesModel" "LoadCyclesModel" "fault" "I" : Cond) ∈ TB := tb_of (List.mem_of_getElem? (i := 766) (by decide +kernel)) rfl
theorem wd_768 : (.lays "LoadCyclesModel" "LoadCyclesModel" "trace" "I" : Cond) ∈ TB := tb_of (List.mem_of_getElem? (i := 768) (by decide +kernel)) rfl
theorem wd_770 : (.laysFinal "LoadCyclesModel" "LoadCyclesModel" "sorts" "[I" : Cond) ∈ TB := tb_of (List.mem_of_getElem? (i := 770) (by decide +kernel)) rfl
theorem wd_772 : (.laysFinal "LoadCyclesModel" "LoadCyclesModel" "sheetLong" "[I" : Cond) ∈ TB := tb_of (List.mem_of_getElem? (i := 772) (by decide +kernel)) rfl
theorem wd_774 : (.laysFinal "LoadCyclesModel" "LoadCyclesModel" "cells" "[I" : Cond) ∈ TB := tb_of (List.mem_of_getElem? (i := 774) (by decide +kernel)) rfl
theorem wd_776 : (.lays "LoadCyclesModel" "LoadCyclesModel" "many" "I" : Cond) ∈ TB := tb_of (List.mem_of_getElem? (i := 776) (by decide +kernel)) rfl
theorem wd_778 : (.laysFinal "LoadCyclesModel" "LoadCyclesModel" "kind" "[I" : Cond) ∈ TB := tb_of (List.mem_of_getElem? (i := 778) (by decide +kernel)) rfl
theorem wd_780 : (.laysFinal "LoadCyclesModel" "LoadCyclesModel" "levels" "[I" : Cond) ∈ TB := tb_of (List.mem_of_getElem? (i := 780) (by decide +kernel)) rfl
theorem wd_782 : (.laysFinal "LoadCyclesModel" "LoadCyclesModel" "told" "[I" : Cond) ∈ TB := tb_of (List.mem_of_getElem? (i := 782) (by decide +kernel)) rfl
theorem wd_784 : (.lays "LoadCyclesModel" "LoadCyclesModel" "times" "I" : Cond) ∈ TB := tb_of (List.mem_of_getElem? (i := 784) (by decide +kernel)) rfl
theorem wd_786 : (.laysFinal "LoadCyclesModel" "LoadCyclesModel" "value" "[I" : Cond) ∈ TB := tb_of (List.mem_of_getElem? (i := 786) (by decide +kernel)) rfl
theorem wd_788 : (.lays "LoadCyclesModel" "LoadCyclesModel" "base" "I" : Cond) ∈ TB := tb_of (List.mem_of_getElem? (i := 788) (by decide +kernel)) rfl
theorem wd_790 : (.lays "LoadCyclesModel" "LoadCyclesModel" "at" "I" : Cond) ∈ TB := tb_of (List.mem_of_getElem? (i := 790) (by decide +kernel)) rfl
theorem wd_792 : (.lays "LoadCyclesModel" "LoadCyclesModel" "readMany" "I" : Cond) ∈ TB := tb_of (List.mem_of_getElem? (i := 792) (by decide +kernel)) rfl
theorem wd_794 : (.laysFinal "LoadCyclesModel" "LoadCyclesModel" "readKind" "[I" : Cond) ∈ TB := tb_of (List.mem_of_getElem? (i := 794) (by decide +kernel)) rfl
theorem wd_796 : (.laysFinal "LoadCyclesModel" "LoadCyclesModel" "readLevels" "[I" : Cond) ∈ TB := tb_of (List.mem_of_getElem? (i := 796) (by decide +kernel)) rfl
theorem wd_798 : (.laysFinal "LoadCyclesModel" "LoadCyclesModel" "readTold" "[I" : Cond) ∈ TB := tb_of (List.mem_of_getElem? (i := 798) (by decide +kernel)) rfl
theorem wd_800 : (.lays "LoadCyclesModel" "LoadCyclesModel" "isFound" "Z" : Cond) ∈ TB := tb_of (List.mem_of_getElem? (i := 800) (by decide +kernel)) rfl
theorem wd_802 : (.laysFinal "LoadCyclesModel" "LoadCyclesModel" "power" "[I" : Cond) ∈ TB := tb_of (List.mem_of_getElem? (i := 802) (by decide +kernel)) rfl
theorem wd_804 : (.laysFinal "LoadCyclesModel" "LoadCyclesModel" "goes" "[I" : Cond) ∈ TB := tb_of (List.mem_of_getElem? (i := 804) (by decide +kernel)) rfl
theorem wd_806 : (.laysFinal "LoadCyclesModel" "LoadCyclesModel" "cost" "[I" : Cond) ∈ TB := tb_of (List.mem_of_getElem? (i := 806) (by decide +kernel)) rfl
theorem wd_808 : (.laysFinal "LoadCyclesModel" "LoadCyclesModel" "rank" "[I" : Cond) ∈ TB := tb_of (List.mem_of_getElem? (i := 808) (by decide +kernel)) rfl
theorem wd_810 : (.laysFinal "LoadCyclesModel" "LoadCyclesModel" "thenCost" "[I" : Cond) ∈ TB := tb_of (List.mem_of_getElem? (i := 810) (by decide +kernel)) rfl
theorem wd_812 : (.laysFinal "LoadCyclesModel" "LoadCyclesModel" "thenRank" "[I" : Cond) ∈ TB := tb_of (List.mem_of_getElem? (i := 812) (by decide +kernel)) rfl
theorem wd_814 : (.laysFinal "LoadCyclesModel" "LoadCyclesModel" "start" "[I" : Cond) ∈ TB := tb_of (List.mem_of_getElem? (i := 814) (by decide +kernel)) rfl
theorem wd_816 : (.laysFinal "LoadCyclesModel" "LoadCyclesModel" "from" "[I" : Cond) ∈ TB := tb_of (List.mem_of_getElem? (i := 816) (by decide +kernel)) rfl
theorem wd_818 : (.laysFinal "LoadCyclesModel" "LoadCyclesModel" "best" "[I" : Cond) ∈ TB := tb_of (List.mem_of_getElem? (i := 818) (by decide +kernel)) rfl
theorem wd_820 : (.laysFinal "LoadCyclesModel" "LoadCyclesModel" "keptTold" "[I" : Cond) ∈ TB := tb_of (List.mem_of_getElem? (i := 820) (by decide +kernel)) rfl
theorem wd_822 : (.laysFinal "LoadCyclesModel" "LoadCyclesModel" "keptValue" "[I" : Cond) ∈ TB := tb_of (List.mem_of_getElem? (i := 822) (by decide +kernel)) rfl
theorem wd_824 : (.lays "LoadCyclesModel" "LoadCyclesModel" "keptBase" "I" : Cond) ∈ TB := tb_of (List.mem_of_getElem? (i := 824) (by decide +kernel)) rfl
theorem wd_826 : (.lays "LoadCyclesModel" "LoadCyclesModel" "readings" "I" : Cond) ∈ TB := tb_of (List.mem_of_getElem? (i := 826) (by decide +kernel)) rfl
theorem wd_828 : (.laysFinal "LoadCyclesModel" "LoadCyclesModel" "readOf" "[I" : Cond) ∈ TB := tb_of (List.mem_of_getElem? (i := 828) (by decide +kernel)) rfl
theorem wd_830 : (.laysFinal "LoadCyclesModel" "LoadCyclesModel" "readEnergy" "[I" : Cond) ∈ TB := tb_of (List.mem_of_getElem? (i := 830) (by decide +kernel)) rfl
theorem wd_833 : (.methodLink "LoadCyclesLaw" 17 ⟨"LoadCyclesModel", "house", "(IIII)I"⟩ : Cond) ∈ TB := tb_of (List.mem_of_getElem? (i := 833) (by decide +kernel)) rfl
theorem wd_834 : (.instanceMethod ⟨"LoadCyclesModel", "house", "(IIII)I"⟩ : Cond) ∈ TB := tb_of (List.mem_of_getElem? (i := 834) (by decide +kernel)) rfl
theorem wd_835 : (.selects "LoadCyclesModel" ⟨"LoadCyclesModel", "house", "(IIII)I"⟩ ⟨"LoadCyclesModel", "house", "(IIII)I"⟩ : Cond) ∈ TB := tb_of (List.mem_of_getElem? (i := 835) (by decide +kernel)) rfl
set_option maxRecDepth 20000 in
theorem wd_836 : (.code ⟨"LoadCyclesModel", "house", "(IIII)I"⟩ prog_9_method_14_code 9 (some .int) : Cond) ∈ TB := tb_of (List.mem_of_getElem? (i := 836) rfl) rfl
theorem wd_837 : (.methodLink "LoadCyclesModel" 121 ⟨"LoadCyclesModel", "isSheet", "(I)Z"⟩ : Cond) ∈ TB := tb_of (List.mem_of_getElem? (i := 837) (by decide +kernel)) rfl
theorem wd_838 : (.static ⟨"LoadCyclesModel", "isSheet", "(I)Z"⟩ : Cond) ∈ TB := tb_of (List.mem_of_getElem? (i := 838) (by decide +kernel)) rfl
set_option maxRecDepth 20000 in
theorem wd_839 : (.code ⟨"LoadCyclesModel", "isSheet", "(I)Z"⟩ prog_9_method_5_code 1 (some .boolean) : Cond) ∈ TB := tb_of (List.mem_of_getElem? (i := 839) rfl) rfl
theorem wd_840 : (.constantLong "LoadCyclesModel" 85 (3 : Int64) : Cond) ∈ TB := tb_of (List.mem_of_getElem? (i := 840) (by decide +kernel)) rfl
theorem wd_841 : (.methodLink "LoadCyclesModel" 87 ⟨"LoadCyclesModel", "within", "(JJJ)Z"⟩ : Cond) ∈ TB := tb_of (List.mem_of_getElem? (i := 841) (by decide +kernel)) rfl
theorem wd_842 : (.static ⟨"LoadCyclesModel", "within", "(JJJ)Z"⟩ : Cond) ∈ TB := tb_of (List.mem_of_getElem? (i := 842) (by decide +kernel)) rfl
set_option maxRecDepth 20000 in
theorem wd_843 : (.code ⟨"LoadCyclesModel", "within", "(JJJ)Z"⟩ prog_9_method_4_code 6 (some .boolean) : Cond) ∈ TB := tb_of (List.mem_of_getElem? (i := 843) rfl) rfl
theorem wd_844 : (.methodLink "LoadCyclesModel" 124 ⟨"LoadCyclesModel", "isSort", "(I)Z"⟩ : Cond) ∈ TB := tb_of (List.mem_of_getElem? (i := 844) (by decide +kernel)) rfl
theorem wd_845 : (.static ⟨"LoadCyclesModel", "isSort", "(I)Z"⟩ : Cond) ∈ TB := tb_of (List.mem_of_getElem? (i := 845) (by decide +kernel)) rfl
set_option maxRecDepth 20000 in
theorem wd_846 : (.code ⟨"LoadCyclesModel", "isSort", "(I)Z"⟩ prog_9_method_6_code 1 (some .boolean) : Cond) ∈ TB := tb_of (List.mem_of_getElem? (i := 846) rfl) rfl
theorem wd_847 : (.constantLong "LoadCyclesModel" 91 (2 : Int64) : Cond) ∈ TB := tb_of (List.mem_of_getElem? (i := 847) (by decide +kernel)) rfl
theorem wd_848 : (.methodLink "LoadCyclesModel" 127 ⟨"LoadCyclesModel", "against", "(IIII)I"⟩ : Cond) ∈ TB := tb_of (List.mem_of_getElem? (i := 848) (by decide +kernel)) rfl
theorem wd_850 : (.instanceMethod ⟨"LoadCyclesModel", "against", "(IIII)I"⟩ : Cond) ∈ TB := tb_of (List.mem_of_getElem? (i := 850) (by decide +kernel)) rfl
set_option maxRecDepth 20000 in
theorem wd_851 : (.code ⟨"LoadCyclesModel", "against", "(IIII)I"⟩ prog_9_method_7_code 5 (some .int) : Cond) ∈ TB := tb_of (List.mem_of_getElem? (i := 851) rfl) rfl
theorem wd_852 : (.methodLink "LoadCyclesModel" 131 ⟨"LoadCyclesModel", "fails", "(I)I"⟩ : Cond) ∈ TB := tb_of (List.mem_of_getElem? (i := 852) (by decide +kernel)) rfl
theorem wd_854 : (.instanceMethod ⟨"LoadCyclesModel", "fails", "(I)I"⟩ : Cond) ∈ TB := tb_of (List.mem_of_getElem? (i := 854) (by decide +kernel)) rfl
set_option maxRecDepth 20000 in
theorem wd_855 : (.code ⟨"LoadCyclesModel", "fails", "(I)I"⟩ prog_9_method_2_code 2 (some .int) : Cond) ∈ TB := tb_of (List.mem_of_getElem? (i := 855) rfl) rfl
theorem wd_856 : (.methodLink "LoadCyclesModel" 134 ⟨"LoadCyclesModel", "readAll", "(I)Z"⟩ : Cond) ∈ TB := tb_of (List.mem_of_getElem? (i := 856) (by decide +kernel)) rfl
theorem wd_858 : (.instanceMethod ⟨"LoadCyclesModel", "readAll", "(I)Z"⟩ : Cond) ∈ TB := tb_of (List.mem_of_getElem? (i := 858) (by decide +kernel)) rfl
set_option maxRecDepth 20000 in
theorem wd_859 : (.code ⟨"LoadCyclesModel", "readAll", "(I)Z"⟩ prog_9_method_13_code 2 (some .boolean) : Cond) ∈ TB := tb_of (List.mem_of_getElem? (i := 859) rfl) rfl
theorem wd_860 : (.methodLink "LoadCyclesModel" 113 ⟨"LoadCyclesModel", "isSign", "(II)Z"⟩ : Cond) ∈ TB := tb_of (List.mem_of_getElem? (i := 860) (by decide +kernel)) rfl
theorem wd_862 : (.instanceMethod ⟨"LoadCyclesModel", "isSign", "(II)Z"⟩ : Cond) ∈ TB := tb_of (List.mem_of_getElem? (i := 862) (by decide +kernel)) rfl
set_option maxRecDepth 20000 in
theorem wd_863 : (.code ⟨"LoadCyclesModel", "isSign", "(II)Z"⟩ prog_9_method_10_code 3 (some .boolean) : Cond) ∈ TB := tb_of (List.mem_of_getElem? (i := 863) rfl) rfl
theorem wd_864 : (.methodLink "LoadCyclesModel" 117 ⟨"LoadCyclesModel", "readAppliance", "(I)Z"⟩ : Cond) ∈ TB := tb_of (List.mem_of_getElem? (i := 864) (by decide +kernel)) rfl
theorem wd_866 : (.instanceMethod ⟨"LoadCyclesModel", "readAppliance", "(I)Z"⟩ : Cond) ∈ TB := tb_of (List.mem_of_getElem? (i := 866) (by decide +kernel)) rfl
set_option maxRecDepth 20000 in
theorem wd_867 : (.code ⟨"LoadCyclesModel", "readAppliance", "(I)Z"⟩ prog_9_method_12_code 4 (some .boolean) : Cond) ∈ TB := tb_of (List.mem_of_getElem? (i := 867) rfl) rfl
theorem wd_868 : (.methodLink "LoadCyclesModel" 102 ⟨"LoadCyclesModel", "kindBy", "(I)I"⟩ : Cond) ∈ TB := tb_of (List.mem_of_getElem? (i := 868) (by decide +kernel)) rfl
theorem wd_869 : (.static ⟨"LoadCyclesModel", "kindBy", "(I)I"⟩ : Cond) ∈ TB := tb_of (List.mem_of_getElem? (i := 869) (by decide +kernel)) rfl
set_option maxRecDepth 20000 in
theorem wd_870 : (.code ⟨"LoadCyclesModel", "kindBy", "(I)I"⟩ prog_9_method_11_code 1 (some .int) : Cond) ∈ TB := tb_of (List.mem_of_getElem? (i := 870) rfl) rfl
theorem wd_871 : (.constantLong "LoadCyclesModel" 106 (49 : Int64) : Cond) ∈ TB := tb_of (List.mem_of_getElem? (i := 871) (by decide +kernel)) rfl
theorem wd_872 : (.constantLong "LoadCyclesModel" 108 (57 : Int64) : Cond) ∈ TB := tb_of (List.mem_of_getElem? (i := 872) (by decide +kernel)) rfl
theorem wd_873 : (.methodLink "LoadCyclesLaw" 22 ⟨"LoadCyclesModel", "ofAppliance", "(II)I"⟩ : Cond) ∈ TB := tb_of (List.mem_of_getElem? (i := 873) (by decide +kernel)) rfl
theorem wd_874 : (.instanceMethod ⟨"LoadCyclesModel", "ofAppliance", "(II)I"⟩ : Cond) ∈ TB := tb_of (List.mem_of_getElem? (i := 874) (by decide +kernel)) rfl
theorem wd_875 : (.selects "LoadCyclesModel" ⟨"LoadCyclesModel", "ofAppliance", "(II)I"⟩ ⟨"LoadCyclesModel", "ofAppliance", "(II)I"⟩ : Cond) ∈ TB := tb_of (List.mem_of_getElem? (i := 875) (by decide +kernel)) rfl
set_option maxRecDepth 20000 in
theorem wd_876 : (.code ⟨"LoadCyclesModel", "ofAppliance", "(II)I"⟩ prog_9_method_16_code 3 (some .int) : Cond) ∈ TB := tb_of (List.mem_of_getElem? (i := 876) rfl) rfl
theorem wd_877 : (.methodLink "LoadCyclesModel" 147 ⟨"LoadCyclesModel", "isAppliance", "(I)Z"⟩ : Cond) ∈ TB := tb_of (List.mem_of_getElem? (i := 877) (by decide +kernel)) rfl
theorem wd_879 : (.instanceMethod ⟨"LoadCyclesModel", "isAppliance", "(I)Z"⟩ : Cond) ∈ TB := tb_of (List.mem_of_getElem? (i := 879) (by decide +kernel)) rfl
set_option maxRecDepth 20000 in
theorem wd_880 : (.code ⟨"LoadCyclesModel", "isAppliance", "(I)Z"⟩ prog_9_method_8_code 2 (some .boolean) : Cond) ∈ TB := tb_of (List.mem_of_getElem? (i := 880) rfl) rfl
theorem wd_881 : (.constantLong "LoadCyclesModel" 150 (10 : Int64) : Cond) ∈ TB := tb_of (List.mem_of_getElem? (i := 881) (by decide +kernel)) rfl
theorem wd_882 : (.constantLong "LoadCyclesModel" 152 (12 : Int64) : Cond) ∈ TB := tb_of (List.mem_of_getElem? (i := 882) (by decide +kernel)) rfl
theorem wd_883 : (.constantLong "LoadCyclesModel" 154 (20 : Int64) : Cond) ∈ TB := tb_of (List.mem_of_getElem? (i := 883) (by decide +kernel)) rfl
theorem wd_884 : (.constantLong "LoadCyclesModel" 156 (22 : Int64) : Cond) ∈ TB := tb_of (List.mem_of_getElem? (i := 884) (by decide +kernel)) rfl
theorem wd_885 : (.methodLink "LoadCyclesModel" 158 ⟨"LoadCyclesModel", "powerOf", "(II)I"⟩ : Cond) ∈ TB := tb_of (List.mem_of_getElem? (i := 885) (by decide +kernel)) rfl
theorem wd_887 : (.instanceMethod ⟨"LoadCyclesModel", "powerOf", "(II)I"⟩ : Cond) ∈ TB := tb_of (List.mem_of_getElem? (i := 887) (by decide +kernel)) rfl
set_option maxRecDepth 20000 in
theorem wd_888 : (.code ⟨"LoadCyclesModel", "powerOf", "(II)I"⟩ prog_9_method_15_code 4 (some .int) : Cond) ∈ TB := tb_of (List.mem_of_getElem? (i := 888) rfl) rfl
theorem wd_889 : (.methodLink "LoadCyclesLaw" 27 ⟨"LoadCyclesModel", "level", "(III)I"⟩ : Cond) ∈ TB := tb_of (List.mem_of_getElem? (i := 889) (by decide +kernel)) rfl
theorem wd_890 : (.instanceMethod ⟨"LoadCyclesModel", "level", "(III)I"⟩ : Cond) ∈ TB := tb_of (List.mem_of_getElem? (i := 890) (by decide +kernel)) rfl
theorem wd_891 : (.selects "LoadCyclesModel" ⟨"LoadCyclesModel", "level", "(III)I"⟩ ⟨"LoadCyclesModel", "level", "(III)I"⟩ : Cond) ∈ TB := tb_of (List.mem_of_getElem? (i := 891) (by decide +kernel)) rfl
set_option maxRecDepth 20000 in
theorem wd_892 : (.code ⟨"LoadCyclesModel", "level", "(III)I"⟩ prog_9_method_17_code 5 (some .int) : Cond) ∈ TB := tb_of (List.mem_of_getElem? (i := 892) rfl) rfl
theorem wd_893 : (.constantLong "LoadCyclesModel" 162 (9 : Int64) : Cond) ∈ TB := tb_of (List.mem_of_getElem? (i := 893) (by decide +kernel)) rfl
theorem wd_894 : (.methodLink "LoadCyclesLaw" 31 ⟨"LoadCyclesModel", "meter", "(IIII)I"⟩ : Cond) ∈ TB := tb_of (List.mem_of_getElem? (i := 894) (by decide +kernel)) rfl
theorem wd_895 : (.instanceMethod ⟨"LoadCyclesModel", "meter", "(IIII)I"⟩ : Cond) ∈ TB := tb_of (List.mem_of_getElem? (i := 895) (by decide +kernel)) rfl
theorem wd_896 : (.selects "LoadCyclesModel" ⟨"LoadCyclesModel", "meter", "(IIII)I"⟩ ⟨"LoadCyclesModel", "meter", "(IIII)I"⟩ : Cond) ∈ TB := tb_of (List.mem_of_getElem? (i := 896) (by decide +kernel)) rfl
set_option maxRecDepth 20000 in
theorem wd_897 : (.code ⟨"LoadCyclesModel", "meter", "(IIII)I"⟩ prog_9_method_18_code 8 (some .int) : Cond) ∈ TB := tb_of (List.mem_of_getElem? (i := 897) rfl) rfl
theorem wd_898 : (.constantLong "LoadCyclesModel" 164 (99 : Int64) : Cond) ∈ TB := tb_of (List.mem_of_getElem? (i := 898) (by decide +kernel)) rfl
theorem wd_899 : (.methodLink "LoadCyclesLaw" 36 ⟨"LoadCyclesModel", "value", "(I)I"⟩ : Cond) ∈ TB := tb_of (List.mem_of_getElem? (i := 899) (by decide +kernel)) rfl
theorem wd_900 : (.instanceMethod ⟨"LoadCyclesModel", "value", "(I)I"⟩ : Cond) ∈ TB := tb_of (List.mem_of_getElem? (i := 900) (by decide +kernel)) rfl
theorem wd_901 : (.selects "LoadCyclesModel" ⟨"LoadCyclesModel", "value", "(I)I"⟩ ⟨"LoadCyclesModel", "value", "(I)I"⟩ : Cond) ∈ TB := tb_of (List.mem_of_getElem? (i := 901) (by decide +kernel)) rfl
set_option maxRecDepth 20000 in
theorem wd_902 : (.code ⟨"LoadCyclesModel", "value", "(I)I"⟩ prog_9_method_19_code 2 (some .int) : Cond) ∈ TB := tb_of (List.mem_of_getElem? (i := 902) rfl) rfl
theorem wd_903 : (.methodLink "LoadCyclesModel" 166 ⟨"LoadCyclesModel", "isTime", "(I)Z"⟩ : Cond) ∈ TB := tb_of (List.mem_of_getElem? (i := 903) (by decide +kernel)) rfl
theorem wd_905 : (.instanceMethod ⟨"LoadCyclesModel", "isTime", "(I)Z"⟩ : Cond) ∈ TB := tb_of (List.mem_of_getElem? (i := 905) (by decide +kernel)) rfl
set_option maxRecDepth 20000 in
theorem wd_906 : (.code ⟨"LoadCyclesModel", "isTime", "(I)Z"⟩ prog_9_method_9_code 2 (some .boolean) : Cond) ∈ TB := tb_of (List.mem_of_getElem? (i := 906) rfl) rfl
theorem wd_907 : (.methodLink "LoadCyclesLaw" 40 ⟨"LoadCyclesModel", "base", "(I)I"⟩ : Cond) ∈ TB := tb_of (List.mem_of_getElem? (i := 907) (by decide +kernel)) rfl
theorem wd_908 : (.instanceMethod ⟨"LoadCyclesModel", "base", "(I)I"⟩ : Cond) ∈ TB := tb_of (List.mem_of_getElem? (i := 908) (by decide +kernel)) rfl
theorem wd_909 : (.selects "LoadCyclesModel" ⟨"LoadCyclesModel", "base", "(I)I"⟩ ⟨"LoadCyclesModel", "base", "(I)I"⟩ : Cond) ∈ TB := tb_of (List.mem_of_getElem? (i := 909) (by decide +kernel)) rfl
set_option maxRecDepth 20000 in
theorem wd_910 : (.code ⟨"LoadCyclesModel", "base", "(I)I"⟩ prog_9_method_21_code 3 (some .int) : Cond) ∈ TB := tb_of (List.mem_of_getElem? (i := 910) rfl) rfl
theorem wd_911 : (.methodLink "LoadCyclesModel" 169 ⟨"LoadCyclesModel", "canBase", "(I)Z"⟩ : Cond) ∈ TB := tb_of (List.mem_of_getElem? (i := 911) (by decide +kernel)) rfl
theorem wd_913 : (.instanceMethod ⟨"LoadCyclesModel", "canBase", "(I)Z"⟩ : Cond) ∈ TB := tb_of (List.mem_of_getElem? (i := 913) (by decide +kernel)) rfl
set_option maxRecDepth 20000 in
theorem wd_914 : (.code ⟨"LoadCyclesModel", "canBase", "(I)Z"⟩ prog_9_method_20_code 3 (some .boolean) : Cond) ∈ TB := tb_of (List.mem_of_getElem? (i := 914) rfl) rfl
theorem wd_915 : (.methodLink "LoadCyclesLaw" 44 ⟨"LoadCyclesModel", "at", "(II)I"⟩ : Cond) ∈ TB := tb_of (List.mem_of_getElem? (i := 915) (by decide +kernel)) rfl
theorem wd_916 : (.instanceMethod ⟨"LoadCyclesModel", "at", "(II)I"⟩ : Cond) ∈ TB := tb_of (List.mem_of_getElem? (i := 916) (by decide +kernel)) rfl
theorem wd_917 : (.selects "LoadCyclesModel" ⟨"LoadCyclesModel", "at", "(II)I"⟩ ⟨"LoadCyclesModel", "at", "(II)I"⟩ : Cond) ∈ TB := tb_of (List.mem_of_getElem? (i := 917) (by decide +kernel)) rfl
set_option maxRecDepth 20000 in
theorem wd_918 : (.code ⟨"LoadCyclesModel", "at", "(II)I"⟩ prog_9_method_38_code 3 (some .int) : Cond) ∈ TB := tb_of (List.mem_of_getElem? (i := 918) rfl) rfl
theorem wd_919 : (.methodLink "LoadCyclesModel" 202 ⟨"LoadCyclesModel", "findBest", "()V"⟩ : Cond) ∈ TB := tb_of (List.mem_of_getElem? (i := 919) (by decide +kernel)) rfl
theorem wd_921 : (.instanceMethod ⟨"LoadCyclesModel", "findBest", "()V"⟩ : Cond) ∈ TB := tb_of (List.mem_of_getElem? (i := 921) (by decide +kernel)) rfl
set_option maxRecDepth 20000 in
theorem wd_922 : (.code ⟨"LoadCyclesModel", "findBest", "()V"⟩ prog_9_method_30_code 3 (none : Option FieldType) : Cond) ∈ TB := tb_of (List.mem_of_getElem? (i := 922) rfl) rfl
theorem wd_923 : (.methodLink "LoadCyclesModel" 188 ⟨"LoadCyclesModel", "prepare", "()V"⟩ : Cond) ∈ TB := tb_of (List.mem_of_getElem? (i := 923) (by decide +kernel)) rfl
theorem wd_925 : (.instanceMethod ⟨"LoadCyclesModel", "prepare", "()V"⟩ : Cond) ∈ TB := tb_of (List.mem_of_getElem? (i := 925) (by decide +kernel)) rfl
set_option maxRecDepth 20000 in
theorem wd_926 : (.code ⟨"LoadCyclesModel", "prepare", "()V"⟩ prog_9_method_26_code 3 (none : Option FieldType) : Cond) ∈ TB := tb_of (List.mem_of_getElem? (i := 926) rfl) rfl
theorem wd_927 : (.methodLink "LoadCyclesModel" 175 ⟨"LoadCyclesModel", "powerOfRow", "(I)I"⟩ : Cond) ∈ TB := tb_of (List.mem_of_getElem? (i := 927) (by decide +kernel)) rfl
theorem wd_929 : (.instanceMethod ⟨"LoadCyclesModel", "powerOfRow", "(I)I"⟩ : Cond) ∈ TB := tb_of (List.mem_of_getElem? (i := 929) (by decide +kernel)) rfl
set_option maxRecDepth 20000 in
theorem wd_930 : (.code ⟨"LoadCyclesModel", "powerOfRow", "(I)I"⟩ prog_9_method_23_code 5 (some .int) : Cond) ∈ TB := tb_of (List.mem_of_getElem? (i := 930) rfl) rfl
theorem wd_931 : (.methodLink "LoadCyclesModel" 172 ⟨"LoadCyclesModel", "digit", "(II)I"⟩ : Cond) ∈ TB := tb_of (List.mem_of_getElem? (i := 931) (by decide +kernel)) rfl
theorem wd_932 : (.static ⟨"LoadCyclesModel", "digit", "(II)I"⟩ : Cond) ∈ TB := tb_of (List.mem_of_getElem? (i := 932) (by decide +kernel)) rfl
set_option maxRecDepth 20000 in
theorem wd_933 : (.code ⟨"LoadCyclesModel", "digit", "(II)I"⟩ prog_9_method_22_code 2 (some .int) : Cond) ∈ TB := tb_of (List.mem_of_getElem? (i := 933) rfl) rfl
theorem wd_934 : (.methodLink "LoadCyclesModel" 178 ⟨"LoadCyclesModel", "goesOn", "(II)I"⟩ : Cond) ∈ TB := tb_of (List.mem_of_getElem? (i := 934) (by decide +kernel)) rfl
theorem wd_936 : (.instanceMethod ⟨"LoadCyclesModel", "goesOn", "(II)I"⟩ : Cond) ∈ TB := tb_of (List.mem_of_getElem? (i := 936) (by decide +kernel)) rfl
set_option maxRecDepth 20000 in
theorem wd_937 : (.code ⟨"LoadCyclesModel", "goesOn", "(II)I"⟩ prog_9_method_24_code 7 (some .int) : Cond) ∈ TB := tb_of (List.mem_of_getElem? (i := 937) rfl) rfl
theorem wd_938 : (.methodLink "LoadCyclesModel" 191 ⟨"LoadCyclesModel", "goFrom", "(II)V"⟩ : Cond) ∈ TB := tb_of (List.mem_of_getElem? (i := 938) (by decide +kernel)) rfl
theorem wd_940 : (.instanceMethod ⟨"LoadCyclesModel", "goFrom", "(II)V"⟩ : Cond) ∈ TB := tb_of (List.mem_of_getElem? (i := 940) (by decide +kernel)) rfl
set_option maxRecDepth 20000 in
theorem wd_941 : (.code ⟨"LoadCyclesModel", "goFrom", "(II)V"⟩ prog_9_method_28_code 7 (none : Option FieldType) : Cond) ∈ TB := tb_of (List.mem_of_getElem? (i := 941) rfl) rfl
theorem wd_942 : (.methodLink "LoadCyclesModel" 181 ⟨"LoadCyclesModel", "sizeOf", "(I)I"⟩ : Cond) ∈ TB := tb_of (List.mem_of_getElem? (i := 942) (by decide +kernel)) rfl
theorem wd_943 : (.static ⟨"LoadCyclesModel", "sizeOf", "(I)I"⟩ : Cond) ∈ TB := tb_of (List.mem_of_getElem? (i := 943) (by decide +kernel)) rfl
set_option maxRecDepth 20000 in
theorem wd_944 : (.code ⟨"LoadCyclesModel", "sizeOf", "(I)I"⟩ prog_9_method_25_code 1 (some .int) : Cond) ∈ TB := tb_of (List.mem_of_getElem? (i := 944) rfl) rfl
theorem wd_945 : (.methodLink "LoadCyclesModel" 184 ⟨"LoadCyclesModel", "isBetter", "(IIII)Z"⟩ : Cond) ∈ TB := tb_of (List.mem_of_getElem? (i := 945) (by decide +kernel)) rfl
theorem wd_947 : (.instanceMethod ⟨"LoadCyclesModel", "isBetter", "(IIII)Z"⟩ : Cond) ∈ TB := tb_of (List.mem_of_getElem? (i := 947) (by decide +kernel)) rfl
set_option maxRecDepth 20000 in
theorem wd_948 : (.code ⟨"LoadCyclesModel", "isBetter", "(IIII)Z"⟩ prog_9_method_27_code 6 (some .boolean) : Cond) ∈ TB := tb_of (List.mem_of_getElem? (i := 948) rfl) rfl
theorem wd_949 : (.methodLink "LoadCyclesModel" 195 ⟨"LoadCyclesModel", "rankAll", "(I)V"⟩ : Cond) ∈ TB := tb_of (List.mem_of_getElem? (i := 949) (by decide +kernel)) rfl
theorem wd_951 : (.instanceMethod ⟨"LoadCyclesModel", "rankAll", "(I)V"⟩ : Cond) ∈ TB := tb_of (List.mem_of_getElem? (i := 951) (by decide +kernel)) rfl
set_option maxRecDepth 20000 in
theorem wd_952 : (.code ⟨"LoadCyclesModel", "rankAll", "(I)V"⟩ prog_9_method_29_code 4 (none : Option FieldType) : Cond) ∈ TB := tb_of (List.mem_of_getElem? (i := 952) rfl) rfl
theorem wd_953 : (.methodLink "LoadCyclesModel" 199 ⟨"LoadCyclesModel", "walkBack", "()V"⟩ : Cond) ∈ TB := tb_of (List.mem_of_getElem? (i := 953) (by decide +kernel)) rfl
theorem wd_955 : (.instanceMethod ⟨"LoadCyclesModel", "walkBack", "()V"⟩ : Cond) ∈ TB := tb_of (List.mem_of_getElem? (i := 955) (by decide +kernel)) rfl
set_option maxRecDepth 20000 in
theorem wd_956 : (.code ⟨"LoadCyclesModel", "walkBack", "()V"⟩ prog_9_method_31_code 4 (none : Option FieldType) : Cond) ∈ TB := tb_of (List.mem_of_getElem? (i := 956) rfl) rfl
theorem wd_957 : (.methodLink "LoadCyclesLaw" 48 ⟨"LoadCyclesModel", "rest", "(I)I"⟩ : Cond) ∈ TB := tb_of (List.mem_of_getElem? (i := 957) (by decide +kernel)) rfl
theorem wd_958 : (.instanceMethod ⟨"LoadCyclesModel", "rest", "(I)I"⟩ : Cond) ∈ TB := tb_of (List.mem_of_getElem? (i := 958) (by decide +kernel)) rfl
theorem wd_959 : (.selects "LoadCyclesModel" ⟨"LoadCyclesModel", "rest", "(I)I"⟩ ⟨"LoadCyclesModel", "rest", "(I)I"⟩ : Cond) ∈ TB := tb_of (List.mem_of_getElem? (i := 959) (by decide +kernel)) rfl
set_option maxRecDepth 20000 in
theorem wd_960 : (.code ⟨"LoadCyclesModel", "rest", "(I)I"⟩ prog_9_method_39_code 2 (some .int) : Cond) ∈ TB := tb_of (List.mem_of_getElem? (i := 960) rfl) rfl
theorem wd_961 : (.methodLink "LoadCyclesModel" 205 ⟨"LoadCyclesModel", "restOf", "(I)I"⟩ : Cond) ∈ TB := tb_of (List.mem_of_getElem? (i := 961) (by decide +kernel)) rfl
theorem wd_963 : (.instanceMethod ⟨"LoadCyclesModel", "restOf", "(I)I"⟩ : Cond) ∈ TB := tb_of (List.mem_of_getElem? (i := 963) (by decide +kernel)) rfl
set_option maxRecDepth 20000 in
theorem wd_964 : (.code ⟨"LoadCyclesModel", "restOf", "(I)I"⟩ prog_9_method_33_code 2 (some .int) : Cond) ∈ TB := tb_of (List.mem_of_getElem? (i := 964) rfl) rfl
theorem wd_965 : (.methodLink "LoadCyclesLaw" 52 ⟨"LoadCyclesModel", "best", "(I)I"⟩ : Cond) ∈ TB := tb_of (List.mem_of_getElem? (i := 965) (by decide +kernel)) rfl
theorem wd_966 : (.instanceMethod ⟨"LoadCyclesModel", "best", "(I)I"⟩ : Cond) ∈ TB := tb_of (List.mem_of_getElem? (i := 966) (by decide +kernel)) rfl
theorem wd_967 : (.selects "LoadCyclesModel" ⟨"LoadCyclesModel", "best", "(I)I"⟩ ⟨"LoadCyclesModel", "best", "(I)I"⟩ : Cond) ∈ TB := tb_of (List.mem_of_getElem? (i := 967) (by decide +kernel)) rfl
set_option maxRecDepth 20000 in
theorem wd_968 : (.code ⟨"LoadCyclesModel", "best", "(I)I"⟩ prog_9_method_40_code 2 (some .int) : Cond) ∈ TB := tb_of (List.mem_of_getElem? (i := 968) rfl) rfl
theorem wd_969 : (.methodLink "LoadCyclesModel" 214 ⟨"LoadCyclesModel", "rests", "()I"⟩ : Cond) ∈ TB := tb_of (List.mem_of_getElem? (i := 969) (by decide +kernel)) rfl
theorem wd_971 : (.instanceMethod ⟨"LoadCyclesModel", "rests", "()I"⟩ : Cond) ∈ TB := tb_of (List.mem_of_getElem? (i := 971) (by decide +kernel)) rfl
set_option maxRecDepth 20000 in
theorem wd_972 : (.code ⟨"LoadCyclesModel", "rests", "()I"⟩ prog_9_method_35_code 3 (some .int) : Cond) ∈ TB := tb_of (List.mem_of_getElem? (i := 972) rfl) rfl
theorem wd_973 : (.methodLink "LoadCyclesModel" 218 ⟨"LoadCyclesModel", "changes", "(Z)I"⟩ : Cond) ∈ TB := tb_of (List.mem_of_getElem? (i := 973) (by decide +kernel)) rfl
theorem wd_975 : (.instanceMethod ⟨"LoadCyclesModel", "changes", "(Z)I"⟩ : Cond) ∈ TB := tb_of (List.mem_of_getElem? (i := 975) (by decide +kernel)) rfl
set_option maxRecDepth 20000 in
theorem wd_976 : (.code ⟨"LoadCyclesModel", "changes", "(Z)I"⟩ prog_9_method_36_code 7 (some .int) : Cond) ∈ TB := tb_of (List.mem_of_getElem? (i := 976) rfl) rfl
theorem wd_977 : (.methodLink "LoadCyclesModel" 208 ⟨"LoadCyclesModel", "ahead", "(II)I"⟩ : Cond) ∈ TB := tb_of (List.mem_of_getElem? (i := 977) (by decide +kernel)) rfl
theorem wd_979 : (.instanceMethod ⟨"LoadCyclesModel", "ahead", "(II)I"⟩ : Cond) ∈ TB := tb_of (List.mem_of_getElem? (i := 979) (by decide +kernel)) rfl
set_option maxRecDepth 20000 in
theorem wd_980 : (.code ⟨"LoadCyclesModel", "ahead", "(II)I"⟩ prog_9_method_32_code 3 (some .int) : Cond) ∈ TB := tb_of (List.mem_of_getElem? (i := 980) rfl) rfl
theorem wd_981 : (.methodLink "LoadCyclesModel" 222 ⟨"LoadCyclesModel", "energies", "()I"⟩ : Cond) ∈ TB := tb_of (List.mem_of_getElem? (i := 981) (by decide +kernel)) rfl
theorem wd_983 : (.instanceMethod ⟨"LoadCyclesModel", "energies", "()I"⟩ : Cond) ∈ TB := tb_of (List.mem_of_getElem? (i := 983) (by decide +kernel)) rfl
set_option maxRecDepth 20000 in
theorem wd_984 : (.code ⟨"LoadCyclesModel", "energies", "()I"⟩ prog_9_method_37_code 3 (some .int) : Cond) ∈ TB := tb_of (List.mem_of_getElem? (i := 984) rfl) rfl
theorem wd_985 : (.methodLink "LoadCyclesModel" 211 ⟨"LoadCyclesModel", "energyOf", "(I)I"⟩ : Cond) ∈ TB := tb_of (List.mem_of_getElem? (i := 985) (by decide +kernel)) rfl
theorem wd_987 : (.instanceMethod ⟨"LoadCyclesModel", "energyOf", "(I)I"⟩ : Cond) ∈ TB := tb_of (List.mem_of_getElem? (i := 987) (by decide +kernel)) rfl
set_option maxRecDepth 20000 in
theorem wd_988 : (.code ⟨"LoadCyclesModel", "energyOf", "(I)I"⟩ prog_9_method_34_code 5 (some .int) : Cond) ∈ TB := tb_of (List.mem_of_getElem? (i := 988) rfl) rfl
theorem wd_989 : (.methodLink "LoadCyclesLaw" 56 ⟨"LoadCyclesModel", "energy", "(I)I"⟩ : Cond) ∈ TB := tb_of (List.mem_of_getElem? (i := 989) (by decide +kernel)) rfl
theorem wd_990 : (.instanceMethod ⟨"LoadCyclesModel", "energy", "(I)I"⟩ : Cond) ∈ TB := tb_of (List.mem_of_getElem? (i := 990) (by decide +kernel)) rfl
theorem wd_991 : (.selects "LoadCyclesModel" ⟨"LoadCyclesModel", "energy", "(I)I"⟩ ⟨"LoadCyclesModel", "energy", "(I)I"⟩ : Cond) ∈ TB := tb_of (List.mem_of_getElem? (i := 991) (by decide +kernel)) rfl
set_option maxRecDepth 20000 in
theorem wd_992 : (.code ⟨"LoadCyclesModel", "energy", "(I)I"⟩ prog_9_method_41_code 2 (some .int) : Cond) ∈ TB := tb_of (List.mem_of_getElem? (i := 992) rfl) rfl
theorem wd_993 : (.methodLink "LoadCyclesLaw" 61 ⟨"LoadCyclesModel", "day", "(IIIII)I"⟩ : Cond) ∈ TB := tb_of (List.mem_of_getElem? (i := 993) (by decide +kernel)) rfl
theorem wd_994 : (.instanceMethod ⟨"LoadCyclesModel", "day", "(IIIII)I"⟩ : Cond) ∈ TB := tb_of (List.mem_of_getElem? (i := 994) (by decide +kernel)) rfl
theorem wd_995 : (.selects "LoadCyclesModel" ⟨"LoadCyclesModel", "day", "(IIIII)I"⟩ ⟨"LoadCyclesModel", "day", "(IIIII)I"⟩ : Cond) ∈ TB := tb_of (List.mem_of_getElem? (i := 995) (by decide +kernel)) rfl
set_option maxRecDepth 20000 in
theorem wd_996 : (.code ⟨"LoadCyclesModel", "day", "(IIIII)I"⟩ prog_9_method_47_code 10 (some .int) : Cond) ∈ TB := tb_of (List.mem_of_getElem? (i := 996) rfl) rfl
theorem wd_997 : (.constantLong "LoadCyclesModel" 235 (4 : Int64) : Cond) ∈ TB := tb_of (List.mem_of_getElem? (i := 997) (by decide +kernel)) rfl
theorem wd_998 : (.constantLong "LoadCyclesModel" 237 (13 : Int64) : Cond) ∈ TB := tb_of (List.mem_of_getElem? (i := 998) (by decide +kernel)) rfl
theorem wd_999 : (.methodLink "LoadCyclesModel" 239 ⟨"LoadCyclesModel", "isPair", "(II)Z"⟩ : Cond) ∈ TB := tb_of (List.mem_of_getElem? (i := 999) (by decide +kernel)) rfl
theorem wd_1000 : (.static ⟨"LoadCyclesModel", "isPair", "(II)Z"⟩ : Cond) ∈ TB := tb_of (List.mem_of_getElem? (i := 1000) (by decide +kernel)) rfl
set_option maxRecDepth 20000 in
theorem wd_1001 : (.code ⟨"LoadCyclesModel", "isPair", "(II)Z"⟩ prog_9_method_44_code 2 (some .boolean) : Cond) ∈ TB := tb_of (List.mem_of_getElem? (i := 1001) rfl) rfl
theorem wd_1002 : (.constantLong "LoadCyclesModel" 228 (11 : Int64) : Cond) ∈ TB := tb_of (List.mem_of_getElem? (i := 1002) (by decide +kernel)) rfl
theorem wd_1003 : (.constantLong "LoadCyclesModel" 230 (30 : Int64) : Cond) ∈ TB := tb_of (List.mem_of_getElem? (i := 1003) (by decide +kernel)) rfl
theorem wd_1004 : (.methodLink "LoadCyclesModel" 242 ⟨"LoadCyclesModel", "keep", "()V"⟩ : Cond) ∈ TB := tb_of (List.mem_of_getElem? (i := 1004) (by decide +kernel)) rfl
theorem wd_1006 : (.instanceMethod ⟨"LoadCyclesModel", "keep", "()V"⟩ : Cond) ∈ TB := tb_of (List.mem_of_getElem? (i := 1006) (by decide +kernel)) rfl
set_option maxRecDepth 20000 in
theorem wd_1007 : (.code ⟨"LoadCyclesModel", "keep", "()V"⟩ prog_9_method_42_code 2 (none : Option FieldType) : Cond) ∈ TB := tb_of (List.mem_of_getElem? (i := 1007) rfl) rfl
theorem wd_1008 : (.methodLink "LoadCyclesModel" 245 ⟨"LoadCyclesModel", "goDay", "(II)I"⟩ : Cond) ∈ TB := tb_of (List.mem_of_getElem? (i := 1008) (by decide +kernel)) rfl
theorem wd_1010 : (.instanceMethod ⟨"LoadCyclesModel", "goDay", "(II)I"⟩ : Cond) ∈ TB := tb_of (List.mem_of_getElem? (i := 1010) (by decide +kernel)) rfl
set_option maxRecDepth 20000 in
theorem wd_1011 : (.code ⟨"LoadCyclesModel", "goDay", "(II)I"⟩ prog_9_method_46_code 6 (some .int) : Cond) ∈ TB := tb_of (List.mem_of_getElem? (i := 1011) rfl) rfl
theorem wd_1012 : (.methodLink "LoadCyclesModel" 232 ⟨"LoadCyclesModel", "canAct", "(II)Z"⟩ : Cond) ∈ TB := tb_of (List.mem_of_getElem? (i := 1012) (by decide +kernel)) rfl
theorem wd_1014 : (.instanceMethod ⟨"LoadCyclesModel", "canAct", "(II)Z"⟩ : Cond) ∈ TB := tb_of (List.mem_of_getElem? (i := 1014) (by decide +kernel)) rfl
set_option maxRecDepth 20000 in
theorem wd_1015 : (.code ⟨"LoadCyclesModel", "canAct", "(II)Z"⟩ prog_9_method_45_code 3 (some .boolean) : Cond) ∈ TB := tb_of (List.mem_of_getElem? (i := 1015) rfl) rfl
theorem wd_1016 : (.methodLink "LoadCyclesModel" 248 ⟨"LoadCyclesModel", "tellDay", "(I)I"⟩ : Cond) ∈ TB := tb_of (List.mem_of_getElem? (i := 1016) (by decide +kernel)) rfl
theorem wd_1018 : (.instanceMethod ⟨"LoadCyclesModel", "tellDay", "(I)I"⟩ : Cond) ∈ TB := tb_of (List.mem_of_getElem? (i := 1018) (by decide +kernel)) rfl
set_option maxRecDepth 20000 in
theorem wd_1019 : (.code ⟨"LoadCyclesModel", "tellDay", "(I)I"⟩ prog_9_method_48_code 2 (some .int) : Cond) ∈ TB := tb_of (List.mem_of_getElem? (i := 1019) rfl) rfl
theorem wd_1020 : (.methodLink "LoadCyclesModel" 251 ⟨"LoadCyclesModel", "putBack", "()V"⟩ : Cond) ∈ TB := tb_of (List.mem_of_getElem? (i := 1020) (by decide +kernel)) rfl
theorem wd_1022 : (.instanceMethod ⟨"LoadCyclesModel", "putBack", "()V"⟩ : Cond) ∈ TB := tb_of (List.mem_of_getElem? (i := 1022) (by decide +kernel)) rfl
set_option maxRecDepth 20000 in
theorem wd_1023 : (.code ⟨"LoadCyclesModel", "putBack", "()V"⟩ prog_9_method_43_code 2 (none : Option FieldType) : Cond) ∈ TB := tb_of (List.mem_of_getElem? (i := 1023) rfl) rfl
theorem wd_1024 : (.methodLink "LoadCyclesLaw" 65 ⟨"LoadCyclesModel", "jump", "(I)I"⟩ : Cond) ∈ TB := tb_of (List.mem_of_getElem? (i := 1024) (by decide +kernel)) rfl
theorem wd_1025 : (.instanceMethod ⟨"LoadCyclesModel", "jump", "(I)I"⟩ : Cond) ∈ TB := tb_of (List.mem_of_getElem? (i := 1025) (by decide +kernel)) rfl
theorem wd_1026 : (.selects "LoadCyclesModel" ⟨"LoadCyclesModel", "jump", "(I)I"⟩ ⟨"LoadCyclesModel", "jump", "(I)I"⟩ : Cond) ∈ TB := tb_of (List.mem_of_getElem? (i := 1026) (by decide +kernel)) rfl
set_option maxRecDepth 20000 in
theorem wd_1027 : (.code ⟨"LoadCyclesModel", "jump", "(I)I"⟩ prog_9_method_50_code 2 (some .int) : Cond) ∈ TB := tb_of (List.mem_of_getElem? (i := 1027) rfl) rfl
theorem wd_1028 : (.methodLink "LoadCyclesModel" 254 ⟨"LoadCyclesModel", "jumpOf", "(I)I"⟩ : Cond) ∈ TB := tb_of (List.mem_of_getElem? (i := 1028) (by decide +kernel)) rfl
theorem wd_1030 : (.instanceMethod ⟨"LoadCyclesModel", "jumpOf", "(I)I"⟩ : Cond) ∈ TB := tb_of (List.mem_of_getElem? (i := 1030) (by decide +kernel)) rfl
set_option maxRecDepth 20000 in
theorem wd_1031 : (.code ⟨"LoadCyclesModel", "jumpOf", "(I)I"⟩ prog_9_method_49_code 2 (some .int) : Cond) ∈ TB := tb_of (List.mem_of_getElem? (i := 1031) rfl) rfl
theorem wd_1032 : (.methodLink "LoadCyclesLaw" 69 ⟨"LoadCyclesModel", "ways", "(I)I"⟩ : Cond) ∈ TB := tb_of (List.mem_of_getElem? (i := 1032) (by decide +kernel)) rfl
theorem wd_1033 : (.instanceMethod ⟨"LoadCyclesModel", "ways", "(I)I"⟩ : Cond) ∈ TB := tb_of (List.mem_of_getElem? (i := 1033) (by decide +kernel)) rfl
theorem wd_1034 : (.selects "LoadCyclesModel" ⟨"LoadCyclesModel", "ways", "(I)I"⟩ ⟨"LoadCyclesModel", "ways", "(I)I"⟩ : Cond) ∈ TB := tb_of (List.mem_of_getElem? (i := 1034) (by decide +kernel)) rfl
set_option maxRecDepth 20000 in
theorem wd_1035 : (.code ⟨"LoadCyclesModel", "ways", "(I)I"⟩ prog_9_method_52_code 6 (some .int) : Cond) ∈ TB := tb_of (List.mem_of_getElem? (i := 1035) rfl) rfl
theorem wd_1036 : (.methodLink "LoadCyclesModel" 257 ⟨"LoadCyclesModel", "moreOf", "(II)I"⟩ : Cond) ∈ TB := tb_of (List.mem_of_getElem? (i := 1036) (by decide +kernel)) rfl
theorem wd_1038 : (.instanceMethod ⟨"LoadCyclesModel", "moreOf", "(II)I"⟩ : Cond) ∈ TB := tb_of (List.mem_of_getElem? (i := 1038) (by decide +kernel)) rfl
set_option maxRecDepth 20000 in
theorem wd_1039 : (.code ⟨"LoadCyclesModel", "moreOf", "(II)I"⟩ prog_9_method_51_code 5 (some .int) : Cond) ∈ TB := tb_of (List.mem_of_getElem? (i := 1039) rfl) rfl
theorem wd_1040 : (.methodLink "LoadCyclesLaw" 73 ⟨"LoadCyclesModel", "longest", "(I)I"⟩ : Cond) ∈ TB := tb_of (List.mem_of_getElem? (i := 1040) (by decide +kernel)) rfl
theorem wd_1041 : (.instanceMethod ⟨"LoadCyclesModel", "longest", "(I)I"⟩ : Cond) ∈ TB := tb_of (List.mem_of_getElem? (i := 1041) (by decide +kernel)) rfl
theorem wd_1042 : (.selects "LoadCyclesModel" ⟨"LoadCyclesModel", "longest", "(I)I"⟩ ⟨"LoadCyclesModel", "longest", "(I)I"⟩ : Cond) ∈ TB := tb_of (List.mem_of_getElem? (i := 1042) (by decide +kernel)) rfl
set_option maxRecDepth 20000 in
theorem wd_1043 : (.code ⟨"LoadCyclesModel", "longest", "(I)I"⟩ prog_9_method_53_code 5 (some .int) : Cond) ∈ TB := tb_of (List.mem_of_getElem? (i := 1043) rfl) rfl
theorem wd_1044 : (.methodLink "LoadCyclesLaw" 77 ⟨"LoadCyclesModel", "share", "(I)I"⟩ : Cond) ∈ TB := tb_of (List.mem_of_getElem? (i := 1044) (by decide +kernel)) rfl
theorem wd_1045 : (.instanceMethod ⟨"LoadCyclesModel", "share", "(I)I"⟩ : Cond) ∈ TB := tb_of (List.mem_of_getElem? (i := 1045) (by decide +kernel)) rfl
theorem wd_1046 : (.selects "LoadCyclesModel" ⟨"LoadCyclesModel", "share", "(I)I"⟩ ⟨"LoadCyclesModel", "share", "(I)I"⟩ : Cond) ∈ TB := tb_of (List.mem_of_getElem? (i := 1046) (by decide +kernel)) rfl
set_option maxRecDepth 20000 in
theorem wd_1047 : (.code ⟨"LoadCyclesModel", "share", "(I)I"⟩ prog_9_method_56_code 3 (some .int) : Cond) ∈ TB := tb_of (List.mem_of_getElem? (i := 1047) rfl) rfl
theorem wd_1048 : (.methodLink "LoadCyclesModel" 260 ⟨"LoadCyclesModel", "allValues", "()I"⟩ : Cond) ∈ TB := tb_of (List.mem_of_getElem? (i := 1048) (by decide +kernel)) rfl
theorem wd_1050 : (.instanceMethod ⟨"LoadCyclesModel", "allValues", "()I"⟩ : Cond) ∈ TB := tb_of (List.mem_of_getElem? (i := 1050) (by decide +kernel)) rfl
set_option maxRecDepth 20000 in
theorem wd_1051 : (.code ⟨"LoadCyclesModel", "allValues", "()I"⟩ prog_9_method_54_code 3 (some .int) : Cond) ∈ TB := tb_of (List.mem_of_getElem? (i := 1051) rfl) rfl
theorem wd_1052 : (.methodLink "LoadCyclesModel" 263 ⟨"LoadCyclesModel", "nearestBits", "(IIII)J"⟩ : Cond) ∈ TB := tb_of (List.mem_of_getElem? (i := 1052) (by decide +kernel)) rfl
theorem wd_1053 : (.static ⟨"LoadCyclesModel", "nearestBits", "(IIII)J"⟩ : Cond) ∈ TB := tb_of (List.mem_of_getElem? (i := 1053) (by decide +kernel)) rfl
set_option maxRecDepth 20000 in
theorem wd_1054 : (.code ⟨"LoadCyclesModel", "nearestBits", "(IIII)J"⟩ prog_9_method_55_code 13 (some .long) : Cond) ∈ TB := tb_of (List.mem_of_getElem? (i := 1054) rfl) rfl
theorem wd_1055 : (.methodLink "LoadCyclesLaw" 82 ⟨"LoadCyclesModel", "mean", "()J"⟩ : Cond) ∈ TB := tb_of (List.mem_of_getElem? (i := 1055) (by decide +kernel)) rfl
theorem wd_1056 : (.instanceMethod ⟨"LoadCyclesModel", "mean", "()J"⟩ : Cond) ∈ TB := tb_of (List.mem_of_getElem? (i := 1056) (by decide +kernel)) rfl
theorem wd_1057 : (.selects "LoadCyclesModel" ⟨"LoadCyclesModel", "mean", "()J"⟩ ⟨"LoadCyclesModel", "mean", "()J"⟩ : Cond) ∈ TB := tb_of (List.mem_of_getElem? (i := 1057) (by decide +kernel)) rfl
set_option maxRecDepth 20000 in
theorem wd_1058 : (.code ⟨"LoadCyclesModel", "mean", "()J"⟩ prog_9_method_57_code 1 (some .long) : Cond) ∈ TB := tb_of (List.mem_of_getElem? (i := 1058) rfl) rfl
theorem wd_1059 : (.constantLong "LoadCyclesModel" 83 (-9223372036854775808 : Int64) : Cond) ∈ TB := tb_of (List.mem_of_getElem? (i := 1059) (by decide +kernel)) rfl
theorem wd_1060 : (.methodLink "LoadCyclesLaw" 86 ⟨"LoadCyclesModel", "reading", "(II)I"⟩ : Cond) ∈ TB := tb_of (List.mem_of_getElem? (i := 1060) (by decide +kernel)) rfl
theorem wd_1061 : (.instanceMethod ⟨"LoadCyclesModel", "reading", "(II)I"⟩ : Cond) ∈ TB := tb_of (List.mem_of_getElem? (i := 1061) (by decide +kernel)) rfl
theorem wd_1062 : (.selects "LoadCyclesModel" ⟨"LoadCyclesModel", "reading", "(II)I"⟩ ⟨"LoadCyclesModel", "reading", "(II)I"⟩ : Cond) ∈ TB := tb_of (List.mem_of_getElem? (i := 1062) (by decide +kernel)) rfl
set_option maxRecDepth 20000 in
theorem wd_1063 : (.code ⟨"LoadCyclesModel", "reading", "(II)I"⟩ prog_9_method_58_code 3 (some .int) : Cond) ∈ TB := tb_of (List.mem_of_getElem? (i := 1063) rfl) rfl
theorem wd_1064 : (.constantLong "LoadCyclesModel" 267 (2000 : Int64) : Cond) ∈ TB := tb_of (List.mem_of_getElem? (i := 1064) (by decide +kernel)) rfl
theorem wd_1065 : (.methodLink "LoadCyclesLaw" 90 ⟨"LoadCyclesModel", "back", "(I)I"⟩ : Cond) ∈ TB := tb_of (List.mem_of_getElem? (i := 1065) (by decide +kernel)) rfl
theorem wd_1066 : (.instanceMethod ⟨"LoadCyclesModel", "back", "(I)I"⟩ : Cond) ∈ TB := tb_of (List.mem_of_getElem? (i := 1066) (by decide +kernel)) rfl
theorem wd_1067 : (.selects "LoadCyclesModel" ⟨"LoadCyclesModel", "back", "(I)I"⟩ ⟨"LoadCyclesModel", "back", "(I)I"⟩ : Cond) ∈ TB := tb_of (List.mem_of_getElem? (i := 1067) (by decide +kernel)) rfl
set_option maxRecDepth 20000 in
theorem wd_1068 : (.code ⟨"LoadCyclesModel", "back", "(I)I"⟩ prog_9_method_59_code 2 (some .int) : Cond) ∈ TB := tb_of (List.mem_of_getElem? (i := 1068) rfl) rfl
theorem wd_1069 : (.methodLink "LoadCyclesLaw" 94 ⟨"LoadCyclesModel", "kinds", "(I)I"⟩ : Cond) ∈ TB := tb_of (List.mem_of_getElem? (i := 1069) (by decide +kernel)) rfl
theorem wd_1070 : (.instanceMethod ⟨"LoadCyclesModel", "kinds", "(I)I"⟩ : Cond) ∈ TB := tb_of (List.mem_of_getElem? (i := 1070) (by decide +kernel)) rfl
theorem wd_1071 : (.selects "LoadCyclesModel" ⟨"LoadCyclesModel", "kinds", "(I)I"⟩ ⟨"LoadCyclesModel", "kinds", "(I)I"⟩ : Cond) ∈ TB := tb_of (List.mem_of_getElem? (i := 1071) (by decide +kernel)) rfl
set_option maxRecDepth 20000 in
theorem wd_1072 : (.code ⟨"LoadCyclesModel", "kinds", "(I)I"⟩ prog_9_method_61_code 5 (some .int) : Cond) ∈ TB := tb_of (List.mem_of_getElem? (i := 1072) rfl) rfl
theorem wd_1073 : (.methodLink "LoadCyclesModel" 269 ⟨"LoadCyclesModel", "areSo", "()Z"⟩ : Cond) ∈ TB := tb_of (List.mem_of_getElem? (i := 1073) (by decide +kernel)) rfl
theorem wd_1075 : (.instanceMethod ⟨"LoadCyclesModel", "areSo", "()Z"⟩ : Cond) ∈ TB := tb_of (List.mem_of_getElem? (i := 1075) (by decide +kernel)) rfl
set_option maxRecDepth 20000 in
theorem wd_1076 : (.code ⟨"LoadCyclesModel", "areSo", "()Z"⟩ prog_9_method_60_code 2 (some .boolean) : Cond) ∈ TB := tb_of (List.mem_of_getElem? (i := 1076) rfl) rfl
theorem wd_1077 : (.methodLink "LoadCyclesLaw" 98 ⟨"LoadCyclesModel", "firsts", "(I)I"⟩ : Cond) ∈ TB := tb_of (List.mem_of_getElem? (i := 1077) (by decide +kernel)) rfl
theorem wd_1078 : (.instanceMethod ⟨"LoadCyclesModel", "firsts", "(I)I"⟩ : Cond) ∈ TB := tb_of (List.mem_of_getElem? (i := 1078) (by decide +kernel)) rfl
theorem wd_1079 : (.selects "LoadCyclesModel" ⟨"LoadCyclesModel", "firsts", "(I)I"⟩ ⟨"LoadCyclesModel", "firsts", "(I)I"⟩ : Cond) ∈ TB := tb_of (List.mem_of_getElem? (i := 1079) (by decide +kernel)) rfl
set_option maxRecDepth 20000 in
theorem wd_1080 : (.code ⟨"LoadCyclesModel", "firsts", "(I)I"⟩ prog_9_method_62_code 5 (some .int) : Cond) ∈ TB := tb_of (List.mem_of_getElem? (i := 1080) rfl) rfl
theorem wd_1081 : (.methodLink "LoadCyclesLaw" 103 ⟨"LoadCyclesModel", "odds", "(II)J"⟩ : Cond) ∈ TB := tb_of (List.mem_of_getElem? (i := 1081) (by decide +kernel)) rfl
theorem wd_1082 : (.instanceMethod ⟨"LoadCyclesModel", "odds", "(II)J"⟩ : Cond) ∈ TB := tb_of (List.mem_of_getElem? (i := 1082) (by decide +kernel)) rfl
theorem wd_1083 : (.selects "LoadCyclesModel" ⟨"LoadCyclesModel", "odds", "(II)J"⟩ ⟨"LoadCyclesModel", "odds", "(II)J"⟩ : Cond) ∈ TB := tb_of (List.mem_of_getElem? (i := 1083) (by decide +kernel)) rfl
set_option maxRecDepth 20000 in
theorem wd_1084 : (.code ⟨"LoadCyclesModel", "odds", "(II)J"⟩ prog_9_method_64_code 5 (some .long) : Cond) ∈ TB := tb_of (List.mem_of_getElem? (i := 1084) rfl) rfl
theorem wd_1085 : (.methodLink "LoadCyclesModel" 273 ⟨"LoadCyclesModel", "inLeastTerms", "(III)J"⟩ : Cond) ∈ TB := tb_of (List.mem_of_getElem? (i := 1085) (by decide +kernel)) rfl
theorem wd_1086 : (.static ⟨"LoadCyclesModel", "inLeastTerms", "(III)J"⟩ : Cond) ∈ TB := tb_of (List.mem_of_getElem? (i := 1086) (by decide +kernel)) rfl
set_option maxRecDepth 20000 in
theorem wd_1087 : (.code ⟨"LoadCyclesModel", "inLeastTerms", "(III)J"⟩ prog_9_method_63_code 6 (some .long) : Cond) ∈ TB := tb_of (List.mem_of_getElem? (i := 1087) rfl) rfl
theorem wd_1088 : (.methodLink "LoadCyclesLaw" 107 ⟨"LoadCyclesModel", "sheet", "(III)I"⟩ : Cond) ∈ TB := tb_of (List.mem_of_getElem? (i := 1088) (by decide +kernel)) rfl
theorem wd_1089 : (.instanceMethod ⟨"LoadCyclesModel", "sheet", "(III)I"⟩ : Cond) ∈ TB := tb_of (List.mem_of_getElem? (i := 1089) (by decide +kernel)) rfl
theorem wd_1090 : (.selects "LoadCyclesModel" ⟨"LoadCyclesModel", "sheet", "(III)I"⟩ ⟨"LoadCyclesModel", "sheet", "(III)I"⟩ : Cond) ∈ TB := tb_of (List.mem_of_getElem? (i := 1090) (by decide +kernel)) rfl
set_option maxRecDepth 20000 in
theorem wd_1091 : (.code ⟨"LoadCyclesModel", "sheet", "(III)I"⟩ prog_9_method_65_code 5 (some .int) : Cond) ∈ TB := tb_of (List.mem_of_getElem? (i := 1091) rfl) rfl
theorem wd_1092 : (.methodLink "LoadCyclesLaw" 111 ⟨"LoadCyclesModel", "lose", "(I)I"⟩ : Cond) ∈ TB := tb_of (List.mem_of_getElem? (i := 1092) (by decide +kernel)) rfl
theorem wd_1093 : (.instanceMethod ⟨"LoadCyclesModel", "lose", "(I)I"⟩ : Cond) ∈ TB := tb_of (List.mem_of_getElem? (i := 1093) (by decide +kernel)) rfl
theorem wd_1094 : (.selects "LoadCyclesModel" ⟨"LoadCyclesModel", "lose", "(I)I"⟩ ⟨"LoadCyclesModel", "lose", "(I)I"⟩ : Cond) ∈ TB := tb_of (List.mem_of_getElem? (i := 1094) (by decide +kernel)) rfl
set_option maxRecDepth 20000 in
theorem wd_1095 : (.code ⟨"LoadCyclesModel", "lose", "(I)I"⟩ prog_9_method_66_code 3 (some .int) : Cond) ∈ TB := tb_of (List.mem_of_getElem? (i := 1095) rfl) rfl
theorem wd_1096 : (.methodLink "LoadCyclesLaw" 115 ⟨"LoadCyclesModel", "put", "(III)I"⟩ : Cond) ∈ TB := tb_of (List.mem_of_getElem? (i := 1096) (by decide +kernel)) rfl
theorem wd_1097 : (.instanceMethod ⟨"LoadCyclesModel", "put", "(III)I"⟩ : Cond) ∈ TB := tb_of (List.mem_of_getElem? (i := 1097) (by decide +kernel)) rfl
theorem wd_1098 : (.selects "LoadCyclesModel" ⟨"LoadCyclesModel", "put", "(III)I"⟩ ⟨"LoadCyclesModel", "put", "(III)I"⟩ : Cond) ∈ TB := tb_of (List.mem_of_getElem? (i := 1098) (by decide +kernel)) rfl
set_option maxRecDepth 20000 in
theorem wd_1099 : (.code ⟨"LoadCyclesModel", "put", "(III)I"⟩ prog_9_method_67_code 4 (some .int) : Cond) ∈ TB := tb_of (List.mem_of_getElem? (i := 1099) rfl) rfl
theorem wd_1100 : (.methodLink "LoadCyclesLaw" 120 ⟨"LoadCyclesModel", "cell", "(III)J"⟩ : Cond) ∈ TB := tb_of (List.mem_of_getElem? (i := 1100) (by decide +kernel)) rfl
theorem wd_1101 : (.instanceMethod ⟨"LoadCyclesModel", "cell", "(III)J"⟩ : Cond) ∈ TB := tb_of (List.mem_of_getElem? (i := 1101) (by decide +kernel)) rfl
theorem wd_1102 : (.selects "LoadCyclesModel" ⟨"LoadCyclesModel", "cell", "(III)J"⟩ ⟨"LoadCyclesModel", "cell", "(III)J"⟩ : Cond) ∈ TB := tb_of (List.mem_of_getElem? (i := 1102) (by decide +kernel)) rfl
set_option maxRecDepth 20000 in
theorem wd_1103 : (.code ⟨"LoadCyclesModel", "cell", "(III)J"⟩ prog_9_method_68_code 4 (some .long) : Cond) ∈ TB := tb_of (List.mem_of_getElem? (i := 1103) rfl) rfl
theorem wd_1104 : (.methodLink "LoadCyclesModel" 277 ⟨"LoadCyclesModel", "lost", "(I)J"⟩ : Cond) ∈ TB := tb_of (List.mem_of_getElem? (i := 1104) (by decide +kernel)) rfl
theorem wd_1106 : (.instanceMethod ⟨"LoadCyclesModel", "lost", "(I)J"⟩ : Cond) ∈ TB := tb_of (List.mem_of_getElem? (i := 1106) (by decide +kernel)) rfl
set_option maxRecDepth 20000 in
theorem wd_1107 : (.code ⟨"LoadCyclesModel", "lost", "(I)J"⟩ prog_9_method_3_code 2 (some .long) : Cond) ∈ TB := tb_of (List.mem_of_getElem? (i := 1107) rfl) rfl
theorem wd_1108 : (.methodLink "LoadCyclesLaw" 124 ⟨"LoadCyclesModel", "copy", "(IIIII)I"⟩ : Cond) ∈ TB := tb_of (List.mem_of_getElem? (i := 1108) (by decide +kernel)) rfl
theorem wd_1109 : (.instanceMethod ⟨"LoadCyclesModel", "copy", "(IIIII)I"⟩ : Cond) ∈ TB := tb_of (List.mem_of_getElem? (i := 1109) (by decide +kernel)) rfl
theorem wd_1110 : (.selects "LoadCyclesModel" ⟨"LoadCyclesModel", "copy", "(IIIII)I"⟩ ⟨"LoadCyclesModel", "copy", "(IIIII)I"⟩ : Cond) ∈ TB := tb_of (List.mem_of_getElem? (i := 1110) (by decide +kernel)) rfl
set_option maxRecDepth 20000 in
theorem wd_1111 : (.code ⟨"LoadCyclesModel", "copy", "(IIIII)I"⟩ prog_9_method_69_code 10 (some .int) : Cond) ∈ TB := tb_of (List.mem_of_getElem? (i := 1111) rfl) rfl
theorem wd_1112 : (.methodLink "LoadCyclesLaw" 128 ⟨"LoadCyclesModel", "tell", "(I)I"⟩ : Cond) ∈ TB := tb_of (List.mem_of_getElem? (i := 1112) (by decide +kernel)) rfl
theorem wd_1113 : (.instanceMethod ⟨"LoadCyclesModel", "tell", "(I)I"⟩ : Cond) ∈ TB := tb_of (List.mem_of_getElem? (i := 1113) (by decide +kernel)) rfl
theorem wd_1114 : (.selects "LoadCyclesModel" ⟨"LoadCyclesModel", "tell", "(I)I"⟩ ⟨"LoadCyclesModel", "tell", "(I)I"⟩ : Cond) ∈ TB := tb_of (List.mem_of_getElem? (i := 1114) (by decide +kernel)) rfl
set_option maxRecDepth 20000 in
theorem wd_1115 : (.code ⟨"LoadCyclesModel", "tell", "(I)I"⟩ prog_9_method_71_code 3 (some .int) : Cond) ∈ TB := tb_of (List.mem_of_getElem? (i := 1115) rfl) rfl
theorem wd_1116 : (.methodLink "LoadCyclesModel" 284 ⟨"LoadCyclesModel", "begins", "(I)V"⟩ : Cond) ∈ TB := tb_of (List.mem_of_getElem? (i := 1116) (by decide +kernel)) rfl
theorem wd_1118 : (.instanceMethod ⟨"LoadCyclesModel", "begins", "(I)V"⟩ : Cond) ∈ TB := tb_of (List.mem_of_getElem? (i := 1118) (by decide +kernel)) rfl
set_option maxRecDepth 20000 in
theorem wd_1119 : (.code ⟨"LoadCyclesModel", "begins", "(I)V"⟩ prog_9_method_70_code 2 (none : Option FieldType) : Cond) ∈ TB := tb_of (List.mem_of_getElem? (i := 1119) rfl) rfl
theorem wd_1120 : (.methodLink "LoadCyclesLaw" 132 ⟨"LoadCyclesModel", "metered", "(I)I"⟩ : Cond) ∈ TB := tb_of (List.mem_of_getElem? (i := 1120) (by decide +kernel)) rfl
theorem wd_1121 : (.instanceMethod ⟨"LoadCyclesModel", "metered", "(I)I"⟩ : Cond) ∈ TB := tb_of (List.mem_of_getElem? (i := 1121) (by decide +kernel)) rfl
theorem wd_1122 : (.selects "LoadCyclesModel" ⟨"LoadCyclesModel", "metered", "(I)I"⟩ ⟨"LoadCyclesModel", "metered", "(I)I"⟩ : Cond) ∈ TB := tb_of (List.mem_of_getElem? (i := 1122) (by decide +kernel)) rfl
set_option maxRecDepth 20000 in
theorem wd_1123 : (.code ⟨"LoadCyclesModel", "metered", "(I)I"⟩ prog_9_method_72_code 2 (some .int) : Cond) ∈ TB := tb_of (List.mem_of_getElem? (i := 1123) rfl) rfl
theorem wd_1124 : (.methodLink "LoadCyclesLaw" 136 ⟨"LoadCyclesModel", "as", "(II)I"⟩ : Cond) ∈ TB := tb_of (List.mem_of_getElem? (i := 1124) (by decide +kernel)) rfl
theorem wd_1125 : (.instanceMethod ⟨"LoadCyclesModel", "as", "(II)I"⟩ : Cond) ∈ TB := tb_of (List.mem_of_getElem? (i := 1125) (by decide +kernel)) rfl
theorem wd_1126 : (.selects "LoadCyclesModel" ⟨"LoadCyclesModel", "as", "(II)I"⟩ ⟨"LoadCyclesModel", "as", "(II)I"⟩ : Cond) ∈ TB := tb_of (List.mem_of_getElem? (i := 1126) (by decide +kernel)) rfl
set_option maxRecDepth 20000 in
theorem wd_1127 : (.code ⟨"LoadCyclesModel", "as", "(II)I"⟩ prog_9_method_73_code 3 (some .int) : Cond) ∈ TB := tb_of (List.mem_of_getElem? (i := 1127) rfl) rfl
theorem wd_1128 : (.methodLink "LoadCyclesLaw" 141 ⟨"LoadCyclesModel", "trace", "()I"⟩ : Cond) ∈ TB := tb_of (List.mem_of_getElem? (i := 1128) (by decide +kernel)) rfl
theorem wd_1129 : (.instanceMethod ⟨"LoadCyclesModel", "trace", "()I"⟩ : Cond) ∈ TB := tb_of (List.mem_of_getElem? (i := 1129) (by decide +kernel)) rfl
theorem wd_1130 : (.selects "LoadCyclesModel" ⟨"LoadCyclesModel", "trace", "()I"⟩ ⟨"LoadCyclesModel", "trace", "()I"⟩ : Cond) ∈ TB := tb_of (List.mem_of_getElem? (i := 1130) (by decide +kernel)) rfl
set_option maxRecDepth 20000 in
theorem wd_1131 : (.code ⟨"LoadCyclesModel", "trace", "()I"⟩ prog_9_method_74_code 1 (some .int) : Cond) ∈ TB := tb_of (List.mem_of_getElem? (i := 1131) rfl) rfl
theorem wd_1132 : (.methodLink "LoadCyclesLaw" 145 ⟨"LoadCyclesModel", "fault", "()I"⟩ : Cond) ∈ TB := tb_of (List.mem_of_getElem? (i := 1132) (by decide +kernel)) rfl
theorem wd_1133 : (.instanceMethod ⟨"LoadCyclesModel", "fault", "()I"⟩ : Cond) ∈ TB := tb_of (List.mem_of_getElem? (i := 1133) (by decide +kernel)) rfl
theorem wd_1134 : (.selects "LoadCyclesModel" ⟨"LoadCyclesModel", "fault", "()I"⟩ ⟨"LoadCyclesModel", "fault", "()I"⟩ : Cond) ∈ TB := tb_of (List.mem_of_getElem? (i := 1134) (by decide +kernel)) rfl
set_option maxRecDepth 20000 in
theorem wd_1135 : (.code ⟨"LoadCyclesModel", "fault", "()I"⟩ prog_9_method_75_code 1 (some .int) : Cond) ∈ TB := tb_of (List.mem_of_getElem? (i := 1135) rfl) rfl
theorem wd_1136 : (.methodLink "LoadCyclesLaw" 149 ⟨"LoadCyclesModel", "many", "(I)I"⟩ : Cond) ∈ TB := tb_of (List.mem_of_getElem? (i := 1136) (by decide +kernel)) rfl
theorem wd_1137 : (.instanceMethod ⟨"LoadCyclesModel", "many", "(I)I"⟩ : Cond) ∈ TB := tb_of (List.mem_of_getElem? (i := 1137) (by decide +kernel)) rfl
theorem wd_1138 : (.selects "LoadCyclesModel" ⟨"LoadCyclesModel", "many", "(I)I"⟩ ⟨"LoadCyclesModel", "many", "(I)I"⟩ : Cond) ∈ TB := tb_of (List.mem_of_getElem? (i := 1138) (by decide +kernel)) rfl
set_option maxRecDepth 20000 in
theorem wd_1139 : (.code ⟨"LoadCyclesModel", "many", "(I)I"⟩ prog_9_method_76_code 2 (some .int) : Cond) ∈ TB := tb_of (List.mem_of_getElem? (i := 1139) rfl) rfl
