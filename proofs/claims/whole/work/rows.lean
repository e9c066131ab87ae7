section
-- ===== PART A: goes FIRST, ahead of the names: the tables' words, and 'selects' of the private methods out of them =====
/-- a private method of a class that the tables say can be made, by its rows of tables_1 -/
def lw_okq (q : MethodName × Nat) : Prop := (q.1.cls ≠ "java/lang/invoke/MethodHandle" ∧ q.1.cls ≠ "java/lang/invoke/VarHandle") ∧ Cond.instantiable q.1.cls q.2 ∈ tables_1 ∧ Cond.privateMethod q.1 ∈ tables_1 ∧ Cond.instanceMethod q.1 ∈ tables_1
theorem lw_p0 : lw_okq (⟨"MindDuty$Reader", "skipBlanks", "()V"⟩, 7) := ⟨⟨by decide +kernel, by decide +kernel⟩, List.mem_of_getElem? (i := 21) (by decide +kernel), List.mem_of_getElem? (i := 312) (by decide +kernel), List.mem_of_getElem? (i := 313) (by decide +kernel)⟩
theorem lw_p1 : lw_okq (⟨"MindDuty$Reader", "readClause", "()V"⟩, 7) := ⟨⟨by decide +kernel, by decide +kernel⟩, List.mem_of_getElem? (i := 21) (by decide +kernel), List.mem_of_getElem? (i := 316) (by decide +kernel), List.mem_of_getElem? (i := 317) (by decide +kernel)⟩
theorem lw_p2 : lw_okq (⟨"MindDuty$Reader", "letterHere", "()I"⟩, 7) := ⟨⟨by decide +kernel, by decide +kernel⟩, List.mem_of_getElem? (i := 21) (by decide +kernel), List.mem_of_getElem? (i := 320) (by decide +kernel), List.mem_of_getElem? (i := 321) (by decide +kernel)⟩
theorem lw_p3 : lw_okq (⟨"MindDuty$Reader", "checkWord", "(I)V"⟩, 7) := ⟨⟨by decide +kernel, by decide +kernel⟩, List.mem_of_getElem? (i := 21) (by decide +kernel), List.mem_of_getElem? (i := 324) (by decide +kernel), List.mem_of_getElem? (i := 325) (by decide +kernel)⟩
theorem lw_p4 : lw_okq (⟨"MindDuty$Reader", "findFault", "(II)V"⟩, 7) := ⟨⟨by decide +kernel, by decide +kernel⟩, List.mem_of_getElem? (i := 21) (by decide +kernel), List.mem_of_getElem? (i := 328) (by decide +kernel), List.mem_of_getElem? (i := 329) (by decide +kernel)⟩
theorem lw_p5 : lw_okq (⟨"MindDuty$Reader", "readGate", "()V"⟩, 7) := ⟨⟨by decide +kernel, by decide +kernel⟩, List.mem_of_getElem? (i := 21) (by decide +kernel), List.mem_of_getElem? (i := 332) (by decide +kernel), List.mem_of_getElem? (i := 333) (by decide +kernel)⟩
theorem lw_p6 : lw_okq (⟨"MindDuty$Reader", "readNumber", "(II)I"⟩, 7) := ⟨⟨by decide +kernel, by decide +kernel⟩, List.mem_of_getElem? (i := 21) (by decide +kernel), List.mem_of_getElem? (i := 336) (by decide +kernel), List.mem_of_getElem? (i := 337) (by decide +kernel)⟩
theorem lw_p7 : lw_okq (⟨"MindDuty$Reader", "readIdea", "()V"⟩, 7) := ⟨⟨by decide +kernel, by decide +kernel⟩, List.mem_of_getElem? (i := 21) (by decide +kernel), List.mem_of_getElem? (i := 346) (by decide +kernel), List.mem_of_getElem? (i := 347) (by decide +kernel)⟩
theorem lw_p8 : lw_okq (⟨"MindDuty$Reader", "readJoining", "()V"⟩, 7) := ⟨⟨by decide +kernel, by decide +kernel⟩, List.mem_of_getElem? (i := 21) (by decide +kernel), List.mem_of_getElem? (i := 350) (by decide +kernel), List.mem_of_getElem? (i := 351) (by decide +kernel)⟩
theorem lw_p9 : lw_okq (⟨"MindDuty$Reader", "readToldIdea", "()I"⟩, 7) := ⟨⟨by decide +kernel, by decide +kernel⟩, List.mem_of_getElem? (i := 21) (by decide +kernel), List.mem_of_getElem? (i := 354) (by decide +kernel), List.mem_of_getElem? (i := 355) (by decide +kernel)⟩
theorem lw_p10 : lw_okq (⟨"MindDuty$Reader", "readTalk", "()V"⟩, 7) := ⟨⟨by decide +kernel, by decide +kernel⟩, List.mem_of_getElem? (i := 21) (by decide +kernel), List.mem_of_getElem? (i := 358) (by decide +kernel), List.mem_of_getElem? (i := 359) (by decide +kernel)⟩
theorem lw_p11 : lw_okq (⟨"MindDuty$Reader", "readRegistered", "()V"⟩, 7) := ⟨⟨by decide +kernel, by decide +kernel⟩, List.mem_of_getElem? (i := 21) (by decide +kernel), List.mem_of_getElem? (i := 362) (by decide +kernel), List.mem_of_getElem? (i := 363) (by decide +kernel)⟩
theorem lw_p12 : lw_okq (⟨"MindDuty$Reader", "readTraveller", "()V"⟩, 7) := ⟨⟨by decide +kernel, by decide +kernel⟩, List.mem_of_getElem? (i := 21) (by decide +kernel), List.mem_of_getElem? (i := 366) (by decide +kernel), List.mem_of_getElem? (i := 367) (by decide +kernel)⟩
theorem lw_p13 : lw_okq (⟨"MindDuty$Reader", "readEnd", "()V"⟩, 7) := ⟨⟨by decide +kernel, by decide +kernel⟩, List.mem_of_getElem? (i := 21) (by decide +kernel), List.mem_of_getElem? (i := 370) (by decide +kernel), List.mem_of_getElem? (i := 371) (by decide +kernel)⟩
theorem lw_p14 : lw_okq (⟨"MindDuty$Country", "joined", "(I)I"⟩, 17) := ⟨⟨by decide +kernel, by decide +kernel⟩, List.mem_of_getElem? (i := 27) (by decide +kernel), List.mem_of_getElem? (i := 382) (by decide +kernel), List.mem_of_getElem? (i := 383) (by decide +kernel)⟩
theorem lw_p15 : lw_okq (⟨"MindDuty", "inTheCountry", "()I"⟩, 9) := ⟨⟨by decide +kernel, by decide +kernel⟩, List.mem_of_getElem? (i := 13) (by decide +kernel), List.mem_of_getElem? (i := 406) (by decide +kernel), List.mem_of_getElem? (i := 407) (by decide +kernel)⟩
def lw_privs_1 : List (MethodName × Nat) := [(⟨"MindDuty$Reader", "skipBlanks", "()V"⟩, 7), (⟨"MindDuty$Reader", "readClause", "()V"⟩, 7), (⟨"MindDuty$Reader", "letterHere", "()I"⟩, 7), (⟨"MindDuty$Reader", "checkWord", "(I)V"⟩, 7), (⟨"MindDuty$Reader", "findFault", "(II)V"⟩, 7), (⟨"MindDuty$Reader", "readGate", "()V"⟩, 7), (⟨"MindDuty$Reader", "readNumber", "(II)I"⟩, 7), (⟨"MindDuty$Reader", "readIdea", "()V"⟩, 7), (⟨"MindDuty$Reader", "readJoining", "()V"⟩, 7), (⟨"MindDuty$Reader", "readToldIdea", "()I"⟩, 7), (⟨"MindDuty$Reader", "readTalk", "()V"⟩, 7), (⟨"MindDuty$Reader", "readRegistered", "()V"⟩, 7), (⟨"MindDuty$Reader", "readTraveller", "()V"⟩, 7), (⟨"MindDuty$Reader", "readEnd", "()V"⟩, 7), (⟨"MindDuty$Country", "joined", "(I)I"⟩, 17), (⟨"MindDuty", "inTheCountry", "()I"⟩, 9)]
theorem lw_r1 : ∀ q ∈ lw_privs_1, lw_okq q := List.forall_mem_cons.mpr ⟨lw_p0, List.forall_mem_cons.mpr ⟨lw_p1, List.forall_mem_cons.mpr ⟨lw_p2, List.forall_mem_cons.mpr ⟨lw_p3, List.forall_mem_cons.mpr ⟨lw_p4, List.forall_mem_cons.mpr ⟨lw_p5, List.forall_mem_cons.mpr ⟨lw_p6, List.forall_mem_cons.mpr ⟨lw_p7, List.forall_mem_cons.mpr ⟨lw_p8, List.forall_mem_cons.mpr ⟨lw_p9, List.forall_mem_cons.mpr ⟨lw_p10, List.forall_mem_cons.mpr ⟨lw_p11, List.forall_mem_cons.mpr ⟨lw_p12, List.forall_mem_cons.mpr ⟨lw_p13, List.forall_mem_cons.mpr ⟨lw_p14, List.forall_mem_cons.mpr ⟨lw_p15, fun _ h => absurd h List.not_mem_nil⟩⟩⟩⟩⟩⟩⟩⟩⟩⟩⟩⟩⟩⟩⟩⟩
theorem lw_p16 : lw_okq (⟨"MindDuty", "stuckOnes", "()I"⟩, 9) := ⟨⟨by decide +kernel, by decide +kernel⟩, List.mem_of_getElem? (i := 13) (by decide +kernel), List.mem_of_getElem? (i := 418) (by decide +kernel), List.mem_of_getElem? (i := 419) (by decide +kernel)⟩
theorem lw_p17 : lw_okq (⟨"MindDuty", "dutyOf", "(I)I"⟩, 9) := ⟨⟨by decide +kernel, by decide +kernel⟩, List.mem_of_getElem? (i := 13) (by decide +kernel), List.mem_of_getElem? (i := 453) (by decide +kernel), List.mem_of_getElem? (i := 454) (by decide +kernel)⟩
theorem lw_p18 : lw_okq (⟨"MindDuty", "letPass", "(I)I"⟩, 9) := ⟨⟨by decide +kernel, by decide +kernel⟩, List.mem_of_getElem? (i := 13) (by decide +kernel), List.mem_of_getElem? (i := 476) (by decide +kernel), List.mem_of_getElem? (i := 477) (by decide +kernel)⟩
theorem lw_p19 : lw_okq (⟨"MindDuty", "driftOneDay", "()V"⟩, 9) := ⟨⟨by decide +kernel, by decide +kernel⟩, List.mem_of_getElem? (i := 13) (by decide +kernel), List.mem_of_getElem? (i := 524) (by decide +kernel), List.mem_of_getElem? (i := 525) (by decide +kernel)⟩
theorem lw_p20 : lw_okq (⟨"MindDuty", "draw", "(I)I"⟩, 9) := ⟨⟨by decide +kernel, by decide +kernel⟩, List.mem_of_getElem? (i := 13) (by decide +kernel), List.mem_of_getElem? (i := 528) (by decide +kernel), List.mem_of_getElem? (i := 529) (by decide +kernel)⟩
theorem lw_p21 : lw_okq (⟨"MindDuty", "cheapestParts", "(I)I"⟩, 9) := ⟨⟨by decide +kernel, by decide +kernel⟩, List.mem_of_getElem? (i := 13) (by decide +kernel), List.mem_of_getElem? (i := 556) (by decide +kernel), List.mem_of_getElem? (i := 557) (by decide +kernel)⟩
theorem lw_p22 : lw_okq (⟨"MindDuty", "nextOnTheWay", "(I)I"⟩, 9) := ⟨⟨by decide +kernel, by decide +kernel⟩, List.mem_of_getElem? (i := 13) (by decide +kernel), List.mem_of_getElem? (i := 568) (by decide +kernel), List.mem_of_getElem? (i := 569) (by decide +kernel)⟩
theorem lw_p23 : lw_okq (⟨"MindDuty", "smallestRegister", "()I"⟩, 9) := ⟨⟨by decide +kernel, by decide +kernel⟩, List.mem_of_getElem? (i := 13) (by decide +kernel), List.mem_of_getElem? (i := 583) (by decide +kernel), List.mem_of_getElem? (i := 584) (by decide +kernel)⟩
theorem lw_p24 : lw_okq (⟨"MindDuty", "needless", "()I"⟩, 9) := ⟨⟨by decide +kernel, by decide +kernel⟩, List.mem_of_getElem? (i := 13) (by decide +kernel), List.mem_of_getElem? (i := 593) (by decide +kernel), List.mem_of_getElem? (i := 594) (by decide +kernel)⟩
theorem lw_p25 : lw_okq (⟨"MindDuty$Questions", "fits", "(I)Z"⟩, 8) := ⟨⟨by decide +kernel, by decide +kernel⟩, List.mem_of_getElem? (i := 208) (by decide +kernel), List.mem_of_getElem? (i := 635) (by decide +kernel), List.mem_of_getElem? (i := 636) (by decide +kernel)⟩
theorem lw_p26 : lw_okq (⟨"MindDuty$Questions", "countIdeas", "(I)V"⟩, 8) := ⟨⟨by decide +kernel, by decide +kernel⟩, List.mem_of_getElem? (i := 208) (by decide +kernel), List.mem_of_getElem? (i := 643) (by decide +kernel), List.mem_of_getElem? (i := 644) (by decide +kernel)⟩
theorem lw_p27 : lw_okq (⟨"MindDutyModel", "here", "()I"⟩, 48) := ⟨⟨by decide +kernel, by decide +kernel⟩, List.mem_of_getElem? (i := 696) (by decide +kernel), List.mem_of_getElem? (i := 861) (by decide +kernel), List.mem_of_getElem? (i := 862) (by decide +kernel)⟩
theorem lw_p28 : lw_okq (⟨"MindDutyModel", "takeClause", "()I"⟩, 48) := ⟨⟨by decide +kernel, by decide +kernel⟩, List.mem_of_getElem? (i := 696) (by decide +kernel), List.mem_of_getElem? (i := 865) (by decide +kernel), List.mem_of_getElem? (i := 866) (by decide +kernel)⟩
theorem lw_p29 : lw_okq (⟨"MindDutyModel", "whichClause", "(I)I"⟩, 48) := ⟨⟨by decide +kernel, by decide +kernel⟩, List.mem_of_getElem? (i := 696) (by decide +kernel), List.mem_of_getElem? (i := 869) (by decide +kernel), List.mem_of_getElem? (i := 870) (by decide +kernel)⟩
theorem lw_p30 : lw_okq (⟨"MindDutyModel", "fails", "(II)I"⟩, 48) := ⟨⟨by decide +kernel, by decide +kernel⟩, List.mem_of_getElem? (i := 696) (by decide +kernel), List.mem_of_getElem? (i := 873) (by decide +kernel), List.mem_of_getElem? (i := 874) (by decide +kernel)⟩
theorem lw_p31 : lw_okq (⟨"MindDutyModel", "isFull", "(I)Z"⟩, 48) := ⟨⟨by decide +kernel, by decide +kernel⟩, List.mem_of_getElem? (i := 696) (by decide +kernel), List.mem_of_getElem? (i := 877) (by decide +kernel), List.mem_of_getElem? (i := 878) (by decide +kernel)⟩
def lw_privs_2 : List (MethodName × Nat) := [(⟨"MindDuty", "stuckOnes", "()I"⟩, 9), (⟨"MindDuty", "dutyOf", "(I)I"⟩, 9), (⟨"MindDuty", "letPass", "(I)I"⟩, 9), (⟨"MindDuty", "driftOneDay", "()V"⟩, 9), (⟨"MindDuty", "draw", "(I)I"⟩, 9), (⟨"MindDuty", "cheapestParts", "(I)I"⟩, 9), (⟨"MindDuty", "nextOnTheWay", "(I)I"⟩, 9), (⟨"MindDuty", "smallestRegister", "()I"⟩, 9), (⟨"MindDuty", "needless", "()I"⟩, 9), (⟨"MindDuty$Questions", "fits", "(I)Z"⟩, 8), (⟨"MindDuty$Questions", "countIdeas", "(I)V"⟩, 8), (⟨"MindDutyModel", "here", "()I"⟩, 48), (⟨"MindDutyModel", "takeClause", "()I"⟩, 48), (⟨"MindDutyModel", "whichClause", "(I)I"⟩, 48), (⟨"MindDutyModel", "fails", "(II)I"⟩, 48), (⟨"MindDutyModel", "isFull", "(I)Z"⟩, 48)]
theorem lw_r2 : ∀ q ∈ lw_privs_2, lw_okq q := List.forall_mem_cons.mpr ⟨lw_p16, List.forall_mem_cons.mpr ⟨lw_p17, List.forall_mem_cons.mpr ⟨lw_p18, List.forall_mem_cons.mpr ⟨lw_p19, List.forall_mem_cons.mpr ⟨lw_p20, List.forall_mem_cons.mpr ⟨lw_p21, List.forall_mem_cons.mpr ⟨lw_p22, List.forall_mem_cons.mpr ⟨lw_p23, List.forall_mem_cons.mpr ⟨lw_p24, List.forall_mem_cons.mpr ⟨lw_p25, List.forall_mem_cons.mpr ⟨lw_p26, List.forall_mem_cons.mpr ⟨lw_p27, List.forall_mem_cons.mpr ⟨lw_p28, List.forall_mem_cons.mpr ⟨lw_p29, List.forall_mem_cons.mpr ⟨lw_p30, List.forall_mem_cons.mpr ⟨lw_p31, fun _ h => absurd h List.not_mem_nil⟩⟩⟩⟩⟩⟩⟩⟩⟩⟩⟩⟩⟩⟩⟩⟩
theorem lw_p32 : lw_okq (⟨"MindDutyModel", "takeBody", "(I)I"⟩, 48) := ⟨⟨by decide +kernel, by decide +kernel⟩, List.mem_of_getElem? (i := 696) (by decide +kernel), List.mem_of_getElem? (i := 881) (by decide +kernel), List.mem_of_getElem? (i := 882) (by decide +kernel)⟩
theorem lw_p33 : lw_okq (⟨"MindDutyModel", "takeGate", "()I"⟩, 48) := ⟨⟨by decide +kernel, by decide +kernel⟩, List.mem_of_getElem? (i := 696) (by decide +kernel), List.mem_of_getElem? (i := 885) (by decide +kernel), List.mem_of_getElem? (i := 886) (by decide +kernel)⟩
theorem lw_p34 : lw_okq (⟨"MindDutyModel", "into", "([IIII)I"⟩, 48) := ⟨⟨by decide +kernel, by decide +kernel⟩, List.mem_of_getElem? (i := 696) (by decide +kernel), List.mem_of_getElem? (i := 889) (by decide +kernel), List.mem_of_getElem? (i := 890) (by decide +kernel)⟩
theorem lw_p35 : lw_okq (⟨"MindDutyModel", "takeNumber", "(II)I"⟩, 48) := ⟨⟨by decide +kernel, by decide +kernel⟩, List.mem_of_getElem? (i := 696) (by decide +kernel), List.mem_of_getElem? (i := 893) (by decide +kernel), List.mem_of_getElem? (i := 894) (by decide +kernel)⟩
theorem lw_p36 : lw_okq (⟨"MindDutyModel", "takeIdea", "()I"⟩, 48) := ⟨⟨by decide +kernel, by decide +kernel⟩, List.mem_of_getElem? (i := 696) (by decide +kernel), List.mem_of_getElem? (i := 899) (by decide +kernel), List.mem_of_getElem? (i := 900) (by decide +kernel)⟩
theorem lw_p37 : lw_okq (⟨"MindDutyModel", "takeJoin", "()I"⟩, 48) := ⟨⟨by decide +kernel, by decide +kernel⟩, List.mem_of_getElem? (i := 696) (by decide +kernel), List.mem_of_getElem? (i := 903) (by decide +kernel), List.mem_of_getElem? (i := 904) (by decide +kernel)⟩
theorem lw_p38 : lw_okq (⟨"MindDutyModel", "takeTalk", "()I"⟩, 48) := ⟨⟨by decide +kernel, by decide +kernel⟩, List.mem_of_getElem? (i := 696) (by decide +kernel), List.mem_of_getElem? (i := 907) (by decide +kernel), List.mem_of_getElem? (i := 908) (by decide +kernel)⟩
theorem lw_p39 : lw_okq (⟨"MindDutyModel", "takeRegistered", "()I"⟩, 48) := ⟨⟨by decide +kernel, by decide +kernel⟩, List.mem_of_getElem? (i := 696) (by decide +kernel), List.mem_of_getElem? (i := 911) (by decide +kernel), List.mem_of_getElem? (i := 912) (by decide +kernel)⟩
theorem lw_p40 : lw_okq (⟨"MindDutyModel", "takeTraveller", "()I"⟩, 48) := ⟨⟨by decide +kernel, by decide +kernel⟩, List.mem_of_getElem? (i := 696) (by decide +kernel), List.mem_of_getElem? (i := 918) (by decide +kernel), List.mem_of_getElem? (i := 919) (by decide +kernel)⟩
theorem lw_p41 : lw_okq (⟨"MindDutyModel", "takeRead", "()V"⟩, 48) := ⟨⟨by decide +kernel, by decide +kernel⟩, List.mem_of_getElem? (i := 696) (by decide +kernel), List.mem_of_getElem? (i := 922) (by decide +kernel), List.mem_of_getElem? (i := 923) (by decide +kernel)⟩
theorem lw_p42 : lw_okq (⟨"MindDutyModel", "close", "(I)I"⟩, 48) := ⟨⟨by decide +kernel, by decide +kernel⟩, List.mem_of_getElem? (i := 696) (by decide +kernel), List.mem_of_getElem? (i := 934) (by decide +kernel), List.mem_of_getElem? (i := 935) (by decide +kernel)⟩
theorem lw_p43 : lw_okq (⟨"MindDutyModel", "stuckOnes", "()I"⟩, 48) := ⟨⟨by decide +kernel, by decide +kernel⟩, List.mem_of_getElem? (i := 696) (by decide +kernel), List.mem_of_getElem? (i := 938) (by decide +kernel), List.mem_of_getElem? (i := 939) (by decide +kernel)⟩
theorem lw_p44 : lw_okq (⟨"MindDutyModel", "isGone", "(I)Z"⟩, 48) := ⟨⟨by decide +kernel, by decide +kernel⟩, List.mem_of_getElem? (i := 696) (by decide +kernel), List.mem_of_getElem? (i := 942) (by decide +kernel), List.mem_of_getElem? (i := 943) (by decide +kernel)⟩
theorem lw_p45 : lw_okq (⟨"MindDutyModel", "isStuck", "(I)Z"⟩, 48) := ⟨⟨by decide +kernel, by decide +kernel⟩, List.mem_of_getElem? (i := 696) (by decide +kernel), List.mem_of_getElem? (i := 946) (by decide +kernel), List.mem_of_getElem? (i := 947) (by decide +kernel)⟩
theorem lw_p46 : lw_okq (⟨"MindDutyModel", "sizeOf", "(I)I"⟩, 48) := ⟨⟨by decide +kernel, by decide +kernel⟩, List.mem_of_getElem? (i := 696) (by decide +kernel), List.mem_of_getElem? (i := 950) (by decide +kernel), List.mem_of_getElem? (i := 951) (by decide +kernel)⟩
theorem lw_p47 : lw_okq (⟨"MindDutyModel", "isIdea", "(I)Z"⟩, 48) := ⟨⟨by decide +kernel, by decide +kernel⟩, List.mem_of_getElem? (i := 696) (by decide +kernel), List.mem_of_getElem? (i := 958) (by decide +kernel), List.mem_of_getElem? (i := 959) (by decide +kernel)⟩
def lw_privs_3 : List (MethodName × Nat) := [(⟨"MindDutyModel", "takeBody", "(I)I"⟩, 48), (⟨"MindDutyModel", "takeGate", "()I"⟩, 48), (⟨"MindDutyModel", "into", "([IIII)I"⟩, 48), (⟨"MindDutyModel", "takeNumber", "(II)I"⟩, 48), (⟨"MindDutyModel", "takeIdea", "()I"⟩, 48), (⟨"MindDutyModel", "takeJoin", "()I"⟩, 48), (⟨"MindDutyModel", "takeTalk", "()I"⟩, 48), (⟨"MindDutyModel", "takeRegistered", "()I"⟩, 48), (⟨"MindDutyModel", "takeTraveller", "()I"⟩, 48), (⟨"MindDutyModel", "takeRead", "()V"⟩, 48), (⟨"MindDutyModel", "close", "(I)I"⟩, 48), (⟨"MindDutyModel", "stuckOnes", "()I"⟩, 48), (⟨"MindDutyModel", "isGone", "(I)Z"⟩, 48), (⟨"MindDutyModel", "isStuck", "(I)Z"⟩, 48), (⟨"MindDutyModel", "sizeOf", "(I)I"⟩, 48), (⟨"MindDutyModel", "isIdea", "(I)Z"⟩, 48)]
theorem lw_r3 : ∀ q ∈ lw_privs_3, lw_okq q := List.forall_mem_cons.mpr ⟨lw_p32, List.forall_mem_cons.mpr ⟨lw_p33, List.forall_mem_cons.mpr ⟨lw_p34, List.forall_mem_cons.mpr ⟨lw_p35, List.forall_mem_cons.mpr ⟨lw_p36, List.forall_mem_cons.mpr ⟨lw_p37, List.forall_mem_cons.mpr ⟨lw_p38, List.forall_mem_cons.mpr ⟨lw_p39, List.forall_mem_cons.mpr ⟨lw_p40, List.forall_mem_cons.mpr ⟨lw_p41, List.forall_mem_cons.mpr ⟨lw_p42, List.forall_mem_cons.mpr ⟨lw_p43, List.forall_mem_cons.mpr ⟨lw_p44, List.forall_mem_cons.mpr ⟨lw_p45, List.forall_mem_cons.mpr ⟨lw_p46, List.forall_mem_cons.mpr ⟨lw_p47, fun _ h => absurd h List.not_mem_nil⟩⟩⟩⟩⟩⟩⟩⟩⟩⟩⟩⟩⟩⟩⟩⟩
theorem lw_p48 : lw_okq (⟨"MindDutyModel", "isTraveller", "(I)Z"⟩, 48) := ⟨⟨by decide +kernel, by decide +kernel⟩, List.mem_of_getElem? (i := 696) (by decide +kernel), List.mem_of_getElem? (i := 967) (by decide +kernel), List.mem_of_getElem? (i := 968) (by decide +kernel)⟩
theorem lw_p49 : lw_okq (⟨"MindDutyModel", "owedFor", "(I)I"⟩, 48) := ⟨⟨by decide +kernel, by decide +kernel⟩, List.mem_of_getElem? (i := 696) (by decide +kernel), List.mem_of_getElem? (i := 971) (by decide +kernel), List.mem_of_getElem? (i := 972) (by decide +kernel)⟩
theorem lw_p50 : lw_okq (⟨"MindDutyModel", "owedWhere", "(II)I"⟩, 48) := ⟨⟨by decide +kernel, by decide +kernel⟩, List.mem_of_getElem? (i := 696) (by decide +kernel), List.mem_of_getElem? (i := 975) (by decide +kernel), List.mem_of_getElem? (i := 976) (by decide +kernel)⟩
theorem lw_p51 : lw_okq (⟨"MindDutyModel", "remember", "()V"⟩, 48) := ⟨⟨by decide +kernel, by decide +kernel⟩, List.mem_of_getElem? (i := 696) (by decide +kernel), List.mem_of_getElem? (i := 984) (by decide +kernel), List.mem_of_getElem? (i := 985) (by decide +kernel)⟩
theorem lw_p52 : lw_okq (⟨"MindDutyModel", "passNow", "(I)I"⟩, 48) := ⟨⟨by decide +kernel, by decide +kernel⟩, List.mem_of_getElem? (i := 696) (by decide +kernel), List.mem_of_getElem? (i := 988) (by decide +kernel), List.mem_of_getElem? (i := 989) (by decide +kernel)⟩
theorem lw_p53 : lw_okq (⟨"MindDutyModel", "roundNow", "(IZ)I"⟩, 48) := ⟨⟨by decide +kernel, by decide +kernel⟩, List.mem_of_getElem? (i := 696) (by decide +kernel), List.mem_of_getElem? (i := 1000) (by decide +kernel), List.mem_of_getElem? (i := 1001) (by decide +kernel)⟩
theorem lw_p54 : lw_okq (⟨"MindDutyModel", "quickest", "(II)I"⟩, 48) := ⟨⟨by decide +kernel, by decide +kernel⟩, List.mem_of_getElem? (i := 696) (by decide +kernel), List.mem_of_getElem? (i := 1008) (by decide +kernel), List.mem_of_getElem? (i := 1009) (by decide +kernel)⟩
theorem lw_p55 : lw_okq (⟨"MindDutyModel", "isSet", "(I)Z"⟩, 48) := ⟨⟨by decide +kernel, by decide +kernel⟩, List.mem_of_getElem? (i := 696) (by decide +kernel), List.mem_of_getElem? (i := 1020) (by decide +kernel), List.mem_of_getElem? (i := 1021) (by decide +kernel)⟩
theorem lw_p56 : lw_okq (⟨"MindDutyModel", "dayByDraws", "()V"⟩, 48) := ⟨⟨by decide +kernel, by decide +kernel⟩, List.mem_of_getElem? (i := 696) (by decide +kernel), List.mem_of_getElem? (i := 1033) (by decide +kernel), List.mem_of_getElem? (i := 1034) (by decide +kernel)⟩
theorem lw_p57 : lw_okq (⟨"MindDutyModel", "draw", "(I)I"⟩, 48) := ⟨⟨by decide +kernel, by decide +kernel⟩, List.mem_of_getElem? (i := 696) (by decide +kernel), List.mem_of_getElem? (i := 1037) (by decide +kernel), List.mem_of_getElem? (i := 1038) (by decide +kernel)⟩
theorem lw_p58 : lw_okq (⟨"MindDutyModel", "findMinutes", "(I)V"⟩, 48) := ⟨⟨by decide +kernel, by decide +kernel⟩, List.mem_of_getElem? (i := 696) (by decide +kernel), List.mem_of_getElem? (i := 1065) (by decide +kernel), List.mem_of_getElem? (i := 1066) (by decide +kernel)⟩
theorem lw_p59 : lw_okq (⟨"MindDutyModel", "minutesOf", "(II)I"⟩, 48) := ⟨⟨by decide +kernel, by decide +kernel⟩, List.mem_of_getElem? (i := 696) (by decide +kernel), List.mem_of_getElem? (i := 1073) (by decide +kernel), List.mem_of_getElem? (i := 1074) (by decide +kernel)⟩
theorem lw_p60 : lw_okq (⟨"MindDutyModel", "smallestSet", "()I"⟩, 48) := ⟨⟨by decide +kernel, by decide +kernel⟩, List.mem_of_getElem? (i := 696) (by decide +kernel), List.mem_of_getElem? (i := 1081) (by decide +kernel), List.mem_of_getElem? (i := 1082) (by decide +kernel)⟩
theorem lw_p61 : lw_okq (⟨"MindDutyModel", "needless", "()I"⟩, 48) := ⟨⟨by decide +kernel, by decide +kernel⟩, List.mem_of_getElem? (i := 696) (by decide +kernel), List.mem_of_getElem? (i := 1088) (by decide +kernel), List.mem_of_getElem? (i := 1089) (by decide +kernel)⟩
theorem lw_p62 : lw_okq (⟨"MindDutyModel", "couldBe", "(I)Z"⟩, 48) := ⟨⟨by decide +kernel, by decide +kernel⟩, List.mem_of_getElem? (i := 696) (by decide +kernel), List.mem_of_getElem? (i := 1125) (by decide +kernel), List.mem_of_getElem? (i := 1126) (by decide +kernel)⟩
def lw_privs_4 : List (MethodName × Nat) := [(⟨"MindDutyModel", "isTraveller", "(I)Z"⟩, 48), (⟨"MindDutyModel", "owedFor", "(I)I"⟩, 48), (⟨"MindDutyModel", "owedWhere", "(II)I"⟩, 48), (⟨"MindDutyModel", "remember", "()V"⟩, 48), (⟨"MindDutyModel", "passNow", "(I)I"⟩, 48), (⟨"MindDutyModel", "roundNow", "(IZ)I"⟩, 48), (⟨"MindDutyModel", "quickest", "(II)I"⟩, 48), (⟨"MindDutyModel", "isSet", "(I)Z"⟩, 48), (⟨"MindDutyModel", "dayByDraws", "()V"⟩, 48), (⟨"MindDutyModel", "draw", "(I)I"⟩, 48), (⟨"MindDutyModel", "findMinutes", "(I)V"⟩, 48), (⟨"MindDutyModel", "minutesOf", "(II)I"⟩, 48), (⟨"MindDutyModel", "smallestSet", "()I"⟩, 48), (⟨"MindDutyModel", "needless", "()I"⟩, 48), (⟨"MindDutyModel", "couldBe", "(I)Z"⟩, 48)]
theorem lw_r4 : ∀ q ∈ lw_privs_4, lw_okq q := List.forall_mem_cons.mpr ⟨lw_p48, List.forall_mem_cons.mpr ⟨lw_p49, List.forall_mem_cons.mpr ⟨lw_p50, List.forall_mem_cons.mpr ⟨lw_p51, List.forall_mem_cons.mpr ⟨lw_p52, List.forall_mem_cons.mpr ⟨lw_p53, List.forall_mem_cons.mpr ⟨lw_p54, List.forall_mem_cons.mpr ⟨lw_p55, List.forall_mem_cons.mpr ⟨lw_p56, List.forall_mem_cons.mpr ⟨lw_p57, List.forall_mem_cons.mpr ⟨lw_p58, List.forall_mem_cons.mpr ⟨lw_p59, List.forall_mem_cons.mpr ⟨lw_p60, List.forall_mem_cons.mpr ⟨lw_p61, List.forall_mem_cons.mpr ⟨lw_p62, fun _ h => absurd h List.not_mem_nil⟩⟩⟩⟩⟩⟩⟩⟩⟩⟩⟩⟩⟩⟩⟩
def lw_privs : List (MethodName × Nat) := lw_privs_1 ++ (lw_privs_2 ++ (lw_privs_3 ++ (lw_privs_4)))
def lw_tbl : List Cond := k2_sels lw_privs ++ tables_1
theorem lw_privs_ok : ∀ q ∈ lw_privs, lw_okq q := by
  show ∀ q ∈ lw_privs_1 ++ (lw_privs_2 ++ (lw_privs_3 ++ (lw_privs_4))), lw_okq q
  exact List.forall_mem_append.mpr ⟨lw_r1, List.forall_mem_append.mpr ⟨lw_r2, List.forall_mem_append.mpr ⟨lw_r3, lw_r4⟩⟩⟩
end
section
def RX0 : String := "MindDuty$Book"
def TX0 : u_T := fun k => match k with
  | 0 => ("MindDuty$Book", "ideas", "[I", true)
  | 1 => ("MindDuty$Book", "states", "[I", true)
  | _ => ("MindDuty$Book", "count", "I", false)
def tyX0 : Nat → FieldType := fun k => match k with
  | 0 => .array .int
  | 1 => .array .int
  | _ => .int
abbrev wsX00 : List Cond := u_ws RX0 TX0 3
theorem nmX0 : ∀ a, a < 3 → ∀ b, b < 3 → a ≠ b → (TX0 a).2.1 ≠ (TX0 b).2.1 := by decide +kernel
theorem tyX0_ok : ∀ k, k < 3 → parseFieldDescriptor (TX0 k).2.2.1 = some (tyX0 k) := by decide +kernel
abbrev cX0_init : ByteArray := prog_2_method_1_code
def yX0_init : MethodName := ⟨RX0, "<init>", "()V"⟩
abbrev cX0_append : ByteArray := prog_2_method_2_code
def yX0_append : MethodName := ⟨RX0, "append", "(II)Z"⟩
abbrev cX0_firstWrong : ByteArray := prog_2_method_3_code
def yX0_firstWrong : MethodName := ⟨RX0, "firstWrong", "(I)I"⟩
def RX1 : String := "MindDuty$Country"
def TX1 : u_T := fun k => match k with
  | 0 => ("MindDuty$Country", "there", "Z", false)
  | 1 => ("MindDuty$Country", "gate", "I", false)
  | 2 => ("MindDuty$Country", "risk", "I", false)
  | 3 => ("MindDuty$Country", "ideas", "I", false)
  | 4 => ("MindDuty$Country", "sizes", "[I", true)
  | 5 => ("MindDuty$Country", "joinings", "I", false)
  | 6 => ("MindDuty$Country", "joinOne", "[I", true)
  | 7 => ("MindDuty$Country", "joinOther", "[I", true)
  | 8 => ("MindDuty$Country", "joinTo", "[I", true)
  | 9 => ("MindDuty$Country", "talks", "I", false)
  | 10 => ("MindDuty$Country", "talkFrom", "[I", true)
  | 11 => ("MindDuty$Country", "talkTo", "[I", true)
  | 12 => ("MindDuty$Country", "talkTime", "[I", true)
  | 13 => ("MindDuty$Country", "registered", "I", false)
  | 14 => ("MindDuty$Country", "travellers", "I", false)
  | 15 => ("MindDuty$Country", "minds", "[I", true)
  | _ => ("MindDuty$Country", "fromSet", "[I", true)
def tyX1 : Nat → FieldType := fun k => match k with
  | 0 => .boolean
  | 1 => .int
  | 2 => .int
  | 3 => .int
  | 4 => .array .int
  | 5 => .int
  | 6 => .array .int
  | 7 => .array .int
  | 8 => .array .int
  | 9 => .int
  | 10 => .array .int
  | 11 => .array .int
  | 12 => .array .int
  | 13 => .int
  | 14 => .int
  | 15 => .array .int
  | _ => .array .int
abbrev wsX10 : List Cond := u_ws RX1 TX1 17
theorem nmX1 : ∀ a, a < 17 → ∀ b, b < 17 → a ≠ b → (TX1 a).2.1 ≠ (TX1 b).2.1 := by decide +kernel
theorem tyX1_ok : ∀ k, k < 17 → parseFieldDescriptor (TX1 k).2.2.1 = some (tyX1 k) := by decide +kernel
abbrev cX1_init : ByteArray := prog_3_method_1_code
def yX1_init : MethodName := ⟨RX1, "<init>", "()V"⟩
abbrev cX1_clear : ByteArray := prog_3_method_2_code
def yX1_clear : MethodName := ⟨RX1, "clear", "()V"⟩
abbrev cX1_isIdea : ByteArray := prog_3_method_3_code
def yX1_isIdea : MethodName := ⟨RX1, "isIdea", "(I)Z"⟩
abbrev cX1_isTraveller : ByteArray := prog_3_method_4_code
def yX1_isTraveller : MethodName := ⟨RX1, "isTraveller", "(I)Z"⟩
abbrev cX1_isSet : ByteArray := prog_3_method_5_code
def yX1_isSet : MethodName := ⟨RX1, "isSet", "(I)Z"⟩
abbrev cX1_findAllFrom : ByteArray := prog_3_method_6_code
def yX1_findAllFrom : MethodName := ⟨RX1, "findAllFrom", "()V"⟩
abbrev cX1_joined : ByteArray := prog_3_method_7_code
def yX1_joined : MethodName := ⟨RX1, "joined", "(I)I"⟩
abbrev cX1_allFrom : ByteArray := prog_3_method_8_code
def yX1_allFrom : MethodName := ⟨RX1, "allFrom", "(I)I"⟩
abbrev cX1_sizeOf : ByteArray := prog_3_method_9_code
def yX1_sizeOf : MethodName := ⟨RX1, "sizeOf", "(I)I"⟩
abbrev cX1_isStuck : ByteArray := prog_3_method_10_code
def yX1_isStuck : MethodName := ⟨RX1, "isStuck", "(I)Z"⟩
abbrev cX1_duty : ByteArray := prog_3_method_11_code
def yX1_duty : MethodName := ⟨RX1, "duty", "(II)I"⟩
abbrev cX1_quickest : ByteArray := prog_3_method_12_code
def yX1_quickest : MethodName := ⟨RX1, "quickest", "(II)I"⟩
abbrev cX1_findMinutes : ByteArray := prog_3_method_13_code
def yX1_findMinutes : MethodName := ⟨RX1, "findMinutes", "(I[I)V"⟩
def RX2 : String := "MindDuty$Images"
def TX2 : u_T := fun k => match k with
  | 0 => ("MindDuty$Images", "posts", "[LMindDuty$Post;", true)
  | 1 => ("MindDuty$Images", "lots", "[I", true)
  | _ => ("MindDuty$Images", "taken", "[Z", true)
def tyX2 : Nat → FieldType := fun k => match k with
  | 0 => .array (.object "MindDuty$Post")
  | 1 => .array .int
  | _ => .array .boolean
abbrev wsX20 : List Cond := u_ws RX2 TX2 3
theorem nmX2 : ∀ a, a < 3 → ∀ b, b < 3 → a ≠ b → (TX2 a).2.1 ≠ (TX2 b).2.1 := by decide +kernel
theorem tyX2_ok : ∀ k, k < 3 → parseFieldDescriptor (TX2 k).2.2.1 = some (tyX2 k) := by decide +kernel
abbrev cX2_init : ByteArray := prog_4_method_1_code
def yX2_init : MethodName := ⟨RX2, "<init>", "()V"⟩
abbrev cX2_take : ByteArray := prog_4_method_2_code
def yX2_take : MethodName := ⟨RX2, "take", "(ILMindDuty$Post;I)V"⟩
abbrev cX2_forget : ByteArray := prog_4_method_3_code
def yX2_forget : MethodName := ⟨RX2, "forget", "()V"⟩
def RX3 : String := "MindDuty$Past"
def TX3 : u_T := fun k => match k with
  | 0 => ("MindDuty$Past", "ring", "[LMindDuty$Post;", true)
  | 1 => ("MindDuty$Past", "next", "I", false)
  | _ => ("MindDuty$Past", "count", "I", false)
def tyX3 : Nat → FieldType := fun k => match k with
  | 0 => .array (.object "MindDuty$Post")
  | 1 => .int
  | _ => .int
abbrev wsX30 : List Cond := u_ws RX3 TX3 3
theorem nmX3 : ∀ a, a < 3 → ∀ b, b < 3 → a ≠ b → (TX3 a).2.1 ≠ (TX3 b).2.1 := by decide +kernel
theorem tyX3_ok : ∀ k, k < 3 → parseFieldDescriptor (TX3 k).2.2.1 = some (tyX3 k) := by decide +kernel
abbrev cX3_init : ByteArray := prog_5_method_1_code
def yX3_init : MethodName := ⟨RX3, "<init>", "()V"⟩
abbrev cX3_remember : ByteArray := prog_5_method_2_code
def yX3_remember : MethodName := ⟨RX3, "remember", "(LMindDuty$Post;)V"⟩
abbrev cX3_bringBack : ByteArray := prog_5_method_3_code
def yX3_bringBack : MethodName := ⟨RX3, "bringBack", "(LMindDuty$Post;)V"⟩
def RX4 : String := "MindDuty$Post"
def TX4 : u_T := fun k => match k with
  | 0 => ("MindDuty$Post", "minds", "[I", true)
  | 1 => ("MindDuty$Post", "registered", "I", false)
  | 2 => ("MindDuty$Post", "gone", "I", false)
  | 3 => ("MindDuty$Post", "paid", "I", false)
  | _ => ("MindDuty$Post", "minutes", "I", false)
def tyX4 : Nat → FieldType := fun k => match k with
  | 0 => .array .int
  | 1 => .int
  | 2 => .int
  | 3 => .int
  | _ => .int
abbrev wsX40 : List Cond := u_ws RX4 TX4 5
theorem nmX4 : ∀ a, a < 5 → ∀ b, b < 5 → a ≠ b → (TX4 a).2.1 ≠ (TX4 b).2.1 := by decide +kernel
theorem tyX4_ok : ∀ k, k < 5 → parseFieldDescriptor (TX4 k).2.2.1 = some (tyX4 k) := by decide +kernel
abbrev cX4_init : ByteArray := prog_6_method_1_code
def yX4_init : MethodName := ⟨RX4, "<init>", "()V"⟩
abbrev cX4_begin : ByteArray := prog_6_method_2_code
def yX4_begin : MethodName := ⟨RX4, "begin", "(LMindDuty$Country;)V"⟩
abbrev cX4_become : ByteArray := prog_6_method_3_code
def yX4_become : MethodName := ⟨RX4, "become", "(LMindDuty$Post;)V"⟩
abbrev cX4_mindOf : ByteArray := prog_6_method_4_code
def yX4_mindOf : MethodName := ⟨RX4, "mindOf", "(I)I"⟩
abbrev cX4_setMind : ByteArray := prog_6_method_5_code
def yX4_setMind : MethodName := ⟨RX4, "setMind", "(II)V"⟩
abbrev cX4_isGone : ByteArray := prog_6_method_6_code
def yX4_isGone : MethodName := ⟨RX4, "isGone", "(I)Z"⟩
abbrev cX4_comes : ByteArray := prog_6_method_7_code
def yX4_comes : MethodName := ⟨RX4, "comes", "(II)V"⟩
abbrev cX4_leaves : ByteArray := prog_6_method_8_code
def yX4_leaves : MethodName := ⟨RX4, "leaves", "(IZ)V"⟩
def RX5 : String := "MindDuty$Questions"
def TX5 : u_T := fun k => match k with
  | 0 => ("MindDuty$Questions", "sets", "[I", true)
  | 1 => ("MindDuty$Questions", "hows", "[I", true)
  | 2 => ("MindDuty$Questions", "answers", "[Z", true)
  | 3 => ("MindDuty$Questions", "having", "[I", true)
  | 4 => ("MindDuty$Questions", "count", "I", false)
  | 5 => ("MindDuty$Questions", "fitting", "I", false)
  | 6 => ("MindDuty$Questions", "least", "I", false)
  | _ => ("MindDuty$Questions", "sure", "I", false)
def tyX5 : Nat → FieldType := fun k => match k with
  | 0 => .array .int
  | 1 => .array .int
  | 2 => .array .boolean
  | 3 => .array .int
  | 4 => .int
  | 5 => .int
  | 6 => .int
  | _ => .int
abbrev wsX50 : List Cond := u_ws RX5 TX5 8
theorem nmX5 : ∀ a, a < 8 → ∀ b, b < 8 → a ≠ b → (TX5 a).2.1 ≠ (TX5 b).2.1 := by decide +kernel
theorem tyX5_ok : ∀ k, k < 8 → parseFieldDescriptor (TX5 k).2.2.1 = some (tyX5 k) := by decide +kernel
abbrev cX5_init : ByteArray := prog_7_method_1_code
def yX5_init : MethodName := ⟨RX5, "<init>", "()V"⟩
abbrev cX5_append : ByteArray := prog_7_method_2_code
def yX5_append : MethodName := ⟨RX5, "append", "(IIZ)Z"⟩
abbrev cX5_look : ByteArray := prog_7_method_3_code
def yX5_look : MethodName := ⟨RX5, "look", "(I)V"⟩
abbrev cX5_countIdeas : ByteArray := prog_7_method_4_code
def yX5_countIdeas : MethodName := ⟨RX5, "countIdeas", "(I)V"⟩
abbrev cX5_fits : ByteArray := prog_7_method_5_code
def yX5_fits : MethodName := ⟨RX5, "fits", "(I)Z"⟩
abbrev cX5_isSo : ByteArray := prog_7_method_6_code
def yX5_isSo : MethodName := ⟨RX5, "isSo", "(III)Z"⟩
abbrev cX5_bestIdea : ByteArray := prog_7_method_7_code
def yX5_bestIdea : MethodName := ⟨RX5, "bestIdea", "()I"⟩
def RX6 : String := "MindDuty$Reader"
def TX6 : u_T := fun k => match k with
  | 0 => ("MindDuty$Reader", "letters", "[I", true)
  | 1 => ("MindDuty$Reader", "length", "I", false)
  | 2 => ("MindDuty$Reader", "faultAt", "I", false)
  | 3 => ("MindDuty$Reader", "faultKind", "I", false)
  | 4 => ("MindDuty$Reader", "at", "I", false)
  | 5 => ("MindDuty$Reader", "numberAt", "I", false)
  | _ => ("MindDuty$Reader", "into", "LMindDuty$Country;", false)
def tyX6 : Nat → FieldType := fun k => match k with
  | 0 => .array .int
  | 1 => .int
  | 2 => .int
  | 3 => .int
  | 4 => .int
  | 5 => .int
  | _ => .object "MindDuty$Country"
abbrev wsX60 : List Cond := u_ws RX6 TX6 7
theorem nmX6 : ∀ a, a < 7 → ∀ b, b < 7 → a ≠ b → (TX6 a).2.1 ≠ (TX6 b).2.1 := by decide +kernel
theorem tyX6_ok : ∀ k, k < 7 → parseFieldDescriptor (TX6 k).2.2.1 = some (tyX6 k) := by decide +kernel
abbrev cX6_init : ByteArray := prog_8_method_1_code
def yX6_init : MethodName := ⟨RX6, "<init>", "()V"⟩
abbrev cX6_append : ByteArray := prog_8_method_2_code
def yX6_append : MethodName := ⟨RX6, "append", "(I)Z"⟩
abbrev cX6_exchange : ByteArray := prog_8_method_3_code
def yX6_exchange : MethodName := ⟨RX6, "exchange", "(LMindDuty$Country;)LMindDuty$Country;"⟩
abbrev cX6_read : ByteArray := prog_8_method_4_code
def yX6_read : MethodName := ⟨RX6, "read", "()Z"⟩
abbrev cX6_readClause : ByteArray := prog_8_method_5_code
def yX6_readClause : MethodName := ⟨RX6, "readClause", "()V"⟩
abbrev cX6_checkWord : ByteArray := prog_8_method_6_code
def yX6_checkWord : MethodName := ⟨RX6, "checkWord", "(I)V"⟩
abbrev cX6_readGate : ByteArray := prog_8_method_7_code
def yX6_readGate : MethodName := ⟨RX6, "readGate", "()V"⟩
abbrev cX6_readIdea : ByteArray := prog_8_method_8_code
def yX6_readIdea : MethodName := ⟨RX6, "readIdea", "()V"⟩
abbrev cX6_readJoining : ByteArray := prog_8_method_9_code
def yX6_readJoining : MethodName := ⟨RX6, "readJoining", "()V"⟩
abbrev cX6_readTalk : ByteArray := prog_8_method_10_code
def yX6_readTalk : MethodName := ⟨RX6, "readTalk", "()V"⟩
abbrev cX6_readRegistered : ByteArray := prog_8_method_11_code
def yX6_readRegistered : MethodName := ⟨RX6, "readRegistered", "()V"⟩
abbrev cX6_readTraveller : ByteArray := prog_8_method_12_code
def yX6_readTraveller : MethodName := ⟨RX6, "readTraveller", "()V"⟩
abbrev cX6_readEnd : ByteArray := prog_8_method_13_code
def yX6_readEnd : MethodName := ⟨RX6, "readEnd", "()V"⟩
abbrev cX6_readToldIdea : ByteArray := prog_8_method_14_code
def yX6_readToldIdea : MethodName := ⟨RX6, "readToldIdea", "()I"⟩
abbrev cX6_readNumber : ByteArray := prog_8_method_15_code
def yX6_readNumber : MethodName := ⟨RX6, "readNumber", "(II)I"⟩
abbrev cX6_isFigure : ByteArray := prog_8_method_16_code
def yX6_isFigure : MethodName := ⟨RX6, "isFigure", "(I)Z"⟩
abbrev cX6_letterHere : ByteArray := prog_8_method_17_code
def yX6_letterHere : MethodName := ⟨RX6, "letterHere", "()I"⟩
abbrev cX6_skipBlanks : ByteArray := prog_8_method_18_code
def yX6_skipBlanks : MethodName := ⟨RX6, "skipBlanks", "()V"⟩
abbrev cX6_findFault : ByteArray := prog_8_method_19_code
def yX6_findFault : MethodName := ⟨RX6, "findFault", "(II)V"⟩
def RX7 : String := "MindDuty"
def TX7 : u_T := fun k => match k with
  | 0 => ("MindDuty", "reader", "LMindDuty$Reader;", true)
  | 1 => ("MindDuty", "post", "LMindDuty$Post;", true)
  | 2 => ("MindDuty", "past", "LMindDuty$Past;", true)
  | 3 => ("MindDuty", "images", "LMindDuty$Images;", true)
  | 4 => ("MindDuty", "questions", "LMindDuty$Questions;", true)
  | 5 => ("MindDuty", "book", "LMindDuty$Book;", true)
  | 6 => ("MindDuty", "minutesLeft", "[I", true)
  | 7 => ("MindDuty", "country", "LMindDuty$Country;", false)
  | _ => ("MindDuty", "lot", "I", false)
def tyX7 : Nat → FieldType := fun k => match k with
  | 0 => .object "MindDuty$Reader"
  | 1 => .object "MindDuty$Post"
  | 2 => .object "MindDuty$Past"
  | 3 => .object "MindDuty$Images"
  | 4 => .object "MindDuty$Questions"
  | 5 => .object "MindDuty$Book"
  | 6 => .array .int
  | 7 => .object "MindDuty$Country"
  | _ => .int
abbrev wsX70 : List Cond := u_ws RX7 TX7 9
theorem nmX7 : ∀ a, a < 9 → ∀ b, b < 9 → a ≠ b → (TX7 a).2.1 ≠ (TX7 b).2.1 := by decide +kernel
theorem tyX7_ok : ∀ k, k < 9 → parseFieldDescriptor (TX7 k).2.2.1 = some (tyX7 k) := by decide +kernel
abbrev cX7_init : ByteArray := prog_1_method_1_code
def yX7_init : MethodName := ⟨RX7, "<init>", "()V"⟩
abbrev cX7_feed : ByteArray := prog_1_method_2_code
def yX7_feed : MethodName := ⟨RX7, "feed", "(I)I"⟩
abbrev cX7_thePass : ByteArray := prog_1_method_3_code
def yX7_thePass : MethodName := ⟨RX7, "thePass", "()I"⟩
abbrev cX7_fault : ByteArray := prog_1_method_4_code
def yX7_fault : MethodName := ⟨RX7, "fault", "()I"⟩
abbrev cX7_told : ByteArray := prog_1_method_5_code
def yX7_told : MethodName := ⟨RX7, "told", "(I)I"⟩
abbrev cX7_size : ByteArray := prog_1_method_6_code
def yX7_size : MethodName := ⟨RX7, "size", "(I)I"⟩
abbrev cX7_traveller : ByteArray := prog_1_method_7_code
def yX7_traveller : MethodName := ⟨RX7, "traveller", "(II)I"⟩
abbrev cX7_pass : ByteArray := prog_1_method_8_code
def yX7_pass : MethodName := ⟨RX7, "pass", "(I)I"⟩
abbrev cX7_goRound : ByteArray := prog_1_method_9_code
def yX7_goRound : MethodName := ⟨RX7, "goRound", "(IZ)I"⟩
abbrev cX7_talk : ByteArray := prog_1_method_10_code
def yX7_talk : MethodName := ⟨RX7, "talk", "(III)I"⟩
abbrev cX7_come : ByteArray := prog_1_method_11_code
def yX7_come : MethodName := ⟨RX7, "come", "(II)I"⟩
abbrev cX7_register : ByteArray := prog_1_method_12_code
def yX7_register : MethodName := ⟨RX7, "register", "(IZ)I"⟩
abbrev cX7_drift : ByteArray := prog_1_method_13_code
def yX7_drift : MethodName := ⟨RX7, "drift", "(I)I"⟩
abbrev cX7_undo : ByteArray := prog_1_method_14_code
def yX7_undo : MethodName := ⟨RX7, "undo", "()I"⟩
abbrev cX7_follows : ByteArray := prog_1_method_15_code
def yX7_follows : MethodName := ⟨RX7, "follows", "(I)I"⟩
abbrev cX7_owed : ByteArray := prog_1_method_16_code
def yX7_owed : MethodName := ⟨RX7, "owed", "(I)I"⟩
abbrev cX7_parts : ByteArray := prog_1_method_17_code
def yX7_parts : MethodName := ⟨RX7, "parts", "(II)I"⟩
abbrev cX7_talkDown : ByteArray := prog_1_method_18_code
def yX7_talkDown : MethodName := ⟨RX7, "talkDown", "(III)I"⟩
abbrev cX7_soonest : ByteArray := prog_1_method_19_code
def yX7_soonest : MethodName := ⟨RX7, "soonest", "(I)I"⟩
abbrev cX7_smallest : ByteArray := prog_1_method_20_code
def yX7_smallest : MethodName := ⟨RX7, "smallest", "(I)I"⟩
abbrev cX7_better : ByteArray := prog_1_method_21_code
def yX7_better : MethodName := ⟨RX7, "better", "(II)I"⟩
abbrev cX7_gains : ByteArray := prog_1_method_22_code
def yX7_gains : MethodName := ⟨RX7, "gains", "(II)I"⟩
abbrev cX7_free : ByteArray := prog_1_method_23_code
def yX7_free : MethodName := ⟨RX7, "free", "()I"⟩
abbrev cX7_share : ByteArray := prog_1_method_24_code
def yX7_share : MethodName := ⟨RX7, "share", "(I)I"⟩
abbrev cX7_glacier : ByteArray := prog_1_method_25_code
def yX7_glacier : MethodName := ⟨RX7, "glacier", "(I)I"⟩
abbrev cX7_ask : ByteArray := prog_1_method_26_code
def yX7_ask : MethodName := ⟨RX7, "ask", "(IIZ)I"⟩
abbrev cX7_minds : ByteArray := prog_1_method_27_code
def yX7_minds : MethodName := ⟨RX7, "minds", "(I)I"⟩
abbrev cX7_askNext : ByteArray := prog_1_method_28_code
def yX7_askNext : MethodName := ⟨RX7, "askNext", "()I"⟩
abbrev cX7_write : ByteArray := prog_1_method_29_code
def yX7_write : MethodName := ⟨RX7, "write", "(II)I"⟩
abbrev cX7_tear : ByteArray := prog_1_method_30_code
def yX7_tear : MethodName := ⟨RX7, "tear", "()I"⟩
abbrev cX7_judge : ByteArray := prog_1_method_31_code
def yX7_judge : MethodName := ⟨RX7, "judge", "()I"⟩
abbrev cX7_seed : ByteArray := prog_1_method_32_code
def yX7_seed : MethodName := ⟨RX7, "seed", "(I)I"⟩
abbrev cX7_keep : ByteArray := prog_1_method_33_code
def yX7_keep : MethodName := ⟨RX7, "keep", "(I)I"⟩
abbrev cX7_goBack : ByteArray := prog_1_method_34_code
def yX7_goBack : MethodName := ⟨RX7, "goBack", "(I)I"⟩
abbrev cX7_inTheCountry : ByteArray := prog_1_method_35_code
def yX7_inTheCountry : MethodName := ⟨RX7, "inTheCountry", "()I"⟩
abbrev cX7_dutyOf : ByteArray := prog_1_method_36_code
def yX7_dutyOf : MethodName := ⟨RX7, "dutyOf", "(I)I"⟩
abbrev cX7_stuckOnes : ByteArray := prog_1_method_37_code
def yX7_stuckOnes : MethodName := ⟨RX7, "stuckOnes", "()I"⟩
abbrev cX7_letPass : ByteArray := prog_1_method_38_code
def yX7_letPass : MethodName := ⟨RX7, "letPass", "(I)I"⟩
abbrev cX7_driftOneDay : ByteArray := prog_1_method_39_code
def yX7_driftOneDay : MethodName := ⟨RX7, "driftOneDay", "()V"⟩
abbrev cX7_draw : ByteArray := prog_1_method_40_code
def yX7_draw : MethodName := ⟨RX7, "draw", "(I)I"⟩
abbrev cX7_cheapestParts : ByteArray := prog_1_method_41_code
def yX7_cheapestParts : MethodName := ⟨RX7, "cheapestParts", "(I)I"⟩
abbrev cX7_nextOnTheWay : ByteArray := prog_1_method_42_code
def yX7_nextOnTheWay : MethodName := ⟨RX7, "nextOnTheWay", "(I)I"⟩
abbrev cX7_fewestMinutes : ByteArray := prog_1_method_43_code
def yX7_fewestMinutes : MethodName := ⟨RX7, "fewestMinutes", "(LMindDuty$Country;II)I"⟩
abbrev cX7_afterTalk : ByteArray := prog_1_method_44_code
def yX7_afterTalk : MethodName := ⟨RX7, "afterTalk", "(III)I"⟩
abbrev cX7_smallestRegister : ByteArray := prog_1_method_45_code
def yX7_smallestRegister : MethodName := ⟨RX7, "smallestRegister", "()I"⟩
abbrev cX7_needless : ByteArray := prog_1_method_46_code
def yX7_needless : MethodName := ⟨RX7, "needless", "()I"⟩
def RX8 : String := "MindDutyModel"
def TX8 : u_T := fun k => match k with
  | 0 => ("MindDutyModel", "most", "I", false)
  | 1 => ("MindDutyModel", "taken", "I", false)
  | 2 => ("MindDutyModel", "ideas", "I", false)
  | 3 => ("MindDutyModel", "size", "[I", true)
  | 4 => ("MindDutyModel", "joins", "I", false)
  | 5 => ("MindDutyModel", "joinOne", "[I", true)
  | 6 => ("MindDutyModel", "joinOther", "[I", true)
  | 7 => ("MindDutyModel", "joinTo", "[I", true)
  | 8 => ("MindDutyModel", "talks", "I", false)
  | 9 => ("MindDutyModel", "talkFrom", "[I", true)
  | 10 => ("MindDutyModel", "talkTo", "[I", true)
  | 11 => ("MindDutyModel", "talkTakes", "[I", true)
  | 12 => ("MindDutyModel", "travellers", "I", false)
  | 13 => ("MindDutyModel", "now", "[I", true)
  | 14 => ("MindDutyModel", "seed", "I", false)
  | 15 => ("MindDutyModel", "text", "[I", true)
  | 16 => ("MindDutyModel", "texted", "I", false)
  | 17 => ("MindDutyModel", "faultPlace", "I", false)
  | 18 => ("MindDutyModel", "at0", "I", false)
  | 19 => ("MindDutyModel", "number", "I", false)
  | 20 => ("MindDutyModel", "numberAt", "I", false)
  | 21 => ("MindDutyModel", "readGate", "[I", true)
  | 22 => ("MindDutyModel", "readIdeas", "I", false)
  | 23 => ("MindDutyModel", "readSize", "[I", true)
  | 24 => ("MindDutyModel", "readJoins", "I", false)
  | 25 => ("MindDutyModel", "readJoinOne", "[I", true)
  | 26 => ("MindDutyModel", "readJoinOther", "[I", true)
  | 27 => ("MindDutyModel", "readJoinTo", "[I", true)
  | 28 => ("MindDutyModel", "readTalks", "I", false)
  | 29 => ("MindDutyModel", "readTalkFrom", "[I", true)
  | 30 => ("MindDutyModel", "readTalkTo", "[I", true)
  | 31 => ("MindDutyModel", "readTalkTakes", "[I", true)
  | 32 => ("MindDutyModel", "readRegistered", "I", false)
  | 33 => ("MindDutyModel", "readTravellers", "I", false)
  | 34 => ("MindDutyModel", "readHas", "[I", true)
  | 35 => ("MindDutyModel", "undos", "I", false)
  | 36 => ("MindDutyModel", "past", "[I", true)
  | 37 => ("MindDutyModel", "minutes", "[I", true)
  | 38 => ("MindDutyModel", "asked", "I", false)
  | 39 => ("MindDutyModel", "askedSet", "[I", true)
  | 40 => ("MindDutyModel", "askedHow", "[I", true)
  | 41 => ("MindDutyModel", "askedYes", "[Z", true)
  | 42 => ("MindDutyModel", "within", "[I", true)
  | 43 => ("MindDutyModel", "booked", "I", false)
  | 44 => ("MindDutyModel", "bookWhat", "[I", true)
  | 45 => ("MindDutyModel", "bookIs", "[I", true)
  | 46 => ("MindDutyModel", "images", "[I", true)
  | _ => ("MindDutyModel", "isKept", "[Z", true)
def tyX8 : Nat → FieldType := fun k => match k with
  | 0 => .int
  | 1 => .int
  | 2 => .int
  | 3 => .array .int
  | 4 => .int
  | 5 => .array .int
  | 6 => .array .int
  | 7 => .array .int
  | 8 => .int
  | 9 => .array .int
  | 10 => .array .int
  | 11 => .array .int
  | 12 => .int
  | 13 => .array .int
  | 14 => .int
  | 15 => .array .int
  | 16 => .int
  | 17 => .int
  | 18 => .int
  | 19 => .int
  | 20 => .int
  | 21 => .array .int
  | 22 => .int
  | 23 => .array .int
  | 24 => .int
  | 25 => .array .int
  | 26 => .array .int
  | 27 => .array .int
  | 28 => .int
  | 29 => .array .int
  | 30 => .array .int
  | 31 => .array .int
  | 32 => .int
  | 33 => .int
  | 34 => .array .int
  | 35 => .int
  | 36 => .array .int
  | 37 => .array .int
  | 38 => .int
  | 39 => .array .int
  | 40 => .array .int
  | 41 => .array .boolean
  | 42 => .array .int
  | 43 => .int
  | 44 => .array .int
  | 45 => .array .int
  | 46 => .array .int
  | _ => .array .boolean
abbrev wsX80 : List Cond := u_ws RX8 TX8 48
theorem nmX8 : ∀ a, a < 48 → ∀ b, b < 48 → a ≠ b → (TX8 a).2.1 ≠ (TX8 b).2.1 := by decide +kernel
theorem tyX8_ok : ∀ k, k < 48 → parseFieldDescriptor (TX8 k).2.2.1 = some (tyX8 k) := by decide +kernel
abbrev cX8_init : ByteArray := prog_10_method_1_code
def yX8_init : MethodName := ⟨RX8, "<init>", "()V"⟩
abbrev cX8_in : ByteArray := prog_10_method_3_code
def yX8_in : MethodName := ⟨RX8, "in", "(JJJ)Z"⟩
abbrev cX8_has : ByteArray := prog_10_method_4_code
def yX8_has : MethodName := ⟨RX8, "has", "(II)Z"⟩
abbrev cX8_bits : ByteArray := prog_10_method_5_code
def yX8_bits : MethodName := ⟨RX8, "bits", "(I)I"⟩
abbrev cX8_atMost : ByteArray := prog_10_method_6_code
def yX8_atMost : MethodName := ⟨RX8, "atMost", "(I)I"⟩
abbrev cX8_isIdea : ByteArray := prog_10_method_7_code
def yX8_isIdea : MethodName := ⟨RX8, "isIdea", "(I)Z"⟩
abbrev cX8_isSet : ByteArray := prog_10_method_8_code
def yX8_isSet : MethodName := ⟨RX8, "isSet", "(I)Z"⟩
abbrev cX8_isTraveller : ByteArray := prog_10_method_9_code
def yX8_isTraveller : MethodName := ⟨RX8, "isTraveller", "(I)Z"⟩
abbrev cX8_feed : ByteArray := prog_10_method_10_code
def yX8_feed : MethodName := ⟨RX8, "feed", "(I)I"⟩
abbrev cX8_here : ByteArray := prog_10_method_11_code
def yX8_here : MethodName := ⟨RX8, "here", "()I"⟩
abbrev cX8_fails : ByteArray := prog_10_method_12_code
def yX8_fails : MethodName := ⟨RX8, "fails", "(II)I"⟩
abbrev cX8_takeNumber : ByteArray := prog_10_method_13_code
def yX8_takeNumber : MethodName := ⟨RX8, "takeNumber", "(II)I"⟩
abbrev cX8_into : ByteArray := prog_10_method_14_code
def yX8_into : MethodName := ⟨RX8, "into", "([IIII)I"⟩
abbrev cX8_takeGate : ByteArray := prog_10_method_15_code
def yX8_takeGate : MethodName := ⟨RX8, "takeGate", "()I"⟩
abbrev cX8_takeIdea : ByteArray := prog_10_method_16_code
def yX8_takeIdea : MethodName := ⟨RX8, "takeIdea", "()I"⟩
abbrev cX8_takeJoin : ByteArray := prog_10_method_17_code
def yX8_takeJoin : MethodName := ⟨RX8, "takeJoin", "()I"⟩
abbrev cX8_takeTalk : ByteArray := prog_10_method_18_code
def yX8_takeTalk : MethodName := ⟨RX8, "takeTalk", "()I"⟩
abbrev cX8_takeRegistered : ByteArray := prog_10_method_19_code
def yX8_takeRegistered : MethodName := ⟨RX8, "takeRegistered", "()I"⟩
abbrev cX8_takeTraveller : ByteArray := prog_10_method_20_code
def yX8_takeTraveller : MethodName := ⟨RX8, "takeTraveller", "()I"⟩
abbrev cX8_whichClause : ByteArray := prog_10_method_21_code
def yX8_whichClause : MethodName := ⟨RX8, "whichClause", "(I)I"⟩
abbrev cX8_isFull : ByteArray := prog_10_method_22_code
def yX8_isFull : MethodName := ⟨RX8, "isFull", "(I)Z"⟩
abbrev cX8_takeBody : ByteArray := prog_10_method_23_code
def yX8_takeBody : MethodName := ⟨RX8, "takeBody", "(I)I"⟩
abbrev cX8_takeClause : ByteArray := prog_10_method_24_code
def yX8_takeClause : MethodName := ⟨RX8, "takeClause", "()I"⟩
abbrev cX8_takeRead : ByteArray := prog_10_method_25_code
def yX8_takeRead : MethodName := ⟨RX8, "takeRead", "()V"⟩
abbrev cX8_thePass : ByteArray := prog_10_method_26_code
def yX8_thePass : MethodName := ⟨RX8, "thePass", "()I"⟩
abbrev cX8_fault : ByteArray := prog_10_method_27_code
def yX8_fault : MethodName := ⟨RX8, "fault", "()I"⟩
abbrev cX8_close : ByteArray := prog_10_method_28_code
def yX8_close : MethodName := ⟨RX8, "close", "(I)I"⟩
abbrev cX8_sizeOf : ByteArray := prog_10_method_29_code
def yX8_sizeOf : MethodName := ⟨RX8, "sizeOf", "(I)I"⟩
abbrev cX8_owedWhere : ByteArray := prog_10_method_30_code
def yX8_owedWhere : MethodName := ⟨RX8, "owedWhere", "(II)I"⟩
abbrev cX8_owedFor : ByteArray := prog_10_method_31_code
def yX8_owedFor : MethodName := ⟨RX8, "owedFor", "(I)I"⟩
abbrev cX8_isGone : ByteArray := prog_10_method_32_code
def yX8_isGone : MethodName := ⟨RX8, "isGone", "(I)Z"⟩
abbrev cX8_isStuck : ByteArray := prog_10_method_33_code
def yX8_isStuck : MethodName := ⟨RX8, "isStuck", "(I)Z"⟩
abbrev cX8_stuckOnes : ByteArray := prog_10_method_34_code
def yX8_stuckOnes : MethodName := ⟨RX8, "stuckOnes", "()I"⟩
abbrev cX8_told : ByteArray := prog_10_method_35_code
def yX8_told : MethodName := ⟨RX8, "told", "(I)I"⟩
abbrev cX8_size : ByteArray := prog_10_method_36_code
def yX8_size : MethodName := ⟨RX8, "size", "(I)I"⟩
abbrev cX8_traveller : ByteArray := prog_10_method_37_code
def yX8_traveller : MethodName := ⟨RX8, "traveller", "(II)I"⟩
abbrev cX8_remember : ByteArray := prog_10_method_38_code
def yX8_remember : MethodName := ⟨RX8, "remember", "()V"⟩
abbrev cX8_passNow : ByteArray := prog_10_method_39_code
def yX8_passNow : MethodName := ⟨RX8, "passNow", "(I)I"⟩
abbrev cX8_pass : ByteArray := prog_10_method_40_code
def yX8_pass : MethodName := ⟨RX8, "pass", "(I)I"⟩
abbrev cX8_roundNow : ByteArray := prog_10_method_41_code
def yX8_roundNow : MethodName := ⟨RX8, "roundNow", "(IZ)I"⟩
abbrev cX8_goRound : ByteArray := prog_10_method_42_code
def yX8_goRound : MethodName := ⟨RX8, "goRound", "(IZ)I"⟩
abbrev cX8_quickest : ByteArray := prog_10_method_43_code
def yX8_quickest : MethodName := ⟨RX8, "quickest", "(II)I"⟩
abbrev cX8_talked : ByteArray := prog_10_method_44_code
def yX8_talked : MethodName := ⟨RX8, "talked", "(III)I"⟩
abbrev cX8_talk : ByteArray := prog_10_method_45_code
def yX8_talk : MethodName := ⟨RX8, "talk", "(III)I"⟩
abbrev cX8_come : ByteArray := prog_10_method_46_code
def yX8_come : MethodName := ⟨RX8, "come", "(II)I"⟩
abbrev cX8_register : ByteArray := prog_10_method_47_code
def yX8_register : MethodName := ⟨RX8, "register", "(IZ)I"⟩
abbrev cX8_draw : ByteArray := prog_10_method_48_code
def yX8_draw : MethodName := ⟨RX8, "draw", "(I)I"⟩
abbrev cX8_dayByDraws : ByteArray := prog_10_method_49_code
def yX8_dayByDraws : MethodName := ⟨RX8, "dayByDraws", "()V"⟩
abbrev cX8_drift : ByteArray := prog_10_method_50_code
def yX8_drift : MethodName := ⟨RX8, "drift", "(I)I"⟩
abbrev cX8_undo : ByteArray := prog_10_method_51_code
def yX8_undo : MethodName := ⟨RX8, "undo", "()I"⟩
abbrev cX8_follows : ByteArray := prog_10_method_52_code
def yX8_follows : MethodName := ⟨RX8, "follows", "(I)I"⟩
abbrev cX8_owed : ByteArray := prog_10_method_53_code
def yX8_owed : MethodName := ⟨RX8, "owed", "(I)I"⟩
abbrev cX8_parts : ByteArray := prog_10_method_54_code
def yX8_parts : MethodName := ⟨RX8, "parts", "(II)I"⟩
abbrev cX8_findMinutes : ByteArray := prog_10_method_55_code
def yX8_findMinutes : MethodName := ⟨RX8, "findMinutes", "(I)V"⟩
abbrev cX8_talkDown : ByteArray := prog_10_method_56_code
def yX8_talkDown : MethodName := ⟨RX8, "talkDown", "(III)I"⟩
abbrev cX8_minutesOf : ByteArray := prog_10_method_57_code
def yX8_minutesOf : MethodName := ⟨RX8, "minutesOf", "(II)I"⟩
abbrev cX8_soonest : ByteArray := prog_10_method_58_code
def yX8_soonest : MethodName := ⟨RX8, "soonest", "(I)I"⟩
abbrev cX8_smallestSet : ByteArray := prog_10_method_59_code
def yX8_smallestSet : MethodName := ⟨RX8, "smallestSet", "()I"⟩
abbrev cX8_needless : ByteArray := prog_10_method_60_code
def yX8_needless : MethodName := ⟨RX8, "needless", "()I"⟩
abbrev cX8_smallest : ByteArray := prog_10_method_61_code
def yX8_smallest : MethodName := ⟨RX8, "smallest", "(I)I"⟩
abbrev cX8_better : ByteArray := prog_10_method_62_code
def yX8_better : MethodName := ⟨RX8, "better", "(II)I"⟩
abbrev cX8_gains : ByteArray := prog_10_method_63_code
def yX8_gains : MethodName := ⟨RX8, "gains", "(II)I"⟩
abbrev cX8_free : ByteArray := prog_10_method_64_code
def yX8_free : MethodName := ⟨RX8, "free", "()I"⟩
abbrev cX8_share : ByteArray := prog_10_method_65_code
def yX8_share : MethodName := ⟨RX8, "share", "(I)I"⟩
abbrev cX8_glacier : ByteArray := prog_10_method_66_code
def yX8_glacier : MethodName := ⟨RX8, "glacier", "(I)I"⟩
abbrev cX8_ask : ByteArray := prog_10_method_67_code
def yX8_ask : MethodName := ⟨RX8, "ask", "(IIZ)I"⟩
abbrev cX8_answers : ByteArray := prog_10_method_68_code
def yX8_answers : MethodName := ⟨RX8, "answers", "(III)Z"⟩
abbrev cX8_couldBe : ByteArray := prog_10_method_69_code
def yX8_couldBe : MethodName := ⟨RX8, "couldBe", "(I)Z"⟩
abbrev cX8_minds : ByteArray := prog_10_method_70_code
def yX8_minds : MethodName := ⟨RX8, "minds", "(I)I"⟩
abbrev cX8_askNext : ByteArray := prog_10_method_71_code
def yX8_askNext : MethodName := ⟨RX8, "askNext", "()I"⟩
abbrev cX8_write : ByteArray := prog_10_method_72_code
def yX8_write : MethodName := ⟨RX8, "write", "(II)I"⟩
abbrev cX8_tear : ByteArray := prog_10_method_73_code
def yX8_tear : MethodName := ⟨RX8, "tear", "()I"⟩
abbrev cX8_judge : ByteArray := prog_10_method_74_code
def yX8_judge : MethodName := ⟨RX8, "judge", "()I"⟩
abbrev cX8_seed : ByteArray := prog_10_method_75_code
def yX8_seed : MethodName := ⟨RX8, "seed", "(I)I"⟩
abbrev cX8_keep : ByteArray := prog_10_method_76_code
def yX8_keep : MethodName := ⟨RX8, "keep", "(I)I"⟩
abbrev cX8_goBack : ByteArray := prog_10_method_77_code
def yX8_goBack : MethodName := ⟨RX8, "goBack", "(I)I"⟩
def RJ6 : String := "java/lang/Integer"
def TJ6 : u_T := fun k => match k with
  | _ => ("", "", "", false)
def tyJ6 : Nat → FieldType := fun k => match k with
  | _ => .int
abbrev wsJ60 : List Cond := u_ws RJ6 TJ6 0
theorem nmJ6 : ∀ a, a < 0 → ∀ b, b < 0 → a ≠ b → (TJ6 a).2.1 ≠ (TJ6 b).2.1 := by decide +kernel
theorem tyJ6_ok : ∀ k, k < 0 → parseFieldDescriptor (TJ6 k).2.2.1 = some (tyJ6 k) := by decide +kernel
abbrev cJ6_bitCount_0f7a4 : ByteArray := prog_11_method_49_code
def yJ6_bitCount_0f7a4 : MethodName := ⟨RJ6, "bitCount", "(I)I"⟩
def RJ9 : String := "java/lang/Math"
def TJ9 : u_T := fun k => match k with
  | _ => ("", "", "", false)
def tyJ9 : Nat → FieldType := fun k => match k with
  | _ => .int
abbrev wsJ90 : List Cond := u_ws RJ9 TJ9 0
theorem nmJ9 : ∀ a, a < 0 → ∀ b, b < 0 → a ≠ b → (TJ9 a).2.1 ≠ (TJ9 b).2.1 := by decide +kernel
theorem tyJ9_ok : ∀ k, k < 0 → parseFieldDescriptor (TJ9 k).2.2.1 = some (tyJ9 k) := by decide +kernel
abbrev cJ9_max_7cf53 : ByteArray := prog_12_method_65_code
def yJ9_max_7cf53 : MethodName := ⟨RJ9, "max", "(II)I"⟩
abbrev cJ9_min_7cf53 : ByteArray := prog_12_method_69_code
def yJ9_min_7cf53 : MethodName := ⟨RJ9, "min", "(II)I"⟩
def RL : String := "MindDutyLaw"
abbrev cL_law : ByteArray := code
def yL_law : MethodName := ⟨RL, "law", "([I)Z"⟩
abbrev vwCl : List vw_C := [(RX0, TX0, 3), (RX1, TX1, 17), (RX2, TX2, 3), (RX3, TX3, 3), (RX4, TX4, 5), (RX5, TX5, 8), (RX6, TX6, 7), (RX7, TX7, 9), (RX8, TX8, 48)]
theorem inX0 : ∀ w ∈ u_ws RX0 TX0 3, w ∈ lw_tbl := by decide +kernel
theorem inX1 : ∀ w ∈ u_ws RX1 TX1 17, w ∈ lw_tbl := by decide +kernel
theorem inX2 : ∀ w ∈ u_ws RX2 TX2 3, w ∈ lw_tbl := by decide +kernel
theorem inX3 : ∀ w ∈ u_ws RX3 TX3 3, w ∈ lw_tbl := by decide +kernel
theorem inX4 : ∀ w ∈ u_ws RX4 TX4 5, w ∈ lw_tbl := by decide +kernel
theorem inX5 : ∀ w ∈ u_ws RX5 TX5 8, w ∈ lw_tbl := by decide +kernel
theorem inX6 : ∀ w ∈ u_ws RX6 TX6 7, w ∈ lw_tbl := by decide +kernel
theorem inX7 : ∀ w ∈ u_ws RX7 TX7 9, w ∈ lw_tbl := by decide +kernel
theorem inX8 : ∀ w ∈ u_ws RX8 TX8 48, w ∈ lw_tbl := by decide +kernel
end
section
/-! the sealed layer: a plain memory, one judgement, a rule an instruction -/
/-- the tables' words that stay as they are -/
def lw_ok : List Cond := lw_tbl.filter goodWord
theorem lw_ok_of {w : Cond} (i : Nat) (h : lw_tbl[i]? = some w) (g : goodWord w = true) : w ∈ lw_ok := List.mem_filter.mpr ⟨List.mem_of_getElem? h, g⟩
theorem lw_ok_in {w : Cond} (h : w ∈ lw_ok) : w ∈ lw_tbl := (List.mem_filter.mp h).1
abbrev Mm : Type := Nat → Nat → Int32
/-- a cell's shape: an object (class, a mark a field: 0 a number, 1 that cell for ever, 2 one of the two countries, 3 null); an array (0 ints, 1 booleans, 2 posts; length; first cell; how many are set) -/
abbrev Sh : Type := (Nat × List (Nat × Nat)) ⊕ (Nat × Nat × Nat × Nat)
abbrev Kx : Type := Launch × va_G × (ClassId × ClassId × ClassId) × Nat
abbrev Yx : Type := Program × Env × Room × State × MethodId × Array Value × List Frame × Method × Code × (State → Prop) × Nat
def md_up (h : Mm) (k j : Nat) (v : Int32) : Mm := fun a => if a = k then upd (h k) j v else h a
def md_dx (v : Int32) : Nat := if v = 0 then 3 else 74
def md_ex (c : Nat) : Int32 := if c = 3 then 0 else 1
def md_in (i : Int32) (n : Nat) : Bool := !(decide (i < 0)) && decide (i.toNatClampNeg < n)
def md_bi (v : Bool) : Int32 := if v = true then 1 else 0
def md_bd {α β : Type} (F : Option α) (k : α → Option β) : Option β := F.bind k
def md_b2 {α γ β : Type} (F : Option (α × γ)) (k : α → γ → Option β) : Option β := F.bind (fun q => k q.1 q.2)
def md_b3 {α γ δ β : Type} (F : Option (α × γ × δ)) (k : α → γ → δ → Option β) : Option β := F.bind (fun q => k q.1 q.2.1 q.2.2)
def md_b4 {α γ δ ε β : Type} (F : Option (α × γ × δ × ε)) (k : α → γ → δ → ε → Option β) : Option β := F.bind (fun q => k q.1 q.2.1 q.2.2.1 q.2.2.2)
def md_b5 {α γ δ ε ζ β : Type} (F : Option (α × γ × δ × ε × ζ)) (k : α → γ → δ → ε → ζ → Option β) : Option β := F.bind (fun q => k q.1 q.2.1 q.2.2.1 q.2.2.2.1 q.2.2.2.2)
def md_bS {α γ β : Type} (F : Option (α ⊕ γ)) (k1 : α → Option β) (k2 : γ → Option β) : Option β := F.bind (fun q => match q with
  | .inl a => k1 a
  | .inr a => k2 a)
def md_lt {α β : Type} (v : α) (k : α → Option β) : Option β := k v
def md_ck {α : Type} (c : Bool) (E : Option α) : Option α := if c = true then E else none
def mj_O {α : Type} (E : Option α) (P : α → Prop) : Prop := ∃ v, E = some v ∧ P v
def kb (K : Kx) : Nat := K.2.2.2
def kt (K : Kx) : List (ClassId × FieldType) := [(K.2.2.1.1, .int), (K.2.2.1.2.1, .boolean), (K.2.2.1.2.2, .object RX4)]
def rf (K : Kx) (k : Nat) : Value := .ref (kb K + k)
def fv (K : Kx) (h : Mm) (k j : Nat) (d : Nat × Nat) : Value := match d.1 with
  | 0 => .int (h k j)
  | 1 => rf K d.2
  | 2 => rf K (md_dx (h k j))
  | _ => .null
def ce (K : Kx) (h : Mm) (k : Nat) (sh : Sh) : va_E := match sh with
  | .inl o => .inr (o.1, o.2.mapIdx (fun j d => fv K h k j d))
  | .inr a => match a.1 with
    | 0 => .inl (K.2.2.1.1, a.2.1, .inl (h k))
    | 1 => .inl (K.2.2.1.2.1, a.2.1, .inl (h k))
    | _ => .inl (K.2.2.1.2.2, a.2.1, .inr (.inr (.inr (.inr (fun j => if j < a.2.2.2 then some (kb K + (a.2.2.1 + 2 * j)) else none)))))
def wl (SH : List Sh) (K : Kx) (h : Mm) : va_W := SH.mapIdx (fun k sh => (kb K + k, ce K h k sh))
theorem wl_at {SH : List Sh} {K : Kx} {h : Mm} {k : Nat} {sh : Sh} (hs : SH[k]? = some sh) : (wl SH K h)[k]? = some (kb K + k, ce K h k sh) := by
  simp [wl, List.getElem?_mapIdx, hs]
theorem wl_len (SH : List Sh) (K : Kx) (h : Mm) : (wl SH K h).length = SH.length := by simp [wl]
theorem wl_of {SH : List Sh} {K : Kx} {h : Mm} {k : Nat} {q : Nat × va_E} (hq : (wl SH K h)[k]? = some q) : ∃ sh, SH[k]? = some sh ∧ q = (kb K + k, ce K h k sh) := by
  simp only [wl, List.getElem?_mapIdx, Option.map_eq_some_iff] at hq
  obtain ⟨sh, h1, h2⟩ := hq
  exact ⟨sh, h1, h2.symm⟩
theorem wl_D (SH : List Sh) (K : Kx) (h : Mm) : va_D (fun q => kb K ≤ q) (wl SH K h) := by
  refine ⟨fun i j p q hi hj hpq => ?_, fun k q hk => ?_⟩
  · obtain ⟨_, -, rfl⟩ := wl_of hi
    obtain ⟨_, -, rfl⟩ := wl_of hj
    exact Nat.add_left_cancel hpq
  · obtain ⟨_, -, rfl⟩ := wl_of hk
    exact Nat.le_add_right _ _
theorem up_s (h : Mm) (k j : Nat) (v : Int32) : md_up h k j v k = upd (h k) j v := by simp [md_up]
theorem up_n (h : Mm) {k a : Nat} (j : Nat) (v : Int32) (ha : a ≠ k) : md_up h k j v a = h a := by simp [md_up, ha]
theorem ce_n (K : Kx) (h : Mm) {k a : Nat} (j : Nat) (v : Int32) (ha : a ≠ k) (sh : Sh) : ce K (md_up h k j v) a sh = ce K h a sh := by
  have e : md_up h k j v a = h a := up_n h j v ha
  cases sh with
  | inl o => simp only [ce, fv, e]
  | inr x => simp only [ce, e]
theorem wl_set {SH : List Sh} {K : Kx} {h : Mm} {k j : Nat} {v : Int32} {sh : Sh} {x : va_E} (hs : SH[k]? = some sh) (hx : ce K (md_up h k j v) k sh = x) : (wl SH K h).set k (kb K + k, x) = wl SH K (md_up h k j v) := by
  have hl : k < SH.length := (List.getElem?_eq_some_iff.mp hs).1
  apply List.ext_getElem?
  intro i
  by_cases hi : i = k
  · subst hi
    rw [List.getElem?_set_self (by rw [wl_len]; exact hl), wl_at hs, hx]
  · rw [List.getElem?_set_ne (Ne.symm hi)]
    simp only [wl, List.getElem?_mapIdx]
    cases SH[i]? with
    | none => rfl
    | some s2 => simp only [Option.map_some, ce_n K h j v hi]
theorem ce_int {K : Kx} {h : Mm} {k j ci : Nat} {v : Int32} {ks : List (Nat × Nat)} {z : Nat} (hk : ks[j]? = some (0, z)) : ce K (md_up h k j v) k (.inl (ci, ks)) = .inr (ci, (ks.mapIdx (fun j d => fv K h k j d)).set j (.int v)) := by
  simp only [ce, up_s, Sum.inr.injEq, Prod.mk.injEq, true_and]
  have hl : j < ks.length := (List.getElem?_eq_some_iff.mp hk).1
  apply List.ext_getElem?
  intro i
  by_cases hi : i = j
  · subst hi
    rw [List.getElem?_set_self (by simpa using hl)]
    simp [List.getElem?_mapIdx, hk, fv, up_s, upd]
  · rw [List.getElem?_set_ne (Ne.symm hi)]
    simp only [List.getElem?_mapIdx]
    cases ks[i]? with
    | none => rfl
    | some d => simp [fv, up_s, upd, hi]
theorem ce_ref {K : Kx} {h : Mm} {k j ci c : Nat} {ks : List (Nat × Nat)} {z : Nat} (hk : ks[j]? = some (2, z)) (hc : md_dx (md_ex c) = c) : ce K (md_up h k j (md_ex c)) k (.inl (ci, ks)) = .inr (ci, (ks.mapIdx (fun j d => fv K h k j d)).set j (rf K c)) := by
  simp only [ce, up_s, Sum.inr.injEq, Prod.mk.injEq, true_and]
  have hl : j < ks.length := (List.getElem?_eq_some_iff.mp hk).1
  apply List.ext_getElem?
  intro i
  by_cases hi : i = j
  · subst hi
    rw [List.getElem?_set_self (by simpa using hl)]
    simp [List.getElem?_mapIdx, hk, fv, up_s, upd, hc]
  · rw [List.getElem?_set_ne (Ne.symm hi)]
    simp only [List.getElem?_mapIdx]
    cases ks[i]? with
    | none => rfl
    | some d => simp [fv, up_s, upd, hi]
theorem md_in_vp {i : Int32} {n : Nat} (h : md_in i n = true) : vp_in i n := by
  simp only [md_in, Bool.and_eq_true, Bool.not_eq_true', decide_eq_false_iff_not, decide_eq_true_eq] at h
  intro q
  rcases q with q | q
  · exact h.1 q
  · omega
theorem md_bi_nar (v : Bool) : vp_nar .boolean (md_bi v) = md_bi v := by cases v <;> rfl
theorem md_bi_narrow (v : Bool) : narrow .boolean (.int (md_bi v)) = .int (md_bi v) := by cases v <;> rfl
theorem md_bi_0 (v : Bool) : md_bi v = 0 ↔ v = false := by cases v <;> decide
/-- the room of a method: frames, locals -/
def rmo (f lo : Nat) : Room := { frames := f, cells := 0, slots := 0, locals := lo }
def J (SH : List Sh) (K : Kx) (Y : Yx) (cs : Nat × Nat) (X : Prop) (pc : Nat) (ls : List (Nat × Value)) (st : List Value) (h : Mm) : Prop := match Y with
  | (p, e, R, s, m, args, below, meth, c, Q, nL) => X → ∀ (H : Heap) (locs : List Loc) (la : Array Slot), va_P K.2.1 vwCl (wl SH K h) H → va_S (fun q => kb K ≤ q) s.heap H locs → lv_has la nL ls → W p K.1 e R s m args below meth c H locs cs.1 cs.2 Q (F0 m pc la st)
def Cx (K : Kx) (Y : Yx) (cs : Nat × Nat) (cc : ByteArray) (own : String) (mL f lo : Nat) : Prop := match Y with
  | (p, e, R, s, m, args, below, meth, c, Q, nL) => p.tables.exec = Jvm.exec ∧ c.code = cc ∧ c.maxLocals = nL ∧ s.vm.findClass own = some m.cls ∧ (∀ w ∈ lw_ok, w.before args s = true) ∧ va_K K.2.1 vwCl (kt K) s ∧ cs.1 ≤ R.cells ∧ cs.2 ≤ R.slots ∧ f ≤ R.frames ∧ lo ≤ R.locals ∧ nL = mL
def Qj (SH : List Sh) (K : Kx) (rv : Option Value) (h : Mm) : Array Value → State → Outcome → State → Prop := fun _ st o t => o = .returned rv ∧ va_P K.2.1 vwCl (wl SH K h) t.heap ∧ va_F (fun q => kb K ≤ q) st t
def En (SH : List Sh) (K : Kx) (Y : Yx) (rv : Option Value) (h : Mm) (rt : Option FieldType) : Prop := match Y with
  | (p, e, R, s, m, args, below, meth, c, Q, nL) => Q = MQ below (Qj SH K rv h) args s 0 0 (fun q => kb K ≤ q) ∧ meth.sig.returnType = rt ∧ meth.locks = false
def Mt (K : Kx) (y : MethodName) (bs : ByteArray) (mL : Nat) (rt : Option FieldType) (f lo : Nat) (SH : List Sh) (av : List Value) (h : Mm) (rv : Option Value) (h' : Mm) : Prop :=
  Met K.1 y (.code y bs mL rt :: lw_ok) (rmo f lo) (va_Pc av (fun U => va_P K.2.1 vwCl (wl SH K h) U.heap ∧ va_K K.2.1 vwCl (kt K) U)) (Qj SH K rv h') 0 0 (fun q => kb K ≤ q)
theorem Mt.of {K : Kx} {y : MethodName} {bs : ByteArray} {mL : Nat} {rt : Option FieldType} {f lo : Nat} {SH : List Sh} {av : List Value} {h h' : Mm} {rv : Option Value} {α : Type} {F : Option α} {a : α} (hF : F = some a) (ls : List (Nat × Value)) (hy : plainName y.cls = true) (hav : (lg_sl av).length ≤ mL) (hls : lv_args 0 av = ls)
    (body : ∀ Y : Yx, Cx K Y (0, 0) bs y.cls mL f lo → En SH K Y rv h' rt → J SH K Y (0, 0) (mj_O F (fun v => v = a)) 0 ls [] h) : Mt K y bs mL rt f lo SH av h rv h' := by
  refine Met.ofW (cc := bs) (maxL := mL) (ret := rt) hy rfl ?_
  intro p e s m args below meth c s₁ B hml hv
  obtain ⟨rfl, hP, hK⟩ := hv
  have hts := atoms_spec (ws := .code y bs mL rt :: lw_ok) B.pre
  have hown : s.vm.findClass y.cls = some m.cls := findClass_of_methodNamed B.named
  have k := body (p, e, (headSpec (.code y bs mL rt :: lw_ok) (rmo f lo)).room, s, m, av.toArray, below, meth, c, MQ below (Qj SH K rv h') av.toArray s 0 0 (fun q => kb K ≤ q), mL) ⟨B.exec, B.bytes, hml, hown, fun w hw => hts w (List.mem_cons_of_mem _ hw), hK, Nat.le_refl _, Nat.le_refl _, Nat.le_refl _, Nat.le_refl _, rfl⟩ ⟨rfl, B.returns, B.notSynchronized⟩ ⟨a, hF, rfl⟩
  have hl := lv_entry av (n := mL) hav
  rw [lg_entry_eq]
  rw [hls] at hl
  exact k s.heap [] _ hP va_S.rf hl
/-- structure rules -/
theorem mj_sub {SH : List Sh} {K : Kx} {Y : Yx} {cs : Nat × Nat} {X : Prop} {pc : Nat} {ls ls' : List (Nat × Value)} {st : List Value} {h : Mm} (ks : List Nat) (hl : lv_pick ls ks = ls') (kk : J SH K Y cs X pc ls' st h) : J SH K Y cs X pc ls st h := by
  obtain ⟨p, e, R, s, m, args, below, meth, c, Q, nL⟩ := Y
  intro hX H locs la hP hS hL
  exact kk hX H locs la hP hS (lv_sub hL ks hl)
theorem mj_X {SH : List Sh} {K : Kx} {Y : Yx} {cs : Nat × Nat} {X X' : Prop} {pc : Nat} {ls : List (Nat × Value)} {st : List Value} {h : Mm} (hx : X → X') (kk : J SH K Y cs X' pc ls st h) : J SH K Y cs X pc ls st h := by
  obtain ⟨p, e, R, s, m, args, below, meth, c, Q, nL⟩ := Y
  intro hX
  exact kk (hx hX)
theorem mj_use {SH : List Sh} {K : Kx} {Y : Yx} {cs : Nat × Nat} {X : Prop} {pc : Nat} {ls : List (Nat × Value)} {st : List Value} {h : Mm} (kk : X → J SH K Y cs True pc ls st h) : J SH K Y cs X pc ls st h := by
  obtain ⟨p, e, R, s, m, args, below, meth, c, Q, nL⟩ := Y
  intro hX
  exact kk hX trivial
theorem mj_none {SH : List Sh} {K : Kx} {Y : Yx} {cs : Nat × Nat} {pc : Nat} {ls : List (Nat × Value)} {st : List Value} {h : Mm} {α : Type} {P : α → Prop} : J SH K Y cs (mj_O none P) pc ls st h := by
  obtain ⟨p, e, R, s, m, args, below, meth, c, Q, nL⟩ := Y
  intro hX
  obtain ⟨v, h1, -⟩ := hX
  cases h1
theorem mj_some {SH : List Sh} {K : Kx} {Y : Yx} {cs : Nat × Nat} {pc : Nat} {ls : List (Nat × Value)} {st : List Value} {h : Mm} {α : Type} {P : α → Prop} {v : α} (kk : J SH K Y cs (P v) pc ls st h) : J SH K Y cs (mj_O (some v) P) pc ls st h := mj_X (fun ⟨w, h1, h2⟩ => by cases h1; exact h2) kk
theorem mj_bd {SH : List Sh} {K : Kx} {Y : Yx} {cs : Nat × Nat} {pc : Nat} {ls : List (Nat × Value)} {st : List Value} {h : Mm} {α β : Type} {P : β → Prop} {F : Option α} {k : α → Option β} (kk : J SH K Y cs (mj_O F (fun v => mj_O (k v) P)) pc ls st h) : J SH K Y cs (mj_O (md_bd F k) P) pc ls st h := mj_X (fun ⟨w, h1, h2⟩ => by
  cases F with
  | none => simp [md_bd] at h1
  | some a => exact ⟨a, rfl, w, h1, h2⟩) kk
theorem mj_b2 {SH : List Sh} {K : Kx} {Y : Yx} {cs : Nat × Nat} {pc : Nat} {ls : List (Nat × Value)} {st : List Value} {h : Mm} {α γ β : Type} {P : β → Prop} {F : Option (α × γ)} {k : α → γ → Option β} (kk : J SH K Y cs (mj_O F (fun v => mj_O (k v.1 v.2) P)) pc ls st h) : J SH K Y cs (mj_O (md_b2 F k) P) pc ls st h := mj_X (fun ⟨w, h1, h2⟩ => by
  cases F with
  | none => simp [md_b2] at h1
  | some a => exact ⟨a, rfl, w, h1, h2⟩) kk
theorem mj_b3 {SH : List Sh} {K : Kx} {Y : Yx} {cs : Nat × Nat} {pc : Nat} {ls : List (Nat × Value)} {st : List Value} {h : Mm} {α γ δ β : Type} {P : β → Prop} {F : Option (α × γ × δ)} {k : α → γ → δ → Option β} (kk : J SH K Y cs (mj_O F (fun v => mj_O (k v.1 v.2.1 v.2.2) P)) pc ls st h) : J SH K Y cs (mj_O (md_b3 F k) P) pc ls st h := mj_X (fun ⟨w, h1, h2⟩ => by
  cases F with
  | none => simp [md_b3] at h1
  | some a => exact ⟨a, rfl, w, h1, h2⟩) kk
theorem mj_b4 {SH : List Sh} {K : Kx} {Y : Yx} {cs : Nat × Nat} {pc : Nat} {ls : List (Nat × Value)} {st : List Value} {h : Mm} {α γ δ ε β : Type} {P : β → Prop} {F : Option (α × γ × δ × ε)} {k : α → γ → δ → ε → Option β} (kk : J SH K Y cs (mj_O F (fun v => mj_O (k v.1 v.2.1 v.2.2.1 v.2.2.2) P)) pc ls st h) : J SH K Y cs (mj_O (md_b4 F k) P) pc ls st h := mj_X (fun ⟨w, h1, h2⟩ => by
  cases F with
  | none => simp [md_b4] at h1
  | some a => exact ⟨a, rfl, w, h1, h2⟩) kk
theorem mj_b5 {SH : List Sh} {K : Kx} {Y : Yx} {cs : Nat × Nat} {pc : Nat} {ls : List (Nat × Value)} {st : List Value} {h : Mm} {α γ δ ε ζ β : Type} {P : β → Prop} {F : Option (α × γ × δ × ε × ζ)} {k : α → γ → δ → ε → ζ → Option β} (kk : J SH K Y cs (mj_O F (fun v => mj_O (k v.1 v.2.1 v.2.2.1 v.2.2.2.1 v.2.2.2.2) P)) pc ls st h) : J SH K Y cs (mj_O (md_b5 F k) P) pc ls st h := mj_X (fun ⟨w, h1, h2⟩ => by
  cases F with
  | none => simp [md_b5] at h1
  | some a => exact ⟨a, rfl, w, h1, h2⟩) kk
def mj_P2 {α γ β : Type} (k1 : α → Option β) (k2 : γ → Option β) (P : β → Prop) : α ⊕ γ → Prop := fun q => match q with
  | .inl a => mj_O (k1 a) P
  | .inr a => mj_O (k2 a) P
theorem mj_bS {SH : List Sh} {K : Kx} {Y : Yx} {cs : Nat × Nat} {pc : Nat} {ls : List (Nat × Value)} {st : List Value} {h : Mm} {α γ β : Type} {P : β → Prop} {F : Option (α ⊕ γ)} {k1 : α → Option β} {k2 : γ → Option β} (kk : J SH K Y cs (mj_O F (mj_P2 k1 k2 P)) pc ls st h) : J SH K Y cs (mj_O (md_bS F k1 k2) P) pc ls st h := mj_X (fun ⟨w, h1, h2⟩ => by
  cases F with
  | none => simp [md_bS] at h1
  | some a => cases a with
    | inl a => exact ⟨_, rfl, w, h1, h2⟩
    | inr a => exact ⟨_, rfl, w, h1, h2⟩) kk
theorem mj_lt {SH : List Sh} {K : Kx} {Y : Yx} {cs : Nat × Nat} {pc : Nat} {ls : List (Nat × Value)} {st : List Value} {h : Mm} {α β : Type} {P : β → Prop} {v : α} {k : α → Option β} (kk : J SH K Y cs (mj_O (k v) P) pc ls st h) : J SH K Y cs (mj_O (md_lt v k) P) pc ls st h := kk
theorem mj_ckU {SH : List Sh} {K : Kx} {Y : Yx} {cs : Nat × Nat} {pc : Nat} {ls : List (Nat × Value)} {st : List Value} {h : Mm} {α : Type} {P : α → Prop} {c : Bool} {E : Option α} (kk : c = true → J SH K Y cs (mj_O E P) pc ls st h) : J SH K Y cs (mj_O (md_ck c E) P) pc ls st h := by
  cases c with
  | true => exact mj_X (fun q => q) (kk rfl)
  | false => exact mj_X (fun q => by simpa [md_ck] using q) (mj_none (P := P))
section MJ
variable {SH : List Sh} {K : Kx} {Y : Yx} {cs : Nat × Nat} {X : Prop} {pc : Nat} {ls : List (Nat × Value)} {st : List Value} {h : Mm} {cc : ByteArray} {own : String} {mL f lo : Nat}
theorem mj_iload_n (C : Cx K Y cs cc own mL f lo) {k : Fin 4} {i : Nat} {x : Int32} (q : Nat) (hd : decode cc pc = .ok (.iload_n k, 1)) (hi : (k : Nat) = i) (hk : ls[q]? = some (i, .int x)) (kk : J SH K Y cs X (pc + 1) ls (.int x :: st) h) : J SH K Y cs X pc ls (st) h := by
  obtain ⟨p, e, R, s, m, args, below, meth, c, Q, nL⟩ := Y
  obtain ⟨hx, hb, hml, hown, hts, hK, hce, hcs, hfr, hlo, hnl⟩ := C
  intro hX H locs la hP hS hL
  exact lv_iload_n hx hb hd hi (lv_at hL q hk) (kk hX H locs la hP hS hL)
theorem mj_lload_n (C : Cx K Y cs cc own mL f lo) {k : Fin 4} {i : Nat} {x : Int64} (q : Nat) (hd : decode cc pc = .ok (.lload_n k, 1)) (hi : (k : Nat) = i) (hk : ls[q]? = some (i, .long x)) (kk : J SH K Y cs X (pc + 1) ls (.long x :: st) h) : J SH K Y cs X pc ls (st) h := by
  obtain ⟨p, e, R, s, m, args, below, meth, c, Q, nL⟩ := Y
  obtain ⟨hx, hb, hml, hown, hts, hK, hce, hcs, hfr, hlo, hnl⟩ := C
  intro hX H locs la hP hS hL
  exact lv_lload_n hx hb hd hi (lv_at hL q hk) (kk hX H locs la hP hS hL)
theorem mj_iload (C : Cx K Y cs cc own mL f lo) {i : Nat} {x : Int32} (q : Nat) (hd : decode cc pc = .ok (.iload i, 2)) (hk : ls[q]? = some (i, .int x)) (kk : J SH K Y cs X (pc + 2) ls (.int x :: st) h) : J SH K Y cs X pc ls (st) h := by
  obtain ⟨p, e, R, s, m, args, below, meth, c, Q, nL⟩ := Y
  obtain ⟨hx, hb, hml, hown, hts, hK, hce, hcs, hfr, hlo, hnl⟩ := C
  intro hX H locs la hP hS hL
  exact lv_iload hx hb hd (lv_at hL q hk) (kk hX H locs la hP hS hL)
theorem mj_lload (C : Cx K Y cs cc own mL f lo) {i : Nat} {x : Int64} (q : Nat) (hd : decode cc pc = .ok (.lload i, 2)) (hk : ls[q]? = some (i, .long x)) (kk : J SH K Y cs X (pc + 2) ls (.long x :: st) h) : J SH K Y cs X pc ls (st) h := by
  obtain ⟨p, e, R, s, m, args, below, meth, c, Q, nL⟩ := Y
  obtain ⟨hx, hb, hml, hown, hts, hK, hce, hcs, hfr, hlo, hnl⟩ := C
  intro hX H locs la hP hS hL
  exact lv_lload hx hb hd (lv_at hL q hk) (kk hX H locs la hP hS hL)
theorem mj_aload_n (C : Cx K Y cs cc own mL f lo) {k : Fin 4} {i : Nat} {x : Nat} (q : Nat) (hd : decode cc pc = .ok (.aload_n k, 1)) (hi : (k : Nat) = i) (hk : ls[q]? = some (i, rf K x)) (kk : J SH K Y cs X (pc + 1) ls (rf K x :: st) h) : J SH K Y cs X pc ls (st) h := by
  obtain ⟨p, e, R, s, m, args, below, meth, c, Q, nL⟩ := Y
  obtain ⟨hx, hb, hml, hown, hts, hK, hce, hcs, hfr, hlo, hnl⟩ := C
  intro hX H locs la hP hS hL
  exact lv_aload_n hx hb hd hi (lv_at hL q hk) (kk hX H locs la hP hS hL)
theorem mj_aload_nR (C : Cx K Y cs cc own mL f lo) {k : Fin 4} {i : Nat} {x : Nat} (q : Nat) (hd : decode cc pc = .ok (.aload_n k, 1)) (hi : (k : Nat) = i) (hk : ls[q]? = some (i, .ref x)) (kk : J SH K Y cs X (pc + 1) ls (.ref x :: st) h) : J SH K Y cs X pc ls (st) h := by
  obtain ⟨p, e, R, s, m, args, below, meth, c, Q, nL⟩ := Y
  obtain ⟨hx, hb, hml, hown, hts, hK, hce, hcs, hfr, hlo, hnl⟩ := C
  intro hX H locs la hP hS hL
  exact lv_aload_n hx hb hd hi (lv_at hL q hk) (kk hX H locs la hP hS hL)
theorem mj_iconst (C : Cx K Y cs cc own mL f lo) {n : Int} {v : Int32} (hd : decode cc pc = .ok (.iconst n, 1)) (hv : Int32.ofInt n = v) (kk : J SH K Y cs X (pc + 1) ls (.int v :: st) h) : J SH K Y cs X pc ls (st) h := by
  obtain ⟨p, e, R, s, m, args, below, meth, c, Q, nL⟩ := Y
  obtain ⟨hx, hb, hml, hown, hts, hK, hce, hcs, hfr, hlo, hnl⟩ := C
  intro hX H locs la hP hS hL
  exact lv_iconst hx hb hd hv (kk hX H locs la hP hS hL)
theorem mj_bipush (C : Cx K Y cs cc own mL f lo) {n : Int} {v : Int32} (hd : decode cc pc = .ok (.bipush n, 2)) (hv : (Int8.ofInt n).toInt32 = v) (kk : J SH K Y cs X (pc + 2) ls (.int v :: st) h) : J SH K Y cs X pc ls (st) h := by
  obtain ⟨p, e, R, s, m, args, below, meth, c, Q, nL⟩ := Y
  obtain ⟨hx, hb, hml, hown, hts, hK, hce, hcs, hfr, hlo, hnl⟩ := C
  intro hX H locs la hP hS hL
  exact lv_bipush hx hb hd hv (kk hX H locs la hP hS hL)
theorem mj_sipush (C : Cx K Y cs cc own mL f lo) {n : Int} {v : Int32} (hd : decode cc pc = .ok (.sipush n, 3)) (hv : (Int16.ofInt n).toInt32 = v) (kk : J SH K Y cs X (pc + 3) ls (.int v :: st) h) : J SH K Y cs X pc ls (st) h := by
  obtain ⟨p, e, R, s, m, args, below, meth, c, Q, nL⟩ := Y
  obtain ⟨hx, hb, hml, hown, hts, hK, hce, hcs, hfr, hlo, hnl⟩ := C
  intro hX H locs la hP hS hL
  exact lv_sipush hx hb hd hv (kk hX H locs la hP hS hL)
theorem mj_lconst (C : Cx K Y cs cc own mL f lo) {n : Fin 2} {v : Int64} (hd : decode cc pc = .ok (.lconst n, 1)) (hv : Int64.ofNat (n : Nat) = v) (kk : J SH K Y cs X (pc + 1) ls (.long v :: st) h) : J SH K Y cs X pc ls (st) h := by
  obtain ⟨p, e, R, s, m, args, below, meth, c, Q, nL⟩ := Y
  obtain ⟨hx, hb, hml, hown, hts, hK, hce, hcs, hfr, hlo, hnl⟩ := C
  intro hX H locs la hP hS hL
  exact lv_lconst hx hb hd hv (kk hX H locs la hP hS hL)
theorem mj_ldc (C : Cx K Y cs cc own mL f lo) {i : Nat} {v : Int32} (hw : Cond.constant own i v ∈ lw_ok) (hd : decode cc pc = .ok (.ldc i, 2)) (kk : J SH K Y cs X (pc + 2) ls (.int v :: st) h) : J SH K Y cs X pc ls (st) h := by
  obtain ⟨p, e, R, s, m, args, below, meth, c, Q, nL⟩ := Y
  obtain ⟨hx, hb, hml, hown, hts, hK, hce, hcs, hfr, hlo, hnl⟩ := C
  intro hX H locs la hP hS hL
  exact lv_ldc hx hb hown (hts _ hw) hd (kk hX H locs la hP hS hL)
theorem mj_ldcw (C : Cx K Y cs cc own mL f lo) {i : Nat} {v : Int32} (hw : Cond.constant own i v ∈ lw_ok) (hd : decode cc pc = .ok (.ldc_w i, 3)) (kk : J SH K Y cs X (pc + 3) ls (.int v :: st) h) : J SH K Y cs X pc ls (st) h := by
  obtain ⟨p, e, R, s, m, args, below, meth, c, Q, nL⟩ := Y
  obtain ⟨hx, hb, hml, hown, hts, hK, hce, hcs, hfr, hlo, hnl⟩ := C
  intro hX H locs la hP hS hL
  exact lv_ldcw hx hb hown (hts _ hw) hd (kk hX H locs la hP hS hL)
theorem mj_ldc2 (C : Cx K Y cs cc own mL f lo) {i : Nat} {v : Int64} (hw : Cond.constantLong own i v ∈ lw_ok) (hd : decode cc pc = .ok (.ldc2_w i, 3)) (kk : J SH K Y cs X (pc + 3) ls (.long v :: st) h) : J SH K Y cs X pc ls (st) h := by
  obtain ⟨p, e, R, s, m, args, below, meth, c, Q, nL⟩ := Y
  obtain ⟨hx, hb, hml, hown, hts, hK, hce, hcs, hfr, hlo, hnl⟩ := C
  intro hX H locs la hP hS hL
  exact lv_ldc2 hx hb hown (hts _ hw) hd (kk hX H locs la hP hS hL)
theorem mj_iadd (C : Cx K Y cs cc own mL f lo) {x y : Int32} (hd : decode cc pc = .ok (.iadd, 1)) (kk : J SH K Y cs X (pc + 1) ls (.int (x + y) :: st) h) : J SH K Y cs X pc ls (.int y :: .int x :: st) h := by
  obtain ⟨p, e, R, s, m, args, below, meth, c, Q, nL⟩ := Y
  obtain ⟨hx, hb, hml, hown, hts, hK, hce, hcs, hfr, hlo, hnl⟩ := C
  intro hX H locs la hP hS hL
  exact lv_iadd hx hb hd (kk hX H locs la hP hS hL)
theorem mj_isub (C : Cx K Y cs cc own mL f lo) {x y : Int32} (hd : decode cc pc = .ok (.isub, 1)) (kk : J SH K Y cs X (pc + 1) ls (.int (x - y) :: st) h) : J SH K Y cs X pc ls (.int y :: .int x :: st) h := by
  obtain ⟨p, e, R, s, m, args, below, meth, c, Q, nL⟩ := Y
  obtain ⟨hx, hb, hml, hown, hts, hK, hce, hcs, hfr, hlo, hnl⟩ := C
  intro hX H locs la hP hS hL
  exact lv_isub hx hb hd (kk hX H locs la hP hS hL)
theorem mj_imul (C : Cx K Y cs cc own mL f lo) {x y : Int32} (hd : decode cc pc = .ok (.imul, 1)) (kk : J SH K Y cs X (pc + 1) ls (.int (x * y) :: st) h) : J SH K Y cs X pc ls (.int y :: .int x :: st) h := by
  obtain ⟨p, e, R, s, m, args, below, meth, c, Q, nL⟩ := Y
  obtain ⟨hx, hb, hml, hown, hts, hK, hce, hcs, hfr, hlo, hnl⟩ := C
  intro hX H locs la hP hS hL
  exact lv_imul hx hb hd (kk hX H locs la hP hS hL)
theorem mj_iand (C : Cx K Y cs cc own mL f lo) {x y : Int32} (hd : decode cc pc = .ok (.iand, 1)) (kk : J SH K Y cs X (pc + 1) ls (.int (x &&& y) :: st) h) : J SH K Y cs X pc ls (.int y :: .int x :: st) h := by
  obtain ⟨p, e, R, s, m, args, below, meth, c, Q, nL⟩ := Y
  obtain ⟨hx, hb, hml, hown, hts, hK, hce, hcs, hfr, hlo, hnl⟩ := C
  intro hX H locs la hP hS hL
  exact lv_iand hx hb hd (kk hX H locs la hP hS hL)
theorem mj_ior (C : Cx K Y cs cc own mL f lo) {x y : Int32} (hd : decode cc pc = .ok (.ior, 1)) (kk : J SH K Y cs X (pc + 1) ls (.int (x ||| y) :: st) h) : J SH K Y cs X pc ls (.int y :: .int x :: st) h := by
  obtain ⟨p, e, R, s, m, args, below, meth, c, Q, nL⟩ := Y
  obtain ⟨hx, hb, hml, hown, hts, hK, hce, hcs, hfr, hlo, hnl⟩ := C
  intro hX H locs la hP hS hL
  exact lv_ior hx hb hd (kk hX H locs la hP hS hL)
theorem mj_ixor (C : Cx K Y cs cc own mL f lo) {x y : Int32} (hd : decode cc pc = .ok (.ixor, 1)) (kk : J SH K Y cs X (pc + 1) ls (.int (x ^^^ y) :: st) h) : J SH K Y cs X pc ls (.int y :: .int x :: st) h := by
  obtain ⟨p, e, R, s, m, args, below, meth, c, Q, nL⟩ := Y
  obtain ⟨hx, hb, hml, hown, hts, hK, hce, hcs, hfr, hlo, hnl⟩ := C
  intro hX H locs la hP hS hL
  exact lv_ixor hx hb hd (kk hX H locs la hP hS hL)
theorem mj_ishl (C : Cx K Y cs cc own mL f lo) {x y : Int32} (hd : decode cc pc = .ok (.ishl, 1)) (kk : J SH K Y cs X (pc + 1) ls (.int (x <<< (y &&& 31)) :: st) h) : J SH K Y cs X pc ls (.int y :: .int x :: st) h := by
  obtain ⟨p, e, R, s, m, args, below, meth, c, Q, nL⟩ := Y
  obtain ⟨hx, hb, hml, hown, hts, hK, hce, hcs, hfr, hlo, hnl⟩ := C
  intro hX H locs la hP hS hL
  exact lv_ishl hx hb hd (kk hX H locs la hP hS hL)
theorem mj_ishr (C : Cx K Y cs cc own mL f lo) {x y : Int32} (hd : decode cc pc = .ok (.ishr, 1)) (kk : J SH K Y cs X (pc + 1) ls (.int (x >>> (y &&& 31)) :: st) h) : J SH K Y cs X pc ls (.int y :: .int x :: st) h := by
  obtain ⟨p, e, R, s, m, args, below, meth, c, Q, nL⟩ := Y
  obtain ⟨hx, hb, hml, hown, hts, hK, hce, hcs, hfr, hlo, hnl⟩ := C
  intro hX H locs la hP hS hL
  exact lv_ishr hx hb hd (kk hX H locs la hP hS hL)
theorem mj_ladd (C : Cx K Y cs cc own mL f lo) {x y : Int64} (hd : decode cc pc = .ok (.ladd, 1)) (kk : J SH K Y cs X (pc + 1) ls (.long (x + y) :: st) h) : J SH K Y cs X pc ls (.long y :: .long x :: st) h := by
  obtain ⟨p, e, R, s, m, args, below, meth, c, Q, nL⟩ := Y
  obtain ⟨hx, hb, hml, hown, hts, hK, hce, hcs, hfr, hlo, hnl⟩ := C
  intro hX H locs la hP hS hL
  exact lv_ladd hx hb hd (kk hX H locs la hP hS hL)
theorem mj_lmul (C : Cx K Y cs cc own mL f lo) {x y : Int64} (hd : decode cc pc = .ok (.lmul, 1)) (kk : J SH K Y cs X (pc + 1) ls (.long (x * y) :: st) h) : J SH K Y cs X pc ls (.long y :: .long x :: st) h := by
  obtain ⟨p, e, R, s, m, args, below, meth, c, Q, nL⟩ := Y
  obtain ⟨hx, hb, hml, hown, hts, hK, hce, hcs, hfr, hlo, hnl⟩ := C
  intro hX H locs la hP hS hL
  exact lv_lmul hx hb hd (kk hX H locs la hP hS hL)
theorem mj_land (C : Cx K Y cs cc own mL f lo) {x y : Int64} (hd : decode cc pc = .ok (.land, 1)) (kk : J SH K Y cs X (pc + 1) ls (.long (x &&& y) :: st) h) : J SH K Y cs X pc ls (.long y :: .long x :: st) h := by
  obtain ⟨p, e, R, s, m, args, below, meth, c, Q, nL⟩ := Y
  obtain ⟨hx, hb, hml, hown, hts, hK, hce, hcs, hfr, hlo, hnl⟩ := C
  intro hX H locs la hP hS hL
  exact lv_land hx hb hd (kk hX H locs la hP hS hL)
theorem mj_iushr (C : Cx K Y cs cc own mL f lo) {x y : Int32} (hd : decode cc pc = .ok (.iushr, 1)) (kk : J SH K Y cs X (pc + 1) ls (.int ((x.toUInt32 >>> (y.toUInt32 &&& Int32.toUInt32 31)).toInt32) :: st) h) : J SH K Y cs X pc ls (.int y :: .int x :: st) h := by
  obtain ⟨p, e, R, s, m, args, below, meth, c, Q, nL⟩ := Y
  obtain ⟨hx, hb, hml, hown, hts, hK, hce, hcs, hfr, hlo, hnl⟩ := C
  intro hX H locs la hP hS hL
  exact lv_iushr hx hb hd rfl (kk hX H locs la hP hS hL)
theorem mj_lcmp (C : Cx K Y cs cc own mL f lo) {x y : Int64} (hd : decode cc pc = .ok (.lcmp, 1)) (kk : J SH K Y cs X (pc + 1) ls (.int (lg_cmp x y) :: st) h) : J SH K Y cs X pc ls (.long y :: .long x :: st) h := by
  obtain ⟨p, e, R, s, m, args, below, meth, c, Q, nL⟩ := Y
  obtain ⟨hx, hb, hml, hown, hts, hK, hce, hcs, hfr, hlo, hnl⟩ := C
  intro hX H locs la hP hS hL
  exact W.lcmp hx hb hd (kk hX H locs la hP hS hL)
theorem mj_i2l (C : Cx K Y cs cc own mL f lo) {x : Int32} (hd : decode cc pc = .ok (.i2l, 1)) (kk : J SH K Y cs X (pc + 1) ls (.long x.toInt64 :: st) h) : J SH K Y cs X pc ls (.int x :: st) h := by
  obtain ⟨p, e, R, s, m, args, below, meth, c, Q, nL⟩ := Y
  obtain ⟨hx, hb, hml, hown, hts, hK, hce, hcs, hfr, hlo, hnl⟩ := C
  intro hX H locs la hP hS hL
  exact lv_i2l hx hb hd rfl (kk hX H locs la hP hS hL)
theorem mj_l2i (C : Cx K Y cs cc own mL f lo) {x : Int64} (hd : decode cc pc = .ok (.l2i, 1)) (kk : J SH K Y cs X (pc + 1) ls (.int x.toInt32 :: st) h) : J SH K Y cs X pc ls (.long x :: st) h := by
  obtain ⟨p, e, R, s, m, args, below, meth, c, Q, nL⟩ := Y
  obtain ⟨hx, hb, hml, hown, hts, hK, hce, hcs, hfr, hlo, hnl⟩ := C
  intro hX H locs la hP hS hL
  exact lv_l2i hx hb hd rfl (kk hX H locs la hP hS hL)
theorem mj_dup (C : Cx K Y cs cc own mL f lo) {v : Value} (hd : decode cc pc = .ok (.dup, 1)) (hv : v.category = 1) (kk : J SH K Y cs X (pc + 1) ls (v :: v :: st) h) : J SH K Y cs X pc ls (v :: st) h := by
  obtain ⟨p, e, R, s, m, args, below, meth, c, Q, nL⟩ := Y
  obtain ⟨hx, hb, hml, hown, hts, hK, hce, hcs, hfr, hlo, hnl⟩ := C
  intro hX H locs la hP hS hL
  exact lv_dup hx hb hd hv (kk hX H locs la hP hS hL)
theorem mj_pop (C : Cx K Y cs cc own mL f lo) {v : Value} (hd : decode cc pc = .ok (.pop, 1)) (hv : v.category = 1) (kk : J SH K Y cs X (pc + 1) ls (st) h) : J SH K Y cs X pc ls (v :: st) h := by
  obtain ⟨p, e, R, s, m, args, below, meth, c, Q, nL⟩ := Y
  obtain ⟨hx, hb, hml, hown, hts, hK, hce, hcs, hfr, hlo, hnl⟩ := C
  intro hX H locs la hP hS hL
  exact lv_pop hx hb hd hv (kk hX H locs la hP hS hL)
theorem mj_dup2 (C : Cx K Y cs cc own mL f lo) {v w : Value} (hd : decode cc pc = .ok (.dup2, 1)) (hv : v.category = 1) (hw : w.category = 1) (kk : J SH K Y cs X (pc + 1) ls (v :: w :: v :: w :: st) h) : J SH K Y cs X pc ls (v :: w :: st) h := by
  obtain ⟨p, e, R, s, m, args, below, meth, c, Q, nL⟩ := Y
  obtain ⟨hx, hb, hml, hown, hts, hK, hce, hcs, hfr, hlo, hnl⟩ := C
  intro hX H locs la hP hS hL
  exact lv_dup2_11 hx hb hd hv hw (kk hX H locs la hP hS hL)
theorem mj_goto (C : Cx K Y cs cc own mL f lo) {off : Int} (tgt : Nat) (hd : decode cc pc = .ok (.goto off, 3)) (ht : (pc : Int) + off = (tgt : Int)) (kk : J SH K Y cs X tgt ls (st) h) : J SH K Y cs X pc ls (st) h := by
  obtain ⟨p, e, R, s, m, args, below, meth, c, Q, nL⟩ := Y
  obtain ⟨hx, hb, hml, hown, hts, hK, hce, hcs, hfr, hlo, hnl⟩ := C
  intro hX H locs la hP hS hL
  exact lv_goto hx hb hd ht (kk hX H locs la hP hS hL)
theorem mj_idiv (C : Cx K Y cs cc own mL f lo) {x y : Int32} (hd : decode cc pc = .ok (.idiv, 1)) (hne : ¬ y = 0) (kk : J SH K Y cs X (pc + 1) ls (.int (x / y) :: st) h) : J SH K Y cs X pc ls (.int y :: .int x :: st) h := by
  obtain ⟨p, e, R, s, m, args, below, meth, c, Q, nL⟩ := Y
  obtain ⟨hx, hb, hml, hown, hts, hK, hce, hcs, hfr, hlo, hnl⟩ := C
  intro hX H locs la hP hS hL
  exact lv_idiv hx hb hd hne (kk hX H locs la hP hS hL)
theorem mj_idivC {α : Type} {E : Option α} {P : α → Prop} (C : Cx K Y cs cc own mL f lo) {x y : Int32} (hd : decode cc pc = .ok (.idiv, 1)) (kk : J SH K Y cs (mj_O E P) (pc + 1) ls (.int (x / y) :: st) h) : J SH K Y cs (mj_O (md_ck (decide (¬ y = 0)) E) P) pc ls (.int y :: .int x :: st) h := mj_ckU (fun hc => mj_idiv C hd (of_decide_eq_true hc) kk)
theorem mj_irem (C : Cx K Y cs cc own mL f lo) {x y : Int32} (hd : decode cc pc = .ok (.irem, 1)) (hne : ¬ y = 0) (kk : J SH K Y cs X (pc + 1) ls (.int (x - x / y * y) :: st) h) : J SH K Y cs X pc ls (.int y :: .int x :: st) h := by
  obtain ⟨p, e, R, s, m, args, below, meth, c, Q, nL⟩ := Y
  obtain ⟨hx, hb, hml, hown, hts, hK, hce, hcs, hfr, hlo, hnl⟩ := C
  intro hX H locs la hP hS hL
  exact lv_irem hx hb hd hne (kk hX H locs la hP hS hL)
theorem mj_iremC {α : Type} {E : Option α} {P : α → Prop} (C : Cx K Y cs cc own mL f lo) {x y : Int32} (hd : decode cc pc = .ok (.irem, 1)) (kk : J SH K Y cs (mj_O E P) (pc + 1) ls (.int (x - x / y * y) :: st) h) : J SH K Y cs (mj_O (md_ck (decide (¬ y = 0)) E) P) pc ls (.int y :: .int x :: st) h := mj_ckU (fun hc => mj_irem C hd (of_decide_eq_true hc) kk)
theorem mj_ldiv (C : Cx K Y cs cc own mL f lo) {x y : Int64} (hd : decode cc pc = .ok (.ldiv, 1)) (hne : ¬ y = 0) (kk : J SH K Y cs X (pc + 1) ls (.long (x / y) :: st) h) : J SH K Y cs X pc ls (.long y :: .long x :: st) h := by
  obtain ⟨p, e, R, s, m, args, below, meth, c, Q, nL⟩ := Y
  obtain ⟨hx, hb, hml, hown, hts, hK, hce, hcs, hfr, hlo, hnl⟩ := C
  intro hX H locs la hP hS hL
  exact lv_ldiv hx hb hd hne (kk hX H locs la hP hS hL)
theorem mj_ldivC {α : Type} {E : Option α} {P : α → Prop} (C : Cx K Y cs cc own mL f lo) {x y : Int64} (hd : decode cc pc = .ok (.ldiv, 1)) (kk : J SH K Y cs (mj_O E P) (pc + 1) ls (.long (x / y) :: st) h) : J SH K Y cs (mj_O (md_ck (decide (¬ y = 0)) E) P) pc ls (.long y :: .long x :: st) h := mj_ckU (fun hc => mj_ldiv C hd (of_decide_eq_true hc) kk)
theorem mj_lrem (C : Cx K Y cs cc own mL f lo) {x y : Int64} (hd : decode cc pc = .ok (.lrem, 1)) (hne : ¬ y = 0) (kk : J SH K Y cs X (pc + 1) ls (.long (x - x / y * y) :: st) h) : J SH K Y cs X pc ls (.long y :: .long x :: st) h := by
  obtain ⟨p, e, R, s, m, args, below, meth, c, Q, nL⟩ := Y
  obtain ⟨hx, hb, hml, hown, hts, hK, hce, hcs, hfr, hlo, hnl⟩ := C
  intro hX H locs la hP hS hL
  exact lv_lrem hx hb hd hne (kk hX H locs la hP hS hL)
theorem mj_lremC {α : Type} {E : Option α} {P : α → Prop} (C : Cx K Y cs cc own mL f lo) {x y : Int64} (hd : decode cc pc = .ok (.lrem, 1)) (kk : J SH K Y cs (mj_O E P) (pc + 1) ls (.long (x - x / y * y) :: st) h) : J SH K Y cs (mj_O (md_ck (decide (¬ y = 0)) E) P) pc ls (.long y :: .long x :: st) h := mj_ckU (fun hc => mj_lrem C hd (of_decide_eq_true hc) kk)
theorem mj_istore_n (C : Cx K Y cs cc own mL f lo) {k : Fin 4} {i : Nat} {x : Int32} (l' : List (Nat × Value)) (hd : decode cc pc = .ok (.istore_n k, 1)) (hi : (k : Nat) = i) (hn : i < mL) (hl : (i, .int x) :: ls.filter (fun q => !(q.1 == i) && !(q.1 + 1 == i && q.2.category == 2)) = l') (kk : J SH K Y cs X (pc + 1) l' st h) : J SH K Y cs X pc ls (.int x :: st) h := by
  obtain ⟨p, e, R, s, m, args, below, meth, c, Q, nL⟩ := Y
  obtain ⟨hx, hb, hml, hown, hts, hK, hce, hcs, hfr, hlo, hnl⟩ := C
  intro hX H locs la hP hS hL
  exact lv_istore_n hx hb hd hi hL (by rw [hnl]; exact hn) hl (fun la hL => kk hX H locs la hP hS hL)
theorem mj_istore_nL {β : Type} {P : β → Prop} {k : Int32 → Option β} (C : Cx K Y cs cc own mL f lo) {k0 : Fin 4} {i : Nat} {x : Int32} (l' : Int32 → List (Nat × Value)) (hd : decode cc pc = .ok (.istore_n k0, 1)) (hi : (k0 : Nat) = i) (hn : i < mL) (hl : (i, .int x) :: ls.filter (fun q => !(q.1 == i) && !(q.1 + 1 == i && q.2.category == 2)) = l' x) (kk : ∀ v : Int32, J SH K Y cs (mj_O (k v) P) (pc + 1) (l' v) st h) : J SH K Y cs (mj_O (md_lt x k) P) pc ls (.int x :: st) h := mj_istore_n C (l' x) hd hi hn hl (kk x)
theorem mj_istore (C : Cx K Y cs cc own mL f lo)  {i : Nat} {x : Int32} (l' : List (Nat × Value)) (hd : decode cc pc = .ok (.istore i, 2))  (hn : i < mL) (hl : (i, .int x) :: ls.filter (fun q => !(q.1 == i) && !(q.1 + 1 == i && q.2.category == 2)) = l') (kk : J SH K Y cs X (pc + 2) l' st h) : J SH K Y cs X pc ls (.int x :: st) h := by
  obtain ⟨p, e, R, s, m, args, below, meth, c, Q, nL⟩ := Y
  obtain ⟨hx, hb, hml, hown, hts, hK, hce, hcs, hfr, hlo, hnl⟩ := C
  intro hX H locs la hP hS hL
  exact lv_istore hx hb hd hL (by rw [hnl]; exact hn) hl (fun la hL => kk hX H locs la hP hS hL)
theorem mj_istoreL {β : Type} {P : β → Prop} {k : Int32 → Option β} (C : Cx K Y cs cc own mL f lo)  {i : Nat} {x : Int32} (l' : Int32 → List (Nat × Value)) (hd : decode cc pc = .ok (.istore i, 2))  (hn : i < mL) (hl : (i, .int x) :: ls.filter (fun q => !(q.1 == i) && !(q.1 + 1 == i && q.2.category == 2)) = l' x) (kk : ∀ v : Int32, J SH K Y cs (mj_O (k v) P) (pc + 2) (l' v) st h) : J SH K Y cs (mj_O (md_lt x k) P) pc ls (.int x :: st) h := mj_istore C (l' x) hd hn hl (kk x)
theorem mj_astore_n (C : Cx K Y cs cc own mL f lo) {k : Fin 4} {i x : Nat} (l' : List (Nat × Value)) (hd : decode cc pc = .ok (.astore_n k, 1)) (hi : (k : Nat) = i) (hn : i < mL) (hl : (i, rf K x) :: ls.filter (fun q => !(q.1 == i) && !(q.1 + 1 == i && q.2.category == 2)) = l') (kk : J SH K Y cs X (pc + 1) l' st h) : J SH K Y cs X pc ls (rf K x :: st) h := by
  obtain ⟨p, e, R, s, m, args, below, meth, c, Q, nL⟩ := Y
  obtain ⟨hx, hb, hml, hown, hts, hK, hce, hcs, hfr, hlo, hnl⟩ := C
  intro hX H locs la hP hS hL
  exact lv_astore_n hx hb hd hi hL (by rw [hnl]; exact hn) hl (fun la hL => kk hX H locs la hP hS hL)
theorem mj_lstore_n (C : Cx K Y cs cc own mL f lo) {k : Fin 4} {i : Nat} {x : Int64} (l' : List (Nat × Value)) (hd : decode cc pc = .ok (.lstore_n k, 1)) (hi : (k : Nat) = i) (hn : i + 1 < mL) (hl : (i, .long x) :: ls.filter (fun q => !(q.1 == i) && (!(q.1 == i + 1) && !(q.1 + 1 == i && q.2.category == 2))) = l') (kk : J SH K Y cs X (pc + 1) l' st h) : J SH K Y cs X pc ls (.long x :: st) h := by
  obtain ⟨p, e, R, s, m, args, below, meth, c, Q, nL⟩ := Y
  obtain ⟨hx, hb, hml, hown, hts, hK, hce, hcs, hfr, hlo, hnl⟩ := C
  intro hX H locs la hP hS hL
  exact lv_lstore_n hx hb hd hi hL (by rw [hnl]; exact hn) hl (fun la hL => kk hX H locs la hP hS hL)
theorem mj_lstore_nL {β : Type} {P : β → Prop} {k : Int64 → Option β} (C : Cx K Y cs cc own mL f lo) {k0 : Fin 4} {i : Nat} {x : Int64} (l' : Int64 → List (Nat × Value)) (hd : decode cc pc = .ok (.lstore_n k0, 1)) (hi : (k0 : Nat) = i) (hn : i + 1 < mL) (hl : (i, .long x) :: ls.filter (fun q => !(q.1 == i) && (!(q.1 == i + 1) && !(q.1 + 1 == i && q.2.category == 2))) = l' x) (kk : ∀ v : Int64, J SH K Y cs (mj_O (k v) P) (pc + 1) (l' v) st h) : J SH K Y cs (mj_O (md_lt x k) P) pc ls (.long x :: st) h := mj_lstore_n C (l' x) hd hi hn hl (kk x)
theorem mj_iinc (C : Cx K Y cs cc own mL f lo) {i : Nat} {n : Int} {x : Int32} (v : Int32) (q : Nat) (l' : List (Nat × Value)) (hd : decode cc pc = .ok (.iinc i n, 3)) (hk : ls[q]? = some (i, .int x)) (hv : x + Int32.ofInt n = v) (hn : i < mL) (hl : (i, .int v) :: ls.filter (fun q => !(q.1 == i) && !(q.1 + 1 == i && q.2.category == 2)) = l') (kk : J SH K Y cs X (pc + 3) l' st h) : J SH K Y cs X pc ls st h := by
  obtain ⟨p, e, R, s, m, args, below, meth, c, Q, nL⟩ := Y
  obtain ⟨hx, hb, hml, hown, hts, hK, hce, hcs, hfr, hlo, hnl⟩ := C
  intro hX H locs la hP hS hL
  exact lv_iinc hx hb hd hL hk hv (by rw [hnl]; exact hn) hl (fun la hL => kk hX H locs la hP hS hL)
theorem mj_if_eq {α : Type} {A B : Option α} {P : α → Prop} (C : Cx K Y cs cc own mL f lo) {x : Int32} {off : Int} (tgt : Nat) (hd : decode cc pc = .ok (.ifCond .eq off, 3)) (ht : (pc : Int) + off = (tgt : Int)) (kt : J SH K Y cs (mj_O A P) tgt ls st h) (kf : J SH K Y cs (mj_O B P) (pc + 3) ls st h) : J SH K Y cs (mj_O (if x = 0 then A else B) P) pc ls (.int x :: st) h := by
  obtain ⟨p, e, R, s, m, args, below, meth, c, Q, nL⟩ := Y
  obtain ⟨hx, hb, hml, hown, hts, hK, hce, hcs, hfr, hlo, hnl⟩ := C
  intro hX H locs la hP hS hL
  exact lv_if_eq hx hb hd ht (fun c1 => kt (by rwa [if_pos c1] at hX) H locs la hP hS hL) (fun c1 => kf (by rwa [if_neg c1] at hX) H locs la hP hS hL)
theorem mj_icmp_eq {α : Type} {A B : Option α} {P : α → Prop} (C : Cx K Y cs cc own mL f lo) {x y : Int32} {off : Int} (tgt : Nat) (hd : decode cc pc = .ok (.if_icmp .eq off, 3)) (ht : (pc : Int) + off = (tgt : Int)) (kt : J SH K Y cs (mj_O A P) tgt ls st h) (kf : J SH K Y cs (mj_O B P) (pc + 3) ls st h) : J SH K Y cs (mj_O (if x = y then A else B) P) pc ls (.int y :: .int x :: st) h := by
  obtain ⟨p, e, R, s, m, args, below, meth, c, Q, nL⟩ := Y
  obtain ⟨hx, hb, hml, hown, hts, hK, hce, hcs, hfr, hlo, hnl⟩ := C
  intro hX H locs la hP hS hL
  exact lv_icmp_eq hx hb hd ht (fun c1 => kt (by rwa [if_pos c1] at hX) H locs la hP hS hL) (fun c1 => kf (by rwa [if_neg c1] at hX) H locs la hP hS hL)
theorem mj_if_ne {α : Type} {A B : Option α} {P : α → Prop} (C : Cx K Y cs cc own mL f lo) {x : Int32} {off : Int} (tgt : Nat) (hd : decode cc pc = .ok (.ifCond .ne off, 3)) (ht : (pc : Int) + off = (tgt : Int)) (kt : J SH K Y cs (mj_O B P) tgt ls st h) (kf : J SH K Y cs (mj_O A P) (pc + 3) ls st h) : J SH K Y cs (mj_O (if x = 0 then A else B) P) pc ls (.int x :: st) h := by
  obtain ⟨p, e, R, s, m, args, below, meth, c, Q, nL⟩ := Y
  obtain ⟨hx, hb, hml, hown, hts, hK, hce, hcs, hfr, hlo, hnl⟩ := C
  intro hX H locs la hP hS hL
  exact lv_if_ne hx hb hd ht (fun c1 => kt (by rwa [if_neg c1] at hX) H locs la hP hS hL) (fun c1 => kf (by rwa [if_pos c1] at hX) H locs la hP hS hL)
theorem mj_icmp_ne {α : Type} {A B : Option α} {P : α → Prop} (C : Cx K Y cs cc own mL f lo) {x y : Int32} {off : Int} (tgt : Nat) (hd : decode cc pc = .ok (.if_icmp .ne off, 3)) (ht : (pc : Int) + off = (tgt : Int)) (kt : J SH K Y cs (mj_O B P) tgt ls st h) (kf : J SH K Y cs (mj_O A P) (pc + 3) ls st h) : J SH K Y cs (mj_O (if x = y then A else B) P) pc ls (.int y :: .int x :: st) h := by
  obtain ⟨p, e, R, s, m, args, below, meth, c, Q, nL⟩ := Y
  obtain ⟨hx, hb, hml, hown, hts, hK, hce, hcs, hfr, hlo, hnl⟩ := C
  intro hX H locs la hP hS hL
  exact lv_icmp_ne hx hb hd ht (fun c1 => kt (by rwa [if_neg c1] at hX) H locs la hP hS hL) (fun c1 => kf (by rwa [if_pos c1] at hX) H locs la hP hS hL)
theorem mj_if_lt {α : Type} {A B : Option α} {P : α → Prop} (C : Cx K Y cs cc own mL f lo) {x : Int32} {off : Int} (tgt : Nat) (hd : decode cc pc = .ok (.ifCond .lt off, 3)) (ht : (pc : Int) + off = (tgt : Int)) (kt : J SH K Y cs (mj_O A P) tgt ls st h) (kf : J SH K Y cs (mj_O B P) (pc + 3) ls st h) : J SH K Y cs (mj_O (if x < 0 then A else B) P) pc ls (.int x :: st) h := by
  obtain ⟨p, e, R, s, m, args, below, meth, c, Q, nL⟩ := Y
  obtain ⟨hx, hb, hml, hown, hts, hK, hce, hcs, hfr, hlo, hnl⟩ := C
  intro hX H locs la hP hS hL
  exact lv_if_lt hx hb hd ht (fun c1 => kt (by rwa [if_pos c1] at hX) H locs la hP hS hL) (fun c1 => kf (by rwa [if_neg c1] at hX) H locs la hP hS hL)
theorem mj_icmp_lt {α : Type} {A B : Option α} {P : α → Prop} (C : Cx K Y cs cc own mL f lo) {x y : Int32} {off : Int} (tgt : Nat) (hd : decode cc pc = .ok (.if_icmp .lt off, 3)) (ht : (pc : Int) + off = (tgt : Int)) (kt : J SH K Y cs (mj_O A P) tgt ls st h) (kf : J SH K Y cs (mj_O B P) (pc + 3) ls st h) : J SH K Y cs (mj_O (if x < y then A else B) P) pc ls (.int y :: .int x :: st) h := by
  obtain ⟨p, e, R, s, m, args, below, meth, c, Q, nL⟩ := Y
  obtain ⟨hx, hb, hml, hown, hts, hK, hce, hcs, hfr, hlo, hnl⟩ := C
  intro hX H locs la hP hS hL
  exact lv_icmp_lt hx hb hd ht (fun c1 => kt (by rwa [if_pos c1] at hX) H locs la hP hS hL) (fun c1 => kf (by rwa [if_neg c1] at hX) H locs la hP hS hL)
theorem mj_if_ge {α : Type} {A B : Option α} {P : α → Prop} (C : Cx K Y cs cc own mL f lo) {x : Int32} {off : Int} (tgt : Nat) (hd : decode cc pc = .ok (.ifCond .ge off, 3)) (ht : (pc : Int) + off = (tgt : Int)) (kt : J SH K Y cs (mj_O A P) tgt ls st h) (kf : J SH K Y cs (mj_O B P) (pc + 3) ls st h) : J SH K Y cs (mj_O (if 0 ≤ x then A else B) P) pc ls (.int x :: st) h := by
  obtain ⟨p, e, R, s, m, args, below, meth, c, Q, nL⟩ := Y
  obtain ⟨hx, hb, hml, hown, hts, hK, hce, hcs, hfr, hlo, hnl⟩ := C
  intro hX H locs la hP hS hL
  exact lv_if_ge hx hb hd ht (fun c1 => kt (by rwa [if_pos c1] at hX) H locs la hP hS hL) (fun c1 => kf (by rwa [if_neg c1] at hX) H locs la hP hS hL)
theorem mj_icmp_ge {α : Type} {A B : Option α} {P : α → Prop} (C : Cx K Y cs cc own mL f lo) {x y : Int32} {off : Int} (tgt : Nat) (hd : decode cc pc = .ok (.if_icmp .ge off, 3)) (ht : (pc : Int) + off = (tgt : Int)) (kt : J SH K Y cs (mj_O A P) tgt ls st h) (kf : J SH K Y cs (mj_O B P) (pc + 3) ls st h) : J SH K Y cs (mj_O (if y ≤ x then A else B) P) pc ls (.int y :: .int x :: st) h := by
  obtain ⟨p, e, R, s, m, args, below, meth, c, Q, nL⟩ := Y
  obtain ⟨hx, hb, hml, hown, hts, hK, hce, hcs, hfr, hlo, hnl⟩ := C
  intro hX H locs la hP hS hL
  exact lv_icmp_ge hx hb hd ht (fun c1 => kt (by rwa [if_pos c1] at hX) H locs la hP hS hL) (fun c1 => kf (by rwa [if_neg c1] at hX) H locs la hP hS hL)
theorem mj_if_gt {α : Type} {A B : Option α} {P : α → Prop} (C : Cx K Y cs cc own mL f lo) {x : Int32} {off : Int} (tgt : Nat) (hd : decode cc pc = .ok (.ifCond .gt off, 3)) (ht : (pc : Int) + off = (tgt : Int)) (kt : J SH K Y cs (mj_O A P) tgt ls st h) (kf : J SH K Y cs (mj_O B P) (pc + 3) ls st h) : J SH K Y cs (mj_O (if 0 < x then A else B) P) pc ls (.int x :: st) h := by
  obtain ⟨p, e, R, s, m, args, below, meth, c, Q, nL⟩ := Y
  obtain ⟨hx, hb, hml, hown, hts, hK, hce, hcs, hfr, hlo, hnl⟩ := C
  intro hX H locs la hP hS hL
  exact lv_if_gt hx hb hd ht (fun c1 => kt (by rwa [if_pos c1] at hX) H locs la hP hS hL) (fun c1 => kf (by rwa [if_neg c1] at hX) H locs la hP hS hL)
theorem mj_icmp_gt {α : Type} {A B : Option α} {P : α → Prop} (C : Cx K Y cs cc own mL f lo) {x y : Int32} {off : Int} (tgt : Nat) (hd : decode cc pc = .ok (.if_icmp .gt off, 3)) (ht : (pc : Int) + off = (tgt : Int)) (kt : J SH K Y cs (mj_O A P) tgt ls st h) (kf : J SH K Y cs (mj_O B P) (pc + 3) ls st h) : J SH K Y cs (mj_O (if y < x then A else B) P) pc ls (.int y :: .int x :: st) h := by
  obtain ⟨p, e, R, s, m, args, below, meth, c, Q, nL⟩ := Y
  obtain ⟨hx, hb, hml, hown, hts, hK, hce, hcs, hfr, hlo, hnl⟩ := C
  intro hX H locs la hP hS hL
  exact lv_icmp_gt hx hb hd ht (fun c1 => kt (by rwa [if_pos c1] at hX) H locs la hP hS hL) (fun c1 => kf (by rwa [if_neg c1] at hX) H locs la hP hS hL)
theorem mj_if_le {α : Type} {A B : Option α} {P : α → Prop} (C : Cx K Y cs cc own mL f lo) {x : Int32} {off : Int} (tgt : Nat) (hd : decode cc pc = .ok (.ifCond .le off, 3)) (ht : (pc : Int) + off = (tgt : Int)) (kt : J SH K Y cs (mj_O A P) tgt ls st h) (kf : J SH K Y cs (mj_O B P) (pc + 3) ls st h) : J SH K Y cs (mj_O (if x ≤ 0 then A else B) P) pc ls (.int x :: st) h := by
  obtain ⟨p, e, R, s, m, args, below, meth, c, Q, nL⟩ := Y
  obtain ⟨hx, hb, hml, hown, hts, hK, hce, hcs, hfr, hlo, hnl⟩ := C
  intro hX H locs la hP hS hL
  exact lv_if_le hx hb hd ht (fun c1 => kt (by rwa [if_pos c1] at hX) H locs la hP hS hL) (fun c1 => kf (by rwa [if_neg c1] at hX) H locs la hP hS hL)
theorem mj_icmp_le {α : Type} {A B : Option α} {P : α → Prop} (C : Cx K Y cs cc own mL f lo) {x y : Int32} {off : Int} (tgt : Nat) (hd : decode cc pc = .ok (.if_icmp .le off, 3)) (ht : (pc : Int) + off = (tgt : Int)) (kt : J SH K Y cs (mj_O A P) tgt ls st h) (kf : J SH K Y cs (mj_O B P) (pc + 3) ls st h) : J SH K Y cs (mj_O (if x ≤ y then A else B) P) pc ls (.int y :: .int x :: st) h := by
  obtain ⟨p, e, R, s, m, args, below, meth, c, Q, nL⟩ := Y
  obtain ⟨hx, hb, hml, hown, hts, hK, hce, hcs, hfr, hlo, hnl⟩ := C
  intro hX H locs la hP hS hL
  exact lv_icmp_le hx hb hd ht (fun c1 => kt (by rwa [if_pos c1] at hX) H locs la hP hS hL) (fun c1 => kf (by rwa [if_neg c1] at hX) H locs la hP hS hL)
theorem mj_b_eq {α : Type} {A B : Option α} {P : α → Prop} (C : Cx K Y cs cc own mL f lo) {v : Bool} {off : Int} (tgt : Nat) (hd : decode cc pc = .ok (.ifCond .eq off, 3)) (ht : (pc : Int) + off = (tgt : Int)) (kt : J SH K Y cs (mj_O B P) tgt ls st h) (kf : J SH K Y cs (mj_O A P) (pc + 3) ls st h) : J SH K Y cs (mj_O (if v = true then A else B) P) pc ls (.int (md_bi v) :: st) h := by
  obtain ⟨p, e, R, s, m, args, below, meth, c, Q, nL⟩ := Y
  obtain ⟨hx, hb, hml, hown, hts, hK, hce, hcs, hfr, hlo, hnl⟩ := C
  intro hX H locs la hP hS hL
  exact lv_if_eq hx hb hd ht (fun c1 => kt (by rw [md_bi_0] at c1; subst c1; exact hX) H locs la hP hS hL) (fun c1 => kf (by rw [md_bi_0] at c1; rw [if_pos (by simpa using c1)] at hX; exact hX) H locs la hP hS hL)
theorem mj_b_ne {α : Type} {A B : Option α} {P : α → Prop} (C : Cx K Y cs cc own mL f lo) {v : Bool} {off : Int} (tgt : Nat) (hd : decode cc pc = .ok (.ifCond .ne off, 3)) (ht : (pc : Int) + off = (tgt : Int)) (kt : J SH K Y cs (mj_O A P) tgt ls st h) (kf : J SH K Y cs (mj_O B P) (pc + 3) ls st h) : J SH K Y cs (mj_O (if v = true then A else B) P) pc ls (.int (md_bi v) :: st) h := by
  obtain ⟨p, e, R, s, m, args, below, meth, c, Q, nL⟩ := Y
  obtain ⟨hx, hb, hml, hown, hts, hK, hce, hcs, hfr, hlo, hnl⟩ := C
  intro hX H locs la hP hS hL
  exact lv_if_ne hx hb hd ht (fun c1 => kt (by rw [md_bi_0] at c1; rw [if_pos (by simpa using c1)] at hX; exact hX) H locs la hP hS hL) (fun c1 => kf (by rw [md_bi_0] at c1; subst c1; exact hX) H locs la hP hS hL)
theorem mj_sw0 {α : Type} {E : Option α} {P : α → Prop} {x : Int32} (kk : J SH K Y cs (x ∉ ([] : List Int32) ∧ mj_O E P) pc ls (.int x :: st) h) : J SH K Y cs (mj_O E P) pc ls (.int x :: st) h := mj_X (fun q => ⟨List.not_mem_nil, q⟩) kk
theorem mj_tcase {α : Type} {A B : Option α} {P : α → Prop} (C : Cx K Y cs cc own mL f lo) {x : Int32} {L : List Int32} {dflt lw hg : Int} {offs : Array Int} {len : Nat} (v : Int32) (tgt : Nat) {off : Int} (hd : decode cc pc = .ok (.tableswitch dflt lw hg offs, len)) (h1 : ¬ v.toInt < lw) (h2 : ¬ hg < v.toInt) (ho : offs[(v.toInt - lw).toNat]? = some off) (ht : (pc : Int) + off = (tgt : Int)) (kt : J SH K Y cs (mj_O A P) tgt ls st h) (kf : J SH K Y cs (x ∉ v :: L ∧ mj_O B P) pc ls (.int x :: st) h) : J SH K Y cs (x ∉ L ∧ mj_O (if x = v then A else B) P) pc ls (.int x :: st) h := by
  by_cases hv : x = v
  · refine mj_X (X' := mj_O A P) (fun q => by have := q.2; rwa [if_pos hv] at this) ?_
    subst hv
    obtain ⟨p, e, R, s, m, args, below, meth, c, Q, nL⟩ := Y
    obtain ⟨hx, hb, hml, hown, hts, hK, hce, hcs, hfr, hlo, hnl⟩ := C
    intro hX H locs la hP hS hL
    exact lv_tableIn hx hb hd h1 h2 ho ht (kt hX H locs la hP hS hL)
  · exact mj_X (fun q => ⟨fun hm => (List.mem_cons.mp hm).elim hv q.1, by have := q.2; rwa [if_neg hv] at this⟩) kf
theorem mj_tdflt {α : Type} {E : Option α} {P : α → Prop} (C : Cx K Y cs cc own mL f lo) {x : Int32} {L : List Int32} {dflt lw hg : Int} {offs : Array Int} {len : Nat} (tgt n : Nat) (hd : decode cc pc = .ok (.tableswitch dflt lw hg offs, len)) (hcov : ∀ i : Nat, i < n → Int32.ofInt (lw + i) ∈ L) (hn : hg = lw + (n : Int) - 1) (ht : (pc : Int) + dflt = (tgt : Int)) (kk : J SH K Y cs (mj_O E P) tgt ls st h) : J SH K Y cs (x ∉ L ∧ mj_O E P) pc ls (.int x :: st) h := by
  obtain ⟨p, e, R, s, m, args, below, meth, c, Q, nL⟩ := Y
  obtain ⟨hx, hb, hml, hown, hts, hK, hce, hcs, hfr, hlo, hnl⟩ := C
  intro hX H locs la hP hS hL
  refine lv_tableOut hx hb hd ?_ ht (kk hX.2 H locs la hP hS hL)
  rcases Int.lt_or_le x.toInt lw with q | q
  · exact Or.inl q
  · rcases Int.lt_or_le hg x.toInt with q2 | q2
    · exact Or.inr q2
    · exfalso
      have h3 := hcov (x.toInt - lw).toNat (by omega)
      rw [show lw + ((x.toInt - lw).toNat : Int) = x.toInt by omega, Int32.ofInt_toInt] at h3
      exact hX.1 h3
theorem mj_lcase {α : Type} {A B : Option α} {P : α → Prop} (C : Cx K Y cs cc own mL f lo) {x : Int32} {L : List Int32} {dflt : Int} {ps : Array (Int × Int)} {len : Nat} (v : Int32) (tgt : Nat) {off : Int} (hd : decode cc pc = .ok (.lookupswitch dflt ps, len)) (hp : (ps.toList.zip (ps.toList.drop 1)).all (fun (a, next) => a.1 < next.1) = true) (ho : Op.lookupswitch.offset ps.toList dflt v.toInt = off) (ht : (pc : Int) + off = (tgt : Int)) (kt : J SH K Y cs (mj_O A P) tgt ls st h) (kf : J SH K Y cs (x ∉ v :: L ∧ mj_O B P) pc ls (.int x :: st) h) : J SH K Y cs (x ∉ L ∧ mj_O (if x = v then A else B) P) pc ls (.int x :: st) h := by
  by_cases hv : x = v
  · refine mj_X (X' := mj_O A P) (fun q => by have := q.2; rwa [if_pos hv] at this) ?_
    subst hv
    obtain ⟨p, e, R, s, m, args, below, meth, c, Q, nL⟩ := Y
    obtain ⟨hx, hb, hml, hown, hts, hK, hce, hcs, hfr, hlo, hnl⟩ := C
    intro hX H locs la hP hS hL
    exact lv_lookup hx hb hd hp ho ht (kt hX H locs la hP hS hL)
  · exact mj_X (fun q => ⟨fun hm => (List.mem_cons.mp hm).elim hv q.1, by have := q.2; rwa [if_neg hv] at this⟩) kf
theorem mj_ldflt {α : Type} {E : Option α} {P : α → Prop} (C : Cx K Y cs cc own mL f lo) {x : Int32} {L : List Int32} {dflt : Int} {ps : Array (Int × Int)} {len : Nat} (tgt : Nat) (hd : decode cc pc = .ok (.lookupswitch dflt ps, len)) (hp : (ps.toList.zip (ps.toList.drop 1)).all (fun (a, next) => a.1 < next.1) = true) (hcov : x ∉ L → Op.lookupswitch.offset ps.toList dflt x.toInt = dflt) (ht : (pc : Int) + dflt = (tgt : Int)) (kk : J SH K Y cs (mj_O E P) tgt ls st h) : J SH K Y cs (x ∉ L ∧ mj_O E P) pc ls (.int x :: st) h := by
  obtain ⟨p, e, R, s, m, args, below, meth, c, Q, nL⟩ := Y
  obtain ⟨hx, hb, hml, hown, hts, hK, hce, hcs, hfr, hlo, hnl⟩ := C
  intro hX H locs la hP hS hL
  exact lv_lookup hx hb hd hp (hcov hX.1) ht (kk hX.2 H locs la hP hS hL)
def FFd (own : String) (idx ci j : Nat) : Prop := ∃ (cn : String) (T : u_T) (N : Nat), vwCl[ci]? = some (cn, T, N) ∧ j < N ∧ (∀ w ∈ u_ws cn T N, w ∈ lw_ok) ∧ Cond.fieldLink own idx (T j).1 (T j).2.1 (T j).2.2.1 ∈ lw_ok
def FFp (own : String) (idx ci j : Nat) (ty : FieldType) : Prop := ∃ (cn : String) (T : u_T) (N : Nat) (ty0 : Nat → FieldType), vwCl[ci]? = some (cn, T, N) ∧ j < N ∧ (∀ w ∈ u_ws cn T N, w ∈ lw_ok) ∧ Cond.fieldLink own idx (T j).1 (T j).2.1 (T j).2.2.1 ∈ lw_ok ∧ (∀ k, k < N → parseFieldDescriptor (T k).2.2.1 = some (ty0 k)) ∧ (∀ a, a < N → ∀ b, b < N → a ≠ b → (T a).2.1 ≠ (T b).2.1) ∧ (T j).2.2.2 = false ∧ parseFieldDescriptor (T j).2.2.1 = some ty
theorem mj_getI (C : Cx K Y cs cc own mL f lo) {idx ci j k z : Nat} {ks : List (Nat × Nat)} (F : FFd own idx ci j) (hd : decode cc pc = .ok (.getfield idx, 3)) (hs : SH[k]? = some (.inl (ci, ks))) (hk : ks[j]? = some (0, z)) (kk : J SH K Y cs X (pc + 3) ls (.int (h k j) :: st) h) : J SH K Y cs X pc ls (rf K k :: st) h := by
  obtain ⟨p, e, R, s, m, args, below, meth, c, Q, nL⟩ := Y
  obtain ⟨hx, hb, hml, hown, hts, hK, hce, hcs, hfr, hlo, hnl⟩ := C
  intro hX H locs la hP hS hL
  obtain ⟨cn, T, N, f1, f2, f3, f4⟩ := F
  exact va_get hx hb hts f3 hown hK hP k (wl_at hs) f1 j f2 (hts _ f4) (fun _ h9 => h9) (by simp [List.getElem?_mapIdx, hk, fv]) hd (kk hX H locs la hP hS hL)
theorem mj_getR (C : Cx K Y cs cc own mL f lo) {idx ci j k q z : Nat} {ks : List (Nat × Nat)} (F : FFd own idx ci j) (hd : decode cc pc = .ok (.getfield idx, 3)) (hs : SH[k]? = some (.inl (ci, ks))) (hk : ks[j]? = some (1, q)) (kk : J SH K Y cs X (pc + 3) ls (rf K q :: st) h) : J SH K Y cs X pc ls (rf K k :: st) h := by
  obtain ⟨p, e, R, s, m, args, below, meth, c, Q, nL⟩ := Y
  obtain ⟨hx, hb, hml, hown, hts, hK, hce, hcs, hfr, hlo, hnl⟩ := C
  intro hX H locs la hP hS hL
  obtain ⟨cn, T, N, f1, f2, f3, f4⟩ := F
  exact va_get hx hb hts f3 hown hK hP k (wl_at hs) f1 j f2 (hts _ f4) (fun _ h9 => h9) (by simp [List.getElem?_mapIdx, hk, fv]) hd (kk hX H locs la hP hS hL)
theorem mj_getM (C : Cx K Y cs cc own mL f lo) {idx ci j k z : Nat} {ks : List (Nat × Nat)} (F : FFd own idx ci j) (hd : decode cc pc = .ok (.getfield idx, 3)) (hs : SH[k]? = some (.inl (ci, ks))) (hk : ks[j]? = some (2, z)) (kk : J SH K Y cs X (pc + 3) ls (rf K (md_dx (h k j)) :: st) h) : J SH K Y cs X pc ls (rf K k :: st) h := by
  obtain ⟨p, e, R, s, m, args, below, meth, c, Q, nL⟩ := Y
  obtain ⟨hx, hb, hml, hown, hts, hK, hce, hcs, hfr, hlo, hnl⟩ := C
  intro hX H locs la hP hS hL
  obtain ⟨cn, T, N, f1, f2, f3, f4⟩ := F
  exact va_get hx hb hts f3 hown hK hP k (wl_at hs) f1 j f2 (hts _ f4) (fun _ h9 => h9) (by simp [List.getElem?_mapIdx, hk, fv]) hd (kk hX H locs la hP hS hL)
theorem mj_putL {β : Type} {P : β → Prop} {k' : Mm → Option β} (C : Cx K Y cs cc own mL f lo) {idx ci j k z : Nat} {ks : List (Nat × Nat)} {v : Int32} {ty : FieldType} (F : FFp own idx ci j ty) (hd : decode cc pc = .ok (.putfield idx, 3)) (hs : SH[k]? = some (.inl (ci, ks))) (hk : ks[j]? = some (0, z)) (hn : narrow ty (.int v) = .int v) (hf : fits ty (.int v) = true) (kk : ∀ h' : Mm, J SH K Y cs (mj_O (k' h') P) (pc + 3) ls st h') : J SH K Y cs (mj_O (md_lt (md_up h k j v) k') P) pc ls (.int v :: rf K k :: st) h := by
  have kk := kk (md_up h k j v)
  obtain ⟨p, e, R, s, m, args, below, meth, c, Q, nL⟩ := Y
  obtain ⟨hx, hb, hml, hown, hts, hK, hce, hcs, hfr, hlo, hnl⟩ := C
  intro hX H locs la hP hS hL
  obtain ⟨cn, T, N, ty0, f1, f2, f3, f4, f5, f6, f7, f8⟩ := F
  refine va_put hx hb hts f3 ty0 f5 f6 hown hK hP (wl_D SH K h) hS k (wl_at hs) f1 j f2 (hts _ f4) (fun _ h9 => h9) f7 f8 hn hf (by simp; exact (List.getElem?_eq_some_iff.mp hk).1) hd (fun H1 locs1 hP1 hD1 hS1 => ?_)
  rw [wl_set (j := j) (v := v) hs (ce_int hk)] at hP1
  exact kk hX H1 locs1 la hP1 hS1 hL
theorem mj_putM {β : Type} {P : β → Prop} {k' : Mm → Option β} (C : Cx K Y cs cc own mL f lo) {idx ci j k q z : Nat} {ks : List (Nat × Nat)} {ty : FieldType} (F : FFp own idx ci j ty) (hd : decode cc pc = .ok (.putfield idx, 3)) (hs : SH[k]? = some (.inl (ci, ks))) (hk : ks[j]? = some (2, z)) (hq : md_dx (md_ex q) = q) (hn : ∀ a, narrow ty (.ref a) = .ref a) (hf : ∀ a, fits ty (.ref a) = true) (kk : ∀ h' : Mm, J SH K Y cs (mj_O (k' h') P) (pc + 3) ls st h') : J SH K Y cs (mj_O (md_lt (md_up h k j (md_ex q)) k') P) pc ls (rf K q :: rf K k :: st) h := by
  have kk := kk (md_up h k j (md_ex q))
  obtain ⟨p, e, R, s, m, args, below, meth, c, Q, nL⟩ := Y
  obtain ⟨hx, hb, hml, hown, hts, hK, hce, hcs, hfr, hlo, hnl⟩ := C
  intro hX H locs la hP hS hL
  obtain ⟨cn, T, N, ty0, f1, f2, f3, f4, f5, f6, f7, f8⟩ := F
  refine va_put hx hb hts f3 ty0 f5 f6 hown hK hP (wl_D SH K h) hS k (wl_at hs) f1 j f2 (hts _ f4) (fun _ h9 => h9) f7 f8 (hn _) (hf _) (by simp; exact (List.getElem?_eq_some_iff.mp hk).1) hd (fun H1 locs1 hP1 hD1 hS1 => ?_)
  rw [wl_set (j := j) (v := md_ex q) hs (ce_ref hk hq)] at hP1
  exact kk hX H1 locs1 la hP1 hS1 hL
theorem mj_iald {α : Type} {E : Option α} {P : α → Prop} (C : Cx K Y cs cc own mL f lo) {k n : Nat} {u : Nat × Nat} {i : Int32} (hd : decode cc pc = .ok (.iaload, 1)) (hs : SH[k]? = some (.inr (0, n, u))) (kk : J SH K Y cs (mj_O E P) (pc + 1) ls (.int (h k i.toNatClampNeg) :: st) h) : J SH K Y cs (mj_O (md_ck (md_in i n) E) P) pc ls (.int i :: rf K k :: st) h := mj_ckU (fun hc => by
  obtain ⟨p, e, R, s, m, args, below, meth, c, Q, nL⟩ := Y
  obtain ⟨hx, hb, hml, hown, hts, hK, hce, hcs, hfr, hlo, hnl⟩ := C
  intro hX H locs la hP hS hL
  exact va_iald hx hb hK hP k 0 (wl_at hs) rfl (md_in_vp hc) hd (kk hX H locs la hP hS hL))
theorem mj_zald {α : Type} {E : Option α} {P : α → Prop} (C : Cx K Y cs cc own mL f lo) {k n : Nat} {u : Nat × Nat} {i : Int32} (hd : decode cc pc = .ok (.baload, 1)) (hs : SH[k]? = some (.inr (1, n, u))) (kk : J SH K Y cs (mj_O E P) (pc + 1) ls (.int (h k i.toNatClampNeg) :: st) h) : J SH K Y cs (mj_O (md_ck (md_in i n) E) P) pc ls (.int i :: rf K k :: st) h := mj_ckU (fun hc => by
  obtain ⟨p, e, R, s, m, args, below, meth, c, Q, nL⟩ := Y
  obtain ⟨hx, hb, hml, hown, hts, hK, hce, hcs, hfr, hlo, hnl⟩ := C
  intro hX H locs la hP hS hL
  exact va_zald hx hb hK hP k 1 (wl_at hs) rfl (md_in_vp hc) hd (kk hX H locs la hP hS hL))
theorem mj_aald {α : Type} {E : Option α} {P : α → Prop} (C : Cx K Y cs cc own mL f lo) {k n q : Nat} {i : Int32} (hd : decode cc pc = .ok (.aaload, 1)) (hs : SH[k]? = some (.inr (2, n, q, n))) (kk : md_in i n = true → J SH K Y cs (mj_O E P) (pc + 1) ls (rf K (q + 2 * i.toNatClampNeg) :: st) h) : J SH K Y cs (mj_O (md_ck (md_in i n) E) P) pc ls (.int i :: rf K k :: st) h := mj_ckU (fun hc => by
  have kk := kk hc
  obtain ⟨p, e, R, s, m, args, below, meth, c, Q, nL⟩ := Y
  obtain ⟨hx, hb, hml, hown, hts, hK, hce, hcs, hfr, hlo, hnl⟩ := C
  intro hX H locs la hP hS hL
  have hlt : i.toNatClampNeg < n := Nat.not_le.mp fun q => (md_in_vp hc) (Or.inr q)
  refine va_aldq hx hb hK hP k 2 (C := RX4) (wl_at hs) rfl (md_in_vp hc) hd ?_
  simp only [if_pos hlt, va_rf]
  exact (kk hX H locs la hP hS hL))
theorem mj_iast {β : Type} {P : β → Prop} {k' : Mm → Option β} (C : Cx K Y cs cc own mL f lo) {k n : Nat} {u : Nat × Nat} {i x : Int32} (hd : decode cc pc = .ok (.iastore, 1)) (hs : SH[k]? = some (.inr (0, n, u))) (kk : ∀ h' : Mm, J SH K Y cs (mj_O (k' h') P) (pc + 1) ls st h') : J SH K Y cs (mj_O (md_ck (md_in i n) (md_lt (md_up h k i.toNatClampNeg x) k')) P) pc ls (.int x :: .int i :: rf K k :: st) h := mj_ckU (fun hc => by
  have kk := kk (md_up h k i.toNatClampNeg x)
  obtain ⟨p, e, R, s, m, args, below, meth, c, Q, nL⟩ := Y
  obtain ⟨hx, hb, hml, hown, hts, hK, hce, hcs, hfr, hlo, hnl⟩ := C
  intro hX H locs la hP hS hL
  refine va_iast hx hb hK hP (wl_D SH K h) hS k 0 (wl_at hs) rfl (md_in_vp hc) hd (fun H1 locs1 hP1 hD1 hS1 => ?_)
  rw [wl_set (j := i.toNatClampNeg) (v := x) hs (by simp only [ce, up_s])] at hP1
  exact kk hX H1 locs1 la hP1 hS1 hL)
theorem mj_zast {β : Type} {P : β → Prop} {k' : Mm → Option β} (C : Cx K Y cs cc own mL f lo) {k n : Nat} {u : Nat × Nat} {i : Int32} {v : Bool} (hd : decode cc pc = .ok (.bastore, 1)) (hs : SH[k]? = some (.inr (1, n, u))) (kk : ∀ h' : Mm, J SH K Y cs (mj_O (k' h') P) (pc + 1) ls st h') : J SH K Y cs (mj_O (md_ck (md_in i n) (md_lt (md_up h k i.toNatClampNeg (md_bi v)) k')) P) pc ls (.int (md_bi v) :: .int i :: rf K k :: st) h := mj_ckU (fun hc => by
  have kk := kk (md_up h k i.toNatClampNeg (md_bi v))
  obtain ⟨p, e, R, s, m, args, below, meth, c, Q, nL⟩ := Y
  obtain ⟨hx, hb, hml, hown, hts, hK, hce, hcs, hfr, hlo, hnl⟩ := C
  intro hX H locs la hP hS hL
  refine va_zast hx hb hK hP (wl_D SH K h) hS k 1 (wl_at hs) rfl (md_in_vp hc) hd (fun H1 locs1 hP1 hD1 hS1 => ?_)
  rw [md_bi_nar, wl_set (j := i.toNatClampNeg) (v := md_bi v) hs (by simp only [ce, up_s])] at hP1
  exact kk hX H1 locs1 la hP1 hS1 hL)
theorem mj_mmin (C : Cx K Y cs cc own mL f lo) {idx : Nat} {x y : Int32} (hw : Cond.methodLink own idx Lib.Math.min.name ∈ lw_ok) (h2 : Cond.static Lib.Math.min.name ∈ lw_ok) (h3 : Cond.initialized "java/lang/Math" ∈ lw_ok) (h4 : Cond.code Lib.Math.min.name Lib.Math.min.code 2 (some .int) ∈ lw_ok) (hf1 : 1 ≤ f) (hl1 : (st.map fun v => v.category).sum + 13 ≤ lo) (hd : decode cc pc = .ok (.invokestatic idx, 3)) (kk : J SH K Y cs X (pc + 3) ls (.int (if y < x then y else x) :: st) h) : J SH K Y cs X pc ls (.int y :: .int x :: st) h := by
  obtain ⟨p, e, R, s, m, args, below, meth, c, Q, nL⟩ := Y
  obtain ⟨hx, hb, hml, hown, hts, hK, hce, hcs, hfr, hlo, hnl⟩ := C
  intro hX H locs la hP hS hL
  exact va_mmin hx hb (by rw [hml, hL.1]) hown (hts _ hw) (hts _ h2) (hts _ h3) (hts _ h4) (Nat.le_trans hf1 hfr) (Nat.le_trans hl1 hlo) hce hcs hd (kk hX H locs la hP hS hL)
theorem mj_mmax (C : Cx K Y cs cc own mL f lo) {idx : Nat} {x y : Int32} (hw : Cond.methodLink own idx Lib.Math.max.name ∈ lw_ok) (h2 : Cond.static Lib.Math.max.name ∈ lw_ok) (h3 : Cond.initialized "java/lang/Math" ∈ lw_ok) (h4 : Cond.code Lib.Math.max.name Lib.Math.max.code 2 (some .int) ∈ lw_ok) (hf1 : 1 ≤ f) (hl1 : (st.map fun v => v.category).sum + 13 ≤ lo) (hd : decode cc pc = .ok (.invokestatic idx, 3)) (kk : J SH K Y cs X (pc + 3) ls (.int (if x < y then y else x) :: st) h) : J SH K Y cs X pc ls (.int y :: .int x :: st) h := by
  obtain ⟨p, e, R, s, m, args, below, meth, c, Q, nL⟩ := Y
  obtain ⟨hx, hb, hml, hown, hts, hK, hce, hcs, hfr, hlo, hnl⟩ := C
  intro hX H locs la hP hS hL
  exact va_mmax hx hb (by rw [hml, hL.1]) hown (hts _ hw) (hts _ h2) (hts _ h3) (hts _ h4) (Nat.le_trans hf1 hfr) (Nat.le_trans hl1 hlo) hce hcs hd (kk hX H locs la hP hS hL)
end MJ
theorem lw_goodIn (ws : List Cond) (h : ∀ w ∈ ws, w ∈ lw_ok) : GoodIn lw_ok ws := fun w hw => ⟨h w hw, good_of_word (List.mem_filter.mp (h w hw)).2⟩
/-- what the tables say of a method: its code; its parameters' number -/
def MY (y : MethodName) (bs : ByteArray) (mL : Nat) (rt : Option FieldType) (n : Nat) : Prop := Cond.code y bs mL rt ∈ lw_ok ∧ y.cls ≠ "java/lang/invoke/MethodHandle" ∧ y.cls ≠ "java/lang/invoke/VarHandle" ∧ (parseMethodDescriptor y.desc).map (fun d => d.parameters.length) = some n ∧ Cond.initialized y.cls ∈ lw_ok
/-- what they say of an instance method's link; of a static one's -/
def MV (own : String) (idx : Nat) (y : MethodName) : Prop := Cond.methodLink own idx y ∈ lw_ok ∧ Cond.instanceMethod y ∈ lw_ok ∧ Cond.selects y.cls y y ∈ lw_ok
def MS (own : String) (idx : Nat) (y : MethodName) : Prop := Cond.methodLink own idx y ∈ lw_ok ∧ Cond.static y ∈ lw_ok
section MJC
variable {SH : List Sh} {K : Kx} {Y : Yx} {cs : Nat × Nat} {X : Prop} {pc : Nat} {ls : List (Nat × Value)} {st : List Value} {h : Mm} {cc : ByteArray} {own : String} {mL f lo : Nat}
theorem mj_goes {α β : Type} {P : β → Prop} {E : α → Option β} {rv : Option Value} {h' : Mm} {p : Program} {e : Env} {R : Room} {s : State} {m : MethodId} {args : Array Value} {below : List Frame} {meth : Method} {c : Code} {Q : State → Prop} {nL : Nat} {H : Heap} {locs : List Loc} {la : Array Slot} {a : α} {av : Array Value} {st0 : List Value} (hX : mj_O (E a) P) (hS : va_S (fun q => kb K ≤ q) s.heap H locs) (hL : lv_has la nL ls)
    (hr : va_Run p K.1 e R s m args below meth c H locs cs.1 cs.2 0 0 (F0 m pc la st0) st (Qj SH K rv h' av) (fun q => kb K ≤ q))
    (kk : J SH K (p, e, R, s, m, args, below, meth, c, Q, nL) cs (mj_O (E a) P) (pc + 3) ls (rv.toList ++ st) h') : W p K.1 e R s m args below meth c H locs cs.1 cs.2 Q (F0 m pc la st0) := by
  intro T hT X
  obtain ⟨v, st₀, t, T', L, h0, X', hL2, e1, e2, ⟨hq1, hq2, hq3⟩, stp⟩ := hr T hT X
  cases hq1
  rw [← e1] at hq2
  have hS' : va_S (fun q => kb K ≤ q) s.heap T'.heap (locs ++ L) := by
    obtain ⟨z1, z2⟩ := hq3
    rw [h0] at z1 z2
    rw [e1]
    refine ⟨Nat.le_trans hS.1 z1, fun q h1 h2 => (z2 q (Nat.lt_of_lt_of_le h1 hS.1) h2).trans (hS.2.1 q h1 h2), fun q hq => ?_⟩
    rcases List.mem_append.mp hq with h3 | h3
    · exact hS.2.2 q h3
    · exact hL2 q h3
  obtain ⟨t2, a1, b1⟩ := kk hX T'.heap (locs ++ L) la hq2 hS' hL T' rfl X'
  exact ⟨t2, stp t2 a1, b1⟩
theorem mj_callV {α β : Type} {P : β → Prop} {F : Option α} {E : α → Option β} {rv : α → Option Value} {hv : α → Mm} (C : Cx K Y cs cc own mL f lo) {idx ci k n mL' f' lo' : Nat} {ks : List (Nat × Nat)} {y : MethodName} {bs : ByteArray} {rt : Option FieldType} {as st0 : List Value}
    (M1 : MY y bs mL' rt n) (M2 : MV own idx y) (hd : decode cc pc = .ok (.invokevirtual idx, 3)) (hs : SH[k]? = some (.inl (ci, ks))) (hc : (vwCl[ci]?).map (fun q => q.1) = some y.cls)
    (hM : ∀ a, F = some a → Mt K y bs mL' rt f' lo' SH (rf K k :: as) h (rv a) (hv a)) (hf1 : f' + 1 ≤ f) (hl1 : 8 + (mL' + 11) + lo' ≤ lo) (hn : as.length = n) (hst : as.reverse ++ rf K k :: st = st0) (hW : (st.map fun v => v.category).sum ≤ 8)
    (kk : ∀ a, J SH K Y cs (mj_O (E a) P) (pc + 3) ls ((rv a).toList ++ st) (hv a)) : J SH K Y cs (mj_O (F.bind E) P) pc ls st0 h := by
  subst hst
  obtain ⟨p, e, R, s, m, args, below, meth, c, Q, nL⟩ := Y
  obtain ⟨hx, hb, hml, hown, hts, hK, hce, hcs, hfr, hlo, hnl⟩ := C
  intro hX H locs la hP hS hL
  obtain ⟨v, hb1, hv1⟩ := hX
  cases hF : F with
  | none => rw [hF] at hb1; cases hb1
  | some a =>
    rw [hF] at hb1
    obtain ⟨r, hr1, hr2⟩ := Option.map_eq_some_iff.mp hc
    have hG : GoodIn lw_ok (wsV own idx y.cls y (.code y bs mL' rt :: lw_ok)) := lw_goodIn _ (fun w hw => by
      simp only [wsV, List.cons_append, List.nil_append, List.mem_cons] at hw
      rcases hw with rfl | rfl | rfl | rfl | rfl | hw
      · exact M2.1
      · exact M2.2.1
      · exact M2.2.2
      · exact M1.2.2.2.2
      · exact M1.1
      · exact hw)
    refine mj_goes (E := E) (a := a) ⟨v, hb1, hv1⟩ hS hL (va_runV (As := as) (rest := st) (C := y.cls) ⟨hx, hb, hml, hown, hts⟩ (hM a hF) (cwV n hts hG rfl rfl rfl ⟨rfl, M1.2.1, M1.2.2.1, M1.2.2.2.1⟩ ⟨Nat.le_trans hf1 hfr, Nat.le_trans hl1 hlo⟩) ⟨fun a U g mk q => ?_, ?_, fun U hU hW => ?_⟩ rfl hn hL.1 rfl (lv_room hW) hd ⟨hce, hcs⟩) (kk a)
    · obtain ⟨q0, qP, qK⟩ := q
      exact ⟨q0, qP, va_K.moved (u := U) (U := U.calling g mk a) (Vm.Alike.refl U.vm) qK⟩
    · have h9 := va_recv hK hP hr1 (wl_at hs)
      rw [hr2] at h9
      exact h9
    · exact ⟨rfl, by rw [hU]; exact hP, va_K.moved hW.alike hK⟩
theorem mj_callS {α β : Type} {P : β → Prop} {F : Option α} {E : α → Option β} {rv : α → Option Value} {hv : α → Mm} (C : Cx K Y cs cc own mL f lo) {idx n mL' f' lo' : Nat} {y : MethodName} {bs : ByteArray} {rt : Option FieldType} {as st0 : List Value}
    (M1 : MY y bs mL' rt n) (M2 : MS own idx y) (hd : decode cc pc = .ok (.invokestatic idx, 3))
    (hM : ∀ a, F = some a → Mt K y bs mL' rt f' lo' SH as h (rv a) (hv a)) (hf1 : f' + 1 ≤ f) (hl1 : 8 + (mL' + 11) + lo' ≤ lo) (hn : as.length = n) (hst : as.reverse ++ st = st0) (hW : (st.map fun v => v.category).sum ≤ 8)
    (kk : ∀ a, J SH K Y cs (mj_O (E a) P) (pc + 3) ls ((rv a).toList ++ st) (hv a)) : J SH K Y cs (mj_O (F.bind E) P) pc ls st0 h := by
  subst hst
  obtain ⟨p, e, R, s, m, args, below, meth, c, Q, nL⟩ := Y
  obtain ⟨hx, hb, hml, hown, hts, hK, hce, hcs, hfr, hlo, hnl⟩ := C
  intro hX H locs la hP hS hL
  obtain ⟨v, hb1, hv1⟩ := hX
  cases hF : F with
  | none => rw [hF] at hb1; cases hb1
  | some a =>
    rw [hF] at hb1
    have hG : GoodIn lw_ok (va_wsS own idx y (.code y bs mL' rt :: lw_ok)) := lw_goodIn _ (fun w hw => by
      simp only [va_wsS, List.cons_append, List.nil_append, List.mem_cons] at hw
      rcases hw with rfl | rfl | rfl | rfl | hw
      · exact M2.1
      · exact M2.2
      · exact M1.2.2.2.2
      · exact M1.1
      · exact hw)
    refine mj_goes (E := E) (a := a) ⟨v, hb1, hv1⟩ hS hL (va_runS (As := as) (rest := st) ⟨hx, hb, hml, hown, hts⟩ (hM a hF) (va_cwS n hts hG rfl rfl rfl ⟨M1.2.1, M1.2.2.1, M1.2.2.2.1⟩ ⟨Nat.le_trans hf1 hfr, Nat.le_trans hl1 hlo⟩) ⟨fun a U g mk q => ?_, fun U hU hW => ?_⟩ rfl hn hL.1 rfl (lv_room hW) hd ⟨hce, hcs⟩) (kk a)
    · obtain ⟨q0, qP, qK⟩ := q
      exact ⟨q0, qP, va_K.moved (u := U) (U := U.calling g mk a) (Vm.Alike.refl U.vm) qK⟩
    · exact ⟨rfl, by rw [hU]; exact hP, va_K.moved hW.alike hK⟩
theorem mj_vI {β : Type} {P : β → Prop} {F : Option Int32} {E : Int32 → Option β} (C : Cx K Y cs cc own mL f lo) {idx ci k n mL' f' lo' : Nat} {ks : List (Nat × Nat)} {y : MethodName} {bs : ByteArray} {rt : Option FieldType} {as st0 : List Value} (M1 : MY y bs mL' rt n) (M2 : MV own idx y) (hd : decode cc pc = .ok (.invokevirtual idx, 3)) (hs : SH[k]? = some (.inl (ci, ks))) (hc : (vwCl[ci]?).map (fun q => q.1) = some y.cls) (hM : ∀ a : Int32, F = some a → Mt K y bs mL' rt f' lo' SH (rf K k :: as) h (some (.int a)) h) (hf1 : f' + 1 ≤ f) (hl1 : 8 + (mL' + 11) + lo' ≤ lo) (hn : as.length = n) (hst : as.reverse ++ rf K k :: st = st0) (hW : (st.map fun v => v.category).sum ≤ 8) (kk : ∀ r : Int32, J SH K Y cs (mj_O (E r) P) (pc + 3) ls (.int r :: st) h) : J SH K Y cs (mj_O (md_bd F E) P) pc ls st0 h := mj_callV (E := E) (rv := fun r => some (.int r)) (hv := fun _ => h) C M1 M2 hd hs hc hM hf1 hl1 hn hst hW (fun r => kk r)
theorem mj_sI {β : Type} {P : β → Prop} {F : Option Int32} {E : Int32 → Option β} (C : Cx K Y cs cc own mL f lo) {idx n mL' f' lo' : Nat} {y : MethodName} {bs : ByteArray} {rt : Option FieldType} {as st0 : List Value} (M1 : MY y bs mL' rt n) (M2 : MS own idx y) (hd : decode cc pc = .ok (.invokestatic idx, 3)) (hM : ∀ a : Int32, F = some a → Mt K y bs mL' rt f' lo' SH as h (some (.int a)) h) (hf1 : f' + 1 ≤ f) (hl1 : 8 + (mL' + 11) + lo' ≤ lo) (hn : as.length = n) (hst : as.reverse ++ st = st0) (hW : (st.map fun v => v.category).sum ≤ 8) (kk : ∀ r : Int32, J SH K Y cs (mj_O (E r) P) (pc + 3) ls (.int r :: st) h) : J SH K Y cs (mj_O (md_bd F E) P) pc ls st0 h := mj_callS (E := E) (rv := fun r => some (.int r)) (hv := fun _ => h) C M1 M2 hd hM hf1 hl1 hn hst hW (fun r => kk r)
theorem mj_vB {β : Type} {P : β → Prop} {F : Option Bool} {E : Bool → Option β} (C : Cx K Y cs cc own mL f lo) {idx ci k n mL' f' lo' : Nat} {ks : List (Nat × Nat)} {y : MethodName} {bs : ByteArray} {rt : Option FieldType} {as st0 : List Value} (M1 : MY y bs mL' rt n) (M2 : MV own idx y) (hd : decode cc pc = .ok (.invokevirtual idx, 3)) (hs : SH[k]? = some (.inl (ci, ks))) (hc : (vwCl[ci]?).map (fun q => q.1) = some y.cls) (hM : ∀ a : Bool, F = some a → Mt K y bs mL' rt f' lo' SH (rf K k :: as) h (some (.int (md_bi a))) h) (hf1 : f' + 1 ≤ f) (hl1 : 8 + (mL' + 11) + lo' ≤ lo) (hn : as.length = n) (hst : as.reverse ++ rf K k :: st = st0) (hW : (st.map fun v => v.category).sum ≤ 8) (kk : ∀ r : Bool, J SH K Y cs (mj_O (E r) P) (pc + 3) ls (.int (md_bi r) :: st) h) : J SH K Y cs (mj_O (md_bd F E) P) pc ls st0 h := mj_callV (E := E) (rv := fun r => some (.int (md_bi r))) (hv := fun _ => h) C M1 M2 hd hs hc hM hf1 hl1 hn hst hW (fun r => kk r)
theorem mj_sB {β : Type} {P : β → Prop} {F : Option Bool} {E : Bool → Option β} (C : Cx K Y cs cc own mL f lo) {idx n mL' f' lo' : Nat} {y : MethodName} {bs : ByteArray} {rt : Option FieldType} {as st0 : List Value} (M1 : MY y bs mL' rt n) (M2 : MS own idx y) (hd : decode cc pc = .ok (.invokestatic idx, 3)) (hM : ∀ a : Bool, F = some a → Mt K y bs mL' rt f' lo' SH as h (some (.int (md_bi a))) h) (hf1 : f' + 1 ≤ f) (hl1 : 8 + (mL' + 11) + lo' ≤ lo) (hn : as.length = n) (hst : as.reverse ++ st = st0) (hW : (st.map fun v => v.category).sum ≤ 8) (kk : ∀ r : Bool, J SH K Y cs (mj_O (E r) P) (pc + 3) ls (.int (md_bi r) :: st) h) : J SH K Y cs (mj_O (md_bd F E) P) pc ls st0 h := mj_callS (E := E) (rv := fun r => some (.int (md_bi r))) (hv := fun _ => h) C M1 M2 hd hM hf1 hl1 hn hst hW (fun r => kk r)
theorem mj_vM {β : Type} {P : β → Prop} {F : Option Mm} {E : Mm → Option β} (C : Cx K Y cs cc own mL f lo) {idx ci k n mL' f' lo' : Nat} {ks : List (Nat × Nat)} {y : MethodName} {bs : ByteArray} {rt : Option FieldType} {as st0 : List Value} (M1 : MY y bs mL' rt n) (M2 : MV own idx y) (hd : decode cc pc = .ok (.invokevirtual idx, 3)) (hs : SH[k]? = some (.inl (ci, ks))) (hc : (vwCl[ci]?).map (fun q => q.1) = some y.cls) (hM : ∀ a : Mm, F = some a → Mt K y bs mL' rt f' lo' SH (rf K k :: as) h none a) (hf1 : f' + 1 ≤ f) (hl1 : 8 + (mL' + 11) + lo' ≤ lo) (hn : as.length = n) (hst : as.reverse ++ rf K k :: st = st0) (hW : (st.map fun v => v.category).sum ≤ 8) (kk : ∀ r : Mm, J SH K Y cs (mj_O (E r) P) (pc + 3) ls (st) r) : J SH K Y cs (mj_O (md_bd F E) P) pc ls st0 h := mj_callV (E := E) (rv := fun _ => none) (hv := fun r => r) C M1 M2 hd hs hc hM hf1 hl1 hn hst hW (fun r => kk r)
theorem mj_sM {β : Type} {P : β → Prop} {F : Option Mm} {E : Mm → Option β} (C : Cx K Y cs cc own mL f lo) {idx n mL' f' lo' : Nat} {y : MethodName} {bs : ByteArray} {rt : Option FieldType} {as st0 : List Value} (M1 : MY y bs mL' rt n) (M2 : MS own idx y) (hd : decode cc pc = .ok (.invokestatic idx, 3)) (hM : ∀ a : Mm, F = some a → Mt K y bs mL' rt f' lo' SH as h none a) (hf1 : f' + 1 ≤ f) (hl1 : 8 + (mL' + 11) + lo' ≤ lo) (hn : as.length = n) (hst : as.reverse ++ st = st0) (hW : (st.map fun v => v.category).sum ≤ 8) (kk : ∀ r : Mm, J SH K Y cs (mj_O (E r) P) (pc + 3) ls (st) r) : J SH K Y cs (mj_O (md_bd F E) P) pc ls st0 h := mj_callS (E := E) (rv := fun _ => none) (hv := fun r => r) C M1 M2 hd hM hf1 hl1 hn hst hW (fun r => kk r)
theorem mj_vIM {β : Type} {P : β → Prop} {F : Option (Int32 × Mm)} {E : Int32 → Mm → Option β} (C : Cx K Y cs cc own mL f lo) {idx ci k n mL' f' lo' : Nat} {ks : List (Nat × Nat)} {y : MethodName} {bs : ByteArray} {rt : Option FieldType} {as st0 : List Value} (M1 : MY y bs mL' rt n) (M2 : MV own idx y) (hd : decode cc pc = .ok (.invokevirtual idx, 3)) (hs : SH[k]? = some (.inl (ci, ks))) (hc : (vwCl[ci]?).map (fun q => q.1) = some y.cls) (hM : ∀ a : Int32 × Mm, F = some a → Mt K y bs mL' rt f' lo' SH (rf K k :: as) h (some (.int a.1)) a.2) (hf1 : f' + 1 ≤ f) (hl1 : 8 + (mL' + 11) + lo' ≤ lo) (hn : as.length = n) (hst : as.reverse ++ rf K k :: st = st0) (hW : (st.map fun v => v.category).sum ≤ 8) (kk : ∀ (r : Int32) (h' : Mm), J SH K Y cs (mj_O (E r h') P) (pc + 3) ls (.int r :: st) h') : J SH K Y cs (mj_O (md_b2 F E) P) pc ls st0 h := mj_callV (E := fun q : Int32 × Mm => E q.1 q.2) (rv := fun q : Int32 × Mm => some (.int q.1)) (hv := fun q : Int32 × Mm => q.2) C M1 M2 hd hs hc hM hf1 hl1 hn hst hW (fun q => kk q.1 q.2)
theorem mj_sIM {β : Type} {P : β → Prop} {F : Option (Int32 × Mm)} {E : Int32 → Mm → Option β} (C : Cx K Y cs cc own mL f lo) {idx n mL' f' lo' : Nat} {y : MethodName} {bs : ByteArray} {rt : Option FieldType} {as st0 : List Value} (M1 : MY y bs mL' rt n) (M2 : MS own idx y) (hd : decode cc pc = .ok (.invokestatic idx, 3)) (hM : ∀ a : Int32 × Mm, F = some a → Mt K y bs mL' rt f' lo' SH as h (some (.int a.1)) a.2) (hf1 : f' + 1 ≤ f) (hl1 : 8 + (mL' + 11) + lo' ≤ lo) (hn : as.length = n) (hst : as.reverse ++ st = st0) (hW : (st.map fun v => v.category).sum ≤ 8) (kk : ∀ (r : Int32) (h' : Mm), J SH K Y cs (mj_O (E r h') P) (pc + 3) ls (.int r :: st) h') : J SH K Y cs (mj_O (md_b2 F E) P) pc ls st0 h := mj_callS (E := fun q : Int32 × Mm => E q.1 q.2) (rv := fun q : Int32 × Mm => some (.int q.1)) (hv := fun q : Int32 × Mm => q.2) C M1 M2 hd hM hf1 hl1 hn hst hW (fun q => kk q.1 q.2)
theorem mj_vBM {β : Type} {P : β → Prop} {F : Option (Bool × Mm)} {E : Bool → Mm → Option β} (C : Cx K Y cs cc own mL f lo) {idx ci k n mL' f' lo' : Nat} {ks : List (Nat × Nat)} {y : MethodName} {bs : ByteArray} {rt : Option FieldType} {as st0 : List Value} (M1 : MY y bs mL' rt n) (M2 : MV own idx y) (hd : decode cc pc = .ok (.invokevirtual idx, 3)) (hs : SH[k]? = some (.inl (ci, ks))) (hc : (vwCl[ci]?).map (fun q => q.1) = some y.cls) (hM : ∀ a : Bool × Mm, F = some a → Mt K y bs mL' rt f' lo' SH (rf K k :: as) h (some (.int (md_bi a.1))) a.2) (hf1 : f' + 1 ≤ f) (hl1 : 8 + (mL' + 11) + lo' ≤ lo) (hn : as.length = n) (hst : as.reverse ++ rf K k :: st = st0) (hW : (st.map fun v => v.category).sum ≤ 8) (kk : ∀ (r : Bool) (h' : Mm), J SH K Y cs (mj_O (E r h') P) (pc + 3) ls (.int (md_bi r) :: st) h') : J SH K Y cs (mj_O (md_b2 F E) P) pc ls st0 h := mj_callV (E := fun q : Bool × Mm => E q.1 q.2) (rv := fun q : Bool × Mm => some (.int (md_bi q.1))) (hv := fun q : Bool × Mm => q.2) C M1 M2 hd hs hc hM hf1 hl1 hn hst hW (fun q => kk q.1 q.2)
theorem mj_sBM {β : Type} {P : β → Prop} {F : Option (Bool × Mm)} {E : Bool → Mm → Option β} (C : Cx K Y cs cc own mL f lo) {idx n mL' f' lo' : Nat} {y : MethodName} {bs : ByteArray} {rt : Option FieldType} {as st0 : List Value} (M1 : MY y bs mL' rt n) (M2 : MS own idx y) (hd : decode cc pc = .ok (.invokestatic idx, 3)) (hM : ∀ a : Bool × Mm, F = some a → Mt K y bs mL' rt f' lo' SH as h (some (.int (md_bi a.1))) a.2) (hf1 : f' + 1 ≤ f) (hl1 : 8 + (mL' + 11) + lo' ≤ lo) (hn : as.length = n) (hst : as.reverse ++ st = st0) (hW : (st.map fun v => v.category).sum ≤ 8) (kk : ∀ (r : Bool) (h' : Mm), J SH K Y cs (mj_O (E r h') P) (pc + 3) ls (.int (md_bi r) :: st) h') : J SH K Y cs (mj_O (md_b2 F E) P) pc ls st0 h := mj_callS (E := fun q : Bool × Mm => E q.1 q.2) (rv := fun q : Bool × Mm => some (.int (md_bi q.1))) (hv := fun q : Bool × Mm => q.2) C M1 M2 hd hM hf1 hl1 hn hst hW (fun q => kk q.1 q.2)
theorem mj_vRM {β : Type} {P : β → Prop} {F : Option (Nat × Mm)} {E : Nat → Mm → Option β} (C : Cx K Y cs cc own mL f lo) {idx ci k n mL' f' lo' : Nat} {ks : List (Nat × Nat)} {y : MethodName} {bs : ByteArray} {rt : Option FieldType} {as st0 : List Value} (M1 : MY y bs mL' rt n) (M2 : MV own idx y) (hd : decode cc pc = .ok (.invokevirtual idx, 3)) (hs : SH[k]? = some (.inl (ci, ks))) (hc : (vwCl[ci]?).map (fun q => q.1) = some y.cls) (hM : ∀ a : Nat × Mm, F = some a → Mt K y bs mL' rt f' lo' SH (rf K k :: as) h (some (rf K a.1)) a.2) (hf1 : f' + 1 ≤ f) (hl1 : 8 + (mL' + 11) + lo' ≤ lo) (hn : as.length = n) (hst : as.reverse ++ rf K k :: st = st0) (hW : (st.map fun v => v.category).sum ≤ 8) (kk : ∀ (r : Nat) (h' : Mm), J SH K Y cs (mj_O (E r h') P) (pc + 3) ls (rf K r :: st) h') : J SH K Y cs (mj_O (md_b2 F E) P) pc ls st0 h := mj_callV (E := fun q : Nat × Mm => E q.1 q.2) (rv := fun q : Nat × Mm => some (rf K q.1)) (hv := fun q : Nat × Mm => q.2) C M1 M2 hd hs hc hM hf1 hl1 hn hst hW (fun q => kk q.1 q.2)
theorem mj_sRM {β : Type} {P : β → Prop} {F : Option (Nat × Mm)} {E : Nat → Mm → Option β} (C : Cx K Y cs cc own mL f lo) {idx n mL' f' lo' : Nat} {y : MethodName} {bs : ByteArray} {rt : Option FieldType} {as st0 : List Value} (M1 : MY y bs mL' rt n) (M2 : MS own idx y) (hd : decode cc pc = .ok (.invokestatic idx, 3)) (hM : ∀ a : Nat × Mm, F = some a → Mt K y bs mL' rt f' lo' SH as h (some (rf K a.1)) a.2) (hf1 : f' + 1 ≤ f) (hl1 : 8 + (mL' + 11) + lo' ≤ lo) (hn : as.length = n) (hst : as.reverse ++ st = st0) (hW : (st.map fun v => v.category).sum ≤ 8) (kk : ∀ (r : Nat) (h' : Mm), J SH K Y cs (mj_O (E r h') P) (pc + 3) ls (rf K r :: st) h') : J SH K Y cs (mj_O (md_b2 F E) P) pc ls st0 h := mj_callS (E := fun q : Nat × Mm => E q.1 q.2) (rv := fun q : Nat × Mm => some (rf K q.1)) (hv := fun q : Nat × Mm => q.2) C M1 M2 hd hM hf1 hl1 hn hst hW (fun q => kk q.1 q.2)
theorem mj_retI {x : Int32} (C : Cx K Y (0, 0) cc own mL f lo) (N : En SH K Y (some (.int x)) h (some .int)) (hd : decode cc pc = .ok (.ireturn, 1)) : J SH K Y (0, 0) X pc ls [.int x] h := by
  obtain ⟨p, e, R, s, m, args, below, meth, c, Q, nL⟩ := Y
  obtain ⟨hx, hb, hml, hown, hts, hK, hce, hcs, hfr, hlo, hnl⟩ := C
  obtain ⟨rfl, hrt, hlk⟩ := N
  intro hX H locs la hP hS hL
  exact W.iret hx hb hrt (fun t ht hW => ⟨rfl, by rw [ht]; exact hP, hS.F ht⟩) hS.2.2 hd hlk
theorem mj_retZ {x : Bool} (C : Cx K Y (0, 0) cc own mL f lo) (N : En SH K Y (some (.int (md_bi x))) h (some .boolean)) (hd : decode cc pc = .ok (.ireturn, 1)) : J SH K Y (0, 0) X pc ls [.int (md_bi x)] h := by
  obtain ⟨p, e, R, s, m, args, below, meth, c, Q, nL⟩ := Y
  obtain ⟨hx, hb, hml, hown, hts, hK, hce, hcs, hfr, hlo, hnl⟩ := C
  obtain ⟨rfl, hrt, hlk⟩ := N
  intro hX H locs la hP hS hL
  exact W.zret hx hb hrt (md_bi_narrow x) (fun t ht hW => ⟨rfl, by rw [ht]; exact hP, hS.F ht⟩) hS.2.2 hd hlk
theorem mj_retV (C : Cx K Y (0, 0) cc own mL f lo) (N : En SH K Y none h none) (hd : decode cc pc = .ok (.return_, 1)) : J SH K Y (0, 0) X pc ls [] h := by
  obtain ⟨p, e, R, s, m, args, below, meth, c, Q, nL⟩ := Y
  obtain ⟨hx, hb, hml, hown, hts, hK, hce, hcs, hfr, hlo, hnl⟩ := C
  obtain ⟨rfl, hrt, hlk⟩ := N
  intro hX H locs la hP hS hL
  exact W.vret hx hb hrt (fun t ht hW => ⟨rfl, by rw [ht]; exact hP, hS.F ht⟩) hS.2.2 hd hlk
theorem mj_retA {x : Nat} {cn : String} (C : Cx K Y (0, 0) cc own mL f lo) (N : En SH K Y (some (rf K x)) h (some (.object cn))) (hd : decode cc pc = .ok (.areturn, 1)) : J SH K Y (0, 0) X pc ls [rf K x] h := by
  obtain ⟨p, e, R, s, m, args, below, meth, c, Q, nL⟩ := Y
  obtain ⟨hx, hb, hml, hown, hts, hK, hce, hcs, hfr, hlo, hnl⟩ := C
  obtain ⟨rfl, hrt, hlk⟩ := N
  intro hX H locs la hP hS hL
  exact W.aret hx hb hrt (Or.inl ⟨_, rfl⟩) (Or.inr ⟨_, rfl⟩) (fun t ht hW => ⟨rfl, by rw [ht]; exact hP, hS.F ht⟩) hS.2.2 hd hlk
theorem mj_rI {r a : Int32} (C : Cx K Y (0, 0) cc own mL f lo) (N : En SH K Y (some (.int a)) h (some .int)) (hd : decode cc pc = .ok (.ireturn, 1)) : J SH K Y (0, 0) (mj_O (some r) (fun v => v = a)) pc ls [.int r] h := mj_use (fun q => by
  obtain ⟨_, h1, rfl⟩ := q
  cases h1
  exact mj_retI C N hd)
theorem mj_rZ {r a : Bool} (C : Cx K Y (0, 0) cc own mL f lo) (N : En SH K Y (some (.int (md_bi a))) h (some .boolean)) (hd : decode cc pc = .ok (.ireturn, 1)) : J SH K Y (0, 0) (mj_O (some r) (fun v => v = a)) pc ls [.int (md_bi r)] h := mj_use (fun q => by
  obtain ⟨_, h1, rfl⟩ := q
  cases h1
  exact mj_retZ C N hd)
theorem mj_rV {a : Mm} (C : Cx K Y (0, 0) cc own mL f lo) (N : En SH K Y none a none) (hd : decode cc pc = .ok (.return_, 1)) : J SH K Y (0, 0) (mj_O (some h) (fun v => v = a)) pc ls [] h := mj_use (fun q => by
  obtain ⟨_, h1, rfl⟩ := q
  cases h1
  exact mj_retV C N hd)
theorem mj_rIM {r : Int32} {a : Int32 × Mm} (C : Cx K Y (0, 0) cc own mL f lo) (N : En SH K Y (some (.int a.1)) a.2 (some .int)) (hd : decode cc pc = .ok (.ireturn, 1)) : J SH K Y (0, 0) (mj_O (some (r, h)) (fun v => v = a)) pc ls [.int r] h := mj_use (fun q => by
  obtain ⟨_, h1, rfl⟩ := q
  cases h1
  exact mj_retI C N hd)
theorem mj_rZM {r : Bool} {a : Bool × Mm} (C : Cx K Y (0, 0) cc own mL f lo) (N : En SH K Y (some (.int (md_bi a.1))) a.2 (some .boolean)) (hd : decode cc pc = .ok (.ireturn, 1)) : J SH K Y (0, 0) (mj_O (some (r, h)) (fun v => v = a)) pc ls [.int (md_bi r)] h := mj_use (fun q => by
  obtain ⟨_, h1, rfl⟩ := q
  cases h1
  exact mj_retZ C N hd)
theorem mj_rAM {r : Nat} {a : Nat × Mm} {cn : String} (C : Cx K Y (0, 0) cc own mL f lo) (N : En SH K Y (some (rf K a.1)) a.2 (some (.object cn))) (hd : decode cc pc = .ok (.areturn, 1)) : J SH K Y (0, 0) (mj_O (some (r, h)) (fun v => v = a)) pc ls [rf K r] h := mj_use (fun q => by
  obtain ⟨_, h1, rfl⟩ := q
  cases h1
  exact mj_retA C N hd)
end MJC
theorem mj_phi1 {SH : List Sh} {K : Kx} {Y : Yx} {cs : Nat × Nat} {pc : Nat} {ls : List (Nat × Value)} {st : List Value} {h : Mm} {α β : Type} {F : Option (α)} {k : α → Option β} {P : β → Prop} (pj : Nat) (l' : α → List (Nat × Value)) (s' : α → List Value) (h' : α → Mm) (ka : ∀ P' : α → Prop, (∀ v1, J SH K Y cs (P' v1) pj (l' v1) (s' v1) (h' v1)) → J SH K Y cs (mj_O F P') pc ls st h) (kk : ∀ v1, J SH K Y cs (mj_O (k v1) P) pj (l' v1) (s' v1) (h' v1)) : J SH K Y cs (mj_O (md_bd F k) P) pc ls st h := mj_bd (ka (fun q => mj_O (k q) P) kk)
theorem mj_phi2 {SH : List Sh} {K : Kx} {Y : Yx} {cs : Nat × Nat} {pc : Nat} {ls : List (Nat × Value)} {st : List Value} {h : Mm} {α γ β : Type} {F : Option (α × γ)} {k : α → γ → Option β} {P : β → Prop} (pj : Nat) (l' : α → γ → List (Nat × Value)) (s' : α → γ → List Value) (h' : α → γ → Mm) (ka : ∀ P' : α × γ → Prop, (∀ v1 v2, J SH K Y cs (P' (v1, v2)) pj (l' v1 v2) (s' v1 v2) (h' v1 v2)) → J SH K Y cs (mj_O F P') pc ls st h) (kk : ∀ v1 v2, J SH K Y cs (mj_O (k v1 v2) P) pj (l' v1 v2) (s' v1 v2) (h' v1 v2)) : J SH K Y cs (mj_O (md_b2 F k) P) pc ls st h := mj_b2 (ka (fun q => mj_O (k q.1 q.2) P) kk)
theorem mj_phi3 {SH : List Sh} {K : Kx} {Y : Yx} {cs : Nat × Nat} {pc : Nat} {ls : List (Nat × Value)} {st : List Value} {h : Mm} {α γ δ β : Type} {F : Option (α × γ × δ)} {k : α → γ → δ → Option β} {P : β → Prop} (pj : Nat) (l' : α → γ → δ → List (Nat × Value)) (s' : α → γ → δ → List Value) (h' : α → γ → δ → Mm) (ka : ∀ P' : α × γ × δ → Prop, (∀ v1 v2 v3, J SH K Y cs (P' (v1, v2, v3)) pj (l' v1 v2 v3) (s' v1 v2 v3) (h' v1 v2 v3)) → J SH K Y cs (mj_O F P') pc ls st h) (kk : ∀ v1 v2 v3, J SH K Y cs (mj_O (k v1 v2 v3) P) pj (l' v1 v2 v3) (s' v1 v2 v3) (h' v1 v2 v3)) : J SH K Y cs (mj_O (md_b3 F k) P) pc ls st h := mj_b3 (ka (fun q => mj_O (k q.1 q.2.1 q.2.2) P) kk)
theorem mj_phi4 {SH : List Sh} {K : Kx} {Y : Yx} {cs : Nat × Nat} {pc : Nat} {ls : List (Nat × Value)} {st : List Value} {h : Mm} {α γ δ ε β : Type} {F : Option (α × γ × δ × ε)} {k : α → γ → δ → ε → Option β} {P : β → Prop} (pj : Nat) (l' : α → γ → δ → ε → List (Nat × Value)) (s' : α → γ → δ → ε → List Value) (h' : α → γ → δ → ε → Mm) (ka : ∀ P' : α × γ × δ × ε → Prop, (∀ v1 v2 v3 v4, J SH K Y cs (P' (v1, v2, v3, v4)) pj (l' v1 v2 v3 v4) (s' v1 v2 v3 v4) (h' v1 v2 v3 v4)) → J SH K Y cs (mj_O F P') pc ls st h) (kk : ∀ v1 v2 v3 v4, J SH K Y cs (mj_O (k v1 v2 v3 v4) P) pj (l' v1 v2 v3 v4) (s' v1 v2 v3 v4) (h' v1 v2 v3 v4)) : J SH K Y cs (mj_O (md_b4 F k) P) pc ls st h := mj_b4 (ka (fun q => mj_O (k q.1 q.2.1 q.2.2.1 q.2.2.2) P) kk)
theorem mj_phi5 {SH : List Sh} {K : Kx} {Y : Yx} {cs : Nat × Nat} {pc : Nat} {ls : List (Nat × Value)} {st : List Value} {h : Mm} {α γ δ ε ζ β : Type} {F : Option (α × γ × δ × ε × ζ)} {k : α → γ → δ → ε → ζ → Option β} {P : β → Prop} (pj : Nat) (l' : α → γ → δ → ε → ζ → List (Nat × Value)) (s' : α → γ → δ → ε → ζ → List Value) (h' : α → γ → δ → ε → ζ → Mm) (ka : ∀ P' : α × γ × δ × ε × ζ → Prop, (∀ v1 v2 v3 v4 v5, J SH K Y cs (P' (v1, v2, v3, v4, v5)) pj (l' v1 v2 v3 v4 v5) (s' v1 v2 v3 v4 v5) (h' v1 v2 v3 v4 v5)) → J SH K Y cs (mj_O F P') pc ls st h) (kk : ∀ v1 v2 v3 v4 v5, J SH K Y cs (mj_O (k v1 v2 v3 v4 v5) P) pj (l' v1 v2 v3 v4 v5) (s' v1 v2 v3 v4 v5) (h' v1 v2 v3 v4 v5)) : J SH K Y cs (mj_O (md_b5 F k) P) pc ls st h := mj_b5 (ka (fun q => mj_O (k q.1 q.2.1 q.2.2.1 q.2.2.2.1 q.2.2.2.2) P) kk)
theorem mj_phiS {SH : List Sh} {K : Kx} {Y : Yx} {cs : Nat × Nat} {pc : Nat} {ls : List (Nat × Value)} {st : List Value} {h : Mm} {α γ β : Type} {F : Option (α ⊕ γ)} {k1 : α → Option β} {k2 : γ → Option β} {P : β → Prop} (p1 p2 : Nat) (l1 : α → List (Nat × Value)) (l2 : γ → List (Nat × Value)) (h1 : α → Mm) (h2 : γ → Mm) (ka : ∀ P' : α ⊕ γ → Prop, (∀ a, J SH K Y cs (P' (.inl a)) p1 (l1 a) [] (h1 a)) → (∀ a, J SH K Y cs (P' (.inr a)) p2 (l2 a) [] (h2 a)) → J SH K Y cs (mj_O F P') pc ls st h) (kk1 : ∀ a, J SH K Y cs (mj_O (k1 a) P) p1 (l1 a) [] (h1 a)) (kk2 : ∀ a, J SH K Y cs (mj_O (k2 a) P) p2 (l2 a) [] (h2 a)) : J SH K Y cs (mj_O (md_bS F k1 k2) P) pc ls st h := mj_bS (ka (mj_P2 k1 k2 P) kk1 kk2)
/-- fuel that no loop of the class uses up -/
def md_N : Nat := 100000000
end
section
theorem lw_s {w : Cond} (i : Nat) (h : (k2_sels lw_privs)[i]? = some w) (g : goodWord w = true) : w ∈ lw_ok := List.mem_filter.mpr ⟨List.mem_append_left _ (List.mem_of_getElem? h), g⟩
theorem lw_ta {w : Cond} (h : w ∈ tables_1) (g : goodWord w = true) : w ∈ lw_ok := List.mem_filter.mpr ⟨List.mem_append_right _ h, g⟩
theorem lw_i1 {w : Cond} (i : Nat) (h : tables_1_1[i]? = some w) (g : goodWord w = true) : w ∈ lw_ok := lw_ta (List.mem_append_left _ (List.mem_of_getElem? h)) g
theorem lw_i2 {w : Cond} (i : Nat) (h : tables_1_2[i]? = some w) (g : goodWord w = true) : w ∈ lw_ok := lw_ta (List.mem_append_right _ (List.mem_append_left _ (List.mem_of_getElem? h))) g
theorem lw_i3 {w : Cond} (i : Nat) (h : tables_1_3[i]? = some w) (g : goodWord w = true) : w ∈ lw_ok := lw_ta (List.mem_append_right _ (List.mem_append_right _ (List.mem_append_left _ (List.mem_of_getElem? h)))) g
theorem lw_i4 {w : Cond} (i : Nat) (h : tables_1_4[i]? = some w) (g : goodWord w = true) : w ∈ lw_ok := lw_ta (List.mem_append_right _ (List.mem_append_right _ (List.mem_append_right _ (List.mem_append_left _ (List.mem_of_getElem? h))))) g
theorem lw_i5 {w : Cond} (i : Nat) (h : tables_1_5[i]? = some w) (g : goodWord w = true) : w ∈ lw_ok := lw_ta (List.mem_append_right _ (List.mem_append_right _ (List.mem_append_right _ (List.mem_append_right _ (List.mem_of_getElem? h))))) g
def SHc : List Sh := [.inl (7, [(1, 1), (1, 13), (1, 15), (1, 57), (1, 65), (1, 70), (1, 73), (2, 0), (0, 0)]), .inl (6, [(1, 2), (0, 0), (0, 0), (0, 0), (0, 0), (0, 0), (2, 0)]), .inr (0, 240, 0, 0), .inl (1, [(0, 0), (0, 0), (0, 0), (0, 0), (1, 4), (0, 0), (1, 5), (1, 6), (1, 7), (0, 0), (1, 8), (1, 9), (1, 10), (0, 0), (0, 0), (1, 11), (1, 12)]), .inr (0, 8, 0, 0), .inr (0, 10, 0, 0), .inr (0, 10, 0, 0), .inr (0, 10, 0, 0), .inr (0, 10, 0, 0), .inr (0, 10, 0, 0), .inr (0, 10, 0, 0), .inr (0, 5, 0, 0), .inr (0, 256, 0, 0), .inl (4, [(1, 14), (0, 0), (0, 0), (0, 0), (0, 0)]), .inr (0, 5, 0, 0), .inl (3, [(1, 16), (0, 0), (0, 0)]), .inr (2, 20, 17, 20), .inl (4, [(1, 18), (0, 0), (0, 0), (0, 0), (0, 0)]), .inr (0, 5, 0, 0), .inl (4, [(1, 20), (0, 0), (0, 0), (0, 0), (0, 0)]), .inr (0, 5, 0, 0), .inl (4, [(1, 22), (0, 0), (0, 0), (0, 0), (0, 0)]), .inr (0, 5, 0, 0), .inl (4, [(1, 24), (0, 0), (0, 0), (0, 0), (0, 0)]), .inr (0, 5, 0, 0), .inl (4, [(1, 26), (0, 0), (0, 0), (0, 0), (0, 0)]), .inr (0, 5, 0, 0), .inl (4, [(1, 28), (0, 0), (0, 0), (0, 0), (0, 0)]), .inr (0, 5, 0, 0), .inl (4, [(1, 30), (0, 0), (0, 0), (0, 0), (0, 0)]), .inr (0, 5, 0, 0), .inl (4, [(1, 32), (0, 0), (0, 0), (0, 0), (0, 0)]), .inr (0, 5, 0, 0), .inl (4, [(1, 34), (0, 0), (0, 0), (0, 0), (0, 0)]), .inr (0, 5, 0, 0), .inl (4, [(1, 36), (0, 0), (0, 0), (0, 0), (0, 0)]), .inr (0, 5, 0, 0), .inl (4, [(1, 38), (0, 0), (0, 0), (0, 0), (0, 0)]), .inr (0, 5, 0, 0), .inl (4, [(1, 40), (0, 0), (0, 0), (0, 0), (0, 0)]), .inr (0, 5, 0, 0), .inl (4, [(1, 42), (0, 0), (0, 0), (0, 0), (0, 0)]), .inr (0, 5, 0, 0), .inl (4, [(1, 44), (0, 0), (0, 0), (0, 0), (0, 0)]), .inr (0, 5, 0, 0), .inl (4, [(1, 46), (0, 0), (0, 0), (0, 0), (0, 0)]), .inr (0, 5, 0, 0), .inl (4, [(1, 48), (0, 0), (0, 0), (0, 0), (0, 0)]), .inr (0, 5, 0, 0), .inl (4, [(1, 50), (0, 0), (0, 0), (0, 0), (0, 0)]), .inr (0, 5, 0, 0), .inl (4, [(1, 52), (0, 0), (0, 0), (0, 0), (0, 0)]), .inr (0, 5, 0, 0), .inl (4, [(1, 54), (0, 0), (0, 0), (0, 0), (0, 0)]), .inr (0, 5, 0, 0), .inl (4, [(1, 56), (0, 0), (0, 0), (0, 0), (0, 0)]), .inr (0, 5, 0, 0), .inl (2, [(1, 58), (1, 59), (1, 60)]), .inr (2, 2, 61, 2), .inr (0, 2, 0, 0), .inr (1, 2, 0, 0), .inl (4, [(1, 62), (0, 0), (0, 0), (0, 0), (0, 0)]), .inr (0, 5, 0, 0), .inl (4, [(1, 64), (0, 0), (0, 0), (0, 0), (0, 0)]), .inr (0, 5, 0, 0), .inl (5, [(1, 66), (1, 67), (1, 68), (1, 69), (0, 0), (0, 0), (0, 0), (0, 0)]), .inr (0, 6, 0, 0), .inr (0, 6, 0, 0), .inr (1, 6, 0, 0), .inr (0, 8, 0, 0), .inl (0, [(1, 71), (1, 72), (0, 0)]), .inr (0, 15, 0, 0), .inr (0, 15, 0, 0), .inr (0, 8, 0, 0), .inl (1, [(0, 0), (0, 0), (0, 0), (0, 0), (1, 75), (0, 0), (1, 76), (1, 77), (1, 78), (0, 0), (1, 79), (1, 80), (1, 81), (0, 0), (0, 0), (1, 82), (1, 83)]), .inr (0, 8, 0, 0), .inr (0, 10, 0, 0), .inr (0, 10, 0, 0), .inr (0, 10, 0, 0), .inr (0, 10, 0, 0), .inr (0, 10, 0, 0), .inr (0, 10, 0, 0), .inr (0, 5, 0, 0), .inr (0, 256, 0, 0), .inl (8, [(0, 0), (0, 0), (0, 0), (1, 85), (0, 0), (1, 86), (1, 87), (1, 88), (0, 0), (1, 89), (1, 90), (1, 91), (0, 0), (1, 92), (0, 0), (1, 93), (0, 0), (0, 0), (0, 0), (0, 0), (0, 0), (1, 94), (0, 0), (1, 95), (0, 0), (1, 96), (1, 97), (1, 98), (0, 0), (1, 99), (1, 100), (1, 101), (0, 0), (0, 0), (1, 102), (0, 0), (1, 103), (1, 104), (0, 0), (1, 105), (1, 106), (1, 107), (1, 108), (0, 0), (1, 109), (1, 110), (1, 111), (1, 112)]), .inr (0, 8, 0, 0), .inr (0, 10, 0, 0), .inr (0, 10, 0, 0), .inr (0, 10, 0, 0), .inr (0, 10, 0, 0), .inr (0, 10, 0, 0), .inr (0, 10, 0, 0), .inr (0, 9, 0, 0), .inr (0, 240, 0, 0), .inr (0, 2, 0, 0), .inr (0, 8, 0, 0), .inr (0, 10, 0, 0), .inr (0, 10, 0, 0), .inr (0, 10, 0, 0), .inr (0, 10, 0, 0), .inr (0, 10, 0, 0), .inr (0, 10, 0, 0), .inr (0, 5, 0, 0), .inr (0, 180, 0, 0), .inr (0, 8, 0, 0), .inr (0, 6, 0, 0), .inr (0, 6, 0, 0), .inr (1, 6, 0, 0), .inr (0, 8, 0, 0), .inr (0, 15, 0, 0), .inr (0, 15, 0, 0), .inr (0, 20, 0, 0), .inr (1, 2, 0, 0)]
theorem sh_0 : SHc[0]? = some (.inl (7, [(1, 1), (1, 13), (1, 15), (1, 57), (1, 65), (1, 70), (1, 73), (2, 0), (0, 0)])) := rfl
theorem sh_1 : SHc[1]? = some (.inl (6, [(1, 2), (0, 0), (0, 0), (0, 0), (0, 0), (0, 0), (2, 0)])) := rfl
theorem sh_2 : SHc[2]? = some (.inr (0, 240, 0, 0)) := rfl
theorem sh_3 : SHc[3]? = some (.inl (1, [(0, 0), (0, 0), (0, 0), (0, 0), (1, 4), (0, 0), (1, 5), (1, 6), (1, 7), (0, 0), (1, 8), (1, 9), (1, 10), (0, 0), (0, 0), (1, 11), (1, 12)])) := rfl
theorem sh_4 : SHc[4]? = some (.inr (0, 8, 0, 0)) := rfl
theorem sh_5 : SHc[5]? = some (.inr (0, 10, 0, 0)) := rfl
theorem sh_6 : SHc[6]? = some (.inr (0, 10, 0, 0)) := rfl
theorem sh_7 : SHc[7]? = some (.inr (0, 10, 0, 0)) := rfl
theorem sh_8 : SHc[8]? = some (.inr (0, 10, 0, 0)) := rfl
theorem sh_9 : SHc[9]? = some (.inr (0, 10, 0, 0)) := rfl
theorem sh_10 : SHc[10]? = some (.inr (0, 10, 0, 0)) := rfl
theorem sh_11 : SHc[11]? = some (.inr (0, 5, 0, 0)) := rfl
theorem sh_12 : SHc[12]? = some (.inr (0, 256, 0, 0)) := rfl
theorem sh_13 : SHc[13]? = some (.inl (4, [(1, 14), (0, 0), (0, 0), (0, 0), (0, 0)])) := rfl
theorem sh_14 : SHc[14]? = some (.inr (0, 5, 0, 0)) := rfl
theorem sh_15 : SHc[15]? = some (.inl (3, [(1, 16), (0, 0), (0, 0)])) := rfl
theorem sh_16 : SHc[16]? = some (.inr (2, 20, 17, 20)) := rfl
theorem sh_17 : SHc[17]? = some (.inl (4, [(1, 18), (0, 0), (0, 0), (0, 0), (0, 0)])) := rfl
theorem sh_18 : SHc[18]? = some (.inr (0, 5, 0, 0)) := rfl
theorem sh_19 : SHc[19]? = some (.inl (4, [(1, 20), (0, 0), (0, 0), (0, 0), (0, 0)])) := rfl
theorem sh_20 : SHc[20]? = some (.inr (0, 5, 0, 0)) := rfl
theorem sh_21 : SHc[21]? = some (.inl (4, [(1, 22), (0, 0), (0, 0), (0, 0), (0, 0)])) := rfl
theorem sh_22 : SHc[22]? = some (.inr (0, 5, 0, 0)) := rfl
theorem sh_23 : SHc[23]? = some (.inl (4, [(1, 24), (0, 0), (0, 0), (0, 0), (0, 0)])) := rfl
theorem sh_24 : SHc[24]? = some (.inr (0, 5, 0, 0)) := rfl
theorem sh_25 : SHc[25]? = some (.inl (4, [(1, 26), (0, 0), (0, 0), (0, 0), (0, 0)])) := rfl
theorem sh_26 : SHc[26]? = some (.inr (0, 5, 0, 0)) := rfl
theorem sh_27 : SHc[27]? = some (.inl (4, [(1, 28), (0, 0), (0, 0), (0, 0), (0, 0)])) := rfl
theorem sh_28 : SHc[28]? = some (.inr (0, 5, 0, 0)) := rfl
theorem sh_29 : SHc[29]? = some (.inl (4, [(1, 30), (0, 0), (0, 0), (0, 0), (0, 0)])) := rfl
theorem sh_30 : SHc[30]? = some (.inr (0, 5, 0, 0)) := rfl
theorem sh_31 : SHc[31]? = some (.inl (4, [(1, 32), (0, 0), (0, 0), (0, 0), (0, 0)])) := rfl
theorem sh_32 : SHc[32]? = some (.inr (0, 5, 0, 0)) := rfl
theorem sh_33 : SHc[33]? = some (.inl (4, [(1, 34), (0, 0), (0, 0), (0, 0), (0, 0)])) := rfl
theorem sh_34 : SHc[34]? = some (.inr (0, 5, 0, 0)) := rfl
theorem sh_35 : SHc[35]? = some (.inl (4, [(1, 36), (0, 0), (0, 0), (0, 0), (0, 0)])) := rfl
theorem sh_36 : SHc[36]? = some (.inr (0, 5, 0, 0)) := rfl
theorem sh_37 : SHc[37]? = some (.inl (4, [(1, 38), (0, 0), (0, 0), (0, 0), (0, 0)])) := rfl
theorem sh_38 : SHc[38]? = some (.inr (0, 5, 0, 0)) := rfl
theorem sh_39 : SHc[39]? = some (.inl (4, [(1, 40), (0, 0), (0, 0), (0, 0), (0, 0)])) := rfl
theorem sh_40 : SHc[40]? = some (.inr (0, 5, 0, 0)) := rfl
theorem sh_41 : SHc[41]? = some (.inl (4, [(1, 42), (0, 0), (0, 0), (0, 0), (0, 0)])) := rfl
theorem sh_42 : SHc[42]? = some (.inr (0, 5, 0, 0)) := rfl
theorem sh_43 : SHc[43]? = some (.inl (4, [(1, 44), (0, 0), (0, 0), (0, 0), (0, 0)])) := rfl
theorem sh_44 : SHc[44]? = some (.inr (0, 5, 0, 0)) := rfl
theorem sh_45 : SHc[45]? = some (.inl (4, [(1, 46), (0, 0), (0, 0), (0, 0), (0, 0)])) := rfl
theorem sh_46 : SHc[46]? = some (.inr (0, 5, 0, 0)) := rfl
theorem sh_47 : SHc[47]? = some (.inl (4, [(1, 48), (0, 0), (0, 0), (0, 0), (0, 0)])) := rfl
theorem sh_48 : SHc[48]? = some (.inr (0, 5, 0, 0)) := rfl
theorem sh_49 : SHc[49]? = some (.inl (4, [(1, 50), (0, 0), (0, 0), (0, 0), (0, 0)])) := rfl
theorem sh_50 : SHc[50]? = some (.inr (0, 5, 0, 0)) := rfl
theorem sh_51 : SHc[51]? = some (.inl (4, [(1, 52), (0, 0), (0, 0), (0, 0), (0, 0)])) := rfl
theorem sh_52 : SHc[52]? = some (.inr (0, 5, 0, 0)) := rfl
theorem sh_53 : SHc[53]? = some (.inl (4, [(1, 54), (0, 0), (0, 0), (0, 0), (0, 0)])) := rfl
theorem sh_54 : SHc[54]? = some (.inr (0, 5, 0, 0)) := rfl
theorem sh_55 : SHc[55]? = some (.inl (4, [(1, 56), (0, 0), (0, 0), (0, 0), (0, 0)])) := rfl
theorem sh_56 : SHc[56]? = some (.inr (0, 5, 0, 0)) := rfl
theorem sh_57 : SHc[57]? = some (.inl (2, [(1, 58), (1, 59), (1, 60)])) := rfl
theorem sh_58 : SHc[58]? = some (.inr (2, 2, 61, 2)) := rfl
theorem sh_59 : SHc[59]? = some (.inr (0, 2, 0, 0)) := rfl
theorem sh_60 : SHc[60]? = some (.inr (1, 2, 0, 0)) := rfl
theorem sh_61 : SHc[61]? = some (.inl (4, [(1, 62), (0, 0), (0, 0), (0, 0), (0, 0)])) := rfl
theorem sh_62 : SHc[62]? = some (.inr (0, 5, 0, 0)) := rfl
theorem sh_63 : SHc[63]? = some (.inl (4, [(1, 64), (0, 0), (0, 0), (0, 0), (0, 0)])) := rfl
theorem sh_64 : SHc[64]? = some (.inr (0, 5, 0, 0)) := rfl
theorem sh_65 : SHc[65]? = some (.inl (5, [(1, 66), (1, 67), (1, 68), (1, 69), (0, 0), (0, 0), (0, 0), (0, 0)])) := rfl
theorem sh_66 : SHc[66]? = some (.inr (0, 6, 0, 0)) := rfl
theorem sh_67 : SHc[67]? = some (.inr (0, 6, 0, 0)) := rfl
theorem sh_68 : SHc[68]? = some (.inr (1, 6, 0, 0)) := rfl
theorem sh_69 : SHc[69]? = some (.inr (0, 8, 0, 0)) := rfl
theorem sh_70 : SHc[70]? = some (.inl (0, [(1, 71), (1, 72), (0, 0)])) := rfl
theorem sh_71 : SHc[71]? = some (.inr (0, 15, 0, 0)) := rfl
theorem sh_72 : SHc[72]? = some (.inr (0, 15, 0, 0)) := rfl
theorem sh_73 : SHc[73]? = some (.inr (0, 8, 0, 0)) := rfl
theorem sh_74 : SHc[74]? = some (.inl (1, [(0, 0), (0, 0), (0, 0), (0, 0), (1, 75), (0, 0), (1, 76), (1, 77), (1, 78), (0, 0), (1, 79), (1, 80), (1, 81), (0, 0), (0, 0), (1, 82), (1, 83)])) := rfl
theorem sh_75 : SHc[75]? = some (.inr (0, 8, 0, 0)) := rfl
theorem sh_76 : SHc[76]? = some (.inr (0, 10, 0, 0)) := rfl
theorem sh_77 : SHc[77]? = some (.inr (0, 10, 0, 0)) := rfl
theorem sh_78 : SHc[78]? = some (.inr (0, 10, 0, 0)) := rfl
theorem sh_79 : SHc[79]? = some (.inr (0, 10, 0, 0)) := rfl
theorem sh_80 : SHc[80]? = some (.inr (0, 10, 0, 0)) := rfl
theorem sh_81 : SHc[81]? = some (.inr (0, 10, 0, 0)) := rfl
theorem sh_82 : SHc[82]? = some (.inr (0, 5, 0, 0)) := rfl
theorem sh_83 : SHc[83]? = some (.inr (0, 256, 0, 0)) := rfl
theorem sh_84 : SHc[84]? = some (.inl (8, [(0, 0), (0, 0), (0, 0), (1, 85), (0, 0), (1, 86), (1, 87), (1, 88), (0, 0), (1, 89), (1, 90), (1, 91), (0, 0), (1, 92), (0, 0), (1, 93), (0, 0), (0, 0), (0, 0), (0, 0), (0, 0), (1, 94), (0, 0), (1, 95), (0, 0), (1, 96), (1, 97), (1, 98), (0, 0), (1, 99), (1, 100), (1, 101), (0, 0), (0, 0), (1, 102), (0, 0), (1, 103), (1, 104), (0, 0), (1, 105), (1, 106), (1, 107), (1, 108), (0, 0), (1, 109), (1, 110), (1, 111), (1, 112)])) := rfl
theorem sh_85 : SHc[85]? = some (.inr (0, 8, 0, 0)) := rfl
theorem sh_86 : SHc[86]? = some (.inr (0, 10, 0, 0)) := rfl
theorem sh_87 : SHc[87]? = some (.inr (0, 10, 0, 0)) := rfl
theorem sh_88 : SHc[88]? = some (.inr (0, 10, 0, 0)) := rfl
theorem sh_89 : SHc[89]? = some (.inr (0, 10, 0, 0)) := rfl
theorem sh_90 : SHc[90]? = some (.inr (0, 10, 0, 0)) := rfl
theorem sh_91 : SHc[91]? = some (.inr (0, 10, 0, 0)) := rfl
theorem sh_92 : SHc[92]? = some (.inr (0, 9, 0, 0)) := rfl
theorem sh_93 : SHc[93]? = some (.inr (0, 240, 0, 0)) := rfl
theorem sh_94 : SHc[94]? = some (.inr (0, 2, 0, 0)) := rfl
theorem sh_95 : SHc[95]? = some (.inr (0, 8, 0, 0)) := rfl
theorem sh_96 : SHc[96]? = some (.inr (0, 10, 0, 0)) := rfl
theorem sh_97 : SHc[97]? = some (.inr (0, 10, 0, 0)) := rfl
theorem sh_98 : SHc[98]? = some (.inr (0, 10, 0, 0)) := rfl
theorem sh_99 : SHc[99]? = some (.inr (0, 10, 0, 0)) := rfl
theorem sh_100 : SHc[100]? = some (.inr (0, 10, 0, 0)) := rfl
theorem sh_101 : SHc[101]? = some (.inr (0, 10, 0, 0)) := rfl
theorem sh_102 : SHc[102]? = some (.inr (0, 5, 0, 0)) := rfl
theorem sh_103 : SHc[103]? = some (.inr (0, 180, 0, 0)) := rfl
theorem sh_104 : SHc[104]? = some (.inr (0, 8, 0, 0)) := rfl
theorem sh_105 : SHc[105]? = some (.inr (0, 6, 0, 0)) := rfl
theorem sh_106 : SHc[106]? = some (.inr (0, 6, 0, 0)) := rfl
theorem sh_107 : SHc[107]? = some (.inr (1, 6, 0, 0)) := rfl
theorem sh_108 : SHc[108]? = some (.inr (0, 8, 0, 0)) := rfl
theorem sh_109 : SHc[109]? = some (.inr (0, 15, 0, 0)) := rfl
theorem sh_110 : SHc[110]? = some (.inr (0, 15, 0, 0)) := rfl
theorem sh_111 : SHc[111]? = some (.inr (0, 20, 0, 0)) := rfl
theorem sh_112 : SHc[112]? = some (.inr (1, 2, 0, 0)) := rfl
def isCnt (c : Nat) : Prop := c = 3 ∨ c = 74
theorem cnt_dx (v : Int32) : isCnt (md_dx v) := by
  unfold md_dx isCnt
  split
  · exact Or.inl rfl
  · exact Or.inr rfl
theorem cnt_ex {c : Nat} (hc : isCnt c) : md_dx (md_ex c) = c := by
  rcases hc with rfl | rfl <;> rfl
theorem cn_4 {c : Nat} (hc : isCnt c) : SHc[c + 1]? = some (.inr (0, 8, 0, 0)) := by
  rcases hc with rfl | rfl <;> rfl
theorem cn_6 {c : Nat} (hc : isCnt c) : SHc[c + 2]? = some (.inr (0, 10, 0, 0)) := by
  rcases hc with rfl | rfl <;> rfl
theorem cn_7 {c : Nat} (hc : isCnt c) : SHc[c + 3]? = some (.inr (0, 10, 0, 0)) := by
  rcases hc with rfl | rfl <;> rfl
theorem cn_8 {c : Nat} (hc : isCnt c) : SHc[c + 4]? = some (.inr (0, 10, 0, 0)) := by
  rcases hc with rfl | rfl <;> rfl
theorem cn_10 {c : Nat} (hc : isCnt c) : SHc[c + 5]? = some (.inr (0, 10, 0, 0)) := by
  rcases hc with rfl | rfl <;> rfl
theorem cn_11 {c : Nat} (hc : isCnt c) : SHc[c + 6]? = some (.inr (0, 10, 0, 0)) := by
  rcases hc with rfl | rfl <;> rfl
theorem cn_12 {c : Nat} (hc : isCnt c) : SHc[c + 7]? = some (.inr (0, 10, 0, 0)) := by
  rcases hc with rfl | rfl <;> rfl
theorem cn_15 {c : Nat} (hc : isCnt c) : SHc[c + 8]? = some (.inr (0, 5, 0, 0)) := by
  rcases hc with rfl | rfl <;> rfl
theorem cn_16 {c : Nat} (hc : isCnt c) : SHc[c + 9]? = some (.inr (0, 256, 0, 0)) := by
  rcases hc with rfl | rfl <;> rfl
theorem cn_o {c : Nat} (hc : isCnt c) : SHc[c]? = some (.inl (1, [(0, 0), (0, 0), (0, 0), (0, 0), (1, c + 1), (0, 0), (1, c + 2), (1, c + 3), (1, c + 4), (0, 0), (1, c + 5), (1, c + 6), (1, c + 7), (0, 0), (0, 0), (1, c + 8), (1, c + 9)])) := by
  rcases hc with rfl | rfl <;> rfl
def isPst (c : Nat) : Prop := c = 13 ∨ (∃ j, j < 20 ∧ c = 17 + 2 * j) ∨ ∃ j, j < 2 ∧ c = 61 + 2 * j
theorem ps_o_a : ∀ j, j < 20 → SHc[17 + 2 * j]? = some (.inl (4, [(1, 17 + 2 * j + 1), (0, 0), (0, 0), (0, 0), (0, 0)])) ∧ SHc[17 + 2 * j + 1]? = some (.inr (0, 5, 0, 0)) := by
  intro j hj
  rcases (by omega : j = 0 ∨ j = 1 ∨ j = 2 ∨ j = 3 ∨ j = 4 ∨ j = 5 ∨ j = 6 ∨ j = 7 ∨ j = 8 ∨ j = 9 ∨ j = 10 ∨ j = 11 ∨ j = 12 ∨ j = 13 ∨ j = 14 ∨ j = 15 ∨ j = 16 ∨ j = 17 ∨ j = 18 ∨ j = 19) with rfl | rfl | rfl | rfl | rfl | rfl | rfl | rfl | rfl | rfl | rfl | rfl | rfl | rfl | rfl | rfl | rfl | rfl | rfl | rfl <;> exact ⟨rfl, rfl⟩
theorem ps_o_b : ∀ j, j < 2 → SHc[61 + 2 * j]? = some (.inl (4, [(1, 61 + 2 * j + 1), (0, 0), (0, 0), (0, 0), (0, 0)])) ∧ SHc[61 + 2 * j + 1]? = some (.inr (0, 5, 0, 0)) := by
  intro j hj
  rcases (by omega : j = 0 ∨ j = 1) with rfl | rfl <;> exact ⟨rfl, rfl⟩
theorem ps_o {c : Nat} (hc : isPst c) : SHc[c]? = some (.inl (4, [(1, c + 1), (0, 0), (0, 0), (0, 0), (0, 0)])) := by
  rcases hc with rfl | ⟨j, hj, rfl⟩ | ⟨j, hj, rfl⟩
  · rfl
  · exact (ps_o_a j hj).1
  · exact (ps_o_b j hj).1
theorem ps_0 {c : Nat} (hc : isPst c) : SHc[c + 1]? = some (.inr (0, 5, 0, 0)) := by
  rcases hc with rfl | ⟨j, hj, rfl⟩ | ⟨j, hj, rfl⟩
  · rfl
  · exact (ps_o_a j hj).2
  · exact (ps_o_b j hj).2
theorem ps_13 : isPst 13 := Or.inl rfl
theorem ps_ring {i : Int32} (h : md_in i 20 = true) : isPst (17 + 2 * i.toNatClampNeg) := Or.inr (Or.inl ⟨_, Nat.not_le.mp fun q => (md_in_vp h) (Or.inr q), rfl⟩)
theorem ps_img {i : Int32} (h : md_in i 2 = true) : isPst (61 + 2 * i.toNatClampNeg) := Or.inr (Or.inr ⟨_, Nat.not_le.mp fun q => (md_in_vp h) (Or.inr q), rfl⟩)
theorem okX0 : ∀ w ∈ u_ws RX0 TX0 3, w ∈ lw_ok := fun w hw => List.mem_filter.mpr ⟨inX0 w hw, List.all_eq_true.mp (by decide +kernel : (u_ws RX0 TX0 3).all goodWord = true) w hw⟩
theorem okX1 : ∀ w ∈ u_ws RX1 TX1 17, w ∈ lw_ok := fun w hw => List.mem_filter.mpr ⟨inX1 w hw, List.all_eq_true.mp (by decide +kernel : (u_ws RX1 TX1 17).all goodWord = true) w hw⟩
theorem okX2 : ∀ w ∈ u_ws RX2 TX2 3, w ∈ lw_ok := fun w hw => List.mem_filter.mpr ⟨inX2 w hw, List.all_eq_true.mp (by decide +kernel : (u_ws RX2 TX2 3).all goodWord = true) w hw⟩
theorem okX3 : ∀ w ∈ u_ws RX3 TX3 3, w ∈ lw_ok := fun w hw => List.mem_filter.mpr ⟨inX3 w hw, List.all_eq_true.mp (by decide +kernel : (u_ws RX3 TX3 3).all goodWord = true) w hw⟩
theorem okX4 : ∀ w ∈ u_ws RX4 TX4 5, w ∈ lw_ok := fun w hw => List.mem_filter.mpr ⟨inX4 w hw, List.all_eq_true.mp (by decide +kernel : (u_ws RX4 TX4 5).all goodWord = true) w hw⟩
theorem okX5 : ∀ w ∈ u_ws RX5 TX5 8, w ∈ lw_ok := fun w hw => List.mem_filter.mpr ⟨inX5 w hw, List.all_eq_true.mp (by decide +kernel : (u_ws RX5 TX5 8).all goodWord = true) w hw⟩
theorem okX6 : ∀ w ∈ u_ws RX6 TX6 7, w ∈ lw_ok := fun w hw => List.mem_filter.mpr ⟨inX6 w hw, List.all_eq_true.mp (by decide +kernel : (u_ws RX6 TX6 7).all goodWord = true) w hw⟩
theorem okX7 : ∀ w ∈ u_ws RX7 TX7 9, w ∈ lw_ok := fun w hw => List.mem_filter.mpr ⟨inX7 w hw, List.all_eq_true.mp (by decide +kernel : (u_ws RX7 TX7 9).all goodWord = true) w hw⟩
theorem okX8 : ∀ w ∈ u_ws RX8 TX8 48, w ∈ lw_ok := fun w hw => List.mem_filter.mpr ⟨inX8 w hw, List.all_eq_true.mp (by decide +kernel : (u_ws RX8 TX8 48).all goodWord = true) w hw⟩
theorem fl_X0_9 : Cond.fieldLink RX0 9 (TX0 0).1 (TX0 0).2.1 (TX0 0).2.2.1 ∈ lw_ok := lw_i2 8 rfl rfl
theorem ff_X0_9 : FFd RX0 9 0 0 := ⟨_, _, _, rfl, by decide, okX0, fl_X0_9⟩
theorem fl_X0_15 : Cond.fieldLink RX0 15 (TX0 1).1 (TX0 1).2.1 (TX0 1).2.2.1 ∈ lw_ok := lw_i2 9 rfl rfl
theorem ff_X0_15 : FFd RX0 15 0 1 := ⟨_, _, _, rfl, by decide, okX0, fl_X0_15⟩
theorem fl_X0_18 : Cond.fieldLink RX0 18 (TX0 2).1 (TX0 2).2.1 (TX0 2).2.2.1 ∈ lw_ok := lw_i2 10 rfl rfl
theorem ff_X0_18 : FFd RX0 18 0 2 := ⟨_, _, _, rfl, by decide, okX0, fl_X0_18⟩
theorem fp_X0_18 : FFp RX0 18 0 2 .int := ⟨_, _, _, tyX0, rfl, by decide, okX0, fl_X0_18, tyX0_ok, nmX0, rfl, by decide +kernel⟩
theorem fl_X1_9 : Cond.fieldLink RX1 9 (TX1 4).1 (TX1 4).2.1 (TX1 4).2.2.1 ∈ lw_ok := lw_i1 44 rfl rfl
theorem ff_X1_9 : FFd RX1 9 1 4 := ⟨_, _, _, rfl, by decide, okX1, fl_X1_9⟩
theorem fl_X1_15 : Cond.fieldLink RX1 15 (TX1 6).1 (TX1 6).2.1 (TX1 6).2.2.1 ∈ lw_ok := lw_i1 50 rfl rfl
theorem ff_X1_15 : FFd RX1 15 1 6 := ⟨_, _, _, rfl, by decide, okX1, fl_X1_15⟩
theorem fl_X1_18 : Cond.fieldLink RX1 18 (TX1 7).1 (TX1 7).2.1 (TX1 7).2.2.1 ∈ lw_ok := lw_i1 52 rfl rfl
theorem ff_X1_18 : FFd RX1 18 1 7 := ⟨_, _, _, rfl, by decide, okX1, fl_X1_18⟩
theorem fl_X1_21 : Cond.fieldLink RX1 21 (TX1 8).1 (TX1 8).2.1 (TX1 8).2.2.1 ∈ lw_ok := lw_i1 54 rfl rfl
theorem ff_X1_21 : FFd RX1 21 1 8 := ⟨_, _, _, rfl, by decide, okX1, fl_X1_21⟩
theorem fl_X1_24 : Cond.fieldLink RX1 24 (TX1 10).1 (TX1 10).2.1 (TX1 10).2.2.1 ∈ lw_ok := lw_i1 59 rfl rfl
theorem ff_X1_24 : FFd RX1 24 1 10 := ⟨_, _, _, rfl, by decide, okX1, fl_X1_24⟩
theorem fl_X1_27 : Cond.fieldLink RX1 27 (TX1 11).1 (TX1 11).2.1 (TX1 11).2.2.1 ∈ lw_ok := lw_i1 62 rfl rfl
theorem ff_X1_27 : FFd RX1 27 1 11 := ⟨_, _, _, rfl, by decide, okX1, fl_X1_27⟩
theorem fl_X1_30 : Cond.fieldLink RX1 30 (TX1 12).1 (TX1 12).2.1 (TX1 12).2.2.1 ∈ lw_ok := lw_i1 65 rfl rfl
theorem ff_X1_30 : FFd RX1 30 1 12 := ⟨_, _, _, rfl, by decide, okX1, fl_X1_30⟩
theorem fl_X1_33 : Cond.fieldLink RX1 33 (TX1 15).1 (TX1 15).2.1 (TX1 15).2.2.1 ∈ lw_ok := lw_i1 74 rfl rfl
theorem fl_X1_36 : Cond.fieldLink RX1 36 (TX1 16).1 (TX1 16).2.1 (TX1 16).2.2.1 ∈ lw_ok := lw_i1 77 rfl rfl
theorem ff_X1_36 : FFd RX1 36 1 16 := ⟨_, _, _, rfl, by decide, okX1, fl_X1_36⟩
theorem fl_X1_39 : Cond.fieldLink RX1 39 (TX1 0).1 (TX1 0).2.1 (TX1 0).2.2.1 ∈ lw_ok := lw_i1 32 rfl rfl
theorem fp_X1_39 : FFp RX1 39 1 0 .boolean := ⟨_, _, _, tyX1, rfl, by decide, okX1, fl_X1_39, tyX1_ok, nmX1, rfl, by decide +kernel⟩
theorem fl_X1_43 : Cond.fieldLink RX1 43 (TX1 1).1 (TX1 1).2.1 (TX1 1).2.2.1 ∈ lw_ok := lw_i1 35 rfl rfl
theorem ff_X1_43 : FFd RX1 43 1 1 := ⟨_, _, _, rfl, by decide, okX1, fl_X1_43⟩
theorem fp_X1_43 : FFp RX1 43 1 1 .int := ⟨_, _, _, tyX1, rfl, by decide, okX1, fl_X1_43, tyX1_ok, nmX1, rfl, by decide +kernel⟩
theorem fl_X1_47 : Cond.fieldLink RX1 47 (TX1 2).1 (TX1 2).2.1 (TX1 2).2.2.1 ∈ lw_ok := lw_i1 38 rfl rfl
theorem fp_X1_47 : FFp RX1 47 1 2 .int := ⟨_, _, _, tyX1, rfl, by decide, okX1, fl_X1_47, tyX1_ok, nmX1, rfl, by decide +kernel⟩
theorem fl_X1_50 : Cond.fieldLink RX1 50 (TX1 3).1 (TX1 3).2.1 (TX1 3).2.2.1 ∈ lw_ok := lw_i1 41 rfl rfl
theorem ff_X1_50 : FFd RX1 50 1 3 := ⟨_, _, _, rfl, by decide, okX1, fl_X1_50⟩
theorem fp_X1_50 : FFp RX1 50 1 3 .int := ⟨_, _, _, tyX1, rfl, by decide, okX1, fl_X1_50, tyX1_ok, nmX1, rfl, by decide +kernel⟩
theorem fl_X1_53 : Cond.fieldLink RX1 53 (TX1 5).1 (TX1 5).2.1 (TX1 5).2.2.1 ∈ lw_ok := lw_i1 47 rfl rfl
theorem ff_X1_53 : FFd RX1 53 1 5 := ⟨_, _, _, rfl, by decide, okX1, fl_X1_53⟩
theorem fp_X1_53 : FFp RX1 53 1 5 .int := ⟨_, _, _, tyX1, rfl, by decide, okX1, fl_X1_53, tyX1_ok, nmX1, rfl, by decide +kernel⟩
theorem fl_X1_56 : Cond.fieldLink RX1 56 (TX1 9).1 (TX1 9).2.1 (TX1 9).2.2.1 ∈ lw_ok := lw_i1 56 rfl rfl
theorem ff_X1_56 : FFd RX1 56 1 9 := ⟨_, _, _, rfl, by decide, okX1, fl_X1_56⟩
theorem fp_X1_56 : FFp RX1 56 1 9 .int := ⟨_, _, _, tyX1, rfl, by decide, okX1, fl_X1_56, tyX1_ok, nmX1, rfl, by decide +kernel⟩
theorem fl_X1_59 : Cond.fieldLink RX1 59 (TX1 13).1 (TX1 13).2.1 (TX1 13).2.2.1 ∈ lw_ok := lw_i1 68 rfl rfl
theorem fp_X1_59 : FFp RX1 59 1 13 .int := ⟨_, _, _, tyX1, rfl, by decide, okX1, fl_X1_59, tyX1_ok, nmX1, rfl, by decide +kernel⟩
theorem fl_X1_62 : Cond.fieldLink RX1 62 (TX1 14).1 (TX1 14).2.1 (TX1 14).2.2.1 ∈ lw_ok := lw_i1 71 rfl rfl
theorem ff_X1_62 : FFd RX1 62 1 14 := ⟨_, _, _, rfl, by decide, okX1, fl_X1_62⟩
theorem fp_X1_62 : FFp RX1 62 1 14 .int := ⟨_, _, _, tyX1, rfl, by decide, okX1, fl_X1_62, tyX1_ok, nmX1, rfl, by decide +kernel⟩
theorem fl_X2_11 : Cond.fieldLink RX2 11 (TX2 0).1 (TX2 0).2.1 (TX2 0).2.2.1 ∈ lw_ok := lw_i1 193 rfl rfl
theorem ff_X2_11 : FFd RX2 11 2 0 := ⟨_, _, _, rfl, by decide, okX2, fl_X2_11⟩
theorem fl_X2_17 : Cond.fieldLink RX2 17 (TX2 1).1 (TX2 1).2.1 (TX2 1).2.2.1 ∈ lw_ok := lw_i1 195 rfl rfl
theorem ff_X2_17 : FFd RX2 17 2 1 := ⟨_, _, _, rfl, by decide, okX2, fl_X2_17⟩
theorem fl_X2_21 : Cond.fieldLink RX2 21 (TX2 2).1 (TX2 2).2.1 (TX2 2).2.2.1 ∈ lw_ok := lw_i1 197 rfl rfl
theorem ff_X2_21 : FFd RX2 21 2 2 := ⟨_, _, _, rfl, by decide, okX2, fl_X2_21⟩
theorem fl_X3_11 : Cond.fieldLink RX3 11 (TX3 0).1 (TX3 0).2.1 (TX3 0).2.2.1 ∈ lw_ok := lw_i1 174 rfl rfl
theorem ff_X3_11 : FFd RX3 11 3 0 := ⟨_, _, _, rfl, by decide, okX3, fl_X3_11⟩
theorem fl_X3_18 : Cond.fieldLink RX3 18 (TX3 1).1 (TX3 1).2.1 (TX3 1).2.2.1 ∈ lw_ok := lw_i1 175 rfl rfl
theorem ff_X3_18 : FFd RX3 18 3 1 := ⟨_, _, _, rfl, by decide, okX3, fl_X3_18⟩
theorem fp_X3_18 : FFp RX3 18 3 1 .int := ⟨_, _, _, tyX3, rfl, by decide, okX3, fl_X3_18, tyX3_ok, nmX3, rfl, by decide +kernel⟩
theorem fl_X3_26 : Cond.fieldLink RX3 26 (TX3 2).1 (TX3 2).2.1 (TX3 2).2.2.1 ∈ lw_ok := lw_i1 176 rfl rfl
theorem ff_X3_26 : FFd RX3 26 3 2 := ⟨_, _, _, rfl, by decide, okX3, fl_X3_26⟩
theorem fp_X3_26 : FFp RX3 26 3 2 .int := ⟨_, _, _, tyX3, rfl, by decide, okX3, fl_X3_26, tyX3_ok, nmX3, rfl, by decide +kernel⟩
theorem fl_X4_9 : Cond.fieldLink RX4 9 (TX4 0).1 (TX4 0).2.1 (TX4 0).2.2.1 ∈ lw_ok := lw_i1 145 rfl rfl
theorem ff_X4_9 : FFd RX4 9 4 0 := ⟨_, _, _, rfl, by decide, okX4, fl_X4_9⟩
theorem fl_X4_21 : Cond.fieldLink RX4 21 (TX1 15).1 (TX1 15).2.1 (TX1 15).2.2.1 ∈ lw_ok := lw_i1 75 rfl rfl
theorem ff_X4_21 : FFd RX4 21 1 15 := ⟨_, _, _, rfl, by decide, okX1, fl_X4_21⟩
theorem fl_X4_22 : Cond.fieldLink RX4 22 (TX1 13).1 (TX1 13).2.1 (TX1 13).2.2.1 ∈ lw_ok := lw_i1 69 rfl rfl
theorem ff_X4_22 : FFd RX4 22 1 13 := ⟨_, _, _, rfl, by decide, okX1, fl_X4_22⟩
theorem fl_X4_26 : Cond.fieldLink RX4 26 (TX4 1).1 (TX4 1).2.1 (TX4 1).2.2.1 ∈ lw_ok := lw_i1 146 rfl rfl
theorem ff_X4_26 : FFd RX4 26 4 1 := ⟨_, _, _, rfl, by decide, okX4, fl_X4_26⟩
theorem fp_X4_26 : FFp RX4 26 4 1 .int := ⟨_, _, _, tyX4, rfl, by decide, okX4, fl_X4_26, tyX4_ok, nmX4, rfl, by decide +kernel⟩
theorem fl_X4_27 : Cond.fieldLink RX4 27 (TX4 2).1 (TX4 2).2.1 (TX4 2).2.2.1 ∈ lw_ok := lw_i1 148 rfl rfl
theorem ff_X4_27 : FFd RX4 27 4 2 := ⟨_, _, _, rfl, by decide, okX4, fl_X4_27⟩
theorem fp_X4_27 : FFp RX4 27 4 2 .int := ⟨_, _, _, tyX4, rfl, by decide, okX4, fl_X4_27, tyX4_ok, nmX4, rfl, by decide +kernel⟩
theorem fl_X4_30 : Cond.fieldLink RX4 30 (TX4 3).1 (TX4 3).2.1 (TX4 3).2.2.1 ∈ lw_ok := lw_i1 150 rfl rfl
theorem ff_X4_30 : FFd RX4 30 4 3 := ⟨_, _, _, rfl, by decide, okX4, fl_X4_30⟩
theorem fp_X4_30 : FFp RX4 30 4 3 .int := ⟨_, _, _, tyX4, rfl, by decide, okX4, fl_X4_30, tyX4_ok, nmX4, rfl, by decide +kernel⟩
theorem fl_X4_33 : Cond.fieldLink RX4 33 (TX4 4).1 (TX4 4).2.1 (TX4 4).2.2.1 ∈ lw_ok := lw_i1 152 rfl rfl
theorem ff_X4_33 : FFd RX4 33 4 4 := ⟨_, _, _, rfl, by decide, okX4, fl_X4_33⟩
theorem fp_X4_33 : FFp RX4 33 4 4 .int := ⟨_, _, _, tyX4, rfl, by decide, okX4, fl_X4_33, tyX4_ok, nmX4, rfl, by decide +kernel⟩
theorem fl_X5_9 : Cond.fieldLink RX5 9 (TX5 0).1 (TX5 0).2.1 (TX5 0).2.2.1 ∈ lw_ok := lw_i1 213 rfl rfl
theorem ff_X5_9 : FFd RX5 9 5 0 := ⟨_, _, _, rfl, by decide, okX5, fl_X5_9⟩
theorem fl_X5_15 : Cond.fieldLink RX5 15 (TX5 1).1 (TX5 1).2.1 (TX5 1).2.2.1 ∈ lw_ok := lw_i1 214 rfl rfl
theorem ff_X5_15 : FFd RX5 15 5 1 := ⟨_, _, _, rfl, by decide, okX5, fl_X5_15⟩
theorem fl_X5_18 : Cond.fieldLink RX5 18 (TX5 2).1 (TX5 2).2.1 (TX5 2).2.2.1 ∈ lw_ok := lw_i1 215 rfl rfl
theorem ff_X5_18 : FFd RX5 18 5 2 := ⟨_, _, _, rfl, by decide, okX5, fl_X5_18⟩
theorem fl_X5_22 : Cond.fieldLink RX5 22 (TX5 3).1 (TX5 3).2.1 (TX5 3).2.2.1 ∈ lw_ok := lw_i1 216 rfl rfl
theorem ff_X5_22 : FFd RX5 22 5 3 := ⟨_, _, _, rfl, by decide, okX5, fl_X5_22⟩
theorem fl_X5_25 : Cond.fieldLink RX5 25 (TX5 4).1 (TX5 4).2.1 (TX5 4).2.2.1 ∈ lw_ok := lw_i1 217 rfl rfl
theorem ff_X5_25 : FFd RX5 25 5 4 := ⟨_, _, _, rfl, by decide, okX5, fl_X5_25⟩
theorem fp_X5_25 : FFp RX5 25 5 4 .int := ⟨_, _, _, tyX5, rfl, by decide, okX5, fl_X5_25, tyX5_ok, nmX5, rfl, by decide +kernel⟩
theorem fl_X5_29 : Cond.fieldLink RX5 29 (TX5 5).1 (TX5 5).2.1 (TX5 5).2.2.1 ∈ lw_ok := lw_i1 219 rfl rfl
theorem ff_X5_29 : FFd RX5 29 5 5 := ⟨_, _, _, rfl, by decide, okX5, fl_X5_29⟩
theorem fp_X5_29 : FFp RX5 29 5 5 .int := ⟨_, _, _, tyX5, rfl, by decide, okX5, fl_X5_29, tyX5_ok, nmX5, rfl, by decide +kernel⟩
theorem fl_X5_32 : Cond.fieldLink RX5 32 (TX5 6).1 (TX5 6).2.1 (TX5 6).2.2.1 ∈ lw_ok := lw_i1 221 rfl rfl
theorem ff_X5_32 : FFd RX5 32 5 6 := ⟨_, _, _, rfl, by decide, okX5, fl_X5_32⟩
theorem fp_X5_32 : FFp RX5 32 5 6 .int := ⟨_, _, _, tyX5, rfl, by decide, okX5, fl_X5_32, tyX5_ok, nmX5, rfl, by decide +kernel⟩
theorem fl_X5_35 : Cond.fieldLink RX5 35 (TX5 7).1 (TX5 7).2.1 (TX5 7).2.2.1 ∈ lw_ok := lw_i1 223 rfl rfl
theorem ff_X5_35 : FFd RX5 35 5 7 := ⟨_, _, _, rfl, by decide, okX5, fl_X5_35⟩
theorem fp_X5_35 : FFp RX5 35 5 7 .int := ⟨_, _, _, tyX5, rfl, by decide, okX5, fl_X5_35, tyX5_ok, nmX5, rfl, by decide +kernel⟩
theorem fl_X6_9 : Cond.fieldLink RX6 9 (TX6 0).1 (TX6 0).2.1 (TX6 0).2.2.1 ∈ lw_ok := lw_i1 114 rfl rfl
theorem ff_X6_9 : FFd RX6 9 6 0 := ⟨_, _, _, rfl, by decide, okX6, fl_X6_9⟩
theorem fl_X6_15 : Cond.fieldLink RX6 15 (TX6 2).1 (TX6 2).2.1 (TX6 2).2.2.1 ∈ lw_ok := lw_i1 117 rfl rfl
theorem fp_X6_15 : FFp RX6 15 6 2 .int := ⟨_, _, _, tyX6, rfl, by decide, okX6, fl_X6_15, tyX6_ok, nmX6, rfl, by decide +kernel⟩
theorem fl_X6_22 : Cond.fieldLink RX6 22 (TX6 6).1 (TX6 6).2.1 (TX6 6).2.2.1 ∈ lw_ok := lw_i1 123 rfl rfl
theorem ff_X6_22 : FFd RX6 22 6 6 := ⟨_, _, _, rfl, by decide, okX6, fl_X6_22⟩
theorem fp_X6_22 : FFp RX6 22 6 6 (.object "MindDuty$Country") := ⟨_, _, _, tyX6, rfl, by decide, okX6, fl_X6_22, tyX6_ok, nmX6, rfl, by decide +kernel⟩
theorem fl_X6_26 : Cond.fieldLink RX6 26 (TX6 1).1 (TX6 1).2.1 (TX6 1).2.2.1 ∈ lw_ok := lw_i1 115 rfl rfl
theorem ff_X6_26 : FFd RX6 26 6 1 := ⟨_, _, _, rfl, by decide, okX6, fl_X6_26⟩
theorem fp_X6_26 : FFp RX6 26 6 1 .int := ⟨_, _, _, tyX6, rfl, by decide, okX6, fl_X6_26, tyX6_ok, nmX6, rfl, by decide +kernel⟩
theorem fl_X6_32 : Cond.fieldLink RX6 32 (TX6 4).1 (TX6 4).2.1 (TX6 4).2.2.1 ∈ lw_ok := lw_i1 121 rfl rfl
theorem ff_X6_32 : FFd RX6 32 6 4 := ⟨_, _, _, rfl, by decide, okX6, fl_X6_32⟩
theorem fp_X6_32 : FFp RX6 32 6 4 .int := ⟨_, _, _, tyX6, rfl, by decide, okX6, fl_X6_32, tyX6_ok, nmX6, rfl, by decide +kernel⟩
theorem fl_X6_35 : Cond.fieldLink RX6 35 (TX6 3).1 (TX6 3).2.1 (TX6 3).2.2.1 ∈ lw_ok := lw_i1 120 rfl rfl
theorem ff_X6_35 : FFd RX6 35 6 3 := ⟨_, _, _, rfl, by decide, okX6, fl_X6_35⟩
theorem fp_X6_35 : FFp RX6 35 6 3 .int := ⟨_, _, _, tyX6, rfl, by decide, okX6, fl_X6_35, tyX6_ok, nmX6, rfl, by decide +kernel⟩
theorem fl_X6_73 : Cond.fieldLink RX6 73 (TX1 0).1 (TX1 0).2.1 (TX1 0).2.2.1 ∈ lw_ok := lw_i1 33 rfl rfl
theorem ff_X6_73 : FFd RX6 73 1 0 := ⟨_, _, _, rfl, by decide, okX1, fl_X6_73⟩
theorem fp_X6_73 : FFp RX6 73 1 0 .boolean := ⟨_, _, _, tyX1, rfl, by decide, okX1, fl_X6_73, tyX1_ok, nmX1, rfl, by decide +kernel⟩
theorem fl_X6_81 : Cond.fieldLink RX6 81 (TX1 3).1 (TX1 3).2.1 (TX1 3).2.2.1 ∈ lw_ok := lw_i1 43 rfl rfl
theorem ff_X6_81 : FFd RX6 81 1 3 := ⟨_, _, _, rfl, by decide, okX1, fl_X6_81⟩
theorem fp_X6_81 : FFp RX6 81 1 3 .int := ⟨_, _, _, tyX1, rfl, by decide, okX1, fl_X6_81, tyX1_ok, nmX1, rfl, by decide +kernel⟩
theorem fl_X6_84 : Cond.fieldLink RX6 84 (TX1 5).1 (TX1 5).2.1 (TX1 5).2.2.1 ∈ lw_ok := lw_i1 49 rfl rfl
theorem ff_X6_84 : FFd RX6 84 1 5 := ⟨_, _, _, rfl, by decide, okX1, fl_X6_84⟩
theorem fp_X6_84 : FFp RX6 84 1 5 .int := ⟨_, _, _, tyX1, rfl, by decide, okX1, fl_X6_84, tyX1_ok, nmX1, rfl, by decide +kernel⟩
theorem fl_X6_87 : Cond.fieldLink RX6 87 (TX1 9).1 (TX1 9).2.1 (TX1 9).2.2.1 ∈ lw_ok := lw_i1 58 rfl rfl
theorem ff_X6_87 : FFd RX6 87 1 9 := ⟨_, _, _, rfl, by decide, okX1, fl_X6_87⟩
theorem fp_X6_87 : FFp RX6 87 1 9 .int := ⟨_, _, _, tyX1, rfl, by decide, okX1, fl_X6_87, tyX1_ok, nmX1, rfl, by decide +kernel⟩
theorem fl_X6_90 : Cond.fieldLink RX6 90 (TX1 14).1 (TX1 14).2.1 (TX1 14).2.2.1 ∈ lw_ok := lw_i1 73 rfl rfl
theorem ff_X6_90 : FFd RX6 90 1 14 := ⟨_, _, _, rfl, by decide, okX1, fl_X6_90⟩
theorem fp_X6_90 : FFp RX6 90 1 14 .int := ⟨_, _, _, tyX1, rfl, by decide, okX1, fl_X6_90, tyX1_ok, nmX1, rfl, by decide +kernel⟩
theorem fl_X6_97 : Cond.fieldLink RX6 97 (TX1 1).1 (TX1 1).2.1 (TX1 1).2.2.1 ∈ lw_ok := lw_i1 37 rfl rfl
theorem fp_X6_97 : FFp RX6 97 1 1 .int := ⟨_, _, _, tyX1, rfl, by decide, okX1, fl_X6_97, tyX1_ok, nmX1, rfl, by decide +kernel⟩
theorem fl_X6_100 : Cond.fieldLink RX6 100 (TX1 2).1 (TX1 2).2.1 (TX1 2).2.2.1 ∈ lw_ok := lw_i1 40 rfl rfl
theorem fp_X6_100 : FFp RX6 100 1 2 .int := ⟨_, _, _, tyX1, rfl, by decide, okX1, fl_X6_100, tyX1_ok, nmX1, rfl, by decide +kernel⟩
theorem fl_X6_103 : Cond.fieldLink RX6 103 (TX1 4).1 (TX1 4).2.1 (TX1 4).2.2.1 ∈ lw_ok := lw_i1 46 rfl rfl
theorem ff_X6_103 : FFd RX6 103 1 4 := ⟨_, _, _, rfl, by decide, okX1, fl_X6_103⟩
theorem fl_X6_109 : Cond.fieldLink RX6 109 (TX6 5).1 (TX6 5).2.1 (TX6 5).2.2.1 ∈ lw_ok := lw_i1 122 rfl rfl
theorem ff_X6_109 : FFd RX6 109 6 5 := ⟨_, _, _, rfl, by decide, okX6, fl_X6_109⟩
theorem fp_X6_109 : FFp RX6 109 6 5 .int := ⟨_, _, _, tyX6, rfl, by decide, okX6, fl_X6_109, tyX6_ok, nmX6, rfl, by decide +kernel⟩
theorem fl_X6_112 : Cond.fieldLink RX6 112 (TX1 6).1 (TX1 6).2.1 (TX1 6).2.2.1 ∈ lw_ok := lw_i1 51 rfl rfl
theorem ff_X6_112 : FFd RX6 112 1 6 := ⟨_, _, _, rfl, by decide, okX1, fl_X6_112⟩
theorem fl_X6_115 : Cond.fieldLink RX6 115 (TX1 7).1 (TX1 7).2.1 (TX1 7).2.2.1 ∈ lw_ok := lw_i1 53 rfl rfl
theorem ff_X6_115 : FFd RX6 115 1 7 := ⟨_, _, _, rfl, by decide, okX1, fl_X6_115⟩
theorem fl_X6_118 : Cond.fieldLink RX6 118 (TX1 8).1 (TX1 8).2.1 (TX1 8).2.2.1 ∈ lw_ok := lw_i1 55 rfl rfl
theorem ff_X6_118 : FFd RX6 118 1 8 := ⟨_, _, _, rfl, by decide, okX1, fl_X6_118⟩
theorem fl_X6_121 : Cond.fieldLink RX6 121 (TX1 10).1 (TX1 10).2.1 (TX1 10).2.2.1 ∈ lw_ok := lw_i1 60 rfl rfl
theorem ff_X6_121 : FFd RX6 121 1 10 := ⟨_, _, _, rfl, by decide, okX1, fl_X6_121⟩
theorem fl_X6_124 : Cond.fieldLink RX6 124 (TX1 11).1 (TX1 11).2.1 (TX1 11).2.2.1 ∈ lw_ok := lw_i1 63 rfl rfl
theorem ff_X6_124 : FFd RX6 124 1 11 := ⟨_, _, _, rfl, by decide, okX1, fl_X6_124⟩
theorem fl_X6_127 : Cond.fieldLink RX6 127 (TX1 12).1 (TX1 12).2.1 (TX1 12).2.2.1 ∈ lw_ok := lw_i1 66 rfl rfl
theorem ff_X6_127 : FFd RX6 127 1 12 := ⟨_, _, _, rfl, by decide, okX1, fl_X6_127⟩
theorem fl_X6_130 : Cond.fieldLink RX6 130 (TX1 13).1 (TX1 13).2.1 (TX1 13).2.2.1 ∈ lw_ok := lw_i1 70 rfl rfl
theorem ff_X6_130 : FFd RX6 130 1 13 := ⟨_, _, _, rfl, by decide, okX1, fl_X6_130⟩
theorem fp_X6_130 : FFp RX6 130 1 13 .int := ⟨_, _, _, tyX1, rfl, by decide, okX1, fl_X6_130, tyX1_ok, nmX1, rfl, by decide +kernel⟩
theorem fl_X6_133 : Cond.fieldLink RX6 133 (TX1 15).1 (TX1 15).2.1 (TX1 15).2.2.1 ∈ lw_ok := lw_i1 76 rfl rfl
theorem ff_X6_133 : FFd RX6 133 1 15 := ⟨_, _, _, rfl, by decide, okX1, fl_X6_133⟩
theorem fl_X7_10 : Cond.fieldLink RX7 10 (TX7 0).1 (TX7 0).2.1 (TX7 0).2.2.1 ∈ lw_ok := lw_i2 21 rfl rfl
theorem ff_X7_10 : FFd RX7 10 7 0 := ⟨_, _, _, rfl, by decide, okX7, fl_X7_10⟩
theorem fl_X7_19 : Cond.fieldLink RX7 19 (TX7 1).1 (TX7 1).2.1 (TX7 1).2.2.1 ∈ lw_ok := lw_i2 22 rfl rfl
theorem ff_X7_19 : FFd RX7 19 7 1 := ⟨_, _, _, rfl, by decide, okX7, fl_X7_19⟩
theorem fl_X7_26 : Cond.fieldLink RX7 26 (TX7 2).1 (TX7 2).2.1 (TX7 2).2.2.1 ∈ lw_ok := lw_i2 23 rfl rfl
theorem ff_X7_26 : FFd RX7 26 7 2 := ⟨_, _, _, rfl, by decide, okX7, fl_X7_26⟩
theorem fl_X7_33 : Cond.fieldLink RX7 33 (TX7 3).1 (TX7 3).2.1 (TX7 3).2.2.1 ∈ lw_ok := lw_i2 24 rfl rfl
theorem ff_X7_33 : FFd RX7 33 7 3 := ⟨_, _, _, rfl, by decide, okX7, fl_X7_33⟩
theorem fl_X7_40 : Cond.fieldLink RX7 40 (TX7 4).1 (TX7 4).2.1 (TX7 4).2.2.1 ∈ lw_ok := lw_i2 25 rfl rfl
theorem ff_X7_40 : FFd RX7 40 7 4 := ⟨_, _, _, rfl, by decide, okX7, fl_X7_40⟩
theorem fl_X7_47 : Cond.fieldLink RX7 47 (TX7 5).1 (TX7 5).2.1 (TX7 5).2.2.1 ∈ lw_ok := lw_i2 26 rfl rfl
theorem ff_X7_47 : FFd RX7 47 7 5 := ⟨_, _, _, rfl, by decide, okX7, fl_X7_47⟩
theorem fl_X7_51 : Cond.fieldLink RX7 51 (TX7 6).1 (TX7 6).2.1 (TX7 6).2.2.1 ∈ lw_ok := lw_i2 27 rfl rfl
theorem ff_X7_51 : FFd RX7 51 7 6 := ⟨_, _, _, rfl, by decide, okX7, fl_X7_51⟩
theorem fl_X7_58 : Cond.fieldLink RX7 58 (TX7 7).1 (TX7 7).2.1 (TX7 7).2.2.1 ∈ lw_ok := lw_i2 28 rfl rfl
theorem ff_X7_58 : FFd RX7 58 7 7 := ⟨_, _, _, rfl, by decide, okX7, fl_X7_58⟩
theorem fp_X7_58 : FFp RX7 58 7 7 (.object "MindDuty$Country") := ⟨_, _, _, tyX7, rfl, by decide, okX7, fl_X7_58, tyX7_ok, nmX7, rfl, by decide +kernel⟩
theorem fl_X7_67 : Cond.fieldLink RX7 67 (TX6 1).1 (TX6 1).2.1 (TX6 1).2.2.1 ∈ lw_ok := lw_i1 116 rfl rfl
theorem ff_X7_67 : FFd RX7 67 6 1 := ⟨_, _, _, rfl, by decide, okX6, fl_X7_67⟩
theorem fp_X7_67 : FFp RX7 67 6 1 .int := ⟨_, _, _, tyX6, rfl, by decide, okX6, fl_X7_67, tyX6_ok, nmX6, rfl, by decide +kernel⟩
theorem fl_X7_76 : Cond.fieldLink RX7 76 (TX6 3).1 (TX6 3).2.1 (TX6 3).2.2.1 ∈ lw_ok := lw_i1 119 rfl rfl
theorem ff_X7_76 : FFd RX7 76 6 3 := ⟨_, _, _, rfl, by decide, okX6, fl_X7_76⟩
theorem fl_X7_90 : Cond.fieldLink RX7 90 (TX3 2).1 (TX3 2).2.1 (TX3 2).2.2.1 ∈ lw_ok := lw_i1 177 rfl rfl
theorem ff_X7_90 : FFd RX7 90 3 2 := ⟨_, _, _, rfl, by decide, okX3, fl_X7_90⟩
theorem fp_X7_90 : FFp RX7 90 3 2 .int := ⟨_, _, _, tyX3, rfl, by decide, okX3, fl_X7_90, tyX3_ok, nmX3, rfl, by decide +kernel⟩
theorem fl_X7_96 : Cond.fieldLink RX7 96 (TX5 4).1 (TX5 4).2.1 (TX5 4).2.2.1 ∈ lw_ok := lw_i1 218 rfl rfl
theorem ff_X7_96 : FFd RX7 96 5 4 := ⟨_, _, _, rfl, by decide, okX5, fl_X7_96⟩
theorem fp_X7_96 : FFp RX7 96 5 4 .int := ⟨_, _, _, tyX5, rfl, by decide, okX5, fl_X7_96, tyX5_ok, nmX5, rfl, by decide +kernel⟩
theorem fl_X7_97 : Cond.fieldLink RX7 97 (TX0 2).1 (TX0 2).2.1 (TX0 2).2.2.1 ∈ lw_ok := lw_i2 11 rfl rfl
theorem ff_X7_97 : FFd RX7 97 0 2 := ⟨_, _, _, rfl, by decide, okX0, fl_X7_97⟩
theorem fp_X7_97 : FFp RX7 97 0 2 .int := ⟨_, _, _, tyX0, rfl, by decide, okX0, fl_X7_97, tyX0_ok, nmX0, rfl, by decide +kernel⟩
theorem fl_X7_98 : Cond.fieldLink RX7 98 (TX1 3).1 (TX1 3).2.1 (TX1 3).2.2.1 ∈ lw_ok := lw_i1 42 rfl rfl
theorem ff_X7_98 : FFd RX7 98 1 3 := ⟨_, _, _, rfl, by decide, okX1, fl_X7_98⟩
theorem fl_X7_101 : Cond.fieldLink RX7 101 (TX6 2).1 (TX6 2).2.1 (TX6 2).2.2.1 ∈ lw_ok := lw_i1 118 rfl rfl
theorem ff_X7_101 : FFd RX7 101 6 2 := ⟨_, _, _, rfl, by decide, okX6, fl_X7_101⟩
theorem fl_X7_104 : Cond.fieldLink RX7 104 (TX1 1).1 (TX1 1).2.1 (TX1 1).2.2.1 ∈ lw_ok := lw_i1 36 rfl rfl
theorem ff_X7_104 : FFd RX7 104 1 1 := ⟨_, _, _, rfl, by decide, okX1, fl_X7_104⟩
theorem fl_X7_107 : Cond.fieldLink RX7 107 (TX1 2).1 (TX1 2).2.1 (TX1 2).2.2.1 ∈ lw_ok := lw_i1 39 rfl rfl
theorem ff_X7_107 : FFd RX7 107 1 2 := ⟨_, _, _, rfl, by decide, okX1, fl_X7_107⟩
theorem fl_X7_110 : Cond.fieldLink RX7 110 (TX1 5).1 (TX1 5).2.1 (TX1 5).2.2.1 ∈ lw_ok := lw_i1 48 rfl rfl
theorem ff_X7_110 : FFd RX7 110 1 5 := ⟨_, _, _, rfl, by decide, okX1, fl_X7_110⟩
theorem fl_X7_113 : Cond.fieldLink RX7 113 (TX1 9).1 (TX1 9).2.1 (TX1 9).2.2.1 ∈ lw_ok := lw_i1 57 rfl rfl
theorem ff_X7_113 : FFd RX7 113 1 9 := ⟨_, _, _, rfl, by decide, okX1, fl_X7_113⟩
theorem fl_X7_116 : Cond.fieldLink RX7 116 (TX1 14).1 (TX1 14).2.1 (TX1 14).2.2.1 ∈ lw_ok := lw_i1 72 rfl rfl
theorem ff_X7_116 : FFd RX7 116 1 14 := ⟨_, _, _, rfl, by decide, okX1, fl_X7_116⟩
theorem fl_X7_119 : Cond.fieldLink RX7 119 (TX4 1).1 (TX4 1).2.1 (TX4 1).2.2.1 ∈ lw_ok := lw_i1 147 rfl rfl
theorem ff_X7_119 : FFd RX7 119 4 1 := ⟨_, _, _, rfl, by decide, okX4, fl_X7_119⟩
theorem fp_X7_119 : FFp RX7 119 4 1 .int := ⟨_, _, _, tyX4, rfl, by decide, okX4, fl_X7_119, tyX4_ok, nmX4, rfl, by decide +kernel⟩
theorem fl_X7_126 : Cond.fieldLink RX7 126 (TX4 2).1 (TX4 2).2.1 (TX4 2).2.2.1 ∈ lw_ok := lw_i1 149 rfl rfl
theorem ff_X7_126 : FFd RX7 126 4 2 := ⟨_, _, _, rfl, by decide, okX4, fl_X7_126⟩
theorem fl_X7_132 : Cond.fieldLink RX7 132 (TX4 3).1 (TX4 3).2.1 (TX4 3).2.2.1 ∈ lw_ok := lw_i1 151 rfl rfl
theorem ff_X7_132 : FFd RX7 132 4 3 := ⟨_, _, _, rfl, by decide, okX4, fl_X7_132⟩
theorem fp_X7_132 : FFp RX7 132 4 3 .int := ⟨_, _, _, tyX4, rfl, by decide, okX4, fl_X7_132, tyX4_ok, nmX4, rfl, by decide +kernel⟩
theorem fl_X7_135 : Cond.fieldLink RX7 135 (TX4 4).1 (TX4 4).2.1 (TX4 4).2.2.1 ∈ lw_ok := lw_i1 153 rfl rfl
theorem ff_X7_135 : FFd RX7 135 4 4 := ⟨_, _, _, rfl, by decide, okX4, fl_X7_135⟩
theorem fp_X7_135 : FFp RX7 135 4 4 .int := ⟨_, _, _, tyX4, rfl, by decide, okX4, fl_X7_135, tyX4_ok, nmX4, rfl, by decide +kernel⟩
theorem fl_X7_141 : Cond.fieldLink RX7 141 (TX1 4).1 (TX1 4).2.1 (TX1 4).2.2.1 ∈ lw_ok := lw_i1 45 rfl rfl
theorem ff_X7_141 : FFd RX7 141 1 4 := ⟨_, _, _, rfl, by decide, okX1, fl_X7_141⟩
theorem fl_X7_200 : Cond.fieldLink RX7 200 (TX1 0).1 (TX1 0).2.1 (TX1 0).2.2.1 ∈ lw_ok := lw_i1 34 rfl rfl
theorem ff_X7_200 : FFd RX7 200 1 0 := ⟨_, _, _, rfl, by decide, okX1, fl_X7_200⟩
theorem fl_X7_247 : Cond.fieldLink RX7 247 (TX5 5).1 (TX5 5).2.1 (TX5 5).2.2.1 ∈ lw_ok := lw_i1 220 rfl rfl
theorem ff_X7_247 : FFd RX7 247 5 5 := ⟨_, _, _, rfl, by decide, okX5, fl_X7_247⟩
theorem fl_X7_250 : Cond.fieldLink RX7 250 (TX5 6).1 (TX5 6).2.1 (TX5 6).2.2.1 ∈ lw_ok := lw_i1 222 rfl rfl
theorem ff_X7_250 : FFd RX7 250 5 6 := ⟨_, _, _, rfl, by decide, okX5, fl_X7_250⟩
theorem fl_X7_253 : Cond.fieldLink RX7 253 (TX5 7).1 (TX5 7).2.1 (TX5 7).2.2.1 ∈ lw_ok := lw_i1 224 rfl rfl
theorem ff_X7_253 : FFd RX7 253 5 7 := ⟨_, _, _, rfl, by decide, okX5, fl_X7_253⟩
theorem fl_X7_265 : Cond.fieldLink RX7 265 (TX7 8).1 (TX7 8).2.1 (TX7 8).2.2.1 ∈ lw_ok := lw_i2 29 rfl rfl
theorem ff_X7_265 : FFd RX7 265 7 8 := ⟨_, _, _, rfl, by decide, okX7, fl_X7_265⟩
theorem fp_X7_265 : FFp RX7 265 7 8 .int := ⟨_, _, _, tyX7, rfl, by decide, okX7, fl_X7_265, tyX7_ok, nmX7, rfl, by decide +kernel⟩
theorem fl_X7_272 : Cond.fieldLink RX7 272 (TX2 2).1 (TX2 2).2.1 (TX2 2).2.2.1 ∈ lw_ok := lw_i1 198 rfl rfl
theorem ff_X7_272 : FFd RX7 272 2 2 := ⟨_, _, _, rfl, by decide, okX2, fl_X7_272⟩
theorem fl_X7_276 : Cond.fieldLink RX7 276 (TX2 0).1 (TX2 0).2.1 (TX2 0).2.2.1 ∈ lw_ok := lw_i1 194 rfl rfl
theorem ff_X7_276 : FFd RX7 276 2 0 := ⟨_, _, _, rfl, by decide, okX2, fl_X7_276⟩
theorem fl_X7_283 : Cond.fieldLink RX7 283 (TX2 1).1 (TX2 1).2.1 (TX2 1).2.2.1 ∈ lw_ok := lw_i1 196 rfl rfl
theorem ff_X7_283 : FFd RX7 283 2 1 := ⟨_, _, _, rfl, by decide, okX2, fl_X7_283⟩
theorem fl_X7_296 : Cond.fieldLink RX7 296 (TX1 11).1 (TX1 11).2.1 (TX1 11).2.2.1 ∈ lw_ok := lw_i1 64 rfl rfl
theorem ff_X7_296 : FFd RX7 296 1 11 := ⟨_, _, _, rfl, by decide, okX1, fl_X7_296⟩
theorem fl_X7_299 : Cond.fieldLink RX7 299 (TX1 10).1 (TX1 10).2.1 (TX1 10).2.2.1 ∈ lw_ok := lw_i1 61 rfl rfl
theorem ff_X7_299 : FFd RX7 299 1 10 := ⟨_, _, _, rfl, by decide, okX1, fl_X7_299⟩
theorem fl_X7_302 : Cond.fieldLink RX7 302 (TX1 12).1 (TX1 12).2.1 (TX1 12).2.2.1 ∈ lw_ok := lw_i1 67 rfl rfl
theorem ff_X7_302 : FFd RX7 302 1 12 := ⟨_, _, _, rfl, by decide, okX1, fl_X7_302⟩
theorem fl_X8_7 : Cond.fieldLink RX8 7 (TX8 3).1 (TX8 3).2.1 (TX8 3).2.2.1 ∈ lw_ok := lw_i3 224 rfl rfl
theorem ff_X8_7 : FFd RX8 7 8 3 := ⟨_, _, _, rfl, by decide, okX8, fl_X8_7⟩
theorem fl_X8_13 : Cond.fieldLink RX8 13 (TX8 5).1 (TX8 5).2.1 (TX8 5).2.2.1 ∈ lw_ok := lw_i3 226 rfl rfl
theorem ff_X8_13 : FFd RX8 13 8 5 := ⟨_, _, _, rfl, by decide, okX8, fl_X8_13⟩
theorem fl_X8_16 : Cond.fieldLink RX8 16 (TX8 6).1 (TX8 6).2.1 (TX8 6).2.2.1 ∈ lw_ok := lw_i3 227 rfl rfl
theorem ff_X8_16 : FFd RX8 16 8 6 := ⟨_, _, _, rfl, by decide, okX8, fl_X8_16⟩
theorem fl_X8_19 : Cond.fieldLink RX8 19 (TX8 7).1 (TX8 7).2.1 (TX8 7).2.2.1 ∈ lw_ok := lw_i3 228 rfl rfl
theorem ff_X8_19 : FFd RX8 19 8 7 := ⟨_, _, _, rfl, by decide, okX8, fl_X8_19⟩
theorem fl_X8_22 : Cond.fieldLink RX8 22 (TX8 9).1 (TX8 9).2.1 (TX8 9).2.2.1 ∈ lw_ok := lw_i3 230 rfl rfl
theorem ff_X8_22 : FFd RX8 22 8 9 := ⟨_, _, _, rfl, by decide, okX8, fl_X8_22⟩
theorem fl_X8_25 : Cond.fieldLink RX8 25 (TX8 10).1 (TX8 10).2.1 (TX8 10).2.2.1 ∈ lw_ok := lw_i3 231 rfl rfl
theorem ff_X8_25 : FFd RX8 25 8 10 := ⟨_, _, _, rfl, by decide, okX8, fl_X8_25⟩
theorem fl_X8_28 : Cond.fieldLink RX8 28 (TX8 11).1 (TX8 11).2.1 (TX8 11).2.2.1 ∈ lw_ok := lw_i3 232 rfl rfl
theorem ff_X8_28 : FFd RX8 28 8 11 := ⟨_, _, _, rfl, by decide, okX8, fl_X8_28⟩
theorem fl_X8_31 : Cond.fieldLink RX8 31 (TX8 13).1 (TX8 13).2.1 (TX8 13).2.2.1 ∈ lw_ok := lw_i3 234 rfl rfl
theorem ff_X8_31 : FFd RX8 31 8 13 := ⟨_, _, _, rfl, by decide, okX8, fl_X8_31⟩
theorem fl_X8_34 : Cond.fieldLink RX8 34 (TX8 15).1 (TX8 15).2.1 (TX8 15).2.2.1 ∈ lw_ok := lw_i3 236 rfl rfl
theorem ff_X8_34 : FFd RX8 34 8 15 := ⟨_, _, _, rfl, by decide, okX8, fl_X8_34⟩
theorem fl_X8_37 : Cond.fieldLink RX8 37 (TX8 17).1 (TX8 17).2.1 (TX8 17).2.2.1 ∈ lw_ok := lw_i3 238 rfl rfl
theorem ff_X8_37 : FFd RX8 37 8 17 := ⟨_, _, _, rfl, by decide, okX8, fl_X8_37⟩
theorem fp_X8_37 : FFp RX8 37 8 17 .int := ⟨_, _, _, tyX8, rfl, by decide, okX8, fl_X8_37, tyX8_ok, nmX8, rfl, by decide +kernel⟩
theorem fl_X8_41 : Cond.fieldLink RX8 41 (TX8 21).1 (TX8 21).2.1 (TX8 21).2.2.1 ∈ lw_ok := lw_i4 2 rfl rfl
theorem ff_X8_41 : FFd RX8 41 8 21 := ⟨_, _, _, rfl, by decide, okX8, fl_X8_41⟩
theorem fl_X8_44 : Cond.fieldLink RX8 44 (TX8 23).1 (TX8 23).2.1 (TX8 23).2.2.1 ∈ lw_ok := lw_i4 4 rfl rfl
theorem ff_X8_44 : FFd RX8 44 8 23 := ⟨_, _, _, rfl, by decide, okX8, fl_X8_44⟩
theorem fl_X8_47 : Cond.fieldLink RX8 47 (TX8 25).1 (TX8 25).2.1 (TX8 25).2.2.1 ∈ lw_ok := lw_i4 6 rfl rfl
theorem ff_X8_47 : FFd RX8 47 8 25 := ⟨_, _, _, rfl, by decide, okX8, fl_X8_47⟩
theorem fl_X8_50 : Cond.fieldLink RX8 50 (TX8 26).1 (TX8 26).2.1 (TX8 26).2.2.1 ∈ lw_ok := lw_i4 7 rfl rfl
theorem ff_X8_50 : FFd RX8 50 8 26 := ⟨_, _, _, rfl, by decide, okX8, fl_X8_50⟩
theorem fl_X8_53 : Cond.fieldLink RX8 53 (TX8 27).1 (TX8 27).2.1 (TX8 27).2.2.1 ∈ lw_ok := lw_i4 8 rfl rfl
theorem ff_X8_53 : FFd RX8 53 8 27 := ⟨_, _, _, rfl, by decide, okX8, fl_X8_53⟩
theorem fl_X8_56 : Cond.fieldLink RX8 56 (TX8 29).1 (TX8 29).2.1 (TX8 29).2.2.1 ∈ lw_ok := lw_i4 10 rfl rfl
theorem ff_X8_56 : FFd RX8 56 8 29 := ⟨_, _, _, rfl, by decide, okX8, fl_X8_56⟩
theorem fl_X8_59 : Cond.fieldLink RX8 59 (TX8 30).1 (TX8 30).2.1 (TX8 30).2.2.1 ∈ lw_ok := lw_i4 11 rfl rfl
theorem ff_X8_59 : FFd RX8 59 8 30 := ⟨_, _, _, rfl, by decide, okX8, fl_X8_59⟩
theorem fl_X8_62 : Cond.fieldLink RX8 62 (TX8 31).1 (TX8 31).2.1 (TX8 31).2.2.1 ∈ lw_ok := lw_i4 12 rfl rfl
theorem ff_X8_62 : FFd RX8 62 8 31 := ⟨_, _, _, rfl, by decide, okX8, fl_X8_62⟩
theorem fl_X8_65 : Cond.fieldLink RX8 65 (TX8 34).1 (TX8 34).2.1 (TX8 34).2.2.1 ∈ lw_ok := lw_i4 15 rfl rfl
theorem ff_X8_65 : FFd RX8 65 8 34 := ⟨_, _, _, rfl, by decide, okX8, fl_X8_65⟩
theorem fl_X8_68 : Cond.fieldLink RX8 68 (TX8 36).1 (TX8 36).2.1 (TX8 36).2.2.1 ∈ lw_ok := lw_i4 17 rfl rfl
theorem ff_X8_68 : FFd RX8 68 8 36 := ⟨_, _, _, rfl, by decide, okX8, fl_X8_68⟩
theorem fl_X8_71 : Cond.fieldLink RX8 71 (TX8 37).1 (TX8 37).2.1 (TX8 37).2.2.1 ∈ lw_ok := lw_i4 18 rfl rfl
theorem ff_X8_71 : FFd RX8 71 8 37 := ⟨_, _, _, rfl, by decide, okX8, fl_X8_71⟩
theorem fl_X8_74 : Cond.fieldLink RX8 74 (TX8 39).1 (TX8 39).2.1 (TX8 39).2.2.1 ∈ lw_ok := lw_i4 20 rfl rfl
theorem ff_X8_74 : FFd RX8 74 8 39 := ⟨_, _, _, rfl, by decide, okX8, fl_X8_74⟩
theorem fl_X8_77 : Cond.fieldLink RX8 77 (TX8 40).1 (TX8 40).2.1 (TX8 40).2.2.1 ∈ lw_ok := lw_i4 21 rfl rfl
theorem ff_X8_77 : FFd RX8 77 8 40 := ⟨_, _, _, rfl, by decide, okX8, fl_X8_77⟩
theorem fl_X8_80 : Cond.fieldLink RX8 80 (TX8 41).1 (TX8 41).2.1 (TX8 41).2.2.1 ∈ lw_ok := lw_i4 22 rfl rfl
theorem ff_X8_80 : FFd RX8 80 8 41 := ⟨_, _, _, rfl, by decide, okX8, fl_X8_80⟩
theorem fl_X8_84 : Cond.fieldLink RX8 84 (TX8 42).1 (TX8 42).2.1 (TX8 42).2.2.1 ∈ lw_ok := lw_i4 23 rfl rfl
theorem ff_X8_84 : FFd RX8 84 8 42 := ⟨_, _, _, rfl, by decide, okX8, fl_X8_84⟩
theorem fl_X8_87 : Cond.fieldLink RX8 87 (TX8 44).1 (TX8 44).2.1 (TX8 44).2.2.1 ∈ lw_ok := lw_i4 25 rfl rfl
theorem ff_X8_87 : FFd RX8 87 8 44 := ⟨_, _, _, rfl, by decide, okX8, fl_X8_87⟩
theorem fl_X8_90 : Cond.fieldLink RX8 90 (TX8 45).1 (TX8 45).2.1 (TX8 45).2.2.1 ∈ lw_ok := lw_i4 26 rfl rfl
theorem ff_X8_90 : FFd RX8 90 8 45 := ⟨_, _, _, rfl, by decide, okX8, fl_X8_90⟩
theorem fl_X8_93 : Cond.fieldLink RX8 93 (TX8 46).1 (TX8 46).2.1 (TX8 46).2.2.1 ∈ lw_ok := lw_i4 27 rfl rfl
theorem ff_X8_93 : FFd RX8 93 8 46 := ⟨_, _, _, rfl, by decide, okX8, fl_X8_93⟩
theorem fl_X8_96 : Cond.fieldLink RX8 96 (TX8 47).1 (TX8 47).2.1 (TX8 47).2.2.1 ∈ lw_ok := lw_i4 28 rfl rfl
theorem ff_X8_96 : FFd RX8 96 8 47 := ⟨_, _, _, rfl, by decide, okX8, fl_X8_96⟩
theorem fl_X8_99 : Cond.fieldLink RX8 99 (TX8 0).1 (TX8 0).2.1 (TX8 0).2.2.1 ∈ lw_ok := lw_i3 221 rfl rfl
theorem ff_X8_99 : FFd RX8 99 8 0 := ⟨_, _, _, rfl, by decide, okX8, fl_X8_99⟩
theorem fp_X8_99 : FFp RX8 99 8 0 .int := ⟨_, _, _, tyX8, rfl, by decide, okX8, fl_X8_99, tyX8_ok, nmX8, rfl, by decide +kernel⟩
theorem fl_X8_103 : Cond.fieldLink RX8 103 (TX8 2).1 (TX8 2).2.1 (TX8 2).2.2.1 ∈ lw_ok := lw_i3 223 rfl rfl
theorem ff_X8_103 : FFd RX8 103 8 2 := ⟨_, _, _, rfl, by decide, okX8, fl_X8_103⟩
theorem fp_X8_103 : FFp RX8 103 8 2 .int := ⟨_, _, _, tyX8, rfl, by decide, okX8, fl_X8_103, tyX8_ok, nmX8, rfl, by decide +kernel⟩
theorem fl_X8_110 : Cond.fieldLink RX8 110 (TX8 12).1 (TX8 12).2.1 (TX8 12).2.2.1 ∈ lw_ok := lw_i3 233 rfl rfl
theorem ff_X8_110 : FFd RX8 110 8 12 := ⟨_, _, _, rfl, by decide, okX8, fl_X8_110⟩
theorem fp_X8_110 : FFp RX8 110 8 12 .int := ⟨_, _, _, tyX8, rfl, by decide, okX8, fl_X8_110, tyX8_ok, nmX8, rfl, by decide +kernel⟩
theorem fl_X8_116 : Cond.fieldLink RX8 116 (TX8 16).1 (TX8 16).2.1 (TX8 16).2.2.1 ∈ lw_ok := lw_i3 237 rfl rfl
theorem ff_X8_116 : FFd RX8 116 8 16 := ⟨_, _, _, rfl, by decide, okX8, fl_X8_116⟩
theorem fp_X8_116 : FFp RX8 116 8 16 .int := ⟨_, _, _, tyX8, rfl, by decide, okX8, fl_X8_116, tyX8_ok, nmX8, rfl, by decide +kernel⟩
theorem fl_X8_120 : Cond.fieldLink RX8 120 (TX8 18).1 (TX8 18).2.1 (TX8 18).2.2.1 ∈ lw_ok := lw_i3 239 rfl rfl
theorem ff_X8_120 : FFd RX8 120 8 18 := ⟨_, _, _, rfl, by decide, okX8, fl_X8_120⟩
theorem fp_X8_120 : FFp RX8 120 8 18 .int := ⟨_, _, _, tyX8, rfl, by decide, okX8, fl_X8_120, tyX8_ok, nmX8, rfl, by decide +kernel⟩
theorem fl_X8_135 : Cond.fieldLink RX8 135 (TX8 20).1 (TX8 20).2.1 (TX8 20).2.2.1 ∈ lw_ok := lw_i4 1 rfl rfl
theorem ff_X8_135 : FFd RX8 135 8 20 := ⟨_, _, _, rfl, by decide, okX8, fl_X8_135⟩
theorem fp_X8_135 : FFp RX8 135 8 20 .int := ⟨_, _, _, tyX8, rfl, by decide, okX8, fl_X8_135, tyX8_ok, nmX8, rfl, by decide +kernel⟩
theorem fl_X8_138 : Cond.fieldLink RX8 138 (TX8 19).1 (TX8 19).2.1 (TX8 19).2.2.1 ∈ lw_ok := lw_i4 0 rfl rfl
theorem ff_X8_138 : FFd RX8 138 8 19 := ⟨_, _, _, rfl, by decide, okX8, fl_X8_138⟩
theorem fp_X8_138 : FFp RX8 138 8 19 .int := ⟨_, _, _, tyX8, rfl, by decide, okX8, fl_X8_138, tyX8_ok, nmX8, rfl, by decide +kernel⟩
theorem fl_X8_148 : Cond.fieldLink RX8 148 (TX8 22).1 (TX8 22).2.1 (TX8 22).2.2.1 ∈ lw_ok := lw_i4 3 rfl rfl
theorem ff_X8_148 : FFd RX8 148 8 22 := ⟨_, _, _, rfl, by decide, okX8, fl_X8_148⟩
theorem fp_X8_148 : FFp RX8 148 8 22 .int := ⟨_, _, _, tyX8, rfl, by decide, okX8, fl_X8_148, tyX8_ok, nmX8, rfl, by decide +kernel⟩
theorem fl_X8_151 : Cond.fieldLink RX8 151 (TX8 24).1 (TX8 24).2.1 (TX8 24).2.2.1 ∈ lw_ok := lw_i4 5 rfl rfl
theorem ff_X8_151 : FFd RX8 151 8 24 := ⟨_, _, _, rfl, by decide, okX8, fl_X8_151⟩
theorem fp_X8_151 : FFp RX8 151 8 24 .int := ⟨_, _, _, tyX8, rfl, by decide, okX8, fl_X8_151, tyX8_ok, nmX8, rfl, by decide +kernel⟩
theorem fl_X8_154 : Cond.fieldLink RX8 154 (TX8 28).1 (TX8 28).2.1 (TX8 28).2.2.1 ∈ lw_ok := lw_i4 9 rfl rfl
theorem ff_X8_154 : FFd RX8 154 8 28 := ⟨_, _, _, rfl, by decide, okX8, fl_X8_154⟩
theorem fp_X8_154 : FFp RX8 154 8 28 .int := ⟨_, _, _, tyX8, rfl, by decide, okX8, fl_X8_154, tyX8_ok, nmX8, rfl, by decide +kernel⟩
theorem fl_X8_157 : Cond.fieldLink RX8 157 (TX8 32).1 (TX8 32).2.1 (TX8 32).2.2.1 ∈ lw_ok := lw_i4 13 rfl rfl
theorem ff_X8_157 : FFd RX8 157 8 32 := ⟨_, _, _, rfl, by decide, okX8, fl_X8_157⟩
theorem fp_X8_157 : FFp RX8 157 8 32 .int := ⟨_, _, _, tyX8, rfl, by decide, okX8, fl_X8_157, tyX8_ok, nmX8, rfl, by decide +kernel⟩
theorem fl_X8_164 : Cond.fieldLink RX8 164 (TX8 33).1 (TX8 33).2.1 (TX8 33).2.2.1 ∈ lw_ok := lw_i4 14 rfl rfl
theorem ff_X8_164 : FFd RX8 164 8 33 := ⟨_, _, _, rfl, by decide, okX8, fl_X8_164⟩
theorem fp_X8_164 : FFp RX8 164 8 33 .int := ⟨_, _, _, tyX8, rfl, by decide, okX8, fl_X8_164, tyX8_ok, nmX8, rfl, by decide +kernel⟩
theorem fl_X8_196 : Cond.fieldLink RX8 196 (TX8 1).1 (TX8 1).2.1 (TX8 1).2.2.1 ∈ lw_ok := lw_i3 222 rfl rfl
theorem ff_X8_196 : FFd RX8 196 8 1 := ⟨_, _, _, rfl, by decide, okX8, fl_X8_196⟩
theorem fp_X8_196 : FFp RX8 196 8 1 .int := ⟨_, _, _, tyX8, rfl, by decide, okX8, fl_X8_196, tyX8_ok, nmX8, rfl, by decide +kernel⟩
theorem fl_X8_199 : Cond.fieldLink RX8 199 (TX8 4).1 (TX8 4).2.1 (TX8 4).2.2.1 ∈ lw_ok := lw_i3 225 rfl rfl
theorem ff_X8_199 : FFd RX8 199 8 4 := ⟨_, _, _, rfl, by decide, okX8, fl_X8_199⟩
theorem fp_X8_199 : FFp RX8 199 8 4 .int := ⟨_, _, _, tyX8, rfl, by decide, okX8, fl_X8_199, tyX8_ok, nmX8, rfl, by decide +kernel⟩
theorem fl_X8_202 : Cond.fieldLink RX8 202 (TX8 8).1 (TX8 8).2.1 (TX8 8).2.2.1 ∈ lw_ok := lw_i3 229 rfl rfl
theorem ff_X8_202 : FFd RX8 202 8 8 := ⟨_, _, _, rfl, by decide, okX8, fl_X8_202⟩
theorem fp_X8_202 : FFp RX8 202 8 8 .int := ⟨_, _, _, tyX8, rfl, by decide, okX8, fl_X8_202, tyX8_ok, nmX8, rfl, by decide +kernel⟩
theorem fl_X8_211 : Cond.fieldLink RX8 211 (TX8 38).1 (TX8 38).2.1 (TX8 38).2.2.1 ∈ lw_ok := lw_i4 19 rfl rfl
theorem ff_X8_211 : FFd RX8 211 8 38 := ⟨_, _, _, rfl, by decide, okX8, fl_X8_211⟩
theorem fp_X8_211 : FFp RX8 211 8 38 .int := ⟨_, _, _, tyX8, rfl, by decide, okX8, fl_X8_211, tyX8_ok, nmX8, rfl, by decide +kernel⟩
theorem fl_X8_214 : Cond.fieldLink RX8 214 (TX8 43).1 (TX8 43).2.1 (TX8 43).2.2.1 ∈ lw_ok := lw_i4 24 rfl rfl
theorem ff_X8_214 : FFd RX8 214 8 43 := ⟨_, _, _, rfl, by decide, okX8, fl_X8_214⟩
theorem fp_X8_214 : FFp RX8 214 8 43 .int := ⟨_, _, _, tyX8, rfl, by decide, okX8, fl_X8_214, tyX8_ok, nmX8, rfl, by decide +kernel⟩
theorem fl_X8_217 : Cond.fieldLink RX8 217 (TX8 35).1 (TX8 35).2.1 (TX8 35).2.2.1 ∈ lw_ok := lw_i4 16 rfl rfl
theorem ff_X8_217 : FFd RX8 217 8 35 := ⟨_, _, _, rfl, by decide, okX8, fl_X8_217⟩
theorem fp_X8_217 : FFp RX8 217 8 35 .int := ⟨_, _, _, tyX8, rfl, by decide, okX8, fl_X8_217, tyX8_ok, nmX8, rfl, by decide +kernel⟩
theorem fl_X8_273 : Cond.fieldLink RX8 273 (TX8 14).1 (TX8 14).2.1 (TX8 14).2.2.1 ∈ lw_ok := lw_i3 235 rfl rfl
theorem ff_X8_273 : FFd RX8 273 8 14 := ⟨_, _, _, rfl, by decide, okX8, fl_X8_273⟩
theorem fp_X8_273 : FFp RX8 273 8 14 .int := ⟨_, _, _, tyX8, rfl, by decide, okX8, fl_X8_273, tyX8_ok, nmX8, rfl, by decide +kernel⟩
theorem nh_X0 : RX0 ≠ "java/lang/invoke/MethodHandle" ∧ RX0 ≠ "java/lang/invoke/VarHandle" ∧ Cond.initialized RX0 ∈ lw_ok := ⟨by decide +kernel, by decide +kernel, lw_i1 8 rfl rfl⟩
theorem nh_X1 : RX1 ≠ "java/lang/invoke/MethodHandle" ∧ RX1 ≠ "java/lang/invoke/VarHandle" ∧ Cond.initialized RX1 ∈ lw_ok := ⟨by decide +kernel, by decide +kernel, lw_i1 3 rfl rfl⟩
theorem nh_X2 : RX2 ≠ "java/lang/invoke/MethodHandle" ∧ RX2 ≠ "java/lang/invoke/VarHandle" ∧ Cond.initialized RX2 ∈ lw_ok := ⟨by decide +kernel, by decide +kernel, lw_i1 6 rfl rfl⟩
theorem nh_X3 : RX3 ≠ "java/lang/invoke/MethodHandle" ∧ RX3 ≠ "java/lang/invoke/VarHandle" ∧ Cond.initialized RX3 ∈ lw_ok := ⟨by decide +kernel, by decide +kernel, lw_i1 5 rfl rfl⟩
theorem nh_X4 : RX4 ≠ "java/lang/invoke/MethodHandle" ∧ RX4 ≠ "java/lang/invoke/VarHandle" ∧ Cond.initialized RX4 ∈ lw_ok := ⟨by decide +kernel, by decide +kernel, lw_i1 4 rfl rfl⟩
theorem nh_X5 : RX5 ≠ "java/lang/invoke/MethodHandle" ∧ RX5 ≠ "java/lang/invoke/VarHandle" ∧ Cond.initialized RX5 ∈ lw_ok := ⟨by decide +kernel, by decide +kernel, lw_i1 7 rfl rfl⟩
theorem nh_X6 : RX6 ≠ "java/lang/invoke/MethodHandle" ∧ RX6 ≠ "java/lang/invoke/VarHandle" ∧ Cond.initialized RX6 ∈ lw_ok := ⟨by decide +kernel, by decide +kernel, lw_i1 2 rfl rfl⟩
theorem nh_X7 : RX7 ≠ "java/lang/invoke/MethodHandle" ∧ RX7 ≠ "java/lang/invoke/VarHandle" ∧ Cond.initialized RX7 ∈ lw_ok := ⟨by decide +kernel, by decide +kernel, lw_i1 1 rfl rfl⟩
theorem nh_X8 : RX8 ≠ "java/lang/invoke/MethodHandle" ∧ RX8 ≠ "java/lang/invoke/VarHandle" ∧ Cond.initialized RX8 ∈ lw_ok := ⟨by decide +kernel, by decide +kernel, lw_i1 9 rfl rfl⟩
theorem nh_J6 : RJ6 ≠ "java/lang/invoke/MethodHandle" ∧ RJ6 ≠ "java/lang/invoke/VarHandle" ∧ Cond.initialized RJ6 ∈ lw_ok := ⟨by decide +kernel, by decide +kernel, lw_i1 11 rfl rfl⟩
theorem nh_J9 : RJ9 ≠ "java/lang/invoke/MethodHandle" ∧ RJ9 ≠ "java/lang/invoke/VarHandle" ∧ Cond.initialized RJ9 ∈ lw_ok := ⟨by decide +kernel, by decide +kernel, lw_i1 10 rfl rfl⟩
theorem nh_L : RL ≠ "java/lang/invoke/MethodHandle" ∧ RL ≠ "java/lang/invoke/VarHandle" ∧ Cond.initialized RL ∈ lw_ok := ⟨by decide +kernel, by decide +kernel, lw_i1 0 rfl rfl⟩
theorem my_X0_init : MY yX0_init cX0_init 1 none 0 := ⟨lw_i2 6 rfl rfl, nh_X0.1, nh_X0.2.1, by decide +kernel, nh_X0.2.2⟩
theorem my_X0_append : MY yX0_append cX0_append 3 (some .boolean) 2 := ⟨lw_i3 184 rfl rfl, nh_X0.1, nh_X0.2.1, by decide +kernel, nh_X0.2.2⟩
theorem mx_X0_append : Cond.instanceMethod yX0_append ∈ lw_ok ∧ Cond.selects yX0_append.cls yX0_append yX0_append ∈ lw_ok := ⟨lw_i3 182 rfl rfl, lw_i3 183 rfl rfl⟩
theorem my_X0_firstWrong : MY yX0_firstWrong cX0_firstWrong 3 (some .int) 1 := ⟨lw_i3 196 rfl rfl, nh_X0.1, nh_X0.2.1, by decide +kernel, nh_X0.2.2⟩
theorem mx_X0_firstWrong : Cond.instanceMethod yX0_firstWrong ∈ lw_ok ∧ Cond.selects yX0_firstWrong.cls yX0_firstWrong yX0_firstWrong ∈ lw_ok := ⟨lw_i3 194 rfl rfl, lw_i3 195 rfl rfl⟩
theorem my_X1_init : MY yX1_init cX1_init 1 none 0 := ⟨lw_i1 30 rfl rfl, nh_X1.1, nh_X1.2.1, by decide +kernel, nh_X1.2.2⟩
theorem my_X1_clear : MY yX1_clear cX1_clear 1 none 0 := ⟨lw_i2 70 rfl rfl, nh_X1.1, nh_X1.2.1, by decide +kernel, nh_X1.2.2⟩
theorem mx_X1_clear : Cond.instanceMethod yX1_clear ∈ lw_ok ∧ Cond.selects yX1_clear.cls yX1_clear yX1_clear ∈ lw_ok := ⟨lw_i2 68 rfl rfl, lw_i2 69 rfl rfl⟩
theorem my_X1_isIdea : MY yX1_isIdea cX1_isIdea 2 (some .boolean) 1 := ⟨lw_i2 204 rfl rfl, nh_X1.1, nh_X1.2.1, by decide +kernel, nh_X1.2.2⟩
theorem mx_X1_isIdea : Cond.instanceMethod yX1_isIdea ∈ lw_ok ∧ Cond.selects yX1_isIdea.cls yX1_isIdea yX1_isIdea ∈ lw_ok := ⟨lw_i2 202 rfl rfl, lw_i2 203 rfl rfl⟩
theorem my_X1_isTraveller : MY yX1_isTraveller cX1_isTraveller 2 (some .boolean) 1 := ⟨lw_i2 152 rfl rfl, nh_X1.1, nh_X1.2.1, by decide +kernel, nh_X1.2.2⟩
theorem mx_X1_isTraveller : Cond.instanceMethod yX1_isTraveller ∈ lw_ok ∧ Cond.selects yX1_isTraveller.cls yX1_isTraveller yX1_isTraveller ∈ lw_ok := ⟨lw_i2 150 rfl rfl, lw_i2 151 rfl rfl⟩
theorem my_X1_isSet : MY yX1_isSet cX1_isSet 2 (some .boolean) 1 := ⟨lw_i2 176 rfl rfl, nh_X1.1, nh_X1.2.1, by decide +kernel, nh_X1.2.2⟩
theorem mx_X1_isSet : Cond.instanceMethod yX1_isSet ∈ lw_ok ∧ Cond.selects yX1_isSet.cls yX1_isSet yX1_isSet ∈ lw_ok := ⟨lw_i2 174 rfl rfl, lw_i2 175 rfl rfl⟩
theorem my_X1_findAllFrom : MY yX1_findAllFrom cX1_findAllFrom 3 none 0 := ⟨lw_i2 140 rfl rfl, nh_X1.1, nh_X1.2.1, by decide +kernel, nh_X1.2.2⟩
theorem mx_X1_findAllFrom : Cond.instanceMethod yX1_findAllFrom ∈ lw_ok ∧ Cond.selects yX1_findAllFrom.cls yX1_findAllFrom yX1_findAllFrom ∈ lw_ok := ⟨lw_i2 138 rfl rfl, lw_i2 139 rfl rfl⟩
theorem my_X1_joined : MY yX1_joined cX1_joined 7 (some .int) 1 := ⟨lw_i2 144 rfl rfl, nh_X1.1, nh_X1.2.1, by decide +kernel, nh_X1.2.2⟩
theorem mx_X1_joined : Cond.instanceMethod yX1_joined ∈ lw_ok ∧ Cond.selects yX1_joined.cls yX1_joined yX1_joined ∈ lw_ok := ⟨lw_i2 143 rfl rfl, lw_s 14 rfl rfl⟩
theorem my_X1_allFrom : MY yX1_allFrom cX1_allFrom 2 (some .int) 1 := ⟨lw_i2 172 rfl rfl, nh_X1.1, nh_X1.2.1, by decide +kernel, nh_X1.2.2⟩
theorem mx_X1_allFrom : Cond.instanceMethod yX1_allFrom ∈ lw_ok ∧ Cond.selects yX1_allFrom.cls yX1_allFrom yX1_allFrom ∈ lw_ok := ⟨lw_i2 170 rfl rfl, lw_i2 171 rfl rfl⟩
theorem my_X1_sizeOf : MY yX1_sizeOf cX1_sizeOf 4 (some .int) 1 := ⟨lw_i2 196 rfl rfl, nh_X1.1, nh_X1.2.1, by decide +kernel, nh_X1.2.2⟩
theorem mx_X1_sizeOf : Cond.instanceMethod yX1_sizeOf ∈ lw_ok ∧ Cond.selects yX1_sizeOf.cls yX1_sizeOf yX1_sizeOf ∈ lw_ok := ⟨lw_i2 194 rfl rfl, lw_i2 195 rfl rfl⟩
theorem my_X1_isStuck : MY yX1_isStuck cX1_isStuck 2 (some .boolean) 1 := ⟨lw_i2 192 rfl rfl, nh_X1.1, nh_X1.2.1, by decide +kernel, nh_X1.2.2⟩
theorem mx_X1_isStuck : Cond.instanceMethod yX1_isStuck ∈ lw_ok ∧ Cond.selects yX1_isStuck.cls yX1_isStuck yX1_isStuck ∈ lw_ok := ⟨lw_i2 190 rfl rfl, lw_i2 191 rfl rfl⟩
theorem my_X1_duty : MY yX1_duty cX1_duty 7 (some .int) 2 := ⟨lw_i2 219 rfl rfl, nh_X1.1, nh_X1.2.1, by decide +kernel, nh_X1.2.2⟩
theorem mx_X1_duty : Cond.instanceMethod yX1_duty ∈ lw_ok ∧ Cond.selects yX1_duty.cls yX1_duty yX1_duty ∈ lw_ok := ⟨lw_i2 217 rfl rfl, lw_i2 218 rfl rfl⟩
theorem my_X1_quickest : MY yX1_quickest cX1_quickest 6 (some .int) 2 := ⟨lw_i3 17 rfl rfl, nh_X1.1, nh_X1.2.1, by decide +kernel, nh_X1.2.2⟩
theorem mx_X1_quickest : Cond.instanceMethod yX1_quickest ∈ lw_ok ∧ Cond.selects yX1_quickest.cls yX1_quickest yX1_quickest ∈ lw_ok := ⟨lw_i3 15 rfl rfl, lw_i3 16 rfl rfl⟩
theorem my_X1_findMinutes : MY yX1_findMinutes cX1_findMinutes 7 none 2 := ⟨lw_i3 86 rfl rfl, nh_X1.1, nh_X1.2.1, by decide +kernel, nh_X1.2.2⟩
theorem mx_X1_findMinutes : Cond.instanceMethod yX1_findMinutes ∈ lw_ok ∧ Cond.selects yX1_findMinutes.cls yX1_findMinutes yX1_findMinutes ∈ lw_ok := ⟨lw_i3 84 rfl rfl, lw_i3 85 rfl rfl⟩
theorem my_X2_init : MY yX2_init cX2_init 2 none 0 := ⟨lw_i1 189 rfl rfl, nh_X2.1, nh_X2.2.1, by decide +kernel, nh_X2.2.2⟩
theorem my_X2_take : MY yX2_take cX2_take 4 none 3 := ⟨lw_i3 208 rfl rfl, nh_X2.1, nh_X2.2.1, by decide +kernel, nh_X2.2.2⟩
theorem mx_X2_take : Cond.instanceMethod yX2_take ∈ lw_ok ∧ Cond.selects yX2_take.cls yX2_take yX2_take ∈ lw_ok := ⟨lw_i3 206 rfl rfl, lw_i3 207 rfl rfl⟩
theorem my_X2_forget : MY yX2_forget cX2_forget 2 none 0 := ⟨lw_i2 156 rfl rfl, nh_X2.1, nh_X2.2.1, by decide +kernel, nh_X2.2.2⟩
theorem mx_X2_forget : Cond.instanceMethod yX2_forget ∈ lw_ok ∧ Cond.selects yX2_forget.cls yX2_forget yX2_forget ∈ lw_ok := ⟨lw_i2 154 rfl rfl, lw_i2 155 rfl rfl⟩
theorem my_X3_init : MY yX3_init cX3_init 2 none 0 := ⟨lw_i1 169 rfl rfl, nh_X3.1, nh_X3.2.1, by decide +kernel, nh_X3.2.2⟩
theorem my_X3_remember : MY yX3_remember cX3_remember 2 none 1 := ⟨lw_i2 229 rfl rfl, nh_X3.1, nh_X3.2.1, by decide +kernel, nh_X3.2.2⟩
theorem mx_X3_remember : Cond.instanceMethod yX3_remember ∈ lw_ok ∧ Cond.selects yX3_remember.cls yX3_remember yX3_remember ∈ lw_ok := ⟨lw_i2 227 rfl rfl, lw_i2 228 rfl rfl⟩
theorem my_X3_bringBack : MY yX3_bringBack cX3_bringBack 2 none 1 := ⟨lw_i3 62 rfl rfl, nh_X3.1, nh_X3.2.1, by decide +kernel, nh_X3.2.2⟩
theorem mx_X3_bringBack : Cond.instanceMethod yX3_bringBack ∈ lw_ok ∧ Cond.selects yX3_bringBack.cls yX3_bringBack yX3_bringBack ∈ lw_ok := ⟨lw_i3 60 rfl rfl, lw_i3 61 rfl rfl⟩
theorem my_X4_init : MY yX4_init cX4_init 1 none 0 := ⟨lw_i1 143 rfl rfl, nh_X4.1, nh_X4.2.1, by decide +kernel, nh_X4.2.2⟩
theorem my_X4_begin : MY yX4_begin cX4_begin 3 none 1 := ⟨lw_i2 148 rfl rfl, nh_X4.1, nh_X4.2.1, by decide +kernel, nh_X4.2.2⟩
theorem mx_X4_begin : Cond.instanceMethod yX4_begin ∈ lw_ok ∧ Cond.selects yX4_begin.cls yX4_begin yX4_begin ∈ lw_ok := ⟨lw_i2 146 rfl rfl, lw_i2 147 rfl rfl⟩
theorem my_X4_become : MY yX4_become cX4_become 3 none 1 := ⟨lw_i2 233 rfl rfl, nh_X4.1, nh_X4.2.1, by decide +kernel, nh_X4.2.2⟩
theorem mx_X4_become : Cond.instanceMethod yX4_become ∈ lw_ok ∧ Cond.selects yX4_become.cls yX4_become yX4_become ∈ lw_ok := ⟨lw_i2 231 rfl rfl, lw_i2 232 rfl rfl⟩
theorem my_X4_mindOf : MY yX4_mindOf cX4_mindOf 2 (some .int) 1 := ⟨lw_i2 188 rfl rfl, nh_X4.1, nh_X4.2.1, by decide +kernel, nh_X4.2.2⟩
theorem mx_X4_mindOf : Cond.instanceMethod yX4_mindOf ∈ lw_ok ∧ Cond.selects yX4_mindOf.cls yX4_mindOf yX4_mindOf ∈ lw_ok := ⟨lw_i2 186 rfl rfl, lw_i2 187 rfl rfl⟩
theorem my_X4_setMind : MY yX4_setMind cX4_setMind 3 none 2 := ⟨lw_i3 24 rfl rfl, nh_X4.1, nh_X4.2.1, by decide +kernel, nh_X4.2.2⟩
theorem mx_X4_setMind : Cond.instanceMethod yX4_setMind ∈ lw_ok ∧ Cond.selects yX4_setMind.cls yX4_setMind yX4_setMind ∈ lw_ok := ⟨lw_i3 22 rfl rfl, lw_i3 23 rfl rfl⟩
theorem my_X4_isGone : MY yX4_isGone cX4_isGone 2 (some .boolean) 1 := ⟨lw_i2 184 rfl rfl, nh_X4.1, nh_X4.2.1, by decide +kernel, nh_X4.2.2⟩
theorem mx_X4_isGone : Cond.instanceMethod yX4_isGone ∈ lw_ok ∧ Cond.selects yX4_isGone.cls yX4_isGone yX4_isGone ∈ lw_ok := ⟨lw_i2 182 rfl rfl, lw_i2 183 rfl rfl⟩
theorem my_X4_comes : MY yX4_comes cX4_comes 3 none 2 := ⟨lw_i3 33 rfl rfl, nh_X4.1, nh_X4.2.1, by decide +kernel, nh_X4.2.2⟩
theorem mx_X4_comes : Cond.instanceMethod yX4_comes ∈ lw_ok ∧ Cond.selects yX4_comes.cls yX4_comes yX4_comes ∈ lw_ok := ⟨lw_i3 31 rfl rfl, lw_i3 32 rfl rfl⟩
theorem my_X4_leaves : MY yX4_leaves cX4_leaves 3 none 2 := ⟨lw_i3 4 rfl rfl, nh_X4.1, nh_X4.2.1, by decide +kernel, nh_X4.2.2⟩
theorem mx_X4_leaves : Cond.instanceMethod yX4_leaves ∈ lw_ok ∧ Cond.selects yX4_leaves.cls yX4_leaves yX4_leaves ∈ lw_ok := ⟨lw_i3 2 rfl rfl, lw_i3 3 rfl rfl⟩
theorem my_X5_init : MY yX5_init cX5_init 1 none 0 := ⟨lw_i1 211 rfl rfl, nh_X5.1, nh_X5.2.1, by decide +kernel, nh_X5.2.2⟩
theorem my_X5_append : MY yX5_append cX5_append 4 (some .boolean) 3 := ⟨lw_i3 145 rfl rfl, nh_X5.1, nh_X5.2.1, by decide +kernel, nh_X5.2.2⟩
theorem mx_X5_append : Cond.instanceMethod yX5_append ∈ lw_ok ∧ Cond.selects yX5_append.cls yX5_append yX5_append ∈ lw_ok := ⟨lw_i3 143 rfl rfl, lw_i3 144 rfl rfl⟩
theorem my_X5_look : MY yX5_look cX5_look 4 none 1 := ⟨lw_i3 153 rfl rfl, nh_X5.1, nh_X5.2.1, by decide +kernel, nh_X5.2.2⟩
theorem mx_X5_look : Cond.instanceMethod yX5_look ∈ lw_ok ∧ Cond.selects yX5_look.cls yX5_look yX5_look ∈ lw_ok := ⟨lw_i3 151 rfl rfl, lw_i3 152 rfl rfl⟩
theorem my_X5_countIdeas : MY yX5_countIdeas cX5_countIdeas 3 none 1 := ⟨lw_i3 165 rfl rfl, nh_X5.1, nh_X5.2.1, by decide +kernel, nh_X5.2.2⟩
theorem mx_X5_countIdeas : Cond.instanceMethod yX5_countIdeas ∈ lw_ok ∧ Cond.selects yX5_countIdeas.cls yX5_countIdeas yX5_countIdeas ∈ lw_ok := ⟨lw_i3 164 rfl rfl, lw_s 26 rfl rfl⟩
theorem my_X5_fits : MY yX5_fits cX5_fits 3 (some .boolean) 1 := ⟨lw_i3 157 rfl rfl, nh_X5.1, nh_X5.2.1, by decide +kernel, nh_X5.2.2⟩
theorem mx_X5_fits : Cond.instanceMethod yX5_fits ∈ lw_ok ∧ Cond.selects yX5_fits.cls yX5_fits yX5_fits ∈ lw_ok := ⟨lw_i3 156 rfl rfl, lw_s 25 rfl rfl⟩
theorem my_X5_isSo : MY yX5_isSo cX5_isSo 3 (some .boolean) 3 := ⟨lw_i3 160 rfl rfl, nh_X5.1, nh_X5.2.1, by decide +kernel, nh_X5.2.2⟩
theorem mx_X5_isSo : Cond.static yX5_isSo ∈ lw_ok := lw_i3 159 rfl rfl
theorem my_X5_bestIdea : MY yX5_bestIdea cX5_bestIdea 5 (some .int) 0 := ⟨lw_i3 173 rfl rfl, nh_X5.1, nh_X5.2.1, by decide +kernel, nh_X5.2.2⟩
theorem mx_X5_bestIdea : Cond.instanceMethod yX5_bestIdea ∈ lw_ok ∧ Cond.selects yX5_bestIdea.cls yX5_bestIdea yX5_bestIdea ∈ lw_ok := ⟨lw_i3 171 rfl rfl, lw_i3 172 rfl rfl⟩
theorem my_X6_init : MY yX6_init cX6_init 1 none 0 := ⟨lw_i1 24 rfl rfl, nh_X6.1, nh_X6.2.1, by decide +kernel, nh_X6.2.2⟩
theorem my_X6_append : MY yX6_append cX6_append 2 (some .boolean) 1 := ⟨lw_i2 57 rfl rfl, nh_X6.1, nh_X6.2.1, by decide +kernel, nh_X6.2.2⟩
theorem mx_X6_append : Cond.instanceMethod yX6_append ∈ lw_ok ∧ Cond.selects yX6_append.cls yX6_append yX6_append ∈ lw_ok := ⟨lw_i2 55 rfl rfl, lw_i2 56 rfl rfl⟩
theorem my_X6_exchange : MY yX6_exchange cX6_exchange 3 (some (.object "MindDuty$Country")) 1 := ⟨lw_i2 136 rfl rfl, nh_X6.1, nh_X6.2.1, by decide +kernel, nh_X6.2.2⟩
theorem mx_X6_exchange : Cond.instanceMethod yX6_exchange ∈ lw_ok ∧ Cond.selects yX6_exchange.cls yX6_exchange yX6_exchange ∈ lw_ok := ⟨lw_i2 134 rfl rfl, lw_i2 135 rfl rfl⟩
theorem my_X6_read : MY yX6_read cX6_read 2 (some .boolean) 0 := ⟨lw_i2 66 rfl rfl, nh_X6.1, nh_X6.2.1, by decide +kernel, nh_X6.2.2⟩
theorem mx_X6_read : Cond.instanceMethod yX6_read ∈ lw_ok ∧ Cond.selects yX6_read.cls yX6_read yX6_read ∈ lw_ok := ⟨lw_i2 64 rfl rfl, lw_i2 65 rfl rfl⟩
theorem my_X6_readClause : MY yX6_readClause cX6_readClause 2 none 0 := ⟨lw_i2 78 rfl rfl, nh_X6.1, nh_X6.2.1, by decide +kernel, nh_X6.2.2⟩
theorem mx_X6_readClause : Cond.instanceMethod yX6_readClause ∈ lw_ok ∧ Cond.selects yX6_readClause.cls yX6_readClause yX6_readClause ∈ lw_ok := ⟨lw_i2 77 rfl rfl, lw_s 1 rfl rfl⟩
theorem my_X6_checkWord : MY yX6_checkWord cX6_checkWord 4 none 1 := ⟨lw_i2 86 rfl rfl, nh_X6.1, nh_X6.2.1, by decide +kernel, nh_X6.2.2⟩
theorem mx_X6_checkWord : Cond.instanceMethod yX6_checkWord ∈ lw_ok ∧ Cond.selects yX6_checkWord.cls yX6_checkWord yX6_checkWord ∈ lw_ok := ⟨lw_i2 85 rfl rfl, lw_s 3 rfl rfl⟩
theorem my_X6_readGate : MY yX6_readGate cX6_readGate 1 none 0 := ⟨lw_i2 94 rfl rfl, nh_X6.1, nh_X6.2.1, by decide +kernel, nh_X6.2.2⟩
theorem mx_X6_readGate : Cond.instanceMethod yX6_readGate ∈ lw_ok ∧ Cond.selects yX6_readGate.cls yX6_readGate yX6_readGate ∈ lw_ok := ⟨lw_i2 93 rfl rfl, lw_s 5 rfl rfl⟩
theorem my_X6_readIdea : MY yX6_readIdea cX6_readIdea 2 none 0 := ⟨lw_i2 108 rfl rfl, nh_X6.1, nh_X6.2.1, by decide +kernel, nh_X6.2.2⟩
theorem mx_X6_readIdea : Cond.instanceMethod yX6_readIdea ∈ lw_ok ∧ Cond.selects yX6_readIdea.cls yX6_readIdea yX6_readIdea ∈ lw_ok := ⟨lw_i2 107 rfl rfl, lw_s 7 rfl rfl⟩
theorem my_X6_readJoining : MY yX6_readJoining cX6_readJoining 4 none 0 := ⟨lw_i2 112 rfl rfl, nh_X6.1, nh_X6.2.1, by decide +kernel, nh_X6.2.2⟩
theorem mx_X6_readJoining : Cond.instanceMethod yX6_readJoining ∈ lw_ok ∧ Cond.selects yX6_readJoining.cls yX6_readJoining yX6_readJoining ∈ lw_ok := ⟨lw_i2 111 rfl rfl, lw_s 8 rfl rfl⟩
theorem my_X6_readTalk : MY yX6_readTalk cX6_readTalk 4 none 0 := ⟨lw_i2 120 rfl rfl, nh_X6.1, nh_X6.2.1, by decide +kernel, nh_X6.2.2⟩
theorem mx_X6_readTalk : Cond.instanceMethod yX6_readTalk ∈ lw_ok ∧ Cond.selects yX6_readTalk.cls yX6_readTalk yX6_readTalk ∈ lw_ok := ⟨lw_i2 119 rfl rfl, lw_s 10 rfl rfl⟩
theorem my_X6_readRegistered : MY yX6_readRegistered cX6_readRegistered 2 none 0 := ⟨lw_i2 124 rfl rfl, nh_X6.1, nh_X6.2.1, by decide +kernel, nh_X6.2.2⟩
theorem mx_X6_readRegistered : Cond.instanceMethod yX6_readRegistered ∈ lw_ok ∧ Cond.selects yX6_readRegistered.cls yX6_readRegistered yX6_readRegistered ∈ lw_ok := ⟨lw_i2 123 rfl rfl, lw_s 11 rfl rfl⟩
theorem my_X6_readTraveller : MY yX6_readTraveller cX6_readTraveller 2 none 0 := ⟨lw_i2 128 rfl rfl, nh_X6.1, nh_X6.2.1, by decide +kernel, nh_X6.2.2⟩
theorem mx_X6_readTraveller : Cond.instanceMethod yX6_readTraveller ∈ lw_ok ∧ Cond.selects yX6_readTraveller.cls yX6_readTraveller yX6_readTraveller ∈ lw_ok := ⟨lw_i2 127 rfl rfl, lw_s 12 rfl rfl⟩
theorem my_X6_readEnd : MY yX6_readEnd cX6_readEnd 1 none 0 := ⟨lw_i2 132 rfl rfl, nh_X6.1, nh_X6.2.1, by decide +kernel, nh_X6.2.2⟩
theorem mx_X6_readEnd : Cond.instanceMethod yX6_readEnd ∈ lw_ok ∧ Cond.selects yX6_readEnd.cls yX6_readEnd yX6_readEnd ∈ lw_ok := ⟨lw_i2 131 rfl rfl, lw_s 13 rfl rfl⟩
theorem my_X6_readToldIdea : MY yX6_readToldIdea cX6_readToldIdea 1 (some .int) 0 := ⟨lw_i2 116 rfl rfl, nh_X6.1, nh_X6.2.1, by decide +kernel, nh_X6.2.2⟩
theorem mx_X6_readToldIdea : Cond.instanceMethod yX6_readToldIdea ∈ lw_ok ∧ Cond.selects yX6_readToldIdea.cls yX6_readToldIdea yX6_readToldIdea ∈ lw_ok := ⟨lw_i2 115 rfl rfl, lw_s 9 rfl rfl⟩
theorem my_X6_readNumber : MY yX6_readNumber cX6_readNumber 5 (some .int) 2 := ⟨lw_i2 98 rfl rfl, nh_X6.1, nh_X6.2.1, by decide +kernel, nh_X6.2.2⟩
theorem mx_X6_readNumber : Cond.instanceMethod yX6_readNumber ∈ lw_ok ∧ Cond.selects yX6_readNumber.cls yX6_readNumber yX6_readNumber ∈ lw_ok := ⟨lw_i2 97 rfl rfl, lw_s 6 rfl rfl⟩
theorem my_X6_isFigure : MY yX6_isFigure cX6_isFigure 1 (some .boolean) 1 := ⟨lw_i2 101 rfl rfl, nh_X6.1, nh_X6.2.1, by decide +kernel, nh_X6.2.2⟩
theorem mx_X6_isFigure : Cond.static yX6_isFigure ∈ lw_ok := lw_i2 100 rfl rfl
theorem my_X6_letterHere : MY yX6_letterHere cX6_letterHere 1 (some .int) 0 := ⟨lw_i2 82 rfl rfl, nh_X6.1, nh_X6.2.1, by decide +kernel, nh_X6.2.2⟩
theorem mx_X6_letterHere : Cond.instanceMethod yX6_letterHere ∈ lw_ok ∧ Cond.selects yX6_letterHere.cls yX6_letterHere yX6_letterHere ∈ lw_ok := ⟨lw_i2 81 rfl rfl, lw_s 2 rfl rfl⟩
theorem my_X6_skipBlanks : MY yX6_skipBlanks cX6_skipBlanks 1 none 0 := ⟨lw_i2 74 rfl rfl, nh_X6.1, nh_X6.2.1, by decide +kernel, nh_X6.2.2⟩
theorem mx_X6_skipBlanks : Cond.instanceMethod yX6_skipBlanks ∈ lw_ok ∧ Cond.selects yX6_skipBlanks.cls yX6_skipBlanks yX6_skipBlanks ∈ lw_ok := ⟨lw_i2 73 rfl rfl, lw_s 0 rfl rfl⟩
theorem my_X6_findFault : MY yX6_findFault cX6_findFault 3 none 2 := ⟨lw_i2 90 rfl rfl, nh_X6.1, nh_X6.2.1, by decide +kernel, nh_X6.2.2⟩
theorem mx_X6_findFault : Cond.instanceMethod yX6_findFault ∈ lw_ok ∧ Cond.selects yX6_findFault.cls yX6_findFault yX6_findFault ∈ lw_ok := ⟨lw_i2 89 rfl rfl, lw_s 4 rfl rfl⟩
theorem my_X7_init : MY yX7_init cX7_init 1 none 0 := ⟨lw_i1 16 rfl rfl, nh_X7.1, nh_X7.2.1, by decide +kernel, nh_X7.2.2⟩
theorem my_X7_feed : MY yX7_feed cX7_feed 2 (some .int) 1 := ⟨lw_i2 52 rfl rfl, nh_X7.1, nh_X7.2.1, by decide +kernel, nh_X7.2.2⟩
theorem mx_X7_feed : Cond.instanceMethod yX7_feed ∈ lw_ok ∧ Cond.selects yX7_feed.cls yX7_feed yX7_feed ∈ lw_ok := ⟨lw_i2 50 rfl rfl, lw_i2 51 rfl rfl⟩
theorem my_X7_thePass : MY yX7_thePass cX7_thePass 2 (some .int) 0 := ⟨lw_i2 62 rfl rfl, nh_X7.1, nh_X7.2.1, by decide +kernel, nh_X7.2.2⟩
theorem mx_X7_thePass : Cond.instanceMethod yX7_thePass ∈ lw_ok ∧ Cond.selects yX7_thePass.cls yX7_thePass yX7_thePass ∈ lw_ok := ⟨lw_i2 60 rfl rfl, lw_i2 61 rfl rfl⟩
theorem my_X7_fault : MY yX7_fault cX7_fault 1 (some .int) 0 := ⟨lw_i2 160 rfl rfl, nh_X7.1, nh_X7.2.1, by decide +kernel, nh_X7.2.2⟩
theorem mx_X7_fault : Cond.instanceMethod yX7_fault ∈ lw_ok ∧ Cond.selects yX7_fault.cls yX7_fault yX7_fault ∈ lw_ok := ⟨lw_i2 158 rfl rfl, lw_i2 159 rfl rfl⟩
theorem my_X7_told : MY yX7_told cX7_told 2 (some .int) 1 := ⟨lw_i2 164 rfl rfl, nh_X7.1, nh_X7.2.1, by decide +kernel, nh_X7.2.2⟩
theorem mx_X7_told : Cond.instanceMethod yX7_told ∈ lw_ok ∧ Cond.selects yX7_told.cls yX7_told yX7_told ∈ lw_ok := ⟨lw_i2 162 rfl rfl, lw_i2 163 rfl rfl⟩
theorem my_X7_size : MY yX7_size cX7_size 2 (some .int) 1 := ⟨lw_i2 200 rfl rfl, nh_X7.1, nh_X7.2.1, by decide +kernel, nh_X7.2.2⟩
theorem mx_X7_size : Cond.instanceMethod yX7_size ∈ lw_ok ∧ Cond.selects yX7_size.cls yX7_size yX7_size ∈ lw_ok := ⟨lw_i2 198 rfl rfl, lw_i2 199 rfl rfl⟩
theorem my_X7_traveller : MY yX7_traveller cX7_traveller 3 (some .int) 2 := ⟨lw_i2 209 rfl rfl, nh_X7.1, nh_X7.2.1, by decide +kernel, nh_X7.2.2⟩
theorem mx_X7_traveller : Cond.instanceMethod yX7_traveller ∈ lw_ok ∧ Cond.selects yX7_traveller.cls yX7_traveller yX7_traveller ∈ lw_ok := ⟨lw_i2 207 rfl rfl, lw_i2 208 rfl rfl⟩
theorem my_X7_pass : MY yX7_pass cX7_pass 2 (some .int) 1 := ⟨lw_i2 224 rfl rfl, nh_X7.1, nh_X7.2.1, by decide +kernel, nh_X7.2.2⟩
theorem mx_X7_pass : Cond.instanceMethod yX7_pass ∈ lw_ok ∧ Cond.selects yX7_pass.cls yX7_pass yX7_pass ∈ lw_ok := ⟨lw_i2 222 rfl rfl, lw_i2 223 rfl rfl⟩
theorem my_X7_goRound : MY yX7_goRound cX7_goRound 4 (some .int) 2 := ⟨lw_i3 9 rfl rfl, nh_X7.1, nh_X7.2.1, by decide +kernel, nh_X7.2.2⟩
theorem mx_X7_goRound : Cond.instanceMethod yX7_goRound ∈ lw_ok ∧ Cond.selects yX7_goRound.cls yX7_goRound yX7_goRound ∈ lw_ok := ⟨lw_i3 7 rfl rfl, lw_i3 8 rfl rfl⟩
theorem my_X7_talk : MY yX7_talk cX7_talk 5 (some .int) 3 := ⟨lw_i3 13 rfl rfl, nh_X7.1, nh_X7.2.1, by decide +kernel, nh_X7.2.2⟩
theorem mx_X7_talk : Cond.instanceMethod yX7_talk ∈ lw_ok ∧ Cond.selects yX7_talk.cls yX7_talk yX7_talk ∈ lw_ok := ⟨lw_i3 11 rfl rfl, lw_i3 12 rfl rfl⟩
theorem my_X7_come : MY yX7_come cX7_come 3 (some .int) 2 := ⟨lw_i3 28 rfl rfl, nh_X7.1, nh_X7.2.1, by decide +kernel, nh_X7.2.2⟩
theorem mx_X7_come : Cond.instanceMethod yX7_come ∈ lw_ok ∧ Cond.selects yX7_come.cls yX7_come yX7_come ∈ lw_ok := ⟨lw_i3 26 rfl rfl, lw_i3 27 rfl rfl⟩
theorem my_X7_register : MY yX7_register cX7_register 4 (some .int) 2 := ⟨lw_i3 38 rfl rfl, nh_X7.1, nh_X7.2.1, by decide +kernel, nh_X7.2.2⟩
theorem mx_X7_register : Cond.instanceMethod yX7_register ∈ lw_ok ∧ Cond.selects yX7_register.cls yX7_register yX7_register ∈ lw_ok := ⟨lw_i3 36 rfl rfl, lw_i3 37 rfl rfl⟩
theorem my_X7_drift : MY yX7_drift cX7_drift 3 (some .int) 1 := ⟨lw_i3 42 rfl rfl, nh_X7.1, nh_X7.2.1, by decide +kernel, nh_X7.2.2⟩
theorem mx_X7_drift : Cond.instanceMethod yX7_drift ∈ lw_ok ∧ Cond.selects yX7_drift.cls yX7_drift yX7_drift ∈ lw_ok := ⟨lw_i3 40 rfl rfl, lw_i3 41 rfl rfl⟩
theorem my_X7_undo : MY yX7_undo cX7_undo 1 (some .int) 0 := ⟨lw_i3 58 rfl rfl, nh_X7.1, nh_X7.2.1, by decide +kernel, nh_X7.2.2⟩
theorem mx_X7_undo : Cond.instanceMethod yX7_undo ∈ lw_ok ∧ Cond.selects yX7_undo.cls yX7_undo yX7_undo ∈ lw_ok := ⟨lw_i3 56 rfl rfl, lw_i3 57 rfl rfl⟩
theorem my_X7_follows : MY yX7_follows cX7_follows 2 (some .int) 1 := ⟨lw_i3 66 rfl rfl, nh_X7.1, nh_X7.2.1, by decide +kernel, nh_X7.2.2⟩
theorem mx_X7_follows : Cond.instanceMethod yX7_follows ∈ lw_ok ∧ Cond.selects yX7_follows.cls yX7_follows yX7_follows ∈ lw_ok := ⟨lw_i3 64 rfl rfl, lw_i3 65 rfl rfl⟩
theorem my_X7_owed : MY yX7_owed cX7_owed 2 (some .int) 1 := ⟨lw_i3 70 rfl rfl, nh_X7.1, nh_X7.2.1, by decide +kernel, nh_X7.2.2⟩
theorem mx_X7_owed : Cond.instanceMethod yX7_owed ∈ lw_ok ∧ Cond.selects yX7_owed.cls yX7_owed yX7_owed ∈ lw_ok := ⟨lw_i3 68 rfl rfl, lw_i3 69 rfl rfl⟩
theorem my_X7_parts : MY yX7_parts cX7_parts 4 (some .int) 2 := ⟨lw_i3 74 rfl rfl, nh_X7.1, nh_X7.2.1, by decide +kernel, nh_X7.2.2⟩
theorem mx_X7_parts : Cond.instanceMethod yX7_parts ∈ lw_ok ∧ Cond.selects yX7_parts.cls yX7_parts yX7_parts ∈ lw_ok := ⟨lw_i3 72 rfl rfl, lw_i3 73 rfl rfl⟩
theorem my_X7_talkDown : MY yX7_talkDown cX7_talkDown 4 (some .int) 3 := ⟨lw_i3 82 rfl rfl, nh_X7.1, nh_X7.2.1, by decide +kernel, nh_X7.2.2⟩
theorem mx_X7_talkDown : Cond.instanceMethod yX7_talkDown ∈ lw_ok ∧ Cond.selects yX7_talkDown.cls yX7_talkDown yX7_talkDown ∈ lw_ok := ⟨lw_i3 80 rfl rfl, lw_i3 81 rfl rfl⟩
theorem my_X7_soonest : MY yX7_soonest cX7_soonest 2 (some .int) 1 := ⟨lw_i3 94 rfl rfl, nh_X7.1, nh_X7.2.1, by decide +kernel, nh_X7.2.2⟩
theorem mx_X7_soonest : Cond.instanceMethod yX7_soonest ∈ lw_ok ∧ Cond.selects yX7_soonest.cls yX7_soonest yX7_soonest ∈ lw_ok := ⟨lw_i3 92 rfl rfl, lw_i3 93 rfl rfl⟩
theorem my_X7_smallest : MY yX7_smallest cX7_smallest 2 (some .int) 1 := ⟨lw_i3 101 rfl rfl, nh_X7.1, nh_X7.2.1, by decide +kernel, nh_X7.2.2⟩
theorem mx_X7_smallest : Cond.instanceMethod yX7_smallest ∈ lw_ok ∧ Cond.selects yX7_smallest.cls yX7_smallest yX7_smallest ∈ lw_ok := ⟨lw_i3 99 rfl rfl, lw_i3 100 rfl rfl⟩
theorem my_X7_better : MY yX7_better cX7_better 3 (some .int) 2 := ⟨lw_i3 119 rfl rfl, nh_X7.1, nh_X7.2.1, by decide +kernel, nh_X7.2.2⟩
theorem mx_X7_better : Cond.instanceMethod yX7_better ∈ lw_ok ∧ Cond.selects yX7_better.cls yX7_better yX7_better ∈ lw_ok := ⟨lw_i3 117 rfl rfl, lw_i3 118 rfl rfl⟩
theorem my_X7_gains : MY yX7_gains cX7_gains 4 (some .int) 2 := ⟨lw_i3 123 rfl rfl, nh_X7.1, nh_X7.2.1, by decide +kernel, nh_X7.2.2⟩
theorem mx_X7_gains : Cond.instanceMethod yX7_gains ∈ lw_ok ∧ Cond.selects yX7_gains.cls yX7_gains yX7_gains ∈ lw_ok := ⟨lw_i3 121 rfl rfl, lw_i3 122 rfl rfl⟩
theorem my_X7_free : MY yX7_free cX7_free 1 (some .int) 0 := ⟨lw_i3 127 rfl rfl, nh_X7.1, nh_X7.2.1, by decide +kernel, nh_X7.2.2⟩
theorem mx_X7_free : Cond.instanceMethod yX7_free ∈ lw_ok ∧ Cond.selects yX7_free.cls yX7_free yX7_free ∈ lw_ok := ⟨lw_i3 125 rfl rfl, lw_i3 126 rfl rfl⟩
theorem my_X7_share : MY yX7_share cX7_share 4 (some .int) 1 := ⟨lw_i3 131 rfl rfl, nh_X7.1, nh_X7.2.1, by decide +kernel, nh_X7.2.2⟩
theorem mx_X7_share : Cond.instanceMethod yX7_share ∈ lw_ok ∧ Cond.selects yX7_share.cls yX7_share yX7_share ∈ lw_ok := ⟨lw_i3 129 rfl rfl, lw_i3 130 rfl rfl⟩
theorem my_X7_glacier : MY yX7_glacier cX7_glacier 5 (some .int) 1 := ⟨lw_i3 135 rfl rfl, nh_X7.1, nh_X7.2.1, by decide +kernel, nh_X7.2.2⟩
theorem mx_X7_glacier : Cond.instanceMethod yX7_glacier ∈ lw_ok ∧ Cond.selects yX7_glacier.cls yX7_glacier yX7_glacier ∈ lw_ok := ⟨lw_i3 133 rfl rfl, lw_i3 134 rfl rfl⟩
theorem my_X7_ask : MY yX7_ask cX7_ask 4 (some .int) 3 := ⟨lw_i3 141 rfl rfl, nh_X7.1, nh_X7.2.1, by decide +kernel, nh_X7.2.2⟩
theorem mx_X7_ask : Cond.instanceMethod yX7_ask ∈ lw_ok ∧ Cond.selects yX7_ask.cls yX7_ask yX7_ask ∈ lw_ok := ⟨lw_i3 139 rfl rfl, lw_i3 140 rfl rfl⟩
theorem my_X7_minds : MY yX7_minds cX7_minds 2 (some .int) 1 := ⟨lw_i3 149 rfl rfl, nh_X7.1, nh_X7.2.1, by decide +kernel, nh_X7.2.2⟩
theorem mx_X7_minds : Cond.instanceMethod yX7_minds ∈ lw_ok ∧ Cond.selects yX7_minds.cls yX7_minds yX7_minds ∈ lw_ok := ⟨lw_i3 147 rfl rfl, lw_i3 148 rfl rfl⟩
theorem my_X7_askNext : MY yX7_askNext cX7_askNext 1 (some .int) 0 := ⟨lw_i3 169 rfl rfl, nh_X7.1, nh_X7.2.1, by decide +kernel, nh_X7.2.2⟩
theorem mx_X7_askNext : Cond.instanceMethod yX7_askNext ∈ lw_ok ∧ Cond.selects yX7_askNext.cls yX7_askNext yX7_askNext ∈ lw_ok := ⟨lw_i3 167 rfl rfl, lw_i3 168 rfl rfl⟩
theorem my_X7_write : MY yX7_write cX7_write 3 (some .int) 2 := ⟨lw_i3 180 rfl rfl, nh_X7.1, nh_X7.2.1, by decide +kernel, nh_X7.2.2⟩
theorem mx_X7_write : Cond.instanceMethod yX7_write ∈ lw_ok ∧ Cond.selects yX7_write.cls yX7_write yX7_write ∈ lw_ok := ⟨lw_i3 178 rfl rfl, lw_i3 179 rfl rfl⟩
theorem my_X7_tear : MY yX7_tear cX7_tear 2 (some .int) 0 := ⟨lw_i3 188 rfl rfl, nh_X7.1, nh_X7.2.1, by decide +kernel, nh_X7.2.2⟩
theorem mx_X7_tear : Cond.instanceMethod yX7_tear ∈ lw_ok ∧ Cond.selects yX7_tear.cls yX7_tear yX7_tear ∈ lw_ok := ⟨lw_i3 186 rfl rfl, lw_i3 187 rfl rfl⟩
theorem my_X7_judge : MY yX7_judge cX7_judge 1 (some .int) 0 := ⟨lw_i3 192 rfl rfl, nh_X7.1, nh_X7.2.1, by decide +kernel, nh_X7.2.2⟩
theorem mx_X7_judge : Cond.instanceMethod yX7_judge ∈ lw_ok ∧ Cond.selects yX7_judge.cls yX7_judge yX7_judge ∈ lw_ok := ⟨lw_i3 190 rfl rfl, lw_i3 191 rfl rfl⟩
theorem my_X7_seed : MY yX7_seed cX7_seed 3 (some .int) 1 := ⟨lw_i3 200 rfl rfl, nh_X7.1, nh_X7.2.1, by decide +kernel, nh_X7.2.2⟩
theorem mx_X7_seed : Cond.instanceMethod yX7_seed ∈ lw_ok ∧ Cond.selects yX7_seed.cls yX7_seed yX7_seed ∈ lw_ok := ⟨lw_i3 198 rfl rfl, lw_i3 199 rfl rfl⟩
theorem my_X7_keep : MY yX7_keep cX7_keep 2 (some .int) 1 := ⟨lw_i3 204 rfl rfl, nh_X7.1, nh_X7.2.1, by decide +kernel, nh_X7.2.2⟩
theorem mx_X7_keep : Cond.instanceMethod yX7_keep ∈ lw_ok ∧ Cond.selects yX7_keep.cls yX7_keep yX7_keep ∈ lw_ok := ⟨lw_i3 202 rfl rfl, lw_i3 203 rfl rfl⟩
theorem my_X7_goBack : MY yX7_goBack cX7_goBack 2 (some .int) 1 := ⟨lw_i3 213 rfl rfl, nh_X7.1, nh_X7.2.1, by decide +kernel, nh_X7.2.2⟩
theorem mx_X7_goBack : Cond.instanceMethod yX7_goBack ∈ lw_ok ∧ Cond.selects yX7_goBack.cls yX7_goBack yX7_goBack ∈ lw_ok := ⟨lw_i3 211 rfl rfl, lw_i3 212 rfl rfl⟩
theorem my_X7_inTheCountry : MY yX7_inTheCountry cX7_inTheCountry 1 (some .int) 0 := ⟨lw_i2 168 rfl rfl, nh_X7.1, nh_X7.2.1, by decide +kernel, nh_X7.2.2⟩
theorem mx_X7_inTheCountry : Cond.instanceMethod yX7_inTheCountry ∈ lw_ok ∧ Cond.selects yX7_inTheCountry.cls yX7_inTheCountry yX7_inTheCountry ∈ lw_ok := ⟨lw_i2 167 rfl rfl, lw_s 15 rfl rfl⟩
theorem my_X7_dutyOf : MY yX7_dutyOf cX7_dutyOf 2 (some .int) 1 := ⟨lw_i2 215 rfl rfl, nh_X7.1, nh_X7.2.1, by decide +kernel, nh_X7.2.2⟩
theorem mx_X7_dutyOf : Cond.instanceMethod yX7_dutyOf ∈ lw_ok ∧ Cond.selects yX7_dutyOf.cls yX7_dutyOf yX7_dutyOf ∈ lw_ok := ⟨lw_i2 214 rfl rfl, lw_s 17 rfl rfl⟩
theorem my_X7_stuckOnes : MY yX7_stuckOnes cX7_stuckOnes 3 (some .int) 0 := ⟨lw_i2 180 rfl rfl, nh_X7.1, nh_X7.2.1, by decide +kernel, nh_X7.2.2⟩
theorem mx_X7_stuckOnes : Cond.instanceMethod yX7_stuckOnes ∈ lw_ok ∧ Cond.selects yX7_stuckOnes.cls yX7_stuckOnes yX7_stuckOnes ∈ lw_ok := ⟨lw_i2 179 rfl rfl, lw_s 16 rfl rfl⟩
theorem my_X7_letPass : MY yX7_letPass cX7_letPass 3 (some .int) 1 := ⟨lw_i2 238 rfl rfl, nh_X7.1, nh_X7.2.1, by decide +kernel, nh_X7.2.2⟩
theorem mx_X7_letPass : Cond.instanceMethod yX7_letPass ∈ lw_ok ∧ Cond.selects yX7_letPass.cls yX7_letPass yX7_letPass ∈ lw_ok := ⟨lw_i2 237 rfl rfl, lw_s 18 rfl rfl⟩
theorem my_X7_driftOneDay : MY yX7_driftOneDay cX7_driftOneDay 3 none 0 := ⟨lw_i3 46 rfl rfl, nh_X7.1, nh_X7.2.1, by decide +kernel, nh_X7.2.2⟩
theorem mx_X7_driftOneDay : Cond.instanceMethod yX7_driftOneDay ∈ lw_ok ∧ Cond.selects yX7_driftOneDay.cls yX7_driftOneDay yX7_driftOneDay ∈ lw_ok := ⟨lw_i3 45 rfl rfl, lw_s 19 rfl rfl⟩
theorem my_X7_draw : MY yX7_draw cX7_draw 2 (some .int) 1 := ⟨lw_i3 50 rfl rfl, nh_X7.1, nh_X7.2.1, by decide +kernel, nh_X7.2.2⟩
theorem mx_X7_draw : Cond.instanceMethod yX7_draw ∈ lw_ok ∧ Cond.selects yX7_draw.cls yX7_draw yX7_draw ∈ lw_ok := ⟨lw_i3 49 rfl rfl, lw_s 20 rfl rfl⟩
theorem my_X7_cheapestParts : MY yX7_cheapestParts cX7_cheapestParts 6 (some .int) 1 := ⟨lw_i3 78 rfl rfl, nh_X7.1, nh_X7.2.1, by decide +kernel, nh_X7.2.2⟩
theorem mx_X7_cheapestParts : Cond.instanceMethod yX7_cheapestParts ∈ lw_ok ∧ Cond.selects yX7_cheapestParts.cls yX7_cheapestParts yX7_cheapestParts ∈ lw_ok := ⟨lw_i3 77 rfl rfl, lw_s 21 rfl rfl⟩
theorem my_X7_nextOnTheWay : MY yX7_nextOnTheWay cX7_nextOnTheWay 6 (some .int) 1 := ⟨lw_i3 90 rfl rfl, nh_X7.1, nh_X7.2.1, by decide +kernel, nh_X7.2.2⟩
theorem mx_X7_nextOnTheWay : Cond.instanceMethod yX7_nextOnTheWay ∈ lw_ok ∧ Cond.selects yX7_nextOnTheWay.cls yX7_nextOnTheWay yX7_nextOnTheWay ∈ lw_ok := ⟨lw_i3 89 rfl rfl, lw_s 22 rfl rfl⟩
theorem my_X7_fewestMinutes : MY yX7_fewestMinutes cX7_fewestMinutes 8 (some .int) 3 := ⟨lw_i3 97 rfl rfl, nh_X7.1, nh_X7.2.1, by decide +kernel, nh_X7.2.2⟩
theorem mx_X7_fewestMinutes : Cond.static yX7_fewestMinutes ∈ lw_ok := lw_i3 96 rfl rfl
theorem my_X7_afterTalk : MY yX7_afterTalk cX7_afterTalk 3 (some .int) 3 := ⟨lw_i3 20 rfl rfl, nh_X7.1, nh_X7.2.1, by decide +kernel, nh_X7.2.2⟩
theorem mx_X7_afterTalk : Cond.static yX7_afterTalk ∈ lw_ok := lw_i3 19 rfl rfl
theorem my_X7_smallestRegister : MY yX7_smallestRegister cX7_smallestRegister 5 (some .int) 0 := ⟨lw_i3 105 rfl rfl, nh_X7.1, nh_X7.2.1, by decide +kernel, nh_X7.2.2⟩
theorem mx_X7_smallestRegister : Cond.instanceMethod yX7_smallestRegister ∈ lw_ok ∧ Cond.selects yX7_smallestRegister.cls yX7_smallestRegister yX7_smallestRegister ∈ lw_ok := ⟨lw_i3 104 rfl rfl, lw_s 23 rfl rfl⟩
theorem my_X7_needless : MY yX7_needless cX7_needless 5 (some .int) 0 := ⟨lw_i3 115 rfl rfl, nh_X7.1, nh_X7.2.1, by decide +kernel, nh_X7.2.2⟩
theorem mx_X7_needless : Cond.instanceMethod yX7_needless ∈ lw_ok ∧ Cond.selects yX7_needless.cls yX7_needless yX7_needless ∈ lw_ok := ⟨lw_i3 114 rfl rfl, lw_s 24 rfl rfl⟩
theorem my_X8_init : MY yX8_init cX8_init 1 none 0 := ⟨lw_i3 219 rfl rfl, nh_X8.1, nh_X8.2.1, by decide +kernel, nh_X8.2.2⟩
theorem my_X8_in : MY yX8_in cX8_in 6 (some .boolean) 3 := ⟨lw_i4 133 rfl rfl, nh_X8.1, nh_X8.2.1, by decide +kernel, nh_X8.2.2⟩
theorem mx_X8_in : Cond.static yX8_in ∈ lw_ok := lw_i4 132 rfl rfl
theorem my_X8_has : MY yX8_has cX8_has 2 (some .boolean) 2 := ⟨lw_i4 196 rfl rfl, nh_X8.1, nh_X8.2.1, by decide +kernel, nh_X8.2.2⟩
theorem mx_X8_has : Cond.static yX8_has ∈ lw_ok := lw_i4 195 rfl rfl
theorem my_X8_bits : MY yX8_bits cX8_bits 3 (some .int) 1 := ⟨lw_i5 126 rfl rfl, nh_X8.1, nh_X8.2.1, by decide +kernel, nh_X8.2.2⟩
theorem mx_X8_bits : Cond.static yX8_bits ∈ lw_ok := lw_i5 125 rfl rfl
theorem my_X8_atMost : MY yX8_atMost cX8_atMost 1 (some .int) 1 := ⟨lw_i5 33 rfl rfl, nh_X8.1, nh_X8.2.1, by decide +kernel, nh_X8.2.2⟩
theorem mx_X8_atMost : Cond.static yX8_atMost ∈ lw_ok := lw_i5 32 rfl rfl
theorem my_X8_isIdea : MY yX8_isIdea cX8_isIdea 2 (some .boolean) 1 := ⟨lw_i5 0 rfl rfl, nh_X8.1, nh_X8.2.1, by decide +kernel, nh_X8.2.2⟩
theorem mx_X8_isIdea : Cond.instanceMethod yX8_isIdea ∈ lw_ok ∧ Cond.selects yX8_isIdea.cls yX8_isIdea yX8_isIdea ∈ lw_ok := ⟨lw_i4 239 rfl rfl, lw_s 47 rfl rfl⟩
theorem my_X8_isSet : MY yX8_isSet cX8_isSet 2 (some .boolean) 1 := ⟨lw_i5 62 rfl rfl, nh_X8.1, nh_X8.2.1, by decide +kernel, nh_X8.2.2⟩
theorem mx_X8_isSet : Cond.instanceMethod yX8_isSet ∈ lw_ok ∧ Cond.selects yX8_isSet.cls yX8_isSet yX8_isSet ∈ lw_ok := ⟨lw_i5 61 rfl rfl, lw_s 55 rfl rfl⟩
theorem my_X8_isTraveller : MY yX8_isTraveller cX8_isTraveller 2 (some .boolean) 1 := ⟨lw_i5 9 rfl rfl, nh_X8.1, nh_X8.2.1, by decide +kernel, nh_X8.2.2⟩
theorem mx_X8_isTraveller : Cond.instanceMethod yX8_isTraveller ∈ lw_ok ∧ Cond.selects yX8_isTraveller.cls yX8_isTraveller yX8_isTraveller ∈ lw_ok := ⟨lw_i5 8 rfl rfl, lw_s 48 rfl rfl⟩
theorem my_X8_feed : MY yX8_feed cX8_feed 2 (some .int) 1 := ⟨lw_i4 129 rfl rfl, nh_X8.1, nh_X8.2.1, by decide +kernel, nh_X8.2.2⟩
theorem mx_X8_feed : Cond.instanceMethod yX8_feed ∈ lw_ok ∧ Cond.selects yX8_feed.cls yX8_feed yX8_feed ∈ lw_ok := ⟨lw_i4 127 rfl rfl, lw_i4 128 rfl rfl⟩
theorem my_X8_here : MY yX8_here cX8_here 1 (some .int) 0 := ⟨lw_i4 143 rfl rfl, nh_X8.1, nh_X8.2.1, by decide +kernel, nh_X8.2.2⟩
theorem mx_X8_here : Cond.instanceMethod yX8_here ∈ lw_ok ∧ Cond.selects yX8_here.cls yX8_here yX8_here ∈ lw_ok := ⟨lw_i4 142 rfl rfl, lw_s 27 rfl rfl⟩
theorem my_X8_fails : MY yX8_fails cX8_fails 3 (some .int) 2 := ⟨lw_i4 155 rfl rfl, nh_X8.1, nh_X8.2.1, by decide +kernel, nh_X8.2.2⟩
theorem mx_X8_fails : Cond.instanceMethod yX8_fails ∈ lw_ok ∧ Cond.selects yX8_fails.cls yX8_fails yX8_fails ∈ lw_ok := ⟨lw_i4 154 rfl rfl, lw_s 30 rfl rfl⟩
theorem my_X8_takeNumber : MY yX8_takeNumber cX8_takeNumber 4 (some .int) 2 := ⟨lw_i4 175 rfl rfl, nh_X8.1, nh_X8.2.1, by decide +kernel, nh_X8.2.2⟩
theorem mx_X8_takeNumber : Cond.instanceMethod yX8_takeNumber ∈ lw_ok ∧ Cond.selects yX8_takeNumber.cls yX8_takeNumber yX8_takeNumber ∈ lw_ok := ⟨lw_i4 174 rfl rfl, lw_s 35 rfl rfl⟩
theorem my_X8_into : MY yX8_into cX8_into 6 (some .int) 4 := ⟨lw_i4 171 rfl rfl, nh_X8.1, nh_X8.2.1, by decide +kernel, nh_X8.2.2⟩
theorem mx_X8_into : Cond.instanceMethod yX8_into ∈ lw_ok ∧ Cond.selects yX8_into.cls yX8_into yX8_into ∈ lw_ok := ⟨lw_i4 170 rfl rfl, lw_s 34 rfl rfl⟩
theorem my_X8_takeGate : MY yX8_takeGate cX8_takeGate 2 (some .int) 0 := ⟨lw_i4 167 rfl rfl, nh_X8.1, nh_X8.2.1, by decide +kernel, nh_X8.2.2⟩
theorem mx_X8_takeGate : Cond.instanceMethod yX8_takeGate ∈ lw_ok ∧ Cond.selects yX8_takeGate.cls yX8_takeGate yX8_takeGate ∈ lw_ok := ⟨lw_i4 166 rfl rfl, lw_s 33 rfl rfl⟩
theorem my_X8_takeIdea : MY yX8_takeIdea cX8_takeIdea 2 (some .int) 0 := ⟨lw_i4 181 rfl rfl, nh_X8.1, nh_X8.2.1, by decide +kernel, nh_X8.2.2⟩
theorem mx_X8_takeIdea : Cond.instanceMethod yX8_takeIdea ∈ lw_ok ∧ Cond.selects yX8_takeIdea.cls yX8_takeIdea yX8_takeIdea ∈ lw_ok := ⟨lw_i4 180 rfl rfl, lw_s 36 rfl rfl⟩
theorem my_X8_takeJoin : MY yX8_takeJoin cX8_takeJoin 3 (some .int) 0 := ⟨lw_i4 185 rfl rfl, nh_X8.1, nh_X8.2.1, by decide +kernel, nh_X8.2.2⟩
theorem mx_X8_takeJoin : Cond.instanceMethod yX8_takeJoin ∈ lw_ok ∧ Cond.selects yX8_takeJoin.cls yX8_takeJoin yX8_takeJoin ∈ lw_ok := ⟨lw_i4 184 rfl rfl, lw_s 37 rfl rfl⟩
theorem my_X8_takeTalk : MY yX8_takeTalk cX8_takeTalk 3 (some .int) 0 := ⟨lw_i4 189 rfl rfl, nh_X8.1, nh_X8.2.1, by decide +kernel, nh_X8.2.2⟩
theorem mx_X8_takeTalk : Cond.instanceMethod yX8_takeTalk ∈ lw_ok ∧ Cond.selects yX8_takeTalk.cls yX8_takeTalk yX8_takeTalk ∈ lw_ok := ⟨lw_i4 188 rfl rfl, lw_s 38 rfl rfl⟩
theorem my_X8_takeRegistered : MY yX8_takeRegistered cX8_takeRegistered 2 (some .int) 0 := ⟨lw_i4 193 rfl rfl, nh_X8.1, nh_X8.2.1, by decide +kernel, nh_X8.2.2⟩
theorem mx_X8_takeRegistered : Cond.instanceMethod yX8_takeRegistered ∈ lw_ok ∧ Cond.selects yX8_takeRegistered.cls yX8_takeRegistered yX8_takeRegistered ∈ lw_ok := ⟨lw_i4 192 rfl rfl, lw_s 39 rfl rfl⟩
theorem my_X8_takeTraveller : MY yX8_takeTraveller cX8_takeTraveller 2 (some .int) 0 := ⟨lw_i4 200 rfl rfl, nh_X8.1, nh_X8.2.1, by decide +kernel, nh_X8.2.2⟩
theorem mx_X8_takeTraveller : Cond.instanceMethod yX8_takeTraveller ∈ lw_ok ∧ Cond.selects yX8_takeTraveller.cls yX8_takeTraveller yX8_takeTraveller ∈ lw_ok := ⟨lw_i4 199 rfl rfl, lw_s 40 rfl rfl⟩
theorem my_X8_whichClause : MY yX8_whichClause cX8_whichClause 2 (some .int) 1 := ⟨lw_i4 151 rfl rfl, nh_X8.1, nh_X8.2.1, by decide +kernel, nh_X8.2.2⟩
theorem mx_X8_whichClause : Cond.instanceMethod yX8_whichClause ∈ lw_ok ∧ Cond.selects yX8_whichClause.cls yX8_whichClause yX8_whichClause ∈ lw_ok := ⟨lw_i4 150 rfl rfl, lw_s 29 rfl rfl⟩
theorem my_X8_isFull : MY yX8_isFull cX8_isFull 2 (some .boolean) 1 := ⟨lw_i4 159 rfl rfl, nh_X8.1, nh_X8.2.1, by decide +kernel, nh_X8.2.2⟩
theorem mx_X8_isFull : Cond.instanceMethod yX8_isFull ∈ lw_ok ∧ Cond.selects yX8_isFull.cls yX8_isFull yX8_isFull ∈ lw_ok := ⟨lw_i4 158 rfl rfl, lw_s 31 rfl rfl⟩
theorem my_X8_takeBody : MY yX8_takeBody cX8_takeBody 2 (some .int) 1 := ⟨lw_i4 163 rfl rfl, nh_X8.1, nh_X8.2.1, by decide +kernel, nh_X8.2.2⟩
theorem mx_X8_takeBody : Cond.instanceMethod yX8_takeBody ∈ lw_ok ∧ Cond.selects yX8_takeBody.cls yX8_takeBody yX8_takeBody ∈ lw_ok := ⟨lw_i4 162 rfl rfl, lw_s 32 rfl rfl⟩
theorem my_X8_takeClause : MY yX8_takeClause cX8_takeClause 3 (some .int) 0 := ⟨lw_i4 147 rfl rfl, nh_X8.1, nh_X8.2.1, by decide +kernel, nh_X8.2.2⟩
theorem mx_X8_takeClause : Cond.instanceMethod yX8_takeClause ∈ lw_ok ∧ Cond.selects yX8_takeClause.cls yX8_takeClause yX8_takeClause ∈ lw_ok := ⟨lw_i4 146 rfl rfl, lw_s 28 rfl rfl⟩
theorem my_X8_takeRead : MY yX8_takeRead cX8_takeRead 2 none 0 := ⟨lw_i4 204 rfl rfl, nh_X8.1, nh_X8.2.1, by decide +kernel, nh_X8.2.2⟩
theorem mx_X8_takeRead : Cond.instanceMethod yX8_takeRead ∈ lw_ok ∧ Cond.selects yX8_takeRead.cls yX8_takeRead yX8_takeRead ∈ lw_ok := ⟨lw_i4 203 rfl rfl, lw_s 41 rfl rfl⟩
theorem my_X8_thePass : MY yX8_thePass cX8_thePass 2 (some .int) 0 := ⟨lw_i4 139 rfl rfl, nh_X8.1, nh_X8.2.1, by decide +kernel, nh_X8.2.2⟩
theorem mx_X8_thePass : Cond.instanceMethod yX8_thePass ∈ lw_ok ∧ Cond.selects yX8_thePass.cls yX8_thePass yX8_thePass ∈ lw_ok := ⟨lw_i4 137 rfl rfl, lw_i4 138 rfl rfl⟩
theorem my_X8_fault : MY yX8_fault cX8_fault 1 (some .int) 0 := ⟨lw_i4 208 rfl rfl, nh_X8.1, nh_X8.2.1, by decide +kernel, nh_X8.2.2⟩
theorem mx_X8_fault : Cond.instanceMethod yX8_fault ∈ lw_ok ∧ Cond.selects yX8_fault.cls yX8_fault yX8_fault ∈ lw_ok := ⟨lw_i4 206 rfl rfl, lw_i4 207 rfl rfl⟩
theorem my_X8_close : MY yX8_close cX8_close 5 (some .int) 1 := ⟨lw_i4 216 rfl rfl, nh_X8.1, nh_X8.2.1, by decide +kernel, nh_X8.2.2⟩
theorem mx_X8_close : Cond.instanceMethod yX8_close ∈ lw_ok ∧ Cond.selects yX8_close.cls yX8_close yX8_close ∈ lw_ok := ⟨lw_i4 215 rfl rfl, lw_s 42 rfl rfl⟩
theorem my_X8_sizeOf : MY yX8_sizeOf cX8_sizeOf 4 (some .int) 1 := ⟨lw_i4 232 rfl rfl, nh_X8.1, nh_X8.2.1, by decide +kernel, nh_X8.2.2⟩
theorem mx_X8_sizeOf : Cond.instanceMethod yX8_sizeOf ∈ lw_ok ∧ Cond.selects yX8_sizeOf.cls yX8_sizeOf yX8_sizeOf ∈ lw_ok := ⟨lw_i4 231 rfl rfl, lw_s 46 rfl rfl⟩
theorem my_X8_owedWhere : MY yX8_owedWhere cX8_owedWhere 5 (some .int) 2 := ⟨lw_i5 17 rfl rfl, nh_X8.1, nh_X8.2.1, by decide +kernel, nh_X8.2.2⟩
theorem mx_X8_owedWhere : Cond.instanceMethod yX8_owedWhere ∈ lw_ok ∧ Cond.selects yX8_owedWhere.cls yX8_owedWhere yX8_owedWhere ∈ lw_ok := ⟨lw_i5 16 rfl rfl, lw_s 50 rfl rfl⟩
theorem my_X8_owedFor : MY yX8_owedFor cX8_owedFor 2 (some .int) 1 := ⟨lw_i5 13 rfl rfl, nh_X8.1, nh_X8.2.1, by decide +kernel, nh_X8.2.2⟩
theorem mx_X8_owedFor : Cond.instanceMethod yX8_owedFor ∈ lw_ok ∧ Cond.selects yX8_owedFor.cls yX8_owedFor yX8_owedFor ∈ lw_ok := ⟨lw_i5 12 rfl rfl, lw_s 49 rfl rfl⟩
theorem my_X8_isGone : MY yX8_isGone cX8_isGone 2 (some .boolean) 1 := ⟨lw_i4 224 rfl rfl, nh_X8.1, nh_X8.2.1, by decide +kernel, nh_X8.2.2⟩
theorem mx_X8_isGone : Cond.instanceMethod yX8_isGone ∈ lw_ok ∧ Cond.selects yX8_isGone.cls yX8_isGone yX8_isGone ∈ lw_ok := ⟨lw_i4 223 rfl rfl, lw_s 44 rfl rfl⟩
theorem my_X8_isStuck : MY yX8_isStuck cX8_isStuck 2 (some .boolean) 1 := ⟨lw_i4 228 rfl rfl, nh_X8.1, nh_X8.2.1, by decide +kernel, nh_X8.2.2⟩
theorem mx_X8_isStuck : Cond.instanceMethod yX8_isStuck ∈ lw_ok ∧ Cond.selects yX8_isStuck.cls yX8_isStuck yX8_isStuck ∈ lw_ok := ⟨lw_i4 227 rfl rfl, lw_s 45 rfl rfl⟩
theorem my_X8_stuckOnes : MY yX8_stuckOnes cX8_stuckOnes 3 (some .int) 0 := ⟨lw_i4 220 rfl rfl, nh_X8.1, nh_X8.2.1, by decide +kernel, nh_X8.2.2⟩
theorem mx_X8_stuckOnes : Cond.instanceMethod yX8_stuckOnes ∈ lw_ok ∧ Cond.selects yX8_stuckOnes.cls yX8_stuckOnes yX8_stuckOnes ∈ lw_ok := ⟨lw_i4 219 rfl rfl, lw_s 43 rfl rfl⟩
theorem my_X8_told : MY yX8_told cX8_told 2 (some .int) 1 := ⟨lw_i4 212 rfl rfl, nh_X8.1, nh_X8.2.1, by decide +kernel, nh_X8.2.2⟩
theorem mx_X8_told : Cond.instanceMethod yX8_told ∈ lw_ok ∧ Cond.selects yX8_told.cls yX8_told yX8_told ∈ lw_ok := ⟨lw_i4 210 rfl rfl, lw_i4 211 rfl rfl⟩
theorem my_X8_size : MY yX8_size cX8_size 2 (some .int) 1 := ⟨lw_i4 236 rfl rfl, nh_X8.1, nh_X8.2.1, by decide +kernel, nh_X8.2.2⟩
theorem mx_X8_size : Cond.instanceMethod yX8_size ∈ lw_ok ∧ Cond.selects yX8_size.cls yX8_size yX8_size ∈ lw_ok := ⟨lw_i4 234 rfl rfl, lw_i4 235 rfl rfl⟩
theorem my_X8_traveller : MY yX8_traveller cX8_traveller 3 (some .int) 2 := ⟨lw_i5 5 rfl rfl, nh_X8.1, nh_X8.2.1, by decide +kernel, nh_X8.2.2⟩
theorem mx_X8_traveller : Cond.instanceMethod yX8_traveller ∈ lw_ok ∧ Cond.selects yX8_traveller.cls yX8_traveller yX8_traveller ∈ lw_ok := ⟨lw_i5 3 rfl rfl, lw_i5 4 rfl rfl⟩
theorem my_X8_remember : MY yX8_remember cX8_remember 2 none 0 := ⟨lw_i5 26 rfl rfl, nh_X8.1, nh_X8.2.1, by decide +kernel, nh_X8.2.2⟩
theorem mx_X8_remember : Cond.instanceMethod yX8_remember ∈ lw_ok ∧ Cond.selects yX8_remember.cls yX8_remember yX8_remember ∈ lw_ok := ⟨lw_i5 25 rfl rfl, lw_s 51 rfl rfl⟩
theorem my_X8_passNow : MY yX8_passNow cX8_passNow 3 (some .int) 1 := ⟨lw_i5 30 rfl rfl, nh_X8.1, nh_X8.2.1, by decide +kernel, nh_X8.2.2⟩
theorem mx_X8_passNow : Cond.instanceMethod yX8_passNow ∈ lw_ok ∧ Cond.selects yX8_passNow.cls yX8_passNow yX8_passNow ∈ lw_ok := ⟨lw_i5 29 rfl rfl, lw_s 52 rfl rfl⟩
theorem my_X8_pass : MY yX8_pass cX8_pass 2 (some .int) 1 := ⟨lw_i5 21 rfl rfl, nh_X8.1, nh_X8.2.1, by decide +kernel, nh_X8.2.2⟩
theorem mx_X8_pass : Cond.instanceMethod yX8_pass ∈ lw_ok ∧ Cond.selects yX8_pass.cls yX8_pass yX8_pass ∈ lw_ok := ⟨lw_i5 19 rfl rfl, lw_i5 20 rfl rfl⟩
theorem my_X8_roundNow : MY yX8_roundNow cX8_roundNow 4 (some .int) 2 := ⟨lw_i5 42 rfl rfl, nh_X8.1, nh_X8.2.1, by decide +kernel, nh_X8.2.2⟩
theorem mx_X8_roundNow : Cond.instanceMethod yX8_roundNow ∈ lw_ok ∧ Cond.selects yX8_roundNow.cls yX8_roundNow yX8_roundNow ∈ lw_ok := ⟨lw_i5 41 rfl rfl, lw_s 53 rfl rfl⟩
theorem my_X8_goRound : MY yX8_goRound cX8_goRound 3 (some .int) 2 := ⟨lw_i5 38 rfl rfl, nh_X8.1, nh_X8.2.1, by decide +kernel, nh_X8.2.2⟩
theorem mx_X8_goRound : Cond.instanceMethod yX8_goRound ∈ lw_ok ∧ Cond.selects yX8_goRound.cls yX8_goRound yX8_goRound ∈ lw_ok := ⟨lw_i5 36 rfl rfl, lw_i5 37 rfl rfl⟩
theorem my_X8_quickest : MY yX8_quickest cX8_quickest 6 (some .int) 2 := ⟨lw_i5 50 rfl rfl, nh_X8.1, nh_X8.2.1, by decide +kernel, nh_X8.2.2⟩
theorem mx_X8_quickest : Cond.instanceMethod yX8_quickest ∈ lw_ok ∧ Cond.selects yX8_quickest.cls yX8_quickest yX8_quickest ∈ lw_ok := ⟨lw_i5 49 rfl rfl, lw_s 54 rfl rfl⟩
theorem my_X8_talked : MY yX8_talked cX8_talked 3 (some .int) 3 := ⟨lw_i5 54 rfl rfl, nh_X8.1, nh_X8.2.1, by decide +kernel, nh_X8.2.2⟩
theorem mx_X8_talked : Cond.static yX8_talked ∈ lw_ok := lw_i5 53 rfl rfl
theorem my_X8_talk : MY yX8_talk cX8_talk 5 (some .int) 3 := ⟨lw_i5 46 rfl rfl, nh_X8.1, nh_X8.2.1, by decide +kernel, nh_X8.2.2⟩
theorem mx_X8_talk : Cond.instanceMethod yX8_talk ∈ lw_ok ∧ Cond.selects yX8_talk.cls yX8_talk yX8_talk ∈ lw_ok := ⟨lw_i5 44 rfl rfl, lw_i5 45 rfl rfl⟩
theorem my_X8_come : MY yX8_come cX8_come 3 (some .int) 2 := ⟨lw_i5 58 rfl rfl, nh_X8.1, nh_X8.2.1, by decide +kernel, nh_X8.2.2⟩
theorem mx_X8_come : Cond.instanceMethod yX8_come ∈ lw_ok ∧ Cond.selects yX8_come.cls yX8_come yX8_come ∈ lw_ok := ⟨lw_i5 56 rfl rfl, lw_i5 57 rfl rfl⟩
theorem my_X8_register : MY yX8_register cX8_register 4 (some .int) 2 := ⟨lw_i5 66 rfl rfl, nh_X8.1, nh_X8.2.1, by decide +kernel, nh_X8.2.2⟩
theorem mx_X8_register : Cond.instanceMethod yX8_register ∈ lw_ok ∧ Cond.selects yX8_register.cls yX8_register yX8_register ∈ lw_ok := ⟨lw_i5 64 rfl rfl, lw_i5 65 rfl rfl⟩
theorem my_X8_draw : MY yX8_draw cX8_draw 2 (some .int) 1 := ⟨lw_i5 79 rfl rfl, nh_X8.1, nh_X8.2.1, by decide +kernel, nh_X8.2.2⟩
theorem mx_X8_draw : Cond.instanceMethod yX8_draw ∈ lw_ok ∧ Cond.selects yX8_draw.cls yX8_draw yX8_draw ∈ lw_ok := ⟨lw_i5 78 rfl rfl, lw_s 57 rfl rfl⟩
theorem my_X8_dayByDraws : MY yX8_dayByDraws cX8_dayByDraws 3 none 0 := ⟨lw_i5 75 rfl rfl, nh_X8.1, nh_X8.2.1, by decide +kernel, nh_X8.2.2⟩
theorem mx_X8_dayByDraws : Cond.instanceMethod yX8_dayByDraws ∈ lw_ok ∧ Cond.selects yX8_dayByDraws.cls yX8_dayByDraws yX8_dayByDraws ∈ lw_ok := ⟨lw_i5 74 rfl rfl, lw_s 56 rfl rfl⟩
theorem my_X8_drift : MY yX8_drift cX8_drift 3 (some .int) 1 := ⟨lw_i5 70 rfl rfl, nh_X8.1, nh_X8.2.1, by decide +kernel, nh_X8.2.2⟩
theorem mx_X8_drift : Cond.instanceMethod yX8_drift ∈ lw_ok ∧ Cond.selects yX8_drift.cls yX8_drift yX8_drift ∈ lw_ok := ⟨lw_i5 68 rfl rfl, lw_i5 69 rfl rfl⟩
theorem my_X8_undo : MY yX8_undo cX8_undo 2 (some .int) 0 := ⟨lw_i5 87 rfl rfl, nh_X8.1, nh_X8.2.1, by decide +kernel, nh_X8.2.2⟩
theorem mx_X8_undo : Cond.instanceMethod yX8_undo ∈ lw_ok ∧ Cond.selects yX8_undo.cls yX8_undo yX8_undo ∈ lw_ok := ⟨lw_i5 85 rfl rfl, lw_i5 86 rfl rfl⟩
theorem my_X8_follows : MY yX8_follows cX8_follows 2 (some .int) 1 := ⟨lw_i5 91 rfl rfl, nh_X8.1, nh_X8.2.1, by decide +kernel, nh_X8.2.2⟩
theorem mx_X8_follows : Cond.instanceMethod yX8_follows ∈ lw_ok ∧ Cond.selects yX8_follows.cls yX8_follows yX8_follows ∈ lw_ok := ⟨lw_i5 89 rfl rfl, lw_i5 90 rfl rfl⟩
theorem my_X8_owed : MY yX8_owed cX8_owed 2 (some .int) 1 := ⟨lw_i5 95 rfl rfl, nh_X8.1, nh_X8.2.1, by decide +kernel, nh_X8.2.2⟩
theorem mx_X8_owed : Cond.instanceMethod yX8_owed ∈ lw_ok ∧ Cond.selects yX8_owed.cls yX8_owed yX8_owed ∈ lw_ok := ⟨lw_i5 93 rfl rfl, lw_i5 94 rfl rfl⟩
theorem my_X8_parts : MY yX8_parts cX8_parts 6 (some .int) 2 := ⟨lw_i5 99 rfl rfl, nh_X8.1, nh_X8.2.1, by decide +kernel, nh_X8.2.2⟩
theorem mx_X8_parts : Cond.instanceMethod yX8_parts ∈ lw_ok ∧ Cond.selects yX8_parts.cls yX8_parts yX8_parts ∈ lw_ok := ⟨lw_i5 97 rfl rfl, lw_i5 98 rfl rfl⟩
theorem my_X8_findMinutes : MY yX8_findMinutes cX8_findMinutes 5 none 1 := ⟨lw_i5 107 rfl rfl, nh_X8.1, nh_X8.2.1, by decide +kernel, nh_X8.2.2⟩
theorem mx_X8_findMinutes : Cond.instanceMethod yX8_findMinutes ∈ lw_ok ∧ Cond.selects yX8_findMinutes.cls yX8_findMinutes yX8_findMinutes ∈ lw_ok := ⟨lw_i5 106 rfl rfl, lw_s 58 rfl rfl⟩
theorem my_X8_talkDown : MY yX8_talkDown cX8_talkDown 7 (some .int) 3 := ⟨lw_i5 103 rfl rfl, nh_X8.1, nh_X8.2.1, by decide +kernel, nh_X8.2.2⟩
theorem mx_X8_talkDown : Cond.instanceMethod yX8_talkDown ∈ lw_ok ∧ Cond.selects yX8_talkDown.cls yX8_talkDown yX8_talkDown ∈ lw_ok := ⟨lw_i5 101 rfl rfl, lw_i5 102 rfl rfl⟩
theorem my_X8_minutesOf : MY yX8_minutesOf cX8_minutesOf 8 (some .int) 2 := ⟨lw_i5 115 rfl rfl, nh_X8.1, nh_X8.2.1, by decide +kernel, nh_X8.2.2⟩
theorem mx_X8_minutesOf : Cond.instanceMethod yX8_minutesOf ∈ lw_ok ∧ Cond.selects yX8_minutesOf.cls yX8_minutesOf yX8_minutesOf ∈ lw_ok := ⟨lw_i5 114 rfl rfl, lw_s 59 rfl rfl⟩
theorem my_X8_soonest : MY yX8_soonest cX8_soonest 5 (some .int) 1 := ⟨lw_i5 111 rfl rfl, nh_X8.1, nh_X8.2.1, by decide +kernel, nh_X8.2.2⟩
theorem mx_X8_soonest : Cond.instanceMethod yX8_soonest ∈ lw_ok ∧ Cond.selects yX8_soonest.cls yX8_soonest yX8_soonest ∈ lw_ok := ⟨lw_i5 109 rfl rfl, lw_i5 110 rfl rfl⟩
theorem my_X8_smallestSet : MY yX8_smallestSet cX8_smallestSet 5 (some .int) 0 := ⟨lw_i5 123 rfl rfl, nh_X8.1, nh_X8.2.1, by decide +kernel, nh_X8.2.2⟩
theorem mx_X8_smallestSet : Cond.instanceMethod yX8_smallestSet ∈ lw_ok ∧ Cond.selects yX8_smallestSet.cls yX8_smallestSet yX8_smallestSet ∈ lw_ok := ⟨lw_i5 122 rfl rfl, lw_s 60 rfl rfl⟩
theorem my_X8_needless : MY yX8_needless cX8_needless 4 (some .int) 0 := ⟨lw_i5 130 rfl rfl, nh_X8.1, nh_X8.2.1, by decide +kernel, nh_X8.2.2⟩
theorem mx_X8_needless : Cond.instanceMethod yX8_needless ∈ lw_ok ∧ Cond.selects yX8_needless.cls yX8_needless yX8_needless ∈ lw_ok := ⟨lw_i5 129 rfl rfl, lw_s 61 rfl rfl⟩
theorem my_X8_smallest : MY yX8_smallest cX8_smallest 2 (some .int) 1 := ⟨lw_i5 119 rfl rfl, nh_X8.1, nh_X8.2.1, by decide +kernel, nh_X8.2.2⟩
theorem mx_X8_smallest : Cond.instanceMethod yX8_smallest ∈ lw_ok ∧ Cond.selects yX8_smallest.cls yX8_smallest yX8_smallest ∈ lw_ok := ⟨lw_i5 117 rfl rfl, lw_i5 118 rfl rfl⟩
theorem my_X8_better : MY yX8_better cX8_better 3 (some .int) 2 := ⟨lw_i5 134 rfl rfl, nh_X8.1, nh_X8.2.1, by decide +kernel, nh_X8.2.2⟩
theorem mx_X8_better : Cond.instanceMethod yX8_better ∈ lw_ok ∧ Cond.selects yX8_better.cls yX8_better yX8_better ∈ lw_ok := ⟨lw_i5 132 rfl rfl, lw_i5 133 rfl rfl⟩
theorem my_X8_gains : MY yX8_gains cX8_gains 3 (some .int) 2 := ⟨lw_i5 139 rfl rfl, nh_X8.1, nh_X8.2.1, by decide +kernel, nh_X8.2.2⟩
theorem mx_X8_gains : Cond.instanceMethod yX8_gains ∈ lw_ok ∧ Cond.selects yX8_gains.cls yX8_gains yX8_gains ∈ lw_ok := ⟨lw_i5 137 rfl rfl, lw_i5 138 rfl rfl⟩
theorem my_X8_free : MY yX8_free cX8_free 1 (some .int) 0 := ⟨lw_i5 143 rfl rfl, nh_X8.1, nh_X8.2.1, by decide +kernel, nh_X8.2.2⟩
theorem mx_X8_free : Cond.instanceMethod yX8_free ∈ lw_ok ∧ Cond.selects yX8_free.cls yX8_free yX8_free ∈ lw_ok := ⟨lw_i5 141 rfl rfl, lw_i5 142 rfl rfl⟩
theorem my_X8_share : MY yX8_share cX8_share 4 (some .int) 1 := ⟨lw_i5 147 rfl rfl, nh_X8.1, nh_X8.2.1, by decide +kernel, nh_X8.2.2⟩
theorem mx_X8_share : Cond.instanceMethod yX8_share ∈ lw_ok ∧ Cond.selects yX8_share.cls yX8_share yX8_share ∈ lw_ok := ⟨lw_i5 145 rfl rfl, lw_i5 146 rfl rfl⟩
theorem my_X8_glacier : MY yX8_glacier cX8_glacier 5 (some .int) 1 := ⟨lw_i5 151 rfl rfl, nh_X8.1, nh_X8.2.1, by decide +kernel, nh_X8.2.2⟩
theorem mx_X8_glacier : Cond.instanceMethod yX8_glacier ∈ lw_ok ∧ Cond.selects yX8_glacier.cls yX8_glacier yX8_glacier ∈ lw_ok := ⟨lw_i5 149 rfl rfl, lw_i5 150 rfl rfl⟩
theorem my_X8_ask : MY yX8_ask cX8_ask 4 (some .int) 3 := ⟨lw_i5 157 rfl rfl, nh_X8.1, nh_X8.2.1, by decide +kernel, nh_X8.2.2⟩
theorem mx_X8_ask : Cond.instanceMethod yX8_ask ∈ lw_ok ∧ Cond.selects yX8_ask.cls yX8_ask yX8_ask ∈ lw_ok := ⟨lw_i5 155 rfl rfl, lw_i5 156 rfl rfl⟩
theorem my_X8_answers : MY yX8_answers cX8_answers 4 (some .boolean) 3 := ⟨lw_i5 170 rfl rfl, nh_X8.1, nh_X8.2.1, by decide +kernel, nh_X8.2.2⟩
theorem mx_X8_answers : Cond.static yX8_answers ∈ lw_ok := lw_i5 169 rfl rfl
theorem my_X8_couldBe : MY yX8_couldBe cX8_couldBe 4 (some .boolean) 1 := ⟨lw_i5 167 rfl rfl, nh_X8.1, nh_X8.2.1, by decide +kernel, nh_X8.2.2⟩
theorem mx_X8_couldBe : Cond.instanceMethod yX8_couldBe ∈ lw_ok ∧ Cond.selects yX8_couldBe.cls yX8_couldBe yX8_couldBe ∈ lw_ok := ⟨lw_i5 166 rfl rfl, lw_s 62 rfl rfl⟩
theorem my_X8_minds : MY yX8_minds cX8_minds 6 (some .int) 1 := ⟨lw_i5 162 rfl rfl, nh_X8.1, nh_X8.2.1, by decide +kernel, nh_X8.2.2⟩
theorem mx_X8_minds : Cond.instanceMethod yX8_minds ∈ lw_ok ∧ Cond.selects yX8_minds.cls yX8_minds yX8_minds ∈ lw_ok := ⟨lw_i5 160 rfl rfl, lw_i5 161 rfl rfl⟩
theorem my_X8_askNext : MY yX8_askNext cX8_askNext 6 (some .int) 0 := ⟨lw_i5 174 rfl rfl, nh_X8.1, nh_X8.2.1, by decide +kernel, nh_X8.2.2⟩
theorem mx_X8_askNext : Cond.instanceMethod yX8_askNext ∈ lw_ok ∧ Cond.selects yX8_askNext.cls yX8_askNext yX8_askNext ∈ lw_ok := ⟨lw_i5 172 rfl rfl, lw_i5 173 rfl rfl⟩
theorem my_X8_write : MY yX8_write cX8_write 3 (some .int) 2 := ⟨lw_i5 178 rfl rfl, nh_X8.1, nh_X8.2.1, by decide +kernel, nh_X8.2.2⟩
theorem mx_X8_write : Cond.instanceMethod yX8_write ∈ lw_ok ∧ Cond.selects yX8_write.cls yX8_write yX8_write ∈ lw_ok := ⟨lw_i5 176 rfl rfl, lw_i5 177 rfl rfl⟩
theorem my_X8_tear : MY yX8_tear cX8_tear 2 (some .int) 0 := ⟨lw_i5 182 rfl rfl, nh_X8.1, nh_X8.2.1, by decide +kernel, nh_X8.2.2⟩
theorem mx_X8_tear : Cond.instanceMethod yX8_tear ∈ lw_ok ∧ Cond.selects yX8_tear.cls yX8_tear yX8_tear ∈ lw_ok := ⟨lw_i5 180 rfl rfl, lw_i5 181 rfl rfl⟩
theorem my_X8_judge : MY yX8_judge cX8_judge 3 (some .int) 0 := ⟨lw_i5 186 rfl rfl, nh_X8.1, nh_X8.2.1, by decide +kernel, nh_X8.2.2⟩
theorem mx_X8_judge : Cond.instanceMethod yX8_judge ∈ lw_ok ∧ Cond.selects yX8_judge.cls yX8_judge yX8_judge ∈ lw_ok := ⟨lw_i5 184 rfl rfl, lw_i5 185 rfl rfl⟩
theorem my_X8_seed : MY yX8_seed cX8_seed 3 (some .int) 1 := ⟨lw_i5 190 rfl rfl, nh_X8.1, nh_X8.2.1, by decide +kernel, nh_X8.2.2⟩
theorem mx_X8_seed : Cond.instanceMethod yX8_seed ∈ lw_ok ∧ Cond.selects yX8_seed.cls yX8_seed yX8_seed ∈ lw_ok := ⟨lw_i5 188 rfl rfl, lw_i5 189 rfl rfl⟩
theorem my_X8_keep : MY yX8_keep cX8_keep 3 (some .int) 1 := ⟨lw_i5 194 rfl rfl, nh_X8.1, nh_X8.2.1, by decide +kernel, nh_X8.2.2⟩
theorem mx_X8_keep : Cond.instanceMethod yX8_keep ∈ lw_ok ∧ Cond.selects yX8_keep.cls yX8_keep yX8_keep ∈ lw_ok := ⟨lw_i5 192 rfl rfl, lw_i5 193 rfl rfl⟩
theorem my_X8_goBack : MY yX8_goBack cX8_goBack 3 (some .int) 1 := ⟨lw_i5 198 rfl rfl, nh_X8.1, nh_X8.2.1, by decide +kernel, nh_X8.2.2⟩
theorem mx_X8_goBack : Cond.instanceMethod yX8_goBack ∈ lw_ok ∧ Cond.selects yX8_goBack.cls yX8_goBack yX8_goBack ∈ lw_ok := ⟨lw_i5 196 rfl rfl, lw_i5 197 rfl rfl⟩
theorem my_J6_bitCount_0f7a4 : MY yJ6_bitCount_0f7a4 cJ6_bitCount_0f7a4 1 (some .int) 1 := ⟨lw_i3 108 rfl rfl, nh_J6.1, nh_J6.2.1, by decide +kernel, nh_J6.2.2⟩
theorem mx_J6_bitCount_0f7a4 : Cond.static yJ6_bitCount_0f7a4 ∈ lw_ok := lw_i3 107 rfl rfl
theorem my_J9_max_7cf53 : MY yJ9_max_7cf53 cJ9_max_7cf53 2 (some .int) 2 := ⟨lw_i3 176 rfl rfl, nh_J9.1, nh_J9.2.1, by decide +kernel, nh_J9.2.2⟩
theorem mx_J9_max_7cf53 : Cond.static yJ9_max_7cf53 ∈ lw_ok := lw_i3 175 rfl rfl
theorem my_J9_min_7cf53 : MY yJ9_min_7cf53 cJ9_min_7cf53 2 (some .int) 2 := ⟨lw_i2 104 rfl rfl, nh_J9.1, nh_J9.2.1, by decide +kernel, nh_J9.2.2⟩
theorem mx_J9_min_7cf53 : Cond.static yJ9_min_7cf53 ∈ lw_ok := lw_i2 103 rfl rfl
theorem mv_L_13 : MV RL 13 yX7_feed := ⟨lw_i2 49 rfl rfl, mx_X7_feed.1, mx_X7_feed.2⟩
theorem kc_X7_62 : Cond.constant RX7 62 (-1000000002) ∈ lw_ok := lw_i2 53 rfl rfl
theorem mv_X7_63 : MV RX7 63 yX6_append := ⟨lw_i2 54 rfl rfl, mx_X6_append.1, mx_X6_append.2⟩
theorem kc_X7_71 : Cond.constant RX7 71 (-1000000004) ∈ lw_ok := lw_i2 58 rfl rfl
theorem mv_L_18 : MV RL 18 yX7_thePass := ⟨lw_i2 59 rfl rfl, mx_X7_thePass.1, mx_X7_thePass.2⟩
theorem mv_X7_72 : MV RX7 72 yX6_read := ⟨lw_i2 63 rfl rfl, mx_X6_read.1, mx_X6_read.2⟩
theorem mv_X6_29 : MV RX6 29 yX1_clear := ⟨lw_i2 67 rfl rfl, mx_X1_clear.1, mx_X1_clear.2⟩
theorem mv_X6_38 : MV RX6 38 yX6_skipBlanks := ⟨lw_i2 71 rfl rfl, mx_X6_skipBlanks.1, mx_X6_skipBlanks.2⟩
theorem mv_X6_41 : MV RX6 41 yX6_readClause := ⟨lw_i2 75 rfl rfl, mx_X6_readClause.1, mx_X6_readClause.2⟩
theorem mv_X6_44 : MV RX6 44 yX6_letterHere := ⟨lw_i2 79 rfl rfl, mx_X6_letterHere.1, mx_X6_letterHere.2⟩
theorem mv_X6_48 : MV RX6 48 yX6_checkWord := ⟨lw_i2 83 rfl rfl, mx_X6_checkWord.1, mx_X6_checkWord.2⟩
theorem mv_X6_77 : MV RX6 77 yX6_findFault := ⟨lw_i2 87 rfl rfl, mx_X6_findFault.1, mx_X6_findFault.2⟩
theorem mv_X6_52 : MV RX6 52 yX6_readGate := ⟨lw_i2 91 rfl rfl, mx_X6_readGate.1, mx_X6_readGate.2⟩
theorem mv_X6_93 : MV RX6 93 yX6_readNumber := ⟨lw_i2 95 rfl rfl, mx_X6_readNumber.1, mx_X6_readNumber.2⟩
theorem ms_X6_136 : MS RX6 136 yX6_isFigure := ⟨lw_i2 99 rfl rfl, mx_X6_isFigure⟩
theorem ms_X6_140 : MS RX6 140 yJ9_min_7cf53 := ⟨lw_i2 102 rfl rfl, mx_J9_min_7cf53⟩
theorem mv_X6_55 : MV RX6 55 yX6_readIdea := ⟨lw_i2 105 rfl rfl, mx_X6_readIdea.1, mx_X6_readIdea.2⟩
theorem mv_X6_58 : MV RX6 58 yX6_readJoining := ⟨lw_i2 109 rfl rfl, mx_X6_readJoining.1, mx_X6_readJoining.2⟩
theorem mv_X6_106 : MV RX6 106 yX6_readToldIdea := ⟨lw_i2 113 rfl rfl, mx_X6_readToldIdea.1, mx_X6_readToldIdea.2⟩
theorem mv_X6_61 : MV RX6 61 yX6_readTalk := ⟨lw_i2 117 rfl rfl, mx_X6_readTalk.1, mx_X6_readTalk.2⟩
theorem mv_X6_64 : MV RX6 64 yX6_readRegistered := ⟨lw_i2 121 rfl rfl, mx_X6_readRegistered.1, mx_X6_readRegistered.2⟩
theorem mv_X6_67 : MV RX6 67 yX6_readTraveller := ⟨lw_i2 125 rfl rfl, mx_X6_readTraveller.1, mx_X6_readTraveller.2⟩
theorem mv_X6_70 : MV RX6 70 yX6_readEnd := ⟨lw_i2 129 rfl rfl, mx_X6_readEnd.1, mx_X6_readEnd.2⟩
theorem mv_X7_79 : MV RX7 79 yX6_exchange := ⟨lw_i2 133 rfl rfl, mx_X6_exchange.1, mx_X6_exchange.2⟩
theorem mv_X7_83 : MV RX7 83 yX1_findAllFrom := ⟨lw_i2 137 rfl rfl, mx_X1_findAllFrom.1, mx_X1_findAllFrom.2⟩
theorem mv_X1_65 : MV RX1 65 yX1_joined := ⟨lw_i2 141 rfl rfl, mx_X1_joined.1, mx_X1_joined.2⟩
theorem mv_X7_86 : MV RX7 86 yX4_begin := ⟨lw_i2 145 rfl rfl, mx_X4_begin.1, mx_X4_begin.2⟩
theorem mv_X4_15 : MV RX4 15 yX1_isTraveller := ⟨lw_i2 149 rfl rfl, mx_X1_isTraveller.1, mx_X1_isTraveller.2⟩
theorem mv_X7_93 : MV RX7 93 yX2_forget := ⟨lw_i2 153 rfl rfl, mx_X2_forget.1, mx_X2_forget.2⟩
theorem mv_L_23 : MV RL 23 yX7_fault := ⟨lw_i2 157 rfl rfl, mx_X7_fault.1, mx_X7_fault.2⟩
theorem mv_L_27 : MV RL 27 yX7_told := ⟨lw_i2 161 rfl rfl, mx_X7_told.1, mx_X7_told.2⟩
theorem mv_X7_122 : MV RX7 122 yX7_inTheCountry := ⟨lw_i2 165 rfl rfl, mx_X7_inTheCountry.1, mx_X7_inTheCountry.2⟩
theorem mv_X7_210 : MV RX7 210 yX1_allFrom := ⟨lw_i2 169 rfl rfl, mx_X1_allFrom.1, mx_X1_allFrom.2⟩
theorem mv_X1_69 : MV RX1 69 yX1_isSet := ⟨lw_i2 173 rfl rfl, mx_X1_isSet.1, mx_X1_isSet.2⟩
theorem mv_X7_129 : MV RX7 129 yX7_stuckOnes := ⟨lw_i2 177 rfl rfl, mx_X7_stuckOnes.1, mx_X7_stuckOnes.2⟩
theorem mv_X7_158 : MV RX7 158 yX4_isGone := ⟨lw_i2 181 rfl rfl, mx_X4_isGone.1, mx_X4_isGone.2⟩
theorem mv_X7_148 : MV RX7 148 yX4_mindOf := ⟨lw_i2 185 rfl rfl, mx_X4_mindOf.1, mx_X4_mindOf.2⟩
theorem mv_X7_161 : MV RX7 161 yX1_isStuck := ⟨lw_i2 189 rfl rfl, mx_X1_isStuck.1, mx_X1_isStuck.2⟩
theorem mv_X1_73 : MV RX1 73 yX1_sizeOf := ⟨lw_i2 193 rfl rfl, mx_X1_sizeOf.1, mx_X1_sizeOf.2⟩
theorem mv_L_31 : MV RL 31 yX7_size := ⟨lw_i2 197 rfl rfl, mx_X7_size.1, mx_X7_size.2⟩
theorem mv_X7_138 : MV RX7 138 yX1_isIdea := ⟨lw_i2 201 rfl rfl, mx_X1_isIdea.1, mx_X1_isIdea.2⟩
theorem kc_X7_144 : Cond.constant RX7 144 (-1000000001) ∈ lw_ok := lw_i2 205 rfl rfl
theorem mv_L_35 : MV RL 35 yX7_traveller := ⟨lw_i2 206 rfl rfl, mx_X7_traveller.1, mx_X7_traveller.2⟩
theorem mv_X7_145 : MV RX7 145 yX1_isTraveller := ⟨lw_i2 210 rfl rfl, mx_X1_isTraveller.1, mx_X1_isTraveller.2⟩
theorem mv_X7_152 : MV RX7 152 yX1_sizeOf := ⟨lw_i2 211 rfl rfl, mx_X1_sizeOf.1, mx_X1_sizeOf.2⟩
theorem mv_X7_155 : MV RX7 155 yX7_dutyOf := ⟨lw_i2 212 rfl rfl, mx_X7_dutyOf.1, mx_X7_dutyOf.2⟩
theorem mv_X7_213 : MV RX7 213 yX1_duty := ⟨lw_i2 216 rfl rfl, mx_X1_duty.1, mx_X1_duty.2⟩
theorem mv_X1_76 : MV RX1 76 yX1_allFrom := ⟨lw_i2 220 rfl rfl, mx_X1_allFrom.1, mx_X1_allFrom.2⟩
theorem mv_L_40 : MV RL 40 yX7_pass := ⟨lw_i2 221 rfl rfl, mx_X7_pass.1, mx_X7_pass.2⟩
theorem kc_X7_164 : Cond.constant RX7 164 (-1000000003) ∈ lw_ok := lw_i2 225 rfl rfl
theorem mv_X7_165 : MV RX7 165 yX3_remember := ⟨lw_i2 226 rfl rfl, mx_X3_remember.1, mx_X3_remember.2⟩
theorem mv_X3_22 : MV RX3 22 yX4_become := ⟨lw_i2 230 rfl rfl, mx_X4_become.1, mx_X4_become.2⟩
theorem ms_X3_29 : MS RX3 29 yJ9_min_7cf53 := ⟨lw_i2 234 rfl rfl, mx_J9_min_7cf53⟩
theorem mv_X7_169 : MV RX7 169 yX7_letPass := ⟨lw_i2 235 rfl rfl, mx_X7_letPass.1, mx_X7_letPass.2⟩
theorem kc_X7_188 : Cond.constant RX7 188 (999999) ∈ lw_ok := lw_i2 239 rfl rfl
theorem ms_X7_189 : MS RX7 189 yJ9_min_7cf53 := ⟨lw_i3 0 rfl rfl, mx_J9_min_7cf53⟩
theorem mv_X7_172 : MV RX7 172 yX4_leaves := ⟨lw_i3 1 rfl rfl, mx_X4_leaves.1, mx_X4_leaves.2⟩
theorem mv_X4_40 : MV RX4 40 yX4_mindOf := ⟨lw_i3 5 rfl rfl, mx_X4_mindOf.1, mx_X4_mindOf.2⟩
theorem mv_L_44 : MV RL 44 yX7_goRound := ⟨lw_i3 6 rfl rfl, mx_X7_goRound.1, mx_X7_goRound.2⟩
theorem mv_L_49 : MV RL 49 yX7_talk := ⟨lw_i3 10 rfl rfl, mx_X7_talk.1, mx_X7_talk.2⟩
theorem mv_X7_176 : MV RX7 176 yX1_quickest := ⟨lw_i3 14 rfl rfl, mx_X1_quickest.1, mx_X1_quickest.2⟩
theorem ms_X7_180 : MS RX7 180 yX7_afterTalk := ⟨lw_i3 18 rfl rfl, mx_X7_afterTalk⟩
theorem mv_X7_184 : MV RX7 184 yX4_setMind := ⟨lw_i3 21 rfl rfl, mx_X4_setMind.1, mx_X4_setMind.2⟩
theorem mv_L_54 : MV RL 54 yX7_come := ⟨lw_i3 25 rfl rfl, mx_X7_come.1, mx_X7_come.2⟩
theorem mv_X7_194 : MV RX7 194 yX1_isSet := ⟨lw_i3 29 rfl rfl, mx_X1_isSet.1, mx_X1_isSet.2⟩
theorem mv_X7_197 : MV RX7 197 yX4_comes := ⟨lw_i3 30 rfl rfl, mx_X4_comes.1, mx_X4_comes.2⟩
theorem mv_X4_36 : MV RX4 36 yX4_setMind := ⟨lw_i3 34 rfl rfl, mx_X4_setMind.1, mx_X4_setMind.2⟩
theorem mv_L_58 : MV RL 58 yX7_register := ⟨lw_i3 35 rfl rfl, mx_X7_register.1, mx_X7_register.2⟩
theorem mv_L_62 : MV RL 62 yX7_drift := ⟨lw_i3 39 rfl rfl, mx_X7_drift.1, mx_X7_drift.2⟩
theorem mv_X7_204 : MV RX7 204 yX7_driftOneDay := ⟨lw_i3 43 rfl rfl, mx_X7_driftOneDay.1, mx_X7_driftOneDay.2⟩
theorem mv_X7_286 : MV RX7 286 yX7_draw := ⟨lw_i3 47 rfl rfl, mx_X7_draw.1, mx_X7_draw.2⟩
theorem kc_X7_289 : Cond.constantLong RX7 289 (1103515245) ∈ lw_ok := lw_i3 51 rfl rfl
theorem kc_X7_291 : Cond.constantLong RX7 291 (12345) ∈ lw_ok := lw_i3 52 rfl rfl
theorem kc_X7_293 : Cond.constantLong RX7 293 (2147483647) ∈ lw_ok := lw_i3 53 rfl rfl
theorem kc_X7_295 : Cond.constant RX7 295 (65536) ∈ lw_ok := lw_i3 54 rfl rfl
theorem mv_L_66 : MV RL 66 yX7_undo := ⟨lw_i3 55 rfl rfl, mx_X7_undo.1, mx_X7_undo.2⟩
theorem mv_X7_207 : MV RX7 207 yX3_bringBack := ⟨lw_i3 59 rfl rfl, mx_X3_bringBack.1, mx_X3_bringBack.2⟩
theorem mv_L_70 : MV RL 70 yX7_follows := ⟨lw_i3 63 rfl rfl, mx_X7_follows.1, mx_X7_follows.2⟩
theorem mv_L_74 : MV RL 74 yX7_owed := ⟨lw_i3 67 rfl rfl, mx_X7_owed.1, mx_X7_owed.2⟩
theorem mv_L_78 : MV RL 78 yX7_parts := ⟨lw_i3 71 rfl rfl, mx_X7_parts.1, mx_X7_parts.2⟩
theorem mv_X7_216 : MV RX7 216 yX7_cheapestParts := ⟨lw_i3 75 rfl rfl, mx_X7_cheapestParts.1, mx_X7_cheapestParts.2⟩
theorem mv_L_82 : MV RL 82 yX7_talkDown := ⟨lw_i3 79 rfl rfl, mx_X7_talkDown.1, mx_X7_talkDown.2⟩
theorem mv_X7_219 : MV RX7 219 yX1_findMinutes := ⟨lw_i3 83 rfl rfl, mx_X1_findMinutes.1, mx_X1_findMinutes.2⟩
theorem mv_X7_223 : MV RX7 223 yX7_nextOnTheWay := ⟨lw_i3 87 rfl rfl, mx_X7_nextOnTheWay.1, mx_X7_nextOnTheWay.2⟩
theorem mv_L_86 : MV RL 86 yX7_soonest := ⟨lw_i3 91 rfl rfl, mx_X7_soonest.1, mx_X7_soonest.2⟩
theorem ms_X7_226 : MS RX7 226 yX7_fewestMinutes := ⟨lw_i3 95 rfl rfl, mx_X7_fewestMinutes⟩
theorem mv_L_90 : MV RL 90 yX7_smallest := ⟨lw_i3 98 rfl rfl, mx_X7_smallest.1, mx_X7_smallest.2⟩
theorem mv_X7_230 : MV RX7 230 yX7_smallestRegister := ⟨lw_i3 102 rfl rfl, mx_X7_smallestRegister.1, mx_X7_smallestRegister.2⟩
theorem ms_X7_305 : MS RX7 305 yJ6_bitCount_0f7a4 := ⟨lw_i3 106 rfl rfl, mx_J6_bitCount_0f7a4⟩
theorem kc_J6_265 : Cond.constant RJ6 265 (1431655765) ∈ lw_ok := lw_i3 109 rfl rfl
theorem kc_J6_266 : Cond.constant RJ6 266 (858993459) ∈ lw_ok := lw_i3 110 rfl rfl
theorem kc_J6_267 : Cond.constant RJ6 267 (252645135) ∈ lw_ok := lw_i3 111 rfl rfl
theorem mv_X7_233 : MV RX7 233 yX7_needless := ⟨lw_i3 112 rfl rfl, mx_X7_needless.1, mx_X7_needless.2⟩
theorem mv_L_94 : MV RL 94 yX7_better := ⟨lw_i3 116 rfl rfl, mx_X7_better.1, mx_X7_better.2⟩
theorem mv_L_98 : MV RL 98 yX7_gains := ⟨lw_i3 120 rfl rfl, mx_X7_gains.1, mx_X7_gains.2⟩
theorem mv_L_102 : MV RL 102 yX7_free := ⟨lw_i3 124 rfl rfl, mx_X7_free.1, mx_X7_free.2⟩
theorem mv_L_106 : MV RL 106 yX7_share := ⟨lw_i3 128 rfl rfl, mx_X7_share.1, mx_X7_share.2⟩
theorem mv_L_110 : MV RL 110 yX7_glacier := ⟨lw_i3 132 rfl rfl, mx_X7_glacier.1, mx_X7_glacier.2⟩
theorem kc_X7_236 : Cond.constantLong RX7 236 (1000000000) ∈ lw_ok := lw_i3 136 rfl rfl
theorem kc_X7_238 : Cond.constantLong RX7 238 (100) ∈ lw_ok := lw_i3 137 rfl rfl
theorem mv_L_114 : MV RL 114 yX7_ask := ⟨lw_i3 138 rfl rfl, mx_X7_ask.1, mx_X7_ask.2⟩
theorem mv_X7_240 : MV RX7 240 yX5_append := ⟨lw_i3 142 rfl rfl, mx_X5_append.1, mx_X5_append.2⟩
theorem mv_L_119 : MV RL 119 yX7_minds := ⟨lw_i3 146 rfl rfl, mx_X7_minds.1, mx_X7_minds.2⟩
theorem mv_X7_243 : MV RX7 243 yX5_look := ⟨lw_i3 150 rfl rfl, mx_X5_look.1, mx_X5_look.2⟩
theorem mv_X5_38 : MV RX5 38 yX5_fits := ⟨lw_i3 154 rfl rfl, mx_X5_fits.1, mx_X5_fits.2⟩
theorem ms_X5_46 : MS RX5 46 yX5_isSo := ⟨lw_i3 158 rfl rfl, mx_X5_isSo⟩
theorem ms_X5_50 : MS RX5 50 yJ6_bitCount_0f7a4 := ⟨lw_i3 161 rfl rfl, mx_J6_bitCount_0f7a4⟩
theorem mv_X5_42 : MV RX5 42 yX5_countIdeas := ⟨lw_i3 162 rfl rfl, mx_X5_countIdeas.1, mx_X5_countIdeas.2⟩
theorem mv_L_123 : MV RL 123 yX7_askNext := ⟨lw_i3 166 rfl rfl, mx_X7_askNext.1, mx_X7_askNext.2⟩
theorem mv_X7_256 : MV RX7 256 yX5_bestIdea := ⟨lw_i3 170 rfl rfl, mx_X5_bestIdea.1, mx_X5_bestIdea.2⟩
theorem ms_X5_56 : MS RX5 56 yJ9_max_7cf53 := ⟨lw_i3 174 rfl rfl, mx_J9_max_7cf53⟩
theorem mv_L_127 : MV RL 127 yX7_write := ⟨lw_i3 177 rfl rfl, mx_X7_write.1, mx_X7_write.2⟩
theorem mv_X7_259 : MV RX7 259 yX0_append := ⟨lw_i3 181 rfl rfl, mx_X0_append.1, mx_X0_append.2⟩
theorem mv_L_131 : MV RL 131 yX7_tear := ⟨lw_i3 185 rfl rfl, mx_X7_tear.1, mx_X7_tear.2⟩
theorem mv_L_135 : MV RL 135 yX7_judge := ⟨lw_i3 189 rfl rfl, mx_X7_judge.1, mx_X7_judge.2⟩
theorem mv_X7_262 : MV RX7 262 yX0_firstWrong := ⟨lw_i3 193 rfl rfl, mx_X0_firstWrong.1, mx_X0_firstWrong.2⟩
theorem mv_L_139 : MV RL 139 yX7_seed := ⟨lw_i3 197 rfl rfl, mx_X7_seed.1, mx_X7_seed.2⟩
theorem mv_L_143 : MV RL 143 yX7_keep := ⟨lw_i3 201 rfl rfl, mx_X7_keep.1, mx_X7_keep.2⟩
theorem mv_X7_268 : MV RX7 268 yX2_take := ⟨lw_i3 205 rfl rfl, mx_X2_take.1, mx_X2_take.2⟩
theorem mv_X2_26 : MV RX2 26 yX4_become := ⟨lw_i3 209 rfl rfl, mx_X4_become.1, mx_X4_become.2⟩
theorem mv_L_147 : MV RL 147 yX7_goBack := ⟨lw_i3 210 rfl rfl, mx_X7_goBack.1, mx_X7_goBack.2⟩
theorem mv_X7_280 : MV RX7 280 yX4_become := ⟨lw_i3 214 rfl rfl, mx_X4_become.1, mx_X4_become.2⟩
theorem mv_L_17 : MV RL 17 yX8_feed := ⟨lw_i4 126 rfl rfl, mx_X8_feed.1, mx_X8_feed.2⟩
theorem kc_X8_113 : Cond.constantLong RX8 113 (255) ∈ lw_ok := lw_i4 130 rfl rfl
theorem ms_X8_106 : MS RX8 106 yX8_in := ⟨lw_i4 131 rfl rfl, mx_X8_in⟩
theorem kc_X8_115 : Cond.constant RX8 115 (-1000000002) ∈ lw_ok := lw_i4 134 rfl rfl
theorem kc_X8_119 : Cond.constant RX8 119 (-1000000004) ∈ lw_ok := lw_i4 135 rfl rfl
theorem mv_L_22 : MV RL 22 yX8_thePass := ⟨lw_i4 136 rfl rfl, mx_X8_thePass.1, mx_X8_thePass.2⟩
theorem mv_X8_123 : MV RX8 123 yX8_here := ⟨lw_i4 140 rfl rfl, mx_X8_here.1, mx_X8_here.2⟩
theorem mv_X8_205 : MV RX8 205 yX8_takeClause := ⟨lw_i4 144 rfl rfl, mx_X8_takeClause.1, mx_X8_takeClause.2⟩
theorem mv_X8_185 : MV RX8 185 yX8_whichClause := ⟨lw_i4 148 rfl rfl, mx_X8_whichClause.1, mx_X8_whichClause.2⟩
theorem mv_X8_131 : MV RX8 131 yX8_fails := ⟨lw_i4 152 rfl rfl, mx_X8_fails.1, mx_X8_fails.2⟩
theorem mv_X8_189 : MV RX8 189 yX8_isFull := ⟨lw_i4 156 rfl rfl, mx_X8_isFull.1, mx_X8_isFull.2⟩
theorem mv_X8_193 : MV RX8 193 yX8_takeBody := ⟨lw_i4 160 rfl rfl, mx_X8_takeBody.1, mx_X8_takeBody.2⟩
theorem mv_X8_167 : MV RX8 167 yX8_takeGate := ⟨lw_i4 164 rfl rfl, mx_X8_takeGate.1, mx_X8_takeGate.2⟩
theorem mv_X8_144 : MV RX8 144 yX8_into := ⟨lw_i4 168 rfl rfl, mx_X8_into.1, mx_X8_into.2⟩
theorem mv_X8_141 : MV RX8 141 yX8_takeNumber := ⟨lw_i4 172 rfl rfl, mx_X8_takeNumber.1, mx_X8_takeNumber.2⟩
theorem kc_X8_127 : Cond.constantLong RX8 127 (48) ∈ lw_ok := lw_i4 176 rfl rfl
theorem kc_X8_129 : Cond.constantLong RX8 129 (57) ∈ lw_ok := lw_i4 177 rfl rfl
theorem mv_X8_170 : MV RX8 170 yX8_takeIdea := ⟨lw_i4 178 rfl rfl, mx_X8_takeIdea.1, mx_X8_takeIdea.2⟩
theorem mv_X8_173 : MV RX8 173 yX8_takeJoin := ⟨lw_i4 182 rfl rfl, mx_X8_takeJoin.1, mx_X8_takeJoin.2⟩
theorem mv_X8_176 : MV RX8 176 yX8_takeTalk := ⟨lw_i4 186 rfl rfl, mx_X8_takeTalk.1, mx_X8_takeTalk.2⟩
theorem mv_X8_179 : MV RX8 179 yX8_takeRegistered := ⟨lw_i4 190 rfl rfl, mx_X8_takeRegistered.1, mx_X8_takeRegistered.2⟩
theorem ms_X8_160 : MS RX8 160 yX8_has := ⟨lw_i4 194 rfl rfl, mx_X8_has⟩
theorem mv_X8_182 : MV RX8 182 yX8_takeTraveller := ⟨lw_i4 197 rfl rfl, mx_X8_takeTraveller.1, mx_X8_takeTraveller.2⟩
theorem mv_X8_208 : MV RX8 208 yX8_takeRead := ⟨lw_i4 201 rfl rfl, mx_X8_takeRead.1, mx_X8_takeRead.2⟩
theorem mv_L_26 : MV RL 26 yX8_fault := ⟨lw_i4 205 rfl rfl, mx_X8_fault.1, mx_X8_fault.2⟩
theorem mv_L_30 : MV RL 30 yX8_told := ⟨lw_i4 209 rfl rfl, mx_X8_told.1, mx_X8_told.2⟩
theorem mv_X8_220 : MV RX8 220 yX8_close := ⟨lw_i4 213 rfl rfl, mx_X8_close.1, mx_X8_close.2⟩
theorem mv_X8_235 : MV RX8 235 yX8_stuckOnes := ⟨lw_i4 217 rfl rfl, mx_X8_stuckOnes.1, mx_X8_stuckOnes.2⟩
theorem mv_X8_229 : MV RX8 229 yX8_isGone := ⟨lw_i4 221 rfl rfl, mx_X8_isGone.1, mx_X8_isGone.2⟩
theorem mv_X8_232 : MV RX8 232 yX8_isStuck := ⟨lw_i4 225 rfl rfl, mx_X8_isStuck.1, mx_X8_isStuck.2⟩
theorem mv_X8_226 : MV RX8 226 yX8_sizeOf := ⟨lw_i4 229 rfl rfl, mx_X8_sizeOf.1, mx_X8_sizeOf.2⟩
theorem mv_L_34 : MV RL 34 yX8_size := ⟨lw_i4 233 rfl rfl, mx_X8_size.1, mx_X8_size.2⟩
theorem mv_X8_238 : MV RX8 238 yX8_isIdea := ⟨lw_i4 237 rfl rfl, mx_X8_isIdea.1, mx_X8_isIdea.2⟩
theorem kc_X8_241 : Cond.constant RX8 241 (-1000000001) ∈ lw_ok := lw_i5 1 rfl rfl
theorem mv_L_39 : MV RL 39 yX8_traveller := ⟨lw_i5 2 rfl rfl, mx_X8_traveller.1, mx_X8_traveller.2⟩
theorem mv_X8_242 : MV RX8 242 yX8_isTraveller := ⟨lw_i5 6 rfl rfl, mx_X8_isTraveller.1, mx_X8_isTraveller.2⟩
theorem mv_X8_245 : MV RX8 245 yX8_owedFor := ⟨lw_i5 10 rfl rfl, mx_X8_owedFor.1, mx_X8_owedFor.2⟩
theorem mv_X8_223 : MV RX8 223 yX8_owedWhere := ⟨lw_i5 14 rfl rfl, mx_X8_owedWhere.1, mx_X8_owedWhere.2⟩
theorem mv_L_43 : MV RL 43 yX8_pass := ⟨lw_i5 18 rfl rfl, mx_X8_pass.1, mx_X8_pass.2⟩
theorem kc_X8_251 : Cond.constant RX8 251 (-1000000003) ∈ lw_ok := lw_i5 22 rfl rfl
theorem mv_X8_252 : MV RX8 252 yX8_remember := ⟨lw_i5 23 rfl rfl, mx_X8_remember.1, mx_X8_remember.2⟩
theorem mv_X8_255 : MV RX8 255 yX8_passNow := ⟨lw_i5 27 rfl rfl, mx_X8_passNow.1, mx_X8_passNow.2⟩
theorem ms_X8_248 : MS RX8 248 yX8_atMost := ⟨lw_i5 31 rfl rfl, mx_X8_atMost⟩
theorem kc_X8_102 : Cond.constant RX8 102 (999999) ∈ lw_ok := lw_i5 34 rfl rfl
theorem mv_L_48 : MV RL 48 yX8_goRound := ⟨lw_i5 35 rfl rfl, mx_X8_goRound.1, mx_X8_goRound.2⟩
theorem mv_X8_258 : MV RX8 258 yX8_roundNow := ⟨lw_i5 39 rfl rfl, mx_X8_roundNow.1, mx_X8_roundNow.2⟩
theorem mv_L_53 : MV RL 53 yX8_talk := ⟨lw_i5 43 rfl rfl, mx_X8_talk.1, mx_X8_talk.2⟩
theorem mv_X8_263 : MV RX8 263 yX8_quickest := ⟨lw_i5 47 rfl rfl, mx_X8_quickest.1, mx_X8_quickest.2⟩
theorem kc_X8_262 : Cond.constant RX8 262 (1000000) ∈ lw_ok := lw_i5 51 rfl rfl
theorem ms_X8_266 : MS RX8 266 yX8_talked := ⟨lw_i5 52 rfl rfl, mx_X8_talked⟩
theorem mv_L_57 : MV RL 57 yX8_come := ⟨lw_i5 55 rfl rfl, mx_X8_come.1, mx_X8_come.2⟩
theorem mv_X8_270 : MV RX8 270 yX8_isSet := ⟨lw_i5 59 rfl rfl, mx_X8_isSet.1, mx_X8_isSet.2⟩
theorem mv_L_61 : MV RL 61 yX8_register := ⟨lw_i5 63 rfl rfl, mx_X8_register.1, mx_X8_register.2⟩
theorem mv_L_65 : MV RL 65 yX8_drift := ⟨lw_i5 67 rfl rfl, mx_X8_drift.1, mx_X8_drift.2⟩
theorem kc_X8_286 : Cond.constantLong RX8 286 (60) ∈ lw_ok := lw_i5 71 rfl rfl
theorem mv_X8_288 : MV RX8 288 yX8_dayByDraws := ⟨lw_i5 72 rfl rfl, mx_X8_dayByDraws.1, mx_X8_dayByDraws.2⟩
theorem mv_X8_283 : MV RX8 283 yX8_draw := ⟨lw_i5 76 rfl rfl, mx_X8_draw.1, mx_X8_draw.2⟩
theorem kc_X8_276 : Cond.constantLong RX8 276 (1103515245) ∈ lw_ok := lw_i5 80 rfl rfl
theorem kc_X8_278 : Cond.constantLong RX8 278 (12345) ∈ lw_ok := lw_i5 81 rfl rfl
theorem kc_X8_280 : Cond.constantLong RX8 280 (2147483648) ∈ lw_ok := lw_i5 82 rfl rfl
theorem kc_X8_282 : Cond.constant RX8 282 (65536) ∈ lw_ok := lw_i5 83 rfl rfl
theorem mv_L_69 : MV RL 69 yX8_undo := ⟨lw_i5 84 rfl rfl, mx_X8_undo.1, mx_X8_undo.2⟩
theorem mv_L_73 : MV RL 73 yX8_follows := ⟨lw_i5 88 rfl rfl, mx_X8_follows.1, mx_X8_follows.2⟩
theorem mv_L_77 : MV RL 77 yX8_owed := ⟨lw_i5 92 rfl rfl, mx_X8_owed.1, mx_X8_owed.2⟩
theorem mv_L_81 : MV RL 81 yX8_parts := ⟨lw_i5 96 rfl rfl, mx_X8_parts.1, mx_X8_parts.2⟩
theorem mv_L_85 : MV RL 85 yX8_talkDown := ⟨lw_i5 100 rfl rfl, mx_X8_talkDown.1, mx_X8_talkDown.2⟩
theorem mv_X8_291 : MV RX8 291 yX8_findMinutes := ⟨lw_i5 104 rfl rfl, mx_X8_findMinutes.1, mx_X8_findMinutes.2⟩
theorem mv_L_89 : MV RL 89 yX8_soonest := ⟨lw_i5 108 rfl rfl, mx_X8_soonest.1, mx_X8_soonest.2⟩
theorem mv_X8_295 : MV RX8 295 yX8_minutesOf := ⟨lw_i5 112 rfl rfl, mx_X8_minutesOf.1, mx_X8_minutesOf.2⟩
theorem mv_L_93 : MV RL 93 yX8_smallest := ⟨lw_i5 116 rfl rfl, mx_X8_smallest.1, mx_X8_smallest.2⟩
theorem mv_X8_301 : MV RX8 301 yX8_smallestSet := ⟨lw_i5 120 rfl rfl, mx_X8_smallestSet.1, mx_X8_smallestSet.2⟩
theorem ms_X8_298 : MS RX8 298 yX8_bits := ⟨lw_i5 124 rfl rfl, mx_X8_bits⟩
theorem mv_X8_304 : MV RX8 304 yX8_needless := ⟨lw_i5 127 rfl rfl, mx_X8_needless.1, mx_X8_needless.2⟩
theorem mv_L_97 : MV RL 97 yX8_better := ⟨lw_i5 131 rfl rfl, mx_X8_better.1, mx_X8_better.2⟩
theorem kc_X8_307 : Cond.constantLong RX8 307 (9999) ∈ lw_ok := lw_i5 135 rfl rfl
theorem mv_L_101 : MV RL 101 yX8_gains := ⟨lw_i5 136 rfl rfl, mx_X8_gains.1, mx_X8_gains.2⟩
theorem mv_L_105 : MV RL 105 yX8_free := ⟨lw_i5 140 rfl rfl, mx_X8_free.1, mx_X8_free.2⟩
theorem mv_L_109 : MV RL 109 yX8_share := ⟨lw_i5 144 rfl rfl, mx_X8_share.1, mx_X8_share.2⟩
theorem mv_L_113 : MV RL 113 yX8_glacier := ⟨lw_i5 148 rfl rfl, mx_X8_glacier.1, mx_X8_glacier.2⟩
theorem kc_X8_309 : Cond.constantLong RX8 309 (1000000000) ∈ lw_ok := lw_i5 152 rfl rfl
theorem kc_X8_311 : Cond.constantLong RX8 311 (100) ∈ lw_ok := lw_i5 153 rfl rfl
theorem mv_L_118 : MV RL 118 yX8_ask := ⟨lw_i5 154 rfl rfl, mx_X8_ask.1, mx_X8_ask.2⟩
theorem kc_X8_313 : Cond.constantLong RX8 313 (10) ∈ lw_ok := lw_i5 158 rfl rfl
theorem mv_L_122 : MV RL 122 yX8_minds := ⟨lw_i5 159 rfl rfl, mx_X8_minds.1, mx_X8_minds.2⟩
theorem kc_X8_319 : Cond.constantLong RX8 319 (2) ∈ lw_ok := lw_i5 163 rfl rfl
theorem mv_X8_321 : MV RX8 321 yX8_couldBe := ⟨lw_i5 164 rfl rfl, mx_X8_couldBe.1, mx_X8_couldBe.2⟩
theorem ms_X8_315 : MS RX8 315 yX8_answers := ⟨lw_i5 168 rfl rfl, mx_X8_answers⟩
theorem mv_L_126 : MV RL 126 yX8_askNext := ⟨lw_i5 171 rfl rfl, mx_X8_askNext.1, mx_X8_askNext.2⟩
theorem mv_L_130 : MV RL 130 yX8_write := ⟨lw_i5 175 rfl rfl, mx_X8_write.1, mx_X8_write.2⟩
theorem mv_L_134 : MV RL 134 yX8_tear := ⟨lw_i5 179 rfl rfl, mx_X8_tear.1, mx_X8_tear.2⟩
theorem mv_L_138 : MV RL 138 yX8_judge := ⟨lw_i5 183 rfl rfl, mx_X8_judge.1, mx_X8_judge.2⟩
theorem mv_L_142 : MV RL 142 yX8_seed := ⟨lw_i5 187 rfl rfl, mx_X8_seed.1, mx_X8_seed.2⟩
theorem mv_L_146 : MV RL 146 yX8_keep := ⟨lw_i5 191 rfl rfl, mx_X8_keep.1, mx_X8_keep.2⟩
theorem mv_L_150 : MV RL 150 yX8_goBack := ⟨lw_i5 195 rfl rfl, mx_X8_goBack.1, mx_X8_goBack.2⟩
theorem mm_min : Cond.static Lib.Math.min.name ∈ lw_ok ∧ Cond.initialized "java/lang/Math" ∈ lw_ok ∧ Cond.code Lib.Math.min.name Lib.Math.min.code 2 (some .int) ∈ lw_ok := ⟨lw_i2 103 rfl rfl, lw_i1 10 rfl rfl, lw_i2 104 rfl rfl⟩
theorem ml_X6_140 : Cond.methodLink RX6 140 Lib.Math.min.name ∈ lw_ok := lw_i2 102 rfl rfl
theorem ml_X3_29 : Cond.methodLink RX3 29 Lib.Math.min.name ∈ lw_ok := lw_i2 234 rfl rfl
theorem ml_X7_189 : Cond.methodLink RX7 189 Lib.Math.min.name ∈ lw_ok := lw_i3 0 rfl rfl
theorem mm_max : Cond.static Lib.Math.max.name ∈ lw_ok ∧ Cond.initialized "java/lang/Math" ∈ lw_ok ∧ Cond.code Lib.Math.max.name Lib.Math.max.code 2 (some .int) ∈ lw_ok := ⟨lw_i3 175 rfl rfl, lw_i1 10 rfl rfl, lw_i3 176 rfl rfl⟩
theorem ml_X5_56 : Cond.methodLink RX5 56 Lib.Math.max.name ∈ lw_ok := lw_i3 174 rfl rfl
end
